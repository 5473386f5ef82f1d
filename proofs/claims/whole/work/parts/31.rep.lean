/-! How the class and the reference hold a net. -/
def prv (to : Nat → Nat) : Nat → Nat → Nat
  | 0, _ => 0
  | n + 1, g => if to n = g then n + 1 else prv to n g
/-- a place in a chain, one more than the number; 0 is none -/
def prI (p : Nat) : Int32 := nI p - 1
theorem prI_0 : prI 0 = -1 := by decide
theorem prI_s (p : Nat) : prI (p + 1) = nI p := nI_pred p
theorem prI_ne {p : Nat} (h : p < 2 ^ 31) : ¬ prI (p + 1) = -1 := by
  rw [prI_s]
  intro e
  have := nI_toInt h
  rw [e] at this
  have h1 : (-1 : Int32).toInt = -1 := by decide
  rw [h1] at this
  omega
theorem prv_le (to : Nat → Nat) (g : Nat) : ∀ n, prv to n g ≤ n
  | 0 => Nat.le_refl _
  | n + 1 => by
    unfold prv
    have := prv_le to g n
    split <;> omega
theorem prv_hit (to : Nat → Nat) (g : Nat) : ∀ n p, prv to n g = p + 1 → to p = g
  | 0, p, h => by simp [prv] at h
  | n + 1, p, h => by
    unfold prv at h
    split at h
    · rename_i e
      have : n = p := by omega
      subst this
      exact e
    · exact prv_hit to g n p h
theorem prv_idem (to : Nat → Nat) (g : Nat) : ∀ n, prv to (prv to n g) g = prv to n g
  | 0 => rfl
  | n + 1 => by
    by_cases e : to n = g
    · simp [prv, e]
    · simp only [prv, e, if_false]
      exact prv_idem to g n
def cnt (to : Nat → Nat) : Nat → Nat → Nat
  | 0, _ => 0
  | n + 1, g => cnt to n g + (if to n = g then 1 else 0)
theorem cnt_le (to : Nat → Nat) (g : Nat) : ∀ n, cnt to n g ≤ n
  | 0 => Nat.le_refl _
  | n + 1 => by
    unfold cnt
    have := cnt_le to g n
    split <;> omega
theorem mad_prv (a : aN) (g : Nat) (v : Nat → vl) : ∀ n, mad a g v n = mad a g v (prv (a_to a) n g)
  | 0 => rfl
  | n + 1 => by
    by_cases e : a_to a n = g
    · simp [prv, e]
    · simp only [prv, e, if_false]
      rw [← mad_prv a g v n]
      simp [mad, e]
theorem mad_hit {a : aN} {g : Nat} {v : Nat → vl} {p : Nat} (e : a_to a p = g) : mad a g v (p + 1) = and3 (mad a g v p) (tk a g v p) := by simp [mad, e]
def wfN (a : aN) : Prop := a_g a ≤ 120 ∧ a_f a ≤ 500 ∧ a_i a ≤ 8 ∧ (∀ g, g < a_g a → (a_so a g = 0 ∨ a_so a g = 2 ∨ a_so a g = 3) ∧ (a_so a g = 0 → a_nu a g < 8)) ∧ ∀ k, k < a_f a → a_to a k < a_g a ∧ a_fr a k < a_g a ∧ a_so a (a_to a k) ≠ 0
abbrev n_so (n : wN) := n.1
abbrev n_ff (n : wN) := n.2.1
abbrev n_fo (n : wN) := n.2.2.1
abbrev n_fr (n : wN) := n.2.2.2.1
abbrev n_ne (n : wN) := n.2.2.2.2.1
abbrev n_nx (n : wN) := n.2.2.2.2.2.1
abbrev n_hi (n : wN) := n.2.2.2.2.2.2.1
abbrev n_lo (n : wN) := n.2.2.2.2.2.2.2.1
abbrev n_g (n : wN) := n.2.2.2.2.2.2.2.2.1
abbrev n_f (n : wN) := n.2.2.2.2.2.2.2.2.2.1
abbrev n_i (n : wN) := n.2.2.2.2.2.2.2.2.2.2.1
abbrev n_st (n : wN) := n.2.2.2.2.2.2.2.2.2.2.2
/-- the class's net but for the rows -/
def rS (a : aN) (n : wN) : Prop := wfN a ∧ n_g n = nI (a_g a) ∧ n_f n = nI (a_f a) ∧ n_i n = nI (a_i a) ∧
  (∀ g, g < a_g a → n_so n g = nI (a_so a g) ∧ n_ff n g = prI (prv (a_to a) (a_f a) g) ∧ n_fo n g = nI (cnt (a_to a) (a_f a) g)) ∧
  (∀ k, k < a_f a → n_fr n k = nI (a_fr a k) ∧ n_ne n k = b2 (a_ne a k) ∧ n_nx n k = prI (prv (a_to a) k (a_to a k)))
def eH (x : vl) : Bool := x == some true
def eL (x : vl) : Bool := x == some false
theorem eH_and (x y : vl) : eH (and3 x y) = (eH x && eH y) := by
  rcases x with _ | _ | _ <;> rcases y with _ | _ | _ <;> rfl
theorem eL_and (x y : vl) : eL (and3 x y) = (eL x || eL y) := by
  rcases x with _ | _ | _ <;> rcases y with _ | _ | _ <;> rfl
theorem eH_xr (b : Bool) (x : vl) : eH (xr b x) = if b then eL x else eH x := by
  rcases x with _ | _ | _ <;> cases b <;> rfl
theorem eL_xr (b : Bool) (x : vl) : eL (xr b x) = if b then eH x else eL x := by
  rcases x with _ | _ | _ <;> cases b <;> rfl
theorem e_ext {x y : vl} (h1 : eH x = eH y) (h2 : eL x = eL y) : x = y := by
  rcases x with _ | _ | _ <;> rcases y with _ | _ | _ <;> first | rfl | (simp [eH, eL] at h1 h2)
theorem and3_t (x : vl) : and3 x (some true) = x := by rcases x with _ | _ | _ <;> rfl
theorem t_and3 (x : vl) : and3 (some true) x = x := by rcases x with _ | _ | _ <;> rfl
/-- word w of the rows holds the values v b on its choices -/
def encW (a : aN) (hi lo : Nat → Nat → Int64) (w : Nat) (v : Nat → Nat → vl) : Prop := ∀ b, b < 64 → ∀ q, q < a_g a → lb (hi q w) b = eH (v b q) ∧ lb (lo q w) b = eL (v b q)
