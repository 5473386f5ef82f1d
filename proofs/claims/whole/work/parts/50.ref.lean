/-! The reference's cells. -/
abbrev wR : Type := (Int32 × Int32 × Int32 × Int32 × Int32) × ((Nat → Int32) × (Nat → Int32) × (Nat → Int32) × (Nat → Int32) × (Nat → Int32) × (Nat → Int32)) × ((Nat → Int32) × Int32 × Int32 × (Nat → Int64) × (Nat → Int32)) × ((Nat → Int32) × (Nat → Int32) × (Nat → Int32) × (Nat → Int32) × (Nat → Int32))
abbrev rt_th (t : wR) : Int32 := t.1.1
abbrev rt_g (t : wR) : Int32 := t.1.2.1
abbrev rt_f (t : wR) : Int32 := t.1.2.2.1
abbrev rt_i (t : wR) : Int32 := t.1.2.2.2.1
abbrev rt_on (t : wR) : Int32 := t.1.2.2.2.2
abbrev rt_so (t : wR) : (Nat → Int32) := t.2.1.1
abbrev rt_nu (t : wR) : (Nat → Int32) := t.2.1.2.1
abbrev rt_to (t : wR) : (Nat → Int32) := t.2.1.2.2.1
abbrev rt_fr (t : wR) : (Nat → Int32) := t.2.1.2.2.2.1
abbrev rt_nm (t : wR) : (Nat → Int32) := t.2.1.2.2.2.2.1
abbrev rt_ne (t : wR) : (Nat → Int32) := t.2.1.2.2.2.2.2
abbrev rt_va (t : wR) : (Nat → Int32) := t.2.2.1.1
abbrev rt_la (t : wR) : Int32 := t.2.2.1.2.1
abbrev rt_tb (t : wR) : Int32 := t.2.2.1.2.2.1
abbrev rt_w (t : wR) : (Nat → Int64) := t.2.2.1.2.2.2.1
abbrev rt_in (t : wR) : (Nat → Int32) := t.2.2.1.2.2.2.2
abbrev rt_lo (t : wR) : (Nat → Int32) := t.2.2.2.1
abbrev rt_hi (t : wR) : (Nat → Int32) := t.2.2.2.2.1
abbrev rt_far (t : wR) : (Nat → Int32) := t.2.2.2.2.2.1
abbrev rt_ro (t : wR) : (Nat → Int32) := t.2.2.2.2.2.2.1
abbrev rt_mk (t : wR) : (Nat → Int32) := t.2.2.2.2.2.2.2
def wq (t : wR) (r : List cx_C) : List cx_C :=
  .inl (4, [.inl t.1.1, .inl t.1.2.1, .inl t.1.2.2.1, .inl t.1.2.2.2.1, .inl t.1.2.2.2.2, .inr (.inr (.inl 26)), .inr (.inr (.inl 27)), .inr (.inr (.inl 28)), .inr (.inr (.inl 29)), .inr (.inr (.inl 30)), .inr (.inr (.inl 31)), .inr (.inr (.inl 32)), .inl t.2.2.1.2.1, .inl t.2.2.1.2.2.1, .inr (.inr (.inl 33)), .inr (.inr (.inl 34)), .inr (.inr (.inl 35)), .inr (.inr (.inl 36)), .inr (.inr (.inl 37)), .inr (.inr (.inl 38)), .inr (.inr (.inl 39))]) ::
  .inr (.inl (120, t.2.1.1)) :: .inr (.inl (120, t.2.1.2.1)) :: .inr (.inl (500, t.2.1.2.2.1)) :: .inr (.inl (500, t.2.1.2.2.2.1)) :: .inr (.inl (10, t.2.1.2.2.2.2.1)) :: .inr (.inr (.inl (500, t.2.1.2.2.2.2.2))) :: .inr (.inl (120, t.2.2.1.1)) :: .inr (.inr (.inr (.inl (8088, t.2.2.1.2.2.2.1)))) :: .inr (.inl (2000, t.2.2.1.2.2.2.2)) :: .inr (.inl (2000, t.2.2.2.1)) :: .inr (.inl (2000, t.2.2.2.2.1)) :: .inr (.inl (2000, t.2.2.2.2.2.1)) :: .inr (.inl (20, t.2.2.2.2.2.2.1)) :: .inr (.inr (.inl (2000, t.2.2.2.2.2.2.2))) :: r
def ru_th (t : wR) (v : Int32) : wR := ((v, t.1.2.1, t.1.2.2.1, t.1.2.2.2.1, t.1.2.2.2.2), t.2.1, t.2.2.1, t.2.2.2)
def ru_g (t : wR) (v : Int32) : wR := ((t.1.1, v, t.1.2.2.1, t.1.2.2.2.1, t.1.2.2.2.2), t.2.1, t.2.2.1, t.2.2.2)
def ru_f (t : wR) (v : Int32) : wR := ((t.1.1, t.1.2.1, v, t.1.2.2.2.1, t.1.2.2.2.2), t.2.1, t.2.2.1, t.2.2.2)
def ru_i (t : wR) (v : Int32) : wR := ((t.1.1, t.1.2.1, t.1.2.2.1, v, t.1.2.2.2.2), t.2.1, t.2.2.1, t.2.2.2)
def ru_on (t : wR) (v : Int32) : wR := ((t.1.1, t.1.2.1, t.1.2.2.1, t.1.2.2.2.1, v), t.2.1, t.2.2.1, t.2.2.2)
def ru_so (t : wR) (v : (Nat → Int32)) : wR := (t.1, (v, t.2.1.2.1, t.2.1.2.2.1, t.2.1.2.2.2.1, t.2.1.2.2.2.2.1, t.2.1.2.2.2.2.2), t.2.2.1, t.2.2.2)
def ru_nu (t : wR) (v : (Nat → Int32)) : wR := (t.1, (t.2.1.1, v, t.2.1.2.2.1, t.2.1.2.2.2.1, t.2.1.2.2.2.2.1, t.2.1.2.2.2.2.2), t.2.2.1, t.2.2.2)
def ru_to (t : wR) (v : (Nat → Int32)) : wR := (t.1, (t.2.1.1, t.2.1.2.1, v, t.2.1.2.2.2.1, t.2.1.2.2.2.2.1, t.2.1.2.2.2.2.2), t.2.2.1, t.2.2.2)
def ru_fr (t : wR) (v : (Nat → Int32)) : wR := (t.1, (t.2.1.1, t.2.1.2.1, t.2.1.2.2.1, v, t.2.1.2.2.2.2.1, t.2.1.2.2.2.2.2), t.2.2.1, t.2.2.2)
def ru_nm (t : wR) (v : (Nat → Int32)) : wR := (t.1, (t.2.1.1, t.2.1.2.1, t.2.1.2.2.1, t.2.1.2.2.2.1, v, t.2.1.2.2.2.2.2), t.2.2.1, t.2.2.2)
def ru_ne (t : wR) (v : (Nat → Int32)) : wR := (t.1, (t.2.1.1, t.2.1.2.1, t.2.1.2.2.1, t.2.1.2.2.2.1, t.2.1.2.2.2.2.1, v), t.2.2.1, t.2.2.2)
def ru_va (t : wR) (v : (Nat → Int32)) : wR := (t.1, t.2.1, (v, t.2.2.1.2.1, t.2.2.1.2.2.1, t.2.2.1.2.2.2.1, t.2.2.1.2.2.2.2), t.2.2.2)
def ru_la (t : wR) (v : Int32) : wR := (t.1, t.2.1, (t.2.2.1.1, v, t.2.2.1.2.2.1, t.2.2.1.2.2.2.1, t.2.2.1.2.2.2.2), t.2.2.2)
def ru_tb (t : wR) (v : Int32) : wR := (t.1, t.2.1, (t.2.2.1.1, t.2.2.1.2.1, v, t.2.2.1.2.2.2.1, t.2.2.1.2.2.2.2), t.2.2.2)
def ru_w (t : wR) (v : (Nat → Int64)) : wR := (t.1, t.2.1, (t.2.2.1.1, t.2.2.1.2.1, t.2.2.1.2.2.1, v, t.2.2.1.2.2.2.2), t.2.2.2)
def ru_in (t : wR) (v : (Nat → Int32)) : wR := (t.1, t.2.1, (t.2.2.1.1, t.2.2.1.2.1, t.2.2.1.2.2.1, t.2.2.1.2.2.2.1, v), t.2.2.2)
def ru_lo (t : wR) (v : (Nat → Int32)) : wR := (t.1, t.2.1, t.2.2.1, (v, t.2.2.2.2.1, t.2.2.2.2.2.1, t.2.2.2.2.2.2.1, t.2.2.2.2.2.2.2))
def ru_hi (t : wR) (v : (Nat → Int32)) : wR := (t.1, t.2.1, t.2.2.1, (t.2.2.2.1, v, t.2.2.2.2.2.1, t.2.2.2.2.2.2.1, t.2.2.2.2.2.2.2))
def ru_far (t : wR) (v : (Nat → Int32)) : wR := (t.1, t.2.1, t.2.2.1, (t.2.2.2.1, t.2.2.2.2.1, v, t.2.2.2.2.2.2.1, t.2.2.2.2.2.2.2))
def ru_ro (t : wR) (v : (Nat → Int32)) : wR := (t.1, t.2.1, t.2.2.1, (t.2.2.2.1, t.2.2.2.2.1, t.2.2.2.2.2.1, v, t.2.2.2.2.2.2.2))
def ru_mk (t : wR) (v : (Nat → Int32)) : wR := (t.1, t.2.1, t.2.2.1, (t.2.2.2.1, t.2.2.2.2.1, t.2.2.2.2.2.1, t.2.2.2.2.2.2.1, v))
/-- the reference's net -/
def rRn (a : aN) (t : wR) : Prop := wfN a ∧ rt_g t = nI (a_g a) ∧ rt_f t = nI (a_f a) ∧ rt_i t = nI (a_i a) ∧ (∀ g, g < a_g a → rt_so t g = nI (a_so a g) ∧ rt_nu t g = nI (a_nu a g) ∧ a_nu a g ≤ 8) ∧ ∀ k, k < a_f a → rt_to t k = nI (a_to a k) ∧ rt_fr t k = nI (a_fr a k) ∧ rt_ne t k = b2 (a_ne a k)
/-- a function's place among the tables, -1 for a constant -/
def ixT (T : Nat) (ks : Nat → Ky) (g : Ky) (v : Int32) : Prop := (fd g = 8 ∧ v = -1) ∨ ∃ i, i < T ∧ ks i = g ∧ v = nI i
def tabR (J : Nat) (fs : Nat → Ky) (T : Nat) (ks : Nat → Ky) (t : wR) : Prop := T ≤ 874 ∧ rt_tb t = nI T ∧ (∀ i, i < T → ∀ j, j < T → ks i = ks j → i = j) ∧ ∀ i, i < T → fd (ks i) < 8 ∧ memK J fs (ks i) ∧ rt_in t i = nI (fd (ks i))
def rRl (lo : Nat) (fs : Nat → Ky) (t : wR) : Prop := lo ≤ 10 ∧ rt_la t = nI lo ∧ (∀ j, j < 2 * lo → nf (fs j) ∧ ∀ c, c < 256 → lb (rt_w t (4 * j + c / 64)) (c % 64) = fs j c) ∧
  ∃ T ks, tabR (2 * lo) fs T ks t ∧ (∀ i, i < T → ixT T ks (sub (ks i) (fd (ks i) + 1) 0) (rt_lo t i) ∧ ixT T ks (sub (ks i) (fd (ks i) + 1) 1) (rt_hi t i) ∧ rt_far t i = nI (dp 8 (ks i))) ∧ ∀ j, j < 2 * lo → ixT T ks (fs j) (rt_ro t j)
def rR (A : aS) (t : wR) : Prop := rRn (s_a A) t ∧ s_on A ≤ 10 ∧ rt_on t = nI (s_on A) ∧ (∀ i, i < s_on A → s_nm A i < a_g (s_a A) ∧ rt_nm t i = nI (s_nm A i)) ∧ rRl (s_lo A) (s_fs A) t
/-- the reference answers so -/
def ansR (o : rs) (x : wX) (n : wN) (l : wL) (m : wM) (r : List cx_C) (R : cx_R) : Prop := ∀ t, rR o.2.2 t → rt_th t = nI o.1 → R (.inl (some (.inl (if o.1 = 0 then o.2.1 else 0)))) (wd x n l m (wq t r))
theorem ansR_ret {o : rs} {x : wX} {n : wN} {l : wL} {m : wM} {r : List cx_C} {R : cx_R} {v : Int32} {A : aS} (h : ansR o x n l m r R) (e : o = (0, v, A)) {t : wR} (hC : rR A t) (ht : rt_th t = 0) : R (.inl (some (.inl v))) (wd x n l m (wq t r)) := by
  subst e
  exact h t hC (by rw [ht]; rfl)
theorem ansR_thr {o : rs} {x : wX} {n : wN} {l : wL} {m : wM} {r : List cx_C} {R : cx_R} {v : Int32} {A : aS} {k : Nat} (h : ansR o x n l m r R) (e : o = (k + 1, v, A)) {t : wR} (hC : rR A t) (ht : rt_th t = nI (k + 1)) : R (.inl (some (.inl 0))) (wd x n l m (wq t r)) := by
  subst e
  have := h t hC ht
  rw [if_neg (Nat.succ_ne_zero _)] at this
  exact this
