/-! The net: what its gates settle at, by rounds. -/
abbrev aN : Type := Nat × (Nat → Nat) × (Nat → Nat) × Nat × (Nat → Nat) × (Nat → Nat) × (Nat → Bool) × Nat
abbrev a_g (a : aN) : Nat := a.1
abbrev a_so (a : aN) : Nat → Nat := a.2.1
abbrev a_nu (a : aN) : Nat → Nat := a.2.2.1
abbrev a_f (a : aN) : Nat := a.2.2.2.1
abbrev a_to (a : aN) : Nat → Nat := a.2.2.2.2.1
abbrev a_fr (a : aN) : Nat → Nat := a.2.2.2.2.2.1
abbrev a_ne (a : aN) : Nat → Bool := a.2.2.2.2.2.2.1
abbrev a_i (a : aN) : Nat := a.2.2.2.2.2.2.2
abbrev vl : Type := Option Bool
def and3 (x y : vl) : vl := match x, y with
  | some false, _ => some false
  | _, some false => some false
  | some true, y => y
  | none, _ => none
def xr (b : Bool) (x : vl) : vl := x.map (fun z => z ^^ b)
def tr (a : aN) (g : Nat) : Bool := a_so a g == 3
def tk (a : aN) (g : Nat) (v : Nat → vl) (k : Nat) : vl := xr (a_ne a k ^^ tr a g) (v (a_fr a k))
def mad (a : aN) (g : Nat) (v : Nat → vl) : Nat → vl
  | 0 => some true
  | k + 1 => if a_to a k = g then and3 (mad a g v k) (tk a g v k) else mad a g v k
def made (a : aN) (g : Nat) (v : Nat → vl) : vl := xr (tr a g) (mad a g v (a_f a))
def le3 (x y : vl) : Prop := x = none ∨ x = y
theorem le3_rfl (x : vl) : le3 x x := Or.inr rfl
theorem le3_some {x y : vl} (h : le3 x y) (hx : x ≠ none) : y = x := (h.elim (fun e => absurd e hx) id).symm
theorem le3_trans {x y z : vl} (h1 : le3 x y) (h2 : le3 y z) : le3 x z := by
  rcases h1 with h | h
  · exact Or.inl h
  · subst h; exact h2
theorem and3_mono {x x' y y' : vl} (hx : le3 x x') (hy : le3 y y') : le3 (and3 x y) (and3 x' y') := by
  rcases hx with rfl | rfl <;> rcases hy with rfl | rfl
  · exact Or.inl rfl
  · rcases y with _ | _ | _ <;> rcases x' with _ | _ | _ <;> simp [and3, le3]
  · rcases x with _ | _ | _ <;> rcases y' with _ | _ | _ <;> simp [and3, le3]
  · exact Or.inr rfl
theorem and3_comm (x y : vl) : and3 x y = and3 y x := by
  rcases x with _ | _ | _ <;> rcases y with _ | _ | _ <;> rfl
theorem and3_assoc (x y z : vl) : and3 (and3 x y) z = and3 x (and3 y z) := by
  rcases x with _ | _ | _ <;> rcases y with _ | _ | _ <;> rcases z with _ | _ | _ <;> rfl
theorem xr_mono {b : Bool} {x y : vl} (h : le3 x y) : le3 (xr b x) (xr b y) := by
  rcases h with rfl | rfl
  · exact Or.inl rfl
  · exact Or.inr rfl
def leV (v w : Nat → vl) : Prop := ∀ g, le3 (v g) (w g)
theorem leV_rfl (v : Nat → vl) : leV v v := fun g => le3_rfl _
theorem leV_trans {u v w : Nat → vl} (h1 : leV u v) (h2 : leV v w) : leV u w := fun g => le3_trans (h1 g) (h2 g)
theorem mad_mono {a : aN} {g : Nat} {v w : Nat → vl} (h : leV v w) : ∀ k, le3 (mad a g v k) (mad a g w k)
  | 0 => le3_rfl _
  | k + 1 => by
    unfold mad
    split
    · exact and3_mono (mad_mono h k) (xr_mono (h _))
    · exact mad_mono h k
theorem made_mono {a : aN} {g : Nat} {v w : Nat → vl} (h : leV v w) : le3 (made a g v) (made a g w) := xr_mono (mad_mono h _)
/-- one gate is worked out anew -/
def pst (a : aN) (v : Nat → vl) (g : Nat) : Nat → vl := if a_so a g = 0 then v else fun q => if q = g then made a g v else v q
def pas (a : aN) (v : Nat → vl) : Nat → Nat → vl
  | 0 => v
  | g + 1 => pst a (pas a v g) g
def rnd (a : aN) (v : Nat → vl) : Nat → vl := pas a v (a_g a)
def ini (a : aN) (c : Nat) : Nat → vl := fun g => if a_so a g = 0 then some (cb (a_nu a g) c) else none
def itr (a : aN) (c : Nat) : Nat → Nat → vl
  | 0 => ini a c
  | r + 1 => rnd a (itr a c r)
/-- the value of a gate on a choice -/
def val (a : aN) (c : Nat) : Nat → vl := itr a c (a_g a + 1)
def con (a : aN) (v : Nat → vl) : Prop := ∀ g, g < a_g a → a_so a g ≠ 0 → v g ≠ none → made a g v = v g
theorem pst_le {a : aN} {v : Nat → vl} {g : Nat} (hg : g < a_g a) (h : con a v) : leV v (pst a v g) := by
  intro q
  unfold pst
  split
  · exact le3_rfl _
  · rename_i hs
    by_cases e : q = g
    · subst e
      simp only [if_true]
      by_cases hn : v q = none
      · exact Or.inl hn
      · exact Or.inr (h q hg hs hn).symm
    · simp only [e, if_false]
      exact le3_rfl _
theorem pst_con {a : aN} {v : Nat → vl} {g : Nat} (hg : g < a_g a) (h : con a v) : con a (pst a v g) := by
  have hle := pst_le hg h
  intro q hq hs hn
  by_cases e : q = g
  · subst e
    have e2 : pst a v q q = made a q v := by simp [pst, hs]
    rw [e2] at hn ⊢
    exact le3_some (made_mono hle) hn
  · have e2 : pst a v g q = v q := by
      unfold pst
      split
      · rfl
      · simp [e]
    rw [e2] at hn ⊢
    have := h q hq hs hn
    rw [← this] at hn
    rw [← this]
    exact le3_some (made_mono hle) hn
theorem pas_both {a : aN} {v : Nat → vl} (h : con a v) : ∀ g, g ≤ a_g a → con a (pas a v g) ∧ leV v (pas a v g)
  | 0, _ => ⟨h, leV_rfl v⟩
  | g + 1, hg => by
    obtain ⟨h1, h2⟩ := pas_both h g (by omega)
    exact ⟨pst_con (by omega) h1, leV_trans h2 (pst_le (by omega) h1)⟩
theorem ini_con (a : aN) (c : Nat) : con a (ini a c) := by
  intro g hg hs hn
  simp [ini, hs] at hn
theorem itr_con (a : aN) (c : Nat) : ∀ r, con a (itr a c r)
  | 0 => ini_con a c
  | r + 1 => (pas_both (itr_con a c r) _ (Nat.le_refl _)).1
theorem rnd_le (a : aN) (c r : Nat) : leV (itr a c r) (itr a c (r + 1)) := (pas_both (itr_con a c r) _ (Nat.le_refl _)).2
def kc (v : Nat → vl) : Nat → Nat
  | 0 => 0
  | n + 1 => kc v n + (if v n = none then 0 else 1)
theorem kc_le (v : Nat → vl) : ∀ n, kc v n ≤ n
  | 0 => Nat.le_refl _
  | n + 1 => by
    have := kc_le v n
    unfold kc
    split <;> omega
theorem kc_mono {v w : Nat → vl} (h : leV v w) : ∀ n, kc v n ≤ kc w n
  | 0 => Nat.le_refl _
  | n + 1 => by
    have h1 := kc_mono h n
    unfold kc
    by_cases e : v n = none
    · simp only [e, if_true]
      omega
    · have e2 : w n ≠ none := by
        rw [le3_some (h n) e]
        exact e
      simp only [e, e2, if_false]
      omega
theorem kc_lt {v w : Nat → vl} (h : leV v w) : ∀ n, (∃ g, g < n ∧ v g ≠ w g) → kc v n < kc w n
  | 0, ⟨g, hg, _⟩ => absurd hg (Nat.not_lt_zero _)
  | n + 1, ⟨g, hg, hne⟩ => by
    have h1 := kc_mono h n
    by_cases e : v n = none
    · by_cases e2 : w n = none
      · have hgn : g < n := by
          rcases Nat.lt_or_ge g n with q | q
          · exact q
          · have : g = n := by omega
            subst this
            exact absurd (e.trans e2.symm) hne
        have h2 := kc_lt h n ⟨g, hgn, hne⟩
        simp only [kc, e, e2, if_true]
        omega
      · simp only [kc, e, e2, if_true, if_false]
        omega
    · have e2 : w n = v n := le3_some (h n) e
      have hgn : g < n := by
        rcases Nat.lt_or_ge g n with q | q
        · exact q
        · have : g = n := by omega
          subst this
          exact absurd e2.symm hne
      have h2 := kc_lt h n ⟨g, hgn, hne⟩
      simp only [kc, e2, e, if_false]
      omega
theorem pas_out {a : aN} {v : Nat → vl} : ∀ n q, n ≤ q → pas a v n q = v q
  | 0, _, _ => rfl
  | n + 1, q, h => by
    show pst a (pas a v n) n q = v q
    unfold pst
    split
    · exact pas_out n q (by omega)
    · simp only [show q ≠ n by omega, if_false]
      exact pas_out n q (by omega)
theorem itr_fix (a : aN) (c : Nat) : ∃ r, r ≤ a_g a ∧ itr a c (r + 1) = itr a c r := by
  apply Classical.byContradiction
  intro hno
  have key : ∀ r, r ≤ a_g a + 1 → r ≤ kc (itr a c r) (a_g a) := by
    intro r
    induction r with
    | zero => intro _; exact Nat.zero_le _
    | succ r ih =>
      intro hr
      have h1 := ih (by omega)
      have hne : itr a c (r + 1) ≠ itr a c r := fun e => hno ⟨r, by omega, e⟩
      have : ∃ g, g < a_g a ∧ itr a c r g ≠ itr a c (r + 1) g := by
        apply Classical.byContradiction
        intro hn
        apply hne
        funext g
        rcases Nat.lt_or_ge g (a_g a) with q | q
        · apply Classical.byContradiction
          intro h2
          exact hn ⟨g, q, fun e => h2 e.symm⟩
        · exact pas_out (a := a) (v := itr a c r) (a_g a) g q
      have h2 := kc_lt (rnd_le a c r) _ this
      omega
  have h1 := key (a_g a + 1) (Nat.le_refl _)
  have h2 := kc_le (itr a c (a_g a + 1)) (a_g a)
  omega
theorem itr_stay {a : aN} {c r : Nat} (h : itr a c (r + 1) = itr a c r) : ∀ s, itr a c (r + s) = itr a c r
  | 0 => rfl
  | s + 1 => by
    show rnd a (itr a c (r + s)) = _
    rw [itr_stay h s]
    exact h
theorem val_stay (a : aN) (c : Nat) : ∃ r, r ≤ a_g a ∧ val a c = itr a c r ∧ itr a c (r + 1) = itr a c r := by
  obtain ⟨r, h1, h2⟩ := itr_fix a c
  refine ⟨r, h1, ?_, h2⟩
  have := itr_stay h2 (a_g a + 1 - r)
  rw [show r + (a_g a + 1 - r) = a_g a + 1 by omega] at this
  exact this
theorem val_fix (a : aN) (c : Nat) : rnd a (val a c) = val a c := by
  obtain ⟨r, -, h1, h2⟩ := val_stay a c
  rw [h1]
  exact h2
/-- where a round changes nothing the values are reached -/
theorem val_of_fix {a : aN} {c r : Nat} (h : itr a c (r + 1) = itr a c r) : itr a c r = val a c := by
  obtain ⟨r0, -, h1, h2⟩ := val_stay a c
  rw [h1]
  rcases Nat.le_total r r0 with q | q
  · have := itr_stay h (r0 - r)
    rw [show r + (r0 - r) = r0 by omega] at this
    exact this.symm
  · have := itr_stay h2 (r - r0)
    rw [show r0 + (r - r0) = r by omega] at this
    exact this
/-- a known gate may be passed over -/
def mps (a : aN) (v : Nat → vl) (g : Nat) : Nat → vl := if a_so a g = 0 ∨ v g ≠ none then v else fun q => if q = g then made a g v else v q
theorem mps_eq {a : aN} {v : Nat → vl} {g : Nat} (hg : g < a_g a) (h : con a v) : mps a v g = pst a v g := by
  unfold mps pst
  by_cases hs : a_so a g = 0
  · simp [hs]
  · by_cases hn : v g = none
    · simp [hs, hn]
    · simp only [hs, hn, ne_eq, not_false_iff, or_true, if_true, if_false]
      funext q
      by_cases e : q = g
      · subst e; simp [h q hg hs hn]
      · simp [e]
