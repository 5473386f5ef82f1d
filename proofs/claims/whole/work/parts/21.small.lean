/-! Small methods: what they answer. -/
/-- is x a number below y -/
def hg (x y : Int32) : Bool := decide (¬ x < 0) && decide (¬ y ≤ x)
def sp_N_hasGate : cx_S := cx_self 2 (fun j r ws R => ∃ x n l m q g, ws = wd x n l m q ∧ j = 1 ∧ r = [.inl g] ∧ R (.inl (some (.inl (b2 (hg g n.2.2.2.2.2.2.2.2.1))))) ws)
theorem pu_N_hasGate : ∀ as ws Rq, sp_N_hasGate as ws Rq → cx_cats as ≤ 2 ∧ ∀ V, cx_cl1 t_N_hasGate [] [] [] 0 0 Rq V → V 0 (cx_lv0 as 2) [] ws 0 0 := by
  intro as ws Rq h0
  obtain ⟨j, r, fs, rfl, hj, x, n, l, m, q, g, rfl, rfl, rfl, h⟩ := cx_self_spec h0
  refine ⟨Nat.le_of_ble_eq_true rfl, fun V hV => hV [] 20 _ _ _ _ _ _ ?_⟩
  conv => whnf
  refine ⟨fun q1 => ?_, fun q1 => ?_⟩
  · conv => whnf
    rw [show hg g n.2.2.2.2.2.2.2.2.1 = false by simp [hg, q1]] at h
    exact ⟨fun _ => Or.inl rfl, h⟩
  · conv => whnf
    refine ⟨fun q2 => ?_, fun q2 => ?_⟩
    · conv => whnf
      rw [show hg g n.2.2.2.2.2.2.2.2.1 = false by simp [hg, q2]] at h
      exact ⟨fun _ => Or.inl rfl, h⟩
    · conv => whnf
      rw [show hg g n.2.2.2.2.2.2.2.2.1 = true by simp [hg, q1, q2]] at h
      exact ⟨fun _ => Or.inr rfl, h⟩
/-- isInputSet -/
def sp_C_isInputSet : cx_S := fun as ws R => ∃ k c, as = [.inl (nI k), .inl (nI c)] ∧ k < 8 ∧ c < 256 ∧ R (.inl (some (.inl (b2 (cb k c))))) ws
theorem pu_C_isInputSet : ∀ as ws Rq, sp_C_isInputSet as ws Rq → cx_cats as ≤ 2 ∧ ∀ V, cx_cl1 t_C_isInputSet [] [] [] 0 0 Rq V → V 0 (cx_lv0 as 2) [] ws 0 0 := by
  rintro as ws Rq ⟨k, c, rfl, hk, hc, h⟩
  refine ⟨Nat.le_of_ble_eq_true rfl, fun V hV => hV [] 20 _ _ _ _ _ _ ?_⟩
  conv => whnf
  refine ⟨fun q1 => ?_, fun q1 => ?_⟩
  · conv => whnf
    rw [show cb k c = false by
      cases e : cb k c with
      | false => rfl
      | true => exact absurd ((cb_iff hk (by omega)).mpr e) q1] at h
    exact ⟨fun _ => Or.inl rfl, h⟩
  · conv => whnf
    rw [(cb_iff hk (by omega)).mp q1] at h
    exact ⟨fun _ => Or.inr rfl, h⟩
/-- isMember -/
def sp_C_isMember : cx_S := fun as ws R => ∃ j g c n k f, as = [.inr (.inr (.inr (.inl (j, g)))), .inl (nI c)] ∧ c < 256 ∧ ws[j]? = some (.inr (.inr (.inr (.inr (n, k, f))))) ∧ g < n ∧ k = 4 ∧ R (.inl (some (.inl (b2 (lb (f g (c / 64)) (c % 64)))))) ws
theorem pu_C_isMember : ∀ as ws Rq, sp_C_isMember as ws Rq → cx_cats as ≤ 2 ∧ ∀ V, cx_cl1 t_C_isMember [] [] [] 0 0 Rq V → V 0 (cx_lv0 as 2) [] ws 0 0 := by
  rintro as ws Rq ⟨j, g, c, n, k, f, rfl, hc, hj, hg, rfl, h⟩
  refine ⟨Nat.le_of_ble_eq_true rfl, fun V hV => hV [] 40 _ _ _ _ _ _ ?_⟩
  have h64 : nI c / 64 = nI (c / 64) := pk_div (d := 64) (by omega) (by omega) (by omega)
  have hr64 : nI c - nI c / 64 * 64 = nI (c % 64) := pk_rem (d := 64) (by omega) (by omega) (by omega)
  conv => whnf
  refine ⟨by decide, ?_⟩
  conv => whnf
  rw [hj]
  conv => whnf
  refine ⟨⟨hg, by rw [h64]; exact vp_in_nI (N := 4) (by omega) (by omega)⟩, ?_⟩
  conv => whnf
  refine ⟨by decide, ?_⟩
  conv => whnf
  rw [hr64, lb_ushr1 (by omega), lc_bit, h64, nx_c (by omega)]
  cases hb : lb (f g (c / 64)) (c % 64) with
  | true =>
    rw [hb] at h
    refine ⟨fun q => absurd rfl q, fun _ => ?_⟩
    conv => whnf
    exact ⟨fun _ => Or.inr rfl, h⟩
  | false =>
    rw [hb] at h
    refine ⟨fun _ => ?_, fun q => absurd q (by decide)⟩
    conv => whnf
    exact ⟨fun _ => Or.inl rfl, h⟩
