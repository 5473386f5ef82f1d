/-! First methods. -/
def sp_M_total : cx_S := cx_self 1 (fun j r ws R => ∃ x n l m q, ws = wd x n l m q ∧ j = 11 ∧ r = [] ∧ R (.inl (some (.inl (m.2.2.2.2.2.2.2.2.2.1 - 2)))) ws)
theorem pu_M_total : ∀ as ws Rq, sp_M_total as ws Rq → cx_cats as ≤ 1 ∧ ∀ V, cx_cl1 t_M_total [] [] [] 0 0 Rq V → V 0 (cx_lv0 as 1) [] ws 0 0 := by
  intro as ws Rq h0
  obtain ⟨j, r, fs, rfl, hj, x, n, l, m, q, rfl, rfl, rfl, h⟩ := cx_self_spec h0
  refine ⟨Nat.le_of_ble_eq_true rfl, fun V hV => hV [] 20 _ _ _ _ _ _ ?_⟩
  conv => whnf
  exact ⟨fun q => absurd q (by decide), h⟩
def sp_N_isInput : cx_S := cx_self 2 (fun j r ws R => ∃ x n l m q g, ws = wd x n l m q ∧ j = 1 ∧ r = [.inl g] ∧ vp_in g 120 ∧ (n.1 g.toNatClampNeg = 0 → R (.inl (some (.inl 1))) ws) ∧ (¬ n.1 g.toNatClampNeg = 0 → R (.inl (some (.inl 0))) ws))
theorem pu_N_isInput : ∀ as ws Rq, sp_N_isInput as ws Rq → cx_cats as ≤ 2 ∧ ∀ V, cx_cl1 t_N_isInput [] [] [] 0 0 Rq V → V 0 (cx_lv0 as 2) [] ws 0 0 := by
  intro as ws Rq h0
  obtain ⟨j, r, fs, rfl, hj, x, n, l, m, q, g, rfl, rfl, rfl, h1, h2, h3⟩ := cx_self_spec h0
  refine ⟨Nat.le_of_ble_eq_true rfl, fun V hV => hV [] 20 _ _ _ _ _ _ ?_⟩
  conv => whnf
  refine ⟨h1, ?_⟩
  conv => whnf
  refine ⟨fun q => ?_, fun q => ?_⟩
  · conv => whnf
    exact ⟨fun _ => Or.inl rfl, h3 q⟩
  · conv => whnf
    exact ⟨fun _ => Or.inr rfl, h2 q⟩
