/-! The reference: its net. -/
def sp_R_thrown : cx_S := cx_self 4 (fun j r ws R => ∃ x n l m t q, ws = wd x n l m (wq t q) ∧ j = 25 ∧ r = [] ∧ R (.inl (some (.inl (rt_th t)))) ws)
theorem pu_R_thrown : ∀ as ws Rq, sp_R_thrown as ws Rq → cx_cats as ≤ 1 ∧ ∀ V, cx_cl1 t_R_thrown [] [] [] 0 0 Rq V → V 0 (cx_lv0 as 1) [] ws 0 0 := by
  intro as ws Rq h0
  obtain ⟨j, r, fs0, rfl, hj, x, n, l, m, t, q, rfl, rfl, rfl, h⟩ := cx_self_spec h0
  refine ⟨Nat.le_of_ble_eq_true rfl, fun V hV => hV [] 40 _ _ _ _ _ _ ?_⟩
  conv => whnf
  exact ⟨fun e => absurd e (by decide), h⟩
def sp_R_fails : cx_S := cx_self 4 (fun j r ws R => ∃ x n l m t q b c v, ws = wd x n l m (wq t q) ∧ j = 25 ∧ r = [.inl (b2 b), .inl (b2 c)] ∧ v = (if b then 1 else if c then 2 else 0) ∧ R (.inl (some (.inl (b2 (b || c))))) (wd x n l m (wq (ru_th t v) q)))
set_option maxRecDepth 100000 in
theorem pu_R_fails : ∀ as ws Rq, sp_R_fails as ws Rq → cx_cats as ≤ 3 ∧ ∀ V, cx_cl1 t_R_fails [] [] [] 0 0 Rq V → V 0 (cx_lv0 as 3) [] ws 0 0 := by
  intro as ws Rq h0
  obtain ⟨j, r, fs0, rfl, hj, x, n, l, m, t, q, b, c, v, rfl, rfl, rfl, rfl, h⟩ := cx_self_spec h0
  refine ⟨Nat.le_of_ble_eq_true rfl, fun V hV => hV [] 40 _ _ _ _ _ _ ?_⟩
  conv => whnf
  cases b with
  | true =>
    refine ⟨fun e => absurd e (by decide), fun _ => ?_⟩
    conv => whnf
    refine ⟨Or.inl rfl, ?_⟩
    conv => whnf
    refine ⟨fun e => absurd e (by decide), fun _ => ?_⟩
    conv => whnf
    exact ⟨fun _ => Or.inr rfl, h⟩
  | false =>
    refine ⟨fun _ => ?_, fun e => absurd rfl e⟩
    conv => whnf
    cases c with
    | true =>
      refine ⟨fun e => absurd e (by decide), fun _ => ?_⟩
      conv => whnf
      refine ⟨Or.inl rfl, ?_⟩
      conv => whnf
      refine ⟨fun e => absurd e (by decide), fun _ => ?_⟩
      conv => whnf
      exact ⟨fun _ => Or.inr rfl, h⟩
    | false =>
      refine ⟨fun _ => ?_, fun e => absurd rfl e⟩
      conv => whnf
      refine ⟨Or.inl rfl, ?_⟩
      conv => whnf
      refine ⟨fun _ => ?_, fun e => absurd (by decide) e⟩
      conv => whnf
      exact ⟨fun _ => Or.inl rfl, h⟩
def sp_R_isGate : cx_S := cx_self 4 (fun j r ws R => ∃ x n l m t q g, ws = wd x n l m (wq t q) ∧ j = 25 ∧ r = [.inl g] ∧ R (.inl (some (.inl (b2 (hg g (rt_g t)))))) ws)
theorem pu_R_isGate : ∀ as ws Rq, sp_R_isGate as ws Rq → cx_cats as ≤ 2 ∧ ∀ V, cx_cl1 t_R_isGate [] [] [] 0 0 Rq V → V 0 (cx_lv0 as 2) [] ws 0 0 := by
  intro as ws Rq h0
  obtain ⟨j, r, fs0, rfl, hj, x, n, l, m, t, q, g, rfl, rfl, rfl, h⟩ := cx_self_spec h0
  refine ⟨Nat.le_of_ble_eq_true rfl, fun V hV => hV [] 40 _ _ _ _ _ _ ?_⟩
  conv => whnf
  refine ⟨fun e => ?_, fun e => ?_⟩
  · conv => whnf
    rw [show hg g (rt_g t) = false by simp [hg, e]] at h
    exact ⟨fun _ => Or.inl rfl, h⟩
  · conv => whnf
    refine ⟨fun e2 => ?_, fun e2 => ?_⟩
    · conv => whnf
      rw [show hg g (rt_g t) = false by simp [hg, rt_g, e2]] at h
      exact ⟨fun _ => Or.inl rfl, h⟩
    · conv => whnf
      rw [show hg g (rt_g t) = true by simp only [hg, rt_g, e, e2]; rfl] at h
      exact ⟨fun _ => Or.inr rfl, h⟩
def sp_R_clear : cx_S := cx_self 4 (fun j r ws R => ∃ x n l m t q A, ws = wd x n l m (wq t q) ∧ j = 25 ∧ r = [] ∧ rR A t ∧ ansR (clrS A) x n l m q R)
set_option maxRecDepth 100000 in
theorem pu_R_clear : ∀ as ws Rq, sp_R_clear as ws Rq → cx_cats as ≤ 2 ∧ ∀ V, cx_cl1 t_R_clear [] [] [] 0 0 Rq V → V 0 (cx_lv0 as 2) [] ws 0 0 := by
  intro as ws Rq h0
  obtain ⟨j, r, fs0, rfl, hj, x, n, l, m, t, q, A, rfl, rfl, rfl, hR, h⟩ := cx_self_spec h0
  refine ⟨Nat.le_of_ble_eq_true rfl, fun V hV => hV [] 60 _ _ _ _ _ _ ?_⟩
  obtain ⟨⟨a1, a2, a3, a4, a5, a6⟩, b1, b2, b3, c1, c2, c3, c4⟩ := hR
  conv => whnf
  refine ⟨Or.inl rfl, ?_⟩
  conv => whnf
  refine ⟨Or.inl rfl, ?_⟩
  conv => whnf
  refine ⟨Or.inl rfl, ?_⟩
  conv => whnf
  refine ⟨Or.inl rfl, ?_⟩
  conv => whnf
  refine ⟨Or.inl rfl, ?_⟩
  conv => whnf
  refine ⟨Or.inl rfl, ?_⟩
  conv => whnf
  refine ⟨Or.inl rfl, ?_⟩
  conv => whnf
  refine ⟨fun e => absurd e (by decide), ?_⟩
  rw [show t.1.2.1 = nI (a_g (s_a A)) from a2]
  exact ansR_ret h (A := (zerA, 0, s_nm A, 0, s_fs A)) rfl (t := ((0, 0, 0, 0, 0), (rt_so t, rt_nu t, rt_to t, rt_fr t, rt_nm t, rt_ne t), (rt_va t, 0, 0, rt_w t, rt_in t), (rt_lo t, rt_hi t, rt_far t, rt_ro t, rt_mk t))) ⟨⟨⟨Nat.zero_le _, Nat.zero_le _, Nat.zero_le _, fun g hg => absurd hg (Nat.not_lt_zero _), fun g hg => absurd hg (Nat.not_lt_zero _)⟩, rfl, rfl, rfl, fun g hg => absurd hg (Nat.not_lt_zero _), fun g hg => absurd hg (Nat.not_lt_zero _)⟩, Nat.zero_le _, rfl, fun i hi => absurd hi (Nat.not_lt_zero _), Nat.zero_le _, rfl, fun j hj => absurd hj (Nat.not_lt_zero _), 0, fun _ => kF, ⟨Nat.zero_le _, rfl, fun i hi => absurd hi (Nat.not_lt_zero _), fun i hi => absurd hi (Nat.not_lt_zero _)⟩, fun i hi => absurd hi (Nat.not_lt_zero _), fun i hi => absurd hi (Nat.not_lt_zero _)⟩ rfl
def sp_R_output : cx_S := cx_self 4 (fun j r ws R => ∃ x n l m t q A g, ws = wd x n l m (wq t q) ∧ j = 25 ∧ r = [.inl g] ∧ rR A t ∧ ansR (outS A g) x n l m q R)
set_option maxRecDepth 100000 in
theorem pu_R_output : ∀ as ws Rq, sp_R_output as ws Rq → cx_cats as ≤ 2 ∧ ∀ V, cx_cl1 t_R_output [(sp_R_isGate, 2, 0, 0), (sp_R_fails, 3, 0, 0)] [] [] 0 0 Rq V → V 0 (cx_lv0 as 2) [] ws 0 0 := by
  intro as ws Rq h0
  obtain ⟨j, r, fs0, rfl, hj, x, n, l, m, t, q, A, g, rfl, rfl, rfl, hR, h⟩ := cx_self_spec h0
  refine ⟨Nat.le_of_ble_eq_true rfl, fun V hV => hV [] 60 _ _ _ _ _ _ ?_⟩
  have hR2 := hR
  obtain ⟨a0, b1, b2, b3, c0⟩ := hR2
  have a2 := a0.2.1
  have g120 := a0.1.1
  conv => whnf
  refine ⟨x, n, l, m, t, q, g, rfl, rfl, rfl, ?_⟩
  rw [a2]
  conv => whnf
  refine ⟨fun e => ?_, fun e => ?_⟩
  · have hg1 := b2_ne0.mp e
    conv => whnf
    refine ⟨x, n, l, m, t, q, false, false, 0, rfl, rfl, rfl, rfl, ?_⟩
    conv => whnf
    refine ⟨fun _ => ?_, fun e => absurd rfl e⟩
    conv => whnf
    obtain ⟨g, hg2, rfl⟩ := hg_of (by omega) hg1
    have hcg : (nI g).toNatClampNeg = g := nx_c (by omega)
    have b2' : (ru_th t 0).1.2.2.2.2 = nI (s_on A) := b2
    refine ⟨fun e => ?_, fun e => ?_⟩
    · have e' : s_on A ≠ 10 := fun q => e (by rw [show (ru_th t 0).1.2.2.2.2 = nI (s_on A) from b2, q]; rfl)
      conv => whnf
      refine ⟨pk_in (s_on A) 10 (by omega) b2, ?_⟩
      conv => whnf
      refine ⟨Or.inl rfl, ?_⟩
      conv => whnf
      refine ⟨fun e => absurd e (by decide), ?_⟩
      rw [show (ru_th t 0).1.2.2.2.2 = nI (s_on A) from b2, nx_c (show s_on A < 2 ^ 31 by omega), nI_1, nI_pred]
      refine ansR_ret h (A := (s_a A, s_on A + 1, (fun i => if i = s_on A then g else s_nm A i), s_lo A, s_fs A)) ?_ (t := ((0, rt_g t, rt_f t, rt_i t, nI (s_on A + 1)), (rt_so t, rt_nu t, rt_to t, rt_fr t, upd (rt_nm t) (s_on A) (nI g), rt_ne t), (rt_va t, rt_la t, rt_tb t, rt_w t, rt_in t), (rt_lo t, rt_hi t, rt_far t, rt_ro t, rt_mk t))) ⟨a0, ?_, rfl, fun i hi => ?_, c0⟩ rfl
      · unfold outS
        rw [if_pos hg1, if_neg e', hcg]
      · show s_on A + 1 ≤ 10
        omega
      · have hi' : i < s_on A + 1 := hi
        by_cases e : i = s_on A
        · subst e
          refine ⟨?_, ?_⟩
          · show (if s_on A = s_on A then g else s_nm A (s_on A)) < _
            rw [if_pos rfl]; exact hg2
          · show upd (rt_nm t) (s_on A) (nI g) (s_on A) = nI (if s_on A = s_on A then g else s_nm A (s_on A))
            rw [if_pos rfl]; exact pk_us
        · refine ⟨?_, ?_⟩
          · show (if i = s_on A then g else s_nm A i) < _
            rw [if_neg e]; exact (b3 i (by omega)).1
          · show upd (rt_nm t) (s_on A) (nI g) i = nI (if i = s_on A then g else s_nm A i)
            rw [if_neg e, pk_un e]; exact (b3 i (by omega)).2
    · have e' : s_on A = 10 := by
        have e2 : nI (s_on A) = nI 10 := b2.symm.trans e
        rw [nI_eq (by omega) (by omega)] at e2
        exact e2
      conv => whnf
      refine ⟨fun e => absurd e (by decide), ansR_ret h (A := A) ?_ (t := ru_th t 0) hR rfl⟩
      unfold outS
      rw [if_pos hg1, if_pos e']
  · conv => whnf
    refine ⟨x, n, l, m, t, q, true, false, 1, rfl, rfl, rfl, rfl, ?_⟩
    conv => whnf
    refine ⟨fun e => absurd e (by decide), fun _ => ?_⟩
    conv => whnf
    have e2 : outS A g = (0 + 1, 0, A) := by
      unfold outS
      rw [if_neg (by rw [b2_eq0.mp e]; simp)]
    exact ⟨fun e => absurd e (by decide), ansR_thr h e2 (t := ru_th t 1) hR rfl⟩
def sp_R_gate : cx_S := cx_self 4 (fun j r ws R => ∃ x n l m t q A p, ws = wd x n l m (wq t q) ∧ j = 25 ∧ r = [.inl p] ∧ rR A t ∧ ansR (gateS A p) x n l m q R)
theorem gatA_rR {A : aS} {t : wR} {s : Nat} (hR : rR A t) (hs : s = 0 ∨ s = 2 ∨ s = 3) (hno : ¬ (a_g (s_a A) = 120 ∨ (s = 0 ∧ a_i (s_a A) = 8))) {i' : Int32} (hi : i' = nI (if s = 0 then a_i (s_a A) + 1 else a_i (s_a A))) :
    rR (gatA (s_a A) s, A.2) ((0, nI (a_g (s_a A) + 1), rt_f t, i', rt_on t), (upd (rt_so t) (a_g (s_a A)) (nI s), upd (rt_nu t) (a_g (s_a A)) (nI (a_i (s_a A))), rt_to t, rt_fr t, rt_nm t, rt_ne t), (rt_va t, rt_la t, rt_tb t, rt_w t, rt_in t), (rt_lo t, rt_hi t, rt_far t, rt_ro t, rt_mk t)) := by
  obtain ⟨⟨⟨w1, w2, w3, w4, w5⟩, a2, a3, a4, a5, a6⟩, b1, b2, b3, c0⟩ := hR
  have hno1 : a_g (s_a A) ≠ 120 := fun e => hno (Or.inl e)
  have hno2 : s = 0 → a_i (s_a A) ≠ 8 := fun e e2 => hno (Or.inr ⟨e, e2⟩)
  have hne : ∀ k, k < a_f (s_a A) → a_to (s_a A) k ≠ a_g (s_a A) := fun k hk => by have := (w5 k hk).1; omega
  have hso : ∀ g, g ≠ a_g (s_a A) → a_so (gatA (s_a A) s) g = a_so (s_a A) g := fun g hg => if_neg hg
  have hsn : a_so (gatA (s_a A) s) (a_g (s_a A)) = s := if_pos rfl
  have hnu : ∀ g, g ≠ a_g (s_a A) → a_nu (gatA (s_a A) s) g = a_nu (s_a A) g := fun g hg => if_neg hg
  have hnn : a_nu (gatA (s_a A) s) (a_g (s_a A)) = a_i (s_a A) := if_pos rfl
  refine ⟨⟨⟨?_, w2, ?_, fun g hg => ?_, fun k hk => ?_⟩, rfl, a3, hi, fun g hg => ?_, a6⟩, b1, b2, fun i hi => ⟨Nat.lt_succ_of_lt (b3 i hi).1, (b3 i hi).2⟩, c0⟩
  · show a_g (s_a A) + 1 ≤ 120
    omega
  · show (if s = 0 then a_i (s_a A) + 1 else a_i (s_a A)) ≤ 8
    split
    · rename_i e
      have := hno2 e
      omega
    · exact w3
  · have hg' : g < a_g (s_a A) + 1 := hg
    show (a_so (gatA (s_a A) s) g = 0 ∨ _) ∧ _
    by_cases e : g = a_g (s_a A)
    · subst e
      show (a_so (gatA (s_a A) s) (a_g (s_a A)) = 0 ∨ a_so (gatA (s_a A) s) (a_g (s_a A)) = 2 ∨ a_so (gatA (s_a A) s) (a_g (s_a A)) = 3) ∧ (a_so (gatA (s_a A) s) (a_g (s_a A)) = 0 → a_nu (gatA (s_a A) s) (a_g (s_a A)) < 8)
      rw [hsn, hnn]
      exact ⟨hs, fun e0 => by have := hno2 e0; omega⟩
    · show (a_so (gatA (s_a A) s) g = 0 ∨ a_so (gatA (s_a A) s) g = 2 ∨ a_so (gatA (s_a A) s) g = 3) ∧ (a_so (gatA (s_a A) s) g = 0 → a_nu (gatA (s_a A) s) g < 8)
      rw [hso g e, hnu g e]
      exact w4 g (by omega)
  · obtain ⟨u1, u2, u3⟩ := w5 k hk
    refine ⟨Nat.lt_succ_of_lt u1, Nat.lt_succ_of_lt u2, ?_⟩
    show a_so (gatA (s_a A) s) (a_to (s_a A) k) ≠ 0
    rw [hso _ (hne k hk)]
    exact u3
  · have hg' : g < a_g (s_a A) + 1 := hg
    by_cases e : g = a_g (s_a A)
    · subst e
      show upd (rt_so t) (a_g (s_a A)) (nI s) (a_g (s_a A)) = nI (a_so (gatA (s_a A) s) (a_g (s_a A))) ∧ upd (rt_nu t) (a_g (s_a A)) (nI (a_i (s_a A))) (a_g (s_a A)) = nI (a_nu (gatA (s_a A) s) (a_g (s_a A))) ∧ a_nu (gatA (s_a A) s) (a_g (s_a A)) ≤ 8
      rw [hsn, hnn]
      exact ⟨pk_us, pk_us, w3⟩
    · show upd (rt_so t) (a_g (s_a A)) (nI s) g = nI (a_so (gatA (s_a A) s) g) ∧ upd (rt_nu t) (a_g (s_a A)) (nI (a_i (s_a A))) g = nI (a_nu (gatA (s_a A) s) g) ∧ a_nu (gatA (s_a A) s) g ≤ 8
      rw [hso g e, hnu g e, pk_un e, pk_un e]
      exact a5 g (by omega)
set_option maxRecDepth 100000 in
set_option maxHeartbeats 4000000 in
theorem pu_R_gate : ∀ as ws Rq, sp_R_gate as ws Rq → cx_cats as ≤ 2 ∧ ∀ V, cx_cl1 t_R_gate [(sp_R_fails, 3, 0, 0)] [] [] 0 0 Rq V → V 0 (cx_lv0 as 2) [] ws 0 0 := by
  intro as ws Rq h0
  obtain ⟨j, r, fs0, rfl, hj, x, n, l, m, t, q, A, p, rfl, rfl, rfl, hR, h⟩ := cx_self_spec h0
  refine ⟨Nat.le_of_ble_eq_true rfl, fun V hV => ?_⟩
  have a2 : t.1.2.1 = nI (a_g (s_a A)) := hR.1.2.1
  have a4 : t.1.2.2.2.1 = nI (a_i (s_a A)) := hR.1.2.2.2.1
  have w1 := hR.1.1.1
  have w3 := hR.1.1.2.2.1
  have cont : (p = 0 ∨ p = 2 ∨ p = 3) → V 19 [some (.inr (.inr (.inl 25))), some (.inl p)] [.inr (.inr (.inl 25))] (wd x n l m (wq t q)) 0 0 := by
    intro hp
    have hs : ∃ s, (s = 0 ∨ s = 2 ∨ s = 3) ∧ p = nI s := by
      rcases hp with rfl | rfl | rfl
      · exact ⟨0, Or.inl rfl, rfl⟩
      · exact ⟨2, Or.inr (Or.inl rfl), rfl⟩
      · exact ⟨3, Or.inr (Or.inr rfl), rfl⟩
    obtain ⟨s, hs, rfl⟩ := hs
    have e0 : nI s = 0 ↔ s = 0 := by rw [show (0 : Int32) = nI 0 from rfl, nI_eq (by omega) (by omega)]
    have ec : (nI s).toNatClampNeg = s := nx_c (by omega)
    have full : (a_g (s_a A) = 120 ∨ (s = 0 ∧ a_i (s_a A) = 8)) → Rq (.inl (some (.inl (-1)))) (wd x n l m (wq (ru_th t 0) q)) := fun hf => ansR_ret h (A := A) (by
      unfold gateS
      rw [if_pos hp, if_pos (by rw [e0]; exact hf)]) (t := ru_th t 0) hR rfl
    have cont2 : ¬ (a_g (s_a A) = 120 ∨ (s = 0 ∧ a_i (s_a A) = 8)) → V 53 [some (.inr (.inr (.inl 25))), some (.inl (nI s))] [] (wd x n l m (wq (ru_th t 0) q)) 0 0 := by
      intro hno
      have hno1 : a_g (s_a A) ≠ 120 := fun e => hno (Or.inl e)
      have ret : gateS A (nI s) = (0, nI (a_g (s_a A)), (gatA (s_a A) s, A.2)) := by
        unfold gateS
        rw [if_pos hp, if_neg (by rw [e0]; exact hno), ec]
      refine hV [] 60 _ _ _ _ _ _ ?_
      conv => whnf
      refine ⟨pk_in (a_g (s_a A)) 120 (by omega) a2, ?_⟩
      conv => whnf
      refine ⟨pk_in (a_g (s_a A)) 120 (by omega) a2, ?_⟩
      conv => whnf
      refine ⟨fun e => ?_, fun e => ?_⟩
      · have hs0 : s ≠ 0 := fun q => e (e0.mpr q)
        conv => whnf
        refine ⟨Or.inl rfl, ?_⟩
        conv => whnf
        refine ⟨Or.inl rfl, ?_⟩
        conv => whnf
        refine ⟨fun e => absurd e (by decide), ?_⟩
        rw [show (ru_th t 0).1.2.1 = nI (a_g (s_a A)) from a2, show (ru_th t 0).1.2.2.2.1 = nI (a_i (s_a A)) from a4, nx_c (show a_g (s_a A) < 2 ^ 31 by omega), nI_1, nI_pred]
        exact ansR_ret h ret (gatA_rR hR hs hno (i' := nI (a_i (s_a A)) + 0) (by rw [if_neg hs0, Int32.add_zero])) rfl
      · have hs0 : s = 0 := e0.mp e
        conv => whnf
        refine ⟨Or.inl rfl, ?_⟩
        conv => whnf
        refine ⟨Or.inl rfl, ?_⟩
        conv => whnf
        refine ⟨fun e => absurd e (by decide), ?_⟩
        rw [show (ru_th t 0).1.2.1 = nI (a_g (s_a A)) from a2, show (ru_th t 0).1.2.2.2.1 = nI (a_i (s_a A)) from a4, nx_c (show a_g (s_a A) < 2 ^ 31 by omega), nI_1, nI_pred]
        exact ansR_ret h ret (gatA_rR hR hs hno (i' := nI (a_i (s_a A)) + 1) (by rw [if_pos hs0, nI_1])) rfl
    refine hV [53] 60 _ _ _ _ _ _ ?_
    conv => whnf
    refine ⟨x, n, l, m, t, q, false, false, 0, rfl, rfl, rfl, rfl, ?_⟩
    conv => whnf
    refine ⟨fun _ => ?_, fun e => absurd rfl e⟩
    conv => whnf
    refine pk_eq (a_g (s_a A)) 120 (fun e => ?_) (fun e => ?_) a2
    · conv => whnf
      exact ⟨fun e => absurd e (by decide), full (Or.inl e)⟩
    · conv => whnf
      refine ⟨fun e2 => ?_, fun e2 => ?_⟩
      · exact cont2 (fun q => q.elim e (fun q => e2 (e0.mpr q.1)))
      · conv => whnf
        refine ⟨fun e3 => ?_, fun e3 => ?_⟩
        · refine cont2 (fun q => q.elim e (fun q => e3 ?_))
          rw [show (ru_th t 0).1.2.2.2.1 = nI (a_i (s_a A)) from a4, q.2]
          rfl
        · conv => whnf
          refine ⟨fun e => absurd e (by decide), full (Or.inr ⟨e0.mp e2, ?_⟩)⟩
          have e4 : nI (a_i (s_a A)) = nI 8 := a4.symm.trans e3
          rw [nI_eq (by omega) (by omega)] at e4
          exact e4
  refine hV [19] 60 _ _ _ _ _ _ ?_
  conv => whnf
  refine ⟨fun e => cont (Or.inl e), fun e1 => ?_⟩
  conv => whnf
  refine ⟨fun e => cont (Or.inr (Or.inl e)), fun e2 => ?_⟩
  conv => whnf
  refine ⟨fun e => cont (Or.inr (Or.inr e)), fun e3 => ?_⟩
  conv => whnf
  refine ⟨x, n, l, m, t, q, true, false, 1, rfl, rfl, rfl, rfl, ?_⟩
  conv => whnf
  refine ⟨fun e => absurd e (by decide), fun _ => ?_⟩
  conv => whnf
  have e : gateS A p = (0 + 1, 0, A) := by
    unfold gateS
    rw [if_neg (fun q => q.elim e1 (fun q => q.elim e2 e3))]
  exact ⟨fun e => absurd e (by decide), ansR_thr h e (t := ru_th t 1) hR rfl⟩
