/-! The class's own methods. -/
def sp_C_requireChoice : cx_S := fun as ws R => ∃ c, as = [.inl c] ∧ (hg c 256 = true → R (.inl none) ws) ∧ (hg c 256 = false → R (.inr "java/lang/IndexOutOfBoundsException") ws)
theorem pu_C_requireChoice : ∀ as ws Rq, sp_C_requireChoice as ws Rq → cx_cats as ≤ 1 ∧ ∀ V, cx_cl1 t_C_requireChoice [] x_C_requireChoice [] 1 6 Rq V → V 0 (cx_lv0 as 1) [] ws 0 0 := by
  rintro as ws Rq ⟨c, rfl, h1, h2⟩
  refine ⟨Nat.le_of_ble_eq_true rfl, fun V hV => hV [] 40 _ _ _ _ _ _ ?_⟩
  conv => whnf
  refine ⟨fun e => ?_, fun e => ?_⟩
  · conv => whnf
    exact h2 (by simp [hg, e])
  · conv => whnf
    refine ⟨fun e2 => ?_, fun e2 => ?_⟩
    · conv => whnf
      exact h1 (by simp [hg, e, Int32.not_le.mpr e2])
    · conv => whnf
      exact h2 (by simp [hg, e, Int32.not_lt.mp e2])
def sp_C_requireLaidOut : cx_S := cx_self 3 (fun j r ws R => ∃ x n l m q o, ws = wd x n l m q ∧ j = 0 ∧ r = [.inl o] ∧ (hg o (l_n l) = true → R (.inl none) ws) ∧ (hg o (l_n l) = false → R (.inr "java/lang/IndexOutOfBoundsException") ws))
theorem pu_C_requireLaidOut : ∀ as ws Rq, sp_C_requireLaidOut as ws Rq → cx_cats as ≤ 2 ∧ ∀ V, cx_cl1 t_C_requireLaidOut [] x_C_requireLaidOut [] 1 6 Rq V → V 0 (cx_lv0 as 2) [] ws 0 0 := by
  intro as ws Rq h0
  obtain ⟨j, r, fs0, rfl, hj, x, n, l, m, q, c, rfl, rfl, rfl, h1, h2⟩ := cx_self_spec h0
  refine ⟨Nat.le_of_ble_eq_true rfl, fun V hV => hV [] 40 _ _ _ _ _ _ ?_⟩
  conv => whnf
  refine ⟨fun e => ?_, fun e => ?_⟩
  · conv => whnf
    exact h2 (by simp [hg, e])
  · conv => whnf
    refine ⟨fun e2 => ?_, fun e2 => ?_⟩
    · conv => whnf
      exact h1 (by simp [hg, e, Int32.not_le.mpr e2])
    · conv => whnf
      exact h2 (by simp [hg, e, Int32.not_lt.mp e2])
def sp_C_gate : cx_S := cx_self 3 (fun j r ws R => ∃ x n l m q A p, ws = wd x n l m q ∧ j = 0 ∧ r = [.inl p] ∧ rC A x n l m ∧ ans eA (gateS A p) q ws R)
theorem pu_C_gate : ∀ as ws Rq, sp_C_gate as ws Rq → cx_cats as ≤ 2 ∧ ∀ V2 V1, cx_cl2 (t_C_gate.take 9) (t_C_gate.drop 9) [(sp_N_addGate, 2, 0, 0)] [(sp_N_addGate, 2, 0, 0)] x_C_gate [] 1 6 Rq V2 V1 → V2 0 (cx_lv0 as 2) [] ws 0 0 := by
  intro as ws Rq h0
  obtain ⟨j, r, fs0, rfl, hj, x, n, l, m, q, A, p, rfl, rfl, rfl, hC, h⟩ := cx_self_spec h0
  refine ⟨Nat.le_of_ble_eq_true rfl, fun V2 V1 hV => ?_⟩
  obtain ⟨hV2, hV1, hL⟩ := hV
  obtain ⟨c1, c2, c3, c4, c5⟩ := hC
  have cont : (p = 0 ∨ p = 2 ∨ p = 3) → V2 24 [some (.inr (.inr (.inl 0))), some (.inl p)] [] (wd x n l m q) 0 0 := by
    intro hp
    have hs : ∃ s, (s = 0 ∨ s = 2 ∨ s = 3) ∧ p = nI s := by
      rcases hp with rfl | rfl | rfl
      · exact ⟨0, Or.inl rfl, rfl⟩
      · exact ⟨2, Or.inr (Or.inl rfl), rfl⟩
      · exact ⟨3, Or.inr (Or.inr rfl), rfl⟩
    obtain ⟨s, hs, rfl⟩ := hs
    have e0 : nI s = 0 ↔ s = 0 := by rw [show (0 : Int32) = nI 0 from rfl, nI_eq (by omega) (by omega)]
    have ec : (nI s).toNatClampNeg = s := nx_c (by omega)
    refine hL _ _ _ _ _ _ (hV1 [] 40 _ _ _ _ _ _ ?_)
    conv => whnf
    refine ⟨x, n, l, m, q, s_a A, s, rfl, rfl, rfl, c1, hs, fun hf => ?_, fun hf n' hn' => ?_⟩
    · conv => whnf
      refine ⟨fun e => absurd e (by decide), ans_ret h (A := A) ?_ ⟨c1, c2, c3, c4, c5⟩⟩
      unfold gateS
      rw [if_pos hp, if_pos (by rw [e0]; exact hf)]
    · conv => whnf
      refine ⟨fun e => absurd e (by decide), ans_ret h (A := (gatA (s_a A) s, A.2)) ?_ ⟨hn', c2, c3, fun i hi => ⟨Nat.lt_succ_of_lt (c4 i hi).1, (c4 i hi).2⟩, c5⟩⟩
      unfold gateS
      rw [if_pos hp, if_neg (by rw [e0]; exact hf), ec]
  refine hV2 [24] 40 _ _ _ _ _ _ ?_
  conv => whnf
  refine ⟨fun e => cont (Or.inl e), fun e1 => ?_⟩
  conv => whnf
  refine ⟨fun e => cont (Or.inr (Or.inl e)), fun e2 => ?_⟩
  conv => whnf
  refine ⟨fun e => cont (Or.inr (Or.inr e)), fun e3 => ?_⟩
  conv => whnf
  have e : gateS A p = (0 + 1, 0, A) := by
    unfold gateS
    rw [if_neg (fun q => q.elim e1 (fun q => q.elim e2 e3))]
  exact ans_thr h e
def sp_C_feed : cx_S := cx_self 3 (fun j r ws R => ∃ x n l m q A t f b, ws = wd x n l m q ∧ j = 0 ∧ r = [.inl t, .inl f, .inl (b2 b)] ∧ rC A x n l m ∧ ans eF (feedS A t f b) q ws R)
theorem pu_C_feed : ∀ as ws Rq, sp_C_feed as ws Rq → cx_cats as ≤ 4 ∧ ∀ V2 V1, cx_cl2 (t_C_feed.take 17) (t_C_feed.drop 17) [(sp_N_hasGate, 2, 0, 0), (sp_N_isInput, 2, 0, 0), (sp_N_addFeed, 4, 0, 0)] [(sp_N_hasGate, 2, 0, 0), (sp_N_isInput, 2, 0, 0), (sp_N_addFeed, 4, 0, 0)] x_C_feed [] 1 6 Rq V2 V1 → V2 0 (cx_lv0 as 4) [] ws 0 0 := by
  intro as ws Rq h0
  obtain ⟨j, r, fs0, rfl, hj, x, n, l, m, q, A, t, f, b, rfl, rfl, rfl, hC, h⟩ := cx_self_spec h0
  refine ⟨Nat.le_of_ble_eq_true rfl, fun V2 V1 hV => ?_⟩
  obtain ⟨hV2, hV1, hL⟩ := hV
  obtain ⟨c1, c2, c3, c4, c5⟩ := hC
  have hgg : n.2.2.2.2.2.2.2.2.1 = nI (a_g (s_a A)) := c1.1.2.1
  have g120 := c1.1.1.1
  refine hV2 [53] 40 _ _ _ _ _ _ ?_
  conv => whnf
  refine ⟨x, n, l, m, q, t, rfl, rfl, rfl, ?_⟩
  rw [hgg]
  conv => whnf
  refine ⟨fun e => ?_, fun e => ?_⟩
  · conv => whnf
    have e2 : feedS A t f b = (0 + 1, 0, A) := by
      unfold feedS
      rw [if_neg (by rw [b2_eq0.mp e]; simp)]
    exact ans_thr h e2
  have ht := b2_ne0.mp e
  conv => whnf
  refine ⟨x, n, l, m, q, f, rfl, rfl, rfl, ?_⟩
  rw [hgg]
  conv => whnf
  refine ⟨fun e => ?_, fun e => ?_⟩
  rotate_left
  · conv => whnf
    have e2 : feedS A t f b = (0 + 1, 0, A) := by
      unfold feedS
      rw [if_neg (by rw [b2_eq0.mp e]; simp)]
    exact ans_thr h e2
  have hf := b2_ne0.mp e
  obtain ⟨t, ht1, rfl⟩ := hg_of (by omega) ht
  obtain ⟨f, hf1, rfl⟩ := hg_of (by omega) hf
  have hct : (nI t).toNatClampNeg = t := nx_c (by omega)
  have hcf : (nI f).toNatClampNeg = f := nx_c (by omega)
  have hso : n.1 t = nI (a_so (s_a A) t) := (c1.1.2.2.2.2.1 t ht1).1
  have s3 := (c1.1.1.2.2.2.1 t ht1).1
  have e0 : n.1 t = 0 ↔ a_so (s_a A) t = 0 := by rw [hso, show (0 : Int32) = nI 0 from rfl, nI_eq (by omega) (by omega)]
  conv => whnf
  refine ⟨x, n, l, m, q, nI t, rfl, rfl, rfl, pk_in t 120 (by omega), fun e => ?_, fun e => ?_⟩
  · rw [hct] at e
    conv => whnf
    refine ⟨fun e => absurd e (by decide), fun _ => ?_⟩
    conv => whnf
    have e2 : feedS A (nI t) (nI f) b = (1 + 1, 0, A) := by
      unfold feedS
      rw [ht, hf, hct, if_pos (show (true && true) = true from rfl), if_pos (e0.mp e)]
    exact ans_thr h e2
  · rw [hct] at e
    have hs0 : a_so (s_a A) t ≠ 0 := fun q => e (e0.mpr q)
    conv => whnf
    refine ⟨fun _ => ?_, fun e => absurd rfl e⟩
    refine hL _ _ _ _ _ _ (hV1 [] 40 _ _ _ _ _ _ ?_)
    conv => whnf
    refine ⟨x, n, l, m, q, s_a A, t, f, b, rfl, rfl, rfl, c1, ht1, hf1, hs0, fun h5 => ?_, fun h5 n' hn' => ?_⟩
    · conv => whnf
      refine ⟨fun e => absurd e (by decide), ans_ret h (A := A) ?_ ⟨c1, c2, c3, c4, c5⟩⟩
      unfold feedS
      rw [ht, hf, hct, if_pos (show (true && true) = true from rfl), if_neg hs0, if_pos h5]
    · conv => whnf
      refine ⟨fun e => absurd e (by decide), ans_ret h (A := (fedA (s_a A) t f b, A.2)) ?_ ⟨hn', c2, c3, c4, c5⟩⟩
      unfold feedS
      rw [ht, hf, hct, hcf, if_pos (show (true && true) = true from rfl), if_neg hs0, if_neg (by omega)]
def sp_C_output : cx_S := cx_self 3 (fun j r ws R => ∃ x n l m q A g, ws = wd x n l m q ∧ j = 0 ∧ r = [.inl g] ∧ rC A x n l m ∧ ans eI (outS A g) q ws R)
theorem pu_C_output : ∀ as ws Rq, sp_C_output as ws Rq → cx_cats as ≤ 3 ∧ ∀ V2 V1, cx_cl2 (t_C_output.take 6) (t_C_output.drop 6) [(sp_N_hasGate, 2, 0, 0)] [(sp_N_hasGate, 2, 0, 0)] x_C_output [] 1 6 Rq V2 V1 → V2 0 (cx_lv0 as 3) [] ws 0 0 := by
  intro as ws Rq h0
  obtain ⟨j, r, fs0, rfl, hj, x, n, l, m, q, A, g, rfl, rfl, rfl, hC, h⟩ := cx_self_spec h0
  refine ⟨Nat.le_of_ble_eq_true rfl, fun V2 V1 hV => ?_⟩
  obtain ⟨hV2, hV1, hL⟩ := hV
  obtain ⟨c1, c2, c3, c4, c5⟩ := hC
  have hgg : n.2.2.2.2.2.2.2.2.1 = nI (a_g (s_a A)) := c1.1.2.1
  have g120 := c1.1.1.1
  refine hV2 [21] 40 _ _ _ _ _ _ ?_
  conv => whnf
  refine ⟨x, n, l, m, q, g, rfl, rfl, rfl, ?_⟩
  rw [hgg]
  conv => whnf
  refine ⟨fun e => ?_, fun e => ?_⟩
  · have hg1 := b2_ne0.mp e
    obtain ⟨g, hg2, rfl⟩ := hg_of (by omega) hg1
    have hcg : (nI g).toNatClampNeg = g := nx_c (by omega)
    refine hL _ _ _ _ _ _ (hV1 [] 40 _ _ _ _ _ _ ?_)
    conv => whnf
    refine pk_lt (s_on A) 10 (fun h1 => ?_) (fun h1 => ?_) c3
    · conv => whnf
      refine ⟨pk_in (s_on A) 10 h1 c3, ?_⟩
      conv => whnf
      refine ⟨Or.inl rfl, ?_⟩
      conv => whnf
      refine ⟨fun e => absurd e (by decide), ?_⟩
      rw [c3, nx_c (show s_on A < 2 ^ 31 by omega), nI_1]
      refine ans_ret h (x := (nI (s_on A + 1), upd x.2 (s_on A) (nI g))) (n := n) (l := l) (m := m) (A := (s_a A, s_on A + 1, (fun i => if i = s_on A then g else s_nm A i), s_lo A, s_fs A)) ?_ ⟨c1, ?_, rfl, fun i hi => ?_, c5⟩
      · unfold outS
        rw [if_pos hg1, if_neg (by omega), hcg]
      · show s_on A + 1 ≤ 10
        omega
      · have hi' : i < s_on A + 1 := hi
        by_cases e : i = s_on A
        · subst e
          refine ⟨?_, ?_⟩
          · show (if s_on A = s_on A then g else s_nm A (s_on A)) < _
            rw [if_pos rfl]; exact hg2
          · show upd x.2 (s_on A) (nI g) (s_on A) = nI (if s_on A = s_on A then g else s_nm A (s_on A))
            rw [if_pos rfl]; exact pk_us
        · refine ⟨?_, ?_⟩
          · show (if i = s_on A then g else s_nm A i) < _
            rw [if_neg e]; exact (c4 i (by omega)).1
          · show upd x.2 (s_on A) (nI g) i = nI (if i = s_on A then g else s_nm A i)
            rw [if_neg e, pk_un e]; exact (c4 i (by omega)).2
    · conv => whnf
      refine ⟨fun e => absurd e (by decide), ans_ret h (A := A) ?_ ⟨c1, c2, c3, c4, c5⟩⟩
      unfold outS
      rw [if_pos hg1, if_pos (by omega)]
  · conv => whnf
    have e2 : outS A g = (0 + 1, 0, A) := by
      unfold outS
      rw [if_neg (by rw [b2_eq0.mp e]; simp)]
    exact ans_thr h e2
def sp_C_clear : cx_S := cx_self 3 (fun j r ws R => ∃ x n l m q A, ws = wd x n l m q ∧ j = 0 ∧ r = [] ∧ rC A x n l m ∧ ans eI (clrS A) q ws R)
theorem pu_C_clear : ∀ as ws Rq, sp_C_clear as ws Rq → cx_cats as ≤ 2 ∧ ∀ V, cx_cl1 t_C_clear [(sp_N_dropAll, 1, 0, 0), (sp_L_dropAll, 1, 0, 0)] [] [] 0 0 Rq V → V 0 (cx_lv0 as 2) [] ws 0 0 := by
  intro as ws Rq h0
  obtain ⟨j, r, fs0, rfl, hj, x, n, l, m, q, A, rfl, rfl, rfl, hC, h⟩ := cx_self_spec h0
  refine ⟨Nat.le_of_ble_eq_true rfl, fun V hV => hV [] 40 _ _ _ _ _ _ ?_⟩
  obtain ⟨c1, c2, c3, c4, c5⟩ := hC
  have hgg : n.2.2.2.2.2.2.2.2.1 = nI (a_g (s_a A)) := c1.1.2.1
  conv => whnf
  refine ⟨x, n, l, m, q, rfl, rfl, rfl, fun n' hn' => ?_⟩
  conv => whnf
  refine ⟨x, n', l, m, q, rfl, rfl, rfl, fun l' m' hl' => ?_⟩
  conv => whnf
  refine ⟨Or.inl rfl, ?_⟩
  conv => whnf
  refine ⟨fun e => absurd e (by decide), ?_⟩
  rw [hgg]
  exact ans_ret h (x := (0, x.2)) (n := n') (l := l') (m := m') (A := (zerA, 0, s_nm A, 0, s_fs A)) rfl ⟨hn', Nat.zero_le _, rfl, fun i hi => absurd hi (Nat.not_lt_zero _), Or.inl (hl' _)⟩
theorem hiK_eq {a : aN} {n : wN} (h : setR a (n_hi n) (n_lo n)) {g : Nat} (hg : g < a_g a) : tt (n_hi n g) = hiK a g ∧ tt (n_lo n g) = loK a g := by
  constructor
  · refine nf_ext (nf_tt _) (fun c hc => by simp [hiK, show ¬ c < 256 by omega]) (fun c hc => ?_)
    have := (h (c / 64) (by omega) (c % 64) (by omega) g hg).1
    dsimp only at this
    rw [show 64 * (c / 64) + c % 64 = c by omega] at this
    rw [lb_tt hc, this]
    simp [hiK, hc]
  · refine nf_ext (nf_tt _) (fun c hc => by simp [loK, show ¬ c < 256 by omega]) (fun c hc => ?_)
    have := (h (c / 64) (by omega) (c % 64) (by omega) g hg).2
    dsimp only at this
    rw [show 64 * (c / 64) + c % 64 = c by omega] at this
    rw [lb_tt hc, this]
    simp [loK, hc]
theorem fsN_e (a : aN) (nm : Nat → Nat) (o : Nat) : fsN a nm (2 * o) = hiK a (nm o) := by
  unfold fsN
  rw [if_pos (by omega), show 2 * o / 2 = o by omega]
theorem fsN_o (a : aN) (nm : Nat → Nat) (o : Nat) : fsN a nm (2 * o + 1) = loK a (nm o) := by
  unfold fsN
  rw [if_neg (by omega), show (2 * o + 1) / 2 = o by omega]
def sp_C_lay : cx_S := cx_self 3 (fun j r ws R => ∃ x n l m q A, ws = wd x n l m q ∧ j = 0 ∧ r = [] ∧ rC A x n l m ∧ ans eI (layS A) q ws R)
theorem pu_C_lay : ∀ as ws Rq, sp_C_lay as ws Rq → cx_cats as ≤ 3 ∧ ∀ V, cx_cl1 t_C_lay [(sp_L_dropAll, 1, 0, 0), (sp_N_highOf, 2, 0, 0), (sp_N_lowOf, 2, 0, 0), (sp_L_addOutput, 3, 0, 0), (sp_M_total, 1, 0, 0)] [] [] 0 0 Rq V → V 0 (cx_lv0 as 3) [] ws 0 0 := by
  intro as ws Rq h0
  obtain ⟨j, r, fs0, rfl, hj, x, n, l, m, q, A, rfl, rfl, rfl, hC, h⟩ := cx_self_spec h0
  refine ⟨Nat.le_of_ble_eq_true rfl, fun V hV => ?_⟩
  obtain ⟨c1, c2, c3, c4, c5⟩ := hC
  have loop : ∀ (d i : Nat) (n : wN) (l : wL) (m : wM) (s2 : Option cx_V), i + d = s_on A → rN (s_a A) n → rLay i (fsN (s_a A) (s_nm A)) l m → V 9 [some (.inr (.inr (.inl 0))), some (.inl (nI i)), s2] [] (wd x n l m q) 0 0 := by
    intro d
    induction d with
    | zero =>
      intro i n l m s2 hd hn hl
      have : i = s_on A := by omega
      subst this
      refine hV [] 40 _ _ _ _ _ _ ?_
      conv => whnf
      refine pk_le (s_on A) (s_on A) (fun _ => ?_) (fun e => absurd e (Nat.lt_irrefl _)) c3
      conv => whnf
      refine ⟨x, n, l, m, q, rfl, rfl, rfl, ?_⟩
      obtain ⟨N, ks, hR⟩ := hl
      have hM := hR.2.2.1
      have e : m.2.2.2.2.2.2.2.2.2.1 - 2 = nI (kN (2 * s_on A) (fsN (s_a A) (s_nm A)) (fun _ => true)) := by
        rw [show m.2.2.2.2.2.2.2.2.2.1 = nI N from hM.2.2.1, show (2 : Int32) = nI 2 from rfl, pk_sub hM.1, ← kN_eq (rL_enu hR), rMx_total hM]
      rw [e]
      conv => whnf
      exact ⟨fun e => absurd e (by decide), ans_ret h (A := (s_a A, s_on A, s_nm A, s_on A, fsN (s_a A) (s_nm A))) rfl ⟨hn, c2, c3, c4, Or.inl ⟨N, ks, hR⟩⟩⟩
    | succ d ih =>
      intro i n l m s2 hd hn hl
      obtain ⟨g1, g2⟩ := c4 i (by omega)
      have hci : (nI i).toNatClampNeg = i := nx_c (by omega)
      have g120 := hn.1.1.1
      refine hV [9] 40 _ _ _ _ _ _ ?_
      conv => whnf
      refine pk_le (s_on A) i (fun _ => by omega) (fun _ => ?_) c3
      conv => whnf
      refine ⟨pk_in i 10 (by omega), ?_⟩
      conv => whnf
      rw [hci]
      dsimp only
      rw [g2]
      refine ⟨x, n, l, m, q, s_a A, s_nm A i, rfl, rfl, rfl, hn, g1, fun n1 a1 a2 => ?_⟩
      conv => whnf
      refine ⟨x, n1, l, m, q, s_a A, s_nm A i, rfl, rfl, rfl, a1, g1, fun n2 b1 b2 => ?_⟩
      conv => whnf
      obtain ⟨k1, k2⟩ := hiK_eq b2 g1
      refine ⟨x, n2, l, m, q, i, fsN (s_a A) (s_nm A), s_nm A i, rfl, rfl, rfl, by omega, hl, by omega, by rw [fsN_e, k1], by rw [fsN_o, k2], fun l' m' hl' => ?_⟩
      conv => whnf
      rw [nI_1]
      exact ih (i + 1) n2 l' m' _ (by omega) b1 hl'
  refine hV [9] 40 _ _ _ _ _ _ ?_
  conv => whnf
  refine ⟨x, n, l, m, q, rfl, rfl, rfl, fun l' m' hl' => ?_⟩
  conv => whnf
  rw [← nI_0]
  exact loop (s_on A) 0 n l' m' none (by omega) c1 (hl' _)
theorem hg_256 {c : Int32} (h : hg c 256 = true) : ∃ j, j < 256 ∧ c = nI j := hg_of (n := 256) (by omega) h
def sp_C_run : cx_S := cx_self 3 (fun j r ws R => ∃ x n l m q A o c, ws = wd x n l m q ∧ j = 0 ∧ r = [.inl o, .inl c] ∧ rC A x n l m ∧ ans eI (runS A o c) q ws R)
theorem pu_C_run : ∀ as ws Rq, sp_C_run as ws Rq → cx_cats as ≤ 3 ∧ ∀ V, cx_cl1 t_C_run [(sp_C_requireLaidOut, 2, 1, 6), (sp_C_requireChoice, 1, 1, 6), (sp_L_valueOn, 3, 0, 0)] [] [] 2 12 Rq V → V 0 (cx_lv0 as 3) [] ws 0 0 := by
  intro as ws Rq h0
  obtain ⟨j, r, fs0, rfl, hj, x, n, l, m, q, A, o, c, rfl, rfl, rfl, hC, h⟩ := cx_self_spec h0
  refine ⟨Nat.le_of_ble_eq_true rfl, fun V hV => hV [] 40 _ _ _ _ _ _ ?_⟩
  have hC2 := hC
  obtain ⟨c1, c2, c3, c4, c5⟩ := hC2
  have hln : l_n l = nI (s_lo A) := rLy_n c5
  have lo10 : s_lo A ≤ 10 := rLy_10 c5
  conv => whnf
  refine ⟨x, n, l, m, q, o, rfl, rfl, rfl, fun e1 => ?_, fun e1 => ?_⟩
  rotate_left
  · rw [hln] at e1
    have e2 : runS A o c = (0 + 1, 0, A) := by
      unfold runS
      rw [if_neg (by rw [e1]; simp)]
    exact ans_thr h e2
  rw [hln] at e1
  conv => whnf
  refine ⟨c, rfl, fun e2 => ?_, fun e2 => ?_⟩
  rotate_left
  · have e3 : runS A o c = (0 + 1, 0, A) := by
      unfold runS
      rw [if_neg (by rw [e2]; simp)]
    exact ans_thr h e3
  obtain ⟨o, ho, rfl⟩ := hg_of (by omega) e1
  obtain ⟨c, hc, rfl⟩ := hg_256 e2
  conv => whnf
  refine ⟨x, n, l, m, q, s_lo A, s_fs A, o, c, rfl, rfl, rfl, rLy_in c5 ho, ho, hc, ?_⟩
  conv => whnf
  refine ⟨fun e => absurd e (by decide), ans_ret h (A := A) ?_ hC⟩
  unfold runS
  rw [e1, e2, if_pos (show (true && true) = true from rfl), nx_c (show o < 2 ^ 31 by omega), nx_c (show c < 2 ^ 31 by omega)]
def sp_C_way : cx_S := cx_self 3 (fun j r ws R => ∃ x n l m q A o c, ws = wd x n l m q ∧ j = 0 ∧ r = [.inl o, .inl c] ∧ rC A x n l m ∧ ans eI (wayS A o c) q ws R)
theorem pu_C_way : ∀ as ws Rq, sp_C_way as ws Rq → cx_cats as ≤ 3 ∧ ∀ V, cx_cl1 t_C_way [(sp_C_requireLaidOut, 2, 1, 6), (sp_C_requireChoice, 1, 1, 6), (sp_L_stepsOn, 3, 0, 0)] [] [] 2 12 Rq V → V 0 (cx_lv0 as 3) [] ws 0 0 := by
  intro as ws Rq h0
  obtain ⟨j, r, fs0, rfl, hj, x, n, l, m, q, A, o, c, rfl, rfl, rfl, hC, h⟩ := cx_self_spec h0
  refine ⟨Nat.le_of_ble_eq_true rfl, fun V hV => hV [] 40 _ _ _ _ _ _ ?_⟩
  have hC2 := hC
  obtain ⟨c1, c2, c3, c4, c5⟩ := hC2
  have hln : l_n l = nI (s_lo A) := rLy_n c5
  have lo10 : s_lo A ≤ 10 := rLy_10 c5
  conv => whnf
  refine ⟨x, n, l, m, q, o, rfl, rfl, rfl, fun e1 => ?_, fun e1 => ?_⟩
  rotate_left
  · rw [hln] at e1
    have e2 : wayS A o c = (0 + 1, 0, A) := by
      unfold wayS
      rw [if_neg (by rw [e1]; simp)]
    exact ans_thr h e2
  rw [hln] at e1
  conv => whnf
  refine ⟨c, rfl, fun e2 => ?_, fun e2 => ?_⟩
  rotate_left
  · have e3 : wayS A o c = (0 + 1, 0, A) := by
      unfold wayS
      rw [if_neg (by rw [e2]; simp)]
    exact ans_thr h e3
  obtain ⟨o, ho, rfl⟩ := hg_of (by omega) e1
  obtain ⟨c, hc, rfl⟩ := hg_256 e2
  conv => whnf
  refine ⟨x, n, l, m, q, s_lo A, s_fs A, o, c, rfl, rfl, rfl, rLy_in c5 ho, ho, hc, ?_⟩
  conv => whnf
  refine ⟨fun e => absurd e (by decide), ans_ret h (A := A) ?_ hC⟩
  unfold wayS
  rw [e1, e2, if_pos (show (true && true) = true from rfl), nx_c (show o < 2 ^ 31 by omega), nx_c (show c < 2 ^ 31 by omega)]
def sp_C_at : cx_S := cx_self 3 (fun j r ws R => ∃ x n l m q A k, ws = wd x n l m q ∧ j = 0 ∧ r = [.inl k] ∧ rC A x n l m ∧ ans eI (atS A k) q ws R)
theorem pu_C_at : ∀ as ws Rq, sp_C_at as ws Rq → cx_cats as ≤ 2 ∧ ∀ V, cx_cl1 t_C_at [] [] [] 0 0 Rq V → V 0 (cx_lv0 as 2) [] ws 0 0 := by
  intro as ws Rq h0
  obtain ⟨j, r, fs0, rfl, hj, x, n, l, m, q, A, k, rfl, rfl, rfl, hC, h⟩ := cx_self_spec h0
  refine ⟨Nat.le_of_ble_eq_true rfl, fun V hV => hV [] 40 _ _ _ _ _ _ ?_⟩
  have hC2 := hC
  obtain ⟨c1, c2, c3, c4, c5⟩ := hC2
  have no : hg k 8 = false → Rq (.inl (some (.inl 0))) (wd x n l m q) := fun e => ans_ret h (A := A) (by unfold atS; rw [e]; rfl) hC
  conv => whnf
  refine ⟨fun e => ?_, fun e => ?_⟩
  · conv => whnf
    exact ⟨fun e => absurd e (by decide), no (by simp [hg, e])⟩
  · conv => whnf
    refine ⟨fun e2 => ?_, fun e2 => ?_⟩
    · have hk : hg k 8 = true := by simp [hg, e, Int32.not_le.mpr e2]
      obtain ⟨k, hk8, rfl⟩ := hg_of (n := 8) (by omega) hk
      have hck : (nI k).toNatClampNeg = k := nx_c (by omega)
      conv => whnf
      refine ⟨pk_in k 8 hk8, ?_⟩
      conv => whnf
      refine ⟨fun e => absurd e (by decide), ?_⟩
      rw [hck]
      dsimp only
      rw [show m.2.2.2.2.2.2.2.2.1 k = _ from rLy_pi c5 hk8]
      exact ans_ret h (A := A) (by unfold atS; rw [hk, hck]; rfl) hC
    · conv => whnf
      exact ⟨fun e => absurd e (by decide), no (by simp [hg, e, Int32.not_lt.mp e2])⟩
def sp_C_size : cx_S := cx_self 3 (fun j r ws R => ∃ x n l m q A o b, ws = wd x n l m q ∧ j = 0 ∧ r = [.inl o, .inl (b2 b)] ∧ rC A x n l m ∧ ans eI (sizS A o b) q ws R)
theorem pnc_isub {ks : Nat → Ky} {f : Ky} {N : Nat} : cnP ks (isub f) N = cnP ks (pnc (isub f)) N := cnP_congr N (fun i hi => by
  unfold pnc
  cases e : isub f (ks i) with
  | false => rfl
  | true => simp [(isub_iff.mp e).1])
theorem pu_C_size : ∀ as ws Rq, sp_C_size as ws Rq → cx_cats as ≤ 4 ∧ ∀ V2 V1, cx_cl2 (t_C_size.take 3) (t_C_size.drop 3) [(sp_C_requireLaidOut, 2, 1, 6), (sp_M_totalBelow, 2, 0, 0)] [(sp_C_requireLaidOut, 2, 1, 6), (sp_M_totalBelow, 2, 0, 0)] x_C_size [] 1 6 Rq V2 V1 → V2 0 (cx_lv0 as 4) [] ws 0 0 := by
  intro as ws Rq h0
  obtain ⟨j, r, fs0, rfl, hj, x, n, l, m, q, A, o, b, rfl, rfl, rfl, hC, h⟩ := cx_self_spec h0
  refine ⟨Nat.le_of_ble_eq_true rfl, fun V2 V1 hV => ?_⟩
  obtain ⟨hV2, hV1, hL⟩ := hV
  have hC2 := hC
  obtain ⟨c1, c2, c3, c4, c5⟩ := hC2
  have hln : l_n l = nI (s_lo A) := rLy_n c5
  have lo10 : s_lo A ≤ 10 := rLy_10 c5
  refine hV2 [5] 40 _ _ _ _ _ _ ?_
  conv => whnf
  refine ⟨x, n, l, m, q, o, rfl, rfl, rfl, fun e1 => ?_, fun e1 => ?_⟩
  rotate_left
  · rw [hln] at e1
    have e2 : sizS A o b = (0 + 1, 0, A) := by
      unfold sizS
      rw [if_neg (by rw [e1]; simp)]
    exact ans_thr h e2
  rw [hln] at e1
  obtain ⟨o, ho, rfl⟩ := hg_of (by omega) e1
  have hco : (nI o).toNatClampNeg = o := nx_c (by omega)
  obtain ⟨N, ks, c5⟩ := rLy_in c5 ho
  obtain ⟨⟨ra, d1, d2, d3⟩, ⟨rb, d4, d5, d6⟩⟩ := c5.2.2.2.1 o ho
  refine hL _ _ _ _ _ _ (hV1 [] 40 _ _ _ _ _ _ ?_)
  conv => whnf
  cases b with
  | false =>
    refine ⟨fun _ => ?_, fun e => absurd rfl e⟩
    conv => whnf
    refine ⟨pk_in o 10 (by omega), ?_⟩
    conv => whnf
    rw [hco]
    refine ⟨x, n, l, m, q, 2 * s_lo A, s_fs A, N, ks, rb, rfl, rfl, ?_, c5.2.2.1, d4, fun m' hm' => ?_⟩
    · show [Sum.inl (l.2.1 o)] = _
      rw [show l.2.1 o = nI rb from d5]
    conv => whnf
    refine ⟨fun e => absurd e (by decide), ?_⟩
    rw [pnc_isub, kN_eq (rL_enu c5), d6]
    refine ans_ret h (A := A) ?_ ⟨c1, c2, c3, c4, Or.inl ⟨N, ks, c5.1, c5.2.1, hm', c5.2.2.2⟩⟩
    unfold sizS
    rw [if_pos e1, hco]
    rfl
  | true =>
    refine ⟨fun e => absurd e (by decide), fun _ => ?_⟩
    conv => whnf
    refine ⟨pk_in o 10 (by omega), ?_⟩
    conv => whnf
    rw [hco]
    refine ⟨x, n, l, m, q, 2 * s_lo A, s_fs A, N, ks, ra, rfl, rfl, ?_, c5.2.2.1, d1, fun m' hm' => ?_⟩
    · show [Sum.inl (l.1 o)] = _
      rw [show l.1 o = nI ra from d2]
    conv => whnf
    refine ⟨fun e => absurd e (by decide), ?_⟩
    rw [pnc_isub, kN_eq (rL_enu c5), d3]
    refine ans_ret h (A := A) ?_ ⟨c1, c2, c3, c4, Or.inl ⟨N, ks, c5.1, c5.2.1, hm', c5.2.2.2⟩⟩
    unfold sizS
    rw [if_pos e1, hco]
    rfl
def sp_C_known : cx_S := cx_self 3 (fun j r ws R => ∃ x n l m q A o, ws = wd x n l m q ∧ j = 0 ∧ r = [.inl o] ∧ rC A x n l m ∧ ans eI (knoS A o) q ws R)
theorem pu_C_known : ∀ as ws Rq, sp_C_known as ws Rq → cx_cats as ≤ 2 ∧ ∀ V, cx_cl1 t_C_known [(sp_C_requireLaidOut, 2, 1, 6), (sp_L_knownChoices, 2, 0, 0)] [] [] 1 6 Rq V → V 0 (cx_lv0 as 2) [] ws 0 0 := by
  intro as ws Rq h0
  obtain ⟨j, r, fs0, rfl, hj, x, n, l, m, q, A, o, rfl, rfl, rfl, hC, h⟩ := cx_self_spec h0
  refine ⟨Nat.le_of_ble_eq_true rfl, fun V hV => hV [] 40 _ _ _ _ _ _ ?_⟩
  have hC2 := hC
  obtain ⟨c1, c2, c3, c4, c5⟩ := hC2
  have hln : l_n l = nI (s_lo A) := rLy_n c5
  have lo10 : s_lo A ≤ 10 := rLy_10 c5
  conv => whnf
  refine ⟨x, n, l, m, q, o, rfl, rfl, rfl, fun e1 => ?_, fun e1 => ?_⟩
  rotate_left
  · rw [hln] at e1
    have e2 : knoS A o = (0 + 1, 0, A) := by
      unfold knoS
      rw [if_neg (by rw [e1]; simp)]
    exact ans_thr h e2
  rw [hln] at e1
  obtain ⟨o, ho, rfl⟩ := hg_of (by omega) e1
  conv => whnf
  refine ⟨x, n, l, m, q, s_lo A, s_fs A, o, rfl, rfl, rfl, rLy_in c5 ho, ho, ?_⟩
  conv => whnf
  refine ⟨fun e => absurd e (by decide), ans_ret h (A := A) ?_ hC⟩
  unfold knoS
  rw [if_pos e1, nx_c (show o < 2 ^ 31 by omega)]
def sp_C_doubt : cx_S := cx_self 3 (fun j r ws R => ∃ x n l m q A c, ws = wd x n l m q ∧ j = 0 ∧ r = [.inl c] ∧ rC A x n l m ∧ ans eI (douS A c) q ws R)
theorem pu_C_doubt : ∀ as ws Rq, sp_C_doubt as ws Rq → cx_cats as ≤ 2 ∧ ∀ V, cx_cl1 t_C_doubt [(sp_C_requireChoice, 1, 1, 6), (sp_L_firstDoubtFrom, 2, 0, 0)] [] [] 1 6 Rq V → V 0 (cx_lv0 as 2) [] ws 0 0 := by
  intro as ws Rq h0
  obtain ⟨j, r, fs0, rfl, hj, x, n, l, m, q, A, c, rfl, rfl, rfl, hC, h⟩ := cx_self_spec h0
  refine ⟨Nat.le_of_ble_eq_true rfl, fun V hV => hV [] 40 _ _ _ _ _ _ ?_⟩
  have hC2 := hC
  obtain ⟨c1, c2, c3, c4, c5⟩ := hC2
  conv => whnf
  refine ⟨c, rfl, fun e1 => ?_, fun e1 => ?_⟩
  rotate_left
  · have e2 : douS A c = (0 + 1, 0, A) := by
      unfold douS
      rw [if_neg (by rw [e1]; simp)]
    exact ans_thr h e2
  obtain ⟨c, hc, rfl⟩ := hg_256 e1
  conv => whnf
  refine ⟨x, n, l, m, q, s_lo A, s_fs A, c, rfl, rfl, rfl, ⟨rLy_10 c5, rLy_n c5, rLy_kn c5⟩, hc, ?_⟩
  conv => whnf
  refine ⟨fun e => absurd e (by decide), ans_ret h (A := A) ?_ hC⟩
  unfold douS
  rw [if_pos e1, nx_c (show c < 2 ^ 31 by omega)]
def sp_C_value : cx_S := cx_self 3 (fun j r ws R => ∃ x n l m q A g c, ws = wd x n l m q ∧ j = 0 ∧ r = [.inl g, .inl c] ∧ rC A x n l m ∧ ans eI (valS A g c) q ws R)
theorem pu_C_value : ∀ as ws Rq, sp_C_value as ws Rq → cx_cats as ≤ 3 ∧ ∀ V2 V1, cx_cl2 (t_C_value.take 8) (t_C_value.drop 8) [(sp_N_hasGate, 2, 0, 0), (sp_C_requireChoice, 1, 1, 6), (sp_N_valueOn, 3, 0, 0)] [(sp_N_hasGate, 2, 0, 0), (sp_C_requireChoice, 1, 1, 6), (sp_N_valueOn, 3, 0, 0)] x_C_value [] 1 6 Rq V2 V1 → V2 0 (cx_lv0 as 3) [] ws 0 0 := by
  intro as ws Rq h0
  obtain ⟨j, r, fs0, rfl, hj, x, n, l, m, q, A, g, c, rfl, rfl, rfl, hC, h⟩ := cx_self_spec h0
  refine ⟨Nat.le_of_ble_eq_true rfl, fun V2 V1 hV => ?_⟩
  obtain ⟨hV2, hV1, hL⟩ := hV
  obtain ⟨c1, c2, c3, c4, c5⟩ := hC
  have hgg : n.2.2.2.2.2.2.2.2.1 = nI (a_g (s_a A)) := c1.1.2.1
  have g120 := c1.1.1.1
  refine hV2 [25] 40 _ _ _ _ _ _ ?_
  conv => whnf
  refine ⟨x, n, l, m, q, g, rfl, rfl, rfl, ?_⟩
  rw [hgg]
  conv => whnf
  refine ⟨fun e => ?_, fun e => ?_⟩
  · have hg1 := b2_ne0.mp e
    obtain ⟨g, hg2, rfl⟩ := hg_of (by omega) hg1
    have hcg : (nI g).toNatClampNeg = g := nx_c (by omega)
    conv => whnf
    refine ⟨c, rfl, fun e2 => ?_, fun e2 => ?_⟩
    rotate_left
    · have e3 : valS A (nI g) c = (0 + 1, 0, A) := by
        unfold valS
        rw [if_neg (by rw [e2]; simp)]
      exact ans_thr h e3
    obtain ⟨c, hc, rfl⟩ := hg_256 e2
    refine hL _ _ _ _ _ _ (hV1 [] 40 _ _ _ _ _ _ ?_)
    conv => whnf
    refine ⟨x, n, l, m, q, s_a A, g, c, rfl, rfl, rfl, c1, hg2, hc, fun n' hn' => ?_⟩
    conv => whnf
    refine ⟨fun e => absurd e (by decide), ans_ret h (A := A) ?_ ⟨hn', c2, c3, c4, c5⟩⟩
    unfold valS
    rw [hg1, e2, if_pos (show (true && true) = true from rfl), hcg, nx_c (show c < 2 ^ 31 by omega)]
  · conv => whnf
    have e2 : valS A g c = (0 + 1, 0, A) := by
      unfold valS
      rw [if_neg (by rw [b2_eq0.mp e]; simp)]
    exact ans_thr h e2
def sp_C_count : cx_S := cx_self 3 (fun j r ws R => ∃ x n l m q A w, ws = wd x n l m q ∧ j = 0 ∧ r = [.inl w] ∧ rC A x n l m ∧ ans eI (cntS A w) q ws R)
theorem pu_C_count : ∀ as ws Rq, sp_C_count as ws Rq → cx_cats as ≤ 2 ∧ ∀ V, cx_cl1 t_C_count [(sp_M_total, 1, 0, 0)] [] w_C_count 0 0 Rq V → V 0 (cx_lv0 as 2) [] ws 0 0 := by
  intro as ws Rq h0
  obtain ⟨j, r, fs0, rfl, hj, x, n, l, m, q, A, w, rfl, rfl, rfl, hC, h⟩ := cx_self_spec h0
  refine ⟨Nat.le_of_ble_eq_true rfl, fun V hV => hV [] 40 _ _ _ _ _ _ ?_⟩
  have hC2 := hC
  obtain ⟨c1, c2, c3, c4, c5⟩ := hC2
  have go : ∀ v, cntS A w = (0, v, A) → Rq (.inl (some (.inl v))) (wd x n l m q) := fun v e => ans_ret h e hC
  conv => whnf
  refine ⟨fun e => ?_, ?_⟩
  · conv => whnf
    refine ⟨fun e => absurd e (by decide), go _ ?_⟩
    have ne : ∀ k : Nat, k < 7 → w ≠ nI k := fun k hk e2 => by
      subst e2
      rw [nI_toInt (by omega)] at e
      rcases e with e | e
      · omega
      · have : ([44, 52, 60, 68, 73, 81, 92] : List Nat).length = 7 := rfl
        rw [this] at e
        omega
    unfold cntS
    rw [if_neg (show ¬ w = 0 from ne 0 (by omega)), if_neg (show ¬ w = 1 from ne 1 (by omega)), if_neg (show ¬ w = 2 from ne 2 (by omega)), if_neg (show ¬ w = 3 from ne 3 (by omega)), if_neg (show ¬ w = 4 from ne 4 (by omega)), if_neg (show ¬ w = 5 from ne 5 (by omega)), if_neg (show ¬ w = 6 from ne 6 (by omega))]
  refine ⟨fun e => ?_, fun e => ?_, fun e => ?_, fun e => ?_, fun e => ?_, fun e => ?_, fun e => ?_, trivial⟩
  · subst e
    conv => whnf
    refine ⟨fun e => absurd e (by decide), ?_⟩
    rw [show n.2.2.2.2.2.2.2.2.1 = nI (a_g (s_a A)) from c1.1.2.1]
    exact go _ rfl
  · subst e
    conv => whnf
    refine ⟨fun e => absurd e (by decide), ?_⟩
    rw [show n.2.2.2.2.2.2.2.2.2.1 = nI (a_f (s_a A)) from c1.1.2.2.1]
    exact go _ rfl
  · subst e
    conv => whnf
    refine ⟨fun e => absurd e (by decide), ?_⟩
    rw [show n.2.2.2.2.2.2.2.2.2.2.1 = nI (a_i (s_a A)) from c1.1.2.2.2.1]
    exact go _ rfl
  · subst e
    conv => whnf
    refine ⟨fun e => absurd e (by decide), ?_⟩
    rw [c3]
    exact go _ rfl
  · subst e
    conv => whnf
    refine ⟨fun e => absurd e (by decide), ?_⟩
    rw [show l.2.2.2 = nI (s_lo A) from rLy_n c5]
    exact go _ rfl
  · subst e
    conv => whnf
    refine ⟨x, n, l, m, q, rfl, rfl, rfl, ?_⟩
    have e : m.2.2.2.2.2.2.2.2.2.1 - 2 = nI (kN (2 * s_lo A) (s_fs A) (fun _ => true)) := rLy_t c5
    rw [e]
    conv => whnf
    exact ⟨fun e => absurd e (by decide), go _ rfl⟩
  · subst e
    conv => whnf
    refine ⟨fun e => absurd e (by decide), ?_⟩
    rw [show m.2.2.2.2.2.2.2.2.2.2 = _ from rLy_lg c5]
    exact go _ rfl
