/-! settleGate: a gate is worked out anew on 64 choices. -/
def sp_N_settleGate : cx_S := cx_self 2 (fun j r ws R => ∃ x n l m q a g w v, ws = wd x n l m q ∧ j = 1 ∧ r = [.inl (nI g), .inl (nI w)] ∧ rS a n ∧ g < a_g a ∧ w < 4 ∧ encW a (n_hi n) (n_lo n) w v ∧
  ∀ (o z : Int64) (ch : Bool), (∀ b, b < 64 → lb o b = eH (made a g (v b)) ∧ lb z b = eL (made a g (v b))) → (ch = false → o = n_hi n g w ∧ z = n_lo n g w) →
    R (.inl (some (.inl (b2 ch)))) (wd x (n_so n, n_ff n, n_fo n, n_fr n, n_ne n, n_nx n, va_up (n_hi n) g (vp_updL (n_hi n g) w o), va_up (n_lo n) g (vp_updL (n_lo n g) w z), n_g n, n_f n, n_i n, n_st n) l m q))
set_option maxRecDepth 100000 in
set_option maxHeartbeats 4000000 in
theorem pu_N_settleGate : ∀ as ws Rq, sp_N_settleGate as ws Rq → cx_cats as ≤ 14 ∧ ∀ V, cx_cl1 t_N_settleGate [] [] [] 0 0 Rq V → V 0 (cx_lv0 as 14) [] ws 0 0 := by
  intro as ws Rq h0
  obtain ⟨j, r, fs, rfl, hj, x, n, l, m, q, a, g, w, v, rfl, rfl, rfl, ⟨hwf, hgg, hff, hii, hG, hK⟩, hg, hw, hen, h⟩ := cx_self_spec h0
  refine ⟨Nat.le_of_ble_eq_true rfl, fun V hV => ?_⟩
  obtain ⟨w1, w2, w3, w4, w5⟩ := hwf
  have hcg : (nI g).toNatClampNeg = g := nx_c (by omega)
  have hcw : (nI w).toNatClampNeg = w := nx_c (by omega)
  have ing : vp_in (nI g) 120 := vp_in_nI (by omega) (by omega)
  have inw : vp_in (nI w) 4 := vp_in_nI hw (by omega)
  obtain ⟨hso, hfi, -⟩ := hG g hg
  have fin2 : ∀ (o z : Int64) (ch : Bool) (o3 o4 o6 o8 : Option cx_V), (∀ b, b < 64 → lb o b = eH (made a g (v b)) ∧ lb z b = eL (made a g (v b))) → (ch = false → o = n_hi n g w ∧ z = n_lo n g w) →
      V 213 [some (.inr (.inr (.inl 1))), some (.inl (nI g)), some (.inl (nI w)), o3, o4, none, o6, none, o8, some (.inr (.inl o)), none, some (.inr (.inl z)), none, none] [.inl (b2 ch)] (wd x n l m q) 0 0 := by
    intro o z ch o3 o4 o6 o8 h1 h2
    have h3 := h o z ch h1 h2
    refine hV [] 60 _ _ _ _ _ _ ?_
    conv => whnf
    refine ⟨ing, ?_⟩
    conv => whnf
    refine ⟨⟨by rw [hcg]; show g < 120; omega, inw⟩, ?_⟩
    conv => whnf
    refine ⟨ing, ?_⟩
    conv => whnf
    refine ⟨⟨by rw [hcg]; show g < 120; omega, inw⟩, ?_⟩
    conv => whnf
    refine ⟨fun _ => b2_01 ch, ?_⟩
    rw [hcg, hcw]
    exact h3
  have fin : ∀ (acc : Nat → vl) (al an : Int64) (f8 i9 : Int32) (o10 o11 : Option cx_V), (∀ b, b < 64 → lb al b = eH (acc b) ∧ lb an b = eL (acc b)) → (∀ b, b < 64 → acc b = mad a g (v b) (a_f a)) →
      V 154 [some (.inr (.inr (.inl 1))), some (.inl (nI g)), some (.inl (nI w)), some (.inl (b2 (tr a g))), some (.inr (.inl al)), none, some (.inr (.inl an)), none, some (.inl f8), some (.inl i9), o10, o11, none, none] [] (wd x n l m q) 0 0 := by
    intro acc al an f8 i9 o10 o11 h1 h2
    have hm : ∀ b, b < 64 → lb (if tr a g then an else al) b = eH (made a g (v b)) ∧ lb (if tr a g then al else an) b = eL (made a g (v b)) := by
      intro b hb
      unfold made
      rw [eH_xr, eL_xr, ← h2 b hb]
      cases tr a g <;> simp [h1 b hb]
    refine hV [213] 60 _ _ _ _ _ _ ?_
    cases ht : tr a g with
    | true =>
      rw [ht] at hm
      conv => whnf
      refine ⟨fun e => absurd e (by decide), fun _ => ?_⟩
      conv => whnf
      refine ⟨fun e => absurd e (by decide), fun _ => ?_⟩
      conv => whnf
      refine ⟨ing, ?_⟩
      conv => whnf
      refine ⟨⟨by rw [hcg]; show g < 120; omega, inw⟩, ?_⟩
      conv => whnf
      rw [hcg, hcw]
      refine ⟨fun e1 => ?_, fun e1 => ?_⟩
      · conv => whnf
        exact fin2 an al true _ _ _ _ hm (fun e => by cases e)
      · conv => whnf
        refine ⟨ing, ?_⟩
        conv => whnf
        refine ⟨⟨by rw [hcg]; show g < 120; omega, inw⟩, ?_⟩
        conv => whnf
        rw [hcg, hcw]
        refine ⟨fun e2 => ?_, fun e2 => ?_⟩
        · conv => whnf
          exact fin2 an al false _ _ _ _ hm (fun _ => ⟨lc_eq.mp e1, lc_eq.mp e2⟩)
        · conv => whnf
          exact fin2 an al true _ _ _ _ hm (fun e => by cases e)
    | false =>
      rw [ht] at hm
      conv => whnf
      refine ⟨fun _ => ?_, fun e => absurd rfl e⟩
      conv => whnf
      refine ⟨fun _ => ?_, fun e => absurd rfl e⟩
      conv => whnf
      refine ⟨ing, ?_⟩
      conv => whnf
      refine ⟨⟨by rw [hcg]; show g < 120; omega, inw⟩, ?_⟩
      conv => whnf
      rw [hcg, hcw]
      refine ⟨fun e1 => ?_, fun e1 => ?_⟩
      · conv => whnf
        exact fin2 al an true _ _ _ _ hm (fun e => by cases e)
      · conv => whnf
        refine ⟨ing, ?_⟩
        conv => whnf
        refine ⟨⟨by rw [hcg]; show g < 120; omega, inw⟩, ?_⟩
        conv => whnf
        rw [hcg, hcw]
        refine ⟨fun e2 => ?_, fun e2 => ?_⟩
        · conv => whnf
          exact fin2 al an false _ _ _ _ hm (fun _ => ⟨lc_eq.mp e1, lc_eq.mp e2⟩)
        · conv => whnf
          exact fin2 al an true _ _ _ _ hm (fun e => by cases e)
  have loop : ∀ (d p i : Nat) (acc : Nat → vl) (al an : Int64) (o10 o11 : Option cx_V), p ≤ d → p + i ≤ a_f a → p = prv (a_to a) p g → (∀ b, b < 64 → lb al b = eH (acc b) ∧ lb an b = eL (acc b)) → (∀ b, b < 64 → and3 (mad a g (v b) p) (acc b) = mad a g (v b) (a_f a)) →
      V 35 [some (.inr (.inr (.inl 1))), some (.inl (nI g)), some (.inl (nI w)), some (.inl (b2 (tr a g))), some (.inr (.inl al)), none, some (.inr (.inl an)), none, some (.inl (prI p)), some (.inl (nI i)), o10, o11, none, none] [] (wd x n l m q) 0 0 := by
    intro d
    induction d with
    | zero =>
      intro p i acc al an o10 o11 hpd hpi hpp h1 h2
      have hp0 : p = 0 := by omega
      subst hp0
      refine hV [154] 60 _ _ _ _ _ _ ?_
      conv => whnf
      have h3 : ∀ b, b < 64 → acc b = mad a g (v b) (a_f a) := fun b hb => by
        have := h2 b hb
        rw [show mad a g (v b) 0 = some true from rfl, t_and3] at this
        exact this
      refine ⟨fun _ => ?_, fun _ => ?_⟩
      · conv => whnf
        exact fin acc al an _ _ _ _ h1 h3
      · conv => whnf
        refine ⟨fun _ => ?_, fun e => absurd prI_0 e⟩
        conv => whnf
        exact fin acc al an _ _ _ _ h1 h3
    | succ d ih =>
      intro p i acc al an o10 o11 hpd hpi hpp h1 h2
      cases p with
      | zero => exact ih 0 i acc al an o10 o11 (Nat.zero_le _) hpi hpp h1 h2
      | succ k =>
        have hk : k < a_f a := by omega
        have hto : a_to a k = g := prv_hit _ _ _ _ hpp.symm
        obtain ⟨hfr, hne, hnx⟩ := hK k hk
        obtain ⟨-, hfrg, -⟩ := w5 k hk
        have hck : (nI k).toNatClampNeg = k := nx_c (by omega)
        have hcf : (nI (a_fr a k)).toNatClampNeg = a_fr a k := nx_c (by omega)
        have ink : vp_in (nI k) 500 := vp_in_nI (by omega) (by omega)
        have inf : vp_in (nI (a_fr a k)) 120 := vp_in_nI (by omega) (by omega)
        rw [prI_s]
        refine hV [35] 60 _ _ _ _ _ _ ?_
        conv => whnf
        refine ⟨fun e => ?_, fun _ => ?_⟩
        · exfalso
          have e2 : nI (a_f a) ≤ nI i := by rw [← hff]; exact e
          rw [nI_leI (by omega) (by omega)] at e2
          omega
        conv => whnf
        refine ⟨fun e => ?_, fun _ => ?_⟩
        · exact absurd (by rw [prI_s]; exact e) (prI_ne (p := k) (by omega))
        conv => whnf
        refine ⟨ink, ?_⟩
        simp only [hck, hfr]
        conv => whnf
        refine ⟨ink, ?_⟩
        simp only [hck, hne]
        conv => whnf
        have hxy : b2 (a_ne a k) = b2 (tr a g) ↔ (a_ne a k ^^ tr a g) = false := by cases a_ne a k <;> cases tr a g <;> decide
        refine ⟨fun e0 => ?_, fun e0 => ?_⟩
        · have hsw : (a_ne a k ^^ tr a g) = false := hxy.mp e0
          conv => whnf
          refine ⟨fun e => ?_, fun e => absurd rfl e⟩
          conv => whnf
          refine ⟨inf, ?_⟩
          conv => whnf
          refine ⟨⟨by rw [hcf]; show a_fr a k < 120; omega, inw⟩, ?_⟩
          conv => whnf
          refine ⟨fun e => ?_, fun e => absurd rfl e⟩
          conv => whnf
          refine ⟨inf, ?_⟩
          conv => whnf
          refine ⟨⟨by rw [hcf]; show a_fr a k < 120; omega, inw⟩, ?_⟩
          conv => whnf
          refine ⟨ink, ?_⟩
          simp only [hck, hcf, hcw, hnx, hto]
          conv => whnf
          rw [nI_1]
          refine ih (prv (a_to a) k g) (i + 1) (fun b => and3 (tk a g (v b) k) (acc b)) _ _ _ _ ?_ ?_ ?_ ?_ ?_
          · have := prv_le (a_to a) g k
            omega
          · have := prv_le (a_to a) g k
            omega
          · exact (prv_idem _ _ _).symm
          · intro b hb
            obtain ⟨e1, e2⟩ := hen b hb (a_fr a k) hfrg
            obtain ⟨e3, e4⟩ := h1 b hb
            rw [lb_and, lb_or, eH_and, eL_and]
            unfold tk
            rw [eH_xr, eL_xr, hsw]
            simp only [e1, e2, e3, e4]
            exact ⟨Bool.and_comm _ _, Bool.or_comm _ _⟩
          · intro b hb
            rw [← mad_prv, ← h2 b hb, mad_hit hto, and3_assoc]
        · have hsw : (a_ne a k ^^ tr a g) = true := by
            cases hq : (a_ne a k ^^ tr a g) with
            | true => rfl
            | false => exact absurd (hxy.mpr hq) e0
          conv => whnf
          refine ⟨fun e => absurd e (by decide), fun e => ?_⟩
          conv => whnf
          refine ⟨inf, ?_⟩
          conv => whnf
          refine ⟨⟨by rw [hcf]; show a_fr a k < 120; omega, inw⟩, ?_⟩
          conv => whnf
          refine ⟨fun e => absurd e (by decide), fun e => ?_⟩
          conv => whnf
          refine ⟨inf, ?_⟩
          conv => whnf
          refine ⟨⟨by rw [hcf]; show a_fr a k < 120; omega, inw⟩, ?_⟩
          conv => whnf
          refine ⟨ink, ?_⟩
          simp only [hck, hcf, hcw, hnx, hto]
          conv => whnf
          rw [nI_1]
          refine ih (prv (a_to a) k g) (i + 1) (fun b => and3 (tk a g (v b) k) (acc b)) _ _ _ _ ?_ ?_ ?_ ?_ ?_
          · have := prv_le (a_to a) g k
            omega
          · have := prv_le (a_to a) g k
            omega
          · exact (prv_idem _ _ _).symm
          · intro b hb
            obtain ⟨e1, e2⟩ := hen b hb (a_fr a k) hfrg
            obtain ⟨e3, e4⟩ := h1 b hb
            rw [lb_and, lb_or, eH_and, eL_and]
            unfold tk
            rw [eH_xr, eL_xr, hsw]
            simp only [e1, e2, e3, e4]
            exact ⟨Bool.and_comm _ _, Bool.or_comm _ _⟩
          · intro b hb
            rw [← mad_prv, ← h2 b hb, mad_hit hto, and3_assoc]
  refine hV [35] 60 _ _ _ _ _ _ ?_
  conv => whnf
  refine ⟨ing, ?_⟩
  simp only [hcg, hso]
  conv => whnf
  have h3 : nI (a_so a g) = 3 ↔ tr a g = true := by
    rw [show (3 : Int32) = nI 3 from rfl, nI_eq (by rcases (w4 g hg).1 with e | e | e <;> omega) (by omega)]
    simp [tr]
  have st : ∀ (b : Bool), tr a g = b → V 35 [some (.inr (.inr (.inl 1))), some (.inl (nI g)), some (.inl (nI w)), some (.inl (b2 b)), some (.inr (.inl (-1))), none, some (.inr (.inl 0)), none, some (.inl (prI (prv (a_to a) (a_f a) g))), some (.inl 0), none, none, none, none] [] (wd x n l m q) 0 0 := by
    rintro b rfl
    rw [← nI_0]
    refine loop (a_f a) (prv (a_to a) (a_f a) g) 0 (fun _ => some true) (-1) 0 _ _ (prv_le _ _ _) (prv_le _ _ _) (prv_idem _ _ _).symm (fun b hb => ⟨lb_m1 hb, lb_0 b⟩) (fun b hb => ?_)
    rw [and3_t, ← mad_prv]
  refine ⟨fun e => ?_, fun e => ?_⟩
  · conv => whnf
    refine ⟨ing, ?_⟩
    simp only [hcg, hfi]
    conv => whnf
    exact st false (by
      cases hq : tr a g with
      | false => rfl
      | true => exact absurd (h3.mpr hq) e)
  · conv => whnf
    refine ⟨ing, ?_⟩
    simp only [hcg, hfi]
    conv => whnf
    exact st true (h3.mp e)
