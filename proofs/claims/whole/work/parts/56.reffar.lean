/-! The reference lays out: what the tables take, how far they go. -/
theorem fix_sub {w w' : Nat → Int64} {T i k b : Nat} {g : Ky} (hg : tw w (20 + i) = g) (hk : fd g = k) (hk8 : k < 8) (hb : b < 2) (h : ∀ d, d < 256 → tw w' (20 + T) d = tw w (20 + i) (fxx k b d)) : tw w' (20 + T) = sub g (k + 1) b := nf_ext (nf_tw _ _) (nf_sub _ _ _) (fun d hd => by
  rw [h d hd, hg]
  have := fd_dk g
  rw [hk] at this
  exact fxx_sub hk8 hb this hd)
set_option maxRecDepth 100000 in
set_option maxHeartbeats 4000000 in
theorem ly_child {V : cx_K} {Rq : cx_R} (hV : cx_cl1 t_R_lay lySp [] [] 0 0 Rq V) {x : wX} {n : wN} {l : wL} {m : wM} {q : List cx_C} {A : aS}
    (hK : ∀ t T ks, ixs A T ks t → (∀ j, j < 2 * s_on A → ixT T ks (fsN (s_a A) (s_nm A) j) (rt_ro t j)) → chR T T ks (rt_lo t) (rt_hi t) → ∀ s2 s3 s4, V 247 [some (.inr (.inr (.inl 25))), some (.inl (prI 8)), s2, s3, s4] [] (wd x n l m (wq t q)) 0 0) :
    ∀ (d i : Nat) (t : wR) (T : Nat) (ks : Nat → Ky), i + d = 874 → i ≤ T → ixs A T ks t → (∀ j, j < 2 * s_on A → ixT T ks (fsN (s_a A) (s_nm A) j) (rt_ro t j)) → chR T i ks (rt_lo t) (rt_hi t) → lyF V x n l m q 180 i t := by
  intro d
  induction d with
  | zero =>
    intro i t T ks hd hi hx h1 h2 s2 s3 s4
    have hT := hx.2.1.1
    refine hV [247] 60 _ _ _ _ _ _ ?_
    conv => whnf
    refine pk_le T i (fun _ => ?_) (fun _ => by omega) hx.2.1.2.1
    conv => whnf
    have : i = T := by omega
    subst this
    exact hK t i ks hx h1 h2 s2 s3 s4
  | succ d ih =>
    intro i t T ks hd hi hx h1 h2 s2 s3 s4
    have hT := hx.2.1.1
    have on10 := hx.1.2.1
    refine hV [247, 180] 80 _ _ _ _ _ _ ?_
    conv => whnf
    refine pk_le T i (fun h3 => ?_) (fun h3 => ?_) hx.2.1.2.1
    · conv => whnf
      have : i = T := by omega
      subst this
      exact hK t i ks hx h1 h2 s2 s3 s4
    have e20 : (20 : Int32) + nI i = nI (20 + i) := by rw [show (20 : Int32) = nI 20 from rfl, nI_add]
    obtain ⟨f1, f2, f3⟩ := hx.2.1.2.2.2 i h3
    have hci : (nI i).toNatClampNeg = i := nx_c (by omega)
    have ini_ : vp_in (nI i) 2000 := pk_in i 2000 (by omega)
    conv => whnf
    refine ⟨ini_, ?_⟩
    conv => whnf
    rw [e20, hci]
    dsimp only
    rw [show t.2.2.1.2.2.2.2 i = nI (fd (ks i)) from f3]
    refine ⟨x, n, l, m, t, q, 20 + i, fd (ks i), 0, T, rfl, rfl, rfl, by omega, f1, by omega, hx.2.1.2.1, hT, by omega, fun w k1 k2 => ?_⟩
    have hx2 := ixs_fs hx k1
    have g1 : tw w (20 + T) = sub (ks i) (fd (ks i) + 1) 0 := fix_sub (hx.2.2.1 i h3) rfl f1 (by omega) k2
    conv => whnf
    refine ⟨x, n, l, m, ru_w t w, q, 2 * s_on A, fsN (s_a A) (s_nm A), T, ks, rfl, rfl, rfl, by omega, hx2.2.1, hx2.2.2.1, ?_, fun T1 ks1 in1 tb1 v1 c1 c2 c3 c4 c5 => ?_⟩
    · show memK _ _ (tw w (20 + T))
      rw [g1]
      exact mem_child f2 f1 (by omega)
    have c5' : ixT T1 ks1 (sub (ks i) (fd (ks i) + 1) 0) v1 := by
      have : tw (rt_w (ru_w t w)) (20 + T) = sub (ks i) (fd (ks i) + 1) 0 := g1
      rw [this] at c5
      exact c5
    conv => whnf
    refine ⟨ini_, ?_⟩
    conv => whnf
    rw [hci]
    have hx3 : ixs A T1 ks1 (t.1, t.2.1, (rt_va t, rt_la t, tb1, w, in1), (upd (rt_lo t) i v1, rt_hi t, rt_far t, rt_ro t, rt_mk t)) := ⟨hx.1, c1, c4, hx2.2.2.2⟩
    have hT1 := c1.1
    obtain ⟨p1, p2, p3⟩ := c1.2.2.2 i (by omega)
    have ek : ks1 i = ks i := c3 i h3
    refine ⟨ini_, ?_⟩
    conv => whnf
    dsimp only
    rw [e20, show (ru_tb (ru_in (ru_w t w) in1) tb1).2.2.1.2.2.2.2 i = nI (fd (ks i)) from (by rw [← ek]; exact p3)]
    refine ⟨x, n, l, m, (t.1, t.2.1, (rt_va t, rt_la t, tb1, w, in1), (upd (rt_lo t) i v1, rt_hi t, rt_far t, rt_ro t, rt_mk t)), q, 20 + i, fd (ks i), 1, T1, rfl, rfl, rfl, by omega, f1, by omega, c1.2.1, hT1, by omega, fun w' k3 k4 => ?_⟩
    have hx4 := ixs_fs hx3 k3
    have g2 : tw w' (20 + T1) = sub (ks i) (fd (ks i) + 1) 1 := fix_sub ((c4 i (by omega)).trans ek) rfl f1 (by omega) k4
    conv => whnf
    refine ⟨x, n, l, m, (t.1, t.2.1, (rt_va t, rt_la t, tb1, w', in1), (upd (rt_lo t) i v1, rt_hi t, rt_far t, rt_ro t, rt_mk t)), q, 2 * s_on A, fsN (s_a A) (s_nm A), T1, ks1, rfl, rfl, rfl, by omega, hx4.2.1, hx4.2.2.1, ?_, fun T2 ks2 in2 tb2 v2 d1 d2 d3 d4 d5 => ?_⟩
    · show memK _ _ (tw w' (20 + T1))
      rw [g2]
      exact mem_child f2 f1 (by omega)
    have d5' : ixT T2 ks2 (sub (ks i) (fd (ks i) + 1) 1) v2 := by
      have : tw (rt_w ((t.1, t.2.1, (rt_va t, rt_la t, tb1, w', in1), (upd (rt_lo t) i v1, rt_hi t, rt_far t, rt_ro t, rt_mk t)) : wR)) (20 + T1) = sub (ks i) (fd (ks i) + 1) 1 := g2
      rw [this] at d5
      exact d5
    conv => whnf
    refine ⟨ini_, ?_⟩
    conv => whnf
    rw [hci, nI_1]
    have ek2 : ∀ p, p < T → ks2 p = ks p := fun p hp => (d3 p (by omega)).trans (c3 p hp)
    refine ih (i + 1) (t.1, t.2.1, (rt_va t, rt_la t, tb2, w', in2), (upd (rt_lo t) i v1, upd (rt_hi t) i v2, rt_far t, rt_ro t, rt_mk t)) T2 ks2 (by omega) (by omega) ⟨hx.1, d1, d4, hx4.2.2.2⟩ (fun j hj => ixT_up (h1 j hj) (by omega) ek2) (fun p hp => ?_) s2 s3 s4
    show ixT T2 ks2 (sub (ks2 p) (fd (ks2 p) + 1) 0) (upd (rt_lo t) i v1 p) ∧ ixT T2 ks2 (sub (ks2 p) (fd (ks2 p) + 1) 1) (upd (rt_hi t) i v2 p)
    rw [ek2 p (by omega)]
    by_cases ep : p = i
    · subst ep
      rw [pk_us, pk_us]
      exact ⟨ixT_up c5' d2 d3, d5'⟩
    · rw [pk_un ep, pk_un ep]
      obtain ⟨r1, r2⟩ := h2 p (by omega)
      exact ⟨ixT_up r1 (by omega) ek2, ixT_up r2 (by omega) ek2⟩
set_option maxRecDepth 100000 in
set_option maxHeartbeats 4000000 in
theorem ly_far {V : cx_K} {Rq : cx_R} (hV : cx_cl1 t_R_lay lySp [] [] 0 0 Rq V) {x : wX} {n : wN} {l : wL} {m : wM} {q : List cx_C} {T : Nat} {ks : Nat → Ky} {t : wR} (hT : T ≤ 874) (htb : rt_tb t = nI T) (hin : ∀ i, i < T → fd (ks i) < 8 ∧ rt_in t i = nI (fd (ks i))) (hch : chR T T ks (rt_lo t) (rt_hi t))
    (hK : ∀ far, (∀ i, i < T → far i = nI (dp 8 (ks i))) → Rq (.inl (some (.inl (nI T)))) (wd x n l m (wq (ru_far t far) q))) :
    ∀ (k : Nat) (far : Nat → Int32) (s2 s3 s4 : Option cx_V), k ≤ 8 → (∀ i, i < T → k ≤ fd (ks i) → far i = nI (dp 8 (ks i))) → V 247 [some (.inr (.inr (.inl 25))), some (.inl (prI k)), s2, s3, s4] [] (wd x n l m (wq (ru_far t far) q)) 0 0 := by
  intro k
  induction k with
  | zero =>
    intro far s2 s3 s4 hk h1
    refine hV [] 60 _ _ _ _ _ _ ?_
    conv => whnf
    rw [prI_0]
    refine ⟨fun _ => ?_, fun e => absurd (by decide) e⟩
    conv => whnf
    refine ⟨fun e => absurd e (by decide), ?_⟩
    rw [show (ru_far t far).2.2.1.2.2.1 = nI T from htb]
    exact hK far (fun i hi => h1 i hi (Nat.zero_le _))
  | succ k ih =>
    intro far s2 s3 s4 hk h1
    rw [prI_s]
    have inner : ∀ (d i : Nat) (far : Nat → Int32) (s3 s4 : Option cx_V), i + d = T → (∀ p, p < T → k + 1 ≤ fd (ks p) → far p = nI (dp 8 (ks p))) → (∀ p, p < i → fd (ks p) = k → far p = nI (dp 8 (ks p))) → V 253 [some (.inr (.inr (.inl 25))), some (.inl (nI k)), some (.inl (nI i)), s3, s4] [] (wd x n l m (wq (ru_far t far) q)) 0 0 := by
      intro d
      induction d with
      | zero =>
        intro i far s3 s4 hd h2 h3
        refine hV [247] 60 _ _ _ _ _ _ ?_
        conv => whnf
        refine pk_le T i (fun _ => ?_) (fun _ => by omega) htb
        conv => whnf
        rw [nI_m1]
        refine ih far _ s3 s4 (by omega) (fun p hp hpk => ?_)
        by_cases e : fd (ks p) = k
        · exact h3 p (by omega) e
        · exact h2 p hp (by omega)
      | succ d ih2 =>
        intro i far s3 s4 hd h2 h3
        have hi : i < T := by omega
        obtain ⟨f1, f2⟩ := hin i hi
        obtain ⟨c0, c1⟩ := hch i hi
        have ini_ : vp_in (nI i) 2000 := pk_in i 2000 (by omega)
        have hci : (nI i).toNatClampNeg = i := nx_c (by omega)
        have next : ∀ (far' : Nat → Int32) (s3 s4 : Option cx_V), (∀ p, p ≠ i → far' p = far p) → (fd (ks i) = k → far' i = nI (dp 8 (ks i))) → (fd (ks i) ≠ k → far' i = far i) → V 344 [some (.inr (.inr (.inl 25))), some (.inl (nI k)), some (.inl (nI i)), s3, s4] [] (wd x n l m (wq (ru_far t far') q)) 0 0 := by
          intro far' s3 s4 g1 g2 g3
          refine hV [253] 60 _ _ _ _ _ _ ?_
          conv => whnf
          rw [nI_1]
          refine ih2 (i + 1) far' s3 s4 (by omega) (fun p hp hpk => ?_) (fun p hp hpk => ?_)
          · by_cases e : p = i
            · subst e; rw [g3 (by omega)]; exact h2 p hp hpk
            · rw [g1 p e]; exact h2 p hp hpk
          · by_cases e : p = i
            · subst e; exact g2 hpk
            · rw [g1 p e]; exact h3 p (by omega) hpk
        have at314 : ∀ a b : Int32, (fd (ks i) = k → a = nI (dp 8 (sub (ks i) (fd (ks i) + 1) 0)) ∧ b = nI (dp 8 (sub (ks i) (fd (ks i) + 1) 1))) → V 314 [some (.inr (.inr (.inl 25))), some (.inl (nI k)), some (.inl (nI i)), some (.inl a), some (.inl b)] [] (wd x n l m (wq (ru_far t far) q)) 0 0 := by
          intro a b hab
          refine hV [344] 60 _ _ _ _ _ _ ?_
          conv => whnf
          refine ⟨ini_, ?_⟩
          conv => whnf
          rw [hci]
          dsimp only
          rw [show (ru_far t far).2.2.1.2.2.2.2 i = nI (fd (ks i)) from f2]
          refine ⟨fun e => ?_, fun e => ?_⟩
          · have e2 : fd (ks i) ≠ k := fun q => e (by rw [q])
            exact next far _ _ (fun p _ => rfl) (fun q => absurd q e2) (fun _ => rfl)
          · have e2 : fd (ks i) = k := by
              rw [nI_eq (by omega) (by omega)] at e
              exact e
            obtain ⟨ha, hb⟩ := hab e2
            subst ha hb
            have l0 := dp_le 8 (sub (ks i) (fd (ks i) + 1) 0)
            have l1 := dp_le 8 (sub (ks i) (fd (ks i) + 1) 1)
            have fin : ∀ v, v = nI (dp 8 (ks i)) → V 344 [some (.inr (.inr (.inl 25))), some (.inl (nI k)), some (.inl (nI i)), some (.inl (nI (dp 8 (sub (ks i) (fd (ks i) + 1) 0)))), some (.inl (nI (dp 8 (sub (ks i) (fd (ks i) + 1) 1))))] [] (wd x n l m (wq (ru_far t (upd far i v)) q)) 0 0 := fun v hv => next (upd far i v) _ _ (fun p hp => pk_un hp) (fun _ => pk_us.trans hv) (fun q => absurd e2 q)
            conv => whnf
            refine pk_le (dp 8 (sub (ks i) (fd (ks i) + 1) 0)) (dp 8 (sub (ks i) (fd (ks i) + 1) 1)) (fun h4 => ?_) (fun h4 => ?_)
            · conv => whnf
              refine ⟨ini_, ?_⟩
              conv => whnf
              rw [hci]
              refine fin _ ?_
              rw [dp_step f1, show (1 : Int32) = nI 1 from rfl, nI_add]
              congr 2
              omega
            · conv => whnf
              refine ⟨ini_, ?_⟩
              conv => whnf
              rw [hci]
              refine fin _ ?_
              rw [dp_step f1, show (1 : Int32) = nI 1 from rfl, nI_add]
              congr 2
              omega
        have val0 : ∀ (g : Ky) (v : Int32), ixT T ks g v → fd (ks i) + 1 ≤ fd g → (v = -1 → fd (ks i) = k → (0 : Int32) = nI (dp 8 g)) ∧ (v ≠ -1 → vp_in v 2000 ∧ (fd (ks i) = k → far v.toNatClampNeg = nI (dp 8 g))) := by
          intro g v hix hge
          rcases hix with ⟨q1, q2⟩ | ⟨p, q1, q2, q3⟩
          · refine ⟨fun _ _ => by rw [dp_const q1]; rfl, fun e => absurd q2 e⟩
          · subst q3
            refine ⟨fun e => ?_, fun _ => ⟨pk_in p 2000 (by omega), fun e => ?_⟩⟩
            · exfalso
              have := nI_toInt (n := p) (by omega)
              rw [e] at this
              have h1 : (-1 : Int32).toInt = -1 := by decide
              rw [h1] at this
              omega
            · rw [nx_c (by omega), ← q2]
              exact h2 p q1 (by rw [q2]; omega)
        obtain ⟨a1, a2⟩ := val0 _ _ c0 (fd_sub_ge (by omega))
        obtain ⟨b1, b2⟩ := val0 _ _ c1 (fd_sub_ge (by omega))
        have at287 : ∀ a : Int32, (fd (ks i) = k → a = nI (dp 8 (sub (ks i) (fd (ks i) + 1) 0))) → V 287 [some (.inr (.inr (.inl 25))), some (.inl (nI k)), some (.inl (nI i)), some (.inl a), s4] [] (wd x n l m (wq (ru_far t far) q)) 0 0 := by
          intro a ha
          refine hV [314] 60 _ _ _ _ _ _ ?_
          conv => whnf
          refine ⟨ini_, ?_⟩
          conv => whnf
          rw [hci]
          refine ⟨fun e => ?_, fun e => ?_⟩
          · conv => whnf
            refine ⟨ini_, ?_⟩
            conv => whnf
            rw [hci]
            refine ⟨(b2 e).1, ?_⟩
            conv => whnf
            exact at314 a _ (fun q => ⟨ha q, (b2 e).2 q⟩)
          · conv => whnf
            exact at314 a 0 (fun q => ⟨ha q, b1 e q⟩)
        refine hV [287] 60 _ _ _ _ _ _ ?_
        conv => whnf
        refine pk_le T i (fun _ => by omega) (fun _ => ?_) htb
        conv => whnf
        refine ⟨ini_, ?_⟩
        conv => whnf
        rw [hci]
        refine ⟨fun e => ?_, fun e => ?_⟩
        · conv => whnf
          refine ⟨ini_, ?_⟩
          conv => whnf
          rw [hci]
          refine ⟨(a2 e).1, ?_⟩
          conv => whnf
          exact at287 _ (fun q => (a2 e).2 q)
        · conv => whnf
          exact at287 0 (fun q => a1 e q)
    refine hV [253] 60 _ _ _ _ _ _ ?_
    conv => whnf
    refine ⟨fun e => absurd e (nI_pos (by omega)), fun _ => ?_⟩
    conv => whnf
    rw [← nI_0]
    exact inner T 0 far s3 s4 (by omega) h1 (fun p hp => by omega)
theorem ru_far_self (t : wR) : ru_far t (rt_far t) = t := rfl
set_option maxRecDepth 100000 in
set_option maxHeartbeats 4000000 in
theorem pu_R_lay : ∀ as ws Rq, sp_R_lay as ws Rq → cx_cats as ≤ 5 ∧ ∀ V, cx_cl1 t_R_lay lySp [] [] 0 0 Rq V → V 0 (cx_lv0 as 5) [] ws 0 0 := by
  intro as ws Rq h0
  obtain ⟨j, r, fs0, rfl, hj, x, n, l, m, t, q, A, rfl, rfl, rfl, hR, h⟩ := cx_self_spec h0
  refine ⟨Nat.le_of_ble_eq_true rfl, fun V hV => ?_⟩
  obtain ⟨h1, h2, h3, h4, h5⟩ := hR
  have st4 : ∀ t T ks, ixs A T ks t → (∀ j, j < 2 * s_on A → ixT T ks (fsN (s_a A) (s_nm A) j) (rt_ro t j)) → chR T T ks (rt_lo t) (rt_hi t) → ∀ s2 s3 s4, V 247 [some (.inr (.inr (.inl 25))), some (.inl (prI 8)), s2, s3, s4] [] (wd x n l m (wq t q)) 0 0 := by
    intro t T ks hx hro hch s2 s3 s4
    have hm : ∀ i, i < T → fd (ks i) < 8 ∧ memK (2 * s_on A) (fsN (s_a A) (s_nm A)) (ks i) := fun i hi => ⟨(hx.2.1.2.2.2 i hi).1, (hx.2.1.2.2.2 i hi).2.1⟩
    have hen := tab_enu (fun j _ => nf_fsN (s_a A) (s_nm A) j) hx.2.1.2.2.1 hm hch hro
    have := ly_far hV (x := x) (n := n) (l := l) (m := m) (q := q) (T := T) (ks := ks) (t := t) hx.2.1.1 hx.2.1.2.1 (fun i hi => ⟨(hx.2.1.2.2.2 i hi).1, (hx.2.1.2.2.2 i hi).2.2⟩) hch (fun far hf => ?_) 8 (rt_far t) s2 s3 s4 (Nat.le_refl _) (fun i hi h8 => by have := (hm i hi).1; omega)
    · rw [ru_far_self] at this
      exact this
    · have e1 : nI T = nI (kN (2 * s_on A) (fsN (s_a A) (s_nm A)) (fun _ => true)) := by
        rw [← kN_eq hen, tab_total (J := 2 * s_on A) (fs := fsN (s_a A) (s_nm A)) (fun i hi => (hm i hi).1)]
      rw [e1]
      refine ansR_ret h (A := (s_a A, s_on A, s_nm A, s_on A, fsN (s_a A) (s_nm A))) rfl (t := ru_far t far) ⟨hx.1.1, hx.1.2.1, hx.1.2.2.1, hx.1.2.2.2.1, hx.1.2.1, hx.1.2.2.2.2.2, fun j hj => ⟨nf_fsN _ _ _, fun c hc => ?_⟩, T, ks, hx.2.1, fun i hi => ⟨(hch i hi).1, (hch i hi).2, hf i hi⟩, hro⟩ hx.1.2.2.2.2.1
      have e2 := congrFun (hx.2.2.2 j hj) c
      rw [tw_in hc] at e2
      exact e2
  have st3 : ∀ t T ks, ixs A T ks t → (∀ j, j < 2 * s_on A → ixT T ks (fsN (s_a A) (s_nm A) j) (rt_ro t j)) → lyF V x n l m q 180 0 t := fun t T ks hx hro => ly_child hV st4 874 0 t T ks (by omega) (Nat.zero_le _) hx hro (fun i hi => by omega)
  have st2 : ∀ t, bsR A t → rt_tb t = 0 → (∀ j, j < 2 * s_on A → tw (rt_w t) j = fsN (s_a A) (s_nm A) j) → lyF V x n l m q 113 0 t := fun t hb htb hw => ly_root hV st3 (2 * s_on A) 0 t 0 (fun _ => kF) (by omega) ⟨hb, ⟨Nat.zero_le _, htb, fun i hi => by omega, fun i hi => by omega⟩, fun i hi => by omega, hw⟩ (fun j hj => by omega)
  have st1 : ∀ t, bsR A t → rt_tb t = 0 → (∀ j, j < 20 → ∀ d, d < 256 → tw (rt_w t) j d = false) → lyF V x n l m q 39 0 t := fun t hb htb hw => ly_val hV st2 256 0 t (by omega) hb htb (fun j hj d hd => by rw [hw j (by have := hb.2.1; omega) d hd]; simp)
  refine hV [20] 60 _ _ _ _ _ _ ?_
  conv => whnf
  refine ⟨Or.inl rfl, ?_⟩
  conv => whnf
  refine ⟨Or.inl rfl, ?_⟩
  conv => whnf
  refine ⟨Or.inl rfl, ?_⟩
  conv => whnf
  rw [← nI_0]
  exact ly_empty hV st1 20 0 ((0, rt_g t, rt_f t, rt_i t, rt_on t), t.2.1, (rt_va t, rt_on t, 0, rt_w t, rt_in t), t.2.2.2) (by omega) ⟨h1, h2, h3, h4, rfl, h3⟩ rfl (fun j hj => by omega) none none none
