/-! The reference: feeds and values. -/
def sp_R_feed : cx_S := cx_self 4 (fun j r ws R => ∃ x n l m t q A p f b, ws = wd x n l m (wq t q) ∧ j = 25 ∧ r = [.inl p, .inl f, .inl (b2 b)] ∧ rR A t ∧ ansR (feedS A p f b) x n l m q R)
set_option maxRecDepth 100000 in
set_option maxHeartbeats 4000000 in
theorem pu_R_feed : ∀ as ws Rq, sp_R_feed as ws Rq → cx_cats as ≤ 7 ∧ ∀ V, cx_cl1 t_R_feed [(sp_R_isGate, 2, 0, 0), (sp_R_fails, 3, 0, 0)] [] [] 0 0 Rq V → V 0 (cx_lv0 as 7) [] ws 0 0 := by
  intro as ws Rq h0
  obtain ⟨j, r, fs0, rfl, hj, x, n, l, m, t, q, A, p, f, b, rfl, rfl, rfl, hR, h⟩ := cx_self_spec h0
  refine ⟨Nat.le_of_ble_eq_true rfl, fun V hV => ?_⟩
  have hR2 := hR
  obtain ⟨⟨⟨w1, w2, w3, w4, w5⟩, a2, a3, a4, a5, a6⟩, b1, b2', b3, c0⟩ := hR2
  have no : (hg p (nI (a_g (s_a A))) && hg f (nI (a_g (s_a A)))) = false → V 20 [some (.inr (.inr (.inl 25))), some (.inl p), some (.inl f), some (.inl (b2 b)), none, none, none] [] (wd x n l m (wq t q)) 0 0 := by
    intro e
    refine hV [] 60 _ _ _ _ _ _ ?_
    conv => whnf
    refine ⟨fun e => absurd rfl e, fun _ => ?_⟩
    conv => whnf
    refine ⟨fun _ => ?_, fun e => absurd rfl e⟩
    conv => whnf
    refine ⟨x, n, l, m, t, q, true, false, 1, rfl, rfl, rfl, rfl, ?_⟩
    conv => whnf
    refine ⟨fun e => absurd e (by decide), fun _ => ?_⟩
    conv => whnf
    have e2 : feedS A p f b = (0 + 1, 0, A) := by
      unfold feedS
      rw [if_neg (by rw [e]; simp)]
    exact ⟨fun e => absurd e (by decide), ansR_thr h e2 (t := ru_th t 1) hR rfl⟩
  refine hV [20, 128] 120 _ _ _ _ _ _ ?_
  conv => whnf
  refine ⟨x, n, l, m, t, q, p, rfl, rfl, rfl, ?_⟩
  rw [a2]
  conv => whnf
  refine ⟨fun e => no (by rw [b2_eq0.mp e]; rfl), fun e => ?_⟩
  have hp := b2_ne0.mp e
  conv => whnf
  refine ⟨x, n, l, m, t, q, f, rfl, rfl, rfl, ?_⟩
  rw [a2]
  conv => whnf
  refine ⟨fun e => no (by rw [b2_eq0.mp e, Bool.and_false]), fun e => ?_⟩
  have hf := b2_ne0.mp e
  conv => whnf
  refine ⟨fun _ => ?_, fun e => absurd e (by decide)⟩
  conv => whnf
  refine ⟨fun e => absurd e (by decide), fun _ => ?_⟩
  conv => whnf
  refine ⟨fun e => absurd e (by decide), fun _ => ?_⟩
  obtain ⟨p, hp1, rfl⟩ := hg_of (by omega) hp
  obtain ⟨f, hf1, rfl⟩ := hg_of (by omega) hf
  have hcp : (nI p).toNatClampNeg = p := nx_c (by omega)
  have hcf : (nI f).toNatClampNeg = f := nx_c (by omega)
  have s3 := (w4 p hp1).1
  have hso : t.2.1.1 p = nI (a_so (s_a A) p) := (a5 p hp1).1
  conv => whnf
  refine ⟨pk_in p 120 (by omega), ?_⟩
  conv => whnf
  rw [hcp]
  dsimp only
  rw [hso]
  refine ⟨fun e => ?_, fun e => ?_⟩
  rotate_left
  · have hs0 : a_so (s_a A) p = 0 := by
      rw [show (0 : Int32) = nI 0 from rfl, nI_eq (by omega) (by omega)] at e
      exact e
    conv => whnf
    refine ⟨x, n, l, m, t, q, false, true, 2, rfl, rfl, rfl, rfl, ?_⟩
    conv => whnf
    refine ⟨fun e => absurd e (by decide), fun _ => ?_⟩
    conv => whnf
    have e2 : feedS A (nI p) (nI f) b = (1 + 1, 0, A) := by
      unfold feedS
      rw [hp, hf, hcp, if_pos (show (true && true) = true from rfl), if_pos hs0]
    exact ⟨fun e => absurd e (by decide), ansR_thr h e2 (t := ru_th t 2) hR rfl⟩
  have hs0 : a_so (s_a A) p ≠ 0 := fun q => e (by rw [q]; rfl)
  conv => whnf
  refine ⟨x, n, l, m, t, q, false, false, 0, rfl, rfl, rfl, rfl, ?_⟩
  conv => whnf
  refine ⟨fun _ => ?_, fun e => absurd rfl e⟩
  conv => whnf
  have eto : ∀ k, k < a_f (s_a A) → a_to (fedA (s_a A) p f b) k = a_to (s_a A) k := fun k hk => if_neg (by omega)
  have etf : a_to (fedA (s_a A) p f b) (a_f (s_a A)) = p := if_pos rfl
  refine ⟨fun e => ?_, fun e => ?_⟩
  rotate_left
  · have e' : a_f (s_a A) = 500 := by
      have e2 : nI (a_f (s_a A)) = nI 500 := a3.symm.trans e
      rw [nI_eq (by omega) (by omega)] at e2
      exact e2
    conv => whnf
    refine ⟨fun e => absurd e (by decide), ansR_ret h (A := A) ?_ (t := ru_th t 0) hR rfl⟩
    unfold feedS
    rw [hp, hf, hcp, if_pos (show (true && true) = true from rfl), if_neg hs0, if_pos e']
  have e' : a_f (s_a A) ≠ 500 := fun q => e (by rw [show (ru_th t 0).1.2.2.1 = nI (a_f (s_a A)) from a3, q]; rfl)
  have inf : vp_in (ru_th t 0).1.2.2.1 500 := pk_in (a_f (s_a A)) 500 (by omega) a3
  conv => whnf
  refine ⟨inf, ?_⟩
  conv => whnf
  refine ⟨inf, ?_⟩
  conv => whnf
  refine ⟨⟨inf, b2_01 b⟩, ?_⟩
  conv => whnf
  refine ⟨Or.inl rfl, ?_⟩
  conv => whnf
  rw [show (ru_th t 0).1.2.2.1 = nI (a_f (s_a A)) from a3, nx_c (show a_f (s_a A) < 2 ^ 31 by omega), nI_1, ← nI_0]
  have hT : rR (fedA (s_a A) p f b, A.2) ((0, rt_g t, nI (a_f (s_a A) + 1), rt_i t, rt_on t), (rt_so t, rt_nu t, upd (rt_to t) (a_f (s_a A)) (nI p), upd (rt_fr t) (a_f (s_a A)) (nI f), rt_nm t, upd (rt_ne t) (a_f (s_a A)) (b2 b)), (rt_va t, rt_la t, rt_tb t, rt_w t, rt_in t), (rt_lo t, rt_hi t, rt_far t, rt_ro t, rt_mk t)) := by
    refine ⟨⟨⟨w1, ?_, w3, w4, fun k hk => ?_⟩, a2, rfl, a4, a5, fun k hk => ?_⟩, b1, b2', b3, c0⟩
    · show a_f (s_a A) + 1 ≤ 500
      omega
    · have hk' : k < a_f (s_a A) + 1 := hk
      show a_to (fedA (s_a A) p f b) k < a_g (s_a A) ∧ (if k = a_f (s_a A) then f else a_fr (s_a A) k) < a_g (s_a A) ∧ a_so (s_a A) (a_to (fedA (s_a A) p f b) k) ≠ 0
      by_cases ek : k = a_f (s_a A)
      · subst ek
        rw [etf, if_pos rfl]
        exact ⟨hp1, hf1, hs0⟩
      · rw [eto k (by omega), if_neg ek]
        exact w5 k (by omega)
    · have hk' : k < a_f (s_a A) + 1 := hk
      show upd (rt_to t) (a_f (s_a A)) (nI p) k = nI (a_to (fedA (s_a A) p f b) k) ∧ upd (rt_fr t) (a_f (s_a A)) (nI f) k = nI (if k = a_f (s_a A) then f else a_fr (s_a A) k) ∧ upd (rt_ne t) (a_f (s_a A)) (b2 b) k = b2 (if k = a_f (s_a A) then b else a_ne (s_a A) k)
      by_cases ek : k = a_f (s_a A)
      · subst ek
        rw [etf, if_pos rfl, if_pos rfl]
        exact ⟨pk_us, pk_us, pk_us⟩
      · rw [eto k (by omega), if_neg ek, if_neg ek, pk_un ek, pk_un ek, pk_un ek]
        exact a6 k (by omega)
  generalize ht2 : (((0, rt_g t, nI (a_f (s_a A) + 1), rt_i t, rt_on t), (rt_so t, rt_nu t, upd (rt_to t) (a_f (s_a A)) (nI p), upd (rt_fr t) (a_f (s_a A)) (nI f), rt_nm t, upd (rt_ne t) (a_f (s_a A)) (b2 b)), (rt_va t, rt_la t, rt_tb t, rt_w t, rt_in t), (rt_lo t, rt_hi t, rt_far t, rt_ro t, rt_mk t)) : wR) = t2 at hT
  have fin : feedS A (nI p) (nI f) b = (0, nI (cnt (a_to (fedA (s_a A) p f b)) (a_f (s_a A) + 1) p), (fedA (s_a A) p f b, A.2)) := by
    unfold feedS
    rw [hp, hf, hcp, hcf, if_pos (show (true && true) = true from rfl), if_neg hs0, if_neg e']
  have t20 : rt_th t2 = 0 := by rw [← ht2]
  have loop : ∀ (d k : Nat), k + d = a_f (s_a A) + 1 → V 128 [some (.inr (.inr (.inl 25))), some (.inl (nI p)), some (.inl (nI f)), some (.inl (b2 b)), some (.inl 1), some (.inl (nI (cnt (a_to (fedA (s_a A) p f b)) k p))), some (.inl (nI k))] [] (wd x n l m (wq t2 q)) 0 0 := by
    intro d
    have tf : t2.1.2.2.1 = nI (a_f (s_a A) + 1) := hT.1.2.2.1
    induction d with
    | zero =>
      intro k hd
      refine hV [] 60 _ _ _ _ _ _ ?_
      conv => whnf
      refine pk_le (a_f (s_a A) + 1) k (fun _ => ?_) (fun _ => by omega) tf
      conv => whnf
      refine ⟨fun e => absurd e (by decide), ?_⟩
      rw [show k = a_f (s_a A) + 1 by omega]
      exact ansR_ret h fin hT t20
    | succ d ih =>
      intro k hd
      refine hV [128] 60 _ _ _ _ _ _ ?_
      conv => whnf
      refine pk_le (a_f (s_a A) + 1) k (fun _ => by omega) (fun _ => ?_) tf
      conv => whnf
      refine ⟨pk_in k 500 (by omega), ?_⟩
      conv => whnf
      rw [nx_c (show k < 2 ^ 31 by omega)]
      have hto : t2.2.1.2.2.1 k = nI (a_to (fedA (s_a A) p f b) k) := (hT.1.2.2.2.2.2 k (show k < a_f (s_a A) + 1 by omega)).1
      have hlt : a_to (fedA (s_a A) p f b) k < a_g (s_a A) := (hT.1.1.2.2.2.2 k (show k < a_f (s_a A) + 1 by omega)).1
      have step : cnt (a_to (fedA (s_a A) p f b)) (k + 1) p = cnt (a_to (fedA (s_a A) p f b)) k p + if a_to (fedA (s_a A) p f b) k = p then 1 else 0 := rfl
      dsimp only
      rw [hto]
      refine ⟨fun e => ?_, fun e => ?_⟩
      · have ek : a_to (fedA (s_a A) p f b) k ≠ p := fun q => e (by rw [q])
        conv => whnf
        rw [nI_1, Int32.add_zero]
        have := ih (k + 1) (by omega)
        rw [step, if_neg ek, Nat.add_zero] at this
        exact this
      · have ek : a_to (fedA (s_a A) p f b) k = p := by
          rw [nI_eq (by omega) (by omega)] at e
          exact e
        conv => whnf
        rw [nI_1, nI_1]
        have := ih (k + 1) (by omega)
        rw [step, if_pos ek] at this
        exact this
  have := loop (a_f (s_a A) + 1) 0 (by omega)
  rw [← ht2] at this
  exact this
theorem vst (b : Bool) (y : vl) : vI (xr b y) = b2 b ↔ y = some false := by
  rcases y with _ | _ | _ <;> cases b <;> simp [vI, xr, b2]
theorem v2n (y : vl) : vI y = 2 ↔ y = none := by
  rcases y with _ | _ | _ <;> simp [vI]
theorem xr_xr (b c : Bool) (y : vl) : xr b (xr c y) = xr (c ^^ b) y := by
  rcases y with _ | _ | _ <;> cases b <;> cases c <;> rfl
theorem xr_none {b : Bool} {y : vl} : xr b y = none ↔ y = none := by
  rcases y with _ | _ | _ <;> simp [xr]
theorem xr_ff (b : Bool) (y : vl) : xr b (xr b y) = y := by
  rcases y with _ | _ | _ <;> cases b <;> rfl
def sp_R_made : cx_S := cx_self 4 (fun j r ws R => ∃ x n l m t q a g v, ws = wd x n l m (wq t q) ∧ j = 25 ∧ r = [.inl (nI g)] ∧ rRn a t ∧ g < a_g a ∧ a_so a g ≠ 0 ∧ (∀ p, p < a_g a → rt_va t p = vI (v p)) ∧ R (.inl (some (.inl (vI (made a g v))))) ws)
set_option maxRecDepth 100000 in
set_option maxHeartbeats 4000000 in
theorem pu_R_made : ∀ as ws Rq, sp_R_made as ws Rq → cx_cats as ≤ 6 ∧ ∀ V, cx_cl1 t_R_made [] [] [] 0 0 Rq V → V 0 (cx_lv0 as 6) [] ws 0 0 := by
  intro as ws Rq h0
  obtain ⟨j, r, fs0, rfl, hj, x, n, l, m, t, q, a, g, v, rfl, rfl, rfl, hR, hg1, hs0, hv, h⟩ := cx_self_spec h0
  refine ⟨Nat.le_of_ble_eq_true rfl, fun V hV => ?_⟩
  obtain ⟨⟨w1, w2, w3, w4, w5⟩, a2, a3, a4, a5, a6⟩ := hR
  have hcg : (nI g).toNatClampNeg = g := nx_c (by omega)
  have hso : t.2.1.1 g = nI (a_so a g) := (a5 g hg1).1
  have s3 := (w4 g hg1).1
  have loop : ∀ (d k : Nat) (s5 : Option cx_V), k + d = a_f a → V 23 [some (.inr (.inr (.inl 25))), some (.inl (nI g)), some (.inl (b2 (tr a g))), some (.inl (vI (xr (tr a g) (mad a g v k)))), some (.inl (nI k)), s5] [] (wd x n l m (wq t q)) 0 0 := by
    intro d
    induction d with
    | zero =>
      intro k s5 hd
      have : k = a_f a := by omega
      subst this
      refine hV [] 60 _ _ _ _ _ _ ?_
      conv => whnf
      refine pk_le (a_f a) (a_f a) (fun _ => ?_) (fun e => absurd e (Nat.lt_irrefl _)) a3
      conv => whnf
      exact ⟨fun e => absurd e (by decide), h⟩
    | succ d ih =>
      intro k s5 hd
      have hk : k < a_f a := by omega
      obtain ⟨t1, t2, t3⟩ := a6 k hk
      obtain ⟨u1, u2, u3⟩ := w5 k hk
      have hck : (nI k).toNatClampNeg = k := nx_c (by omega)
      have ink : vp_in (nI k) 500 := pk_in k 500 (by omega)
      have next : ∀ (y : vl) (s5 : Option cx_V), y = mad a g v (k + 1) → V 111 [some (.inr (.inr (.inl 25))), some (.inl (nI g)), some (.inl (b2 (tr a g))), some (.inl (vI (xr (tr a g) y))), some (.inl (nI k)), s5] [] (wd x n l m (wq t q)) 0 0 := by
        intro y s5 e
        subst e
        refine hV [23] 60 _ _ _ _ _ _ ?_
        conv => whnf
        rw [nI_1]
        exact ih (k + 1) s5 (by omega)
      refine hV [111, 90] 60 _ _ _ _ _ _ ?_
      conv => whnf
      refine pk_le (a_f a) k (fun _ => by omega) (fun _ => ?_) a3
      conv => whnf
      refine ⟨ink, ?_⟩
      conv => whnf
      rw [hck]
      dsimp only
      rw [show t.2.1.2.2.1 k = nI (a_to a k) from t1]
      refine ⟨fun e => ?_, fun e => ?_⟩
      · have ek : a_to a k ≠ g := fun q => e (by rw [q])
        exact next _ _ (by simp [mad, ek])
      have ek : a_to a k = g := by
        rw [nI_eq (by omega) (by omega)] at e
        exact e
      conv => whnf
      refine ⟨fun e => ?_, fun e => ?_⟩
      rotate_left
      · have e2 := (vst _ _).mp e
        conv => whnf
        refine next _ _ ?_
        rw [mad_hit ek, e2]
        rfl
      have hx : mad a g v k ≠ some false := fun q => e ((vst _ _).mpr q)
      conv => whnf
      refine ⟨ink, ?_⟩
      conv => whnf
      rw [hck]
      dsimp only
      rw [show t.2.1.2.2.2.1 k = nI (a_fr a k) from t2]
      refine ⟨pk_in (a_fr a k) 120 (by omega), ?_⟩
      conv => whnf
      rw [nx_c (show a_fr a k < 2 ^ 31 by omega)]
      dsimp only
      rw [show t.2.2.1.1 (a_fr a k) = vI (v (a_fr a k)) from hv _ u2]
      have at90 : ∀ (s5 : Int32), V 90 [some (.inr (.inr (.inl 25))), some (.inl (nI g)), some (.inl (b2 (tr a g))), some (.inl (vI (xr (tr a g) (mad a g v k)))), some (.inl (nI k)), some (.inl s5)] [.inl (vI (xr (a_ne a k) (v (a_fr a k))))] (wd x n l m (wq t q)) 0 0 := by
        intro s5
        have e3 : xr (tr a g) (tk a g v k) = xr (a_ne a k) (v (a_fr a k)) := by
          unfold tk
          rw [xr_xr]
          cases a_ne a k <;> cases tr a g <;> rfl
        rw [← e3]
        refine hV [111] 60 _ _ _ _ _ _ ?_
        conv => whnf
        refine ⟨fun e => ?_, fun e => ?_⟩
        · have e4 := (vst _ _).mp e
          conv => whnf
          refine next (tk a g v k) _ ?_
          rw [mad_hit ek, e4]
          rcases hm : mad a g v k with _ | _ | _ <;> rfl
        · conv => whnf
          refine ⟨fun e5 => ?_, fun e5 => ?_⟩
          · conv => whnf
            refine next (mad a g v k) _ ?_
            rw [mad_hit ek]
            have n1 : tk a g v k ≠ some false := fun q => e ((vst _ _).mpr q)
            have n2 : tk a g v k ≠ none := fun q => e5 ((v2n _).mpr (xr_none.mpr q))
            rcases hm : tk a g v k with _ | _ | _
            · exact absurd hm n2
            · exact absurd hm n1
            · rw [and3_t]
          · have e6 := xr_none.mp ((v2n _).mp e5)
            conv => whnf
            refine next (tk a g v k) _ ?_
            rw [mad_hit ek, e6]
            rcases hm : mad a g v k with _ | _ | _
            · rfl
            · exact absurd hm hx
            · rfl
      refine ⟨fun e => ?_, fun e => ?_⟩
      · have e2 := (v2n _).mp e
        conv => whnf
        have := at90 (vI (v (a_fr a k)))
        rw [e2] at this ⊢
        exact this
      · conv => whnf
        refine ⟨ink, ?_⟩
        conv => whnf
        rw [hck]
        dsimp only
        rw [show t.2.1.2.2.2.2.2 k = b2 (a_ne a k) from t3]
        have := at90 (vI (v (a_fr a k)))
        refine ⟨fun e2 => ?_, fun e2 => ?_⟩
        · conv => whnf
          rw [b2_ne0.mp e2] at this
          rcases hm : v (a_fr a k) with _ | _ | _
          · exact absurd ((v2n _).mpr hm) e
          · rw [hm] at this; exact this
          · rw [hm] at this; exact this
        · conv => whnf
          rw [b2_eq0.mp e2] at this
          rcases hm : v (a_fr a k) with _ | _ | _
          · exact absurd ((v2n _).mpr hm) e
          · rw [hm] at this; exact this
          · rw [hm] at this; exact this
  refine hV [23] 60 _ _ _ _ _ _ ?_
  conv => whnf
  refine ⟨pk_in g 120 (by omega), ?_⟩
  conv => whnf
  rw [hcg]
  dsimp only
  rw [hso]
  refine ⟨fun e => ?_, fun e => ?_⟩
  · have e3 : a_so a g = 3 := by
      rcases s3 with q | q | q
      · exact absurd q hs0
      · exact absurd (by rw [q]; rfl) e
      · exact q
    have et : tr a g = true := by simp [tr, e3]
    conv => whnf
    rw [← nI_0]
    have := loop (a_f a) 0 none (by omega)
    rw [et] at this
    exact this
  · have e3 : a_so a g = 2 := by
      rw [show (2 : Int32) = nI 2 from rfl, nI_eq (by omega) (by omega)] at e
      exact e
    have et : tr a g = false := by simp [tr, e3]
    conv => whnf
    have := loop (a_f a) 0 none (by omega)
    rw [et] at this
    exact this
