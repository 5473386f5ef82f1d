/-! The reference: what is asked of what is laid out. -/
theorem hg_neg {c : Int32} (h : c < 0) (y : Int32) : hg c y = false := by simp [hg, h]
theorem hg_ge {c y : Int32} (h : y ≤ c) : hg c y = false := by simp [hg, h]
theorem hg_yes {c y : Int32} (h1 : ¬ c < 0) (h2 : ¬ y ≤ c) : hg c y = true := by simp only [hg, h1, h2]; rfl
theorem hg_gt255 {c : Int32} (h : ¬ c ≤ 255) : hg c 256 = false := by
  cases hh : hg c 256 with
  | false => rfl
  | true =>
    obtain ⟨j, hj1, rfl⟩ := hg_256 hh
    exact absurd (nI_le (a := j) (b := 255) (by omega) (by omega)) h
theorem hg_le255 {c : Int32} (h1 : ¬ c < 0) (h2 : c ≤ 255) : hg c 256 = true := by
  obtain ⟨j, hj1, rfl⟩ := nI_of2 (M := 255) (n := 255) (by decide) h1 h2
  exact hg_in (n := 256) (by omega) (by omega)
def sp_R_refuses : cx_S := cx_self 4 (fun j r ws R => ∃ x n l m t q o c, ws = wd x n l m (wq t q) ∧ j = 25 ∧ r = [.inl o, .inl c] ∧ ((hg o (rt_la t) && hg c 256) = true → R (.inl (some (.inl 0))) (wd x n l m (wq (ru_th t 0) q))) ∧ ((hg o (rt_la t) && hg c 256) = false → R (.inl (some (.inl 1))) (wd x n l m (wq (ru_th t 1) q))))
theorem pu_R_refuses : ∀ as ws Rq, sp_R_refuses as ws Rq → cx_cats as ≤ 3 ∧ ∀ V, cx_cl1 t_R_refuses [(sp_R_fails, 3, 0, 0)] [] [] 0 0 Rq V → V 0 (cx_lv0 as 3) [] ws 0 0 := by
  intro as ws Rq h0
  obtain ⟨j, r, fs0, rfl, hj, x, n, l, m, t, q, o, c, rfl, rfl, rfl, h1, h2⟩ := cx_self_spec h0
  refine ⟨Nat.le_of_ble_eq_true rfl, fun V hV => ?_⟩
  have no : (hg o (rt_la t) && hg c 256) = false → V 24 [some (.inr (.inr (.inl 25))), some (.inl o), some (.inl c)] [.inr (.inr (.inl 25))] (wd x n l m (wq t q)) 0 0 := by
    intro e
    refine hV [] 40 _ _ _ _ _ _ ?_
    conv => whnf
    refine ⟨x, n, l, m, t, q, true, false, 1, rfl, rfl, rfl, rfl, ?_⟩
    conv => whnf
    exact ⟨fun _ => Or.inr rfl, h2 e⟩
  refine hV [24] 40 _ _ _ _ _ _ ?_
  conv => whnf
  refine ⟨fun e => no (by rw [hg_neg e]; rfl), fun e1 => ?_⟩
  conv => whnf
  refine ⟨fun e => no (by rw [hg_ge e]; rfl), fun e2 => ?_⟩
  conv => whnf
  refine ⟨fun e => no (by rw [hg_neg e, Bool.and_false]), fun e3 => ?_⟩
  conv => whnf
  refine ⟨fun e4 => ?_, fun e => no (by rw [hg_gt255 e, Bool.and_false])⟩
  conv => whnf
  refine ⟨x, n, l, m, t, q, false, false, 0, rfl, rfl, rfl, rfl, ?_⟩
  conv => whnf
  exact ⟨fun _ => Or.inl rfl, h1 (by rw [hg_yes e1 e2, hg_le255 e3 e4]; rfl)⟩
theorem rRl_tw {lo : Nat} {fs : Nat → Ky} {t : wR} (h : rRl lo fs t) {j : Nat} (hj : j < 2 * lo) : tw (rt_w t) j = fs j := nf_ext (nf_tw _ _) (h.2.2.1 j hj).1 (fun c hc => by
  rw [tw_in hc]
  exact (h.2.2.1 j hj).2 c hc)
def sp_R_run : cx_S := cx_self 4 (fun j r ws R => ∃ x n l m t q A o c, ws = wd x n l m (wq t q) ∧ j = 25 ∧ r = [.inl o, .inl c] ∧ rR A t ∧ ansR (runS A o c) x n l m q R)
theorem pu_R_run : ∀ as ws Rq, sp_R_run as ws Rq → cx_cats as ≤ 3 ∧ ∀ V, cx_cl1 t_R_run [(sp_R_refuses, 3, 0, 0), (sp_R_truth, 3, 0, 0)] [] [] 0 0 Rq V → V 0 (cx_lv0 as 3) [] ws 0 0 := by
  intro as ws Rq h0
  obtain ⟨j, r, fs0, rfl, hj, x, n, l, m, t, q, A, o, c, rfl, rfl, rfl, hR, h⟩ := cx_self_spec h0
  refine ⟨Nat.le_of_ble_eq_true rfl, fun V hV => hV [] 60 _ _ _ _ _ _ ?_⟩
  have hL := hR.2.2.2.2
  have lo10 := hL.1
  have hla : rt_la t = nI (s_lo A) := hL.2.1
  conv => whnf
  refine ⟨x, n, l, m, t, q, o, c, rfl, rfl, rfl, fun e => ?_, fun e => ?_⟩
  rotate_left
  · rw [hla] at e
    conv => whnf
    refine ⟨fun e => absurd e (by decide), fun _ => ?_⟩
    conv => whnf
    have e2 : runS A o c = (0 + 1, 0, A) := by
      unfold runS
      rw [if_neg (by rw [e]; simp)]
    exact ⟨fun e => absurd e (by decide), ansR_thr h e2 (t := ru_th t 1) hR rfl⟩
  rw [hla] at e
  rw [Bool.and_eq_true] at e
  obtain ⟨e1, e2⟩ := e
  obtain ⟨o, ho, rfl⟩ := hg_of (by omega) e1
  obtain ⟨c, hc, rfl⟩ := hg_256 e2
  have ret : runS A (nI o) (nI c) = (0, rv (s_fs A) o c, A) := by
    unfold runS
    rw [e1, e2, if_pos (show (true && true) = true from rfl), nx_c (show o < 2 ^ 31 by omega), nx_c (show c < 2 ^ 31 by omega)]
  conv => whnf
  refine ⟨fun _ => ?_, fun e => absurd rfl e⟩
  conv => whnf
  rw [show (2 : Int32) * nI o = nI (2 * o) by rw [show (2 : Int32) = nI 2 from rfl, pk_mul]]
  refine ⟨x, n, l, m, ru_th t 0, q, 2 * o, c, rfl, rfl, rfl, by omega, hc, ?_⟩
  rw [show tw (rt_w (ru_th t 0)) (2 * o) = s_fs A (2 * o) from rRl_tw hL (by omega)]
  conv => whnf
  cases h1 : s_fs A (2 * o) c with
  | true =>
    refine ⟨fun e => absurd e (by decide), fun _ => ?_⟩
    conv => whnf
    refine ⟨fun e => absurd e (by decide), ansR_ret h (v := 1) (A := A) ?_ (t := ru_th t 0) hR rfl⟩
    rw [ret]
    simp [rv, h1]
  | false =>
    refine ⟨fun _ => ?_, fun e => absurd rfl e⟩
    conv => whnf
    rw [show (2 : Int32) * nI o + 1 = nI (2 * o + 1) by rw [show (2 : Int32) = nI 2 from rfl, pk_mul, nI_1]]
    refine ⟨x, n, l, m, ru_th t 0, q, 2 * o + 1, c, rfl, rfl, rfl, by omega, hc, ?_⟩
    rw [show tw (rt_w (ru_th t 0)) (2 * o + 1) = s_fs A (2 * o + 1) from rRl_tw hL (by omega)]
    conv => whnf
    cases h2 : s_fs A (2 * o + 1) c with
    | true =>
      refine ⟨fun e => absurd e (by decide), fun _ => ?_⟩
      conv => whnf
      refine ⟨fun e => absurd e (by decide), ansR_ret h (v := 0) (A := A) ?_ (t := ru_th t 0) hR rfl⟩
      rw [ret]
      simp [rv, h1, h2]
    | false =>
      refine ⟨fun _ => ?_, fun e => absurd rfl e⟩
      conv => whnf
      refine ⟨fun e => absurd e (by decide), ansR_ret h (v := 2) (A := A) ?_ (t := ru_th t 0) hR rfl⟩
      rw [ret]
      simp [rv, h1, h2]
theorem nI_ne_m1 {p : Nat} (hp : p < 2 ^ 31) : ¬ nI p = -1 := by
  have := prI_ne hp
  rw [prI_s] at this
  exact this
def sp_R_way : cx_S := cx_self 4 (fun j r ws R => ∃ x n l m t q A o c, ws = wd x n l m (wq t q) ∧ j = 25 ∧ r = [.inl o, .inl c] ∧ rR A t ∧ ansR (wayS A o c) x n l m q R)
set_option maxHeartbeats 4000000 in
theorem pu_R_way : ∀ as ws Rq, sp_R_way as ws Rq → cx_cats as ≤ 6 ∧ ∀ V, cx_cl1 t_R_way [(sp_R_refuses, 3, 0, 0)] [] [] 0 0 Rq V → V 0 (cx_lv0 as 6) [] ws 0 0 := by
  intro as ws Rq h0
  obtain ⟨j, r, fs0, rfl, hj, x, n, l, m, t, q, A, o, c, rfl, rfl, rfl, hR, h⟩ := cx_self_spec h0
  refine ⟨Nat.le_of_ble_eq_true rfl, fun V hV => ?_⟩
  have hL := hR.2.2.2.2
  have lo10 := hL.1
  have hla : rt_la t = nI (s_lo A) := hL.2.1
  obtain ⟨T, ks, hen, hTab, hch, hfar, hro⟩ := rRl_enu hL
  have hT := hTab.1
  refine hV [16] 60 _ _ _ _ _ _ ?_
  conv => whnf
  refine ⟨x, n, l, m, t, q, o, c, rfl, rfl, rfl, fun e => ?_, fun e => ?_⟩
  rotate_left
  · rw [hla] at e
    conv => whnf
    refine ⟨fun e => absurd e (by decide), fun _ => ?_⟩
    conv => whnf
    have e2 : wayS A o c = (0 + 1, 0, A) := by
      unfold wayS
      rw [if_neg (by rw [e]; simp)]
    exact ⟨fun e => absurd e (by decide), ansR_thr h e2 (t := ru_th t 1) hR rfl⟩
  rw [hla] at e
  rw [Bool.and_eq_true] at e
  obtain ⟨e1, e2⟩ := e
  obtain ⟨o, ho, rfl⟩ := hg_of (by omega) e1
  obtain ⟨c, hc, rfl⟩ := hg_256 e2
  have ret : wayS A (nI o) (nI c) = (0, nI (wl 8 (s_fs A (2 * o)) c + wl 8 (s_fs A (2 * o + 1)) c), A) := by
    unfold wayS
    rw [e1, e2, if_pos (show (true && true) = true from rfl), nx_c (show o < 2 ^ 31 by omega), nx_c (show c < 2 ^ 31 by omega)]
  have inner : ∀ (d : Nat) (g : Ky) (v : Int32) (k : Nat) (rr : Int32), ixT T ks g v → 8 ≤ fd g + d → (∀ s5, V 84 [some (.inr (.inr (.inl 25))), some (.inl (nI o)), some (.inl (nI c)), some (.inl (nI (k + wl d g c))), some (.inl rr), s5] [] (wd x n l m (wq (ru_th t 0) q)) 0 0) →
      V 35 [some (.inr (.inr (.inl 25))), some (.inl (nI o)), some (.inl (nI c)), some (.inl (nI k)), some (.inl rr), some (.inl v)] [] (wd x n l m (wq (ru_th t 0) q)) 0 0 := by
    intro d
    have stop : ∀ (d : Nat) (g : Ky) (k : Nat) (rr : Int32), fd g = 8 → (∀ s5, V 84 [some (.inr (.inr (.inl 25))), some (.inl (nI o)), some (.inl (nI c)), some (.inl (nI (k + wl d g c))), some (.inl rr), s5] [] (wd x n l m (wq (ru_th t 0) q)) 0 0) → V 35 [some (.inr (.inr (.inl 25))), some (.inl (nI o)), some (.inl (nI c)), some (.inl (nI k)), some (.inl rr), some (.inl (-1))] [] (wd x n l m (wq (ru_th t 0) q)) 0 0 := by
      intro d g k rr hg8 hK
      have e0 : wl d g c = 0 := by
        cases d with
        | zero => rfl
        | succ d => exact if_pos hg8
      refine hV [84] 60 _ _ _ _ _ _ ?_
      conv => whnf
      refine ⟨fun _ => ?_, fun e => absurd rfl e⟩
      have := hK (some (.inl (-1)))
      rw [e0, Nat.add_zero] at this
      exact this
    induction d with
    | zero =>
      intro g v k rr hix hge hK
      have h8 : fd g = 8 := by have := fd_le g; omega
      rcases hix with ⟨q1, q2⟩ | ⟨p, q1, q2, q3⟩
      · subst q2; exact stop 0 g k rr q1 hK
      · exfalso
        have := (hTab.2.2.2 p q1).1
        rw [q2] at this
        omega
    | succ d ih =>
      intro g v k rr hix hge hK
      rcases hix with ⟨q1, q2⟩ | ⟨p, q1, q2, q3⟩
      · subst q2; exact stop (d + 1) g k rr q1 hK
      subst q3
      obtain ⟨f1, f2, f3⟩ := hTab.2.2.2 p q1
      obtain ⟨c0, c1⟩ := hch p q1
      rw [q2] at f1 f3 c0 c1
      have inp : vp_in (nI p) 2000 := pk_in p 2000 (by omega)
      have hcp : (nI p).toNatClampNeg = p := nx_c (by omega)
      have e3 : wl (d + 1) g c = 1 + wl d (sub g (fd g + 1) (bn (cb (fd g) c))) c := if_neg (by omega)
      have hge2 := fd_sub_ge (f := g) (i := bn (cb (fd g) c)) (show fd g + 1 ≤ 8 by omega)
      refine hV [84, 35] 60 _ _ _ _ _ _ ?_
      conv => whnf
      refine ⟨fun e => absurd e (nI_ne_m1 (by omega)), fun _ => ?_⟩
      conv => whnf
      refine ⟨inp, ?_⟩
      conv => whnf
      rw [hcp]
      dsimp only
      rw [show (ru_th t 0).2.2.1.2.2.2.2 p = nI (fd g) from f3]
      have go : ∀ v', ixT T ks (sub g (fd g + 1) (bn (cb (fd g) c))) v' → V 35 [some (.inr (.inr (.inl 25))), some (.inl (nI o)), some (.inl (nI c)), some (.inl (nI (k + 1))), some (.inl rr), some (.inl v')] [] (wd x n l m (wq (ru_th t 0) q)) 0 0 := fun v' hv' => ih _ v' (k + 1) rr hv' (by omega) (fun s5 => by
        have := hK s5
        rw [e3, show k + (1 + wl d (sub g (fd g + 1) (bn (cb (fd g) c))) c) = k + 1 + wl d (sub g (fd g + 1) (bn (cb (fd g) c))) c by omega] at this
        exact this)
      refine ⟨fun e => ?_, fun e => ?_⟩
      · have hb : cb (fd g) c = false := by
          cases hh : cb (fd g) c with
          | false => rfl
          | true => exact absurd ((cb_iff f1 (by omega)).mpr hh) e
        rw [hb] at go
        conv => whnf
        refine ⟨inp, ?_⟩
        conv => whnf
        rw [hcp, nI_1]
        exact go _ c0
      · have hb := (cb_iff f1 (by omega)).mp e
        rw [hb] at go
        conv => whnf
        refine ⟨inp, ?_⟩
        conv => whnf
        rw [hcp, nI_1]
        exact go _ c1
  have step : ∀ (b k : Nat) (s5 : Option cx_V), b < 2 → (∀ s5, V 16 [some (.inr (.inr (.inl 25))), some (.inl (nI o)), some (.inl (nI c)), some (.inl (nI (k + wl 8 (s_fs A (2 * o + b)) c))), some (.inl (nI (b + 1))), s5] [] (wd x n l m (wq (ru_th t 0) q)) 0 0) → V 16 [some (.inr (.inr (.inl 25))), some (.inl (nI o)), some (.inl (nI c)), some (.inl (nI k)), some (.inl (nI b)), s5] [] (wd x n l m (wq (ru_th t 0) q)) 0 0 := by
    intro b k s5 hb hK
    have eb : (2 : Int32) * nI o + nI b = nI (2 * o + b) := by rw [show (2 : Int32) = nI 2 from rfl, pk_mul, nI_add]
    refine hV [35] 60 _ _ _ _ _ _ ?_
    conv => whnf
    refine pk_le 2 b (fun _ => by omega) (fun _ => ?_)
    conv => whnf
    refine ⟨pk_in (2 * o + b) 20 (by omega) eb, ?_⟩
    conv => whnf
    rw [eb, nx_c (show 2 * o + b < 2 ^ 31 by omega)]
    refine inner 8 (s_fs A (2 * o + b)) _ k (nI b) (hro (2 * o + b) (by omega)) (by omega) (fun s5 => ?_)
    refine hV [16] 60 _ _ _ _ _ _ ?_
    conv => whnf
    rw [nI_1]
    exact hK s5
  conv => whnf
  refine ⟨fun _ => ?_, fun e => absurd rfl e⟩
  conv => whnf
  rw [← nI_0]
  refine step 0 0 none (by omega) (fun s5 => step 1 _ s5 (by omega) (fun s5 => ?_))
  refine hV [] 60 _ _ _ _ _ _ ?_
  conv => whnf
  refine ⟨fun _ => ?_, fun e => absurd (by decide) e⟩
  conv => whnf
  refine ⟨fun e => absurd e (by decide), ?_⟩
  rw [Nat.add_zero, Nat.zero_add]
  exact ansR_ret h ret (t := ru_th t 0) hR rfl
def sp_R_at : cx_S := cx_self 4 (fun j r ws R => ∃ x n l m t q A k, ws = wd x n l m (wq t q) ∧ j = 25 ∧ r = [.inl k] ∧ rR A t ∧ ansR (atS A k) x n l m q R)
theorem pu_R_at : ∀ as ws Rq, sp_R_at as ws Rq → cx_cats as ≤ 4 ∧ ∀ V, cx_cl1 t_R_at [] [] [] 0 0 Rq V → V 0 (cx_lv0 as 4) [] ws 0 0 := by
  intro as ws Rq h0
  obtain ⟨j, r, fs0, rfl, hj, x, n, l, m, t, q, A, k, rfl, rfl, rfl, hR, h⟩ := cx_self_spec h0
  refine ⟨Nat.le_of_ble_eq_true rfl, fun V hV => ?_⟩
  have hL := hR.2.2.2.2
  obtain ⟨T, ks, hen, hTab, hch, hfar, hro⟩ := rRl_enu hL
  have hT := hTab.1
  have loop : ∀ (d i : Nat), i + d = T → V 9 [some (.inr (.inr (.inl 25))), some (.inl k), some (.inl (nI (cnP ks (fun g => decide (nI (fd g) = k)) i))), some (.inl (nI i))] [] (wd x n l m (wq (ru_th t 0) q)) 0 0 := by
    intro d
    induction d with
    | zero =>
      intro i hd
      have : i = T := by omega
      subst this
      refine hV [] 60 _ _ _ _ _ _ ?_
      conv => whnf
      refine pk_le i i (fun _ => ?_) (fun e => absurd e (Nat.lt_irrefl _)) hTab.2.1
      conv => whnf
      refine ⟨fun e => absurd e (by decide), ?_⟩
      refine ansR_ret h (A := A) ?_ (t := ru_th t 0) hR rfl
      unfold atS
      cases hk : hg k 8 with
      | true =>
        obtain ⟨k, hk8, rfl⟩ := hg_of (n := 8) (by omega) hk
        rw [if_pos rfl, nx_c (show k < 2 ^ 31 by omega), ← kN_eq hen, ← pnc_fd hk8]
        congr 3
        refine cnP_congr i (fun p hp => ?_)
        have := fd_le (ks p)
        rw [Bool.eq_iff_iff, decide_eq_true_eq, beq_iff_eq, nI_eq (by omega) (by omega)]
      | false =>
        rw [if_neg (by decide)]
        have e : cnP ks (fun g => decide (nI (fd g) = k)) i = 0 := by
          have := cnP_zero (ks := ks) (p := fun g => decide (nI (fd g) = k)) 0 i (fun p _ hp => by
            have h8 := (hTab.2.2.2 p (by omega)).1
            rw [decide_eq_false_iff_not]
            intro e
            rw [← e, show hg (nI (fd (ks p))) 8 = true from hg_in (n := 8) h8 (by omega)] at hk
            cases hk)
          rw [Nat.zero_add] at this
          exact this
        rw [e]
        rfl
    | succ d ih =>
      intro i hd
      have hi : i < T := by omega
      have f3 := (hTab.2.2.2 i hi).2.2
      refine hV [9] 60 _ _ _ _ _ _ ?_
      conv => whnf
      refine pk_le T i (fun _ => by omega) (fun _ => ?_) hTab.2.1
      conv => whnf
      refine ⟨pk_in i 2000 (by omega), ?_⟩
      conv => whnf
      rw [nx_c (show i < 2 ^ 31 by omega)]
      dsimp only
      rw [show (ru_th t 0).2.2.1.2.2.2.2 i = nI (fd (ks i)) from f3]
      have st : cnP ks (fun g => decide (nI (fd g) = k)) (i + 1) = cnP ks (fun g => decide (nI (fd g) = k)) i + bn (decide (nI (fd (ks i)) = k)) := rfl
      have := ih (i + 1) (by omega)
      rw [st] at this
      refine ⟨fun e => ?_, fun e => ?_⟩
      · conv => whnf
        rw [nI_1, Int32.add_zero]
        rw [show decide (nI (fd (ks i)) = k) = false by simp [e]] at this
        exact this
      · conv => whnf
        rw [nI_1, nI_1]
        rw [show decide (nI (fd (ks i)) = k) = true by simp [e]] at this
        exact this
  refine hV [9] 60 _ _ _ _ _ _ ?_
  conv => whnf
  refine ⟨Or.inl rfl, ?_⟩
  conv => whnf
  rw [← nI_0]
  exact loop T 0 (by omega)
def sp_R_known : cx_S := cx_self 4 (fun j r ws R => ∃ x n l m t q A o, ws = wd x n l m (wq t q) ∧ j = 25 ∧ r = [.inl o] ∧ rR A t ∧ ansR (knoS A o) x n l m q R)
theorem pu_R_known : ∀ as ws Rq, sp_R_known as ws Rq → cx_cats as ≤ 4 ∧ ∀ V, cx_cl1 t_R_known [(sp_R_refuses, 3, 0, 0), (sp_R_truth, 3, 0, 0)] [] [] 0 0 Rq V → V 0 (cx_lv0 as 4) [] ws 0 0 := by
  intro as ws Rq h0
  obtain ⟨j, r, fs0, rfl, hj, x, n, l, m, t, q, A, o, rfl, rfl, rfl, hR, h⟩ := cx_self_spec h0
  refine ⟨Nat.le_of_ble_eq_true rfl, fun V hV => ?_⟩
  have hL := hR.2.2.2.2
  have lo10 := hL.1
  have hla : rt_la t = nI (s_lo A) := hL.2.1
  refine hV [15] 60 _ _ _ _ _ _ ?_
  conv => whnf
  refine ⟨x, n, l, m, t, q, o, 0, rfl, rfl, rfl, fun e => ?_, fun e => ?_⟩
  rotate_left
  · rw [hla, show hg 0 256 = true from by decide, Bool.and_true] at e
    conv => whnf
    refine ⟨fun e => absurd e (by decide), fun _ => ?_⟩
    conv => whnf
    have e2 : knoS A o = (0 + 1, 0, A) := by
      unfold knoS
      rw [if_neg (by rw [e]; simp)]
    exact ⟨fun e => absurd e (by decide), ansR_thr h e2 (t := ru_th t 1) hR rfl⟩
  rw [hla, show hg 0 256 = true from by decide, Bool.and_true] at e
  obtain ⟨o, ho, rfl⟩ := hg_of (by omega) e
  have ret : knoS A (nI o) = (0, nI (ctB (kno (s_fs A) o) 256), A) := by
    unfold knoS
    rw [if_pos e, nx_c (show o < 2 ^ 31 by omega)]
  have e2o : (2 : Int32) * nI o = nI (2 * o) := by rw [show (2 : Int32) = nI 2 from rfl, pk_mul]
  have loop : ∀ (d c : Nat), c + d = 256 → V 15 [some (.inr (.inr (.inl 25))), some (.inl (nI o)), some (.inl (nI (ctB (kno (s_fs A) o) c))), some (.inl (nI c))] [] (wd x n l m (wq (ru_th t 0) q)) 0 0 := by
    intro d
    induction d with
    | zero =>
      intro c hd
      have : c = 256 := by omega
      subst this
      refine hV [] 60 _ _ _ _ _ _ ?_
      conv => whnf
      refine ⟨fun _ => ?_, fun e => absurd (by decide) e⟩
      conv => whnf
      exact ⟨fun e => absurd e (by decide), ansR_ret h ret (t := ru_th t 0) hR rfl⟩
    | succ d ih =>
      intro c hd
      have nxt := ih (c + 1) (by omega)
      have st : ctB (kno (s_fs A) o) (c + 1) = ctB (kno (s_fs A) o) c + bn (kno (s_fs A) o c) := rfl
      rw [st] at nxt
      have at47 : kno (s_fs A) o c = true → V 47 [some (.inr (.inr (.inl 25))), some (.inl (nI o)), some (.inl (nI (ctB (kno (s_fs A) o) c))), some (.inl (nI c))] [.inl (nI (ctB (kno (s_fs A) o) c))] (wd x n l m (wq (ru_th t 0) q)) 0 0 := by
        intro hk
        rw [hk] at nxt
        refine hV [15] 60 _ _ _ _ _ _ ?_
        conv => whnf
        rw [nI_1, nI_1]
        exact nxt
      refine hV [15, 47] 60 _ _ _ _ _ _ ?_
      conv => whnf
      refine pk_le 256 c (fun _ => by omega) (fun _ => ?_)
      conv => whnf
      rw [e2o]
      refine ⟨x, n, l, m, ru_th t 0, q, 2 * o, c, rfl, rfl, rfl, by omega, by omega, ?_⟩
      rw [show tw (rt_w (ru_th t 0)) (2 * o) = s_fs A (2 * o) from rRl_tw hL (by omega)]
      conv => whnf
      refine ⟨fun e => at47 (by unfold kno; rw [b2_ne0.mp e]; rfl), fun e1 => ?_⟩
      conv => whnf
      rw [e2o, nI_1]
      refine ⟨x, n, l, m, ru_th t 0, q, 2 * o + 1, c, rfl, rfl, rfl, by omega, by omega, ?_⟩
      rw [show tw (rt_w (ru_th t 0)) (2 * o + 1) = s_fs A (2 * o + 1) from rRl_tw hL (by omega)]
      conv => whnf
      refine ⟨fun e2 => ?_, fun e => at47 (by unfold kno; rw [b2_ne0.mp e, Bool.or_true])⟩
      conv => whnf
      rw [nI_1, Int32.add_zero]
      rw [show kno (s_fs A) o c = false by unfold kno; rw [b2_eq0.mp e1, b2_eq0.mp e2]; rfl] at nxt
      exact nxt
  conv => whnf
  refine ⟨fun _ => ?_, fun e => absurd rfl e⟩
  conv => whnf
  rw [← nI_0]
  exact loop 256 0 (by omega)
def sp_R_doubt : cx_S := cx_self 4 (fun j r ws R => ∃ x n l m t q A c, ws = wd x n l m (wq t q) ∧ j = 25 ∧ r = [.inl c] ∧ rR A t ∧ ansR (douS A c) x n l m q R)
theorem pu_R_doubt : ∀ as ws Rq, sp_R_doubt as ws Rq → cx_cats as ≤ 4 ∧ ∀ V, cx_cl1 t_R_doubt [(sp_R_fails, 3, 0, 0), (sp_R_truth, 3, 0, 0)] [] [] 0 0 Rq V → V 0 (cx_lv0 as 4) [] ws 0 0 := by
  intro as ws Rq h0
  obtain ⟨j, r, fs0, rfl, hj, x, n, l, m, t, q, A, c, rfl, rfl, rfl, hR, h⟩ := cx_self_spec h0
  refine ⟨Nat.le_of_ble_eq_true rfl, fun V hV => ?_⟩
  have hL := hR.2.2.2.2
  have lo10 := hL.1
  have hla : rt_la t = nI (s_lo A) := hL.2.1
  have no : hg c 256 = false → V 12 [some (.inr (.inr (.inl 25))), some (.inl c), none, none] [.inr (.inr (.inl 25))] (wd x n l m (wq t q)) 0 0 := by
    intro e
    refine hV [] 40 _ _ _ _ _ _ ?_
    conv => whnf
    refine ⟨x, n, l, m, t, q, true, false, 1, rfl, rfl, rfl, rfl, ?_⟩
    conv => whnf
    refine ⟨fun e => absurd e (by decide), fun _ => ?_⟩
    conv => whnf
    have e2 : douS A c = (0 + 1, 0, A) := by
      unfold douS
      rw [if_neg (by rw [e]; simp)]
    exact ⟨fun e => absurd e (by decide), ansR_thr h e2 (t := ru_th t 1) hR rfl⟩
  refine hV [12, 28] 40 _ _ _ _ _ _ ?_
  conv => whnf
  refine ⟨fun e => no (hg_neg e _), fun e1 => ?_⟩
  conv => whnf
  refine ⟨fun e2 => ?_, fun e => no (hg_gt255 e)⟩
  have hc := hg_le255 e1 e2
  obtain ⟨c0, hc0, rfl⟩ := hg_256 hc
  have ret : douS A (nI c0) = (0, fdt (s_lo A) (s_fs A) (256 - c0) c0, A) := by
    unfold douS
    rw [if_pos hc, nx_c (show c0 < 2 ^ 31 by omega)]
  have fin : Rq (.inl (some (.inl (fdt (s_lo A) (s_fs A) (256 - c0) c0)))) (wd x n l m (wq (ru_th t 0) q)) := ansR_ret h ret (t := ru_th t 0) hR rfl
  have inner : ∀ (d c o : Nat), o + d = s_lo A → c < 256 → (∀ p, p < o → kno (s_fs A) p c = true) → (dou (s_fs A) c (s_lo A) = true → Rq (.inl (some (.inl (nI c)))) (wd x n l m (wq (ru_th t 0) q))) →
      (dou (s_fs A) c (s_lo A) = false → ∀ s3, V 77 [some (.inr (.inr (.inl 25))), some (.inl (nI c0)), some (.inl (nI c)), s3] [] (wd x n l m (wq (ru_th t 0) q)) 0 0) →
      V 37 [some (.inr (.inr (.inl 25))), some (.inl (nI c0)), some (.inl (nI c)), some (.inl (nI o))] [] (wd x n l m (wq (ru_th t 0) q)) 0 0 := by
    intro d
    induction d with
    | zero =>
      intro c o hd hc hp k1 k2
      have hf : dou (s_fs A) c (s_lo A) = false := by
        cases e : dou (s_fs A) c (s_lo A) with
        | false => rfl
        | true =>
          obtain ⟨p, q1, q2⟩ := (dou_iff _).mp e
          rw [hp p (by omega)] at q2
          cases q2
      refine hV [77] 40 _ _ _ _ _ _ ?_
      conv => whnf
      refine pk_le (s_lo A) o (fun _ => k2 hf _) (fun _ => by omega) hla
    | succ d ih =>
      intro c o hd hc hp k1 k2
      have e2o : (2 : Int32) * nI o = nI (2 * o) := by rw [show (2 : Int32) = nI 2 from rfl, pk_mul]
      have at71 : kno (s_fs A) o c = true → V 71 [some (.inr (.inr (.inl 25))), some (.inl (nI c0)), some (.inl (nI c)), some (.inl (nI o))] [] (wd x n l m (wq (ru_th t 0) q)) 0 0 := by
        intro hk
        refine hV [37] 40 _ _ _ _ _ _ ?_
        conv => whnf
        rw [nI_1]
        refine ih c (o + 1) (by omega) hc (fun p hp2 => ?_) k1 k2
        by_cases ep : p = o
        · subst ep; exact hk
        · exact hp p (by omega)
      refine hV [77, 37, 71] 60 _ _ _ _ _ _ ?_
      conv => whnf
      refine pk_le (s_lo A) o (fun _ => by omega) (fun _ => ?_) hla
      conv => whnf
      rw [e2o]
      refine ⟨x, n, l, m, ru_th t 0, q, 2 * o, c, rfl, rfl, rfl, by omega, hc, ?_⟩
      rw [show tw (rt_w (ru_th t 0)) (2 * o) = s_fs A (2 * o) from rRl_tw hL (by omega)]
      conv => whnf
      refine ⟨fun e => at71 (by unfold kno; rw [b2_ne0.mp e]; rfl), fun e1 => ?_⟩
      conv => whnf
      rw [e2o, nI_1]
      refine ⟨x, n, l, m, ru_th t 0, q, 2 * o + 1, c, rfl, rfl, rfl, by omega, hc, ?_⟩
      rw [show tw (rt_w (ru_th t 0)) (2 * o + 1) = s_fs A (2 * o + 1) from rRl_tw hL (by omega)]
      conv => whnf
      refine ⟨fun e => at71 (by unfold kno; rw [b2_ne0.mp e, Bool.or_true]), fun e2 => ?_⟩
      conv => whnf
      exact ⟨fun e => absurd e (by decide), k1 ((dou_iff _).mpr ⟨o, by omega, by unfold kno; rw [b2_eq0.mp e1, b2_eq0.mp e2]; rfl⟩)⟩
  have outer : ∀ (d c : Nat) (s3 : Option cx_V), c + d = 256 → Rq (.inl (some (.inl (fdt (s_lo A) (s_fs A) d c)))) (wd x n l m (wq (ru_th t 0) q)) → V 28 [some (.inr (.inr (.inl 25))), some (.inl (nI c0)), some (.inl (nI c)), s3] [] (wd x n l m (wq (ru_th t 0) q)) 0 0 := by
    intro d
    induction d with
    | zero =>
      intro c s3 hd hq
      refine hV [] 40 _ _ _ _ _ _ ?_
      conv => whnf
      refine pk_le 256 c (fun _ => ?_) (fun _ => by omega)
      conv => whnf
      exact ⟨fun e => absurd e (by decide), hq⟩
    | succ d ih =>
      intro c s3 hd hq
      refine hV [37] 40 _ _ _ _ _ _ ?_
      conv => whnf
      refine pk_le 256 c (fun _ => by omega) (fun _ => ?_)
      conv => whnf
      rw [← nI_0]
      refine inner (s_lo A) c 0 (by omega) (by omega) (fun p hp => by omega) (fun e => ?_) (fun e s3 => ?_)
      · have e2 : fdt (s_lo A) (s_fs A) (d + 1) c = nI c := if_pos e
        rw [e2] at hq
        exact hq
      · have e2 : fdt (s_lo A) (s_fs A) (d + 1) c = fdt (s_lo A) (s_fs A) d (c + 1) := if_neg (by rw [e]; decide)
        rw [e2] at hq
        refine hV [28] 40 _ _ _ _ _ _ ?_
        conv => whnf
        rw [nI_1]
        exact ih (c + 1) _ (by omega) hq
  conv => whnf
  refine ⟨x, n, l, m, t, q, false, false, 0, rfl, rfl, rfl, rfl, ?_⟩
  conv => whnf
  refine ⟨fun _ => ?_, fun e => absurd rfl e⟩
  conv => whnf
  exact outer (256 - c0) c0 none (by omega) fin
def sp_R_count : cx_S := cx_self 4 (fun j r ws R => ∃ x n l m t q A w, ws = wd x n l m (wq t q) ∧ j = 25 ∧ r = [.inl w] ∧ rR A t ∧ ansR (cntS A w) x n l m q R)
theorem pu_R_count : ∀ as ws Rq, sp_R_count as ws Rq → cx_cats as ≤ 4 ∧ ∀ V, cx_cl1 t_R_count [] [] w_R_count 0 0 Rq V → V 0 (cx_lv0 as 4) [] ws 0 0 := by
  intro as ws Rq h0
  obtain ⟨j, r, fs0, rfl, hj, x, n, l, m, t, q, A, w, rfl, rfl, rfl, hR, h⟩ := cx_self_spec h0
  refine ⟨Nat.le_of_ble_eq_true rfl, fun V hV => ?_⟩
  have hL := hR.2.2.2.2
  obtain ⟨T, ks, hen, hTab, hch, hfar, hro⟩ := rRl_enu hL
  have hT := hTab.1
  have go : ∀ v, cntS A w = (0, v, A) → Rq (.inl (some (.inl v))) (wd x n l m (wq (ru_th t 0) q)) := fun v e => ansR_ret h e (t := ru_th t 0) hR rfl
  have loop : ∀ (d i : Nat), i + d = T → V 9 [some (.inr (.inr (.inl 25))), some (.inl w), some (.inl (nI (mxP ks i))), some (.inl (nI i))] [] (wd x n l m (wq (ru_th t 0) q)) 0 0 := by
    intro d
    induction d with
    | zero =>
      intro i hd
      have : i = T := by omega
      subst this
      refine hV [] 60 _ _ _ _ _ _ ?_
      conv => whnf
      refine pk_le i i (fun _ => ?_) (fun e => absurd e (Nat.lt_irrefl _)) hTab.2.1
      conv => whnf
      refine ⟨fun e => ?_, ?_⟩
      · conv => whnf
        refine ⟨fun e => absurd e (by decide), go _ ?_⟩
        have ne : ∀ k : Nat, k < 7 → w ≠ nI k := fun k hk e2 => by
          subst e2
          rw [nI_toInt (by omega)] at e
          rcases e with e | e
          · omega
          · have : ([88, 93, 98, 103, 108, 113, 118] : List Nat).length = 7 := rfl
            rw [this] at e
            omega
        unfold cntS
        rw [if_neg (show ¬ w = 0 from ne 0 (by omega)), if_neg (show ¬ w = 1 from ne 1 (by omega)), if_neg (show ¬ w = 2 from ne 2 (by omega)), if_neg (show ¬ w = 3 from ne 3 (by omega)), if_neg (show ¬ w = 4 from ne 4 (by omega)), if_neg (show ¬ w = 5 from ne 5 (by omega)), if_neg (show ¬ w = 6 from ne 6 (by omega))]
      refine ⟨fun e => ?_, fun e => ?_, fun e => ?_, fun e => ?_, fun e => ?_, fun e => ?_, fun e => ?_, trivial⟩
      · subst e
        conv => whnf
        refine ⟨fun e => absurd e (by decide), ?_⟩
        rw [show (ru_th t 0).1.2.1 = nI (a_g (s_a A)) from hR.1.2.1]
        exact go _ rfl
      · subst e
        conv => whnf
        refine ⟨fun e => absurd e (by decide), ?_⟩
        rw [show (ru_th t 0).1.2.2.1 = nI (a_f (s_a A)) from hR.1.2.2.1]
        exact go _ rfl
      · subst e
        conv => whnf
        refine ⟨fun e => absurd e (by decide), ?_⟩
        rw [show (ru_th t 0).1.2.2.2.1 = nI (a_i (s_a A)) from hR.1.2.2.2.1]
        exact go _ rfl
      · subst e
        conv => whnf
        refine ⟨fun e => absurd e (by decide), ?_⟩
        rw [show (ru_th t 0).1.2.2.2.2 = nI (s_on A) from hR.2.2.1]
        exact go _ rfl
      · subst e
        conv => whnf
        refine ⟨fun e => absurd e (by decide), ?_⟩
        rw [show (ru_th t 0).2.2.1.2.1 = nI (s_lo A) from hL.2.1]
        exact go _ rfl
      · subst e
        conv => whnf
        refine ⟨fun e => absurd e (by decide), ?_⟩
        have e5 : nI i = nI (kN (2 * s_lo A) (s_fs A) (fun _ => true)) := by
          rw [← kN_eq hen, tab_total (J := 2 * s_lo A) (fs := s_fs A) (fun p hp => (hTab.2.2.2 p hp).1)]
        rw [show (ru_th t 0).2.2.1.2.2.1 = nI i from hTab.2.1, e5]
        exact go _ rfl
      · subst e
        conv => whnf
        refine ⟨fun e => absurd e (by decide), ?_⟩
        rw [kM_eq hen]
        exact go _ rfl
    | succ d ih =>
      intro i hd
      have hi : i < T := by omega
      have nxt := ih (i + 1) (by omega)
      have ini_ : vp_in (nI i) 2000 := pk_in i 2000 (by omega)
      have hci : (nI i).toNatClampNeg = i := nx_c (by omega)
      have m8 := mxP_8 ks i
      have d8 := dp_le 8 (ks i)
      have st : mxP ks (i + 1) = max (mxP ks i) (dp 8 (ks i)) := rfl
      rw [st] at nxt
      refine hV [9] 60 _ _ _ _ _ _ ?_
      conv => whnf
      refine pk_le T i (fun _ => by omega) (fun _ => ?_) hTab.2.1
      conv => whnf
      refine ⟨ini_, ?_⟩
      conv => whnf
      rw [hci]
      dsimp only
      rw [show (ru_th t 0).2.2.2.2.2.1 i = nI (dp 8 (ks i)) from hfar i hi]
      refine pk_le (dp 8 (ks i)) (mxP ks i) (fun h4 => ?_) (fun h4 => ?_)
      · conv => whnf
        rw [nI_1]
        rw [show max (mxP ks i) (dp 8 (ks i)) = mxP ks i by omega] at nxt
        exact nxt
      · conv => whnf
        refine ⟨ini_, ?_⟩
        conv => whnf
        rw [hci, nI_1]
        dsimp only
        rw [show (ru_th t 0).2.2.2.2.2.1 i = nI (dp 8 (ks i)) from hfar i hi]
        rw [show max (mxP ks i) (dp 8 (ks i)) = dp 8 (ks i) by omega] at nxt
        exact nxt
  refine hV [9] 60 _ _ _ _ _ _ ?_
  conv => whnf
  refine ⟨Or.inl rfl, ?_⟩
  conv => whnf
  rw [← nI_0]
  exact loop T 0 (by omega)
