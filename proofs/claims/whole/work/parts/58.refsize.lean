/-! The reference: size. -/
def sp_R_reach : cx_S := cx_self 4 (fun j r ws R => ∃ (x : wX) (n : wN) (l : wL) (m : wM) (t : wR) (q : List cx_C) (T : Nat) (mb : Nat → Bool) (v : Int32), ws = wd x n l m (wq t q) ∧ j = 25 ∧ r = [.inl v] ∧ T ≤ 874 ∧ (∀ i, i < T → rt_mk t i = b2 (mb i)) ∧ (v = -1 ∨ ∃ p, p < T ∧ v = nI p) ∧
  (v = -1 → R (.inl (some (.inl 0))) ws) ∧ (∀ p, p < T → v = nI p → mb p = true → R (.inl (some (.inl 0))) ws) ∧ (∀ p, p < T → v = nI p → mb p = false → R (.inl (some (.inl 1))) (wd x n l m (wq (ru_mk t (upd (rt_mk t) p 1)) q))))
theorem pu_R_reach : ∀ as ws Rq, sp_R_reach as ws Rq → cx_cats as ≤ 2 ∧ ∀ V, cx_cl1 t_R_reach [] [] [] 0 0 Rq V → V 0 (cx_lv0 as 2) [] ws 0 0 := by
  intro as ws Rq h0
  obtain ⟨j, r, fs0, rfl, hj, x, n, l, m, t, q, T, mb, v, rfl, rfl, rfl, hT, hmk, hv, h1, h2, h3⟩ := cx_self_spec h0
  refine ⟨Nat.le_of_ble_eq_true rfl, fun V hV => hV [] 40 _ _ _ _ _ _ ?_⟩
  conv => whnf
  refine ⟨fun e => ?_, fun e => ?_⟩
  · conv => whnf
    exact ⟨fun e => absurd e (by decide), h1 e⟩
  · rcases hv with hv | ⟨p, hp, rfl⟩
    · exact absurd hv e
    have inp : vp_in (nI p) 2000 := pk_in p 2000 (by omega)
    have hcp : (nI p).toNatClampNeg = p := nx_c (by omega)
    conv => whnf
    refine ⟨inp, ?_⟩
    conv => whnf
    rw [hcp]
    dsimp only
    rw [show t.2.2.2.2.2.2.2 p = b2 (mb p) from hmk p hp]
    refine ⟨fun e2 => ?_, fun e2 => ?_⟩
    · conv => whnf
      refine ⟨⟨inp, Or.inr rfl⟩, ?_⟩
      conv => whnf
      refine ⟨fun e => absurd e (by decide), ?_⟩
      rw [hcp]
      exact h3 p hp rfl (b2_eq0.mp e2)
    · conv => whnf
      exact ⟨fun e => absurd e (by decide), h2 p hp rfl (b2_ne0.mp e2)⟩
theorem ctB_mono {p p' : Nat → Bool} : ∀ n, (∀ i, i < n → p i = true → p' i = true) → ctB p n ≤ ctB p' n
  | 0, _ => Nat.le_refl _
  | n + 1, h => by
    unfold ctB
    have h1 := ctB_mono n (fun i hi => h i (by omega))
    have h2 : bn (p n) ≤ bn (p' n) := by
      cases e : p n with
      | false => simp [bn]
      | true => rw [h n (by omega) e]; exact Nat.le_refl _
    omega
theorem ctB_same {p p' : Nat → Bool} : ∀ n, (∀ i, i < n → p i = true → p' i = true) → ctB p' n ≤ ctB p n → ∀ i, i < n → p' i = p i
  | 0, _, _, i, hi => absurd hi (Nat.not_lt_zero _)
  | n + 1, h, hc, i, hi => by
    unfold ctB at hc
    have h1 := ctB_mono (p := p) (p' := p') n (fun i hi => h i (by omega))
    have h2 : bn (p n) ≤ bn (p' n) := by
      cases e : p n with
      | false => simp [bn]
      | true => rw [h n (by omega) e]; exact Nat.le_refl _
    by_cases e : i = n
    · subst e
      exact (bn_inj (by omega)).symm
    · exact ctB_same n (fun i hi => h i (by omega)) (by omega) i (by omega)
def setB (mb : Nat → Bool) (p : Nat) : Nat → Bool := fun i => if i = p then true else mb i
theorem ctB_set {mb : Nat → Bool} {p : Nat} (h : mb p = false) : ∀ n, p < n → ctB (setB mb p) n = ctB mb n + 1
  | 0, hp => absurd hp (Nat.not_lt_zero _)
  | n + 1, hp => by
    unfold ctB
    by_cases e : p = n
    · subst e
      rw [ctB_congr (p := setB mb p) (p' := mb) p (fun i hi => if_neg (by omega)), show setB mb p p = true from if_pos rfl, h]
      simp [bn]
    · rw [ctB_set h n (by omega), show setB mb p n = mb n from if_neg (by omega)]
      omega
/-- the marks: all within what f leaves -/
def mkR (T : Nat) (ks : Nat → Ky) (f : Ky) (mb : Nat → Bool) (mk : Nat → Int32) : Prop := (∀ i, i < T → mk i = b2 (mb i)) ∧ ∀ i, i < T → mb i = true → memK 1 (fun _ => f) (ks i)
def mkd (T : Nat) (mb : Nat → Bool) (v : Int32) : Prop := v = -1 ∨ ∃ p, p < T ∧ v = nI p ∧ mb p = true
theorem nI_inj {a b T : Nat} (hT : T ≤ 874) (ha : a < T) (hb : b < T) (e : nI a = nI b) : a = b := by
  rw [nI_eq (by omega) (by omega)] at e
  exact e
theorem sub_mark {T : Nat} {ks : Nat → Ky} {f : Ky} {mb : Nat → Bool} {lo hi : Nat → Int32} (hT : T ≤ 874) (hnf : nf f) (hc : chR T T ks lo hi) {r : Nat} (hr : r < T) (er : ks r = f) (hmr : mb r = true) (hcl : ∀ p, p < T → mb p = true → mkd T mb (lo p) ∧ mkd T mb (hi p)) : ∀ k, k ≤ 8 → ∀ i, i < 2 ^ k → fd (sub f k i) = 8 ∨ ∃ p, p < T ∧ ks p = sub f k i ∧ mb p = true
  | 0, _, i, hi2 => by
    have : i = 0 := by rw [Nat.pow_zero] at hi2; omega
    subst this
    rw [sub_self hnf (dk_0 _)]
    exact Or.inr ⟨r, hr, er, hmr⟩
  | k + 1, hk, i, hi2 => by
    rw [Nat.pow_succ] at hi2
    have hb : i % 2 < 2 := Nat.mod_lt _ (by omega)
    have hlt : i % 2 < 2 ^ (k + 1) := Nat.lt_of_lt_of_le hb (by rw [Nat.pow_succ]; have := pw_pos k; omega)
    have e2 : sub (sub f k (i / 2)) (k + 1) (i % 2) = sub f (k + 1) i := by
      rw [sub_b (by omega) hb, Nat.div_add_mod]
    have hge : k ≤ fd (sub f k (i / 2)) := fd_sub_ge (by omega)
    have fin : ∀ (g : Ky) (v : Int32), ixT T ks g v → mkd T mb v → fd g = 8 ∨ ∃ p, p < T ∧ ks p = g ∧ mb p = true := by
      intro g v h1 h2
      rcases h1 with ⟨d1, -⟩ | ⟨p', d1, d2, d3⟩
      · exact Or.inl d1
      · rcases h2 with h2 | ⟨p, p1, p2, p3⟩
        · rw [d3] at h2
          exact absurd h2 (nI_ne_m1 (by omega))
        · rw [d3] at p2
          exact Or.inr ⟨p', d1, d2, by rw [nI_inj hT d1 p1 p2]; exact p3⟩
    by_cases hf : fd (sub f k (i / 2)) = k
    · rcases sub_mark hT hnf hc hr er hmr hcl k (by omega) (i / 2) (by omega) with h8 | ⟨p, h1, h2, h3⟩
      · omega
      · rw [← h2] at e2 hf
        obtain ⟨c0, c1⟩ := hc p h1
        obtain ⟨m0, m1⟩ := hcl p h1 h3
        rw [hf] at c0 c1
        rcases Nat.mod_two_eq_zero_or_one i with q | q
        · rw [q] at e2
          rw [← e2]
          exact fin _ _ c0 m0
        · rw [q] at e2
          rw [← e2]
          exact fin _ _ c1 m1
    · have hd : dk (sub f k (i / 2)) (k + 1) := dk_anti (fd_dk _) (by omega) (fd_le _)
      rw [dk_sub1 hd hlt hk, sub_self (nf_sub _ _ _) hd] at e2
      rw [← e2]
      exact sub_mark hT hnf hc hr er hmr hcl k (by omega) (i / 2) (by omega)
theorem const_sub {f : Ky} (h : fd f = 8) {k i : Nat} (hk : k ≤ 8) (hi : i < 2 ^ k) : fd (sub f k i) = 8 := by
  have hd := fd_dk f
  rw [h] at hd
  refine Nat.le_antisymm (fd_le _) (fd_max (fun c hc => ?_) (Nat.le_refl _))
  have hx : ∀ c, i * 2 ^ (8 - k) + c % 2 ^ (8 - k) < 256 := fun c => by
    have hm := Nat.mod_lt c (pw_pos (8 - k))
    have h2 : (i + 1) * 2 ^ (8 - k) ≤ 2 ^ k * 2 ^ (8 - k) := Nat.mul_le_mul_right _ hi
    rw [← Nat.pow_add, show k + (8 - k) = 8 by omega, Nat.add_mul] at h2
    omega
  rw [sub_in hc, sub_in pw_lt, hd _ (hx _), hd (i * 2 ^ (8 - k) + _) (hx _)]
  rw [show 2 ^ (8 - 8) = 1 from rfl, Nat.mod_one, Nat.mod_one]
theorem ctB_cnP {mb : Nat → Bool} {ks : Nat → Ky} {p : Ky → Bool} : ∀ n, (∀ i, i < n → mb i = p (ks i)) → ctB mb n = cnP ks p n
  | 0, _ => rfl
  | n + 1, h => by
    unfold ctB cnP
    rw [ctB_cnP n (fun i hi => h i (by omega)), h n (by omega)]
theorem ru_mk_self (t : wR) : ru_mk t (rt_mk t) = t := rfl
theorem mkd_up {T : Nat} {mb mb' : Nat → Bool} {v : Int32} (h : mkd T mb v) (hs : ∀ i, i < T → mb i = true → mb' i = true) : mkd T mb' v := by
  rcases h with h | ⟨p, p1, p2, p3⟩
  · exact Or.inl h
  · exact Or.inr ⟨p, p1, p2, hs p p1 p3⟩
theorem reach_use {T : Nat} {ks : Nat → Ky} {f g : Ky} {mb : Nat → Bool} {t : wR} {v : Int32} {x : wX} {n : wN} {l : wL} {m : wM} {q : List cx_C} {R : cx_R} (hT : T ≤ 874) (hmk : mkR T ks f mb (rt_mk t)) (hix : ixT T ks g v) (hg : memK 1 (fun _ => f) g)
    (hK : ∀ mk' mb' c, mkR T ks f mb' mk' → (∀ i, i < T → mb i = true → mb' i = true) → mkd T mb' v → ctB mb' T = ctB mb T + c → c ≤ 1 → R (.inl (some (.inl (nI c)))) (wd x n l m (wq (ru_mk t mk') q))) :
    T ≤ 874 ∧ (∀ i, i < T → rt_mk t i = b2 (mb i)) ∧ (v = -1 ∨ ∃ p, p < T ∧ v = nI p) ∧ (v = -1 → R (.inl (some (.inl 0))) (wd x n l m (wq t q))) ∧ (∀ p, p < T → v = nI p → mb p = true → R (.inl (some (.inl 0))) (wd x n l m (wq t q))) ∧ (∀ p, p < T → v = nI p → mb p = false → R (.inl (some (.inl 1))) (wd x n l m (wq (ru_mk t (upd (rt_mk t) p 1)) q))) := by
  refine ⟨hT, hmk.1, ?_, fun e => ?_, fun p hp e hb => ?_, fun p hp e hb => ?_⟩
  · rcases hix with ⟨-, h⟩ | ⟨p, h1, -, h2⟩
    · exact Or.inl h
    · exact Or.inr ⟨p, h1, h2⟩
  · have := hK (rt_mk t) mb 0 hmk (fun i _ h => h) (Or.inl e) rfl (by omega)
    rw [ru_mk_self] at this
    exact this
  · have := hK (rt_mk t) mb 0 hmk (fun i _ h => h) (Or.inr ⟨p, hp, e, hb⟩) rfl (by omega)
    rw [ru_mk_self] at this
    exact this
  · have hgp : ks p = g := by
      rcases hix with ⟨-, h⟩ | ⟨p', h1, h2, h3⟩
      · rw [e] at h; exact absurd h (nI_ne_m1 (by omega))
      · rw [e] at h3
        rw [nI_inj hT hp h1 h3]
        exact h2
    refine hK (upd (rt_mk t) p 1) (setB mb p) 1 ⟨fun i hi => ?_, fun i hi h => ?_⟩ (fun i hi h => ?_) (Or.inr ⟨p, hp, e, if_pos rfl⟩) (ctB_set hb T hp) (Nat.le_refl _)
    · by_cases ei : i = p
      · subst ei; rw [pk_us, show setB mb i i = true from if_pos rfl]; rfl
      · rw [pk_un ei, show setB mb p i = mb i from if_neg ei]; exact hmk.1 i hi
    · by_cases ei : i = p
      · subst ei; rw [hgp]; exact hg
      · rw [show setB mb p i = mb i from if_neg ei] at h; exact hmk.2 i hi h
    · by_cases ei : i = p
      · exact if_pos ei
      · rw [show setB mb p i = mb i from if_neg ei]; exact h
def sp_R_size : cx_S := cx_self 4 (fun j r ws R => ∃ x n l m t q A o b, ws = wd x n l m (wq t q) ∧ j = 25 ∧ r = [.inl o, .inl (b2 b)] ∧ rR A t ∧ ansR (sizS A o b) x n l m q R)
set_option maxRecDepth 100000 in
set_option maxHeartbeats 4000000 in
theorem pu_R_size : ∀ as ws Rq, sp_R_size as ws Rq → cx_cats as ≤ 8 ∧ ∀ V, cx_cl1 t_R_size [(sp_R_refuses, 3, 0, 0), (sp_R_reach, 2, 0, 0)] [] [] 0 0 Rq V → V 0 (cx_lv0 as 8) [] ws 0 0 := by
  intro as ws Rq h0
  obtain ⟨j, r, fs0, rfl, hj, x, n, l, m, t, q, A, o, b, rfl, rfl, rfl, hR, h⟩ := cx_self_spec h0
  refine ⟨Nat.le_of_ble_eq_true rfl, fun V hV => ?_⟩
  have hL := hR.2.2.2.2
  have lo10 := hL.1
  have hla : rt_la t = nI (s_lo A) := hL.2.1
  obtain ⟨T, ks, hen, hTab, hch, hfar, hro⟩ := rRl_enu hL
  have hT := hTab.1
  refine hV [13] 60 _ _ _ _ _ _ ?_
  conv => whnf
  refine ⟨x, n, l, m, t, q, o, 0, rfl, rfl, rfl, fun e => ?_, fun e => ?_⟩
  rotate_left
  · rw [hla, show hg 0 256 = true from by decide, Bool.and_true] at e
    conv => whnf
    refine ⟨fun e => absurd e (by decide), fun _ => ?_⟩
    conv => whnf
    have e2 : sizS A o b = (0 + 1, 0, A) := by
      unfold sizS
      rw [if_neg (by rw [e]; simp)]
    exact ⟨fun e => absurd e (by decide), ansR_thr h e2 (t := ru_th t 1) hR rfl⟩
  rw [hla, show hg 0 256 = true from by decide, Bool.and_true] at e
  obtain ⟨o, ho, rfl⟩ := hg_of (by omega) e
  have hbl := bn_lt (!b)
  have nff : nf (s_fs A (2 * o + bn (!b))) := (hL.2.2.1 _ (by omega)).1
  have hrf := hro (2 * o + bn (!b)) (by omega)
  generalize hf : s_fs A (2 * o + bn (!b)) = f at nff hrf
  have ret : sizS A (nI o) b = (0, nI (kN (2 * s_lo A) (s_fs A) (isub f)), A) := by
    unfold sizS
    rw [if_pos e, nx_c (show o < 2 ^ 31 by omega), hf]
  have hRm : ∀ mk, rR A (ru_mk (ru_th t 0) mk) := fun mk => hR
  have outer : ∀ (d : Nat) (r : Nat) (mb : Nat → Bool) (mk : Nat → Int32) (s6 s7 : Option cx_V), ctB mb T + d = T → r < T → ks r = f → mb r = true → mkR T ks f mb mk → V 75 [some (.inr (.inr (.inl 25))), some (.inl (nI o)), some (.inl (b2 b)), some (.inl (nI r)), some (.inl (nI (ctB mb T))), some (.inl 1), s6, s7] [] (wd x n l m (wq (ru_mk (ru_th t 0) mk) q)) 0 0 := by
    intro d
    induction d using Nat.strongRecOn with
    | ind d ihd =>
      intro r mb0 mk0 s6 s7 hd hr er hmr hmk0
      have inner : ∀ (d i : Nat) (mb : Nat → Bool) (mk : Nat → Int32), i + d = T → mkR T ks f mb mk → (∀ p, p < T → mb0 p = true → mb p = true) → (∀ p, p < i → mb0 p = true → mkd T mb (rt_lo t p) ∧ mkd T mb (rt_hi t p)) →
          V 87 [some (.inr (.inr (.inl 25))), some (.inl (nI o)), some (.inl (b2 b)), some (.inl (nI r)), some (.inl (nI (ctB mb T))), some (.inl 1), some (.inl (nI (ctB mb0 T))), some (.inl (nI i))] [] (wd x n l m (wq (ru_mk (ru_th t 0) mk) q)) 0 0 := by
        intro d
        induction d with
        | zero =>
          intro i mb mk hd2 g1 g2 g3
          have hle := ctB_mono (p := mb0) (p' := mb) T g2
          have hle2 := ctB_le mb T
          refine hV [75] 60 _ _ _ _ _ _ ?_
          conv => whnf
          refine pk_le T i (fun _ => ?_) (fun _ => by omega) hTab.2.1
          conv => whnf
          refine pk_le (ctB mb T) (ctB mb0 T) (fun h4 => ?_) (fun h4 => ?_)
          · conv => whnf
            have heq := ctB_same (p := mb0) (p' := mb) T g2 h4
            refine hV [] 60 _ _ _ _ _ _ ?_
            conv => whnf
            refine ⟨fun _ => ?_, fun e => absurd rfl e⟩
            conv => whnf
            refine ⟨fun e => absurd e (by decide), ?_⟩
            have hcl : ∀ p, p < T → mb p = true → mkd T mb (rt_lo t p) ∧ mkd T mb (rt_hi t p) := fun p hp hb => g3 p (by omega) (by rw [← heq p hp]; exact hb)
            have hall := sub_mark hT nff hch hr er (g2 r hr hmr) hcl
            have ecnt : ctB mb T = kN (2 * s_lo A) (s_fs A) (isub f) := by
              rw [← kN_eq hen]
              refine ctB_cnP T (fun p hp => ?_)
              have f8 := (hTab.2.2.2 p hp).1
              rw [Bool.eq_iff_iff, pnc_iff]
              constructor
              · intro hb
                exact ⟨isub_iff.mpr ⟨f8, g1.2 p hp hb⟩, f8⟩
              · rintro ⟨hs, -⟩
                obtain ⟨-, j, k, i, -, hk, hi, ek⟩ := isub_iff.mp hs
                have ek' : ks p = sub f k i := ek
                rcases hall k hk i hi with h8 | ⟨p', p1, p2, p3⟩
                · rw [← ek'] at h8; omega
                · rw [hTab.2.2.1 p hp p' p1 (ek'.trans p2.symm)]; exact p3
            rw [ecnt]
            exact ansR_ret h ret (hRm mk) rfl
          · conv => whnf
            exact ihd (T - ctB mb T) (by omega) r mb mk _ _ (by omega) hr er (g2 r hr hmr) g1
        | succ d ih2 =>
          intro i mb mk hd2 g1 g2 g3
          have hi : i < T := by omega
          have ini_ : vp_in (nI i) 2000 := pk_in i 2000 (by omega)
          have hci : (nI i).toNatClampNeg = i := nx_c (by omega)
          obtain ⟨c0, c1⟩ := hch i hi
          have f8 := (hTab.2.2.2 i hi).1
          refine hV [87, 75] 60 _ _ _ _ _ _ ?_
          conv => whnf
          refine pk_le T i (fun _ => by omega) (fun _ => ?_) hTab.2.1
          conv => whnf
          refine ⟨ini_, ?_⟩
          conv => whnf
          rw [hci]
          dsimp only
          rw [show (ru_mk (ru_th t 0) mk).2.2.2.2.2.2.2 i = b2 (mb i) from g1.1 i hi]
          refine ⟨fun e => ?_, fun e => ?_⟩
          rotate_left
          · have hb := b2_eq0.mp e
            conv => whnf
            rw [nI_1]
            refine ih2 (i + 1) mb mk (by omega) g1 g2 (fun p hp hb0 => ?_)
            by_cases ep : p = i
            · subst ep
              have := g2 p hi hb0
              rw [hb] at this
              cases this
            · exact g3 p (by omega) hb0
          have hb := b2_ne0.mp e
          have mi := g1.2 i hi hb
          conv => whnf
          refine ⟨ini_, ?_⟩
          conv => whnf
          rw [hci]
          refine ⟨x, n, l, m, ru_mk (ru_th t 0) mk, q, T, mb, rt_lo t i, rfl, rfl, rfl, reach_use hT g1 c0 (mem_child mi f8 (by omega)) (fun mk1 mb1 k1 a1 a2 a3 a4 a5 => ?_)⟩
          conv => whnf
          refine ⟨ini_, ?_⟩
          conv => whnf
          rw [hci]
          refine ⟨x, n, l, m, ru_mk (ru_th t 0) mk1, q, T, mb1, rt_hi t i, rfl, rfl, rfl, reach_use hT (t := ru_mk (ru_th t 0) mk1) a1 c1 (mem_child mi f8 (by omega)) (fun mk2 mb2 k2 b1 b2 b3 b4 b5 => ?_)⟩
          conv => whnf
          rw [nI_add, nI_add, nI_1]
          have ec : ctB mb T + (k1 + k2) = ctB mb2 T := by omega
          rw [ec]
          refine ih2 (i + 1) mb2 mk2 (by omega) b1 (fun p hp hb0 => b2 p hp (a2 p hp (g2 p hp hb0))) (fun p hp hb0 => ?_)
          by_cases ep : p = i
          · subst ep
            exact ⟨mkd_up a3 b2, b3⟩
          · obtain ⟨r1, r2⟩ := g3 p (by omega) hb0
            exact ⟨mkd_up (mkd_up r1 a2) b2, mkd_up (mkd_up r2 a2) b2⟩
      refine hV [87] 60 _ _ _ _ _ _ ?_
      conv => whnf
      refine ⟨fun e => absurd e (by decide), fun _ => ?_⟩
      conv => whnf
      rw [← nI_0]
      exact inner T 0 mb0 mk0 (by omega) hmk0 (fun p _ hb => hb) (fun p hp => by omega)
  have at53 : ∀ (mk : Nat → Int32) (s3 : Option cx_V), (∀ p, p < T → mk p = 0) → V 53 [some (.inr (.inr (.inl 25))), some (.inl (nI o)), some (.inl (b2 b)), s3, none, none, none, none] [.inl (nI (2 * o + bn (!b))), .inr (.inr (.inl 38))] (wd x n l m (wq (ru_mk (ru_th t 0) mk) q)) 0 0 := by
    intro mk s3 hz
    refine hV [75] 60 _ _ _ _ _ _ ?_
    conv => whnf
    refine ⟨pk_in (2 * o + bn (!b)) 20 (by omega), ?_⟩
    conv => whnf
    rw [nx_c (show 2 * o + bn (!b) < 2 ^ 31 by omega)]
    rcases hrf with ⟨d1, d2⟩ | ⟨r, d1, d2, d3⟩
    · refine ⟨fun e => absurd d2 e, fun _ => ?_⟩
      conv => whnf
      refine ⟨fun e => absurd e (by decide), ?_⟩
      refine ansR_ret h (v := 0) (A := A) ?_ (hRm mk) rfl
      rw [ret, ← kN_eq hen]
      have e0 : cnP ks (pnc (isub f)) T = 0 := by
        have := cnP_zero (ks := ks) (p := pnc (isub f)) 0 T (fun p _ hp => by
          cases hh : pnc (isub f) (ks p) with
          | false => rfl
          | true =>
            obtain ⟨hs, -⟩ := pnc_iff.mp hh
            obtain ⟨g8, j, k, i, -, hk, hi, ek⟩ := isub_iff.mp hs
            have := const_sub d1 hk hi
            rw [← show ks p = sub f k i from ek] at this
            omega)
        rw [Nat.zero_add] at this
        exact this
      rw [e0]
      rfl
    · have d3' : (ru_mk (ru_th t 0) mk).2.2.2.2.2.2.1 (2 * o + bn (!b)) = nI r := d3
      refine ⟨fun _ => ?_, fun e => absurd (d3'.symm.trans e) (nI_ne_m1 (by omega))⟩
      conv => whnf
      refine ⟨⟨pk_in r 2000 (by omega) d3', Or.inr rfl⟩, ?_⟩
      conv => whnf
      dsimp only
      rw [d3', nx_c (show r < 2 ^ 31 by omega)]
      have e0 : ctB (fun _ => false) T = 0 := by
        have : ∀ k, ctB (fun _ => false) k = 0 := by
          intro k
          induction k with
          | zero => rfl
          | succ k ih =>
            show ctB (fun _ => false) k + 0 = 0
            rw [ih]
        exact this T
      have e1 : ctB (setB (fun _ => false) r) T = 1 := by rw [ctB_set rfl T d1, e0]
      have := outer (T - 1) r (setB (fun _ => false) r) (upd mk r 1) none none (by omega) d1 d2 (if_pos rfl) ⟨fun i hi => ?_, fun i hi hb => ?_⟩
      · rw [e1] at this
        exact this
      · by_cases ei : i = r
        · subst ei; rw [pk_us, show setB (fun _ => false) i i = true from if_pos rfl]; rfl
        · rw [pk_un ei, show setB (fun _ => false) r i = false from if_neg ei]; exact hz i hi
      · by_cases ei : i = r
        · subst ei; rw [d2]; exact mem_root (J := 1) (fs := fun _ => f) (j := 0) (by omega) nff
        · rw [show setB (fun _ => false) r i = false from if_neg ei] at hb; cases hb
  have first : ∀ (d i : Nat) (mk : Nat → Int32), i + d = T → (∀ p, p < i → mk p = 0) → V 13 [some (.inr (.inr (.inl 25))), some (.inl (nI o)), some (.inl (b2 b)), some (.inl (nI i)), none, none, none, none] [] (wd x n l m (wq (ru_mk (ru_th t 0) mk) q)) 0 0 := by
    intro d
    induction d with
    | zero =>
      intro i mk hd hz
      have e2o : (2 : Int32) * nI o = nI (2 * o) := by rw [show (2 : Int32) = nI 2 from rfl, pk_mul]
      have h53 := at53 mk (some (.inl (nI i))) (fun p hp => hz p (by omega))
      refine hV [53] 60 _ _ _ _ _ _ ?_
      conv => whnf
      refine pk_le T i (fun _ => ?_) (fun _ => by omega) hTab.2.1
      conv => whnf
      cases b with
      | true =>
        refine ⟨fun e => absurd e (by decide), fun _ => ?_⟩
        conv => whnf
        rw [e2o]
        exact h53
      | false =>
        refine ⟨fun _ => ?_, fun e => absurd rfl e⟩
        conv => whnf
        rw [e2o, nI_1]
        exact h53
    | succ d ih =>
      intro i mk hd hz
      refine hV [13] 60 _ _ _ _ _ _ ?_
      conv => whnf
      refine pk_le T i (fun _ => by omega) (fun _ => ?_) hTab.2.1
      conv => whnf
      refine ⟨⟨pk_in i 2000 (by omega), Or.inl rfl⟩, ?_⟩
      conv => whnf
      rw [nI_1, nx_c (show i < 2 ^ 31 by omega)]
      refine ih (i + 1) (upd mk i 0) (by omega) (fun p hp => ?_)
      by_cases e : p = i
      · subst e; exact pk_us
      · rw [pk_un e]; exact hz p (by omega)
  conv => whnf
  refine ⟨fun _ => ?_, fun e => absurd rfl e⟩
  conv => whnf
  rw [← nI_0]
  exact first T 0 (rt_mk t) (by omega) (fun p hp => by omega)
