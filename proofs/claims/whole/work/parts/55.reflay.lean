/-! The reference lays out. -/
theorem ixT_up {T T' : Nat} {ks ks' : Nat → Ky} {g : Ky} {v : Int32} (h : ixT T ks g v) (hT : T ≤ T') (e : ∀ i, i < T → ks' i = ks i) : ixT T' ks' g v := by
  rcases h with h | ⟨i, h1, h2, h3⟩
  · exact Or.inl h
  · exact Or.inr ⟨i, by omega, (e i h1).trans h2, h3⟩
def chR (T n : Nat) (ks : Nat → Ky) (lo hi : Nat → Int32) : Prop := ∀ i, i < n → ixT T ks (sub (ks i) (fd (ks i) + 1) 0) (lo i) ∧ ixT T ks (sub (ks i) (fd (ks i) + 1) 1) (hi i)
theorem sub_tab {J : Nat} {fs : Nat → Ky} {T : Nat} {ks : Nat → Ky} {lo hi ro : Nat → Int32} (hnf : ∀ j, j < J → nf (fs j)) (hm : ∀ i, i < T → fd (ks i) < 8 ∧ memK J fs (ks i)) (hc : chR T T ks lo hi) (hr : ∀ j, j < J → ixT T ks (fs j) (ro j)) {j : Nat} (hj : j < J) : ∀ k, k ≤ 8 → ∀ i, i < 2 ^ k → fd (sub (fs j) k i) = 8 ∨ ∃ p, p < T ∧ ks p = sub (fs j) k i
  | 0, _, i, hi2 => by
    have : i = 0 := by rw [Nat.pow_zero] at hi2; omega
    subst this
    rw [sub_self (hnf j hj) (dk_0 _)]
    rcases hr j hj with ⟨h, -⟩ | ⟨p, h1, h2, -⟩
    · exact Or.inl h
    · exact Or.inr ⟨p, h1, h2⟩
  | k + 1, hk, i, hi2 => by
    rw [Nat.pow_succ] at hi2
    have hb : i % 2 < 2 := Nat.mod_lt _ (by omega)
    have hlt : i % 2 < 2 ^ (k + 1) := Nat.lt_of_lt_of_le hb (by rw [Nat.pow_succ]; have := pw_pos k; omega)
    have e2 : sub (sub (fs j) k (i / 2)) (k + 1) (i % 2) = sub (fs j) (k + 1) i := by
      rw [sub_b (by omega) hb, Nat.div_add_mod]
    have hge : k ≤ fd (sub (fs j) k (i / 2)) := fd_sub_ge (by omega)
    by_cases hf : fd (sub (fs j) k (i / 2)) = k
    · rcases sub_tab hnf hm hc hr hj k (by omega) (i / 2) (by omega) with h8 | ⟨p, h1, h2⟩
      · omega
      · rw [← h2] at e2 hf
        obtain ⟨c0, c1⟩ := hc p h1
        rw [hf] at c0 c1
        rcases Nat.mod_two_eq_zero_or_one i with q | q
        · rw [q] at e2
          rw [← e2]
          rcases c0 with ⟨d1, -⟩ | ⟨p', d1, d2, -⟩
          · exact Or.inl d1
          · exact Or.inr ⟨p', d1, d2⟩
        · rw [q] at e2
          rw [← e2]
          rcases c1 with ⟨d1, -⟩ | ⟨p', d1, d2, -⟩
          · exact Or.inl d1
          · exact Or.inr ⟨p', d1, d2⟩
    · have hd : dk (sub (fs j) k (i / 2)) (k + 1) := dk_anti (fd_dk _) (by omega) (fd_le _)
      rw [dk_sub1 hd hlt hk, sub_self (nf_sub _ _ _) hd] at e2
      rw [← e2]
      exact sub_tab hnf hm hc hr hj k (by omega) (i / 2) (by omega)
theorem tab_enu {J : Nat} {fs : Nat → Ky} {T : Nat} {ks : Nat → Ky} {lo hi ro : Nat → Int32} (hnf : ∀ j, j < J → nf (fs j)) (hinj : ∀ i, i < T → ∀ j, j < T → ks i = ks j → i = j) (hm : ∀ i, i < T → fd (ks i) < 8 ∧ memK J fs (ks i)) (hc : chR T T ks lo hi) (hr : ∀ j, j < J → ixT T ks (fs j) (ro j)) : enu J fs T ks := by
  refine ⟨hinj, fun i hi _ => (hm i hi).2, fun g hg h8 => ?_⟩
  obtain ⟨j, k, i, q1, q2, q3, q4⟩ := hg
  rcases sub_tab hnf hm hc hr q1 k q2 i q3 with h | ⟨p, h1, h2⟩
  · rw [← q4] at h; omega
  · exact ⟨p, h1, h2.trans q4.symm⟩
theorem rRl_enu {lo : Nat} {fs : Nat → Ky} {t : wR} (h : rRl lo fs t) : ∃ T ks, enu (2 * lo) fs T ks ∧ tabR (2 * lo) fs T ks t ∧ chR T T ks (rt_lo t) (rt_hi t) ∧ (∀ i, i < T → rt_far t i = nI (dp 8 (ks i))) ∧ (∀ j, j < 2 * lo → ixT T ks (fs j) (rt_ro t j)) := by
  obtain ⟨h1, h2, h3, T, ks, h4, h5, h6⟩ := h
  exact ⟨T, ks, tab_enu (fun j hj => (h3 j hj).1) h4.2.2.1 (fun i hi => ⟨(h4.2.2.2 i hi).1, (h4.2.2.2 i hi).2.1⟩) (fun i hi => ⟨(h5 i hi).1, (h5 i hi).2.1⟩) h6, h4, fun i hi => ⟨(h5 i hi).1, (h5 i hi).2.1⟩, fun i hi => (h5 i hi).2.2, h6⟩
theorem tab_total {J : Nat} {fs : Nat → Ky} {T : Nat} {ks : Nat → Ky} (hm : ∀ i, i < T → fd (ks i) < 8) : cnP ks (pnc (fun _ => true)) T = T := by
  have := cnP_all (ks := ks) (p := pnc (fun _ => true)) 0 T (fun i _ hi => pnc_iff.mpr ⟨rfl, hm i (by omega)⟩)
  rw [Nat.zero_add] at this
  rw [this]
  show 0 + T = T
  omega
def bsR (A : aS) (t : wR) : Prop := rRn (s_a A) t ∧ s_on A ≤ 10 ∧ rt_on t = nI (s_on A) ∧ (∀ i, i < s_on A → s_nm A i < a_g (s_a A) ∧ rt_nm t i = nI (s_nm A i)) ∧ rt_th t = 0 ∧ rt_la t = nI (s_on A)
def sp_R_lay : cx_S := cx_self 4 (fun j r ws R => ∃ x n l m t q A, ws = wd x n l m (wq t q) ∧ j = 25 ∧ r = [] ∧ rR A t ∧ ansR (layS A) x n l m q R)
/-- the steps of lay, from a pc on -/
def lyF (V : cx_K) (x : wX) (n : wN) (l : wL) (m : wM) (q : List cx_C) (pc : Nat) (i : Nat) (t : wR) : Prop := ∀ s2 s3 s4 : Option cx_V, V pc [some (.inr (.inr (.inl 25))), some (.inl (nI i)), s2, s3, s4] [] (wd x n l m (wq t q)) 0 0
abbrev lySp : List (cx_S × Nat × Nat × Nat) := [(sp_R_empty, 2, 0, 0), (sp_R_spread, 2, 0, 0), (sp_R_set, 3, 0, 0), (sp_R_number, 1, 0, 0), (sp_R_fix, 4, 0, 0)]
set_option maxRecDepth 100000 in
set_option maxHeartbeats 4000000 in
theorem ly_empty {V : cx_K} {Rq : cx_R} (hV : cx_cl1 t_R_lay lySp [] [] 0 0 Rq V) {x : wX} {n : wN} {l : wL} {m : wM} {q : List cx_C} {A : aS} (hK : ∀ t, bsR A t → rt_tb t = 0 → (∀ j, j < 20 → ∀ d, d < 256 → tw (rt_w t) j d = false) → lyF V x n l m q 39 0 t) :
    ∀ (d i : Nat) (t : wR), i + d = 20 → bsR A t → rt_tb t = 0 → (∀ j, j < i → ∀ d, d < 256 → tw (rt_w t) j d = false) → lyF V x n l m q 20 i t := by
  intro d
  induction d with
  | zero =>
    intro i t hd hb htb h1 s2 s3 s4
    refine hV [39] 40 _ _ _ _ _ _ ?_
    conv => whnf
    refine pk_le 20 i (fun _ => ?_) (fun _ => by omega)
    conv => whnf
    exact hK t hb htb (fun j hj => h1 j (by omega)) s2 s3 s4
  | succ d ih =>
    intro i t hd hb htb h1 s2 s3 s4
    refine hV [20] 40 _ _ _ _ _ _ ?_
    conv => whnf
    refine pk_le 20 i (fun _ => by omega) (fun _ => ?_)
    conv => whnf
    refine ⟨x, n, l, m, t, q, i, rfl, rfl, rfl, by omega, fun w k1 k2 => ?_⟩
    conv => whnf
    rw [nI_1]
    refine ih (i + 1) (ru_w t w) (by omega) hb htb (fun j hj d2 hd2 => ?_) s2 s3 s4
    by_cases e : j = i
    · subst e; exact k2 d2 hd2
    · rw [show tw (rt_w (ru_w t w)) j = tw (rt_w t) j from tw_other k1 e]
      exact h1 j (by omega) d2 hd2
set_option maxRecDepth 100000 in
set_option maxHeartbeats 4000000 in
theorem ly_out {V : cx_K} {Rq : cx_R} (hV : cx_cl1 t_R_lay lySp [] [] 0 0 Rq V) {x : wX} {n : wN} {l : wL} {m : wM} {q : List cx_C} {A : aS} {c : Nat} (hc : c < 256)
    (hK : ∀ t, bsR A t → rt_tb t = 0 → (∀ j, j < 2 * s_on A → ∀ d, d < 256 → tw (rt_w t) j d = (decide (d < c + 1) && fsN (s_a A) (s_nm A) j d)) → ∀ s2 s3 s4, V 105 [some (.inr (.inr (.inl 25))), some (.inl (nI c)), s2, s3, s4] [] (wd x n l m (wq t q)) 0 0) :
    ∀ (d o : Nat) (t : wR) (s3 s4 : Option cx_V), o + d = s_on A → bsR A t → rt_tb t = 0 → (∀ p, p < a_g (s_a A) → rt_va t p = vI (val (s_a A) c p)) → (∀ j, j < 2 * s_on A → ∀ d, d < 256 → tw (rt_w t) j d = (decide (d < (if j < 2 * o then c + 1 else c)) && fsN (s_a A) (s_nm A) j d)) →
      V 53 [some (.inr (.inr (.inl 25))), some (.inl (nI c)), some (.inl (nI o)), s3, s4] [] (wd x n l m (wq t q)) 0 0 := by
  intro d
  induction d with
  | zero =>
    intro o t s3 s4 hd hb htb hva h1
    have on10 := hb.2.1
    refine hV [105] 40 _ _ _ _ _ _ ?_
    conv => whnf
    refine pk_le (s_on A) o (fun _ => ?_) (fun _ => by omega) hb.2.2.1
    refine hK t hb htb (fun j hj d hd => ?_) _ s3 s4
    rw [h1 j hj d hd, if_pos (by omega)]
  | succ d ih =>
    intro o t s3 s4 hd hb htb hva h1
    have on10 := hb.2.1
    obtain ⟨g1, g2⟩ := hb.2.2.2.1 o (by omega)
    have g120 := hb.1.1.1
    have next : ∀ (t' : wR) (s3 : Option cx_V), bsR A t' → rt_tb t' = 0 → (∀ p, p < a_g (s_a A) → rt_va t' p = vI (val (s_a A) c p)) → (∀ j, j < 2 * s_on A → ∀ d, d < 256 → tw (rt_w t') j d = (decide (d < (if j < 2 * (o + 1) then c + 1 else c)) && fsN (s_a A) (s_nm A) j d)) →
        V 99 [some (.inr (.inr (.inl 25))), some (.inl (nI c)), some (.inl (nI o)), s3, s4] [] (wd x n l m (wq t' q)) 0 0 := by
      intro t' s3 b1 b2 b3 b4
      refine hV [53] 40 _ _ _ _ _ _ ?_
      conv => whnf
      rw [nI_1]
      exact ih (o + 1) t' s3 s4 (by omega) b1 b2 b3 b4
    have fe : fsN (s_a A) (s_nm A) (2 * o) c = eH (val (s_a A) c (s_nm A o)) := by rw [fsN_e]; simp [hiK, hc]
    have fo : fsN (s_a A) (s_nm A) (2 * o + 1) c = eL (val (s_a A) c (s_nm A o)) := by rw [fsN_o]; simp [loK, hc]
    -- what the tables hold when one bit, or none, has been set
    have upd1 : ∀ (w : Nat → Int64) (J : Nat → Bool), (∀ j, j < 2 * s_on A → ∀ d, d < 256 → tw w j d = (tw (rt_w t) j d || (J j && decide (d = c)))) → (∀ j, J j = true → fsN (s_a A) (s_nm A) j c = true ∧ 2 * o ≤ j ∧ j < 2 * (o + 1)) → (∀ j, 2 * o ≤ j → j < 2 * (o + 1) → J j = false → fsN (s_a A) (s_nm A) j c = false) →
        ∀ j, j < 2 * s_on A → ∀ d, d < 256 → tw w j d = (decide (d < (if j < 2 * (o + 1) then c + 1 else c)) && fsN (s_a A) (s_nm A) j d) := by
      intro w J k1 k2 k3 j hj d hd
      rw [k1 j hj d hd, h1 j hj d hd]
      by_cases e1 : j < 2 * o
      · have hJ : J j = false := by
          cases e : J j with
          | false => rfl
          | true => have := (k2 j e).2.1; omega
        rw [if_pos e1, if_pos (by omega), hJ]
        simp
      · rw [if_neg e1]
        by_cases e2 : j < 2 * (o + 1)
        · rw [if_pos e2]
          cases hJ : J j with
          | true =>
            by_cases ed : d = c
            · subst ed
              rw [(k2 j hJ).1]
              simp
            · have : decide (d < c + 1) = decide (d < c) := by simp; omega
              rw [this]
              simp [ed]
          | false =>
            by_cases ed : d = c
            · subst ed
              rw [k3 j (by omega) e2 hJ]
              simp
            · have : decide (d < c + 1) = decide (d < c) := by simp; omega
              rw [this]
              simp
        · have hJ : J j = false := by
            cases e : J j with
            | false => rfl
            | true => have := (k2 j e).2.2; omega
          rw [if_neg e2, hJ]
          simp
    refine hV [99] 60 _ _ _ _ _ _ ?_
    conv => whnf
    refine pk_le (s_on A) o (fun _ => by omega) (fun _ => ?_) hb.2.2.1
    conv => whnf
    refine ⟨pk_in o 10 (by omega), ?_⟩
    conv => whnf
    rw [nx_c (show o < 2 ^ 31 by omega)]
    dsimp only
    rw [show t.2.1.2.2.2.2.1 o = nI (s_nm A o) from g2]
    refine ⟨pk_in (s_nm A o) 120 (by omega), ?_⟩
    conv => whnf
    rw [nx_c (show s_nm A o < 2 ^ 31 by omega)]
    dsimp only
    rw [show t.2.2.1.1 (s_nm A o) = vI (val (s_a A) c (s_nm A o)) from hva _ g1]
    rcases hv : val (s_a A) c (s_nm A o) with _ | _ | _
    · refine ⟨fun _ => ?_, fun e => absurd rfl e⟩
      rw [hv] at fe fo
      refine next t _ hb htb hva (upd1 (rt_w t) (fun _ => false) (fun j hj d hd => by simp) (fun j e => by cases e) (fun j k1 k2 _ => ?_))
      have : j = 2 * o ∨ j = 2 * o + 1 := by omega
      rcases this with rfl | rfl
      · rw [fe]; rfl
      · rw [fo]; rfl
    · refine ⟨fun e => absurd e (by decide), fun _ => ?_⟩
      conv => whnf
      refine ⟨fun _ => ?_, fun e => absurd e (by decide)⟩
      conv => whnf
      rw [show (2 : Int32) * nI o + 1 = nI (2 * o + 1) by rw [show (2 : Int32) = nI 2 from rfl, pk_mul, nI_1]]
      refine ⟨x, n, l, m, t, q, 2 * o + 1, c, rfl, rfl, rfl, by omega, hc, fun w k1 k2 => ?_⟩
      conv => whnf
      rw [hv] at fe fo
      refine next (ru_w t w) _ hb htb hva (upd1 w (fun j => decide (j = 2 * o + 1)) (fun j hj d hd => ?_) (fun j e => ?_) (fun j q1 q2 e => ?_))
      · by_cases e : j = 2 * o + 1
        · subst e; rw [k2 d hd]; simp
        · rw [tw_other k1 e]; simp [e]
      · have e' : j = 2 * o + 1 := by simpa using e
        subst e'
        exact ⟨by rw [fo]; rfl, by omega, by omega⟩
      · have e' : j ≠ 2 * o + 1 := by simpa using e
        have : j = 2 * o := by omega
        subst this
        rw [fe]; rfl
    · refine ⟨fun e => absurd e (by decide), fun _ => ?_⟩
      conv => whnf
      refine ⟨fun e => absurd (by decide) e, fun _ => ?_⟩
      conv => whnf
      rw [show (2 : Int32) * nI o = nI (2 * o) by rw [show (2 : Int32) = nI 2 from rfl, pk_mul]]
      refine ⟨x, n, l, m, t, q, 2 * o, c, rfl, rfl, rfl, by omega, hc, fun w k1 k2 => ?_⟩
      conv => whnf
      rw [hv] at fe fo
      refine next (ru_w t w) _ hb htb hva (upd1 w (fun j => decide (j = 2 * o)) (fun j hj d hd => ?_) (fun j e => ?_) (fun j q1 q2 e => ?_))
      · by_cases e : j = 2 * o
        · subst e; rw [k2 d hd]; simp
        · rw [tw_other k1 e]; simp [e]
      · have e' : j = 2 * o := by simpa using e
        subst e'
        exact ⟨by rw [fe]; rfl, by omega, by omega⟩
      · have e' : j ≠ 2 * o := by simpa using e
        have : j = 2 * o + 1 := by omega
        subst this
        rw [fo]; rfl
set_option maxRecDepth 100000 in
set_option maxHeartbeats 4000000 in
theorem ly_val {V : cx_K} {Rq : cx_R} (hV : cx_cl1 t_R_lay lySp [] [] 0 0 Rq V) {x : wX} {n : wN} {l : wL} {m : wM} {q : List cx_C} {A : aS}
    (hK : ∀ t, bsR A t → rt_tb t = 0 → (∀ j, j < 2 * s_on A → tw (rt_w t) j = fsN (s_a A) (s_nm A) j) → lyF V x n l m q 113 0 t) :
    ∀ (d c : Nat) (t : wR), c + d = 256 → bsR A t → rt_tb t = 0 → (∀ j, j < 2 * s_on A → ∀ d, d < 256 → tw (rt_w t) j d = (decide (d < c) && fsN (s_a A) (s_nm A) j d)) → lyF V x n l m q 39 c t := by
  intro d
  induction d with
  | zero =>
    intro c t hd hb htb h1 s2 s3 s4
    refine hV [113] 40 _ _ _ _ _ _ ?_
    conv => whnf
    refine pk_le 256 c (fun _ => ?_) (fun _ => by omega)
    conv => whnf
    refine hK t hb htb (fun j hj => nf_ext (nf_tw _ _) (nf_fsN _ _ _) (fun d hd => ?_)) s2 s3 s4
    rw [h1 j hj d hd]
    simp [show d < c by omega]
  | succ d ih =>
    intro c t hd hb htb h1 s2 s3 s4
    refine hV [53] 40 _ _ _ _ _ _ ?_
    conv => whnf
    refine pk_le 256 c (fun _ => by omega) (fun _ => ?_)
    conv => whnf
    refine ⟨x, n, l, m, t, q, s_a A, c, rfl, rfl, rfl, hb.1, by omega, fun va hva => ?_⟩
    conv => whnf
    rw [← nI_0]
    refine ly_out hV (by omega) (fun t' b1 b2 b3 s2 s3 s4 => ?_) (s_on A) 0 (ru_va t va) s3 s4 (by omega) hb htb hva (fun j hj d hd => ?_)
    · refine hV [39] 40 _ _ _ _ _ _ ?_
      conv => whnf
      rw [nI_1]
      exact ih (c + 1) t' (by omega) b1 b2 b3 s2 s3 s4
    · rw [if_neg (by omega)]
      exact h1 j hj d hd
def ixs (A : aS) (T : Nat) (ks : Nat → Ky) (t : wR) : Prop := bsR A t ∧ tabR (2 * s_on A) (fsN (s_a A) (s_nm A)) T ks t ∧ (∀ i, i < T → tw (rt_w t) (20 + i) = ks i) ∧ ∀ j, j < 2 * s_on A → tw (rt_w t) j = fsN (s_a A) (s_nm A) j
theorem ixs_fs {A : aS} {T : Nat} {ks : Nat → Ky} {t : wR} (h : ixs A T ks t) {w : Nat → Int64} (hw : ∀ i, i / 4 ≠ 20 + T → w i = rt_w t i) : ixs A T ks (ru_w t w) := by
  obtain ⟨h1, h2, h3, h4⟩ := h
  have on10 := h1.2.1
  refine ⟨h1, h2, fun i hi => ?_, fun j hj => ?_⟩
  · rw [← h3 i hi]; exact tw_other hw (by omega)
  · rw [← h4 j hj]; exact tw_other hw (by omega)
set_option maxRecDepth 100000 in
set_option maxHeartbeats 4000000 in
theorem ly_root {V : cx_K} {Rq : cx_R} (hV : cx_cl1 t_R_lay lySp [] [] 0 0 Rq V) {x : wX} {n : wN} {l : wL} {m : wM} {q : List cx_C} {A : aS}
    (hK : ∀ t T ks, ixs A T ks t → (∀ j, j < 2 * s_on A → ixT T ks (fsN (s_a A) (s_nm A) j) (rt_ro t j)) → lyF V x n l m q 180 0 t) :
    ∀ (d i : Nat) (t : wR) (T : Nat) (ks : Nat → Ky), i + d = 2 * s_on A → ixs A T ks t → (∀ j, j < i → ixT T ks (fsN (s_a A) (s_nm A) j) (rt_ro t j)) → lyF V x n l m q 113 i t := by
  intro d
  induction d with
  | zero =>
    intro i t T ks hd hx h1 s2 s3 s4
    have on10 := hx.1.2.1
    refine hV [180] 40 _ _ _ _ _ _ ?_
    conv => whnf
    refine pk_le (2 * s_on A) i (fun _ => ?_) (fun _ => by omega) (by rw [show t.1.2.2.2.2 = nI (s_on A) from hx.1.2.2.1, show (2 : Int32) = nI 2 from rfl, pk_mul])
    conv => whnf
    exact hK t T ks hx (fun j hj => h1 j (by omega)) s2 s3 s4
  | succ d ih =>
    intro i t T ks hd hx h1 s2 s3 s4
    have on10 := hx.1.2.1
    have hT := hx.2.1.1
    have htb : ∀ w, (ru_w t w).2.2.1.2.2.1 = nI T := fun w => hx.2.1.2.1
    have copy : ∀ (d k : Nat) (w : Nat → Int64), k + d = 4 → (∀ i, i / 4 ≠ 20 + T → w i = rt_w t i) → (∀ p, p < k → w (4 * (20 + T) + p) = w (4 * i + p)) → V 125 [some (.inr (.inr (.inl 25))), some (.inl (nI i)), some (.inl (nI k)), s3, s4] [] (wd x n l m (wq (ru_w t w) q)) 0 0 := by
      intro d
      induction d with
      | zero =>
        intro k w hd2 h2 h3
        have hx2 := ixs_fs hx h2
        have e1 : tw w (20 + T) = fsN (s_a A) (s_nm A) i := by
          rw [← hx2.2.2.2 i (by omega)]
          exact tw_ext.mpr (fun p hp => h3 p (by omega))
        refine hV [113] 60 _ _ _ _ _ _ ?_
        conv => whnf
        refine pk_le 4 k (fun _ => ?_) (fun _ => by omega)
        conv => whnf
        refine ⟨x, n, l, m, ru_w t w, q, 2 * s_on A, fsN (s_a A) (s_nm A), T, ks, rfl, rfl, rfl, by omega, hx2.2.1, hx2.2.2.1, ?_, fun T' ks' in' tb' v c1 c2 c3 c4 c5 => ?_⟩
        · show memK _ _ (tw w (20 + T))
          rw [e1]
          exact mem_root (by omega) (nf_fsN _ _ _)
        have c5' : ixT T' ks' (fsN (s_a A) (s_nm A) i) v := by
          have : tw (rt_w (ru_w t w)) (20 + T) = fsN (s_a A) (s_nm A) i := e1
          rw [this] at c5
          exact c5
        conv => whnf
        refine ⟨pk_in i 20 (by omega), ?_⟩
        conv => whnf
        rw [nx_c (show i < 2 ^ 31 by omega), nI_1]
        refine ih (i + 1) (t.1, t.2.1, (rt_va t, rt_la t, tb', w, in'), (rt_lo t, rt_hi t, rt_far t, upd (rt_ro t) i v, rt_mk t)) T' ks' (by omega) ⟨hx.1, c1, c4, hx2.2.2.2⟩ (fun j hj => ?_) _ s3 s4
        show ixT T' ks' (fsN (s_a A) (s_nm A) j) (upd (rt_ro t) i v j)
        by_cases e : j = i
        · subst e; rw [pk_us]; exact c5'
        · rw [pk_un e]; exact ixT_up (h1 j (by omega)) c2 c3
      | succ d ih2 =>
        intro k w hd2 h2 h3
        have ea : (80 : Int32) + 4 * (ru_w t w).2.2.1.2.2.1 + nI k = nI (4 * (20 + T) + k) := by
          rw [htb w, show (80 : Int32) = nI 80 from rfl, show (4 : Int32) = nI 4 from rfl, pk_mul, nI_add, nI_add]
          congr 1
          omega
        have eb : (4 : Int32) * nI i + nI k = nI (4 * i + k) := by rw [show (4 : Int32) = nI 4 from rfl, pk_mul, nI_add]
        refine hV [125] 60 _ _ _ _ _ _ ?_
        conv => whnf
        refine pk_le 4 k (fun _ => by omega) (fun _ => ?_)
        conv => whnf
        refine ⟨pk_in (4 * i + k) 8088 (by omega) eb, ?_⟩
        conv => whnf
        refine ⟨pk_in (4 * (20 + T) + k) 8088 (by omega) ea, ?_⟩
        conv => whnf
        rw [ea, eb, nx_c (show 4 * i + k < 2 ^ 31 by omega), nx_c (show 4 * (20 + T) + k < 2 ^ 31 by omega), nI_1]
        refine ih2 (k + 1) (vp_updL w (4 * (20 + T) + k) (w (4 * i + k))) (by omega) (fun p hp => ?_) (fun p hp => ?_)
        · rw [pk_uLn (by omega)]; exact h2 p hp
        · by_cases e : p = k
          · subst e
            rw [pk_uLs, pk_uLn (by omega)]
          · rw [pk_uLn (by omega), pk_uLn (by omega)]; exact h3 p (by omega)
    refine hV [125] 60 _ _ _ _ _ _ ?_
    conv => whnf
    refine pk_le (2 * s_on A) i (fun _ => by omega) (fun _ => ?_) (by rw [show t.1.2.2.2.2 = nI (s_on A) from hx.1.2.2.1, show (2 : Int32) = nI 2 from rfl, pk_mul])
    conv => whnf
    rw [← nI_0]
    have := copy 4 0 (rt_w t) (by omega) (fun i hi => rfl) (fun p hp => by omega)
    rw [ru_w_self] at this
    exact this
