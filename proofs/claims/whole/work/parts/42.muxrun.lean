/-! The multiplexers: emptied, filled, run through. -/
theorem nI_m1 (p : Nat) : nI p + (-1) = prI p := by
  unfold prI
  rw [Int32.sub_eq_add_neg]
def tt (f : Nat → Int64) : Ky := fun c => decide (c < 256) && lb (f (c / 64)) (c % 64)
theorem nf_tt (f : Nat → Int64) : nf (tt f) := fun c hc => by simp [tt, show ¬ c < 256 by omega]
def ks0 : Nat → Ky := fun n => if n = 0 then kF else kT
def sp_M_dropAll : cx_S := cx_self 1 (fun j r ws R => ∃ x n l m q, ws = wd x n l m q ∧ j = 11 ∧ r = [] ∧ ∀ m', (∀ fs, rMx 0 fs 2 ks0 m') → R (.inl none) (wd x n l m' q))
set_option maxRecDepth 100000 in
set_option maxHeartbeats 4000000 in
theorem pu_M_dropAll : ∀ as ws Rq, sp_M_dropAll as ws Rq → cx_cats as ≤ 2 ∧ ∀ V, cx_cl1 t_M_dropAll [] [] [] 0 0 Rq V → V 0 (cx_lv0 as 2) [] ws 0 0 := by
  intro as ws Rq h0
  obtain ⟨j, r, fs0, rfl, hj, x, n, l, m, q, rfl, rfl, rfl, h⟩ := cx_self_spec h0
  refine ⟨Nat.le_of_ble_eq_true rfl, fun V hV => ?_⟩
  have loop : ∀ (d k : Nat) (m : wM), k + d = 8 → m_n m = 2 → m_lg m = 0 → (∀ i, i < 2 → m_dp m i = 0 ∧ m_ft m i = -1) → (∀ i, i < k → m_pi m i = 0) → V 39 [some (.inr (.inr (.inl 11))), some (.inl (nI k))] [] (wd x n l m q) 0 0 := by
    intro d
    induction d with
    | zero =>
      intro k m hd h1 h2 h3 h4
      refine hV [] 40 _ _ _ _ _ _ ?_
      conv => whnf
      refine pk_le 8 k (fun _ => ?_) (fun _ => by omega)
      conv => whnf
      refine h m (fun fs => ⟨Nat.le_refl _, by decide, h1, rfl, rfl, fun i hi j hj e => ?_, fun n hn1 hn2 => by omega, fun n hn => ?_, fun n hn1 hn2 => by omega, fun k' hk' => ?_, ?_⟩)
      · have hi' : i = 0 ∨ i = 1 := by omega
        have hj' : j = 0 ∨ j = 1 := by omega
        rcases hi' with rfl | rfl <;> rcases hj' with rfl | rfl
        · rfl
        · exact absurd e kFT
        · exact absurd e.symm kFT
        · rfl
      · have e : prv (zr (m_z m)) 2 n = 0 := prv_none 2 (fun i hi => by unfold zr; rw [if_pos hi]; omega)
        have e2 : dp 8 (ks0 n) = 0 := by
          have hn' : n = 0 ∨ n = 1 := by omega
          rcases hn' with rfl | rfl
          · exact dp_const fd_kF
          · exact dp_const fd_kT
        rw [e, e2, prI_0, nI_0]
        exact h3 n hn
      · rw [h4 k' (by omega)]
        show (0 : Int32) = nI (0 + bn (fd kF == k') + bn (fd kT == k'))
        rw [fd_kF, fd_kT, show ((8 : Nat) == k') = false by simp; omega]
        rfl
      · rw [h2]
        show (0 : Int32) = nI (max (max 0 (dp 8 kF)) (dp 8 kT))
        rw [dp_const fd_kF, dp_const fd_kT]
        rfl
    | succ d ih =>
      intro k m hd h1 h2 h3 h4
      refine hV [39] 40 _ _ _ _ _ _ ?_
      conv => whnf
      refine pk_le 8 k (fun _ => by omega) (fun _ => ?_)
      conv => whnf
      refine ⟨pk_in k 8 (by omega), ?_⟩
      conv => whnf
      rw [nI_1, nx_c (show k < 2 ^ 31 by omega)]
      refine ih (k + 1) (m_in m, m_z m, m_o m, m_dp m, m_ft m, m_nt m, m_re m, m_row m, upd (m_pi m) k 0, m_n m, m_lg m) (by omega) h1 h2 h3 (fun i hi => ?_)
      by_cases e : i = k
      · subst e; exact pk_us
      · exact (pk_un e).trans (h4 i (by omega))
  refine hV [39] 80 _ _ _ _ _ _ ?_
  conv => whnf
  refine ⟨Or.inl rfl, ?_⟩
  conv => whnf
  refine ⟨Or.inl rfl, ?_⟩
  conv => whnf
  refine ⟨fun e => absurd e (by decide), fun _ => ?_⟩
  conv => whnf
  refine ⟨pk_in 0 876 (by decide), ?_⟩
  conv => whnf
  refine ⟨pk_in 0 876 (by decide), ?_⟩
  conv => whnf
  refine ⟨fun e => absurd e (by decide), fun _ => ?_⟩
  conv => whnf
  refine ⟨pk_in 1 876 (by decide), ?_⟩
  conv => whnf
  refine ⟨pk_in 1 876 (by decide), ?_⟩
  conv => whnf
  refine ⟨fun _ => ?_, fun e => absurd (by decide) e⟩
  conv => whnf
  rw [← nI_0]
  refine loop 8 0 (m_in m, m_z m, m_o m, upd (upd (m_dp m) _ _) _ _, upd (upd (m_ft m) _ _) _ _, m_nt m, m_re m, m_row m, m_pi m, 2, nI 0) (by omega) rfl rfl (fun i hi => ?_) (fun i hi => by omega)
  have hi' : i = 0 ∨ i = 1 := by omega
  rcases hi' with rfl | rfl
  · exact ⟨rfl, rfl⟩
  · exact ⟨rfl, rfl⟩
def lvl (f : Ky) (k lo hi N : Nat) (ks : Nat → Ky) (row : Nat → Int32) : Prop := ∀ i, lo ≤ i → i < hi → ∃ r, r < N ∧ row i = nI r ∧ ks r = sub f k i
def cmpl (f : Ky) (k N : Nat) (ks : Nat → Ky) : Prop := ∀ k', k ≤ k' → k' ≤ 8 → ∀ i, i < 2 ^ k' → ∃ n, n < N ∧ ks n = sub f k' i
def mRow (m : wM) (row : Nat → Int32) : wM := (m_in m, m_z m, m_o m, m_dp m, m_ft m, m_nt m, m_re m, row, m_pi m, m_n m, m_lg m)
theorem rMx_row {J : Nat} {fs : Nat → Ky} {N : Nat} {ks : Nat → Ky} {m : wM} (h : rMx J fs N ks m) (row : Nat → Int32) : rMx J fs N ks (mRow m row) := h
theorem rMx_up {J J' : Nat} {fs : Nat → Ky} {N : Nat} {ks : Nat → Ky} {m : wM} (h : rMx J fs N ks m) (hJ : J ≤ J') : rMx J' fs N ks m := by
  obtain ⟨h1, h2, h3, h4, h5, h6, h7, h8⟩ := h
  refine ⟨h1, h2, h3, h4, h5, h6, fun n a b => ?_, h8⟩
  obtain ⟨c1, c2, c3⟩ := h7 n a b
  exact ⟨c1, mem_mono c2 hJ, c3⟩
theorem rMx_fs {J : Nat} {fs fs' : Nat → Ky} {N : Nat} {ks : Nat → Ky} {m : wM} (h : rMx J fs N ks m) (e : ∀ j, j < J → fs j = fs' j) : rMx J fs' N ks m := by
  obtain ⟨h1, h2, h3, h4, h5, h6, h7, h8⟩ := h
  refine ⟨h1, h2, h3, h4, h5, h6, fun n a b => ?_, h8⟩
  obtain ⟨c1, c2, c3⟩ := h7 n a b
  exact ⟨c1, mem_congr c2 e, c3⟩
theorem sub_8 (f : Ky) (c : Nat) : sub f 8 c = if f c = true then kT else kF := by
  funext d
  unfold sub
  rw [show 2 ^ (8 - 8) = 1 from rfl, Nat.mod_one, Nat.mul_one, Nat.add_zero]
  cases f c <;> simp [kF, kT]
def sp_M_addFunction : cx_S := cx_self 1 (fun j r ws R => ∃ x n l m q J fs N ks jj g, ws = wd x n l m q ∧ j = 11 ∧ r = [.inr (.inr (.inr (.inl (jj, g))))] ∧ (jj = 8 ∨ jj = 9) ∧ g < 120 ∧ rMx J fs N ks m ∧ J < 20 ∧ fs J = tt ((if jj = 8 then n_hi n else n_lo n) g) ∧
  ∀ m' N' ks' r, rMx (J + 1) fs N' ks' m' → N ≤ N' → (∀ n, n < N → ks' n = ks n) → r < N' → ks' r = fs J → cmpl (fs J) 0 N' ks' → R (.inl (some (.inl (nI r)))) (wd x n l m' q))
set_option maxRecDepth 100000 in
set_option maxHeartbeats 4000000 in
theorem pu_M_addFunction : ∀ as ws Rq, sp_M_addFunction as ws Rq → cx_cats as ≤ 5 ∧ ∀ V, cx_cl1 t_M_addFunction [(sp_C_isMember, 2, 0, 0), (sp_M_join, 4, 0, 0)] [] [] 0 0 Rq V → V 0 (cx_lv0 as 5) [] ws 0 0 := by
  intro as ws Rq h0
  obtain ⟨j, r, fs0, rfl, hj, x, n, l, m, q, J, fs, N, ks, jj, g, rfl, rfl, rfl, hjj, hg, hM, hJ, hfJ, h⟩ := cx_self_spec h0
  refine ⟨Nat.le_of_ble_eq_true rfl, fun V hV => ?_⟩
  have nfJ : nf (fs J) := by rw [hfJ]; exact nf_tt _
  have hcell : ∀ m : wM, (wd x n l m q)[jj]? = some (.inr (.inr (.inr (.inr (120, 4, if jj = 8 then n_hi n else n_lo n))))) := fun m => by
    rcases hjj with rfl | rfl <;> rfl
  -- the levels
  have inner : ∀ (d i k0 : Nat) (m' : wM) (N' : Nat) (ks' : Nat → Ky), i + d = 2 ^ k0 → k0 < 8 → rMx (J + 1) fs N' ks' m' → N ≤ N' → (∀ n, n < N → ks' n = ks n) → lvl (fs J) k0 0 i N' ks' (m_row m') → lvl (fs J) (k0 + 1) (2 * i) (2 ^ (k0 + 1)) N' ks' (m_row m') → cmpl (fs J) (k0 + 1) N' ks' →
      (∀ (m' : wM) (N' : Nat) (ks' : Nat → Ky) (s4 : Option cx_V), rMx (J + 1) fs N' ks' m' → N ≤ N' → (∀ n, n < N → ks' n = ks n) → lvl (fs J) k0 0 (2 ^ k0) N' ks' (m_row m') → cmpl (fs J) (k0 + 1) N' ks' → V 92 [some (.inr (.inr (.inl 11))), some (.inr (.inr (.inr (.inl (jj, g))))), some (.inl (nI k0)), some (.inl (nI (2 ^ k0))), s4] [] (wd x n l m' q) 0 0) →
      V 48 [some (.inr (.inr (.inl 11))), some (.inr (.inr (.inr (.inl (jj, g))))), some (.inl (nI k0)), some (.inl (nI (2 ^ k0))), some (.inl (nI i))] [] (wd x n l m' q) 0 0 := by
    intro d
    induction d with
    | zero =>
      intro i k0 m' N' ks' hd hk h1 h2 h3 h4 h5 h6 hK
      have e : i = 2 ^ k0 := by omega
      subst e
      have hlt : 2 ^ k0 < 2 ^ 8 := Nat.pow_lt_pow_right (by omega) hk
      refine hV [92] 40 _ _ _ _ _ _ ?_
      conv => whnf
      refine pk_le (2 ^ k0) (2 ^ k0) (fun _ => ?_) (fun e => absurd e (Nat.lt_irrefl _)) rfl rfl (by omega) (by omega)
      exact hK m' N' ks' _ h1 h2 h3 h4 h6
    | succ d ih =>
      intro i k0 m' N' ks' hd hk h1 h2 h3 h4 h5 h6 hK
      have hlt : 2 ^ k0 < 2 ^ 8 := Nat.pow_lt_pow_right (by omega) hk
      have hlt2 : 2 ^ (k0 + 1) ≤ 2 ^ 8 := Nat.pow_le_pow_right (by omega) (by omega)
      have hpw : 2 ^ (k0 + 1) = 2 * 2 ^ k0 := by rw [Nat.pow_succ, Nat.mul_comm]
      have hN := h1.2.1
      obtain ⟨r0, a1, a2, a3⟩ := h5 (2 * i) (by omega) (by omega)
      obtain ⟨r1, b1, b2, b3⟩ := h5 (2 * i + 1) (by omega) (by omega)
      refine hV [48, 92] 60 _ _ _ _ _ _ ?_
      conv => whnf
      refine pk_le (2 ^ k0) i (fun e => by omega) (fun _ => ?_) rfl rfl (by omega) (by omega)
      conv => whnf
      have hc2 : (2 * nI i : Int32) = nI (2 * i) := by rw [show (2 : Int32) = nI 2 from rfl, pk_mul]
      refine ⟨pk_in (2 * i) 256 (by omega) hc2, ?_⟩
      conv => whnf
      refine ⟨pk_in (2 * i + 1) 256 (by omega) (by rw [hc2, nI_1]), ?_⟩
      conv => whnf
      rw [hc2, nI_1, nx_c (show 2 * i < 2 ^ 31 by omega), nx_c (show 2 * i + 1 < 2 ^ 31 by omega)]
      have hmem : memK (J + 1) fs (sub (fs J) k0 i) := ⟨J, k0, i, by omega, by omega, by omega, rfl⟩
      refine ⟨x, n, l, m', q, J + 1, fs, N', ks', sub (fs J) k0 i, k0, r0, r1, rfl, rfl, ?_, h1, ⟨by omega, hmem, hk, sub_dk, a1, b1, ?_, ?_⟩, fun m2 N2 ks2 r2 c1 c2 c3 c4 c5 c6 => ?_⟩
      · show [Sum.inl (nI k0), Sum.inl (m'.2.2.2.2.2.2.2.1 (2 * i)), Sum.inl (m'.2.2.2.2.2.2.2.1 (2 * i + 1))] = _
        rw [show m'.2.2.2.2.2.2.2.1 (2 * i) = nI r0 from a2, show m'.2.2.2.2.2.2.2.1 (2 * i + 1) = nI r1 from b2]
      · rw [a3, sub_b hk (by omega)]; rfl
      · rw [b3, sub_b hk (by omega)]
      conv => whnf
      refine ⟨pk_in i 256 (by omega), ?_⟩
      conv => whnf
      rw [nI_1, nx_c (show i < 2 ^ 31 by omega)]
      refine ih (i + 1) k0 (mRow m2 (upd (m_row m2) i (nI r2))) N2 ks2 (by omega) hk (rMx_row c1 _) (by omega) (fun p hp => (c4 p (by omega)).trans (h3 p hp)) (fun p hp1 hp2 => ?_) (fun p hp1 hp2 => ?_) (fun k' q1 q2 p hp => ?_) hK
      · by_cases e : p = i
        · subst e
          exact ⟨r2, c5, pk_us, c6⟩
        · obtain ⟨r3, d1, d2, d3⟩ := h4 p hp1 (by omega)
          exact ⟨r3, by omega, (pk_un e).trans (by rw [c2]; exact d2), by rw [c4 r3 d1]; exact d3⟩
      · obtain ⟨r3, d1, d2, d3⟩ := h5 p (by omega) hp2
        exact ⟨r3, by omega, (pk_un (by omega)).trans (by rw [c2]; exact d2), by rw [c4 r3 d1]; exact d3⟩
      · obtain ⟨r3, d1, d2⟩ := h6 k' q1 q2 p hp
        exact ⟨r3, by omega, by rw [c4 r3 d1]; exact d2⟩
  have outer : ∀ (k : Nat) (m' : wM) (N' : Nat) (ks' : Nat → Ky) (s3 s4 : Option cx_V), k ≤ 8 → rMx (J + 1) fs N' ks' m' → N ≤ N' → (∀ n, n < N → ks' n = ks n) → lvl (fs J) k 0 (2 ^ k) N' ks' (m_row m') → cmpl (fs J) k N' ks' →
      V 37 [some (.inr (.inr (.inl 11))), some (.inr (.inr (.inr (.inl (jj, g))))), some (.inl (prI k)), s3, s4] [] (wd x n l m' q) 0 0 := by
    intro k
    induction k with
    | zero =>
      intro m' N' ks' s3 s4 hk h1 h2 h3 h4 h5
      obtain ⟨r0, a1, a2, a3⟩ := h4 0 (Nat.le_refl _) (by decide)
      refine hV [] 40 _ _ _ _ _ _ ?_
      conv => whnf
      rw [prI_0]
      refine ⟨fun _ => ?_, fun e => absurd (by decide) e⟩
      conv => whnf
      refine ⟨pk_in 0 256 (by decide), ?_⟩
      conv => whnf
      refine ⟨fun e => absurd e (by decide), ?_⟩
      rw [show (0 : Int32).toNatClampNeg = 0 from rfl]
      dsimp only
      rw [show m'.2.2.2.2.2.2.2.1 0 = nI r0 from a2]
      exact h m' N' ks' r0 h1 h2 h3 a1 (a3.trans (sub_self nfJ (dk_0 _))) h5
    | succ k0 ih =>
      intro m' N' ks' s3 s4 hk h1 h2 h3 h4 h5
      rw [prI_s]
      refine hV [48] 40 _ _ _ _ _ _ ?_
      conv => whnf
      refine ⟨fun e => absurd e (nI_pos (by omega)), fun _ => ?_⟩
      conv => whnf
      rw [← nI_0, show (1 : Int32) <<< (nI k0 &&& 31) = nI (2 ^ k0) by
        rw [show (1 : Int32) = nI 1 from rfl, nx_shl (by omega) (by rw [Nat.one_mul]; exact Nat.pow_lt_pow_right (by omega) (by omega)), Nat.one_mul]]
      refine inner (2 ^ k0) 0 k0 m' N' ks' (by omega) (by omega) h1 h2 h3 (fun i hi1 hi2 => by omega) h4 h5 (fun m2 N2 ks2 s4 c1 c2 c3 c4 c5 => ?_)
      refine hV [37] 40 _ _ _ _ _ _ ?_
      conv => whnf
      rw [nI_m1]
      refine ih m2 N2 ks2 _ _ (by omega) c1 c2 c3 c4 (fun k' q1 q2 p hp => ?_)
      by_cases e : k' = k0
      · subst e
        obtain ⟨r3, d1, d2, d3⟩ := c4 p (Nat.zero_le _) hp
        exact ⟨r3, d1, d3⟩
      · exact c5 k' (by omega) q2 p hp
  -- the row of values
  have first : ∀ (d c : Nat) (m' : wM), c + d = 256 → rMx (J + 1) fs N ks m' → (∀ i, i < c → m_row m' i = nI (bn (fs J i))) → V 2 [some (.inr (.inr (.inl 11))), some (.inr (.inr (.inr (.inl (jj, g))))), some (.inl (nI c)), none, none] [] (wd x n l m' q) 0 0 := by
    intro d
    induction d with
    | zero =>
      intro c m' hd h1 h2
      refine hV [37] 40 _ _ _ _ _ _ ?_
      conv => whnf
      refine pk_le 256 c (fun _ => ?_) (fun _ => by omega)
      conv => whnf
      have key : ∀ i, i < 2 ^ 8 → ks (bn (fs J i)) = sub (fs J) 8 i := fun i hi => by
        rw [sub_8]
        cases fs J i
        · exact h1.2.2.2.1
        · exact h1.2.2.2.2.1
      have hlt : ∀ i, bn (fs J i) < N := fun i => Nat.lt_of_lt_of_le (bn_lt _) h1.1
      refine outer 8 m' N ks none none (Nat.le_refl _) h1 (Nat.le_refl _) (fun p hp => rfl) (fun i _ hi => ⟨bn (fs J i), hlt i, h2 i (by omega), key i hi⟩) (fun k' q1 q2 i hi => ?_)
      have : k' = 8 := by omega
      subst this
      exact ⟨bn (fs J i), hlt i, key i hi⟩
    | succ d ih =>
      intro c m' hd h1 h2
      have hv : lb ((if jj = 8 then n_hi n else n_lo n) g (c / 64)) (c % 64) = fs J c := by
        rw [hfJ]
        simp [tt, show c < 256 by omega]
      have st : ∀ (b : Bool), fs J c = b → V 28 [some (.inr (.inr (.inl 11))), some (.inr (.inr (.inr (.inl (jj, g))))), some (.inl (nI c)), none, none] [] (wd x n l (mRow m' (upd (m_row m') c (b2 b))) q) 0 0 := by
        intro b hb
        refine hV [2] 40 _ _ _ _ _ _ ?_
        conv => whnf
        rw [nI_1]
        refine ih (c + 1) (mRow m' (upd (m_row m') c (b2 b))) (by omega) (rMx_row h1 _) (fun i hi => ?_)
        by_cases e : i = c
        · subst e
          refine pk_us.trans ?_
          rw [hb]
          cases b <;> rfl
        · exact (pk_un e).trans (h2 i (by omega))
      refine hV [28] 40 _ _ _ _ _ _ ?_
      conv => whnf
      refine pk_le 256 c (fun _ => by omega) (fun _ => ?_)
      conv => whnf
      refine ⟨jj, g, c, 120, 4, if jj = 8 then n_hi n else n_lo n, rfl, by omega, hcell m', hg, rfl, ?_⟩
      rw [hv]
      conv => whnf
      cases hb : fs J c with
      | false =>
        refine ⟨fun _ => ?_, fun e => absurd rfl e⟩
        conv => whnf
        refine ⟨pk_in c 256 (by omega), ?_⟩
        conv => whnf
        rw [nx_c (show c < 2 ^ 31 by omega)]
        exact st false hb
      | true =>
        refine ⟨fun e => absurd e (by decide), fun _ => ?_⟩
        conv => whnf
        refine ⟨pk_in c 256 (by omega), ?_⟩
        conv => whnf
        rw [nx_c (show c < 2 ^ 31 by omega)]
        exact st true hb
  refine hV [2] 40 _ _ _ _ _ _ ?_
  conv => whnf
  rw [← nI_0]
  exact first 256 0 m (by omega) (rMx_up hM (by omega)) (fun i hi => by omega)
