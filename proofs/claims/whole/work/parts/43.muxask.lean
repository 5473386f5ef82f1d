/-! The multiplexers: what is asked of them. -/
def sp_M_follow : cx_S := cx_self 1 (fun j r ws R => ∃ x n l m q J fs N ks p c, ws = wd x n l m q ∧ j = 11 ∧ r = [.inl (nI p), .inl (nI c)] ∧ rMx J fs N ks m ∧ 2 ≤ p ∧ p < N ∧ c < 256 ∧
  ∀ p', p' < p → ks p' = sub (ks p) (fd (ks p) + 1) (bn (cb (fd (ks p)) c)) → R (.inl (some (.inl (nI p')))) ws)
theorem pu_M_follow : ∀ as ws Rq, sp_M_follow as ws Rq → cx_cats as ≤ 3 ∧ ∀ V, cx_cl1 t_M_follow [(sp_C_isInputSet, 2, 0, 0)] [] [] 0 0 Rq V → V 0 (cx_lv0 as 3) [] ws 0 0 := by
  intro as ws Rq h0
  obtain ⟨j, r, fs0, rfl, hj, x, n, l, m, q, J, fs, N, ks, p, c, rfl, rfl, rfl, hM, hp2, hp, hc, h⟩ := cx_self_spec h0
  refine ⟨Nat.le_of_ble_eq_true rfl, fun V hV => ?_⟩
  obtain ⟨a1, a2, a3, z, o, a4, a5, a6, a7, a8, a9⟩ := hM.2.2.2.2.2.2.1 p hp2 hp
  have hN := hM.2.1
  have inp : vp_in (nI p) 876 := pk_in p 876 (by omega)
  have hcp : (nI p).toNatClampNeg = p := nx_c (by omega)
  refine hV [] 40 _ _ _ _ _ _ ?_
  conv => whnf
  refine ⟨inp, ?_⟩
  conv => whnf
  rw [hcp]
  refine ⟨fd (ks p), c, ?_, a1, hc, ?_⟩
  · show [Sum.inl (m.1 p), Sum.inl (nI c)] = _
    rw [show m.1 p = nI (fd (ks p)) from a3]
  conv => whnf
  cases hb : cb (fd (ks p)) c with
  | false =>
    rw [hb] at h
    refine ⟨fun _ => ?_, fun e => absurd rfl e⟩
    conv => whnf
    refine ⟨inp, ?_⟩
    conv => whnf
    rw [hcp]
    dsimp only
    rw [show m.2.1 p = nI z from a6]
    exact ⟨fun e => absurd e (by decide), h z a4 a8⟩
  | true =>
    rw [hb] at h
    refine ⟨fun e => absurd e (by decide), fun _ => ?_⟩
    conv => whnf
    refine ⟨inp, ?_⟩
    conv => whnf
    rw [hcp]
    dsimp only
    rw [show m.2.2.1 p = nI o from a7]
    exact ⟨fun e => absurd e (by decide), h o a5 a9⟩
theorem rMx_8 {J : Nat} {fs : Nat → Ky} {N : Nat} {ks : Nat → Ky} {m : wM} (h : rMx J fs N ks m) {p : Nat} (hp : p < N) : fd (ks p) = 8 ↔ p < 2 := by
  constructor
  · intro e
    rcases Nat.lt_or_ge p 2 with q | q
    · exact q
    · have := (h.2.2.2.2.2.2.1 p q hp).1
      omega
  · intro e
    have : p = 0 ∨ p = 1 := by omega
    rcases this with rfl | rfl
    · rw [h.2.2.2.1]; exact fd_kF
    · rw [h.2.2.2.2.1]; exact fd_kT
def sp_M_isOneOn : cx_S := cx_self 1 (fun j r ws R => ∃ x n l m q J fs N ks p c, ws = wd x n l m q ∧ j = 11 ∧ r = [.inl (nI p), .inl (nI c)] ∧ rMx J fs N ks m ∧ p < N ∧ c < 256 ∧ R (.inl (some (.inl (b2 (ks p c))))) ws)
theorem pu_M_isOneOn : ∀ as ws Rq, sp_M_isOneOn as ws Rq → cx_cats as ≤ 5 ∧ ∀ V, cx_cl1 t_M_isOneOn [(sp_M_follow, 3, 0, 0)] [] [] 0 0 Rq V → V 0 (cx_lv0 as 5) [] ws 0 0 := by
  intro as ws Rq h0
  obtain ⟨j, r, fs0, rfl, hj, x, n, l, m, q, J, fs, N, ks, p0, c, rfl, rfl, rfl, hM, hp0, hc, h⟩ := cx_self_spec h0
  refine ⟨Nat.le_of_ble_eq_true rfl, fun V hV => ?_⟩
  have hN := hM.2.1
  have fin : ∀ (p : Nat) (s4 : Option cx_V), p < N → p < 2 → ks p c = ks p0 c → V 30 [some (.inr (.inr (.inl 11))), some (.inl (nI p0)), some (.inl (nI c)), some (.inl (nI p)), s4] [] (wd x n l m q) 0 0 := by
    intro p s4 hp h2 e
    refine hV [] 40 _ _ _ _ _ _ ?_
    rw [← e] at h
    have : p = 0 ∨ p = 1 := by omega
    rcases this with rfl | rfl
    · rw [hM.2.2.2.1] at h
      conv => whnf
      refine ⟨fun _ => ?_, fun e => absurd e (by decide)⟩
      conv => whnf
      exact ⟨fun _ => Or.inl rfl, h⟩
    · rw [hM.2.2.2.2.1, show kT c = true by simp [kT, hc]] at h
      conv => whnf
      refine ⟨fun e => absurd (by decide) e, fun _ => ?_⟩
      conv => whnf
      exact ⟨fun _ => Or.inr rfl, h⟩
  have loop : ∀ (d p t : Nat), t + d = 8 → p < N → t ≤ fd (ks p) → ks p c = ks p0 c → V 5 [some (.inr (.inr (.inl 11))), some (.inl (nI p0)), some (.inl (nI c)), some (.inl (nI p)), some (.inl (nI t))] [] (wd x n l m q) 0 0 := by
    intro d
    induction d with
    | zero =>
      intro p t hd hp ht e
      have h8 : fd (ks p) = 8 := by have := fd_le (ks p); omega
      refine hV [30] 40 _ _ _ _ _ _ ?_
      conv => whnf
      refine pk_le 8 t (fun _ => fin p _ hp ((rMx_8 hM hp).mp h8) e) (fun _ => by omega)
    | succ d ih =>
      intro p t hd hp ht e
      refine hV [30, 5] 40 _ _ _ _ _ _ ?_
      conv => whnf
      refine pk_le 8 t (fun _ => by omega) (fun _ => ?_)
      conv => whnf
      refine pk_lt p 2 (fun q => fin p _ hp q e) (fun hp2 => ?_)
      conv => whnf
      have hf := (hM.2.2.2.2.2.2.1 p hp2 hp).1
      refine ⟨x, n, l, m, q, J, fs, N, ks, p, c, rfl, rfl, rfl, hM, hp2, hp, hc, fun p' h1 h2 => ?_⟩
      conv => whnf
      rw [nI_1]
      refine ih p' (t + 1) (by omega) (by omega) ?_ ?_
      · rw [h2]
        have := fd_sub_ge (f := ks p) (i := bn (cb (fd (ks p)) c)) (show fd (ks p) + 1 ≤ 8 by omega)
        omega
      · rw [h2, ← sub_bit hf (fd_dk _) hc]
        exact e
  refine hV [5] 40 _ _ _ _ _ _ ?_
  conv => whnf
  rw [← nI_0]
  exact loop 8 p0 0 (by omega) hp0 (Nat.zero_le _) rfl
def sp_M_stepsOn : cx_S := cx_self 1 (fun j r ws R => ∃ x n l m q J fs N ks p c, ws = wd x n l m q ∧ j = 11 ∧ r = [.inl (nI p), .inl (nI c)] ∧ rMx J fs N ks m ∧ p < N ∧ c < 256 ∧ R (.inl (some (.inl (nI (wl 8 (ks p) c))))) ws)
theorem pu_M_stepsOn : ∀ as ws Rq, sp_M_stepsOn as ws Rq → cx_cats as ≤ 5 ∧ ∀ V, cx_cl1 t_M_stepsOn [(sp_M_follow, 3, 0, 0)] [] [] 0 0 Rq V → V 0 (cx_lv0 as 5) [] ws 0 0 := by
  intro as ws Rq h0
  obtain ⟨j, r, fs0, rfl, hj, x, n, l, m, q, J, fs, N, ks, p0, c, rfl, rfl, rfl, hM, hp0, hc, h⟩ := cx_self_spec h0
  refine ⟨Nat.le_of_ble_eq_true rfl, fun V hV => ?_⟩
  have hN := hM.2.1
  have fin : ∀ (t : Nat) (s3 : Option cx_V), t = wl 8 (ks p0) c → V 30 [some (.inr (.inr (.inl 11))), some (.inl (nI p0)), some (.inl (nI c)), s3, some (.inl (nI t))] [] (wd x n l m q) 0 0 := by
    intro t s3 e
    refine hV [] 40 _ _ _ _ _ _ ?_
    conv => whnf
    rw [e]
    exact ⟨fun e => absurd e (by decide), h⟩
  have loop : ∀ (d p t : Nat), t + d = 8 → p < N → t ≤ fd (ks p) → t + wl d (ks p) c = wl 8 (ks p0) c → V 5 [some (.inr (.inr (.inl 11))), some (.inl (nI p0)), some (.inl (nI c)), some (.inl (nI p)), some (.inl (nI t))] [] (wd x n l m q) 0 0 := by
    intro d
    induction d with
    | zero =>
      intro p t hd hp ht e
      refine hV [30] 40 _ _ _ _ _ _ ?_
      conv => whnf
      refine pk_le 8 t (fun _ => fin t _ e) (fun _ => by omega)
    | succ d ih =>
      intro p t hd hp ht e
      refine hV [30, 5] 40 _ _ _ _ _ _ ?_
      conv => whnf
      refine pk_le 8 t (fun _ => by omega) (fun _ => ?_)
      conv => whnf
      refine pk_lt p 2 (fun q => fin t _ ?_) (fun hp2 => ?_)
      · have h8 := (rMx_8 hM hp).mpr q
        have e3 : wl (d + 1) (ks p) c = 0 := if_pos h8
        omega
      conv => whnf
      have hf := (hM.2.2.2.2.2.2.1 p hp2 hp).1
      refine ⟨x, n, l, m, q, J, fs, N, ks, p, c, rfl, rfl, rfl, hM, hp2, hp, hc, fun p' h1 h2 => ?_⟩
      conv => whnf
      rw [nI_1]
      refine ih p' (t + 1) (by omega) (by omega) ?_ ?_
      · rw [h2]
        have := fd_sub_ge (f := ks p) (i := bn (cb (fd (ks p)) c)) (show fd (ks p) + 1 ≤ 8 by omega)
        omega
      · rw [h2]
        have h8 : ¬ fd (ks p) = 8 := by omega
        have e3 : wl (d + 1) (ks p) c = 1 + wl d (sub (ks p) (fd (ks p) + 1) (bn (cb (fd (ks p)) c))) c := if_neg h8
        omega
  refine hV [5] 40 _ _ _ _ _ _ ?_
  conv => whnf
  rw [← nI_0]
  exact loop 8 p0 0 (by omega) hp0 (Nat.zero_le _) (Nat.zero_add _)
/-- what is left of f when some first inputs are fixed, but for the constants -/
noncomputable def isub (f g : Ky) : Bool := @decide (fd g < 8 ∧ memK 1 (fun _ => f) g) (Classical.propDecidable _)
theorem isub_iff {f g : Ky} : isub f g = true ↔ fd g < 8 ∧ memK 1 (fun _ => f) g := by
  unfold isub
  exact @decide_eq_true_iff _ (Classical.propDecidable _)
theorem sub_node {J : Nat} {fs : Nat → Ky} {N : Nat} {ks : Nat → Ky} {m : wM} (h : rMx J fs N ks m) {r : Nat} (hr : r < N) : ∀ k, k ≤ 8 → ∀ i, i < 2 ^ k → ∃ p, p ≤ r ∧ ks p = sub (ks r) k i
  | 0, _, i, hi => ⟨r, Nat.le_refl _, by
      have : i = 0 := by rw [Nat.pow_zero] at hi; omega
      subst this
      exact (sub_self (rMx_nf h hr) (dk_0 _)).symm⟩
  | k + 1, hk, i, hi => by
    rw [Nat.pow_succ] at hi
    obtain ⟨p, hp, e⟩ := sub_node h hr k (by omega) (i / 2) (by omega)
    have hb : i % 2 < 2 := Nat.mod_lt _ (by omega)
    have e2 : sub (ks p) (k + 1) (i % 2) = sub (ks r) (k + 1) i := by
      rw [e, sub_b (by omega) hb, Nat.div_add_mod]
    have hge : k ≤ fd (ks p) := by rw [e]; exact fd_sub_ge (by omega)
    by_cases hf : fd (ks p) = k
    · have p2 : 2 ≤ p := by
        rcases Nat.lt_or_ge p 2 with q | q
        · have := (rMx_8 h (show p < N by omega)).mpr q
          omega
        · exact q
      obtain ⟨a1, a2, a3, z, o, a4, a5, a6, a7, a8, a9⟩ := h.2.2.2.2.2.2.1 p p2 (by omega)
      rw [hf] at a8 a9
      rcases Nat.mod_two_eq_zero_or_one i with q | q
      · rw [q] at e2; exact ⟨z, by omega, a8.trans e2⟩
      · rw [q] at e2; exact ⟨o, by omega, a9.trans e2⟩
    · have hd : dk (ks p) (k + 1) := dk_anti (fd_dk _) (by omega) (fd_le _)
      have hlt : i % 2 < 2 ^ (k + 1) := Nat.lt_of_lt_of_le hb (by rw [Nat.pow_succ]; have := pw_pos k; omega)
      rw [dk_sub1 hd hlt hk, sub_self (rMx_nf h (by omega)) hd] at e2
      exact ⟨p, hp, e2⟩
def mRe (m : wM) (re : Nat → Int32) : wM := (m_in m, m_z m, m_o m, m_dp m, m_ft m, m_nt m, re, m_row m, m_pi m, m_n m, m_lg m)
theorem cnP_zero {ks : Nat → Ky} {p : Ky → Bool} (a : Nat) : ∀ d, (∀ i, a ≤ i → i < a + d → p (ks i) = false) → cnP ks p (a + d) = cnP ks p a
  | 0, _ => rfl
  | d + 1, h => by
    show cnP ks p (a + d) + bn (p (ks (a + d))) = _
    rw [h (a + d) (by omega) (by omega), cnP_zero a d (fun i h1 h2 => h i h1 (by omega))]
    rfl
def sp_M_totalBelow : cx_S := cx_self 1 (fun j r ws R => ∃ x n l m q J fs N ks p, ws = wd x n l m q ∧ j = 11 ∧ r = [.inl (nI p)] ∧ rMx J fs N ks m ∧ p < N ∧ ∀ m', rMx J fs N ks m' → R (.inl (some (.inl (nI (cnP ks (isub (ks p)) N))))) (wd x n l m' q))
set_option maxRecDepth 100000 in
set_option maxHeartbeats 4000000 in
theorem pu_M_totalBelow : ∀ as ws Rq, sp_M_totalBelow as ws Rq → cx_cats as ≤ 4 ∧ ∀ V, cx_cl1 t_M_totalBelow [] [] [] 0 0 Rq V → V 0 (cx_lv0 as 4) [] ws 0 0 := by
  intro as ws Rq h0
  obtain ⟨j, r, fs0, rfl, hj, x, n, l, m, q, J, fs, N, ks, r, rfl, rfl, rfl, hM, hr, h⟩ := cx_self_spec h0
  refine ⟨Nat.le_of_ble_eq_true rfl, fun V hV => ?_⟩
  have hN := hM.2.1
  have hMre : ∀ re, rMx J fs N ks (mRe m re) := fun re => hM
  have h7 := hM.2.2.2.2.2.2.1
  have inj := hM.2.2.2.2.2.1
  -- what is marked when all above p have been passed
  have compl : ∀ (re : Nat → Int32) (nd : Nat), re r = 1 → (∀ p, nd < p → p ≤ r → 2 ≤ p → re p = 1 → ∀ z o, m_z m p = nI z → m_o m p = nI o → z < p → o < p → re z = 1 ∧ re o = 1) → ∀ k, k ≤ 8 → ∀ i, i < 2 ^ k → ∀ p, nd ≤ p → p ≤ r → 2 ≤ p → ks p = sub (ks r) k i → re p = 1 := by
    intro re nd hre hcl k
    induction k with
    | zero =>
      intro _ i hi p hp1 hp2 hp3 e
      have : i = 0 := by rw [Nat.pow_zero] at hi; omega
      subst this
      rw [sub_self (rMx_nf hM hr) (dk_0 _)] at e
      rw [inj p (by omega) r hr e]
      exact hre
    | succ k ih =>
      intro hk i hi p hp1 hp2 hp3 e
      rw [Nat.pow_succ] at hi
      obtain ⟨p', hp', e1⟩ := sub_node hM hr k (by omega) (i / 2) (by omega)
      have hb : i % 2 < 2 := Nat.mod_lt _ (by omega)
      have e2 : sub (ks p') (k + 1) (i % 2) = ks p := by
        rw [e, e1, sub_b (by omega) hb, Nat.div_add_mod]
      have hge : k ≤ fd (ks p') := by rw [e1]; exact fd_sub_ge (by omega)
      by_cases hf : fd (ks p') = k
      · have p2 : 2 ≤ p' := by
          rcases Nat.lt_or_ge p' 2 with q | q
          · have := (rMx_8 hM (show p' < N by omega)).mpr q
            omega
          · exact q
        obtain ⟨a1, a2, a3, z, o, a4, a5, a6, a7, a8, a9⟩ := h7 p' p2 (by omega)
        rw [hf] at a8 a9
        rcases Nat.mod_two_eq_zero_or_one i with q | q
        · rw [q] at e2
          have ez : z = p := inj z (by omega) p (by omega) (a8.trans e2)
          subst ez
          exact (hcl p' (by omega) hp' p2 (ih (by omega) _ (by omega) p' (by omega) hp' p2 e1) z o a6 a7 a4 a5).1
        · rw [q] at e2
          have eo : o = p := inj o (by omega) p (by omega) (a9.trans e2)
          subst eo
          exact (hcl p' (by omega) hp' p2 (ih (by omega) _ (by omega) p' (by omega) hp' p2 e1) z o a6 a7 a4 a5).2
      · have hd : dk (ks p') (k + 1) := dk_anti (fd_dk _) (by omega) (fd_le _)
        have hlt : i % 2 < 2 ^ (k + 1) := Nat.lt_of_lt_of_le hb (by rw [Nat.pow_succ]; have := pw_pos k; omega)
        rw [dk_sub1 hd hlt hk, sub_self (rMx_nf hM (by omega)) hd] at e2
        exact ih (by omega) (i / 2) (by omega) p hp1 hp2 hp3 (e2.symm.trans e1)
  have beyond : ∀ p, r < p → p < N → isub (ks r) (ks p) = false := fun p h1 h2 => by
    cases e : isub (ks r) (ks p) with
    | false => rfl
    | true =>
      obtain ⟨e1, j, k, i, -, hk, hi, e2⟩ := isub_iff.mp e
      obtain ⟨p', hp', e3⟩ := sub_node hM hr k hk i hi
      have := inj p' (by omega) p h2 (e3.trans e2.symm)
      omega
  have hcnt : cnP ks (isub (ks r)) N = cnP ks (isub (ks r)) (r + 1) := by
    have := cnP_zero (ks := ks) (p := isub (ks r)) (r + 1) (N - (r + 1)) (fun i h1 h2 => beyond i (by omega) (by omega))
    rw [show r + 1 + (N - (r + 1)) = N by omega] at this
    exact this
  rw [hcnt] at h
  have low2 : ∀ p, p < 2 → isub (ks r) (ks p) = false := fun p hp => by
    cases e : isub (ks r) (ks p) with
    | false => rfl
    | true =>
      have e1 := (isub_iff.mp e).1
      have := (rMx_8 hM (show p < N by have := hM.1; omega)).mpr hp
      omega
  have c2 : ∀ p, p ≤ 2 → cnP ks (isub (ks r)) p = 0 := fun p hp => by
    have := cnP_zero (ks := ks) (p := isub (ks r)) 0 p (fun i h1 h2 => low2 i (by omega))
    rw [Nat.zero_add] at this
    exact this
  have loop : ∀ (d nd s : Nat) (re : Nat → Int32), nd ≤ d → nd ≤ r → s + cnP ks (isub (ks r)) (nd + 1) = cnP ks (isub (ks r)) (r + 1) → re r = 1 → (∀ p, p ≤ r → re p = 0 ∨ re p = 1) → (∀ p, p ≤ r → re p = 1 → memK 1 (fun _ => ks r) (ks p)) →
      (∀ p, nd < p → p ≤ r → 2 ≤ p → re p = 1 → ∀ z o, m_z m p = nI z → m_o m p = nI o → z < p → o < p → re z = 1 ∧ re o = 1) →
      V 31 [some (.inr (.inr (.inl 11))), some (.inl (nI r)), some (.inl (nI s)), some (.inl (nI nd))] [] (wd x n l (mRe m re) q) 0 0 := by
    intro d
    induction d with
    | zero =>
      intro nd s re h1 h2 h3 h4 h5 h6 h8
      refine hV [] 40 _ _ _ _ _ _ ?_
      conv => whnf
      refine pk_lt nd 2 (fun _ => ?_) (fun _ => by omega)
      conv => whnf
      rw [c2 (nd + 1) (by omega), Nat.add_zero] at h3
      rw [h3]
      exact ⟨fun e => absurd e (by decide), h _ (hMre re)⟩
    | succ d ih =>
      intro nd s re h1 h2 h3 h4 h5 h6 h8
      refine hV [31] 60 _ _ _ _ _ _ ?_
      conv => whnf
      refine pk_lt nd 2 (fun _ => ?_) (fun h9 => ?_)
      · conv => whnf
        rw [c2 (nd + 1) (by omega), Nat.add_zero] at h3
        rw [h3]
        exact ⟨fun e => absurd e (by decide), h _ (hMre re)⟩
      have ind : vp_in (nI nd) 876 := pk_in nd 876 (by omega)
      have hcd : (nI nd).toNatClampNeg = nd := nx_c (by omega)
      obtain ⟨a1, a2, a3, z, o, a4, a5, a6, a7, a8, a9⟩ := h7 nd h9 (by omega)
      have hnd : nI nd + (-1) = nI (nd - 1) := by
        have := pk_m1 (nd - 1)
        rw [show nd - 1 + 1 = nd by omega] at this
        exact this
      conv => whnf
      refine ⟨ind, ?_⟩
      conv => whnf
      rw [hcd]
      have step : cnP ks (isub (ks r)) (nd + 1) = cnP ks (isub (ks r)) nd + bn (isub (ks r) (ks nd)) := rfl
      refine ⟨fun e => ?_, fun e => ?_⟩
      · have e' : re nd = 0 := e
        have hno : isub (ks r) (ks nd) = false := by
          cases e2 : isub (ks r) (ks nd) with
          | false => rfl
          | true =>
            obtain ⟨e3, j, k, i, -, hk, hi, e4⟩ := isub_iff.mp e2
            have := compl re nd h4 h8 k hk i hi nd (Nat.le_refl _) h2 h9 e4
            rw [e'] at this
            exact absurd this (by decide)
        conv => whnf
        rw [hnd]
        refine ih (nd - 1) s re (by omega) (by omega) ?_ h4 h5 h6 (fun p p1 p2 p3 p4 => ?_)
        · rw [show nd - 1 + 1 = nd by omega]
          rw [step, hno] at h3
          exact h3
        · by_cases ep : p = nd
          · subst ep
            rw [e'] at p4
            exact absurd p4 (by decide)
          · exact h8 p (by omega) p2 p3 p4
      · have e' : re nd = 1 := (h5 nd h2).elim (fun q => absurd q e) id
        have hyes : isub (ks r) (ks nd) = true := isub_iff.mpr ⟨a1, h6 nd h2 e'⟩
        conv => whnf
        refine ⟨ind, ?_⟩
        conv => whnf
        refine ⟨⟨pk_in z 876 (by omega) (by rw [hcd]; exact a6), Or.inr rfl⟩, ?_⟩
        conv => whnf
        refine ⟨ind, ?_⟩
        conv => whnf
        refine ⟨⟨pk_in o 876 (by omega) (by rw [hcd]; exact a7), Or.inr rfl⟩, ?_⟩
        conv => whnf
        rw [hcd]
        dsimp only
        rw [show (mRe m re).2.1 nd = nI z from a6, show (mRe m re).2.2.1 nd = nI o from a7, nx_c (show z < 2 ^ 31 by omega), nx_c (show o < 2 ^ 31 by omega), hnd, nI_1]
        have hup : ∀ p, re p = 1 → upd (upd re z 1) o 1 p = 1 := fun p hp => by
          by_cases eo : p = o
          · subst eo; exact pk_us
          · rw [pk_un eo]
            by_cases ez : p = z
            · subst ez; exact pk_us
            · rw [pk_un ez]; exact hp
        have hsame : ∀ p, nd ≤ p → upd (upd re z 1) o 1 p = re p := fun p hp => by
          rw [pk_un (by omega), pk_un (by omega)]
        refine ih (nd - 1) (s + 1) (upd (upd re z 1) o 1) (by omega) (by omega) ?_ (hup r h4) (fun p hp => ?_) (fun p hp e1 => ?_) (fun p p1 p2 p3 p4 z' o' f1 f2 f3 f4 => ?_)
        · rw [show nd - 1 + 1 = nd by omega]
          rw [step, hyes] at h3
          simp [bn] at h3
          omega
        · by_cases eo : p = o
          · subst eo; exact Or.inr pk_us
          · rw [pk_un eo]
            by_cases ez : p = z
            · subst ez; exact Or.inr pk_us
            · rw [pk_un ez]; exact h5 p hp
        · by_cases eo : p = o
          · subst eo
            rw [a9]
            exact mem_child (h6 nd h2 e') a1 (by omega)
          · rw [pk_un eo] at e1
            by_cases ez : p = z
            · subst ez
              rw [a8]
              exact mem_child (h6 nd h2 e') a1 (by omega)
            · rw [pk_un ez] at e1; exact h6 p hp e1
        · rw [hsame p (by omega)] at p4
          by_cases ep : p = nd
          · subst ep
            have ez : z' = z := by
              rw [a6, nI_eq (by omega) (by omega)] at f1
              exact f1.symm
            have eo : o' = o := by
              rw [a7, nI_eq (by omega) (by omega)] at f2
              exact f2.symm
            subst ez eo
            refine ⟨?_, pk_us⟩
            by_cases ezo : z' = o'
            · subst ezo; exact pk_us
            · rw [pk_un ezo]; exact pk_us
          · obtain ⟨g1, g2⟩ := h8 p (by omega) p2 p3 p4 z' o' f1 f2 f3 f4
            exact ⟨hup _ g1, hup _ g2⟩
  have first : ∀ (d i : Nat) (re : Nat → Int32), i + d = r + 1 → (∀ p, p < i → re p = 0) → V 2 [some (.inr (.inr (.inl 11))), some (.inl (nI r)), some (.inl (nI i)), none] [] (wd x n l (mRe m re) q) 0 0 := by
    intro d
    induction d with
    | zero =>
      intro i re hd hz
      refine hV [31] 40 _ _ _ _ _ _ ?_
      conv => whnf
      refine pk_lt r i (fun _ => ?_) (fun _ => by omega)
      conv => whnf
      refine ⟨⟨pk_in r 876 (by omega), Or.inr rfl⟩, ?_⟩
      conv => whnf
      rw [nx_c (show r < 2 ^ 31 by omega), ← nI_0]
      refine loop r r 0 (upd re r 1) (Nat.le_refl _) (Nat.le_refl _) (Nat.zero_add _) pk_us (fun p hp => ?_) (fun p hp e => ?_) (fun p p1 p2 => by omega)
      · by_cases e : p = r
        · subst e; exact Or.inr pk_us
        · rw [pk_un e]; exact Or.inl (hz p (by omega))
      · by_cases e2 : p = r
        · subst e2
          exact mem_root (J := 1) (fs := fun _ => ks p) (j := 0) (by omega) (rMx_nf hM hr)
        · rw [pk_un e2, hz p (by omega)] at e
          exact absurd e (by decide)
    | succ d ih =>
      intro i re hd hz
      refine hV [2] 40 _ _ _ _ _ _ ?_
      conv => whnf
      refine pk_lt r i (fun _ => by omega) (fun _ => ?_)
      conv => whnf
      refine ⟨⟨pk_in i 876 (by omega), Or.inl rfl⟩, ?_⟩
      conv => whnf
      rw [nI_1, nx_c (show i < 2 ^ 31 by omega)]
      refine ih (i + 1) (upd re i 0) (by omega) (fun p hp => ?_)
      by_cases e : p = i
      · subst e; exact pk_us
      · rw [pk_un e]; exact hz p (by omega)
  refine hV [2] 40 _ _ _ _ _ _ ?_
  conv => whnf
  rw [← nI_0]
  exact first (r + 1) 0 (m_re m) (by omega) (fun p hp => by omega)
