/-! The class's multiplexers. -/
abbrev m_in (m : wM) := m.1
abbrev m_z (m : wM) := m.2.1
abbrev m_o (m : wM) := m.2.2.1
abbrev m_dp (m : wM) := m.2.2.2.1
abbrev m_ft (m : wM) := m.2.2.2.2.1
abbrev m_nt (m : wM) := m.2.2.2.2.2.1
abbrev m_re (m : wM) := m.2.2.2.2.2.2.1
abbrev m_row (m : wM) := m.2.2.2.2.2.2.2.1
abbrev m_pi (m : wM) := m.2.2.2.2.2.2.2.2.1
abbrev m_n (m : wM) := m.2.2.2.2.2.2.2.2.2.1
abbrev m_lg (m : wM) := m.2.2.2.2.2.2.2.2.2.2
def zr (f : Nat → Int32) (n : Nat) : Nat := if n < 2 then 1000 else (f n).toNatClampNeg
def nodR (J : Nat) (fs : Nat → Ky) (ks : Nat → Ky) (m : wM) (n : Nat) : Prop := fd (ks n) < 8 ∧ memK J fs (ks n) ∧ m_in m n = nI (fd (ks n)) ∧ ∃ z o, z < n ∧ o < n ∧ m_z m n = nI z ∧ m_o m n = nI o ∧ ks z = sub (ks n) (fd (ks n) + 1) 0 ∧ ks o = sub (ks n) (fd (ks n) + 1) 1
/-- nodes 0 .. N - 1 stand for the functions ks, all but the constants what is left of the first J of fs -/
def rMx (J : Nat) (fs : Nat → Ky) (N : Nat) (ks : Nat → Ky) (m : wM) : Prop :=
  2 ≤ N ∧ N ≤ 876 ∧ m_n m = nI N ∧ ks 0 = kF ∧ ks 1 = kT ∧
  (∀ i, i < N → ∀ j, j < N → ks i = ks j → i = j) ∧
  (∀ n, 2 ≤ n → n < N → nodR J fs ks m n) ∧
  (∀ n, n < N → m_dp m n = nI (dp 8 (ks n)) ∧ m_ft m n = prI (prv (zr (m_z m)) N n)) ∧
  (∀ n, 2 ≤ n → n < N → m_nt m n = prI (prv (zr (m_z m)) n (zr (m_z m) n))) ∧
  (∀ k, k < 8 → m_pi m k = nI (cnP ks (fun g => fd g == k) N)) ∧
  m_lg m = nI (mxP ks N)
theorem prv_gap {to : Nat → Nat} {g : Nat} : ∀ n i, prv to n g ≤ i → i < n → to i ≠ g
  | 0, i, _, hi => absurd hi (Nat.not_lt_zero _)
  | n + 1, i, h, hi => by
    unfold prv at h
    split at h
    · omega
    · rename_i e
      by_cases e2 : i = n
      · subst e2; exact e
      · exact prv_gap n i h (by omega)
theorem mxP_congr {ks ks' : Nat → Ky} : ∀ n, (∀ i, i < n → ks i = ks' i) → mxP ks n = mxP ks' n
  | 0, _ => rfl
  | n + 1, h => by
    unfold mxP
    rw [mxP_congr n (fun i hi => h i (by omega)), h n (by omega)]
theorem rMx_const {J : Nat} {fs : Nat → Ky} {N : Nat} {ks : Nat → Ky} {m : wM} (h : rMx J fs N ks m) {n : Nat} (hn : n < N) : memK J fs (ks n) ∨ (fd (ks n) = 8 ∧ nf (ks n)) := by
  obtain ⟨h1, h2, h3, h4, h5, h6, h7, h8, h9, h10, h11⟩ := h
  by_cases e : 2 ≤ n
  · exact Or.inl (h7 n e hn).2.1
  · have : n = 0 ∨ n = 1 := by omega
    rcases this with rfl | rfl
    · rw [h4]; exact Or.inr ⟨fd_kF, nf_kF⟩
    · rw [h5]; exact Or.inr ⟨fd_kT, nf_kT⟩
theorem rMx_nf {J : Nat} {fs : Nat → Ky} {N : Nat} {ks : Nat → Ky} {m : wM} (h : rMx J fs N ks m) {n : Nat} (hn : n < N) : nf (ks n) := (rMx_const h hn).elim mem_nf (fun q => q.2)
theorem zr_lt {J : Nat} {fs : Nat → Ky} {N : Nat} {ks : Nat → Ky} {m : wM} (h : rMx J fs N ks m) {n : Nat} (h2 : 2 ≤ n) (hn : n < N) : zr (m_z m) n < n := by
  obtain ⟨-, -, -, z, o, hz, ho, e1, e2, -⟩ := h.2.2.2.2.2.2.1 n h2 hn
  have := h.2.1
  unfold zr
  rw [if_neg (by omega), e1, nx_c (by omega)]
  exact hz
def nK (ks : Nat → Ky) (N : Nat) (g : Ky) : Nat → Ky := fun n => if n = N then g else ks n
theorem nK_ne {ks : Nat → Ky} {N n : Nat} {g : Ky} (h : n ≠ N) : nK ks N g n = ks n := if_neg h
theorem nK_N {ks : Nat → Ky} {N : Nat} {g : Ky} : nK ks N g N = g := if_pos rfl
theorem rMx_lt {J : Nat} {fs : Nat → Ky} {N : Nat} {ks : Nat → Ky} {m : wM} (hJ : J ≤ 20) (h : rMx J fs N ks m) {g : Ky} (hg : memK J fs g) (hn : ∀ n, n < N → ks n ≠ g) : N + 1 ≤ 876 := by
  refine key_bound (fs := fs) (ks := nK ks N g) hJ (fun n hn2 => ?_) (fun i hi j hj e => ?_)
  · by_cases e : n = N
    · subst e; rw [nK_N]; exact Or.inl hg
    · rw [nK_ne e]; exact rMx_const h (by omega)
  · by_cases ei : i = N
    · by_cases ej : j = N
      · omega
      · rw [ei, nK_N, nK_ne ej] at e
        exact absurd e.symm (hn j (by omega))
    · by_cases ej : j = N
      · rw [ej, nK_N, nK_ne ei] at e
        exact absurd e (hn i (by omega))
      · rw [nK_ne ei, nK_ne ej] at e
        exact h.2.2.2.2.2.1 i (by omega) j (by omega) e
theorem rMx_add {J : Nat} {fs : Nat → Ky} {N : Nat} {ks : Nat → Ky} {m : wM} (hJ : J ≤ 20) (h : rMx J fs N ks m) {g : Ky} {k z o : Nat} (hg : memK J fs g) (hn : ∀ n, n < N → ks n ≠ g) (hk : k < 8) (hd : dk g k) (hz : z < N) (ho : o < N) (hzo : z ≠ o) (ez : ks z = sub g (k + 1) 0) (eo : ks o = sub g (k + 1) 1) {d lg : Int32} (ed : d = nI (1 + max (dp 8 (ks z)) (dp 8 (ks o)))) (el : lg = nI (max (mxP ks N) (1 + max (dp 8 (ks z)) (dp 8 (ks o))))) :
    rMx J fs (N + 1) (nK ks N g) (upd (m_in m) N (nI k), upd (m_z m) N (nI z), upd (m_o m) N (nI o), upd (m_dp m) N d, upd (upd (m_ft m) z (nI N)) N (-1), upd (m_nt m) N (m_ft m z), m_re m, m_row m, upd (m_pi m) k (m_pi m k + 1), nI N + 1, lg) := by
  have hb := rMx_lt hJ h hg hn
  have h0 := h
  obtain ⟨h1, h2, h3, h4, h5, h6, h7, h8, h9, h10, h11⟩ := h
  have ngg := mem_nf hg
  have hfd : fd g = k := fd_is hk hd (by rw [← ez, ← eo]; exact fun e => hzo (h6 z hz o ho e))
  have ezr : ∀ n, n < N → zr (upd (m_z m) N (nI z)) n = zr (m_z m) n := fun n hn => by
    unfold zr
    rw [pk_un (show n ≠ N by omega)]
  have ezN : zr (upd (m_z m) N (nI z)) N = z := by
    unfold zr
    rw [if_neg (by omega), pk_us, nx_c (by omega)]
  have edg : dp 8 g = 1 + max (dp 8 (ks z)) (dp 8 (ks o)) := by
    rw [dp_step (by omega), hfd, ← ez, ← eo]
  refine ⟨by omega, hb, nI_1 N, by rw [nK_ne (by omega)]; exact h4, by rw [nK_ne (by omega)]; exact h5, fun i hi j hj e => ?_, fun n hn2 hn3 => ?_, fun n hn2 => ?_, fun n hn2 hn3 => ?_, fun k' hk' => ?_, ?_⟩
  · by_cases ei : i = N
    · by_cases ej : j = N
      · omega
      · rw [ei, nK_N, nK_ne ej] at e
        exact absurd e.symm (hn j (by omega))
    · by_cases ej : j = N
      · rw [ej, nK_N, nK_ne ei] at e
        exact absurd e (hn i (by omega))
      · rw [nK_ne ei, nK_ne ej] at e
        exact h6 i (by omega) j (by omega) e
  · by_cases e : n = N
    · subst e
      unfold nodR
      rw [nK_N, hfd]
      refine ⟨hk, hg, pk_us, z, o, hz, ho, pk_us, pk_us, ?_, ?_⟩
      · rw [nK_ne (by omega)]; exact ez
      · rw [nK_ne (by omega)]; exact eo
    · obtain ⟨a1, a2, a3, z', o', a4, a5, a6, a7, a8, a9⟩ := h7 n hn2 (by omega)
      unfold nodR
      rw [nK_ne e]
      refine ⟨a1, a2, (pk_un e).trans a3, z', o', a4, a5, (pk_un e).trans a6, (pk_un e).trans a7, ?_, ?_⟩
      · rw [nK_ne (by omega)]; exact a8
      · rw [nK_ne (by omega)]; exact a9
  · by_cases e : n = N
    · subst e
      rw [nK_N, edg]
      refine ⟨pk_us.trans ed, pk_us.trans ?_⟩
      show (-1 : Int32) = prI (prv (zr (upd (m_z m) n (nI z))) (n + 1) n)
      rw [prv_none (n + 1) (fun i hi => ?_), prI_0]
      by_cases ei : i = n
      · subst ei; rw [ezN]; omega
      · rw [ezr i (by omega)]
        by_cases e2 : 2 ≤ i
        · have := zr_lt h0 e2 (show i < n by omega)
          omega
        · unfold zr
          rw [if_pos (by omega)]
          omega
    · rw [nK_ne e]
      refine ⟨(pk_un e).trans (h8 n (by omega)).1, (pk_un e).trans ?_⟩
      show upd (m_ft m) z (nI N) n = prI (prv (zr (upd (m_z m) N (nI z))) (N + 1) n)
      unfold prv
      rw [ezN, prv_congr N n ezr]
      by_cases e2 : z = n
      · subst e2
        rw [if_pos rfl, pk_us, prI_s]
      · rw [if_neg e2, pk_un (Ne.symm e2)]
        exact (h8 n (by omega)).2
  · by_cases e : n = N
    · subst e
      refine pk_us.trans ?_
      show m_ft m z = prI (prv (zr (upd (m_z m) n (nI z))) n (zr (upd (m_z m) n (nI z)) n))
      rw [ezN, prv_congr n z ezr]
      exact (h8 z hz).2
    · refine (pk_un e).trans ?_
      show m_nt m n = prI (prv (zr (upd (m_z m) N (nI z))) n (zr (upd (m_z m) N (nI z)) n))
      rw [ezr n (by omega), prv_congr n _ (fun i hi => ezr i (by omega))]
      exact h9 n hn2 (by omega)
  · show upd (m_pi m) k (m_pi m k + 1) k' = nI (cnP (nK ks N g) (fun g => fd g == k') N + bn (fd (nK ks N g N) == k'))
    rw [nK_N, cnP_congr (ks := nK ks N g) (ks' := ks) (p' := fun g => fd g == k') N (fun i hi => by rw [nK_ne (by omega)]), hfd]
    by_cases e : k' = k
    · subst e
      rw [pk_us, h10 k' hk', nI_1]
      simp [bn]
    · rw [pk_un e, h10 k' hk']
      simp [bn, Ne.symm e]
  · show lg = nI (max (mxP (nK ks N g) N) (dp 8 (nK ks N g N)))
    rw [nK_N, edg, mxP_congr (ks := nK ks N g) (ks' := ks) N (fun i hi => nK_ne (by omega))]
    exact el
def sp_J_max : cx_S := fun as ws R => ∃ a b, as = [.inl (nI a), .inl (nI b)] ∧ a < 2 ^ 31 ∧ b < 2 ^ 31 ∧ R (.inl (some (.inl (nI (max a b))))) ws
theorem pu_J_max : ∀ as ws Rq, sp_J_max as ws Rq → cx_cats as ≤ 2 ∧ ∀ V, cx_cl1 t_J_max [] [] [] 0 0 Rq V → V 0 (cx_lv0 as 2) [] ws 0 0 := by
  rintro as ws Rq ⟨a, b, rfl, ha, hb, h⟩
  refine ⟨Nat.le_of_ble_eq_true rfl, fun V hV => hV [] 40 _ _ _ _ _ _ ?_⟩
  conv => whnf
  refine pk_lt a b (fun e => ?_) (fun e => ?_)
  · conv => whnf
    rw [show max a b = b by omega] at h
    exact ⟨fun e => absurd e (by decide), h⟩
  · conv => whnf
    rw [show max a b = a by omega] at h
    exact ⟨fun e => absurd e (by decide), h⟩
/-- what add and join ask of the function that they make a node of -/
def askM (J : Nat) (fs : Nat → Ky) (N : Nat) (ks : Nat → Ky) (g : Ky) (k z o : Nat) : Prop := J ≤ 20 ∧ memK J fs g ∧ k < 8 ∧ dk g k ∧ z < N ∧ o < N ∧ ks z = sub g (k + 1) 0 ∧ ks o = sub g (k + 1) 1
def sp_M_addMultiplexer : cx_S := cx_self 1 (fun j r ws R => ∃ x n l m q J fs N ks g k z o, ws = wd x n l m q ∧ j = 11 ∧ r = [.inl (nI k), .inl (nI z), .inl (nI o)] ∧ rMx J fs N ks m ∧ askM J fs N ks g k z o ∧ z ≠ o ∧ (∀ n, n < N → ks n ≠ g) ∧
  ∀ m', rMx J fs (N + 1) (nK ks N g) m' → m_row m' = m_row m → R (.inl (some (.inl (nI N)))) (wd x n l m' q))
set_option maxRecDepth 100000 in
set_option maxHeartbeats 4000000 in
theorem pu_M_addMultiplexer : ∀ as ws Rq, sp_M_addMultiplexer as ws Rq → cx_cats as ≤ 5 ∧ ∀ V, cx_cl1 t_M_addMultiplexer [(sp_J_max, 2, 0, 0)] [] [] 0 0 Rq V → V 0 (cx_lv0 as 5) [] ws 0 0 := by
  intro as ws Rq h0
  obtain ⟨j, r, fs0, rfl, hj, x, n, l, m, q, J, fs, N, ks, g, k, z, o, rfl, rfl, rfl, hM, ⟨hJ, hg, hk, hd, hz, ho, ez, eo⟩, hzo, hn, h⟩ := cx_self_spec h0
  refine ⟨Nat.le_of_ble_eq_true rfl, fun V hV => ?_⟩
  have hb := rMx_lt hJ hM hg hn
  have hM2 := hM
  obtain ⟨h1, h2, h3, h4, h5, h6, h7, h8, h9, h10, h11⟩ := hM2
  have e0 : m.2.2.2.2.2.2.2.2.2.1 = nI N := h3
  have hcz : (nI z).toNatClampNeg = z := nx_c (by omega)
  have hco : (nI o).toNatClampNeg = o := nx_c (by omega)
  have hck : (nI k).toNatClampNeg = k := nx_c (by omega)
  have hcN : (nI N).toNatClampNeg = N := nx_c (by omega)
  have inN : vp_in m.2.2.2.2.2.2.2.2.2.1 876 := pk_in N 876 (by omega) e0
  have inz : vp_in (nI z) 876 := pk_in z 876 (by omega)
  have ino : vp_in (nI o) 876 := pk_in o 876 (by omega)
  have ink : vp_in (nI k) 8 := pk_in k 8 (by omega)
  have dz := dp_le 8 (ks z)
  have do_ := dp_le 8 (ks o)
  refine hV [] 130 _ _ _ _ _ _ ?_
  conv => whnf
  refine pk_lt N 876 (fun e => ?_) (fun e => by omega) e0
  conv => whnf
  refine ⟨inN, ?_⟩
  conv => whnf
  refine ⟨inN, ?_⟩
  conv => whnf
  refine ⟨inN, ?_⟩
  conv => whnf
  refine ⟨inz, ?_⟩
  conv => whnf
  refine ⟨ino, ?_⟩
  conv => whnf
  rw [hcz, hco]
  refine ⟨dp 8 (ks z), dp 8 (ks o), ?_, by omega, by omega, ?_⟩
  · show [Sum.inl (m.2.2.2.1 z), Sum.inl (m.2.2.2.1 o)] = _
    rw [show m.2.2.2.1 z = nI (dp 8 (ks z)) from (h8 z hz).1, show m.2.2.2.1 o = nI (dp 8 (ks o)) from (h8 o ho).1]
  conv => whnf
  refine ⟨inN, ?_⟩
  conv => whnf
  refine ⟨inz, ?_⟩
  conv => whnf
  refine ⟨inN, ?_⟩
  conv => whnf
  refine ⟨inz, ?_⟩
  conv => whnf
  refine ⟨inN, ?_⟩
  conv => whnf
  refine ⟨ink, ?_⟩
  conv => whnf
  refine ⟨ink, ?_⟩
  conv => whnf
  refine ⟨inN, ?_⟩
  conv => whnf
  refine ⟨mxP ks N, 1 + max (dp 8 (ks z)) (dp 8 (ks o)), ?_, by have := mxP_8 ks N; omega, by omega, ?_⟩
  · rw [e0, hcN]
    show [Sum.inl m.2.2.2.2.2.2.2.2.2.2, Sum.inl (upd m.2.2.2.1 N _ N)] = _
    rw [pk_us, show m.2.2.2.2.2.2.2.2.2.2 = nI (mxP ks N) from h11, show (1 : Int32) = nI 1 from rfl, nI_add]
  conv => whnf
  refine ⟨Or.inl rfl, ?_⟩
  conv => whnf
  refine ⟨Or.inl rfl, ?_⟩
  conv => whnf
  refine ⟨fun e => absurd e (by decide), ?_⟩
  rw [e0, hcN, hcz, hck]
  exact h _ (rMx_add hJ hM hg hn hk hd hz ho hzo ez eo (d := 1 + nI (max (dp 8 (ks z)) (dp 8 (ks o)))) (by rw [show (1 : Int32) = nI 1 from rfl, nI_add]) rfl) rfl
def sp_M_join : cx_S := cx_self 1 (fun j r ws R => ∃ x n l m q J fs N ks g k z o, ws = wd x n l m q ∧ j = 11 ∧ r = [.inl (nI k), .inl (nI z), .inl (nI o)] ∧ rMx J fs N ks m ∧ askM J fs N ks g k z o ∧
  ∀ m' N' ks' r, rMx J fs N' ks' m' → m_row m' = m_row m → N ≤ N' → (∀ n, n < N → ks' n = ks n) → r < N' → ks' r = g → R (.inl (some (.inl (nI r)))) (wd x n l m' q))
set_option maxRecDepth 100000 in
set_option maxHeartbeats 4000000 in
theorem pu_M_join : ∀ as ws Rq, sp_M_join as ws Rq → cx_cats as ≤ 6 ∧ ∀ V, cx_cl1 t_M_join [(sp_M_addMultiplexer, 4, 0, 0)] [] [] 0 0 Rq V → V 0 (cx_lv0 as 6) [] ws 0 0 := by
  intro as ws Rq h0
  obtain ⟨j, r, fs0, rfl, hj, x, n, l, m, q, J, fs, N, ks, g, k, z, o, rfl, rfl, rfl, hM, hA, h⟩ := cx_self_spec h0
  refine ⟨Nat.le_of_ble_eq_true rfl, fun V hV => ?_⟩
  have hM2 := hM
  obtain ⟨h1, h2, h3, h4, h5, h6, h7, h8, h9, h10, h11⟩ := hM2
  have hA2 := hA
  obtain ⟨hJ, hg, hk, hd, hz, ho, ez, eo⟩ := hA2
  have e0 : m.2.2.2.2.2.2.2.2.2.1 = nI N := h3
  have hcz : (nI z).toNatClampNeg = z := nx_c (by omega)
  have inz : vp_in (nI z) 876 := pk_in z 876 (by omega)
  have match_ : ∀ p, p < N → zr (m_z m) p = z → m_in m p = nI k → m_o m p = nI o → ks p = g := by
    intro p hp hzp hkp hop
    have p2 : 2 ≤ p := by
      rcases Nat.lt_or_ge p 2 with q | q
      · unfold zr at hzp
        rw [if_pos q] at hzp
        omega
      · exact q
    obtain ⟨a1, a2, a3, z', o', a4, a5, a6, a7, a8, a9⟩ := h7 p p2 hp
    have ek : fd (ks p) = k := by
      rw [a3, nI_eq (by omega) (by omega)] at hkp
      exact hkp
    have ez' : z' = z := by
      unfold zr at hzp
      rw [if_neg (by omega), a6, nx_c (by omega)] at hzp
      exact hzp
    have eo' : o' = o := by
      rw [a7, nI_eq (by omega) (by omega)] at hop
      exact hop
    subst ez' eo'
    rw [ek] at a8 a9
    refine key_ext hk ?_ hd (rMx_nf hM hp) (mem_nf hg) (a8.symm.trans ez) (a9.symm.trans eo)
    have := fd_dk (ks p)
    rw [ek] at this
    exact this
  refine hV [18] 80 _ _ _ _ _ _ ?_
  conv => whnf
  have split : ∀ A B : Prop, (z ≠ o → A) → (z = o → B) → (¬ nI z = nI o → A) ∧ (nI z = nI o → B) := fun A B f g => by
    rw [nI_eq (by omega) (by omega)]
    exact ⟨f, g⟩
  refine split _ _ (fun hzo => ?_) (fun hzo => ?_)
  · conv => whnf
    refine ⟨inz, ?_⟩
    conv => whnf
    dsimp only
    rw [hcz, show m.2.2.2.2.1 z = prI (prv (zr (m_z m)) N z) from (h8 z hz).2, ← nI_0]
    have fin : ∀ (s4 s5 : Option cx_V), (∀ p, p < N → zr (m_z m) p = z → ¬ (m_in m p = nI k ∧ m_o m p = nI o)) → V 73 [some (.inr (.inr (.inl 11))), some (.inl (nI k)), some (.inl (nI z)), some (.inl (nI o)), s4, s5] [] (wd x n l m q) 0 0 := by
      intro s4 s5 hno
      refine hV [] 80 _ _ _ _ _ _ ?_
      conv => whnf
      refine ⟨x, n, l, m, q, J, fs, N, ks, g, k, z, o, rfl, rfl, rfl, hM, hA, hzo, fun p hp e => ?_, fun m' hm' hr => ?_⟩
      · have hfd : fd g = k := fd_is hk hd (by rw [← ez, ← eo]; exact fun e => hzo (h6 z hz o ho e))
        have p2 : 2 ≤ p := by
          rcases Nat.lt_or_ge p 2 with q | q
          · exfalso
            have : p = 0 ∨ p = 1 := by omega
            rcases this with rfl | rfl
            · rw [← e, h4, fd_kF] at hfd; omega
            · rw [← e, h5, fd_kT] at hfd; omega
          · exact q
        obtain ⟨a1, a2, a3, z', o', a4, a5, a6, a7, a8, a9⟩ := h7 p p2 hp
        rw [e, hfd] at a3 a8 a9
        have ez' : z' = z := h6 z' (by omega) z hz (a8.trans ez.symm)
        have eo' : o' = o := h6 o' (by omega) o ho (a9.trans eo.symm)
        subst ez' eo'
        refine hno p hp ?_ ⟨a3, a7⟩
        unfold zr
        rw [if_neg (by omega), a6, nx_c (by omega)]
      · conv => whnf
        refine ⟨fun e => absurd e (by decide), ?_⟩
        exact h m' (N + 1) (nK ks N g) N hm' hr (by omega) (fun i hi => nK_ne (by omega)) (by omega) nK_N
    have loop : ∀ (d p t : Nat), p ≤ d → t + p ≤ N → prv (zr (m_z m)) p z = p → (∀ i, p ≤ i → i < N → zr (m_z m) i = z → ¬ (m_in m i = nI k ∧ m_o m i = nI o)) →
        V 18 [some (.inr (.inr (.inl 11))), some (.inl (nI k)), some (.inl (nI z)), some (.inl (nI o)), some (.inl (prI p)), some (.inl (nI t))] [] (wd x n l m q) 0 0 := by
      intro d
      induction d with
      | zero =>
        intro p t hp ht hpr hno
        have e : p = 0 := by omega
        subst e
        refine hV [73] 80 _ _ _ _ _ _ ?_
        conv => whnf
        refine ⟨fun _ => fin _ _ (fun i hi => hno i (by omega) hi), fun _ => ?_⟩
        conv => whnf
        rw [prI_0]
        exact ⟨fun _ => fin _ _ (fun i hi => hno i (by omega) hi), fun e => absurd rfl e⟩
      | succ d ih =>
        intro p t hp ht hpr hno
        cases p with
        | zero => exact ih 0 t (by omega) (by omega) rfl hno
        | succ p =>
          have hzp := prv_hit _ _ _ _ hpr
          have p2 : 2 ≤ p := by
            rcases Nat.lt_or_ge p 2 with q | q
            · unfold zr at hzp
              rw [if_pos q] at hzp
              omega
            · exact q
          have inp : vp_in (prI (p + 1)) 876 := by rw [prI_s]; exact pk_in p 876 (by omega)
          have hcp : (prI (p + 1)).toNatClampNeg = p := by rw [prI_s]; exact nx_c (by omega)
          have next : V 58 [some (.inr (.inr (.inl 11))), some (.inl (nI k)), some (.inl (nI z)), some (.inl (nI o)), some (.inl (prI (p + 1))), some (.inl (nI t))] [] (wd x n l m q) 0 0 ∨ (m_in m p = nI k ∧ m_o m p = nI o) := by
            by_cases em : m_in m p = nI k ∧ m_o m p = nI o
            · exact Or.inr em
            · refine Or.inl (hV [18] 80 _ _ _ _ _ _ ?_)
              conv => whnf
              refine ⟨inp, ?_⟩
              conv => whnf
              dsimp only
              rw [hcp, show m.2.2.2.2.2.1 p = prI (prv (zr (m_z m)) p (zr (m_z m) p)) from h9 p p2 (by omega), hzp, nI_1]
              have hle := prv_le (zr (m_z m)) z p
              refine ih _ (t + 1) (by omega) (by omega) (prv_idem _ _ _) (fun i hi hi2 hz2 => ?_)
              by_cases e1 : p + 1 ≤ i
              · exact hno i e1 hi2 hz2
              · by_cases e2 : i = p
                · subst e2; exact em
                · exact absurd hz2 (prv_gap p i hi (by omega))
          refine hV [73, 58] 80 _ _ _ _ _ _ ?_
          conv => whnf
          refine pk_le N t (fun e => by omega) (fun _ => ?_) e0
          conv => whnf
          refine ⟨fun e => absurd e (prI_ne (by omega)), fun _ => ?_⟩
          conv => whnf
          refine ⟨inp, ?_⟩
          conv => whnf
          rw [hcp]
          refine ⟨fun e => next.elim id (fun q => absurd q.1 e), fun e1 => ?_⟩
          conv => whnf
          refine ⟨inp, ?_⟩
          conv => whnf
          rw [hcp]
          refine ⟨fun e => next.elim id (fun q => absurd q.2 e), fun e2 => ?_⟩
          conv => whnf
          refine ⟨fun e => absurd e (by decide), ?_⟩
          rw [prI_s]
          exact h m N ks p hM rfl (Nat.le_refl _) (fun i hi => rfl) (by omega) (match_ p (by omega) hzp e1 e2)
    exact loop N _ 0 (prv_le _ _ _) (by have := prv_le (zr (m_z m)) z N; omega) (prv_idem _ _ _) (fun i hi hi2 hz2 => absurd hz2 (prv_gap N i hi hi2))
  · subst hzo
    conv => whnf
    refine ⟨fun e => absurd e (by decide), ?_⟩
    have e2 := key_same hk hd (mem_nf hg) (ez.symm.trans eo)
    exact h m N ks z hM rfl (Nat.le_refl _) (fun i hi => rfl) hz (ez.trans e2.symm)
