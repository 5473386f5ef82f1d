/-! What the calls answer, and the state that they leave. -/
abbrev aS : Type := aN × Nat × (Nat → Nat) × Nat × (Nat → Ky)
abbrev s_a (A : aS) : aN := A.1
abbrev s_on (A : aS) : Nat := A.2.1
abbrev s_nm (A : aS) : Nat → Nat := A.2.2.1
abbrev s_lo (A : aS) : Nat := A.2.2.2.1
abbrev s_fs (A : aS) : Nat → Ky := A.2.2.2.2
/-- an enumeration of all that is left of the first J functions, the constants aside -/
def enu (J : Nat) (fs : Nat → Ky) (N : Nat) (ks : Nat → Ky) : Prop := (∀ i, i < N → ∀ j, j < N → ks i = ks j → i = j) ∧ (∀ i, i < N → fd (ks i) < 8 → memK J fs (ks i)) ∧ ∀ g, memK J fs g → fd g < 8 → ∃ i, i < N ∧ ks i = g
def pnc (p : Ky → Bool) : Ky → Bool := fun g => p g && decide (fd g < 8)
theorem pnc_iff {p : Ky → Bool} {g : Ky} : pnc p g = true ↔ p g = true ∧ fd g < 8 := by simp [pnc]
theorem enu_le {J : Nat} {fs : Nat → Ky} {N N' : Nat} {ks ks' : Nat → Ky} (h : enu J fs N ks) (h' : enu J fs N' ks') (p : Ky → Bool) : cnP ks (pnc p) N ≤ cnP ks' (pnc p) N' :=
  cnP_le N (pnc p) h.1 (fun i hi hp => h'.2.2 _ (h.2.1 i hi (pnc_iff.mp hp).2) (pnc_iff.mp hp).2)
theorem enu_mx {J : Nat} {fs : Nat → Ky} {N N' : Nat} {ks ks' : Nat → Ky} (h : enu J fs N ks) (h' : enu J fs N' ks') : mxP ks N ≤ mxP ks' N' :=
  mxP_le N (fun i hi => by
    by_cases e : fd (ks i) = 8
    · rw [dp_const e]; exact Nat.zero_le _
    · have h8 : fd (ks i) < 8 := by have := fd_le (ks i); omega
      obtain ⟨i', q1, q2⟩ := h'.2.2 _ (h.2.1 i hi h8) h8
      rw [← q2]
      exact mxP_ge N' i' q1)
noncomputable def kE (J : Nat) (fs : Nat → Ky) : Nat × (Nat → Ky) := @dite _ (∃ q : Nat × (Nat → Ky), enu J fs q.1 q.2) (Classical.propDecidable _) (fun h => Classical.choose h) (fun _ => (0, fun _ => kF))
theorem kE_spec {J : Nat} {fs : Nat → Ky} {N : Nat} {ks : Nat → Ky} (h : enu J fs N ks) : enu J fs (kE J fs).1 (kE J fs).2 := by
  have h2 : ∃ q : Nat × (Nat → Ky), enu J fs q.1 q.2 := ⟨(N, ks), h⟩
  unfold kE
  rw [dif_pos h2]
  exact Classical.choose_spec h2
/-- how many multiplexers of such a kind -/
noncomputable def kN (J : Nat) (fs : Nat → Ky) (p : Ky → Bool) : Nat := cnP (kE J fs).2 (pnc p) (kE J fs).1
noncomputable def kM (J : Nat) (fs : Nat → Ky) : Nat := mxP (kE J fs).2 (kE J fs).1
theorem kN_eq {J : Nat} {fs : Nat → Ky} {N : Nat} {ks : Nat → Ky} (h : enu J fs N ks) (p : Ky → Bool) : cnP ks (pnc p) N = kN J fs p := Nat.le_antisymm (enu_le h (kE_spec h) p) (enu_le (kE_spec h) h p)
theorem kM_eq {J : Nat} {fs : Nat → Ky} {N : Nat} {ks : Nat → Ky} (h : enu J fs N ks) : mxP ks N = kM J fs := Nat.le_antisymm (enu_mx h (kE_spec h)) (enu_mx (kE_spec h) h)
theorem rL_enu {lo : Nat} {fs : Nat → Ky} {N : Nat} {ks : Nat → Ky} {l : wL} {m : wM} (h : rL lo fs N ks l m) : enu (2 * lo) fs N ks := by
  obtain ⟨h1, h2, h3, h4, h5, h6⟩ := h
  refine ⟨h3.2.2.2.2.2.1, fun i hi h8 => ?_, fun g hg h8 => ?_⟩
  · rcases rMx_const h3 hi with q | q
    · exact q
    · omega
  · obtain ⟨j, k, i, q1, q2, q3, q4⟩ := hg
    obtain ⟨p, p1, p2⟩ := h6 j q1 k (Nat.zero_le _) q2 i q3
    exact ⟨p, p1, p2.trans q4.symm⟩
theorem cnP_all {ks : Nat → Ky} {p : Ky → Bool} (a : Nat) : ∀ d, (∀ i, a ≤ i → i < a + d → p (ks i) = true) → cnP ks p (a + d) = cnP ks p a + d
  | 0, _ => rfl
  | d + 1, h => by
    show cnP ks p (a + d) + bn (p (ks (a + d))) = _
    rw [h (a + d) (by omega) (by omega), cnP_all a d (fun i h1 h2 => h i h1 (by omega))]
    show cnP ks p a + d + 1 = _
    omega
theorem rMx_total {J : Nat} {fs : Nat → Ky} {N : Nat} {ks : Nat → Ky} {m : wM} (h : rMx J fs N ks m) : cnP ks (pnc (fun _ => true)) N = N - 2 := by
  have h2 := h.1
  have e := cnP_all (ks := ks) (p := pnc (fun _ => true)) 2 (N - 2) (fun i h1 h2 => pnc_iff.mpr ⟨rfl, (h.2.2.2.2.2.2.1 i h1 (by omega)).1⟩)
  rw [show 2 + (N - 2) = N by omega] at e
  rw [e]
  have e2 := cnP_zero (ks := ks) (p := pnc (fun _ => true)) 0 2 (fun i _ hi => by
    cases q : pnc (fun _ => true) (ks i) with
    | false => rfl
    | true =>
      have q1 := (pnc_iff.mp q).2
      have q2 := (rMx_8 h (show i < N by omega)).mpr (by omega)
      omega)
  rw [show (0 + 2 : Nat) = 2 from rfl] at e2
  rw [e2]
  show 0 + (N - 2) = _
  omega
theorem pnc_fd {ks : Nat → Ky} {k N : Nat} (hk : k < 8) : cnP ks (fun g => fd g == k) N = cnP ks (pnc (fun g => fd g == k)) N := cnP_congr N (fun i hi => by
  unfold pnc
  by_cases e : fd (ks i) = k
  · simp [e, hk]
  · simp [e])
/-- a layout as it is made: nothing is laid out -/
def frL (lo : Nat) (l : wL) (m : wM) : Prop := lo = 0 ∧ l_n l = nI 0 ∧ m_n m = nI 2 ∧ (∀ k, k < 8 → m_pi m k = nI 0) ∧ m_lg m = nI 0
def rLy (lo : Nat) (fs : Nat → Ky) (l : wL) (m : wM) : Prop := rLay lo fs l m ∨ frL lo l m
theorem enu_0 (fs : Nat → Ky) : enu (2 * 0) fs 0 (fun _ => kF) := ⟨fun i hi => absurd hi (Nat.not_lt_zero _), fun i hi => absurd hi (Nat.not_lt_zero _), fun g hg _ => by
  obtain ⟨j, k, i, q1, -⟩ := hg
  omega⟩
theorem rLy_10 {lo : Nat} {fs : Nat → Ky} {l : wL} {m : wM} (h : rLy lo fs l m) : lo ≤ 10 := by
  rcases h with ⟨N, ks, h⟩ | ⟨rfl, h⟩
  · exact h.1
  · exact Nat.zero_le _
theorem rLy_n {lo : Nat} {fs : Nat → Ky} {l : wL} {m : wM} (h : rLy lo fs l m) : l_n l = nI lo := by
  rcases h with ⟨N, ks, h⟩ | ⟨rfl, h⟩
  · exact h.2.1
  · exact h.1
theorem rLy_in {lo o : Nat} {fs : Nat → Ky} {l : wL} {m : wM} (h : rLy lo fs l m) (ho : o < lo) : rLay lo fs l m := by
  rcases h with h | ⟨rfl, h⟩
  · exact h
  · exact absurd ho (Nat.not_lt_zero _)
theorem rLy_kn {lo : Nat} {fs : Nat → Ky} {l : wL} {m : wM} (h : rLy lo fs l m) : ∀ o, o < lo → ∀ c, c < 256 → lb (l_k l o (c / 64)) (c % 64) = (fs (2 * o) c || fs (2 * o + 1) c) := fun o ho => by
  obtain ⟨N, ks, q⟩ := rLy_in h ho
  exact q.2.2.2.2.1 o ho
theorem rLy_pi {lo k : Nat} {fs : Nat → Ky} {l : wL} {m : wM} (h : rLy lo fs l m) (hk : k < 8) : m_pi m k = nI (kN (2 * lo) fs (fun g => fd g == k)) := by
  rcases h with ⟨N, ks, c5⟩ | ⟨rfl, -, -, h, -⟩
  · rw [show m_pi m k = nI (cnP ks (fun g => fd g == k) N) from c5.2.2.1.2.2.2.2.2.2.2.2.2.1 k hk, pnc_fd hk, kN_eq (rL_enu c5)]
  · rw [h k hk, ← kN_eq (enu_0 fs)]
    rfl
theorem rLy_t {lo : Nat} {fs : Nat → Ky} {l : wL} {m : wM} (h : rLy lo fs l m) : m_n m - 2 = nI (kN (2 * lo) fs (fun _ => true)) := by
  rcases h with ⟨N, ks, c5⟩ | ⟨rfl, -, h, -⟩
  · have hM := c5.2.2.1
    rw [show m_n m = nI N from hM.2.2.1, show (2 : Int32) = nI 2 from rfl, pk_sub hM.1, ← kN_eq (rL_enu c5), rMx_total hM]
  · rw [h, ← kN_eq (enu_0 fs)]
    rfl
theorem rLy_lg {lo : Nat} {fs : Nat → Ky} {l : wL} {m : wM} (h : rLy lo fs l m) : m_lg m = nI (kM (2 * lo) fs) := by
  rcases h with ⟨N, ks, c5⟩ | ⟨rfl, -, -, -, h⟩
  · rw [show m_lg m = nI (mxP ks N) from c5.2.2.1.2.2.2.2.2.2.2.2.2.2, kM_eq (rL_enu c5)]
  · rw [h, ← kM_eq (enu_0 fs)]
    rfl
/-- the class's state -/
def rC (A : aS) (x : wX) (n : wN) (l : wL) (m : wM) : Prop := rN (s_a A) n ∧ s_on A ≤ 10 ∧ x.1 = nI (s_on A) ∧ (∀ i, i < s_on A → s_nm A i < a_g (s_a A) ∧ x.2 i = nI (s_nm A i)) ∧ rLy (s_lo A) (s_fs A) l m
/-- a call's outcome: what is thrown (0 nothing), the answer, the state behind it -/
abbrev rs : Type := Nat × Int32 × aS
def hiK (a : aN) (g : Nat) : Ky := fun c => decide (c < 256) && eH (val a c g)
def loK (a : aN) (g : Nat) : Ky := fun c => decide (c < 256) && eL (val a c g)
def fsN (a : aN) (nm : Nat → Nat) : Nat → Ky := fun t => if t % 2 = 0 then hiK a (nm (t / 2)) else loK a (nm (t / 2))
theorem nf_fsN (a : aN) (nm : Nat → Nat) (t : Nat) : nf (fsN a nm t) := fun c hc => by
  unfold fsN
  split <;> simp [hiK, loK, show ¬ c < 256 by omega]
def gateS (A : aS) (p : Int32) : rs := if p = 0 ∨ p = 2 ∨ p = 3 then (if a_g (s_a A) = 120 ∨ (p = 0 ∧ a_i (s_a A) = 8) then (0, -1, A) else (0, nI (a_g (s_a A)), (gatA (s_a A) p.toNatClampNeg, A.2))) else (1, 0, A)
def feedS (A : aS) (t f : Int32) (b : Bool) : rs := if hg t (nI (a_g (s_a A))) && hg f (nI (a_g (s_a A))) then (if a_so (s_a A) t.toNatClampNeg = 0 then (2, 0, A) else if a_f (s_a A) = 500 then (0, -1, A) else (0, nI (cnt (a_to (fedA (s_a A) t.toNatClampNeg f.toNatClampNeg b)) (a_f (s_a A) + 1) t.toNatClampNeg), (fedA (s_a A) t.toNatClampNeg f.toNatClampNeg b, A.2))) else (1, 0, A)
def outS (A : aS) (g : Int32) : rs := if hg g (nI (a_g (s_a A))) then (if s_on A = 10 then (0, -1, A) else (0, nI (s_on A), (s_a A, s_on A + 1, (fun i => if i = s_on A then g.toNatClampNeg else s_nm A i), s_lo A, s_fs A))) else (1, 0, A)
def clrS (A : aS) : rs := (0, nI (a_g (s_a A)), (zerA, 0, s_nm A, 0, s_fs A))
noncomputable def layS (A : aS) : rs := (0, nI (kN (2 * s_on A) (fsN (s_a A) (s_nm A)) (fun _ => true)), (s_a A, s_on A, s_nm A, s_on A, fsN (s_a A) (s_nm A)))
def runS (A : aS) (o c : Int32) : rs := if hg o (nI (s_lo A)) && hg c 256 then (0, rv (s_fs A) o.toNatClampNeg c.toNatClampNeg, A) else (1, 0, A)
def wayS (A : aS) (o c : Int32) : rs := if hg o (nI (s_lo A)) && hg c 256 then (0, nI (wl 8 (s_fs A (2 * o.toNatClampNeg)) c.toNatClampNeg + wl 8 (s_fs A (2 * o.toNatClampNeg + 1)) c.toNatClampNeg), A) else (1, 0, A)
noncomputable def atS (A : aS) (k : Int32) : rs := (0, if hg k 8 then nI (kN (2 * s_lo A) (s_fs A) (fun g => fd g == k.toNatClampNeg)) else 0, A)
noncomputable def sizS (A : aS) (o : Int32) (b : Bool) : rs := if hg o (nI (s_lo A)) then (0, nI (kN (2 * s_lo A) (s_fs A) (isub (s_fs A (2 * o.toNatClampNeg + bn (!b))))), A) else (1, 0, A)
def knoS (A : aS) (o : Int32) : rs := if hg o (nI (s_lo A)) then (0, nI (ctB (kno (s_fs A) o.toNatClampNeg) 256), A) else (1, 0, A)
def douS (A : aS) (c : Int32) : rs := if hg c 256 then (0, fdt (s_lo A) (s_fs A) (256 - c.toNatClampNeg) c.toNatClampNeg, A) else (1, 0, A)
def valS (A : aS) (g c : Int32) : rs := if hg g (nI (a_g (s_a A))) && hg c 256 then (0, vI (val (s_a A) c.toNatClampNeg g.toNatClampNeg), A) else (1, 0, A)
noncomputable def cntS (A : aS) (w : Int32) : rs := (0, if w = 0 then nI (a_g (s_a A)) else if w = 1 then nI (a_f (s_a A)) else if w = 2 then nI (a_i (s_a A)) else if w = 3 then nI (s_on A) else if w = 4 then nI (s_lo A) else if w = 5 then nI (kN (2 * s_lo A) (s_fs A) (fun _ => true)) else if w = 6 then nI (kM (2 * s_lo A) (s_fs A)) else -1, A)
theorem hg_of {x : Int32} {n : Nat} (hn : n < 2 ^ 31) (h : hg x (nI n) = true) : ∃ j, j < n ∧ x = nI j := by
  unfold hg at h
  rw [Bool.and_eq_true, decide_eq_true_eq, decide_eq_true_eq] at h
  rcases pk_ix x hn with q | q | q
  · exact absurd q h.1
  · exact absurd q h.2
  · exact q
theorem hg_in {j n : Nat} (h : j < n) (hn : n < 2 ^ 31) : hg (nI j) (nI n) = true := by
  unfold hg
  rw [Bool.and_eq_true, decide_eq_true_eq, decide_eq_true_eq]
  exact ⟨nI_pos (by omega), nI_ge h hn⟩
/-- the class answers so -/
def ans (E : Nat → String) (o : rs) (q : List cx_C) (ws : List cx_C) (R : cx_R) : Prop := (o.1 = 0 → ∀ x n l m, rC o.2.2 x n l m → R (.inl (some (.inl o.2.1))) (wd x n l m q)) ∧ (o.1 ≠ 0 → R (.inr (E o.1)) ws)
theorem ans_ret {E : Nat → String} {o : rs} {q ws : List cx_C} {R : cx_R} {v : Int32} {A : aS} (h : ans E o q ws R) (e : o = (0, v, A)) {x : wX} {n : wN} {l : wL} {m : wM} (hC : rC A x n l m) : R (.inl (some (.inl v))) (wd x n l m q) := by
  subst e
  exact h.1 rfl x n l m hC
theorem ans_thr {E : Nat → String} {o : rs} {q ws : List cx_C} {R : cx_R} {k : Nat} {v : Int32} {A : aS} (h : ans E o q ws R) (e : o = (k + 1, v, A)) : R (.inr (E (k + 1))) ws := by
  subst e
  exact h.2 (Nat.succ_ne_zero _)
def eI : Nat → String := fun _ => "java/lang/IndexOutOfBoundsException"
def eA : Nat → String := fun _ => "java/lang/IllegalArgumentException"
def eF : Nat → String := fun k => if k = 1 then "java/lang/IndexOutOfBoundsException" else "java/lang/IllegalStateException"
/-- two ways of walking: first nothing may be written, then it may -/
def cx_cl2 (T2 T1 : List (Nat × cx_E)) (Sp2 Sp1 : List (cx_S × Nat × Nat × Nat)) (Ex : List String) (Sw : List (Nat × List Nat)) (mc ms : Nat) (Rq : cx_R) (V2 V1 : cx_K) : Prop :=
  cx_cl1 T2 Sp2 Ex Sw mc ms Rq V2 ∧ cx_cl1 T1 Sp1 [] Sw mc ms Rq V1 ∧ ∀ pc lv st ws k i, V1 pc lv st ws k i → V2 pc lv st ws k i
