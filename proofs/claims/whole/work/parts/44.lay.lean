/-! What is laid out. -/
abbrev l_h (l : wL) := l.1
abbrev l_l (l : wL) := l.2.1
abbrev l_k (l : wL) := l.2.2.1
abbrev l_n (l : wL) := l.2.2.2
/-- the class's layout: lo outputs, their functions fs -/
def rL (lo : Nat) (fs : Nat → Ky) (N : Nat) (ks : Nat → Ky) (l : wL) (m : wM) : Prop := lo ≤ 10 ∧ l_n l = nI lo ∧ rMx (2 * lo) fs N ks m ∧
  (∀ o, o < lo → (∃ a, a < N ∧ l_h l o = nI a ∧ ks a = fs (2 * o)) ∧ ∃ b, b < N ∧ l_l l o = nI b ∧ ks b = fs (2 * o + 1)) ∧
  (∀ o, o < lo → ∀ c, c < 256 → lb (l_k l o (c / 64)) (c % 64) = (fs (2 * o) c || fs (2 * o + 1) c)) ∧
  ∀ j, j < 2 * lo → cmpl (fs j) 0 N ks
def rLay (lo : Nat) (fs : Nat → Ky) (l : wL) (m : wM) : Prop := ∃ N ks, rL lo fs N ks l m
def sp_L_dropAll : cx_S := cx_self 0 (fun j r ws R => ∃ x n l m q, ws = wd x n l m q ∧ j = 10 ∧ r = [] ∧ ∀ l' m', (∀ fs, rLay 0 fs l' m') → R (.inl none) (wd x n l' m' q))
theorem pu_L_dropAll : ∀ as ws Rq, sp_L_dropAll as ws Rq → cx_cats as ≤ 1 ∧ ∀ V, cx_cl1 t_L_dropAll [(sp_M_dropAll, 1, 0, 0)] [] [] 0 0 Rq V → V 0 (cx_lv0 as 1) [] ws 0 0 := by
  intro as ws Rq h0
  obtain ⟨j, r, fs0, rfl, hj, x, n, l, m, q, rfl, rfl, rfl, h⟩ := cx_self_spec h0
  refine ⟨Nat.le_of_ble_eq_true rfl, fun V hV => hV [] 40 _ _ _ _ _ _ ?_⟩
  conv => whnf
  refine ⟨x, n, l, m, q, rfl, rfl, rfl, fun m' hm' => ?_⟩
  conv => whnf
  refine ⟨Or.inl rfl, ?_⟩
  conv => whnf
  exact h (l_h l, l_l l, l_k l, 0) m' (fun fs => ⟨2, ks0, by omega, rfl, hm' fs, fun o ho => by omega, fun o ho => by omega, fun j hj => by omega⟩)
theorem lb_tt {f : Nat → Int64} {c : Nat} (hc : c < 256) : tt f c = lb (f (c / 64)) (c % 64) := by simp [tt, hc]
def sp_L_addOutput : cx_S := cx_self 0 (fun j r ws R => ∃ x n l m q lo fs g, ws = wd x n l m q ∧ j = 10 ∧ r = [.inr (.inr (.inr (.inl (8, g)))), .inr (.inr (.inr (.inl (9, g))))] ∧ g < 120 ∧ rLay lo fs l m ∧ lo < 10 ∧ fs (2 * lo) = tt (n_hi n g) ∧ fs (2 * lo + 1) = tt (n_lo n g) ∧
  ∀ l' m', rLay (lo + 1) fs l' m' → R (.inl none) (wd x n l' m' q))
set_option maxRecDepth 100000 in
set_option maxHeartbeats 4000000 in
theorem pu_L_addOutput : ∀ as ws Rq, sp_L_addOutput as ws Rq → cx_cats as ≤ 4 ∧ ∀ V, cx_cl1 t_L_addOutput [(sp_M_addFunction, 2, 0, 0)] [] [] 0 0 Rq V → V 0 (cx_lv0 as 4) [] ws 0 0 := by
  intro as ws Rq h0
  obtain ⟨j, r, fs0, rfl, hj, x, n, l, m, q, lo, fs, g, rfl, rfl, rfl, hg, ⟨N, ks, h1, h2, h3, h4, h5, h6⟩, hlo, e1, e2, h⟩ := cx_self_spec h0
  refine ⟨Nat.le_of_ble_eq_true rfl, fun V hV => ?_⟩
  have h2' : l.2.2.2 = nI lo := h2
  have inl_ : vp_in l.2.2.2 10 := pk_in lo 10 (by omega) h2'
  have hcl : (nI lo).toNatClampNeg = lo := nx_c (by omega)
  have loop : ∀ (d w : Nat) (l' : wL) (m' : wM), w + d = 4 → l_n l' = nI lo → (∀ u, u < w → l_k l' lo u = n_hi n g u ||| n_lo n g u) → (∀ l2, l_n l2 = nI (lo + 1) → l_h l2 = l_h l' → l_l l2 = l_l l' → (∀ o, o ≠ lo → l_k l2 o = l_k l' o) → (∀ u, u < 4 → l_k l2 lo u = n_hi n g u ||| n_lo n g u) → Rq (.inl none) (wd x n l2 m' q)) →
      V 46 [some (.inr (.inr (.inl 10))), some (.inr (.inr (.inr (.inl (8, g))))), some (.inr (.inr (.inr (.inl (9, g))))), some (.inl (nI w))] [] (wd x n l' m' q) 0 0 := by
    intro d
    induction d with
    | zero =>
      intro w l' m' hd hn hk hK
      have : w = 4 := by omega
      subst this
      refine hV [] 40 _ _ _ _ _ _ ?_
      conv => whnf
      refine ⟨fun _ => ?_, fun e => absurd (by decide) e⟩
      conv => whnf
      refine ⟨Or.inl rfl, ?_⟩
      conv => whnf
      exact hK (l_h l', l_l l', l_k l', l_n l' + 1) (by show l_n l' + 1 = _; rw [hn, nI_1]) rfl rfl (fun o ho => rfl) hk
    | succ d ih =>
      intro w l' m' hd hn hk hK
      have hn' : l'.2.2.2 = nI lo := hn
      have hcw : (nI w).toNatClampNeg = w := nx_c (by omega)
      refine hV [46] 40 _ _ _ _ _ _ ?_
      conv => whnf
      refine pk_le 4 w (fun _ => by omega) (fun _ => ?_)
      conv => whnf
      refine ⟨pk_in lo 10 (by omega) hn', ?_⟩
      conv => whnf
      refine ⟨⟨hg, pk_in w 4 (by omega)⟩, ?_⟩
      conv => whnf
      refine ⟨⟨hg, pk_in w 4 (by omega)⟩, ?_⟩
      conv => whnf
      rw [hn', hcl, hcw]
      refine ⟨⟨by show lo < 10; omega, pk_in w 4 (by omega)⟩, ?_⟩
      conv => whnf
      rw [nI_1]
      refine ih (w + 1) (l_h l', l_l l', va_up (l_k l') lo (vp_updL (l_k l' lo) w (n_hi n g w ||| n_lo n g w)), l_n l') m' (by omega) hn (fun u hu => ?_) (fun l2 a1 a2 a3 a4 a5 => hK l2 a1 a2 a3 (fun o ho => ?_) a5)
      · show va_up (l_k l') lo _ lo u = _
        rw [va_up_self]
        by_cases e : u = w
        · subst e; exact pk_uLs
        · rw [pk_uLn e]; exact hk u (by omega)
      · rw [a4 o ho]
        show va_up (l_k l') lo _ o = _
        rw [va_up_ne _ _ ho]
  refine hV [46] 80 _ _ _ _ _ _ ?_
  conv => whnf
  refine pk_lt lo 10 (fun _ => ?_) (fun _ => by omega) h2'
  conv => whnf
  refine ⟨x, n, l, m, q, 2 * lo, fs, N, ks, 8, g, rfl, rfl, rfl, Or.inl rfl, hg, h3, by omega, by rw [if_pos rfl]; exact e1, fun m1 N1 ks1 r1 a1 a2 a3 a4 a5 a6 => ?_⟩
  conv => whnf
  refine ⟨inl_, ?_⟩
  conv => whnf
  refine ⟨x, n, (upd (l_h l) l.2.2.2.toNatClampNeg (nI r1), l_l l, l_k l, l_n l), m1, q, 2 * lo + 1, fs, N1, ks1, 9, g, rfl, rfl, rfl, Or.inr rfl, hg, a1, by omega, by rw [if_neg (by decide)]; exact e2, fun m2 N2 ks2 r2 b1 b2 b3 b4 b5 b6 => ?_⟩
  conv => whnf
  refine ⟨inl_, ?_⟩
  conv => whnf
  rw [← nI_0]
  refine loop 4 0 (upd (l_h l) l.2.2.2.toNatClampNeg (nI r1), upd (l_l l) l.2.2.2.toNatClampNeg (nI r2), l_k l, l_n l) m2 (by omega) h2 (fun u hu => by omega) (fun l2 c1 c2 c3 c4 c5 => h l2 m2 ⟨N2, ks2, by omega, c1, b1, fun o ho => ?_, fun o ho c hc => ?_, fun j hj k' k1 k2 i hi => ?_⟩)
  · rw [c2, c3]
    show (∃ a, a < N2 ∧ upd (l_h l) l.2.2.2.toNatClampNeg (nI r1) o = nI a ∧ ks2 a = fs (2 * o)) ∧ ∃ b, b < N2 ∧ upd (l_l l) l.2.2.2.toNatClampNeg (nI r2) o = nI b ∧ ks2 b = fs (2 * o + 1)
    rw [h2', hcl]
    by_cases e : o = lo
    · subst e
      exact ⟨⟨r1, by omega, pk_us, (b3 r1 a4).trans a5⟩, ⟨r2, b4, pk_us, b5⟩⟩
    · obtain ⟨⟨a, d1, d2, d3⟩, ⟨b, d4, d5, d6⟩⟩ := h4 o (by omega)
      exact ⟨⟨a, by omega, (pk_un e).trans d2, by rw [b3 a (by omega), a3 a d1]; exact d3⟩, ⟨b, by omega, (pk_un e).trans d5, by rw [b3 b (by omega), a3 b d4]; exact d6⟩⟩
  · by_cases e : o = lo
    · subst e
      rw [c5 (c / 64) (by omega), lb_or, e1, e2, lb_tt hc, lb_tt hc]
    · rw [c4 o e]
      exact h5 o (by omega) c hc
  · have hj' : j < 2 * lo ∨ j = 2 * lo ∨ j = 2 * lo + 1 := by omega
    rcases hj' with q1 | rfl | rfl
    · obtain ⟨p, d1, d2⟩ := h6 j q1 k' k1 k2 i hi
      exact ⟨p, by omega, by rw [b3 p (by omega), a3 p d1]; exact d2⟩
    · obtain ⟨p, d1, d2⟩ := a6 k' k1 k2 i hi
      exact ⟨p, by omega, by rw [b3 p d1]; exact d2⟩
    · exact b6 k' k1 k2 i hi
/-- the value of an output, by its functions -/
def rv (fs : Nat → Ky) (o c : Nat) : Int32 := if fs (2 * o) c then 1 else if fs (2 * o + 1) c then 0 else 2
def sp_L_valueOn : cx_S := cx_self 0 (fun j r ws R => ∃ x n l m q lo fs o c, ws = wd x n l m q ∧ j = 10 ∧ r = [.inl (nI o), .inl (nI c)] ∧ rLay lo fs l m ∧ o < lo ∧ c < 256 ∧ R (.inl (some (.inl (rv fs o c)))) ws)
theorem pu_L_valueOn : ∀ as ws Rq, sp_L_valueOn as ws Rq → cx_cats as ≤ 3 ∧ ∀ V, cx_cl1 t_L_valueOn [(sp_M_isOneOn, 3, 0, 0)] [] [] 0 0 Rq V → V 0 (cx_lv0 as 3) [] ws 0 0 := by
  intro as ws Rq h0
  obtain ⟨j, r, fs0, rfl, hj, x, n, l, m, q, lo, fs, o, c, rfl, rfl, rfl, ⟨N, ks, h1, h2, h3, h4, h5, h6⟩, ho, hc, h⟩ := cx_self_spec h0
  refine ⟨Nat.le_of_ble_eq_true rfl, fun V hV => hV [] 40 _ _ _ _ _ _ ?_⟩
  obtain ⟨⟨a, d1, d2, d3⟩, ⟨b, d4, d5, d6⟩⟩ := h4 o ho
  have hco : (nI o).toNatClampNeg = o := nx_c (by omega)
  conv => whnf
  refine ⟨pk_in o 10 (by omega), ?_⟩
  conv => whnf
  rw [hco]
  refine ⟨x, n, l, m, q, 2 * lo, fs, N, ks, a, c, rfl, rfl, ?_, h3, d1, hc, ?_⟩
  · show [Sum.inl (l.1 o), Sum.inl (nI c)] = _
    rw [show l.1 o = nI a from d2]
  rw [d3]
  conv => whnf
  cases e1 : fs (2 * o) c with
  | true =>
    refine ⟨fun e => absurd e (by decide), fun _ => ?_⟩
    conv => whnf
    simp only [rv, e1, if_true] at h
    exact ⟨fun e => absurd e (by decide), h⟩
  | false =>
    refine ⟨fun _ => ?_, fun e => absurd rfl e⟩
    conv => whnf
    refine ⟨pk_in o 10 (by omega), ?_⟩
    conv => whnf
    rw [hco]
    refine ⟨x, n, l, m, q, 2 * lo, fs, N, ks, b, c, rfl, rfl, ?_, h3, d4, hc, ?_⟩
    · show [Sum.inl (l.2.1 o), Sum.inl (nI c)] = _
      rw [show l.2.1 o = nI b from d5]
    rw [d6]
    conv => whnf
    cases e2 : fs (2 * o + 1) c with
    | true =>
      refine ⟨fun e => absurd e (by decide), fun _ => ?_⟩
      conv => whnf
      simp [rv, e1, e2] at h
      exact ⟨fun e => absurd e (by decide), h⟩
    | false =>
      refine ⟨fun _ => ?_, fun e => absurd rfl e⟩
      conv => whnf
      simp [rv, e1, e2] at h
      exact ⟨fun e => absurd e (by decide), h⟩
def sp_L_stepsOn : cx_S := cx_self 0 (fun j r ws R => ∃ x n l m q lo fs o c, ws = wd x n l m q ∧ j = 10 ∧ r = [.inl (nI o), .inl (nI c)] ∧ rLay lo fs l m ∧ o < lo ∧ c < 256 ∧ R (.inl (some (.inl (nI (wl 8 (fs (2 * o)) c + wl 8 (fs (2 * o + 1)) c))))) ws)
theorem pu_L_stepsOn : ∀ as ws Rq, sp_L_stepsOn as ws Rq → cx_cats as ≤ 3 ∧ ∀ V, cx_cl1 t_L_stepsOn [(sp_M_stepsOn, 3, 0, 0)] [] [] 0 0 Rq V → V 0 (cx_lv0 as 3) [] ws 0 0 := by
  intro as ws Rq h0
  obtain ⟨j, r, fs0, rfl, hj, x, n, l, m, q, lo, fs, o, c, rfl, rfl, rfl, ⟨N, ks, h1, h2, h3, h4, h5, h6⟩, ho, hc, h⟩ := cx_self_spec h0
  refine ⟨Nat.le_of_ble_eq_true rfl, fun V hV => hV [] 40 _ _ _ _ _ _ ?_⟩
  obtain ⟨⟨a, d1, d2, d3⟩, ⟨b, d4, d5, d6⟩⟩ := h4 o ho
  have hco : (nI o).toNatClampNeg = o := nx_c (by omega)
  conv => whnf
  refine ⟨pk_in o 10 (by omega), ?_⟩
  conv => whnf
  rw [hco]
  refine ⟨x, n, l, m, q, 2 * lo, fs, N, ks, a, c, rfl, rfl, ?_, h3, d1, hc, ?_⟩
  · show [Sum.inl (l.1 o), Sum.inl (nI c)] = _
    rw [show l.1 o = nI a from d2]
  rw [d3]
  conv => whnf
  refine ⟨pk_in o 10 (by omega), ?_⟩
  conv => whnf
  rw [hco]
  refine ⟨x, n, l, m, q, 2 * lo, fs, N, ks, b, c, rfl, rfl, ?_, h3, d4, hc, ?_⟩
  · show [Sum.inl (l.2.1 o), Sum.inl (nI c)] = _
    rw [show l.2.1 o = nI b from d5]
  rw [d6]
  conv => whnf
  rw [nI_add]
  exact ⟨fun e => absurd e (by decide), h⟩
/-- how many -/
def ctB (p : Nat → Bool) : Nat → Nat
  | 0 => 0
  | n + 1 => ctB p n + bn (p n)
theorem ctB_congr {p p' : Nat → Bool} : ∀ n, (∀ i, i < n → p i = p' i) → ctB p n = ctB p' n
  | 0, _ => rfl
  | n + 1, h => by
    unfold ctB
    rw [ctB_congr n (fun i hi => h i (by omega)), h n (by omega)]
theorem ctB_add (p : Nat → Bool) (a : Nat) : ∀ b, ctB p (a + b) = ctB p a + ctB (fun i => p (a + i)) b
  | 0 => rfl
  | b + 1 => by
    show ctB p (a + b) + bn (p (a + b)) = ctB p a + (ctB (fun i => p (a + i)) b + bn (p (a + b)))
    rw [ctB_add p a b]
    omega
theorem ctB_le (p : Nat → Bool) : ∀ n, ctB p n ≤ n
  | 0 => Nat.le_refl _
  | n + 1 => by
    unfold ctB
    have := ctB_le p n
    have := bn_lt (p n)
    omega
def sp_J_bitCount : cx_S := fun as ws R => ∃ w, as = [.inr (.inl w)] ∧ R (.inl (some (.inl (nI (ctB (lb w) 64))))) ws
def kno (fs : Nat → Ky) (o c : Nat) : Bool := fs (2 * o) c || fs (2 * o + 1) c
def sp_L_knownChoices : cx_S := cx_self 0 (fun j r ws R => ∃ x n l m q lo fs o, ws = wd x n l m q ∧ j = 10 ∧ r = [.inl (nI o)] ∧ rLay lo fs l m ∧ o < lo ∧ R (.inl (some (.inl (nI (ctB (kno fs o) 256))))) ws)
theorem pu_L_knownChoices : ∀ as ws Rq, sp_L_knownChoices as ws Rq → cx_cats as ≤ 4 ∧ ∀ V, cx_cl1 t_L_knownChoices [(sp_J_bitCount, 1, 0, 0)] [] [] 0 0 Rq V → V 0 (cx_lv0 as 4) [] ws 0 0 := by
  intro as ws Rq h0
  obtain ⟨j, r, fs0, rfl, hj, x, n, l, m, q, lo, fs, o, rfl, rfl, rfl, ⟨N, ks, h1, h2, h3, h4, h5, h6⟩, ho, h⟩ := cx_self_spec h0
  refine ⟨Nat.le_of_ble_eq_true rfl, fun V hV => ?_⟩
  have hco : (nI o).toNatClampNeg = o := nx_c (by omega)
  have loop : ∀ (d w : Nat), w + d = 4 → V 4 [some (.inr (.inr (.inl 10))), some (.inl (nI o)), some (.inl (nI (ctB (kno fs o) (64 * w)))), some (.inl (nI w))] [] (wd x n l m q) 0 0 := by
    intro d
    induction d with
    | zero =>
      intro w hd
      have : w = 4 := by omega
      subst this
      refine hV [] 40 _ _ _ _ _ _ ?_
      conv => whnf
      refine ⟨fun _ => ?_, fun e => absurd (by decide) e⟩
      conv => whnf
      exact ⟨fun e => absurd e (by decide), h⟩
    | succ d ih =>
      intro w hd
      have hcw : (nI w).toNatClampNeg = w := nx_c (by omega)
      refine hV [4] 40 _ _ _ _ _ _ ?_
      conv => whnf
      refine pk_le 4 w (fun _ => by omega) (fun _ => ?_)
      conv => whnf
      refine ⟨pk_in o 10 (by omega), ?_⟩
      conv => whnf
      rw [hco]
      refine ⟨⟨by show o < 10; omega, pk_in w 4 (by omega)⟩, ?_⟩
      conv => whnf
      rw [hcw]
      refine ⟨_, rfl, ?_⟩
      conv => whnf
      dsimp only
      have e : nI (ctB (kno fs o) (64 * w)) + nI (ctB (lb (l.2.2.1 o w)) 64) = nI (ctB (kno fs o) (64 * (w + 1))) := by
        rw [nI_add, show 64 * (w + 1) = 64 * w + 64 by omega, ctB_add]
        congr 2
        refine ctB_congr 64 (fun i hi => ?_)
        have := h5 o ho (64 * w + i) (by omega)
        rw [show (64 * w + i) / 64 = w by omega, show (64 * w + i) % 64 = i by omega] at this
        exact this
      rw [e, nI_1]
      exact ih (w + 1) (by omega)
  refine hV [4] 40 _ _ _ _ _ _ ?_
  conv => whnf
  rw [← nI_0]
  exact loop 4 0 (by omega)
/-- is some output unknown on c -/
def dou (fs : Nat → Ky) (c : Nat) : Nat → Bool
  | 0 => false
  | o + 1 => dou fs c o || !kno fs o c
def fdt (lo : Nat) (fs : Nat → Ky) : Nat → Nat → Int32
  | 0, _ => -1
  | d + 1, c => if dou fs c lo then nI c else fdt lo fs d (c + 1)
theorem dou_iff {fs : Nat → Ky} {c : Nat} : ∀ lo, dou fs c lo = true ↔ ∃ o, o < lo ∧ kno fs o c = false
  | 0 => by simp [dou]
  | lo + 1 => by
    unfold dou
    rw [Bool.or_eq_true, dou_iff lo]
    constructor
    · rintro (⟨o, h1, h2⟩ | h)
      · exact ⟨o, by omega, h2⟩
      · exact ⟨lo, by omega, by simpa using h⟩
    · rintro ⟨o, h1, h2⟩
      by_cases e : o = lo
      · subst e; right; simp [h2]
      · left; exact ⟨o, by omega, h2⟩
def sp_L_firstDoubtFrom : cx_S := cx_self 0 (fun j r ws R => ∃ x n l m q lo fs c, ws = wd x n l m q ∧ j = 10 ∧ r = [.inl (nI c)] ∧ (lo ≤ 10 ∧ l_n l = nI lo ∧ ∀ o, o < lo → ∀ c, c < 256 → lb (l_k l o (c / 64)) (c % 64) = (fs (2 * o) c || fs (2 * o + 1) c)) ∧ c < 256 ∧ R (.inl (some (.inl (fdt lo fs (256 - c) c)))) ws)
theorem pu_L_firstDoubtFrom : ∀ as ws Rq, sp_L_firstDoubtFrom as ws Rq → cx_cats as ≤ 4 ∧ ∀ V, cx_cl1 t_L_firstDoubtFrom [(sp_C_isMember, 2, 0, 0)] [] [] 0 0 Rq V → V 0 (cx_lv0 as 4) [] ws 0 0 := by
  intro as ws Rq h0
  obtain ⟨j, r, fs0, rfl, hj, x, n, l, m, q, lo, fs, c0, rfl, rfl, rfl, ⟨h1, h2, h5⟩, hc0, h⟩ := cx_self_spec h0
  refine ⟨Nat.le_of_ble_eq_true rfl, fun V hV => ?_⟩
  have h2' : l.2.2.2 = nI lo := h2
  have inner : ∀ (d c o : Nat), o + d = lo → c < 256 → (∀ p, p < o → kno fs p c = true) → (dou fs c lo = true → Rq (.inl (some (.inl (nI c)))) (wd x n l m q)) →
      (dou fs c lo = false → ∀ s3, V 40 [some (.inr (.inr (.inl 10))), some (.inl (nI c0)), some (.inl (nI c)), s3] [] (wd x n l m q) 0 0) →
      V 11 [some (.inr (.inr (.inl 10))), some (.inl (nI c0)), some (.inl (nI c)), some (.inl (nI o))] [] (wd x n l m q) 0 0 := by
    intro d
    induction d with
    | zero =>
      intro c o hd hc hp k1 k2
      have hf : dou fs c lo = false := by
        cases e : dou fs c lo with
        | false => rfl
        | true =>
          obtain ⟨p, q1, q2⟩ := (dou_iff lo).mp e
          rw [hp p (by omega)] at q2
          cases q2
      refine hV [40] 40 _ _ _ _ _ _ ?_
      conv => whnf
      refine pk_le lo o (fun _ => k2 hf _) (fun _ => by omega) h2'
    | succ d ih =>
      intro c o hd hc hp k1 k2
      have hco : (nI o).toNatClampNeg = o := nx_c (by omega)
      refine hV [40, 11] 40 _ _ _ _ _ _ ?_
      conv => whnf
      refine pk_le lo o (fun _ => by omega) (fun _ => ?_) h2'
      conv => whnf
      refine ⟨pk_in o 10 (by omega), ?_⟩
      conv => whnf
      rw [hco]
      refine ⟨23, o, c, 10, 4, l_k l, rfl, hc, rfl, by omega, rfl, ?_⟩
      rw [h5 o (by omega) c hc]
      conv => whnf
      cases e : kno fs o c with
      | true =>
        rw [show (fs (2 * o) c || fs (2 * o + 1) c) = true from e]
        refine ⟨fun _ => ?_, fun e => absurd e (by decide)⟩
        conv => whnf
        rw [nI_1]
        refine ih c (o + 1) (by omega) hc (fun p hp2 => ?_) k1 k2
        by_cases ep : p = o
        · subst ep; exact e
        · exact hp p (by omega)
      | false =>
        rw [show (fs (2 * o) c || fs (2 * o + 1) c) = false from e]
        refine ⟨fun e => absurd rfl e, fun _ => ?_⟩
        conv => whnf
        exact ⟨fun e => absurd e (by decide), k1 ((dou_iff lo).mpr ⟨o, by omega, e⟩)⟩
  have outer : ∀ (d c : Nat) (s3 : Option cx_V), c + d = 256 → Rq (.inl (some (.inl (fdt lo fs d c)))) (wd x n l m q) → V 2 [some (.inr (.inr (.inl 10))), some (.inl (nI c0)), some (.inl (nI c)), s3] [] (wd x n l m q) 0 0 := by
    intro d
    induction d with
    | zero =>
      intro c s3 hd hR
      refine hV [] 40 _ _ _ _ _ _ ?_
      conv => whnf
      refine pk_le 256 c (fun _ => ?_) (fun _ => by omega)
      conv => whnf
      exact ⟨fun e => absurd e (by decide), hR⟩
    | succ d ih =>
      intro c s3 hd hR
      refine hV [11] 40 _ _ _ _ _ _ ?_
      conv => whnf
      refine pk_le 256 c (fun _ => by omega) (fun _ => ?_)
      conv => whnf
      rw [← nI_0]
      refine inner lo c 0 (by omega) (by omega) (fun p hp => by omega) (fun e => ?_) (fun e s3 => ?_)
      · have e2 : fdt lo fs (d + 1) c = nI c := if_pos e
        rw [e2] at hR
        exact hR
      · have e2 : fdt lo fs (d + 1) c = fdt lo fs d (c + 1) := if_neg (by rw [e]; decide)
        rw [e2] at hR
        refine hV [2] 40 _ _ _ _ _ _ ?_
        conv => whnf
        rw [nI_1]
        exact ih (c + 1) _ (by omega) hR
  refine hV [2] 40 _ _ _ _ _ _ ?_
  conv => whnf
  exact outer (256 - c0) c0 none (by omega) h
