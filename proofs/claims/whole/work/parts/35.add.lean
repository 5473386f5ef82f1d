/-! addGate, fixInput, addFeed, dropAll. -/
def gatA (a : aN) (s : Nat) : aN := (a_g a + 1, fun q => if q = a_g a then s else a_so a q, fun q => if q = a_g a then a_i a else a_nu a q, a_f a, a_to a, a_fr a, a_ne a, if s = 0 then a_i a + 1 else a_i a)
def fedA (a : aN) (t f : Nat) (n : Bool) : aN := (a_g a, a_so a, a_nu a, a_f a + 1, fun k => if k = a_f a then t else a_to a k, fun k => if k = a_f a then f else a_fr a k, fun k => if k = a_f a then n else a_ne a k, a_i a)
def zerA : aN := (0, fun _ => 0, fun _ => 0, 0, fun _ => 0, fun _ => 0, fun _ => false, 0)
theorem prv_congr {to to' : Nat → Nat} : ∀ n g, (∀ k, k < n → to k = to' k) → prv to n g = prv to' n g
  | 0, _, _ => rfl
  | n + 1, g, h => by
    unfold prv
    rw [h n (by omega), prv_congr n g (fun k hk => h k (by omega))]
theorem cnt_congr {to to' : Nat → Nat} : ∀ n g, (∀ k, k < n → to k = to' k) → cnt to n g = cnt to' n g
  | 0, _, _ => rfl
  | n + 1, g, h => by
    unfold cnt
    rw [h n (by omega), cnt_congr n g (fun k hk => h k (by omega))]
theorem prv_none {to : Nat → Nat} {g : Nat} : ∀ n, (∀ k, k < n → to k ≠ g) → prv to n g = 0
  | 0, _ => rfl
  | n + 1, h => by
    unfold prv
    rw [if_neg (h n (by omega))]
    exact prv_none n (fun k hk => h k (by omega))
theorem cnt_none {to : Nat → Nat} {g : Nat} : ∀ n, (∀ k, k < n → to k ≠ g) → cnt to n g = 0
  | 0, _ => rfl
  | n + 1, h => by
    unfold cnt
    rw [if_neg (h n (by omega)), cnt_none n (fun k hk => h k (by omega))]
def sp_N_dropAll : cx_S := cx_self 2 (fun j r ws R => ∃ x n l m q, ws = wd x n l m q ∧ j = 1 ∧ r = [] ∧ ∀ n', rN zerA n' → R (.inl none) (wd x n' l m q))
theorem pu_N_dropAll : ∀ as ws Rq, sp_N_dropAll as ws Rq → cx_cats as ≤ 1 ∧ ∀ V, cx_cl1 t_N_dropAll [] [] [] 0 0 Rq V → V 0 (cx_lv0 as 1) [] ws 0 0 := by
  intro as ws Rq h0
  obtain ⟨j, r, fs, rfl, hj, x, n, l, m, q, rfl, rfl, rfl, h⟩ := cx_self_spec h0
  refine ⟨Nat.le_of_ble_eq_true rfl, fun V hV => hV [] 40 _ _ _ _ _ _ ?_⟩
  conv => whnf
  refine ⟨Or.inl rfl, ?_⟩
  conv => whnf
  refine ⟨Or.inl rfl, ?_⟩
  conv => whnf
  refine ⟨Or.inl rfl, ?_⟩
  conv => whnf
  refine ⟨Or.inr ⟨rfl, Or.inl rfl⟩, ?_⟩
  conv => whnf
  refine h (n_so n, n_ff n, n_fo n, n_fr n, n_ne n, n_nx n, n_hi n, n_lo n, 0, 0, 0, 0) ⟨⟨⟨Nat.zero_le _, Nat.zero_le _, Nat.zero_le _, fun g hg => absurd hg (Nat.not_lt_zero _), fun g hg => absurd hg (Nat.not_lt_zero _)⟩, rfl, rfl, rfl, fun g hg => absurd hg (Nat.not_lt_zero _), fun g hg => absurd hg (Nat.not_lt_zero _)⟩, fun g hg => absurd hg (Nat.not_lt_zero _), Or.inl rfl⟩
def sp_N_addFeed : cx_S := cx_self 2 (fun j r ws R => ∃ x n l m q a t f b, ws = wd x n l m q ∧ j = 1 ∧ r = [.inl (nI t), .inl (nI f), .inl (b2 b)] ∧ rN a n ∧ t < a_g a ∧ f < a_g a ∧ a_so a t ≠ 0 ∧
  (a_f a = 500 → R (.inl (some (.inl (-1)))) ws) ∧ (a_f a < 500 → ∀ n', rN (fedA a t f b) n' → R (.inl (some (.inl (nI (cnt (a_to (fedA a t f b)) (a_f a + 1) t))))) (wd x n' l m q)))
set_option maxRecDepth 100000 in
set_option maxHeartbeats 4000000 in
theorem pu_N_addFeed : ∀ as ws Rq, sp_N_addFeed as ws Rq → cx_cats as ≤ 5 ∧ ∀ V, cx_cl1 t_N_addFeed [] [] [] 0 0 Rq V → V 0 (cx_lv0 as 5) [] ws 0 0 := by
  intro as ws Rq h0
  obtain ⟨j, r, fs, rfl, hj, x, n, l, m, q, a, t, f, b, rfl, rfl, rfl, hN, ht, hf, hs, h1, h2⟩ := cx_self_spec h0
  refine ⟨Nat.le_of_ble_eq_true rfl, fun V hV => hV [] 60 _ _ _ _ _ _ ?_⟩
  obtain ⟨hS, hin, hst⟩ := hN
  have hS2 := hS
  obtain ⟨hwf, hgg, hff, hii, hG, hK⟩ := hS2
  obtain ⟨w1, w2, w3, w4, w5⟩ := hwf
  have hct : (nI t).toNatClampNeg = t := nx_c (by omega)
  have hcf : (nI (a_f a)).toNatClampNeg = a_f a := nx_c (by omega)
  have e0 : n.2.2.2.2.2.2.2.2.2.1 = nI (a_f a) := hff
  conv => whnf
  refine ⟨fun e => ?_, fun e => ?_⟩
  · rw [e0, show (500 : Int32) = nI 500 from rfl, nI_ltI (by omega) (by omega)] at e
    have h3 := h2 e
    have int : vp_in (nI t) 120 := vp_in_nI (by omega) (by omega)
    have inf : vp_in n.2.2.2.2.2.2.2.2.2.1 500 := by rw [e0]; exact vp_in_nI (by omega) (by omega)
    conv => whnf
    refine ⟨inf, ?_⟩
    conv => whnf
    refine ⟨⟨inf, b2_01 b⟩, ?_⟩
    conv => whnf
    refine ⟨int, ?_⟩
    conv => whnf
    refine ⟨inf, ?_⟩
    conv => whnf
    refine ⟨int, ?_⟩
    conv => whnf
    refine ⟨int, ?_⟩
    conv => whnf
    refine ⟨int, ?_⟩
    conv => whnf
    refine ⟨Or.inl rfl, ?_⟩
    conv => whnf
    refine ⟨Or.inr ⟨rfl, Or.inl rfl⟩, ?_⟩
    conv => whnf
    refine ⟨int, ?_⟩
    conv => whnf
    refine ⟨fun e => absurd e (by decide), ?_⟩
    obtain ⟨g1, g2, g3⟩ := hG t ht
    have key : (upd n.2.2.1 (nI t).toNatClampNeg (n.2.2.1 (nI t).toNatClampNeg + 1)) (nI t).toNatClampNeg = nI (cnt (a_to (fedA a t f b)) (a_f a + 1) t) := by
      rw [hct]
      have e1 : upd n.2.2.1 t (n.2.2.1 t + 1) t = n.2.2.1 t + 1 := by simp [upd]
      rw [e1, show n.2.2.1 t = nI (cnt (a_to a) (a_f a) t) from g3, nI_1]
      have e2 : cnt (a_to (fedA a t f b)) (a_f a + 1) t = cnt (a_to a) (a_f a) t + 1 := by
        have e3 : cnt (a_to (fedA a t f b)) (a_f a) t = cnt (a_to a) (a_f a) t := cnt_congr _ _ (fun k hk => by simp [fedA, a_to, show k ≠ a_f a by omega])
        show cnt (a_to (fedA a t f b)) (a_f a) t + _ = _
        rw [e3]
        simp [fedA, a_to]
      rw [e2]
    dsimp only
    rw [key]
    rw [e0, hcf, hct]
    have eto : ∀ k, k < a_f a → a_to (fedA a t f b) k = a_to a k := fun k hk => by simp [fedA, a_to, show k ≠ a_f a by omega]
    have etf : a_to (fedA a t f b) (a_f a) = t := by simp [fedA, a_to]
    refine h3 (n.1, upd n.2.1 t (nI (a_f a)), upd n.2.2.1 t (n.2.2.1 t + 1), upd n.2.2.2.1 (a_f a) (nI f), upd n.2.2.2.2.1 (a_f a) (b2 b), upd n.2.2.2.2.2.1 (a_f a) (n.2.1 t), n_hi n, n_lo n, n_g n, nI (a_f a) + 1, n_i n, 0) ⟨⟨⟨w1, ?_, w3, w4, fun k hk => ?_⟩, hgg, ?_, hii, fun g hg => ⟨(hG g hg).1, ?_, ?_⟩, fun k hk => ?_⟩, hin, Or.inl rfl⟩
    · show a_f a + 1 ≤ 500
      omega
    · have hk' : k < a_f a + 1 := hk
      by_cases e : k = a_f a
      · subst e
        rw [etf]
        simp only [fedA, a_fr, a_so, a_g] at hf ht hs ⊢
        exact ⟨ht, by simpa using hf, hs⟩
      · rw [eto k (by omega)]
        obtain ⟨u1, u2, u3⟩ := w5 k (by omega)
        refine ⟨u1, ?_, u3⟩
        show (if k = a_f a then f else a_fr a k) < a_g a
        rw [if_neg e]
        exact u2
    · show nI (a_f a) + 1 = nI (a_f a + 1)
      exact nI_1 _
    · show upd n.2.1 t (nI (a_f a)) g = prI (prv (a_to (fedA a t f b)) (a_f a + 1) g)
      unfold prv
      rw [etf]
      by_cases e : g = t
      · subst e
        simp [upd, prI_s]
      · rw [if_neg (Ne.symm e), prv_congr _ _ eto]
        simp only [upd, e, if_false]
        exact (hG g hg).2.1
    · show upd n.2.2.1 t (n.2.2.1 t + 1) g = nI (cnt (a_to (fedA a t f b)) (a_f a + 1) g)
      unfold cnt
      rw [etf, cnt_congr _ _ eto]
      by_cases e : g = t
      · subst e
        simp only [upd, if_true]
        rw [show n.2.2.1 g = nI (cnt (a_to a) (a_f a) g) from g3, nI_1]
      · rw [if_neg (Ne.symm e)]
        simp only [upd, e, if_false]
        exact (hG g hg).2.2
    · have hk' : k < a_f a + 1 := hk
      by_cases e : k = a_f a
      · subst e
        refine ⟨?_, ?_, ?_⟩
        · refine pk_us.trans ?_
          show nI f = nI (if a_f a = a_f a then f else a_fr a (a_f a))
          rw [if_pos rfl]
        · refine pk_us.trans ?_
          show b2 b = b2 (if a_f a = a_f a then b else a_ne a (a_f a))
          rw [if_pos rfl]
        · show upd n.2.2.2.2.2.1 (a_f a) (n.2.1 t) (a_f a) = _
          rw [etf, prv_congr _ _ eto]
          simp only [upd, if_true]
          exact g2
      · obtain ⟨u1, u2, u3⟩ := hK k (by omega)
        refine ⟨?_, ?_, ?_⟩
        · refine (pk_un e).trans ?_
          show n.2.2.2.1 k = nI (if k = a_f a then f else a_fr a k)
          rw [if_neg e]; exact u1
        · refine (pk_un e).trans ?_
          show n.2.2.2.2.1 k = b2 (if k = a_f a then b else a_ne a k)
          rw [if_neg e]; exact u2
        · rw [eto k (by omega), prv_congr _ _ (fun i hi => eto i (by omega))]
          exact (pk_un e).trans u3
  · rw [e0, show (500 : Int32) = nI 500 from rfl, nI_ltI (by omega) (by omega)] at e
    conv => whnf
    exact ⟨fun e => absurd e (by decide), h1 (by omega)⟩
def sp_N_fixInput : cx_S := cx_self 2 (fun j r ws R => ∃ x n l m q g k, ws = wd x n l m q ∧ j = 1 ∧ r = [.inl (nI g), .inl (nI k)] ∧ g < 120 ∧ k < 8 ∧
  ∀ hi lo, (∀ p, p ≠ g → hi p = n_hi n p ∧ lo p = n_lo n p) → (∀ w, w < 4 → ∀ b, b < 64 → lb (hi g w) b = cb k (64 * w + b) ∧ lb (lo g w) b = !cb k (64 * w + b)) → R (.inl none) (wd x (nS n hi lo) l m q))
set_option maxRecDepth 100000 in
set_option maxHeartbeats 4000000 in
theorem pu_N_fixInput : ∀ as ws Rq, sp_N_fixInput as ws Rq → cx_cats as ≤ 7 ∧ ∀ V, cx_cl1 t_N_fixInput [(sp_C_isInputSet, 2, 0, 0)] [] [] 0 0 Rq V → V 0 (cx_lv0 as 7) [] ws 0 0 := by
  intro as ws Rq h0
  obtain ⟨j, r, fs, rfl, hj, x, n, l, m, q, g, k, rfl, rfl, rfl, hg, hk, h⟩ := cx_self_spec h0
  refine ⟨Nat.le_of_ble_eq_true rfl, fun V hV => ?_⟩
  have hcg : (nI g).toNatClampNeg = g := nx_c (by omega)
  have ing : vp_in (nI g) 120 := vp_in_nI (by omega) (by omega)
  have inner : ∀ (d b w : Nat) (o : Int64) (hi lo : Nat → Nat → Int64), b + d = 64 → w < 4 → (∀ i, i < 64 → lb o i = (decide (i < b) && cb k (64 * w + i))) →
      (∀ o', (∀ i, i < 64 → lb o' i = cb k (64 * w + i)) → V 49 [some (.inr (.inr (.inl 1))), some (.inl (nI g)), some (.inl (nI k)), some (.inl (nI w)), some (.inr (.inl o')), none, some (.inl (nI 64))] [] (wd x (nS n hi lo) l m q) 0 0) →
      V 13 [some (.inr (.inr (.inl 1))), some (.inl (nI g)), some (.inl (nI k)), some (.inl (nI w)), some (.inr (.inl o)), none, some (.inl (nI b))] [] (wd x (nS n hi lo) l m q) 0 0 := by
    intro d
    induction d with
    | zero =>
      intro b w o hi lo hd hw ho hk2
      have e : b = 64 := by omega
      subst e
      refine hV [49] 60 _ _ _ _ _ _ ?_
      conv => whnf
      refine ⟨fun _ => ?_, fun e => absurd (by decide) e⟩
      exact hk2 o (fun i hi => by rw [ho i hi]; simp [hi])
    | succ d ih =>
      intro b w o hi lo hd hw ho hk2
      refine hV [13] 60 _ _ _ _ _ _ ?_
      conv => whnf
      refine ⟨fun e => ?_, fun _ => ?_⟩
      · exfalso
        rw [show (64 : Int32) = nI 64 from rfl, nI_leI (by omega) (by omega)] at e
        omega
      conv => whnf
      refine ⟨k, 64 * w + b, ?_, hk, by omega, ?_⟩
      · rw [show nI w * 64 + nI b = nI (64 * w + b) by
          rw [show (64 : Int32) = nI 64 from rfl, pk_mul, nI_add, Nat.mul_comm]]
        rfl
      conv => whnf
      cases hc : cb k (64 * w + b) with
      | false =>
        refine ⟨fun _ => ?_, fun e => absurd rfl e⟩
        conv => whnf
        rw [nI_1]
        refine ih (b + 1) w o hi lo (by omega) hw (fun i hi => ?_) hk2
        rw [ho i hi]
        by_cases e : i = b
        · subst e; simp [hc]
        · simp [show (i < b + 1) = (i < b) by simp; omega]
      | true =>
        refine ⟨fun e => absurd e (by decide), fun _ => ?_⟩
        conv => whnf
        rw [nI_1]
        refine ih (b + 1) w _ hi lo (by omega) hw (fun i hi => ?_) hk2
        rw [lb_or, ho i hi, lb_shl1 (by omega) hi]
        by_cases e : i = b
        · subst e; simp [hc]
        · simp [show (i < b + 1) = (i < b) by simp; omega, e]
  have loop : ∀ (d w : Nat) (hi lo : Nat → Nat → Int64) (s4 : Option cx_V) (s5 : Option cx_V) (s6 : Option cx_V), w + d = 4 → (∀ p, p ≠ g → hi p = n_hi n p ∧ lo p = n_lo n p) → (∀ u, u < w → ∀ b, b < 64 → lb (hi g u) b = cb k (64 * u + b) ∧ lb (lo g u) b = !cb k (64 * u + b)) →
      V 2 [some (.inr (.inr (.inl 1))), some (.inl (nI g)), some (.inl (nI k)), some (.inl (nI w)), s4, s5, s6] [] (wd x (nS n hi lo) l m q) 0 0 := by
    intro d
    induction d with
    | zero =>
      intro w hi lo s4 s5 s6 hd h1 h2
      have e : w = 4 := by omega
      subst e
      refine hV [] 60 _ _ _ _ _ _ ?_
      conv => whnf
      refine ⟨fun _ => ?_, fun e => absurd (by decide) e⟩
      conv => whnf
      exact h hi lo h1 h2
    | succ d ih =>
      intro w hi lo s4 s5 s6 hd h1 h2
      have inw : vp_in (nI w) 4 := vp_in_nI (by omega) (by omega)
      have hcw : (nI w).toNatClampNeg = w := nx_c (by omega)
      refine hV [13] 60 _ _ _ _ _ _ ?_
      conv => whnf
      refine ⟨fun e => ?_, fun _ => ?_⟩
      · exfalso
        rw [show (4 : Int32) = nI 4 from rfl, nI_leI (by omega) (by omega)] at e
        omega
      conv => whnf
      rw [← nI_0]
      refine inner 64 0 w 0 hi lo (by omega) (by omega) (fun i hi => by simp [lb_0]) (fun o ho => ?_)
      refine hV [2] 60 _ _ _ _ _ _ ?_
      conv => whnf
      refine ⟨ing, ?_⟩
      conv => whnf
      refine ⟨⟨by rw [hcg]; exact hg, inw⟩, ?_⟩
      conv => whnf
      refine ⟨ing, ?_⟩
      conv => whnf
      refine ⟨⟨by rw [hcg]; exact hg, inw⟩, ?_⟩
      conv => whnf
      rw [nI_1, hcg, hcw]
      refine ih (w + 1) (va_up hi g (vp_updL (hi g) w o)) (va_up lo g (vp_updL (lo g) w (o ^^^ (-1)))) _ _ _ (by omega) (fun p hp => ?_) (fun u hu b hb => ?_)
      · rw [va_up_ne _ _ hp, va_up_ne _ _ hp]
        exact h1 p hp
      · rw [va_up_self, va_up_self]
        by_cases e : u = w
        · subst e
          simp only [vp_updL, if_true]
          rw [lb_not _ hb, ho b hb]
          exact ⟨rfl, rfl⟩
        · simp only [vp_updL, e, if_false]
          exact h2 u (by omega) b hb
  refine hV [2] 60 _ _ _ _ _ _ ?_
  conv => whnf
  rw [← nI_0]
  exact loop 4 0 (n_hi n) (n_lo n) none none none (by omega) (fun p hp => ⟨rfl, rfl⟩) (fun u hu => by omega)
def sp_N_addGate : cx_S := cx_self 2 (fun j r ws R => ∃ x n l m q a s, ws = wd x n l m q ∧ j = 1 ∧ r = [.inl (nI s)] ∧ rN a n ∧ (s = 0 ∨ s = 2 ∨ s = 3) ∧
  ((a_g a = 120 ∨ (s = 0 ∧ a_i a = 8)) → R (.inl (some (.inl (-1)))) ws) ∧ (¬ (a_g a = 120 ∨ (s = 0 ∧ a_i a = 8)) → ∀ n', rN (gatA a s) n' → R (.inl (some (.inl (nI (a_g a))))) (wd x n' l m q)))
theorem gatA_rN {a : aN} {n : wN} {s : Nat} (hN : rN a n) (hs : s = 0 ∨ s = 2 ∨ s = 3) (hno : ¬ (a_g a = 120 ∨ (s = 0 ∧ a_i a = 8))) {hi lo : Nat → Nat → Int64} {i' : Int32} (h1 : ∀ p, p ≠ a_g a → hi p = n_hi n p ∧ lo p = n_lo n p)
    (h2 : s = 0 → (∀ w, w < 4 → ∀ b, b < 64 → lb (hi (a_g a) w) b = cb (a_i a) (64 * w + b) ∧ lb (lo (a_g a) w) b = !cb (a_i a) (64 * w + b)) ∧ i' = nI (a_i a + 1)) (h3 : s ≠ 0 → i' = nI (a_i a)) :
    rN (gatA a s) (upd n.1 (a_g a) (nI s), upd n.2.1 (a_g a) (-1), upd n.2.2.1 (a_g a) 0, n_fr n, n_ne n, n_nx n, hi, lo, nI (a_g a + 1), n_f n, i', 0) := by
  obtain ⟨hS, hin, hst⟩ := hN
  obtain ⟨hwf, hgg, hff, hii, hG, hK⟩ := hS
  obtain ⟨w1, w2, w3, w4, w5⟩ := hwf
  have hne : ∀ k, k < a_f a → a_to a k ≠ a_g a := fun k hk => by have := (w5 k hk).1; omega
  have hso : ∀ g, g ≠ a_g a → a_so (gatA a s) g = a_so a g := fun g hg => by simp [gatA, a_so, hg]
  have hsn : a_so (gatA a s) (a_g a) = s := by simp [gatA, a_so]
  have hno1 : a_g a ≠ 120 := fun e => hno (Or.inl e)
  have hno2 : s = 0 → a_i a ≠ 8 := fun e e2 => hno (Or.inr ⟨e, e2⟩)
  refine ⟨⟨⟨?_, w2, ?_, fun g hg => ?_, fun k hk => ?_⟩, rfl, hff, ?_, fun g hg => ?_, fun k hk => hK k hk⟩, fun g hg hs0 w hw b hb => ?_, Or.inl rfl⟩
  · show a_g a + 1 ≤ 120
    omega
  · show (if s = 0 then a_i a + 1 else a_i a) ≤ 8
    split
    · rename_i e
      have := hno2 e
      omega
    · exact w3
  · have hg' : g < a_g a + 1 := hg
    by_cases e : g = a_g a
    · subst e
      rw [hsn]
      refine ⟨hs, fun e0 => ?_⟩
      show (if a_g a = a_g a then a_i a else a_nu a (a_g a)) < 8
      rw [if_pos rfl]
      have := hno2 e0
      omega
    · rw [hso g e]
      obtain ⟨u1, u2⟩ := w4 g (by omega)
      refine ⟨u1, fun e0 => ?_⟩
      show (if g = a_g a then a_i a else a_nu a g) < 8
      rw [if_neg e]
      exact u2 e0
  · obtain ⟨u1, u2, u3⟩ := w5 k hk
    refine ⟨Nat.lt_succ_of_lt u1, Nat.lt_succ_of_lt u2, ?_⟩
    show a_so (gatA a s) (a_to a k) ≠ 0
    rw [hso _ (hne k hk)]
    exact u3
  · show i' = nI (if s = 0 then a_i a + 1 else a_i a)
    split
    · rename_i e; exact (h2 e).2
    · rename_i e; exact h3 e
  · have hg' : g < a_g a + 1 := hg
    by_cases e : g = a_g a
    · subst e
      rw [hsn]
      refine ⟨pk_us, ?_, ?_⟩
      · show upd n.2.1 (a_g a) (-1) (a_g a) = prI (prv (a_to a) (a_f a) (a_g a))
        rw [prv_none _ hne]
        simp [upd, prI_0]
      · show upd n.2.2.1 (a_g a) 0 (a_g a) = nI (cnt (a_to a) (a_f a) (a_g a))
        rw [cnt_none _ hne]
        simp [upd, nI_0]
    · rw [hso g e]
      obtain ⟨u1, u2, u3⟩ := hG g (by omega)
      exact ⟨(pk_un e).trans u1, (pk_un e).trans u2, (pk_un e).trans u3⟩
  · have hg' : g < a_g a + 1 := hg
    by_cases e : g = a_g a
    · subst e
      rw [hsn] at hs0
      show lb (hi (a_g a) w) b = cb (if a_g a = a_g a then a_i a else a_nu a (a_g a)) _ ∧ lb (lo (a_g a) w) b = !cb (if a_g a = a_g a then a_i a else a_nu a (a_g a)) _
      rw [if_pos rfl]
      exact (h2 hs0).1 w hw b hb
    · rw [hso g e] at hs0
      show lb (hi g w) b = cb (if g = a_g a then a_i a else a_nu a g) _ ∧ lb (lo g w) b = !cb (if g = a_g a then a_i a else a_nu a g) _
      rw [if_neg e, (h1 g e).1, (h1 g e).2]
      exact hin g (by omega) hs0 w hw b hb
set_option maxRecDepth 100000 in
set_option maxHeartbeats 4000000 in
theorem pu_N_addGate : ∀ as ws Rq, sp_N_addGate as ws Rq → cx_cats as ≤ 3 ∧ ∀ V, cx_cl1 t_N_addGate [(sp_N_fixInput, 3, 0, 0)] [] [] 0 0 Rq V → V 0 (cx_lv0 as 3) [] ws 0 0 := by
  intro as ws Rq h0
  obtain ⟨j, r, fs, rfl, hj, x, n, l, m, q, a, s, rfl, rfl, rfl, hN, hs, h1, h2⟩ := cx_self_spec h0
  refine ⟨Nat.le_of_ble_eq_true rfl, fun V hV => ?_⟩
  have hN2 := hN
  obtain ⟨hS, hin, hst⟩ := hN2
  obtain ⟨hwf, hgg, hff, hii, hG, hK⟩ := hS
  obtain ⟨w1, w2, w3, w4, w5⟩ := hwf
  have e0 : n.2.2.2.2.2.2.2.2.1 = nI (a_g a) := hgg
  have e1 : n.2.2.2.2.2.2.2.2.2.2.1 = nI (a_i a) := hii
  have hcg : (nI (a_g a)).toNatClampNeg = a_g a := nx_c (by omega)
  have nIs : nI s = 0 ↔ s = 0 := by rw [show (0 : Int32) = nI 0 from rfl, nI_eq (by omega) (by omega)]
  have cont : ¬ (a_g a = 120 ∨ (s = 0 ∧ a_i a = 8)) → V 24 [some (.inr (.inr (.inl 1))), some (.inl (nI s)), none] [] (wd x n l m q) 0 0 := by
    intro hno
    have h3 := h2 hno
    have hno1 : a_g a ≠ 120 := fun e => hno (Or.inl e)
    have ing : vp_in n.2.2.2.2.2.2.2.2.1 120 := by rw [e0]; exact vp_in_nI (by omega) (by omega)
    refine hV [] 60 _ _ _ _ _ _ ?_
    conv => whnf
    refine ⟨ing, ?_⟩
    conv => whnf
    refine ⟨ing, ?_⟩
    conv => whnf
    refine ⟨ing, ?_⟩
    conv => whnf
    refine ⟨Or.inl rfl, ?_⟩
    conv => whnf
    refine ⟨Or.inr ⟨rfl, Or.inl rfl⟩, ?_⟩
    conv => whnf
    refine ⟨fun e => ?_, fun e => ?_⟩
    · have hs0 : s ≠ 0 := fun q => e (nIs.mpr q)
      conv => whnf
      refine ⟨fun e => absurd e (by decide), ?_⟩
      rw [e0, hcg, nI_1]
      exact h3 _ (gatA_rN hN hs hno (hi := n_hi n) (lo := n_lo n) (i' := n_i n) (fun p hp => ⟨rfl, rfl⟩) (fun q => absurd q hs0) (fun _ => hii))
    · have hs0 : s = 0 := nIs.mp e
      have hi8 : a_i a ≠ 8 := fun q => hno (Or.inr ⟨hs0, q⟩)
      conv => whnf
      refine ⟨x, (upd n.1 (a_g a) (nI s), upd n.2.1 (a_g a) (-1), upd n.2.2.1 (a_g a) 0, n_fr n, n_ne n, n_nx n, n_hi n, n_lo n, nI (a_g a + 1), n_f n, n_i n, 0), l, m, q, a_g a, a_i a, ?_, rfl, ?_, by omega, by omega, fun hi lo p1 p2 => ?_⟩
      · rw [e0, hcg, nI_1]
        rfl
      · rw [e0, e1]
      conv => whnf
      refine ⟨Or.inl rfl, ?_⟩
      conv => whnf
      refine ⟨fun e => absurd e (by decide), ?_⟩
      rw [e0]
      refine h3 (upd n.1 (a_g a) (nI s), upd n.2.1 (a_g a) (-1), upd n.2.2.1 (a_g a) 0, n_fr n, n_ne n, n_nx n, hi, lo, nI (a_g a + 1), n_f n, n.2.2.2.2.2.2.2.2.2.2.1 + 1, 0) ?_
      exact gatA_rN hN hs hno p1 (fun _ => ⟨p2, by rw [e1, nI_1]⟩) (fun q => absurd hs0 q)
  refine hV [24] 60 _ _ _ _ _ _ ?_
  conv => whnf
  refine ⟨fun e => ?_, fun e => ?_⟩
  · conv => whnf
    rw [e0, show (120 : Int32) = nI 120 from rfl, nI_leI (by omega) (by omega)] at e
    exact ⟨fun e => absurd e (by decide), h1 (Or.inl (by omega))⟩
  · rw [e0, show (120 : Int32) = nI 120 from rfl, nI_leI (by omega) (by omega)] at e
    conv => whnf
    refine ⟨fun e2 => ?_, fun e2 => ?_⟩
    · have hs0 : s ≠ 0 := fun q => e2 (nIs.mpr q)
      exact cont (fun q => q.elim (fun q => by omega) (fun q => hs0 q.1))
    · conv => whnf
      have hs0 : s = 0 := nIs.mp e2
      refine ⟨fun e3 => ?_, fun e3 => ?_⟩
      · rw [e1, show (8 : Int32) = nI 8 from rfl, nI_ltI (by omega) (by omega)] at e3
        exact cont (fun q => q.elim (fun q => by omega) (fun q => by omega))
      · rw [e1, show (8 : Int32) = nI 8 from rfl, nI_ltI (by omega) (by omega)] at e3
        conv => whnf
        exact ⟨fun e => absurd e (by decide), h1 (Or.inr ⟨hs0, by omega⟩)⟩
