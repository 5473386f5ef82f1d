/-! settleWord: rounds over all gates till nothing more becomes known on 64 choices. -/
abbrev nS (n : wN) (hi lo : Nat → Nat → Int64) : wN := (n_so n, n_ff n, n_fo n, n_fr n, n_ne n, n_nx n, hi, lo, n_g n, n_f n, n_i n, n_st n)
/-- the rows are the same but for word w -/
def oth (hi lo hi' lo' : Nat → Nat → Int64) (w : Nat) : Prop := ∀ q u, u ≠ w → hi' q u = hi q u ∧ lo' q u = lo q u
theorem oth_rfl (hi lo : Nat → Nat → Int64) (w : Nat) : oth hi lo hi lo w := fun _ _ _ => ⟨rfl, rfl⟩
theorem oth_put {hi lo h l : Nat → Nat → Int64} {w g : Nat} {o z : Int64} (h0 : oth hi lo h l w) : oth hi lo (va_up h g (vp_updL (h g) w o)) (va_up l g (vp_updL (l g) w z)) w := by
  intro q u hu
  obtain ⟨h1, h2⟩ := h0 q u hu
  by_cases e : q = g
  · subst e
    rw [va_up_self, va_up_self]
    simp only [vp_updL, hu, if_false]
    exact ⟨h1, h2⟩
  · rw [va_up_ne _ _ e, va_up_ne _ _ e]
    exact ⟨h1, h2⟩
theorem enc_put {a : aN} {h l : Nat → Nat → Int64} {w g : Nat} {o z : Int64} {v : Nat → Nat → vl} (hs : a_so a g ≠ 0) (h0 : encW a h l w v) (h1 : ∀ b, b < 64 → lb o b = eH (made a g (v b)) ∧ lb z b = eL (made a g (v b))) :
    encW a (va_up h g (vp_updL (h g) w o)) (va_up l g (vp_updL (l g) w z)) w (fun b => pst a (v b) g) := by
  intro b hb q hq
  by_cases e : q = g
  · subst e
    rw [va_up_self, va_up_self]
    simp only [vp_updL, if_true]
    rw [show pst a (v b) q q = made a q (v b) by simp [pst, hs]]
    exact h1 b hb
  · rw [va_up_ne _ _ e, va_up_ne _ _ e]
    show lb (h q w) b = eH (pst a (v b) g q) ∧ lb (l q w) b = eL (pst a (v b) g q)
    rw [show pst a (v b) g q = v b q by simp [pst, hs, e]]
    exact h0 b hb q hq
def sp_N_settleWord : cx_S := cx_self 2 (fun j r ws R => ∃ x n l m q a w, ws = wd x n l m q ∧ j = 1 ∧ r = [.inl (nI w)] ∧ rS a n ∧ w < 4 ∧ encW a (n_hi n) (n_lo n) w (fun b => ini a (64 * w + b)) ∧
  ∀ hi lo, oth (n_hi n) (n_lo n) hi lo w → encW a hi lo w (fun b => val a (64 * w + b)) → R (.inl none) (wd x (nS n hi lo) l m q))
set_option maxRecDepth 100000 in
set_option maxHeartbeats 4000000 in
theorem pu_N_settleWord : ∀ as ws Rq, sp_N_settleWord as ws Rq → cx_cats as ≤ 5 ∧ ∀ V, cx_cl1 t_N_settleWord [(sp_N_isInput, 2, 0, 0), (sp_N_settleGate, 3, 0, 0)] [] [] 0 0 Rq V → V 0 (cx_lv0 as 5) [] ws 0 0 := by
  intro as ws Rq h0
  obtain ⟨j, r, fs, rfl, hj, x, n, l, m, q, a, w, rfl, rfl, rfl, hS, hw, hen, h⟩ := cx_self_spec h0
  refine ⟨Nat.le_of_ble_eq_true rfl, fun V hV => ?_⟩
  have hS2 := hS
  obtain ⟨hwf, hgg, hff, hii, hG, hK⟩ := hS2
  obtain ⟨w1, w2, w3, w4, w5⟩ := hwf
  have inner : ∀ (d gi r : Nat) (ch : Bool) (hi lo : Nat → Nat → Int64), gi + d = a_g a → oth (n_hi n) (n_lo n) hi lo w → encW a hi lo w (fun b => pas a (itr a (64 * w + b) r) gi) → (ch = false → ∀ b, b < 64 → ∀ q, q < a_g a → pas a (itr a (64 * w + b) r) gi q = itr a (64 * w + b) r q) →
      (∀ (ch : Bool) (hi lo : Nat → Nat → Int64) (g4 : Int32), oth (n_hi n) (n_lo n) hi lo w → encW a hi lo w (fun b => itr a (64 * w + b) (r + 1)) → (ch = false → ∀ b, b < 64 → itr a (64 * w + b) (r + 1) = itr a (64 * w + b) r) →
        V 57 [some (.inr (.inr (.inl 1))), some (.inl (nI w)), some (.inl (b2 ch)), some (.inl (nI r)), some (.inl g4)] [] (wd x (nS n hi lo) l m q) 0 0) →
      V 21 [some (.inr (.inr (.inl 1))), some (.inl (nI w)), some (.inl (b2 ch)), some (.inl (nI r)), some (.inl (nI gi))] [] (wd x (nS n hi lo) l m q) 0 0 := by
    intro d
    induction d with
    | zero =>
      intro gi r ch hi lo hd ho he hc hk
      refine hV [57] 60 _ _ _ _ _ _ ?_
      conv => whnf
      refine ⟨fun _ => ?_, fun e => ?_⟩
      · have hgi : gi = a_g a := by omega
        subst hgi
        exact hk ch hi lo _ ho he (fun e b hb => by
          funext q
          rcases Nat.lt_or_ge q (a_g a) with hq | hq
          · exact hc e b hb q hq
          · exact pas_out (a := a) (a_g a) q hq)
      · exact absurd (by rw [show n.2.2.2.2.2.2.2.2.1 = nI (a_g a) from hgg]; exact nI_le (by omega) (by omega)) e
    | succ d ih =>
      intro gi r ch hi lo hd ho he hc hk
      have hgi : gi < a_g a := by omega
      have hcg : (nI gi).toNatClampNeg = gi := nx_c (by omega)
      obtain ⟨hso, -, -⟩ := hG gi hgi
      refine hV [21] 60 _ _ _ _ _ _ ?_
      conv => whnf
      refine ⟨fun e => ?_, fun _ => ?_⟩
      · exfalso
        rw [show n.2.2.2.2.2.2.2.2.1 = nI (a_g a) from hgg, nI_leI (by omega) (by omega)] at e
        omega
      conv => whnf
      refine ⟨x, nS n hi lo, l, m, q, nI gi, rfl, rfl, rfl, vp_in_nI (by omega) (by omega), fun e => ?_, fun e => ?_⟩
      · have hs0 : a_so a gi = 0 := by
          rw [hcg, show n.1 gi = nI (a_so a gi) from hso, show (0 : Int32) = nI 0 from rfl, nI_eq (by rcases (w4 gi hgi).1 with e | e | e <;> omega) (by omega)] at e
          exact e
        conv => whnf
        refine ⟨fun _ => ?_, fun e => absurd e (by decide)⟩
        conv => whnf
        rw [nI_1]
        have hp : ∀ v : Nat → vl, pas a v (gi + 1) = pas a v gi := fun v => by
          show pst a (pas a v gi) gi = _
          unfold pst
          rw [if_pos hs0]
        exact ih (gi + 1) r ch hi lo (by omega) ho (by simpa only [hp] using he) (by simpa only [hp] using hc) hk
      · have hs0 : a_so a gi ≠ 0 := by
          intro e0
          apply e
          rw [hcg, show n.1 gi = nI (a_so a gi) from hso, e0]
          rfl
        conv => whnf
        refine ⟨fun e => absurd rfl e, fun _ => ?_⟩
        conv => whnf
        refine ⟨x, nS n hi lo, l, m, q, a, gi, w, (fun b => pas a (itr a (64 * w + b) r) gi), rfl, rfl, rfl, hS, hgi, hw, he, fun o z c1 hb1 hb2 => ?_⟩
        have hnew := enc_put hs0 he hb1
        have hother := oth_put (g := gi) (o := o) (z := z) ho
        have hch2 : (c1 = false) → ∀ b, b < 64 → ∀ q, q < a_g a → pas a (itr a (64 * w + b) r) (gi + 1) q = pas a (itr a (64 * w + b) r) gi q := by
          intro ec b hb q hq
          show pst a (pas a (itr a (64 * w + b) r) gi) gi q = _
          by_cases eq : q = gi
          · subst eq
            rw [show pst a (pas a (itr a (64 * w + b) r) q) q q = made a q (pas a (itr a (64 * w + b) r) q) by simp [pst, hs0]]
            obtain ⟨eo, ez⟩ := hb2 ec
            obtain ⟨f1, f2⟩ := hb1 b hb
            obtain ⟨f3, f4⟩ := he b hb q hq
            rw [eo] at f1
            rw [ez] at f2
            exact e_ext (f1.symm.trans f3) (f2.symm.trans f4)
          · simp [pst, hs0, eq]
        cases c1 with
        | true =>
          conv => whnf
          refine ⟨fun e => absurd e (by decide), fun _ => ?_⟩
          conv => whnf
          rw [nI_1]
          exact ih (gi + 1) r true _ _ (by omega) hother hnew (fun e => by cases e) hk
        | false =>
          conv => whnf
          refine ⟨fun _ => ?_, fun e => absurd rfl e⟩
          conv => whnf
          rw [nI_1]
          exact ih (gi + 1) r ch _ _ (by omega) hother hnew (fun e b hb q hq => (hch2 rfl b hb q hq).trans (hc e b hb q hq)) hk
  have outer : ∀ (d r : Nat) (ch : Bool) (hi lo : Nat → Nat → Int64) (o4 : Option cx_V), r + d = a_g a + 1 → oth (n_hi n) (n_lo n) hi lo w → encW a hi lo w (fun b => itr a (64 * w + b) r) → (ch = false → ∀ b, b < 64 → itr a (64 * w + b) r = val a (64 * w + b)) →
      V 4 [some (.inr (.inr (.inl 1))), some (.inl (nI w)), some (.inl (b2 ch)), some (.inl (nI r)), o4] [] (wd x (nS n hi lo) l m q) 0 0 := by
    intro d
    induction d with
    | zero =>
      intro r ch hi lo o4 hd ho he hc
      have hr : r = a_g a + 1 := by omega
      subst hr
      refine hV [] 60 _ _ _ _ _ _ ?_
      conv => whnf
      refine ⟨fun _ => ?_, fun _ => ?_⟩
      · conv => whnf
        exact h hi lo ho he
      · conv => whnf
        refine ⟨fun _ => ?_, fun e => ?_⟩
        · conv => whnf
          exact h hi lo ho he
        · exact absurd (by rw [show n.2.2.2.2.2.2.2.2.1 = nI (a_g a) from hgg]; exact nI_lt (by omega) (by omega)) e
    | succ d ih =>
      intro r ch hi lo o4 hd ho he hc
      refine hV [21] 60 _ _ _ _ _ _ ?_
      conv => whnf
      refine ⟨fun e => ?_, fun e => ?_⟩
      · conv => whnf
        have ec : ch = false := b2_eq0.mp e
        exact h hi lo ho (fun b hb => by
          have := he b hb
          dsimp only at this ⊢
          rw [show itr a (64 * w + b) r = val a (64 * w + b) from hc ec b hb] at this
          exact this)
      · conv => whnf
        refine ⟨fun e2 => ?_, fun _ => ?_⟩
        · exfalso
          rw [show n.2.2.2.2.2.2.2.2.1 = nI (a_g a) from hgg, nI_ltI (by omega) (by omega)] at e2
          omega
        conv => whnf
        have := inner (a_g a) 0 r false hi lo (by omega) ho he (fun _ b hb q hq => rfl) (fun c1 hi1 lo1 g4 ho1 he1 hc1 => by
          refine hV [4] 60 _ _ _ _ _ _ ?_
          conv => whnf
          rw [nI_1]
          exact ih (r + 1) c1 hi1 lo1 _ (by omega) ho1 he1 (fun ec b hb => by
            have e3 := hc1 ec b hb
            rw [e3]
            exact val_of_fix e3))
        exact this
  refine hV [4] 60 _ _ _ _ _ _ ?_
  conv => whnf
  exact outer (a_g a + 1) 0 true (n_hi n) (n_lo n) _ (by omega) (oth_rfl _ _ _) hen (fun e => by cases e)
