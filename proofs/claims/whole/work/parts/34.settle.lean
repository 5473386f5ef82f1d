/-! forgetWord, settle, and what asks after it. -/
def inR (a : aN) (hi lo : Nat → Nat → Int64) : Prop := ∀ q, q < a_g a → a_so a q = 0 → ∀ w, w < 4 → ∀ b, b < 64 → lb (hi q w) b = cb (a_nu a q) (64 * w + b) ∧ lb (lo q w) b = !cb (a_nu a q) (64 * w + b)
def setR (a : aN) (hi lo : Nat → Nat → Int64) : Prop := ∀ w, w < 4 → encW a hi lo w (fun b => val a (64 * w + b))
/-- the class's net -/
def rN (a : aN) (n : wN) : Prop := rS a n ∧ inR a (n_hi n) (n_lo n) ∧ (n_st n = 0 ∨ (n_st n = 1 ∧ setR a (n_hi n) (n_lo n)))
theorem itr_in {a : aN} {c q : Nat} (hs : a_so a q = 0) : ∀ r, itr a c r q = some (cb (a_nu a q) c)
  | 0 => by simp [itr, ini, hs]
  | r + 1 => by
    have key : ∀ g, pas a (itr a c r) g q = itr a c r q := by
      intro g
      induction g with
      | zero => rfl
      | succ g ih =>
        show pst a (pas a (itr a c r) g) g q = _
        unfold pst
        split
        · exact ih
        · rename_i h
          by_cases e : q = g
          · subst e; exact absurd hs h
          · simp only [e, if_false]; exact ih
    show pas a (itr a c r) (a_g a) q = _
    rw [key, itr_in hs r]
theorem eH_s (b : Bool) : eH (some b) = b := by cases b <;> rfl
theorem eL_s (b : Bool) : eL (some b) = !b := by cases b <;> rfl
def sp_N_forgetWord : cx_S := cx_self 2 (fun j r ws R => ∃ x n l m q a w, ws = wd x n l m q ∧ j = 1 ∧ r = [.inl (nI w)] ∧ rS a n ∧ inR a (n_hi n) (n_lo n) ∧ w < 4 ∧
  ∀ hi lo, oth (n_hi n) (n_lo n) hi lo w → encW a hi lo w (fun b => ini a (64 * w + b)) → R (.inl none) (wd x (nS n hi lo) l m q))
set_option maxRecDepth 100000 in
set_option maxHeartbeats 4000000 in
theorem pu_N_forgetWord : ∀ as ws Rq, sp_N_forgetWord as ws Rq → cx_cats as ≤ 3 ∧ ∀ V, cx_cl1 t_N_forgetWord [(sp_N_isInput, 2, 0, 0)] [] [] 0 0 Rq V → V 0 (cx_lv0 as 3) [] ws 0 0 := by
  intro as ws Rq h0
  obtain ⟨j, r, fs, rfl, hj, x, n, l, m, q, a, w, rfl, rfl, rfl, hS, hin, hw, h⟩ := cx_self_spec h0
  refine ⟨Nat.le_of_ble_eq_true rfl, fun V hV => ?_⟩
  have hS2 := hS
  obtain ⟨hwf, hgg, hff, hii, hG, hK⟩ := hS2
  obtain ⟨w1, w2, w3, w4, w5⟩ := hwf
  have hcw : (nI w).toNatClampNeg = w := nx_c (by omega)
  have inw : vp_in (nI w) 4 := vp_in_nI hw (by omega)
  have loop : ∀ (d gi : Nat) (hi lo : Nat → Nat → Int64), gi + d = a_g a → oth (n_hi n) (n_lo n) hi lo w → (∀ b, b < 64 → ∀ q, q < a_g a → (q < gi ∨ a_so a q = 0) → lb (hi q w) b = eH (ini a (64 * w + b) q) ∧ lb (lo q w) b = eL (ini a (64 * w + b) q)) →
      V 2 [some (.inr (.inr (.inl 1))), some (.inl (nI w)), some (.inl (nI gi))] [] (wd x (nS n hi lo) l m q) 0 0 := by
    intro d
    induction d with
    | zero =>
      intro gi hi lo hd ho he
      refine hV [] 60 _ _ _ _ _ _ ?_
      conv => whnf
      refine ⟨fun _ => ?_, fun e => ?_⟩
      · conv => whnf
        exact h hi lo ho (fun b hb q hq => he b hb q hq (Or.inl (by omega)))
      · exact absurd (by rw [show n.2.2.2.2.2.2.2.2.1 = nI (a_g a) from hgg]; exact nI_le (by omega) (by omega)) e
    | succ d ih =>
      intro gi hi lo hd ho he
      have hgi : gi < a_g a := by omega
      have hcg : (nI gi).toNatClampNeg = gi := nx_c (by omega)
      have ing : vp_in (nI gi) 120 := vp_in_nI (by omega) (by omega)
      obtain ⟨hso, -, -⟩ := hG gi hgi
      refine hV [2] 60 _ _ _ _ _ _ ?_
      conv => whnf
      refine ⟨fun e => ?_, fun _ => ?_⟩
      · exfalso
        rw [show n.2.2.2.2.2.2.2.2.1 = nI (a_g a) from hgg, nI_leI (by omega) (by omega)] at e
        omega
      conv => whnf
      refine ⟨x, nS n hi lo, l, m, q, nI gi, rfl, rfl, rfl, ing, fun e => ?_, fun e => ?_⟩
      · have hs0 : a_so a gi = 0 := by
          rw [hcg, show n.1 gi = nI (a_so a gi) from hso, show (0 : Int32) = nI 0 from rfl, nI_eq (by rcases (w4 gi hgi).1 with e | e | e <;> omega) (by omega)] at e
          exact e
        conv => whnf
        refine ⟨fun _ => ?_, fun e => absurd e (by decide)⟩
        conv => whnf
        rw [nI_1]
        refine ih (gi + 1) hi lo (by omega) ho (fun b hb q hq hor => he b hb q hq ?_)
        rcases hor with h1 | h1
        · by_cases e1 : q = gi
          · subst e1; exact Or.inr hs0
          · exact Or.inl (by omega)
        · exact Or.inr h1
      · have hs0 : a_so a gi ≠ 0 := by
          intro e0
          apply e
          rw [hcg, show n.1 gi = nI (a_so a gi) from hso, e0]
          rfl
        conv => whnf
        refine ⟨fun e => absurd rfl e, fun _ => ?_⟩
        conv => whnf
        refine ⟨ing, ?_⟩
        conv => whnf
        refine ⟨⟨by rw [hcg]; show gi < 120; omega, inw⟩, ?_⟩
        conv => whnf
        refine ⟨ing, ?_⟩
        conv => whnf
        refine ⟨⟨by rw [hcg]; show gi < 120; omega, inw⟩, ?_⟩
        conv => whnf
        rw [hcg, hcw, nI_1]
        refine ih (gi + 1) (va_up hi gi (vp_updL (hi gi) w 0)) (va_up lo gi (vp_updL (lo gi) w 0)) (by omega) (oth_put ho) (fun b hb q hq hor => ?_)
        by_cases e1 : q = gi
        · subst e1
          rw [va_up_self, va_up_self]
          simp only [vp_updL, if_true]
          simp [ini, hs0, lb_0, eH, eL]
        · rw [va_up_ne _ _ e1, va_up_ne _ _ e1]
          refine he b hb q hq ?_
          rcases hor with h1 | h1
          · exact Or.inl (by omega)
          · exact Or.inr h1
  refine hV [2] 60 _ _ _ _ _ _ ?_
  conv => whnf
  rw [← nI_0]
  refine loop (a_g a) 0 (n_hi n) (n_lo n) (by omega) (oth_rfl _ _ _) (fun b hb q hq hor => ?_)
  rcases hor with h1 | h1
  · omega
  · obtain ⟨e1, e2⟩ := hin q hq h1 w hw b hb
    rw [show ini a (64 * w + b) q = some (cb (a_nu a q) (64 * w + b)) by simp [ini, h1], eH_s, eL_s]
    exact ⟨e1, e2⟩
def sp_N_settle : cx_S := cx_self 2 (fun j r ws R => ∃ x n l m q a, ws = wd x n l m q ∧ j = 1 ∧ r = [] ∧ rN a n ∧ ∀ n', rN a n' → setR a (n_hi n') (n_lo n') → R (.inl none) (wd x n' l m q))
set_option maxRecDepth 100000 in
set_option maxHeartbeats 4000000 in
theorem pu_N_settle : ∀ as ws Rq, sp_N_settle as ws Rq → cx_cats as ≤ 2 ∧ ∀ V, cx_cl1 t_N_settle [(sp_N_forgetWord, 2, 0, 0), (sp_N_settleWord, 2, 0, 0)] [] [] 0 0 Rq V → V 0 (cx_lv0 as 2) [] ws 0 0 := by
  intro as ws Rq h0
  obtain ⟨j, r, fs, rfl, hj, x, n, l, m, q, a, rfl, rfl, rfl, hN, h⟩ := cx_self_spec h0
  refine ⟨Nat.le_of_ble_eq_true rfl, fun V hV => ?_⟩
  have hN2 := hN
  obtain ⟨hS, hin, hst⟩ := hN2
  have loop : ∀ (d w : Nat) (hi lo : Nat → Nat → Int64), w + d = 4 → inR a hi lo → (∀ u, u < w → encW a hi lo u (fun b => val a (64 * u + b))) →
      V 10 [some (.inr (.inr (.inl 1))), some (.inl (nI w))] [] (wd x (nS n hi lo) l m q) 0 0 := by
    intro d
    induction d with
    | zero =>
      intro w hi lo hd hi1 he
      have hw : w = 4 := by omega
      subst hw
      refine hV [] 60 _ _ _ _ _ _ ?_
      conv => whnf
      refine ⟨fun _ => ?_, fun e => absurd (by decide) e⟩
      conv => whnf
      refine ⟨Or.inr ⟨rfl, Or.inr rfl⟩, ?_⟩
      conv => whnf
      exact h (n_so n, n_ff n, n_fo n, n_fr n, n_ne n, n_nx n, hi, lo, n_g n, n_f n, n_i n, 1) ⟨hS, hi1, Or.inr ⟨rfl, he⟩⟩ he
    | succ d ih =>
      intro w hi lo hd hi1 he
      have hw : w < 4 := by omega
      refine hV [10] 60 _ _ _ _ _ _ ?_
      conv => whnf
      refine ⟨fun e => ?_, fun _ => ?_⟩
      · exfalso
        rw [show (4 : Int32) = nI 4 from rfl, nI_leI (by omega) (by omega)] at e
        omega
      conv => whnf
      refine ⟨x, nS n hi lo, l, m, q, a, w, rfl, rfl, rfl, hS, hi1, hw, fun hi2 lo2 ho2 he2 => ?_⟩
      conv => whnf
      refine ⟨x, nS n hi2 lo2, l, m, q, a, w, rfl, rfl, rfl, hS, hw, he2, fun hi3 lo3 ho3 he3 => ?_⟩
      conv => whnf
      rw [nI_1]
      have hoo : ∀ p u, u ≠ w → hi3 p u = hi p u ∧ lo3 p u = lo p u := fun p u hu => by
        obtain ⟨f1, f2⟩ := ho2 p u hu
        obtain ⟨f3, f4⟩ := ho3 p u hu
        exact ⟨f3.trans f1, f4.trans f2⟩
      refine ih (w + 1) hi3 lo3 (by omega) (fun p hp hs u hu b hb => ?_) (fun u hu => ?_)
      · by_cases eu : u = w
        · subst eu
          obtain ⟨f1, f2⟩ := he3 b hb p hp
          dsimp only at f1 f2
          rw [show val a (64 * u + b) p = some (cb (a_nu a p) (64 * u + b)) from itr_in hs _, eH_s] at f1
          rw [show val a (64 * u + b) p = some (cb (a_nu a p) (64 * u + b)) from itr_in hs _, eL_s] at f2
          exact ⟨f1, f2⟩
        · obtain ⟨f1, f2⟩ := hoo p u eu
          rw [f1, f2]
          exact hi1 p hp hs u hu b hb
      · by_cases eu : u = w
        · subst eu; exact he3
        · intro b hb p hp
          obtain ⟨f1, f2⟩ := hoo p u eu
          rw [f1, f2]
          exact he u (by omega) b hb p hp
  refine hV [10] 60 _ _ _ _ _ _ ?_
  conv => whnf
  refine ⟨fun e => ?_, fun e => ?_⟩
  · conv => whnf
    rw [← nI_0]
    exact loop 4 0 (n_hi n) (n_lo n) (by omega) hin (fun u hu => by omega)
  · conv => whnf
    rcases hst with h1 | ⟨h1, h2⟩
    · exact absurd h1 e
    · exact h n hN h2
def sp_N_highOf : cx_S := cx_self 2 (fun j r ws R => ∃ x n l m q a g, ws = wd x n l m q ∧ j = 1 ∧ r = [.inl (nI g)] ∧ rN a n ∧ g < a_g a ∧ ∀ n', rN a n' → setR a (n_hi n') (n_lo n') → R (.inl (some (.inr (.inr (.inr (.inl (8, g))))))) (wd x n' l m q))
def sp_N_lowOf : cx_S := cx_self 2 (fun j r ws R => ∃ x n l m q a g, ws = wd x n l m q ∧ j = 1 ∧ r = [.inl (nI g)] ∧ rN a n ∧ g < a_g a ∧ ∀ n', rN a n' → setR a (n_hi n') (n_lo n') → R (.inl (some (.inr (.inr (.inr (.inl (9, g))))))) (wd x n' l m q))
theorem pu_N_highOf : ∀ as ws Rq, sp_N_highOf as ws Rq → cx_cats as ≤ 2 ∧ ∀ V, cx_cl1 t_N_highOf [(sp_N_settle, 1, 0, 0)] [] [] 0 0 Rq V → V 0 (cx_lv0 as 2) [] ws 0 0 := by
  intro as ws Rq h0
  obtain ⟨j, r, fs, rfl, hj, x, n, l, m, q, a, g, rfl, rfl, rfl, hN, hg, h⟩ := cx_self_spec h0
  refine ⟨Nat.le_of_ble_eq_true rfl, fun V hV => ?_⟩
  have hg1 := hN.1.1.1
  have hcg : (nI g).toNatClampNeg = g := nx_c (by omega)
  refine hV [] 60 _ _ _ _ _ _ ?_
  conv => whnf
  refine ⟨x, n, l, m, q, a, rfl, rfl, rfl, hN, fun n' h1 h2 => ?_⟩
  conv => whnf
  refine ⟨vp_in_nI (N := 120) (by omega) (by omega), ?_⟩
  conv => whnf
  rw [hcg]
  exact h n' h1 h2
theorem pu_N_lowOf : ∀ as ws Rq, sp_N_lowOf as ws Rq → cx_cats as ≤ 2 ∧ ∀ V, cx_cl1 t_N_lowOf [(sp_N_settle, 1, 0, 0)] [] [] 0 0 Rq V → V 0 (cx_lv0 as 2) [] ws 0 0 := by
  intro as ws Rq h0
  obtain ⟨j, r, fs, rfl, hj, x, n, l, m, q, a, g, rfl, rfl, rfl, hN, hg, h⟩ := cx_self_spec h0
  refine ⟨Nat.le_of_ble_eq_true rfl, fun V hV => ?_⟩
  have hg1 := hN.1.1.1
  have hcg : (nI g).toNatClampNeg = g := nx_c (by omega)
  refine hV [] 60 _ _ _ _ _ _ ?_
  conv => whnf
  refine ⟨x, n, l, m, q, a, rfl, rfl, rfl, hN, fun n' h1 h2 => ?_⟩
  conv => whnf
  refine ⟨vp_in_nI (N := 120) (by omega) (by omega), ?_⟩
  conv => whnf
  rw [hcg]
  exact h n' h1 h2
/-- a value as an int -/
def vI (x : vl) : Int32 := match x with
  | some true => 1
  | some false => 0
  | none => 2
def sp_N_valueOn : cx_S := cx_self 2 (fun j r ws R => ∃ x n l m q a g c, ws = wd x n l m q ∧ j = 1 ∧ r = [.inl (nI g), .inl (nI c)] ∧ rN a n ∧ g < a_g a ∧ c < 256 ∧ ∀ n', rN a n' → R (.inl (some (.inl (vI (val a c g))))) (wd x n' l m q))
theorem pu_N_valueOn : ∀ as ws Rq, sp_N_valueOn as ws Rq → cx_cats as ≤ 3 ∧ ∀ V, cx_cl1 t_N_valueOn [(sp_N_settle, 1, 0, 0), (sp_C_isMember, 2, 0, 0)] [] [] 0 0 Rq V → V 0 (cx_lv0 as 3) [] ws 0 0 := by
  intro as ws Rq h0
  obtain ⟨j, r, fs, rfl, hj, x, n, l, m, q, a, g, c, rfl, rfl, rfl, hN, hg, hc, h⟩ := cx_self_spec h0
  refine ⟨Nat.le_of_ble_eq_true rfl, fun V hV => ?_⟩
  have hg1 := hN.1.1.1
  have hcg : (nI g).toNatClampNeg = g := nx_c (by omega)
  refine hV [] 60 _ _ _ _ _ _ ?_
  conv => whnf
  refine ⟨x, n, l, m, q, a, rfl, rfl, rfl, hN, fun n' h1 h2 => ?_⟩
  have h3 := h n' h1
  obtain ⟨e1, e2⟩ := h2 (c / 64) (by omega) (c % 64) (by omega) g hg
  dsimp only at e1 e2
  rw [show 64 * (c / 64) + c % 64 = c by omega] at e1 e2
  conv => whnf
  refine ⟨vp_in_nI (N := 120) (by omega) (by omega), ?_⟩
  conv => whnf
  rw [hcg]
  refine ⟨8, g, c, 120, 4, n_hi n', rfl, hc, rfl, by omega, rfl, ?_⟩
  rw [e1]
  conv => whnf
  refine ⟨fun e => ?_, fun e => ?_⟩
  · conv => whnf
    refine ⟨vp_in_nI (N := 120) (by omega) (by omega), ?_⟩
    conv => whnf
    rw [hcg]
    refine ⟨9, g, c, 120, 4, n_lo n', rfl, hc, rfl, by omega, rfl, ?_⟩
    rw [e2]
    conv => whnf
    have hH := b2_eq0.mp e
    refine ⟨fun e3 => ?_, fun e3 => ?_⟩
    · have hL := b2_eq0.mp e3
      conv => whnf
      rw [show vI (val a c g) = 2 by
        rcases hv : val a c g with _ | _ | _
        · rfl
        · rw [hv] at hL; cases hL
        · rw [hv] at hH; cases hH] at h3
      exact ⟨fun e => absurd e (by decide), h3⟩
    · have hL := b2_ne0.mp e3
      conv => whnf
      rw [show vI (val a c g) = 0 by
        rcases hv : val a c g with _ | _ | _
        · rw [hv] at hL; cases hL
        · rfl
        · rw [hv] at hL; cases hL] at h3
      exact ⟨fun e => absurd e (by decide), h3⟩
  · conv => whnf
    have hH := b2_ne0.mp e
    rw [show vI (val a c g) = 1 by
      rcases hv : val a c g with _ | _ | _
      · rw [hv] at hH; cases hH
      · rw [hv] at hH; cases hH
      · rfl] at h3
    exact ⟨fun e => absurd e (by decide), h3⟩
