/-! The reference: what the gates settle at. -/
def sp_R_spread : cx_S := cx_self 4 (fun j r ws R => ∃ x n l m t q a c, ws = wd x n l m (wq t q) ∧ j = 25 ∧ r = [.inl (nI c)] ∧ rRn a t ∧ c < 256 ∧ ∀ va, (∀ p, p < a_g a → va p = vI (val a c p)) → R (.inl none) (wd x n l m (wq (ru_va t va) q)))
set_option maxRecDepth 100000 in
set_option maxHeartbeats 4000000 in
theorem pu_R_spread : ∀ as ws Rq, sp_R_spread as ws Rq → cx_cats as ≤ 4 ∧ ∀ V, cx_cl1 t_R_spread [(sp_R_made, 2, 0, 0)] [] [] 0 0 Rq V → V 0 (cx_lv0 as 4) [] ws 0 0 := by
  intro as ws Rq h0
  obtain ⟨j, r, fs0, rfl, hj, x, n, l, m, t, q, a, c, rfl, rfl, rfl, hR, hc, h⟩ := cx_self_spec h0
  refine ⟨Nat.le_of_ble_eq_true rfl, fun V hV => ?_⟩
  have hRv : ∀ va, rRn a (ru_va t va) := fun va => hR
  have hR2 := hR
  obtain ⟨⟨w1, w2, w3, w4, w5⟩, a2, a3, a4, a5, a6⟩ := hR2
  have a2' : t.1.2.1 = nI (a_g a) := a2
  obtain ⟨r0, hr0, hv0, hfix⟩ := val_stay a c
  have inner : ∀ (d g r : Nat) (more : Bool) (va : Nat → Int32), g + d = a_g a → (∀ p, p < a_g a → va p = vI (pas a (itr a c r) g p)) → (more = false → pas a (itr a c r) g = itr a c r) → (more = true → ∃ p, itr a c r p ≠ pas a (itr a c r) g p) →
      (∀ (more : Bool) (va : Nat → Int32) (s3 : Option cx_V), (∀ p, p < a_g a → va p = vI (itr a c (r + 1) p)) → (more = false → itr a c (r + 1) = itr a c r) → (more = true → itr a c (r + 1) ≠ itr a c r) → V 50 [some (.inr (.inr (.inl 25))), some (.inl (nI c)), some (.inl (b2 more)), s3] [] (wd x n l m (wq (ru_va t va) q)) 0 0) →
      V 58 [some (.inr (.inr (.inl 25))), some (.inl (nI c)), some (.inl (b2 more)), some (.inl (nI g))] [] (wd x n l m (wq (ru_va t va) q)) 0 0 := by
    intro d
    induction d with
    | zero =>
      intro g r more va hd h1 h2 h3 hK
      have : g = a_g a := by omega
      subst this
      refine hV [50] 60 _ _ _ _ _ _ ?_
      conv => whnf
      refine pk_le (a_g a) (a_g a) (fun _ => ?_) (fun e => absurd e (Nat.lt_irrefl _)) a2'
      conv => whnf
      refine hK more va _ h1 h2 (fun e q => ?_)
      obtain ⟨p, hp⟩ := h3 e
      exact hp (congrFun q p).symm
    | succ d ih =>
      intro g r more va hd h1 h2 h3 hK
      have hg1 : g < a_g a := by omega
      have hcg : (nI g).toNatClampNeg = g := nx_c (by omega)
      have ing : vp_in (nI g) 120 := pk_in g 120 (by omega)
      have hso : t.2.1.1 g = nI (a_so a g) := (a5 g hg1).1
      have s3 := (w4 g hg1).1
      have hcon := (pas_both (itr_con a c r) g (by omega)).1
      have hle := (pas_both (itr_con a c r) g (by omega)).2
      have hst : pas a (itr a c r) (g + 1) = mps a (pas a (itr a c r) g) g := (mps_eq hg1 hcon).symm
      have pass : a_so a g = 0 ∨ pas a (itr a c r) g g ≠ none → V 119 [some (.inr (.inr (.inl 25))), some (.inl (nI c)), some (.inl (b2 more)), some (.inl (nI g))] [] (wd x n l m (wq (ru_va t va) q)) 0 0 := by
        intro e
        have e2 : pas a (itr a c r) (g + 1) = pas a (itr a c r) g := by
          rw [hst]
          unfold mps
          rw [if_pos e]
        refine hV [58] 60 _ _ _ _ _ _ ?_
        conv => whnf
        rw [nI_1]
        exact ih (g + 1) r more va (by omega) (by rw [e2]; exact h1) (by rw [e2]; exact h2) (by rw [e2]; exact h3) hK
      refine hV [58, 119] 60 _ _ _ _ _ _ ?_
      conv => whnf
      refine pk_le (a_g a) g (fun _ => by omega) (fun _ => ?_) a2'
      conv => whnf
      refine ⟨ing, ?_⟩
      conv => whnf
      rw [hcg]
      dsimp only
      rw [show (ru_va t va).2.1.1 g = nI (a_so a g) from hso]
      refine ⟨fun e => ?_, fun e => ?_⟩
      · have hs0 : a_so a g = 0 := by
          rw [show (0 : Int32) = nI 0 from rfl, nI_eq (by omega) (by omega)] at e
          exact e
        exact pass (Or.inl hs0)
      have hs0 : a_so a g ≠ 0 := fun q => e (by rw [q]; rfl)
      conv => whnf
      refine ⟨ing, ?_⟩
      conv => whnf
      rw [hcg]
      dsimp only
      rw [show (ru_va t va).2.2.1.1 g = vI (pas a (itr a c r) g g) from h1 g hg1]
      refine ⟨fun e2 => ?_, fun e2 => ?_⟩
      rotate_left
      · have e3 : pas a (itr a c r) g g ≠ none := fun q => e2 ((v2n _).mpr q)
        conv => whnf
        exact pass (Or.inr e3)
      have e3 := (v2n _).mp e2
      have e4 : pas a (itr a c r) (g + 1) = fun p => if p = g then made a g (pas a (itr a c r) g) else pas a (itr a c r) g p := by
        rw [hst]
        unfold mps
        rw [if_neg (fun q => q.elim hs0 (fun q => q e3))]
      have e4' : ∀ p, pas a (itr a c r) (g + 1) p = if p = g then made a g (pas a (itr a c r) g) else pas a (itr a c r) g p := fun p => congrFun e4 p
      have e5 : itr a c r g = none := by
        rcases hle g with q | q
        · exact q
        · rw [q]; exact e3
      conv => whnf
      refine ⟨x, n, l, m, ru_va t va, q, a, g, pas a (itr a c r) g, rfl, rfl, rfl, hRv va, hg1, hs0, h1, ?_⟩
      conv => whnf
      refine ⟨ing, ?_⟩
      conv => whnf
      rw [hcg]
      have h1' : ∀ p, p < a_g a → upd va g (vI (made a g (pas a (itr a c r) g))) p = vI (pas a (itr a c r) (g + 1) p) := fun p hp => by
        rw [e4' p]
        by_cases ep : p = g
        · subst ep
          rw [pk_us, if_pos rfl]
        · rw [pk_un ep, if_neg ep]
          exact h1 p hp
      have go : ∀ more' : Bool, more' = (more || decide (made a g (pas a (itr a c r) g) ≠ none)) → V 119 [some (.inr (.inr (.inl 25))), some (.inl (nI c)), some (.inl (b2 more')), some (.inl (nI g))] [] (wd x n l m (wq (ru_va t (upd va g (vI (made a g (pas a (itr a c r) g))))) q)) 0 0 := by
        intro more' em
        refine hV [58] 60 _ _ _ _ _ _ ?_
        conv => whnf
        rw [nI_1]
        refine ih (g + 1) r more' _ (by omega) h1' (fun q => ?_) (fun q => ?_) hK
        · rw [q] at em
          have em2 := em.symm
          rw [Bool.or_eq_false_iff] at em2
          have em3 : made a g (pas a (itr a c r) g) = none := by simpa using em2.2
          funext p
          rw [e4' p]
          by_cases ep : p = g
          · subst ep
            rw [if_pos rfl, em3, e5]
          · rw [if_neg ep, h2 em2.1]
        · rw [q] at em
          have em2 := em.symm
          rw [Bool.or_eq_true] at em2
          rcases em2 with em3 | em3
          · obtain ⟨p, hp⟩ := h3 em3
            refine ⟨p, ?_⟩
            rw [e4' p]
            by_cases ep : p = g
            · subst ep
              rw [e3] at hp
              exact absurd e5 hp
            · rw [if_neg ep]
              exact hp
          · refine ⟨g, ?_⟩
            rw [e4' g, if_pos rfl, e5]
            have : made a g (pas a (itr a c r) g) ≠ none := by simpa using em3
            exact fun q => this q.symm
      cases more with
      | true =>
        refine ⟨fun _ => ?_, fun e => absurd e (by decide)⟩
        conv => whnf
        exact go true rfl
      | false =>
        refine ⟨fun e => absurd rfl e, fun _ => ?_⟩
        conv => whnf
        refine ⟨ing, ?_⟩
        conv => whnf
        rw [hcg]
        dsimp only
        rw [pk_us]
        refine ⟨fun e6 => ?_, fun e6 => ?_⟩
        · conv => whnf
          refine go false ?_
          have := (v2n _).mp e6
          simp [this]
        · conv => whnf
          refine go true ?_
          have : made a g (pas a (itr a c r) g) ≠ none := fun q => e6 ((v2n _).mpr q)
          simp [this]
  have outer : ∀ (d r : Nat) (va : Nat → Int32) (s3 : Option cx_V), r + d = r0 → (∀ p, p < a_g a → va p = vI (itr a c r p)) → V 50 [some (.inr (.inr (.inl 25))), some (.inl (nI c)), some (.inl (b2 true)), s3] [] (wd x n l m (wq (ru_va t va) q)) 0 0 := by
    intro d
    have fin : ∀ (r : Nat) (va : Nat → Int32) (s3 : Option cx_V), itr a c (r + 1) = itr a c r → (∀ p, p < a_g a → va p = vI (itr a c (r + 1) p)) → V 50 [some (.inr (.inr (.inl 25))), some (.inl (nI c)), some (.inl (b2 false)), s3] [] (wd x n l m (wq (ru_va t va) q)) 0 0 := by
      intro r va s3 e h1
      refine hV [] 60 _ _ _ _ _ _ ?_
      conv => whnf
      refine ⟨fun _ => ?_, fun e => absurd rfl e⟩
      conv => whnf
      refine h va (fun p hp => ?_)
      rw [h1 p hp, e, val_of_fix e]
    induction d with
    | zero =>
      intro r va s3 hd h1
      have : r = r0 := by omega
      subst this
      refine hV [58] 60 _ _ _ _ _ _ ?_
      conv => whnf
      refine ⟨fun e => absurd e (by decide), fun _ => ?_⟩
      conv => whnf
      rw [show (some (Sum.inl (0 : Int32)) : Option cx_V) = some (.inl (b2 false)) from rfl]
      refine inner (a_g a) 0 r false va (by omega) h1 (fun _ => rfl) (fun e => by cases e) (fun more va' s3 k1 k2 k3 => ?_)
      cases more with
      | false => exact fin r va' s3 (k2 rfl) k1
      | true => exact absurd hfix (k3 rfl)
    | succ d ih =>
      intro r va s3 hd h1
      refine hV [58] 60 _ _ _ _ _ _ ?_
      conv => whnf
      refine ⟨fun e => absurd e (by decide), fun _ => ?_⟩
      conv => whnf
      rw [show (some (Sum.inl (0 : Int32)) : Option cx_V) = some (.inl (b2 false)) from rfl]
      refine inner (a_g a) 0 r false va (by omega) h1 (fun _ => rfl) (fun e => by cases e) (fun more va' s3 k1 k2 k3 => ?_)
      cases more with
      | false => exact fin r va' s3 (k2 rfl) k1
      | true => exact ih (r + 1) va' s3 (by omega) k1
  have first : ∀ (d g : Nat) (va : Nat → Int32), g + d = a_g a → (∀ p, p < g → va p = vI (ini a c p)) → V 2 [some (.inr (.inr (.inl 25))), some (.inl (nI c)), some (.inl (nI g)), none] [] (wd x n l m (wq (ru_va t va) q)) 0 0 := by
    intro d
    induction d with
    | zero =>
      intro g va hd h1
      refine hV [50] 60 _ _ _ _ _ _ ?_
      conv => whnf
      refine pk_le (a_g a) g (fun _ => ?_) (fun _ => by omega) a2'
      conv => whnf
      exact outer r0 0 va none (by omega) (fun p hp => h1 p (by omega))
    | succ d ih =>
      intro g va hd h1
      have hg1 : g < a_g a := by omega
      have hcg : (nI g).toNatClampNeg = g := nx_c (by omega)
      have ing : vp_in (nI g) 120 := pk_in g 120 (by omega)
      obtain ⟨hso, hnu, hn8⟩ := a5 g hg1
      have s3 := w4 g hg1
      have go : ∀ v, v = vI (ini a c g) → V 42 [some (.inr (.inr (.inl 25))), some (.inl (nI c)), some (.inl (nI g)), none] [] (wd x n l m (wq (ru_va t (upd va g v)) q)) 0 0 := by
        intro v ev
        refine hV [2] 60 _ _ _ _ _ _ ?_
        conv => whnf
        rw [nI_1]
        refine ih (g + 1) _ (by omega) (fun p hp => ?_)
        by_cases ep : p = g
        · subst ep; rw [pk_us]; exact ev
        · rw [pk_un ep]; exact h1 p (by omega)
      refine hV [42] 60 _ _ _ _ _ _ ?_
      conv => whnf
      refine pk_le (a_g a) g (fun _ => by omega) (fun _ => ?_) a2'
      conv => whnf
      refine ⟨ing, ?_⟩
      conv => whnf
      rw [hcg]
      dsimp only
      rw [show (ru_va t va).2.1.1 g = nI (a_so a g) from hso]
      refine ⟨fun e => ?_, fun e => ?_⟩
      · have hs0 : a_so a g ≠ 0 := fun q => e (by rw [q]; rfl)
        conv => whnf
        refine ⟨ing, ?_⟩
        conv => whnf
        rw [hcg]
        exact go 2 (by simp [ini, hs0, vI])
      · have hs0 : a_so a g = 0 := by
          rw [show (0 : Int32) = nI 0 from rfl, nI_eq (by omega) (by omega)] at e
          exact e
        have hn7 := s3.2 hs0
        conv => whnf
        refine ⟨ing, ?_⟩
        conv => whnf
        refine ⟨ing, ?_⟩
        conv => whnf
        rw [hcg]
        dsimp only
        rw [show (ru_va t va).2.1.2.1 g = nI (a_nu a g) from hnu]
        refine go _ ?_
        rw [cb_val hn7 (by omega)]
        have e2 : ini a c g = some (cb (a_nu a g) c) := by simp [ini, hs0]
        rw [e2, ← cb_bn]
        cases cb (a_nu a g) c <;> rfl
  refine hV [2] 60 _ _ _ _ _ _ ?_
  conv => whnf
  rw [← nI_0]
  exact first (a_g a) 0 (rt_va t) (by omega) (fun p hp => by omega)
def sp_R_value : cx_S := cx_self 4 (fun j r ws R => ∃ x n l m t q A g c, ws = wd x n l m (wq t q) ∧ j = 25 ∧ r = [.inl g, .inl c] ∧ rR A t ∧ ansR (valS A g c) x n l m q R)
set_option maxRecDepth 100000 in
theorem pu_R_value : ∀ as ws Rq, sp_R_value as ws Rq → cx_cats as ≤ 3 ∧ ∀ V, cx_cl1 t_R_value [(sp_R_isGate, 2, 0, 0), (sp_R_fails, 3, 0, 0), (sp_R_spread, 2, 0, 0)] [] [] 0 0 Rq V → V 0 (cx_lv0 as 3) [] ws 0 0 := by
  intro as ws Rq h0
  obtain ⟨j, r, fs0, rfl, hj, x, n, l, m, t, q, A, g, c, rfl, rfl, rfl, hR, h⟩ := cx_self_spec h0
  refine ⟨Nat.le_of_ble_eq_true rfl, fun V hV => ?_⟩
  have a2 := hR.1.2.1
  have w1 := hR.1.1.1
  have no : (hg g (nI (a_g (s_a A))) && hg c 256) = false → V 20 [some (.inr (.inr (.inl 25))), some (.inl g), some (.inl c)] [.inr (.inr (.inl 25))] (wd x n l m (wq t q)) 0 0 := by
    intro e
    refine hV [] 60 _ _ _ _ _ _ ?_
    conv => whnf
    refine ⟨x, n, l, m, t, q, true, false, 1, rfl, rfl, rfl, rfl, ?_⟩
    conv => whnf
    refine ⟨fun e => absurd e (by decide), fun _ => ?_⟩
    conv => whnf
    have e2 : valS A g c = (0 + 1, 0, A) := by
      unfold valS
      rw [if_neg (by rw [e]; simp)]
    exact ⟨fun e => absurd e (by decide), ansR_thr h e2 (t := ru_th t 1) hR rfl⟩
  refine hV [20] 60 _ _ _ _ _ _ ?_
  conv => whnf
  refine ⟨x, n, l, m, t, q, g, rfl, rfl, rfl, ?_⟩
  rw [a2]
  conv => whnf
  refine ⟨fun e => no (by rw [b2_eq0.mp e]; rfl), fun e => ?_⟩
  have hg1 := b2_ne0.mp e
  conv => whnf
  refine ⟨fun e => no (by rw [show hg c 256 = false by simp [hg, e], Bool.and_false]), fun e1 => ?_⟩
  conv => whnf
  refine ⟨fun e2 => ?_, fun e2 => ?_⟩
  rotate_left
  · refine no ?_
    have : hg c 256 = false := by
      cases hh : hg c 256 with
      | false => rfl
      | true =>
        obtain ⟨j, hj1, rfl⟩ := hg_256 hh
        exact absurd (nI_le (a := j) (b := 255) (by omega) (by omega)) e2
    rw [this, Bool.and_false]
  have hc : hg c 256 = true := by
    obtain ⟨j, hj1, rfl⟩ := nI_of2 (M := 255) (n := 255) (by decide) e1 e2
    exact hg_in (n := 256) (by omega) (by omega)
  obtain ⟨g, hg2, rfl⟩ := hg_of (by omega) hg1
  obtain ⟨c, hc2, rfl⟩ := hg_256 hc
  conv => whnf
  refine ⟨x, n, l, m, t, q, false, false, 0, rfl, rfl, rfl, rfl, ?_⟩
  conv => whnf
  refine ⟨fun _ => ?_, fun e => absurd rfl e⟩
  conv => whnf
  refine ⟨x, n, l, m, ru_th t 0, q, s_a A, c, rfl, rfl, rfl, hR.1, hc2, fun va hva => ?_⟩
  conv => whnf
  refine ⟨pk_in g 120 (by omega), ?_⟩
  conv => whnf
  rw [nx_c (show g < 2 ^ 31 by omega)]
  refine ⟨fun e => absurd e (by decide), ?_⟩
  show Rq (.inl (some (.inl (va g)))) _
  rw [hva g hg2]
  refine ansR_ret h (A := A) ?_ (t := ((0, rt_g t, rt_f t, rt_i t, rt_on t), (rt_so t, rt_nu t, rt_to t, rt_fr t, rt_nm t, rt_ne t), (va, rt_la t, rt_tb t, rt_w t, rt_in t), (rt_lo t, rt_hi t, rt_far t, rt_ro t, rt_mk t))) hR rfl
  unfold valS
  rw [hg1, hc, if_pos (show (true && true) = true from rfl), nx_c (show g < 2 ^ 31 by omega), nx_c (show c < 2 ^ 31 by omega)]
