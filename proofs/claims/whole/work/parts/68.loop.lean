/-! The law's loop. -/
set_option maxRecDepth 100000 in
set_option maxHeartbeats 8000000 in
theorem lw_loop {b L : Nat} {xs : Nat → Int32} {V : cx_K} (hL : L ≤ 2048) (hh : cz_cl t_lh (z_lh b L xs) w_law 601024 7293034 lw_rq V) (h_gate : cz_cl t_lgate (z_lgate b L xs) [] 601024 7293034 lw_rq V) (h_feed : cz_cl t_lfeed (z_lfeed b L xs) [] 601024 7293034 lw_rq V) (h_output : cz_cl t_loutput (z_loutput b L xs) [] 601024 7293034 lw_rq V) (h_clear : cz_cl t_lclear (z_lclear b L xs) [] 601024 7293034 lw_rq V) (h_lay : cz_cl t_llay (z_llay b L xs) [] 601024 7293034 lw_rq V) (h_run : cz_cl t_lrun (z_lrun b L xs) [] 601024 7293034 lw_rq V) (h_way : cz_cl t_lway (z_lway b L xs) [] 601024 7293034 lw_rq V) (h_at : cz_cl t_lat (z_lat b L xs) [] 601024 7293034 lw_rq V) (h_size : cz_cl t_lsize (z_lsize b L xs) [] 601024 7293034 lw_rq V) (h_known : cz_cl t_lknown (z_lknown b L xs) [] 601024 7293034 lw_rq V) (h_doubt : cz_cl t_ldoubt (z_ldoubt b L xs) [] 601024 7293034 lw_rq V) (h_value : cz_cl t_lvalue (z_lvalue b L xs) [] 601024 7293034 lw_rq V) (h_count : cz_cl t_lcount (z_lcount b L xs) [] 601024 7293034 lw_rq V) :
    ∀ (d it : Nat), it + d = 513 → ∀ (A : aS) (x : wX) (n : wN) (l : wL) (m : wM) (t : wR) (g : Nat → Int64) (s5 s6 : Option cx_V) (k i : Nat), rC A x n l m → rR A t → k ≤ 291 + 2 * it → i ≤ 29568 + 12 * it → V 23 (lw_lv b it s5 s6) [] (wd x n l m (wq t [oL g])) k i := by
  intro d
  induction d with
  | zero =>
    intro it hd A x n l m t g s5 s6 k i hC hR hk hn
    refine hh [] 20 _ _ _ _ _ _ ?_
    conv => whnf
    refine ⟨rfl, ?_⟩
    conv => whnf
    refine ⟨fun e => ?_, fun e => ?_⟩
    · conv => whnf
      exact ⟨fun _ => Or.inr rfl, rfl⟩
    · exact absurd (lw_cmp hL (by omega) e) (by omega)
  | succ d ih =>
    intro it hd A x n l m t g s5 s6 k i hC hR hk hn
    have nxt : lw_nx V b it := by
      intro A x n l m t g s5 s6 k i hC hR hk hn
      refine hh [23] 5 _ _ _ _ _ _ ?_
      conv => whnf
      have e : nI (4 * it) + 4 = nI (4 * (it + 1)) := nI_add (4 * it) 4
      rw [e]
      exact ih (it + 1) (by omega) A x n l m t g s5 s6 k i hC hR hk hn
    refine hh [104, 160, 256, 312, 325, 338, 406, 474, 499, 583, 639, 695, 763, 788] 20 _ _ _ _ _ _ ?_
    conv => whnf
    refine ⟨rfl, ?_⟩
    conv => whnf
    refine ⟨fun e => ?_, fun e => ?_⟩
    · conv => whnf
      exact ⟨fun _ => Or.inr rfl, rfl⟩
    · have hi := lw_cmp hL (by omega) e
      conv => whnf
      refine ⟨⟨rfl, pk_in (4 * it) L (by omega)⟩, ?_⟩
      conv => whnf
      refine ⟨fun _ => ?_, fun _ => ?_, fun _ => ?_, fun _ => ?_, fun _ => ?_, fun _ => ?_, fun _ => ?_, fun _ => ?_, fun _ => ?_, fun _ => ?_, fun _ => ?_, fun _ => ?_, fun _ => ?_, fun _ => ?_, trivial⟩
      · conv => whnf
        exact nxt A x n l m t g s5 s6 k i hC hR (by omega) (by omega)
      · conv => whnf
        exact lc_gate h_gate hi hL hC hR hk hn nxt
      · conv => whnf
        exact lc_feed h_feed hi hL hC hR hk hn nxt
      · conv => whnf
        exact lc_output h_output hi hL hC hR hk hn nxt
      · conv => whnf
        exact lc_clear h_clear hi hL hC hR hk hn nxt
      · conv => whnf
        exact lc_lay h_lay hi hL hC hR hk hn nxt
      · conv => whnf
        exact lc_run h_run hi hL hC hR hk hn nxt
      · conv => whnf
        exact lc_way h_way hi hL hC hR hk hn nxt
      · conv => whnf
        exact lc_at h_at hi hL hC hR hk hn nxt
      · conv => whnf
        exact lc_size h_size hi hL hC hR hk hn nxt
      · conv => whnf
        exact lc_known h_known hi hL hC hR hk hn nxt
      · conv => whnf
        exact lc_doubt h_doubt hi hL hC hR hk hn nxt
      · conv => whnf
        exact lc_value h_value hi hL hC hR hk hn nxt
      · conv => whnf
        exact lc_count h_count hi hL hC hR hk hn nxt
/-- the law's start -/
def t_pre : List (Nat × cx_E) := [(3, .dup, 0, 0, 0, 0, 4), (7, .astore_n 1, 0, 0, 1, 0, 8), (11, .dup, 0, 0, 0, 0, 12), (15, .astore_n 2, 0, 0, 2, 0, 16), (16, .iconst 1, 1, 0, 0, 0, 17), (19, .astore_n 3, 0, 0, 3, 0, 20), (20, .iconst 0, 0, 0, 0, 0, 21), (21, .istore 4, 0, 0, 4, 0, 23)]
def z_pre : List (Nat × cz_Z) := [(0, zNew 3 3 4 d_C 601024 7293034), (4, zCtor 7 sp_C_init 274 9564 601024 7293034), (8, zNew 11 4 21 d_R 601024 7293034), (12, zCtor 15 sp_R_init 14 19978 601024 7293034), (17, zNewa 19 2 1 601024 7293034)]
theorem k_pre : t_pre.all (cx_dec true code ret 7 [] [] [] [] [] [] []) = true := by decide +kernel
def x_0 : wX := (0, fun _ => 0)
def n_0 : wN := (fun _ => 0, fun _ => 0, fun _ => 0, fun _ => 0, fun _ => 0, fun _ => 0, fun _ _ => 0, fun _ _ => 0, 0, 0, 0, 0)
def l_0 : wL := (fun _ => 0, fun _ => 0, fun _ _ => 0, 0)
def m_0 : wM := (fun _ => 0, fun _ => 0, fun _ => 0, fun _ => 0, fun _ => 0, fun _ => 0, fun _ => 0, fun _ => 0, fun _ => 0, 2, 0)
def r_0 : wR := ((0, 0, 0, 0, 0), (fun _ => 0, fun _ => 0, fun _ => 0, fun _ => 0, fun _ => 0, fun _ => 0), (fun _ => 0, 0, 0, fun _ => 0, fun _ => 0), (fun _ => 0, fun _ => 0, fun _ => 0, fun _ => 0, fun _ => 0))
def a_0 : aS := (zerA, 0, fun _ => 0, 0, fun _ => kF)
set_option maxRecDepth 100000 in
set_option maxHeartbeats 8000000 in
theorem pu_pre {b : Nat} {V V0 : cx_K} (hV : ∀ (n pc : Nat) (lv : cx_L) (st : List cx_V) (ws : List cx_C) (k i : Nat), cz_ax t_pre z_pre [] 601024 7293034 [23] lw_rq V n pc lv st ws k i → V0 pc lv st ws k i)
    (h : V 23 (lw_lv b 0 none none) [] (wd x_0 n_0 l_0 m_0 (wq r_0 [oL (fun _ => 0)])) 291 29568) : V0 0 (cx_lv0 [.inr (.inr (.inr (.inr (.ref b))))] 7) [] [] 0 0 := by
  refine hV 40 _ _ _ _ _ _ ?_
  conv => whnf
  refine ⟨⟨⟨by decide, by decide⟩, by decide, by decide⟩, ?_⟩
  conv => whnf
  refine ⟨⟨by decide, by decide, by decide⟩, rfl, rfl, ?_⟩
  conv => whnf
  refine ⟨⟨⟨by decide, by decide⟩, by decide, by decide⟩, ?_⟩
  conv => whnf
  refine ⟨⟨by decide, by decide, by decide⟩, rfl, rfl, ?_⟩
  conv => whnf
  refine ⟨⟨rfl, ⟨by decide, by decide⟩, by decide, by decide⟩, ?_⟩
  conv => whnf
  exact h
theorem wf_0 : wfN zerA := ⟨Nat.zero_le _, Nat.zero_le _, Nat.zero_le _, fun g hg => absurd hg (Nat.not_lt_zero _), fun k hk => absurd hk (Nat.not_lt_zero _)⟩
theorem rC_0 : rC a_0 x_0 n_0 l_0 m_0 := ⟨⟨⟨wf_0, rfl, rfl, rfl, fun g hg => absurd hg (Nat.not_lt_zero _), fun k hk => absurd hk (Nat.not_lt_zero _)⟩, fun q hq => absurd hq (Nat.not_lt_zero _), Or.inl rfl⟩, Nat.zero_le _, rfl, fun i hi => absurd hi (Nat.not_lt_zero _), Or.inr ⟨rfl, rfl, rfl, fun k _ => rfl, rfl⟩⟩
theorem rR_0 : rR a_0 r_0 := ⟨⟨wf_0, rfl, rfl, rfl, fun g hg => absurd hg (Nat.not_lt_zero _), fun k hk => absurd hk (Nat.not_lt_zero _)⟩, Nat.zero_le _, rfl, fun i hi => absurd hi (Nat.not_lt_zero _), Nat.zero_le _, rfl, fun j hj => absurd hj (by show ¬ j < 2 * 0; omega), 0, fun _ => kF, ⟨Nat.zero_le _, rfl, fun i hi => absurd hi (Nat.not_lt_zero _), fun i hi => absurd hi (Nat.not_lt_zero _)⟩, fun i hi => absurd hi (Nat.not_lt_zero _), fun j hj => absurd hj (by show ¬ j < 2 * 0; omega)⟩
