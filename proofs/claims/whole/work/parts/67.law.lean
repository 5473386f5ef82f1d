/-! The law's loop: by program (wip/whole/gen_law.py). -/
abbrev lw_St (G : cx_G) (p : Program) (s : State) (m : MethodId) (meth : Method) (c : Code) : Prop :=
  p.tables.exec = Jvm.exec ∧ c.code = code ∧ c.maxLocals = 7 ∧ meth.locks = false ∧ c.exceptionTable.isEmpty = true ∧ s.vm.findClass "CycleCutterLaw" = some m.cls ∧ cw_Kn G s
abbrev w_law : List (Nat × List Nat) := [(788, [104, 160, 256, 312, 325, 338, 406, 474, 499, 583, 639, 695, 763])]
def t_lh : List (Nat × cx_E) := [(23, .iload 4, 0, 0, 4, 0, 25),
  (27, .iconst 4, 4, 0, 0, 0, 28),
  (28, .isub, 0, 0, 0, 0, 29),
  (29, .if_icmp .gt 765, 0, 0, 794, 0, 32),
  (33, .iload 4, 0, 0, 4, 0, 35),
  (36, .bipush 15, 15, 0, 0, 0, 38),
  (38, .iand, 0, 0, 0, 0, 39),
  (39, .tableswitch 749 0 12 #[65, 121, 217, 273, 286, 299, 367, 435, 460, 544, 600, 656, 724], 0, 0, 0, 65, 104),
  (788, .iinc 4 4, 4, 0, 4, 0, 791),
  (791, .goto (-768), 0, 0, 23, 0, 794),
  (794, .iconst 1, 1, 0, 0, 0, 795),
  (795, .ireturn, 1, 0, 0, 0, 796)]
def z_lh (b L : Nat) (xs : Nat → Int32) : List (Nat × cz_Z) := [(25, zScr 26),
  (26, zLen 27 b L),
  (32, zScr 33),
  (35, zLd 36 b L xs)]
theorem k_lh : t_lh.all (cx_dec true code ret 7 [] [] [] [] [] [] w_law) = true := by decide +kernel
theorem o_lh {p : Program} {l : Launch} {e : Env} {s : State} {m : MethodId} {args : Array Value} {below : List Frame} {meth : Method} {c : Code} {G : cx_G} {b L : Nat} {xs : Nat → Int32} (hG : cx_okG G) (hcl : cx_cl G = cx_cls) (hl : cx_nt l) (S : lw_St G p s m meth c) (hX : va_X b L xs s (cx_H0 G)) (hbl : b < (cx_H0 G).size) : ∀ q ∈ z_lh b L xs, cz_ok p l e room_1 s m args below meth c G 7 (cx_F1 G 601024 7293034) (cx_Q below G s 601024 7293034 lw_rq) q :=
  List.forall_mem_cons.mpr ⟨zScr_ok S.1 S.2.1 (by decide +kernel),
  List.forall_mem_cons.mpr ⟨zLen_ok S.1 S.2.1 hX hbl (by decide +kernel),
  List.forall_mem_cons.mpr ⟨zScr_ok S.1 S.2.1 (by decide +kernel),
  List.forall_mem_cons.mpr ⟨zLd_ok S.1 S.2.1 hX hbl (by decide +kernel),
  fun _ h => absurd h List.not_mem_nil⟩⟩⟩⟩
theorem wk_H_gate : cw_w "CycleCutterLaw" 50 3 m_H_gate method_3_code 4 (some .int) [(0, 9, 12, 13)] := ⟨cx_in 261 (by decide +kernel) (by decide +kernel), ⟨cx_in 262 (by decide +kernel) (by decide +kernel), cx_in 23 (by decide +kernel) (by decide +kernel), cx_in 263 (by decide +kernel) (by decide +kernel)⟩, by decide +kernel, ⟨by decide +kernel, by decide +kernel⟩, by decide +kernel⟩
theorem wk_R_gate : cx_wV cx_Tb "CycleCutterLaw" r_R "" 55 1 m_R_gate prog_6_method_5_code 2 (some (.int)) := ⟨Or.inl (cx_in 575 (by decide +kernel) (by decide +kernel)), ⟨cx_in 576 (by decide +kernel) (by decide +kernel), cx_in 577 (by decide +kernel) (by decide +kernel), cx_in 578 (by decide +kernel) (by decide +kernel)⟩, ⟨by decide +kernel, ⟨by decide +kernel, by decide +kernel⟩, by decide +kernel⟩⟩
theorem wk_R_thrown : cx_wV cx_Tb "CycleCutterLaw" r_R "" 56 0 m_R_thrown prog_6_method_2_code 1 (some (.int)) := ⟨Or.inl (cx_in 571 (by decide +kernel) (by decide +kernel)), ⟨cx_in 572 (by decide +kernel) (by decide +kernel), cx_in 573 (by decide +kernel) (by decide +kernel), cx_in 574 (by decide +kernel) (by decide +kernel)⟩, ⟨by decide +kernel, ⟨by decide +kernel, by decide +kernel⟩, by decide +kernel⟩⟩
def t_lgate : List (Nat × cx_E) := [(104, .aload_n 1, 0, 0, 1, 0, 105),
  (106, .iload 4, 0, 0, 4, 0, 108),
  (108, .iconst 1, 1, 0, 0, 0, 109),
  (109, .iadd, 0, 0, 0, 0, 110),
  (111, .aload_n 3, 0, 0, 3, 0, 112),
  (115, .istore 5, 0, 0, 5, 0, 117),
  (117, .aload_n 2, 0, 0, 2, 0, 118),
  (119, .iload 4, 0, 0, 4, 0, 121),
  (121, .iconst 1, 1, 0, 0, 0, 122),
  (122, .iadd, 0, 0, 0, 0, 123),
  (127, .istore 6, 0, 0, 6, 0, 129),
  (129, .aload_n 2, 0, 0, 2, 0, 130),
  (133, .iload 5, 0, 0, 5, 0, 135),
  (135, .if_icmp .eq 5, 0, 0, 140, 0, 138),
  (138, .iconst 0, 0, 0, 0, 0, 139),
  (139, .ireturn, 1, 0, 0, 0, 140),
  (140, .iload 5, 0, 0, 5, 0, 142),
  (142, .ifCond .ne 15, 0, 0, 157, 0, 145),
  (145, .aload_n 3, 0, 0, 3, 0, 146),
  (146, .iconst 0, 0, 0, 0, 0, 147),
  (147, .laload, 0, 0, 0, 0, 148),
  (148, .iload 6, 0, 0, 6, 0, 150),
  (150, .i2l, 0, 0, 0, 0, 151),
  (151, .lcmp, 0, 0, 0, 0, 152),
  (152, .ifCond .eq 5, 0, 0, 157, 0, 155),
  (155, .iconst 0, 0, 0, 0, 0, 156),
  (156, .ireturn, 1, 0, 0, 0, 157),
  (157, .goto 631, 0, 0, 788, 0, 160)]
def z_lgate (b L : Nat) (xs : Nat → Int32) : List (Nat × cz_Z) := [(105, zScr 106),
  (110, zLd 111 b L xs),
  (112, zCall 115 sp_H_gate 3 1 6 601024 7293034 lw_rq),
  (118, zScr 119),
  (123, zLd 124 b L xs),
  (124, zCall 127 sp_R_gate 2 0 0 601024 7293034 lw_rq),
  (130, zCall 133 sp_R_thrown 1 0 0 601024 7293034 lw_rq)]
theorem k_lgate : t_lgate.all (cx_dec true code ret 7 [] [] [] [] [] [] []) = true := by decide +kernel
theorem o_lgate {p : Program} {l : Launch} {e : Env} {s : State} {m : MethodId} {args : Array Value} {below : List Frame} {meth : Method} {c : Code} {G : cx_G} {b L : Nat} {xs : Nat → Int32} (hG : cx_okG G) (hcl : cx_cl G = cx_cls) (hl : cx_nt l) (S : lw_St G p s m meth c) (hX : va_X b L xs s (cx_H0 G)) (hbl : b < (cx_H0 G).size) : ∀ q ∈ z_lgate b L xs, cz_ok p l e room_1 s m args below meth c G 7 (cx_F1 G 601024 7293034) (cx_Q below G s 601024 7293034 lw_rq) q :=
  List.forall_mem_cons.mpr ⟨zScr_ok S.1 S.2.1 (by decide +kernel),
  List.forall_mem_cons.mpr ⟨zLd_ok S.1 S.2.1 hX hbl (by decide +kernel),
  List.forall_mem_cons.mpr ⟨zCall_ok (by decide +kernel) (cw_callS (rm := rm_H_gate) (np := 3) S.2.2.2.1 S.1 S.2.1 S.2.2.1 S.2.2.2.2.1 S.2.2.2.2.2.2 S.2.2.2.2.2.1 (c_H_gate hG hcl hl) wk_H_gate (by decide)),
  List.forall_mem_cons.mpr ⟨zScr_ok S.1 S.2.1 (by decide +kernel),
  List.forall_mem_cons.mpr ⟨zLd_ok S.1 S.2.1 hX hbl (by decide +kernel),
  List.forall_mem_cons.mpr ⟨zCall_ok (by decide +kernel) (cx_callV (rm := rm_R_gate) (C := r_R) (T0 := f_R) (N0 := 21) (np := 1) cx_TbAll S.1 S.2.1 S.2.2.1 S.2.2.2.2.2.2.1 S.2.2.2.1 S.2.2.2.2.1 S.2.2.2.2.2.1 (by rw [hcl]; rfl) (c_R_gate hG hcl) wk_R_gate (by decide)),
  List.forall_mem_cons.mpr ⟨zCall_ok (by decide +kernel) (cx_callV (rm := rm_R_thrown) (C := r_R) (T0 := f_R) (N0 := 21) (np := 0) cx_TbAll S.1 S.2.1 S.2.2.1 S.2.2.2.2.2.2.1 S.2.2.2.1 S.2.2.2.2.1 S.2.2.2.2.2.1 (by rw [hcl]; rfl) (c_R_thrown hG hcl) wk_R_thrown (by decide)),
  fun _ h => absurd h List.not_mem_nil⟩⟩⟩⟩⟩⟩⟩
set_option maxRecDepth 100000 in
set_option maxHeartbeats 8000000 in
theorem lc_gate {b L : Nat} {xs : Nat → Int32} {V : cx_K} (hV : cz_cl t_lgate (z_lgate b L xs) [] 601024 7293034 lw_rq V) {it : Nat} (hi : 4 * it + 4 ≤ L) (hL : L ≤ 2048) {A : aS} {x : wX} {n : wN} {l : wL} {m : wM} {t : wR} {g : Nat → Int64} {s5 s6 : Option cx_V} {k i : Nat} (hC : rC A x n l m) (hR : rR A t) (hk : k ≤ 291 + 2 * it) (hn : i ≤ 29568 + 12 * it) (nxt : lw_nx V b it) : V 104 (lw_lv b it s5 s6) [] (wd x n l m (wq t [oL g])) k i := by
  have in1 : vp_in (nI (4 * it) + 1) L := lw_i hi hL (j := 1) (by omega)
  refine hV [788] 90 _ _ _ _ _ _ ?_
  conv => whnf
  refine ⟨⟨rfl, in1⟩, ?_⟩
  conv => whnf
  refine ⟨⟨by omega, by omega, Nat.le_of_ble_eq_true rfl, Nat.le_of_ble_eq_true rfl⟩, ?_⟩
  conv => whnf
  refine ⟨x, n, l, m, t, g, A, (xs (nI (4 * it) + 1).toNatClampNeg), rfl, rfl, hC, fun x' n' l' m' g' hC' hg' => ?_⟩
  conv => whnf
  refine ⟨⟨rfl, in1⟩, ?_⟩
  conv => whnf
  refine ⟨⟨by omega, by omega, Nat.le_of_ble_eq_true rfl, Nat.le_of_ble_eq_true rfl⟩, ?_⟩
  conv => whnf
  refine ⟨x', n', l', m', t, [oL g'], A, (xs (nI (4 * it) + 1).toNatClampNeg), rfl, rfl, rfl, hR, fun t' hR' hth => ?_⟩
  conv => whnf
  refine ⟨⟨by omega, by omega, Nat.le_of_ble_eq_true rfl, Nat.le_of_ble_eq_true rfl⟩, ?_⟩
  conv => whnf
  refine ⟨x', n', l', m', t', [oL g'], rfl, rfl, rfl, ?_⟩
  conv => whnf
  refine ⟨fun _ => ?_, fun e3 => absurd hth e3⟩
  conv => whnf
  refine ⟨fun _ => ?_, fun e4 => ?_⟩
  · conv => whnf
    exact nxt _ x' n' l' m' t' g' _ _ _ _ hC' hR' (by omega) (by omega)
  · have h0 : (gateS A (xs (nI (4 * it) + 1).toNatClampNeg)).1 = 0 := Classical.byContradiction fun h => by
      have q := (th_gate A (xs (nI (4 * it) + 1).toNatClampNeg) h).2
      rw [q] at e4
      exact absurd e4 (by decide)
    conv => whnf
    refine ⟨pk_in 0 1 (by omega), ?_⟩
    conv => whnf
    have hc : lg_cmp (g' (0 : Int32).toNatClampNeg) (if (gateS A (xs (nI (4 * it) + 1).toNatClampNeg)).1 = 0 then (gateS A (xs (nI (4 * it) + 1).toNatClampNeg)).2.1 else 0).toInt64 = 0 := by
      rw [show (0 : Int32).toNatClampNeg = 0 from rfl, hg' h0, if_pos h0]
      exact lg_self _
    refine ⟨fun _ => ?_, fun e5 => absurd hc e5⟩
    conv => whnf
    exact nxt _ x' n' l' m' t' g' _ _ _ _ hC' hR' (by omega) (by omega)
theorem wk_H_feed : cw_w "CycleCutterLaw" 60 5 m_H_feed method_4_code 6 (some .int) [(0, 12, 15, 19), (0, 12, 19, 21)] := ⟨cx_in 348 (by decide +kernel) (by decide +kernel), ⟨cx_in 349 (by decide +kernel) (by decide +kernel), cx_in 23 (by decide +kernel) (by decide +kernel), cx_in 350 (by decide +kernel) (by decide +kernel)⟩, by decide +kernel, ⟨by decide +kernel, by decide +kernel⟩, by decide +kernel⟩
theorem wk_R_feed : cx_wV cx_Tb "CycleCutterLaw" r_R "" 63 3 m_R_feed prog_6_method_6_code 7 (some (.int)) := ⟨Or.inl (cx_in 583 (by decide +kernel) (by decide +kernel)), ⟨cx_in 584 (by decide +kernel) (by decide +kernel), cx_in 585 (by decide +kernel) (by decide +kernel), cx_in 586 (by decide +kernel) (by decide +kernel)⟩, ⟨by decide +kernel, ⟨by decide +kernel, by decide +kernel⟩, by decide +kernel⟩⟩
def t_lfeed : List (Nat × cx_E) := [(160, .aload_n 1, 0, 0, 1, 0, 161),
  (162, .iload 4, 0, 0, 4, 0, 164),
  (164, .iconst 1, 1, 0, 0, 0, 165),
  (165, .iadd, 0, 0, 0, 0, 166),
  (168, .iload 4, 0, 0, 4, 0, 170),
  (170, .iconst 2, 2, 0, 0, 0, 171),
  (171, .iadd, 0, 0, 0, 0, 172),
  (174, .iload 4, 0, 0, 4, 0, 176),
  (176, .iconst 3, 3, 0, 0, 0, 177),
  (177, .iadd, 0, 0, 0, 0, 178),
  (179, .ifCond .eq 7, 0, 0, 186, 0, 182),
  (182, .iconst 1, 1, 0, 0, 0, 183),
  (183, .goto 4, 0, 0, 187, 0, 186),
  (186, .iconst 0, 0, 0, 0, 0, 187),
  (187, .aload_n 3, 0, 0, 3, 0, 188),
  (191, .istore 5, 0, 0, 5, 0, 193),
  (193, .aload_n 2, 0, 0, 2, 0, 194),
  (195, .iload 4, 0, 0, 4, 0, 197),
  (197, .iconst 1, 1, 0, 0, 0, 198),
  (198, .iadd, 0, 0, 0, 0, 199),
  (201, .iload 4, 0, 0, 4, 0, 203),
  (203, .iconst 2, 2, 0, 0, 0, 204),
  (204, .iadd, 0, 0, 0, 0, 205),
  (207, .iload 4, 0, 0, 4, 0, 209),
  (209, .iconst 3, 3, 0, 0, 0, 210),
  (210, .iadd, 0, 0, 0, 0, 211),
  (212, .ifCond .eq 7, 0, 0, 219, 0, 215),
  (215, .iconst 1, 1, 0, 0, 0, 216),
  (216, .goto 4, 0, 0, 220, 0, 219),
  (219, .iconst 0, 0, 0, 0, 0, 220),
  (223, .istore 6, 0, 0, 6, 0, 225),
  (225, .aload_n 2, 0, 0, 2, 0, 226),
  (229, .iload 5, 0, 0, 5, 0, 231),
  (231, .if_icmp .eq 5, 0, 0, 236, 0, 234),
  (234, .iconst 0, 0, 0, 0, 0, 235),
  (235, .ireturn, 1, 0, 0, 0, 236),
  (236, .iload 5, 0, 0, 5, 0, 238),
  (238, .ifCond .ne 15, 0, 0, 253, 0, 241),
  (241, .aload_n 3, 0, 0, 3, 0, 242),
  (242, .iconst 0, 0, 0, 0, 0, 243),
  (243, .laload, 0, 0, 0, 0, 244),
  (244, .iload 6, 0, 0, 6, 0, 246),
  (246, .i2l, 0, 0, 0, 0, 247),
  (247, .lcmp, 0, 0, 0, 0, 248),
  (248, .ifCond .eq 5, 0, 0, 253, 0, 251),
  (251, .iconst 0, 0, 0, 0, 0, 252),
  (252, .ireturn, 1, 0, 0, 0, 253),
  (253, .goto 535, 0, 0, 788, 0, 256)]
def z_lfeed (b L : Nat) (xs : Nat → Int32) : List (Nat × cz_Z) := [(161, zScr 162),
  (166, zLd 167 b L xs),
  (167, zScr 168),
  (172, zLd 173 b L xs),
  (173, zScr 174),
  (178, zLd 179 b L xs),
  (188, zCall 191 sp_H_feed 5 1 6 601024 7293034 lw_rq),
  (194, zScr 195),
  (199, zLd 200 b L xs),
  (200, zScr 201),
  (205, zLd 206 b L xs),
  (206, zScr 207),
  (211, zLd 212 b L xs),
  (220, zCall 223 sp_R_feed 4 0 0 601024 7293034 lw_rq),
  (226, zCall 229 sp_R_thrown 1 0 0 601024 7293034 lw_rq)]
theorem k_lfeed : t_lfeed.all (cx_dec true code ret 7 [] [] [] [] [] [] []) = true := by decide +kernel
theorem o_lfeed {p : Program} {l : Launch} {e : Env} {s : State} {m : MethodId} {args : Array Value} {below : List Frame} {meth : Method} {c : Code} {G : cx_G} {b L : Nat} {xs : Nat → Int32} (hG : cx_okG G) (hcl : cx_cl G = cx_cls) (hl : cx_nt l) (S : lw_St G p s m meth c) (hX : va_X b L xs s (cx_H0 G)) (hbl : b < (cx_H0 G).size) : ∀ q ∈ z_lfeed b L xs, cz_ok p l e room_1 s m args below meth c G 7 (cx_F1 G 601024 7293034) (cx_Q below G s 601024 7293034 lw_rq) q :=
  List.forall_mem_cons.mpr ⟨zScr_ok S.1 S.2.1 (by decide +kernel),
  List.forall_mem_cons.mpr ⟨zLd_ok S.1 S.2.1 hX hbl (by decide +kernel),
  List.forall_mem_cons.mpr ⟨zScr_ok S.1 S.2.1 (by decide +kernel),
  List.forall_mem_cons.mpr ⟨zLd_ok S.1 S.2.1 hX hbl (by decide +kernel),
  List.forall_mem_cons.mpr ⟨zScr_ok S.1 S.2.1 (by decide +kernel),
  List.forall_mem_cons.mpr ⟨zLd_ok S.1 S.2.1 hX hbl (by decide +kernel),
  List.forall_mem_cons.mpr ⟨zCall_ok (by decide +kernel) (cw_callS (rm := rm_H_feed) (np := 5) S.2.2.2.1 S.1 S.2.1 S.2.2.1 S.2.2.2.2.1 S.2.2.2.2.2.2 S.2.2.2.2.2.1 (c_H_feed hG hcl hl) wk_H_feed (by decide)),
  List.forall_mem_cons.mpr ⟨zScr_ok S.1 S.2.1 (by decide +kernel),
  List.forall_mem_cons.mpr ⟨zLd_ok S.1 S.2.1 hX hbl (by decide +kernel),
  List.forall_mem_cons.mpr ⟨zScr_ok S.1 S.2.1 (by decide +kernel),
  List.forall_mem_cons.mpr ⟨zLd_ok S.1 S.2.1 hX hbl (by decide +kernel),
  List.forall_mem_cons.mpr ⟨zScr_ok S.1 S.2.1 (by decide +kernel),
  List.forall_mem_cons.mpr ⟨zLd_ok S.1 S.2.1 hX hbl (by decide +kernel),
  List.forall_mem_cons.mpr ⟨zCall_ok (by decide +kernel) (cx_callV (rm := rm_R_feed) (C := r_R) (T0 := f_R) (N0 := 21) (np := 3) cx_TbAll S.1 S.2.1 S.2.2.1 S.2.2.2.2.2.2.1 S.2.2.2.1 S.2.2.2.2.1 S.2.2.2.2.2.1 (by rw [hcl]; rfl) (c_R_feed hG hcl) wk_R_feed (by decide)),
  List.forall_mem_cons.mpr ⟨zCall_ok (by decide +kernel) (cx_callV (rm := rm_R_thrown) (C := r_R) (T0 := f_R) (N0 := 21) (np := 0) cx_TbAll S.1 S.2.1 S.2.2.1 S.2.2.2.2.2.2.1 S.2.2.2.1 S.2.2.2.2.1 S.2.2.2.2.2.1 (by rw [hcl]; rfl) (c_R_thrown hG hcl) wk_R_thrown (by decide)),
  fun _ h => absurd h List.not_mem_nil⟩⟩⟩⟩⟩⟩⟩⟩⟩⟩⟩⟩⟩⟩⟩
set_option maxRecDepth 100000 in
set_option maxHeartbeats 8000000 in
theorem lc_feed {b L : Nat} {xs : Nat → Int32} {V : cx_K} (hV : cz_cl t_lfeed (z_lfeed b L xs) [] 601024 7293034 lw_rq V) {it : Nat} (hi : 4 * it + 4 ≤ L) (hL : L ≤ 2048) {A : aS} {x : wX} {n : wN} {l : wL} {m : wM} {t : wR} {g : Nat → Int64} {s5 s6 : Option cx_V} {k i : Nat} (hC : rC A x n l m) (hR : rR A t) (hk : k ≤ 291 + 2 * it) (hn : i ≤ 29568 + 12 * it) (nxt : lw_nx V b it) : V 160 (lw_lv b it s5 s6) [] (wd x n l m (wq t [oL g])) k i := by
  have in1 : vp_in (nI (4 * it) + 1) L := lw_i hi hL (j := 1) (by omega)
  have in2 : vp_in (nI (4 * it) + 2) L := lw_i hi hL (j := 2) (by omega)
  have in3 : vp_in (nI (4 * it) + 3) L := lw_i hi hL (j := 3) (by omega)
  refine hV [788] 90 _ _ _ _ _ _ ?_
  conv => whnf
  refine ⟨⟨rfl, in1⟩, ?_⟩
  conv => whnf
  refine ⟨⟨rfl, in2⟩, ?_⟩
  conv => whnf
  refine ⟨⟨rfl, in3⟩, ?_⟩
  conv => whnf
  refine ⟨fun e => ?_, fun e => ?_⟩
  · conv => whnf
    refine ⟨⟨by omega, by omega, Nat.le_of_ble_eq_true rfl, Nat.le_of_ble_eq_true rfl⟩, ?_⟩
    conv => whnf
    refine ⟨x, n, l, m, t, g, A, (xs (nI (4 * it) + 1).toNatClampNeg), (xs (nI (4 * it) + 2).toNatClampNeg), false, rfl, rfl, hC, fun x' n' l' m' g' hC' hg' => ?_⟩
    conv => whnf
    refine ⟨⟨rfl, in1⟩, ?_⟩
    conv => whnf
    refine ⟨⟨rfl, in2⟩, ?_⟩
    conv => whnf
    refine ⟨⟨rfl, in3⟩, ?_⟩
    conv => whnf
    refine ⟨fun _ => ?_, fun e2 => absurd e e2⟩
    conv => whnf
    refine ⟨⟨by omega, by omega, Nat.le_of_ble_eq_true rfl, Nat.le_of_ble_eq_true rfl⟩, ?_⟩
    conv => whnf
    refine ⟨x', n', l', m', t, [oL g'], A, (xs (nI (4 * it) + 1).toNatClampNeg), (xs (nI (4 * it) + 2).toNatClampNeg), false, rfl, rfl, rfl, hR, fun t' hR' hth => ?_⟩
    conv => whnf
    refine ⟨⟨by omega, by omega, Nat.le_of_ble_eq_true rfl, Nat.le_of_ble_eq_true rfl⟩, ?_⟩
    conv => whnf
    refine ⟨x', n', l', m', t', [oL g'], rfl, rfl, rfl, ?_⟩
    conv => whnf
    refine ⟨fun _ => ?_, fun e3 => absurd hth e3⟩
    conv => whnf
    refine ⟨fun _ => ?_, fun e4 => ?_⟩
    · conv => whnf
      exact nxt _ x' n' l' m' t' g' _ _ _ _ hC' hR' (by omega) (by omega)
    · have h0 : (feedS A (xs (nI (4 * it) + 1).toNatClampNeg) (xs (nI (4 * it) + 2).toNatClampNeg) false).1 = 0 := Classical.byContradiction fun h => by
        have q := (th_feed A (xs (nI (4 * it) + 1).toNatClampNeg) (xs (nI (4 * it) + 2).toNatClampNeg) false h).2
        rcases q with q | q <;> (rw [q] at e4; exact absurd e4 (by decide))
      conv => whnf
      refine ⟨pk_in 0 1 (by omega), ?_⟩
      conv => whnf
      have hc : lg_cmp (g' (0 : Int32).toNatClampNeg) (if (feedS A (xs (nI (4 * it) + 1).toNatClampNeg) (xs (nI (4 * it) + 2).toNatClampNeg) false).1 = 0 then (feedS A (xs (nI (4 * it) + 1).toNatClampNeg) (xs (nI (4 * it) + 2).toNatClampNeg) false).2.1 else 0).toInt64 = 0 := by
        rw [show (0 : Int32).toNatClampNeg = 0 from rfl, hg' h0, if_pos h0]
        exact lg_self _
      refine ⟨fun _ => ?_, fun e5 => absurd hc e5⟩
      conv => whnf
      exact nxt _ x' n' l' m' t' g' _ _ _ _ hC' hR' (by omega) (by omega)
  · conv => whnf
    refine ⟨⟨by omega, by omega, Nat.le_of_ble_eq_true rfl, Nat.le_of_ble_eq_true rfl⟩, ?_⟩
    conv => whnf
    refine ⟨x, n, l, m, t, g, A, (xs (nI (4 * it) + 1).toNatClampNeg), (xs (nI (4 * it) + 2).toNatClampNeg), true, rfl, rfl, hC, fun x' n' l' m' g' hC' hg' => ?_⟩
    conv => whnf
    refine ⟨⟨rfl, in1⟩, ?_⟩
    conv => whnf
    refine ⟨⟨rfl, in2⟩, ?_⟩
    conv => whnf
    refine ⟨⟨rfl, in3⟩, ?_⟩
    conv => whnf
    refine ⟨fun e2 => absurd e2 e, fun _ => ?_⟩
    conv => whnf
    refine ⟨⟨by omega, by omega, Nat.le_of_ble_eq_true rfl, Nat.le_of_ble_eq_true rfl⟩, ?_⟩
    conv => whnf
    refine ⟨x', n', l', m', t, [oL g'], A, (xs (nI (4 * it) + 1).toNatClampNeg), (xs (nI (4 * it) + 2).toNatClampNeg), true, rfl, rfl, rfl, hR, fun t' hR' hth => ?_⟩
    conv => whnf
    refine ⟨⟨by omega, by omega, Nat.le_of_ble_eq_true rfl, Nat.le_of_ble_eq_true rfl⟩, ?_⟩
    conv => whnf
    refine ⟨x', n', l', m', t', [oL g'], rfl, rfl, rfl, ?_⟩
    conv => whnf
    refine ⟨fun _ => ?_, fun e3 => absurd hth e3⟩
    conv => whnf
    refine ⟨fun _ => ?_, fun e4 => ?_⟩
    · conv => whnf
      exact nxt _ x' n' l' m' t' g' _ _ _ _ hC' hR' (by omega) (by omega)
    · have h0 : (feedS A (xs (nI (4 * it) + 1).toNatClampNeg) (xs (nI (4 * it) + 2).toNatClampNeg) true).1 = 0 := Classical.byContradiction fun h => by
        have q := (th_feed A (xs (nI (4 * it) + 1).toNatClampNeg) (xs (nI (4 * it) + 2).toNatClampNeg) true h).2
        rcases q with q | q <;> (rw [q] at e4; exact absurd e4 (by decide))
      conv => whnf
      refine ⟨pk_in 0 1 (by omega), ?_⟩
      conv => whnf
      have hc : lg_cmp (g' (0 : Int32).toNatClampNeg) (if (feedS A (xs (nI (4 * it) + 1).toNatClampNeg) (xs (nI (4 * it) + 2).toNatClampNeg) true).1 = 0 then (feedS A (xs (nI (4 * it) + 1).toNatClampNeg) (xs (nI (4 * it) + 2).toNatClampNeg) true).2.1 else 0).toInt64 = 0 := by
        rw [show (0 : Int32).toNatClampNeg = 0 from rfl, hg' h0, if_pos h0]
        exact lg_self _
      refine ⟨fun _ => ?_, fun e5 => absurd hc e5⟩
      conv => whnf
      exact nxt _ x' n' l' m' t' g' _ _ _ _ hC' hR' (by omega) (by omega)
theorem wk_H_output : cw_w "CycleCutterLaw" 64 3 m_H_output method_5_code 4 (some .int) [(0, 9, 12, 19)] := ⟨cx_in 398 (by decide +kernel) (by decide +kernel), ⟨cx_in 399 (by decide +kernel) (by decide +kernel), cx_in 23 (by decide +kernel) (by decide +kernel), cx_in 400 (by decide +kernel) (by decide +kernel)⟩, by decide +kernel, ⟨by decide +kernel, by decide +kernel⟩, by decide +kernel⟩
theorem wk_R_output : cx_wV cx_Tb "CycleCutterLaw" r_R "" 66 1 m_R_output prog_6_method_7_code 2 (some (.int)) := ⟨Or.inl (cx_in 591 (by decide +kernel) (by decide +kernel)), ⟨cx_in 592 (by decide +kernel) (by decide +kernel), cx_in 593 (by decide +kernel) (by decide +kernel), cx_in 594 (by decide +kernel) (by decide +kernel)⟩, ⟨by decide +kernel, ⟨by decide +kernel, by decide +kernel⟩, by decide +kernel⟩⟩
def t_loutput : List (Nat × cx_E) := [(256, .aload_n 1, 0, 0, 1, 0, 257),
  (258, .iload 4, 0, 0, 4, 0, 260),
  (260, .iconst 1, 1, 0, 0, 0, 261),
  (261, .iadd, 0, 0, 0, 0, 262),
  (263, .aload_n 3, 0, 0, 3, 0, 264),
  (267, .istore 5, 0, 0, 5, 0, 269),
  (269, .aload_n 2, 0, 0, 2, 0, 270),
  (271, .iload 4, 0, 0, 4, 0, 273),
  (273, .iconst 1, 1, 0, 0, 0, 274),
  (274, .iadd, 0, 0, 0, 0, 275),
  (279, .istore 6, 0, 0, 6, 0, 281),
  (281, .aload_n 2, 0, 0, 2, 0, 282),
  (285, .iload 5, 0, 0, 5, 0, 287),
  (287, .if_icmp .eq 5, 0, 0, 292, 0, 290),
  (290, .iconst 0, 0, 0, 0, 0, 291),
  (291, .ireturn, 1, 0, 0, 0, 292),
  (292, .iload 5, 0, 0, 5, 0, 294),
  (294, .ifCond .ne 15, 0, 0, 309, 0, 297),
  (297, .aload_n 3, 0, 0, 3, 0, 298),
  (298, .iconst 0, 0, 0, 0, 0, 299),
  (299, .laload, 0, 0, 0, 0, 300),
  (300, .iload 6, 0, 0, 6, 0, 302),
  (302, .i2l, 0, 0, 0, 0, 303),
  (303, .lcmp, 0, 0, 0, 0, 304),
  (304, .ifCond .eq 5, 0, 0, 309, 0, 307),
  (307, .iconst 0, 0, 0, 0, 0, 308),
  (308, .ireturn, 1, 0, 0, 0, 309),
  (309, .goto 479, 0, 0, 788, 0, 312)]
def z_loutput (b L : Nat) (xs : Nat → Int32) : List (Nat × cz_Z) := [(257, zScr 258),
  (262, zLd 263 b L xs),
  (264, zCall 267 sp_H_output 3 1 6 601024 7293034 lw_rq),
  (270, zScr 271),
  (275, zLd 276 b L xs),
  (276, zCall 279 sp_R_output 2 0 0 601024 7293034 lw_rq),
  (282, zCall 285 sp_R_thrown 1 0 0 601024 7293034 lw_rq)]
theorem k_loutput : t_loutput.all (cx_dec true code ret 7 [] [] [] [] [] [] []) = true := by decide +kernel
theorem o_loutput {p : Program} {l : Launch} {e : Env} {s : State} {m : MethodId} {args : Array Value} {below : List Frame} {meth : Method} {c : Code} {G : cx_G} {b L : Nat} {xs : Nat → Int32} (hG : cx_okG G) (hcl : cx_cl G = cx_cls) (hl : cx_nt l) (S : lw_St G p s m meth c) (hX : va_X b L xs s (cx_H0 G)) (hbl : b < (cx_H0 G).size) : ∀ q ∈ z_loutput b L xs, cz_ok p l e room_1 s m args below meth c G 7 (cx_F1 G 601024 7293034) (cx_Q below G s 601024 7293034 lw_rq) q :=
  List.forall_mem_cons.mpr ⟨zScr_ok S.1 S.2.1 (by decide +kernel),
  List.forall_mem_cons.mpr ⟨zLd_ok S.1 S.2.1 hX hbl (by decide +kernel),
  List.forall_mem_cons.mpr ⟨zCall_ok (by decide +kernel) (cw_callS (rm := rm_H_output) (np := 3) S.2.2.2.1 S.1 S.2.1 S.2.2.1 S.2.2.2.2.1 S.2.2.2.2.2.2 S.2.2.2.2.2.1 (c_H_output hG hcl hl) wk_H_output (by decide)),
  List.forall_mem_cons.mpr ⟨zScr_ok S.1 S.2.1 (by decide +kernel),
  List.forall_mem_cons.mpr ⟨zLd_ok S.1 S.2.1 hX hbl (by decide +kernel),
  List.forall_mem_cons.mpr ⟨zCall_ok (by decide +kernel) (cx_callV (rm := rm_R_output) (C := r_R) (T0 := f_R) (N0 := 21) (np := 1) cx_TbAll S.1 S.2.1 S.2.2.1 S.2.2.2.2.2.2.1 S.2.2.2.1 S.2.2.2.2.1 S.2.2.2.2.2.1 (by rw [hcl]; rfl) (c_R_output hG hcl) wk_R_output (by decide)),
  List.forall_mem_cons.mpr ⟨zCall_ok (by decide +kernel) (cx_callV (rm := rm_R_thrown) (C := r_R) (T0 := f_R) (N0 := 21) (np := 0) cx_TbAll S.1 S.2.1 S.2.2.1 S.2.2.2.2.2.2.1 S.2.2.2.1 S.2.2.2.2.1 S.2.2.2.2.2.1 (by rw [hcl]; rfl) (c_R_thrown hG hcl) wk_R_thrown (by decide)),
  fun _ h => absurd h List.not_mem_nil⟩⟩⟩⟩⟩⟩⟩
set_option maxRecDepth 100000 in
set_option maxHeartbeats 8000000 in
theorem lc_output {b L : Nat} {xs : Nat → Int32} {V : cx_K} (hV : cz_cl t_loutput (z_loutput b L xs) [] 601024 7293034 lw_rq V) {it : Nat} (hi : 4 * it + 4 ≤ L) (hL : L ≤ 2048) {A : aS} {x : wX} {n : wN} {l : wL} {m : wM} {t : wR} {g : Nat → Int64} {s5 s6 : Option cx_V} {k i : Nat} (hC : rC A x n l m) (hR : rR A t) (hk : k ≤ 291 + 2 * it) (hn : i ≤ 29568 + 12 * it) (nxt : lw_nx V b it) : V 256 (lw_lv b it s5 s6) [] (wd x n l m (wq t [oL g])) k i := by
  have in1 : vp_in (nI (4 * it) + 1) L := lw_i hi hL (j := 1) (by omega)
  refine hV [788] 90 _ _ _ _ _ _ ?_
  conv => whnf
  refine ⟨⟨rfl, in1⟩, ?_⟩
  conv => whnf
  refine ⟨⟨by omega, by omega, Nat.le_of_ble_eq_true rfl, Nat.le_of_ble_eq_true rfl⟩, ?_⟩
  conv => whnf
  refine ⟨x, n, l, m, t, g, A, (xs (nI (4 * it) + 1).toNatClampNeg), rfl, rfl, hC, fun x' n' l' m' g' hC' hg' => ?_⟩
  conv => whnf
  refine ⟨⟨rfl, in1⟩, ?_⟩
  conv => whnf
  refine ⟨⟨by omega, by omega, Nat.le_of_ble_eq_true rfl, Nat.le_of_ble_eq_true rfl⟩, ?_⟩
  conv => whnf
  refine ⟨x', n', l', m', t, [oL g'], A, (xs (nI (4 * it) + 1).toNatClampNeg), rfl, rfl, rfl, hR, fun t' hR' hth => ?_⟩
  conv => whnf
  refine ⟨⟨by omega, by omega, Nat.le_of_ble_eq_true rfl, Nat.le_of_ble_eq_true rfl⟩, ?_⟩
  conv => whnf
  refine ⟨x', n', l', m', t', [oL g'], rfl, rfl, rfl, ?_⟩
  conv => whnf
  refine ⟨fun _ => ?_, fun e3 => absurd hth e3⟩
  conv => whnf
  refine ⟨fun _ => ?_, fun e4 => ?_⟩
  · conv => whnf
    exact nxt _ x' n' l' m' t' g' _ _ _ _ hC' hR' (by omega) (by omega)
  · have h0 : (outS A (xs (nI (4 * it) + 1).toNatClampNeg)).1 = 0 := Classical.byContradiction fun h => by
      have q := (th_output A (xs (nI (4 * it) + 1).toNatClampNeg) h).2
      rw [q] at e4
      exact absurd e4 (by decide)
    conv => whnf
    refine ⟨pk_in 0 1 (by omega), ?_⟩
    conv => whnf
    have hc : lg_cmp (g' (0 : Int32).toNatClampNeg) (if (outS A (xs (nI (4 * it) + 1).toNatClampNeg)).1 = 0 then (outS A (xs (nI (4 * it) + 1).toNatClampNeg)).2.1 else 0).toInt64 = 0 := by
      rw [show (0 : Int32).toNatClampNeg = 0 from rfl, hg' h0, if_pos h0]
      exact lg_self _
    refine ⟨fun _ => ?_, fun e5 => absurd hc e5⟩
    conv => whnf
    exact nxt _ x' n' l' m' t' g' _ _ _ _ hC' hR' (by omega) (by omega)
theorem wk_C_clear : cx_wV cx_Tb "CycleCutterLaw" r_C "" 67 0 m_C_clear prog_1_method_5_code 2 (some (.int)) := ⟨Or.inl (cx_in 178 (by decide +kernel) (by decide +kernel)), ⟨cx_in 179 (by decide +kernel) (by decide +kernel), cx_in 180 (by decide +kernel) (by decide +kernel), cx_in 181 (by decide +kernel) (by decide +kernel)⟩, ⟨by decide +kernel, ⟨by decide +kernel, by decide +kernel⟩, by decide +kernel⟩⟩
theorem wk_R_clear : cx_wV cx_Tb "CycleCutterLaw" r_R "" 70 0 m_R_clear prog_6_method_8_code 2 (some (.int)) := ⟨Or.inl (cx_in 595 (by decide +kernel) (by decide +kernel)), ⟨cx_in 596 (by decide +kernel) (by decide +kernel), cx_in 597 (by decide +kernel) (by decide +kernel), cx_in 598 (by decide +kernel) (by decide +kernel)⟩, ⟨by decide +kernel, ⟨by decide +kernel, by decide +kernel⟩, by decide +kernel⟩⟩
def t_lclear : List (Nat × cx_E) := [(312, .aload_n 1, 0, 0, 1, 0, 313),
  (316, .aload_n 2, 0, 0, 2, 0, 317),
  (320, .if_icmp .eq 468, 0, 0, 788, 0, 323),
  (323, .iconst 0, 0, 0, 0, 0, 324),
  (324, .ireturn, 1, 0, 0, 0, 325)]
def z_lclear (b L : Nat) (xs : Nat → Int32) : List (Nat × cz_Z) := [(313, zCall 316 sp_C_clear 1 0 0 601024 7293034 lw_rq),
  (317, zCall 320 sp_R_clear 1 0 0 601024 7293034 lw_rq)]
theorem k_lclear : t_lclear.all (cx_dec true code ret 7 [] [] [] [] [] [] []) = true := by decide +kernel
theorem o_lclear {p : Program} {l : Launch} {e : Env} {s : State} {m : MethodId} {args : Array Value} {below : List Frame} {meth : Method} {c : Code} {G : cx_G} {b L : Nat} {xs : Nat → Int32} (hG : cx_okG G) (hcl : cx_cl G = cx_cls) (hl : cx_nt l) (S : lw_St G p s m meth c) (hX : va_X b L xs s (cx_H0 G)) (hbl : b < (cx_H0 G).size) : ∀ q ∈ z_lclear b L xs, cz_ok p l e room_1 s m args below meth c G 7 (cx_F1 G 601024 7293034) (cx_Q below G s 601024 7293034 lw_rq) q :=
  List.forall_mem_cons.mpr ⟨zCall_ok (by decide +kernel) (cx_callV (rm := rm_C_clear) (C := r_C) (T0 := f_C) (N0 := 4) (np := 0) cx_TbAll S.1 S.2.1 S.2.2.1 S.2.2.2.2.2.2.1 S.2.2.2.1 S.2.2.2.2.1 S.2.2.2.2.2.1 (by rw [hcl]; rfl) (c_C_clear hG hcl) wk_C_clear (by decide)),
  List.forall_mem_cons.mpr ⟨zCall_ok (by decide +kernel) (cx_callV (rm := rm_R_clear) (C := r_R) (T0 := f_R) (N0 := 21) (np := 0) cx_TbAll S.1 S.2.1 S.2.2.1 S.2.2.2.2.2.2.1 S.2.2.2.1 S.2.2.2.2.1 S.2.2.2.2.2.1 (by rw [hcl]; rfl) (c_R_clear hG hcl) wk_R_clear (by decide)),
  fun _ h => absurd h List.not_mem_nil⟩⟩
set_option maxRecDepth 100000 in
set_option maxHeartbeats 8000000 in
theorem lc_clear {b L : Nat} {xs : Nat → Int32} {V : cx_K} (hV : cz_cl t_lclear (z_lclear b L xs) [] 601024 7293034 lw_rq V) {it : Nat} (hi : 4 * it + 4 ≤ L) (hL : L ≤ 2048) {A : aS} {x : wX} {n : wN} {l : wL} {m : wM} {t : wR} {g : Nat → Int64} {s5 s6 : Option cx_V} {k i : Nat} (hC : rC A x n l m) (hR : rR A t) (hk : k ≤ 291 + 2 * it) (hn : i ≤ 29568 + 12 * it) (nxt : lw_nx V b it) : V 312 (lw_lv b it s5 s6) [] (wd x n l m (wq t [oL g])) k i := by
  refine hV [788] 90 _ _ _ _ _ _ ?_
  conv => whnf
  refine ⟨⟨by omega, by omega, Nat.le_of_ble_eq_true rfl, Nat.le_of_ble_eq_true rfl⟩, ?_⟩
  conv => whnf
  refine ⟨x, n, l, m, wq t [oL g], A, rfl, rfl, rfl, hC, fun _ x' n' l' m' hC' => ?_, fun h0 => absurd rfl h0⟩
  conv => whnf
  refine ⟨⟨by omega, by omega, Nat.le_of_ble_eq_true rfl, Nat.le_of_ble_eq_true rfl⟩, ?_⟩
  conv => whnf
  refine ⟨x', n', l', m', t, [oL g], A, rfl, rfl, rfl, hR, fun t' hR' hth => ?_⟩
  conv => whnf
  refine ⟨fun _ => ?_, fun e3 => absurd (if_pos rfl).symm e3⟩
  exact nxt _ x' n' l' m' t' g _ _ _ _ hC' hR' (by omega) (by omega)
theorem wk_C_lay : cx_wV cx_Tb "CycleCutterLaw" r_C "" 71 0 m_C_lay prog_1_method_6_code 3 (some (.int)) := ⟨Or.inl (cx_in 194 (by decide +kernel) (by decide +kernel)), ⟨cx_in 195 (by decide +kernel) (by decide +kernel), cx_in 196 (by decide +kernel) (by decide +kernel), cx_in 197 (by decide +kernel) (by decide +kernel)⟩, ⟨by decide +kernel, ⟨by decide +kernel, by decide +kernel⟩, by decide +kernel⟩⟩
theorem wk_R_lay : cx_wV cx_Tb "CycleCutterLaw" r_R "" 74 0 m_R_lay prog_6_method_19_code 5 (some (.int)) := ⟨Or.inl (cx_in 611 (by decide +kernel) (by decide +kernel)), ⟨cx_in 612 (by decide +kernel) (by decide +kernel), cx_in 613 (by decide +kernel) (by decide +kernel), cx_in 614 (by decide +kernel) (by decide +kernel)⟩, ⟨by decide +kernel, ⟨by decide +kernel, by decide +kernel⟩, by decide +kernel⟩⟩
def t_llay : List (Nat × cx_E) := [(325, .aload_n 1, 0, 0, 1, 0, 326),
  (329, .aload_n 2, 0, 0, 2, 0, 330),
  (333, .if_icmp .eq 455, 0, 0, 788, 0, 336),
  (336, .iconst 0, 0, 0, 0, 0, 337),
  (337, .ireturn, 1, 0, 0, 0, 338)]
def z_llay (b L : Nat) (xs : Nat → Int32) : List (Nat × cz_Z) := [(326, zCall 329 sp_C_lay 1 0 0 601024 7293034 lw_rq),
  (330, zCall 333 sp_R_lay 1 0 0 601024 7293034 lw_rq)]
theorem k_llay : t_llay.all (cx_dec true code ret 7 [] [] [] [] [] [] []) = true := by decide +kernel
theorem o_llay {p : Program} {l : Launch} {e : Env} {s : State} {m : MethodId} {args : Array Value} {below : List Frame} {meth : Method} {c : Code} {G : cx_G} {b L : Nat} {xs : Nat → Int32} (hG : cx_okG G) (hcl : cx_cl G = cx_cls) (hl : cx_nt l) (S : lw_St G p s m meth c) (hX : va_X b L xs s (cx_H0 G)) (hbl : b < (cx_H0 G).size) : ∀ q ∈ z_llay b L xs, cz_ok p l e room_1 s m args below meth c G 7 (cx_F1 G 601024 7293034) (cx_Q below G s 601024 7293034 lw_rq) q :=
  List.forall_mem_cons.mpr ⟨zCall_ok (by decide +kernel) (cx_callV (rm := rm_C_lay) (C := r_C) (T0 := f_C) (N0 := 4) (np := 0) cx_TbAll S.1 S.2.1 S.2.2.1 S.2.2.2.2.2.2.1 S.2.2.2.1 S.2.2.2.2.1 S.2.2.2.2.2.1 (by rw [hcl]; rfl) (c_C_lay hG hcl) wk_C_lay (by decide)),
  List.forall_mem_cons.mpr ⟨zCall_ok (by decide +kernel) (cx_callV (rm := rm_R_lay) (C := r_R) (T0 := f_R) (N0 := 21) (np := 0) cx_TbAll S.1 S.2.1 S.2.2.1 S.2.2.2.2.2.2.1 S.2.2.2.1 S.2.2.2.2.1 S.2.2.2.2.2.1 (by rw [hcl]; rfl) (c_R_lay hG hcl) wk_R_lay (by decide)),
  fun _ h => absurd h List.not_mem_nil⟩⟩
set_option maxRecDepth 100000 in
set_option maxHeartbeats 8000000 in
theorem lc_lay {b L : Nat} {xs : Nat → Int32} {V : cx_K} (hV : cz_cl t_llay (z_llay b L xs) [] 601024 7293034 lw_rq V) {it : Nat} (hi : 4 * it + 4 ≤ L) (hL : L ≤ 2048) {A : aS} {x : wX} {n : wN} {l : wL} {m : wM} {t : wR} {g : Nat → Int64} {s5 s6 : Option cx_V} {k i : Nat} (hC : rC A x n l m) (hR : rR A t) (hk : k ≤ 291 + 2 * it) (hn : i ≤ 29568 + 12 * it) (nxt : lw_nx V b it) : V 325 (lw_lv b it s5 s6) [] (wd x n l m (wq t [oL g])) k i := by
  refine hV [788] 90 _ _ _ _ _ _ ?_
  conv => whnf
  refine ⟨⟨by omega, by omega, Nat.le_of_ble_eq_true rfl, Nat.le_of_ble_eq_true rfl⟩, ?_⟩
  conv => whnf
  refine ⟨x, n, l, m, wq t [oL g], A, rfl, rfl, rfl, hC, fun _ x' n' l' m' hC' => ?_, fun h0 => absurd rfl h0⟩
  conv => whnf
  refine ⟨⟨by omega, by omega, Nat.le_of_ble_eq_true rfl, Nat.le_of_ble_eq_true rfl⟩, ?_⟩
  conv => whnf
  refine ⟨x', n', l', m', t, [oL g], A, rfl, rfl, rfl, hR, fun t' hR' hth => ?_⟩
  conv => whnf
  refine ⟨fun _ => ?_, fun e3 => absurd (if_pos rfl).symm e3⟩
  exact nxt _ x' n' l' m' t' g _ _ _ _ hC' hR' (by omega) (by omega)
theorem wk_H_run : cw_w "CycleCutterLaw" 75 4 m_H_run method_6_code 5 (some .int) [(0, 10, 13, 19)] := ⟨cx_in 405 (by decide +kernel) (by decide +kernel), ⟨cx_in 406 (by decide +kernel) (by decide +kernel), cx_in 23 (by decide +kernel) (by decide +kernel), cx_in 407 (by decide +kernel) (by decide +kernel)⟩, by decide +kernel, ⟨by decide +kernel, by decide +kernel⟩, by decide +kernel⟩
theorem wk_R_run : cx_wV cx_Tb "CycleCutterLaw" r_R "" 78 2 m_R_run prog_6_method_21_code 3 (some (.int)) := ⟨Or.inl (cx_in 643 (by decide +kernel) (by decide +kernel)), ⟨cx_in 644 (by decide +kernel) (by decide +kernel), cx_in 645 (by decide +kernel) (by decide +kernel), cx_in 646 (by decide +kernel) (by decide +kernel)⟩, ⟨by decide +kernel, ⟨by decide +kernel, by decide +kernel⟩, by decide +kernel⟩⟩
def t_lrun : List (Nat × cx_E) := [(338, .aload_n 1, 0, 0, 1, 0, 339),
  (340, .iload 4, 0, 0, 4, 0, 342),
  (342, .iconst 1, 1, 0, 0, 0, 343),
  (343, .iadd, 0, 0, 0, 0, 344),
  (346, .iload 4, 0, 0, 4, 0, 348),
  (348, .iconst 2, 2, 0, 0, 0, 349),
  (349, .iadd, 0, 0, 0, 0, 350),
  (351, .aload_n 3, 0, 0, 3, 0, 352),
  (355, .istore 5, 0, 0, 5, 0, 357),
  (357, .aload_n 2, 0, 0, 2, 0, 358),
  (359, .iload 4, 0, 0, 4, 0, 361),
  (361, .iconst 1, 1, 0, 0, 0, 362),
  (362, .iadd, 0, 0, 0, 0, 363),
  (365, .iload 4, 0, 0, 4, 0, 367),
  (367, .iconst 2, 2, 0, 0, 0, 368),
  (368, .iadd, 0, 0, 0, 0, 369),
  (373, .istore 6, 0, 0, 6, 0, 375),
  (375, .aload_n 2, 0, 0, 2, 0, 376),
  (379, .iload 5, 0, 0, 5, 0, 381),
  (381, .if_icmp .eq 5, 0, 0, 386, 0, 384),
  (384, .iconst 0, 0, 0, 0, 0, 385),
  (385, .ireturn, 1, 0, 0, 0, 386),
  (386, .iload 5, 0, 0, 5, 0, 388),
  (388, .ifCond .ne 15, 0, 0, 403, 0, 391),
  (391, .aload_n 3, 0, 0, 3, 0, 392),
  (392, .iconst 0, 0, 0, 0, 0, 393),
  (393, .laload, 0, 0, 0, 0, 394),
  (394, .iload 6, 0, 0, 6, 0, 396),
  (396, .i2l, 0, 0, 0, 0, 397),
  (397, .lcmp, 0, 0, 0, 0, 398),
  (398, .ifCond .eq 5, 0, 0, 403, 0, 401),
  (401, .iconst 0, 0, 0, 0, 0, 402),
  (402, .ireturn, 1, 0, 0, 0, 403),
  (403, .goto 385, 0, 0, 788, 0, 406)]
def z_lrun (b L : Nat) (xs : Nat → Int32) : List (Nat × cz_Z) := [(339, zScr 340),
  (344, zLd 345 b L xs),
  (345, zScr 346),
  (350, zLd 351 b L xs),
  (352, zCall 355 sp_H_run 4 2 12 601024 7293034 lw_rq),
  (358, zScr 359),
  (363, zLd 364 b L xs),
  (364, zScr 365),
  (369, zLd 370 b L xs),
  (370, zCall 373 sp_R_run 3 0 0 601024 7293034 lw_rq),
  (376, zCall 379 sp_R_thrown 1 0 0 601024 7293034 lw_rq)]
theorem k_lrun : t_lrun.all (cx_dec true code ret 7 [] [] [] [] [] [] []) = true := by decide +kernel
theorem o_lrun {p : Program} {l : Launch} {e : Env} {s : State} {m : MethodId} {args : Array Value} {below : List Frame} {meth : Method} {c : Code} {G : cx_G} {b L : Nat} {xs : Nat → Int32} (hG : cx_okG G) (hcl : cx_cl G = cx_cls) (hl : cx_nt l) (S : lw_St G p s m meth c) (hX : va_X b L xs s (cx_H0 G)) (hbl : b < (cx_H0 G).size) : ∀ q ∈ z_lrun b L xs, cz_ok p l e room_1 s m args below meth c G 7 (cx_F1 G 601024 7293034) (cx_Q below G s 601024 7293034 lw_rq) q :=
  List.forall_mem_cons.mpr ⟨zScr_ok S.1 S.2.1 (by decide +kernel),
  List.forall_mem_cons.mpr ⟨zLd_ok S.1 S.2.1 hX hbl (by decide +kernel),
  List.forall_mem_cons.mpr ⟨zScr_ok S.1 S.2.1 (by decide +kernel),
  List.forall_mem_cons.mpr ⟨zLd_ok S.1 S.2.1 hX hbl (by decide +kernel),
  List.forall_mem_cons.mpr ⟨zCall_ok (by decide +kernel) (cw_callS (rm := rm_H_run) (np := 4) S.2.2.2.1 S.1 S.2.1 S.2.2.1 S.2.2.2.2.1 S.2.2.2.2.2.2 S.2.2.2.2.2.1 (c_H_run hG hcl hl) wk_H_run (by decide)),
  List.forall_mem_cons.mpr ⟨zScr_ok S.1 S.2.1 (by decide +kernel),
  List.forall_mem_cons.mpr ⟨zLd_ok S.1 S.2.1 hX hbl (by decide +kernel),
  List.forall_mem_cons.mpr ⟨zScr_ok S.1 S.2.1 (by decide +kernel),
  List.forall_mem_cons.mpr ⟨zLd_ok S.1 S.2.1 hX hbl (by decide +kernel),
  List.forall_mem_cons.mpr ⟨zCall_ok (by decide +kernel) (cx_callV (rm := rm_R_run) (C := r_R) (T0 := f_R) (N0 := 21) (np := 2) cx_TbAll S.1 S.2.1 S.2.2.1 S.2.2.2.2.2.2.1 S.2.2.2.1 S.2.2.2.2.1 S.2.2.2.2.2.1 (by rw [hcl]; rfl) (c_R_run hG hcl) wk_R_run (by decide)),
  List.forall_mem_cons.mpr ⟨zCall_ok (by decide +kernel) (cx_callV (rm := rm_R_thrown) (C := r_R) (T0 := f_R) (N0 := 21) (np := 0) cx_TbAll S.1 S.2.1 S.2.2.1 S.2.2.2.2.2.2.1 S.2.2.2.1 S.2.2.2.2.1 S.2.2.2.2.2.1 (by rw [hcl]; rfl) (c_R_thrown hG hcl) wk_R_thrown (by decide)),
  fun _ h => absurd h List.not_mem_nil⟩⟩⟩⟩⟩⟩⟩⟩⟩⟩⟩
set_option maxRecDepth 100000 in
set_option maxHeartbeats 8000000 in
theorem lc_run {b L : Nat} {xs : Nat → Int32} {V : cx_K} (hV : cz_cl t_lrun (z_lrun b L xs) [] 601024 7293034 lw_rq V) {it : Nat} (hi : 4 * it + 4 ≤ L) (hL : L ≤ 2048) {A : aS} {x : wX} {n : wN} {l : wL} {m : wM} {t : wR} {g : Nat → Int64} {s5 s6 : Option cx_V} {k i : Nat} (hC : rC A x n l m) (hR : rR A t) (hk : k ≤ 291 + 2 * it) (hn : i ≤ 29568 + 12 * it) (nxt : lw_nx V b it) : V 338 (lw_lv b it s5 s6) [] (wd x n l m (wq t [oL g])) k i := by
  have in1 : vp_in (nI (4 * it) + 1) L := lw_i hi hL (j := 1) (by omega)
  have in2 : vp_in (nI (4 * it) + 2) L := lw_i hi hL (j := 2) (by omega)
  refine hV [788] 90 _ _ _ _ _ _ ?_
  conv => whnf
  refine ⟨⟨rfl, in1⟩, ?_⟩
  conv => whnf
  refine ⟨⟨rfl, in2⟩, ?_⟩
  conv => whnf
  refine ⟨⟨by omega, by omega, Nat.le_of_ble_eq_true rfl, Nat.le_of_ble_eq_true rfl⟩, ?_⟩
  conv => whnf
  refine ⟨x, n, l, m, t, g, A, (xs (nI (4 * it) + 1).toNatClampNeg), (xs (nI (4 * it) + 2).toNatClampNeg), rfl, rfl, hC, fun x' n' l' m' g' hC' hg' => ?_⟩
  conv => whnf
  refine ⟨⟨rfl, in1⟩, ?_⟩
  conv => whnf
  refine ⟨⟨rfl, in2⟩, ?_⟩
  conv => whnf
  refine ⟨⟨by omega, by omega, Nat.le_of_ble_eq_true rfl, Nat.le_of_ble_eq_true rfl⟩, ?_⟩
  conv => whnf
  refine ⟨x', n', l', m', t, [oL g'], A, (xs (nI (4 * it) + 1).toNatClampNeg), (xs (nI (4 * it) + 2).toNatClampNeg), rfl, rfl, rfl, hR, fun t' hR' hth => ?_⟩
  conv => whnf
  refine ⟨⟨by omega, by omega, Nat.le_of_ble_eq_true rfl, Nat.le_of_ble_eq_true rfl⟩, ?_⟩
  conv => whnf
  refine ⟨x', n', l', m', t', [oL g'], rfl, rfl, rfl, ?_⟩
  conv => whnf
  refine ⟨fun _ => ?_, fun e3 => absurd hth e3⟩
  conv => whnf
  refine ⟨fun _ => ?_, fun e4 => ?_⟩
  · conv => whnf
    exact nxt _ x' n' l' m' t' g' _ _ _ _ hC' hR' (by omega) (by omega)
  · have h0 : (runS A (xs (nI (4 * it) + 1).toNatClampNeg) (xs (nI (4 * it) + 2).toNatClampNeg)).1 = 0 := Classical.byContradiction fun h => by
      have q := (th_run A (xs (nI (4 * it) + 1).toNatClampNeg) (xs (nI (4 * it) + 2).toNatClampNeg) h).2
      rw [q] at e4
      exact absurd e4 (by decide)
    conv => whnf
    refine ⟨pk_in 0 1 (by omega), ?_⟩
    conv => whnf
    have hc : lg_cmp (g' (0 : Int32).toNatClampNeg) (if (runS A (xs (nI (4 * it) + 1).toNatClampNeg) (xs (nI (4 * it) + 2).toNatClampNeg)).1 = 0 then (runS A (xs (nI (4 * it) + 1).toNatClampNeg) (xs (nI (4 * it) + 2).toNatClampNeg)).2.1 else 0).toInt64 = 0 := by
      rw [show (0 : Int32).toNatClampNeg = 0 from rfl, hg' h0, if_pos h0]
      exact lg_self _
    refine ⟨fun _ => ?_, fun e5 => absurd hc e5⟩
    conv => whnf
    exact nxt _ x' n' l' m' t' g' _ _ _ _ hC' hR' (by omega) (by omega)
theorem wk_H_way : cw_w "CycleCutterLaw" 79 4 m_H_way method_7_code 5 (some .int) [(0, 10, 13, 19)] := ⟨cx_in 434 (by decide +kernel) (by decide +kernel), ⟨cx_in 435 (by decide +kernel) (by decide +kernel), cx_in 23 (by decide +kernel) (by decide +kernel), cx_in 436 (by decide +kernel) (by decide +kernel)⟩, by decide +kernel, ⟨by decide +kernel, by decide +kernel⟩, by decide +kernel⟩
theorem wk_R_way : cx_wV cx_Tb "CycleCutterLaw" r_R "" 81 2 m_R_way prog_6_method_22_code 6 (some (.int)) := ⟨Or.inl (cx_in 651 (by decide +kernel) (by decide +kernel)), ⟨cx_in 652 (by decide +kernel) (by decide +kernel), cx_in 653 (by decide +kernel) (by decide +kernel), cx_in 654 (by decide +kernel) (by decide +kernel)⟩, ⟨by decide +kernel, ⟨by decide +kernel, by decide +kernel⟩, by decide +kernel⟩⟩
def t_lway : List (Nat × cx_E) := [(406, .aload_n 1, 0, 0, 1, 0, 407),
  (408, .iload 4, 0, 0, 4, 0, 410),
  (410, .iconst 1, 1, 0, 0, 0, 411),
  (411, .iadd, 0, 0, 0, 0, 412),
  (414, .iload 4, 0, 0, 4, 0, 416),
  (416, .iconst 2, 2, 0, 0, 0, 417),
  (417, .iadd, 0, 0, 0, 0, 418),
  (419, .aload_n 3, 0, 0, 3, 0, 420),
  (423, .istore 5, 0, 0, 5, 0, 425),
  (425, .aload_n 2, 0, 0, 2, 0, 426),
  (427, .iload 4, 0, 0, 4, 0, 429),
  (429, .iconst 1, 1, 0, 0, 0, 430),
  (430, .iadd, 0, 0, 0, 0, 431),
  (433, .iload 4, 0, 0, 4, 0, 435),
  (435, .iconst 2, 2, 0, 0, 0, 436),
  (436, .iadd, 0, 0, 0, 0, 437),
  (441, .istore 6, 0, 0, 6, 0, 443),
  (443, .aload_n 2, 0, 0, 2, 0, 444),
  (447, .iload 5, 0, 0, 5, 0, 449),
  (449, .if_icmp .eq 5, 0, 0, 454, 0, 452),
  (452, .iconst 0, 0, 0, 0, 0, 453),
  (453, .ireturn, 1, 0, 0, 0, 454),
  (454, .iload 5, 0, 0, 5, 0, 456),
  (456, .ifCond .ne 15, 0, 0, 471, 0, 459),
  (459, .aload_n 3, 0, 0, 3, 0, 460),
  (460, .iconst 0, 0, 0, 0, 0, 461),
  (461, .laload, 0, 0, 0, 0, 462),
  (462, .iload 6, 0, 0, 6, 0, 464),
  (464, .i2l, 0, 0, 0, 0, 465),
  (465, .lcmp, 0, 0, 0, 0, 466),
  (466, .ifCond .eq 5, 0, 0, 471, 0, 469),
  (469, .iconst 0, 0, 0, 0, 0, 470),
  (470, .ireturn, 1, 0, 0, 0, 471),
  (471, .goto 317, 0, 0, 788, 0, 474)]
def z_lway (b L : Nat) (xs : Nat → Int32) : List (Nat × cz_Z) := [(407, zScr 408),
  (412, zLd 413 b L xs),
  (413, zScr 414),
  (418, zLd 419 b L xs),
  (420, zCall 423 sp_H_way 4 2 12 601024 7293034 lw_rq),
  (426, zScr 427),
  (431, zLd 432 b L xs),
  (432, zScr 433),
  (437, zLd 438 b L xs),
  (438, zCall 441 sp_R_way 3 0 0 601024 7293034 lw_rq),
  (444, zCall 447 sp_R_thrown 1 0 0 601024 7293034 lw_rq)]
theorem k_lway : t_lway.all (cx_dec true code ret 7 [] [] [] [] [] [] []) = true := by decide +kernel
theorem o_lway {p : Program} {l : Launch} {e : Env} {s : State} {m : MethodId} {args : Array Value} {below : List Frame} {meth : Method} {c : Code} {G : cx_G} {b L : Nat} {xs : Nat → Int32} (hG : cx_okG G) (hcl : cx_cl G = cx_cls) (hl : cx_nt l) (S : lw_St G p s m meth c) (hX : va_X b L xs s (cx_H0 G)) (hbl : b < (cx_H0 G).size) : ∀ q ∈ z_lway b L xs, cz_ok p l e room_1 s m args below meth c G 7 (cx_F1 G 601024 7293034) (cx_Q below G s 601024 7293034 lw_rq) q :=
  List.forall_mem_cons.mpr ⟨zScr_ok S.1 S.2.1 (by decide +kernel),
  List.forall_mem_cons.mpr ⟨zLd_ok S.1 S.2.1 hX hbl (by decide +kernel),
  List.forall_mem_cons.mpr ⟨zScr_ok S.1 S.2.1 (by decide +kernel),
  List.forall_mem_cons.mpr ⟨zLd_ok S.1 S.2.1 hX hbl (by decide +kernel),
  List.forall_mem_cons.mpr ⟨zCall_ok (by decide +kernel) (cw_callS (rm := rm_H_way) (np := 4) S.2.2.2.1 S.1 S.2.1 S.2.2.1 S.2.2.2.2.1 S.2.2.2.2.2.2 S.2.2.2.2.2.1 (c_H_way hG hcl hl) wk_H_way (by decide)),
  List.forall_mem_cons.mpr ⟨zScr_ok S.1 S.2.1 (by decide +kernel),
  List.forall_mem_cons.mpr ⟨zLd_ok S.1 S.2.1 hX hbl (by decide +kernel),
  List.forall_mem_cons.mpr ⟨zScr_ok S.1 S.2.1 (by decide +kernel),
  List.forall_mem_cons.mpr ⟨zLd_ok S.1 S.2.1 hX hbl (by decide +kernel),
  List.forall_mem_cons.mpr ⟨zCall_ok (by decide +kernel) (cx_callV (rm := rm_R_way) (C := r_R) (T0 := f_R) (N0 := 21) (np := 2) cx_TbAll S.1 S.2.1 S.2.2.1 S.2.2.2.2.2.2.1 S.2.2.2.1 S.2.2.2.2.1 S.2.2.2.2.2.1 (by rw [hcl]; rfl) (c_R_way hG hcl) wk_R_way (by decide)),
  List.forall_mem_cons.mpr ⟨zCall_ok (by decide +kernel) (cx_callV (rm := rm_R_thrown) (C := r_R) (T0 := f_R) (N0 := 21) (np := 0) cx_TbAll S.1 S.2.1 S.2.2.1 S.2.2.2.2.2.2.1 S.2.2.2.1 S.2.2.2.2.1 S.2.2.2.2.2.1 (by rw [hcl]; rfl) (c_R_thrown hG hcl) wk_R_thrown (by decide)),
  fun _ h => absurd h List.not_mem_nil⟩⟩⟩⟩⟩⟩⟩⟩⟩⟩⟩
set_option maxRecDepth 100000 in
set_option maxHeartbeats 8000000 in
theorem lc_way {b L : Nat} {xs : Nat → Int32} {V : cx_K} (hV : cz_cl t_lway (z_lway b L xs) [] 601024 7293034 lw_rq V) {it : Nat} (hi : 4 * it + 4 ≤ L) (hL : L ≤ 2048) {A : aS} {x : wX} {n : wN} {l : wL} {m : wM} {t : wR} {g : Nat → Int64} {s5 s6 : Option cx_V} {k i : Nat} (hC : rC A x n l m) (hR : rR A t) (hk : k ≤ 291 + 2 * it) (hn : i ≤ 29568 + 12 * it) (nxt : lw_nx V b it) : V 406 (lw_lv b it s5 s6) [] (wd x n l m (wq t [oL g])) k i := by
  have in1 : vp_in (nI (4 * it) + 1) L := lw_i hi hL (j := 1) (by omega)
  have in2 : vp_in (nI (4 * it) + 2) L := lw_i hi hL (j := 2) (by omega)
  refine hV [788] 90 _ _ _ _ _ _ ?_
  conv => whnf
  refine ⟨⟨rfl, in1⟩, ?_⟩
  conv => whnf
  refine ⟨⟨rfl, in2⟩, ?_⟩
  conv => whnf
  refine ⟨⟨by omega, by omega, Nat.le_of_ble_eq_true rfl, Nat.le_of_ble_eq_true rfl⟩, ?_⟩
  conv => whnf
  refine ⟨x, n, l, m, t, g, A, (xs (nI (4 * it) + 1).toNatClampNeg), (xs (nI (4 * it) + 2).toNatClampNeg), rfl, rfl, hC, fun x' n' l' m' g' hC' hg' => ?_⟩
  conv => whnf
  refine ⟨⟨rfl, in1⟩, ?_⟩
  conv => whnf
  refine ⟨⟨rfl, in2⟩, ?_⟩
  conv => whnf
  refine ⟨⟨by omega, by omega, Nat.le_of_ble_eq_true rfl, Nat.le_of_ble_eq_true rfl⟩, ?_⟩
  conv => whnf
  refine ⟨x', n', l', m', t, [oL g'], A, (xs (nI (4 * it) + 1).toNatClampNeg), (xs (nI (4 * it) + 2).toNatClampNeg), rfl, rfl, rfl, hR, fun t' hR' hth => ?_⟩
  conv => whnf
  refine ⟨⟨by omega, by omega, Nat.le_of_ble_eq_true rfl, Nat.le_of_ble_eq_true rfl⟩, ?_⟩
  conv => whnf
  refine ⟨x', n', l', m', t', [oL g'], rfl, rfl, rfl, ?_⟩
  conv => whnf
  refine ⟨fun _ => ?_, fun e3 => absurd hth e3⟩
  conv => whnf
  refine ⟨fun _ => ?_, fun e4 => ?_⟩
  · conv => whnf
    exact nxt _ x' n' l' m' t' g' _ _ _ _ hC' hR' (by omega) (by omega)
  · have h0 : (wayS A (xs (nI (4 * it) + 1).toNatClampNeg) (xs (nI (4 * it) + 2).toNatClampNeg)).1 = 0 := Classical.byContradiction fun h => by
      have q := (th_way A (xs (nI (4 * it) + 1).toNatClampNeg) (xs (nI (4 * it) + 2).toNatClampNeg) h).2
      rw [q] at e4
      exact absurd e4 (by decide)
    conv => whnf
    refine ⟨pk_in 0 1 (by omega), ?_⟩
    conv => whnf
    have hc : lg_cmp (g' (0 : Int32).toNatClampNeg) (if (wayS A (xs (nI (4 * it) + 1).toNatClampNeg) (xs (nI (4 * it) + 2).toNatClampNeg)).1 = 0 then (wayS A (xs (nI (4 * it) + 1).toNatClampNeg) (xs (nI (4 * it) + 2).toNatClampNeg)).2.1 else 0).toInt64 = 0 := by
      rw [show (0 : Int32).toNatClampNeg = 0 from rfl, hg' h0, if_pos h0]
      exact lg_self _
    refine ⟨fun _ => ?_, fun e5 => absurd hc e5⟩
    conv => whnf
    exact nxt _ x' n' l' m' t' g' _ _ _ _ hC' hR' (by omega) (by omega)
theorem wk_C_at : cx_wV cx_Tb "CycleCutterLaw" r_C "" 82 1 m_C_at prog_1_method_9_code 2 (some (.int)) := ⟨Or.inl (cx_in 253 (by decide +kernel) (by decide +kernel)), ⟨cx_in 254 (by decide +kernel) (by decide +kernel), cx_in 255 (by decide +kernel) (by decide +kernel), cx_in 256 (by decide +kernel) (by decide +kernel)⟩, ⟨by decide +kernel, ⟨by decide +kernel, by decide +kernel⟩, by decide +kernel⟩⟩
theorem wk_R_at : cx_wV cx_Tb "CycleCutterLaw" r_R "" 85 1 m_R_at prog_6_method_23_code 4 (some (.int)) := ⟨Or.inl (cx_in 655 (by decide +kernel) (by decide +kernel)), ⟨cx_in 656 (by decide +kernel) (by decide +kernel), cx_in 657 (by decide +kernel) (by decide +kernel), cx_in 658 (by decide +kernel) (by decide +kernel)⟩, ⟨by decide +kernel, ⟨by decide +kernel, by decide +kernel⟩, by decide +kernel⟩⟩
def t_lat : List (Nat × cx_E) := [(474, .aload_n 1, 0, 0, 1, 0, 475),
  (476, .iload 4, 0, 0, 4, 0, 478),
  (478, .iconst 1, 1, 0, 0, 0, 479),
  (479, .iadd, 0, 0, 0, 0, 480),
  (484, .aload_n 2, 0, 0, 2, 0, 485),
  (486, .iload 4, 0, 0, 4, 0, 488),
  (488, .iconst 1, 1, 0, 0, 0, 489),
  (489, .iadd, 0, 0, 0, 0, 490),
  (494, .if_icmp .eq 294, 0, 0, 788, 0, 497),
  (497, .iconst 0, 0, 0, 0, 0, 498),
  (498, .ireturn, 1, 0, 0, 0, 499)]
def z_lat (b L : Nat) (xs : Nat → Int32) : List (Nat × cz_Z) := [(475, zScr 476),
  (480, zLd 481 b L xs),
  (481, zCall 484 sp_C_at 2 0 0 601024 7293034 lw_rq),
  (485, zScr 486),
  (490, zLd 491 b L xs),
  (491, zCall 494 sp_R_at 2 0 0 601024 7293034 lw_rq)]
theorem k_lat : t_lat.all (cx_dec true code ret 7 [] [] [] [] [] [] []) = true := by decide +kernel
theorem o_lat {p : Program} {l : Launch} {e : Env} {s : State} {m : MethodId} {args : Array Value} {below : List Frame} {meth : Method} {c : Code} {G : cx_G} {b L : Nat} {xs : Nat → Int32} (hG : cx_okG G) (hcl : cx_cl G = cx_cls) (hl : cx_nt l) (S : lw_St G p s m meth c) (hX : va_X b L xs s (cx_H0 G)) (hbl : b < (cx_H0 G).size) : ∀ q ∈ z_lat b L xs, cz_ok p l e room_1 s m args below meth c G 7 (cx_F1 G 601024 7293034) (cx_Q below G s 601024 7293034 lw_rq) q :=
  List.forall_mem_cons.mpr ⟨zScr_ok S.1 S.2.1 (by decide +kernel),
  List.forall_mem_cons.mpr ⟨zLd_ok S.1 S.2.1 hX hbl (by decide +kernel),
  List.forall_mem_cons.mpr ⟨zCall_ok (by decide +kernel) (cx_callV (rm := rm_C_at) (C := r_C) (T0 := f_C) (N0 := 4) (np := 1) cx_TbAll S.1 S.2.1 S.2.2.1 S.2.2.2.2.2.2.1 S.2.2.2.1 S.2.2.2.2.1 S.2.2.2.2.2.1 (by rw [hcl]; rfl) (c_C_at hG hcl) wk_C_at (by decide)),
  List.forall_mem_cons.mpr ⟨zScr_ok S.1 S.2.1 (by decide +kernel),
  List.forall_mem_cons.mpr ⟨zLd_ok S.1 S.2.1 hX hbl (by decide +kernel),
  List.forall_mem_cons.mpr ⟨zCall_ok (by decide +kernel) (cx_callV (rm := rm_R_at) (C := r_R) (T0 := f_R) (N0 := 21) (np := 1) cx_TbAll S.1 S.2.1 S.2.2.1 S.2.2.2.2.2.2.1 S.2.2.2.1 S.2.2.2.2.1 S.2.2.2.2.2.1 (by rw [hcl]; rfl) (c_R_at hG hcl) wk_R_at (by decide)),
  fun _ h => absurd h List.not_mem_nil⟩⟩⟩⟩⟩⟩
set_option maxRecDepth 100000 in
set_option maxHeartbeats 8000000 in
theorem lc_at {b L : Nat} {xs : Nat → Int32} {V : cx_K} (hV : cz_cl t_lat (z_lat b L xs) [] 601024 7293034 lw_rq V) {it : Nat} (hi : 4 * it + 4 ≤ L) (hL : L ≤ 2048) {A : aS} {x : wX} {n : wN} {l : wL} {m : wM} {t : wR} {g : Nat → Int64} {s5 s6 : Option cx_V} {k i : Nat} (hC : rC A x n l m) (hR : rR A t) (hk : k ≤ 291 + 2 * it) (hn : i ≤ 29568 + 12 * it) (nxt : lw_nx V b it) : V 474 (lw_lv b it s5 s6) [] (wd x n l m (wq t [oL g])) k i := by
  have in1 : vp_in (nI (4 * it) + 1) L := lw_i hi hL (j := 1) (by omega)
  refine hV [788] 90 _ _ _ _ _ _ ?_
  conv => whnf
  refine ⟨⟨rfl, in1⟩, ?_⟩
  conv => whnf
  refine ⟨⟨by omega, by omega, Nat.le_of_ble_eq_true rfl, Nat.le_of_ble_eq_true rfl⟩, ?_⟩
  conv => whnf
  refine ⟨x, n, l, m, wq t [oL g], A, (xs (nI (4 * it) + 1).toNatClampNeg), rfl, rfl, rfl, hC, fun _ x' n' l' m' hC' => ?_, fun h0 => absurd rfl h0⟩
  conv => whnf
  refine ⟨⟨rfl, in1⟩, ?_⟩
  conv => whnf
  refine ⟨⟨by omega, by omega, Nat.le_of_ble_eq_true rfl, Nat.le_of_ble_eq_true rfl⟩, ?_⟩
  conv => whnf
  refine ⟨x', n', l', m', t, [oL g], A, (xs (nI (4 * it) + 1).toNatClampNeg), rfl, rfl, rfl, hR, fun t' hR' hth => ?_⟩
  conv => whnf
  refine ⟨fun _ => ?_, fun e3 => absurd (if_pos rfl).symm e3⟩
  exact nxt _ x' n' l' m' t' g _ _ _ _ hC' hR' (by omega) (by omega)
theorem wk_H_size : cw_w "CycleCutterLaw" 86 4 m_H_size method_8_code 5 (some .int) [(0, 10, 13, 19)] := ⟨cx_in 449 (by decide +kernel) (by decide +kernel), ⟨cx_in 450 (by decide +kernel) (by decide +kernel), cx_in 23 (by decide +kernel) (by decide +kernel), cx_in 451 (by decide +kernel) (by decide +kernel)⟩, by decide +kernel, ⟨by decide +kernel, by decide +kernel⟩, by decide +kernel⟩
theorem wk_R_size : cx_wV cx_Tb "CycleCutterLaw" r_R "" 89 2 m_R_size prog_6_method_24_code 8 (some (.int)) := ⟨Or.inl (cx_in 659 (by decide +kernel) (by decide +kernel)), ⟨cx_in 660 (by decide +kernel) (by decide +kernel), cx_in 661 (by decide +kernel) (by decide +kernel), cx_in 662 (by decide +kernel) (by decide +kernel)⟩, ⟨by decide +kernel, ⟨by decide +kernel, by decide +kernel⟩, by decide +kernel⟩⟩
def t_lsize : List (Nat × cx_E) := [(499, .aload_n 1, 0, 0, 1, 0, 500),
  (501, .iload 4, 0, 0, 4, 0, 503),
  (503, .iconst 1, 1, 0, 0, 0, 504),
  (504, .iadd, 0, 0, 0, 0, 505),
  (507, .iload 4, 0, 0, 4, 0, 509),
  (509, .iconst 2, 2, 0, 0, 0, 510),
  (510, .iadd, 0, 0, 0, 0, 511),
  (512, .ifCond .eq 7, 0, 0, 519, 0, 515),
  (515, .iconst 1, 1, 0, 0, 0, 516),
  (516, .goto 4, 0, 0, 520, 0, 519),
  (519, .iconst 0, 0, 0, 0, 0, 520),
  (520, .aload_n 3, 0, 0, 3, 0, 521),
  (524, .istore 5, 0, 0, 5, 0, 526),
  (526, .aload_n 2, 0, 0, 2, 0, 527),
  (528, .iload 4, 0, 0, 4, 0, 530),
  (530, .iconst 1, 1, 0, 0, 0, 531),
  (531, .iadd, 0, 0, 0, 0, 532),
  (534, .iload 4, 0, 0, 4, 0, 536),
  (536, .iconst 2, 2, 0, 0, 0, 537),
  (537, .iadd, 0, 0, 0, 0, 538),
  (539, .ifCond .eq 7, 0, 0, 546, 0, 542),
  (542, .iconst 1, 1, 0, 0, 0, 543),
  (543, .goto 4, 0, 0, 547, 0, 546),
  (546, .iconst 0, 0, 0, 0, 0, 547),
  (550, .istore 6, 0, 0, 6, 0, 552),
  (552, .aload_n 2, 0, 0, 2, 0, 553),
  (556, .iload 5, 0, 0, 5, 0, 558),
  (558, .if_icmp .eq 5, 0, 0, 563, 0, 561),
  (561, .iconst 0, 0, 0, 0, 0, 562),
  (562, .ireturn, 1, 0, 0, 0, 563),
  (563, .iload 5, 0, 0, 5, 0, 565),
  (565, .ifCond .ne 15, 0, 0, 580, 0, 568),
  (568, .aload_n 3, 0, 0, 3, 0, 569),
  (569, .iconst 0, 0, 0, 0, 0, 570),
  (570, .laload, 0, 0, 0, 0, 571),
  (571, .iload 6, 0, 0, 6, 0, 573),
  (573, .i2l, 0, 0, 0, 0, 574),
  (574, .lcmp, 0, 0, 0, 0, 575),
  (575, .ifCond .eq 5, 0, 0, 580, 0, 578),
  (578, .iconst 0, 0, 0, 0, 0, 579),
  (579, .ireturn, 1, 0, 0, 0, 580),
  (580, .goto 208, 0, 0, 788, 0, 583)]
def z_lsize (b L : Nat) (xs : Nat → Int32) : List (Nat × cz_Z) := [(500, zScr 501),
  (505, zLd 506 b L xs),
  (506, zScr 507),
  (511, zLd 512 b L xs),
  (521, zCall 524 sp_H_size 4 1 6 601024 7293034 lw_rq),
  (527, zScr 528),
  (532, zLd 533 b L xs),
  (533, zScr 534),
  (538, zLd 539 b L xs),
  (547, zCall 550 sp_R_size 3 0 0 601024 7293034 lw_rq),
  (553, zCall 556 sp_R_thrown 1 0 0 601024 7293034 lw_rq)]
theorem k_lsize : t_lsize.all (cx_dec true code ret 7 [] [] [] [] [] [] []) = true := by decide +kernel
theorem o_lsize {p : Program} {l : Launch} {e : Env} {s : State} {m : MethodId} {args : Array Value} {below : List Frame} {meth : Method} {c : Code} {G : cx_G} {b L : Nat} {xs : Nat → Int32} (hG : cx_okG G) (hcl : cx_cl G = cx_cls) (hl : cx_nt l) (S : lw_St G p s m meth c) (hX : va_X b L xs s (cx_H0 G)) (hbl : b < (cx_H0 G).size) : ∀ q ∈ z_lsize b L xs, cz_ok p l e room_1 s m args below meth c G 7 (cx_F1 G 601024 7293034) (cx_Q below G s 601024 7293034 lw_rq) q :=
  List.forall_mem_cons.mpr ⟨zScr_ok S.1 S.2.1 (by decide +kernel),
  List.forall_mem_cons.mpr ⟨zLd_ok S.1 S.2.1 hX hbl (by decide +kernel),
  List.forall_mem_cons.mpr ⟨zScr_ok S.1 S.2.1 (by decide +kernel),
  List.forall_mem_cons.mpr ⟨zLd_ok S.1 S.2.1 hX hbl (by decide +kernel),
  List.forall_mem_cons.mpr ⟨zCall_ok (by decide +kernel) (cw_callS (rm := rm_H_size) (np := 4) S.2.2.2.1 S.1 S.2.1 S.2.2.1 S.2.2.2.2.1 S.2.2.2.2.2.2 S.2.2.2.2.2.1 (c_H_size hG hcl hl) wk_H_size (by decide)),
  List.forall_mem_cons.mpr ⟨zScr_ok S.1 S.2.1 (by decide +kernel),
  List.forall_mem_cons.mpr ⟨zLd_ok S.1 S.2.1 hX hbl (by decide +kernel),
  List.forall_mem_cons.mpr ⟨zScr_ok S.1 S.2.1 (by decide +kernel),
  List.forall_mem_cons.mpr ⟨zLd_ok S.1 S.2.1 hX hbl (by decide +kernel),
  List.forall_mem_cons.mpr ⟨zCall_ok (by decide +kernel) (cx_callV (rm := rm_R_size) (C := r_R) (T0 := f_R) (N0 := 21) (np := 2) cx_TbAll S.1 S.2.1 S.2.2.1 S.2.2.2.2.2.2.1 S.2.2.2.1 S.2.2.2.2.1 S.2.2.2.2.2.1 (by rw [hcl]; rfl) (c_R_size hG hcl) wk_R_size (by decide)),
  List.forall_mem_cons.mpr ⟨zCall_ok (by decide +kernel) (cx_callV (rm := rm_R_thrown) (C := r_R) (T0 := f_R) (N0 := 21) (np := 0) cx_TbAll S.1 S.2.1 S.2.2.1 S.2.2.2.2.2.2.1 S.2.2.2.1 S.2.2.2.2.1 S.2.2.2.2.2.1 (by rw [hcl]; rfl) (c_R_thrown hG hcl) wk_R_thrown (by decide)),
  fun _ h => absurd h List.not_mem_nil⟩⟩⟩⟩⟩⟩⟩⟩⟩⟩⟩
set_option maxRecDepth 100000 in
set_option maxHeartbeats 8000000 in
theorem lc_size {b L : Nat} {xs : Nat → Int32} {V : cx_K} (hV : cz_cl t_lsize (z_lsize b L xs) [] 601024 7293034 lw_rq V) {it : Nat} (hi : 4 * it + 4 ≤ L) (hL : L ≤ 2048) {A : aS} {x : wX} {n : wN} {l : wL} {m : wM} {t : wR} {g : Nat → Int64} {s5 s6 : Option cx_V} {k i : Nat} (hC : rC A x n l m) (hR : rR A t) (hk : k ≤ 291 + 2 * it) (hn : i ≤ 29568 + 12 * it) (nxt : lw_nx V b it) : V 499 (lw_lv b it s5 s6) [] (wd x n l m (wq t [oL g])) k i := by
  have in1 : vp_in (nI (4 * it) + 1) L := lw_i hi hL (j := 1) (by omega)
  have in2 : vp_in (nI (4 * it) + 2) L := lw_i hi hL (j := 2) (by omega)
  refine hV [788] 90 _ _ _ _ _ _ ?_
  conv => whnf
  refine ⟨⟨rfl, in1⟩, ?_⟩
  conv => whnf
  refine ⟨⟨rfl, in2⟩, ?_⟩
  conv => whnf
  refine ⟨fun e => ?_, fun e => ?_⟩
  · conv => whnf
    refine ⟨⟨by omega, by omega, Nat.le_of_ble_eq_true rfl, Nat.le_of_ble_eq_true rfl⟩, ?_⟩
    conv => whnf
    refine ⟨x, n, l, m, t, g, A, (xs (nI (4 * it) + 1).toNatClampNeg), false, rfl, rfl, hC, fun x' n' l' m' g' hC' hg' => ?_⟩
    conv => whnf
    refine ⟨⟨rfl, in1⟩, ?_⟩
    conv => whnf
    refine ⟨⟨rfl, in2⟩, ?_⟩
    conv => whnf
    refine ⟨fun _ => ?_, fun e2 => absurd e e2⟩
    conv => whnf
    refine ⟨⟨by omega, by omega, Nat.le_of_ble_eq_true rfl, Nat.le_of_ble_eq_true rfl⟩, ?_⟩
    conv => whnf
    refine ⟨x', n', l', m', t, [oL g'], A, (xs (nI (4 * it) + 1).toNatClampNeg), false, rfl, rfl, rfl, hR, fun t' hR' hth => ?_⟩
    conv => whnf
    refine ⟨⟨by omega, by omega, Nat.le_of_ble_eq_true rfl, Nat.le_of_ble_eq_true rfl⟩, ?_⟩
    conv => whnf
    refine ⟨x', n', l', m', t', [oL g'], rfl, rfl, rfl, ?_⟩
    conv => whnf
    refine ⟨fun _ => ?_, fun e3 => absurd hth e3⟩
    conv => whnf
    refine ⟨fun _ => ?_, fun e4 => ?_⟩
    · conv => whnf
      exact nxt _ x' n' l' m' t' g' _ _ _ _ hC' hR' (by omega) (by omega)
    · have h0 : (sizS A (xs (nI (4 * it) + 1).toNatClampNeg) false).1 = 0 := Classical.byContradiction fun h => by
        have q := (th_size A (xs (nI (4 * it) + 1).toNatClampNeg) false h).2
        rw [q] at e4
        exact absurd e4 (by decide)
      conv => whnf
      refine ⟨pk_in 0 1 (by omega), ?_⟩
      conv => whnf
      have hc : lg_cmp (g' (0 : Int32).toNatClampNeg) (if (sizS A (xs (nI (4 * it) + 1).toNatClampNeg) false).1 = 0 then (sizS A (xs (nI (4 * it) + 1).toNatClampNeg) false).2.1 else 0).toInt64 = 0 := by
        rw [show (0 : Int32).toNatClampNeg = 0 from rfl, hg' h0, if_pos h0]
        exact lg_self _
      refine ⟨fun _ => ?_, fun e5 => absurd hc e5⟩
      conv => whnf
      exact nxt _ x' n' l' m' t' g' _ _ _ _ hC' hR' (by omega) (by omega)
  · conv => whnf
    refine ⟨⟨by omega, by omega, Nat.le_of_ble_eq_true rfl, Nat.le_of_ble_eq_true rfl⟩, ?_⟩
    conv => whnf
    refine ⟨x, n, l, m, t, g, A, (xs (nI (4 * it) + 1).toNatClampNeg), true, rfl, rfl, hC, fun x' n' l' m' g' hC' hg' => ?_⟩
    conv => whnf
    refine ⟨⟨rfl, in1⟩, ?_⟩
    conv => whnf
    refine ⟨⟨rfl, in2⟩, ?_⟩
    conv => whnf
    refine ⟨fun e2 => absurd e2 e, fun _ => ?_⟩
    conv => whnf
    refine ⟨⟨by omega, by omega, Nat.le_of_ble_eq_true rfl, Nat.le_of_ble_eq_true rfl⟩, ?_⟩
    conv => whnf
    refine ⟨x', n', l', m', t, [oL g'], A, (xs (nI (4 * it) + 1).toNatClampNeg), true, rfl, rfl, rfl, hR, fun t' hR' hth => ?_⟩
    conv => whnf
    refine ⟨⟨by omega, by omega, Nat.le_of_ble_eq_true rfl, Nat.le_of_ble_eq_true rfl⟩, ?_⟩
    conv => whnf
    refine ⟨x', n', l', m', t', [oL g'], rfl, rfl, rfl, ?_⟩
    conv => whnf
    refine ⟨fun _ => ?_, fun e3 => absurd hth e3⟩
    conv => whnf
    refine ⟨fun _ => ?_, fun e4 => ?_⟩
    · conv => whnf
      exact nxt _ x' n' l' m' t' g' _ _ _ _ hC' hR' (by omega) (by omega)
    · have h0 : (sizS A (xs (nI (4 * it) + 1).toNatClampNeg) true).1 = 0 := Classical.byContradiction fun h => by
        have q := (th_size A (xs (nI (4 * it) + 1).toNatClampNeg) true h).2
        rw [q] at e4
        exact absurd e4 (by decide)
      conv => whnf
      refine ⟨pk_in 0 1 (by omega), ?_⟩
      conv => whnf
      have hc : lg_cmp (g' (0 : Int32).toNatClampNeg) (if (sizS A (xs (nI (4 * it) + 1).toNatClampNeg) true).1 = 0 then (sizS A (xs (nI (4 * it) + 1).toNatClampNeg) true).2.1 else 0).toInt64 = 0 := by
        rw [show (0 : Int32).toNatClampNeg = 0 from rfl, hg' h0, if_pos h0]
        exact lg_self _
      refine ⟨fun _ => ?_, fun e5 => absurd hc e5⟩
      conv => whnf
      exact nxt _ x' n' l' m' t' g' _ _ _ _ hC' hR' (by omega) (by omega)
theorem wk_H_known : cw_w "CycleCutterLaw" 90 3 m_H_known method_9_code 4 (some .int) [(0, 9, 12, 19)] := ⟨cx_in 460 (by decide +kernel) (by decide +kernel), ⟨cx_in 461 (by decide +kernel) (by decide +kernel), cx_in 23 (by decide +kernel) (by decide +kernel), cx_in 462 (by decide +kernel) (by decide +kernel)⟩, by decide +kernel, ⟨by decide +kernel, by decide +kernel⟩, by decide +kernel⟩
theorem wk_R_known : cx_wV cx_Tb "CycleCutterLaw" r_R "" 92 1 m_R_known prog_6_method_26_code 4 (some (.int)) := ⟨Or.inl (cx_in 667 (by decide +kernel) (by decide +kernel)), ⟨cx_in 668 (by decide +kernel) (by decide +kernel), cx_in 669 (by decide +kernel) (by decide +kernel), cx_in 670 (by decide +kernel) (by decide +kernel)⟩, ⟨by decide +kernel, ⟨by decide +kernel, by decide +kernel⟩, by decide +kernel⟩⟩
def t_lknown : List (Nat × cx_E) := [(583, .aload_n 1, 0, 0, 1, 0, 584),
  (585, .iload 4, 0, 0, 4, 0, 587),
  (587, .iconst 1, 1, 0, 0, 0, 588),
  (588, .iadd, 0, 0, 0, 0, 589),
  (590, .aload_n 3, 0, 0, 3, 0, 591),
  (594, .istore 5, 0, 0, 5, 0, 596),
  (596, .aload_n 2, 0, 0, 2, 0, 597),
  (598, .iload 4, 0, 0, 4, 0, 600),
  (600, .iconst 1, 1, 0, 0, 0, 601),
  (601, .iadd, 0, 0, 0, 0, 602),
  (606, .istore 6, 0, 0, 6, 0, 608),
  (608, .aload_n 2, 0, 0, 2, 0, 609),
  (612, .iload 5, 0, 0, 5, 0, 614),
  (614, .if_icmp .eq 5, 0, 0, 619, 0, 617),
  (617, .iconst 0, 0, 0, 0, 0, 618),
  (618, .ireturn, 1, 0, 0, 0, 619),
  (619, .iload 5, 0, 0, 5, 0, 621),
  (621, .ifCond .ne 15, 0, 0, 636, 0, 624),
  (624, .aload_n 3, 0, 0, 3, 0, 625),
  (625, .iconst 0, 0, 0, 0, 0, 626),
  (626, .laload, 0, 0, 0, 0, 627),
  (627, .iload 6, 0, 0, 6, 0, 629),
  (629, .i2l, 0, 0, 0, 0, 630),
  (630, .lcmp, 0, 0, 0, 0, 631),
  (631, .ifCond .eq 5, 0, 0, 636, 0, 634),
  (634, .iconst 0, 0, 0, 0, 0, 635),
  (635, .ireturn, 1, 0, 0, 0, 636),
  (636, .goto 152, 0, 0, 788, 0, 639)]
def z_lknown (b L : Nat) (xs : Nat → Int32) : List (Nat × cz_Z) := [(584, zScr 585),
  (589, zLd 590 b L xs),
  (591, zCall 594 sp_H_known 3 1 6 601024 7293034 lw_rq),
  (597, zScr 598),
  (602, zLd 603 b L xs),
  (603, zCall 606 sp_R_known 2 0 0 601024 7293034 lw_rq),
  (609, zCall 612 sp_R_thrown 1 0 0 601024 7293034 lw_rq)]
theorem k_lknown : t_lknown.all (cx_dec true code ret 7 [] [] [] [] [] [] []) = true := by decide +kernel
theorem o_lknown {p : Program} {l : Launch} {e : Env} {s : State} {m : MethodId} {args : Array Value} {below : List Frame} {meth : Method} {c : Code} {G : cx_G} {b L : Nat} {xs : Nat → Int32} (hG : cx_okG G) (hcl : cx_cl G = cx_cls) (hl : cx_nt l) (S : lw_St G p s m meth c) (hX : va_X b L xs s (cx_H0 G)) (hbl : b < (cx_H0 G).size) : ∀ q ∈ z_lknown b L xs, cz_ok p l e room_1 s m args below meth c G 7 (cx_F1 G 601024 7293034) (cx_Q below G s 601024 7293034 lw_rq) q :=
  List.forall_mem_cons.mpr ⟨zScr_ok S.1 S.2.1 (by decide +kernel),
  List.forall_mem_cons.mpr ⟨zLd_ok S.1 S.2.1 hX hbl (by decide +kernel),
  List.forall_mem_cons.mpr ⟨zCall_ok (by decide +kernel) (cw_callS (rm := rm_H_known) (np := 3) S.2.2.2.1 S.1 S.2.1 S.2.2.1 S.2.2.2.2.1 S.2.2.2.2.2.2 S.2.2.2.2.2.1 (c_H_known hG hcl hl) wk_H_known (by decide)),
  List.forall_mem_cons.mpr ⟨zScr_ok S.1 S.2.1 (by decide +kernel),
  List.forall_mem_cons.mpr ⟨zLd_ok S.1 S.2.1 hX hbl (by decide +kernel),
  List.forall_mem_cons.mpr ⟨zCall_ok (by decide +kernel) (cx_callV (rm := rm_R_known) (C := r_R) (T0 := f_R) (N0 := 21) (np := 1) cx_TbAll S.1 S.2.1 S.2.2.1 S.2.2.2.2.2.2.1 S.2.2.2.1 S.2.2.2.2.1 S.2.2.2.2.2.1 (by rw [hcl]; rfl) (c_R_known hG hcl) wk_R_known (by decide)),
  List.forall_mem_cons.mpr ⟨zCall_ok (by decide +kernel) (cx_callV (rm := rm_R_thrown) (C := r_R) (T0 := f_R) (N0 := 21) (np := 0) cx_TbAll S.1 S.2.1 S.2.2.1 S.2.2.2.2.2.2.1 S.2.2.2.1 S.2.2.2.2.1 S.2.2.2.2.2.1 (by rw [hcl]; rfl) (c_R_thrown hG hcl) wk_R_thrown (by decide)),
  fun _ h => absurd h List.not_mem_nil⟩⟩⟩⟩⟩⟩⟩
set_option maxRecDepth 100000 in
set_option maxHeartbeats 8000000 in
theorem lc_known {b L : Nat} {xs : Nat → Int32} {V : cx_K} (hV : cz_cl t_lknown (z_lknown b L xs) [] 601024 7293034 lw_rq V) {it : Nat} (hi : 4 * it + 4 ≤ L) (hL : L ≤ 2048) {A : aS} {x : wX} {n : wN} {l : wL} {m : wM} {t : wR} {g : Nat → Int64} {s5 s6 : Option cx_V} {k i : Nat} (hC : rC A x n l m) (hR : rR A t) (hk : k ≤ 291 + 2 * it) (hn : i ≤ 29568 + 12 * it) (nxt : lw_nx V b it) : V 583 (lw_lv b it s5 s6) [] (wd x n l m (wq t [oL g])) k i := by
  have in1 : vp_in (nI (4 * it) + 1) L := lw_i hi hL (j := 1) (by omega)
  refine hV [788] 90 _ _ _ _ _ _ ?_
  conv => whnf
  refine ⟨⟨rfl, in1⟩, ?_⟩
  conv => whnf
  refine ⟨⟨by omega, by omega, Nat.le_of_ble_eq_true rfl, Nat.le_of_ble_eq_true rfl⟩, ?_⟩
  conv => whnf
  refine ⟨x, n, l, m, t, g, A, (xs (nI (4 * it) + 1).toNatClampNeg), rfl, rfl, hC, fun x' n' l' m' g' hC' hg' => ?_⟩
  conv => whnf
  refine ⟨⟨rfl, in1⟩, ?_⟩
  conv => whnf
  refine ⟨⟨by omega, by omega, Nat.le_of_ble_eq_true rfl, Nat.le_of_ble_eq_true rfl⟩, ?_⟩
  conv => whnf
  refine ⟨x', n', l', m', t, [oL g'], A, (xs (nI (4 * it) + 1).toNatClampNeg), rfl, rfl, rfl, hR, fun t' hR' hth => ?_⟩
  conv => whnf
  refine ⟨⟨by omega, by omega, Nat.le_of_ble_eq_true rfl, Nat.le_of_ble_eq_true rfl⟩, ?_⟩
  conv => whnf
  refine ⟨x', n', l', m', t', [oL g'], rfl, rfl, rfl, ?_⟩
  conv => whnf
  refine ⟨fun _ => ?_, fun e3 => absurd hth e3⟩
  conv => whnf
  refine ⟨fun _ => ?_, fun e4 => ?_⟩
  · conv => whnf
    exact nxt _ x' n' l' m' t' g' _ _ _ _ hC' hR' (by omega) (by omega)
  · have h0 : (knoS A (xs (nI (4 * it) + 1).toNatClampNeg)).1 = 0 := Classical.byContradiction fun h => by
      have q := (th_known A (xs (nI (4 * it) + 1).toNatClampNeg) h).2
      rw [q] at e4
      exact absurd e4 (by decide)
    conv => whnf
    refine ⟨pk_in 0 1 (by omega), ?_⟩
    conv => whnf
    have hc : lg_cmp (g' (0 : Int32).toNatClampNeg) (if (knoS A (xs (nI (4 * it) + 1).toNatClampNeg)).1 = 0 then (knoS A (xs (nI (4 * it) + 1).toNatClampNeg)).2.1 else 0).toInt64 = 0 := by
      rw [show (0 : Int32).toNatClampNeg = 0 from rfl, hg' h0, if_pos h0]
      exact lg_self _
    refine ⟨fun _ => ?_, fun e5 => absurd hc e5⟩
    conv => whnf
    exact nxt _ x' n' l' m' t' g' _ _ _ _ hC' hR' (by omega) (by omega)
theorem wk_H_doubt : cw_w "CycleCutterLaw" 93 3 m_H_doubt method_10_code 4 (some .int) [(0, 9, 12, 19)] := ⟨cx_in 477 (by decide +kernel) (by decide +kernel), ⟨cx_in 478 (by decide +kernel) (by decide +kernel), cx_in 23 (by decide +kernel) (by decide +kernel), cx_in 479 (by decide +kernel) (by decide +kernel)⟩, by decide +kernel, ⟨by decide +kernel, by decide +kernel⟩, by decide +kernel⟩
theorem wk_R_doubt : cx_wV cx_Tb "CycleCutterLaw" r_R "" 95 1 m_R_doubt prog_6_method_27_code 4 (some (.int)) := ⟨Or.inl (cx_in 671 (by decide +kernel) (by decide +kernel)), ⟨cx_in 672 (by decide +kernel) (by decide +kernel), cx_in 673 (by decide +kernel) (by decide +kernel), cx_in 674 (by decide +kernel) (by decide +kernel)⟩, ⟨by decide +kernel, ⟨by decide +kernel, by decide +kernel⟩, by decide +kernel⟩⟩
def t_ldoubt : List (Nat × cx_E) := [(639, .aload_n 1, 0, 0, 1, 0, 640),
  (641, .iload 4, 0, 0, 4, 0, 643),
  (643, .iconst 1, 1, 0, 0, 0, 644),
  (644, .iadd, 0, 0, 0, 0, 645),
  (646, .aload_n 3, 0, 0, 3, 0, 647),
  (650, .istore 5, 0, 0, 5, 0, 652),
  (652, .aload_n 2, 0, 0, 2, 0, 653),
  (654, .iload 4, 0, 0, 4, 0, 656),
  (656, .iconst 1, 1, 0, 0, 0, 657),
  (657, .iadd, 0, 0, 0, 0, 658),
  (662, .istore 6, 0, 0, 6, 0, 664),
  (664, .aload_n 2, 0, 0, 2, 0, 665),
  (668, .iload 5, 0, 0, 5, 0, 670),
  (670, .if_icmp .eq 5, 0, 0, 675, 0, 673),
  (673, .iconst 0, 0, 0, 0, 0, 674),
  (674, .ireturn, 1, 0, 0, 0, 675),
  (675, .iload 5, 0, 0, 5, 0, 677),
  (677, .ifCond .ne 15, 0, 0, 692, 0, 680),
  (680, .aload_n 3, 0, 0, 3, 0, 681),
  (681, .iconst 0, 0, 0, 0, 0, 682),
  (682, .laload, 0, 0, 0, 0, 683),
  (683, .iload 6, 0, 0, 6, 0, 685),
  (685, .i2l, 0, 0, 0, 0, 686),
  (686, .lcmp, 0, 0, 0, 0, 687),
  (687, .ifCond .eq 5, 0, 0, 692, 0, 690),
  (690, .iconst 0, 0, 0, 0, 0, 691),
  (691, .ireturn, 1, 0, 0, 0, 692),
  (692, .goto 96, 0, 0, 788, 0, 695)]
def z_ldoubt (b L : Nat) (xs : Nat → Int32) : List (Nat × cz_Z) := [(640, zScr 641),
  (645, zLd 646 b L xs),
  (647, zCall 650 sp_H_doubt 3 1 6 601024 7293034 lw_rq),
  (653, zScr 654),
  (658, zLd 659 b L xs),
  (659, zCall 662 sp_R_doubt 2 0 0 601024 7293034 lw_rq),
  (665, zCall 668 sp_R_thrown 1 0 0 601024 7293034 lw_rq)]
theorem k_ldoubt : t_ldoubt.all (cx_dec true code ret 7 [] [] [] [] [] [] []) = true := by decide +kernel
theorem o_ldoubt {p : Program} {l : Launch} {e : Env} {s : State} {m : MethodId} {args : Array Value} {below : List Frame} {meth : Method} {c : Code} {G : cx_G} {b L : Nat} {xs : Nat → Int32} (hG : cx_okG G) (hcl : cx_cl G = cx_cls) (hl : cx_nt l) (S : lw_St G p s m meth c) (hX : va_X b L xs s (cx_H0 G)) (hbl : b < (cx_H0 G).size) : ∀ q ∈ z_ldoubt b L xs, cz_ok p l e room_1 s m args below meth c G 7 (cx_F1 G 601024 7293034) (cx_Q below G s 601024 7293034 lw_rq) q :=
  List.forall_mem_cons.mpr ⟨zScr_ok S.1 S.2.1 (by decide +kernel),
  List.forall_mem_cons.mpr ⟨zLd_ok S.1 S.2.1 hX hbl (by decide +kernel),
  List.forall_mem_cons.mpr ⟨zCall_ok (by decide +kernel) (cw_callS (rm := rm_H_doubt) (np := 3) S.2.2.2.1 S.1 S.2.1 S.2.2.1 S.2.2.2.2.1 S.2.2.2.2.2.2 S.2.2.2.2.2.1 (c_H_doubt hG hcl hl) wk_H_doubt (by decide)),
  List.forall_mem_cons.mpr ⟨zScr_ok S.1 S.2.1 (by decide +kernel),
  List.forall_mem_cons.mpr ⟨zLd_ok S.1 S.2.1 hX hbl (by decide +kernel),
  List.forall_mem_cons.mpr ⟨zCall_ok (by decide +kernel) (cx_callV (rm := rm_R_doubt) (C := r_R) (T0 := f_R) (N0 := 21) (np := 1) cx_TbAll S.1 S.2.1 S.2.2.1 S.2.2.2.2.2.2.1 S.2.2.2.1 S.2.2.2.2.1 S.2.2.2.2.2.1 (by rw [hcl]; rfl) (c_R_doubt hG hcl) wk_R_doubt (by decide)),
  List.forall_mem_cons.mpr ⟨zCall_ok (by decide +kernel) (cx_callV (rm := rm_R_thrown) (C := r_R) (T0 := f_R) (N0 := 21) (np := 0) cx_TbAll S.1 S.2.1 S.2.2.1 S.2.2.2.2.2.2.1 S.2.2.2.1 S.2.2.2.2.1 S.2.2.2.2.2.1 (by rw [hcl]; rfl) (c_R_thrown hG hcl) wk_R_thrown (by decide)),
  fun _ h => absurd h List.not_mem_nil⟩⟩⟩⟩⟩⟩⟩
set_option maxRecDepth 100000 in
set_option maxHeartbeats 8000000 in
theorem lc_doubt {b L : Nat} {xs : Nat → Int32} {V : cx_K} (hV : cz_cl t_ldoubt (z_ldoubt b L xs) [] 601024 7293034 lw_rq V) {it : Nat} (hi : 4 * it + 4 ≤ L) (hL : L ≤ 2048) {A : aS} {x : wX} {n : wN} {l : wL} {m : wM} {t : wR} {g : Nat → Int64} {s5 s6 : Option cx_V} {k i : Nat} (hC : rC A x n l m) (hR : rR A t) (hk : k ≤ 291 + 2 * it) (hn : i ≤ 29568 + 12 * it) (nxt : lw_nx V b it) : V 639 (lw_lv b it s5 s6) [] (wd x n l m (wq t [oL g])) k i := by
  have in1 : vp_in (nI (4 * it) + 1) L := lw_i hi hL (j := 1) (by omega)
  refine hV [788] 90 _ _ _ _ _ _ ?_
  conv => whnf
  refine ⟨⟨rfl, in1⟩, ?_⟩
  conv => whnf
  refine ⟨⟨by omega, by omega, Nat.le_of_ble_eq_true rfl, Nat.le_of_ble_eq_true rfl⟩, ?_⟩
  conv => whnf
  refine ⟨x, n, l, m, t, g, A, (xs (nI (4 * it) + 1).toNatClampNeg), rfl, rfl, hC, fun x' n' l' m' g' hC' hg' => ?_⟩
  conv => whnf
  refine ⟨⟨rfl, in1⟩, ?_⟩
  conv => whnf
  refine ⟨⟨by omega, by omega, Nat.le_of_ble_eq_true rfl, Nat.le_of_ble_eq_true rfl⟩, ?_⟩
  conv => whnf
  refine ⟨x', n', l', m', t, [oL g'], A, (xs (nI (4 * it) + 1).toNatClampNeg), rfl, rfl, rfl, hR, fun t' hR' hth => ?_⟩
  conv => whnf
  refine ⟨⟨by omega, by omega, Nat.le_of_ble_eq_true rfl, Nat.le_of_ble_eq_true rfl⟩, ?_⟩
  conv => whnf
  refine ⟨x', n', l', m', t', [oL g'], rfl, rfl, rfl, ?_⟩
  conv => whnf
  refine ⟨fun _ => ?_, fun e3 => absurd hth e3⟩
  conv => whnf
  refine ⟨fun _ => ?_, fun e4 => ?_⟩
  · conv => whnf
    exact nxt _ x' n' l' m' t' g' _ _ _ _ hC' hR' (by omega) (by omega)
  · have h0 : (douS A (xs (nI (4 * it) + 1).toNatClampNeg)).1 = 0 := Classical.byContradiction fun h => by
      have q := (th_doubt A (xs (nI (4 * it) + 1).toNatClampNeg) h).2
      rw [q] at e4
      exact absurd e4 (by decide)
    conv => whnf
    refine ⟨pk_in 0 1 (by omega), ?_⟩
    conv => whnf
    have hc : lg_cmp (g' (0 : Int32).toNatClampNeg) (if (douS A (xs (nI (4 * it) + 1).toNatClampNeg)).1 = 0 then (douS A (xs (nI (4 * it) + 1).toNatClampNeg)).2.1 else 0).toInt64 = 0 := by
      rw [show (0 : Int32).toNatClampNeg = 0 from rfl, hg' h0, if_pos h0]
      exact lg_self _
    refine ⟨fun _ => ?_, fun e5 => absurd hc e5⟩
    conv => whnf
    exact nxt _ x' n' l' m' t' g' _ _ _ _ hC' hR' (by omega) (by omega)
theorem wk_H_value : cw_w "CycleCutterLaw" 96 4 m_H_value method_11_code 5 (some .int) [(0, 10, 13, 19)] := ⟨cx_in 489 (by decide +kernel) (by decide +kernel), ⟨cx_in 490 (by decide +kernel) (by decide +kernel), cx_in 23 (by decide +kernel) (by decide +kernel), cx_in 491 (by decide +kernel) (by decide +kernel)⟩, by decide +kernel, ⟨by decide +kernel, by decide +kernel⟩, by decide +kernel⟩
theorem wk_R_value : cx_wV cx_Tb "CycleCutterLaw" r_R "" 98 2 m_R_value prog_6_method_11_code 3 (some (.int)) := ⟨Or.inl (cx_in 599 (by decide +kernel) (by decide +kernel)), ⟨cx_in 600 (by decide +kernel) (by decide +kernel), cx_in 601 (by decide +kernel) (by decide +kernel), cx_in 602 (by decide +kernel) (by decide +kernel)⟩, ⟨by decide +kernel, ⟨by decide +kernel, by decide +kernel⟩, by decide +kernel⟩⟩
def t_lvalue : List (Nat × cx_E) := [(695, .aload_n 1, 0, 0, 1, 0, 696),
  (697, .iload 4, 0, 0, 4, 0, 699),
  (699, .iconst 1, 1, 0, 0, 0, 700),
  (700, .iadd, 0, 0, 0, 0, 701),
  (703, .iload 4, 0, 0, 4, 0, 705),
  (705, .iconst 2, 2, 0, 0, 0, 706),
  (706, .iadd, 0, 0, 0, 0, 707),
  (708, .aload_n 3, 0, 0, 3, 0, 709),
  (712, .istore 5, 0, 0, 5, 0, 714),
  (714, .aload_n 2, 0, 0, 2, 0, 715),
  (716, .iload 4, 0, 0, 4, 0, 718),
  (718, .iconst 1, 1, 0, 0, 0, 719),
  (719, .iadd, 0, 0, 0, 0, 720),
  (722, .iload 4, 0, 0, 4, 0, 724),
  (724, .iconst 2, 2, 0, 0, 0, 725),
  (725, .iadd, 0, 0, 0, 0, 726),
  (730, .istore 6, 0, 0, 6, 0, 732),
  (732, .aload_n 2, 0, 0, 2, 0, 733),
  (736, .iload 5, 0, 0, 5, 0, 738),
  (738, .if_icmp .eq 5, 0, 0, 743, 0, 741),
  (741, .iconst 0, 0, 0, 0, 0, 742),
  (742, .ireturn, 1, 0, 0, 0, 743),
  (743, .iload 5, 0, 0, 5, 0, 745),
  (745, .ifCond .ne 15, 0, 0, 760, 0, 748),
  (748, .aload_n 3, 0, 0, 3, 0, 749),
  (749, .iconst 0, 0, 0, 0, 0, 750),
  (750, .laload, 0, 0, 0, 0, 751),
  (751, .iload 6, 0, 0, 6, 0, 753),
  (753, .i2l, 0, 0, 0, 0, 754),
  (754, .lcmp, 0, 0, 0, 0, 755),
  (755, .ifCond .eq 5, 0, 0, 760, 0, 758),
  (758, .iconst 0, 0, 0, 0, 0, 759),
  (759, .ireturn, 1, 0, 0, 0, 760),
  (760, .goto 28, 0, 0, 788, 0, 763)]
def z_lvalue (b L : Nat) (xs : Nat → Int32) : List (Nat × cz_Z) := [(696, zScr 697),
  (701, zLd 702 b L xs),
  (702, zScr 703),
  (707, zLd 708 b L xs),
  (709, zCall 712 sp_H_value 4 1 6 601024 7293034 lw_rq),
  (715, zScr 716),
  (720, zLd 721 b L xs),
  (721, zScr 722),
  (726, zLd 727 b L xs),
  (727, zCall 730 sp_R_value 3 0 0 601024 7293034 lw_rq),
  (733, zCall 736 sp_R_thrown 1 0 0 601024 7293034 lw_rq)]
theorem k_lvalue : t_lvalue.all (cx_dec true code ret 7 [] [] [] [] [] [] []) = true := by decide +kernel
theorem o_lvalue {p : Program} {l : Launch} {e : Env} {s : State} {m : MethodId} {args : Array Value} {below : List Frame} {meth : Method} {c : Code} {G : cx_G} {b L : Nat} {xs : Nat → Int32} (hG : cx_okG G) (hcl : cx_cl G = cx_cls) (hl : cx_nt l) (S : lw_St G p s m meth c) (hX : va_X b L xs s (cx_H0 G)) (hbl : b < (cx_H0 G).size) : ∀ q ∈ z_lvalue b L xs, cz_ok p l e room_1 s m args below meth c G 7 (cx_F1 G 601024 7293034) (cx_Q below G s 601024 7293034 lw_rq) q :=
  List.forall_mem_cons.mpr ⟨zScr_ok S.1 S.2.1 (by decide +kernel),
  List.forall_mem_cons.mpr ⟨zLd_ok S.1 S.2.1 hX hbl (by decide +kernel),
  List.forall_mem_cons.mpr ⟨zScr_ok S.1 S.2.1 (by decide +kernel),
  List.forall_mem_cons.mpr ⟨zLd_ok S.1 S.2.1 hX hbl (by decide +kernel),
  List.forall_mem_cons.mpr ⟨zCall_ok (by decide +kernel) (cw_callS (rm := rm_H_value) (np := 4) S.2.2.2.1 S.1 S.2.1 S.2.2.1 S.2.2.2.2.1 S.2.2.2.2.2.2 S.2.2.2.2.2.1 (c_H_value hG hcl hl) wk_H_value (by decide)),
  List.forall_mem_cons.mpr ⟨zScr_ok S.1 S.2.1 (by decide +kernel),
  List.forall_mem_cons.mpr ⟨zLd_ok S.1 S.2.1 hX hbl (by decide +kernel),
  List.forall_mem_cons.mpr ⟨zScr_ok S.1 S.2.1 (by decide +kernel),
  List.forall_mem_cons.mpr ⟨zLd_ok S.1 S.2.1 hX hbl (by decide +kernel),
  List.forall_mem_cons.mpr ⟨zCall_ok (by decide +kernel) (cx_callV (rm := rm_R_value) (C := r_R) (T0 := f_R) (N0 := 21) (np := 2) cx_TbAll S.1 S.2.1 S.2.2.1 S.2.2.2.2.2.2.1 S.2.2.2.1 S.2.2.2.2.1 S.2.2.2.2.2.1 (by rw [hcl]; rfl) (c_R_value hG hcl) wk_R_value (by decide)),
  List.forall_mem_cons.mpr ⟨zCall_ok (by decide +kernel) (cx_callV (rm := rm_R_thrown) (C := r_R) (T0 := f_R) (N0 := 21) (np := 0) cx_TbAll S.1 S.2.1 S.2.2.1 S.2.2.2.2.2.2.1 S.2.2.2.1 S.2.2.2.2.1 S.2.2.2.2.2.1 (by rw [hcl]; rfl) (c_R_thrown hG hcl) wk_R_thrown (by decide)),
  fun _ h => absurd h List.not_mem_nil⟩⟩⟩⟩⟩⟩⟩⟩⟩⟩⟩
set_option maxRecDepth 100000 in
set_option maxHeartbeats 8000000 in
theorem lc_value {b L : Nat} {xs : Nat → Int32} {V : cx_K} (hV : cz_cl t_lvalue (z_lvalue b L xs) [] 601024 7293034 lw_rq V) {it : Nat} (hi : 4 * it + 4 ≤ L) (hL : L ≤ 2048) {A : aS} {x : wX} {n : wN} {l : wL} {m : wM} {t : wR} {g : Nat → Int64} {s5 s6 : Option cx_V} {k i : Nat} (hC : rC A x n l m) (hR : rR A t) (hk : k ≤ 291 + 2 * it) (hn : i ≤ 29568 + 12 * it) (nxt : lw_nx V b it) : V 695 (lw_lv b it s5 s6) [] (wd x n l m (wq t [oL g])) k i := by
  have in1 : vp_in (nI (4 * it) + 1) L := lw_i hi hL (j := 1) (by omega)
  have in2 : vp_in (nI (4 * it) + 2) L := lw_i hi hL (j := 2) (by omega)
  refine hV [788] 90 _ _ _ _ _ _ ?_
  conv => whnf
  refine ⟨⟨rfl, in1⟩, ?_⟩
  conv => whnf
  refine ⟨⟨rfl, in2⟩, ?_⟩
  conv => whnf
  refine ⟨⟨by omega, by omega, Nat.le_of_ble_eq_true rfl, Nat.le_of_ble_eq_true rfl⟩, ?_⟩
  conv => whnf
  refine ⟨x, n, l, m, t, g, A, (xs (nI (4 * it) + 1).toNatClampNeg), (xs (nI (4 * it) + 2).toNatClampNeg), rfl, rfl, hC, fun x' n' l' m' g' hC' hg' => ?_⟩
  conv => whnf
  refine ⟨⟨rfl, in1⟩, ?_⟩
  conv => whnf
  refine ⟨⟨rfl, in2⟩, ?_⟩
  conv => whnf
  refine ⟨⟨by omega, by omega, Nat.le_of_ble_eq_true rfl, Nat.le_of_ble_eq_true rfl⟩, ?_⟩
  conv => whnf
  refine ⟨x', n', l', m', t, [oL g'], A, (xs (nI (4 * it) + 1).toNatClampNeg), (xs (nI (4 * it) + 2).toNatClampNeg), rfl, rfl, rfl, hR, fun t' hR' hth => ?_⟩
  conv => whnf
  refine ⟨⟨by omega, by omega, Nat.le_of_ble_eq_true rfl, Nat.le_of_ble_eq_true rfl⟩, ?_⟩
  conv => whnf
  refine ⟨x', n', l', m', t', [oL g'], rfl, rfl, rfl, ?_⟩
  conv => whnf
  refine ⟨fun _ => ?_, fun e3 => absurd hth e3⟩
  conv => whnf
  refine ⟨fun _ => ?_, fun e4 => ?_⟩
  · conv => whnf
    exact nxt _ x' n' l' m' t' g' _ _ _ _ hC' hR' (by omega) (by omega)
  · have h0 : (valS A (xs (nI (4 * it) + 1).toNatClampNeg) (xs (nI (4 * it) + 2).toNatClampNeg)).1 = 0 := Classical.byContradiction fun h => by
      have q := (th_value A (xs (nI (4 * it) + 1).toNatClampNeg) (xs (nI (4 * it) + 2).toNatClampNeg) h).2
      rw [q] at e4
      exact absurd e4 (by decide)
    conv => whnf
    refine ⟨pk_in 0 1 (by omega), ?_⟩
    conv => whnf
    have hc : lg_cmp (g' (0 : Int32).toNatClampNeg) (if (valS A (xs (nI (4 * it) + 1).toNatClampNeg) (xs (nI (4 * it) + 2).toNatClampNeg)).1 = 0 then (valS A (xs (nI (4 * it) + 1).toNatClampNeg) (xs (nI (4 * it) + 2).toNatClampNeg)).2.1 else 0).toInt64 = 0 := by
      rw [show (0 : Int32).toNatClampNeg = 0 from rfl, hg' h0, if_pos h0]
      exact lg_self _
    refine ⟨fun _ => ?_, fun e5 => absurd hc e5⟩
    conv => whnf
    exact nxt _ x' n' l' m' t' g' _ _ _ _ hC' hR' (by omega) (by omega)
theorem wk_C_count : cx_wV cx_Tb "CycleCutterLaw" r_C "" 99 1 m_C_count prog_1_method_14_code 2 (some (.int)) := ⟨Or.inl (cx_in 257 (by decide +kernel) (by decide +kernel)), ⟨cx_in 258 (by decide +kernel) (by decide +kernel), cx_in 259 (by decide +kernel) (by decide +kernel), cx_in 260 (by decide +kernel) (by decide +kernel)⟩, ⟨by decide +kernel, ⟨by decide +kernel, by decide +kernel⟩, by decide +kernel⟩⟩
theorem wk_R_count : cx_wV cx_Tb "CycleCutterLaw" r_R "" 102 1 m_R_count prog_6_method_28_code 4 (some (.int)) := ⟨Or.inl (cx_in 675 (by decide +kernel) (by decide +kernel)), ⟨cx_in 676 (by decide +kernel) (by decide +kernel), cx_in 677 (by decide +kernel) (by decide +kernel), cx_in 678 (by decide +kernel) (by decide +kernel)⟩, ⟨by decide +kernel, ⟨by decide +kernel, by decide +kernel⟩, by decide +kernel⟩⟩
def t_lcount : List (Nat × cx_E) := [(763, .aload_n 1, 0, 0, 1, 0, 764),
  (765, .iload 4, 0, 0, 4, 0, 767),
  (767, .iconst 1, 1, 0, 0, 0, 768),
  (768, .iadd, 0, 0, 0, 0, 769),
  (773, .aload_n 2, 0, 0, 2, 0, 774),
  (775, .iload 4, 0, 0, 4, 0, 777),
  (777, .iconst 1, 1, 0, 0, 0, 778),
  (778, .iadd, 0, 0, 0, 0, 779),
  (783, .if_icmp .eq 5, 0, 0, 788, 0, 786),
  (786, .iconst 0, 0, 0, 0, 0, 787),
  (787, .ireturn, 1, 0, 0, 0, 788)]
def z_lcount (b L : Nat) (xs : Nat → Int32) : List (Nat × cz_Z) := [(764, zScr 765),
  (769, zLd 770 b L xs),
  (770, zCall 773 sp_C_count 2 0 0 601024 7293034 lw_rq),
  (774, zScr 775),
  (779, zLd 780 b L xs),
  (780, zCall 783 sp_R_count 2 0 0 601024 7293034 lw_rq)]
theorem k_lcount : t_lcount.all (cx_dec true code ret 7 [] [] [] [] [] [] []) = true := by decide +kernel
theorem o_lcount {p : Program} {l : Launch} {e : Env} {s : State} {m : MethodId} {args : Array Value} {below : List Frame} {meth : Method} {c : Code} {G : cx_G} {b L : Nat} {xs : Nat → Int32} (hG : cx_okG G) (hcl : cx_cl G = cx_cls) (hl : cx_nt l) (S : lw_St G p s m meth c) (hX : va_X b L xs s (cx_H0 G)) (hbl : b < (cx_H0 G).size) : ∀ q ∈ z_lcount b L xs, cz_ok p l e room_1 s m args below meth c G 7 (cx_F1 G 601024 7293034) (cx_Q below G s 601024 7293034 lw_rq) q :=
  List.forall_mem_cons.mpr ⟨zScr_ok S.1 S.2.1 (by decide +kernel),
  List.forall_mem_cons.mpr ⟨zLd_ok S.1 S.2.1 hX hbl (by decide +kernel),
  List.forall_mem_cons.mpr ⟨zCall_ok (by decide +kernel) (cx_callV (rm := rm_C_count) (C := r_C) (T0 := f_C) (N0 := 4) (np := 1) cx_TbAll S.1 S.2.1 S.2.2.1 S.2.2.2.2.2.2.1 S.2.2.2.1 S.2.2.2.2.1 S.2.2.2.2.2.1 (by rw [hcl]; rfl) (c_C_count hG hcl) wk_C_count (by decide)),
  List.forall_mem_cons.mpr ⟨zScr_ok S.1 S.2.1 (by decide +kernel),
  List.forall_mem_cons.mpr ⟨zLd_ok S.1 S.2.1 hX hbl (by decide +kernel),
  List.forall_mem_cons.mpr ⟨zCall_ok (by decide +kernel) (cx_callV (rm := rm_R_count) (C := r_R) (T0 := f_R) (N0 := 21) (np := 1) cx_TbAll S.1 S.2.1 S.2.2.1 S.2.2.2.2.2.2.1 S.2.2.2.1 S.2.2.2.2.1 S.2.2.2.2.2.1 (by rw [hcl]; rfl) (c_R_count hG hcl) wk_R_count (by decide)),
  fun _ h => absurd h List.not_mem_nil⟩⟩⟩⟩⟩⟩
set_option maxRecDepth 100000 in
set_option maxHeartbeats 8000000 in
theorem lc_count {b L : Nat} {xs : Nat → Int32} {V : cx_K} (hV : cz_cl t_lcount (z_lcount b L xs) [] 601024 7293034 lw_rq V) {it : Nat} (hi : 4 * it + 4 ≤ L) (hL : L ≤ 2048) {A : aS} {x : wX} {n : wN} {l : wL} {m : wM} {t : wR} {g : Nat → Int64} {s5 s6 : Option cx_V} {k i : Nat} (hC : rC A x n l m) (hR : rR A t) (hk : k ≤ 291 + 2 * it) (hn : i ≤ 29568 + 12 * it) (nxt : lw_nx V b it) : V 763 (lw_lv b it s5 s6) [] (wd x n l m (wq t [oL g])) k i := by
  have in1 : vp_in (nI (4 * it) + 1) L := lw_i hi hL (j := 1) (by omega)
  refine hV [788] 90 _ _ _ _ _ _ ?_
  conv => whnf
  refine ⟨⟨rfl, in1⟩, ?_⟩
  conv => whnf
  refine ⟨⟨by omega, by omega, Nat.le_of_ble_eq_true rfl, Nat.le_of_ble_eq_true rfl⟩, ?_⟩
  conv => whnf
  refine ⟨x, n, l, m, wq t [oL g], A, (xs (nI (4 * it) + 1).toNatClampNeg), rfl, rfl, rfl, hC, fun _ x' n' l' m' hC' => ?_, fun h0 => absurd rfl h0⟩
  conv => whnf
  refine ⟨⟨rfl, in1⟩, ?_⟩
  conv => whnf
  refine ⟨⟨by omega, by omega, Nat.le_of_ble_eq_true rfl, Nat.le_of_ble_eq_true rfl⟩, ?_⟩
  conv => whnf
  refine ⟨x', n', l', m', t, [oL g], A, (xs (nI (4 * it) + 1).toNatClampNeg), rfl, rfl, rfl, hR, fun t' hR' hth => ?_⟩
  conv => whnf
  refine ⟨fun _ => ?_, fun e3 => absurd (if_pos rfl).symm e3⟩
  exact nxt _ x' n' l' m' t' g _ _ _ _ hC' hR' (by omega) (by omega)
