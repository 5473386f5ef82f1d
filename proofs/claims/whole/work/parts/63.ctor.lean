/-! The constructors: by program (wip/whole/gen_ctor.py). -/
abbrev d_L : List cx_V := [.inr (.inr (.inr (.inr .null))), .inr (.inr (.inr (.inr .null))), .inr (.inr (.inr (.inr .null))), .inr (.inr (.inr (.inr .null))), .inl 0]
theorem d_L_ok {G : cx_G} : ∀ j, j < 5 → defaultValue (y_L j) = vp_V (d_L.map (cx_v G)) j := by
  intro j hj
  match j, hj with
  | 0, _ => rfl
  | 1, _ => rfl
  | 2, _ => rfl
  | 3, _ => rfl
  | 4, _ => rfl
  | k + 5, hk => exact absurd hk (by omega)
abbrev d_M : List cx_V := [.inr (.inr (.inr (.inr .null))), .inr (.inr (.inr (.inr .null))), .inr (.inr (.inr (.inr .null))), .inr (.inr (.inr (.inr .null))), .inr (.inr (.inr (.inr .null))), .inr (.inr (.inr (.inr .null))), .inr (.inr (.inr (.inr .null))), .inr (.inr (.inr (.inr .null))), .inr (.inr (.inr (.inr .null))), .inl 0, .inl 0]
theorem d_M_ok {G : cx_G} : ∀ j, j < 11 → defaultValue (y_M j) = vp_V (d_M.map (cx_v G)) j := by
  intro j hj
  match j, hj with
  | 0, _ => rfl
  | 1, _ => rfl
  | 2, _ => rfl
  | 3, _ => rfl
  | 4, _ => rfl
  | 5, _ => rfl
  | 6, _ => rfl
  | 7, _ => rfl
  | 8, _ => rfl
  | 9, _ => rfl
  | 10, _ => rfl
  | k + 11, hk => exact absurd hk (by omega)
abbrev d_N : List cx_V := [.inr (.inr (.inr (.inr .null))), .inr (.inr (.inr (.inr .null))), .inr (.inr (.inr (.inr .null))), .inr (.inr (.inr (.inr .null))), .inr (.inr (.inr (.inr .null))), .inr (.inr (.inr (.inr .null))), .inr (.inr (.inr (.inr .null))), .inr (.inr (.inr (.inr .null))), .inl 0, .inl 0, .inl 0, .inl 0]
theorem d_N_ok {G : cx_G} : ∀ j, j < 12 → defaultValue (y_N j) = vp_V (d_N.map (cx_v G)) j := by
  intro j hj
  match j, hj with
  | 0, _ => rfl
  | 1, _ => rfl
  | 2, _ => rfl
  | 3, _ => rfl
  | 4, _ => rfl
  | 5, _ => rfl
  | 6, _ => rfl
  | 7, _ => rfl
  | 8, _ => rfl
  | 9, _ => rfl
  | 10, _ => rfl
  | 11, _ => rfl
  | k + 12, hk => exact absurd hk (by omega)
abbrev d_C : List cx_V := [.inr (.inr (.inr (.inr .null))), .inr (.inr (.inr (.inr .null))), .inr (.inr (.inr (.inr .null))), .inl 0]
theorem d_C_ok {G : cx_G} : ∀ j, j < 4 → defaultValue (y_C j) = vp_V (d_C.map (cx_v G)) j := by
  intro j hj
  match j, hj with
  | 0, _ => rfl
  | 1, _ => rfl
  | 2, _ => rfl
  | 3, _ => rfl
  | k + 4, hk => exact absurd hk (by omega)
abbrev d_R : List cx_V := [.inl 0, .inl 0, .inl 0, .inl 0, .inl 0, .inr (.inr (.inr (.inr .null))), .inr (.inr (.inr (.inr .null))), .inr (.inr (.inr (.inr .null))), .inr (.inr (.inr (.inr .null))), .inr (.inr (.inr (.inr .null))), .inr (.inr (.inr (.inr .null))), .inr (.inr (.inr (.inr .null))), .inl 0, .inl 0, .inr (.inr (.inr (.inr .null))), .inr (.inr (.inr (.inr .null))), .inr (.inr (.inr (.inr .null))), .inr (.inr (.inr (.inr .null))), .inr (.inr (.inr (.inr .null))), .inr (.inr (.inr (.inr .null))), .inr (.inr (.inr (.inr .null)))]
theorem d_R_ok {G : cx_G} : ∀ j, j < 21 → defaultValue (y_R j) = vp_V (d_R.map (cx_v G)) j := by
  intro j hj
  match j, hj with
  | 0, _ => rfl
  | 1, _ => rfl
  | 2, _ => rfl
  | 3, _ => rfl
  | 4, _ => rfl
  | 5, _ => rfl
  | 6, _ => rfl
  | 7, _ => rfl
  | 8, _ => rfl
  | 9, _ => rfl
  | 10, _ => rfl
  | 11, _ => rfl
  | 12, _ => rfl
  | 13, _ => rfl
  | 14, _ => rfl
  | 15, _ => rfl
  | 16, _ => rfl
  | 17, _ => rfl
  | 18, _ => rfl
  | 19, _ => rfl
  | 20, _ => rfl
  | k + 21, hk => exact absurd hk (by omega)
abbrev m_N_init : MethodName := ⟨"CycleCutter$Net", "<init>", "()V"⟩
abbrev rm_N_init : Room := { frames := 1, cells := 248, slots := 3060, locals := 20 }
def sp_N_init : cy_S := fun j ws R => j = 1 ∧ ws = [.inl (3, [.inr (.inr (.inr (.inr .null))), .inr (.inr (.inr (.inr .null))), .inr (.inr (.inr (.inr .null))), .inl 0]), .inl (2, [.inr (.inr (.inr (.inr .null))), .inr (.inr (.inr (.inr .null))), .inr (.inr (.inr (.inr .null))), .inr (.inr (.inr (.inr .null))), .inr (.inr (.inr (.inr .null))), .inr (.inr (.inr (.inr .null))), .inr (.inr (.inr (.inr .null))), .inr (.inr (.inr (.inr .null))), .inl 0, .inl 0, .inl 0, .inl 0])] ∧ R [.inl (3, [.inr (.inr (.inr (.inr .null))), .inr (.inr (.inr (.inr .null))), .inr (.inr (.inr (.inr .null))), .inl 0]), .inl (2, [.inr (.inr (.inl 2)), .inr (.inr (.inl 3)), .inr (.inr (.inl 4)), .inr (.inr (.inl 5)), .inr (.inr (.inl 6)), .inr (.inr (.inl 7)), .inr (.inr (.inl 8)), .inr (.inr (.inl 9)), .inl 0, .inl 0, .inl 0, .inl 0]), .inr (.inl (120, fun _ => 0)), .inr (.inl (120, fun _ => 0)), .inr (.inl (120, fun _ => 0)), .inr (.inl (500, fun _ => 0)), .inr (.inr (.inl (500, fun _ => 0))), .inr (.inl (500, fun _ => 0)), .inr (.inr (.inr (.inr (120, 4, fun _ _ => 0)))), .inr (.inr (.inr (.inr (120, 4, fun _ _ => 0))))]
def t_N_init : List (Nat × cx_E) := [(0, .aload_n 0, 0, 0, 0, 0, 1),
  (4, .aload_n 0, 0, 0, 0, 0, 5),
  (5, .bipush 120, 120, 0, 0, 0, 7),
  (9, .putfield 9, 2, 0, 2, 0, 12),
  (12, .aload_n 0, 0, 0, 0, 0, 13),
  (13, .bipush 120, 120, 0, 0, 0, 15),
  (17, .putfield 15, 2, 0, 2, 1, 20),
  (20, .aload_n 0, 0, 0, 0, 0, 21),
  (21, .bipush 120, 120, 0, 0, 0, 23),
  (25, .putfield 18, 2, 0, 2, 2, 28),
  (28, .aload_n 0, 0, 0, 0, 0, 29),
  (29, .sipush 500, 500, 0, 0, 0, 32),
  (34, .putfield 21, 2, 0, 2, 3, 37),
  (37, .aload_n 0, 0, 0, 0, 0, 38),
  (38, .sipush 500, 500, 0, 0, 0, 41),
  (43, .putfield 24, 2, 0, 2, 4, 46),
  (46, .aload_n 0, 0, 0, 0, 0, 47),
  (47, .sipush 500, 500, 0, 0, 0, 50),
  (52, .putfield 28, 2, 0, 2, 5, 55),
  (55, .aload_n 0, 0, 0, 0, 0, 56),
  (56, .bipush 120, 120, 0, 0, 0, 58),
  (58, .iconst 4, 4, 0, 0, 0, 59),
  (63, .putfield 33, 2, 0, 2, 6, 66),
  (66, .aload_n 0, 0, 0, 0, 0, 67),
  (67, .bipush 120, 120, 0, 0, 0, 69),
  (69, .iconst 4, 4, 0, 0, 0, 70),
  (74, .putfield 36, 2, 0, 2, 7, 77),
  (77, .aload_n 0, 0, 0, 0, 0, 78),
  (78, .iconst 0, 0, 0, 0, 0, 79),
  (79, .putfield 39, 0, 0, 2, 8, 82),
  (82, .aload_n 0, 0, 0, 0, 0, 83),
  (83, .iconst 0, 0, 0, 0, 0, 84),
  (84, .putfield 43, 0, 0, 2, 9, 87),
  (87, .aload_n 0, 0, 0, 0, 0, 88),
  (88, .iconst 0, 0, 0, 0, 0, 89),
  (89, .putfield 46, 0, 0, 2, 10, 92),
  (92, .aload_n 0, 0, 0, 0, 0, 93),
  (93, .iconst 0, 0, 0, 0, 0, 94),
  (94, .putfield 49, 1, 0, 2, 11, 97),
  (97, .return_, 0, 0, 0, 0, 98)]
abbrev q_N_init : List (Nat × Nat × Nat × Int32) := [(9, 2, 0, 2), (15, 2, 1, 2), (18, 2, 2, 2), (21, 2, 3, 2), (24, 2, 4, 2), (28, 2, 5, 2), (33, 2, 6, 2), (36, 2, 7, 2), (39, 2, 8, 0), (43, 2, 9, 0), (46, 2, 10, 0), (49, 2, 11, 1)]
def z_N_init : List (Nat × cz_Z) := [(1, zObj 4),
  (7, zNewa 9 0 120 248 3060),
  (15, zNewa 17 0 120 248 3060),
  (23, zNewa 25 0 120 248 3060),
  (32, zNewa 34 0 500 248 3060),
  (41, zNewa 43 1 500 248 3060),
  (50, zNewa 52 0 500 248 3060),
  (59, zGrid 63 120 4 248 3060),
  (70, zGrid 74 120 4 248 3060)]
theorem k_N_init : t_N_init.all (cx_dec true prog_4_method_1_code none 1 [] q_N_init [] [] [] [] []) = true := by decide +kernel
set_option maxRecDepth 100000 in
set_option maxHeartbeats 4000000 in
theorem pu_N_init : ∀ j ws Rq, sp_N_init j ws Rq → ∀ V, cz_cl t_N_init z_N_init [] 248 3060 (fun o ws => o = .inl none ∧ Rq ws) V → V 0 (cx_lv0 [.inr (.inr (.inl j))] 1) [] ws 0 0 := by
  rintro j ws Rq ⟨rfl, rfl, h⟩ V hV
  refine hV [] 400 _ _ _ _ _ _ ?_
  conv => whnf
  refine ⟨by decide, ?_⟩
  conv => whnf
  refine ⟨⟨rfl, ⟨by decide, by decide⟩, by decide, by decide⟩, ?_⟩
  conv => whnf
  refine ⟨rfl, ?_⟩
  conv => whnf
  refine ⟨⟨rfl, ⟨by decide, by decide⟩, by decide, by decide⟩, ?_⟩
  conv => whnf
  refine ⟨rfl, ?_⟩
  conv => whnf
  refine ⟨⟨rfl, ⟨by decide, by decide⟩, by decide, by decide⟩, ?_⟩
  conv => whnf
  refine ⟨rfl, ?_⟩
  conv => whnf
  refine ⟨⟨rfl, ⟨by decide, by decide⟩, by decide, by decide⟩, ?_⟩
  conv => whnf
  refine ⟨rfl, ?_⟩
  conv => whnf
  refine ⟨⟨rfl, ⟨by decide, by decide⟩, by decide, by decide⟩, ?_⟩
  conv => whnf
  refine ⟨rfl, ?_⟩
  conv => whnf
  refine ⟨⟨rfl, ⟨by decide, by decide⟩, by decide, by decide⟩, ?_⟩
  conv => whnf
  refine ⟨rfl, ?_⟩
  conv => whnf
  refine ⟨⟨⟨rfl, rfl⟩, ⟨by decide, by decide, by decide⟩, by decide, by decide⟩, ?_⟩
  conv => whnf
  refine ⟨rfl, ?_⟩
  conv => whnf
  refine ⟨⟨⟨rfl, rfl⟩, ⟨by decide, by decide, by decide⟩, by decide, by decide⟩, ?_⟩
  conv => whnf
  refine ⟨rfl, ?_⟩
  conv => whnf
  refine ⟨Or.inl rfl, ?_⟩
  conv => whnf
  refine ⟨Or.inl rfl, ?_⟩
  conv => whnf
  refine ⟨Or.inl rfl, ?_⟩
  conv => whnf
  refine ⟨Or.inr ⟨rfl, Or.inl rfl⟩, ?_⟩
  conv => whnf
  exact ⟨rfl, h⟩
set_option maxRecDepth 100000 in
set_option maxHeartbeats 4000000 in
theorem c_N_init {l : Launch} {G : cx_G} (hG : cy_okG G) (hcl : cx_cl G = cx_cls) : cy_M l G m_N_init prog_4_method_1_code 1 rm_N_init sp_N_init := by
  refine cy_mk hG (Zs := z_N_init) (by decide) k_N_init (fun S => ?_) (fun S => ?_) pu_N_init
  · exact List.forall_mem_cons.mpr ⟨cy_putR (own := r_N) (C := r_N) (T0 := f_N) (N0 := 12) S.1 S.2.1 S.2.2.2.2.1 S.2.2.2.2.2.2.1 S.2.2.2.2.2.1 (by rw [hcl]; rfl) i_N y_N y_N_ok n_N (by decide) (cx_in 53 (by decide +kernel) (by decide +kernel)) rfl rfl (Or.inr ⟨_, rfl⟩),
      List.forall_mem_cons.mpr ⟨cy_putR (own := r_N) (C := r_N) (T0 := f_N) (N0 := 12) S.1 S.2.1 S.2.2.2.2.1 S.2.2.2.2.2.2.1 S.2.2.2.2.2.1 (by rw [hcl]; rfl) i_N y_N y_N_ok n_N (by decide) (cx_in 54 (by decide +kernel) (by decide +kernel)) rfl rfl (Or.inr ⟨_, rfl⟩),
      List.forall_mem_cons.mpr ⟨cy_putR (own := r_N) (C := r_N) (T0 := f_N) (N0 := 12) S.1 S.2.1 S.2.2.2.2.1 S.2.2.2.2.2.2.1 S.2.2.2.2.2.1 (by rw [hcl]; rfl) i_N y_N y_N_ok n_N (by decide) (cx_in 55 (by decide +kernel) (by decide +kernel)) rfl rfl (Or.inr ⟨_, rfl⟩),
      List.forall_mem_cons.mpr ⟨cy_putR (own := r_N) (C := r_N) (T0 := f_N) (N0 := 12) S.1 S.2.1 S.2.2.2.2.1 S.2.2.2.2.2.2.1 S.2.2.2.2.2.1 (by rw [hcl]; rfl) i_N y_N y_N_ok n_N (by decide) (cx_in 56 (by decide +kernel) (by decide +kernel)) rfl rfl (Or.inr ⟨_, rfl⟩),
      List.forall_mem_cons.mpr ⟨cy_putR (own := r_N) (C := r_N) (T0 := f_N) (N0 := 12) S.1 S.2.1 S.2.2.2.2.1 S.2.2.2.2.2.2.1 S.2.2.2.2.2.1 (by rw [hcl]; rfl) i_N y_N y_N_ok n_N (by decide) (cx_in 57 (by decide +kernel) (by decide +kernel)) rfl rfl (Or.inr ⟨_, rfl⟩),
      List.forall_mem_cons.mpr ⟨cy_putR (own := r_N) (C := r_N) (T0 := f_N) (N0 := 12) S.1 S.2.1 S.2.2.2.2.1 S.2.2.2.2.2.2.1 S.2.2.2.2.2.1 (by rw [hcl]; rfl) i_N y_N y_N_ok n_N (by decide) (cx_in 58 (by decide +kernel) (by decide +kernel)) rfl rfl (Or.inr ⟨_, rfl⟩),
      List.forall_mem_cons.mpr ⟨cy_putR (own := r_N) (C := r_N) (T0 := f_N) (N0 := 12) S.1 S.2.1 S.2.2.2.2.1 S.2.2.2.2.2.2.1 S.2.2.2.2.2.1 (by rw [hcl]; rfl) i_N y_N y_N_ok n_N (by decide) (cx_in 59 (by decide +kernel) (by decide +kernel)) rfl rfl (Or.inr ⟨_, rfl⟩),
      List.forall_mem_cons.mpr ⟨cy_putR (own := r_N) (C := r_N) (T0 := f_N) (N0 := 12) S.1 S.2.1 S.2.2.2.2.1 S.2.2.2.2.2.2.1 S.2.2.2.2.2.1 (by rw [hcl]; rfl) i_N y_N y_N_ok n_N (by decide) (cx_in 60 (by decide +kernel) (by decide +kernel)) rfl rfl (Or.inr ⟨_, rfl⟩),
      List.forall_mem_cons.mpr ⟨cx_putP (own := r_N) (C := r_N) (T0 := f_N) (N0 := 12) S.1 S.2.1 S.2.2.2.2.2.2.1 S.2.2.2.2.2.1 (by rw [hcl]; rfl) i_N y_N y_N_ok n_N (by decide) (cx_in 61 (by decide +kernel) (by decide +kernel)) rfl rfl (Or.inl ⟨rfl, rfl⟩),
      List.forall_mem_cons.mpr ⟨cx_putP (own := r_N) (C := r_N) (T0 := f_N) (N0 := 12) S.1 S.2.1 S.2.2.2.2.2.2.1 S.2.2.2.2.2.1 (by rw [hcl]; rfl) i_N y_N y_N_ok n_N (by decide) (cx_in 63 (by decide +kernel) (by decide +kernel)) rfl rfl (Or.inl ⟨rfl, rfl⟩),
      List.forall_mem_cons.mpr ⟨cx_putP (own := r_N) (C := r_N) (T0 := f_N) (N0 := 12) S.1 S.2.1 S.2.2.2.2.2.2.1 S.2.2.2.2.2.1 (by rw [hcl]; rfl) i_N y_N y_N_ok n_N (by decide) (cx_in 65 (by decide +kernel) (by decide +kernel)) rfl rfl (Or.inl ⟨rfl, rfl⟩),
      List.forall_mem_cons.mpr ⟨cx_putP (own := r_N) (C := r_N) (T0 := f_N) (N0 := 12) S.1 S.2.1 S.2.2.2.2.2.2.1 S.2.2.2.2.2.1 (by rw [hcl]; rfl) i_N y_N y_N_ok n_N (by decide) (cx_in 67 (by decide +kernel) (by decide +kernel)) rfl rfl (Or.inr ⟨rfl, rfl⟩),
      fun _ h => absurd h List.not_mem_nil⟩⟩⟩⟩⟩⟩⟩⟩⟩⟩⟩⟩
  · exact List.forall_mem_cons.mpr ⟨zObj_ok (z := 3) S.1 S.2.1 S.2.2.1 (S.2.2.2.2.2.2).1 S.2.2.2.2.2.1 (cx_in 50 (by decide +kernel) (by decide +kernel)) (by decide +kernel) (by decide),
      List.forall_mem_cons.mpr ⟨zNewa_ok (at0 := .int) hG S.1 S.2.1 S.2.2.2.2.2.2 (Or.inl ⟨rfl, rfl⟩) (by decide) (by decide +kernel) (by decide),
      List.forall_mem_cons.mpr ⟨zNewa_ok (at0 := .int) hG S.1 S.2.1 S.2.2.2.2.2.2 (Or.inl ⟨rfl, rfl⟩) (by decide) (by decide +kernel) (by decide),
      List.forall_mem_cons.mpr ⟨zNewa_ok (at0 := .int) hG S.1 S.2.1 S.2.2.2.2.2.2 (Or.inl ⟨rfl, rfl⟩) (by decide) (by decide +kernel) (by decide),
      List.forall_mem_cons.mpr ⟨zNewa_ok (at0 := .int) hG S.1 S.2.1 S.2.2.2.2.2.2 (Or.inl ⟨rfl, rfl⟩) (by decide) (by decide +kernel) (by decide),
      List.forall_mem_cons.mpr ⟨zNewa_ok (at0 := .boolean) hG S.1 S.2.1 S.2.2.2.2.2.2 (Or.inr (Or.inl ⟨rfl, rfl⟩)) (by decide) (by decide +kernel) (by decide),
      List.forall_mem_cons.mpr ⟨zNewa_ok (at0 := .int) hG S.1 S.2.1 S.2.2.2.2.2.2 (Or.inl ⟨rfl, rfl⟩) (by decide) (by decide +kernel) (by decide),
      List.forall_mem_cons.mpr ⟨zGrid_ok (z := 31) hG S.1 S.2.1 S.2.2.2.2.2.2 S.2.2.2.2.2.1 (cx_in 51 (by decide +kernel) (by decide +kernel)) (by decide) (by decide +kernel) (by decide),
      List.forall_mem_cons.mpr ⟨zGrid_ok (z := 31) hG S.1 S.2.1 S.2.2.2.2.2.2 S.2.2.2.2.2.1 (cx_in 51 (by decide +kernel) (by decide +kernel)) (by decide) (by decide +kernel) (by decide),
      fun _ h => absurd h List.not_mem_nil⟩⟩⟩⟩⟩⟩⟩⟩⟩
abbrev m_M_init : MethodName := ⟨"CycleCutter$Multiplexers", "<init>", "()V"⟩
abbrev rm_M_init : Room := { frames := 1, cells := 9, slots := 6396, locals := 20 }
def sp_M_init : cy_S := fun j ws R => j = 11 ∧ ws = [.inl (3, [.inr (.inr (.inl 1)), .inr (.inr (.inr (.inr .null))), .inr (.inr (.inr (.inr .null))), .inl 0]), .inl (2, [.inr (.inr (.inl 2)), .inr (.inr (.inl 3)), .inr (.inr (.inl 4)), .inr (.inr (.inl 5)), .inr (.inr (.inl 6)), .inr (.inr (.inl 7)), .inr (.inr (.inl 8)), .inr (.inr (.inl 9)), .inl 0, .inl 0, .inl 0, .inl 0]), .inr (.inl (120, fun _ => 0)), .inr (.inl (120, fun _ => 0)), .inr (.inl (120, fun _ => 0)), .inr (.inl (500, fun _ => 0)), .inr (.inr (.inl (500, fun _ => 0))), .inr (.inl (500, fun _ => 0)), .inr (.inr (.inr (.inr (120, 4, fun _ _ => 0)))), .inr (.inr (.inr (.inr (120, 4, fun _ _ => 0)))), .inl (0, [.inr (.inr (.inr (.inr .null))), .inr (.inr (.inr (.inr .null))), .inr (.inr (.inr (.inr .null))), .inr (.inr (.inr (.inr .null))), .inl 0]), .inl (1, [.inr (.inr (.inr (.inr .null))), .inr (.inr (.inr (.inr .null))), .inr (.inr (.inr (.inr .null))), .inr (.inr (.inr (.inr .null))), .inr (.inr (.inr (.inr .null))), .inr (.inr (.inr (.inr .null))), .inr (.inr (.inr (.inr .null))), .inr (.inr (.inr (.inr .null))), .inr (.inr (.inr (.inr .null))), .inl 0, .inl 0])] ∧ R [.inl (3, [.inr (.inr (.inl 1)), .inr (.inr (.inr (.inr .null))), .inr (.inr (.inr (.inr .null))), .inl 0]), .inl (2, [.inr (.inr (.inl 2)), .inr (.inr (.inl 3)), .inr (.inr (.inl 4)), .inr (.inr (.inl 5)), .inr (.inr (.inl 6)), .inr (.inr (.inl 7)), .inr (.inr (.inl 8)), .inr (.inr (.inl 9)), .inl 0, .inl 0, .inl 0, .inl 0]), .inr (.inl (120, fun _ => 0)), .inr (.inl (120, fun _ => 0)), .inr (.inl (120, fun _ => 0)), .inr (.inl (500, fun _ => 0)), .inr (.inr (.inl (500, fun _ => 0))), .inr (.inl (500, fun _ => 0)), .inr (.inr (.inr (.inr (120, 4, fun _ _ => 0)))), .inr (.inr (.inr (.inr (120, 4, fun _ _ => 0)))), .inl (0, [.inr (.inr (.inr (.inr .null))), .inr (.inr (.inr (.inr .null))), .inr (.inr (.inr (.inr .null))), .inr (.inr (.inr (.inr .null))), .inl 0]), .inl (1, [.inr (.inr (.inl 12)), .inr (.inr (.inl 13)), .inr (.inr (.inl 14)), .inr (.inr (.inl 15)), .inr (.inr (.inl 16)), .inr (.inr (.inl 17)), .inr (.inr (.inl 18)), .inr (.inr (.inl 19)), .inr (.inr (.inl 20)), .inl 2, .inl 0]), .inr (.inl (876, fun _ => 0)), .inr (.inl (876, fun _ => 0)), .inr (.inl (876, fun _ => 0)), .inr (.inl (876, fun _ => 0)), .inr (.inl (876, fun _ => 0)), .inr (.inl (876, fun _ => 0)), .inr (.inr (.inl (876, fun _ => 0))), .inr (.inl (256, fun _ => 0)), .inr (.inl (8, fun _ => 0))]
def t_M_init : List (Nat × cx_E) := [(0, .aload_n 0, 0, 0, 0, 0, 1),
  (4, .aload_n 0, 0, 0, 0, 0, 5),
  (5, .sipush 876, 876, 0, 0, 0, 8),
  (10, .putfield 11, 2, 0, 1, 0, 13),
  (13, .aload_n 0, 0, 0, 0, 0, 14),
  (14, .sipush 876, 876, 0, 0, 0, 17),
  (19, .putfield 15, 2, 0, 1, 1, 22),
  (22, .aload_n 0, 0, 0, 0, 0, 23),
  (23, .sipush 876, 876, 0, 0, 0, 26),
  (28, .putfield 18, 2, 0, 1, 2, 31),
  (31, .aload_n 0, 0, 0, 0, 0, 32),
  (32, .sipush 876, 876, 0, 0, 0, 35),
  (37, .putfield 21, 2, 0, 1, 3, 40),
  (40, .aload_n 0, 0, 0, 0, 0, 41),
  (41, .sipush 876, 876, 0, 0, 0, 44),
  (46, .putfield 24, 2, 0, 1, 4, 49),
  (49, .aload_n 0, 0, 0, 0, 0, 50),
  (50, .sipush 876, 876, 0, 0, 0, 53),
  (55, .putfield 27, 2, 0, 1, 5, 58),
  (58, .aload_n 0, 0, 0, 0, 0, 59),
  (59, .sipush 876, 876, 0, 0, 0, 62),
  (64, .putfield 30, 2, 0, 1, 6, 67),
  (67, .aload_n 0, 0, 0, 0, 0, 68),
  (68, .sipush 256, 256, 0, 0, 0, 71),
  (73, .putfield 34, 2, 0, 1, 7, 76),
  (76, .aload_n 0, 0, 0, 0, 0, 77),
  (77, .bipush 8, 8, 0, 0, 0, 79),
  (81, .putfield 37, 2, 0, 1, 8, 84),
  (84, .aload_n 0, 0, 0, 0, 0, 85),
  (85, .iconst 2, 2, 0, 0, 0, 86),
  (86, .putfield 40, 0, 0, 1, 9, 89),
  (89, .aload_n 0, 0, 0, 0, 0, 90),
  (90, .iconst 0, 0, 0, 0, 0, 91),
  (91, .putfield 44, 0, 0, 1, 10, 94),
  (94, .return_, 0, 0, 0, 0, 95)]
abbrev q_M_init : List (Nat × Nat × Nat × Int32) := [(11, 1, 0, 2), (15, 1, 1, 2), (18, 1, 2, 2), (21, 1, 3, 2), (24, 1, 4, 2), (27, 1, 5, 2), (30, 1, 6, 2), (34, 1, 7, 2), (37, 1, 8, 2), (40, 1, 9, 0), (44, 1, 10, 0)]
def z_M_init : List (Nat × cz_Z) := [(1, zObj 4),
  (8, zNewa 10 0 876 9 6396),
  (17, zNewa 19 0 876 9 6396),
  (26, zNewa 28 0 876 9 6396),
  (35, zNewa 37 0 876 9 6396),
  (44, zNewa 46 0 876 9 6396),
  (53, zNewa 55 0 876 9 6396),
  (62, zNewa 64 1 876 9 6396),
  (71, zNewa 73 0 256 9 6396),
  (79, zNewa 81 0 8 9 6396)]
theorem k_M_init : t_M_init.all (cx_dec true prog_3_method_1_code none 1 [] q_M_init [] [] [] [] []) = true := by decide +kernel
set_option maxRecDepth 100000 in
set_option maxHeartbeats 4000000 in
theorem pu_M_init : ∀ j ws Rq, sp_M_init j ws Rq → ∀ V, cz_cl t_M_init z_M_init [] 9 6396 (fun o ws => o = .inl none ∧ Rq ws) V → V 0 (cx_lv0 [.inr (.inr (.inl j))] 1) [] ws 0 0 := by
  rintro j ws Rq ⟨rfl, rfl, h⟩ V hV
  refine hV [] 400 _ _ _ _ _ _ ?_
  conv => whnf
  refine ⟨by decide, ?_⟩
  conv => whnf
  refine ⟨⟨rfl, ⟨by decide, by decide⟩, by decide, by decide⟩, ?_⟩
  conv => whnf
  refine ⟨rfl, ?_⟩
  conv => whnf
  refine ⟨⟨rfl, ⟨by decide, by decide⟩, by decide, by decide⟩, ?_⟩
  conv => whnf
  refine ⟨rfl, ?_⟩
  conv => whnf
  refine ⟨⟨rfl, ⟨by decide, by decide⟩, by decide, by decide⟩, ?_⟩
  conv => whnf
  refine ⟨rfl, ?_⟩
  conv => whnf
  refine ⟨⟨rfl, ⟨by decide, by decide⟩, by decide, by decide⟩, ?_⟩
  conv => whnf
  refine ⟨rfl, ?_⟩
  conv => whnf
  refine ⟨⟨rfl, ⟨by decide, by decide⟩, by decide, by decide⟩, ?_⟩
  conv => whnf
  refine ⟨rfl, ?_⟩
  conv => whnf
  refine ⟨⟨rfl, ⟨by decide, by decide⟩, by decide, by decide⟩, ?_⟩
  conv => whnf
  refine ⟨rfl, ?_⟩
  conv => whnf
  refine ⟨⟨rfl, ⟨by decide, by decide⟩, by decide, by decide⟩, ?_⟩
  conv => whnf
  refine ⟨rfl, ?_⟩
  conv => whnf
  refine ⟨⟨rfl, ⟨by decide, by decide⟩, by decide, by decide⟩, ?_⟩
  conv => whnf
  refine ⟨rfl, ?_⟩
  conv => whnf
  refine ⟨⟨rfl, ⟨by decide, by decide⟩, by decide, by decide⟩, ?_⟩
  conv => whnf
  refine ⟨rfl, ?_⟩
  conv => whnf
  refine ⟨Or.inl rfl, ?_⟩
  conv => whnf
  refine ⟨Or.inl rfl, ?_⟩
  conv => whnf
  exact ⟨rfl, h⟩
set_option maxRecDepth 100000 in
set_option maxHeartbeats 4000000 in
theorem c_M_init {l : Launch} {G : cx_G} (hG : cy_okG G) (hcl : cx_cl G = cx_cls) : cy_M l G m_M_init prog_3_method_1_code 1 rm_M_init sp_M_init := by
  refine cy_mk hG (Zs := z_M_init) (by decide) k_M_init (fun S => ?_) (fun S => ?_) pu_M_init
  · exact List.forall_mem_cons.mpr ⟨cy_putR (own := r_M) (C := r_M) (T0 := f_M) (N0 := 11) S.1 S.2.1 S.2.2.2.2.1 S.2.2.2.2.2.2.1 S.2.2.2.2.2.1 (by rw [hcl]; rfl) i_M y_M y_M_ok n_M (by decide) (cx_in 108 (by decide +kernel) (by decide +kernel)) rfl rfl (Or.inr ⟨_, rfl⟩),
      List.forall_mem_cons.mpr ⟨cy_putR (own := r_M) (C := r_M) (T0 := f_M) (N0 := 11) S.1 S.2.1 S.2.2.2.2.1 S.2.2.2.2.2.2.1 S.2.2.2.2.2.1 (by rw [hcl]; rfl) i_M y_M y_M_ok n_M (by decide) (cx_in 109 (by decide +kernel) (by decide +kernel)) rfl rfl (Or.inr ⟨_, rfl⟩),
      List.forall_mem_cons.mpr ⟨cy_putR (own := r_M) (C := r_M) (T0 := f_M) (N0 := 11) S.1 S.2.1 S.2.2.2.2.1 S.2.2.2.2.2.2.1 S.2.2.2.2.2.1 (by rw [hcl]; rfl) i_M y_M y_M_ok n_M (by decide) (cx_in 110 (by decide +kernel) (by decide +kernel)) rfl rfl (Or.inr ⟨_, rfl⟩),
      List.forall_mem_cons.mpr ⟨cy_putR (own := r_M) (C := r_M) (T0 := f_M) (N0 := 11) S.1 S.2.1 S.2.2.2.2.1 S.2.2.2.2.2.2.1 S.2.2.2.2.2.1 (by rw [hcl]; rfl) i_M y_M y_M_ok n_M (by decide) (cx_in 111 (by decide +kernel) (by decide +kernel)) rfl rfl (Or.inr ⟨_, rfl⟩),
      List.forall_mem_cons.mpr ⟨cy_putR (own := r_M) (C := r_M) (T0 := f_M) (N0 := 11) S.1 S.2.1 S.2.2.2.2.1 S.2.2.2.2.2.2.1 S.2.2.2.2.2.1 (by rw [hcl]; rfl) i_M y_M y_M_ok n_M (by decide) (cx_in 112 (by decide +kernel) (by decide +kernel)) rfl rfl (Or.inr ⟨_, rfl⟩),
      List.forall_mem_cons.mpr ⟨cy_putR (own := r_M) (C := r_M) (T0 := f_M) (N0 := 11) S.1 S.2.1 S.2.2.2.2.1 S.2.2.2.2.2.2.1 S.2.2.2.2.2.1 (by rw [hcl]; rfl) i_M y_M y_M_ok n_M (by decide) (cx_in 113 (by decide +kernel) (by decide +kernel)) rfl rfl (Or.inr ⟨_, rfl⟩),
      List.forall_mem_cons.mpr ⟨cy_putR (own := r_M) (C := r_M) (T0 := f_M) (N0 := 11) S.1 S.2.1 S.2.2.2.2.1 S.2.2.2.2.2.2.1 S.2.2.2.2.2.1 (by rw [hcl]; rfl) i_M y_M y_M_ok n_M (by decide) (cx_in 114 (by decide +kernel) (by decide +kernel)) rfl rfl (Or.inr ⟨_, rfl⟩),
      List.forall_mem_cons.mpr ⟨cy_putR (own := r_M) (C := r_M) (T0 := f_M) (N0 := 11) S.1 S.2.1 S.2.2.2.2.1 S.2.2.2.2.2.2.1 S.2.2.2.2.2.1 (by rw [hcl]; rfl) i_M y_M y_M_ok n_M (by decide) (cx_in 115 (by decide +kernel) (by decide +kernel)) rfl rfl (Or.inr ⟨_, rfl⟩),
      List.forall_mem_cons.mpr ⟨cy_putR (own := r_M) (C := r_M) (T0 := f_M) (N0 := 11) S.1 S.2.1 S.2.2.2.2.1 S.2.2.2.2.2.2.1 S.2.2.2.2.2.1 (by rw [hcl]; rfl) i_M y_M y_M_ok n_M (by decide) (cx_in 116 (by decide +kernel) (by decide +kernel)) rfl rfl (Or.inr ⟨_, rfl⟩),
      List.forall_mem_cons.mpr ⟨cx_putP (own := r_M) (C := r_M) (T0 := f_M) (N0 := 11) S.1 S.2.1 S.2.2.2.2.2.2.1 S.2.2.2.2.2.1 (by rw [hcl]; rfl) i_M y_M y_M_ok n_M (by decide) (cx_in 118 (by decide +kernel) (by decide +kernel)) rfl rfl (Or.inl ⟨rfl, rfl⟩),
      List.forall_mem_cons.mpr ⟨cx_putP (own := r_M) (C := r_M) (T0 := f_M) (N0 := 11) S.1 S.2.1 S.2.2.2.2.2.2.1 S.2.2.2.2.2.1 (by rw [hcl]; rfl) i_M y_M y_M_ok n_M (by decide) (cx_in 119 (by decide +kernel) (by decide +kernel)) rfl rfl (Or.inl ⟨rfl, rfl⟩),
      fun _ h => absurd h List.not_mem_nil⟩⟩⟩⟩⟩⟩⟩⟩⟩⟩⟩
  · exact List.forall_mem_cons.mpr ⟨zObj_ok (z := 5) S.1 S.2.1 S.2.2.1 (S.2.2.2.2.2.2).1 S.2.2.2.2.2.1 (cx_in 107 (by decide +kernel) (by decide +kernel)) (by decide +kernel) (by decide),
      List.forall_mem_cons.mpr ⟨zNewa_ok (at0 := .int) hG S.1 S.2.1 S.2.2.2.2.2.2 (Or.inl ⟨rfl, rfl⟩) (by decide) (by decide +kernel) (by decide),
      List.forall_mem_cons.mpr ⟨zNewa_ok (at0 := .int) hG S.1 S.2.1 S.2.2.2.2.2.2 (Or.inl ⟨rfl, rfl⟩) (by decide) (by decide +kernel) (by decide),
      List.forall_mem_cons.mpr ⟨zNewa_ok (at0 := .int) hG S.1 S.2.1 S.2.2.2.2.2.2 (Or.inl ⟨rfl, rfl⟩) (by decide) (by decide +kernel) (by decide),
      List.forall_mem_cons.mpr ⟨zNewa_ok (at0 := .int) hG S.1 S.2.1 S.2.2.2.2.2.2 (Or.inl ⟨rfl, rfl⟩) (by decide) (by decide +kernel) (by decide),
      List.forall_mem_cons.mpr ⟨zNewa_ok (at0 := .int) hG S.1 S.2.1 S.2.2.2.2.2.2 (Or.inl ⟨rfl, rfl⟩) (by decide) (by decide +kernel) (by decide),
      List.forall_mem_cons.mpr ⟨zNewa_ok (at0 := .int) hG S.1 S.2.1 S.2.2.2.2.2.2 (Or.inl ⟨rfl, rfl⟩) (by decide) (by decide +kernel) (by decide),
      List.forall_mem_cons.mpr ⟨zNewa_ok (at0 := .boolean) hG S.1 S.2.1 S.2.2.2.2.2.2 (Or.inr (Or.inl ⟨rfl, rfl⟩)) (by decide) (by decide +kernel) (by decide),
      List.forall_mem_cons.mpr ⟨zNewa_ok (at0 := .int) hG S.1 S.2.1 S.2.2.2.2.2.2 (Or.inl ⟨rfl, rfl⟩) (by decide) (by decide +kernel) (by decide),
      List.forall_mem_cons.mpr ⟨zNewa_ok (at0 := .int) hG S.1 S.2.1 S.2.2.2.2.2.2 (Or.inl ⟨rfl, rfl⟩) (by decide) (by decide +kernel) (by decide),
      fun _ h => absurd h List.not_mem_nil⟩⟩⟩⟩⟩⟩⟩⟩⟩⟩
abbrev m_L_init : MethodName := ⟨"CycleCutter$Layout", "<init>", "()V"⟩
abbrev rm_L_init : Room := { frames := 2, cells := 23, slots := 6477, locals := 40 }
def sp_L_init : cy_S := fun j ws R => j = 10 ∧ ws = [.inl (3, [.inr (.inr (.inl 1)), .inr (.inr (.inr (.inr .null))), .inr (.inr (.inr (.inr .null))), .inl 0]), .inl (2, [.inr (.inr (.inl 2)), .inr (.inr (.inl 3)), .inr (.inr (.inl 4)), .inr (.inr (.inl 5)), .inr (.inr (.inl 6)), .inr (.inr (.inl 7)), .inr (.inr (.inl 8)), .inr (.inr (.inl 9)), .inl 0, .inl 0, .inl 0, .inl 0]), .inr (.inl (120, fun _ => 0)), .inr (.inl (120, fun _ => 0)), .inr (.inl (120, fun _ => 0)), .inr (.inl (500, fun _ => 0)), .inr (.inr (.inl (500, fun _ => 0))), .inr (.inl (500, fun _ => 0)), .inr (.inr (.inr (.inr (120, 4, fun _ _ => 0)))), .inr (.inr (.inr (.inr (120, 4, fun _ _ => 0)))), .inl (0, [.inr (.inr (.inr (.inr .null))), .inr (.inr (.inr (.inr .null))), .inr (.inr (.inr (.inr .null))), .inr (.inr (.inr (.inr .null))), .inl 0])] ∧ R [.inl (3, [.inr (.inr (.inl 1)), .inr (.inr (.inr (.inr .null))), .inr (.inr (.inr (.inr .null))), .inl 0]), .inl (2, [.inr (.inr (.inl 2)), .inr (.inr (.inl 3)), .inr (.inr (.inl 4)), .inr (.inr (.inl 5)), .inr (.inr (.inl 6)), .inr (.inr (.inl 7)), .inr (.inr (.inl 8)), .inr (.inr (.inl 9)), .inl 0, .inl 0, .inl 0, .inl 0]), .inr (.inl (120, fun _ => 0)), .inr (.inl (120, fun _ => 0)), .inr (.inl (120, fun _ => 0)), .inr (.inl (500, fun _ => 0)), .inr (.inr (.inl (500, fun _ => 0))), .inr (.inl (500, fun _ => 0)), .inr (.inr (.inr (.inr (120, 4, fun _ _ => 0)))), .inr (.inr (.inr (.inr (120, 4, fun _ _ => 0)))), .inl (0, [.inr (.inr (.inl 11)), .inr (.inr (.inl 21)), .inr (.inr (.inl 22)), .inr (.inr (.inl 23)), .inl 0]), .inl (1, [.inr (.inr (.inl 12)), .inr (.inr (.inl 13)), .inr (.inr (.inl 14)), .inr (.inr (.inl 15)), .inr (.inr (.inl 16)), .inr (.inr (.inl 17)), .inr (.inr (.inl 18)), .inr (.inr (.inl 19)), .inr (.inr (.inl 20)), .inl 2, .inl 0]), .inr (.inl (876, fun _ => 0)), .inr (.inl (876, fun _ => 0)), .inr (.inl (876, fun _ => 0)), .inr (.inl (876, fun _ => 0)), .inr (.inl (876, fun _ => 0)), .inr (.inl (876, fun _ => 0)), .inr (.inr (.inl (876, fun _ => 0))), .inr (.inl (256, fun _ => 0)), .inr (.inl (8, fun _ => 0)), .inr (.inl (10, fun _ => 0)), .inr (.inl (10, fun _ => 0)), .inr (.inr (.inr (.inr (10, 4, fun _ _ => 0))))]
def t_L_init : List (Nat × cx_E) := [(0, .aload_n 0, 0, 0, 0, 0, 1),
  (4, .aload_n 0, 0, 0, 0, 0, 5),
  (8, .dup, 0, 0, 0, 0, 9),
  (12, .putfield 12, 2, 0, 0, 0, 15),
  (15, .aload_n 0, 0, 0, 0, 0, 16),
  (16, .bipush 10, 10, 0, 0, 0, 18),
  (20, .putfield 18, 2, 0, 0, 1, 23),
  (23, .aload_n 0, 0, 0, 0, 0, 24),
  (24, .bipush 10, 10, 0, 0, 0, 26),
  (28, .putfield 22, 2, 0, 0, 2, 31),
  (31, .aload_n 0, 0, 0, 0, 0, 32),
  (32, .bipush 10, 10, 0, 0, 0, 34),
  (34, .iconst 4, 4, 0, 0, 0, 35),
  (39, .putfield 27, 2, 0, 0, 3, 42),
  (42, .aload_n 0, 0, 0, 0, 0, 43),
  (43, .iconst 0, 0, 0, 0, 0, 44),
  (44, .putfield 30, 0, 0, 0, 4, 47),
  (47, .return_, 0, 0, 0, 0, 48)]
abbrev q_L_init : List (Nat × Nat × Nat × Int32) := [(12, 0, 0, 2), (18, 0, 1, 2), (22, 0, 2, 2), (27, 0, 3, 2), (30, 0, 4, 0)]
theorem cw_0 : cy_w "CycleCutter$Layout" "CycleCutter" 11 m_M_init prog_3_method_1_code 1 := ⟨Or.inr (cx_in 104 (by decide +kernel) (by decide +kernel)), ⟨cx_in 105 (by decide +kernel) (by decide +kernel), cx_in 106 (by decide +kernel) (by decide +kernel)⟩, by decide +kernel, ⟨by decide +kernel, by decide +kernel⟩, rfl, by decide +kernel⟩
def z_L_init : List (Nat × cz_Z) := [(1, zObj 4),
  (5, zNew 8 1 11 d_M 23 6477),
  (9, zCtor 12 sp_M_init 9 6396 23 6477),
  (18, zNewa 20 0 10 23 6477),
  (26, zNewa 28 0 10 23 6477),
  (35, zGrid 39 10 4 23 6477)]
theorem k_L_init : t_L_init.all (cx_dec true prog_2_method_1_code none 1 [] q_L_init [] [] [] [] []) = true := by decide +kernel
set_option maxRecDepth 100000 in
set_option maxHeartbeats 4000000 in
theorem pu_L_init : ∀ j ws Rq, sp_L_init j ws Rq → ∀ V, cz_cl t_L_init z_L_init [] 23 6477 (fun o ws => o = .inl none ∧ Rq ws) V → V 0 (cx_lv0 [.inr (.inr (.inl j))] 1) [] ws 0 0 := by
  rintro j ws Rq ⟨rfl, rfl, h⟩ V hV
  refine hV [] 400 _ _ _ _ _ _ ?_
  conv => whnf
  refine ⟨by decide, ?_⟩
  conv => whnf
  refine ⟨⟨⟨by decide, by decide⟩, by decide, by decide⟩, ?_⟩
  conv => whnf
  refine ⟨⟨by decide, by decide, by decide⟩, rfl, rfl, ?_⟩
  conv => whnf
  refine ⟨rfl, ?_⟩
  conv => whnf
  refine ⟨⟨rfl, ⟨by decide, by decide⟩, by decide, by decide⟩, ?_⟩
  conv => whnf
  refine ⟨rfl, ?_⟩
  conv => whnf
  refine ⟨⟨rfl, ⟨by decide, by decide⟩, by decide, by decide⟩, ?_⟩
  conv => whnf
  refine ⟨rfl, ?_⟩
  conv => whnf
  refine ⟨⟨⟨rfl, rfl⟩, ⟨by decide, by decide, by decide⟩, by decide, by decide⟩, ?_⟩
  conv => whnf
  refine ⟨rfl, ?_⟩
  conv => whnf
  refine ⟨Or.inl rfl, ?_⟩
  conv => whnf
  exact ⟨rfl, h⟩
set_option maxRecDepth 100000 in
set_option maxHeartbeats 4000000 in
theorem c_L_init {l : Launch} {G : cx_G} (hG : cy_okG G) (hcl : cx_cl G = cx_cls) : cy_M l G m_L_init prog_2_method_1_code 1 rm_L_init sp_L_init := by
  refine cy_mk hG (Zs := z_L_init) (by decide) k_L_init (fun S => ?_) (fun S => ?_) pu_L_init
  · exact List.forall_mem_cons.mpr ⟨cy_putR (own := r_L) (C := r_L) (T0 := f_L) (N0 := 5) S.1 S.2.1 S.2.2.2.2.1 S.2.2.2.2.2.2.1 S.2.2.2.2.2.1 (by rw [hcl]; rfl) i_L y_L y_L_ok n_L (by decide) (cx_in 145 (by decide +kernel) (by decide +kernel)) rfl rfl (Or.inl ⟨_, rfl⟩),
      List.forall_mem_cons.mpr ⟨cy_putR (own := r_L) (C := r_L) (T0 := f_L) (N0 := 5) S.1 S.2.1 S.2.2.2.2.1 S.2.2.2.2.2.2.1 S.2.2.2.2.2.1 (by rw [hcl]; rfl) i_L y_L y_L_ok n_L (by decide) (cx_in 147 (by decide +kernel) (by decide +kernel)) rfl rfl (Or.inr ⟨_, rfl⟩),
      List.forall_mem_cons.mpr ⟨cy_putR (own := r_L) (C := r_L) (T0 := f_L) (N0 := 5) S.1 S.2.1 S.2.2.2.2.1 S.2.2.2.2.2.2.1 S.2.2.2.2.2.1 (by rw [hcl]; rfl) i_L y_L y_L_ok n_L (by decide) (cx_in 149 (by decide +kernel) (by decide +kernel)) rfl rfl (Or.inr ⟨_, rfl⟩),
      List.forall_mem_cons.mpr ⟨cy_putR (own := r_L) (C := r_L) (T0 := f_L) (N0 := 5) S.1 S.2.1 S.2.2.2.2.1 S.2.2.2.2.2.2.1 S.2.2.2.2.2.1 (by rw [hcl]; rfl) i_L y_L y_L_ok n_L (by decide) (cx_in 151 (by decide +kernel) (by decide +kernel)) rfl rfl (Or.inr ⟨_, rfl⟩),
      List.forall_mem_cons.mpr ⟨cx_putP (own := r_L) (C := r_L) (T0 := f_L) (N0 := 5) S.1 S.2.1 S.2.2.2.2.2.2.1 S.2.2.2.2.2.1 (by rw [hcl]; rfl) i_L y_L y_L_ok n_L (by decide) (cx_in 152 (by decide +kernel) (by decide +kernel)) rfl rfl (Or.inl ⟨rfl, rfl⟩),
      fun _ h => absurd h List.not_mem_nil⟩⟩⟩⟩⟩
  · exact List.forall_mem_cons.mpr ⟨zObj_ok (z := 3) S.1 S.2.1 S.2.2.1 (S.2.2.2.2.2.2).1 S.2.2.2.2.2.1 (cx_in 101 (by decide +kernel) (by decide +kernel)) (by decide +kernel) (by decide),
      List.forall_mem_cons.mpr ⟨zNew_ok (C := r_M) (T0 := f_M) (z := 9) hG S.1 S.2.1 (S.2.2.2.2.2.2).1 S.2.2.2.2.2.1 (by rw [hcl]; rfl) i_M y_M y_M_ok ⟨cx_in 102 (by decide +kernel) (by decide +kernel), cx_in 103 (by decide +kernel) (by decide +kernel), cx_in 27 (by decide +kernel) (by decide +kernel)⟩ d_M_ok (by decide +kernel) (by decide),
      List.forall_mem_cons.mpr ⟨zCtor_ok (rm := rm_M_init) S.1 S.2.1 S.2.2.1 S.2.2.2.2.2.2 S.2.2.2.2.2.1 (c_M_init hG hcl) cw_0 (by decide +kernel) (by decide),
      List.forall_mem_cons.mpr ⟨zNewa_ok (at0 := .int) hG S.1 S.2.1 S.2.2.2.2.2.2 (Or.inl ⟨rfl, rfl⟩) (by decide) (by decide +kernel) (by decide),
      List.forall_mem_cons.mpr ⟨zNewa_ok (at0 := .int) hG S.1 S.2.1 S.2.2.2.2.2.2 (Or.inl ⟨rfl, rfl⟩) (by decide) (by decide +kernel) (by decide),
      List.forall_mem_cons.mpr ⟨zGrid_ok (z := 25) hG S.1 S.2.1 S.2.2.2.2.2.2 S.2.2.2.2.2.1 (cx_in 144 (by decide +kernel) (by decide +kernel)) (by decide) (by decide +kernel) (by decide),
      fun _ h => absurd h List.not_mem_nil⟩⟩⟩⟩⟩⟩
abbrev m_C_init : MethodName := ⟨"CycleCutter", "<init>", "()V"⟩
abbrev rm_C_init : Room := { frames := 3, cells := 274, slots := 9564, locals := 60 }
def sp_C_init : cy_S := fun j ws R => j = 0 ∧ ws = [.inl (3, [.inr (.inr (.inr (.inr .null))), .inr (.inr (.inr (.inr .null))), .inr (.inr (.inr (.inr .null))), .inl 0])] ∧ R [.inl (3, [.inr (.inr (.inl 1)), .inr (.inr (.inl 10)), .inr (.inr (.inl 24)), .inl 0]), .inl (2, [.inr (.inr (.inl 2)), .inr (.inr (.inl 3)), .inr (.inr (.inl 4)), .inr (.inr (.inl 5)), .inr (.inr (.inl 6)), .inr (.inr (.inl 7)), .inr (.inr (.inl 8)), .inr (.inr (.inl 9)), .inl 0, .inl 0, .inl 0, .inl 0]), .inr (.inl (120, fun _ => 0)), .inr (.inl (120, fun _ => 0)), .inr (.inl (120, fun _ => 0)), .inr (.inl (500, fun _ => 0)), .inr (.inr (.inl (500, fun _ => 0))), .inr (.inl (500, fun _ => 0)), .inr (.inr (.inr (.inr (120, 4, fun _ _ => 0)))), .inr (.inr (.inr (.inr (120, 4, fun _ _ => 0)))), .inl (0, [.inr (.inr (.inl 11)), .inr (.inr (.inl 21)), .inr (.inr (.inl 22)), .inr (.inr (.inl 23)), .inl 0]), .inl (1, [.inr (.inr (.inl 12)), .inr (.inr (.inl 13)), .inr (.inr (.inl 14)), .inr (.inr (.inl 15)), .inr (.inr (.inl 16)), .inr (.inr (.inl 17)), .inr (.inr (.inl 18)), .inr (.inr (.inl 19)), .inr (.inr (.inl 20)), .inl 2, .inl 0]), .inr (.inl (876, fun _ => 0)), .inr (.inl (876, fun _ => 0)), .inr (.inl (876, fun _ => 0)), .inr (.inl (876, fun _ => 0)), .inr (.inl (876, fun _ => 0)), .inr (.inl (876, fun _ => 0)), .inr (.inr (.inl (876, fun _ => 0))), .inr (.inl (256, fun _ => 0)), .inr (.inl (8, fun _ => 0)), .inr (.inl (10, fun _ => 0)), .inr (.inl (10, fun _ => 0)), .inr (.inr (.inr (.inr (10, 4, fun _ _ => 0)))), .inr (.inl (10, fun _ => 0))]
def t_C_init : List (Nat × cx_E) := [(0, .aload_n 0, 0, 0, 0, 0, 1),
  (4, .aload_n 0, 0, 0, 0, 0, 5),
  (8, .dup, 0, 0, 0, 0, 9),
  (12, .putfield 12, 2, 0, 3, 0, 15),
  (15, .aload_n 0, 0, 0, 0, 0, 16),
  (19, .dup, 0, 0, 0, 0, 20),
  (23, .putfield 19, 2, 0, 3, 1, 26),
  (26, .aload_n 0, 0, 0, 0, 0, 27),
  (27, .bipush 10, 10, 0, 0, 0, 29),
  (31, .putfield 23, 2, 0, 3, 2, 34),
  (34, .aload_n 0, 0, 0, 0, 0, 35),
  (35, .iconst 0, 0, 0, 0, 0, 36),
  (36, .putfield 27, 0, 0, 3, 3, 39),
  (39, .return_, 0, 0, 0, 0, 40)]
abbrev q_C_init : List (Nat × Nat × Nat × Int32) := [(12, 3, 0, 2), (19, 3, 1, 2), (23, 3, 2, 2), (27, 3, 3, 0)]
theorem cw_1 : cy_w "CycleCutter" "CycleCutter" 11 m_N_init prog_4_method_1_code 1 := ⟨Or.inr (cx_in 47 (by decide +kernel) (by decide +kernel)), ⟨cx_in 48 (by decide +kernel) (by decide +kernel), cx_in 49 (by decide +kernel) (by decide +kernel)⟩, by decide +kernel, ⟨by decide +kernel, by decide +kernel⟩, rfl, by decide +kernel⟩
theorem cw_2 : cy_w "CycleCutter" "CycleCutter" 18 m_L_init prog_2_method_1_code 1 := ⟨Or.inr (cx_in 98 (by decide +kernel) (by decide +kernel)), ⟨cx_in 99 (by decide +kernel) (by decide +kernel), cx_in 100 (by decide +kernel) (by decide +kernel)⟩, by decide +kernel, ⟨by decide +kernel, by decide +kernel⟩, rfl, by decide +kernel⟩
def z_C_init : List (Nat × cz_Z) := [(1, zObj 4),
  (5, zNew 8 2 12 d_N 274 9564),
  (9, zCtor 12 sp_N_init 248 3060 274 9564),
  (16, zNew 19 0 5 d_L 274 9564),
  (20, zCtor 23 sp_L_init 23 6477 274 9564),
  (29, zNewa 31 0 10 274 9564)]
theorem k_C_init : t_C_init.all (cx_dec true prog_1_method_1_code none 1 [] q_C_init [] [] [] [] []) = true := by decide +kernel
set_option maxRecDepth 100000 in
set_option maxHeartbeats 4000000 in
theorem pu_C_init : ∀ j ws Rq, sp_C_init j ws Rq → ∀ V, cz_cl t_C_init z_C_init [] 274 9564 (fun o ws => o = .inl none ∧ Rq ws) V → V 0 (cx_lv0 [.inr (.inr (.inl j))] 1) [] ws 0 0 := by
  rintro j ws Rq ⟨rfl, rfl, h⟩ V hV
  refine hV [] 400 _ _ _ _ _ _ ?_
  conv => whnf
  refine ⟨by decide, ?_⟩
  conv => whnf
  refine ⟨⟨⟨by decide, by decide⟩, by decide, by decide⟩, ?_⟩
  conv => whnf
  refine ⟨⟨by decide, by decide, by decide⟩, rfl, rfl, ?_⟩
  conv => whnf
  refine ⟨rfl, ?_⟩
  conv => whnf
  refine ⟨⟨⟨by decide, by decide⟩, by decide, by decide⟩, ?_⟩
  conv => whnf
  refine ⟨⟨by decide, by decide, by decide⟩, rfl, rfl, ?_⟩
  conv => whnf
  refine ⟨rfl, ?_⟩
  conv => whnf
  refine ⟨⟨rfl, ⟨by decide, by decide⟩, by decide, by decide⟩, ?_⟩
  conv => whnf
  refine ⟨rfl, ?_⟩
  conv => whnf
  refine ⟨Or.inl rfl, ?_⟩
  conv => whnf
  exact ⟨rfl, h⟩
set_option maxRecDepth 100000 in
set_option maxHeartbeats 4000000 in
theorem c_C_init {l : Launch} {G : cx_G} (hG : cy_okG G) (hcl : cx_cl G = cx_cls) : cy_M l G m_C_init prog_1_method_1_code 1 rm_C_init sp_C_init := by
  refine cy_mk hG (Zs := z_C_init) (by decide) k_C_init (fun S => ?_) (fun S => ?_) pu_C_init
  · exact List.forall_mem_cons.mpr ⟨cy_putR (own := r_C) (C := r_C) (T0 := f_C) (N0 := 4) S.1 S.2.1 S.2.2.2.2.1 S.2.2.2.2.2.2.1 S.2.2.2.2.2.1 (by rw [hcl]; rfl) i_C y_C y_C_ok n_C (by decide) (cx_in 165 (by decide +kernel) (by decide +kernel)) rfl rfl (Or.inl ⟨_, rfl⟩),
      List.forall_mem_cons.mpr ⟨cy_putR (own := r_C) (C := r_C) (T0 := f_C) (N0 := 4) S.1 S.2.1 S.2.2.2.2.1 S.2.2.2.2.2.2.1 S.2.2.2.2.2.1 (by rw [hcl]; rfl) i_C y_C y_C_ok n_C (by decide) (cx_in 166 (by decide +kernel) (by decide +kernel)) rfl rfl (Or.inl ⟨_, rfl⟩),
      List.forall_mem_cons.mpr ⟨cy_putR (own := r_C) (C := r_C) (T0 := f_C) (N0 := 4) S.1 S.2.1 S.2.2.2.2.1 S.2.2.2.2.2.2.1 S.2.2.2.2.2.1 (by rw [hcl]; rfl) i_C y_C y_C_ok n_C (by decide) (cx_in 167 (by decide +kernel) (by decide +kernel)) rfl rfl (Or.inr ⟨_, rfl⟩),
      List.forall_mem_cons.mpr ⟨cx_putP (own := r_C) (C := r_C) (T0 := f_C) (N0 := 4) S.1 S.2.1 S.2.2.2.2.2.2.1 S.2.2.2.2.2.1 (by rw [hcl]; rfl) i_C y_C y_C_ok n_C (by decide) (cx_in 168 (by decide +kernel) (by decide +kernel)) rfl rfl (Or.inl ⟨rfl, rfl⟩),
      fun _ h => absurd h List.not_mem_nil⟩⟩⟩⟩
  · exact List.forall_mem_cons.mpr ⟨zObj_ok (z := 3) S.1 S.2.1 S.2.2.1 (S.2.2.2.2.2.2).1 S.2.2.2.2.2.1 (cx_in 42 (by decide +kernel) (by decide +kernel)) (by decide +kernel) (by decide),
      List.forall_mem_cons.mpr ⟨zNew_ok (C := r_N) (T0 := f_N) (z := 9) hG S.1 S.2.1 (S.2.2.2.2.2.2).1 S.2.2.2.2.2.1 (by rw [hcl]; rfl) i_N y_N y_N_ok ⟨cx_in 45 (by decide +kernel) (by decide +kernel), cx_in 46 (by decide +kernel) (by decide +kernel), cx_in 25 (by decide +kernel) (by decide +kernel)⟩ d_N_ok (by decide +kernel) (by decide),
      List.forall_mem_cons.mpr ⟨zCtor_ok (rm := rm_N_init) S.1 S.2.1 S.2.2.1 S.2.2.2.2.2.2 S.2.2.2.2.2.1 (c_N_init hG hcl) cw_1 (by decide +kernel) (by decide),
      List.forall_mem_cons.mpr ⟨zNew_ok (C := r_L) (T0 := f_L) (z := 16) hG S.1 S.2.1 (S.2.2.2.2.2.2).1 S.2.2.2.2.2.1 (by rw [hcl]; rfl) i_L y_L y_L_ok ⟨cx_in 96 (by decide +kernel) (by decide +kernel), cx_in 97 (by decide +kernel) (by decide +kernel), cx_in 26 (by decide +kernel) (by decide +kernel)⟩ d_L_ok (by decide +kernel) (by decide),
      List.forall_mem_cons.mpr ⟨zCtor_ok (rm := rm_L_init) S.1 S.2.1 S.2.2.1 S.2.2.2.2.2.2 S.2.2.2.2.2.1 (c_L_init hG hcl) cw_2 (by decide +kernel) (by decide),
      List.forall_mem_cons.mpr ⟨zNewa_ok (at0 := .int) hG S.1 S.2.1 S.2.2.2.2.2.2 (Or.inl ⟨rfl, rfl⟩) (by decide) (by decide +kernel) (by decide),
      fun _ h => absurd h List.not_mem_nil⟩⟩⟩⟩⟩⟩
abbrev m_R_init : MethodName := ⟨"CycleCutterModel", "<init>", "()V"⟩
abbrev rm_R_init : Room := { frames := 1, cells := 14, slots := 19978, locals := 20 }
def sp_R_init : cy_S := fun j ws R => j = 25 ∧ ws = [.inl (3, [.inr (.inr (.inl 1)), .inr (.inr (.inl 10)), .inr (.inr (.inl 24)), .inl 0]), .inl (2, [.inr (.inr (.inl 2)), .inr (.inr (.inl 3)), .inr (.inr (.inl 4)), .inr (.inr (.inl 5)), .inr (.inr (.inl 6)), .inr (.inr (.inl 7)), .inr (.inr (.inl 8)), .inr (.inr (.inl 9)), .inl 0, .inl 0, .inl 0, .inl 0]), .inr (.inl (120, fun _ => 0)), .inr (.inl (120, fun _ => 0)), .inr (.inl (120, fun _ => 0)), .inr (.inl (500, fun _ => 0)), .inr (.inr (.inl (500, fun _ => 0))), .inr (.inl (500, fun _ => 0)), .inr (.inr (.inr (.inr (120, 4, fun _ _ => 0)))), .inr (.inr (.inr (.inr (120, 4, fun _ _ => 0)))), .inl (0, [.inr (.inr (.inl 11)), .inr (.inr (.inl 21)), .inr (.inr (.inl 22)), .inr (.inr (.inl 23)), .inl 0]), .inl (1, [.inr (.inr (.inl 12)), .inr (.inr (.inl 13)), .inr (.inr (.inl 14)), .inr (.inr (.inl 15)), .inr (.inr (.inl 16)), .inr (.inr (.inl 17)), .inr (.inr (.inl 18)), .inr (.inr (.inl 19)), .inr (.inr (.inl 20)), .inl 2, .inl 0]), .inr (.inl (876, fun _ => 0)), .inr (.inl (876, fun _ => 0)), .inr (.inl (876, fun _ => 0)), .inr (.inl (876, fun _ => 0)), .inr (.inl (876, fun _ => 0)), .inr (.inl (876, fun _ => 0)), .inr (.inr (.inl (876, fun _ => 0))), .inr (.inl (256, fun _ => 0)), .inr (.inl (8, fun _ => 0)), .inr (.inl (10, fun _ => 0)), .inr (.inl (10, fun _ => 0)), .inr (.inr (.inr (.inr (10, 4, fun _ _ => 0)))), .inr (.inl (10, fun _ => 0)), .inl (4, [.inl 0, .inl 0, .inl 0, .inl 0, .inl 0, .inr (.inr (.inr (.inr .null))), .inr (.inr (.inr (.inr .null))), .inr (.inr (.inr (.inr .null))), .inr (.inr (.inr (.inr .null))), .inr (.inr (.inr (.inr .null))), .inr (.inr (.inr (.inr .null))), .inr (.inr (.inr (.inr .null))), .inl 0, .inl 0, .inr (.inr (.inr (.inr .null))), .inr (.inr (.inr (.inr .null))), .inr (.inr (.inr (.inr .null))), .inr (.inr (.inr (.inr .null))), .inr (.inr (.inr (.inr .null))), .inr (.inr (.inr (.inr .null))), .inr (.inr (.inr (.inr .null)))])] ∧ R [.inl (3, [.inr (.inr (.inl 1)), .inr (.inr (.inl 10)), .inr (.inr (.inl 24)), .inl 0]), .inl (2, [.inr (.inr (.inl 2)), .inr (.inr (.inl 3)), .inr (.inr (.inl 4)), .inr (.inr (.inl 5)), .inr (.inr (.inl 6)), .inr (.inr (.inl 7)), .inr (.inr (.inl 8)), .inr (.inr (.inl 9)), .inl 0, .inl 0, .inl 0, .inl 0]), .inr (.inl (120, fun _ => 0)), .inr (.inl (120, fun _ => 0)), .inr (.inl (120, fun _ => 0)), .inr (.inl (500, fun _ => 0)), .inr (.inr (.inl (500, fun _ => 0))), .inr (.inl (500, fun _ => 0)), .inr (.inr (.inr (.inr (120, 4, fun _ _ => 0)))), .inr (.inr (.inr (.inr (120, 4, fun _ _ => 0)))), .inl (0, [.inr (.inr (.inl 11)), .inr (.inr (.inl 21)), .inr (.inr (.inl 22)), .inr (.inr (.inl 23)), .inl 0]), .inl (1, [.inr (.inr (.inl 12)), .inr (.inr (.inl 13)), .inr (.inr (.inl 14)), .inr (.inr (.inl 15)), .inr (.inr (.inl 16)), .inr (.inr (.inl 17)), .inr (.inr (.inl 18)), .inr (.inr (.inl 19)), .inr (.inr (.inl 20)), .inl 2, .inl 0]), .inr (.inl (876, fun _ => 0)), .inr (.inl (876, fun _ => 0)), .inr (.inl (876, fun _ => 0)), .inr (.inl (876, fun _ => 0)), .inr (.inl (876, fun _ => 0)), .inr (.inl (876, fun _ => 0)), .inr (.inr (.inl (876, fun _ => 0))), .inr (.inl (256, fun _ => 0)), .inr (.inl (8, fun _ => 0)), .inr (.inl (10, fun _ => 0)), .inr (.inl (10, fun _ => 0)), .inr (.inr (.inr (.inr (10, 4, fun _ _ => 0)))), .inr (.inl (10, fun _ => 0)), .inl (4, [.inl 0, .inl 0, .inl 0, .inl 0, .inl 0, .inr (.inr (.inl 26)), .inr (.inr (.inl 27)), .inr (.inr (.inl 28)), .inr (.inr (.inl 29)), .inr (.inr (.inl 30)), .inr (.inr (.inl 31)), .inr (.inr (.inl 32)), .inl 0, .inl 0, .inr (.inr (.inl 33)), .inr (.inr (.inl 34)), .inr (.inr (.inl 35)), .inr (.inr (.inl 36)), .inr (.inr (.inl 37)), .inr (.inr (.inl 38)), .inr (.inr (.inl 39))]), .inr (.inl (120, fun _ => 0)), .inr (.inl (120, fun _ => 0)), .inr (.inl (500, fun _ => 0)), .inr (.inl (500, fun _ => 0)), .inr (.inl (10, fun _ => 0)), .inr (.inr (.inl (500, fun _ => 0))), .inr (.inl (120, fun _ => 0)), .inr (.inr (.inr (.inl (8088, fun _ => 0)))), .inr (.inl (2000, fun _ => 0)), .inr (.inl (2000, fun _ => 0)), .inr (.inl (2000, fun _ => 0)), .inr (.inl (2000, fun _ => 0)), .inr (.inl (20, fun _ => 0)), .inr (.inr (.inl (2000, fun _ => 0)))]
def t_R_init : List (Nat × cx_E) := [(0, .aload_n 0, 0, 0, 0, 0, 1),
  (4, .aload_n 0, 0, 0, 0, 0, 5),
  (5, .bipush 120, 120, 0, 0, 0, 7),
  (9, .putfield 7, 2, 0, 4, 5, 12),
  (12, .aload_n 0, 0, 0, 0, 0, 13),
  (13, .bipush 120, 120, 0, 0, 0, 15),
  (17, .putfield 13, 2, 0, 4, 6, 20),
  (20, .aload_n 0, 0, 0, 0, 0, 21),
  (21, .sipush 500, 500, 0, 0, 0, 24),
  (26, .putfield 16, 2, 0, 4, 7, 29),
  (29, .aload_n 0, 0, 0, 0, 0, 30),
  (30, .sipush 500, 500, 0, 0, 0, 33),
  (35, .putfield 19, 2, 0, 4, 8, 38),
  (38, .aload_n 0, 0, 0, 0, 0, 39),
  (39, .bipush 10, 10, 0, 0, 0, 41),
  (43, .putfield 22, 2, 0, 4, 9, 46),
  (46, .aload_n 0, 0, 0, 0, 0, 47),
  (47, .sipush 500, 500, 0, 0, 0, 50),
  (52, .putfield 25, 2, 0, 4, 10, 55),
  (55, .aload_n 0, 0, 0, 0, 0, 56),
  (56, .bipush 120, 120, 0, 0, 0, 58),
  (60, .putfield 29, 2, 0, 4, 11, 63),
  (63, .aload_n 0, 0, 0, 0, 0, 64),
  (64, .sipush 8088, 8088, 0, 0, 0, 67),
  (69, .putfield 32, 2, 0, 4, 14, 72),
  (72, .aload_n 0, 0, 0, 0, 0, 73),
  (73, .sipush 2000, 2000, 0, 0, 0, 76),
  (78, .putfield 36, 2, 0, 4, 15, 81),
  (81, .aload_n 0, 0, 0, 0, 0, 82),
  (82, .sipush 2000, 2000, 0, 0, 0, 85),
  (87, .putfield 39, 2, 0, 4, 16, 90),
  (90, .aload_n 0, 0, 0, 0, 0, 91),
  (91, .sipush 2000, 2000, 0, 0, 0, 94),
  (96, .putfield 42, 2, 0, 4, 17, 99),
  (99, .aload_n 0, 0, 0, 0, 0, 100),
  (100, .sipush 2000, 2000, 0, 0, 0, 103),
  (105, .putfield 45, 2, 0, 4, 18, 108),
  (108, .aload_n 0, 0, 0, 0, 0, 109),
  (109, .bipush 20, 20, 0, 0, 0, 111),
  (113, .putfield 48, 2, 0, 4, 19, 116),
  (116, .aload_n 0, 0, 0, 0, 0, 117),
  (117, .sipush 2000, 2000, 0, 0, 0, 120),
  (122, .putfield 51, 2, 0, 4, 20, 125),
  (125, .return_, 0, 0, 0, 0, 126)]
abbrev q_R_init : List (Nat × Nat × Nat × Int32) := [(7, 4, 5, 2), (13, 4, 6, 2), (16, 4, 7, 2), (19, 4, 8, 2), (22, 4, 9, 2), (25, 4, 10, 2), (29, 4, 11, 2), (32, 4, 14, 2), (36, 4, 15, 2), (39, 4, 16, 2), (42, 4, 17, 2), (45, 4, 18, 2), (48, 4, 19, 2), (51, 4, 20, 2)]
def z_R_init : List (Nat × cz_Z) := [(1, zObj 4),
  (7, zNewa 9 0 120 14 19978),
  (15, zNewa 17 0 120 14 19978),
  (24, zNewa 26 0 500 14 19978),
  (33, zNewa 35 0 500 14 19978),
  (41, zNewa 43 0 10 14 19978),
  (50, zNewa 52 1 500 14 19978),
  (58, zNewa 60 0 120 14 19978),
  (67, zNewa 69 2 8088 14 19978),
  (76, zNewa 78 0 2000 14 19978),
  (85, zNewa 87 0 2000 14 19978),
  (94, zNewa 96 0 2000 14 19978),
  (103, zNewa 105 0 2000 14 19978),
  (111, zNewa 113 0 20 14 19978),
  (120, zNewa 122 1 2000 14 19978)]
theorem k_R_init : t_R_init.all (cx_dec true prog_6_method_1_code none 1 [] q_R_init [] [] [] [] []) = true := by decide +kernel
set_option maxRecDepth 100000 in
set_option maxHeartbeats 4000000 in
theorem pu_R_init : ∀ j ws Rq, sp_R_init j ws Rq → ∀ V, cz_cl t_R_init z_R_init [] 14 19978 (fun o ws => o = .inl none ∧ Rq ws) V → V 0 (cx_lv0 [.inr (.inr (.inl j))] 1) [] ws 0 0 := by
  rintro j ws Rq ⟨rfl, rfl, h⟩ V hV
  refine hV [] 400 _ _ _ _ _ _ ?_
  conv => whnf
  refine ⟨by decide, ?_⟩
  conv => whnf
  refine ⟨⟨rfl, ⟨by decide, by decide⟩, by decide, by decide⟩, ?_⟩
  conv => whnf
  refine ⟨rfl, ?_⟩
  conv => whnf
  refine ⟨⟨rfl, ⟨by decide, by decide⟩, by decide, by decide⟩, ?_⟩
  conv => whnf
  refine ⟨rfl, ?_⟩
  conv => whnf
  refine ⟨⟨rfl, ⟨by decide, by decide⟩, by decide, by decide⟩, ?_⟩
  conv => whnf
  refine ⟨rfl, ?_⟩
  conv => whnf
  refine ⟨⟨rfl, ⟨by decide, by decide⟩, by decide, by decide⟩, ?_⟩
  conv => whnf
  refine ⟨rfl, ?_⟩
  conv => whnf
  refine ⟨⟨rfl, ⟨by decide, by decide⟩, by decide, by decide⟩, ?_⟩
  conv => whnf
  refine ⟨rfl, ?_⟩
  conv => whnf
  refine ⟨⟨rfl, ⟨by decide, by decide⟩, by decide, by decide⟩, ?_⟩
  conv => whnf
  refine ⟨rfl, ?_⟩
  conv => whnf
  refine ⟨⟨rfl, ⟨by decide, by decide⟩, by decide, by decide⟩, ?_⟩
  conv => whnf
  refine ⟨rfl, ?_⟩
  conv => whnf
  refine ⟨⟨rfl, ⟨by decide, by decide⟩, by decide, by decide⟩, ?_⟩
  conv => whnf
  refine ⟨rfl, ?_⟩
  conv => whnf
  refine ⟨⟨rfl, ⟨by decide, by decide⟩, by decide, by decide⟩, ?_⟩
  conv => whnf
  refine ⟨rfl, ?_⟩
  conv => whnf
  refine ⟨⟨rfl, ⟨by decide, by decide⟩, by decide, by decide⟩, ?_⟩
  conv => whnf
  refine ⟨rfl, ?_⟩
  conv => whnf
  refine ⟨⟨rfl, ⟨by decide, by decide⟩, by decide, by decide⟩, ?_⟩
  conv => whnf
  refine ⟨rfl, ?_⟩
  conv => whnf
  refine ⟨⟨rfl, ⟨by decide, by decide⟩, by decide, by decide⟩, ?_⟩
  conv => whnf
  refine ⟨rfl, ?_⟩
  conv => whnf
  refine ⟨⟨rfl, ⟨by decide, by decide⟩, by decide, by decide⟩, ?_⟩
  conv => whnf
  refine ⟨rfl, ?_⟩
  conv => whnf
  refine ⟨⟨rfl, ⟨by decide, by decide⟩, by decide, by decide⟩, ?_⟩
  conv => whnf
  refine ⟨rfl, ?_⟩
  conv => whnf
  exact ⟨rfl, h⟩
set_option maxRecDepth 100000 in
set_option maxHeartbeats 4000000 in
theorem c_R_init {l : Launch} {G : cx_G} (hG : cy_okG G) (hcl : cx_cl G = cx_cls) : cy_M l G m_R_init prog_6_method_1_code 1 rm_R_init sp_R_init := by
  refine cy_mk hG (Zs := z_R_init) (by decide) k_R_init (fun S => ?_) (fun S => ?_) pu_R_init
  · exact List.forall_mem_cons.mpr ⟨cy_putR (own := r_R) (C := r_R) (T0 := f_R) (N0 := 21) S.1 S.2.1 S.2.2.2.2.1 S.2.2.2.2.2.2.1 S.2.2.2.2.2.1 (by rw [hcl]; rfl) i_R y_R y_R_ok n_R (by decide) (cx_in 512 (by decide +kernel) (by decide +kernel)) rfl rfl (Or.inr ⟨_, rfl⟩),
      List.forall_mem_cons.mpr ⟨cy_putR (own := r_R) (C := r_R) (T0 := f_R) (N0 := 21) S.1 S.2.1 S.2.2.2.2.1 S.2.2.2.2.2.2.1 S.2.2.2.2.2.1 (by rw [hcl]; rfl) i_R y_R y_R_ok n_R (by decide) (cx_in 513 (by decide +kernel) (by decide +kernel)) rfl rfl (Or.inr ⟨_, rfl⟩),
      List.forall_mem_cons.mpr ⟨cy_putR (own := r_R) (C := r_R) (T0 := f_R) (N0 := 21) S.1 S.2.1 S.2.2.2.2.1 S.2.2.2.2.2.2.1 S.2.2.2.2.2.1 (by rw [hcl]; rfl) i_R y_R y_R_ok n_R (by decide) (cx_in 514 (by decide +kernel) (by decide +kernel)) rfl rfl (Or.inr ⟨_, rfl⟩),
      List.forall_mem_cons.mpr ⟨cy_putR (own := r_R) (C := r_R) (T0 := f_R) (N0 := 21) S.1 S.2.1 S.2.2.2.2.1 S.2.2.2.2.2.2.1 S.2.2.2.2.2.1 (by rw [hcl]; rfl) i_R y_R y_R_ok n_R (by decide) (cx_in 515 (by decide +kernel) (by decide +kernel)) rfl rfl (Or.inr ⟨_, rfl⟩),
      List.forall_mem_cons.mpr ⟨cy_putR (own := r_R) (C := r_R) (T0 := f_R) (N0 := 21) S.1 S.2.1 S.2.2.2.2.1 S.2.2.2.2.2.2.1 S.2.2.2.2.2.1 (by rw [hcl]; rfl) i_R y_R y_R_ok n_R (by decide) (cx_in 516 (by decide +kernel) (by decide +kernel)) rfl rfl (Or.inr ⟨_, rfl⟩),
      List.forall_mem_cons.mpr ⟨cy_putR (own := r_R) (C := r_R) (T0 := f_R) (N0 := 21) S.1 S.2.1 S.2.2.2.2.1 S.2.2.2.2.2.2.1 S.2.2.2.2.2.1 (by rw [hcl]; rfl) i_R y_R y_R_ok n_R (by decide) (cx_in 517 (by decide +kernel) (by decide +kernel)) rfl rfl (Or.inr ⟨_, rfl⟩),
      List.forall_mem_cons.mpr ⟨cy_putR (own := r_R) (C := r_R) (T0 := f_R) (N0 := 21) S.1 S.2.1 S.2.2.2.2.1 S.2.2.2.2.2.2.1 S.2.2.2.2.2.1 (by rw [hcl]; rfl) i_R y_R y_R_ok n_R (by decide) (cx_in 518 (by decide +kernel) (by decide +kernel)) rfl rfl (Or.inr ⟨_, rfl⟩),
      List.forall_mem_cons.mpr ⟨cy_putR (own := r_R) (C := r_R) (T0 := f_R) (N0 := 21) S.1 S.2.1 S.2.2.2.2.1 S.2.2.2.2.2.2.1 S.2.2.2.2.2.1 (by rw [hcl]; rfl) i_R y_R y_R_ok n_R (by decide) (cx_in 521 (by decide +kernel) (by decide +kernel)) rfl rfl (Or.inr ⟨_, rfl⟩),
      List.forall_mem_cons.mpr ⟨cy_putR (own := r_R) (C := r_R) (T0 := f_R) (N0 := 21) S.1 S.2.1 S.2.2.2.2.1 S.2.2.2.2.2.2.1 S.2.2.2.2.2.1 (by rw [hcl]; rfl) i_R y_R y_R_ok n_R (by decide) (cx_in 522 (by decide +kernel) (by decide +kernel)) rfl rfl (Or.inr ⟨_, rfl⟩),
      List.forall_mem_cons.mpr ⟨cy_putR (own := r_R) (C := r_R) (T0 := f_R) (N0 := 21) S.1 S.2.1 S.2.2.2.2.1 S.2.2.2.2.2.2.1 S.2.2.2.2.2.1 (by rw [hcl]; rfl) i_R y_R y_R_ok n_R (by decide) (cx_in 523 (by decide +kernel) (by decide +kernel)) rfl rfl (Or.inr ⟨_, rfl⟩),
      List.forall_mem_cons.mpr ⟨cy_putR (own := r_R) (C := r_R) (T0 := f_R) (N0 := 21) S.1 S.2.1 S.2.2.2.2.1 S.2.2.2.2.2.2.1 S.2.2.2.2.2.1 (by rw [hcl]; rfl) i_R y_R y_R_ok n_R (by decide) (cx_in 524 (by decide +kernel) (by decide +kernel)) rfl rfl (Or.inr ⟨_, rfl⟩),
      List.forall_mem_cons.mpr ⟨cy_putR (own := r_R) (C := r_R) (T0 := f_R) (N0 := 21) S.1 S.2.1 S.2.2.2.2.1 S.2.2.2.2.2.2.1 S.2.2.2.2.2.1 (by rw [hcl]; rfl) i_R y_R y_R_ok n_R (by decide) (cx_in 525 (by decide +kernel) (by decide +kernel)) rfl rfl (Or.inr ⟨_, rfl⟩),
      List.forall_mem_cons.mpr ⟨cy_putR (own := r_R) (C := r_R) (T0 := f_R) (N0 := 21) S.1 S.2.1 S.2.2.2.2.1 S.2.2.2.2.2.2.1 S.2.2.2.2.2.1 (by rw [hcl]; rfl) i_R y_R y_R_ok n_R (by decide) (cx_in 526 (by decide +kernel) (by decide +kernel)) rfl rfl (Or.inr ⟨_, rfl⟩),
      List.forall_mem_cons.mpr ⟨cy_putR (own := r_R) (C := r_R) (T0 := f_R) (N0 := 21) S.1 S.2.1 S.2.2.2.2.1 S.2.2.2.2.2.2.1 S.2.2.2.2.2.1 (by rw [hcl]; rfl) i_R y_R y_R_ok n_R (by decide) (cx_in 527 (by decide +kernel) (by decide +kernel)) rfl rfl (Or.inr ⟨_, rfl⟩),
      fun _ h => absurd h List.not_mem_nil⟩⟩⟩⟩⟩⟩⟩⟩⟩⟩⟩⟩⟩⟩
  · exact List.forall_mem_cons.mpr ⟨zObj_ok (z := 1) S.1 S.2.1 S.2.2.1 (S.2.2.2.2.2.2).1 S.2.2.2.2.2.1 (cx_in 506 (by decide +kernel) (by decide +kernel)) (by decide +kernel) (by decide),
      List.forall_mem_cons.mpr ⟨zNewa_ok (at0 := .int) hG S.1 S.2.1 S.2.2.2.2.2.2 (Or.inl ⟨rfl, rfl⟩) (by decide) (by decide +kernel) (by decide),
      List.forall_mem_cons.mpr ⟨zNewa_ok (at0 := .int) hG S.1 S.2.1 S.2.2.2.2.2.2 (Or.inl ⟨rfl, rfl⟩) (by decide) (by decide +kernel) (by decide),
      List.forall_mem_cons.mpr ⟨zNewa_ok (at0 := .int) hG S.1 S.2.1 S.2.2.2.2.2.2 (Or.inl ⟨rfl, rfl⟩) (by decide) (by decide +kernel) (by decide),
      List.forall_mem_cons.mpr ⟨zNewa_ok (at0 := .int) hG S.1 S.2.1 S.2.2.2.2.2.2 (Or.inl ⟨rfl, rfl⟩) (by decide) (by decide +kernel) (by decide),
      List.forall_mem_cons.mpr ⟨zNewa_ok (at0 := .int) hG S.1 S.2.1 S.2.2.2.2.2.2 (Or.inl ⟨rfl, rfl⟩) (by decide) (by decide +kernel) (by decide),
      List.forall_mem_cons.mpr ⟨zNewa_ok (at0 := .boolean) hG S.1 S.2.1 S.2.2.2.2.2.2 (Or.inr (Or.inl ⟨rfl, rfl⟩)) (by decide) (by decide +kernel) (by decide),
      List.forall_mem_cons.mpr ⟨zNewa_ok (at0 := .int) hG S.1 S.2.1 S.2.2.2.2.2.2 (Or.inl ⟨rfl, rfl⟩) (by decide) (by decide +kernel) (by decide),
      List.forall_mem_cons.mpr ⟨zNewa_ok (at0 := .long) hG S.1 S.2.1 S.2.2.2.2.2.2 (Or.inr (Or.inr ⟨rfl, rfl⟩)) (by decide) (by decide +kernel) (by decide),
      List.forall_mem_cons.mpr ⟨zNewa_ok (at0 := .int) hG S.1 S.2.1 S.2.2.2.2.2.2 (Or.inl ⟨rfl, rfl⟩) (by decide) (by decide +kernel) (by decide),
      List.forall_mem_cons.mpr ⟨zNewa_ok (at0 := .int) hG S.1 S.2.1 S.2.2.2.2.2.2 (Or.inl ⟨rfl, rfl⟩) (by decide) (by decide +kernel) (by decide),
      List.forall_mem_cons.mpr ⟨zNewa_ok (at0 := .int) hG S.1 S.2.1 S.2.2.2.2.2.2 (Or.inl ⟨rfl, rfl⟩) (by decide) (by decide +kernel) (by decide),
      List.forall_mem_cons.mpr ⟨zNewa_ok (at0 := .int) hG S.1 S.2.1 S.2.2.2.2.2.2 (Or.inl ⟨rfl, rfl⟩) (by decide) (by decide +kernel) (by decide),
      List.forall_mem_cons.mpr ⟨zNewa_ok (at0 := .int) hG S.1 S.2.1 S.2.2.2.2.2.2 (Or.inl ⟨rfl, rfl⟩) (by decide) (by decide +kernel) (by decide),
      List.forall_mem_cons.mpr ⟨zNewa_ok (at0 := .boolean) hG S.1 S.2.1 S.2.2.2.2.2.2 (Or.inr (Or.inl ⟨rfl, rfl⟩)) (by decide) (by decide +kernel) (by decide),
      fun _ h => absurd h List.not_mem_nil⟩⟩⟩⟩⟩⟩⟩⟩⟩⟩⟩⟩⟩⟩⟩
abbrev w_0 : List cx_C := [.inl (3, [.inr (.inr (.inl 1)), .inr (.inr (.inl 10)), .inr (.inr (.inl 24)), .inl 0]), .inl (2, [.inr (.inr (.inl 2)), .inr (.inr (.inl 3)), .inr (.inr (.inl 4)), .inr (.inr (.inl 5)), .inr (.inr (.inl 6)), .inr (.inr (.inl 7)), .inr (.inr (.inl 8)), .inr (.inr (.inl 9)), .inl 0, .inl 0, .inl 0, .inl 0]), .inr (.inl (120, fun _ => 0)), .inr (.inl (120, fun _ => 0)), .inr (.inl (120, fun _ => 0)), .inr (.inl (500, fun _ => 0)), .inr (.inr (.inl (500, fun _ => 0))), .inr (.inl (500, fun _ => 0)), .inr (.inr (.inr (.inr (120, 4, fun _ _ => 0)))), .inr (.inr (.inr (.inr (120, 4, fun _ _ => 0)))), .inl (0, [.inr (.inr (.inl 11)), .inr (.inr (.inl 21)), .inr (.inr (.inl 22)), .inr (.inr (.inl 23)), .inl 0]), .inl (1, [.inr (.inr (.inl 12)), .inr (.inr (.inl 13)), .inr (.inr (.inl 14)), .inr (.inr (.inl 15)), .inr (.inr (.inl 16)), .inr (.inr (.inl 17)), .inr (.inr (.inl 18)), .inr (.inr (.inl 19)), .inr (.inr (.inl 20)), .inl 2, .inl 0]), .inr (.inl (876, fun _ => 0)), .inr (.inl (876, fun _ => 0)), .inr (.inl (876, fun _ => 0)), .inr (.inl (876, fun _ => 0)), .inr (.inl (876, fun _ => 0)), .inr (.inl (876, fun _ => 0)), .inr (.inr (.inl (876, fun _ => 0))), .inr (.inl (256, fun _ => 0)), .inr (.inl (8, fun _ => 0)), .inr (.inl (10, fun _ => 0)), .inr (.inl (10, fun _ => 0)), .inr (.inr (.inr (.inr (10, 4, fun _ _ => 0)))), .inr (.inl (10, fun _ => 0)), .inl (4, [.inl 0, .inl 0, .inl 0, .inl 0, .inl 0, .inr (.inr (.inl 26)), .inr (.inr (.inl 27)), .inr (.inr (.inl 28)), .inr (.inr (.inl 29)), .inr (.inr (.inl 30)), .inr (.inr (.inl 31)), .inr (.inr (.inl 32)), .inl 0, .inl 0, .inr (.inr (.inl 33)), .inr (.inr (.inl 34)), .inr (.inr (.inl 35)), .inr (.inr (.inl 36)), .inr (.inr (.inl 37)), .inr (.inr (.inl 38)), .inr (.inr (.inl 39))]), .inr (.inl (120, fun _ => 0)), .inr (.inl (120, fun _ => 0)), .inr (.inl (500, fun _ => 0)), .inr (.inl (500, fun _ => 0)), .inr (.inl (10, fun _ => 0)), .inr (.inr (.inl (500, fun _ => 0))), .inr (.inl (120, fun _ => 0)), .inr (.inr (.inr (.inl (8088, fun _ => 0)))), .inr (.inl (2000, fun _ => 0)), .inr (.inl (2000, fun _ => 0)), .inr (.inl (2000, fun _ => 0)), .inr (.inl (2000, fun _ => 0)), .inr (.inl (20, fun _ => 0)), .inr (.inr (.inl (2000, fun _ => 0))), .inr (.inr (.inr (.inl (1, fun _ => 0))))]
