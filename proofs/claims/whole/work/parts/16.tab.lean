/-! The methods' tables: by program (wip/whole/gen.py). -/
def t_L_dropAll : List (Nat × cx_E) := [(0, .aload_n 0, 0, 0, 0, 0, 1),
  (1, .getfield 12, 0, 0, 0, 0, 4),
  (4, .invokevirtual 34, 0, 0, 0, 0, 7),
  (7, .aload_n 0, 0, 0, 0, 0, 8),
  (8, .iconst 0, 0, 0, 0, 0, 9),
  (9, .putfield 30, 0, 0, 0, 4, 12),
  (12, .return_, 0, 0, 0, 0, 13)]
abbrev v_L_dropAll : List (Nat × Nat) := [(34, 0)]
abbrev s_L_dropAll : List (Nat × Nat) := []
abbrev h_L_dropAll : List (Nat × Nat) := []
abbrev w_L_dropAll : List (Nat × List Nat) := []
abbrev x_L_dropAll : List String := []
theorem k_L_dropAll : t_L_dropAll.all (cx_dec true prog_2_method_2_code none 1 g_L p_L l_L v_L_dropAll s_L_dropAll h_L_dropAll w_L_dropAll) = true := by decide +kernel
abbrev m_L_dropAll : MethodName := ⟨"CycleCutter$Layout", "dropAll", "()V"⟩
-- calls of L_dropAll: 0 = CycleCutter$Multiplexers.dropAll()V
def t_L_addOutput : List (Nat × cx_E) := [(0, .aload_n 0, 0, 0, 0, 0, 1),
  (1, .getfield 30, 0, 0, 0, 4, 4),
  (4, .bipush 10, 10, 0, 0, 0, 6),
  (6, .if_icmp .lt 4, 0, 0, 10, 0, 9),
  (9, .return_, 0, 0, 0, 0, 10),
  (10, .aload_n 0, 0, 0, 0, 0, 11),
  (11, .getfield 18, 0, 0, 0, 1, 14),
  (14, .aload_n 0, 0, 0, 0, 0, 15),
  (15, .getfield 30, 0, 0, 0, 4, 18),
  (18, .aload_n 0, 0, 0, 0, 0, 19),
  (19, .getfield 12, 0, 0, 0, 0, 22),
  (22, .aload_n 1, 0, 0, 1, 0, 23),
  (23, .invokevirtual 37, 0, 0, 0, 0, 26),
  (26, .iastore, 0, 0, 0, 0, 27),
  (27, .aload_n 0, 0, 0, 0, 0, 28),
  (28, .getfield 22, 0, 0, 0, 2, 31),
  (31, .aload_n 0, 0, 0, 0, 0, 32),
  (32, .getfield 30, 0, 0, 0, 4, 35),
  (35, .aload_n 0, 0, 0, 0, 0, 36),
  (36, .getfield 12, 0, 0, 0, 0, 39),
  (39, .aload_n 2, 0, 0, 2, 0, 40),
  (40, .invokevirtual 37, 0, 0, 0, 0, 43),
  (43, .iastore, 0, 0, 0, 0, 44),
  (44, .iconst 0, 0, 0, 0, 0, 45),
  (45, .istore_n 3, 0, 0, 3, 0, 46),
  (46, .iload_n 3, 0, 0, 3, 0, 47),
  (47, .iconst 4, 4, 0, 0, 0, 48),
  (48, .if_icmp .ge 27, 0, 0, 75, 0, 51),
  (51, .aload_n 0, 0, 0, 0, 0, 52),
  (52, .getfield 27, 0, 0, 0, 3, 55),
  (55, .aload_n 0, 0, 0, 0, 0, 56),
  (56, .getfield 30, 0, 0, 0, 4, 59),
  (59, .aaload, 0, 0, 0, 0, 60),
  (60, .iload_n 3, 0, 0, 3, 0, 61),
  (61, .aload_n 1, 0, 0, 1, 0, 62),
  (62, .iload_n 3, 0, 0, 3, 0, 63),
  (63, .laload, 0, 0, 0, 0, 64),
  (64, .aload_n 2, 0, 0, 2, 0, 65),
  (65, .iload_n 3, 0, 0, 3, 0, 66),
  (66, .laload, 0, 0, 0, 0, 67),
  (67, .lor, 0, 0, 0, 0, 68),
  (68, .lastore, 0, 0, 0, 0, 69),
  (69, .iinc 3 1, 1, 0, 3, 0, 72),
  (72, .goto (-26), 0, 0, 46, 0, 75),
  (75, .aload_n 0, 0, 0, 0, 0, 76),
  (76, .aload_n 0, 0, 0, 0, 0, 77),
  (77, .getfield 30, 0, 0, 0, 4, 80),
  (80, .iconst 1, 1, 0, 0, 0, 81),
  (81, .iadd, 0, 0, 0, 0, 82),
  (82, .putfield 30, 0, 0, 0, 4, 85),
  (85, .return_, 0, 0, 0, 0, 86)]
abbrev v_L_addOutput : List (Nat × Nat) := [(37, 0)]
abbrev s_L_addOutput : List (Nat × Nat) := []
abbrev h_L_addOutput : List (Nat × Nat) := []
abbrev w_L_addOutput : List (Nat × List Nat) := []
abbrev x_L_addOutput : List String := []
theorem k_L_addOutput : t_L_addOutput.all (cx_dec true prog_2_method_3_code none 4 g_L p_L l_L v_L_addOutput s_L_addOutput h_L_addOutput w_L_addOutput) = true := by decide +kernel
abbrev m_L_addOutput : MethodName := ⟨"CycleCutter$Layout", "addOutput", "([J[J)V"⟩
-- calls of L_addOutput: 0 = CycleCutter$Multiplexers.addFunction([J)I
def t_L_valueOn : List (Nat × cx_E) := [(0, .aload_n 0, 0, 0, 0, 0, 1),
  (1, .getfield 12, 0, 0, 0, 0, 4),
  (4, .aload_n 0, 0, 0, 0, 0, 5),
  (5, .getfield 18, 0, 0, 0, 1, 8),
  (8, .iload_n 1, 0, 0, 1, 0, 9),
  (9, .iaload, 0, 0, 0, 0, 10),
  (10, .iload_n 2, 0, 0, 2, 0, 11),
  (11, .invokevirtual 41, 0, 0, 0, 0, 14),
  (14, .ifCond .eq 5, 0, 0, 19, 0, 17),
  (17, .iconst 1, 1, 0, 0, 0, 18),
  (18, .ireturn, 0, 0, 0, 0, 19),
  (19, .aload_n 0, 0, 0, 0, 0, 20),
  (20, .getfield 12, 0, 0, 0, 0, 23),
  (23, .aload_n 0, 0, 0, 0, 0, 24),
  (24, .getfield 22, 0, 0, 0, 2, 27),
  (27, .iload_n 1, 0, 0, 1, 0, 28),
  (28, .iaload, 0, 0, 0, 0, 29),
  (29, .iload_n 2, 0, 0, 2, 0, 30),
  (30, .invokevirtual 41, 0, 0, 0, 0, 33),
  (33, .ifCond .eq 7, 0, 0, 40, 0, 36),
  (36, .iconst 0, 0, 0, 0, 0, 37),
  (37, .goto 4, 0, 0, 41, 0, 40),
  (40, .iconst 2, 2, 0, 0, 0, 41),
  (41, .ireturn, 0, 0, 0, 0, 42)]
abbrev v_L_valueOn : List (Nat × Nat) := [(41, 0)]
abbrev s_L_valueOn : List (Nat × Nat) := []
abbrev h_L_valueOn : List (Nat × Nat) := []
abbrev w_L_valueOn : List (Nat × List Nat) := []
abbrev x_L_valueOn : List String := []
theorem k_L_valueOn : t_L_valueOn.all (cx_dec true prog_2_method_4_code (some (.int)) 3 g_L p_L l_L v_L_valueOn s_L_valueOn h_L_valueOn w_L_valueOn) = true := by decide +kernel
abbrev m_L_valueOn : MethodName := ⟨"CycleCutter$Layout", "valueOn", "(II)I"⟩
-- calls of L_valueOn: 0 = CycleCutter$Multiplexers.isOneOn(II)Z
def t_L_stepsOn : List (Nat × cx_E) := [(0, .aload_n 0, 0, 0, 0, 0, 1),
  (1, .getfield 12, 0, 0, 0, 0, 4),
  (4, .aload_n 0, 0, 0, 0, 0, 5),
  (5, .getfield 18, 0, 0, 0, 1, 8),
  (8, .iload_n 1, 0, 0, 1, 0, 9),
  (9, .iaload, 0, 0, 0, 0, 10),
  (10, .iload_n 2, 0, 0, 2, 0, 11),
  (11, .invokevirtual 45, 0, 0, 0, 0, 14),
  (14, .aload_n 0, 0, 0, 0, 0, 15),
  (15, .getfield 12, 0, 0, 0, 0, 18),
  (18, .aload_n 0, 0, 0, 0, 0, 19),
  (19, .getfield 22, 0, 0, 0, 2, 22),
  (22, .iload_n 1, 0, 0, 1, 0, 23),
  (23, .iaload, 0, 0, 0, 0, 24),
  (24, .iload_n 2, 0, 0, 2, 0, 25),
  (25, .invokevirtual 45, 0, 0, 0, 0, 28),
  (28, .iadd, 0, 0, 0, 0, 29),
  (29, .ireturn, 0, 0, 0, 0, 30)]
abbrev v_L_stepsOn : List (Nat × Nat) := [(45, 0)]
abbrev s_L_stepsOn : List (Nat × Nat) := []
abbrev h_L_stepsOn : List (Nat × Nat) := []
abbrev w_L_stepsOn : List (Nat × List Nat) := []
abbrev x_L_stepsOn : List String := []
theorem k_L_stepsOn : t_L_stepsOn.all (cx_dec true prog_2_method_5_code (some (.int)) 3 g_L p_L l_L v_L_stepsOn s_L_stepsOn h_L_stepsOn w_L_stepsOn) = true := by decide +kernel
abbrev m_L_stepsOn : MethodName := ⟨"CycleCutter$Layout", "stepsOn", "(II)I"⟩
-- calls of L_stepsOn: 0 = CycleCutter$Multiplexers.stepsOn(II)I
def t_L_knownChoices : List (Nat × cx_E) := [(0, .iconst 0, 0, 0, 0, 0, 1),
  (1, .istore_n 2, 0, 0, 2, 0, 2),
  (2, .iconst 0, 0, 0, 0, 0, 3),
  (3, .istore_n 3, 0, 0, 3, 0, 4),
  (4, .iload_n 3, 0, 0, 3, 0, 5),
  (5, .iconst 4, 4, 0, 0, 0, 6),
  (6, .if_icmp .ge 23, 0, 0, 29, 0, 9),
  (9, .iload_n 2, 0, 0, 2, 0, 10),
  (10, .aload_n 0, 0, 0, 0, 0, 11),
  (11, .getfield 27, 0, 0, 0, 3, 14),
  (14, .iload_n 1, 0, 0, 1, 0, 15),
  (15, .aaload, 0, 0, 0, 0, 16),
  (16, .iload_n 3, 0, 0, 3, 0, 17),
  (17, .laload, 0, 0, 0, 0, 18),
  (18, .invokestatic 49, 0, 0, 0, 0, 21),
  (21, .iadd, 0, 0, 0, 0, 22),
  (22, .istore_n 2, 0, 0, 2, 0, 23),
  (23, .iinc 3 1, 1, 0, 3, 0, 26),
  (26, .goto (-22), 0, 0, 4, 0, 29),
  (29, .iload_n 2, 0, 0, 2, 0, 30),
  (30, .ireturn, 0, 0, 0, 0, 31)]
abbrev v_L_knownChoices : List (Nat × Nat) := []
abbrev s_L_knownChoices : List (Nat × Nat) := [(49, 0)]
abbrev h_L_knownChoices : List (Nat × Nat) := []
abbrev w_L_knownChoices : List (Nat × List Nat) := []
abbrev x_L_knownChoices : List String := []
theorem k_L_knownChoices : t_L_knownChoices.all (cx_dec true prog_2_method_6_code (some (.int)) 4 g_L p_L l_L v_L_knownChoices s_L_knownChoices h_L_knownChoices w_L_knownChoices) = true := by decide +kernel
abbrev m_L_knownChoices : MethodName := ⟨"CycleCutter$Layout", "knownChoices", "(I)I"⟩
-- calls of L_knownChoices: 0 = java/lang/Long.bitCount(J)I
def t_L_firstDoubtFrom : List (Nat × cx_E) := [(0, .iload_n 1, 0, 0, 1, 0, 1),
  (1, .istore_n 2, 0, 0, 2, 0, 2),
  (2, .iload_n 2, 0, 0, 2, 0, 3),
  (3, .sipush 256, 256, 0, 0, 0, 6),
  (6, .if_icmp .ge 40, 0, 0, 46, 0, 9),
  (9, .iconst 0, 0, 0, 0, 0, 10),
  (10, .istore_n 3, 0, 0, 3, 0, 11),
  (11, .iload_n 3, 0, 0, 3, 0, 12),
  (12, .aload_n 0, 0, 0, 0, 0, 13),
  (13, .getfield 30, 0, 0, 0, 4, 16),
  (16, .if_icmp .ge 24, 0, 0, 40, 0, 19),
  (19, .aload_n 0, 0, 0, 0, 0, 20),
  (20, .getfield 27, 0, 0, 0, 3, 23),
  (23, .iload_n 3, 0, 0, 3, 0, 24),
  (24, .aaload, 0, 0, 0, 0, 25),
  (25, .iload_n 2, 0, 0, 2, 0, 26),
  (26, .invokestatic 55, 0, 0, 0, 0, 29),
  (29, .ifCond .ne 5, 0, 0, 34, 0, 32),
  (32, .iload_n 2, 0, 0, 2, 0, 33),
  (33, .ireturn, 0, 0, 0, 0, 34),
  (34, .iinc 3 1, 1, 0, 3, 0, 37),
  (37, .goto (-26), 0, 0, 11, 0, 40),
  (40, .iinc 2 1, 1, 0, 2, 0, 43),
  (43, .goto (-41), 0, 0, 2, 0, 46),
  (46, .iconst (-1), (-1), 0, 0, 0, 47),
  (47, .ireturn, 0, 0, 0, 0, 48)]
abbrev v_L_firstDoubtFrom : List (Nat × Nat) := []
abbrev s_L_firstDoubtFrom : List (Nat × Nat) := [(55, 0)]
abbrev h_L_firstDoubtFrom : List (Nat × Nat) := []
abbrev w_L_firstDoubtFrom : List (Nat × List Nat) := []
abbrev x_L_firstDoubtFrom : List String := []
theorem k_L_firstDoubtFrom : t_L_firstDoubtFrom.all (cx_dec true prog_2_method_7_code (some (.int)) 4 g_L p_L l_L v_L_firstDoubtFrom s_L_firstDoubtFrom h_L_firstDoubtFrom w_L_firstDoubtFrom) = true := by decide +kernel
abbrev m_L_firstDoubtFrom : MethodName := ⟨"CycleCutter$Layout", "firstDoubtFrom", "(I)I"⟩
-- calls of L_firstDoubtFrom: 0 = CycleCutter.isMember([JI)Z
def t_M_dropAll : List (Nat × cx_E) := [(0, .aload_n 0, 0, 0, 0, 0, 1),
  (1, .iconst 2, 2, 0, 0, 0, 2),
  (2, .putfield 40, 0, 0, 1, 9, 5),
  (5, .aload_n 0, 0, 0, 0, 0, 6),
  (6, .iconst 0, 0, 0, 0, 0, 7),
  (7, .putfield 44, 0, 0, 1, 10, 10),
  (10, .iconst 0, 0, 0, 0, 0, 11),
  (11, .istore_n 1, 0, 0, 1, 0, 12),
  (12, .iload_n 1, 0, 0, 1, 0, 13),
  (13, .iconst 2, 2, 0, 0, 0, 14),
  (14, .if_icmp .ge 23, 0, 0, 37, 0, 17),
  (17, .aload_n 0, 0, 0, 0, 0, 18),
  (18, .getfield 21, 0, 0, 1, 3, 21),
  (21, .iload_n 1, 0, 0, 1, 0, 22),
  (22, .iconst 0, 0, 0, 0, 0, 23),
  (23, .iastore, 0, 0, 0, 0, 24),
  (24, .aload_n 0, 0, 0, 0, 0, 25),
  (25, .getfield 24, 0, 0, 1, 4, 28),
  (28, .iload_n 1, 0, 0, 1, 0, 29),
  (29, .iconst (-1), (-1), 0, 0, 0, 30),
  (30, .iastore, 0, 0, 0, 0, 31),
  (31, .iinc 1 1, 1, 0, 1, 0, 34),
  (34, .goto (-22), 0, 0, 12, 0, 37),
  (37, .iconst 0, 0, 0, 0, 0, 38),
  (38, .istore_n 1, 0, 0, 1, 0, 39),
  (39, .iload_n 1, 0, 0, 1, 0, 40),
  (40, .bipush 8, 8, 0, 0, 0, 42),
  (42, .if_icmp .ge 16, 0, 0, 58, 0, 45),
  (45, .aload_n 0, 0, 0, 0, 0, 46),
  (46, .getfield 37, 0, 0, 1, 8, 49),
  (49, .iload_n 1, 0, 0, 1, 0, 50),
  (50, .iconst 0, 0, 0, 0, 0, 51),
  (51, .iastore, 0, 0, 0, 0, 52),
  (52, .iinc 1 1, 1, 0, 1, 0, 55),
  (55, .goto (-16), 0, 0, 39, 0, 58),
  (58, .return_, 0, 0, 0, 0, 59)]
abbrev v_M_dropAll : List (Nat × Nat) := []
abbrev s_M_dropAll : List (Nat × Nat) := []
abbrev h_M_dropAll : List (Nat × Nat) := []
abbrev w_M_dropAll : List (Nat × List Nat) := []
abbrev x_M_dropAll : List String := []
theorem k_M_dropAll : t_M_dropAll.all (cx_dec true prog_3_method_2_code none 2 g_M p_M l_M v_M_dropAll s_M_dropAll h_M_dropAll w_M_dropAll) = true := by decide +kernel
abbrev m_M_dropAll : MethodName := ⟨"CycleCutter$Multiplexers", "dropAll", "()V"⟩
-- calls of M_dropAll: 
def t_M_total : List (Nat × cx_E) := [(0, .aload_n 0, 0, 0, 0, 0, 1),
  (1, .getfield 40, 0, 0, 1, 9, 4),
  (4, .iconst 2, 2, 0, 0, 0, 5),
  (5, .isub, 0, 0, 0, 0, 6),
  (6, .ireturn, 0, 0, 0, 0, 7)]
abbrev v_M_total : List (Nat × Nat) := []
abbrev s_M_total : List (Nat × Nat) := []
abbrev h_M_total : List (Nat × Nat) := []
abbrev w_M_total : List (Nat × List Nat) := []
abbrev x_M_total : List String := []
theorem k_M_total : t_M_total.all (cx_dec true prog_3_method_3_code (some (.int)) 1 g_M p_M l_M v_M_total s_M_total h_M_total w_M_total) = true := by decide +kernel
abbrev m_M_total : MethodName := ⟨"CycleCutter$Multiplexers", "total", "()I"⟩
-- calls of M_total: 
def t_M_addFunction : List (Nat × cx_E) := [(0, .iconst 0, 0, 0, 0, 0, 1),
  (1, .istore_n 2, 0, 0, 2, 0, 2),
  (2, .iload_n 2, 0, 0, 2, 0, 3),
  (3, .sipush 256, 256, 0, 0, 0, 6),
  (6, .if_icmp .ge 28, 0, 0, 34, 0, 9),
  (9, .aload_n 0, 0, 0, 0, 0, 10),
  (10, .getfield 34, 0, 0, 1, 7, 13),
  (13, .iload_n 2, 0, 0, 2, 0, 14),
  (14, .aload_n 1, 0, 0, 1, 0, 15),
  (15, .iload_n 2, 0, 0, 2, 0, 16),
  (16, .invokestatic 47, 0, 0, 0, 0, 19),
  (19, .ifCond .eq 7, 0, 0, 26, 0, 22),
  (22, .iconst 1, 1, 0, 0, 0, 23),
  (23, .goto 4, 0, 0, 27, 0, 26),
  (26, .iconst 0, 0, 0, 0, 0, 27),
  (27, .iastore, 0, 0, 0, 0, 28),
  (28, .iinc 2 1, 1, 0, 2, 0, 31),
  (31, .goto (-29), 0, 0, 2, 0, 34),
  (34, .bipush 7, 7, 0, 0, 0, 36),
  (36, .istore_n 2, 0, 0, 2, 0, 37),
  (37, .iload_n 2, 0, 0, 2, 0, 38),
  (38, .ifCond .lt 60, 0, 0, 98, 0, 41),
  (41, .iconst 1, 1, 0, 0, 0, 42),
  (42, .iload_n 2, 0, 0, 2, 0, 43),
  (43, .ishl, 0, 0, 0, 0, 44),
  (44, .istore_n 3, 0, 0, 3, 0, 45),
  (45, .iconst 0, 0, 0, 0, 0, 46),
  (46, .istore 4, 0, 0, 4, 0, 48),
  (48, .iload 4, 0, 0, 4, 0, 50),
  (50, .iload_n 3, 0, 0, 3, 0, 51),
  (51, .if_icmp .ge 41, 0, 0, 92, 0, 54),
  (54, .aload_n 0, 0, 0, 0, 0, 55),
  (55, .getfield 34, 0, 0, 1, 7, 58),
  (58, .iload 4, 0, 0, 4, 0, 60),
  (60, .aload_n 0, 0, 0, 0, 0, 61),
  (61, .iload_n 2, 0, 0, 2, 0, 62),
  (62, .aload_n 0, 0, 0, 0, 0, 63),
  (63, .getfield 34, 0, 0, 1, 7, 66),
  (66, .iconst 2, 2, 0, 0, 0, 67),
  (67, .iload 4, 0, 0, 4, 0, 69),
  (69, .imul, 0, 0, 0, 0, 70),
  (70, .iaload, 0, 0, 0, 0, 71),
  (71, .aload_n 0, 0, 0, 0, 0, 72),
  (72, .getfield 34, 0, 0, 1, 7, 75),
  (75, .iconst 2, 2, 0, 0, 0, 76),
  (76, .iload 4, 0, 0, 4, 0, 78),
  (78, .imul, 0, 0, 0, 0, 79),
  (79, .iconst 1, 1, 0, 0, 0, 80),
  (80, .iadd, 0, 0, 0, 0, 81),
  (81, .iaload, 0, 0, 0, 0, 82),
  (82, .invokevirtual 51, 0, 0, 1, 0, 85),
  (85, .iastore, 0, 0, 0, 0, 86),
  (86, .iinc 4 1, 1, 0, 4, 0, 89),
  (89, .goto (-41), 0, 0, 48, 0, 92),
  (92, .iinc 2 (-1), (-1), 0, 2, 0, 95),
  (95, .goto (-58), 0, 0, 37, 0, 98),
  (98, .aload_n 0, 0, 0, 0, 0, 99),
  (99, .getfield 34, 0, 0, 1, 7, 102),
  (102, .iconst 0, 0, 0, 0, 0, 103),
  (103, .iaload, 0, 0, 0, 0, 104),
  (104, .ireturn, 0, 0, 0, 0, 105)]
abbrev v_M_addFunction : List (Nat × Nat) := [(51, 1)]
abbrev s_M_addFunction : List (Nat × Nat) := [(47, 0)]
abbrev h_M_addFunction : List (Nat × Nat) := []
abbrev w_M_addFunction : List (Nat × List Nat) := []
abbrev x_M_addFunction : List String := []
theorem k_M_addFunction : t_M_addFunction.all (cx_dec true prog_3_method_4_code (some (.int)) 5 g_M p_M l_M v_M_addFunction s_M_addFunction h_M_addFunction w_M_addFunction) = true := by decide +kernel
abbrev m_M_addFunction : MethodName := ⟨"CycleCutter$Multiplexers", "addFunction", "([J)I"⟩
-- calls of M_addFunction: 0 = CycleCutter.isMember([JI)Z, 1 = CycleCutter$Multiplexers.join(III)I
def t_M_join : List (Nat × cx_E) := [(0, .iload_n 2, 0, 0, 2, 0, 1),
  (1, .iload_n 3, 0, 0, 3, 0, 2),
  (2, .if_icmp .ne 5, 0, 0, 7, 0, 5),
  (5, .iload_n 2, 0, 0, 2, 0, 6),
  (6, .ireturn, 0, 0, 0, 0, 7),
  (7, .aload_n 0, 0, 0, 0, 0, 8),
  (8, .getfield 24, 0, 0, 1, 4, 11),
  (11, .iload_n 2, 0, 0, 2, 0, 12),
  (12, .iaload, 0, 0, 0, 0, 13),
  (13, .istore 4, 0, 0, 4, 0, 15),
  (15, .iconst 0, 0, 0, 0, 0, 16),
  (16, .istore 5, 0, 0, 5, 0, 18),
  (18, .iload 5, 0, 0, 5, 0, 20),
  (20, .aload_n 0, 0, 0, 0, 0, 21),
  (21, .getfield 40, 0, 0, 1, 9, 24),
  (24, .if_icmp .ge 49, 0, 0, 73, 0, 27),
  (27, .iload 4, 0, 0, 4, 0, 29),
  (29, .iconst (-1), (-1), 0, 0, 0, 30),
  (30, .if_icmp .eq 43, 0, 0, 73, 0, 33),
  (33, .aload_n 0, 0, 0, 0, 0, 34),
  (34, .getfield 11, 0, 0, 1, 0, 37),
  (37, .iload 4, 0, 0, 4, 0, 39),
  (39, .iaload, 0, 0, 0, 0, 40),
  (40, .iload_n 1, 0, 0, 1, 0, 41),
  (41, .if_icmp .ne 17, 0, 0, 58, 0, 44),
  (44, .aload_n 0, 0, 0, 0, 0, 45),
  (45, .getfield 18, 0, 0, 1, 2, 48),
  (48, .iload 4, 0, 0, 4, 0, 50),
  (50, .iaload, 0, 0, 0, 0, 51),
  (51, .iload_n 3, 0, 0, 3, 0, 52),
  (52, .if_icmp .ne 6, 0, 0, 58, 0, 55),
  (55, .iload 4, 0, 0, 4, 0, 57),
  (57, .ireturn, 0, 0, 0, 0, 58),
  (58, .aload_n 0, 0, 0, 0, 0, 59),
  (59, .getfield 27, 0, 0, 1, 5, 62),
  (62, .iload 4, 0, 0, 4, 0, 64),
  (64, .iaload, 0, 0, 0, 0, 65),
  (65, .istore 4, 0, 0, 4, 0, 67),
  (67, .iinc 5 1, 1, 0, 5, 0, 70),
  (70, .goto (-52), 0, 0, 18, 0, 73),
  (73, .aload_n 0, 0, 0, 0, 0, 74),
  (74, .iload_n 1, 0, 0, 1, 0, 75),
  (75, .iload_n 2, 0, 0, 2, 0, 76),
  (76, .iload_n 3, 0, 0, 3, 0, 77),
  (77, .invokevirtual 55, 0, 0, 0, 0, 80),
  (80, .ireturn, 0, 0, 0, 0, 81)]
abbrev v_M_join : List (Nat × Nat) := [(55, 0)]
abbrev s_M_join : List (Nat × Nat) := []
abbrev h_M_join : List (Nat × Nat) := []
abbrev w_M_join : List (Nat × List Nat) := []
abbrev x_M_join : List String := []
theorem k_M_join : t_M_join.all (cx_dec true prog_3_method_5_code (some (.int)) 6 g_M p_M l_M v_M_join s_M_join h_M_join w_M_join) = true := by decide +kernel
abbrev m_M_join : MethodName := ⟨"CycleCutter$Multiplexers", "join", "(III)I"⟩
-- calls of M_join: 0 = CycleCutter$Multiplexers.addMultiplexer(III)I
def t_M_addMultiplexer : List (Nat × cx_E) := [(0, .aload_n 0, 0, 0, 0, 0, 1),
  (1, .getfield 40, 0, 0, 1, 9, 4),
  (4, .sipush 876, 876, 0, 0, 0, 7),
  (7, .if_icmp .lt 5, 0, 0, 12, 0, 10),
  (10, .iload_n 2, 0, 0, 2, 0, 11),
  (11, .ireturn, 0, 0, 0, 0, 12),
  (12, .aload_n 0, 0, 0, 0, 0, 13),
  (13, .getfield 40, 0, 0, 1, 9, 16),
  (16, .istore 4, 0, 0, 4, 0, 18),
  (18, .aload_n 0, 0, 0, 0, 0, 19),
  (19, .getfield 11, 0, 0, 1, 0, 22),
  (22, .iload 4, 0, 0, 4, 0, 24),
  (24, .iload_n 1, 0, 0, 1, 0, 25),
  (25, .iastore, 0, 0, 0, 0, 26),
  (26, .aload_n 0, 0, 0, 0, 0, 27),
  (27, .getfield 15, 0, 0, 1, 1, 30),
  (30, .iload 4, 0, 0, 4, 0, 32),
  (32, .iload_n 2, 0, 0, 2, 0, 33),
  (33, .iastore, 0, 0, 0, 0, 34),
  (34, .aload_n 0, 0, 0, 0, 0, 35),
  (35, .getfield 18, 0, 0, 1, 2, 38),
  (38, .iload 4, 0, 0, 4, 0, 40),
  (40, .iload_n 3, 0, 0, 3, 0, 41),
  (41, .iastore, 0, 0, 0, 0, 42),
  (42, .aload_n 0, 0, 0, 0, 0, 43),
  (43, .getfield 21, 0, 0, 1, 3, 46),
  (46, .iload 4, 0, 0, 4, 0, 48),
  (48, .iconst 1, 1, 0, 0, 0, 49),
  (49, .aload_n 0, 0, 0, 0, 0, 50),
  (50, .getfield 21, 0, 0, 1, 3, 53),
  (53, .iload_n 2, 0, 0, 2, 0, 54),
  (54, .iaload, 0, 0, 0, 0, 55),
  (55, .aload_n 0, 0, 0, 0, 0, 56),
  (56, .getfield 21, 0, 0, 1, 3, 59),
  (59, .iload_n 3, 0, 0, 3, 0, 60),
  (60, .iaload, 0, 0, 0, 0, 61),
  (61, .invokestatic 58, 0, 0, 0, 0, 64),
  (64, .iadd, 0, 0, 0, 0, 65),
  (65, .iastore, 0, 0, 0, 0, 66),
  (66, .aload_n 0, 0, 0, 0, 0, 67),
  (67, .getfield 27, 0, 0, 1, 5, 70),
  (70, .iload 4, 0, 0, 4, 0, 72),
  (72, .aload_n 0, 0, 0, 0, 0, 73),
  (73, .getfield 24, 0, 0, 1, 4, 76),
  (76, .iload_n 2, 0, 0, 2, 0, 77),
  (77, .iaload, 0, 0, 0, 0, 78),
  (78, .iastore, 0, 0, 0, 0, 79),
  (79, .aload_n 0, 0, 0, 0, 0, 80),
  (80, .getfield 24, 0, 0, 1, 4, 83),
  (83, .iload_n 2, 0, 0, 2, 0, 84),
  (84, .iload 4, 0, 0, 4, 0, 86),
  (86, .iastore, 0, 0, 0, 0, 87),
  (87, .aload_n 0, 0, 0, 0, 0, 88),
  (88, .getfield 24, 0, 0, 1, 4, 91),
  (91, .iload 4, 0, 0, 4, 0, 93),
  (93, .iconst (-1), (-1), 0, 0, 0, 94),
  (94, .iastore, 0, 0, 0, 0, 95),
  (95, .aload_n 0, 0, 0, 0, 0, 96),
  (96, .getfield 37, 0, 0, 1, 8, 99),
  (99, .iload_n 1, 0, 0, 1, 0, 100),
  (100, .aload_n 0, 0, 0, 0, 0, 101),
  (101, .getfield 37, 0, 0, 1, 8, 104),
  (104, .iload_n 1, 0, 0, 1, 0, 105),
  (105, .iaload, 0, 0, 0, 0, 106),
  (106, .iconst 1, 1, 0, 0, 0, 107),
  (107, .iadd, 0, 0, 0, 0, 108),
  (108, .iastore, 0, 0, 0, 0, 109),
  (109, .aload_n 0, 0, 0, 0, 0, 110),
  (110, .aload_n 0, 0, 0, 0, 0, 111),
  (111, .getfield 44, 0, 0, 1, 10, 114),
  (114, .aload_n 0, 0, 0, 0, 0, 115),
  (115, .getfield 21, 0, 0, 1, 3, 118),
  (118, .iload 4, 0, 0, 4, 0, 120),
  (120, .iaload, 0, 0, 0, 0, 121),
  (121, .invokestatic 58, 0, 0, 0, 0, 124),
  (124, .putfield 44, 0, 0, 1, 10, 127),
  (127, .aload_n 0, 0, 0, 0, 0, 128),
  (128, .iload 4, 0, 0, 4, 0, 130),
  (130, .iconst 1, 1, 0, 0, 0, 131),
  (131, .iadd, 0, 0, 0, 0, 132),
  (132, .putfield 40, 0, 0, 1, 9, 135),
  (135, .iload 4, 0, 0, 4, 0, 137),
  (137, .ireturn, 0, 0, 0, 0, 138)]
abbrev v_M_addMultiplexer : List (Nat × Nat) := []
abbrev s_M_addMultiplexer : List (Nat × Nat) := [(58, 0)]
abbrev h_M_addMultiplexer : List (Nat × Nat) := []
abbrev w_M_addMultiplexer : List (Nat × List Nat) := []
abbrev x_M_addMultiplexer : List String := []
theorem k_M_addMultiplexer : t_M_addMultiplexer.all (cx_dec true prog_3_method_6_code (some (.int)) 5 g_M p_M l_M v_M_addMultiplexer s_M_addMultiplexer h_M_addMultiplexer w_M_addMultiplexer) = true := by decide +kernel
abbrev m_M_addMultiplexer : MethodName := ⟨"CycleCutter$Multiplexers", "addMultiplexer", "(III)I"⟩
-- calls of M_addMultiplexer: 0 = java/lang/Math.max(II)I
def t_M_follow : List (Nat × cx_E) := [(0, .aload_n 0, 0, 0, 0, 0, 1),
  (1, .getfield 11, 0, 0, 1, 0, 4),
  (4, .iload_n 1, 0, 0, 1, 0, 5),
  (5, .iaload, 0, 0, 0, 0, 6),
  (6, .iload_n 2, 0, 0, 2, 0, 7),
  (7, .invokestatic 64, 0, 0, 0, 0, 10),
  (10, .ifCond .eq 12, 0, 0, 22, 0, 13),
  (13, .aload_n 0, 0, 0, 0, 0, 14),
  (14, .getfield 18, 0, 0, 1, 2, 17),
  (17, .iload_n 1, 0, 0, 1, 0, 18),
  (18, .iaload, 0, 0, 0, 0, 19),
  (19, .goto 9, 0, 0, 28, 0, 22),
  (22, .aload_n 0, 0, 0, 0, 0, 23),
  (23, .getfield 15, 0, 0, 1, 1, 26),
  (26, .iload_n 1, 0, 0, 1, 0, 27),
  (27, .iaload, 0, 0, 0, 0, 28),
  (28, .ireturn, 0, 0, 0, 0, 29)]
abbrev v_M_follow : List (Nat × Nat) := []
abbrev s_M_follow : List (Nat × Nat) := [(64, 0)]
abbrev h_M_follow : List (Nat × Nat) := []
abbrev w_M_follow : List (Nat × List Nat) := []
abbrev x_M_follow : List String := []
theorem k_M_follow : t_M_follow.all (cx_dec true prog_3_method_7_code (some (.int)) 3 g_M p_M l_M v_M_follow s_M_follow h_M_follow w_M_follow) = true := by decide +kernel
abbrev m_M_follow : MethodName := ⟨"CycleCutter$Multiplexers", "follow", "(II)I"⟩
-- calls of M_follow: 0 = CycleCutter.isInputSet(II)Z
def t_M_isOneOn : List (Nat × cx_E) := [(0, .iload_n 1, 0, 0, 1, 0, 1),
  (1, .istore_n 3, 0, 0, 3, 0, 2),
  (2, .iconst 0, 0, 0, 0, 0, 3),
  (3, .istore 4, 0, 0, 4, 0, 5),
  (5, .iload 4, 0, 0, 4, 0, 7),
  (7, .bipush 8, 8, 0, 0, 0, 9),
  (9, .if_icmp .ge 21, 0, 0, 30, 0, 12),
  (12, .iload_n 3, 0, 0, 3, 0, 13),
  (13, .iconst 2, 2, 0, 0, 0, 14),
  (14, .if_icmp .lt 16, 0, 0, 30, 0, 17),
  (17, .aload_n 0, 0, 0, 0, 0, 18),
  (18, .iload_n 3, 0, 0, 3, 0, 19),
  (19, .iload_n 2, 0, 0, 2, 0, 20),
  (20, .invokevirtual 68, 0, 0, 0, 0, 23),
  (23, .istore_n 3, 0, 0, 3, 0, 24),
  (24, .iinc 4 1, 1, 0, 4, 0, 27),
  (27, .goto (-22), 0, 0, 5, 0, 30),
  (30, .iload_n 3, 0, 0, 3, 0, 31),
  (31, .iconst 1, 1, 0, 0, 0, 32),
  (32, .if_icmp .ne 7, 0, 0, 39, 0, 35),
  (35, .iconst 1, 1, 0, 0, 0, 36),
  (36, .goto 4, 0, 0, 40, 0, 39),
  (39, .iconst 0, 0, 0, 0, 0, 40),
  (40, .ireturn, 1, 0, 0, 0, 41)]
abbrev v_M_isOneOn : List (Nat × Nat) := [(68, 0)]
abbrev s_M_isOneOn : List (Nat × Nat) := []
abbrev h_M_isOneOn : List (Nat × Nat) := []
abbrev w_M_isOneOn : List (Nat × List Nat) := []
abbrev x_M_isOneOn : List String := []
theorem k_M_isOneOn : t_M_isOneOn.all (cx_dec true prog_3_method_8_code (some (.boolean)) 5 g_M p_M l_M v_M_isOneOn s_M_isOneOn h_M_isOneOn w_M_isOneOn) = true := by decide +kernel
abbrev m_M_isOneOn : MethodName := ⟨"CycleCutter$Multiplexers", "isOneOn", "(II)Z"⟩
-- calls of M_isOneOn: 0 = CycleCutter$Multiplexers.follow(II)I
def t_M_stepsOn : List (Nat × cx_E) := [(0, .iload_n 1, 0, 0, 1, 0, 1),
  (1, .istore_n 3, 0, 0, 3, 0, 2),
  (2, .iconst 0, 0, 0, 0, 0, 3),
  (3, .istore 4, 0, 0, 4, 0, 5),
  (5, .iload 4, 0, 0, 4, 0, 7),
  (7, .bipush 8, 8, 0, 0, 0, 9),
  (9, .if_icmp .ge 21, 0, 0, 30, 0, 12),
  (12, .iload_n 3, 0, 0, 3, 0, 13),
  (13, .iconst 2, 2, 0, 0, 0, 14),
  (14, .if_icmp .lt 16, 0, 0, 30, 0, 17),
  (17, .aload_n 0, 0, 0, 0, 0, 18),
  (18, .iload_n 3, 0, 0, 3, 0, 19),
  (19, .iload_n 2, 0, 0, 2, 0, 20),
  (20, .invokevirtual 68, 0, 0, 0, 0, 23),
  (23, .istore_n 3, 0, 0, 3, 0, 24),
  (24, .iinc 4 1, 1, 0, 4, 0, 27),
  (27, .goto (-22), 0, 0, 5, 0, 30),
  (30, .iload 4, 0, 0, 4, 0, 32),
  (32, .ireturn, 0, 0, 0, 0, 33)]
abbrev v_M_stepsOn : List (Nat × Nat) := [(68, 0)]
abbrev s_M_stepsOn : List (Nat × Nat) := []
abbrev h_M_stepsOn : List (Nat × Nat) := []
abbrev w_M_stepsOn : List (Nat × List Nat) := []
abbrev x_M_stepsOn : List String := []
theorem k_M_stepsOn : t_M_stepsOn.all (cx_dec true prog_3_method_9_code (some (.int)) 5 g_M p_M l_M v_M_stepsOn s_M_stepsOn h_M_stepsOn w_M_stepsOn) = true := by decide +kernel
abbrev m_M_stepsOn : MethodName := ⟨"CycleCutter$Multiplexers", "stepsOn", "(II)I"⟩
-- calls of M_stepsOn: 0 = CycleCutter$Multiplexers.follow(II)I
def t_M_totalBelow : List (Nat × cx_E) := [(0, .iconst 0, 0, 0, 0, 0, 1),
  (1, .istore_n 2, 0, 0, 2, 0, 2),
  (2, .iload_n 2, 0, 0, 2, 0, 3),
  (3, .iload_n 1, 0, 0, 1, 0, 4),
  (4, .if_icmp .gt 16, 0, 0, 20, 0, 7),
  (7, .aload_n 0, 0, 0, 0, 0, 8),
  (8, .getfield 30, 0, 0, 1, 6, 11),
  (11, .iload_n 2, 0, 0, 2, 0, 12),
  (12, .iconst 0, 0, 0, 0, 0, 13),
  (13, .bastore, 0, 0, 0, 0, 14),
  (14, .iinc 2 1, 1, 0, 2, 0, 17),
  (17, .goto (-15), 0, 0, 2, 0, 20),
  (20, .aload_n 0, 0, 0, 0, 0, 21),
  (21, .getfield 30, 0, 0, 1, 6, 24),
  (24, .iload_n 1, 0, 0, 1, 0, 25),
  (25, .iconst 1, 1, 0, 0, 0, 26),
  (26, .bastore, 0, 0, 0, 0, 27),
  (27, .iconst 0, 0, 0, 0, 0, 28),
  (28, .istore_n 2, 0, 0, 2, 0, 29),
  (29, .iload_n 1, 0, 0, 1, 0, 30),
  (30, .istore_n 3, 0, 0, 3, 0, 31),
  (31, .iload_n 3, 0, 0, 3, 0, 32),
  (32, .iconst 2, 2, 0, 0, 0, 33),
  (33, .if_icmp .lt 45, 0, 0, 78, 0, 36),
  (36, .aload_n 0, 0, 0, 0, 0, 37),
  (37, .getfield 30, 0, 0, 1, 6, 40),
  (40, .iload_n 3, 0, 0, 3, 0, 41),
  (41, .baload, 0, 0, 0, 0, 42),
  (42, .ifCond .eq 30, 0, 0, 72, 0, 45),
  (45, .iinc 2 1, 1, 0, 2, 0, 48),
  (48, .aload_n 0, 0, 0, 0, 0, 49),
  (49, .getfield 30, 0, 0, 1, 6, 52),
  (52, .aload_n 0, 0, 0, 0, 0, 53),
  (53, .getfield 15, 0, 0, 1, 1, 56),
  (56, .iload_n 3, 0, 0, 3, 0, 57),
  (57, .iaload, 0, 0, 0, 0, 58),
  (58, .iconst 1, 1, 0, 0, 0, 59),
  (59, .bastore, 0, 0, 0, 0, 60),
  (60, .aload_n 0, 0, 0, 0, 0, 61),
  (61, .getfield 30, 0, 0, 1, 6, 64),
  (64, .aload_n 0, 0, 0, 0, 0, 65),
  (65, .getfield 18, 0, 0, 1, 2, 68),
  (68, .iload_n 3, 0, 0, 3, 0, 69),
  (69, .iaload, 0, 0, 0, 0, 70),
  (70, .iconst 1, 1, 0, 0, 0, 71),
  (71, .bastore, 0, 0, 0, 0, 72),
  (72, .iinc 3 (-1), (-1), 0, 3, 0, 75),
  (75, .goto (-44), 0, 0, 31, 0, 78),
  (78, .iload_n 2, 0, 0, 2, 0, 79),
  (79, .ireturn, 0, 0, 0, 0, 80)]
abbrev v_M_totalBelow : List (Nat × Nat) := []
abbrev s_M_totalBelow : List (Nat × Nat) := []
abbrev h_M_totalBelow : List (Nat × Nat) := []
abbrev w_M_totalBelow : List (Nat × List Nat) := []
abbrev x_M_totalBelow : List String := []
theorem k_M_totalBelow : t_M_totalBelow.all (cx_dec true prog_3_method_10_code (some (.int)) 4 g_M p_M l_M v_M_totalBelow s_M_totalBelow h_M_totalBelow w_M_totalBelow) = true := by decide +kernel
abbrev m_M_totalBelow : MethodName := ⟨"CycleCutter$Multiplexers", "totalBelow", "(I)I"⟩
-- calls of M_totalBelow: 
def t_N_dropAll : List (Nat × cx_E) := [(0, .aload_n 0, 0, 0, 0, 0, 1),
  (1, .iconst 0, 0, 0, 0, 0, 2),
  (2, .putfield 39, 0, 0, 2, 8, 5),
  (5, .aload_n 0, 0, 0, 0, 0, 6),
  (6, .iconst 0, 0, 0, 0, 0, 7),
  (7, .putfield 43, 0, 0, 2, 9, 10),
  (10, .aload_n 0, 0, 0, 0, 0, 11),
  (11, .iconst 0, 0, 0, 0, 0, 12),
  (12, .putfield 46, 0, 0, 2, 10, 15),
  (15, .aload_n 0, 0, 0, 0, 0, 16),
  (16, .iconst 0, 0, 0, 0, 0, 17),
  (17, .putfield 49, 1, 0, 2, 11, 20),
  (20, .return_, 0, 0, 0, 0, 21)]
abbrev v_N_dropAll : List (Nat × Nat) := []
abbrev s_N_dropAll : List (Nat × Nat) := []
abbrev h_N_dropAll : List (Nat × Nat) := []
abbrev w_N_dropAll : List (Nat × List Nat) := []
abbrev x_N_dropAll : List String := []
theorem k_N_dropAll : t_N_dropAll.all (cx_dec true prog_4_method_2_code none 1 g_N p_N l_N v_N_dropAll s_N_dropAll h_N_dropAll w_N_dropAll) = true := by decide +kernel
abbrev m_N_dropAll : MethodName := ⟨"CycleCutter$Net", "dropAll", "()V"⟩
-- calls of N_dropAll: 
def t_N_hasGate : List (Nat × cx_E) := [(0, .iload_n 1, 0, 0, 1, 0, 1),
  (1, .ifCond .lt 15, 0, 0, 16, 0, 4),
  (4, .iload_n 1, 0, 0, 1, 0, 5),
  (5, .aload_n 0, 0, 0, 0, 0, 6),
  (6, .getfield 39, 0, 0, 2, 8, 9),
  (9, .if_icmp .ge 7, 0, 0, 16, 0, 12),
  (12, .iconst 1, 1, 0, 0, 0, 13),
  (13, .goto 4, 0, 0, 17, 0, 16),
  (16, .iconst 0, 0, 0, 0, 0, 17),
  (17, .ireturn, 1, 0, 0, 0, 18)]
abbrev v_N_hasGate : List (Nat × Nat) := []
abbrev s_N_hasGate : List (Nat × Nat) := []
abbrev h_N_hasGate : List (Nat × Nat) := []
abbrev w_N_hasGate : List (Nat × List Nat) := []
abbrev x_N_hasGate : List String := []
theorem k_N_hasGate : t_N_hasGate.all (cx_dec true prog_4_method_3_code (some (.boolean)) 2 g_N p_N l_N v_N_hasGate s_N_hasGate h_N_hasGate w_N_hasGate) = true := by decide +kernel
abbrev m_N_hasGate : MethodName := ⟨"CycleCutter$Net", "hasGate", "(I)Z"⟩
-- calls of N_hasGate: 
def t_N_isInput : List (Nat × cx_E) := [(0, .aload_n 0, 0, 0, 0, 0, 1),
  (1, .getfield 9, 0, 0, 2, 0, 4),
  (4, .iload_n 1, 0, 0, 1, 0, 5),
  (5, .iaload, 0, 0, 0, 0, 6),
  (6, .ifCond .ne 7, 0, 0, 13, 0, 9),
  (9, .iconst 1, 1, 0, 0, 0, 10),
  (10, .goto 4, 0, 0, 14, 0, 13),
  (13, .iconst 0, 0, 0, 0, 0, 14),
  (14, .ireturn, 1, 0, 0, 0, 15)]
abbrev v_N_isInput : List (Nat × Nat) := []
abbrev s_N_isInput : List (Nat × Nat) := []
abbrev h_N_isInput : List (Nat × Nat) := []
abbrev w_N_isInput : List (Nat × List Nat) := []
abbrev x_N_isInput : List String := []
theorem k_N_isInput : t_N_isInput.all (cx_dec true prog_4_method_4_code (some (.boolean)) 2 g_N p_N l_N v_N_isInput s_N_isInput h_N_isInput w_N_isInput) = true := by decide +kernel
abbrev m_N_isInput : MethodName := ⟨"CycleCutter$Net", "isInput", "(I)Z"⟩
-- calls of N_isInput: 
def t_N_addGate : List (Nat × cx_E) := [(0, .aload_n 0, 0, 0, 0, 0, 1),
  (1, .getfield 39, 0, 0, 2, 8, 4),
  (4, .bipush 120, 120, 0, 0, 0, 6),
  (6, .if_icmp .ge 16, 0, 0, 22, 0, 9),
  (9, .iload_n 1, 0, 0, 1, 0, 10),
  (10, .ifCond .ne 14, 0, 0, 24, 0, 13),
  (13, .aload_n 0, 0, 0, 0, 0, 14),
  (14, .getfield 46, 0, 0, 2, 10, 17),
  (17, .bipush 8, 8, 0, 0, 0, 19),
  (19, .if_icmp .lt 5, 0, 0, 24, 0, 22),
  (22, .iconst (-1), (-1), 0, 0, 0, 23),
  (23, .ireturn, 0, 0, 0, 0, 24),
  (24, .aload_n 0, 0, 0, 0, 0, 25),
  (25, .getfield 39, 0, 0, 2, 8, 28),
  (28, .istore_n 2, 0, 0, 2, 0, 29),
  (29, .aload_n 0, 0, 0, 0, 0, 30),
  (30, .getfield 9, 0, 0, 2, 0, 33),
  (33, .iload_n 2, 0, 0, 2, 0, 34),
  (34, .iload_n 1, 0, 0, 1, 0, 35),
  (35, .iastore, 0, 0, 0, 0, 36),
  (36, .aload_n 0, 0, 0, 0, 0, 37),
  (37, .getfield 15, 0, 0, 2, 1, 40),
  (40, .iload_n 2, 0, 0, 2, 0, 41),
  (41, .iconst (-1), (-1), 0, 0, 0, 42),
  (42, .iastore, 0, 0, 0, 0, 43),
  (43, .aload_n 0, 0, 0, 0, 0, 44),
  (44, .getfield 18, 0, 0, 2, 2, 47),
  (47, .iload_n 2, 0, 0, 2, 0, 48),
  (48, .iconst 0, 0, 0, 0, 0, 49),
  (49, .iastore, 0, 0, 0, 0, 50),
  (50, .aload_n 0, 0, 0, 0, 0, 51),
  (51, .iload_n 2, 0, 0, 2, 0, 52),
  (52, .iconst 1, 1, 0, 0, 0, 53),
  (53, .iadd, 0, 0, 0, 0, 54),
  (54, .putfield 39, 0, 0, 2, 8, 57),
  (57, .aload_n 0, 0, 0, 0, 0, 58),
  (58, .iconst 0, 0, 0, 0, 0, 59),
  (59, .putfield 49, 1, 0, 2, 11, 62),
  (62, .iload_n 1, 0, 0, 1, 0, 63),
  (63, .ifCond .ne 22, 0, 0, 85, 0, 66),
  (66, .aload_n 0, 0, 0, 0, 0, 67),
  (67, .iload_n 2, 0, 0, 2, 0, 68),
  (68, .aload_n 0, 0, 0, 0, 0, 69),
  (69, .getfield 46, 0, 0, 2, 10, 72),
  (72, .invokevirtual 53, 0, 0, 0, 0, 75),
  (75, .aload_n 0, 0, 0, 0, 0, 76),
  (76, .aload_n 0, 0, 0, 0, 0, 77),
  (77, .getfield 46, 0, 0, 2, 10, 80),
  (80, .iconst 1, 1, 0, 0, 0, 81),
  (81, .iadd, 0, 0, 0, 0, 82),
  (82, .putfield 46, 0, 0, 2, 10, 85),
  (85, .iload_n 2, 0, 0, 2, 0, 86),
  (86, .ireturn, 0, 0, 0, 0, 87)]
abbrev v_N_addGate : List (Nat × Nat) := [(53, 0)]
abbrev s_N_addGate : List (Nat × Nat) := []
abbrev h_N_addGate : List (Nat × Nat) := []
abbrev w_N_addGate : List (Nat × List Nat) := []
abbrev x_N_addGate : List String := []
theorem k_N_addGate : t_N_addGate.all (cx_dec true prog_4_method_5_code (some (.int)) 3 g_N p_N l_N v_N_addGate s_N_addGate h_N_addGate w_N_addGate) = true := by decide +kernel
abbrev m_N_addGate : MethodName := ⟨"CycleCutter$Net", "addGate", "(I)I"⟩
-- calls of N_addGate: 0 = CycleCutter$Net.fixInput(II)V
def t_N_fixInput : List (Nat × cx_E) := [(0, .iconst 0, 0, 0, 0, 0, 1),
  (1, .istore_n 3, 0, 0, 3, 0, 2),
  (2, .iload_n 3, 0, 0, 3, 0, 3),
  (3, .iconst 4, 4, 0, 0, 0, 4),
  (4, .if_icmp .ge 75, 0, 0, 79, 0, 7),
  (7, .lconst 0, 0, 0, 0, 0, 8),
  (8, .lstore 4, 0, 0, 4, 0, 10),
  (10, .iconst 0, 0, 0, 0, 0, 11),
  (11, .istore 6, 0, 0, 6, 0, 13),
  (13, .iload 6, 0, 0, 6, 0, 15),
  (15, .bipush 64, 64, 0, 0, 0, 17),
  (17, .if_icmp .ge 32, 0, 0, 49, 0, 20),
  (20, .iload_n 2, 0, 0, 2, 0, 21),
  (21, .iload_n 3, 0, 0, 3, 0, 22),
  (22, .bipush 64, 64, 0, 0, 0, 24),
  (24, .imul, 0, 0, 0, 0, 25),
  (25, .iload 6, 0, 0, 6, 0, 27),
  (27, .iadd, 0, 0, 0, 0, 28),
  (28, .invokestatic 57, 0, 0, 0, 0, 31),
  (31, .ifCond .eq 12, 0, 0, 43, 0, 34),
  (34, .lload 4, 0, 0, 4, 0, 36),
  (36, .lconst 1, 0, 1, 0, 0, 37),
  (37, .iload 6, 0, 0, 6, 0, 39),
  (39, .lshl, 0, 0, 0, 0, 40),
  (40, .lor, 0, 0, 0, 0, 41),
  (41, .lstore 4, 0, 0, 4, 0, 43),
  (43, .iinc 6 1, 1, 0, 6, 0, 46),
  (46, .goto (-33), 0, 0, 13, 0, 49),
  (49, .aload_n 0, 0, 0, 0, 0, 50),
  (50, .getfield 33, 0, 0, 2, 6, 53),
  (53, .iload_n 1, 0, 0, 1, 0, 54),
  (54, .aaload, 0, 0, 0, 0, 55),
  (55, .iload_n 3, 0, 0, 3, 0, 56),
  (56, .lload 4, 0, 0, 4, 0, 58),
  (58, .lastore, 0, 0, 0, 0, 59),
  (59, .aload_n 0, 0, 0, 0, 0, 60),
  (60, .getfield 36, 0, 0, 2, 7, 63),
  (63, .iload_n 1, 0, 0, 1, 0, 64),
  (64, .aaload, 0, 0, 0, 0, 65),
  (65, .iload_n 3, 0, 0, 3, 0, 66),
  (66, .lload 4, 0, 0, 4, 0, 68),
  (68, .ldc2_w 61, 0, (-1), 0, 0, 71),
  (71, .lxor, 0, 0, 0, 0, 72),
  (72, .lastore, 0, 0, 0, 0, 73),
  (73, .iinc 3 1, 1, 0, 3, 0, 76),
  (76, .goto (-74), 0, 0, 2, 0, 79),
  (79, .return_, 0, 0, 0, 0, 80)]
abbrev v_N_fixInput : List (Nat × Nat) := []
abbrev s_N_fixInput : List (Nat × Nat) := [(57, 0)]
abbrev h_N_fixInput : List (Nat × Nat) := []
abbrev w_N_fixInput : List (Nat × List Nat) := []
abbrev x_N_fixInput : List String := []
theorem k_N_fixInput : t_N_fixInput.all (cx_dec true prog_4_method_6_code none 7 g_N p_N l_N v_N_fixInput s_N_fixInput h_N_fixInput w_N_fixInput) = true := by decide +kernel
abbrev m_N_fixInput : MethodName := ⟨"CycleCutter$Net", "fixInput", "(II)V"⟩
-- calls of N_fixInput: 0 = CycleCutter.isInputSet(II)Z
def t_N_addFeed : List (Nat × cx_E) := [(0, .aload_n 0, 0, 0, 0, 0, 1),
  (1, .getfield 43, 0, 0, 2, 9, 4),
  (4, .sipush 500, 500, 0, 0, 0, 7),
  (7, .if_icmp .lt 5, 0, 0, 12, 0, 10),
  (10, .iconst (-1), (-1), 0, 0, 0, 11),
  (11, .ireturn, 0, 0, 0, 0, 12),
  (12, .aload_n 0, 0, 0, 0, 0, 13),
  (13, .getfield 43, 0, 0, 2, 9, 16),
  (16, .istore 4, 0, 0, 4, 0, 18),
  (18, .aload_n 0, 0, 0, 0, 0, 19),
  (19, .getfield 21, 0, 0, 2, 3, 22),
  (22, .iload 4, 0, 0, 4, 0, 24),
  (24, .iload_n 2, 0, 0, 2, 0, 25),
  (25, .iastore, 0, 0, 0, 0, 26),
  (26, .aload_n 0, 0, 0, 0, 0, 27),
  (27, .getfield 24, 0, 0, 2, 4, 30),
  (30, .iload 4, 0, 0, 4, 0, 32),
  (32, .iload_n 3, 0, 0, 3, 0, 33),
  (33, .bastore, 0, 0, 0, 0, 34),
  (34, .aload_n 0, 0, 0, 0, 0, 35),
  (35, .getfield 28, 0, 0, 2, 5, 38),
  (38, .iload 4, 0, 0, 4, 0, 40),
  (40, .aload_n 0, 0, 0, 0, 0, 41),
  (41, .getfield 15, 0, 0, 2, 1, 44),
  (44, .iload_n 1, 0, 0, 1, 0, 45),
  (45, .iaload, 0, 0, 0, 0, 46),
  (46, .iastore, 0, 0, 0, 0, 47),
  (47, .aload_n 0, 0, 0, 0, 0, 48),
  (48, .getfield 15, 0, 0, 2, 1, 51),
  (51, .iload_n 1, 0, 0, 1, 0, 52),
  (52, .iload 4, 0, 0, 4, 0, 54),
  (54, .iastore, 0, 0, 0, 0, 55),
  (55, .aload_n 0, 0, 0, 0, 0, 56),
  (56, .getfield 18, 0, 0, 2, 2, 59),
  (59, .iload_n 1, 0, 0, 1, 0, 60),
  (60, .aload_n 0, 0, 0, 0, 0, 61),
  (61, .getfield 18, 0, 0, 2, 2, 64),
  (64, .iload_n 1, 0, 0, 1, 0, 65),
  (65, .iaload, 0, 0, 0, 0, 66),
  (66, .iconst 1, 1, 0, 0, 0, 67),
  (67, .iadd, 0, 0, 0, 0, 68),
  (68, .iastore, 0, 0, 0, 0, 69),
  (69, .aload_n 0, 0, 0, 0, 0, 70),
  (70, .iload 4, 0, 0, 4, 0, 72),
  (72, .iconst 1, 1, 0, 0, 0, 73),
  (73, .iadd, 0, 0, 0, 0, 74),
  (74, .putfield 43, 0, 0, 2, 9, 77),
  (77, .aload_n 0, 0, 0, 0, 0, 78),
  (78, .iconst 0, 0, 0, 0, 0, 79),
  (79, .putfield 49, 1, 0, 2, 11, 82),
  (82, .aload_n 0, 0, 0, 0, 0, 83),
  (83, .getfield 18, 0, 0, 2, 2, 86),
  (86, .iload_n 1, 0, 0, 1, 0, 87),
  (87, .iaload, 0, 0, 0, 0, 88),
  (88, .ireturn, 0, 0, 0, 0, 89)]
abbrev v_N_addFeed : List (Nat × Nat) := []
abbrev s_N_addFeed : List (Nat × Nat) := []
abbrev h_N_addFeed : List (Nat × Nat) := []
abbrev w_N_addFeed : List (Nat × List Nat) := []
abbrev x_N_addFeed : List String := []
theorem k_N_addFeed : t_N_addFeed.all (cx_dec true prog_4_method_7_code (some (.int)) 5 g_N p_N l_N v_N_addFeed s_N_addFeed h_N_addFeed w_N_addFeed) = true := by decide +kernel
abbrev m_N_addFeed : MethodName := ⟨"CycleCutter$Net", "addFeed", "(IIZ)I"⟩
-- calls of N_addFeed: 
def t_N_highOf : List (Nat × cx_E) := [(0, .aload_n 0, 0, 0, 0, 0, 1),
  (1, .invokevirtual 63, 0, 0, 0, 0, 4),
  (4, .aload_n 0, 0, 0, 0, 0, 5),
  (5, .getfield 33, 0, 0, 2, 6, 8),
  (8, .iload_n 1, 0, 0, 1, 0, 9),
  (9, .aaload, 0, 0, 0, 0, 10),
  (10, .areturn, 0, 0, 0, 0, 11)]
abbrev v_N_highOf : List (Nat × Nat) := [(63, 0)]
abbrev s_N_highOf : List (Nat × Nat) := []
abbrev h_N_highOf : List (Nat × Nat) := []
abbrev w_N_highOf : List (Nat × List Nat) := []
abbrev x_N_highOf : List String := []
theorem k_N_highOf : t_N_highOf.all (cx_dec true prog_4_method_8_code (some (.array .long)) 2 g_N p_N l_N v_N_highOf s_N_highOf h_N_highOf w_N_highOf) = true := by decide +kernel
abbrev m_N_highOf : MethodName := ⟨"CycleCutter$Net", "highOf", "(I)[J"⟩
-- calls of N_highOf: 0 = CycleCutter$Net.settle()V
def t_N_lowOf : List (Nat × cx_E) := [(0, .aload_n 0, 0, 0, 0, 0, 1),
  (1, .invokevirtual 63, 0, 0, 0, 0, 4),
  (4, .aload_n 0, 0, 0, 0, 0, 5),
  (5, .getfield 36, 0, 0, 2, 7, 8),
  (8, .iload_n 1, 0, 0, 1, 0, 9),
  (9, .aaload, 0, 0, 0, 0, 10),
  (10, .areturn, 0, 0, 0, 0, 11)]
abbrev v_N_lowOf : List (Nat × Nat) := [(63, 0)]
abbrev s_N_lowOf : List (Nat × Nat) := []
abbrev h_N_lowOf : List (Nat × Nat) := []
abbrev w_N_lowOf : List (Nat × List Nat) := []
abbrev x_N_lowOf : List String := []
theorem k_N_lowOf : t_N_lowOf.all (cx_dec true prog_4_method_9_code (some (.array .long)) 2 g_N p_N l_N v_N_lowOf s_N_lowOf h_N_lowOf w_N_lowOf) = true := by decide +kernel
abbrev m_N_lowOf : MethodName := ⟨"CycleCutter$Net", "lowOf", "(I)[J"⟩
-- calls of N_lowOf: 0 = CycleCutter$Net.settle()V
def t_N_valueOn : List (Nat × cx_E) := [(0, .aload_n 0, 0, 0, 0, 0, 1),
  (1, .invokevirtual 63, 0, 0, 0, 0, 4),
  (4, .aload_n 0, 0, 0, 0, 0, 5),
  (5, .getfield 33, 0, 0, 2, 6, 8),
  (8, .iload_n 1, 0, 0, 1, 0, 9),
  (9, .aaload, 0, 0, 0, 0, 10),
  (10, .iload_n 2, 0, 0, 2, 0, 11),
  (11, .invokestatic 66, 0, 0, 1, 0, 14),
  (14, .ifCond .eq 5, 0, 0, 19, 0, 17),
  (17, .iconst 1, 1, 0, 0, 0, 18),
  (18, .ireturn, 0, 0, 0, 0, 19),
  (19, .aload_n 0, 0, 0, 0, 0, 20),
  (20, .getfield 36, 0, 0, 2, 7, 23),
  (23, .iload_n 1, 0, 0, 1, 0, 24),
  (24, .aaload, 0, 0, 0, 0, 25),
  (25, .iload_n 2, 0, 0, 2, 0, 26),
  (26, .invokestatic 66, 0, 0, 1, 0, 29),
  (29, .ifCond .eq 7, 0, 0, 36, 0, 32),
  (32, .iconst 0, 0, 0, 0, 0, 33),
  (33, .goto 4, 0, 0, 37, 0, 36),
  (36, .iconst 2, 2, 0, 0, 0, 37),
  (37, .ireturn, 0, 0, 0, 0, 38)]
abbrev v_N_valueOn : List (Nat × Nat) := [(63, 0)]
abbrev s_N_valueOn : List (Nat × Nat) := [(66, 1)]
abbrev h_N_valueOn : List (Nat × Nat) := []
abbrev w_N_valueOn : List (Nat × List Nat) := []
abbrev x_N_valueOn : List String := []
theorem k_N_valueOn : t_N_valueOn.all (cx_dec true prog_4_method_10_code (some (.int)) 3 g_N p_N l_N v_N_valueOn s_N_valueOn h_N_valueOn w_N_valueOn) = true := by decide +kernel
abbrev m_N_valueOn : MethodName := ⟨"CycleCutter$Net", "valueOn", "(II)I"⟩
-- calls of N_valueOn: 0 = CycleCutter$Net.settle()V, 1 = CycleCutter.isMember([JI)Z
def t_N_settle : List (Nat × cx_E) := [(0, .aload_n 0, 0, 0, 0, 0, 1),
  (1, .getfield 49, 0, 0, 2, 11, 4),
  (4, .ifCond .eq 4, 0, 0, 8, 0, 7),
  (7, .return_, 0, 0, 0, 0, 8),
  (8, .iconst 0, 0, 0, 0, 0, 9),
  (9, .istore_n 1, 0, 0, 1, 0, 10),
  (10, .iload_n 1, 0, 0, 1, 0, 11),
  (11, .iconst 4, 4, 0, 0, 0, 12),
  (12, .if_icmp .ge 19, 0, 0, 31, 0, 15),
  (15, .aload_n 0, 0, 0, 0, 0, 16),
  (16, .iload_n 1, 0, 0, 1, 0, 17),
  (17, .invokevirtual 70, 0, 0, 0, 0, 20),
  (20, .aload_n 0, 0, 0, 0, 0, 21),
  (21, .iload_n 1, 0, 0, 1, 0, 22),
  (22, .invokevirtual 74, 0, 0, 1, 0, 25),
  (25, .iinc 1 1, 1, 0, 1, 0, 28),
  (28, .goto (-18), 0, 0, 10, 0, 31),
  (31, .aload_n 0, 0, 0, 0, 0, 32),
  (32, .iconst 1, 1, 0, 0, 0, 33),
  (33, .putfield 49, 1, 0, 2, 11, 36),
  (36, .return_, 0, 0, 0, 0, 37)]
abbrev v_N_settle : List (Nat × Nat) := [(70, 0), (74, 1)]
abbrev s_N_settle : List (Nat × Nat) := []
abbrev h_N_settle : List (Nat × Nat) := []
abbrev w_N_settle : List (Nat × List Nat) := []
abbrev x_N_settle : List String := []
theorem k_N_settle : t_N_settle.all (cx_dec true prog_4_method_11_code none 2 g_N p_N l_N v_N_settle s_N_settle h_N_settle w_N_settle) = true := by decide +kernel
abbrev m_N_settle : MethodName := ⟨"CycleCutter$Net", "settle", "()V"⟩
-- calls of N_settle: 0 = CycleCutter$Net.forgetWord(I)V, 1 = CycleCutter$Net.settleWord(I)V
def t_N_forgetWord : List (Nat × cx_E) := [(0, .iconst 0, 0, 0, 0, 0, 1),
  (1, .istore_n 2, 0, 0, 2, 0, 2),
  (2, .iload_n 2, 0, 0, 2, 0, 3),
  (3, .aload_n 0, 0, 0, 0, 0, 4),
  (4, .getfield 39, 0, 0, 2, 8, 7),
  (7, .if_icmp .ge 35, 0, 0, 42, 0, 10),
  (10, .aload_n 0, 0, 0, 0, 0, 11),
  (11, .iload_n 2, 0, 0, 2, 0, 12),
  (12, .invokevirtual 77, 0, 0, 0, 0, 15),
  (15, .ifCond .ne 21, 0, 0, 36, 0, 18),
  (18, .aload_n 0, 0, 0, 0, 0, 19),
  (19, .getfield 33, 0, 0, 2, 6, 22),
  (22, .iload_n 2, 0, 0, 2, 0, 23),
  (23, .aaload, 0, 0, 0, 0, 24),
  (24, .iload_n 1, 0, 0, 1, 0, 25),
  (25, .lconst 0, 0, 0, 0, 0, 26),
  (26, .lastore, 0, 0, 0, 0, 27),
  (27, .aload_n 0, 0, 0, 0, 0, 28),
  (28, .getfield 36, 0, 0, 2, 7, 31),
  (31, .iload_n 2, 0, 0, 2, 0, 32),
  (32, .aaload, 0, 0, 0, 0, 33),
  (33, .iload_n 1, 0, 0, 1, 0, 34),
  (34, .lconst 0, 0, 0, 0, 0, 35),
  (35, .lastore, 0, 0, 0, 0, 36),
  (36, .iinc 2 1, 1, 0, 2, 0, 39),
  (39, .goto (-37), 0, 0, 2, 0, 42),
  (42, .return_, 0, 0, 0, 0, 43)]
abbrev v_N_forgetWord : List (Nat × Nat) := [(77, 0)]
abbrev s_N_forgetWord : List (Nat × Nat) := []
abbrev h_N_forgetWord : List (Nat × Nat) := []
abbrev w_N_forgetWord : List (Nat × List Nat) := []
abbrev x_N_forgetWord : List String := []
theorem k_N_forgetWord : t_N_forgetWord.all (cx_dec true prog_4_method_12_code none 3 g_N p_N l_N v_N_forgetWord s_N_forgetWord h_N_forgetWord w_N_forgetWord) = true := by decide +kernel
abbrev m_N_forgetWord : MethodName := ⟨"CycleCutter$Net", "forgetWord", "(I)V"⟩
-- calls of N_forgetWord: 0 = CycleCutter$Net.isInput(I)Z
def t_N_settleWord : List (Nat × cx_E) := [(0, .iconst 1, 1, 0, 0, 0, 1),
  (1, .istore_n 2, 0, 0, 2, 0, 2),
  (2, .iconst 0, 0, 0, 0, 0, 3),
  (3, .istore_n 3, 0, 0, 3, 0, 4),
  (4, .iload_n 2, 0, 0, 2, 0, 5),
  (5, .ifCond .eq 58, 0, 0, 63, 0, 8),
  (8, .iload_n 3, 0, 0, 3, 0, 9),
  (9, .aload_n 0, 0, 0, 0, 0, 10),
  (10, .getfield 39, 0, 0, 2, 8, 13),
  (13, .if_icmp .gt 50, 0, 0, 63, 0, 16),
  (16, .iconst 0, 0, 0, 0, 0, 17),
  (17, .istore_n 2, 0, 0, 2, 0, 18),
  (18, .iconst 0, 0, 0, 0, 0, 19),
  (19, .istore 4, 0, 0, 4, 0, 21),
  (21, .iload 4, 0, 0, 4, 0, 23),
  (23, .aload_n 0, 0, 0, 0, 0, 24),
  (24, .getfield 39, 0, 0, 2, 8, 27),
  (27, .if_icmp .ge 30, 0, 0, 57, 0, 30),
  (30, .aload_n 0, 0, 0, 0, 0, 31),
  (31, .iload 4, 0, 0, 4, 0, 33),
  (33, .invokevirtual 77, 0, 0, 0, 0, 36),
  (36, .ifCond .ne 15, 0, 0, 51, 0, 39),
  (39, .aload_n 0, 0, 0, 0, 0, 40),
  (40, .iload 4, 0, 0, 4, 0, 42),
  (42, .iload_n 1, 0, 0, 1, 0, 43),
  (43, .invokevirtual 81, 0, 0, 1, 0, 46),
  (46, .ifCond .eq 5, 0, 0, 51, 0, 49),
  (49, .iconst 1, 1, 0, 0, 0, 50),
  (50, .istore_n 2, 0, 0, 2, 0, 51),
  (51, .iinc 4 1, 1, 0, 4, 0, 54),
  (54, .goto (-33), 0, 0, 21, 0, 57),
  (57, .iinc 3 1, 1, 0, 3, 0, 60),
  (60, .goto (-56), 0, 0, 4, 0, 63),
  (63, .return_, 0, 0, 0, 0, 64)]
abbrev v_N_settleWord : List (Nat × Nat) := [(77, 0), (81, 1)]
abbrev s_N_settleWord : List (Nat × Nat) := []
abbrev h_N_settleWord : List (Nat × Nat) := []
abbrev w_N_settleWord : List (Nat × List Nat) := []
abbrev x_N_settleWord : List String := []
theorem k_N_settleWord : t_N_settleWord.all (cx_dec true prog_4_method_13_code none 5 g_N p_N l_N v_N_settleWord s_N_settleWord h_N_settleWord w_N_settleWord) = true := by decide +kernel
abbrev m_N_settleWord : MethodName := ⟨"CycleCutter$Net", "settleWord", "(I)V"⟩
-- calls of N_settleWord: 0 = CycleCutter$Net.isInput(I)Z, 1 = CycleCutter$Net.settleGate(II)Z
def t_N_settleGate : List (Nat × cx_E) := [(0, .aload_n 0, 0, 0, 0, 0, 1),
  (1, .getfield 9, 0, 0, 2, 0, 4),
  (4, .iload_n 1, 0, 0, 1, 0, 5),
  (5, .iaload, 0, 0, 0, 0, 6),
  (6, .iconst 3, 3, 0, 0, 0, 7),
  (7, .if_icmp .ne 7, 0, 0, 14, 0, 10),
  (10, .iconst 1, 1, 0, 0, 0, 11),
  (11, .goto 4, 0, 0, 15, 0, 14),
  (14, .iconst 0, 0, 0, 0, 0, 15),
  (15, .istore_n 3, 0, 0, 3, 0, 16),
  (16, .ldc2_w 61, 0, (-1), 0, 0, 19),
  (19, .lstore 4, 0, 0, 4, 0, 21),
  (21, .lconst 0, 0, 0, 0, 0, 22),
  (22, .lstore 6, 0, 0, 6, 0, 24),
  (24, .aload_n 0, 0, 0, 0, 0, 25),
  (25, .getfield 15, 0, 0, 2, 1, 28),
  (28, .iload_n 1, 0, 0, 1, 0, 29),
  (29, .iaload, 0, 0, 0, 0, 30),
  (30, .istore 8, 0, 0, 8, 0, 32),
  (32, .iconst 0, 0, 0, 0, 0, 33),
  (33, .istore 9, 0, 0, 9, 0, 35),
  (35, .iload 9, 0, 0, 9, 0, 37),
  (37, .aload_n 0, 0, 0, 0, 0, 38),
  (38, .getfield 43, 0, 0, 2, 9, 41),
  (41, .if_icmp .ge 113, 0, 0, 154, 0, 44),
  (44, .iload 8, 0, 0, 8, 0, 46),
  (46, .iconst (-1), (-1), 0, 0, 0, 47),
  (47, .if_icmp .eq 107, 0, 0, 154, 0, 50),
  (50, .aload_n 0, 0, 0, 0, 0, 51),
  (51, .getfield 21, 0, 0, 2, 3, 54),
  (54, .iload 8, 0, 0, 8, 0, 56),
  (56, .iaload, 0, 0, 0, 0, 57),
  (57, .istore 10, 0, 0, 10, 0, 59),
  (59, .aload_n 0, 0, 0, 0, 0, 60),
  (60, .getfield 24, 0, 0, 2, 4, 63),
  (63, .iload 8, 0, 0, 8, 0, 65),
  (65, .baload, 0, 0, 0, 0, 66),
  (66, .iload_n 3, 0, 0, 3, 0, 67),
  (67, .if_icmp .eq 7, 0, 0, 74, 0, 70),
  (70, .iconst 1, 1, 0, 0, 0, 71),
  (71, .goto 4, 0, 0, 75, 0, 74),
  (74, .iconst 0, 0, 0, 0, 0, 75),
  (75, .istore 11, 0, 0, 11, 0, 77),
  (77, .lload 4, 0, 0, 4, 0, 79),
  (79, .iload 11, 0, 0, 11, 0, 81),
  (81, .ifCond .eq 15, 0, 0, 96, 0, 84),
  (84, .aload_n 0, 0, 0, 0, 0, 85),
  (85, .getfield 36, 0, 0, 2, 7, 88),
  (88, .iload 10, 0, 0, 10, 0, 90),
  (90, .aaload, 0, 0, 0, 0, 91),
  (91, .iload_n 2, 0, 0, 2, 0, 92),
  (92, .laload, 0, 0, 0, 0, 93),
  (93, .goto 12, 0, 0, 105, 0, 96),
  (96, .aload_n 0, 0, 0, 0, 0, 97),
  (97, .getfield 33, 0, 0, 2, 6, 100),
  (100, .iload 10, 0, 0, 10, 0, 102),
  (102, .aaload, 0, 0, 0, 0, 103),
  (103, .iload_n 2, 0, 0, 2, 0, 104),
  (104, .laload, 0, 0, 0, 0, 105),
  (105, .land, 0, 0, 0, 0, 106),
  (106, .lstore 4, 0, 0, 4, 0, 108),
  (108, .lload 6, 0, 0, 6, 0, 110),
  (110, .iload 11, 0, 0, 11, 0, 112),
  (112, .ifCond .eq 15, 0, 0, 127, 0, 115),
  (115, .aload_n 0, 0, 0, 0, 0, 116),
  (116, .getfield 33, 0, 0, 2, 6, 119),
  (119, .iload 10, 0, 0, 10, 0, 121),
  (121, .aaload, 0, 0, 0, 0, 122),
  (122, .iload_n 2, 0, 0, 2, 0, 123),
  (123, .laload, 0, 0, 0, 0, 124),
  (124, .goto 12, 0, 0, 136, 0, 127),
  (127, .aload_n 0, 0, 0, 0, 0, 128),
  (128, .getfield 36, 0, 0, 2, 7, 131),
  (131, .iload 10, 0, 0, 10, 0, 133),
  (133, .aaload, 0, 0, 0, 0, 134),
  (134, .iload_n 2, 0, 0, 2, 0, 135),
  (135, .laload, 0, 0, 0, 0, 136),
  (136, .lor, 0, 0, 0, 0, 137),
  (137, .lstore 6, 0, 0, 6, 0, 139),
  (139, .aload_n 0, 0, 0, 0, 0, 140),
  (140, .getfield 28, 0, 0, 2, 5, 143),
  (143, .iload 8, 0, 0, 8, 0, 145),
  (145, .iaload, 0, 0, 0, 0, 146),
  (146, .istore 8, 0, 0, 8, 0, 148),
  (148, .iinc 9 1, 1, 0, 9, 0, 151),
  (151, .goto (-116), 0, 0, 35, 0, 154),
  (154, .iload_n 3, 0, 0, 3, 0, 155),
  (155, .ifCond .eq 8, 0, 0, 163, 0, 158),
  (158, .lload 6, 0, 0, 6, 0, 160),
  (160, .goto 5, 0, 0, 165, 0, 163),
  (163, .lload 4, 0, 0, 4, 0, 165),
  (165, .lstore 9, 0, 0, 9, 0, 167),
  (167, .iload_n 3, 0, 0, 3, 0, 168),
  (168, .ifCond .eq 8, 0, 0, 176, 0, 171),
  (171, .lload 4, 0, 0, 4, 0, 173),
  (173, .goto 5, 0, 0, 178, 0, 176),
  (176, .lload 6, 0, 0, 6, 0, 178),
  (178, .lstore 11, 0, 0, 11, 0, 180),
  (180, .lload 9, 0, 0, 9, 0, 182),
  (182, .aload_n 0, 0, 0, 0, 0, 183),
  (183, .getfield 33, 0, 0, 2, 6, 186),
  (186, .iload_n 1, 0, 0, 1, 0, 187),
  (187, .aaload, 0, 0, 0, 0, 188),
  (188, .iload_n 2, 0, 0, 2, 0, 189),
  (189, .laload, 0, 0, 0, 0, 190),
  (190, .lcmp, 0, 0, 0, 0, 191),
  (191, .ifCond .ne 17, 0, 0, 208, 0, 194),
  (194, .lload 11, 0, 0, 11, 0, 196),
  (196, .aload_n 0, 0, 0, 0, 0, 197),
  (197, .getfield 36, 0, 0, 2, 7, 200),
  (200, .iload_n 1, 0, 0, 1, 0, 201),
  (201, .aaload, 0, 0, 0, 0, 202),
  (202, .iload_n 2, 0, 0, 2, 0, 203),
  (203, .laload, 0, 0, 0, 0, 204),
  (204, .lcmp, 0, 0, 0, 0, 205),
  (205, .ifCond .eq 7, 0, 0, 212, 0, 208),
  (208, .iconst 1, 1, 0, 0, 0, 209),
  (209, .goto 4, 0, 0, 213, 0, 212),
  (212, .iconst 0, 0, 0, 0, 0, 213),
  (213, .istore 13, 0, 0, 13, 0, 215),
  (215, .aload_n 0, 0, 0, 0, 0, 216),
  (216, .getfield 33, 0, 0, 2, 6, 219),
  (219, .iload_n 1, 0, 0, 1, 0, 220),
  (220, .aaload, 0, 0, 0, 0, 221),
  (221, .iload_n 2, 0, 0, 2, 0, 222),
  (222, .lload 9, 0, 0, 9, 0, 224),
  (224, .lastore, 0, 0, 0, 0, 225),
  (225, .aload_n 0, 0, 0, 0, 0, 226),
  (226, .getfield 36, 0, 0, 2, 7, 229),
  (229, .iload_n 1, 0, 0, 1, 0, 230),
  (230, .aaload, 0, 0, 0, 0, 231),
  (231, .iload_n 2, 0, 0, 2, 0, 232),
  (232, .lload 11, 0, 0, 11, 0, 234),
  (234, .lastore, 0, 0, 0, 0, 235),
  (235, .iload 13, 0, 0, 13, 0, 237),
  (237, .ireturn, 1, 0, 0, 0, 238)]
abbrev v_N_settleGate : List (Nat × Nat) := []
abbrev s_N_settleGate : List (Nat × Nat) := []
abbrev h_N_settleGate : List (Nat × Nat) := []
abbrev w_N_settleGate : List (Nat × List Nat) := []
abbrev x_N_settleGate : List String := []
theorem k_N_settleGate : t_N_settleGate.all (cx_dec true prog_4_method_14_code (some (.boolean)) 14 g_N p_N l_N v_N_settleGate s_N_settleGate h_N_settleGate w_N_settleGate) = true := by decide +kernel
abbrev m_N_settleGate : MethodName := ⟨"CycleCutter$Net", "settleGate", "(II)Z"⟩
-- calls of N_settleGate: 
def t_C_gate : List (Nat × cx_E) := [(0, .iload_n 1, 0, 0, 1, 0, 1),
  (1, .ifCond .eq 23, 0, 0, 24, 0, 4),
  (4, .iload_n 1, 0, 0, 1, 0, 5),
  (5, .iconst 2, 2, 0, 0, 0, 6),
  (6, .if_icmp .eq 18, 0, 0, 24, 0, 9),
  (9, .iload_n 1, 0, 0, 1, 0, 10),
  (10, .iconst 3, 3, 0, 0, 0, 11),
  (11, .if_icmp .eq 13, 0, 0, 24, 0, 14),
  (14, .new 31, 0, 0, 0, 0, 17),
  (24, .aload_n 0, 0, 0, 0, 0, 25),
  (25, .getfield 12, 0, 0, 3, 0, 28),
  (28, .iload_n 1, 0, 0, 1, 0, 29),
  (29, .invokevirtual 38, 0, 0, 0, 0, 32),
  (32, .ireturn, 0, 0, 0, 0, 33)]
abbrev v_C_gate : List (Nat × Nat) := [(38, 0)]
abbrev s_C_gate : List (Nat × Nat) := []
abbrev h_C_gate : List (Nat × Nat) := [(14, 0)]
abbrev w_C_gate : List (Nat × List Nat) := []
abbrev x_C_gate : List String := ["java/lang/IllegalArgumentException"]
theorem k_C_gate : t_C_gate.all (cx_dec true prog_1_method_2_code (some (.int)) 2 g_C p_C l_C v_C_gate s_C_gate h_C_gate w_C_gate) = true := by decide +kernel
abbrev m_C_gate : MethodName := ⟨"CycleCutter", "gate", "(I)I"⟩
-- calls of C_gate: 0 = CycleCutter$Net.addGate(I)I
def t_C_feed : List (Nat × cx_E) := [(0, .aload_n 0, 0, 0, 0, 0, 1),
  (1, .getfield 12, 0, 0, 3, 0, 4),
  (4, .iload_n 1, 0, 0, 1, 0, 5),
  (5, .invokevirtual 42, 0, 0, 0, 0, 8),
  (8, .ifCond .eq 14, 0, 0, 22, 0, 11),
  (11, .aload_n 0, 0, 0, 0, 0, 12),
  (12, .getfield 12, 0, 0, 3, 0, 15),
  (15, .iload_n 2, 0, 0, 2, 0, 16),
  (16, .invokevirtual 42, 0, 0, 0, 0, 19),
  (19, .ifCond .ne 13, 0, 0, 32, 0, 22),
  (22, .new 46, 0, 0, 0, 0, 25),
  (32, .aload_n 0, 0, 0, 0, 0, 33),
  (33, .getfield 12, 0, 0, 3, 0, 36),
  (36, .iload_n 1, 0, 0, 1, 0, 37),
  (37, .invokevirtual 51, 0, 0, 1, 0, 40),
  (40, .ifCond .eq 13, 0, 0, 53, 0, 43),
  (43, .new 54, 0, 0, 1, 0, 46),
  (53, .aload_n 0, 0, 0, 0, 0, 54),
  (54, .getfield 12, 0, 0, 3, 0, 57),
  (57, .iload_n 1, 0, 0, 1, 0, 58),
  (58, .iload_n 2, 0, 0, 2, 0, 59),
  (59, .iload_n 3, 0, 0, 3, 0, 60),
  (60, .invokevirtual 59, 0, 0, 2, 0, 63),
  (63, .ireturn, 0, 0, 0, 0, 64)]
abbrev v_C_feed : List (Nat × Nat) := [(42, 0), (51, 1), (59, 2)]
abbrev s_C_feed : List (Nat × Nat) := []
abbrev h_C_feed : List (Nat × Nat) := [(22, 0), (43, 1)]
abbrev w_C_feed : List (Nat × List Nat) := []
abbrev x_C_feed : List String := ["java/lang/IndexOutOfBoundsException", "java/lang/IllegalStateException"]
theorem k_C_feed : t_C_feed.all (cx_dec true prog_1_method_3_code (some (.int)) 4 g_C p_C l_C v_C_feed s_C_feed h_C_feed w_C_feed) = true := by decide +kernel
abbrev m_C_feed : MethodName := ⟨"CycleCutter", "feed", "(IIZ)I"⟩
-- calls of C_feed: 0 = CycleCutter$Net.hasGate(I)Z, 1 = CycleCutter$Net.isInput(I)Z, 2 = CycleCutter$Net.addFeed(IIZ)I
def t_C_output : List (Nat × cx_E) := [(0, .aload_n 0, 0, 0, 0, 0, 1),
  (1, .getfield 12, 0, 0, 3, 0, 4),
  (4, .iload_n 1, 0, 0, 1, 0, 5),
  (5, .invokevirtual 42, 0, 0, 0, 0, 8),
  (8, .ifCond .ne 13, 0, 0, 21, 0, 11),
  (11, .new 46, 0, 0, 0, 0, 14),
  (21, .aload_n 0, 0, 0, 0, 0, 22),
  (22, .getfield 27, 0, 0, 3, 3, 25),
  (25, .bipush 10, 10, 0, 0, 0, 27),
  (27, .if_icmp .lt 5, 0, 0, 32, 0, 30),
  (30, .iconst (-1), (-1), 0, 0, 0, 31),
  (31, .ireturn, 0, 0, 0, 0, 32),
  (32, .aload_n 0, 0, 0, 0, 0, 33),
  (33, .getfield 27, 0, 0, 3, 3, 36),
  (36, .istore_n 2, 0, 0, 2, 0, 37),
  (37, .aload_n 0, 0, 0, 0, 0, 38),
  (38, .getfield 23, 0, 0, 3, 2, 41),
  (41, .iload_n 2, 0, 0, 2, 0, 42),
  (42, .iload_n 1, 0, 0, 1, 0, 43),
  (43, .iastore, 0, 0, 0, 0, 44),
  (44, .aload_n 0, 0, 0, 0, 0, 45),
  (45, .iload_n 2, 0, 0, 2, 0, 46),
  (46, .iconst 1, 1, 0, 0, 0, 47),
  (47, .iadd, 0, 0, 0, 0, 48),
  (48, .putfield 27, 0, 0, 3, 3, 51),
  (51, .iload_n 2, 0, 0, 2, 0, 52),
  (52, .ireturn, 0, 0, 0, 0, 53)]
abbrev v_C_output : List (Nat × Nat) := [(42, 0)]
abbrev s_C_output : List (Nat × Nat) := []
abbrev h_C_output : List (Nat × Nat) := [(11, 0)]
abbrev w_C_output : List (Nat × List Nat) := []
abbrev x_C_output : List String := ["java/lang/IndexOutOfBoundsException"]
theorem k_C_output : t_C_output.all (cx_dec true prog_1_method_4_code (some (.int)) 3 g_C p_C l_C v_C_output s_C_output h_C_output w_C_output) = true := by decide +kernel
abbrev m_C_output : MethodName := ⟨"CycleCutter", "output", "(I)I"⟩
-- calls of C_output: 0 = CycleCutter$Net.hasGate(I)Z
def t_C_clear : List (Nat × cx_E) := [(0, .aload_n 0, 0, 0, 0, 0, 1),
  (1, .getfield 12, 0, 0, 3, 0, 4),
  (4, .getfield 63, 0, 0, 2, 8, 7),
  (7, .istore_n 1, 0, 0, 1, 0, 8),
  (8, .aload_n 0, 0, 0, 0, 0, 9),
  (9, .getfield 12, 0, 0, 3, 0, 12),
  (12, .invokevirtual 66, 0, 0, 0, 0, 15),
  (15, .aload_n 0, 0, 0, 0, 0, 16),
  (16, .getfield 19, 0, 0, 3, 1, 19),
  (19, .invokevirtual 69, 0, 0, 1, 0, 22),
  (22, .aload_n 0, 0, 0, 0, 0, 23),
  (23, .iconst 0, 0, 0, 0, 0, 24),
  (24, .putfield 27, 0, 0, 3, 3, 27),
  (27, .iload_n 1, 0, 0, 1, 0, 28),
  (28, .ireturn, 0, 0, 0, 0, 29)]
abbrev v_C_clear : List (Nat × Nat) := [(66, 0), (69, 1)]
abbrev s_C_clear : List (Nat × Nat) := []
abbrev h_C_clear : List (Nat × Nat) := []
abbrev w_C_clear : List (Nat × List Nat) := []
abbrev x_C_clear : List String := []
theorem k_C_clear : t_C_clear.all (cx_dec true prog_1_method_5_code (some (.int)) 2 g_C p_C l_C v_C_clear s_C_clear h_C_clear w_C_clear) = true := by decide +kernel
abbrev m_C_clear : MethodName := ⟨"CycleCutter", "clear", "()I"⟩
-- calls of C_clear: 0 = CycleCutter$Net.dropAll()V, 1 = CycleCutter$Layout.dropAll()V
def t_C_lay : List (Nat × cx_E) := [(0, .aload_n 0, 0, 0, 0, 0, 1),
  (1, .getfield 19, 0, 0, 3, 1, 4),
  (4, .invokevirtual 69, 0, 0, 0, 0, 7),
  (7, .iconst 0, 0, 0, 0, 0, 8),
  (8, .istore_n 1, 0, 0, 1, 0, 9),
  (9, .iload_n 1, 0, 0, 1, 0, 10),
  (10, .aload_n 0, 0, 0, 0, 0, 11),
  (11, .getfield 27, 0, 0, 3, 3, 14),
  (14, .if_icmp .ge 39, 0, 0, 53, 0, 17),
  (17, .aload_n 0, 0, 0, 0, 0, 18),
  (18, .getfield 23, 0, 0, 3, 2, 21),
  (21, .iload_n 1, 0, 0, 1, 0, 22),
  (22, .iaload, 0, 0, 0, 0, 23),
  (23, .istore_n 2, 0, 0, 2, 0, 24),
  (24, .aload_n 0, 0, 0, 0, 0, 25),
  (25, .getfield 19, 0, 0, 3, 1, 28),
  (28, .aload_n 0, 0, 0, 0, 0, 29),
  (29, .getfield 12, 0, 0, 3, 0, 32),
  (32, .iload_n 2, 0, 0, 2, 0, 33),
  (33, .invokevirtual 70, 0, 0, 1, 0, 36),
  (36, .aload_n 0, 0, 0, 0, 0, 37),
  (37, .getfield 12, 0, 0, 3, 0, 40),
  (40, .iload_n 2, 0, 0, 2, 0, 41),
  (41, .invokevirtual 74, 0, 0, 2, 0, 44),
  (44, .invokevirtual 77, 0, 0, 3, 0, 47),
  (47, .iinc 1 1, 1, 0, 1, 0, 50),
  (50, .goto (-41), 0, 0, 9, 0, 53),
  (53, .aload_n 0, 0, 0, 0, 0, 54),
  (54, .getfield 19, 0, 0, 3, 1, 57),
  (57, .getfield 81, 0, 0, 0, 0, 60),
  (60, .invokevirtual 85, 0, 0, 4, 0, 63),
  (63, .ireturn, 0, 0, 0, 0, 64)]
abbrev v_C_lay : List (Nat × Nat) := [(69, 0), (70, 1), (74, 2), (77, 3), (85, 4)]
abbrev s_C_lay : List (Nat × Nat) := []
abbrev h_C_lay : List (Nat × Nat) := []
abbrev w_C_lay : List (Nat × List Nat) := []
abbrev x_C_lay : List String := []
theorem k_C_lay : t_C_lay.all (cx_dec true prog_1_method_6_code (some (.int)) 3 g_C p_C l_C v_C_lay s_C_lay h_C_lay w_C_lay) = true := by decide +kernel
abbrev m_C_lay : MethodName := ⟨"CycleCutter", "lay", "()I"⟩
-- calls of C_lay: 0 = CycleCutter$Layout.dropAll()V, 1 = CycleCutter$Net.highOf(I)[J, 2 = CycleCutter$Net.lowOf(I)[J, 3 = CycleCutter$Layout.addOutput([J[J)V, 4 = CycleCutter$Multiplexers.total()I
def t_C_run : List (Nat × cx_E) := [(0, .aload_n 0, 0, 0, 0, 0, 1),
  (1, .iload_n 1, 0, 0, 1, 0, 2),
  (2, .invokevirtual 91, 0, 0, 0, 0, 5),
  (5, .iload_n 2, 0, 0, 2, 0, 6),
  (6, .invokestatic 95, 0, 0, 1, 0, 9),
  (9, .aload_n 0, 0, 0, 0, 0, 10),
  (10, .getfield 19, 0, 0, 3, 1, 13),
  (13, .iload_n 1, 0, 0, 1, 0, 14),
  (14, .iload_n 2, 0, 0, 2, 0, 15),
  (15, .invokevirtual 98, 0, 0, 2, 0, 18),
  (18, .ireturn, 0, 0, 0, 0, 19)]
abbrev v_C_run : List (Nat × Nat) := [(91, 0), (98, 2)]
abbrev s_C_run : List (Nat × Nat) := [(95, 1)]
abbrev h_C_run : List (Nat × Nat) := []
abbrev w_C_run : List (Nat × List Nat) := []
abbrev x_C_run : List String := []
theorem k_C_run : t_C_run.all (cx_dec true prog_1_method_7_code (some (.int)) 3 g_C p_C l_C v_C_run s_C_run h_C_run w_C_run) = true := by decide +kernel
abbrev m_C_run : MethodName := ⟨"CycleCutter", "run", "(II)I"⟩
-- calls of C_run: 0 = CycleCutter.requireLaidOut(I)V, 1 = CycleCutter.requireChoice(I)V, 2 = CycleCutter$Layout.valueOn(II)I
def t_C_way : List (Nat × cx_E) := [(0, .aload_n 0, 0, 0, 0, 0, 1),
  (1, .iload_n 1, 0, 0, 1, 0, 2),
  (2, .invokevirtual 91, 0, 0, 0, 0, 5),
  (5, .iload_n 2, 0, 0, 2, 0, 6),
  (6, .invokestatic 95, 0, 0, 1, 0, 9),
  (9, .aload_n 0, 0, 0, 0, 0, 10),
  (10, .getfield 19, 0, 0, 3, 1, 13),
  (13, .iload_n 1, 0, 0, 1, 0, 14),
  (14, .iload_n 2, 0, 0, 2, 0, 15),
  (15, .invokevirtual 102, 0, 0, 2, 0, 18),
  (18, .ireturn, 0, 0, 0, 0, 19)]
abbrev v_C_way : List (Nat × Nat) := [(91, 0), (102, 2)]
abbrev s_C_way : List (Nat × Nat) := [(95, 1)]
abbrev h_C_way : List (Nat × Nat) := []
abbrev w_C_way : List (Nat × List Nat) := []
abbrev x_C_way : List String := []
theorem k_C_way : t_C_way.all (cx_dec true prog_1_method_8_code (some (.int)) 3 g_C p_C l_C v_C_way s_C_way h_C_way w_C_way) = true := by decide +kernel
abbrev m_C_way : MethodName := ⟨"CycleCutter", "way", "(II)I"⟩
-- calls of C_way: 0 = CycleCutter.requireLaidOut(I)V, 1 = CycleCutter.requireChoice(I)V, 2 = CycleCutter$Layout.stepsOn(II)I
def t_C_at : List (Nat × cx_E) := [(0, .iload_n 1, 0, 0, 1, 0, 1),
  (1, .ifCond .lt 9, 0, 0, 10, 0, 4),
  (4, .iload_n 1, 0, 0, 1, 0, 5),
  (5, .bipush 8, 8, 0, 0, 0, 7),
  (7, .if_icmp .lt 5, 0, 0, 12, 0, 10),
  (10, .iconst 0, 0, 0, 0, 0, 11),
  (11, .ireturn, 0, 0, 0, 0, 12),
  (12, .aload_n 0, 0, 0, 0, 0, 13),
  (13, .getfield 19, 0, 0, 3, 1, 16),
  (16, .getfield 81, 0, 0, 0, 0, 19),
  (19, .getfield 105, 0, 0, 1, 8, 22),
  (22, .iload_n 1, 0, 0, 1, 0, 23),
  (23, .iaload, 0, 0, 0, 0, 24),
  (24, .ireturn, 0, 0, 0, 0, 25)]
abbrev v_C_at : List (Nat × Nat) := []
abbrev s_C_at : List (Nat × Nat) := []
abbrev h_C_at : List (Nat × Nat) := []
abbrev w_C_at : List (Nat × List Nat) := []
abbrev x_C_at : List String := []
theorem k_C_at : t_C_at.all (cx_dec true prog_1_method_9_code (some (.int)) 2 g_C p_C l_C v_C_at s_C_at h_C_at w_C_at) = true := by decide +kernel
abbrev m_C_at : MethodName := ⟨"CycleCutter", "at", "(I)I"⟩
-- calls of C_at: 
def t_C_size : List (Nat × cx_E) := [(0, .aload_n 0, 0, 0, 0, 0, 1),
  (1, .iload_n 1, 0, 0, 1, 0, 2),
  (2, .invokevirtual 91, 0, 0, 0, 0, 5),
  (5, .iload_n 2, 0, 0, 2, 0, 6),
  (6, .ifCond .eq 15, 0, 0, 21, 0, 9),
  (9, .aload_n 0, 0, 0, 0, 0, 10),
  (10, .getfield 19, 0, 0, 3, 1, 13),
  (13, .getfield 108, 0, 0, 0, 1, 16),
  (16, .iload_n 1, 0, 0, 1, 0, 17),
  (17, .iaload, 0, 0, 0, 0, 18),
  (18, .goto 12, 0, 0, 30, 0, 21),
  (21, .aload_n 0, 0, 0, 0, 0, 22),
  (22, .getfield 19, 0, 0, 3, 1, 25),
  (25, .getfield 111, 0, 0, 0, 2, 28),
  (28, .iload_n 1, 0, 0, 1, 0, 29),
  (29, .iaload, 0, 0, 0, 0, 30),
  (30, .istore_n 3, 0, 0, 3, 0, 31),
  (31, .aload_n 0, 0, 0, 0, 0, 32),
  (32, .getfield 19, 0, 0, 3, 1, 35),
  (35, .getfield 81, 0, 0, 0, 0, 38),
  (38, .iload_n 3, 0, 0, 3, 0, 39),
  (39, .invokevirtual 114, 0, 0, 1, 0, 42),
  (42, .ireturn, 0, 0, 0, 0, 43)]
abbrev v_C_size : List (Nat × Nat) := [(91, 0), (114, 1)]
abbrev s_C_size : List (Nat × Nat) := []
abbrev h_C_size : List (Nat × Nat) := []
abbrev w_C_size : List (Nat × List Nat) := []
abbrev x_C_size : List String := []
theorem k_C_size : t_C_size.all (cx_dec true prog_1_method_10_code (some (.int)) 4 g_C p_C l_C v_C_size s_C_size h_C_size w_C_size) = true := by decide +kernel
abbrev m_C_size : MethodName := ⟨"CycleCutter", "size", "(IZ)I"⟩
-- calls of C_size: 0 = CycleCutter.requireLaidOut(I)V, 1 = CycleCutter$Multiplexers.totalBelow(I)I
def t_C_known : List (Nat × cx_E) := [(0, .aload_n 0, 0, 0, 0, 0, 1),
  (1, .iload_n 1, 0, 0, 1, 0, 2),
  (2, .invokevirtual 91, 0, 0, 0, 0, 5),
  (5, .aload_n 0, 0, 0, 0, 0, 6),
  (6, .getfield 19, 0, 0, 3, 1, 9),
  (9, .iload_n 1, 0, 0, 1, 0, 10),
  (10, .invokevirtual 117, 0, 0, 1, 0, 13),
  (13, .ireturn, 0, 0, 0, 0, 14)]
abbrev v_C_known : List (Nat × Nat) := [(91, 0), (117, 1)]
abbrev s_C_known : List (Nat × Nat) := []
abbrev h_C_known : List (Nat × Nat) := []
abbrev w_C_known : List (Nat × List Nat) := []
abbrev x_C_known : List String := []
theorem k_C_known : t_C_known.all (cx_dec true prog_1_method_11_code (some (.int)) 2 g_C p_C l_C v_C_known s_C_known h_C_known w_C_known) = true := by decide +kernel
abbrev m_C_known : MethodName := ⟨"CycleCutter", "known", "(I)I"⟩
-- calls of C_known: 0 = CycleCutter.requireLaidOut(I)V, 1 = CycleCutter$Layout.knownChoices(I)I
def t_C_doubt : List (Nat × cx_E) := [(0, .iload_n 1, 0, 0, 1, 0, 1),
  (1, .invokestatic 95, 0, 0, 0, 0, 4),
  (4, .aload_n 0, 0, 0, 0, 0, 5),
  (5, .getfield 19, 0, 0, 3, 1, 8),
  (8, .iload_n 1, 0, 0, 1, 0, 9),
  (9, .invokevirtual 120, 0, 0, 1, 0, 12),
  (12, .ireturn, 0, 0, 0, 0, 13)]
abbrev v_C_doubt : List (Nat × Nat) := [(120, 1)]
abbrev s_C_doubt : List (Nat × Nat) := [(95, 0)]
abbrev h_C_doubt : List (Nat × Nat) := []
abbrev w_C_doubt : List (Nat × List Nat) := []
abbrev x_C_doubt : List String := []
theorem k_C_doubt : t_C_doubt.all (cx_dec true prog_1_method_12_code (some (.int)) 2 g_C p_C l_C v_C_doubt s_C_doubt h_C_doubt w_C_doubt) = true := by decide +kernel
abbrev m_C_doubt : MethodName := ⟨"CycleCutter", "doubt", "(I)I"⟩
-- calls of C_doubt: 0 = CycleCutter.requireChoice(I)V, 1 = CycleCutter$Layout.firstDoubtFrom(I)I
def t_C_value : List (Nat × cx_E) := [(0, .aload_n 0, 0, 0, 0, 0, 1),
  (1, .getfield 12, 0, 0, 3, 0, 4),
  (4, .iload_n 1, 0, 0, 1, 0, 5),
  (5, .invokevirtual 42, 0, 0, 0, 0, 8),
  (8, .ifCond .ne 13, 0, 0, 21, 0, 11),
  (11, .new 46, 0, 0, 0, 0, 14),
  (21, .iload_n 2, 0, 0, 2, 0, 22),
  (22, .invokestatic 95, 0, 0, 1, 0, 25),
  (25, .aload_n 0, 0, 0, 0, 0, 26),
  (26, .getfield 12, 0, 0, 3, 0, 29),
  (29, .iload_n 1, 0, 0, 1, 0, 30),
  (30, .iload_n 2, 0, 0, 2, 0, 31),
  (31, .invokevirtual 123, 0, 0, 2, 0, 34),
  (34, .ireturn, 0, 0, 0, 0, 35)]
abbrev v_C_value : List (Nat × Nat) := [(42, 0), (123, 2)]
abbrev s_C_value : List (Nat × Nat) := [(95, 1)]
abbrev h_C_value : List (Nat × Nat) := [(11, 0)]
abbrev w_C_value : List (Nat × List Nat) := []
abbrev x_C_value : List String := ["java/lang/IndexOutOfBoundsException"]
theorem k_C_value : t_C_value.all (cx_dec true prog_1_method_13_code (some (.int)) 3 g_C p_C l_C v_C_value s_C_value h_C_value w_C_value) = true := by decide +kernel
abbrev m_C_value : MethodName := ⟨"CycleCutter", "value", "(II)I"⟩
-- calls of C_value: 0 = CycleCutter$Net.hasGate(I)Z, 1 = CycleCutter.requireChoice(I)V, 2 = CycleCutter$Net.valueOn(II)I
def t_C_count : List (Nat × cx_E) := [(0, .iload_n 1, 0, 0, 1, 0, 1),
  (1, .tableswitch 102 0 6 #[43, 51, 59, 67, 72, 80, 91], 0, 0, 0, 43, 44),
  (44, .aload_n 0, 0, 0, 0, 0, 45),
  (45, .getfield 12, 0, 0, 3, 0, 48),
  (48, .getfield 63, 0, 0, 2, 8, 51),
  (51, .ireturn, 0, 0, 0, 0, 52),
  (52, .aload_n 0, 0, 0, 0, 0, 53),
  (53, .getfield 12, 0, 0, 3, 0, 56),
  (56, .getfield 124, 0, 0, 2, 9, 59),
  (59, .ireturn, 0, 0, 0, 0, 60),
  (60, .aload_n 0, 0, 0, 0, 0, 61),
  (61, .getfield 12, 0, 0, 3, 0, 64),
  (64, .getfield 127, 0, 0, 2, 10, 67),
  (67, .ireturn, 0, 0, 0, 0, 68),
  (68, .aload_n 0, 0, 0, 0, 0, 69),
  (69, .getfield 27, 0, 0, 3, 3, 72),
  (72, .ireturn, 0, 0, 0, 0, 73),
  (73, .aload_n 0, 0, 0, 0, 0, 74),
  (74, .getfield 19, 0, 0, 3, 1, 77),
  (77, .getfield 130, 0, 0, 0, 4, 80),
  (80, .ireturn, 0, 0, 0, 0, 81),
  (81, .aload_n 0, 0, 0, 0, 0, 82),
  (82, .getfield 19, 0, 0, 3, 1, 85),
  (85, .getfield 81, 0, 0, 0, 0, 88),
  (88, .invokevirtual 85, 0, 0, 0, 0, 91),
  (91, .ireturn, 0, 0, 0, 0, 92),
  (92, .aload_n 0, 0, 0, 0, 0, 93),
  (93, .getfield 19, 0, 0, 3, 1, 96),
  (96, .getfield 81, 0, 0, 0, 0, 99),
  (99, .getfield 131, 0, 0, 1, 10, 102),
  (102, .ireturn, 0, 0, 0, 0, 103),
  (103, .iconst (-1), (-1), 0, 0, 0, 104),
  (104, .ireturn, 0, 0, 0, 0, 105)]
abbrev v_C_count : List (Nat × Nat) := [(85, 0)]
abbrev s_C_count : List (Nat × Nat) := []
abbrev h_C_count : List (Nat × Nat) := []
abbrev w_C_count : List (Nat × List Nat) := [(103, [44, 52, 60, 68, 73, 81, 92])]
abbrev x_C_count : List String := []
theorem k_C_count : t_C_count.all (cx_dec true prog_1_method_14_code (some (.int)) 2 g_C p_C l_C v_C_count s_C_count h_C_count w_C_count) = true := by decide +kernel
abbrev m_C_count : MethodName := ⟨"CycleCutter", "count", "(I)I"⟩
-- calls of C_count: 0 = CycleCutter$Multiplexers.total()I
def t_C_requireLaidOut : List (Nat × cx_E) := [(0, .iload_n 1, 0, 0, 1, 0, 1),
  (1, .ifCond .lt 14, 0, 0, 15, 0, 4),
  (4, .iload_n 1, 0, 0, 1, 0, 5),
  (5, .aload_n 0, 0, 0, 0, 0, 6),
  (6, .getfield 19, 0, 0, 3, 1, 9),
  (9, .getfield 130, 0, 0, 0, 4, 12),
  (12, .if_icmp .lt 13, 0, 0, 25, 0, 15),
  (15, .new 46, 0, 0, 0, 0, 18),
  (25, .return_, 0, 0, 0, 0, 26)]
abbrev v_C_requireLaidOut : List (Nat × Nat) := []
abbrev s_C_requireLaidOut : List (Nat × Nat) := []
abbrev h_C_requireLaidOut : List (Nat × Nat) := [(15, 0)]
abbrev w_C_requireLaidOut : List (Nat × List Nat) := []
abbrev x_C_requireLaidOut : List String := ["java/lang/IndexOutOfBoundsException"]
theorem k_C_requireLaidOut : t_C_requireLaidOut.all (cx_dec true prog_1_method_15_code none 2 g_C p_C l_C v_C_requireLaidOut s_C_requireLaidOut h_C_requireLaidOut w_C_requireLaidOut) = true := by decide +kernel
abbrev m_C_requireLaidOut : MethodName := ⟨"CycleCutter", "requireLaidOut", "(I)V"⟩
-- calls of C_requireLaidOut: 
def t_C_requireChoice : List (Nat × cx_E) := [(0, .iload_n 0, 0, 0, 0, 0, 1),
  (1, .ifCond .lt 10, 0, 0, 11, 0, 4),
  (4, .iload_n 0, 0, 0, 0, 0, 5),
  (5, .sipush 256, 256, 0, 0, 0, 8),
  (8, .if_icmp .lt 13, 0, 0, 21, 0, 11),
  (11, .new 46, 0, 0, 0, 0, 14),
  (21, .return_, 0, 0, 0, 0, 22)]
abbrev v_C_requireChoice : List (Nat × Nat) := []
abbrev s_C_requireChoice : List (Nat × Nat) := []
abbrev h_C_requireChoice : List (Nat × Nat) := [(11, 0)]
abbrev w_C_requireChoice : List (Nat × List Nat) := []
abbrev x_C_requireChoice : List String := ["java/lang/IndexOutOfBoundsException"]
theorem k_C_requireChoice : t_C_requireChoice.all (cx_dec true prog_1_method_16_code none 1 g_C p_C l_C v_C_requireChoice s_C_requireChoice h_C_requireChoice w_C_requireChoice) = true := by decide +kernel
abbrev m_C_requireChoice : MethodName := ⟨"CycleCutter", "requireChoice", "(I)V"⟩
-- calls of C_requireChoice: 
def t_C_isInputSet : List (Nat × cx_E) := [(0, .iload_n 1, 0, 0, 1, 0, 1),
  (1, .bipush 7, 7, 0, 0, 0, 3),
  (3, .iload_n 0, 0, 0, 0, 0, 4),
  (4, .isub, 0, 0, 0, 0, 5),
  (5, .ishr, 0, 0, 0, 0, 6),
  (6, .iconst 1, 1, 0, 0, 0, 7),
  (7, .iand, 0, 0, 0, 0, 8),
  (8, .iconst 1, 1, 0, 0, 0, 9),
  (9, .if_icmp .ne 7, 0, 0, 16, 0, 12),
  (12, .iconst 1, 1, 0, 0, 0, 13),
  (13, .goto 4, 0, 0, 17, 0, 16),
  (16, .iconst 0, 0, 0, 0, 0, 17),
  (17, .ireturn, 1, 0, 0, 0, 18)]
abbrev v_C_isInputSet : List (Nat × Nat) := []
abbrev s_C_isInputSet : List (Nat × Nat) := []
abbrev h_C_isInputSet : List (Nat × Nat) := []
abbrev w_C_isInputSet : List (Nat × List Nat) := []
abbrev x_C_isInputSet : List String := []
theorem k_C_isInputSet : t_C_isInputSet.all (cx_dec true prog_1_method_17_code (some (.boolean)) 2 g_C p_C l_C v_C_isInputSet s_C_isInputSet h_C_isInputSet w_C_isInputSet) = true := by decide +kernel
abbrev m_C_isInputSet : MethodName := ⟨"CycleCutter", "isInputSet", "(II)Z"⟩
-- calls of C_isInputSet: 
def t_C_isMember : List (Nat × cx_E) := [(0, .aload_n 0, 0, 0, 0, 0, 1),
  (1, .iload_n 1, 0, 0, 1, 0, 2),
  (2, .bipush 64, 64, 0, 0, 0, 4),
  (4, .idiv, 0, 0, 0, 0, 5),
  (5, .laload, 0, 0, 0, 0, 6),
  (6, .iload_n 1, 0, 0, 1, 0, 7),
  (7, .bipush 64, 64, 0, 0, 0, 9),
  (9, .irem, 0, 0, 0, 0, 10),
  (10, .lushr, 0, 0, 0, 0, 11),
  (11, .lconst 1, 0, 1, 0, 0, 12),
  (12, .land, 0, 0, 0, 0, 13),
  (13, .lconst 1, 0, 1, 0, 0, 14),
  (14, .lcmp, 0, 0, 0, 0, 15),
  (15, .ifCond .ne 7, 0, 0, 22, 0, 18),
  (18, .iconst 1, 1, 0, 0, 0, 19),
  (19, .goto 4, 0, 0, 23, 0, 22),
  (22, .iconst 0, 0, 0, 0, 0, 23),
  (23, .ireturn, 1, 0, 0, 0, 24)]
abbrev v_C_isMember : List (Nat × Nat) := []
abbrev s_C_isMember : List (Nat × Nat) := []
abbrev h_C_isMember : List (Nat × Nat) := []
abbrev w_C_isMember : List (Nat × List Nat) := []
abbrev x_C_isMember : List String := []
theorem k_C_isMember : t_C_isMember.all (cx_dec true prog_1_method_18_code (some (.boolean)) 2 g_C p_C l_C v_C_isMember s_C_isMember h_C_isMember w_C_isMember) = true := by decide +kernel
abbrev m_C_isMember : MethodName := ⟨"CycleCutter", "isMember", "([JI)Z"⟩
-- calls of C_isMember: 
def t_R_thrown : List (Nat × cx_E) := [(0, .aload_n 0, 0, 0, 0, 0, 1),
  (1, .getfield 54, 0, 0, 4, 0, 4),
  (4, .ireturn, 0, 0, 0, 0, 5)]
abbrev v_R_thrown : List (Nat × Nat) := []
abbrev s_R_thrown : List (Nat × Nat) := []
abbrev h_R_thrown : List (Nat × Nat) := []
abbrev w_R_thrown : List (Nat × List Nat) := []
abbrev x_R_thrown : List String := []
theorem k_R_thrown : t_R_thrown.all (cx_dec true prog_6_method_2_code (some (.int)) 1 g_R p_R l_R v_R_thrown s_R_thrown h_R_thrown w_R_thrown) = true := by decide +kernel
abbrev m_R_thrown : MethodName := ⟨"CycleCutterModel", "thrown", "()I"⟩
-- calls of R_thrown: 
def t_R_fails : List (Nat × cx_E) := [(0, .aload_n 0, 0, 0, 0, 0, 1),
  (1, .iload_n 1, 0, 0, 1, 0, 2),
  (2, .ifCond .eq 7, 0, 0, 9, 0, 5),
  (5, .iconst 1, 1, 0, 0, 0, 6),
  (6, .goto 12, 0, 0, 18, 0, 9),
  (9, .iload_n 2, 0, 0, 2, 0, 10),
  (10, .ifCond .eq 7, 0, 0, 17, 0, 13),
  (13, .iconst 2, 2, 0, 0, 0, 14),
  (14, .goto 4, 0, 0, 18, 0, 17),
  (17, .iconst 0, 0, 0, 0, 0, 18),
  (18, .putfield 54, 0, 0, 4, 0, 21),
  (21, .aload_n 0, 0, 0, 0, 0, 22),
  (22, .getfield 54, 0, 0, 4, 0, 25),
  (25, .ifCond .le 7, 0, 0, 32, 0, 28),
  (28, .iconst 1, 1, 0, 0, 0, 29),
  (29, .goto 4, 0, 0, 33, 0, 32),
  (32, .iconst 0, 0, 0, 0, 0, 33),
  (33, .ireturn, 1, 0, 0, 0, 34)]
abbrev v_R_fails : List (Nat × Nat) := []
abbrev s_R_fails : List (Nat × Nat) := []
abbrev h_R_fails : List (Nat × Nat) := []
abbrev w_R_fails : List (Nat × List Nat) := []
abbrev x_R_fails : List String := []
theorem k_R_fails : t_R_fails.all (cx_dec true prog_6_method_3_code (some (.boolean)) 3 g_R p_R l_R v_R_fails s_R_fails h_R_fails w_R_fails) = true := by decide +kernel
abbrev m_R_fails : MethodName := ⟨"CycleCutterModel", "fails", "(ZZ)Z"⟩
-- calls of R_fails: 
def t_R_isGate : List (Nat × cx_E) := [(0, .iload_n 1, 0, 0, 1, 0, 1),
  (1, .ifCond .lt 15, 0, 0, 16, 0, 4),
  (4, .iload_n 1, 0, 0, 1, 0, 5),
  (5, .aload_n 0, 0, 0, 0, 0, 6),
  (6, .getfield 58, 0, 0, 4, 1, 9),
  (9, .if_icmp .ge 7, 0, 0, 16, 0, 12),
  (12, .iconst 1, 1, 0, 0, 0, 13),
  (13, .goto 4, 0, 0, 17, 0, 16),
  (16, .iconst 0, 0, 0, 0, 0, 17),
  (17, .ireturn, 1, 0, 0, 0, 18)]
abbrev v_R_isGate : List (Nat × Nat) := []
abbrev s_R_isGate : List (Nat × Nat) := []
abbrev h_R_isGate : List (Nat × Nat) := []
abbrev w_R_isGate : List (Nat × List Nat) := []
abbrev x_R_isGate : List String := []
theorem k_R_isGate : t_R_isGate.all (cx_dec true prog_6_method_4_code (some (.boolean)) 2 g_R p_R l_R v_R_isGate s_R_isGate h_R_isGate w_R_isGate) = true := by decide +kernel
abbrev m_R_isGate : MethodName := ⟨"CycleCutterModel", "isGate", "(I)Z"⟩
-- calls of R_isGate: 
def t_R_gate : List (Nat × cx_E) := [(0, .aload_n 0, 0, 0, 0, 0, 1),
  (1, .iload_n 1, 0, 0, 1, 0, 2),
  (2, .ifCond .eq 17, 0, 0, 19, 0, 5),
  (5, .iload_n 1, 0, 0, 1, 0, 6),
  (6, .iconst 2, 2, 0, 0, 0, 7),
  (7, .if_icmp .eq 12, 0, 0, 19, 0, 10),
  (10, .iload_n 1, 0, 0, 1, 0, 11),
  (11, .iconst 3, 3, 0, 0, 0, 12),
  (12, .if_icmp .eq 7, 0, 0, 19, 0, 15),
  (15, .iconst 1, 1, 0, 0, 0, 16),
  (16, .goto 4, 0, 0, 20, 0, 19),
  (19, .iconst 0, 0, 0, 0, 0, 20),
  (20, .iconst 0, 0, 0, 0, 0, 21),
  (21, .invokevirtual 61, 0, 0, 0, 0, 24),
  (24, .ifCond .eq 5, 0, 0, 29, 0, 27),
  (27, .iconst 0, 0, 0, 0, 0, 28),
  (28, .ireturn, 0, 0, 0, 0, 29),
  (29, .aload_n 0, 0, 0, 0, 0, 30),
  (30, .getfield 58, 0, 0, 4, 1, 33),
  (33, .bipush 120, 120, 0, 0, 0, 35),
  (35, .if_icmp .eq 16, 0, 0, 51, 0, 38),
  (38, .iload_n 1, 0, 0, 1, 0, 39),
  (39, .ifCond .ne 14, 0, 0, 53, 0, 42),
  (42, .aload_n 0, 0, 0, 0, 0, 43),
  (43, .getfield 65, 0, 0, 4, 3, 46),
  (46, .bipush 8, 8, 0, 0, 0, 48),
  (48, .if_icmp .ne 5, 0, 0, 53, 0, 51),
  (51, .iconst (-1), (-1), 0, 0, 0, 52),
  (52, .ireturn, 0, 0, 0, 0, 53),
  (53, .aload_n 0, 0, 0, 0, 0, 54),
  (54, .getfield 7, 0, 0, 4, 5, 57),
  (57, .aload_n 0, 0, 0, 0, 0, 58),
  (58, .getfield 58, 0, 0, 4, 1, 61),
  (61, .iload_n 1, 0, 0, 1, 0, 62),
  (62, .iastore, 0, 0, 0, 0, 63),
  (63, .aload_n 0, 0, 0, 0, 0, 64),
  (64, .getfield 13, 0, 0, 4, 6, 67),
  (67, .aload_n 0, 0, 0, 0, 0, 68),
  (68, .getfield 58, 0, 0, 4, 1, 71),
  (71, .aload_n 0, 0, 0, 0, 0, 72),
  (72, .getfield 65, 0, 0, 4, 3, 75),
  (75, .iastore, 0, 0, 0, 0, 76),
  (76, .aload_n 0, 0, 0, 0, 0, 77),
  (77, .dup, 0, 0, 0, 0, 78),
  (78, .getfield 65, 0, 0, 4, 3, 81),
  (81, .iload_n 1, 0, 0, 1, 0, 82),
  (82, .ifCond .ne 7, 0, 0, 89, 0, 85),
  (85, .iconst 1, 1, 0, 0, 0, 86),
  (86, .goto 4, 0, 0, 90, 0, 89),
  (89, .iconst 0, 0, 0, 0, 0, 90),
  (90, .iadd, 0, 0, 0, 0, 91),
  (91, .putfield 65, 0, 0, 4, 3, 94),
  (94, .aload_n 0, 0, 0, 0, 0, 95),
  (95, .dup, 0, 0, 0, 0, 96),
  (96, .getfield 58, 0, 0, 4, 1, 99),
  (99, .iconst 1, 1, 0, 0, 0, 100),
  (100, .iadd, 0, 0, 0, 0, 101),
  (101, .putfield 58, 0, 0, 4, 1, 104),
  (104, .aload_n 0, 0, 0, 0, 0, 105),
  (105, .getfield 58, 0, 0, 4, 1, 108),
  (108, .iconst 1, 1, 0, 0, 0, 109),
  (109, .isub, 0, 0, 0, 0, 110),
  (110, .ireturn, 0, 0, 0, 0, 111)]
abbrev v_R_gate : List (Nat × Nat) := [(61, 0)]
abbrev s_R_gate : List (Nat × Nat) := []
abbrev h_R_gate : List (Nat × Nat) := []
abbrev w_R_gate : List (Nat × List Nat) := []
abbrev x_R_gate : List String := []
theorem k_R_gate : t_R_gate.all (cx_dec true prog_6_method_5_code (some (.int)) 2 g_R p_R l_R v_R_gate s_R_gate h_R_gate w_R_gate) = true := by decide +kernel
abbrev m_R_gate : MethodName := ⟨"CycleCutterModel", "gate", "(I)I"⟩
-- calls of R_gate: 0 = CycleCutterModel.fails(ZZ)Z
def t_R_feed : List (Nat × cx_E) := [(0, .aload_n 0, 0, 0, 0, 0, 1),
  (1, .iload_n 1, 0, 0, 1, 0, 2),
  (2, .invokevirtual 68, 0, 0, 0, 0, 5),
  (5, .ifCond .eq 15, 0, 0, 20, 0, 8),
  (8, .aload_n 0, 0, 0, 0, 0, 9),
  (9, .iload_n 2, 0, 0, 2, 0, 10),
  (10, .invokevirtual 68, 0, 0, 0, 0, 13),
  (13, .ifCond .eq 7, 0, 0, 20, 0, 16),
  (16, .iconst 1, 1, 0, 0, 0, 17),
  (17, .goto 4, 0, 0, 21, 0, 20),
  (20, .iconst 0, 0, 0, 0, 0, 21),
  (21, .istore 4, 0, 0, 4, 0, 23),
  (23, .aload_n 0, 0, 0, 0, 0, 24),
  (24, .iload 4, 0, 0, 4, 0, 26),
  (26, .ifCond .ne 7, 0, 0, 33, 0, 29),
  (29, .iconst 1, 1, 0, 0, 0, 30),
  (30, .goto 4, 0, 0, 34, 0, 33),
  (33, .iconst 0, 0, 0, 0, 0, 34),
  (34, .iload 4, 0, 0, 4, 0, 36),
  (36, .ifCond .eq 25, 0, 0, 61, 0, 39),
  (39, .aload_n 0, 0, 0, 0, 0, 40),
  (40, .getfield 7, 0, 0, 4, 5, 43),
  (43, .iload 4, 0, 0, 4, 0, 45),
  (45, .ifCond .eq 7, 0, 0, 52, 0, 48),
  (48, .iload_n 1, 0, 0, 1, 0, 49),
  (49, .goto 4, 0, 0, 53, 0, 52),
  (52, .iconst 0, 0, 0, 0, 0, 53),
  (53, .iaload, 0, 0, 0, 0, 54),
  (54, .ifCond .ne 7, 0, 0, 61, 0, 57),
  (57, .iconst 1, 1, 0, 0, 0, 58),
  (58, .goto 4, 0, 0, 62, 0, 61),
  (61, .iconst 0, 0, 0, 0, 0, 62),
  (62, .invokevirtual 61, 0, 0, 1, 0, 65),
  (65, .ifCond .eq 5, 0, 0, 70, 0, 68),
  (68, .iconst 0, 0, 0, 0, 0, 69),
  (69, .ireturn, 0, 0, 0, 0, 70),
  (70, .aload_n 0, 0, 0, 0, 0, 71),
  (71, .getfield 72, 0, 0, 4, 2, 74),
  (74, .sipush 500, 500, 0, 0, 0, 77),
  (77, .if_icmp .ne 5, 0, 0, 82, 0, 80),
  (80, .iconst (-1), (-1), 0, 0, 0, 81),
  (81, .ireturn, 0, 0, 0, 0, 82),
  (82, .aload_n 0, 0, 0, 0, 0, 83),
  (83, .getfield 16, 0, 0, 4, 7, 86),
  (86, .aload_n 0, 0, 0, 0, 0, 87),
  (87, .getfield 72, 0, 0, 4, 2, 90),
  (90, .iload_n 1, 0, 0, 1, 0, 91),
  (91, .iastore, 0, 0, 0, 0, 92),
  (92, .aload_n 0, 0, 0, 0, 0, 93),
  (93, .getfield 19, 0, 0, 4, 8, 96),
  (96, .aload_n 0, 0, 0, 0, 0, 97),
  (97, .getfield 72, 0, 0, 4, 2, 100),
  (100, .iload_n 2, 0, 0, 2, 0, 101),
  (101, .iastore, 0, 0, 0, 0, 102),
  (102, .aload_n 0, 0, 0, 0, 0, 103),
  (103, .getfield 25, 0, 0, 4, 10, 106),
  (106, .aload_n 0, 0, 0, 0, 0, 107),
  (107, .getfield 72, 0, 0, 4, 2, 110),
  (110, .iload_n 3, 0, 0, 3, 0, 111),
  (111, .bastore, 0, 0, 0, 0, 112),
  (112, .aload_n 0, 0, 0, 0, 0, 113),
  (113, .dup, 0, 0, 0, 0, 114),
  (114, .getfield 72, 0, 0, 4, 2, 117),
  (117, .iconst 1, 1, 0, 0, 0, 118),
  (118, .iadd, 0, 0, 0, 0, 119),
  (119, .putfield 72, 0, 0, 4, 2, 122),
  (122, .iconst 0, 0, 0, 0, 0, 123),
  (123, .istore 5, 0, 0, 5, 0, 125),
  (125, .iconst 0, 0, 0, 0, 0, 126),
  (126, .istore 6, 0, 0, 6, 0, 128),
  (128, .iload 6, 0, 0, 6, 0, 130),
  (130, .aload_n 0, 0, 0, 0, 0, 131),
  (131, .getfield 72, 0, 0, 4, 2, 134),
  (134, .if_icmp .ge 30, 0, 0, 164, 0, 137),
  (137, .iload 5, 0, 0, 5, 0, 139),
  (139, .aload_n 0, 0, 0, 0, 0, 140),
  (140, .getfield 16, 0, 0, 4, 7, 143),
  (143, .iload 6, 0, 0, 6, 0, 145),
  (145, .iaload, 0, 0, 0, 0, 146),
  (146, .iload_n 1, 0, 0, 1, 0, 147),
  (147, .if_icmp .ne 7, 0, 0, 154, 0, 150),
  (150, .iconst 1, 1, 0, 0, 0, 151),
  (151, .goto 4, 0, 0, 155, 0, 154),
  (154, .iconst 0, 0, 0, 0, 0, 155),
  (155, .iadd, 0, 0, 0, 0, 156),
  (156, .istore 5, 0, 0, 5, 0, 158),
  (158, .iinc 6 1, 1, 0, 6, 0, 161),
  (161, .goto (-33), 0, 0, 128, 0, 164),
  (164, .iload 5, 0, 0, 5, 0, 166),
  (166, .ireturn, 0, 0, 0, 0, 167)]
abbrev v_R_feed : List (Nat × Nat) := [(61, 1), (68, 0)]
abbrev s_R_feed : List (Nat × Nat) := []
abbrev h_R_feed : List (Nat × Nat) := []
abbrev w_R_feed : List (Nat × List Nat) := []
abbrev x_R_feed : List String := []
theorem k_R_feed : t_R_feed.all (cx_dec true prog_6_method_6_code (some (.int)) 7 g_R p_R l_R v_R_feed s_R_feed h_R_feed w_R_feed) = true := by decide +kernel
abbrev m_R_feed : MethodName := ⟨"CycleCutterModel", "feed", "(IIZ)I"⟩
-- calls of R_feed: 0 = CycleCutterModel.isGate(I)Z, 1 = CycleCutterModel.fails(ZZ)Z
def t_R_output : List (Nat × cx_E) := [(0, .aload_n 0, 0, 0, 0, 0, 1),
  (1, .aload_n 0, 0, 0, 0, 0, 2),
  (2, .iload_n 1, 0, 0, 1, 0, 3),
  (3, .invokevirtual 68, 0, 0, 0, 0, 6),
  (6, .ifCond .ne 7, 0, 0, 13, 0, 9),
  (9, .iconst 1, 1, 0, 0, 0, 10),
  (10, .goto 4, 0, 0, 14, 0, 13),
  (13, .iconst 0, 0, 0, 0, 0, 14),
  (14, .iconst 0, 0, 0, 0, 0, 15),
  (15, .invokevirtual 61, 0, 0, 1, 0, 18),
  (18, .ifCond .eq 5, 0, 0, 23, 0, 21),
  (21, .iconst 0, 0, 0, 0, 0, 22),
  (22, .ireturn, 0, 0, 0, 0, 23),
  (23, .aload_n 0, 0, 0, 0, 0, 24),
  (24, .getfield 75, 0, 0, 4, 4, 27),
  (27, .bipush 10, 10, 0, 0, 0, 29),
  (29, .if_icmp .ne 5, 0, 0, 34, 0, 32),
  (32, .iconst (-1), (-1), 0, 0, 0, 33),
  (33, .ireturn, 0, 0, 0, 0, 34),
  (34, .aload_n 0, 0, 0, 0, 0, 35),
  (35, .getfield 22, 0, 0, 4, 9, 38),
  (38, .aload_n 0, 0, 0, 0, 0, 39),
  (39, .getfield 75, 0, 0, 4, 4, 42),
  (42, .iload_n 1, 0, 0, 1, 0, 43),
  (43, .iastore, 0, 0, 0, 0, 44),
  (44, .aload_n 0, 0, 0, 0, 0, 45),
  (45, .dup, 0, 0, 0, 0, 46),
  (46, .getfield 75, 0, 0, 4, 4, 49),
  (49, .iconst 1, 1, 0, 0, 0, 50),
  (50, .iadd, 0, 0, 0, 0, 51),
  (51, .putfield 75, 0, 0, 4, 4, 54),
  (54, .aload_n 0, 0, 0, 0, 0, 55),
  (55, .getfield 75, 0, 0, 4, 4, 58),
  (58, .iconst 1, 1, 0, 0, 0, 59),
  (59, .isub, 0, 0, 0, 0, 60),
  (60, .ireturn, 0, 0, 0, 0, 61)]
abbrev v_R_output : List (Nat × Nat) := [(61, 1), (68, 0)]
abbrev s_R_output : List (Nat × Nat) := []
abbrev h_R_output : List (Nat × Nat) := []
abbrev w_R_output : List (Nat × List Nat) := []
abbrev x_R_output : List String := []
theorem k_R_output : t_R_output.all (cx_dec true prog_6_method_7_code (some (.int)) 2 g_R p_R l_R v_R_output s_R_output h_R_output w_R_output) = true := by decide +kernel
abbrev m_R_output : MethodName := ⟨"CycleCutterModel", "output", "(I)I"⟩
-- calls of R_output: 0 = CycleCutterModel.isGate(I)Z, 1 = CycleCutterModel.fails(ZZ)Z
def t_R_clear : List (Nat × cx_E) := [(0, .aload_n 0, 0, 0, 0, 0, 1),
  (1, .iconst 0, 0, 0, 0, 0, 2),
  (2, .putfield 54, 0, 0, 4, 0, 5),
  (5, .aload_n 0, 0, 0, 0, 0, 6),
  (6, .getfield 58, 0, 0, 4, 1, 9),
  (9, .istore_n 1, 0, 0, 1, 0, 10),
  (10, .aload_n 0, 0, 0, 0, 0, 11),
  (11, .iconst 0, 0, 0, 0, 0, 12),
  (12, .putfield 58, 0, 0, 4, 1, 15),
  (15, .aload_n 0, 0, 0, 0, 0, 16),
  (16, .iconst 0, 0, 0, 0, 0, 17),
  (17, .putfield 72, 0, 0, 4, 2, 20),
  (20, .aload_n 0, 0, 0, 0, 0, 21),
  (21, .iconst 0, 0, 0, 0, 0, 22),
  (22, .putfield 65, 0, 0, 4, 3, 25),
  (25, .aload_n 0, 0, 0, 0, 0, 26),
  (26, .iconst 0, 0, 0, 0, 0, 27),
  (27, .putfield 75, 0, 0, 4, 4, 30),
  (30, .aload_n 0, 0, 0, 0, 0, 31),
  (31, .iconst 0, 0, 0, 0, 0, 32),
  (32, .putfield 78, 0, 0, 4, 12, 35),
  (35, .aload_n 0, 0, 0, 0, 0, 36),
  (36, .iconst 0, 0, 0, 0, 0, 37),
  (37, .putfield 81, 0, 0, 4, 13, 40),
  (40, .iload_n 1, 0, 0, 1, 0, 41),
  (41, .ireturn, 0, 0, 0, 0, 42)]
abbrev v_R_clear : List (Nat × Nat) := []
abbrev s_R_clear : List (Nat × Nat) := []
abbrev h_R_clear : List (Nat × Nat) := []
abbrev w_R_clear : List (Nat × List Nat) := []
abbrev x_R_clear : List String := []
theorem k_R_clear : t_R_clear.all (cx_dec true prog_6_method_8_code (some (.int)) 2 g_R p_R l_R v_R_clear s_R_clear h_R_clear w_R_clear) = true := by decide +kernel
abbrev m_R_clear : MethodName := ⟨"CycleCutterModel", "clear", "()I"⟩
-- calls of R_clear: 
def t_R_made : List (Nat × cx_E) := [(0, .aload_n 0, 0, 0, 0, 0, 1),
  (1, .getfield 7, 0, 0, 4, 5, 4),
  (4, .iload_n 1, 0, 0, 1, 0, 5),
  (5, .iaload, 0, 0, 0, 0, 6),
  (6, .iconst 2, 2, 0, 0, 0, 7),
  (7, .if_icmp .ne 7, 0, 0, 14, 0, 10),
  (10, .iconst 0, 0, 0, 0, 0, 11),
  (11, .goto 4, 0, 0, 15, 0, 14),
  (14, .iconst 1, 1, 0, 0, 0, 15),
  (15, .istore_n 2, 0, 0, 2, 0, 16),
  (16, .iconst 1, 1, 0, 0, 0, 17),
  (17, .iload_n 2, 0, 0, 2, 0, 18),
  (18, .isub, 0, 0, 0, 0, 19),
  (19, .istore_n 3, 0, 0, 3, 0, 20),
  (20, .iconst 0, 0, 0, 0, 0, 21),
  (21, .istore 4, 0, 0, 4, 0, 23),
  (23, .iload 4, 0, 0, 4, 0, 25),
  (25, .aload_n 0, 0, 0, 0, 0, 26),
  (26, .getfield 72, 0, 0, 4, 2, 29),
  (29, .if_icmp .ge 88, 0, 0, 117, 0, 32),
  (32, .aload_n 0, 0, 0, 0, 0, 33),
  (33, .getfield 16, 0, 0, 4, 7, 36),
  (36, .iload 4, 0, 0, 4, 0, 38),
  (38, .iaload, 0, 0, 0, 0, 39),
  (39, .iload_n 1, 0, 0, 1, 0, 40),
  (40, .if_icmp .ne 71, 0, 0, 111, 0, 43),
  (43, .iload_n 3, 0, 0, 3, 0, 44),
  (44, .iload_n 2, 0, 0, 2, 0, 45),
  (45, .if_icmp .ne 6, 0, 0, 51, 0, 48),
  (48, .goto 63, 0, 0, 111, 0, 51),
  (51, .aload_n 0, 0, 0, 0, 0, 52),
  (52, .getfield 29, 0, 0, 4, 11, 55),
  (55, .aload_n 0, 0, 0, 0, 0, 56),
  (56, .getfield 19, 0, 0, 4, 8, 59),
  (59, .iload 4, 0, 0, 4, 0, 61),
  (61, .iaload, 0, 0, 0, 0, 62),
  (62, .iaload, 0, 0, 0, 0, 63),
  (63, .istore 5, 0, 0, 5, 0, 65),
  (65, .iload 5, 0, 0, 5, 0, 67),
  (67, .iconst 2, 2, 0, 0, 0, 68),
  (68, .if_icmp .eq 13, 0, 0, 81, 0, 71),
  (71, .aload_n 0, 0, 0, 0, 0, 72),
  (72, .getfield 25, 0, 0, 4, 10, 75),
  (75, .iload 4, 0, 0, 4, 0, 77),
  (77, .baload, 0, 0, 0, 0, 78),
  (78, .ifCond .ne 8, 0, 0, 86, 0, 81),
  (81, .iload 5, 0, 0, 5, 0, 83),
  (83, .goto 7, 0, 0, 90, 0, 86),
  (86, .iconst 1, 1, 0, 0, 0, 87),
  (87, .iload 5, 0, 0, 5, 0, 89),
  (89, .isub, 0, 0, 0, 0, 90),
  (90, .istore 5, 0, 0, 5, 0, 92),
  (92, .iload 5, 0, 0, 5, 0, 94),
  (94, .iload_n 2, 0, 0, 2, 0, 95),
  (95, .if_icmp .eq 9, 0, 0, 104, 0, 98),
  (98, .iload 5, 0, 0, 5, 0, 100),
  (100, .iconst 2, 2, 0, 0, 0, 101),
  (101, .if_icmp .ne 8, 0, 0, 109, 0, 104),
  (104, .iload 5, 0, 0, 5, 0, 106),
  (106, .goto 4, 0, 0, 110, 0, 109),
  (109, .iload_n 3, 0, 0, 3, 0, 110),
  (110, .istore_n 3, 0, 0, 3, 0, 111),
  (111, .iinc 4 1, 1, 0, 4, 0, 114),
  (114, .goto (-91), 0, 0, 23, 0, 117),
  (117, .iload_n 3, 0, 0, 3, 0, 118),
  (118, .ireturn, 0, 0, 0, 0, 119)]
abbrev v_R_made : List (Nat × Nat) := []
abbrev s_R_made : List (Nat × Nat) := []
abbrev h_R_made : List (Nat × Nat) := []
abbrev w_R_made : List (Nat × List Nat) := []
abbrev x_R_made : List String := []
theorem k_R_made : t_R_made.all (cx_dec true prog_6_method_9_code (some (.int)) 6 g_R p_R l_R v_R_made s_R_made h_R_made w_R_made) = true := by decide +kernel
abbrev m_R_made : MethodName := ⟨"CycleCutterModel", "made", "(I)I"⟩
-- calls of R_made: 
def t_R_spread : List (Nat × cx_E) := [(0, .iconst 0, 0, 0, 0, 0, 1),
  (1, .istore_n 2, 0, 0, 2, 0, 2),
  (2, .iload_n 2, 0, 0, 2, 0, 3),
  (3, .aload_n 0, 0, 0, 0, 0, 4),
  (4, .getfield 58, 0, 0, 4, 1, 7),
  (7, .if_icmp .ge 41, 0, 0, 48, 0, 10),
  (10, .aload_n 0, 0, 0, 0, 0, 11),
  (11, .getfield 29, 0, 0, 4, 11, 14),
  (14, .iload_n 2, 0, 0, 2, 0, 15),
  (15, .aload_n 0, 0, 0, 0, 0, 16),
  (16, .getfield 7, 0, 0, 4, 5, 19),
  (19, .iload_n 2, 0, 0, 2, 0, 20),
  (20, .iaload, 0, 0, 0, 0, 21),
  (21, .ifCond .ne 19, 0, 0, 40, 0, 24),
  (24, .iload_n 1, 0, 0, 1, 0, 25),
  (25, .bipush 7, 7, 0, 0, 0, 27),
  (27, .aload_n 0, 0, 0, 0, 0, 28),
  (28, .getfield 13, 0, 0, 4, 6, 31),
  (31, .iload_n 2, 0, 0, 2, 0, 32),
  (32, .iaload, 0, 0, 0, 0, 33),
  (33, .isub, 0, 0, 0, 0, 34),
  (34, .ishr, 0, 0, 0, 0, 35),
  (35, .iconst 1, 1, 0, 0, 0, 36),
  (36, .iand, 0, 0, 0, 0, 37),
  (37, .goto 4, 0, 0, 41, 0, 40),
  (40, .iconst 2, 2, 0, 0, 0, 41),
  (41, .iastore, 0, 0, 0, 0, 42),
  (42, .iinc 2 1, 1, 0, 2, 0, 45),
  (45, .goto (-43), 0, 0, 2, 0, 48),
  (48, .iconst 1, 1, 0, 0, 0, 49),
  (49, .istore_n 2, 0, 0, 2, 0, 50),
  (50, .iload_n 2, 0, 0, 2, 0, 51),
  (51, .ifCond .eq 77, 0, 0, 128, 0, 54),
  (54, .iconst 0, 0, 0, 0, 0, 55),
  (55, .istore_n 2, 0, 0, 2, 0, 56),
  (56, .iconst 0, 0, 0, 0, 0, 57),
  (57, .istore_n 3, 0, 0, 3, 0, 58),
  (58, .iload_n 3, 0, 0, 3, 0, 59),
  (59, .aload_n 0, 0, 0, 0, 0, 60),
  (60, .getfield 58, 0, 0, 4, 1, 63),
  (63, .if_icmp .ge 62, 0, 0, 125, 0, 66),
  (66, .aload_n 0, 0, 0, 0, 0, 67),
  (67, .getfield 7, 0, 0, 4, 5, 70),
  (70, .iload_n 3, 0, 0, 3, 0, 71),
  (71, .iaload, 0, 0, 0, 0, 72),
  (72, .ifCond .eq 47, 0, 0, 119, 0, 75),
  (75, .aload_n 0, 0, 0, 0, 0, 76),
  (76, .getfield 29, 0, 0, 4, 11, 79),
  (79, .iload_n 3, 0, 0, 3, 0, 80),
  (80, .iaload, 0, 0, 0, 0, 81),
  (81, .iconst 2, 2, 0, 0, 0, 82),
  (82, .if_icmp .eq 6, 0, 0, 88, 0, 85),
  (85, .goto 34, 0, 0, 119, 0, 88),
  (88, .aload_n 0, 0, 0, 0, 0, 89),
  (89, .getfield 29, 0, 0, 4, 11, 92),
  (92, .iload_n 3, 0, 0, 3, 0, 93),
  (93, .aload_n 0, 0, 0, 0, 0, 94),
  (94, .iload_n 3, 0, 0, 3, 0, 95),
  (95, .invokevirtual 84, 0, 0, 0, 0, 98),
  (98, .iastore, 0, 0, 0, 0, 99),
  (99, .iload_n 2, 0, 0, 2, 0, 100),
  (100, .ifCond .ne 13, 0, 0, 113, 0, 103),
  (103, .aload_n 0, 0, 0, 0, 0, 104),
  (104, .getfield 29, 0, 0, 4, 11, 107),
  (107, .iload_n 3, 0, 0, 3, 0, 108),
  (108, .iaload, 0, 0, 0, 0, 109),
  (109, .iconst 2, 2, 0, 0, 0, 110),
  (110, .if_icmp .eq 7, 0, 0, 117, 0, 113),
  (113, .iconst 1, 1, 0, 0, 0, 114),
  (114, .goto 4, 0, 0, 118, 0, 117),
  (117, .iconst 0, 0, 0, 0, 0, 118),
  (118, .istore_n 2, 0, 0, 2, 0, 119),
  (119, .iinc 3 1, 1, 0, 3, 0, 122),
  (122, .goto (-64), 0, 0, 58, 0, 125),
  (125, .goto (-75), 0, 0, 50, 0, 128),
  (128, .return_, 0, 0, 0, 0, 129)]
abbrev v_R_spread : List (Nat × Nat) := [(84, 0)]
abbrev s_R_spread : List (Nat × Nat) := []
abbrev h_R_spread : List (Nat × Nat) := []
abbrev w_R_spread : List (Nat × List Nat) := []
abbrev x_R_spread : List String := []
theorem k_R_spread : t_R_spread.all (cx_dec true prog_6_method_10_code none 4 g_R p_R l_R v_R_spread s_R_spread h_R_spread w_R_spread) = true := by decide +kernel
abbrev m_R_spread : MethodName := ⟨"CycleCutterModel", "spread", "(I)V"⟩
-- calls of R_spread: 0 = CycleCutterModel.made(I)I
def t_R_value : List (Nat × cx_E) := [(0, .aload_n 0, 0, 0, 0, 0, 1),
  (1, .aload_n 0, 0, 0, 0, 0, 2),
  (2, .iload_n 1, 0, 0, 1, 0, 3),
  (3, .invokevirtual 68, 0, 0, 0, 0, 6),
  (6, .ifCond .eq 14, 0, 0, 20, 0, 9),
  (9, .iload_n 2, 0, 0, 2, 0, 10),
  (10, .ifCond .lt 10, 0, 0, 20, 0, 13),
  (13, .iload_n 2, 0, 0, 2, 0, 14),
  (14, .sipush 255, 255, 0, 0, 0, 17),
  (17, .if_icmp .le 7, 0, 0, 24, 0, 20),
  (20, .iconst 1, 1, 0, 0, 0, 21),
  (21, .goto 4, 0, 0, 25, 0, 24),
  (24, .iconst 0, 0, 0, 0, 0, 25),
  (25, .iconst 0, 0, 0, 0, 0, 26),
  (26, .invokevirtual 61, 0, 0, 1, 0, 29),
  (29, .ifCond .eq 5, 0, 0, 34, 0, 32),
  (32, .iconst 0, 0, 0, 0, 0, 33),
  (33, .ireturn, 0, 0, 0, 0, 34),
  (34, .aload_n 0, 0, 0, 0, 0, 35),
  (35, .iload_n 2, 0, 0, 2, 0, 36),
  (36, .invokevirtual 88, 0, 0, 2, 0, 39),
  (39, .aload_n 0, 0, 0, 0, 0, 40),
  (40, .getfield 29, 0, 0, 4, 11, 43),
  (43, .iload_n 1, 0, 0, 1, 0, 44),
  (44, .iaload, 0, 0, 0, 0, 45),
  (45, .ireturn, 0, 0, 0, 0, 46)]
abbrev v_R_value : List (Nat × Nat) := [(61, 1), (68, 0), (88, 2)]
abbrev s_R_value : List (Nat × Nat) := []
abbrev h_R_value : List (Nat × Nat) := []
abbrev w_R_value : List (Nat × List Nat) := []
abbrev x_R_value : List String := []
theorem k_R_value : t_R_value.all (cx_dec true prog_6_method_11_code (some (.int)) 3 g_R p_R l_R v_R_value s_R_value h_R_value w_R_value) = true := by decide +kernel
abbrev m_R_value : MethodName := ⟨"CycleCutterModel", "value", "(II)I"⟩
-- calls of R_value: 0 = CycleCutterModel.isGate(I)Z, 1 = CycleCutterModel.fails(ZZ)Z, 2 = CycleCutterModel.spread(I)V
def t_R_truth : List (Nat × cx_E) := [(0, .aload_n 0, 0, 0, 0, 0, 1),
  (1, .getfield 32, 0, 0, 4, 14, 4),
  (4, .iconst 4, 4, 0, 0, 0, 5),
  (5, .iload_n 1, 0, 0, 1, 0, 6),
  (6, .imul, 0, 0, 0, 0, 7),
  (7, .iload_n 2, 0, 0, 2, 0, 8),
  (8, .bipush 6, 6, 0, 0, 0, 10),
  (10, .ishr, 0, 0, 0, 0, 11),
  (11, .iadd, 0, 0, 0, 0, 12),
  (12, .laload, 0, 0, 0, 0, 13),
  (13, .iload_n 2, 0, 0, 2, 0, 14),
  (14, .bipush 63, 63, 0, 0, 0, 16),
  (16, .iand, 0, 0, 0, 0, 17),
  (17, .lshr, 0, 0, 0, 0, 18),
  (18, .lconst 1, 0, 1, 0, 0, 19),
  (19, .land, 0, 0, 0, 0, 20),
  (20, .lconst 1, 0, 1, 0, 0, 21),
  (21, .lcmp, 0, 0, 0, 0, 22),
  (22, .ifCond .ne 7, 0, 0, 29, 0, 25),
  (25, .iconst 1, 1, 0, 0, 0, 26),
  (26, .goto 4, 0, 0, 30, 0, 29),
  (29, .iconst 0, 0, 0, 0, 0, 30),
  (30, .ireturn, 1, 0, 0, 0, 31)]
abbrev v_R_truth : List (Nat × Nat) := []
abbrev s_R_truth : List (Nat × Nat) := []
abbrev h_R_truth : List (Nat × Nat) := []
abbrev w_R_truth : List (Nat × List Nat) := []
abbrev x_R_truth : List String := []
theorem k_R_truth : t_R_truth.all (cx_dec true prog_6_method_12_code (some (.boolean)) 3 g_R p_R l_R v_R_truth s_R_truth h_R_truth w_R_truth) = true := by decide +kernel
abbrev m_R_truth : MethodName := ⟨"CycleCutterModel", "truth", "(II)Z"⟩
-- calls of R_truth: 
def t_R_set : List (Nat × cx_E) := [(0, .aload_n 0, 0, 0, 0, 0, 1),
  (1, .getfield 32, 0, 0, 4, 14, 4),
  (4, .iconst 4, 4, 0, 0, 0, 5),
  (5, .iload_n 1, 0, 0, 1, 0, 6),
  (6, .imul, 0, 0, 0, 0, 7),
  (7, .iload_n 2, 0, 0, 2, 0, 8),
  (8, .bipush 6, 6, 0, 0, 0, 10),
  (10, .ishr, 0, 0, 0, 0, 11),
  (11, .iadd, 0, 0, 0, 0, 12),
  (12, .dup2, 0, 0, 0, 0, 13),
  (13, .laload, 0, 0, 0, 0, 14),
  (14, .lconst 1, 0, 1, 0, 0, 15),
  (15, .iload_n 2, 0, 0, 2, 0, 16),
  (16, .bipush 63, 63, 0, 0, 0, 18),
  (18, .iand, 0, 0, 0, 0, 19),
  (19, .lshl, 0, 0, 0, 0, 20),
  (20, .lor, 0, 0, 0, 0, 21),
  (21, .lastore, 0, 0, 0, 0, 22),
  (22, .return_, 0, 0, 0, 0, 23)]
abbrev v_R_set : List (Nat × Nat) := []
abbrev s_R_set : List (Nat × Nat) := []
abbrev h_R_set : List (Nat × Nat) := []
abbrev w_R_set : List (Nat × List Nat) := []
abbrev x_R_set : List String := []
theorem k_R_set : t_R_set.all (cx_dec true prog_6_method_13_code none 3 g_R p_R l_R v_R_set s_R_set h_R_set w_R_set) = true := by decide +kernel
abbrev m_R_set : MethodName := ⟨"CycleCutterModel", "set", "(II)V"⟩
-- calls of R_set: 
def t_R_empty : List (Nat × cx_E) := [(0, .iconst 0, 0, 0, 0, 0, 1),
  (1, .istore_n 2, 0, 0, 2, 0, 2),
  (2, .iload_n 2, 0, 0, 2, 0, 3),
  (3, .iconst 4, 4, 0, 0, 0, 4),
  (4, .if_icmp .ge 20, 0, 0, 24, 0, 7),
  (7, .aload_n 0, 0, 0, 0, 0, 8),
  (8, .getfield 32, 0, 0, 4, 14, 11),
  (11, .iconst 4, 4, 0, 0, 0, 12),
  (12, .iload_n 1, 0, 0, 1, 0, 13),
  (13, .imul, 0, 0, 0, 0, 14),
  (14, .iload_n 2, 0, 0, 2, 0, 15),
  (15, .iadd, 0, 0, 0, 0, 16),
  (16, .lconst 0, 0, 0, 0, 0, 17),
  (17, .lastore, 0, 0, 0, 0, 18),
  (18, .iinc 2 1, 1, 0, 2, 0, 21),
  (21, .goto (-19), 0, 0, 2, 0, 24),
  (24, .return_, 0, 0, 0, 0, 25)]
abbrev v_R_empty : List (Nat × Nat) := []
abbrev s_R_empty : List (Nat × Nat) := []
abbrev h_R_empty : List (Nat × Nat) := []
abbrev w_R_empty : List (Nat × List Nat) := []
abbrev x_R_empty : List String := []
theorem k_R_empty : t_R_empty.all (cx_dec true prog_6_method_14_code none 3 g_R p_R l_R v_R_empty s_R_empty h_R_empty w_R_empty) = true := by decide +kernel
abbrev m_R_empty : MethodName := ⟨"CycleCutterModel", "empty", "(I)V"⟩
-- calls of R_empty: 
def t_R_depends : List (Nat × cx_E) := [(0, .iconst 0, 0, 0, 0, 0, 1),
  (1, .istore_n 2, 0, 0, 2, 0, 2),
  (2, .iload_n 2, 0, 0, 2, 0, 3),
  (3, .bipush 8, 8, 0, 0, 0, 5),
  (5, .if_icmp .ge 47, 0, 0, 52, 0, 8),
  (8, .iconst 0, 0, 0, 0, 0, 9),
  (9, .istore_n 3, 0, 0, 3, 0, 10),
  (10, .iload_n 3, 0, 0, 3, 0, 11),
  (11, .sipush 256, 256, 0, 0, 0, 14),
  (14, .if_icmp .ge 32, 0, 0, 46, 0, 17),
  (17, .aload_n 0, 0, 0, 0, 0, 18),
  (18, .iload_n 1, 0, 0, 1, 0, 19),
  (19, .iload_n 3, 0, 0, 3, 0, 20),
  (20, .invokevirtual 92, 0, 0, 0, 0, 23),
  (23, .aload_n 0, 0, 0, 0, 0, 24),
  (24, .iload_n 1, 0, 0, 1, 0, 25),
  (25, .iload_n 3, 0, 0, 3, 0, 26),
  (26, .sipush 128, 128, 0, 0, 0, 29),
  (29, .iload_n 2, 0, 0, 2, 0, 30),
  (30, .ishr, 0, 0, 0, 0, 31),
  (31, .ixor, 0, 0, 0, 0, 32),
  (32, .invokevirtual 92, 0, 0, 0, 0, 35),
  (35, .if_icmp .eq 5, 0, 0, 40, 0, 38),
  (38, .iload_n 2, 0, 0, 2, 0, 39),
  (39, .ireturn, 0, 0, 0, 0, 40),
  (40, .iinc 3 1, 1, 0, 3, 0, 43),
  (43, .goto (-33), 0, 0, 10, 0, 46),
  (46, .iinc 2 1, 1, 0, 2, 0, 49),
  (49, .goto (-47), 0, 0, 2, 0, 52),
  (52, .bipush 8, 8, 0, 0, 0, 54),
  (54, .ireturn, 0, 0, 0, 0, 55)]
abbrev v_R_depends : List (Nat × Nat) := [(92, 0)]
abbrev s_R_depends : List (Nat × Nat) := []
abbrev h_R_depends : List (Nat × Nat) := []
abbrev w_R_depends : List (Nat × List Nat) := []
abbrev x_R_depends : List String := []
theorem k_R_depends : t_R_depends.all (cx_dec true prog_6_method_15_code (some (.int)) 4 g_R p_R l_R v_R_depends s_R_depends h_R_depends w_R_depends) = true := by decide +kernel
abbrev m_R_depends : MethodName := ⟨"CycleCutterModel", "depends", "(I)I"⟩
-- calls of R_depends: 0 = CycleCutterModel.truth(II)Z
def t_R_same : List (Nat × cx_E) := [(0, .iconst 1, 1, 0, 0, 0, 1),
  (1, .istore_n 3, 0, 0, 3, 0, 2),
  (2, .iconst 0, 0, 0, 0, 0, 3),
  (3, .istore 4, 0, 0, 4, 0, 5),
  (5, .iload 4, 0, 0, 4, 0, 7),
  (7, .iconst 4, 4, 0, 0, 0, 8),
  (8, .if_icmp .ge 45, 0, 0, 53, 0, 11),
  (11, .iload_n 3, 0, 0, 3, 0, 12),
  (12, .ifCond .eq 33, 0, 0, 45, 0, 15),
  (15, .aload_n 0, 0, 0, 0, 0, 16),
  (16, .getfield 32, 0, 0, 4, 14, 19),
  (19, .iconst 4, 4, 0, 0, 0, 20),
  (20, .iload_n 1, 0, 0, 1, 0, 21),
  (21, .imul, 0, 0, 0, 0, 22),
  (22, .iload 4, 0, 0, 4, 0, 24),
  (24, .iadd, 0, 0, 0, 0, 25),
  (25, .laload, 0, 0, 0, 0, 26),
  (26, .aload_n 0, 0, 0, 0, 0, 27),
  (27, .getfield 32, 0, 0, 4, 14, 30),
  (30, .iconst 4, 4, 0, 0, 0, 31),
  (31, .iload_n 2, 0, 0, 2, 0, 32),
  (32, .imul, 0, 0, 0, 0, 33),
  (33, .iload 4, 0, 0, 4, 0, 35),
  (35, .iadd, 0, 0, 0, 0, 36),
  (36, .laload, 0, 0, 0, 0, 37),
  (37, .lcmp, 0, 0, 0, 0, 38),
  (38, .ifCond .ne 7, 0, 0, 45, 0, 41),
  (41, .iconst 1, 1, 0, 0, 0, 42),
  (42, .goto 4, 0, 0, 46, 0, 45),
  (45, .iconst 0, 0, 0, 0, 0, 46),
  (46, .istore_n 3, 0, 0, 3, 0, 47),
  (47, .iinc 4 1, 1, 0, 4, 0, 50),
  (50, .goto (-45), 0, 0, 5, 0, 53),
  (53, .iload_n 3, 0, 0, 3, 0, 54),
  (54, .ireturn, 1, 0, 0, 0, 55)]
abbrev v_R_same : List (Nat × Nat) := []
abbrev s_R_same : List (Nat × Nat) := []
abbrev h_R_same : List (Nat × Nat) := []
abbrev w_R_same : List (Nat × List Nat) := []
abbrev x_R_same : List String := []
theorem k_R_same : t_R_same.all (cx_dec true prog_6_method_16_code (some (.boolean)) 5 g_R p_R l_R v_R_same s_R_same h_R_same w_R_same) = true := by decide +kernel
abbrev m_R_same : MethodName := ⟨"CycleCutterModel", "same", "(II)Z"⟩
-- calls of R_same: 
def t_R_fix : List (Nat × cx_E) := [(0, .aload_n 0, 0, 0, 0, 0, 1),
  (1, .bipush 20, 20, 0, 0, 0, 3),
  (3, .aload_n 0, 0, 0, 0, 0, 4),
  (4, .getfield 81, 0, 0, 4, 13, 7),
  (7, .iadd, 0, 0, 0, 0, 8),
  (8, .invokevirtual 96, 0, 0, 0, 0, 11),
  (11, .iconst 0, 0, 0, 0, 0, 12),
  (12, .istore 4, 0, 0, 4, 0, 14),
  (14, .iload 4, 0, 0, 4, 0, 16),
  (16, .sipush 256, 256, 0, 0, 0, 19),
  (19, .if_icmp .ge 60, 0, 0, 79, 0, 22),
  (22, .iload_n 3, 0, 0, 3, 0, 23),
  (23, .iconst 1, 1, 0, 0, 0, 24),
  (24, .if_icmp .ne 14, 0, 0, 38, 0, 27),
  (27, .iload 4, 0, 0, 4, 0, 29),
  (29, .sipush 128, 128, 0, 0, 0, 32),
  (32, .iload_n 2, 0, 0, 2, 0, 33),
  (33, .ishr, 0, 0, 0, 0, 34),
  (34, .ior, 0, 0, 0, 0, 35),
  (35, .goto 13, 0, 0, 48, 0, 38),
  (38, .iload 4, 0, 0, 4, 0, 40),
  (40, .sipush 128, 128, 0, 0, 0, 43),
  (43, .iload_n 2, 0, 0, 2, 0, 44),
  (44, .ishr, 0, 0, 0, 0, 45),
  (45, .iconst (-1), (-1), 0, 0, 0, 46),
  (46, .ixor, 0, 0, 0, 0, 47),
  (47, .iand, 0, 0, 0, 0, 48),
  (48, .istore 5, 0, 0, 5, 0, 50),
  (50, .aload_n 0, 0, 0, 0, 0, 51),
  (51, .iload_n 1, 0, 0, 1, 0, 52),
  (52, .iload 5, 0, 0, 5, 0, 54),
  (54, .invokevirtual 92, 0, 0, 1, 0, 57),
  (57, .ifCond .eq 16, 0, 0, 73, 0, 60),
  (60, .aload_n 0, 0, 0, 0, 0, 61),
  (61, .bipush 20, 20, 0, 0, 0, 63),
  (63, .aload_n 0, 0, 0, 0, 0, 64),
  (64, .getfield 81, 0, 0, 4, 13, 67),
  (67, .iadd, 0, 0, 0, 0, 68),
  (68, .iload 4, 0, 0, 4, 0, 70),
  (70, .invokevirtual 99, 0, 0, 2, 0, 73),
  (73, .iinc 4 1, 1, 0, 4, 0, 76),
  (76, .goto (-62), 0, 0, 14, 0, 79),
  (79, .return_, 0, 0, 0, 0, 80)]
abbrev v_R_fix : List (Nat × Nat) := [(92, 1), (96, 0), (99, 2)]
abbrev s_R_fix : List (Nat × Nat) := []
abbrev h_R_fix : List (Nat × Nat) := []
abbrev w_R_fix : List (Nat × List Nat) := []
abbrev x_R_fix : List String := []
theorem k_R_fix : t_R_fix.all (cx_dec true prog_6_method_17_code none 6 g_R p_R l_R v_R_fix s_R_fix h_R_fix w_R_fix) = true := by decide +kernel
abbrev m_R_fix : MethodName := ⟨"CycleCutterModel", "fix", "(III)V"⟩
-- calls of R_fix: 0 = CycleCutterModel.empty(I)V, 1 = CycleCutterModel.truth(II)Z, 2 = CycleCutterModel.set(II)V
def t_R_number : List (Nat × cx_E) := [(0, .bipush 20, 20, 0, 0, 0, 2),
  (2, .aload_n 0, 0, 0, 0, 0, 3),
  (3, .getfield 81, 0, 0, 4, 13, 6),
  (6, .iadd, 0, 0, 0, 0, 7),
  (7, .istore_n 1, 0, 0, 1, 0, 8),
  (8, .aload_n 0, 0, 0, 0, 0, 9),
  (9, .iload_n 1, 0, 0, 1, 0, 10),
  (10, .invokevirtual 103, 0, 0, 0, 0, 13),
  (13, .istore_n 2, 0, 0, 2, 0, 14),
  (14, .iload_n 2, 0, 0, 2, 0, 15),
  (15, .bipush 8, 8, 0, 0, 0, 17),
  (17, .if_icmp .ne 5, 0, 0, 22, 0, 20),
  (20, .iconst (-1), (-1), 0, 0, 0, 21),
  (21, .ireturn, 0, 0, 0, 0, 22),
  (22, .iconst 0, 0, 0, 0, 0, 23),
  (23, .istore_n 3, 0, 0, 3, 0, 24),
  (24, .iload_n 3, 0, 0, 3, 0, 25),
  (25, .aload_n 0, 0, 0, 0, 0, 26),
  (26, .getfield 81, 0, 0, 4, 13, 29),
  (29, .if_icmp .ge 23, 0, 0, 52, 0, 32),
  (32, .aload_n 0, 0, 0, 0, 0, 33),
  (33, .bipush 20, 20, 0, 0, 0, 35),
  (35, .iload_n 3, 0, 0, 3, 0, 36),
  (36, .iadd, 0, 0, 0, 0, 37),
  (37, .iload_n 1, 0, 0, 1, 0, 38),
  (38, .invokevirtual 106, 0, 0, 1, 0, 41),
  (41, .ifCond .eq 5, 0, 0, 46, 0, 44),
  (44, .iload_n 3, 0, 0, 3, 0, 45),
  (45, .ireturn, 0, 0, 0, 0, 46),
  (46, .iinc 3 1, 1, 0, 3, 0, 49),
  (49, .goto (-25), 0, 0, 24, 0, 52),
  (52, .aload_n 0, 0, 0, 0, 0, 53),
  (53, .getfield 36, 0, 0, 4, 15, 56),
  (56, .aload_n 0, 0, 0, 0, 0, 57),
  (57, .getfield 81, 0, 0, 4, 13, 60),
  (60, .iload_n 2, 0, 0, 2, 0, 61),
  (61, .iastore, 0, 0, 0, 0, 62),
  (62, .aload_n 0, 0, 0, 0, 0, 63),
  (63, .dup, 0, 0, 0, 0, 64),
  (64, .getfield 81, 0, 0, 4, 13, 67),
  (67, .iconst 1, 1, 0, 0, 0, 68),
  (68, .iadd, 0, 0, 0, 0, 69),
  (69, .putfield 81, 0, 0, 4, 13, 72),
  (72, .aload_n 0, 0, 0, 0, 0, 73),
  (73, .getfield 81, 0, 0, 4, 13, 76),
  (76, .iconst 1, 1, 0, 0, 0, 77),
  (77, .isub, 0, 0, 0, 0, 78),
  (78, .ireturn, 0, 0, 0, 0, 79)]
abbrev v_R_number : List (Nat × Nat) := [(103, 0), (106, 1)]
abbrev s_R_number : List (Nat × Nat) := []
abbrev h_R_number : List (Nat × Nat) := []
abbrev w_R_number : List (Nat × List Nat) := []
abbrev x_R_number : List String := []
theorem k_R_number : t_R_number.all (cx_dec true prog_6_method_18_code (some (.int)) 4 g_R p_R l_R v_R_number s_R_number h_R_number w_R_number) = true := by decide +kernel
abbrev m_R_number : MethodName := ⟨"CycleCutterModel", "number", "()I"⟩
-- calls of R_number: 0 = CycleCutterModel.depends(I)I, 1 = CycleCutterModel.same(II)Z
def t_R_lay : List (Nat × cx_E) := [(0, .aload_n 0, 0, 0, 0, 0, 1),
  (1, .iconst 0, 0, 0, 0, 0, 2),
  (2, .putfield 54, 0, 0, 4, 0, 5),
  (5, .aload_n 0, 0, 0, 0, 0, 6),
  (6, .iconst 0, 0, 0, 0, 0, 7),
  (7, .putfield 81, 0, 0, 4, 13, 10),
  (10, .aload_n 0, 0, 0, 0, 0, 11),
  (11, .aload_n 0, 0, 0, 0, 0, 12),
  (12, .getfield 75, 0, 0, 4, 4, 15),
  (15, .putfield 78, 0, 0, 4, 12, 18),
  (18, .iconst 0, 0, 0, 0, 0, 19),
  (19, .istore_n 1, 0, 0, 1, 0, 20),
  (20, .iload_n 1, 0, 0, 1, 0, 21),
  (21, .bipush 20, 20, 0, 0, 0, 23),
  (23, .if_icmp .ge 14, 0, 0, 37, 0, 26),
  (26, .aload_n 0, 0, 0, 0, 0, 27),
  (27, .iload_n 1, 0, 0, 1, 0, 28),
  (28, .invokevirtual 96, 0, 0, 0, 0, 31),
  (31, .iinc 1 1, 1, 0, 1, 0, 34),
  (34, .goto (-14), 0, 0, 20, 0, 37),
  (37, .iconst 0, 0, 0, 0, 0, 38),
  (38, .istore_n 1, 0, 0, 1, 0, 39),
  (39, .iload_n 1, 0, 0, 1, 0, 40),
  (40, .sipush 256, 256, 0, 0, 0, 43),
  (43, .if_icmp .ge 68, 0, 0, 111, 0, 46),
  (46, .aload_n 0, 0, 0, 0, 0, 47),
  (47, .iload_n 1, 0, 0, 1, 0, 48),
  (48, .invokevirtual 88, 0, 0, 1, 0, 51),
  (51, .iconst 0, 0, 0, 0, 0, 52),
  (52, .istore_n 2, 0, 0, 2, 0, 53),
  (53, .iload_n 2, 0, 0, 2, 0, 54),
  (54, .aload_n 0, 0, 0, 0, 0, 55),
  (55, .getfield 75, 0, 0, 4, 4, 58),
  (58, .if_icmp .ge 47, 0, 0, 105, 0, 61),
  (61, .aload_n 0, 0, 0, 0, 0, 62),
  (62, .getfield 29, 0, 0, 4, 11, 65),
  (65, .aload_n 0, 0, 0, 0, 0, 66),
  (66, .getfield 22, 0, 0, 4, 9, 69),
  (69, .iload_n 2, 0, 0, 2, 0, 70),
  (70, .iaload, 0, 0, 0, 0, 71),
  (71, .iaload, 0, 0, 0, 0, 72),
  (72, .istore_n 3, 0, 0, 3, 0, 73),
  (73, .iload_n 3, 0, 0, 3, 0, 74),
  (74, .iconst 2, 2, 0, 0, 0, 75),
  (75, .if_icmp .eq 24, 0, 0, 99, 0, 78),
  (78, .aload_n 0, 0, 0, 0, 0, 79),
  (79, .iload_n 3, 0, 0, 3, 0, 80),
  (80, .iconst 1, 1, 0, 0, 0, 81),
  (81, .if_icmp .ne 9, 0, 0, 90, 0, 84),
  (84, .iconst 2, 2, 0, 0, 0, 85),
  (85, .iload_n 2, 0, 0, 2, 0, 86),
  (86, .imul, 0, 0, 0, 0, 87),
  (87, .goto 8, 0, 0, 95, 0, 90),
  (90, .iconst 2, 2, 0, 0, 0, 91),
  (91, .iload_n 2, 0, 0, 2, 0, 92),
  (92, .imul, 0, 0, 0, 0, 93),
  (93, .iconst 1, 1, 0, 0, 0, 94),
  (94, .iadd, 0, 0, 0, 0, 95),
  (95, .iload_n 1, 0, 0, 1, 0, 96),
  (96, .invokevirtual 99, 0, 0, 2, 0, 99),
  (99, .iinc 2 1, 1, 0, 2, 0, 102),
  (102, .goto (-49), 0, 0, 53, 0, 105),
  (105, .iinc 1 1, 1, 0, 1, 0, 108),
  (108, .goto (-69), 0, 0, 39, 0, 111),
  (111, .iconst 0, 0, 0, 0, 0, 112),
  (112, .istore_n 1, 0, 0, 1, 0, 113),
  (113, .iload_n 1, 0, 0, 1, 0, 114),
  (114, .iconst 2, 2, 0, 0, 0, 115),
  (115, .aload_n 0, 0, 0, 0, 0, 116),
  (116, .getfield 75, 0, 0, 4, 4, 119),
  (119, .imul, 0, 0, 0, 0, 120),
  (120, .if_icmp .ge 58, 0, 0, 178, 0, 123),
  (123, .iconst 0, 0, 0, 0, 0, 124),
  (124, .istore_n 2, 0, 0, 2, 0, 125),
  (125, .iload_n 2, 0, 0, 2, 0, 126),
  (126, .iconst 4, 4, 0, 0, 0, 127),
  (127, .if_icmp .ge 35, 0, 0, 162, 0, 130),
  (130, .aload_n 0, 0, 0, 0, 0, 131),
  (131, .getfield 32, 0, 0, 4, 14, 134),
  (134, .bipush 80, 80, 0, 0, 0, 136),
  (136, .iconst 4, 4, 0, 0, 0, 137),
  (137, .aload_n 0, 0, 0, 0, 0, 138),
  (138, .getfield 81, 0, 0, 4, 13, 141),
  (141, .imul, 0, 0, 0, 0, 142),
  (142, .iadd, 0, 0, 0, 0, 143),
  (143, .iload_n 2, 0, 0, 2, 0, 144),
  (144, .iadd, 0, 0, 0, 0, 145),
  (145, .aload_n 0, 0, 0, 0, 0, 146),
  (146, .getfield 32, 0, 0, 4, 14, 149),
  (149, .iconst 4, 4, 0, 0, 0, 150),
  (150, .iload_n 1, 0, 0, 1, 0, 151),
  (151, .imul, 0, 0, 0, 0, 152),
  (152, .iload_n 2, 0, 0, 2, 0, 153),
  (153, .iadd, 0, 0, 0, 0, 154),
  (154, .laload, 0, 0, 0, 0, 155),
  (155, .lastore, 0, 0, 0, 0, 156),
  (156, .iinc 2 1, 1, 0, 2, 0, 159),
  (159, .goto (-34), 0, 0, 125, 0, 162),
  (162, .aload_n 0, 0, 0, 0, 0, 163),
  (163, .getfield 48, 0, 0, 4, 19, 166),
  (166, .iload_n 1, 0, 0, 1, 0, 167),
  (167, .aload_n 0, 0, 0, 0, 0, 168),
  (168, .invokevirtual 109, 0, 0, 3, 0, 171),
  (171, .iastore, 0, 0, 0, 0, 172),
  (172, .iinc 1 1, 1, 0, 1, 0, 175),
  (175, .goto (-62), 0, 0, 113, 0, 178),
  (178, .iconst 0, 0, 0, 0, 0, 179),
  (179, .istore_n 1, 0, 0, 1, 0, 180),
  (180, .iload_n 1, 0, 0, 1, 0, 181),
  (181, .aload_n 0, 0, 0, 0, 0, 182),
  (182, .getfield 81, 0, 0, 4, 13, 185),
  (185, .if_icmp .ge 59, 0, 0, 244, 0, 188),
  (188, .aload_n 0, 0, 0, 0, 0, 189),
  (189, .bipush 20, 20, 0, 0, 0, 191),
  (191, .iload_n 1, 0, 0, 1, 0, 192),
  (192, .iadd, 0, 0, 0, 0, 193),
  (193, .aload_n 0, 0, 0, 0, 0, 194),
  (194, .getfield 36, 0, 0, 4, 15, 197),
  (197, .iload_n 1, 0, 0, 1, 0, 198),
  (198, .iaload, 0, 0, 0, 0, 199),
  (199, .iconst 0, 0, 0, 0, 0, 200),
  (200, .invokevirtual 113, 0, 0, 4, 0, 203),
  (203, .aload_n 0, 0, 0, 0, 0, 204),
  (204, .getfield 39, 0, 0, 4, 16, 207),
  (207, .iload_n 1, 0, 0, 1, 0, 208),
  (208, .aload_n 0, 0, 0, 0, 0, 209),
  (209, .invokevirtual 109, 0, 0, 3, 0, 212),
  (212, .iastore, 0, 0, 0, 0, 213),
  (213, .aload_n 0, 0, 0, 0, 0, 214),
  (214, .bipush 20, 20, 0, 0, 0, 216),
  (216, .iload_n 1, 0, 0, 1, 0, 217),
  (217, .iadd, 0, 0, 0, 0, 218),
  (218, .aload_n 0, 0, 0, 0, 0, 219),
  (219, .getfield 36, 0, 0, 4, 15, 222),
  (222, .iload_n 1, 0, 0, 1, 0, 223),
  (223, .iaload, 0, 0, 0, 0, 224),
  (224, .iconst 1, 1, 0, 0, 0, 225),
  (225, .invokevirtual 113, 0, 0, 4, 0, 228),
  (228, .aload_n 0, 0, 0, 0, 0, 229),
  (229, .getfield 42, 0, 0, 4, 17, 232),
  (232, .iload_n 1, 0, 0, 1, 0, 233),
  (233, .aload_n 0, 0, 0, 0, 0, 234),
  (234, .invokevirtual 109, 0, 0, 3, 0, 237),
  (237, .iastore, 0, 0, 0, 0, 238),
  (238, .iinc 1 1, 1, 0, 1, 0, 241),
  (241, .goto (-61), 0, 0, 180, 0, 244),
  (244, .bipush 7, 7, 0, 0, 0, 246),
  (246, .istore_n 1, 0, 0, 1, 0, 247),
  (247, .iload_n 1, 0, 0, 1, 0, 248),
  (248, .ifCond .lt 108, 0, 0, 356, 0, 251),
  (251, .iconst 0, 0, 0, 0, 0, 252),
  (252, .istore_n 2, 0, 0, 2, 0, 253),
  (253, .iload_n 2, 0, 0, 2, 0, 254),
  (254, .aload_n 0, 0, 0, 0, 0, 255),
  (255, .getfield 81, 0, 0, 4, 13, 258),
  (258, .if_icmp .ge 92, 0, 0, 350, 0, 261),
  (261, .aload_n 0, 0, 0, 0, 0, 262),
  (262, .getfield 39, 0, 0, 4, 16, 265),
  (265, .iload_n 2, 0, 0, 2, 0, 266),
  (266, .iaload, 0, 0, 0, 0, 267),
  (267, .iconst (-1), (-1), 0, 0, 0, 268),
  (268, .if_icmp .ne 7, 0, 0, 275, 0, 271),
  (271, .iconst 0, 0, 0, 0, 0, 272),
  (272, .goto 14, 0, 0, 286, 0, 275),
  (275, .aload_n 0, 0, 0, 0, 0, 276),
  (276, .getfield 45, 0, 0, 4, 18, 279),
  (279, .aload_n 0, 0, 0, 0, 0, 280),
  (280, .getfield 39, 0, 0, 4, 16, 283),
  (283, .iload_n 2, 0, 0, 2, 0, 284),
  (284, .iaload, 0, 0, 0, 0, 285),
  (285, .iaload, 0, 0, 0, 0, 286),
  (286, .istore_n 3, 0, 0, 3, 0, 287),
  (287, .aload_n 0, 0, 0, 0, 0, 288),
  (288, .getfield 42, 0, 0, 4, 17, 291),
  (291, .iload_n 2, 0, 0, 2, 0, 292),
  (292, .iaload, 0, 0, 0, 0, 293),
  (293, .iconst (-1), (-1), 0, 0, 0, 294),
  (294, .if_icmp .ne 7, 0, 0, 301, 0, 297),
  (297, .iconst 0, 0, 0, 0, 0, 298),
  (298, .goto 14, 0, 0, 312, 0, 301),
  (301, .aload_n 0, 0, 0, 0, 0, 302),
  (302, .getfield 45, 0, 0, 4, 18, 305),
  (305, .aload_n 0, 0, 0, 0, 0, 306),
  (306, .getfield 42, 0, 0, 4, 17, 309),
  (309, .iload_n 2, 0, 0, 2, 0, 310),
  (310, .iaload, 0, 0, 0, 0, 311),
  (311, .iaload, 0, 0, 0, 0, 312),
  (312, .istore 4, 0, 0, 4, 0, 314),
  (314, .aload_n 0, 0, 0, 0, 0, 315),
  (315, .getfield 36, 0, 0, 4, 15, 318),
  (318, .iload_n 2, 0, 0, 2, 0, 319),
  (319, .iaload, 0, 0, 0, 0, 320),
  (320, .iload_n 1, 0, 0, 1, 0, 321),
  (321, .if_icmp .ne 23, 0, 0, 344, 0, 324),
  (324, .aload_n 0, 0, 0, 0, 0, 325),
  (325, .getfield 45, 0, 0, 4, 18, 328),
  (328, .iload_n 2, 0, 0, 2, 0, 329),
  (329, .iconst 1, 1, 0, 0, 0, 330),
  (330, .iload_n 3, 0, 0, 3, 0, 331),
  (331, .iload 4, 0, 0, 4, 0, 333),
  (333, .if_icmp .le 7, 0, 0, 340, 0, 336),
  (336, .iload_n 3, 0, 0, 3, 0, 337),
  (337, .goto 5, 0, 0, 342, 0, 340),
  (340, .iload 4, 0, 0, 4, 0, 342),
  (342, .iadd, 0, 0, 0, 0, 343),
  (343, .iastore, 0, 0, 0, 0, 344),
  (344, .iinc 2 1, 1, 0, 2, 0, 347),
  (347, .goto (-94), 0, 0, 253, 0, 350),
  (350, .iinc 1 (-1), (-1), 0, 1, 0, 353),
  (353, .goto (-106), 0, 0, 247, 0, 356),
  (356, .aload_n 0, 0, 0, 0, 0, 357),
  (357, .getfield 81, 0, 0, 4, 13, 360),
  (360, .ireturn, 0, 0, 0, 0, 361)]
abbrev v_R_lay : List (Nat × Nat) := [(88, 1), (96, 0), (99, 2), (109, 3), (113, 4)]
abbrev s_R_lay : List (Nat × Nat) := []
abbrev h_R_lay : List (Nat × Nat) := []
abbrev w_R_lay : List (Nat × List Nat) := []
abbrev x_R_lay : List String := []
theorem k_R_lay : t_R_lay.all (cx_dec true prog_6_method_19_code (some (.int)) 5 g_R p_R l_R v_R_lay s_R_lay h_R_lay w_R_lay) = true := by decide +kernel
abbrev m_R_lay : MethodName := ⟨"CycleCutterModel", "lay", "()I"⟩
-- calls of R_lay: 0 = CycleCutterModel.empty(I)V, 1 = CycleCutterModel.spread(I)V, 2 = CycleCutterModel.set(II)V, 3 = CycleCutterModel.number()I, 4 = CycleCutterModel.fix(III)V
def t_R_refuses : List (Nat × cx_E) := [(0, .aload_n 0, 0, 0, 0, 0, 1),
  (1, .iload_n 1, 0, 0, 1, 0, 2),
  (2, .ifCond .lt 22, 0, 0, 24, 0, 5),
  (5, .iload_n 1, 0, 0, 1, 0, 6),
  (6, .aload_n 0, 0, 0, 0, 0, 7),
  (7, .getfield 78, 0, 0, 4, 12, 10),
  (10, .if_icmp .ge 14, 0, 0, 24, 0, 13),
  (13, .iload_n 2, 0, 0, 2, 0, 14),
  (14, .ifCond .lt 10, 0, 0, 24, 0, 17),
  (17, .iload_n 2, 0, 0, 2, 0, 18),
  (18, .sipush 255, 255, 0, 0, 0, 21),
  (21, .if_icmp .le 7, 0, 0, 28, 0, 24),
  (24, .iconst 1, 1, 0, 0, 0, 25),
  (25, .goto 4, 0, 0, 29, 0, 28),
  (28, .iconst 0, 0, 0, 0, 0, 29),
  (29, .iconst 0, 0, 0, 0, 0, 30),
  (30, .invokevirtual 61, 0, 0, 0, 0, 33),
  (33, .ireturn, 1, 0, 0, 0, 34)]
abbrev v_R_refuses : List (Nat × Nat) := [(61, 0)]
abbrev s_R_refuses : List (Nat × Nat) := []
abbrev h_R_refuses : List (Nat × Nat) := []
abbrev w_R_refuses : List (Nat × List Nat) := []
abbrev x_R_refuses : List String := []
theorem k_R_refuses : t_R_refuses.all (cx_dec true prog_6_method_20_code (some (.boolean)) 3 g_R p_R l_R v_R_refuses s_R_refuses h_R_refuses w_R_refuses) = true := by decide +kernel
abbrev m_R_refuses : MethodName := ⟨"CycleCutterModel", "refuses", "(II)Z"⟩
-- calls of R_refuses: 0 = CycleCutterModel.fails(ZZ)Z
def t_R_run : List (Nat × cx_E) := [(0, .aload_n 0, 0, 0, 0, 0, 1),
  (1, .iload_n 1, 0, 0, 1, 0, 2),
  (2, .iload_n 2, 0, 0, 2, 0, 3),
  (3, .invokevirtual 117, 0, 0, 0, 0, 6),
  (6, .ifCond .eq 5, 0, 0, 11, 0, 9),
  (9, .iconst 0, 0, 0, 0, 0, 10),
  (10, .ireturn, 0, 0, 0, 0, 11),
  (11, .aload_n 0, 0, 0, 0, 0, 12),
  (12, .iconst 2, 2, 0, 0, 0, 13),
  (13, .iload_n 1, 0, 0, 1, 0, 14),
  (14, .imul, 0, 0, 0, 0, 15),
  (15, .iload_n 2, 0, 0, 2, 0, 16),
  (16, .invokevirtual 92, 0, 0, 1, 0, 19),
  (19, .ifCond .eq 7, 0, 0, 26, 0, 22),
  (22, .iconst 1, 1, 0, 0, 0, 23),
  (23, .goto 21, 0, 0, 44, 0, 26),
  (26, .aload_n 0, 0, 0, 0, 0, 27),
  (27, .iconst 2, 2, 0, 0, 0, 28),
  (28, .iload_n 1, 0, 0, 1, 0, 29),
  (29, .imul, 0, 0, 0, 0, 30),
  (30, .iconst 1, 1, 0, 0, 0, 31),
  (31, .iadd, 0, 0, 0, 0, 32),
  (32, .iload_n 2, 0, 0, 2, 0, 33),
  (33, .invokevirtual 92, 0, 0, 1, 0, 36),
  (36, .ifCond .eq 7, 0, 0, 43, 0, 39),
  (39, .iconst 0, 0, 0, 0, 0, 40),
  (40, .goto 4, 0, 0, 44, 0, 43),
  (43, .iconst 2, 2, 0, 0, 0, 44),
  (44, .ireturn, 0, 0, 0, 0, 45)]
abbrev v_R_run : List (Nat × Nat) := [(92, 1), (117, 0)]
abbrev s_R_run : List (Nat × Nat) := []
abbrev h_R_run : List (Nat × Nat) := []
abbrev w_R_run : List (Nat × List Nat) := []
abbrev x_R_run : List String := []
theorem k_R_run : t_R_run.all (cx_dec true prog_6_method_21_code (some (.int)) 3 g_R p_R l_R v_R_run s_R_run h_R_run w_R_run) = true := by decide +kernel
abbrev m_R_run : MethodName := ⟨"CycleCutterModel", "run", "(II)I"⟩
-- calls of R_run: 0 = CycleCutterModel.refuses(II)Z, 1 = CycleCutterModel.truth(II)Z
def t_R_way : List (Nat × cx_E) := [(0, .aload_n 0, 0, 0, 0, 0, 1),
  (1, .iload_n 1, 0, 0, 1, 0, 2),
  (2, .iload_n 2, 0, 0, 2, 0, 3),
  (3, .invokevirtual 117, 0, 0, 0, 0, 6),
  (6, .ifCond .eq 5, 0, 0, 11, 0, 9),
  (9, .iconst 0, 0, 0, 0, 0, 10),
  (10, .ireturn, 0, 0, 0, 0, 11),
  (11, .iconst 0, 0, 0, 0, 0, 12),
  (12, .istore_n 3, 0, 0, 3, 0, 13),
  (13, .iconst 0, 0, 0, 0, 0, 14),
  (14, .istore 4, 0, 0, 4, 0, 16),
  (16, .iload 4, 0, 0, 4, 0, 18),
  (18, .iconst 2, 2, 0, 0, 0, 19),
  (19, .if_icmp .ge 71, 0, 0, 90, 0, 22),
  (22, .aload_n 0, 0, 0, 0, 0, 23),
  (23, .getfield 48, 0, 0, 4, 19, 26),
  (26, .iconst 2, 2, 0, 0, 0, 27),
  (27, .iload_n 1, 0, 0, 1, 0, 28),
  (28, .imul, 0, 0, 0, 0, 29),
  (29, .iload 4, 0, 0, 4, 0, 31),
  (31, .iadd, 0, 0, 0, 0, 32),
  (32, .iaload, 0, 0, 0, 0, 33),
  (33, .istore 5, 0, 0, 5, 0, 35),
  (35, .iload 5, 0, 0, 5, 0, 37),
  (37, .iconst (-1), (-1), 0, 0, 0, 38),
  (38, .if_icmp .eq 46, 0, 0, 84, 0, 41),
  (41, .iinc 3 1, 1, 0, 3, 0, 44),
  (44, .iload_n 2, 0, 0, 2, 0, 45),
  (45, .bipush 7, 7, 0, 0, 0, 47),
  (47, .aload_n 0, 0, 0, 0, 0, 48),
  (48, .getfield 36, 0, 0, 4, 15, 51),
  (51, .iload 5, 0, 0, 5, 0, 53),
  (53, .iaload, 0, 0, 0, 0, 54),
  (54, .isub, 0, 0, 0, 0, 55),
  (55, .ishr, 0, 0, 0, 0, 56),
  (56, .iconst 1, 1, 0, 0, 0, 57),
  (57, .iand, 0, 0, 0, 0, 58),
  (58, .iconst 1, 1, 0, 0, 0, 59),
  (59, .if_icmp .ne 13, 0, 0, 72, 0, 62),
  (62, .aload_n 0, 0, 0, 0, 0, 63),
  (63, .getfield 42, 0, 0, 4, 17, 66),
  (66, .iload 5, 0, 0, 5, 0, 68),
  (68, .iaload, 0, 0, 0, 0, 69),
  (69, .goto 10, 0, 0, 79, 0, 72),
  (72, .aload_n 0, 0, 0, 0, 0, 73),
  (73, .getfield 39, 0, 0, 4, 16, 76),
  (76, .iload 5, 0, 0, 5, 0, 78),
  (78, .iaload, 0, 0, 0, 0, 79),
  (79, .istore 5, 0, 0, 5, 0, 81),
  (81, .goto (-46), 0, 0, 35, 0, 84),
  (84, .iinc 4 1, 1, 0, 4, 0, 87),
  (87, .goto (-71), 0, 0, 16, 0, 90),
  (90, .iload_n 3, 0, 0, 3, 0, 91),
  (91, .ireturn, 0, 0, 0, 0, 92)]
abbrev v_R_way : List (Nat × Nat) := [(117, 0)]
abbrev s_R_way : List (Nat × Nat) := []
abbrev h_R_way : List (Nat × Nat) := []
abbrev w_R_way : List (Nat × List Nat) := []
abbrev x_R_way : List String := []
theorem k_R_way : t_R_way.all (cx_dec true prog_6_method_22_code (some (.int)) 6 g_R p_R l_R v_R_way s_R_way h_R_way w_R_way) = true := by decide +kernel
abbrev m_R_way : MethodName := ⟨"CycleCutterModel", "way", "(II)I"⟩
-- calls of R_way: 0 = CycleCutterModel.refuses(II)Z
def t_R_at : List (Nat × cx_E) := [(0, .aload_n 0, 0, 0, 0, 0, 1),
  (1, .iconst 0, 0, 0, 0, 0, 2),
  (2, .putfield 54, 0, 0, 4, 0, 5),
  (5, .iconst 0, 0, 0, 0, 0, 6),
  (6, .istore_n 2, 0, 0, 2, 0, 7),
  (7, .iconst 0, 0, 0, 0, 0, 8),
  (8, .istore_n 3, 0, 0, 3, 0, 9),
  (9, .iload_n 3, 0, 0, 3, 0, 10),
  (10, .aload_n 0, 0, 0, 0, 0, 11),
  (11, .getfield 81, 0, 0, 4, 13, 14),
  (14, .if_icmp .ge 27, 0, 0, 41, 0, 17),
  (17, .iload_n 2, 0, 0, 2, 0, 18),
  (18, .aload_n 0, 0, 0, 0, 0, 19),
  (19, .getfield 36, 0, 0, 4, 15, 22),
  (22, .iload_n 3, 0, 0, 3, 0, 23),
  (23, .iaload, 0, 0, 0, 0, 24),
  (24, .iload_n 1, 0, 0, 1, 0, 25),
  (25, .if_icmp .ne 7, 0, 0, 32, 0, 28),
  (28, .iconst 1, 1, 0, 0, 0, 29),
  (29, .goto 4, 0, 0, 33, 0, 32),
  (32, .iconst 0, 0, 0, 0, 0, 33),
  (33, .iadd, 0, 0, 0, 0, 34),
  (34, .istore_n 2, 0, 0, 2, 0, 35),
  (35, .iinc 3 1, 1, 0, 3, 0, 38),
  (38, .goto (-29), 0, 0, 9, 0, 41),
  (41, .iload_n 2, 0, 0, 2, 0, 42),
  (42, .ireturn, 0, 0, 0, 0, 43)]
abbrev v_R_at : List (Nat × Nat) := []
abbrev s_R_at : List (Nat × Nat) := []
abbrev h_R_at : List (Nat × Nat) := []
abbrev w_R_at : List (Nat × List Nat) := []
abbrev x_R_at : List String := []
theorem k_R_at : t_R_at.all (cx_dec true prog_6_method_23_code (some (.int)) 4 g_R p_R l_R v_R_at s_R_at h_R_at w_R_at) = true := by decide +kernel
abbrev m_R_at : MethodName := ⟨"CycleCutterModel", "at", "(I)I"⟩
-- calls of R_at: 
def t_R_size : List (Nat × cx_E) := [(0, .aload_n 0, 0, 0, 0, 0, 1),
  (1, .iload_n 1, 0, 0, 1, 0, 2),
  (2, .iconst 0, 0, 0, 0, 0, 3),
  (3, .invokevirtual 117, 0, 0, 0, 0, 6),
  (6, .ifCond .eq 5, 0, 0, 11, 0, 9),
  (9, .iconst 0, 0, 0, 0, 0, 10),
  (10, .ireturn, 0, 0, 0, 0, 11),
  (11, .iconst 0, 0, 0, 0, 0, 12),
  (12, .istore_n 3, 0, 0, 3, 0, 13),
  (13, .iload_n 3, 0, 0, 3, 0, 14),
  (14, .aload_n 0, 0, 0, 0, 0, 15),
  (15, .getfield 81, 0, 0, 4, 13, 18),
  (18, .if_icmp .ge 16, 0, 0, 34, 0, 21),
  (21, .aload_n 0, 0, 0, 0, 0, 22),
  (22, .getfield 51, 0, 0, 4, 20, 25),
  (25, .iload_n 3, 0, 0, 3, 0, 26),
  (26, .iconst 0, 0, 0, 0, 0, 27),
  (27, .bastore, 0, 0, 0, 0, 28),
  (28, .iinc 3 1, 1, 0, 3, 0, 31),
  (31, .goto (-18), 0, 0, 13, 0, 34),
  (34, .aload_n 0, 0, 0, 0, 0, 35),
  (35, .getfield 48, 0, 0, 4, 19, 38),
  (38, .iload_n 2, 0, 0, 2, 0, 39),
  (39, .ifCond .eq 9, 0, 0, 48, 0, 42),
  (42, .iconst 2, 2, 0, 0, 0, 43),
  (43, .iload_n 1, 0, 0, 1, 0, 44),
  (44, .imul, 0, 0, 0, 0, 45),
  (45, .goto 8, 0, 0, 53, 0, 48),
  (48, .iconst 2, 2, 0, 0, 0, 49),
  (49, .iload_n 1, 0, 0, 1, 0, 50),
  (50, .imul, 0, 0, 0, 0, 51),
  (51, .iconst 1, 1, 0, 0, 0, 52),
  (52, .iadd, 0, 0, 0, 0, 53),
  (53, .iaload, 0, 0, 0, 0, 54),
  (54, .istore_n 3, 0, 0, 3, 0, 55),
  (55, .iload_n 3, 0, 0, 3, 0, 56),
  (56, .iconst (-1), (-1), 0, 0, 0, 57),
  (57, .if_icmp .ne 5, 0, 0, 62, 0, 60),
  (60, .iconst 0, 0, 0, 0, 0, 61),
  (61, .ireturn, 0, 0, 0, 0, 62),
  (62, .aload_n 0, 0, 0, 0, 0, 63),
  (63, .getfield 51, 0, 0, 4, 20, 66),
  (66, .iload_n 3, 0, 0, 3, 0, 67),
  (67, .iconst 1, 1, 0, 0, 0, 68),
  (68, .bastore, 0, 0, 0, 0, 69),
  (69, .iconst 1, 1, 0, 0, 0, 70),
  (70, .istore 4, 0, 0, 4, 0, 72),
  (72, .iconst 1, 1, 0, 0, 0, 73),
  (73, .istore 5, 0, 0, 5, 0, 75),
  (75, .iload 5, 0, 0, 5, 0, 77),
  (77, .ifCond .eq 83, 0, 0, 160, 0, 80),
  (80, .iload 4, 0, 0, 4, 0, 82),
  (82, .istore 6, 0, 0, 6, 0, 84),
  (84, .iconst 0, 0, 0, 0, 0, 85),
  (85, .istore 7, 0, 0, 7, 0, 87),
  (87, .iload 7, 0, 0, 7, 0, 89),
  (89, .aload_n 0, 0, 0, 0, 0, 90),
  (90, .getfield 81, 0, 0, 4, 13, 93),
  (93, .if_icmp .ge 50, 0, 0, 143, 0, 96),
  (96, .aload_n 0, 0, 0, 0, 0, 97),
  (97, .getfield 51, 0, 0, 4, 20, 100),
  (100, .iload 7, 0, 0, 7, 0, 102),
  (102, .baload, 0, 0, 0, 0, 103),
  (103, .ifCond .ne 6, 0, 0, 109, 0, 106),
  (106, .goto 31, 0, 0, 137, 0, 109),
  (109, .iload 4, 0, 0, 4, 0, 111),
  (111, .aload_n 0, 0, 0, 0, 0, 112),
  (112, .aload_n 0, 0, 0, 0, 0, 113),
  (113, .getfield 39, 0, 0, 4, 16, 116),
  (116, .iload 7, 0, 0, 7, 0, 118),
  (118, .iaload, 0, 0, 0, 0, 119),
  (119, .invokevirtual 120, 0, 0, 1, 0, 122),
  (122, .aload_n 0, 0, 0, 0, 0, 123),
  (123, .aload_n 0, 0, 0, 0, 0, 124),
  (124, .getfield 42, 0, 0, 4, 17, 127),
  (127, .iload 7, 0, 0, 7, 0, 129),
  (129, .iaload, 0, 0, 0, 0, 130),
  (130, .invokevirtual 120, 0, 0, 1, 0, 133),
  (133, .iadd, 0, 0, 0, 0, 134),
  (134, .iadd, 0, 0, 0, 0, 135),
  (135, .istore 4, 0, 0, 4, 0, 137),
  (137, .iinc 7 1, 1, 0, 7, 0, 140),
  (140, .goto (-53), 0, 0, 87, 0, 143),
  (143, .iload 4, 0, 0, 4, 0, 145),
  (145, .iload 6, 0, 0, 6, 0, 147),
  (147, .if_icmp .le 7, 0, 0, 154, 0, 150),
  (150, .iconst 1, 1, 0, 0, 0, 151),
  (151, .goto 4, 0, 0, 155, 0, 154),
  (154, .iconst 0, 0, 0, 0, 0, 155),
  (155, .istore 5, 0, 0, 5, 0, 157),
  (157, .goto (-82), 0, 0, 75, 0, 160),
  (160, .iload 4, 0, 0, 4, 0, 162),
  (162, .ireturn, 0, 0, 0, 0, 163)]
abbrev v_R_size : List (Nat × Nat) := [(117, 0), (120, 1)]
abbrev s_R_size : List (Nat × Nat) := []
abbrev h_R_size : List (Nat × Nat) := []
abbrev w_R_size : List (Nat × List Nat) := []
abbrev x_R_size : List String := []
theorem k_R_size : t_R_size.all (cx_dec true prog_6_method_24_code (some (.int)) 8 g_R p_R l_R v_R_size s_R_size h_R_size w_R_size) = true := by decide +kernel
abbrev m_R_size : MethodName := ⟨"CycleCutterModel", "size", "(IZ)I"⟩
-- calls of R_size: 0 = CycleCutterModel.refuses(II)Z, 1 = CycleCutterModel.reach(I)I
def t_R_reach : List (Nat × cx_E) := [(0, .iload_n 1, 0, 0, 1, 0, 1),
  (1, .iconst (-1), (-1), 0, 0, 0, 2),
  (2, .if_icmp .eq 12, 0, 0, 14, 0, 5),
  (5, .aload_n 0, 0, 0, 0, 0, 6),
  (6, .getfield 51, 0, 0, 4, 20, 9),
  (9, .iload_n 1, 0, 0, 1, 0, 10),
  (10, .baload, 0, 0, 0, 0, 11),
  (11, .ifCond .eq 5, 0, 0, 16, 0, 14),
  (14, .iconst 0, 0, 0, 0, 0, 15),
  (15, .ireturn, 0, 0, 0, 0, 16),
  (16, .aload_n 0, 0, 0, 0, 0, 17),
  (17, .getfield 51, 0, 0, 4, 20, 20),
  (20, .iload_n 1, 0, 0, 1, 0, 21),
  (21, .iconst 1, 1, 0, 0, 0, 22),
  (22, .bastore, 0, 0, 0, 0, 23),
  (23, .iconst 1, 1, 0, 0, 0, 24),
  (24, .ireturn, 0, 0, 0, 0, 25)]
abbrev v_R_reach : List (Nat × Nat) := []
abbrev s_R_reach : List (Nat × Nat) := []
abbrev h_R_reach : List (Nat × Nat) := []
abbrev w_R_reach : List (Nat × List Nat) := []
abbrev x_R_reach : List String := []
theorem k_R_reach : t_R_reach.all (cx_dec true prog_6_method_25_code (some (.int)) 2 g_R p_R l_R v_R_reach s_R_reach h_R_reach w_R_reach) = true := by decide +kernel
abbrev m_R_reach : MethodName := ⟨"CycleCutterModel", "reach", "(I)I"⟩
-- calls of R_reach: 
def t_R_known : List (Nat × cx_E) := [(0, .aload_n 0, 0, 0, 0, 0, 1),
  (1, .iload_n 1, 0, 0, 1, 0, 2),
  (2, .iconst 0, 0, 0, 0, 0, 3),
  (3, .invokevirtual 117, 0, 0, 0, 0, 6),
  (6, .ifCond .eq 5, 0, 0, 11, 0, 9),
  (9, .iconst 0, 0, 0, 0, 0, 10),
  (10, .ireturn, 0, 0, 0, 0, 11),
  (11, .iconst 0, 0, 0, 0, 0, 12),
  (12, .istore_n 2, 0, 0, 2, 0, 13),
  (13, .iconst 0, 0, 0, 0, 0, 14),
  (14, .istore_n 3, 0, 0, 3, 0, 15),
  (15, .iload_n 3, 0, 0, 3, 0, 16),
  (16, .sipush 256, 256, 0, 0, 0, 19),
  (19, .if_icmp .ge 41, 0, 0, 60, 0, 22),
  (22, .iload_n 2, 0, 0, 2, 0, 23),
  (23, .aload_n 0, 0, 0, 0, 0, 24),
  (24, .iconst 2, 2, 0, 0, 0, 25),
  (25, .iload_n 1, 0, 0, 1, 0, 26),
  (26, .imul, 0, 0, 0, 0, 27),
  (27, .iload_n 3, 0, 0, 3, 0, 28),
  (28, .invokevirtual 92, 0, 0, 1, 0, 31),
  (31, .ifCond .ne 16, 0, 0, 47, 0, 34),
  (34, .aload_n 0, 0, 0, 0, 0, 35),
  (35, .iconst 2, 2, 0, 0, 0, 36),
  (36, .iload_n 1, 0, 0, 1, 0, 37),
  (37, .imul, 0, 0, 0, 0, 38),
  (38, .iconst 1, 1, 0, 0, 0, 39),
  (39, .iadd, 0, 0, 0, 0, 40),
  (40, .iload_n 3, 0, 0, 3, 0, 41),
  (41, .invokevirtual 92, 0, 0, 1, 0, 44),
  (44, .ifCond .eq 7, 0, 0, 51, 0, 47),
  (47, .iconst 1, 1, 0, 0, 0, 48),
  (48, .goto 4, 0, 0, 52, 0, 51),
  (51, .iconst 0, 0, 0, 0, 0, 52),
  (52, .iadd, 0, 0, 0, 0, 53),
  (53, .istore_n 2, 0, 0, 2, 0, 54),
  (54, .iinc 3 1, 1, 0, 3, 0, 57),
  (57, .goto (-42), 0, 0, 15, 0, 60),
  (60, .iload_n 2, 0, 0, 2, 0, 61),
  (61, .ireturn, 0, 0, 0, 0, 62)]
abbrev v_R_known : List (Nat × Nat) := [(92, 1), (117, 0)]
abbrev s_R_known : List (Nat × Nat) := []
abbrev h_R_known : List (Nat × Nat) := []
abbrev w_R_known : List (Nat × List Nat) := []
abbrev x_R_known : List String := []
theorem k_R_known : t_R_known.all (cx_dec true prog_6_method_26_code (some (.int)) 4 g_R p_R l_R v_R_known s_R_known h_R_known w_R_known) = true := by decide +kernel
abbrev m_R_known : MethodName := ⟨"CycleCutterModel", "known", "(I)I"⟩
-- calls of R_known: 0 = CycleCutterModel.refuses(II)Z, 1 = CycleCutterModel.truth(II)Z
def t_R_doubt : List (Nat × cx_E) := [(0, .aload_n 0, 0, 0, 0, 0, 1),
  (1, .iload_n 1, 0, 0, 1, 0, 2),
  (2, .ifCond .lt 10, 0, 0, 12, 0, 5),
  (5, .iload_n 1, 0, 0, 1, 0, 6),
  (6, .sipush 255, 255, 0, 0, 0, 9),
  (9, .if_icmp .le 7, 0, 0, 16, 0, 12),
  (12, .iconst 1, 1, 0, 0, 0, 13),
  (13, .goto 4, 0, 0, 17, 0, 16),
  (16, .iconst 0, 0, 0, 0, 0, 17),
  (17, .iconst 0, 0, 0, 0, 0, 18),
  (18, .invokevirtual 61, 0, 0, 0, 0, 21),
  (21, .ifCond .eq 5, 0, 0, 26, 0, 24),
  (24, .iconst 0, 0, 0, 0, 0, 25),
  (25, .ireturn, 0, 0, 0, 0, 26),
  (26, .iload_n 1, 0, 0, 1, 0, 27),
  (27, .istore_n 2, 0, 0, 2, 0, 28),
  (28, .iload_n 2, 0, 0, 2, 0, 29),
  (29, .sipush 256, 256, 0, 0, 0, 32),
  (32, .if_icmp .ge 51, 0, 0, 83, 0, 35),
  (35, .iconst 0, 0, 0, 0, 0, 36),
  (36, .istore_n 3, 0, 0, 3, 0, 37),
  (37, .iload_n 3, 0, 0, 3, 0, 38),
  (38, .aload_n 0, 0, 0, 0, 0, 39),
  (39, .getfield 78, 0, 0, 4, 12, 42),
  (42, .if_icmp .ge 35, 0, 0, 77, 0, 45),
  (45, .aload_n 0, 0, 0, 0, 0, 46),
  (46, .iconst 2, 2, 0, 0, 0, 47),
  (47, .iload_n 3, 0, 0, 3, 0, 48),
  (48, .imul, 0, 0, 0, 0, 49),
  (49, .iload_n 2, 0, 0, 2, 0, 50),
  (50, .invokevirtual 92, 0, 0, 1, 0, 53),
  (53, .ifCond .ne 18, 0, 0, 71, 0, 56),
  (56, .aload_n 0, 0, 0, 0, 0, 57),
  (57, .iconst 2, 2, 0, 0, 0, 58),
  (58, .iload_n 3, 0, 0, 3, 0, 59),
  (59, .imul, 0, 0, 0, 0, 60),
  (60, .iconst 1, 1, 0, 0, 0, 61),
  (61, .iadd, 0, 0, 0, 0, 62),
  (62, .iload_n 2, 0, 0, 2, 0, 63),
  (63, .invokevirtual 92, 0, 0, 1, 0, 66),
  (66, .ifCond .ne 5, 0, 0, 71, 0, 69),
  (69, .iload_n 2, 0, 0, 2, 0, 70),
  (70, .ireturn, 0, 0, 0, 0, 71),
  (71, .iinc 3 1, 1, 0, 3, 0, 74),
  (74, .goto (-37), 0, 0, 37, 0, 77),
  (77, .iinc 2 1, 1, 0, 2, 0, 80),
  (80, .goto (-52), 0, 0, 28, 0, 83),
  (83, .iconst (-1), (-1), 0, 0, 0, 84),
  (84, .ireturn, 0, 0, 0, 0, 85)]
abbrev v_R_doubt : List (Nat × Nat) := [(61, 0), (92, 1)]
abbrev s_R_doubt : List (Nat × Nat) := []
abbrev h_R_doubt : List (Nat × Nat) := []
abbrev w_R_doubt : List (Nat × List Nat) := []
abbrev x_R_doubt : List String := []
theorem k_R_doubt : t_R_doubt.all (cx_dec true prog_6_method_27_code (some (.int)) 4 g_R p_R l_R v_R_doubt s_R_doubt h_R_doubt w_R_doubt) = true := by decide +kernel
abbrev m_R_doubt : MethodName := ⟨"CycleCutterModel", "doubt", "(I)I"⟩
-- calls of R_doubt: 0 = CycleCutterModel.fails(ZZ)Z, 1 = CycleCutterModel.truth(II)Z
def t_R_count : List (Nat × cx_E) := [(0, .aload_n 0, 0, 0, 0, 0, 1),
  (1, .iconst 0, 0, 0, 0, 0, 2),
  (2, .putfield 54, 0, 0, 4, 0, 5),
  (5, .iconst 0, 0, 0, 0, 0, 6),
  (6, .istore_n 2, 0, 0, 2, 0, 7),
  (7, .iconst 0, 0, 0, 0, 0, 8),
  (8, .istore_n 3, 0, 0, 3, 0, 9),
  (9, .iload_n 3, 0, 0, 3, 0, 10),
  (10, .aload_n 0, 0, 0, 0, 0, 11),
  (11, .getfield 81, 0, 0, 4, 13, 14),
  (14, .if_icmp .ge 30, 0, 0, 44, 0, 17),
  (17, .aload_n 0, 0, 0, 0, 0, 18),
  (18, .getfield 45, 0, 0, 4, 18, 21),
  (21, .iload_n 3, 0, 0, 3, 0, 22),
  (22, .iaload, 0, 0, 0, 0, 23),
  (23, .iload_n 2, 0, 0, 2, 0, 24),
  (24, .if_icmp .le 12, 0, 0, 36, 0, 27),
  (27, .aload_n 0, 0, 0, 0, 0, 28),
  (28, .getfield 45, 0, 0, 4, 18, 31),
  (31, .iload_n 3, 0, 0, 3, 0, 32),
  (32, .iaload, 0, 0, 0, 0, 33),
  (33, .goto 4, 0, 0, 37, 0, 36),
  (36, .iload_n 2, 0, 0, 2, 0, 37),
  (37, .istore_n 2, 0, 0, 2, 0, 38),
  (38, .iinc 3 1, 1, 0, 3, 0, 41),
  (41, .goto (-32), 0, 0, 9, 0, 44),
  (44, .iload_n 1, 0, 0, 1, 0, 45),
  (45, .tableswitch 75 0 6 #[43, 48, 53, 58, 63, 68, 73], 0, 0, 0, 43, 88),
  (88, .aload_n 0, 0, 0, 0, 0, 89),
  (89, .getfield 58, 0, 0, 4, 1, 92),
  (92, .ireturn, 0, 0, 0, 0, 93),
  (93, .aload_n 0, 0, 0, 0, 0, 94),
  (94, .getfield 72, 0, 0, 4, 2, 97),
  (97, .ireturn, 0, 0, 0, 0, 98),
  (98, .aload_n 0, 0, 0, 0, 0, 99),
  (99, .getfield 65, 0, 0, 4, 3, 102),
  (102, .ireturn, 0, 0, 0, 0, 103),
  (103, .aload_n 0, 0, 0, 0, 0, 104),
  (104, .getfield 75, 0, 0, 4, 4, 107),
  (107, .ireturn, 0, 0, 0, 0, 108),
  (108, .aload_n 0, 0, 0, 0, 0, 109),
  (109, .getfield 78, 0, 0, 4, 12, 112),
  (112, .ireturn, 0, 0, 0, 0, 113),
  (113, .aload_n 0, 0, 0, 0, 0, 114),
  (114, .getfield 81, 0, 0, 4, 13, 117),
  (117, .ireturn, 0, 0, 0, 0, 118),
  (118, .iload_n 2, 0, 0, 2, 0, 119),
  (119, .ireturn, 0, 0, 0, 0, 120),
  (120, .iconst (-1), (-1), 0, 0, 0, 121),
  (121, .ireturn, 0, 0, 0, 0, 122)]
abbrev v_R_count : List (Nat × Nat) := []
abbrev s_R_count : List (Nat × Nat) := []
abbrev h_R_count : List (Nat × Nat) := []
abbrev w_R_count : List (Nat × List Nat) := [(120, [88, 93, 98, 103, 108, 113, 118])]
abbrev x_R_count : List String := []
theorem k_R_count : t_R_count.all (cx_dec true prog_6_method_28_code (some (.int)) 4 g_R p_R l_R v_R_count s_R_count h_R_count w_R_count) = true := by decide +kernel
abbrev m_R_count : MethodName := ⟨"CycleCutterModel", "count", "(I)I"⟩
-- calls of R_count: 
def t_J_bitCount : List (Nat × cx_E) := [(0, .lload_n 0, 0, 0, 0, 0, 1),
  (1, .lload_n 0, 0, 0, 0, 0, 2),
  (2, .iconst 1, 1, 0, 0, 0, 3),
  (3, .lushr, 0, 0, 0, 0, 4),
  (4, .ldc2_w 314, 0, 6148914691236517205, 0, 0, 7),
  (7, .land, 0, 0, 0, 0, 8),
  (8, .lsub, 0, 0, 0, 0, 9),
  (9, .lstore_n 0, 0, 0, 0, 0, 10),
  (10, .lload_n 0, 0, 0, 0, 0, 11),
  (11, .ldc2_w 316, 0, 3689348814741910323, 0, 0, 14),
  (14, .land, 0, 0, 0, 0, 15),
  (15, .lload_n 0, 0, 0, 0, 0, 16),
  (16, .iconst 2, 2, 0, 0, 0, 17),
  (17, .lushr, 0, 0, 0, 0, 18),
  (18, .ldc2_w 316, 0, 3689348814741910323, 0, 0, 21),
  (21, .land, 0, 0, 0, 0, 22),
  (22, .ladd, 0, 0, 0, 0, 23),
  (23, .lstore_n 0, 0, 0, 0, 0, 24),
  (24, .lload_n 0, 0, 0, 0, 0, 25),
  (25, .lload_n 0, 0, 0, 0, 0, 26),
  (26, .iconst 4, 4, 0, 0, 0, 27),
  (27, .lushr, 0, 0, 0, 0, 28),
  (28, .ladd, 0, 0, 0, 0, 29),
  (29, .ldc2_w 318, 0, 1085102592571150095, 0, 0, 32),
  (32, .land, 0, 0, 0, 0, 33),
  (33, .lstore_n 0, 0, 0, 0, 0, 34),
  (34, .lload_n 0, 0, 0, 0, 0, 35),
  (35, .lload_n 0, 0, 0, 0, 0, 36),
  (36, .bipush 8, 8, 0, 0, 0, 38),
  (38, .lushr, 0, 0, 0, 0, 39),
  (39, .ladd, 0, 0, 0, 0, 40),
  (40, .lstore_n 0, 0, 0, 0, 0, 41),
  (41, .lload_n 0, 0, 0, 0, 0, 42),
  (42, .lload_n 0, 0, 0, 0, 0, 43),
  (43, .bipush 16, 16, 0, 0, 0, 45),
  (45, .lushr, 0, 0, 0, 0, 46),
  (46, .ladd, 0, 0, 0, 0, 47),
  (47, .lstore_n 0, 0, 0, 0, 0, 48),
  (48, .lload_n 0, 0, 0, 0, 0, 49),
  (49, .lload_n 0, 0, 0, 0, 0, 50),
  (50, .bipush 32, 32, 0, 0, 0, 52),
  (52, .lushr, 0, 0, 0, 0, 53),
  (53, .ladd, 0, 0, 0, 0, 54),
  (54, .lstore_n 0, 0, 0, 0, 0, 55),
  (55, .lload_n 0, 0, 0, 0, 0, 56),
  (56, .l2i, 0, 0, 0, 0, 57),
  (57, .bipush 127, 127, 0, 0, 0, 59),
  (59, .iand, 0, 0, 0, 0, 60),
  (60, .ireturn, 0, 0, 0, 0, 61)]
abbrev v_J_bitCount : List (Nat × Nat) := []
abbrev s_J_bitCount : List (Nat × Nat) := []
abbrev h_J_bitCount : List (Nat × Nat) := []
abbrev w_J_bitCount : List (Nat × List Nat) := []
abbrev x_J_bitCount : List String := []
theorem k_J_bitCount : t_J_bitCount.all (cx_dec true prog_11_method_50_code (some (.int)) 2 [] [] l_J v_J_bitCount s_J_bitCount h_J_bitCount w_J_bitCount) = true := by decide +kernel
abbrev m_J_bitCount : MethodName := ⟨"java/lang/Long", "bitCount", "(J)I"⟩
-- calls of J_bitCount: 
def t_J_max : List (Nat × cx_E) := [(0, .iload_n 0, 0, 0, 0, 0, 1),
  (1, .iload_n 1, 0, 0, 1, 0, 2),
  (2, .if_icmp .lt 7, 0, 0, 9, 0, 5),
  (5, .iload_n 0, 0, 0, 0, 0, 6),
  (6, .goto 4, 0, 0, 10, 0, 9),
  (9, .iload_n 1, 0, 0, 1, 0, 10),
  (10, .ireturn, 0, 0, 0, 0, 11)]
abbrev v_J_max : List (Nat × Nat) := []
abbrev s_J_max : List (Nat × Nat) := []
abbrev h_J_max : List (Nat × Nat) := []
abbrev w_J_max : List (Nat × List Nat) := []
abbrev x_J_max : List String := []
theorem k_J_max : t_J_max.all (cx_dec true prog_12_method_65_code (some (.int)) 2 [] [] l_J v_J_max s_J_max h_J_max w_J_max) = true := by decide +kernel
abbrev m_J_max : MethodName := ⟨"java/lang/Math", "max", "(II)I"⟩
-- calls of J_max: 
