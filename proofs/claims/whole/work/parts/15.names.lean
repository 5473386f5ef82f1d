/-! Classes, fields, methods: by program (wip/whole/gen.py) out of the tables' words and javap. -/
def cx_Tb : List Cond := lw_tbl.filter cx_stB
theorem cx_TbAll : cx_Tb.all cx_stB = true := List.all_eq_true.mpr fun w h => (List.mem_filter.mp h).2
theorem cx_in {w : Cond} (i : Nat) (h : lw_tbl[i]? = some w) (hs : cx_stB w = true) : w ∈ cx_Tb := List.mem_filter.mpr ⟨List.mem_of_getElem? h, hs⟩
def r_L : String := "CycleCutter$Layout"
def f_L : u_T := fun k => match k with
  | 0 => ("CycleCutter$Layout", "multiplexers", "LCycleCutter$Multiplexers;", true)
  | 1 => ("CycleCutter$Layout", "highRoots", "[I", true)
  | 2 => ("CycleCutter$Layout", "lowRoots", "[I", true)
  | 3 => ("CycleCutter$Layout", "knownSets", "[[J", true)
  | _ => ("CycleCutter$Layout", "outputs", "I", false)
def y_L : Nat → FieldType := fun k => match k with
  | 0 => .object "CycleCutter$Multiplexers"
  | 1 => .array .int
  | 2 => .array .int
  | 3 => .array (.array .long)
  | _ => .int
theorem n_L : ∀ a, a < 5 → ∀ b, b < 5 → a ≠ b → (f_L a).2.1 ≠ (f_L b).2.1 := by decide +kernel
theorem y_L_ok : ∀ k, k < 5 → parseFieldDescriptor (f_L k).2.2.1 = some (y_L k) := by decide +kernel
theorem i_L : ∀ w ∈ u_ws r_L f_L 5, w ∈ cx_Tb := by
  intro w hw
  obtain ⟨k, hk, rfl⟩ := List.mem_map.mp hw
  have hk := List.mem_range.mp hk
  match k, hk with
  | 0, _ => exact cx_in 154 (by decide +kernel) (by decide +kernel)
  | 1, _ => exact cx_in 156 (by decide +kernel) (by decide +kernel)
  | 2, _ => exact cx_in 158 (by decide +kernel) (by decide +kernel)
  | 3, _ => exact cx_in 160 (by decide +kernel) (by decide +kernel)
  | 4, _ => exact cx_in 162 (by decide +kernel) (by decide +kernel)
def r_M : String := "CycleCutter$Multiplexers"
def f_M : u_T := fun k => match k with
  | 0 => ("CycleCutter$Multiplexers", "inputOf", "[I", true)
  | 1 => ("CycleCutter$Multiplexers", "ifZero", "[I", true)
  | 2 => ("CycleCutter$Multiplexers", "ifOne", "[I", true)
  | 3 => ("CycleCutter$Multiplexers", "depthOf", "[I", true)
  | 4 => ("CycleCutter$Multiplexers", "firstTaker", "[I", true)
  | 5 => ("CycleCutter$Multiplexers", "nextTaker", "[I", true)
  | 6 => ("CycleCutter$Multiplexers", "reached", "[Z", true)
  | 7 => ("CycleCutter$Multiplexers", "row", "[I", true)
  | 8 => ("CycleCutter$Multiplexers", "perInput", "[I", true)
  | 9 => ("CycleCutter$Multiplexers", "nodes", "I", false)
  | _ => ("CycleCutter$Multiplexers", "longest", "I", false)
def y_M : Nat → FieldType := fun k => match k with
  | 0 => .array .int
  | 1 => .array .int
  | 2 => .array .int
  | 3 => .array .int
  | 4 => .array .int
  | 5 => .array .int
  | 6 => .array .boolean
  | 7 => .array .int
  | 8 => .array .int
  | 9 => .int
  | _ => .int
theorem n_M : ∀ a, a < 11 → ∀ b, b < 11 → a ≠ b → (f_M a).2.1 ≠ (f_M b).2.1 := by decide +kernel
theorem y_M_ok : ∀ k, k < 11 → parseFieldDescriptor (f_M k).2.2.1 = some (y_M k) := by decide +kernel
theorem i_M : ∀ w ∈ u_ws r_M f_M 11, w ∈ cx_Tb := by
  intro w hw
  obtain ⟨k, hk, rfl⟩ := List.mem_map.mp hw
  have hk := List.mem_range.mp hk
  match k, hk with
  | 0, _ => exact cx_in 121 (by decide +kernel) (by decide +kernel)
  | 1, _ => exact cx_in 123 (by decide +kernel) (by decide +kernel)
  | 2, _ => exact cx_in 125 (by decide +kernel) (by decide +kernel)
  | 3, _ => exact cx_in 127 (by decide +kernel) (by decide +kernel)
  | 4, _ => exact cx_in 129 (by decide +kernel) (by decide +kernel)
  | 5, _ => exact cx_in 131 (by decide +kernel) (by decide +kernel)
  | 6, _ => exact cx_in 133 (by decide +kernel) (by decide +kernel)
  | 7, _ => exact cx_in 135 (by decide +kernel) (by decide +kernel)
  | 8, _ => exact cx_in 137 (by decide +kernel) (by decide +kernel)
  | 9, _ => exact cx_in 139 (by decide +kernel) (by decide +kernel)
  | 10, _ => exact cx_in 141 (by decide +kernel) (by decide +kernel)
def r_N : String := "CycleCutter$Net"
def f_N : u_T := fun k => match k with
  | 0 => ("CycleCutter$Net", "sorts", "[I", true)
  | 1 => ("CycleCutter$Net", "firstFeed", "[I", true)
  | 2 => ("CycleCutter$Net", "feedsOf", "[I", true)
  | 3 => ("CycleCutter$Net", "feedFrom", "[I", true)
  | 4 => ("CycleCutter$Net", "feedNegated", "[Z", true)
  | 5 => ("CycleCutter$Net", "nextFeed", "[I", true)
  | 6 => ("CycleCutter$Net", "high", "[[J", true)
  | 7 => ("CycleCutter$Net", "low", "[[J", true)
  | 8 => ("CycleCutter$Net", "gates", "I", false)
  | 9 => ("CycleCutter$Net", "feeds", "I", false)
  | 10 => ("CycleCutter$Net", "inputs", "I", false)
  | _ => ("CycleCutter$Net", "settled", "Z", false)
def y_N : Nat → FieldType := fun k => match k with
  | 0 => .array .int
  | 1 => .array .int
  | 2 => .array .int
  | 3 => .array .int
  | 4 => .array .boolean
  | 5 => .array .int
  | 6 => .array (.array .long)
  | 7 => .array (.array .long)
  | 8 => .int
  | 9 => .int
  | 10 => .int
  | _ => .boolean
theorem n_N : ∀ a, a < 12 → ∀ b, b < 12 → a ≠ b → (f_N a).2.1 ≠ (f_N b).2.1 := by decide +kernel
theorem y_N_ok : ∀ k, k < 12 → parseFieldDescriptor (f_N k).2.2.1 = some (y_N k) := by decide +kernel
theorem i_N : ∀ w ∈ u_ws r_N f_N 12, w ∈ cx_Tb := by
  intro w hw
  obtain ⟨k, hk, rfl⟩ := List.mem_map.mp hw
  have hk := List.mem_range.mp hk
  match k, hk with
  | 0, _ => exact cx_in 68 (by decide +kernel) (by decide +kernel)
  | 1, _ => exact cx_in 70 (by decide +kernel) (by decide +kernel)
  | 2, _ => exact cx_in 72 (by decide +kernel) (by decide +kernel)
  | 3, _ => exact cx_in 74 (by decide +kernel) (by decide +kernel)
  | 4, _ => exact cx_in 76 (by decide +kernel) (by decide +kernel)
  | 5, _ => exact cx_in 78 (by decide +kernel) (by decide +kernel)
  | 6, _ => exact cx_in 80 (by decide +kernel) (by decide +kernel)
  | 7, _ => exact cx_in 82 (by decide +kernel) (by decide +kernel)
  | 8, _ => exact cx_in 84 (by decide +kernel) (by decide +kernel)
  | 9, _ => exact cx_in 86 (by decide +kernel) (by decide +kernel)
  | 10, _ => exact cx_in 88 (by decide +kernel) (by decide +kernel)
  | 11, _ => exact cx_in 90 (by decide +kernel) (by decide +kernel)
def r_C : String := "CycleCutter"
def f_C : u_T := fun k => match k with
  | 0 => ("CycleCutter", "net", "LCycleCutter$Net;", true)
  | 1 => ("CycleCutter", "layout", "LCycleCutter$Layout;", true)
  | 2 => ("CycleCutter", "outputGates", "[I", true)
  | _ => ("CycleCutter", "outputs", "I", false)
def y_C : Nat → FieldType := fun k => match k with
  | 0 => .object "CycleCutter$Net"
  | 1 => .object "CycleCutter$Layout"
  | 2 => .array .int
  | _ => .int
theorem n_C : ∀ a, a < 4 → ∀ b, b < 4 → a ≠ b → (f_C a).2.1 ≠ (f_C b).2.1 := by decide +kernel
theorem y_C_ok : ∀ k, k < 4 → parseFieldDescriptor (f_C k).2.2.1 = some (y_C k) := by decide +kernel
theorem i_C : ∀ w ∈ u_ws r_C f_C 4, w ∈ cx_Tb := by
  intro w hw
  obtain ⟨k, hk, rfl⟩ := List.mem_map.mp hw
  have hk := List.mem_range.mp hk
  match k, hk with
  | 0, _ => exact cx_in 169 (by decide +kernel) (by decide +kernel)
  | 1, _ => exact cx_in 171 (by decide +kernel) (by decide +kernel)
  | 2, _ => exact cx_in 173 (by decide +kernel) (by decide +kernel)
  | 3, _ => exact cx_in 175 (by decide +kernel) (by decide +kernel)
def r_R : String := "CycleCutterModel"
def f_R : u_T := fun k => match k with
  | 0 => ("CycleCutterModel", "thrown", "I", false)
  | 1 => ("CycleCutterModel", "gates", "I", false)
  | 2 => ("CycleCutterModel", "feeds", "I", false)
  | 3 => ("CycleCutterModel", "inputs", "I", false)
  | 4 => ("CycleCutterModel", "outputs", "I", false)
  | 5 => ("CycleCutterModel", "sort", "[I", true)
  | 6 => ("CycleCutterModel", "numbers", "[I", true)
  | 7 => ("CycleCutterModel", "to", "[I", true)
  | 8 => ("CycleCutterModel", "from", "[I", true)
  | 9 => ("CycleCutterModel", "named", "[I", true)
  | 10 => ("CycleCutterModel", "negated", "[Z", true)
  | 11 => ("CycleCutterModel", "value", "[I", true)
  | 12 => ("CycleCutterModel", "laid", "I", false)
  | 13 => ("CycleCutterModel", "tables", "I", false)
  | 14 => ("CycleCutterModel", "words", "[J", true)
  | 15 => ("CycleCutterModel", "input", "[I", true)
  | 16 => ("CycleCutterModel", "low", "[I", true)
  | 17 => ("CycleCutterModel", "high", "[I", true)
  | 18 => ("CycleCutterModel", "far", "[I", true)
  | 19 => ("CycleCutterModel", "roots", "[I", true)
  | _ => ("CycleCutterModel", "marked", "[Z", true)
def y_R : Nat → FieldType := fun k => match k with
  | 0 => .int
  | 1 => .int
  | 2 => .int
  | 3 => .int
  | 4 => .int
  | 5 => .array .int
  | 6 => .array .int
  | 7 => .array .int
  | 8 => .array .int
  | 9 => .array .int
  | 10 => .array .boolean
  | 11 => .array .int
  | 12 => .int
  | 13 => .int
  | 14 => .array .long
  | 15 => .array .int
  | 16 => .array .int
  | 17 => .array .int
  | 18 => .array .int
  | 19 => .array .int
  | _ => .array .boolean
theorem n_R : ∀ a, a < 21 → ∀ b, b < 21 → a ≠ b → (f_R a).2.1 ≠ (f_R b).2.1 := by decide +kernel
theorem y_R_ok : ∀ k, k < 21 → parseFieldDescriptor (f_R k).2.2.1 = some (y_R k) := by decide +kernel
theorem i_R : ∀ w ∈ u_ws r_R f_R 21, w ∈ cx_Tb := by
  intro w hw
  obtain ⟨k, hk, rfl⟩ := List.mem_map.mp hw
  have hk := List.mem_range.mp hk
  match k, hk with
  | 0, _ => exact cx_in 528 (by decide +kernel) (by decide +kernel)
  | 1, _ => exact cx_in 530 (by decide +kernel) (by decide +kernel)
  | 2, _ => exact cx_in 532 (by decide +kernel) (by decide +kernel)
  | 3, _ => exact cx_in 534 (by decide +kernel) (by decide +kernel)
  | 4, _ => exact cx_in 536 (by decide +kernel) (by decide +kernel)
  | 5, _ => exact cx_in 538 (by decide +kernel) (by decide +kernel)
  | 6, _ => exact cx_in 540 (by decide +kernel) (by decide +kernel)
  | 7, _ => exact cx_in 542 (by decide +kernel) (by decide +kernel)
  | 8, _ => exact cx_in 544 (by decide +kernel) (by decide +kernel)
  | 9, _ => exact cx_in 546 (by decide +kernel) (by decide +kernel)
  | 10, _ => exact cx_in 548 (by decide +kernel) (by decide +kernel)
  | 11, _ => exact cx_in 550 (by decide +kernel) (by decide +kernel)
  | 12, _ => exact cx_in 552 (by decide +kernel) (by decide +kernel)
  | 13, _ => exact cx_in 554 (by decide +kernel) (by decide +kernel)
  | 14, _ => exact cx_in 556 (by decide +kernel) (by decide +kernel)
  | 15, _ => exact cx_in 558 (by decide +kernel) (by decide +kernel)
  | 16, _ => exact cx_in 560 (by decide +kernel) (by decide +kernel)
  | 17, _ => exact cx_in 562 (by decide +kernel) (by decide +kernel)
  | 18, _ => exact cx_in 564 (by decide +kernel) (by decide +kernel)
  | 19, _ => exact cx_in 566 (by decide +kernel) (by decide +kernel)
  | 20, _ => exact cx_in 568 (by decide +kernel) (by decide +kernel)
  | k + 21, hk => exact absurd hk (by omega)
abbrev cx_cls : List vw_C := [(r_L, f_L, 5), (r_M, f_M, 11), (r_N, f_N, 12), (r_C, f_C, 4), (r_R, f_R, 21)]
section CXN
variable {p : Program} {l : Launch} {e : Env} {R : Room} {s : State} {m : MethodId} {args : Array Value} {below : List Frame} {meth : Method} {c : Code} {G : cx_G} {cc : ByteArray} {Q : State → Prop}
abbrev g_L : List (Nat × Nat × Nat) := [(12, 0, 0), (18, 0, 1), (22, 0, 2), (27, 0, 3), (30, 0, 4)]
theorem g_L_ok (hx : p.tables.exec = Jvm.exec) (hb : c.code = cc) (hKn : cx_Kn cx_Tb G s) (hcl : cx_cl G = cx_cls) (hown : s.vm.findClass r_L = some m.cls) : ∀ q ∈ g_L, cx_okget p l e R s m args below meth c cc G Q q.1 q.2.1 q.2.2 :=
  List.forall_mem_cons.mpr ⟨cx_getP (host := "") (C := r_L) (T0 := f_L) (N0 := 5) hx hb hKn hown (by rw [hcl]; rfl) i_L (by decide) (Or.inl (cx_in 145 (by decide +kernel) (by decide +kernel))) rfl,
  List.forall_mem_cons.mpr ⟨cx_getP (host := "") (C := r_L) (T0 := f_L) (N0 := 5) hx hb hKn hown (by rw [hcl]; rfl) i_L (by decide) (Or.inl (cx_in 147 (by decide +kernel) (by decide +kernel))) rfl,
  List.forall_mem_cons.mpr ⟨cx_getP (host := "") (C := r_L) (T0 := f_L) (N0 := 5) hx hb hKn hown (by rw [hcl]; rfl) i_L (by decide) (Or.inl (cx_in 149 (by decide +kernel) (by decide +kernel))) rfl,
  List.forall_mem_cons.mpr ⟨cx_getP (host := "") (C := r_L) (T0 := f_L) (N0 := 5) hx hb hKn hown (by rw [hcl]; rfl) i_L (by decide) (Or.inl (cx_in 151 (by decide +kernel) (by decide +kernel))) rfl,
  List.forall_mem_cons.mpr ⟨cx_getP (host := "") (C := r_L) (T0 := f_L) (N0 := 5) hx hb hKn hown (by rw [hcl]; rfl) i_L (by decide) (Or.inl (cx_in 152 (by decide +kernel) (by decide +kernel))) rfl,
  fun _ h => absurd h List.not_mem_nil⟩⟩⟩⟩⟩
abbrev p_L : List (Nat × Nat × Nat × Int32) := [(30, 0, 4, 0)]
theorem p_L_ok (hx : p.tables.exec = Jvm.exec) (hb : c.code = cc) (hKn : cx_Kn cx_Tb G s) (hcl : cx_cl G = cx_cls) (hown : s.vm.findClass r_L = some m.cls) : ∀ q ∈ p_L, cx_okput p l e R s m args below meth c cc G Q q.1 q.2.1 q.2.2.1 q.2.2.2 :=
  List.forall_mem_cons.mpr ⟨cx_putP (C := r_L) (T0 := f_L) (N0 := 5) hx hb hKn hown (by rw [hcl]; rfl) i_L y_L y_L_ok n_L (by decide) (cx_in 152 (by decide +kernel) (by decide +kernel)) rfl rfl (Or.inl ⟨rfl, rfl⟩),
  fun _ h => absurd h List.not_mem_nil⟩
abbrev g_M : List (Nat × Nat × Nat) := [(11, 1, 0), (15, 1, 1), (18, 1, 2), (21, 1, 3), (24, 1, 4), (27, 1, 5), (30, 1, 6), (34, 1, 7), (37, 1, 8), (40, 1, 9), (44, 1, 10)]
theorem g_M_ok (hx : p.tables.exec = Jvm.exec) (hb : c.code = cc) (hKn : cx_Kn cx_Tb G s) (hcl : cx_cl G = cx_cls) (hown : s.vm.findClass r_M = some m.cls) : ∀ q ∈ g_M, cx_okget p l e R s m args below meth c cc G Q q.1 q.2.1 q.2.2 :=
  List.forall_mem_cons.mpr ⟨cx_getP (host := "") (C := r_M) (T0 := f_M) (N0 := 11) hx hb hKn hown (by rw [hcl]; rfl) i_M (by decide) (Or.inl (cx_in 108 (by decide +kernel) (by decide +kernel))) rfl,
  List.forall_mem_cons.mpr ⟨cx_getP (host := "") (C := r_M) (T0 := f_M) (N0 := 11) hx hb hKn hown (by rw [hcl]; rfl) i_M (by decide) (Or.inl (cx_in 109 (by decide +kernel) (by decide +kernel))) rfl,
  List.forall_mem_cons.mpr ⟨cx_getP (host := "") (C := r_M) (T0 := f_M) (N0 := 11) hx hb hKn hown (by rw [hcl]; rfl) i_M (by decide) (Or.inl (cx_in 110 (by decide +kernel) (by decide +kernel))) rfl,
  List.forall_mem_cons.mpr ⟨cx_getP (host := "") (C := r_M) (T0 := f_M) (N0 := 11) hx hb hKn hown (by rw [hcl]; rfl) i_M (by decide) (Or.inl (cx_in 111 (by decide +kernel) (by decide +kernel))) rfl,
  List.forall_mem_cons.mpr ⟨cx_getP (host := "") (C := r_M) (T0 := f_M) (N0 := 11) hx hb hKn hown (by rw [hcl]; rfl) i_M (by decide) (Or.inl (cx_in 112 (by decide +kernel) (by decide +kernel))) rfl,
  List.forall_mem_cons.mpr ⟨cx_getP (host := "") (C := r_M) (T0 := f_M) (N0 := 11) hx hb hKn hown (by rw [hcl]; rfl) i_M (by decide) (Or.inl (cx_in 113 (by decide +kernel) (by decide +kernel))) rfl,
  List.forall_mem_cons.mpr ⟨cx_getP (host := "") (C := r_M) (T0 := f_M) (N0 := 11) hx hb hKn hown (by rw [hcl]; rfl) i_M (by decide) (Or.inl (cx_in 114 (by decide +kernel) (by decide +kernel))) rfl,
  List.forall_mem_cons.mpr ⟨cx_getP (host := "") (C := r_M) (T0 := f_M) (N0 := 11) hx hb hKn hown (by rw [hcl]; rfl) i_M (by decide) (Or.inl (cx_in 115 (by decide +kernel) (by decide +kernel))) rfl,
  List.forall_mem_cons.mpr ⟨cx_getP (host := "") (C := r_M) (T0 := f_M) (N0 := 11) hx hb hKn hown (by rw [hcl]; rfl) i_M (by decide) (Or.inl (cx_in 116 (by decide +kernel) (by decide +kernel))) rfl,
  List.forall_mem_cons.mpr ⟨cx_getP (host := "") (C := r_M) (T0 := f_M) (N0 := 11) hx hb hKn hown (by rw [hcl]; rfl) i_M (by decide) (Or.inl (cx_in 118 (by decide +kernel) (by decide +kernel))) rfl,
  List.forall_mem_cons.mpr ⟨cx_getP (host := "") (C := r_M) (T0 := f_M) (N0 := 11) hx hb hKn hown (by rw [hcl]; rfl) i_M (by decide) (Or.inl (cx_in 119 (by decide +kernel) (by decide +kernel))) rfl,
  fun _ h => absurd h List.not_mem_nil⟩⟩⟩⟩⟩⟩⟩⟩⟩⟩⟩
abbrev p_M : List (Nat × Nat × Nat × Int32) := [(40, 1, 9, 0), (44, 1, 10, 0)]
theorem p_M_ok (hx : p.tables.exec = Jvm.exec) (hb : c.code = cc) (hKn : cx_Kn cx_Tb G s) (hcl : cx_cl G = cx_cls) (hown : s.vm.findClass r_M = some m.cls) : ∀ q ∈ p_M, cx_okput p l e R s m args below meth c cc G Q q.1 q.2.1 q.2.2.1 q.2.2.2 :=
  List.forall_mem_cons.mpr ⟨cx_putP (C := r_M) (T0 := f_M) (N0 := 11) hx hb hKn hown (by rw [hcl]; rfl) i_M y_M y_M_ok n_M (by decide) (cx_in 118 (by decide +kernel) (by decide +kernel)) rfl rfl (Or.inl ⟨rfl, rfl⟩),
  List.forall_mem_cons.mpr ⟨cx_putP (C := r_M) (T0 := f_M) (N0 := 11) hx hb hKn hown (by rw [hcl]; rfl) i_M y_M y_M_ok n_M (by decide) (cx_in 119 (by decide +kernel) (by decide +kernel)) rfl rfl (Or.inl ⟨rfl, rfl⟩),
  fun _ h => absurd h List.not_mem_nil⟩⟩
abbrev g_N : List (Nat × Nat × Nat) := [(9, 2, 0), (15, 2, 1), (18, 2, 2), (21, 2, 3), (24, 2, 4), (28, 2, 5), (33, 2, 6), (36, 2, 7), (39, 2, 8), (43, 2, 9), (46, 2, 10), (49, 2, 11)]
theorem g_N_ok (hx : p.tables.exec = Jvm.exec) (hb : c.code = cc) (hKn : cx_Kn cx_Tb G s) (hcl : cx_cl G = cx_cls) (hown : s.vm.findClass r_N = some m.cls) : ∀ q ∈ g_N, cx_okget p l e R s m args below meth c cc G Q q.1 q.2.1 q.2.2 :=
  List.forall_mem_cons.mpr ⟨cx_getP (host := "") (C := r_N) (T0 := f_N) (N0 := 12) hx hb hKn hown (by rw [hcl]; rfl) i_N (by decide) (Or.inl (cx_in 53 (by decide +kernel) (by decide +kernel))) rfl,
  List.forall_mem_cons.mpr ⟨cx_getP (host := "") (C := r_N) (T0 := f_N) (N0 := 12) hx hb hKn hown (by rw [hcl]; rfl) i_N (by decide) (Or.inl (cx_in 54 (by decide +kernel) (by decide +kernel))) rfl,
  List.forall_mem_cons.mpr ⟨cx_getP (host := "") (C := r_N) (T0 := f_N) (N0 := 12) hx hb hKn hown (by rw [hcl]; rfl) i_N (by decide) (Or.inl (cx_in 55 (by decide +kernel) (by decide +kernel))) rfl,
  List.forall_mem_cons.mpr ⟨cx_getP (host := "") (C := r_N) (T0 := f_N) (N0 := 12) hx hb hKn hown (by rw [hcl]; rfl) i_N (by decide) (Or.inl (cx_in 56 (by decide +kernel) (by decide +kernel))) rfl,
  List.forall_mem_cons.mpr ⟨cx_getP (host := "") (C := r_N) (T0 := f_N) (N0 := 12) hx hb hKn hown (by rw [hcl]; rfl) i_N (by decide) (Or.inl (cx_in 57 (by decide +kernel) (by decide +kernel))) rfl,
  List.forall_mem_cons.mpr ⟨cx_getP (host := "") (C := r_N) (T0 := f_N) (N0 := 12) hx hb hKn hown (by rw [hcl]; rfl) i_N (by decide) (Or.inl (cx_in 58 (by decide +kernel) (by decide +kernel))) rfl,
  List.forall_mem_cons.mpr ⟨cx_getP (host := "") (C := r_N) (T0 := f_N) (N0 := 12) hx hb hKn hown (by rw [hcl]; rfl) i_N (by decide) (Or.inl (cx_in 59 (by decide +kernel) (by decide +kernel))) rfl,
  List.forall_mem_cons.mpr ⟨cx_getP (host := "") (C := r_N) (T0 := f_N) (N0 := 12) hx hb hKn hown (by rw [hcl]; rfl) i_N (by decide) (Or.inl (cx_in 60 (by decide +kernel) (by decide +kernel))) rfl,
  List.forall_mem_cons.mpr ⟨cx_getP (host := "") (C := r_N) (T0 := f_N) (N0 := 12) hx hb hKn hown (by rw [hcl]; rfl) i_N (by decide) (Or.inl (cx_in 61 (by decide +kernel) (by decide +kernel))) rfl,
  List.forall_mem_cons.mpr ⟨cx_getP (host := "") (C := r_N) (T0 := f_N) (N0 := 12) hx hb hKn hown (by rw [hcl]; rfl) i_N (by decide) (Or.inl (cx_in 63 (by decide +kernel) (by decide +kernel))) rfl,
  List.forall_mem_cons.mpr ⟨cx_getP (host := "") (C := r_N) (T0 := f_N) (N0 := 12) hx hb hKn hown (by rw [hcl]; rfl) i_N (by decide) (Or.inl (cx_in 65 (by decide +kernel) (by decide +kernel))) rfl,
  List.forall_mem_cons.mpr ⟨cx_getP (host := "") (C := r_N) (T0 := f_N) (N0 := 12) hx hb hKn hown (by rw [hcl]; rfl) i_N (by decide) (Or.inl (cx_in 67 (by decide +kernel) (by decide +kernel))) rfl,
  fun _ h => absurd h List.not_mem_nil⟩⟩⟩⟩⟩⟩⟩⟩⟩⟩⟩⟩
abbrev p_N : List (Nat × Nat × Nat × Int32) := [(39, 2, 8, 0), (43, 2, 9, 0), (46, 2, 10, 0), (49, 2, 11, 1)]
theorem p_N_ok (hx : p.tables.exec = Jvm.exec) (hb : c.code = cc) (hKn : cx_Kn cx_Tb G s) (hcl : cx_cl G = cx_cls) (hown : s.vm.findClass r_N = some m.cls) : ∀ q ∈ p_N, cx_okput p l e R s m args below meth c cc G Q q.1 q.2.1 q.2.2.1 q.2.2.2 :=
  List.forall_mem_cons.mpr ⟨cx_putP (C := r_N) (T0 := f_N) (N0 := 12) hx hb hKn hown (by rw [hcl]; rfl) i_N y_N y_N_ok n_N (by decide) (cx_in 61 (by decide +kernel) (by decide +kernel)) rfl rfl (Or.inl ⟨rfl, rfl⟩),
  List.forall_mem_cons.mpr ⟨cx_putP (C := r_N) (T0 := f_N) (N0 := 12) hx hb hKn hown (by rw [hcl]; rfl) i_N y_N y_N_ok n_N (by decide) (cx_in 63 (by decide +kernel) (by decide +kernel)) rfl rfl (Or.inl ⟨rfl, rfl⟩),
  List.forall_mem_cons.mpr ⟨cx_putP (C := r_N) (T0 := f_N) (N0 := 12) hx hb hKn hown (by rw [hcl]; rfl) i_N y_N y_N_ok n_N (by decide) (cx_in 65 (by decide +kernel) (by decide +kernel)) rfl rfl (Or.inl ⟨rfl, rfl⟩),
  List.forall_mem_cons.mpr ⟨cx_putP (C := r_N) (T0 := f_N) (N0 := 12) hx hb hKn hown (by rw [hcl]; rfl) i_N y_N y_N_ok n_N (by decide) (cx_in 67 (by decide +kernel) (by decide +kernel)) rfl rfl (Or.inr ⟨rfl, rfl⟩),
  fun _ h => absurd h List.not_mem_nil⟩⟩⟩⟩
abbrev g_C : List (Nat × Nat × Nat) := [(12, 3, 0), (19, 3, 1), (23, 3, 2), (27, 3, 3), (63, 2, 8), (81, 0, 0), (105, 1, 8), (108, 0, 1), (111, 0, 2), (124, 2, 9), (127, 2, 10), (130, 0, 4), (131, 1, 10)]
theorem g_C_ok (hx : p.tables.exec = Jvm.exec) (hb : c.code = cc) (hKn : cx_Kn cx_Tb G s) (hcl : cx_cl G = cx_cls) (hown : s.vm.findClass r_C = some m.cls) : ∀ q ∈ g_C, cx_okget p l e R s m args below meth c cc G Q q.1 q.2.1 q.2.2 :=
  List.forall_mem_cons.mpr ⟨cx_getP (host := "") (C := r_C) (T0 := f_C) (N0 := 4) hx hb hKn hown (by rw [hcl]; rfl) i_C (by decide) (Or.inl (cx_in 165 (by decide +kernel) (by decide +kernel))) rfl,
  List.forall_mem_cons.mpr ⟨cx_getP (host := "") (C := r_C) (T0 := f_C) (N0 := 4) hx hb hKn hown (by rw [hcl]; rfl) i_C (by decide) (Or.inl (cx_in 166 (by decide +kernel) (by decide +kernel))) rfl,
  List.forall_mem_cons.mpr ⟨cx_getP (host := "") (C := r_C) (T0 := f_C) (N0 := 4) hx hb hKn hown (by rw [hcl]; rfl) i_C (by decide) (Or.inl (cx_in 167 (by decide +kernel) (by decide +kernel))) rfl,
  List.forall_mem_cons.mpr ⟨cx_getP (host := "") (C := r_C) (T0 := f_C) (N0 := 4) hx hb hKn hown (by rw [hcl]; rfl) i_C (by decide) (Or.inl (cx_in 168 (by decide +kernel) (by decide +kernel))) rfl,
  List.forall_mem_cons.mpr ⟨cx_getP (host := "CycleCutter") (C := r_N) (T0 := f_N) (N0 := 12) hx hb hKn hown (by rw [hcl]; rfl) i_N (by decide) (Or.inr (cx_in 62 (by decide +kernel) (by decide +kernel))) rfl,
  List.forall_mem_cons.mpr ⟨cx_getP (host := "CycleCutter") (C := r_L) (T0 := f_L) (N0 := 5) hx hb hKn hown (by rw [hcl]; rfl) i_L (by decide) (Or.inr (cx_in 146 (by decide +kernel) (by decide +kernel))) rfl,
  List.forall_mem_cons.mpr ⟨cx_getP (host := "CycleCutter") (C := r_M) (T0 := f_M) (N0 := 11) hx hb hKn hown (by rw [hcl]; rfl) i_M (by decide) (Or.inr (cx_in 117 (by decide +kernel) (by decide +kernel))) rfl,
  List.forall_mem_cons.mpr ⟨cx_getP (host := "CycleCutter") (C := r_L) (T0 := f_L) (N0 := 5) hx hb hKn hown (by rw [hcl]; rfl) i_L (by decide) (Or.inr (cx_in 148 (by decide +kernel) (by decide +kernel))) rfl,
  List.forall_mem_cons.mpr ⟨cx_getP (host := "CycleCutter") (C := r_L) (T0 := f_L) (N0 := 5) hx hb hKn hown (by rw [hcl]; rfl) i_L (by decide) (Or.inr (cx_in 150 (by decide +kernel) (by decide +kernel))) rfl,
  List.forall_mem_cons.mpr ⟨cx_getP (host := "CycleCutter") (C := r_N) (T0 := f_N) (N0 := 12) hx hb hKn hown (by rw [hcl]; rfl) i_N (by decide) (Or.inr (cx_in 64 (by decide +kernel) (by decide +kernel))) rfl,
  List.forall_mem_cons.mpr ⟨cx_getP (host := "CycleCutter") (C := r_N) (T0 := f_N) (N0 := 12) hx hb hKn hown (by rw [hcl]; rfl) i_N (by decide) (Or.inr (cx_in 66 (by decide +kernel) (by decide +kernel))) rfl,
  List.forall_mem_cons.mpr ⟨cx_getP (host := "CycleCutter") (C := r_L) (T0 := f_L) (N0 := 5) hx hb hKn hown (by rw [hcl]; rfl) i_L (by decide) (Or.inr (cx_in 153 (by decide +kernel) (by decide +kernel))) rfl,
  List.forall_mem_cons.mpr ⟨cx_getP (host := "CycleCutter") (C := r_M) (T0 := f_M) (N0 := 11) hx hb hKn hown (by rw [hcl]; rfl) i_M (by decide) (Or.inr (cx_in 120 (by decide +kernel) (by decide +kernel))) rfl,
  fun _ h => absurd h List.not_mem_nil⟩⟩⟩⟩⟩⟩⟩⟩⟩⟩⟩⟩⟩
abbrev p_C : List (Nat × Nat × Nat × Int32) := [(27, 3, 3, 0)]
theorem p_C_ok (hx : p.tables.exec = Jvm.exec) (hb : c.code = cc) (hKn : cx_Kn cx_Tb G s) (hcl : cx_cl G = cx_cls) (hown : s.vm.findClass r_C = some m.cls) : ∀ q ∈ p_C, cx_okput p l e R s m args below meth c cc G Q q.1 q.2.1 q.2.2.1 q.2.2.2 :=
  List.forall_mem_cons.mpr ⟨cx_putP (C := r_C) (T0 := f_C) (N0 := 4) hx hb hKn hown (by rw [hcl]; rfl) i_C y_C y_C_ok n_C (by decide) (cx_in 168 (by decide +kernel) (by decide +kernel)) rfl rfl (Or.inl ⟨rfl, rfl⟩),
  fun _ h => absurd h List.not_mem_nil⟩
abbrev g_R : List (Nat × Nat × Nat) := [(7, 4, 5), (13, 4, 6), (16, 4, 7), (19, 4, 8), (22, 4, 9), (25, 4, 10), (29, 4, 11), (32, 4, 14), (36, 4, 15), (39, 4, 16), (42, 4, 17), (45, 4, 18), (48, 4, 19), (51, 4, 20), (54, 4, 0), (58, 4, 1), (65, 4, 3), (72, 4, 2), (75, 4, 4), (78, 4, 12), (81, 4, 13)]
theorem g_R_ok (hx : p.tables.exec = Jvm.exec) (hb : c.code = cc) (hKn : cx_Kn cx_Tb G s) (hcl : cx_cl G = cx_cls) (hown : s.vm.findClass r_R = some m.cls) : ∀ q ∈ g_R, cx_okget p l e R s m args below meth c cc G Q q.1 q.2.1 q.2.2 :=
  List.forall_mem_cons.mpr ⟨cx_getP (host := "") (C := r_R) (T0 := f_R) (N0 := 21) hx hb hKn hown (by rw [hcl]; rfl) i_R (by decide) (Or.inl (cx_in 512 (by decide +kernel) (by decide +kernel))) rfl,
  List.forall_mem_cons.mpr ⟨cx_getP (host := "") (C := r_R) (T0 := f_R) (N0 := 21) hx hb hKn hown (by rw [hcl]; rfl) i_R (by decide) (Or.inl (cx_in 513 (by decide +kernel) (by decide +kernel))) rfl,
  List.forall_mem_cons.mpr ⟨cx_getP (host := "") (C := r_R) (T0 := f_R) (N0 := 21) hx hb hKn hown (by rw [hcl]; rfl) i_R (by decide) (Or.inl (cx_in 514 (by decide +kernel) (by decide +kernel))) rfl,
  List.forall_mem_cons.mpr ⟨cx_getP (host := "") (C := r_R) (T0 := f_R) (N0 := 21) hx hb hKn hown (by rw [hcl]; rfl) i_R (by decide) (Or.inl (cx_in 515 (by decide +kernel) (by decide +kernel))) rfl,
  List.forall_mem_cons.mpr ⟨cx_getP (host := "") (C := r_R) (T0 := f_R) (N0 := 21) hx hb hKn hown (by rw [hcl]; rfl) i_R (by decide) (Or.inl (cx_in 516 (by decide +kernel) (by decide +kernel))) rfl,
  List.forall_mem_cons.mpr ⟨cx_getP (host := "") (C := r_R) (T0 := f_R) (N0 := 21) hx hb hKn hown (by rw [hcl]; rfl) i_R (by decide) (Or.inl (cx_in 517 (by decide +kernel) (by decide +kernel))) rfl,
  List.forall_mem_cons.mpr ⟨cx_getP (host := "") (C := r_R) (T0 := f_R) (N0 := 21) hx hb hKn hown (by rw [hcl]; rfl) i_R (by decide) (Or.inl (cx_in 518 (by decide +kernel) (by decide +kernel))) rfl,
  List.forall_mem_cons.mpr ⟨cx_getP (host := "") (C := r_R) (T0 := f_R) (N0 := 21) hx hb hKn hown (by rw [hcl]; rfl) i_R (by decide) (Or.inl (cx_in 521 (by decide +kernel) (by decide +kernel))) rfl,
  List.forall_mem_cons.mpr ⟨cx_getP (host := "") (C := r_R) (T0 := f_R) (N0 := 21) hx hb hKn hown (by rw [hcl]; rfl) i_R (by decide) (Or.inl (cx_in 522 (by decide +kernel) (by decide +kernel))) rfl,
  List.forall_mem_cons.mpr ⟨cx_getP (host := "") (C := r_R) (T0 := f_R) (N0 := 21) hx hb hKn hown (by rw [hcl]; rfl) i_R (by decide) (Or.inl (cx_in 523 (by decide +kernel) (by decide +kernel))) rfl,
  List.forall_mem_cons.mpr ⟨cx_getP (host := "") (C := r_R) (T0 := f_R) (N0 := 21) hx hb hKn hown (by rw [hcl]; rfl) i_R (by decide) (Or.inl (cx_in 524 (by decide +kernel) (by decide +kernel))) rfl,
  List.forall_mem_cons.mpr ⟨cx_getP (host := "") (C := r_R) (T0 := f_R) (N0 := 21) hx hb hKn hown (by rw [hcl]; rfl) i_R (by decide) (Or.inl (cx_in 525 (by decide +kernel) (by decide +kernel))) rfl,
  List.forall_mem_cons.mpr ⟨cx_getP (host := "") (C := r_R) (T0 := f_R) (N0 := 21) hx hb hKn hown (by rw [hcl]; rfl) i_R (by decide) (Or.inl (cx_in 526 (by decide +kernel) (by decide +kernel))) rfl,
  List.forall_mem_cons.mpr ⟨cx_getP (host := "") (C := r_R) (T0 := f_R) (N0 := 21) hx hb hKn hown (by rw [hcl]; rfl) i_R (by decide) (Or.inl (cx_in 527 (by decide +kernel) (by decide +kernel))) rfl,
  List.forall_mem_cons.mpr ⟨cx_getP (host := "") (C := r_R) (T0 := f_R) (N0 := 21) hx hb hKn hown (by rw [hcl]; rfl) i_R (by decide) (Or.inl (cx_in 507 (by decide +kernel) (by decide +kernel))) rfl,
  List.forall_mem_cons.mpr ⟨cx_getP (host := "") (C := r_R) (T0 := f_R) (N0 := 21) hx hb hKn hown (by rw [hcl]; rfl) i_R (by decide) (Or.inl (cx_in 508 (by decide +kernel) (by decide +kernel))) rfl,
  List.forall_mem_cons.mpr ⟨cx_getP (host := "") (C := r_R) (T0 := f_R) (N0 := 21) hx hb hKn hown (by rw [hcl]; rfl) i_R (by decide) (Or.inl (cx_in 510 (by decide +kernel) (by decide +kernel))) rfl,
  List.forall_mem_cons.mpr ⟨cx_getP (host := "") (C := r_R) (T0 := f_R) (N0 := 21) hx hb hKn hown (by rw [hcl]; rfl) i_R (by decide) (Or.inl (cx_in 509 (by decide +kernel) (by decide +kernel))) rfl,
  List.forall_mem_cons.mpr ⟨cx_getP (host := "") (C := r_R) (T0 := f_R) (N0 := 21) hx hb hKn hown (by rw [hcl]; rfl) i_R (by decide) (Or.inl (cx_in 511 (by decide +kernel) (by decide +kernel))) rfl,
  List.forall_mem_cons.mpr ⟨cx_getP (host := "") (C := r_R) (T0 := f_R) (N0 := 21) hx hb hKn hown (by rw [hcl]; rfl) i_R (by decide) (Or.inl (cx_in 519 (by decide +kernel) (by decide +kernel))) rfl,
  List.forall_mem_cons.mpr ⟨cx_getP (host := "") (C := r_R) (T0 := f_R) (N0 := 21) hx hb hKn hown (by rw [hcl]; rfl) i_R (by decide) (Or.inl (cx_in 520 (by decide +kernel) (by decide +kernel))) rfl,
  fun _ h => absurd h List.not_mem_nil⟩⟩⟩⟩⟩⟩⟩⟩⟩⟩⟩⟩⟩⟩⟩⟩⟩⟩⟩⟩⟩
abbrev p_R : List (Nat × Nat × Nat × Int32) := [(54, 4, 0, 0), (58, 4, 1, 0), (65, 4, 3, 0), (72, 4, 2, 0), (75, 4, 4, 0), (78, 4, 12, 0), (81, 4, 13, 0)]
theorem p_R_ok (hx : p.tables.exec = Jvm.exec) (hb : c.code = cc) (hKn : cx_Kn cx_Tb G s) (hcl : cx_cl G = cx_cls) (hown : s.vm.findClass r_R = some m.cls) : ∀ q ∈ p_R, cx_okput p l e R s m args below meth c cc G Q q.1 q.2.1 q.2.2.1 q.2.2.2 :=
  List.forall_mem_cons.mpr ⟨cx_putP (C := r_R) (T0 := f_R) (N0 := 21) hx hb hKn hown (by rw [hcl]; rfl) i_R y_R y_R_ok n_R (by decide) (cx_in 507 (by decide +kernel) (by decide +kernel)) rfl rfl (Or.inl ⟨rfl, rfl⟩),
  List.forall_mem_cons.mpr ⟨cx_putP (C := r_R) (T0 := f_R) (N0 := 21) hx hb hKn hown (by rw [hcl]; rfl) i_R y_R y_R_ok n_R (by decide) (cx_in 508 (by decide +kernel) (by decide +kernel)) rfl rfl (Or.inl ⟨rfl, rfl⟩),
  List.forall_mem_cons.mpr ⟨cx_putP (C := r_R) (T0 := f_R) (N0 := 21) hx hb hKn hown (by rw [hcl]; rfl) i_R y_R y_R_ok n_R (by decide) (cx_in 510 (by decide +kernel) (by decide +kernel)) rfl rfl (Or.inl ⟨rfl, rfl⟩),
  List.forall_mem_cons.mpr ⟨cx_putP (C := r_R) (T0 := f_R) (N0 := 21) hx hb hKn hown (by rw [hcl]; rfl) i_R y_R y_R_ok n_R (by decide) (cx_in 509 (by decide +kernel) (by decide +kernel)) rfl rfl (Or.inl ⟨rfl, rfl⟩),
  List.forall_mem_cons.mpr ⟨cx_putP (C := r_R) (T0 := f_R) (N0 := 21) hx hb hKn hown (by rw [hcl]; rfl) i_R y_R y_R_ok n_R (by decide) (cx_in 511 (by decide +kernel) (by decide +kernel)) rfl rfl (Or.inl ⟨rfl, rfl⟩),
  List.forall_mem_cons.mpr ⟨cx_putP (C := r_R) (T0 := f_R) (N0 := 21) hx hb hKn hown (by rw [hcl]; rfl) i_R y_R y_R_ok n_R (by decide) (cx_in 519 (by decide +kernel) (by decide +kernel)) rfl rfl (Or.inl ⟨rfl, rfl⟩),
  List.forall_mem_cons.mpr ⟨cx_putP (C := r_R) (T0 := f_R) (N0 := 21) hx hb hKn hown (by rw [hcl]; rfl) i_R y_R y_R_ok n_R (by decide) (cx_in 520 (by decide +kernel) (by decide +kernel)) rfl rfl (Or.inl ⟨rfl, rfl⟩),
  fun _ h => absurd h List.not_mem_nil⟩⟩⟩⟩⟩⟩⟩
end CXN
abbrev l_L : List (Nat × Int64) := []
theorem l_L_ok {G : cx_G} {s : State} {args : Array Value} (hKn : cx_Kn cx_Tb G s) : ∀ q ∈ l_L, (Jvm.Cond.constantLong "CycleCutter$Layout" q.1 q.2).before args s = true :=
  fun _ h => absurd h List.not_mem_nil
abbrev l_M : List (Nat × Int64) := []
theorem l_M_ok {G : cx_G} {s : State} {args : Array Value} (hKn : cx_Kn cx_Tb G s) : ∀ q ∈ l_M, (Jvm.Cond.constantLong "CycleCutter$Multiplexers" q.1 q.2).before args s = true :=
  fun _ h => absurd h List.not_mem_nil
abbrev l_N : List (Nat × Int64) := [(61, -1)]
theorem l_N_ok {G : cx_G} {s : State} {args : Array Value} (hKn : cx_Kn cx_Tb G s) : ∀ q ∈ l_N, (Jvm.Cond.constantLong "CycleCutter$Net" q.1 q.2).before args s = true :=
  List.forall_mem_cons.mpr ⟨hKn.1 _ (cx_in 222 (by decide +kernel) (by decide +kernel)) args,
  fun _ h => absurd h List.not_mem_nil⟩
abbrev l_C : List (Nat × Int64) := []
theorem l_C_ok {G : cx_G} {s : State} {args : Array Value} (hKn : cx_Kn cx_Tb G s) : ∀ q ∈ l_C, (Jvm.Cond.constantLong "CycleCutter" q.1 q.2).before args s = true :=
  fun _ h => absurd h List.not_mem_nil
abbrev l_R : List (Nat × Int64) := []
theorem l_R_ok {G : cx_G} {s : State} {args : Array Value} (hKn : cx_Kn cx_Tb G s) : ∀ q ∈ l_R, (Jvm.Cond.constantLong "CycleCutterModel" q.1 q.2).before args s = true :=
  fun _ h => absurd h List.not_mem_nil
abbrev l_J : List (Nat × Int64) := [(314, 6148914691236517205), (316, 3689348814741910323), (318, 1085102592571150095)]
theorem l_J_ok {G : cx_G} {s : State} {args : Array Value} (hKn : cx_Kn cx_Tb G s) : ∀ q ∈ l_J, (Jvm.Cond.constantLong "java/lang/Long" q.1 q.2).before args s = true :=
  List.forall_mem_cons.mpr ⟨hKn.1 _ (cx_in 474 (by decide +kernel) (by decide +kernel)) args,
  List.forall_mem_cons.mpr ⟨hKn.1 _ (cx_in 475 (by decide +kernel) (by decide +kernel)) args,
  List.forall_mem_cons.mpr ⟨hKn.1 _ (cx_in 476 (by decide +kernel) (by decide +kernel)) args,
  fun _ h => absurd h List.not_mem_nil⟩⟩⟩
