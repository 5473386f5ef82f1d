/-! The methods' contracts: by program (wip/whole/gen_con.py). -/
/-- Math.max: by the kit's row -/
def cx_wM (Tb : List Cond) (own : String) (z : Nat) : Prop := Jvm.Cond.methodLink own z Lib.Math.max.name ∈ Tb ∧ Jvm.Cond.static Lib.Math.max.name ∈ Tb ∧ Jvm.Cond.initialized "java/lang/Math" ∈ Tb ∧ Jvm.Cond.code Lib.Math.max.name Lib.Math.max.code 2 (some .int) ∈ Tb
theorem cx_max {p : Program} {l : Launch} {e : Env} {R : Room} {s : State} {m : MethodId} {args : Array Value} {below : List Frame} {meth : Method} {c : Code} {G : cx_G} {nL mc ms : Nat} {cc : ByteArray} {Tb : List Cond} {Rq : cx_R} (hx : p.tables.exec = Jvm.exec) (hb : c.code = cc) (hml : c.maxLocals = nL) (hKn : cx_Kn Tb G s) {own : String} (hown : s.vm.findClass own = some m.cls) {z : Nat} (hw : cx_wM Tb own z) (hR : 1 ≤ R.frames ∧ 21 ≤ R.locals ∧ mc ≤ R.cells ∧ ms ≤ R.slots) :
    cx_okcall p l e R s m args below meth c cc G nL mc ms (cx_F1 G mc ms) (cx_Q below G s mc ms Rq) Rq (.invokestatic z) sp_J_max 2 0 0 := by
  intro pc H locs k n ls as rest ws Rf hdg hna hcats hk hn hF hls hf hthr hret
  obtain ⟨a, b, rfl, ha, hb2, h⟩ := hf
  refine va_mmax hx hb (by rw [hml, hls]) hown (hKn.1 _ hw.1 args) (hKn.1 _ hw.2.1 args) (hKn.1 _ hw.2.2.1 args) (hKn.1 _ hw.2.2.2 args) hR.1 ?_ (Nat.le_trans hk hR.2.2.1) (Nat.le_trans hn hR.2.2.2) (x := nI a) (y := nI b) hdg ?_
  · have := hR.2.1
    show ((rest.map (cx_v G)).map fun v => v.category).sum + 13 ≤ _
    rw [cx_cats_eq]
    omega
  · have e : (if nI a < nI b then nI b else nI a) = nI (max a b) := by
      by_cases q : a < b
      · rw [if_pos ((nI_ltI ha hb2).mpr q), Nat.max_eq_right (by omega)]
      · rw [if_neg (fun q2 => q ((nI_ltI ha hb2).mp q2)), Nat.max_eq_left (by omega)]
    rw [e]
    exact hret _ _ H locs h hF
/-- a throw's words by their places -/
def cx_atB (L : List Cond) (ix : List Nat) : Bool := match L, ix with
  | [], _ => true
  | a :: r, i :: ix => (match i with
    | 0 => decide (a = .isRef (.static "java/lang/Throwable" "UNASSIGNED_STACK" "[Ljava/lang/StackTraceElement;") ∨ a = .isRef (.static "java/lang/Throwable" "SUPPRESSED_SENTINEL" "Ljava/util/List;") ∨ a = .laysStatic "java/lang/Throwable" "UNASSIGNED_STACK" "[Ljava/lang/StackTraceElement;" ∨ a = .laysStatic "java/lang/Throwable" "SUPPRESSED_SENTINEL" "Ljava/util/List;")
    | i + 1 => decide (lw_tbl[i]? = some a) && cx_stB a) && cx_atB r ix
  | _ :: _, [] => false
theorem cx_ats {L : List Cond} : ∀ {ix : List Nat}, cx_atB L ix = true → ∀ a ∈ L, a ∈ cx_Tb ∨ a = .isRef (.static "java/lang/Throwable" "UNASSIGNED_STACK" "[Ljava/lang/StackTraceElement;") ∨ a = .isRef (.static "java/lang/Throwable" "SUPPRESSED_SENTINEL" "Ljava/util/List;") ∨ a = .laysStatic "java/lang/Throwable" "UNASSIGNED_STACK" "[Ljava/lang/StackTraceElement;" ∨ a = .laysStatic "java/lang/Throwable" "SUPPRESSED_SENTINEL" "Ljava/util/List;" := by
  induction L with
  | nil => intro ix _ a ha; cases ha
  | cons b r ih =>
    intro ix h a ha
    cases ix with
    | nil => cases h
    | cons i ix =>
      have h2 := Bool.and_eq_true_iff.mp h
      rcases List.mem_cons.mp ha with rfl | ha
      · cases i with
        | zero => exact Or.inr (of_decide_eq_true h2.1)
        | succ i =>
          have h3 := Bool.and_eq_true_iff.mp h2.1
          exact Or.inl (cx_in i (of_decide_eq_true h3.1) h3.2)
      · exact ih h2.2 a ha
abbrev cx_nt (l : Launch) : Prop := ∀ e : Env, l.admits e → e.platform.stackTraces = false
abbrev rm_M_dropAll : Room := { frames := 0, cells := 0, slots := 0, locals := 0 }
theorem c_M_dropAll {l : Launch} {G : cx_G} (hG : cx_okG G) (hcl : cx_cl G = cx_cls) : cx_M cx_Tb l G m_M_dropAll prog_3_method_2_code 2 none rm_M_dropAll sp_M_dropAll :=
  cx_mk hG (Sp := []) (Ex := []) k_M_dropAll (fun S => g_M_ok S.1 S.2.1 S.2.2.2.2.2.2 hcl S.2.2.2.2.2.1) (fun S => p_M_ok S.1 S.2.1 S.2.2.2.2.2.2 hcl S.2.2.2.2.2.1) (fun h => l_M_ok h)
    (fun S => fun _ h => absurd h List.not_mem_nil)
    (fun S => fun _ h => absurd h List.not_mem_nil) rfl pu_M_dropAll
abbrev rm_L_dropAll : Room := { frames := 1, cells := 0, slots := 0, locals := 21 }
theorem wl_0 : cx_wV cx_Tb "CycleCutter$Layout" r_M "" 34 0 m_M_dropAll prog_3_method_2_code 2 none := ⟨Or.inl (cx_in 190 (by decide +kernel) (by decide +kernel)), ⟨cx_in 191 (by decide +kernel) (by decide +kernel), cx_in 192 (by decide +kernel) (by decide +kernel), cx_in 193 (by decide +kernel) (by decide +kernel)⟩, ⟨by decide +kernel, ⟨by decide +kernel, by decide +kernel⟩, by decide +kernel⟩⟩
theorem c_L_dropAll {l : Launch} {G : cx_G} (hG : cx_okG G) (hcl : cx_cl G = cx_cls) : cx_M cx_Tb l G m_L_dropAll prog_2_method_2_code 1 none rm_L_dropAll sp_L_dropAll :=
  cx_mk hG (Sp := [(sp_M_dropAll, 1, 0, 0)]) (Ex := []) k_L_dropAll (fun S => g_L_ok S.1 S.2.1 S.2.2.2.2.2.2 hcl S.2.2.2.2.2.1) (fun S => p_L_ok S.1 S.2.1 S.2.2.2.2.2.2 hcl S.2.2.2.2.2.1) (fun h => l_L_ok h)
    (fun S => List.forall_mem_cons.mpr ⟨fun f na kc ks h => by
      cases (show some (sp_M_dropAll, 1, 0, 0) = some (f, na, kc, ks) from h)
      exact cx_callV (C := r_M) (T0 := f_M) (N0 := 11) (np := 0) cx_TbAll S.1 S.2.1 S.2.2.1 S.2.2.2.2.2.2 S.2.2.2.1 S.2.2.2.2.1 S.2.2.2.2.2.1 (by rw [hcl]; rfl) (c_M_dropAll hG hcl) wl_0 (by decide), fun _ h => absurd h List.not_mem_nil⟩)
    (fun S => fun _ h => absurd h List.not_mem_nil) rfl pu_L_dropAll
abbrev rm_C_isMember : Room := { frames := 0, cells := 0, slots := 0, locals := 0 }
theorem k2_C_isMember : t_C_isMember.all (cx_dec false prog_1_method_18_code (some (.boolean)) 2 g_C p_C l_C v_C_isMember s_C_isMember h_C_isMember w_C_isMember) = true := by decide +kernel
theorem c_C_isMember {l : Launch} {G : cx_G} (hG : cx_okG G) (hcl : cx_cl G = cx_cls) : cx_M2 cx_Tb l G m_C_isMember prog_1_method_18_code 2 (some (.boolean)) rm_C_isMember sp_C_isMember :=
  cx_mk2 hG (Sp := []) (Ex := []) k2_C_isMember (fun S => g_C_ok S.1 S.2.1 S.2.2.2.2.2.2 hcl S.2.2.2.2.2.1) (fun S => p_C_ok S.1 S.2.1 S.2.2.2.2.2.2 hcl S.2.2.2.2.2.1) (fun h => l_C_ok h)
    (fun S => fun _ h => absurd h List.not_mem_nil)
    (fun S => fun _ h => absurd h List.not_mem_nil)
    (fun S => fun _ h => absurd h List.not_mem_nil) pu_C_isMember
abbrev rm_M_addMultiplexer : Room := { frames := 1, cells := 0, slots := 0, locals := 21 }
theorem wl_1 : cx_wM cx_Tb "CycleCutter$Multiplexers" 58 := ⟨cx_in 246 (by decide +kernel) (by decide +kernel), cx_in 247 (by decide +kernel) (by decide +kernel), cx_in 35 (by decide +kernel) (by decide +kernel), cx_in 248 (by decide +kernel) (by decide +kernel)⟩
theorem c_M_addMultiplexer {l : Launch} {G : cx_G} (hG : cx_okG G) (hcl : cx_cl G = cx_cls) : cx_M cx_Tb l G m_M_addMultiplexer prog_3_method_6_code 5 (some (.int)) rm_M_addMultiplexer sp_M_addMultiplexer :=
  cx_mk hG (Sp := [(sp_J_max, 2, 0, 0)]) (Ex := []) k_M_addMultiplexer (fun S => g_M_ok S.1 S.2.1 S.2.2.2.2.2.2 hcl S.2.2.2.2.2.1) (fun S => p_M_ok S.1 S.2.1 S.2.2.2.2.2.2 hcl S.2.2.2.2.2.1) (fun h => l_M_ok h)
    (fun S => fun _ h => absurd h List.not_mem_nil)
    (fun S => List.forall_mem_cons.mpr ⟨fun f na kc ks h => by
      cases (show some (sp_J_max, 2, 0, 0) = some (f, na, kc, ks) from h)
      exact cx_max S.1 S.2.1 S.2.2.1 S.2.2.2.2.2.2 S.2.2.2.2.2.1 wl_1 (by decide), fun _ h => absurd h List.not_mem_nil⟩) rfl pu_M_addMultiplexer
abbrev rm_M_join : Room := { frames := 2, cells := 0, slots := 0, locals := 45 }
theorem wl_2 : cx_wV cx_Tb "CycleCutter$Multiplexers" r_M "" 55 3 m_M_addMultiplexer prog_3_method_6_code 5 (some (.int)) := ⟨Or.inl (cx_in 242 (by decide +kernel) (by decide +kernel)), ⟨cx_in 244 (by decide +kernel) (by decide +kernel), cx_in 5 (by decide +kernel) (by decide +kernel), cx_in 245 (by decide +kernel) (by decide +kernel)⟩, ⟨by decide +kernel, ⟨by decide +kernel, by decide +kernel⟩, by decide +kernel⟩⟩
theorem c_M_join {l : Launch} {G : cx_G} (hG : cx_okG G) (hcl : cx_cl G = cx_cls) : cx_M cx_Tb l G m_M_join prog_3_method_5_code 6 (some (.int)) rm_M_join sp_M_join :=
  cx_mk hG (Sp := [(sp_M_addMultiplexer, 4, 0, 0)]) (Ex := []) k_M_join (fun S => g_M_ok S.1 S.2.1 S.2.2.2.2.2.2 hcl S.2.2.2.2.2.1) (fun S => p_M_ok S.1 S.2.1 S.2.2.2.2.2.2 hcl S.2.2.2.2.2.1) (fun h => l_M_ok h)
    (fun S => List.forall_mem_cons.mpr ⟨fun f na kc ks h => by
      cases (show some (sp_M_addMultiplexer, 4, 0, 0) = some (f, na, kc, ks) from h)
      exact cx_callV (C := r_M) (T0 := f_M) (N0 := 11) (np := 3) cx_TbAll S.1 S.2.1 S.2.2.1 S.2.2.2.2.2.2 S.2.2.2.1 S.2.2.2.2.1 S.2.2.2.2.2.1 (by rw [hcl]; rfl) (c_M_addMultiplexer hG hcl) wl_2 (by decide), fun _ h => absurd h List.not_mem_nil⟩)
    (fun S => fun _ h => absurd h List.not_mem_nil) rfl pu_M_join
abbrev rm_M_addFunction : Room := { frames := 3, cells := 0, slots := 0, locals := 70 }
theorem wl_3 : cx_wV cx_Tb "CycleCutter$Multiplexers" r_M "" 51 3 m_M_join prog_3_method_5_code 6 (some (.int)) := ⟨Or.inl (cx_in 238 (by decide +kernel) (by decide +kernel)), ⟨cx_in 240 (by decide +kernel) (by decide +kernel), cx_in 4 (by decide +kernel) (by decide +kernel), cx_in 241 (by decide +kernel) (by decide +kernel)⟩, ⟨by decide +kernel, ⟨by decide +kernel, by decide +kernel⟩, by decide +kernel⟩⟩
theorem wl_4 : cx_wS cx_Tb "CycleCutter$Multiplexers" "CycleCutter" 47 2 m_C_isMember prog_1_method_18_code 2 (some (.boolean)) := ⟨Or.inr (cx_in 235 (by decide +kernel) (by decide +kernel)), ⟨cx_in 236 (by decide +kernel) (by decide +kernel), cx_in 24 (by decide +kernel) (by decide +kernel), cx_in 237 (by decide +kernel) (by decide +kernel)⟩, ⟨by decide +kernel, ⟨by decide +kernel, by decide +kernel⟩, by decide +kernel⟩⟩
theorem c_M_addFunction {l : Launch} {G : cx_G} (hG : cx_okG G) (hcl : cx_cl G = cx_cls) : cx_M cx_Tb l G m_M_addFunction prog_3_method_4_code 5 (some (.int)) rm_M_addFunction sp_M_addFunction :=
  cx_mk hG (Sp := [(sp_C_isMember, 2, 0, 0), (sp_M_join, 4, 0, 0)]) (Ex := []) k_M_addFunction (fun S => g_M_ok S.1 S.2.1 S.2.2.2.2.2.2 hcl S.2.2.2.2.2.1) (fun S => p_M_ok S.1 S.2.1 S.2.2.2.2.2.2 hcl S.2.2.2.2.2.1) (fun h => l_M_ok h)
    (fun S => List.forall_mem_cons.mpr ⟨fun f na kc ks h => by
      cases (show some (sp_M_join, 4, 0, 0) = some (f, na, kc, ks) from h)
      exact cx_callV (C := r_M) (T0 := f_M) (N0 := 11) (np := 3) cx_TbAll S.1 S.2.1 S.2.2.1 S.2.2.2.2.2.2 S.2.2.2.1 S.2.2.2.2.1 S.2.2.2.2.2.1 (by rw [hcl]; rfl) (c_M_join hG hcl) wl_3 (by decide), fun _ h => absurd h List.not_mem_nil⟩)
    (fun S => List.forall_mem_cons.mpr ⟨fun f na kc ks h => by
      cases (show some (sp_C_isMember, 2, 0, 0) = some (f, na, kc, ks) from h)
      exact cx_callS (np := 2) cx_TbAll S.1 S.2.1 S.2.2.1 S.2.2.2.2.2.2 S.2.2.2.1 S.2.2.2.2.1 S.2.2.2.2.2.1 (cx_M2.weak (c_C_isMember hG hcl)) wl_4 (by decide), fun _ h => absurd h List.not_mem_nil⟩) rfl pu_M_addFunction
abbrev rm_L_addOutput : Room := { frames := 4, cells := 0, slots := 0, locals := 94 }
theorem wl_5 : cx_wV cx_Tb "CycleCutter$Layout" r_M "" 37 1 m_M_addFunction prog_3_method_4_code 5 (some (.int)) := ⟨Or.inl (cx_in 231 (by decide +kernel) (by decide +kernel)), ⟨cx_in 232 (by decide +kernel) (by decide +kernel), cx_in 233 (by decide +kernel) (by decide +kernel), cx_in 234 (by decide +kernel) (by decide +kernel)⟩, ⟨by decide +kernel, ⟨by decide +kernel, by decide +kernel⟩, by decide +kernel⟩⟩
theorem c_L_addOutput {l : Launch} {G : cx_G} (hG : cx_okG G) (hcl : cx_cl G = cx_cls) : cx_M cx_Tb l G m_L_addOutput prog_2_method_3_code 4 none rm_L_addOutput sp_L_addOutput :=
  cx_mk hG (Sp := [(sp_M_addFunction, 2, 0, 0)]) (Ex := []) k_L_addOutput (fun S => g_L_ok S.1 S.2.1 S.2.2.2.2.2.2 hcl S.2.2.2.2.2.1) (fun S => p_L_ok S.1 S.2.1 S.2.2.2.2.2.2 hcl S.2.2.2.2.2.1) (fun h => l_L_ok h)
    (fun S => List.forall_mem_cons.mpr ⟨fun f na kc ks h => by
      cases (show some (sp_M_addFunction, 2, 0, 0) = some (f, na, kc, ks) from h)
      exact cx_callV (C := r_M) (T0 := f_M) (N0 := 11) (np := 1) cx_TbAll S.1 S.2.1 S.2.2.1 S.2.2.2.2.2.2 S.2.2.2.1 S.2.2.2.2.1 S.2.2.2.2.2.1 (by rw [hcl]; rfl) (c_M_addFunction hG hcl) wl_5 (by decide), fun _ h => absurd h List.not_mem_nil⟩)
    (fun S => fun _ h => absurd h List.not_mem_nil) rfl pu_L_addOutput
abbrev rm_C_isInputSet : Room := { frames := 0, cells := 0, slots := 0, locals := 0 }
theorem k2_C_isInputSet : t_C_isInputSet.all (cx_dec false prog_1_method_17_code (some (.boolean)) 2 g_C p_C l_C v_C_isInputSet s_C_isInputSet h_C_isInputSet w_C_isInputSet) = true := by decide +kernel
theorem c_C_isInputSet {l : Launch} {G : cx_G} (hG : cx_okG G) (hcl : cx_cl G = cx_cls) : cx_M2 cx_Tb l G m_C_isInputSet prog_1_method_17_code 2 (some (.boolean)) rm_C_isInputSet sp_C_isInputSet :=
  cx_mk2 hG (Sp := []) (Ex := []) k2_C_isInputSet (fun S => g_C_ok S.1 S.2.1 S.2.2.2.2.2.2 hcl S.2.2.2.2.2.1) (fun S => p_C_ok S.1 S.2.1 S.2.2.2.2.2.2 hcl S.2.2.2.2.2.1) (fun h => l_C_ok h)
    (fun S => fun _ h => absurd h List.not_mem_nil)
    (fun S => fun _ h => absurd h List.not_mem_nil)
    (fun S => fun _ h => absurd h List.not_mem_nil) pu_C_isInputSet
abbrev rm_M_follow : Room := { frames := 1, cells := 0, slots := 0, locals := 21 }
theorem k2_M_follow : t_M_follow.all (cx_dec false prog_3_method_7_code (some (.int)) 3 g_M p_M l_M v_M_follow s_M_follow h_M_follow w_M_follow) = true := by decide +kernel
theorem wl_6 : cx_wS cx_Tb "CycleCutter$Multiplexers" "CycleCutter" 64 2 m_C_isInputSet prog_1_method_17_code 2 (some (.boolean)) := ⟨Or.inr (cx_in 433 (by decide +kernel) (by decide +kernel)), ⟨cx_in 346 (by decide +kernel) (by decide +kernel), cx_in 24 (by decide +kernel) (by decide +kernel), cx_in 347 (by decide +kernel) (by decide +kernel)⟩, ⟨by decide +kernel, ⟨by decide +kernel, by decide +kernel⟩, by decide +kernel⟩⟩
theorem c_M_follow {l : Launch} {G : cx_G} (hG : cx_okG G) (hcl : cx_cl G = cx_cls) : cx_M2 cx_Tb l G m_M_follow prog_3_method_7_code 3 (some (.int)) rm_M_follow sp_M_follow :=
  cx_mk2 hG (Sp := [(sp_C_isInputSet, 2, 0, 0)]) (Ex := []) k2_M_follow (fun S => g_M_ok S.1 S.2.1 S.2.2.2.2.2.2 hcl S.2.2.2.2.2.1) (fun S => p_M_ok S.1 S.2.1 S.2.2.2.2.2.2 hcl S.2.2.2.2.2.1) (fun h => l_M_ok h)
    (fun S => fun _ h => absurd h List.not_mem_nil)
    (fun S => List.forall_mem_cons.mpr ⟨fun f na kc ks h => by
      cases (show some (sp_C_isInputSet, 2, 0, 0) = some (f, na, kc, ks) from h)
      exact cx_callS2 (np := 2) cx_TbAll S.1 S.2.1 S.2.2.1 S.2.2.2.2.2.2 S.2.2.2.1 S.2.2.2.2.1 S.2.2.2.2.2.1 (c_C_isInputSet hG hcl) wl_6 (by decide), fun _ h => absurd h List.not_mem_nil⟩)
    (fun S => fun _ h => absurd h List.not_mem_nil) pu_M_follow
abbrev rm_M_isOneOn : Room := { frames := 2, cells := 0, slots := 0, locals := 43 }
theorem k2_M_isOneOn : t_M_isOneOn.all (cx_dec false prog_3_method_8_code (some (.boolean)) 5 g_M p_M l_M v_M_isOneOn s_M_isOneOn h_M_isOneOn w_M_isOneOn) = true := by decide +kernel
theorem wl_7 : cx_wV cx_Tb "CycleCutter$Multiplexers" r_M "" 68 2 m_M_follow prog_3_method_7_code 3 (some (.int)) := ⟨Or.inl (cx_in 429 (by decide +kernel) (by decide +kernel)), ⟨cx_in 431 (by decide +kernel) (by decide +kernel), cx_in 9 (by decide +kernel) (by decide +kernel), cx_in 432 (by decide +kernel) (by decide +kernel)⟩, ⟨by decide +kernel, ⟨by decide +kernel, by decide +kernel⟩, by decide +kernel⟩⟩
theorem c_M_isOneOn {l : Launch} {G : cx_G} (hG : cx_okG G) (hcl : cx_cl G = cx_cls) : cx_M2 cx_Tb l G m_M_isOneOn prog_3_method_8_code 5 (some (.boolean)) rm_M_isOneOn sp_M_isOneOn :=
  cx_mk2 hG (Sp := [(sp_M_follow, 3, 0, 0)]) (Ex := []) k2_M_isOneOn (fun S => g_M_ok S.1 S.2.1 S.2.2.2.2.2.2 hcl S.2.2.2.2.2.1) (fun S => p_M_ok S.1 S.2.1 S.2.2.2.2.2.2 hcl S.2.2.2.2.2.1) (fun h => l_M_ok h)
    (fun S => List.forall_mem_cons.mpr ⟨fun f na kc ks h => by
      cases (show some (sp_M_follow, 3, 0, 0) = some (f, na, kc, ks) from h)
      exact cx_callV2 (C := r_M) (T0 := f_M) (N0 := 11) (np := 2) cx_TbAll S.1 S.2.1 S.2.2.1 S.2.2.2.2.2.2 S.2.2.2.1 S.2.2.2.2.1 S.2.2.2.2.2.1 (by rw [hcl]; rfl) (c_M_follow hG hcl) wl_7 (by decide), fun _ h => absurd h List.not_mem_nil⟩)
    (fun S => fun _ h => absurd h List.not_mem_nil)
    (fun S => fun _ h => absurd h List.not_mem_nil) pu_M_isOneOn
abbrev rm_L_valueOn : Room := { frames := 3, cells := 0, slots := 0, locals := 67 }
theorem k2_L_valueOn : t_L_valueOn.all (cx_dec false prog_2_method_4_code (some (.int)) 3 g_L p_L l_L v_L_valueOn s_L_valueOn h_L_valueOn w_L_valueOn) = true := by decide +kernel
theorem wl_8 : cx_wV cx_Tb "CycleCutter$Layout" r_M "" 41 2 m_M_isOneOn prog_3_method_8_code 5 (some (.boolean)) := ⟨Or.inl (cx_in 425 (by decide +kernel) (by decide +kernel)), ⟨cx_in 426 (by decide +kernel) (by decide +kernel), cx_in 427 (by decide +kernel) (by decide +kernel), cx_in 428 (by decide +kernel) (by decide +kernel)⟩, ⟨by decide +kernel, ⟨by decide +kernel, by decide +kernel⟩, by decide +kernel⟩⟩
theorem c_L_valueOn {l : Launch} {G : cx_G} (hG : cx_okG G) (hcl : cx_cl G = cx_cls) : cx_M2 cx_Tb l G m_L_valueOn prog_2_method_4_code 3 (some (.int)) rm_L_valueOn sp_L_valueOn :=
  cx_mk2 hG (Sp := [(sp_M_isOneOn, 3, 0, 0)]) (Ex := []) k2_L_valueOn (fun S => g_L_ok S.1 S.2.1 S.2.2.2.2.2.2 hcl S.2.2.2.2.2.1) (fun S => p_L_ok S.1 S.2.1 S.2.2.2.2.2.2 hcl S.2.2.2.2.2.1) (fun h => l_L_ok h)
    (fun S => List.forall_mem_cons.mpr ⟨fun f na kc ks h => by
      cases (show some (sp_M_isOneOn, 3, 0, 0) = some (f, na, kc, ks) from h)
      exact cx_callV2 (C := r_M) (T0 := f_M) (N0 := 11) (np := 2) cx_TbAll S.1 S.2.1 S.2.2.1 S.2.2.2.2.2.2 S.2.2.2.1 S.2.2.2.2.1 S.2.2.2.2.2.1 (by rw [hcl]; rfl) (c_M_isOneOn hG hcl) wl_8 (by decide), fun _ h => absurd h List.not_mem_nil⟩)
    (fun S => fun _ h => absurd h List.not_mem_nil)
    (fun S => fun _ h => absurd h List.not_mem_nil) pu_L_valueOn
abbrev rm_M_stepsOn : Room := { frames := 2, cells := 0, slots := 0, locals := 43 }
theorem k2_M_stepsOn : t_M_stepsOn.all (cx_dec false prog_3_method_9_code (some (.int)) 5 g_M p_M l_M v_M_stepsOn s_M_stepsOn h_M_stepsOn w_M_stepsOn) = true := by decide +kernel
theorem c_M_stepsOn {l : Launch} {G : cx_G} (hG : cx_okG G) (hcl : cx_cl G = cx_cls) : cx_M2 cx_Tb l G m_M_stepsOn prog_3_method_9_code 5 (some (.int)) rm_M_stepsOn sp_M_stepsOn :=
  cx_mk2 hG (Sp := [(sp_M_follow, 3, 0, 0)]) (Ex := []) k2_M_stepsOn (fun S => g_M_ok S.1 S.2.1 S.2.2.2.2.2.2 hcl S.2.2.2.2.2.1) (fun S => p_M_ok S.1 S.2.1 S.2.2.2.2.2.2 hcl S.2.2.2.2.2.1) (fun h => l_M_ok h)
    (fun S => List.forall_mem_cons.mpr ⟨fun f na kc ks h => by
      cases (show some (sp_M_follow, 3, 0, 0) = some (f, na, kc, ks) from h)
      exact cx_callV2 (C := r_M) (T0 := f_M) (N0 := 11) (np := 2) cx_TbAll S.1 S.2.1 S.2.2.1 S.2.2.2.2.2.2 S.2.2.2.1 S.2.2.2.2.1 S.2.2.2.2.2.1 (by rw [hcl]; rfl) (c_M_follow hG hcl) wl_7 (by decide), fun _ h => absurd h List.not_mem_nil⟩)
    (fun S => fun _ h => absurd h List.not_mem_nil)
    (fun S => fun _ h => absurd h List.not_mem_nil) pu_M_stepsOn
abbrev rm_L_stepsOn : Room := { frames := 3, cells := 0, slots := 0, locals := 67 }
theorem k2_L_stepsOn : t_L_stepsOn.all (cx_dec false prog_2_method_5_code (some (.int)) 3 g_L p_L l_L v_L_stepsOn s_L_stepsOn h_L_stepsOn w_L_stepsOn) = true := by decide +kernel
theorem wl_9 : cx_wV cx_Tb "CycleCutter$Layout" r_M "" 45 2 m_M_stepsOn prog_3_method_9_code 5 (some (.int)) := ⟨Or.inl (cx_in 445 (by decide +kernel) (by decide +kernel)), ⟨cx_in 446 (by decide +kernel) (by decide +kernel), cx_in 447 (by decide +kernel) (by decide +kernel), cx_in 448 (by decide +kernel) (by decide +kernel)⟩, ⟨by decide +kernel, ⟨by decide +kernel, by decide +kernel⟩, by decide +kernel⟩⟩
theorem c_L_stepsOn {l : Launch} {G : cx_G} (hG : cx_okG G) (hcl : cx_cl G = cx_cls) : cx_M2 cx_Tb l G m_L_stepsOn prog_2_method_5_code 3 (some (.int)) rm_L_stepsOn sp_L_stepsOn :=
  cx_mk2 hG (Sp := [(sp_M_stepsOn, 3, 0, 0)]) (Ex := []) k2_L_stepsOn (fun S => g_L_ok S.1 S.2.1 S.2.2.2.2.2.2 hcl S.2.2.2.2.2.1) (fun S => p_L_ok S.1 S.2.1 S.2.2.2.2.2.2 hcl S.2.2.2.2.2.1) (fun h => l_L_ok h)
    (fun S => List.forall_mem_cons.mpr ⟨fun f na kc ks h => by
      cases (show some (sp_M_stepsOn, 3, 0, 0) = some (f, na, kc, ks) from h)
      exact cx_callV2 (C := r_M) (T0 := f_M) (N0 := 11) (np := 2) cx_TbAll S.1 S.2.1 S.2.2.1 S.2.2.2.2.2.2 S.2.2.2.1 S.2.2.2.2.1 S.2.2.2.2.2.1 (by rw [hcl]; rfl) (c_M_stepsOn hG hcl) wl_9 (by decide), fun _ h => absurd h List.not_mem_nil⟩)
    (fun S => fun _ h => absurd h List.not_mem_nil)
    (fun S => fun _ h => absurd h List.not_mem_nil) pu_L_stepsOn
abbrev rm_J_bitCount : Room := { frames := 0, cells := 0, slots := 0, locals := 0 }
theorem k2_J_bitCount : t_J_bitCount.all (cx_dec false prog_11_method_50_code (some (.int)) 2 [] [] l_J v_J_bitCount s_J_bitCount h_J_bitCount w_J_bitCount) = true := by decide +kernel
theorem c_J_bitCount {l : Launch} {G : cx_G} (hG : cx_okG G) (hcl : cx_cl G = cx_cls) : cx_M2 cx_Tb l G m_J_bitCount prog_11_method_50_code 2 (some (.int)) rm_J_bitCount sp_J_bitCount :=
  cx_mk2 hG (Sp := []) (Ex := []) k2_J_bitCount (fun S => fun _ h => absurd h List.not_mem_nil) (fun S => fun _ h => absurd h List.not_mem_nil) (fun h => l_J_ok h)
    (fun S => fun _ h => absurd h List.not_mem_nil)
    (fun S => fun _ h => absurd h List.not_mem_nil)
    (fun S => fun _ h => absurd h List.not_mem_nil) pu_J_bitCount
abbrev rm_L_knownChoices : Room := { frames := 1, cells := 0, slots := 0, locals := 21 }
theorem k2_L_knownChoices : t_L_knownChoices.all (cx_dec false prog_2_method_6_code (some (.int)) 4 g_L p_L l_L v_L_knownChoices s_L_knownChoices h_L_knownChoices w_L_knownChoices) = true := by decide +kernel
theorem wl_10 : cx_wS cx_Tb "CycleCutter$Layout" "" 49 1 m_J_bitCount prog_11_method_50_code 2 (some (.int)) := ⟨Or.inl (cx_in 471 (by decide +kernel) (by decide +kernel)), ⟨cx_in 472 (by decide +kernel) (by decide +kernel), cx_in 36 (by decide +kernel) (by decide +kernel), cx_in 473 (by decide +kernel) (by decide +kernel)⟩, ⟨by decide +kernel, ⟨by decide +kernel, by decide +kernel⟩, by decide +kernel⟩⟩
theorem c_L_knownChoices {l : Launch} {G : cx_G} (hG : cx_okG G) (hcl : cx_cl G = cx_cls) : cx_M2 cx_Tb l G m_L_knownChoices prog_2_method_6_code 4 (some (.int)) rm_L_knownChoices sp_L_knownChoices :=
  cx_mk2 hG (Sp := [(sp_J_bitCount, 1, 0, 0)]) (Ex := []) k2_L_knownChoices (fun S => g_L_ok S.1 S.2.1 S.2.2.2.2.2.2 hcl S.2.2.2.2.2.1) (fun S => p_L_ok S.1 S.2.1 S.2.2.2.2.2.2 hcl S.2.2.2.2.2.1) (fun h => l_L_ok h)
    (fun S => fun _ h => absurd h List.not_mem_nil)
    (fun S => List.forall_mem_cons.mpr ⟨fun f na kc ks h => by
      cases (show some (sp_J_bitCount, 1, 0, 0) = some (f, na, kc, ks) from h)
      exact cx_callS2 (np := 1) cx_TbAll S.1 S.2.1 S.2.2.1 S.2.2.2.2.2.2 S.2.2.2.1 S.2.2.2.2.1 S.2.2.2.2.2.1 (c_J_bitCount hG hcl) wl_10 (by decide), fun _ h => absurd h List.not_mem_nil⟩)
    (fun S => fun _ h => absurd h List.not_mem_nil) pu_L_knownChoices
abbrev rm_L_firstDoubtFrom : Room := { frames := 1, cells := 0, slots := 0, locals := 21 }
theorem k2_L_firstDoubtFrom : t_L_firstDoubtFrom.all (cx_dec false prog_2_method_7_code (some (.int)) 4 g_L p_L l_L v_L_firstDoubtFrom s_L_firstDoubtFrom h_L_firstDoubtFrom w_L_firstDoubtFrom) = true := by decide +kernel
theorem wl_11 : cx_wS cx_Tb "CycleCutter$Layout" "CycleCutter" 55 2 m_C_isMember prog_1_method_18_code 2 (some (.boolean)) := ⟨Or.inr (cx_in 488 (by decide +kernel) (by decide +kernel)), ⟨cx_in 236 (by decide +kernel) (by decide +kernel), cx_in 24 (by decide +kernel) (by decide +kernel), cx_in 237 (by decide +kernel) (by decide +kernel)⟩, ⟨by decide +kernel, ⟨by decide +kernel, by decide +kernel⟩, by decide +kernel⟩⟩
theorem c_L_firstDoubtFrom {l : Launch} {G : cx_G} (hG : cx_okG G) (hcl : cx_cl G = cx_cls) : cx_M2 cx_Tb l G m_L_firstDoubtFrom prog_2_method_7_code 4 (some (.int)) rm_L_firstDoubtFrom sp_L_firstDoubtFrom :=
  cx_mk2 hG (Sp := [(sp_C_isMember, 2, 0, 0)]) (Ex := []) k2_L_firstDoubtFrom (fun S => g_L_ok S.1 S.2.1 S.2.2.2.2.2.2 hcl S.2.2.2.2.2.1) (fun S => p_L_ok S.1 S.2.1 S.2.2.2.2.2.2 hcl S.2.2.2.2.2.1) (fun h => l_L_ok h)
    (fun S => fun _ h => absurd h List.not_mem_nil)
    (fun S => List.forall_mem_cons.mpr ⟨fun f na kc ks h => by
      cases (show some (sp_C_isMember, 2, 0, 0) = some (f, na, kc, ks) from h)
      exact cx_callS2 (np := 2) cx_TbAll S.1 S.2.1 S.2.2.1 S.2.2.2.2.2.2 S.2.2.2.1 S.2.2.2.2.1 S.2.2.2.2.2.1 (c_C_isMember hG hcl) wl_11 (by decide), fun _ h => absurd h List.not_mem_nil⟩)
    (fun S => fun _ h => absurd h List.not_mem_nil) pu_L_firstDoubtFrom
abbrev rm_M_total : Room := { frames := 0, cells := 0, slots := 0, locals := 0 }
theorem c_M_total {l : Launch} {G : cx_G} (hG : cx_okG G) (hcl : cx_cl G = cx_cls) : cx_M cx_Tb l G m_M_total prog_3_method_3_code 1 (some (.int)) rm_M_total sp_M_total :=
  cx_mk hG (Sp := []) (Ex := []) k_M_total (fun S => g_M_ok S.1 S.2.1 S.2.2.2.2.2.2 hcl S.2.2.2.2.2.1) (fun S => p_M_ok S.1 S.2.1 S.2.2.2.2.2.2 hcl S.2.2.2.2.2.1) (fun h => l_M_ok h)
    (fun S => fun _ h => absurd h List.not_mem_nil)
    (fun S => fun _ h => absurd h List.not_mem_nil) rfl pu_M_total
abbrev rm_M_totalBelow : Room := { frames := 0, cells := 0, slots := 0, locals := 0 }
theorem c_M_totalBelow {l : Launch} {G : cx_G} (hG : cx_okG G) (hcl : cx_cl G = cx_cls) : cx_M cx_Tb l G m_M_totalBelow prog_3_method_10_code 4 (some (.int)) rm_M_totalBelow sp_M_totalBelow :=
  cx_mk hG (Sp := []) (Ex := []) k_M_totalBelow (fun S => g_M_ok S.1 S.2.1 S.2.2.2.2.2.2 hcl S.2.2.2.2.2.1) (fun S => p_M_ok S.1 S.2.1 S.2.2.2.2.2.2 hcl S.2.2.2.2.2.1) (fun h => l_M_ok h)
    (fun S => fun _ h => absurd h List.not_mem_nil)
    (fun S => fun _ h => absurd h List.not_mem_nil) rfl pu_M_totalBelow
abbrev rm_N_dropAll : Room := { frames := 0, cells := 0, slots := 0, locals := 0 }
theorem c_N_dropAll {l : Launch} {G : cx_G} (hG : cx_okG G) (hcl : cx_cl G = cx_cls) : cx_M cx_Tb l G m_N_dropAll prog_4_method_2_code 1 none rm_N_dropAll sp_N_dropAll :=
  cx_mk hG (Sp := []) (Ex := []) k_N_dropAll (fun S => g_N_ok S.1 S.2.1 S.2.2.2.2.2.2 hcl S.2.2.2.2.2.1) (fun S => p_N_ok S.1 S.2.1 S.2.2.2.2.2.2 hcl S.2.2.2.2.2.1) (fun h => l_N_ok h)
    (fun S => fun _ h => absurd h List.not_mem_nil)
    (fun S => fun _ h => absurd h List.not_mem_nil) rfl pu_N_dropAll
abbrev rm_N_hasGate : Room := { frames := 0, cells := 0, slots := 0, locals := 0 }
theorem k2_N_hasGate : t_N_hasGate.all (cx_dec false prog_4_method_3_code (some (.boolean)) 2 g_N p_N l_N v_N_hasGate s_N_hasGate h_N_hasGate w_N_hasGate) = true := by decide +kernel
theorem c_N_hasGate {l : Launch} {G : cx_G} (hG : cx_okG G) (hcl : cx_cl G = cx_cls) : cx_M2 cx_Tb l G m_N_hasGate prog_4_method_3_code 2 (some (.boolean)) rm_N_hasGate sp_N_hasGate :=
  cx_mk2 hG (Sp := []) (Ex := []) k2_N_hasGate (fun S => g_N_ok S.1 S.2.1 S.2.2.2.2.2.2 hcl S.2.2.2.2.2.1) (fun S => p_N_ok S.1 S.2.1 S.2.2.2.2.2.2 hcl S.2.2.2.2.2.1) (fun h => l_N_ok h)
    (fun S => fun _ h => absurd h List.not_mem_nil)
    (fun S => fun _ h => absurd h List.not_mem_nil)
    (fun S => fun _ h => absurd h List.not_mem_nil) pu_N_hasGate
abbrev rm_N_isInput : Room := { frames := 0, cells := 0, slots := 0, locals := 0 }
theorem k2_N_isInput : t_N_isInput.all (cx_dec false prog_4_method_4_code (some (.boolean)) 2 g_N p_N l_N v_N_isInput s_N_isInput h_N_isInput w_N_isInput) = true := by decide +kernel
theorem c_N_isInput {l : Launch} {G : cx_G} (hG : cx_okG G) (hcl : cx_cl G = cx_cls) : cx_M2 cx_Tb l G m_N_isInput prog_4_method_4_code 2 (some (.boolean)) rm_N_isInput sp_N_isInput :=
  cx_mk2 hG (Sp := []) (Ex := []) k2_N_isInput (fun S => g_N_ok S.1 S.2.1 S.2.2.2.2.2.2 hcl S.2.2.2.2.2.1) (fun S => p_N_ok S.1 S.2.1 S.2.2.2.2.2.2 hcl S.2.2.2.2.2.1) (fun h => l_N_ok h)
    (fun S => fun _ h => absurd h List.not_mem_nil)
    (fun S => fun _ h => absurd h List.not_mem_nil)
    (fun S => fun _ h => absurd h List.not_mem_nil) pu_N_isInput
abbrev rm_N_fixInput : Room := { frames := 1, cells := 0, slots := 0, locals := 21 }
theorem wl_12 : cx_wS cx_Tb "CycleCutter$Net" "CycleCutter" 57 2 m_C_isInputSet prog_1_method_17_code 2 (some (.boolean)) := ⟨Or.inr (cx_in 345 (by decide +kernel) (by decide +kernel)), ⟨cx_in 346 (by decide +kernel) (by decide +kernel), cx_in 24 (by decide +kernel) (by decide +kernel), cx_in 347 (by decide +kernel) (by decide +kernel)⟩, ⟨by decide +kernel, ⟨by decide +kernel, by decide +kernel⟩, by decide +kernel⟩⟩
theorem c_N_fixInput {l : Launch} {G : cx_G} (hG : cx_okG G) (hcl : cx_cl G = cx_cls) : cx_M cx_Tb l G m_N_fixInput prog_4_method_6_code 7 none rm_N_fixInput sp_N_fixInput :=
  cx_mk hG (Sp := [(sp_C_isInputSet, 2, 0, 0)]) (Ex := []) k_N_fixInput (fun S => g_N_ok S.1 S.2.1 S.2.2.2.2.2.2 hcl S.2.2.2.2.2.1) (fun S => p_N_ok S.1 S.2.1 S.2.2.2.2.2.2 hcl S.2.2.2.2.2.1) (fun h => l_N_ok h)
    (fun S => fun _ h => absurd h List.not_mem_nil)
    (fun S => List.forall_mem_cons.mpr ⟨fun f na kc ks h => by
      cases (show some (sp_C_isInputSet, 2, 0, 0) = some (f, na, kc, ks) from h)
      exact cx_callS (np := 2) cx_TbAll S.1 S.2.1 S.2.2.1 S.2.2.2.2.2.2 S.2.2.2.1 S.2.2.2.2.1 S.2.2.2.2.2.1 (cx_M2.weak (c_C_isInputSet hG hcl)) wl_12 (by decide), fun _ h => absurd h List.not_mem_nil⟩) rfl pu_N_fixInput
abbrev rm_N_addGate : Room := { frames := 2, cells := 0, slots := 0, locals := 47 }
theorem wl_13 : cx_wV cx_Tb "CycleCutter$Net" r_N "" 53 2 m_N_fixInput prog_4_method_6_code 7 none := ⟨Or.inl (cx_in 341 (by decide +kernel) (by decide +kernel)), ⟨cx_in 343 (by decide +kernel) (by decide +kernel), cx_in 7 (by decide +kernel) (by decide +kernel), cx_in 344 (by decide +kernel) (by decide +kernel)⟩, ⟨by decide +kernel, ⟨by decide +kernel, by decide +kernel⟩, by decide +kernel⟩⟩
theorem c_N_addGate {l : Launch} {G : cx_G} (hG : cx_okG G) (hcl : cx_cl G = cx_cls) : cx_M cx_Tb l G m_N_addGate prog_4_method_5_code 3 (some (.int)) rm_N_addGate sp_N_addGate :=
  cx_mk hG (Sp := [(sp_N_fixInput, 3, 0, 0)]) (Ex := []) k_N_addGate (fun S => g_N_ok S.1 S.2.1 S.2.2.2.2.2.2 hcl S.2.2.2.2.2.1) (fun S => p_N_ok S.1 S.2.1 S.2.2.2.2.2.2 hcl S.2.2.2.2.2.1) (fun h => l_N_ok h)
    (fun S => List.forall_mem_cons.mpr ⟨fun f na kc ks h => by
      cases (show some (sp_N_fixInput, 3, 0, 0) = some (f, na, kc, ks) from h)
      exact cx_callV (C := r_N) (T0 := f_N) (N0 := 12) (np := 2) cx_TbAll S.1 S.2.1 S.2.2.1 S.2.2.2.2.2.2 S.2.2.2.1 S.2.2.2.2.1 S.2.2.2.2.2.1 (by rw [hcl]; rfl) (c_N_fixInput hG hcl) wl_13 (by decide), fun _ h => absurd h List.not_mem_nil⟩)
    (fun S => fun _ h => absurd h List.not_mem_nil) rfl pu_N_addGate
abbrev rm_N_addFeed : Room := { frames := 0, cells := 0, slots := 0, locals := 0 }
theorem c_N_addFeed {l : Launch} {G : cx_G} (hG : cx_okG G) (hcl : cx_cl G = cx_cls) : cx_M cx_Tb l G m_N_addFeed prog_4_method_7_code 5 (some (.int)) rm_N_addFeed sp_N_addFeed :=
  cx_mk hG (Sp := []) (Ex := []) k_N_addFeed (fun S => g_N_ok S.1 S.2.1 S.2.2.2.2.2.2 hcl S.2.2.2.2.2.1) (fun S => p_N_ok S.1 S.2.1 S.2.2.2.2.2.2 hcl S.2.2.2.2.2.1) (fun h => l_N_ok h)
    (fun S => fun _ h => absurd h List.not_mem_nil)
    (fun S => fun _ h => absurd h List.not_mem_nil) rfl pu_N_addFeed
abbrev rm_N_forgetWord : Room := { frames := 1, cells := 0, slots := 0, locals := 21 }
theorem wl_14 : cx_wV cx_Tb "CycleCutter$Net" r_N "" 77 1 m_N_isInput prog_4_method_4_code 2 (some (.boolean)) := ⟨Or.inl (cx_in 210 (by decide +kernel) (by decide +kernel)), ⟨cx_in 211 (by decide +kernel) (by decide +kernel), cx_in 212 (by decide +kernel) (by decide +kernel), cx_in 213 (by decide +kernel) (by decide +kernel)⟩, ⟨by decide +kernel, ⟨by decide +kernel, by decide +kernel⟩, by decide +kernel⟩⟩
theorem c_N_forgetWord {l : Launch} {G : cx_G} (hG : cx_okG G) (hcl : cx_cl G = cx_cls) : cx_M cx_Tb l G m_N_forgetWord prog_4_method_12_code 3 none rm_N_forgetWord sp_N_forgetWord :=
  cx_mk hG (Sp := [(sp_N_isInput, 2, 0, 0)]) (Ex := []) k_N_forgetWord (fun S => g_N_ok S.1 S.2.1 S.2.2.2.2.2.2 hcl S.2.2.2.2.2.1) (fun S => p_N_ok S.1 S.2.1 S.2.2.2.2.2.2 hcl S.2.2.2.2.2.1) (fun h => l_N_ok h)
    (fun S => List.forall_mem_cons.mpr ⟨fun f na kc ks h => by
      cases (show some (sp_N_isInput, 2, 0, 0) = some (f, na, kc, ks) from h)
      exact cx_callV (C := r_N) (T0 := f_N) (N0 := 12) (np := 1) cx_TbAll S.1 S.2.1 S.2.2.1 S.2.2.2.2.2.2 S.2.2.2.1 S.2.2.2.2.1 S.2.2.2.2.2.1 (by rw [hcl]; rfl) (cx_M2.weak (c_N_isInput hG hcl)) wl_14 (by decide), fun _ h => absurd h List.not_mem_nil⟩)
    (fun S => fun _ h => absurd h List.not_mem_nil) rfl pu_N_forgetWord
abbrev rm_N_settleGate : Room := { frames := 0, cells := 0, slots := 0, locals := 0 }
theorem c_N_settleGate {l : Launch} {G : cx_G} (hG : cx_okG G) (hcl : cx_cl G = cx_cls) : cx_M cx_Tb l G m_N_settleGate prog_4_method_14_code 14 (some (.boolean)) rm_N_settleGate sp_N_settleGate :=
  cx_mk hG (Sp := []) (Ex := []) k_N_settleGate (fun S => g_N_ok S.1 S.2.1 S.2.2.2.2.2.2 hcl S.2.2.2.2.2.1) (fun S => p_N_ok S.1 S.2.1 S.2.2.2.2.2.2 hcl S.2.2.2.2.2.1) (fun h => l_N_ok h)
    (fun S => fun _ h => absurd h List.not_mem_nil)
    (fun S => fun _ h => absurd h List.not_mem_nil) rfl pu_N_settleGate
abbrev rm_N_settleWord : Room := { frames := 1, cells := 0, slots := 0, locals := 33 }
theorem wl_15 : cx_wV cx_Tb "CycleCutter$Net" r_N "" 81 2 m_N_settleGate prog_4_method_14_code 14 (some (.boolean)) := ⟨Or.inl (cx_in 218 (by decide +kernel) (by decide +kernel)), ⟨cx_in 220 (by decide +kernel) (by decide +kernel), cx_in 3 (by decide +kernel) (by decide +kernel), cx_in 221 (by decide +kernel) (by decide +kernel)⟩, ⟨by decide +kernel, ⟨by decide +kernel, by decide +kernel⟩, by decide +kernel⟩⟩
theorem c_N_settleWord {l : Launch} {G : cx_G} (hG : cx_okG G) (hcl : cx_cl G = cx_cls) : cx_M cx_Tb l G m_N_settleWord prog_4_method_13_code 5 none rm_N_settleWord sp_N_settleWord :=
  cx_mk hG (Sp := [(sp_N_isInput, 2, 0, 0), (sp_N_settleGate, 3, 0, 0)]) (Ex := []) k_N_settleWord (fun S => g_N_ok S.1 S.2.1 S.2.2.2.2.2.2 hcl S.2.2.2.2.2.1) (fun S => p_N_ok S.1 S.2.1 S.2.2.2.2.2.2 hcl S.2.2.2.2.2.1) (fun h => l_N_ok h)
    (fun S => List.forall_mem_cons.mpr ⟨fun f na kc ks h => by
      cases (show some (sp_N_isInput, 2, 0, 0) = some (f, na, kc, ks) from h)
      exact cx_callV (C := r_N) (T0 := f_N) (N0 := 12) (np := 1) cx_TbAll S.1 S.2.1 S.2.2.1 S.2.2.2.2.2.2 S.2.2.2.1 S.2.2.2.2.1 S.2.2.2.2.2.1 (by rw [hcl]; rfl) (cx_M2.weak (c_N_isInput hG hcl)) wl_14 (by decide), List.forall_mem_cons.mpr ⟨fun f na kc ks h => by
      cases (show some (sp_N_settleGate, 3, 0, 0) = some (f, na, kc, ks) from h)
      exact cx_callV (C := r_N) (T0 := f_N) (N0 := 12) (np := 2) cx_TbAll S.1 S.2.1 S.2.2.1 S.2.2.2.2.2.2 S.2.2.2.1 S.2.2.2.2.1 S.2.2.2.2.2.1 (by rw [hcl]; rfl) (c_N_settleGate hG hcl) wl_15 (by decide), fun _ h => absurd h List.not_mem_nil⟩⟩)
    (fun S => fun _ h => absurd h List.not_mem_nil) rfl pu_N_settleWord
abbrev rm_N_settle : Room := { frames := 2, cells := 0, slots := 0, locals := 57 }
theorem wl_16 : cx_wV cx_Tb "CycleCutter$Net" r_N "" 70 1 m_N_forgetWord prog_4_method_12_code 3 none := ⟨Or.inl (cx_in 206 (by decide +kernel) (by decide +kernel)), ⟨cx_in 208 (by decide +kernel) (by decide +kernel), cx_in 1 (by decide +kernel) (by decide +kernel), cx_in 209 (by decide +kernel) (by decide +kernel)⟩, ⟨by decide +kernel, ⟨by decide +kernel, by decide +kernel⟩, by decide +kernel⟩⟩
theorem wl_17 : cx_wV cx_Tb "CycleCutter$Net" r_N "" 74 1 m_N_settleWord prog_4_method_13_code 5 none := ⟨Or.inl (cx_in 214 (by decide +kernel) (by decide +kernel)), ⟨cx_in 216 (by decide +kernel) (by decide +kernel), cx_in 2 (by decide +kernel) (by decide +kernel), cx_in 217 (by decide +kernel) (by decide +kernel)⟩, ⟨by decide +kernel, ⟨by decide +kernel, by decide +kernel⟩, by decide +kernel⟩⟩
theorem c_N_settle {l : Launch} {G : cx_G} (hG : cx_okG G) (hcl : cx_cl G = cx_cls) : cx_M cx_Tb l G m_N_settle prog_4_method_11_code 2 none rm_N_settle sp_N_settle :=
  cx_mk hG (Sp := [(sp_N_forgetWord, 2, 0, 0), (sp_N_settleWord, 2, 0, 0)]) (Ex := []) k_N_settle (fun S => g_N_ok S.1 S.2.1 S.2.2.2.2.2.2 hcl S.2.2.2.2.2.1) (fun S => p_N_ok S.1 S.2.1 S.2.2.2.2.2.2 hcl S.2.2.2.2.2.1) (fun h => l_N_ok h)
    (fun S => List.forall_mem_cons.mpr ⟨fun f na kc ks h => by
      cases (show some (sp_N_forgetWord, 2, 0, 0) = some (f, na, kc, ks) from h)
      exact cx_callV (C := r_N) (T0 := f_N) (N0 := 12) (np := 1) cx_TbAll S.1 S.2.1 S.2.2.1 S.2.2.2.2.2.2 S.2.2.2.1 S.2.2.2.2.1 S.2.2.2.2.2.1 (by rw [hcl]; rfl) (c_N_forgetWord hG hcl) wl_16 (by decide), List.forall_mem_cons.mpr ⟨fun f na kc ks h => by
      cases (show some (sp_N_settleWord, 2, 0, 0) = some (f, na, kc, ks) from h)
      exact cx_callV (C := r_N) (T0 := f_N) (N0 := 12) (np := 1) cx_TbAll S.1 S.2.1 S.2.2.1 S.2.2.2.2.2.2 S.2.2.2.1 S.2.2.2.2.1 S.2.2.2.2.2.1 (by rw [hcl]; rfl) (c_N_settleWord hG hcl) wl_17 (by decide), fun _ h => absurd h List.not_mem_nil⟩⟩)
    (fun S => fun _ h => absurd h List.not_mem_nil) rfl pu_N_settle
abbrev rm_N_highOf : Room := { frames := 3, cells := 0, slots := 0, locals := 78 }
theorem wl_18 : cx_wV cx_Tb "CycleCutter$Net" r_N "" 63 0 m_N_settle prog_4_method_11_code 2 none := ⟨Or.inl (cx_in 202 (by decide +kernel) (by decide +kernel)), ⟨cx_in 204 (by decide +kernel) (by decide +kernel), cx_in 0 (by decide +kernel) (by decide +kernel), cx_in 205 (by decide +kernel) (by decide +kernel)⟩, ⟨by decide +kernel, ⟨by decide +kernel, by decide +kernel⟩, by decide +kernel⟩⟩
theorem c_N_highOf {l : Launch} {G : cx_G} (hG : cx_okG G) (hcl : cx_cl G = cx_cls) : cx_M cx_Tb l G m_N_highOf prog_4_method_8_code 2 (some (.array .long)) rm_N_highOf sp_N_highOf :=
  cx_mk hG (Sp := [(sp_N_settle, 1, 0, 0)]) (Ex := []) k_N_highOf (fun S => g_N_ok S.1 S.2.1 S.2.2.2.2.2.2 hcl S.2.2.2.2.2.1) (fun S => p_N_ok S.1 S.2.1 S.2.2.2.2.2.2 hcl S.2.2.2.2.2.1) (fun h => l_N_ok h)
    (fun S => List.forall_mem_cons.mpr ⟨fun f na kc ks h => by
      cases (show some (sp_N_settle, 1, 0, 0) = some (f, na, kc, ks) from h)
      exact cx_callV (C := r_N) (T0 := f_N) (N0 := 12) (np := 0) cx_TbAll S.1 S.2.1 S.2.2.1 S.2.2.2.2.2.2 S.2.2.2.1 S.2.2.2.2.1 S.2.2.2.2.2.1 (by rw [hcl]; rfl) (c_N_settle hG hcl) wl_18 (by decide), fun _ h => absurd h List.not_mem_nil⟩)
    (fun S => fun _ h => absurd h List.not_mem_nil) rfl pu_N_highOf
abbrev rm_N_lowOf : Room := { frames := 3, cells := 0, slots := 0, locals := 78 }
theorem c_N_lowOf {l : Launch} {G : cx_G} (hG : cx_okG G) (hcl : cx_cl G = cx_cls) : cx_M cx_Tb l G m_N_lowOf prog_4_method_9_code 2 (some (.array .long)) rm_N_lowOf sp_N_lowOf :=
  cx_mk hG (Sp := [(sp_N_settle, 1, 0, 0)]) (Ex := []) k_N_lowOf (fun S => g_N_ok S.1 S.2.1 S.2.2.2.2.2.2 hcl S.2.2.2.2.2.1) (fun S => p_N_ok S.1 S.2.1 S.2.2.2.2.2.2 hcl S.2.2.2.2.2.1) (fun h => l_N_ok h)
    (fun S => List.forall_mem_cons.mpr ⟨fun f na kc ks h => by
      cases (show some (sp_N_settle, 1, 0, 0) = some (f, na, kc, ks) from h)
      exact cx_callV (C := r_N) (T0 := f_N) (N0 := 12) (np := 0) cx_TbAll S.1 S.2.1 S.2.2.1 S.2.2.2.2.2.2 S.2.2.2.1 S.2.2.2.2.1 S.2.2.2.2.2.1 (by rw [hcl]; rfl) (c_N_settle hG hcl) wl_18 (by decide), fun _ h => absurd h List.not_mem_nil⟩)
    (fun S => fun _ h => absurd h List.not_mem_nil) rfl pu_N_lowOf
abbrev rm_N_valueOn : Room := { frames := 3, cells := 0, slots := 0, locals := 78 }
theorem wl_19 : cx_wS cx_Tb "CycleCutter$Net" "CycleCutter" 66 2 m_C_isMember prog_1_method_18_code 2 (some (.boolean)) := ⟨Or.inr (cx_in 500 (by decide +kernel) (by decide +kernel)), ⟨cx_in 236 (by decide +kernel) (by decide +kernel), cx_in 24 (by decide +kernel) (by decide +kernel), cx_in 237 (by decide +kernel) (by decide +kernel)⟩, ⟨by decide +kernel, ⟨by decide +kernel, by decide +kernel⟩, by decide +kernel⟩⟩
theorem c_N_valueOn {l : Launch} {G : cx_G} (hG : cx_okG G) (hcl : cx_cl G = cx_cls) : cx_M cx_Tb l G m_N_valueOn prog_4_method_10_code 3 (some (.int)) rm_N_valueOn sp_N_valueOn :=
  cx_mk hG (Sp := [(sp_N_settle, 1, 0, 0), (sp_C_isMember, 2, 0, 0)]) (Ex := []) k_N_valueOn (fun S => g_N_ok S.1 S.2.1 S.2.2.2.2.2.2 hcl S.2.2.2.2.2.1) (fun S => p_N_ok S.1 S.2.1 S.2.2.2.2.2.2 hcl S.2.2.2.2.2.1) (fun h => l_N_ok h)
    (fun S => List.forall_mem_cons.mpr ⟨fun f na kc ks h => by
      cases (show some (sp_N_settle, 1, 0, 0) = some (f, na, kc, ks) from h)
      exact cx_callV (C := r_N) (T0 := f_N) (N0 := 12) (np := 0) cx_TbAll S.1 S.2.1 S.2.2.1 S.2.2.2.2.2.2 S.2.2.2.1 S.2.2.2.2.1 S.2.2.2.2.2.1 (by rw [hcl]; rfl) (c_N_settle hG hcl) wl_18 (by decide), fun _ h => absurd h List.not_mem_nil⟩)
    (fun S => List.forall_mem_cons.mpr ⟨fun f na kc ks h => by
      cases (show some (sp_C_isMember, 2, 0, 0) = some (f, na, kc, ks) from h)
      exact cx_callS (np := 2) cx_TbAll S.1 S.2.1 S.2.2.1 S.2.2.2.2.2.2 S.2.2.2.1 S.2.2.2.2.1 S.2.2.2.2.2.1 (cx_M2.weak (c_C_isMember hG hcl)) wl_19 (by decide), fun _ h => absurd h List.not_mem_nil⟩) rfl pu_N_valueOn
abbrev rm_C_gate : Room := { frames := 6, cells := 1, slots := 6, locals := 82 }
abbrev v2_C_gate : List (Nat × Nat) := []
abbrev s2_C_gate : List (Nat × Nat) := []
abbrev v1_C_gate : List (Nat × Nat) := [(38, 0)]
abbrev s1_C_gate : List (Nat × Nat) := []
theorem k2_C_gate : (t_C_gate.take 9).all (cx_dec false prog_1_method_2_code (some (.int)) 2 g_C p_C l_C v2_C_gate s2_C_gate h_C_gate w_C_gate) = true := by decide +kernel
theorem k1_C_gate : (t_C_gate.drop 9).all (cx_dec true prog_1_method_2_code (some (.int)) 2 g_C p_C l_C v1_C_gate s1_C_gate [] w_C_gate) = true := by decide +kernel
theorem th_0 : ∀ a ∈ Jvm.Bundle.ownAtoms "CycleCutter" 35 "java/lang/IllegalArgumentException" ["java/lang/RuntimeException", "java/lang/Exception"], a ∈ cx_Tb ∨ a = .isRef (.static "java/lang/Throwable" "UNASSIGNED_STACK" "[Ljava/lang/StackTraceElement;") ∨ a = .isRef (.static "java/lang/Throwable" "SUPPRESSED_SENTINEL" "Ljava/util/List;") ∨ a = .laysStatic "java/lang/Throwable" "UNASSIGNED_STACK" "[Ljava/lang/StackTraceElement;" ∨ a = .laysStatic "java/lang/Throwable" "SUPPRESSED_SENTINEL" "Ljava/util/List;" := cx_ats (ix := [30, 292, 301, 305, 308, 310, 293, 294, 44, 45, 295, 300, 306, 326, 282, 327, 284, 328, 286, 296, 0, 298, 0, 288, 322, 323, 325, 288, 313, 314, 315, 316, 274, 316, 317, 318, 319, 276, 319, 320, 321, 322, 278, 312, 271, 272, 279, 280, 281, 283, 285, 287, 0, 0, 291, 290, 289]) (by decide +kernel)
theorem wl_20 : cx_wV cx_Tb "CycleCutter" r_N "" 38 1 m_N_addGate prog_4_method_5_code 3 (some (.int)) := ⟨Or.inl (cx_in 337 (by decide +kernel) (by decide +kernel)), ⟨cx_in 338 (by decide +kernel) (by decide +kernel), cx_in 339 (by decide +kernel) (by decide +kernel), cx_in 340 (by decide +kernel) (by decide +kernel)⟩, ⟨by decide +kernel, ⟨by decide +kernel, by decide +kernel⟩, by decide +kernel⟩⟩
theorem c_C_gate {l : Launch} {G : cx_G} (hG : cx_okG G) (hcl : cx_cl G = cx_cls) (hl : cx_nt l) : cx_M cx_Tb l G m_C_gate prog_1_method_2_code 2 (some (.int)) rm_C_gate sp_C_gate :=
  cx_mk3 hG (Sp := [(sp_N_addGate, 2, 0, 0)]) (Ex := x_C_gate) k2_C_gate k1_C_gate (fun S => g_C_ok S.1 S.2.1 S.2.2.2.2.2.2 hcl S.2.2.2.2.2.1) (fun S => p_C_ok S.1 S.2.1 S.2.2.2.2.2.2 hcl S.2.2.2.2.2.1) (fun h => l_C_ok h)
    (fun S => fun _ h => absurd h List.not_mem_nil)
    (fun S => fun _ h => absurd h List.not_mem_nil)
    (fun S => List.forall_mem_cons.mpr ⟨fun x h => by
      cases (show some "java/lang/IllegalArgumentException" = some x from h)
      exact cx_throw (z := 31) (ix := 33) (tx := "sort is not 0, 2 or 3") hl S.1 S.2.1 S.2.2.1 S.2.2.2.2.2.2 S.2.2.2.1 S.2.2.2.2.1 S.2.2.2.2.2.1 ⟨by decide +kernel, by decide +kernel, by decide +kernel, by decide +kernel, by decide +kernel⟩ ⟨cx_in 269 (by decide +kernel) (by decide +kernel), cx_in 270 (by decide +kernel) (by decide +kernel), cx_in 32 (by decide +kernel) (by decide +kernel), cx_in 310 (by decide +kernel) (by decide +kernel)⟩ th_0 (by decide +kernel) (by decide +kernel) (by decide), fun _ h => absurd h List.not_mem_nil⟩)
    (fun S => List.forall_mem_cons.mpr ⟨fun f na kc ks h => by
      cases (show some (sp_N_addGate, 2, 0, 0) = some (f, na, kc, ks) from h)
      exact cx_callV (C := r_N) (T0 := f_N) (N0 := 12) (np := 1) cx_TbAll S.1 S.2.1 S.2.2.1 S.2.2.2.2.2.2 S.2.2.2.1 S.2.2.2.2.1 S.2.2.2.2.2.1 (by rw [hcl]; rfl) (c_N_addGate hG hcl) wl_20 (by decide), fun _ h => absurd h List.not_mem_nil⟩)
    (fun S => fun _ h => absurd h List.not_mem_nil) pu_C_gate
abbrev rm_C_feed : Room := { frames := 6, cells := 1, slots := 6, locals := 82 }
abbrev v2_C_feed : List (Nat × Nat) := [(42, 0), (51, 1)]
abbrev s2_C_feed : List (Nat × Nat) := []
abbrev v1_C_feed : List (Nat × Nat) := [(59, 2)]
abbrev s1_C_feed : List (Nat × Nat) := []
theorem k2_C_feed : (t_C_feed.take 17).all (cx_dec false prog_1_method_3_code (some (.int)) 4 g_C p_C l_C v2_C_feed s2_C_feed h_C_feed w_C_feed) = true := by decide +kernel
theorem k1_C_feed : (t_C_feed.drop 17).all (cx_dec true prog_1_method_3_code (some (.int)) 4 g_C p_C l_C v1_C_feed s1_C_feed [] w_C_feed) = true := by decide +kernel
theorem wl_21 : cx_wV cx_Tb "CycleCutter" r_N "" 42 1 m_N_hasGate prog_4_method_3_code 2 (some (.boolean)) := ⟨Or.inl (cx_in 357 (by decide +kernel) (by decide +kernel)), ⟨cx_in 358 (by decide +kernel) (by decide +kernel), cx_in 359 (by decide +kernel) (by decide +kernel), cx_in 360 (by decide +kernel) (by decide +kernel)⟩, ⟨by decide +kernel, ⟨by decide +kernel, by decide +kernel⟩, by decide +kernel⟩⟩
theorem wl_22 : cx_wV cx_Tb "CycleCutter" r_N "" 51 1 m_N_isInput prog_4_method_4_code 2 (some (.boolean)) := ⟨Or.inl (cx_in 377 (by decide +kernel) (by decide +kernel)), ⟨cx_in 211 (by decide +kernel) (by decide +kernel), cx_in 212 (by decide +kernel) (by decide +kernel), cx_in 213 (by decide +kernel) (by decide +kernel)⟩, ⟨by decide +kernel, ⟨by decide +kernel, by decide +kernel⟩, by decide +kernel⟩⟩
theorem th_1 : ∀ a ∈ Jvm.Bundle.ownAtoms "CycleCutter" 50 "java/lang/IndexOutOfBoundsException" ["java/lang/RuntimeException", "java/lang/Exception"], a ∈ cx_Tb ∨ a = .isRef (.static "java/lang/Throwable" "UNASSIGNED_STACK" "[Ljava/lang/StackTraceElement;") ∨ a = .isRef (.static "java/lang/Throwable" "SUPPRESSED_SENTINEL" "Ljava/util/List;") ∨ a = .laysStatic "java/lang/Throwable" "UNASSIGNED_STACK" "[Ljava/lang/StackTraceElement;" ∨ a = .laysStatic "java/lang/Throwable" "SUPPRESSED_SENTINEL" "Ljava/util/List;" := cx_ats (ix := [30, 292, 301, 305, 308, 310, 293, 294, 44, 45, 295, 300, 306, 326, 282, 327, 284, 328, 286, 296, 0, 298, 0, 288, 322, 323, 325, 288, 373, 374, 375, 316, 274, 316, 317, 318, 319, 276, 319, 320, 321, 322, 278, 372, 363, 364, 365, 304, 366, 367, 368, 369, 0, 0, 291, 290, 370]) (by decide +kernel)
theorem th_2 : ∀ a ∈ Jvm.Bundle.ownAtoms "CycleCutter" 58 "java/lang/IllegalStateException" ["java/lang/RuntimeException", "java/lang/Exception"], a ∈ cx_Tb ∨ a = .isRef (.static "java/lang/Throwable" "UNASSIGNED_STACK" "[Ljava/lang/StackTraceElement;") ∨ a = .isRef (.static "java/lang/Throwable" "SUPPRESSED_SENTINEL" "Ljava/util/List;") ∨ a = .laysStatic "java/lang/Throwable" "UNASSIGNED_STACK" "[Ljava/lang/StackTraceElement;" ∨ a = .laysStatic "java/lang/Throwable" "SUPPRESSED_SENTINEL" "Ljava/util/List;" := cx_ats (ix := [30, 292, 301, 305, 308, 310, 293, 294, 44, 45, 295, 300, 306, 326, 282, 327, 284, 328, 286, 296, 0, 298, 0, 288, 322, 323, 325, 288, 390, 391, 392, 316, 274, 316, 317, 318, 319, 276, 319, 320, 321, 322, 278, 389, 380, 381, 382, 303, 383, 384, 385, 386, 0, 0, 291, 290, 387]) (by decide +kernel)
theorem wl_23 : cx_wV cx_Tb "CycleCutter" r_N "" 59 3 m_N_addFeed prog_4_method_7_code 5 (some (.int)) := ⟨Or.inl (cx_in 394 (by decide +kernel) (by decide +kernel)), ⟨cx_in 395 (by decide +kernel) (by decide +kernel), cx_in 396 (by decide +kernel) (by decide +kernel), cx_in 397 (by decide +kernel) (by decide +kernel)⟩, ⟨by decide +kernel, ⟨by decide +kernel, by decide +kernel⟩, by decide +kernel⟩⟩
theorem c_C_feed {l : Launch} {G : cx_G} (hG : cx_okG G) (hcl : cx_cl G = cx_cls) (hl : cx_nt l) : cx_M cx_Tb l G m_C_feed prog_1_method_3_code 4 (some (.int)) rm_C_feed sp_C_feed :=
  cx_mk3 hG (Sp := [(sp_N_hasGate, 2, 0, 0), (sp_N_isInput, 2, 0, 0), (sp_N_addFeed, 4, 0, 0)]) (Ex := x_C_feed) k2_C_feed k1_C_feed (fun S => g_C_ok S.1 S.2.1 S.2.2.2.2.2.2 hcl S.2.2.2.2.2.1) (fun S => p_C_ok S.1 S.2.1 S.2.2.2.2.2.2 hcl S.2.2.2.2.2.1) (fun h => l_C_ok h)
    (fun S => List.forall_mem_cons.mpr ⟨fun f na kc ks h => by
      cases (show some (sp_N_hasGate, 2, 0, 0) = some (f, na, kc, ks) from h)
      exact cx_callV3 (C := r_N) (T0 := f_N) (N0 := 12) (np := 1) cx_TbAll S.1 S.2.1 S.2.2.1 S.2.2.2.2.2.2 S.2.2.2.1 S.2.2.2.2.1 S.2.2.2.2.2.1 (by rw [hcl]; rfl) (c_N_hasGate hG hcl) wl_21 (by decide), List.forall_mem_cons.mpr ⟨fun f na kc ks h => by
      cases (show some (sp_N_isInput, 2, 0, 0) = some (f, na, kc, ks) from h)
      exact cx_callV3 (C := r_N) (T0 := f_N) (N0 := 12) (np := 1) cx_TbAll S.1 S.2.1 S.2.2.1 S.2.2.2.2.2.2 S.2.2.2.1 S.2.2.2.2.1 S.2.2.2.2.2.1 (by rw [hcl]; rfl) (c_N_isInput hG hcl) wl_22 (by decide), fun _ h => absurd h List.not_mem_nil⟩⟩)
    (fun S => fun _ h => absurd h List.not_mem_nil)
    (fun S => List.forall_mem_cons.mpr ⟨fun x h => by
      cases (show some "java/lang/IndexOutOfBoundsException" = some x from h)
      exact cx_throw (z := 46) (ix := 48) (tx := "no such gate") hl S.1 S.2.1 S.2.2.1 S.2.2.2.2.2.2 S.2.2.2.1 S.2.2.2.2.1 S.2.2.2.2.2.1 ⟨by decide +kernel, by decide +kernel, by decide +kernel, by decide +kernel, by decide +kernel⟩ ⟨cx_in 361 (by decide +kernel) (by decide +kernel), cx_in 362 (by decide +kernel) (by decide +kernel), cx_in 33 (by decide +kernel) (by decide +kernel), cx_in 370 (by decide +kernel) (by decide +kernel)⟩ th_1 (by decide +kernel) (by decide +kernel) (by decide), List.forall_mem_cons.mpr ⟨fun x h => by
      cases (show some "java/lang/IllegalStateException" = some x from h)
      exact cx_throw (z := 54) (ix := 56) (tx := "an input takes no feeds") hl S.1 S.2.1 S.2.2.1 S.2.2.2.2.2.2 S.2.2.2.1 S.2.2.2.2.1 S.2.2.2.2.2.1 ⟨by decide +kernel, by decide +kernel, by decide +kernel, by decide +kernel, by decide +kernel⟩ ⟨cx_in 378 (by decide +kernel) (by decide +kernel), cx_in 379 (by decide +kernel) (by decide +kernel), cx_in 34 (by decide +kernel) (by decide +kernel), cx_in 387 (by decide +kernel) (by decide +kernel)⟩ th_2 (by decide +kernel) (by decide +kernel) (by decide), fun _ h => absurd h List.not_mem_nil⟩⟩)
    (fun S => List.forall_mem_cons.mpr ⟨fun f na kc ks h => by
      cases (show some (sp_N_addFeed, 4, 0, 0) = some (f, na, kc, ks) from h)
      exact cx_callV (C := r_N) (T0 := f_N) (N0 := 12) (np := 3) cx_TbAll S.1 S.2.1 S.2.2.1 S.2.2.2.2.2.2 S.2.2.2.1 S.2.2.2.2.1 S.2.2.2.2.2.1 (by rw [hcl]; rfl) (c_N_addFeed hG hcl) wl_23 (by decide), fun _ h => absurd h List.not_mem_nil⟩)
    (fun S => fun _ h => absurd h List.not_mem_nil) pu_C_feed
abbrev rm_C_output : Room := { frames := 6, cells := 1, slots := 6, locals := 82 }
abbrev v2_C_output : List (Nat × Nat) := [(42, 0)]
abbrev s2_C_output : List (Nat × Nat) := []
abbrev v1_C_output : List (Nat × Nat) := []
abbrev s1_C_output : List (Nat × Nat) := []
theorem k2_C_output : (t_C_output.take 6).all (cx_dec false prog_1_method_4_code (some (.int)) 3 g_C p_C l_C v2_C_output s2_C_output h_C_output w_C_output) = true := by decide +kernel
theorem k1_C_output : (t_C_output.drop 6).all (cx_dec true prog_1_method_4_code (some (.int)) 3 g_C p_C l_C v1_C_output s1_C_output [] w_C_output) = true := by decide +kernel
theorem c_C_output {l : Launch} {G : cx_G} (hG : cx_okG G) (hcl : cx_cl G = cx_cls) (hl : cx_nt l) : cx_M cx_Tb l G m_C_output prog_1_method_4_code 3 (some (.int)) rm_C_output sp_C_output :=
  cx_mk3 hG (Sp := [(sp_N_hasGate, 2, 0, 0)]) (Ex := x_C_output) k2_C_output k1_C_output (fun S => g_C_ok S.1 S.2.1 S.2.2.2.2.2.2 hcl S.2.2.2.2.2.1) (fun S => p_C_ok S.1 S.2.1 S.2.2.2.2.2.2 hcl S.2.2.2.2.2.1) (fun h => l_C_ok h)
    (fun S => List.forall_mem_cons.mpr ⟨fun f na kc ks h => by
      cases (show some (sp_N_hasGate, 2, 0, 0) = some (f, na, kc, ks) from h)
      exact cx_callV3 (C := r_N) (T0 := f_N) (N0 := 12) (np := 1) cx_TbAll S.1 S.2.1 S.2.2.1 S.2.2.2.2.2.2 S.2.2.2.1 S.2.2.2.2.1 S.2.2.2.2.2.1 (by rw [hcl]; rfl) (c_N_hasGate hG hcl) wl_21 (by decide), fun _ h => absurd h List.not_mem_nil⟩)
    (fun S => fun _ h => absurd h List.not_mem_nil)
    (fun S => List.forall_mem_cons.mpr ⟨fun x h => by
      cases (show some "java/lang/IndexOutOfBoundsException" = some x from h)
      exact cx_throw (z := 46) (ix := 48) (tx := "no such gate") hl S.1 S.2.1 S.2.2.1 S.2.2.2.2.2.2 S.2.2.2.1 S.2.2.2.2.1 S.2.2.2.2.2.1 ⟨by decide +kernel, by decide +kernel, by decide +kernel, by decide +kernel, by decide +kernel⟩ ⟨cx_in 361 (by decide +kernel) (by decide +kernel), cx_in 362 (by decide +kernel) (by decide +kernel), cx_in 33 (by decide +kernel) (by decide +kernel), cx_in 370 (by decide +kernel) (by decide +kernel)⟩ th_1 (by decide +kernel) (by decide +kernel) (by decide), fun _ h => absurd h List.not_mem_nil⟩)
    (fun S => fun _ h => absurd h List.not_mem_nil)
    (fun S => fun _ h => absurd h List.not_mem_nil) pu_C_output
abbrev rm_C_clear : Room := { frames := 2, cells := 0, slots := 0, locals := 41 }
theorem wl_24 : cx_wV cx_Tb "CycleCutter" r_N "" 66 0 m_N_dropAll prog_4_method_2_code 1 none := ⟨Or.inl (cx_in 182 (by decide +kernel) (by decide +kernel)), ⟨cx_in 183 (by decide +kernel) (by decide +kernel), cx_in 184 (by decide +kernel) (by decide +kernel), cx_in 185 (by decide +kernel) (by decide +kernel)⟩, ⟨by decide +kernel, ⟨by decide +kernel, by decide +kernel⟩, by decide +kernel⟩⟩
theorem wl_25 : cx_wV cx_Tb "CycleCutter" r_L "" 69 0 m_L_dropAll prog_2_method_2_code 1 none := ⟨Or.inl (cx_in 186 (by decide +kernel) (by decide +kernel)), ⟨cx_in 187 (by decide +kernel) (by decide +kernel), cx_in 188 (by decide +kernel) (by decide +kernel), cx_in 189 (by decide +kernel) (by decide +kernel)⟩, ⟨by decide +kernel, ⟨by decide +kernel, by decide +kernel⟩, by decide +kernel⟩⟩
theorem c_C_clear {l : Launch} {G : cx_G} (hG : cx_okG G) (hcl : cx_cl G = cx_cls) : cx_M cx_Tb l G m_C_clear prog_1_method_5_code 2 (some (.int)) rm_C_clear sp_C_clear :=
  cx_mk hG (Sp := [(sp_N_dropAll, 1, 0, 0), (sp_L_dropAll, 1, 0, 0)]) (Ex := []) k_C_clear (fun S => g_C_ok S.1 S.2.1 S.2.2.2.2.2.2 hcl S.2.2.2.2.2.1) (fun S => p_C_ok S.1 S.2.1 S.2.2.2.2.2.2 hcl S.2.2.2.2.2.1) (fun h => l_C_ok h)
    (fun S => List.forall_mem_cons.mpr ⟨fun f na kc ks h => by
      cases (show some (sp_N_dropAll, 1, 0, 0) = some (f, na, kc, ks) from h)
      exact cx_callV (C := r_N) (T0 := f_N) (N0 := 12) (np := 0) cx_TbAll S.1 S.2.1 S.2.2.1 S.2.2.2.2.2.2 S.2.2.2.1 S.2.2.2.2.1 S.2.2.2.2.2.1 (by rw [hcl]; rfl) (c_N_dropAll hG hcl) wl_24 (by decide), List.forall_mem_cons.mpr ⟨fun f na kc ks h => by
      cases (show some (sp_L_dropAll, 1, 0, 0) = some (f, na, kc, ks) from h)
      exact cx_callV (C := r_L) (T0 := f_L) (N0 := 5) (np := 0) cx_TbAll S.1 S.2.1 S.2.2.1 S.2.2.2.2.2.2 S.2.2.2.1 S.2.2.2.2.1 S.2.2.2.2.2.1 (by rw [hcl]; rfl) (c_L_dropAll hG hcl) wl_25 (by decide), fun _ h => absurd h List.not_mem_nil⟩⟩)
    (fun S => fun _ h => absurd h List.not_mem_nil) rfl pu_C_clear
abbrev rm_C_lay : Room := { frames := 5, cells := 0, slots := 0, locals := 117 }
theorem wl_26 : cx_wV cx_Tb "CycleCutter" r_N "" 70 1 m_N_highOf prog_4_method_8_code 2 (some (.array .long)) := ⟨Or.inl (cx_in 198 (by decide +kernel) (by decide +kernel)), ⟨cx_in 199 (by decide +kernel) (by decide +kernel), cx_in 200 (by decide +kernel) (by decide +kernel), cx_in 201 (by decide +kernel) (by decide +kernel)⟩, ⟨by decide +kernel, ⟨by decide +kernel, by decide +kernel⟩, by decide +kernel⟩⟩
theorem wl_27 : cx_wV cx_Tb "CycleCutter" r_N "" 74 1 m_N_lowOf prog_4_method_9_code 2 (some (.array .long)) := ⟨Or.inl (cx_in 223 (by decide +kernel) (by decide +kernel)), ⟨cx_in 224 (by decide +kernel) (by decide +kernel), cx_in 225 (by decide +kernel) (by decide +kernel), cx_in 226 (by decide +kernel) (by decide +kernel)⟩, ⟨by decide +kernel, ⟨by decide +kernel, by decide +kernel⟩, by decide +kernel⟩⟩
theorem wl_28 : cx_wV cx_Tb "CycleCutter" r_L "" 77 2 m_L_addOutput prog_2_method_3_code 4 none := ⟨Or.inl (cx_in 227 (by decide +kernel) (by decide +kernel)), ⟨cx_in 228 (by decide +kernel) (by decide +kernel), cx_in 229 (by decide +kernel) (by decide +kernel), cx_in 230 (by decide +kernel) (by decide +kernel)⟩, ⟨by decide +kernel, ⟨by decide +kernel, by decide +kernel⟩, by decide +kernel⟩⟩
theorem wl_29 : cx_wV cx_Tb "CycleCutter" r_M "" 85 0 m_M_total prog_3_method_3_code 1 (some (.int)) := ⟨Or.inl (cx_in 249 (by decide +kernel) (by decide +kernel)), ⟨cx_in 250 (by decide +kernel) (by decide +kernel), cx_in 251 (by decide +kernel) (by decide +kernel), cx_in 252 (by decide +kernel) (by decide +kernel)⟩, ⟨by decide +kernel, ⟨by decide +kernel, by decide +kernel⟩, by decide +kernel⟩⟩
theorem c_C_lay {l : Launch} {G : cx_G} (hG : cx_okG G) (hcl : cx_cl G = cx_cls) : cx_M cx_Tb l G m_C_lay prog_1_method_6_code 3 (some (.int)) rm_C_lay sp_C_lay :=
  cx_mk hG (Sp := [(sp_L_dropAll, 1, 0, 0), (sp_N_highOf, 2, 0, 0), (sp_N_lowOf, 2, 0, 0), (sp_L_addOutput, 3, 0, 0), (sp_M_total, 1, 0, 0)]) (Ex := []) k_C_lay (fun S => g_C_ok S.1 S.2.1 S.2.2.2.2.2.2 hcl S.2.2.2.2.2.1) (fun S => p_C_ok S.1 S.2.1 S.2.2.2.2.2.2 hcl S.2.2.2.2.2.1) (fun h => l_C_ok h)
    (fun S => List.forall_mem_cons.mpr ⟨fun f na kc ks h => by
      cases (show some (sp_L_dropAll, 1, 0, 0) = some (f, na, kc, ks) from h)
      exact cx_callV (C := r_L) (T0 := f_L) (N0 := 5) (np := 0) cx_TbAll S.1 S.2.1 S.2.2.1 S.2.2.2.2.2.2 S.2.2.2.1 S.2.2.2.2.1 S.2.2.2.2.2.1 (by rw [hcl]; rfl) (c_L_dropAll hG hcl) wl_25 (by decide), List.forall_mem_cons.mpr ⟨fun f na kc ks h => by
      cases (show some (sp_N_highOf, 2, 0, 0) = some (f, na, kc, ks) from h)
      exact cx_callV (C := r_N) (T0 := f_N) (N0 := 12) (np := 1) cx_TbAll S.1 S.2.1 S.2.2.1 S.2.2.2.2.2.2 S.2.2.2.1 S.2.2.2.2.1 S.2.2.2.2.2.1 (by rw [hcl]; rfl) (c_N_highOf hG hcl) wl_26 (by decide), List.forall_mem_cons.mpr ⟨fun f na kc ks h => by
      cases (show some (sp_N_lowOf, 2, 0, 0) = some (f, na, kc, ks) from h)
      exact cx_callV (C := r_N) (T0 := f_N) (N0 := 12) (np := 1) cx_TbAll S.1 S.2.1 S.2.2.1 S.2.2.2.2.2.2 S.2.2.2.1 S.2.2.2.2.1 S.2.2.2.2.2.1 (by rw [hcl]; rfl) (c_N_lowOf hG hcl) wl_27 (by decide), List.forall_mem_cons.mpr ⟨fun f na kc ks h => by
      cases (show some (sp_L_addOutput, 3, 0, 0) = some (f, na, kc, ks) from h)
      exact cx_callV (C := r_L) (T0 := f_L) (N0 := 5) (np := 2) cx_TbAll S.1 S.2.1 S.2.2.1 S.2.2.2.2.2.2 S.2.2.2.1 S.2.2.2.2.1 S.2.2.2.2.2.1 (by rw [hcl]; rfl) (c_L_addOutput hG hcl) wl_28 (by decide), List.forall_mem_cons.mpr ⟨fun f na kc ks h => by
      cases (show some (sp_M_total, 1, 0, 0) = some (f, na, kc, ks) from h)
      exact cx_callV (C := r_M) (T0 := f_M) (N0 := 11) (np := 0) cx_TbAll S.1 S.2.1 S.2.2.1 S.2.2.2.2.2.2 S.2.2.2.1 S.2.2.2.2.1 S.2.2.2.2.2.1 (by rw [hcl]; rfl) (c_M_total hG hcl) wl_29 (by decide), fun _ h => absurd h List.not_mem_nil⟩⟩⟩⟩⟩)
    (fun S => fun _ h => absurd h List.not_mem_nil) rfl pu_C_lay
abbrev rm_C_requireLaidOut : Room := { frames := 6, cells := 1, slots := 6, locals := 82 }
theorem k2_C_requireLaidOut : t_C_requireLaidOut.all (cx_dec false prog_1_method_15_code none 2 g_C p_C l_C v_C_requireLaidOut s_C_requireLaidOut h_C_requireLaidOut w_C_requireLaidOut) = true := by decide +kernel
theorem c_C_requireLaidOut {l : Launch} {G : cx_G} (hG : cx_okG G) (hcl : cx_cl G = cx_cls) (hl : cx_nt l) : cx_M2 cx_Tb l G m_C_requireLaidOut prog_1_method_15_code 2 none rm_C_requireLaidOut sp_C_requireLaidOut :=
  cx_mk2 hG (Sp := []) (Ex := x_C_requireLaidOut) k2_C_requireLaidOut (fun S => g_C_ok S.1 S.2.1 S.2.2.2.2.2.2 hcl S.2.2.2.2.2.1) (fun S => p_C_ok S.1 S.2.1 S.2.2.2.2.2.2 hcl S.2.2.2.2.2.1) (fun h => l_C_ok h)
    (fun S => fun _ h => absurd h List.not_mem_nil)
    (fun S => fun _ h => absurd h List.not_mem_nil)
    (fun S => List.forall_mem_cons.mpr ⟨fun x h => by
      cases (show some "java/lang/IndexOutOfBoundsException" = some x from h)
      exact cx_throw (z := 46) (ix := 134) (tx := "no such output is laid out") hl S.1 S.2.1 S.2.2.1 S.2.2.2.2.2.2 S.2.2.2.1 S.2.2.2.2.1 S.2.2.2.2.2.1 ⟨by decide +kernel, by decide +kernel, by decide +kernel, by decide +kernel, by decide +kernel⟩ ⟨cx_in 361 (by decide +kernel) (by decide +kernel), cx_in 362 (by decide +kernel) (by decide +kernel), cx_in 33 (by decide +kernel) (by decide +kernel), cx_in 416 (by decide +kernel) (by decide +kernel)⟩ th_1 (by decide +kernel) (by decide +kernel) (by decide), fun _ h => absurd h List.not_mem_nil⟩) pu_C_requireLaidOut
abbrev rm_C_requireChoice : Room := { frames := 6, cells := 1, slots := 6, locals := 82 }
theorem k2_C_requireChoice : t_C_requireChoice.all (cx_dec false prog_1_method_16_code none 1 g_C p_C l_C v_C_requireChoice s_C_requireChoice h_C_requireChoice w_C_requireChoice) = true := by decide +kernel
theorem c_C_requireChoice {l : Launch} {G : cx_G} (hG : cx_okG G) (hcl : cx_cl G = cx_cls) (hl : cx_nt l) : cx_M2 cx_Tb l G m_C_requireChoice prog_1_method_16_code 1 none rm_C_requireChoice sp_C_requireChoice :=
  cx_mk2 hG (Sp := []) (Ex := x_C_requireChoice) k2_C_requireChoice (fun S => g_C_ok S.1 S.2.1 S.2.2.2.2.2.2 hcl S.2.2.2.2.2.1) (fun S => p_C_ok S.1 S.2.1 S.2.2.2.2.2.2 hcl S.2.2.2.2.2.1) (fun h => l_C_ok h)
    (fun S => fun _ h => absurd h List.not_mem_nil)
    (fun S => fun _ h => absurd h List.not_mem_nil)
    (fun S => List.forall_mem_cons.mpr ⟨fun x h => by
      cases (show some "java/lang/IndexOutOfBoundsException" = some x from h)
      exact cx_throw (z := 46) (ix := 136) (tx := "choice is not 0 .. 255") hl S.1 S.2.1 S.2.2.1 S.2.2.2.2.2.2 S.2.2.2.1 S.2.2.2.2.1 S.2.2.2.2.2.1 ⟨by decide +kernel, by decide +kernel, by decide +kernel, by decide +kernel, by decide +kernel⟩ ⟨cx_in 361 (by decide +kernel) (by decide +kernel), cx_in 362 (by decide +kernel) (by decide +kernel), cx_in 33 (by decide +kernel) (by decide +kernel), cx_in 420 (by decide +kernel) (by decide +kernel)⟩ th_1 (by decide +kernel) (by decide +kernel) (by decide), fun _ h => absurd h List.not_mem_nil⟩) pu_C_requireChoice
abbrev rm_C_run : Room := { frames := 7, cells := 2, slots := 12, locals := 103 }
theorem k2_C_run : t_C_run.all (cx_dec false prog_1_method_7_code (some (.int)) 3 g_C p_C l_C v_C_run s_C_run h_C_run w_C_run) = true := by decide +kernel
theorem wl_30 : cx_wV cx_Tb "CycleCutter" r_C "" 91 1 m_C_requireLaidOut prog_1_method_15_code 2 none := ⟨Or.inl (cx_in 412 (by decide +kernel) (by decide +kernel)), ⟨cx_in 414 (by decide +kernel) (by decide +kernel), cx_in 8 (by decide +kernel) (by decide +kernel), cx_in 415 (by decide +kernel) (by decide +kernel)⟩, ⟨by decide +kernel, ⟨by decide +kernel, by decide +kernel⟩, by decide +kernel⟩⟩
theorem wl_31 : cx_wV cx_Tb "CycleCutter" r_L "" 98 2 m_L_valueOn prog_2_method_4_code 3 (some (.int)) := ⟨Or.inl (cx_in 421 (by decide +kernel) (by decide +kernel)), ⟨cx_in 422 (by decide +kernel) (by decide +kernel), cx_in 423 (by decide +kernel) (by decide +kernel), cx_in 424 (by decide +kernel) (by decide +kernel)⟩, ⟨by decide +kernel, ⟨by decide +kernel, by decide +kernel⟩, by decide +kernel⟩⟩
theorem wl_32 : cx_wS cx_Tb "CycleCutter" "" 95 1 m_C_requireChoice prog_1_method_16_code 1 none := ⟨Or.inl (cx_in 417 (by decide +kernel) (by decide +kernel)), ⟨cx_in 418 (by decide +kernel) (by decide +kernel), cx_in 24 (by decide +kernel) (by decide +kernel), cx_in 419 (by decide +kernel) (by decide +kernel)⟩, ⟨by decide +kernel, ⟨by decide +kernel, by decide +kernel⟩, by decide +kernel⟩⟩
theorem c_C_run {l : Launch} {G : cx_G} (hG : cx_okG G) (hcl : cx_cl G = cx_cls) (hl : cx_nt l) : cx_M2 cx_Tb l G m_C_run prog_1_method_7_code 3 (some (.int)) rm_C_run sp_C_run :=
  cx_mk2 hG (Sp := [(sp_C_requireLaidOut, 2, 1, 6), (sp_C_requireChoice, 1, 1, 6), (sp_L_valueOn, 3, 0, 0)]) (Ex := []) k2_C_run (fun S => g_C_ok S.1 S.2.1 S.2.2.2.2.2.2 hcl S.2.2.2.2.2.1) (fun S => p_C_ok S.1 S.2.1 S.2.2.2.2.2.2 hcl S.2.2.2.2.2.1) (fun h => l_C_ok h)
    (fun S => List.forall_mem_cons.mpr ⟨fun f na kc ks h => by
      cases (show some (sp_C_requireLaidOut, 2, 1, 6) = some (f, na, kc, ks) from h)
      exact cx_callV2 (C := r_C) (T0 := f_C) (N0 := 4) (np := 1) cx_TbAll S.1 S.2.1 S.2.2.1 S.2.2.2.2.2.2 S.2.2.2.1 S.2.2.2.2.1 S.2.2.2.2.2.1 (by rw [hcl]; rfl) (c_C_requireLaidOut hG hcl hl) wl_30 (by decide), List.forall_mem_cons.mpr ⟨fun f na kc ks h => by
      cases (show some (sp_L_valueOn, 3, 0, 0) = some (f, na, kc, ks) from h)
      exact cx_callV2 (C := r_L) (T0 := f_L) (N0 := 5) (np := 2) cx_TbAll S.1 S.2.1 S.2.2.1 S.2.2.2.2.2.2 S.2.2.2.1 S.2.2.2.2.1 S.2.2.2.2.2.1 (by rw [hcl]; rfl) (c_L_valueOn hG hcl) wl_31 (by decide), fun _ h => absurd h List.not_mem_nil⟩⟩)
    (fun S => List.forall_mem_cons.mpr ⟨fun f na kc ks h => by
      cases (show some (sp_C_requireChoice, 1, 1, 6) = some (f, na, kc, ks) from h)
      exact cx_callS2 (np := 1) cx_TbAll S.1 S.2.1 S.2.2.1 S.2.2.2.2.2.2 S.2.2.2.1 S.2.2.2.2.1 S.2.2.2.2.2.1 (c_C_requireChoice hG hcl hl) wl_32 (by decide), fun _ h => absurd h List.not_mem_nil⟩)
    (fun S => fun _ h => absurd h List.not_mem_nil) pu_C_run
abbrev rm_C_way : Room := { frames := 7, cells := 2, slots := 12, locals := 103 }
theorem k2_C_way : t_C_way.all (cx_dec false prog_1_method_8_code (some (.int)) 3 g_C p_C l_C v_C_way s_C_way h_C_way w_C_way) = true := by decide +kernel
theorem wl_33 : cx_wV cx_Tb "CycleCutter" r_L "" 102 2 m_L_stepsOn prog_2_method_5_code 3 (some (.int)) := ⟨Or.inl (cx_in 441 (by decide +kernel) (by decide +kernel)), ⟨cx_in 442 (by decide +kernel) (by decide +kernel), cx_in 443 (by decide +kernel) (by decide +kernel), cx_in 444 (by decide +kernel) (by decide +kernel)⟩, ⟨by decide +kernel, ⟨by decide +kernel, by decide +kernel⟩, by decide +kernel⟩⟩
theorem c_C_way {l : Launch} {G : cx_G} (hG : cx_okG G) (hcl : cx_cl G = cx_cls) (hl : cx_nt l) : cx_M2 cx_Tb l G m_C_way prog_1_method_8_code 3 (some (.int)) rm_C_way sp_C_way :=
  cx_mk2 hG (Sp := [(sp_C_requireLaidOut, 2, 1, 6), (sp_C_requireChoice, 1, 1, 6), (sp_L_stepsOn, 3, 0, 0)]) (Ex := []) k2_C_way (fun S => g_C_ok S.1 S.2.1 S.2.2.2.2.2.2 hcl S.2.2.2.2.2.1) (fun S => p_C_ok S.1 S.2.1 S.2.2.2.2.2.2 hcl S.2.2.2.2.2.1) (fun h => l_C_ok h)
    (fun S => List.forall_mem_cons.mpr ⟨fun f na kc ks h => by
      cases (show some (sp_C_requireLaidOut, 2, 1, 6) = some (f, na, kc, ks) from h)
      exact cx_callV2 (C := r_C) (T0 := f_C) (N0 := 4) (np := 1) cx_TbAll S.1 S.2.1 S.2.2.1 S.2.2.2.2.2.2 S.2.2.2.1 S.2.2.2.2.1 S.2.2.2.2.2.1 (by rw [hcl]; rfl) (c_C_requireLaidOut hG hcl hl) wl_30 (by decide), List.forall_mem_cons.mpr ⟨fun f na kc ks h => by
      cases (show some (sp_L_stepsOn, 3, 0, 0) = some (f, na, kc, ks) from h)
      exact cx_callV2 (C := r_L) (T0 := f_L) (N0 := 5) (np := 2) cx_TbAll S.1 S.2.1 S.2.2.1 S.2.2.2.2.2.2 S.2.2.2.1 S.2.2.2.2.1 S.2.2.2.2.2.1 (by rw [hcl]; rfl) (c_L_stepsOn hG hcl) wl_33 (by decide), fun _ h => absurd h List.not_mem_nil⟩⟩)
    (fun S => List.forall_mem_cons.mpr ⟨fun f na kc ks h => by
      cases (show some (sp_C_requireChoice, 1, 1, 6) = some (f, na, kc, ks) from h)
      exact cx_callS2 (np := 1) cx_TbAll S.1 S.2.1 S.2.2.1 S.2.2.2.2.2.2 S.2.2.2.1 S.2.2.2.2.1 S.2.2.2.2.2.1 (c_C_requireChoice hG hcl hl) wl_32 (by decide), fun _ h => absurd h List.not_mem_nil⟩)
    (fun S => fun _ h => absurd h List.not_mem_nil) pu_C_way
abbrev rm_C_at : Room := { frames := 0, cells := 0, slots := 0, locals := 0 }
theorem c_C_at {l : Launch} {G : cx_G} (hG : cx_okG G) (hcl : cx_cl G = cx_cls) : cx_M cx_Tb l G m_C_at prog_1_method_9_code 2 (some (.int)) rm_C_at sp_C_at :=
  cx_mk hG (Sp := []) (Ex := []) k_C_at (fun S => g_C_ok S.1 S.2.1 S.2.2.2.2.2.2 hcl S.2.2.2.2.2.1) (fun S => p_C_ok S.1 S.2.1 S.2.2.2.2.2.2 hcl S.2.2.2.2.2.1) (fun h => l_C_ok h)
    (fun S => fun _ h => absurd h List.not_mem_nil)
    (fun S => fun _ h => absurd h List.not_mem_nil) rfl pu_C_at
abbrev rm_C_size : Room := { frames := 7, cells := 1, slots := 6, locals := 103 }
abbrev v2_C_size : List (Nat × Nat) := [(91, 0)]
abbrev s2_C_size : List (Nat × Nat) := []
abbrev v1_C_size : List (Nat × Nat) := [(114, 1)]
abbrev s1_C_size : List (Nat × Nat) := []
theorem k2_C_size : (t_C_size.take 3).all (cx_dec false prog_1_method_10_code (some (.int)) 4 g_C p_C l_C v2_C_size s2_C_size h_C_size w_C_size) = true := by decide +kernel
theorem k1_C_size : (t_C_size.drop 3).all (cx_dec true prog_1_method_10_code (some (.int)) 4 g_C p_C l_C v1_C_size s1_C_size [] w_C_size) = true := by decide +kernel
theorem wl_34 : cx_wV cx_Tb "CycleCutter" r_M "" 114 1 m_M_totalBelow prog_3_method_10_code 4 (some (.int)) := ⟨Or.inl (cx_in 456 (by decide +kernel) (by decide +kernel)), ⟨cx_in 457 (by decide +kernel) (by decide +kernel), cx_in 458 (by decide +kernel) (by decide +kernel), cx_in 459 (by decide +kernel) (by decide +kernel)⟩, ⟨by decide +kernel, ⟨by decide +kernel, by decide +kernel⟩, by decide +kernel⟩⟩
theorem c_C_size {l : Launch} {G : cx_G} (hG : cx_okG G) (hcl : cx_cl G = cx_cls) (hl : cx_nt l) : cx_M cx_Tb l G m_C_size prog_1_method_10_code 4 (some (.int)) rm_C_size sp_C_size :=
  cx_mk3 hG (Sp := [(sp_C_requireLaidOut, 2, 1, 6), (sp_M_totalBelow, 2, 0, 0)]) (Ex := x_C_size) k2_C_size k1_C_size (fun S => g_C_ok S.1 S.2.1 S.2.2.2.2.2.2 hcl S.2.2.2.2.2.1) (fun S => p_C_ok S.1 S.2.1 S.2.2.2.2.2.2 hcl S.2.2.2.2.2.1) (fun h => l_C_ok h)
    (fun S => List.forall_mem_cons.mpr ⟨fun f na kc ks h => by
      cases (show some (sp_C_requireLaidOut, 2, 1, 6) = some (f, na, kc, ks) from h)
      exact cx_callV3 (C := r_C) (T0 := f_C) (N0 := 4) (np := 1) cx_TbAll S.1 S.2.1 S.2.2.1 S.2.2.2.2.2.2 S.2.2.2.1 S.2.2.2.2.1 S.2.2.2.2.2.1 (by rw [hcl]; rfl) (c_C_requireLaidOut hG hcl hl) wl_30 (by decide), fun _ h => absurd h List.not_mem_nil⟩)
    (fun S => fun _ h => absurd h List.not_mem_nil)
    (fun S => fun _ h => absurd h List.not_mem_nil)
    (fun S => List.forall_mem_cons.mpr ⟨fun f na kc ks h => by
      cases (show some (sp_M_totalBelow, 2, 0, 0) = some (f, na, kc, ks) from h)
      exact cx_callV (C := r_M) (T0 := f_M) (N0 := 11) (np := 1) cx_TbAll S.1 S.2.1 S.2.2.1 S.2.2.2.2.2.2 S.2.2.2.1 S.2.2.2.2.1 S.2.2.2.2.2.1 (by rw [hcl]; rfl) (c_M_totalBelow hG hcl) wl_34 (by decide), fun _ h => absurd h List.not_mem_nil⟩)
    (fun S => fun _ h => absurd h List.not_mem_nil) pu_C_size
abbrev rm_C_known : Room := { frames := 7, cells := 1, slots := 6, locals := 103 }
theorem k2_C_known : t_C_known.all (cx_dec false prog_1_method_11_code (some (.int)) 2 g_C p_C l_C v_C_known s_C_known h_C_known w_C_known) = true := by decide +kernel
theorem wl_35 : cx_wV cx_Tb "CycleCutter" r_L "" 117 1 m_L_knownChoices prog_2_method_6_code 4 (some (.int)) := ⟨Or.inl (cx_in 467 (by decide +kernel) (by decide +kernel)), ⟨cx_in 468 (by decide +kernel) (by decide +kernel), cx_in 469 (by decide +kernel) (by decide +kernel), cx_in 470 (by decide +kernel) (by decide +kernel)⟩, ⟨by decide +kernel, ⟨by decide +kernel, by decide +kernel⟩, by decide +kernel⟩⟩
theorem c_C_known {l : Launch} {G : cx_G} (hG : cx_okG G) (hcl : cx_cl G = cx_cls) (hl : cx_nt l) : cx_M2 cx_Tb l G m_C_known prog_1_method_11_code 2 (some (.int)) rm_C_known sp_C_known :=
  cx_mk2 hG (Sp := [(sp_C_requireLaidOut, 2, 1, 6), (sp_L_knownChoices, 2, 0, 0)]) (Ex := []) k2_C_known (fun S => g_C_ok S.1 S.2.1 S.2.2.2.2.2.2 hcl S.2.2.2.2.2.1) (fun S => p_C_ok S.1 S.2.1 S.2.2.2.2.2.2 hcl S.2.2.2.2.2.1) (fun h => l_C_ok h)
    (fun S => List.forall_mem_cons.mpr ⟨fun f na kc ks h => by
      cases (show some (sp_C_requireLaidOut, 2, 1, 6) = some (f, na, kc, ks) from h)
      exact cx_callV2 (C := r_C) (T0 := f_C) (N0 := 4) (np := 1) cx_TbAll S.1 S.2.1 S.2.2.1 S.2.2.2.2.2.2 S.2.2.2.1 S.2.2.2.2.1 S.2.2.2.2.2.1 (by rw [hcl]; rfl) (c_C_requireLaidOut hG hcl hl) wl_30 (by decide), List.forall_mem_cons.mpr ⟨fun f na kc ks h => by
      cases (show some (sp_L_knownChoices, 2, 0, 0) = some (f, na, kc, ks) from h)
      exact cx_callV2 (C := r_L) (T0 := f_L) (N0 := 5) (np := 1) cx_TbAll S.1 S.2.1 S.2.2.1 S.2.2.2.2.2.2 S.2.2.2.1 S.2.2.2.2.1 S.2.2.2.2.2.1 (by rw [hcl]; rfl) (c_L_knownChoices hG hcl) wl_35 (by decide), fun _ h => absurd h List.not_mem_nil⟩⟩)
    (fun S => fun _ h => absurd h List.not_mem_nil)
    (fun S => fun _ h => absurd h List.not_mem_nil) pu_C_known
abbrev rm_C_doubt : Room := { frames := 7, cells := 1, slots := 6, locals := 102 }
theorem k2_C_doubt : t_C_doubt.all (cx_dec false prog_1_method_12_code (some (.int)) 2 g_C p_C l_C v_C_doubt s_C_doubt h_C_doubt w_C_doubt) = true := by decide +kernel
theorem wl_36 : cx_wV cx_Tb "CycleCutter" r_L "" 120 1 m_L_firstDoubtFrom prog_2_method_7_code 4 (some (.int)) := ⟨Or.inl (cx_in 484 (by decide +kernel) (by decide +kernel)), ⟨cx_in 485 (by decide +kernel) (by decide +kernel), cx_in 486 (by decide +kernel) (by decide +kernel), cx_in 487 (by decide +kernel) (by decide +kernel)⟩, ⟨by decide +kernel, ⟨by decide +kernel, by decide +kernel⟩, by decide +kernel⟩⟩
theorem c_C_doubt {l : Launch} {G : cx_G} (hG : cx_okG G) (hcl : cx_cl G = cx_cls) (hl : cx_nt l) : cx_M2 cx_Tb l G m_C_doubt prog_1_method_12_code 2 (some (.int)) rm_C_doubt sp_C_doubt :=
  cx_mk2 hG (Sp := [(sp_C_requireChoice, 1, 1, 6), (sp_L_firstDoubtFrom, 2, 0, 0)]) (Ex := []) k2_C_doubt (fun S => g_C_ok S.1 S.2.1 S.2.2.2.2.2.2 hcl S.2.2.2.2.2.1) (fun S => p_C_ok S.1 S.2.1 S.2.2.2.2.2.2 hcl S.2.2.2.2.2.1) (fun h => l_C_ok h)
    (fun S => List.forall_mem_cons.mpr ⟨fun f na kc ks h => by
      cases (show some (sp_L_firstDoubtFrom, 2, 0, 0) = some (f, na, kc, ks) from h)
      exact cx_callV2 (C := r_L) (T0 := f_L) (N0 := 5) (np := 1) cx_TbAll S.1 S.2.1 S.2.2.1 S.2.2.2.2.2.2 S.2.2.2.1 S.2.2.2.2.1 S.2.2.2.2.2.1 (by rw [hcl]; rfl) (c_L_firstDoubtFrom hG hcl) wl_36 (by decide), fun _ h => absurd h List.not_mem_nil⟩)
    (fun S => List.forall_mem_cons.mpr ⟨fun f na kc ks h => by
      cases (show some (sp_C_requireChoice, 1, 1, 6) = some (f, na, kc, ks) from h)
      exact cx_callS2 (np := 1) cx_TbAll S.1 S.2.1 S.2.2.1 S.2.2.2.2.2.2 S.2.2.2.1 S.2.2.2.2.1 S.2.2.2.2.2.1 (c_C_requireChoice hG hcl hl) wl_32 (by decide), fun _ h => absurd h List.not_mem_nil⟩)
    (fun S => fun _ h => absurd h List.not_mem_nil) pu_C_doubt
abbrev rm_C_value : Room := { frames := 7, cells := 1, slots := 6, locals := 102 }
abbrev v2_C_value : List (Nat × Nat) := [(42, 0)]
abbrev s2_C_value : List (Nat × Nat) := [(95, 1)]
abbrev v1_C_value : List (Nat × Nat) := [(123, 2)]
abbrev s1_C_value : List (Nat × Nat) := []
theorem k2_C_value : (t_C_value.take 8).all (cx_dec false prog_1_method_13_code (some (.int)) 3 g_C p_C l_C v2_C_value s2_C_value h_C_value w_C_value) = true := by decide +kernel
theorem k1_C_value : (t_C_value.drop 8).all (cx_dec true prog_1_method_13_code (some (.int)) 3 g_C p_C l_C v1_C_value s1_C_value [] w_C_value) = true := by decide +kernel
theorem wl_37 : cx_wV cx_Tb "CycleCutter" r_N "" 123 2 m_N_valueOn prog_4_method_10_code 3 (some (.int)) := ⟨Or.inl (cx_in 496 (by decide +kernel) (by decide +kernel)), ⟨cx_in 497 (by decide +kernel) (by decide +kernel), cx_in 498 (by decide +kernel) (by decide +kernel), cx_in 499 (by decide +kernel) (by decide +kernel)⟩, ⟨by decide +kernel, ⟨by decide +kernel, by decide +kernel⟩, by decide +kernel⟩⟩
theorem c_C_value {l : Launch} {G : cx_G} (hG : cx_okG G) (hcl : cx_cl G = cx_cls) (hl : cx_nt l) : cx_M cx_Tb l G m_C_value prog_1_method_13_code 3 (some (.int)) rm_C_value sp_C_value :=
  cx_mk3 hG (Sp := [(sp_N_hasGate, 2, 0, 0), (sp_C_requireChoice, 1, 1, 6), (sp_N_valueOn, 3, 0, 0)]) (Ex := x_C_value) k2_C_value k1_C_value (fun S => g_C_ok S.1 S.2.1 S.2.2.2.2.2.2 hcl S.2.2.2.2.2.1) (fun S => p_C_ok S.1 S.2.1 S.2.2.2.2.2.2 hcl S.2.2.2.2.2.1) (fun h => l_C_ok h)
    (fun S => List.forall_mem_cons.mpr ⟨fun f na kc ks h => by
      cases (show some (sp_N_hasGate, 2, 0, 0) = some (f, na, kc, ks) from h)
      exact cx_callV3 (C := r_N) (T0 := f_N) (N0 := 12) (np := 1) cx_TbAll S.1 S.2.1 S.2.2.1 S.2.2.2.2.2.2 S.2.2.2.1 S.2.2.2.2.1 S.2.2.2.2.2.1 (by rw [hcl]; rfl) (c_N_hasGate hG hcl) wl_21 (by decide), fun _ h => absurd h List.not_mem_nil⟩)
    (fun S => List.forall_mem_cons.mpr ⟨fun f na kc ks h => by
      cases (show some (sp_C_requireChoice, 1, 1, 6) = some (f, na, kc, ks) from h)
      exact cx_callS3 (np := 1) cx_TbAll S.1 S.2.1 S.2.2.1 S.2.2.2.2.2.2 S.2.2.2.1 S.2.2.2.2.1 S.2.2.2.2.2.1 (c_C_requireChoice hG hcl hl) wl_32 (by decide), fun _ h => absurd h List.not_mem_nil⟩)
    (fun S => List.forall_mem_cons.mpr ⟨fun x h => by
      cases (show some "java/lang/IndexOutOfBoundsException" = some x from h)
      exact cx_throw (z := 46) (ix := 48) (tx := "no such gate") hl S.1 S.2.1 S.2.2.1 S.2.2.2.2.2.2 S.2.2.2.1 S.2.2.2.2.1 S.2.2.2.2.2.1 ⟨by decide +kernel, by decide +kernel, by decide +kernel, by decide +kernel, by decide +kernel⟩ ⟨cx_in 361 (by decide +kernel) (by decide +kernel), cx_in 362 (by decide +kernel) (by decide +kernel), cx_in 33 (by decide +kernel) (by decide +kernel), cx_in 370 (by decide +kernel) (by decide +kernel)⟩ th_1 (by decide +kernel) (by decide +kernel) (by decide), fun _ h => absurd h List.not_mem_nil⟩)
    (fun S => List.forall_mem_cons.mpr ⟨fun f na kc ks h => by
      cases (show some (sp_N_valueOn, 3, 0, 0) = some (f, na, kc, ks) from h)
      exact cx_callV (C := r_N) (T0 := f_N) (N0 := 12) (np := 2) cx_TbAll S.1 S.2.1 S.2.2.1 S.2.2.2.2.2.2 S.2.2.2.1 S.2.2.2.2.1 S.2.2.2.2.2.1 (by rw [hcl]; rfl) (c_N_valueOn hG hcl) wl_37 (by decide), fun _ h => absurd h List.not_mem_nil⟩)
    (fun S => fun _ h => absurd h List.not_mem_nil) pu_C_value
abbrev rm_C_count : Room := { frames := 1, cells := 0, slots := 0, locals := 20 }
theorem c_C_count {l : Launch} {G : cx_G} (hG : cx_okG G) (hcl : cx_cl G = cx_cls) : cx_M cx_Tb l G m_C_count prog_1_method_14_code 2 (some (.int)) rm_C_count sp_C_count :=
  cx_mk hG (Sp := [(sp_M_total, 1, 0, 0)]) (Ex := []) k_C_count (fun S => g_C_ok S.1 S.2.1 S.2.2.2.2.2.2 hcl S.2.2.2.2.2.1) (fun S => p_C_ok S.1 S.2.1 S.2.2.2.2.2.2 hcl S.2.2.2.2.2.1) (fun h => l_C_ok h)
    (fun S => List.forall_mem_cons.mpr ⟨fun f na kc ks h => by
      cases (show some (sp_M_total, 1, 0, 0) = some (f, na, kc, ks) from h)
      exact cx_callV (C := r_M) (T0 := f_M) (N0 := 11) (np := 0) cx_TbAll S.1 S.2.1 S.2.2.1 S.2.2.2.2.2.2 S.2.2.2.1 S.2.2.2.2.1 S.2.2.2.2.2.1 (by rw [hcl]; rfl) (c_M_total hG hcl) wl_29 (by decide), fun _ h => absurd h List.not_mem_nil⟩)
    (fun S => fun _ h => absurd h List.not_mem_nil) rfl pu_C_count
abbrev rm_R_thrown : Room := { frames := 0, cells := 0, slots := 0, locals := 0 }
theorem c_R_thrown {l : Launch} {G : cx_G} (hG : cx_okG G) (hcl : cx_cl G = cx_cls) : cx_M cx_Tb l G m_R_thrown prog_6_method_2_code 1 (some (.int)) rm_R_thrown sp_R_thrown :=
  cx_mk hG (Sp := []) (Ex := []) k_R_thrown (fun S => g_R_ok S.1 S.2.1 S.2.2.2.2.2.2 hcl S.2.2.2.2.2.1) (fun S => p_R_ok S.1 S.2.1 S.2.2.2.2.2.2 hcl S.2.2.2.2.2.1) (fun h => l_R_ok h)
    (fun S => fun _ h => absurd h List.not_mem_nil)
    (fun S => fun _ h => absurd h List.not_mem_nil) rfl pu_R_thrown
abbrev rm_R_fails : Room := { frames := 0, cells := 0, slots := 0, locals := 0 }
theorem c_R_fails {l : Launch} {G : cx_G} (hG : cx_okG G) (hcl : cx_cl G = cx_cls) : cx_M cx_Tb l G m_R_fails prog_6_method_3_code 3 (some (.boolean)) rm_R_fails sp_R_fails :=
  cx_mk hG (Sp := []) (Ex := []) k_R_fails (fun S => g_R_ok S.1 S.2.1 S.2.2.2.2.2.2 hcl S.2.2.2.2.2.1) (fun S => p_R_ok S.1 S.2.1 S.2.2.2.2.2.2 hcl S.2.2.2.2.2.1) (fun h => l_R_ok h)
    (fun S => fun _ h => absurd h List.not_mem_nil)
    (fun S => fun _ h => absurd h List.not_mem_nil) rfl pu_R_fails
abbrev rm_R_isGate : Room := { frames := 0, cells := 0, slots := 0, locals := 0 }
theorem c_R_isGate {l : Launch} {G : cx_G} (hG : cx_okG G) (hcl : cx_cl G = cx_cls) : cx_M cx_Tb l G m_R_isGate prog_6_method_4_code 2 (some (.boolean)) rm_R_isGate sp_R_isGate :=
  cx_mk hG (Sp := []) (Ex := []) k_R_isGate (fun S => g_R_ok S.1 S.2.1 S.2.2.2.2.2.2 hcl S.2.2.2.2.2.1) (fun S => p_R_ok S.1 S.2.1 S.2.2.2.2.2.2 hcl S.2.2.2.2.2.1) (fun h => l_R_ok h)
    (fun S => fun _ h => absurd h List.not_mem_nil)
    (fun S => fun _ h => absurd h List.not_mem_nil) rfl pu_R_isGate
abbrev rm_R_gate : Room := { frames := 1, cells := 0, slots := 0, locals := 22 }
theorem wl_38 : cx_wV cx_Tb "CycleCutterModel" r_R "" 61 2 m_R_fails prog_6_method_3_code 3 (some (.boolean)) := ⟨Or.inl (cx_in 579 (by decide +kernel) (by decide +kernel)), ⟨cx_in 581 (by decide +kernel) (by decide +kernel), cx_in 10 (by decide +kernel) (by decide +kernel), cx_in 582 (by decide +kernel) (by decide +kernel)⟩, ⟨by decide +kernel, ⟨by decide +kernel, by decide +kernel⟩, by decide +kernel⟩⟩
theorem c_R_gate {l : Launch} {G : cx_G} (hG : cx_okG G) (hcl : cx_cl G = cx_cls) : cx_M cx_Tb l G m_R_gate prog_6_method_5_code 2 (some (.int)) rm_R_gate sp_R_gate :=
  cx_mk hG (Sp := [(sp_R_fails, 3, 0, 0)]) (Ex := []) k_R_gate (fun S => g_R_ok S.1 S.2.1 S.2.2.2.2.2.2 hcl S.2.2.2.2.2.1) (fun S => p_R_ok S.1 S.2.1 S.2.2.2.2.2.2 hcl S.2.2.2.2.2.1) (fun h => l_R_ok h)
    (fun S => List.forall_mem_cons.mpr ⟨fun f na kc ks h => by
      cases (show some (sp_R_fails, 3, 0, 0) = some (f, na, kc, ks) from h)
      exact cx_callV (C := r_R) (T0 := f_R) (N0 := 21) (np := 2) cx_TbAll S.1 S.2.1 S.2.2.1 S.2.2.2.2.2.2 S.2.2.2.1 S.2.2.2.2.1 S.2.2.2.2.2.1 (by rw [hcl]; rfl) (c_R_fails hG hcl) wl_38 (by decide), fun _ h => absurd h List.not_mem_nil⟩)
    (fun S => fun _ h => absurd h List.not_mem_nil) rfl pu_R_gate
abbrev rm_R_feed : Room := { frames := 1, cells := 0, slots := 0, locals := 22 }
theorem wl_39 : cx_wV cx_Tb "CycleCutterModel" r_R "" 68 1 m_R_isGate prog_6_method_4_code 2 (some (.boolean)) := ⟨Or.inl (cx_in 587 (by decide +kernel) (by decide +kernel)), ⟨cx_in 589 (by decide +kernel) (by decide +kernel), cx_in 11 (by decide +kernel) (by decide +kernel), cx_in 590 (by decide +kernel) (by decide +kernel)⟩, ⟨by decide +kernel, ⟨by decide +kernel, by decide +kernel⟩, by decide +kernel⟩⟩
theorem c_R_feed {l : Launch} {G : cx_G} (hG : cx_okG G) (hcl : cx_cl G = cx_cls) : cx_M cx_Tb l G m_R_feed prog_6_method_6_code 7 (some (.int)) rm_R_feed sp_R_feed :=
  cx_mk hG (Sp := [(sp_R_isGate, 2, 0, 0), (sp_R_fails, 3, 0, 0)]) (Ex := []) k_R_feed (fun S => g_R_ok S.1 S.2.1 S.2.2.2.2.2.2 hcl S.2.2.2.2.2.1) (fun S => p_R_ok S.1 S.2.1 S.2.2.2.2.2.2 hcl S.2.2.2.2.2.1) (fun h => l_R_ok h)
    (fun S => List.forall_mem_cons.mpr ⟨fun f na kc ks h => by
      cases (show some (sp_R_fails, 3, 0, 0) = some (f, na, kc, ks) from h)
      exact cx_callV (C := r_R) (T0 := f_R) (N0 := 21) (np := 2) cx_TbAll S.1 S.2.1 S.2.2.1 S.2.2.2.2.2.2 S.2.2.2.1 S.2.2.2.2.1 S.2.2.2.2.2.1 (by rw [hcl]; rfl) (c_R_fails hG hcl) wl_38 (by decide), List.forall_mem_cons.mpr ⟨fun f na kc ks h => by
      cases (show some (sp_R_isGate, 2, 0, 0) = some (f, na, kc, ks) from h)
      exact cx_callV (C := r_R) (T0 := f_R) (N0 := 21) (np := 1) cx_TbAll S.1 S.2.1 S.2.2.1 S.2.2.2.2.2.2 S.2.2.2.1 S.2.2.2.2.1 S.2.2.2.2.2.1 (by rw [hcl]; rfl) (c_R_isGate hG hcl) wl_39 (by decide), fun _ h => absurd h List.not_mem_nil⟩⟩)
    (fun S => fun _ h => absurd h List.not_mem_nil) rfl pu_R_feed
abbrev rm_R_output : Room := { frames := 1, cells := 0, slots := 0, locals := 22 }
theorem c_R_output {l : Launch} {G : cx_G} (hG : cx_okG G) (hcl : cx_cl G = cx_cls) : cx_M cx_Tb l G m_R_output prog_6_method_7_code 2 (some (.int)) rm_R_output sp_R_output :=
  cx_mk hG (Sp := [(sp_R_isGate, 2, 0, 0), (sp_R_fails, 3, 0, 0)]) (Ex := []) k_R_output (fun S => g_R_ok S.1 S.2.1 S.2.2.2.2.2.2 hcl S.2.2.2.2.2.1) (fun S => p_R_ok S.1 S.2.1 S.2.2.2.2.2.2 hcl S.2.2.2.2.2.1) (fun h => l_R_ok h)
    (fun S => List.forall_mem_cons.mpr ⟨fun f na kc ks h => by
      cases (show some (sp_R_fails, 3, 0, 0) = some (f, na, kc, ks) from h)
      exact cx_callV (C := r_R) (T0 := f_R) (N0 := 21) (np := 2) cx_TbAll S.1 S.2.1 S.2.2.1 S.2.2.2.2.2.2 S.2.2.2.1 S.2.2.2.2.1 S.2.2.2.2.2.1 (by rw [hcl]; rfl) (c_R_fails hG hcl) wl_38 (by decide), List.forall_mem_cons.mpr ⟨fun f na kc ks h => by
      cases (show some (sp_R_isGate, 2, 0, 0) = some (f, na, kc, ks) from h)
      exact cx_callV (C := r_R) (T0 := f_R) (N0 := 21) (np := 1) cx_TbAll S.1 S.2.1 S.2.2.1 S.2.2.2.2.2.2 S.2.2.2.1 S.2.2.2.2.1 S.2.2.2.2.2.1 (by rw [hcl]; rfl) (c_R_isGate hG hcl) wl_39 (by decide), fun _ h => absurd h List.not_mem_nil⟩⟩)
    (fun S => fun _ h => absurd h List.not_mem_nil) rfl pu_R_output
abbrev rm_R_clear : Room := { frames := 0, cells := 0, slots := 0, locals := 0 }
theorem c_R_clear {l : Launch} {G : cx_G} (hG : cx_okG G) (hcl : cx_cl G = cx_cls) : cx_M cx_Tb l G m_R_clear prog_6_method_8_code 2 (some (.int)) rm_R_clear sp_R_clear :=
  cx_mk hG (Sp := []) (Ex := []) k_R_clear (fun S => g_R_ok S.1 S.2.1 S.2.2.2.2.2.2 hcl S.2.2.2.2.2.1) (fun S => p_R_ok S.1 S.2.1 S.2.2.2.2.2.2 hcl S.2.2.2.2.2.1) (fun h => l_R_ok h)
    (fun S => fun _ h => absurd h List.not_mem_nil)
    (fun S => fun _ h => absurd h List.not_mem_nil) rfl pu_R_clear
abbrev rm_R_made : Room := { frames := 0, cells := 0, slots := 0, locals := 0 }
theorem c_R_made {l : Launch} {G : cx_G} (hG : cx_okG G) (hcl : cx_cl G = cx_cls) : cx_M cx_Tb l G m_R_made prog_6_method_9_code 6 (some (.int)) rm_R_made sp_R_made :=
  cx_mk hG (Sp := []) (Ex := []) k_R_made (fun S => g_R_ok S.1 S.2.1 S.2.2.2.2.2.2 hcl S.2.2.2.2.2.1) (fun S => p_R_ok S.1 S.2.1 S.2.2.2.2.2.2 hcl S.2.2.2.2.2.1) (fun h => l_R_ok h)
    (fun S => fun _ h => absurd h List.not_mem_nil)
    (fun S => fun _ h => absurd h List.not_mem_nil) rfl pu_R_made
abbrev rm_R_spread : Room := { frames := 1, cells := 0, slots := 0, locals := 25 }
theorem wl_40 : cx_wV cx_Tb "CycleCutterModel" r_R "" 84 1 m_R_made prog_6_method_9_code 6 (some (.int)) := ⟨Or.inl (cx_in 607 (by decide +kernel) (by decide +kernel)), ⟨cx_in 609 (by decide +kernel) (by decide +kernel), cx_in 13 (by decide +kernel) (by decide +kernel), cx_in 610 (by decide +kernel) (by decide +kernel)⟩, ⟨by decide +kernel, ⟨by decide +kernel, by decide +kernel⟩, by decide +kernel⟩⟩
theorem c_R_spread {l : Launch} {G : cx_G} (hG : cx_okG G) (hcl : cx_cl G = cx_cls) : cx_M cx_Tb l G m_R_spread prog_6_method_10_code 4 none rm_R_spread sp_R_spread :=
  cx_mk hG (Sp := [(sp_R_made, 2, 0, 0)]) (Ex := []) k_R_spread (fun S => g_R_ok S.1 S.2.1 S.2.2.2.2.2.2 hcl S.2.2.2.2.2.1) (fun S => p_R_ok S.1 S.2.1 S.2.2.2.2.2.2 hcl S.2.2.2.2.2.1) (fun h => l_R_ok h)
    (fun S => List.forall_mem_cons.mpr ⟨fun f na kc ks h => by
      cases (show some (sp_R_made, 2, 0, 0) = some (f, na, kc, ks) from h)
      exact cx_callV (C := r_R) (T0 := f_R) (N0 := 21) (np := 1) cx_TbAll S.1 S.2.1 S.2.2.1 S.2.2.2.2.2.2 S.2.2.2.1 S.2.2.2.2.1 S.2.2.2.2.2.1 (by rw [hcl]; rfl) (c_R_made hG hcl) wl_40 (by decide), fun _ h => absurd h List.not_mem_nil⟩)
    (fun S => fun _ h => absurd h List.not_mem_nil) rfl pu_R_spread
abbrev rm_R_value : Room := { frames := 2, cells := 0, slots := 0, locals := 48 }
theorem wl_41 : cx_wV cx_Tb "CycleCutterModel" r_R "" 88 1 m_R_spread prog_6_method_10_code 4 none := ⟨Or.inl (cx_in 603 (by decide +kernel) (by decide +kernel)), ⟨cx_in 605 (by decide +kernel) (by decide +kernel), cx_in 12 (by decide +kernel) (by decide +kernel), cx_in 606 (by decide +kernel) (by decide +kernel)⟩, ⟨by decide +kernel, ⟨by decide +kernel, by decide +kernel⟩, by decide +kernel⟩⟩
theorem c_R_value {l : Launch} {G : cx_G} (hG : cx_okG G) (hcl : cx_cl G = cx_cls) : cx_M cx_Tb l G m_R_value prog_6_method_11_code 3 (some (.int)) rm_R_value sp_R_value :=
  cx_mk hG (Sp := [(sp_R_isGate, 2, 0, 0), (sp_R_fails, 3, 0, 0), (sp_R_spread, 2, 0, 0)]) (Ex := []) k_R_value (fun S => g_R_ok S.1 S.2.1 S.2.2.2.2.2.2 hcl S.2.2.2.2.2.1) (fun S => p_R_ok S.1 S.2.1 S.2.2.2.2.2.2 hcl S.2.2.2.2.2.1) (fun h => l_R_ok h)
    (fun S => List.forall_mem_cons.mpr ⟨fun f na kc ks h => by
      cases (show some (sp_R_fails, 3, 0, 0) = some (f, na, kc, ks) from h)
      exact cx_callV (C := r_R) (T0 := f_R) (N0 := 21) (np := 2) cx_TbAll S.1 S.2.1 S.2.2.1 S.2.2.2.2.2.2 S.2.2.2.1 S.2.2.2.2.1 S.2.2.2.2.2.1 (by rw [hcl]; rfl) (c_R_fails hG hcl) wl_38 (by decide), List.forall_mem_cons.mpr ⟨fun f na kc ks h => by
      cases (show some (sp_R_isGate, 2, 0, 0) = some (f, na, kc, ks) from h)
      exact cx_callV (C := r_R) (T0 := f_R) (N0 := 21) (np := 1) cx_TbAll S.1 S.2.1 S.2.2.1 S.2.2.2.2.2.2 S.2.2.2.1 S.2.2.2.2.1 S.2.2.2.2.2.1 (by rw [hcl]; rfl) (c_R_isGate hG hcl) wl_39 (by decide), List.forall_mem_cons.mpr ⟨fun f na kc ks h => by
      cases (show some (sp_R_spread, 2, 0, 0) = some (f, na, kc, ks) from h)
      exact cx_callV (C := r_R) (T0 := f_R) (N0 := 21) (np := 1) cx_TbAll S.1 S.2.1 S.2.2.1 S.2.2.2.2.2.2 S.2.2.2.1 S.2.2.2.2.1 S.2.2.2.2.2.1 (by rw [hcl]; rfl) (c_R_spread hG hcl) wl_41 (by decide), fun _ h => absurd h List.not_mem_nil⟩⟩⟩)
    (fun S => fun _ h => absurd h List.not_mem_nil) rfl pu_R_value
abbrev rm_R_truth : Room := { frames := 0, cells := 0, slots := 0, locals := 0 }
theorem c_R_truth {l : Launch} {G : cx_G} (hG : cx_okG G) (hcl : cx_cl G = cx_cls) : cx_M cx_Tb l G m_R_truth prog_6_method_12_code 3 (some (.boolean)) rm_R_truth sp_R_truth :=
  cx_mk hG (Sp := []) (Ex := []) k_R_truth (fun S => g_R_ok S.1 S.2.1 S.2.2.2.2.2.2 hcl S.2.2.2.2.2.1) (fun S => p_R_ok S.1 S.2.1 S.2.2.2.2.2.2 hcl S.2.2.2.2.2.1) (fun h => l_R_ok h)
    (fun S => fun _ h => absurd h List.not_mem_nil)
    (fun S => fun _ h => absurd h List.not_mem_nil) rfl pu_R_truth
abbrev rm_R_set : Room := { frames := 0, cells := 0, slots := 0, locals := 0 }
theorem c_R_set {l : Launch} {G : cx_G} (hG : cx_okG G) (hcl : cx_cl G = cx_cls) : cx_M cx_Tb l G m_R_set prog_6_method_13_code 3 none rm_R_set sp_R_set :=
  cx_mk hG (Sp := []) (Ex := []) k_R_set (fun S => g_R_ok S.1 S.2.1 S.2.2.2.2.2.2 hcl S.2.2.2.2.2.1) (fun S => p_R_ok S.1 S.2.1 S.2.2.2.2.2.2 hcl S.2.2.2.2.2.1) (fun h => l_R_ok h)
    (fun S => fun _ h => absurd h List.not_mem_nil)
    (fun S => fun _ h => absurd h List.not_mem_nil) rfl pu_R_set
abbrev rm_R_empty : Room := { frames := 0, cells := 0, slots := 0, locals := 0 }
theorem c_R_empty {l : Launch} {G : cx_G} (hG : cx_okG G) (hcl : cx_cl G = cx_cls) : cx_M cx_Tb l G m_R_empty prog_6_method_14_code 3 none rm_R_empty sp_R_empty :=
  cx_mk hG (Sp := []) (Ex := []) k_R_empty (fun S => g_R_ok S.1 S.2.1 S.2.2.2.2.2.2 hcl S.2.2.2.2.2.1) (fun S => p_R_ok S.1 S.2.1 S.2.2.2.2.2.2 hcl S.2.2.2.2.2.1) (fun h => l_R_ok h)
    (fun S => fun _ h => absurd h List.not_mem_nil)
    (fun S => fun _ h => absurd h List.not_mem_nil) rfl pu_R_empty
abbrev rm_R_depends : Room := { frames := 1, cells := 0, slots := 0, locals := 22 }
theorem wl_42 : cx_wV cx_Tb "CycleCutterModel" r_R "" 92 2 m_R_truth prog_6_method_12_code 3 (some (.boolean)) := ⟨Or.inl (cx_in 631 (by decide +kernel) (by decide +kernel)), ⟨cx_in 633 (by decide +kernel) (by decide +kernel), cx_in 18 (by decide +kernel) (by decide +kernel), cx_in 634 (by decide +kernel) (by decide +kernel)⟩, ⟨by decide +kernel, ⟨by decide +kernel, by decide +kernel⟩, by decide +kernel⟩⟩
theorem c_R_depends {l : Launch} {G : cx_G} (hG : cx_okG G) (hcl : cx_cl G = cx_cls) : cx_M cx_Tb l G m_R_depends prog_6_method_15_code 4 (some (.int)) rm_R_depends sp_R_depends :=
  cx_mk hG (Sp := [(sp_R_truth, 3, 0, 0)]) (Ex := []) k_R_depends (fun S => g_R_ok S.1 S.2.1 S.2.2.2.2.2.2 hcl S.2.2.2.2.2.1) (fun S => p_R_ok S.1 S.2.1 S.2.2.2.2.2.2 hcl S.2.2.2.2.2.1) (fun h => l_R_ok h)
    (fun S => List.forall_mem_cons.mpr ⟨fun f na kc ks h => by
      cases (show some (sp_R_truth, 3, 0, 0) = some (f, na, kc, ks) from h)
      exact cx_callV (C := r_R) (T0 := f_R) (N0 := 21) (np := 2) cx_TbAll S.1 S.2.1 S.2.2.1 S.2.2.2.2.2.2 S.2.2.2.1 S.2.2.2.2.1 S.2.2.2.2.2.1 (by rw [hcl]; rfl) (c_R_truth hG hcl) wl_42 (by decide), fun _ h => absurd h List.not_mem_nil⟩)
    (fun S => fun _ h => absurd h List.not_mem_nil) rfl pu_R_depends
abbrev rm_R_same : Room := { frames := 0, cells := 0, slots := 0, locals := 0 }
theorem c_R_same {l : Launch} {G : cx_G} (hG : cx_okG G) (hcl : cx_cl G = cx_cls) : cx_M cx_Tb l G m_R_same prog_6_method_16_code 5 (some (.boolean)) rm_R_same sp_R_same :=
  cx_mk hG (Sp := []) (Ex := []) k_R_same (fun S => g_R_ok S.1 S.2.1 S.2.2.2.2.2.2 hcl S.2.2.2.2.2.1) (fun S => p_R_ok S.1 S.2.1 S.2.2.2.2.2.2 hcl S.2.2.2.2.2.1) (fun h => l_R_ok h)
    (fun S => fun _ h => absurd h List.not_mem_nil)
    (fun S => fun _ h => absurd h List.not_mem_nil) rfl pu_R_same
abbrev rm_R_fix : Room := { frames := 1, cells := 0, slots := 0, locals := 22 }
theorem wl_43 : cx_wV cx_Tb "CycleCutterModel" r_R "" 96 1 m_R_empty prog_6_method_14_code 3 none := ⟨Or.inl (cx_in 615 (by decide +kernel) (by decide +kernel)), ⟨cx_in 617 (by decide +kernel) (by decide +kernel), cx_in 14 (by decide +kernel) (by decide +kernel), cx_in 618 (by decide +kernel) (by decide +kernel)⟩, ⟨by decide +kernel, ⟨by decide +kernel, by decide +kernel⟩, by decide +kernel⟩⟩
theorem wl_44 : cx_wV cx_Tb "CycleCutterModel" r_R "" 99 2 m_R_set prog_6_method_13_code 3 none := ⟨Or.inl (cx_in 619 (by decide +kernel) (by decide +kernel)), ⟨cx_in 621 (by decide +kernel) (by decide +kernel), cx_in 15 (by decide +kernel) (by decide +kernel), cx_in 622 (by decide +kernel) (by decide +kernel)⟩, ⟨by decide +kernel, ⟨by decide +kernel, by decide +kernel⟩, by decide +kernel⟩⟩
theorem c_R_fix {l : Launch} {G : cx_G} (hG : cx_okG G) (hcl : cx_cl G = cx_cls) : cx_M cx_Tb l G m_R_fix prog_6_method_17_code 6 none rm_R_fix sp_R_fix :=
  cx_mk hG (Sp := [(sp_R_empty, 2, 0, 0), (sp_R_truth, 3, 0, 0), (sp_R_set, 3, 0, 0)]) (Ex := []) k_R_fix (fun S => g_R_ok S.1 S.2.1 S.2.2.2.2.2.2 hcl S.2.2.2.2.2.1) (fun S => p_R_ok S.1 S.2.1 S.2.2.2.2.2.2 hcl S.2.2.2.2.2.1) (fun h => l_R_ok h)
    (fun S => List.forall_mem_cons.mpr ⟨fun f na kc ks h => by
      cases (show some (sp_R_truth, 3, 0, 0) = some (f, na, kc, ks) from h)
      exact cx_callV (C := r_R) (T0 := f_R) (N0 := 21) (np := 2) cx_TbAll S.1 S.2.1 S.2.2.1 S.2.2.2.2.2.2 S.2.2.2.1 S.2.2.2.2.1 S.2.2.2.2.2.1 (by rw [hcl]; rfl) (c_R_truth hG hcl) wl_42 (by decide), List.forall_mem_cons.mpr ⟨fun f na kc ks h => by
      cases (show some (sp_R_empty, 2, 0, 0) = some (f, na, kc, ks) from h)
      exact cx_callV (C := r_R) (T0 := f_R) (N0 := 21) (np := 1) cx_TbAll S.1 S.2.1 S.2.2.1 S.2.2.2.2.2.2 S.2.2.2.1 S.2.2.2.2.1 S.2.2.2.2.2.1 (by rw [hcl]; rfl) (c_R_empty hG hcl) wl_43 (by decide), List.forall_mem_cons.mpr ⟨fun f na kc ks h => by
      cases (show some (sp_R_set, 3, 0, 0) = some (f, na, kc, ks) from h)
      exact cx_callV (C := r_R) (T0 := f_R) (N0 := 21) (np := 2) cx_TbAll S.1 S.2.1 S.2.2.1 S.2.2.2.2.2.2 S.2.2.2.1 S.2.2.2.2.1 S.2.2.2.2.2.1 (by rw [hcl]; rfl) (c_R_set hG hcl) wl_44 (by decide), fun _ h => absurd h List.not_mem_nil⟩⟩⟩)
    (fun S => fun _ h => absurd h List.not_mem_nil) rfl pu_R_fix
abbrev rm_R_number : Room := { frames := 2, cells := 0, slots := 0, locals := 45 }
theorem wl_45 : cx_wV cx_Tb "CycleCutterModel" r_R "" 103 1 m_R_depends prog_6_method_15_code 4 (some (.int)) := ⟨Or.inl (cx_in 627 (by decide +kernel) (by decide +kernel)), ⟨cx_in 629 (by decide +kernel) (by decide +kernel), cx_in 17 (by decide +kernel) (by decide +kernel), cx_in 630 (by decide +kernel) (by decide +kernel)⟩, ⟨by decide +kernel, ⟨by decide +kernel, by decide +kernel⟩, by decide +kernel⟩⟩
theorem wl_46 : cx_wV cx_Tb "CycleCutterModel" r_R "" 106 2 m_R_same prog_6_method_16_code 5 (some (.boolean)) := ⟨Or.inl (cx_in 635 (by decide +kernel) (by decide +kernel)), ⟨cx_in 637 (by decide +kernel) (by decide +kernel), cx_in 19 (by decide +kernel) (by decide +kernel), cx_in 638 (by decide +kernel) (by decide +kernel)⟩, ⟨by decide +kernel, ⟨by decide +kernel, by decide +kernel⟩, by decide +kernel⟩⟩
theorem c_R_number {l : Launch} {G : cx_G} (hG : cx_okG G) (hcl : cx_cl G = cx_cls) : cx_M cx_Tb l G m_R_number prog_6_method_18_code 4 (some (.int)) rm_R_number sp_R_number :=
  cx_mk hG (Sp := [(sp_R_depends, 2, 0, 0), (sp_R_same, 3, 0, 0)]) (Ex := []) k_R_number (fun S => g_R_ok S.1 S.2.1 S.2.2.2.2.2.2 hcl S.2.2.2.2.2.1) (fun S => p_R_ok S.1 S.2.1 S.2.2.2.2.2.2 hcl S.2.2.2.2.2.1) (fun h => l_R_ok h)
    (fun S => List.forall_mem_cons.mpr ⟨fun f na kc ks h => by
      cases (show some (sp_R_depends, 2, 0, 0) = some (f, na, kc, ks) from h)
      exact cx_callV (C := r_R) (T0 := f_R) (N0 := 21) (np := 1) cx_TbAll S.1 S.2.1 S.2.2.1 S.2.2.2.2.2.2 S.2.2.2.1 S.2.2.2.2.1 S.2.2.2.2.2.1 (by rw [hcl]; rfl) (c_R_depends hG hcl) wl_45 (by decide), List.forall_mem_cons.mpr ⟨fun f na kc ks h => by
      cases (show some (sp_R_same, 3, 0, 0) = some (f, na, kc, ks) from h)
      exact cx_callV (C := r_R) (T0 := f_R) (N0 := 21) (np := 2) cx_TbAll S.1 S.2.1 S.2.2.1 S.2.2.2.2.2.2 S.2.2.2.1 S.2.2.2.2.1 S.2.2.2.2.2.1 (by rw [hcl]; rfl) (c_R_same hG hcl) wl_46 (by decide), fun _ h => absurd h List.not_mem_nil⟩⟩)
    (fun S => fun _ h => absurd h List.not_mem_nil) rfl pu_R_number
abbrev rm_R_lay : Room := { frames := 3, cells := 0, slots := 0, locals := 68 }
theorem wl_47 : cx_wV cx_Tb "CycleCutterModel" r_R "" 109 0 m_R_number prog_6_method_18_code 4 (some (.int)) := ⟨Or.inl (cx_in 623 (by decide +kernel) (by decide +kernel)), ⟨cx_in 625 (by decide +kernel) (by decide +kernel), cx_in 16 (by decide +kernel) (by decide +kernel), cx_in 626 (by decide +kernel) (by decide +kernel)⟩, ⟨by decide +kernel, ⟨by decide +kernel, by decide +kernel⟩, by decide +kernel⟩⟩
theorem wl_48 : cx_wV cx_Tb "CycleCutterModel" r_R "" 113 3 m_R_fix prog_6_method_17_code 6 none := ⟨Or.inl (cx_in 639 (by decide +kernel) (by decide +kernel)), ⟨cx_in 641 (by decide +kernel) (by decide +kernel), cx_in 20 (by decide +kernel) (by decide +kernel), cx_in 642 (by decide +kernel) (by decide +kernel)⟩, ⟨by decide +kernel, ⟨by decide +kernel, by decide +kernel⟩, by decide +kernel⟩⟩
theorem c_R_lay {l : Launch} {G : cx_G} (hG : cx_okG G) (hcl : cx_cl G = cx_cls) : cx_M cx_Tb l G m_R_lay prog_6_method_19_code 5 (some (.int)) rm_R_lay sp_R_lay :=
  cx_mk hG (Sp := [(sp_R_empty, 2, 0, 0), (sp_R_spread, 2, 0, 0), (sp_R_set, 3, 0, 0), (sp_R_number, 1, 0, 0), (sp_R_fix, 4, 0, 0)]) (Ex := []) k_R_lay (fun S => g_R_ok S.1 S.2.1 S.2.2.2.2.2.2 hcl S.2.2.2.2.2.1) (fun S => p_R_ok S.1 S.2.1 S.2.2.2.2.2.2 hcl S.2.2.2.2.2.1) (fun h => l_R_ok h)
    (fun S => List.forall_mem_cons.mpr ⟨fun f na kc ks h => by
      cases (show some (sp_R_spread, 2, 0, 0) = some (f, na, kc, ks) from h)
      exact cx_callV (C := r_R) (T0 := f_R) (N0 := 21) (np := 1) cx_TbAll S.1 S.2.1 S.2.2.1 S.2.2.2.2.2.2 S.2.2.2.1 S.2.2.2.2.1 S.2.2.2.2.2.1 (by rw [hcl]; rfl) (c_R_spread hG hcl) wl_41 (by decide), List.forall_mem_cons.mpr ⟨fun f na kc ks h => by
      cases (show some (sp_R_empty, 2, 0, 0) = some (f, na, kc, ks) from h)
      exact cx_callV (C := r_R) (T0 := f_R) (N0 := 21) (np := 1) cx_TbAll S.1 S.2.1 S.2.2.1 S.2.2.2.2.2.2 S.2.2.2.1 S.2.2.2.2.1 S.2.2.2.2.2.1 (by rw [hcl]; rfl) (c_R_empty hG hcl) wl_43 (by decide), List.forall_mem_cons.mpr ⟨fun f na kc ks h => by
      cases (show some (sp_R_set, 3, 0, 0) = some (f, na, kc, ks) from h)
      exact cx_callV (C := r_R) (T0 := f_R) (N0 := 21) (np := 2) cx_TbAll S.1 S.2.1 S.2.2.1 S.2.2.2.2.2.2 S.2.2.2.1 S.2.2.2.2.1 S.2.2.2.2.2.1 (by rw [hcl]; rfl) (c_R_set hG hcl) wl_44 (by decide), List.forall_mem_cons.mpr ⟨fun f na kc ks h => by
      cases (show some (sp_R_number, 1, 0, 0) = some (f, na, kc, ks) from h)
      exact cx_callV (C := r_R) (T0 := f_R) (N0 := 21) (np := 0) cx_TbAll S.1 S.2.1 S.2.2.1 S.2.2.2.2.2.2 S.2.2.2.1 S.2.2.2.2.1 S.2.2.2.2.2.1 (by rw [hcl]; rfl) (c_R_number hG hcl) wl_47 (by decide), List.forall_mem_cons.mpr ⟨fun f na kc ks h => by
      cases (show some (sp_R_fix, 4, 0, 0) = some (f, na, kc, ks) from h)
      exact cx_callV (C := r_R) (T0 := f_R) (N0 := 21) (np := 3) cx_TbAll S.1 S.2.1 S.2.2.1 S.2.2.2.2.2.2 S.2.2.2.1 S.2.2.2.2.1 S.2.2.2.2.2.1 (by rw [hcl]; rfl) (c_R_fix hG hcl) wl_48 (by decide), fun _ h => absurd h List.not_mem_nil⟩⟩⟩⟩⟩)
    (fun S => fun _ h => absurd h List.not_mem_nil) rfl pu_R_lay
abbrev rm_R_refuses : Room := { frames := 1, cells := 0, slots := 0, locals := 22 }
theorem c_R_refuses {l : Launch} {G : cx_G} (hG : cx_okG G) (hcl : cx_cl G = cx_cls) : cx_M cx_Tb l G m_R_refuses prog_6_method_20_code 3 (some (.boolean)) rm_R_refuses sp_R_refuses :=
  cx_mk hG (Sp := [(sp_R_fails, 3, 0, 0)]) (Ex := []) k_R_refuses (fun S => g_R_ok S.1 S.2.1 S.2.2.2.2.2.2 hcl S.2.2.2.2.2.1) (fun S => p_R_ok S.1 S.2.1 S.2.2.2.2.2.2 hcl S.2.2.2.2.2.1) (fun h => l_R_ok h)
    (fun S => List.forall_mem_cons.mpr ⟨fun f na kc ks h => by
      cases (show some (sp_R_fails, 3, 0, 0) = some (f, na, kc, ks) from h)
      exact cx_callV (C := r_R) (T0 := f_R) (N0 := 21) (np := 2) cx_TbAll S.1 S.2.1 S.2.2.1 S.2.2.2.2.2.2 S.2.2.2.1 S.2.2.2.2.1 S.2.2.2.2.2.1 (by rw [hcl]; rfl) (c_R_fails hG hcl) wl_38 (by decide), fun _ h => absurd h List.not_mem_nil⟩)
    (fun S => fun _ h => absurd h List.not_mem_nil) rfl pu_R_refuses
abbrev rm_R_run : Room := { frames := 2, cells := 0, slots := 0, locals := 44 }
theorem wl_49 : cx_wV cx_Tb "CycleCutterModel" r_R "" 117 2 m_R_refuses prog_6_method_20_code 3 (some (.boolean)) := ⟨Or.inl (cx_in 647 (by decide +kernel) (by decide +kernel)), ⟨cx_in 649 (by decide +kernel) (by decide +kernel), cx_in 21 (by decide +kernel) (by decide +kernel), cx_in 650 (by decide +kernel) (by decide +kernel)⟩, ⟨by decide +kernel, ⟨by decide +kernel, by decide +kernel⟩, by decide +kernel⟩⟩
theorem c_R_run {l : Launch} {G : cx_G} (hG : cx_okG G) (hcl : cx_cl G = cx_cls) : cx_M cx_Tb l G m_R_run prog_6_method_21_code 3 (some (.int)) rm_R_run sp_R_run :=
  cx_mk hG (Sp := [(sp_R_refuses, 3, 0, 0), (sp_R_truth, 3, 0, 0)]) (Ex := []) k_R_run (fun S => g_R_ok S.1 S.2.1 S.2.2.2.2.2.2 hcl S.2.2.2.2.2.1) (fun S => p_R_ok S.1 S.2.1 S.2.2.2.2.2.2 hcl S.2.2.2.2.2.1) (fun h => l_R_ok h)
    (fun S => List.forall_mem_cons.mpr ⟨fun f na kc ks h => by
      cases (show some (sp_R_truth, 3, 0, 0) = some (f, na, kc, ks) from h)
      exact cx_callV (C := r_R) (T0 := f_R) (N0 := 21) (np := 2) cx_TbAll S.1 S.2.1 S.2.2.1 S.2.2.2.2.2.2 S.2.2.2.1 S.2.2.2.2.1 S.2.2.2.2.2.1 (by rw [hcl]; rfl) (c_R_truth hG hcl) wl_42 (by decide), List.forall_mem_cons.mpr ⟨fun f na kc ks h => by
      cases (show some (sp_R_refuses, 3, 0, 0) = some (f, na, kc, ks) from h)
      exact cx_callV (C := r_R) (T0 := f_R) (N0 := 21) (np := 2) cx_TbAll S.1 S.2.1 S.2.2.1 S.2.2.2.2.2.2 S.2.2.2.1 S.2.2.2.2.1 S.2.2.2.2.2.1 (by rw [hcl]; rfl) (c_R_refuses hG hcl) wl_49 (by decide), fun _ h => absurd h List.not_mem_nil⟩⟩)
    (fun S => fun _ h => absurd h List.not_mem_nil) rfl pu_R_run
abbrev rm_R_way : Room := { frames := 2, cells := 0, slots := 0, locals := 44 }
theorem c_R_way {l : Launch} {G : cx_G} (hG : cx_okG G) (hcl : cx_cl G = cx_cls) : cx_M cx_Tb l G m_R_way prog_6_method_22_code 6 (some (.int)) rm_R_way sp_R_way :=
  cx_mk hG (Sp := [(sp_R_refuses, 3, 0, 0)]) (Ex := []) k_R_way (fun S => g_R_ok S.1 S.2.1 S.2.2.2.2.2.2 hcl S.2.2.2.2.2.1) (fun S => p_R_ok S.1 S.2.1 S.2.2.2.2.2.2 hcl S.2.2.2.2.2.1) (fun h => l_R_ok h)
    (fun S => List.forall_mem_cons.mpr ⟨fun f na kc ks h => by
      cases (show some (sp_R_refuses, 3, 0, 0) = some (f, na, kc, ks) from h)
      exact cx_callV (C := r_R) (T0 := f_R) (N0 := 21) (np := 2) cx_TbAll S.1 S.2.1 S.2.2.1 S.2.2.2.2.2.2 S.2.2.2.1 S.2.2.2.2.1 S.2.2.2.2.2.1 (by rw [hcl]; rfl) (c_R_refuses hG hcl) wl_49 (by decide), fun _ h => absurd h List.not_mem_nil⟩)
    (fun S => fun _ h => absurd h List.not_mem_nil) rfl pu_R_way
abbrev rm_R_at : Room := { frames := 0, cells := 0, slots := 0, locals := 0 }
theorem c_R_at {l : Launch} {G : cx_G} (hG : cx_okG G) (hcl : cx_cl G = cx_cls) : cx_M cx_Tb l G m_R_at prog_6_method_23_code 4 (some (.int)) rm_R_at sp_R_at :=
  cx_mk hG (Sp := []) (Ex := []) k_R_at (fun S => g_R_ok S.1 S.2.1 S.2.2.2.2.2.2 hcl S.2.2.2.2.2.1) (fun S => p_R_ok S.1 S.2.1 S.2.2.2.2.2.2 hcl S.2.2.2.2.2.1) (fun h => l_R_ok h)
    (fun S => fun _ h => absurd h List.not_mem_nil)
    (fun S => fun _ h => absurd h List.not_mem_nil) rfl pu_R_at
abbrev rm_R_reach : Room := { frames := 0, cells := 0, slots := 0, locals := 0 }
theorem c_R_reach {l : Launch} {G : cx_G} (hG : cx_okG G) (hcl : cx_cl G = cx_cls) : cx_M cx_Tb l G m_R_reach prog_6_method_25_code 2 (some (.int)) rm_R_reach sp_R_reach :=
  cx_mk hG (Sp := []) (Ex := []) k_R_reach (fun S => g_R_ok S.1 S.2.1 S.2.2.2.2.2.2 hcl S.2.2.2.2.2.1) (fun S => p_R_ok S.1 S.2.1 S.2.2.2.2.2.2 hcl S.2.2.2.2.2.1) (fun h => l_R_ok h)
    (fun S => fun _ h => absurd h List.not_mem_nil)
    (fun S => fun _ h => absurd h List.not_mem_nil) rfl pu_R_reach
abbrev rm_R_size : Room := { frames := 2, cells := 0, slots := 0, locals := 44 }
theorem wl_50 : cx_wV cx_Tb "CycleCutterModel" r_R "" 120 1 m_R_reach prog_6_method_25_code 2 (some (.int)) := ⟨Or.inl (cx_in 663 (by decide +kernel) (by decide +kernel)), ⟨cx_in 665 (by decide +kernel) (by decide +kernel), cx_in 22 (by decide +kernel) (by decide +kernel), cx_in 666 (by decide +kernel) (by decide +kernel)⟩, ⟨by decide +kernel, ⟨by decide +kernel, by decide +kernel⟩, by decide +kernel⟩⟩
theorem c_R_size {l : Launch} {G : cx_G} (hG : cx_okG G) (hcl : cx_cl G = cx_cls) : cx_M cx_Tb l G m_R_size prog_6_method_24_code 8 (some (.int)) rm_R_size sp_R_size :=
  cx_mk hG (Sp := [(sp_R_refuses, 3, 0, 0), (sp_R_reach, 2, 0, 0)]) (Ex := []) k_R_size (fun S => g_R_ok S.1 S.2.1 S.2.2.2.2.2.2 hcl S.2.2.2.2.2.1) (fun S => p_R_ok S.1 S.2.1 S.2.2.2.2.2.2 hcl S.2.2.2.2.2.1) (fun h => l_R_ok h)
    (fun S => List.forall_mem_cons.mpr ⟨fun f na kc ks h => by
      cases (show some (sp_R_refuses, 3, 0, 0) = some (f, na, kc, ks) from h)
      exact cx_callV (C := r_R) (T0 := f_R) (N0 := 21) (np := 2) cx_TbAll S.1 S.2.1 S.2.2.1 S.2.2.2.2.2.2 S.2.2.2.1 S.2.2.2.2.1 S.2.2.2.2.2.1 (by rw [hcl]; rfl) (c_R_refuses hG hcl) wl_49 (by decide), List.forall_mem_cons.mpr ⟨fun f na kc ks h => by
      cases (show some (sp_R_reach, 2, 0, 0) = some (f, na, kc, ks) from h)
      exact cx_callV (C := r_R) (T0 := f_R) (N0 := 21) (np := 1) cx_TbAll S.1 S.2.1 S.2.2.1 S.2.2.2.2.2.2 S.2.2.2.1 S.2.2.2.2.1 S.2.2.2.2.2.1 (by rw [hcl]; rfl) (c_R_reach hG hcl) wl_50 (by decide), fun _ h => absurd h List.not_mem_nil⟩⟩)
    (fun S => fun _ h => absurd h List.not_mem_nil) rfl pu_R_size
abbrev rm_R_known : Room := { frames := 2, cells := 0, slots := 0, locals := 44 }
theorem c_R_known {l : Launch} {G : cx_G} (hG : cx_okG G) (hcl : cx_cl G = cx_cls) : cx_M cx_Tb l G m_R_known prog_6_method_26_code 4 (some (.int)) rm_R_known sp_R_known :=
  cx_mk hG (Sp := [(sp_R_refuses, 3, 0, 0), (sp_R_truth, 3, 0, 0)]) (Ex := []) k_R_known (fun S => g_R_ok S.1 S.2.1 S.2.2.2.2.2.2 hcl S.2.2.2.2.2.1) (fun S => p_R_ok S.1 S.2.1 S.2.2.2.2.2.2 hcl S.2.2.2.2.2.1) (fun h => l_R_ok h)
    (fun S => List.forall_mem_cons.mpr ⟨fun f na kc ks h => by
      cases (show some (sp_R_truth, 3, 0, 0) = some (f, na, kc, ks) from h)
      exact cx_callV (C := r_R) (T0 := f_R) (N0 := 21) (np := 2) cx_TbAll S.1 S.2.1 S.2.2.1 S.2.2.2.2.2.2 S.2.2.2.1 S.2.2.2.2.1 S.2.2.2.2.2.1 (by rw [hcl]; rfl) (c_R_truth hG hcl) wl_42 (by decide), List.forall_mem_cons.mpr ⟨fun f na kc ks h => by
      cases (show some (sp_R_refuses, 3, 0, 0) = some (f, na, kc, ks) from h)
      exact cx_callV (C := r_R) (T0 := f_R) (N0 := 21) (np := 2) cx_TbAll S.1 S.2.1 S.2.2.1 S.2.2.2.2.2.2 S.2.2.2.1 S.2.2.2.2.1 S.2.2.2.2.2.1 (by rw [hcl]; rfl) (c_R_refuses hG hcl) wl_49 (by decide), fun _ h => absurd h List.not_mem_nil⟩⟩)
    (fun S => fun _ h => absurd h List.not_mem_nil) rfl pu_R_known
abbrev rm_R_doubt : Room := { frames := 1, cells := 0, slots := 0, locals := 22 }
theorem c_R_doubt {l : Launch} {G : cx_G} (hG : cx_okG G) (hcl : cx_cl G = cx_cls) : cx_M cx_Tb l G m_R_doubt prog_6_method_27_code 4 (some (.int)) rm_R_doubt sp_R_doubt :=
  cx_mk hG (Sp := [(sp_R_fails, 3, 0, 0), (sp_R_truth, 3, 0, 0)]) (Ex := []) k_R_doubt (fun S => g_R_ok S.1 S.2.1 S.2.2.2.2.2.2 hcl S.2.2.2.2.2.1) (fun S => p_R_ok S.1 S.2.1 S.2.2.2.2.2.2 hcl S.2.2.2.2.2.1) (fun h => l_R_ok h)
    (fun S => List.forall_mem_cons.mpr ⟨fun f na kc ks h => by
      cases (show some (sp_R_fails, 3, 0, 0) = some (f, na, kc, ks) from h)
      exact cx_callV (C := r_R) (T0 := f_R) (N0 := 21) (np := 2) cx_TbAll S.1 S.2.1 S.2.2.1 S.2.2.2.2.2.2 S.2.2.2.1 S.2.2.2.2.1 S.2.2.2.2.2.1 (by rw [hcl]; rfl) (c_R_fails hG hcl) wl_38 (by decide), List.forall_mem_cons.mpr ⟨fun f na kc ks h => by
      cases (show some (sp_R_truth, 3, 0, 0) = some (f, na, kc, ks) from h)
      exact cx_callV (C := r_R) (T0 := f_R) (N0 := 21) (np := 2) cx_TbAll S.1 S.2.1 S.2.2.1 S.2.2.2.2.2.2 S.2.2.2.1 S.2.2.2.2.1 S.2.2.2.2.2.1 (by rw [hcl]; rfl) (c_R_truth hG hcl) wl_42 (by decide), fun _ h => absurd h List.not_mem_nil⟩⟩)
    (fun S => fun _ h => absurd h List.not_mem_nil) rfl pu_R_doubt
abbrev rm_R_count : Room := { frames := 0, cells := 0, slots := 0, locals := 0 }
theorem c_R_count {l : Launch} {G : cx_G} (hG : cx_okG G) (hcl : cx_cl G = cx_cls) : cx_M cx_Tb l G m_R_count prog_6_method_28_code 4 (some (.int)) rm_R_count sp_R_count :=
  cx_mk hG (Sp := []) (Ex := []) k_R_count (fun S => g_R_ok S.1 S.2.1 S.2.2.2.2.2.2 hcl S.2.2.2.2.2.1) (fun S => p_R_ok S.1 S.2.1 S.2.2.2.2.2.2 hcl S.2.2.2.2.2.1) (fun h => l_R_ok h)
    (fun S => fun _ h => absurd h List.not_mem_nil)
    (fun S => fun _ h => absurd h List.not_mem_nil) rfl pu_R_count
