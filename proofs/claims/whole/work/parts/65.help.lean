/-! The law's helpers: by program (wip/whole/gen_help.py). -/
abbrev oL (g : Nat → Int64) : cx_C := .inr (.inr (.inr (.inl (1, g))))
/-- a helper answers so -/
def ansH (o : rs) (t : wR) (R : cx_R) : Prop := ∀ x n l m g, rC o.2.2 x n l m → (o.1 = 0 → g 0 = o.2.1.toInt64) → R (.inl (some (.inl (nI o.1)))) (wd x n l m (wq t [oL g]))
section CWH
variable {e : Env} {l : Launch} {s : State} {m : MethodId} {c : Code} {G : cx_G}
theorem cw_rc (had : l.admits e) (hKn : cx_Kn cx_Tb G s) {own X : String} (hown : s.vm.findClass own = some m.cls) {x : ExceptionTableEntry} (h0 : x.catchType ≠ 0) (hlink : Jvm.Cond.classLink own x.catchType X ∈ cx_Tb) (hcast : Jvm.Cond.castable X X ∈ cx_Tb) {cX : ClassId} (hX : s.vm.findClass X = some cX) : (∃ k, s.vm.classes[cX]? = some k) ∧ RowCatches e.platform s m.cls cX x := by
  have hpl : e.platform.magicAccessors = ({} : Platform).magicAccessors := by rw [had.platform]
  obtain ⟨c', hc', hcl⟩ := Cond.classLink_spec hown (hKn.1 _ hlink #[]) e.platform hpl
  obtain ⟨c3, cT, hc3, hcT, hasg⟩ := Cond.castable_spec (hKn.1 _ hcast #[])
  cases hX.symm.trans hc'
  cases hX.symm.trans hc3
  cases hX.symm.trans hcT
  obtain ⟨k, hk, -⟩ := Vm.findClass_spec hX
  exact ⟨⟨k, hk⟩, Or.inr ⟨h0, cX, hcl, hasg⟩⟩
theorem cw_ct1 (had : l.admits e) (hKn : cx_Kn cx_Tb G s) {own X : String} (hown : s.vm.findClass own = some m.cls) {a b h ct pc : Nat} {r : List (Nat × Nat × Nat × Nat)} (htab : c.exceptionTable.toList.map (fun h => (h.startPc, h.endPc, h.handlerPc, h.catchType)) = (a, b, h, ct) :: r) (hcov : a ≤ pc ∧ pc < b) (h0 : ct ≠ 0) (hlink : Jvm.Cond.classLink own ct X ∈ cx_Tb) (hcast : Jvm.Cond.castable X X ∈ cx_Tb) : cw_ct e s m c pc X h := by
  intro cX hX
  cases hl : c.exceptionTable.toList with
  | nil => rw [hl] at htab; cases htab
  | cons x xs =>
    rw [hl, List.map_cons] at htab
    have h1 := (List.cons.inj htab).1
    have e1 : x.startPc = a := congrArg (fun q => q.1) h1
    have e2 : x.endPc = b := congrArg (fun q => q.2.1) h1
    have e3 : x.handlerPc = h := congrArg (fun q => q.2.2.1) h1
    have e4 : x.catchType = ct := congrArg (fun q => q.2.2.2) h1
    obtain ⟨g1, g2⟩ := cw_rc had hKn hown (x := x) (by rw [e4]; exact h0) (by rw [e4]; exact hlink) hcast hX
    exact ⟨g1, [], x, xs, rfl, fun y hy => (by cases hy), by simp [covers, e1, e2, hcov], e3, g2⟩
theorem cw_ct2 (had : l.admits e) (hKn : cx_Kn cx_Tb G s) {own X Y : String} (hown : s.vm.findClass own = some m.cls) (hno : va_Nc X Y s) {a b h ct a1 b1 h1 ct1 pc : Nat} (htab : c.exceptionTable.toList.map (fun h => (h.startPc, h.endPc, h.handlerPc, h.catchType)) = [(a1, b1, h1, ct1), (a, b, h, ct)]) (hcov : a ≤ pc ∧ pc < b) (h0 : ct ≠ 0 ∧ ct1 ≠ 0) (hlink1 : Jvm.Cond.classLink own ct1 Y ∈ cx_Tb) (hlink : Jvm.Cond.classLink own ct X ∈ cx_Tb) (hcast : Jvm.Cond.castable X X ∈ cx_Tb) : cw_ct e s m c pc X h := by
  intro cX hX
  cases hl : c.exceptionTable.toList with
  | nil => rw [hl] at htab; cases htab
  | cons x0 xs0 =>
    cases xs0 with
    | nil => rw [hl] at htab; simp at htab
    | cons x xs =>
      rw [hl, List.map_cons, List.map_cons] at htab
      have h1 := (List.cons.inj htab).1
      have h2 := (List.cons.inj (List.cons.inj htab).2).1
      have f4 : x0.catchType = ct1 := congrArg (fun q => q.2.2.2) h1
      have e1 : x.startPc = a := congrArg (fun q => q.1) h2
      have e2 : x.endPc = b := congrArg (fun q => q.2.1) h2
      have e3 : x.handlerPc = h := congrArg (fun q => q.2.2.1) h2
      have e4 : x.catchType = ct := congrArg (fun q => q.2.2.2) h2
      obtain ⟨g1, g2⟩ := cw_rc had hKn hown (x := x) (by rw [e4]; exact h0.1) (by rw [e4]; exact hlink) hcast hX
      refine ⟨g1, [x0], x, xs, rfl, fun y hy => ?_, by simp [covers, e1, e2, hcov], e3, g2⟩
      have ey : y = x0 := List.mem_singleton.mp hy
      subst ey
      have hpl : e.platform.magicAccessors = ({} : Platform).magicAccessors := by rw [had.platform]
      obtain ⟨c', hc', hcl⟩ := Cond.classLink_spec hown (hKn.1 _ hlink1 #[]) e.platform hpl
      obtain ⟨n1, n2, n3, n4, n5⟩ := hno
      cases hX.symm.trans n3
      cases hc'.symm.trans n4
      exact Or.inr ⟨by rw [f4]; exact h0.2, _, by rw [f4]; exact hcl, n5⟩
end CWH
theorem th_gate (A : aS) (p0 : Int32) (h : (gateS A p0).1 ≠ 0) : (gateS A p0).2.2 = A ∧ (gateS A p0).1 = 1 := by
  revert h
  unfold gateS
  repeat' split
  all_goals intro h
  all_goals first | exact absurd rfl h | exact ⟨rfl, rfl⟩ | exact ⟨rfl, Or.inl rfl⟩ | exact ⟨rfl, Or.inr rfl⟩
theorem th_feed (A : aS) (p0 : Int32) (p1 : Int32) (p2 : Bool) (h : (feedS A p0 p1 p2).1 ≠ 0) : (feedS A p0 p1 p2).2.2 = A ∧ ((feedS A p0 p1 p2).1 = 1 ∨ (feedS A p0 p1 p2).1 = 2) := by
  revert h
  unfold feedS
  repeat' split
  all_goals intro h
  all_goals first | exact absurd rfl h | exact ⟨rfl, rfl⟩ | exact ⟨rfl, Or.inl rfl⟩ | exact ⟨rfl, Or.inr rfl⟩
theorem th_output (A : aS) (p0 : Int32) (h : (outS A p0).1 ≠ 0) : (outS A p0).2.2 = A ∧ (outS A p0).1 = 1 := by
  revert h
  unfold outS
  repeat' split
  all_goals intro h
  all_goals first | exact absurd rfl h | exact ⟨rfl, rfl⟩ | exact ⟨rfl, Or.inl rfl⟩ | exact ⟨rfl, Or.inr rfl⟩
theorem th_run (A : aS) (p0 : Int32) (p1 : Int32) (h : (runS A p0 p1).1 ≠ 0) : (runS A p0 p1).2.2 = A ∧ (runS A p0 p1).1 = 1 := by
  revert h
  unfold runS
  repeat' split
  all_goals intro h
  all_goals first | exact absurd rfl h | exact ⟨rfl, rfl⟩ | exact ⟨rfl, Or.inl rfl⟩ | exact ⟨rfl, Or.inr rfl⟩
theorem th_way (A : aS) (p0 : Int32) (p1 : Int32) (h : (wayS A p0 p1).1 ≠ 0) : (wayS A p0 p1).2.2 = A ∧ (wayS A p0 p1).1 = 1 := by
  revert h
  unfold wayS
  repeat' split
  all_goals intro h
  all_goals first | exact absurd rfl h | exact ⟨rfl, rfl⟩ | exact ⟨rfl, Or.inl rfl⟩ | exact ⟨rfl, Or.inr rfl⟩
theorem th_size (A : aS) (p0 : Int32) (p1 : Bool) (h : (sizS A p0 p1).1 ≠ 0) : (sizS A p0 p1).2.2 = A ∧ (sizS A p0 p1).1 = 1 := by
  revert h
  unfold sizS
  repeat' split
  all_goals intro h
  all_goals first | exact absurd rfl h | exact ⟨rfl, rfl⟩ | exact ⟨rfl, Or.inl rfl⟩ | exact ⟨rfl, Or.inr rfl⟩
theorem th_known (A : aS) (p0 : Int32) (h : (knoS A p0).1 ≠ 0) : (knoS A p0).2.2 = A ∧ (knoS A p0).1 = 1 := by
  revert h
  unfold knoS
  repeat' split
  all_goals intro h
  all_goals first | exact absurd rfl h | exact ⟨rfl, rfl⟩ | exact ⟨rfl, Or.inl rfl⟩ | exact ⟨rfl, Or.inr rfl⟩
theorem th_doubt (A : aS) (p0 : Int32) (h : (douS A p0).1 ≠ 0) : (douS A p0).2.2 = A ∧ (douS A p0).1 = 1 := by
  revert h
  unfold douS
  repeat' split
  all_goals intro h
  all_goals first | exact absurd rfl h | exact ⟨rfl, rfl⟩ | exact ⟨rfl, Or.inl rfl⟩ | exact ⟨rfl, Or.inr rfl⟩
theorem th_value (A : aS) (p0 : Int32) (p1 : Int32) (h : (valS A p0 p1).1 ≠ 0) : (valS A p0 p1).2.2 = A ∧ (valS A p0 p1).1 = 1 := by
  revert h
  unfold valS
  repeat' split
  all_goals intro h
  all_goals first | exact absurd rfl h | exact ⟨rfl, rfl⟩ | exact ⟨rfl, Or.inl rfl⟩ | exact ⟨rfl, Or.inr rfl⟩
theorem wh_gate : cx_wV cx_Tb "CycleCutterLaw" r_C "" 7 1 m_C_gate prog_1_method_2_code 2 (some (.int)) := ⟨Or.inl (cx_in 265 (by decide +kernel) (by decide +kernel)), ⟨cx_in 266 (by decide +kernel) (by decide +kernel), cx_in 267 (by decide +kernel) (by decide +kernel), cx_in 268 (by decide +kernel) (by decide +kernel)⟩, ⟨by decide +kernel, ⟨by decide +kernel, by decide +kernel⟩, by decide +kernel⟩⟩
abbrev m_H_gate : MethodName := ⟨"CycleCutterLaw", "gate", "(LCycleCutter;I[J)I"⟩
abbrev rm_H_gate : Room := { frames := 7, cells := 1, slots := 6, locals := 103 }
def t_H_gate : List (Nat × cx_E) := [(0, .aload_n 2, 0, 0, 2, 0, 1), (1, .iconst 0, 0, 0, 0, 0, 2), (2, .aload_n 0, 0, 0, 0, 0, 3), (3, .iload_n 1, 0, 0, 1, 0, 4), (7, .i2l, 0, 0, 0, 0, 8), (8, .lastore, 0, 0, 0, 0, 9), (9, .goto 6, 0, 0, 15, 0, 12), (13, .iconst 1, 1, 0, 0, 0, 14), (14, .ireturn, 0, 0, 0, 0, 15), (15, .iconst 0, 0, 0, 0, 0, 16), (16, .ireturn, 0, 0, 0, 0, 17)]
def z_H_gate : List (Nat × cz_Z) := [(4, zTry 7 sp_C_gate 2 1 6 1 6 [("java/lang/IllegalArgumentException", 12)]), (12, zAst 13)]
theorem k_H_gate : t_H_gate.all (cx_dec true method_3_code (some .int) 4 [] [] [] [] [] [] []) = true := by decide +kernel
def sp_H_gate : cx_S := fun as ws R => ∃ x n l m t g A p0, as = [.inr (.inr (.inl 0)), .inl p0, .inr (.inr (.inl 40))] ∧ ws = wd x n l m (wq t [oL g]) ∧ rC A x n l m ∧ ansH (gateS A p0) t R
set_option maxRecDepth 100000 in
set_option maxHeartbeats 4000000 in
theorem pu_H_gate : ∀ as ws Rq, sp_H_gate as ws Rq → cx_cats as ≤ 4 ∧ ∀ V, cz_cl t_H_gate z_H_gate [] 1 6 Rq V → V 0 (cx_lv0 as 4) [] ws 0 0 := by
  rintro as ws Rq ⟨x, n, l, m, t, g, A, p0, rfl, rfl, hC, h⟩
  refine ⟨Nat.le_of_ble_eq_true rfl, fun V hV => hV [] 40 _ _ _ _ _ _ ?_⟩
  conv => whnf
  refine ⟨⟨by decide, by decide, Nat.le_of_ble_eq_true rfl, Nat.le_of_ble_eq_true rfl⟩, ?_⟩
  conv => whnf
  refine ⟨x, n, l, m, wq t [oL g], A, p0, rfl, rfl, rfl, hC, fun h0 x' n' l' m' hC' => ?_, fun h0 => ?_⟩
  · have h := h x' n' l' m' (vp_updL g 0 (gateS A p0).2.1.toInt64) hC' (fun _ => pk_uLs)
    rw [h0] at h
    conv => whnf
    refine ⟨pk_in 0 1 (by omega), ?_⟩
    conv => whnf
    exact ⟨fun e => absurd e (by decide), h⟩
  · obtain ⟨e1, e2⟩ := th_gate A p0 h0
    have h := h x n l m g (by rw [e1]; exact hC) (fun e => absurd e h0)
    rw [e2] at h
    conv => whnf
    refine Or.inl ⟨rfl, fun ad => ?_⟩
    conv => whnf
    exact ⟨fun e => absurd e (by decide), h⟩
theorem c_H_gate {l : Launch} {G : cx_G} (hG : cx_okG G) (hcl : cx_cl G = cx_cls) (hl : cx_nt l) : cw_M [(0, 9, 12, 13)] l G m_H_gate method_3_code 4 (some .int) rm_H_gate sp_H_gate :=
  cw_mk hG (Zs := z_H_gate) k_H_gate (fun had S => List.forall_mem_cons.mpr ⟨zTry_ok (rm := rm_C_gate) (C := r_C) (T0 := f_C) (N0 := 4) (np := 1) S.1 S.2.1 S.2.2.1 S.2.2.2.2.2.2.1 S.2.2.2.2.2.1 (by rw [hcl]; rfl) (c_C_gate hG hcl hl) wh_gate (by decide) (by decide +kernel) (List.forall_mem_cons.mpr ⟨cw_ct1 had S.2.2.2.2.2.2.1 S.2.2.2.2.2.1 S.2.2.2.2.1 (by decide) (by decide) (cx_in 264 (by decide +kernel) (by decide +kernel)) (cx_in 271 (by decide +kernel) (by decide +kernel)), fun _ h => absurd h List.not_mem_nil⟩),
    List.forall_mem_cons.mpr ⟨zAstN_ok (a := 3) S.1 S.2.1 (by decide) (by decide +kernel),
    fun _ h => absurd h List.not_mem_nil⟩⟩) pu_H_gate
theorem wh_feed : cx_wV cx_Tb "CycleCutterLaw" r_C "" 15 3 m_C_feed prog_1_method_3_code 4 (some (.int)) := ⟨Or.inl (cx_in 353 (by decide +kernel) (by decide +kernel)), ⟨cx_in 354 (by decide +kernel) (by decide +kernel), cx_in 355 (by decide +kernel) (by decide +kernel), cx_in 356 (by decide +kernel) (by decide +kernel)⟩, ⟨by decide +kernel, ⟨by decide +kernel, by decide +kernel⟩, by decide +kernel⟩⟩
abbrev m_H_feed : MethodName := ⟨"CycleCutterLaw", "feed", "(LCycleCutter;IIZ[J)I"⟩
abbrev rm_H_feed : Room := { frames := 7, cells := 1, slots := 6, locals := 105 }
def t_H_feed : List (Nat × cx_E) := [(0, .aload 4, 0, 0, 4, 0, 2), (2, .iconst 0, 0, 0, 0, 0, 3), (3, .aload_n 0, 0, 0, 0, 0, 4), (4, .iload_n 1, 0, 0, 1, 0, 5), (5, .iload_n 2, 0, 0, 2, 0, 6), (6, .iload_n 3, 0, 0, 3, 0, 7), (10, .i2l, 0, 0, 0, 0, 11), (11, .lastore, 0, 0, 0, 0, 12), (12, .goto 11, 0, 0, 23, 0, 15), (17, .iconst 1, 1, 0, 0, 0, 18), (18, .ireturn, 0, 0, 0, 0, 19), (21, .iconst 2, 2, 0, 0, 0, 22), (22, .ireturn, 0, 0, 0, 0, 23), (23, .iconst 0, 0, 0, 0, 0, 24), (24, .ireturn, 0, 0, 0, 0, 25)]
def z_H_feed : List (Nat × cz_Z) := [(7, zTry 10 sp_C_feed 4 1 6 1 6 [("java/lang/IndexOutOfBoundsException", 15), ("java/lang/IllegalStateException", 19)]), (15, zAst 17), (19, zAst 21)]
theorem k_H_feed : t_H_feed.all (cx_dec true method_4_code (some .int) 6 [] [] [] [] [] [] []) = true := by decide +kernel
def sp_H_feed : cx_S := fun as ws R => ∃ x n l m t g A p0 p1 p2, as = [.inr (.inr (.inl 0)), .inl p0, .inl p1, .inl (b2 p2), .inr (.inr (.inl 40))] ∧ ws = wd x n l m (wq t [oL g]) ∧ rC A x n l m ∧ ansH (feedS A p0 p1 p2) t R
set_option maxRecDepth 100000 in
set_option maxHeartbeats 4000000 in
theorem pu_H_feed : ∀ as ws Rq, sp_H_feed as ws Rq → cx_cats as ≤ 6 ∧ ∀ V, cz_cl t_H_feed z_H_feed [] 1 6 Rq V → V 0 (cx_lv0 as 6) [] ws 0 0 := by
  rintro as ws Rq ⟨x, n, l, m, t, g, A, p0, p1, p2, rfl, rfl, hC, h⟩
  refine ⟨Nat.le_of_ble_eq_true rfl, fun V hV => hV [] 40 _ _ _ _ _ _ ?_⟩
  conv => whnf
  refine ⟨⟨by decide, by decide, Nat.le_of_ble_eq_true rfl, Nat.le_of_ble_eq_true rfl⟩, ?_⟩
  conv => whnf
  refine ⟨x, n, l, m, wq t [oL g], A, p0, p1, p2, rfl, rfl, rfl, hC, fun h0 x' n' l' m' hC' => ?_, fun h0 => ?_⟩
  · have h := h x' n' l' m' (vp_updL g 0 (feedS A p0 p1 p2).2.1.toInt64) hC' (fun _ => pk_uLs)
    rw [h0] at h
    conv => whnf
    refine ⟨pk_in 0 1 (by omega), ?_⟩
    conv => whnf
    exact ⟨fun e => absurd e (by decide), h⟩
  · obtain ⟨e1, e2⟩ := th_feed A p0 p1 p2 h0
    have h := h x n l m g (by rw [e1]; exact hC) (fun e => absurd e h0)
    rcases e2 with e2 | e2
    · rw [e2] at h ⊢
      conv => whnf
      refine Or.inl ⟨rfl, fun ad => ?_⟩
      conv => whnf
      exact ⟨fun e => absurd e (by decide), h⟩
    · rw [e2] at h ⊢
      conv => whnf
      refine Or.inr (Or.inl ⟨rfl, fun ad => ?_⟩)
      conv => whnf
      exact ⟨fun e => absurd e (by decide), h⟩
theorem c_H_feed {l : Launch} {G : cx_G} (hG : cx_okG G) (hcl : cx_cl G = cx_cls) (hl : cx_nt l) : cw_M [(0, 12, 15, 19), (0, 12, 19, 21)] l G m_H_feed method_4_code 6 (some .int) rm_H_feed sp_H_feed :=
  cw_mk hG (Zs := z_H_feed) k_H_feed (fun had S => List.forall_mem_cons.mpr ⟨zTry_ok (rm := rm_C_feed) (C := r_C) (T0 := f_C) (N0 := 4) (np := 3) S.1 S.2.1 S.2.2.1 S.2.2.2.2.2.2.1 S.2.2.2.2.2.1 (by rw [hcl]; rfl) (c_C_feed hG hcl hl) wh_feed (by decide) (by decide +kernel) (List.forall_mem_cons.mpr ⟨cw_ct1 had S.2.2.2.2.2.2.1 S.2.2.2.2.2.1 S.2.2.2.2.1 (by decide) (by decide) (cx_in 351 (by decide +kernel) (by decide +kernel)) (cx_in 363 (by decide +kernel) (by decide +kernel)), List.forall_mem_cons.mpr ⟨cw_ct2 had S.2.2.2.2.2.2.1 S.2.2.2.2.2.1 S.2.2.2.2.2.2.2 S.2.2.2.2.1 (by decide) (by decide) (cx_in 351 (by decide +kernel) (by decide +kernel)) (cx_in 352 (by decide +kernel) (by decide +kernel)) (cx_in 380 (by decide +kernel) (by decide +kernel)), fun _ h => absurd h List.not_mem_nil⟩⟩),
    List.forall_mem_cons.mpr ⟨zAst_ok (a := 5) S.1 S.2.1 (by decide) (by decide +kernel),
    List.forall_mem_cons.mpr ⟨zAst_ok (a := 5) S.1 S.2.1 (by decide) (by decide +kernel),
    fun _ h => absurd h List.not_mem_nil⟩⟩⟩) pu_H_feed
theorem wh_output : cx_wV cx_Tb "CycleCutterLaw" r_C "" 23 1 m_C_output prog_1_method_4_code 3 (some (.int)) := ⟨Or.inl (cx_in 401 (by decide +kernel) (by decide +kernel)), ⟨cx_in 402 (by decide +kernel) (by decide +kernel), cx_in 403 (by decide +kernel) (by decide +kernel), cx_in 404 (by decide +kernel) (by decide +kernel)⟩, ⟨by decide +kernel, ⟨by decide +kernel, by decide +kernel⟩, by decide +kernel⟩⟩
abbrev m_H_output : MethodName := ⟨"CycleCutterLaw", "output", "(LCycleCutter;I[J)I"⟩
abbrev rm_H_output : Room := { frames := 7, cells := 1, slots := 6, locals := 104 }
def t_H_output : List (Nat × cx_E) := [(0, .aload_n 2, 0, 0, 2, 0, 1), (1, .iconst 0, 0, 0, 0, 0, 2), (2, .aload_n 0, 0, 0, 0, 0, 3), (3, .iload_n 1, 0, 0, 1, 0, 4), (7, .i2l, 0, 0, 0, 0, 8), (8, .lastore, 0, 0, 0, 0, 9), (9, .goto 6, 0, 0, 15, 0, 12), (13, .iconst 1, 1, 0, 0, 0, 14), (14, .ireturn, 0, 0, 0, 0, 15), (15, .iconst 0, 0, 0, 0, 0, 16), (16, .ireturn, 0, 0, 0, 0, 17)]
def z_H_output : List (Nat × cz_Z) := [(4, zTry 7 sp_C_output 2 1 6 1 6 [("java/lang/IndexOutOfBoundsException", 12)]), (12, zAst 13)]
theorem k_H_output : t_H_output.all (cx_dec true method_5_code (some .int) 4 [] [] [] [] [] [] []) = true := by decide +kernel
def sp_H_output : cx_S := fun as ws R => ∃ x n l m t g A p0, as = [.inr (.inr (.inl 0)), .inl p0, .inr (.inr (.inl 40))] ∧ ws = wd x n l m (wq t [oL g]) ∧ rC A x n l m ∧ ansH (outS A p0) t R
set_option maxRecDepth 100000 in
set_option maxHeartbeats 4000000 in
theorem pu_H_output : ∀ as ws Rq, sp_H_output as ws Rq → cx_cats as ≤ 4 ∧ ∀ V, cz_cl t_H_output z_H_output [] 1 6 Rq V → V 0 (cx_lv0 as 4) [] ws 0 0 := by
  rintro as ws Rq ⟨x, n, l, m, t, g, A, p0, rfl, rfl, hC, h⟩
  refine ⟨Nat.le_of_ble_eq_true rfl, fun V hV => hV [] 40 _ _ _ _ _ _ ?_⟩
  conv => whnf
  refine ⟨⟨by decide, by decide, Nat.le_of_ble_eq_true rfl, Nat.le_of_ble_eq_true rfl⟩, ?_⟩
  conv => whnf
  refine ⟨x, n, l, m, wq t [oL g], A, p0, rfl, rfl, rfl, hC, fun h0 x' n' l' m' hC' => ?_, fun h0 => ?_⟩
  · have h := h x' n' l' m' (vp_updL g 0 (outS A p0).2.1.toInt64) hC' (fun _ => pk_uLs)
    rw [h0] at h
    conv => whnf
    refine ⟨pk_in 0 1 (by omega), ?_⟩
    conv => whnf
    exact ⟨fun e => absurd e (by decide), h⟩
  · obtain ⟨e1, e2⟩ := th_output A p0 h0
    have h := h x n l m g (by rw [e1]; exact hC) (fun e => absurd e h0)
    rw [e2] at h
    conv => whnf
    refine Or.inl ⟨rfl, fun ad => ?_⟩
    conv => whnf
    exact ⟨fun e => absurd e (by decide), h⟩
theorem c_H_output {l : Launch} {G : cx_G} (hG : cx_okG G) (hcl : cx_cl G = cx_cls) (hl : cx_nt l) : cw_M [(0, 9, 12, 19)] l G m_H_output method_5_code 4 (some .int) rm_H_output sp_H_output :=
  cw_mk hG (Zs := z_H_output) k_H_output (fun had S => List.forall_mem_cons.mpr ⟨zTry_ok (rm := rm_C_output) (C := r_C) (T0 := f_C) (N0 := 4) (np := 1) S.1 S.2.1 S.2.2.1 S.2.2.2.2.2.2.1 S.2.2.2.2.2.1 (by rw [hcl]; rfl) (c_C_output hG hcl hl) wh_output (by decide) (by decide +kernel) (List.forall_mem_cons.mpr ⟨cw_ct1 had S.2.2.2.2.2.2.1 S.2.2.2.2.2.1 S.2.2.2.2.1 (by decide) (by decide) (cx_in 351 (by decide +kernel) (by decide +kernel)) (cx_in 363 (by decide +kernel) (by decide +kernel)), fun _ h => absurd h List.not_mem_nil⟩),
    List.forall_mem_cons.mpr ⟨zAstN_ok (a := 3) S.1 S.2.1 (by decide) (by decide +kernel),
    fun _ h => absurd h List.not_mem_nil⟩⟩) pu_H_output
theorem wh_run : cx_wV cx_Tb "CycleCutterLaw" r_C "" 26 2 m_C_run prog_1_method_7_code 3 (some (.int)) := ⟨Or.inl (cx_in 408 (by decide +kernel) (by decide +kernel)), ⟨cx_in 409 (by decide +kernel) (by decide +kernel), cx_in 410 (by decide +kernel) (by decide +kernel), cx_in 411 (by decide +kernel) (by decide +kernel)⟩, ⟨by decide +kernel, ⟨by decide +kernel, by decide +kernel⟩, by decide +kernel⟩⟩
abbrev m_H_run : MethodName := ⟨"CycleCutterLaw", "run", "(LCycleCutter;II[J)I"⟩
abbrev rm_H_run : Room := { frames := 8, cells := 2, slots := 12, locals := 125 }
def t_H_run : List (Nat × cx_E) := [(0, .aload_n 3, 0, 0, 3, 0, 1), (1, .iconst 0, 0, 0, 0, 0, 2), (2, .aload_n 0, 0, 0, 0, 0, 3), (3, .iload_n 1, 0, 0, 1, 0, 4), (4, .iload_n 2, 0, 0, 2, 0, 5), (8, .i2l, 0, 0, 0, 0, 9), (9, .lastore, 0, 0, 0, 0, 10), (10, .goto 7, 0, 0, 17, 0, 13), (15, .iconst 1, 1, 0, 0, 0, 16), (16, .ireturn, 0, 0, 0, 0, 17), (17, .iconst 0, 0, 0, 0, 0, 18), (18, .ireturn, 0, 0, 0, 0, 19)]
def z_H_run : List (Nat × cz_Z) := [(5, zTry 8 sp_C_run 3 2 12 2 12 [("java/lang/IndexOutOfBoundsException", 13)]), (13, zAst 15)]
theorem k_H_run : t_H_run.all (cx_dec true method_6_code (some .int) 5 [] [] [] [] [] [] []) = true := by decide +kernel
def sp_H_run : cx_S := fun as ws R => ∃ x n l m t g A p0 p1, as = [.inr (.inr (.inl 0)), .inl p0, .inl p1, .inr (.inr (.inl 40))] ∧ ws = wd x n l m (wq t [oL g]) ∧ rC A x n l m ∧ ansH (runS A p0 p1) t R
set_option maxRecDepth 100000 in
set_option maxHeartbeats 4000000 in
theorem pu_H_run : ∀ as ws Rq, sp_H_run as ws Rq → cx_cats as ≤ 5 ∧ ∀ V, cz_cl t_H_run z_H_run [] 2 12 Rq V → V 0 (cx_lv0 as 5) [] ws 0 0 := by
  rintro as ws Rq ⟨x, n, l, m, t, g, A, p0, p1, rfl, rfl, hC, h⟩
  refine ⟨Nat.le_of_ble_eq_true rfl, fun V hV => hV [] 40 _ _ _ _ _ _ ?_⟩
  conv => whnf
  refine ⟨⟨by decide, by decide, Nat.le_of_ble_eq_true rfl, Nat.le_of_ble_eq_true rfl⟩, ?_⟩
  conv => whnf
  refine ⟨x, n, l, m, wq t [oL g], A, p0, p1, rfl, rfl, rfl, hC, fun h0 x' n' l' m' hC' => ?_, fun h0 => ?_⟩
  · have h := h x' n' l' m' (vp_updL g 0 (runS A p0 p1).2.1.toInt64) hC' (fun _ => pk_uLs)
    rw [h0] at h
    conv => whnf
    refine ⟨pk_in 0 1 (by omega), ?_⟩
    conv => whnf
    exact ⟨fun e => absurd e (by decide), h⟩
  · obtain ⟨e1, e2⟩ := th_run A p0 p1 h0
    have h := h x n l m g (by rw [e1]; exact hC) (fun e => absurd e h0)
    rw [e2] at h
    conv => whnf
    refine Or.inl ⟨rfl, fun ad => ?_⟩
    conv => whnf
    exact ⟨fun e => absurd e (by decide), h⟩
theorem c_H_run {l : Launch} {G : cx_G} (hG : cx_okG G) (hcl : cx_cl G = cx_cls) (hl : cx_nt l) : cw_M [(0, 10, 13, 19)] l G m_H_run method_6_code 5 (some .int) rm_H_run sp_H_run :=
  cw_mk hG (Zs := z_H_run) k_H_run (fun had S => List.forall_mem_cons.mpr ⟨zTry_ok (rm := rm_C_run) (C := r_C) (T0 := f_C) (N0 := 4) (np := 2) S.1 S.2.1 S.2.2.1 S.2.2.2.2.2.2.1 S.2.2.2.2.2.1 (by rw [hcl]; rfl) (cx_M2.weak (c_C_run hG hcl hl)) wh_run (by decide) (by decide +kernel) (List.forall_mem_cons.mpr ⟨cw_ct1 had S.2.2.2.2.2.2.1 S.2.2.2.2.2.1 S.2.2.2.2.1 (by decide) (by decide) (cx_in 351 (by decide +kernel) (by decide +kernel)) (cx_in 363 (by decide +kernel) (by decide +kernel)), fun _ h => absurd h List.not_mem_nil⟩),
    List.forall_mem_cons.mpr ⟨zAst_ok (a := 4) S.1 S.2.1 (by decide) (by decide +kernel),
    fun _ h => absurd h List.not_mem_nil⟩⟩) pu_H_run
theorem wh_way : cx_wV cx_Tb "CycleCutterLaw" r_C "" 30 2 m_C_way prog_1_method_8_code 3 (some (.int)) := ⟨Or.inl (cx_in 437 (by decide +kernel) (by decide +kernel)), ⟨cx_in 438 (by decide +kernel) (by decide +kernel), cx_in 439 (by decide +kernel) (by decide +kernel), cx_in 440 (by decide +kernel) (by decide +kernel)⟩, ⟨by decide +kernel, ⟨by decide +kernel, by decide +kernel⟩, by decide +kernel⟩⟩
abbrev m_H_way : MethodName := ⟨"CycleCutterLaw", "way", "(LCycleCutter;II[J)I"⟩
abbrev rm_H_way : Room := { frames := 8, cells := 2, slots := 12, locals := 125 }
def t_H_way : List (Nat × cx_E) := [(0, .aload_n 3, 0, 0, 3, 0, 1), (1, .iconst 0, 0, 0, 0, 0, 2), (2, .aload_n 0, 0, 0, 0, 0, 3), (3, .iload_n 1, 0, 0, 1, 0, 4), (4, .iload_n 2, 0, 0, 2, 0, 5), (8, .i2l, 0, 0, 0, 0, 9), (9, .lastore, 0, 0, 0, 0, 10), (10, .goto 7, 0, 0, 17, 0, 13), (15, .iconst 1, 1, 0, 0, 0, 16), (16, .ireturn, 0, 0, 0, 0, 17), (17, .iconst 0, 0, 0, 0, 0, 18), (18, .ireturn, 0, 0, 0, 0, 19)]
def z_H_way : List (Nat × cz_Z) := [(5, zTry 8 sp_C_way 3 2 12 2 12 [("java/lang/IndexOutOfBoundsException", 13)]), (13, zAst 15)]
theorem k_H_way : t_H_way.all (cx_dec true method_7_code (some .int) 5 [] [] [] [] [] [] []) = true := by decide +kernel
def sp_H_way : cx_S := fun as ws R => ∃ x n l m t g A p0 p1, as = [.inr (.inr (.inl 0)), .inl p0, .inl p1, .inr (.inr (.inl 40))] ∧ ws = wd x n l m (wq t [oL g]) ∧ rC A x n l m ∧ ansH (wayS A p0 p1) t R
set_option maxRecDepth 100000 in
set_option maxHeartbeats 4000000 in
theorem pu_H_way : ∀ as ws Rq, sp_H_way as ws Rq → cx_cats as ≤ 5 ∧ ∀ V, cz_cl t_H_way z_H_way [] 2 12 Rq V → V 0 (cx_lv0 as 5) [] ws 0 0 := by
  rintro as ws Rq ⟨x, n, l, m, t, g, A, p0, p1, rfl, rfl, hC, h⟩
  refine ⟨Nat.le_of_ble_eq_true rfl, fun V hV => hV [] 40 _ _ _ _ _ _ ?_⟩
  conv => whnf
  refine ⟨⟨by decide, by decide, Nat.le_of_ble_eq_true rfl, Nat.le_of_ble_eq_true rfl⟩, ?_⟩
  conv => whnf
  refine ⟨x, n, l, m, wq t [oL g], A, p0, p1, rfl, rfl, rfl, hC, fun h0 x' n' l' m' hC' => ?_, fun h0 => ?_⟩
  · have h := h x' n' l' m' (vp_updL g 0 (wayS A p0 p1).2.1.toInt64) hC' (fun _ => pk_uLs)
    rw [h0] at h
    conv => whnf
    refine ⟨pk_in 0 1 (by omega), ?_⟩
    conv => whnf
    exact ⟨fun e => absurd e (by decide), h⟩
  · obtain ⟨e1, e2⟩ := th_way A p0 p1 h0
    have h := h x n l m g (by rw [e1]; exact hC) (fun e => absurd e h0)
    rw [e2] at h
    conv => whnf
    refine Or.inl ⟨rfl, fun ad => ?_⟩
    conv => whnf
    exact ⟨fun e => absurd e (by decide), h⟩
theorem c_H_way {l : Launch} {G : cx_G} (hG : cx_okG G) (hcl : cx_cl G = cx_cls) (hl : cx_nt l) : cw_M [(0, 10, 13, 19)] l G m_H_way method_7_code 5 (some .int) rm_H_way sp_H_way :=
  cw_mk hG (Zs := z_H_way) k_H_way (fun had S => List.forall_mem_cons.mpr ⟨zTry_ok (rm := rm_C_way) (C := r_C) (T0 := f_C) (N0 := 4) (np := 2) S.1 S.2.1 S.2.2.1 S.2.2.2.2.2.2.1 S.2.2.2.2.2.1 (by rw [hcl]; rfl) (cx_M2.weak (c_C_way hG hcl hl)) wh_way (by decide) (by decide +kernel) (List.forall_mem_cons.mpr ⟨cw_ct1 had S.2.2.2.2.2.2.1 S.2.2.2.2.2.1 S.2.2.2.2.1 (by decide) (by decide) (cx_in 351 (by decide +kernel) (by decide +kernel)) (cx_in 363 (by decide +kernel) (by decide +kernel)), fun _ h => absurd h List.not_mem_nil⟩),
    List.forall_mem_cons.mpr ⟨zAst_ok (a := 4) S.1 S.2.1 (by decide) (by decide +kernel),
    fun _ h => absurd h List.not_mem_nil⟩⟩) pu_H_way
theorem wh_size : cx_wV cx_Tb "CycleCutterLaw" r_C "" 33 2 m_C_size prog_1_method_10_code 4 (some (.int)) := ⟨Or.inl (cx_in 452 (by decide +kernel) (by decide +kernel)), ⟨cx_in 453 (by decide +kernel) (by decide +kernel), cx_in 454 (by decide +kernel) (by decide +kernel), cx_in 455 (by decide +kernel) (by decide +kernel)⟩, ⟨by decide +kernel, ⟨by decide +kernel, by decide +kernel⟩, by decide +kernel⟩⟩
abbrev m_H_size : MethodName := ⟨"CycleCutterLaw", "size", "(LCycleCutter;IZ[J)I"⟩
abbrev rm_H_size : Room := { frames := 8, cells := 1, slots := 6, locals := 126 }
def t_H_size : List (Nat × cx_E) := [(0, .aload_n 3, 0, 0, 3, 0, 1), (1, .iconst 0, 0, 0, 0, 0, 2), (2, .aload_n 0, 0, 0, 0, 0, 3), (3, .iload_n 1, 0, 0, 1, 0, 4), (4, .iload_n 2, 0, 0, 2, 0, 5), (8, .i2l, 0, 0, 0, 0, 9), (9, .lastore, 0, 0, 0, 0, 10), (10, .goto 7, 0, 0, 17, 0, 13), (15, .iconst 1, 1, 0, 0, 0, 16), (16, .ireturn, 0, 0, 0, 0, 17), (17, .iconst 0, 0, 0, 0, 0, 18), (18, .ireturn, 0, 0, 0, 0, 19)]
def z_H_size : List (Nat × cz_Z) := [(5, zTry 8 sp_C_size 3 1 6 1 6 [("java/lang/IndexOutOfBoundsException", 13)]), (13, zAst 15)]
theorem k_H_size : t_H_size.all (cx_dec true method_8_code (some .int) 5 [] [] [] [] [] [] []) = true := by decide +kernel
def sp_H_size : cx_S := fun as ws R => ∃ x n l m t g A p0 p1, as = [.inr (.inr (.inl 0)), .inl p0, .inl (b2 p1), .inr (.inr (.inl 40))] ∧ ws = wd x n l m (wq t [oL g]) ∧ rC A x n l m ∧ ansH (sizS A p0 p1) t R
set_option maxRecDepth 100000 in
set_option maxHeartbeats 4000000 in
theorem pu_H_size : ∀ as ws Rq, sp_H_size as ws Rq → cx_cats as ≤ 5 ∧ ∀ V, cz_cl t_H_size z_H_size [] 1 6 Rq V → V 0 (cx_lv0 as 5) [] ws 0 0 := by
  rintro as ws Rq ⟨x, n, l, m, t, g, A, p0, p1, rfl, rfl, hC, h⟩
  refine ⟨Nat.le_of_ble_eq_true rfl, fun V hV => hV [] 40 _ _ _ _ _ _ ?_⟩
  conv => whnf
  refine ⟨⟨by decide, by decide, Nat.le_of_ble_eq_true rfl, Nat.le_of_ble_eq_true rfl⟩, ?_⟩
  conv => whnf
  refine ⟨x, n, l, m, wq t [oL g], A, p0, p1, rfl, rfl, rfl, hC, fun h0 x' n' l' m' hC' => ?_, fun h0 => ?_⟩
  · have h := h x' n' l' m' (vp_updL g 0 (sizS A p0 p1).2.1.toInt64) hC' (fun _ => pk_uLs)
    rw [h0] at h
    conv => whnf
    refine ⟨pk_in 0 1 (by omega), ?_⟩
    conv => whnf
    exact ⟨fun e => absurd e (by decide), h⟩
  · obtain ⟨e1, e2⟩ := th_size A p0 p1 h0
    have h := h x n l m g (by rw [e1]; exact hC) (fun e => absurd e h0)
    rw [e2] at h
    conv => whnf
    refine Or.inl ⟨rfl, fun ad => ?_⟩
    conv => whnf
    exact ⟨fun e => absurd e (by decide), h⟩
theorem c_H_size {l : Launch} {G : cx_G} (hG : cx_okG G) (hcl : cx_cl G = cx_cls) (hl : cx_nt l) : cw_M [(0, 10, 13, 19)] l G m_H_size method_8_code 5 (some .int) rm_H_size sp_H_size :=
  cw_mk hG (Zs := z_H_size) k_H_size (fun had S => List.forall_mem_cons.mpr ⟨zTry_ok (rm := rm_C_size) (C := r_C) (T0 := f_C) (N0 := 4) (np := 2) S.1 S.2.1 S.2.2.1 S.2.2.2.2.2.2.1 S.2.2.2.2.2.1 (by rw [hcl]; rfl) (c_C_size hG hcl hl) wh_size (by decide) (by decide +kernel) (List.forall_mem_cons.mpr ⟨cw_ct1 had S.2.2.2.2.2.2.1 S.2.2.2.2.2.1 S.2.2.2.2.1 (by decide) (by decide) (cx_in 351 (by decide +kernel) (by decide +kernel)) (cx_in 363 (by decide +kernel) (by decide +kernel)), fun _ h => absurd h List.not_mem_nil⟩),
    List.forall_mem_cons.mpr ⟨zAst_ok (a := 4) S.1 S.2.1 (by decide) (by decide +kernel),
    fun _ h => absurd h List.not_mem_nil⟩⟩) pu_H_size
theorem wh_known : cx_wV cx_Tb "CycleCutterLaw" r_C "" 37 1 m_C_known prog_1_method_11_code 2 (some (.int)) := ⟨Or.inl (cx_in 463 (by decide +kernel) (by decide +kernel)), ⟨cx_in 464 (by decide +kernel) (by decide +kernel), cx_in 465 (by decide +kernel) (by decide +kernel), cx_in 466 (by decide +kernel) (by decide +kernel)⟩, ⟨by decide +kernel, ⟨by decide +kernel, by decide +kernel⟩, by decide +kernel⟩⟩
abbrev m_H_known : MethodName := ⟨"CycleCutterLaw", "known", "(LCycleCutter;I[J)I"⟩
abbrev rm_H_known : Room := { frames := 8, cells := 1, slots := 6, locals := 124 }
def t_H_known : List (Nat × cx_E) := [(0, .aload_n 2, 0, 0, 2, 0, 1), (1, .iconst 0, 0, 0, 0, 0, 2), (2, .aload_n 0, 0, 0, 0, 0, 3), (3, .iload_n 1, 0, 0, 1, 0, 4), (7, .i2l, 0, 0, 0, 0, 8), (8, .lastore, 0, 0, 0, 0, 9), (9, .goto 6, 0, 0, 15, 0, 12), (13, .iconst 1, 1, 0, 0, 0, 14), (14, .ireturn, 0, 0, 0, 0, 15), (15, .iconst 0, 0, 0, 0, 0, 16), (16, .ireturn, 0, 0, 0, 0, 17)]
def z_H_known : List (Nat × cz_Z) := [(4, zTry 7 sp_C_known 2 1 6 1 6 [("java/lang/IndexOutOfBoundsException", 12)]), (12, zAst 13)]
theorem k_H_known : t_H_known.all (cx_dec true method_9_code (some .int) 4 [] [] [] [] [] [] []) = true := by decide +kernel
def sp_H_known : cx_S := fun as ws R => ∃ x n l m t g A p0, as = [.inr (.inr (.inl 0)), .inl p0, .inr (.inr (.inl 40))] ∧ ws = wd x n l m (wq t [oL g]) ∧ rC A x n l m ∧ ansH (knoS A p0) t R
set_option maxRecDepth 100000 in
set_option maxHeartbeats 4000000 in
theorem pu_H_known : ∀ as ws Rq, sp_H_known as ws Rq → cx_cats as ≤ 4 ∧ ∀ V, cz_cl t_H_known z_H_known [] 1 6 Rq V → V 0 (cx_lv0 as 4) [] ws 0 0 := by
  rintro as ws Rq ⟨x, n, l, m, t, g, A, p0, rfl, rfl, hC, h⟩
  refine ⟨Nat.le_of_ble_eq_true rfl, fun V hV => hV [] 40 _ _ _ _ _ _ ?_⟩
  conv => whnf
  refine ⟨⟨by decide, by decide, Nat.le_of_ble_eq_true rfl, Nat.le_of_ble_eq_true rfl⟩, ?_⟩
  conv => whnf
  refine ⟨x, n, l, m, wq t [oL g], A, p0, rfl, rfl, rfl, hC, fun h0 x' n' l' m' hC' => ?_, fun h0 => ?_⟩
  · have h := h x' n' l' m' (vp_updL g 0 (knoS A p0).2.1.toInt64) hC' (fun _ => pk_uLs)
    rw [h0] at h
    conv => whnf
    refine ⟨pk_in 0 1 (by omega), ?_⟩
    conv => whnf
    exact ⟨fun e => absurd e (by decide), h⟩
  · obtain ⟨e1, e2⟩ := th_known A p0 h0
    have h := h x n l m g (by rw [e1]; exact hC) (fun e => absurd e h0)
    rw [e2] at h
    conv => whnf
    refine Or.inl ⟨rfl, fun ad => ?_⟩
    conv => whnf
    exact ⟨fun e => absurd e (by decide), h⟩
theorem c_H_known {l : Launch} {G : cx_G} (hG : cx_okG G) (hcl : cx_cl G = cx_cls) (hl : cx_nt l) : cw_M [(0, 9, 12, 19)] l G m_H_known method_9_code 4 (some .int) rm_H_known sp_H_known :=
  cw_mk hG (Zs := z_H_known) k_H_known (fun had S => List.forall_mem_cons.mpr ⟨zTry_ok (rm := rm_C_known) (C := r_C) (T0 := f_C) (N0 := 4) (np := 1) S.1 S.2.1 S.2.2.1 S.2.2.2.2.2.2.1 S.2.2.2.2.2.1 (by rw [hcl]; rfl) (cx_M2.weak (c_C_known hG hcl hl)) wh_known (by decide) (by decide +kernel) (List.forall_mem_cons.mpr ⟨cw_ct1 had S.2.2.2.2.2.2.1 S.2.2.2.2.2.1 S.2.2.2.2.1 (by decide) (by decide) (cx_in 351 (by decide +kernel) (by decide +kernel)) (cx_in 363 (by decide +kernel) (by decide +kernel)), fun _ h => absurd h List.not_mem_nil⟩),
    List.forall_mem_cons.mpr ⟨zAstN_ok (a := 3) S.1 S.2.1 (by decide) (by decide +kernel),
    fun _ h => absurd h List.not_mem_nil⟩⟩) pu_H_known
theorem wh_doubt : cx_wV cx_Tb "CycleCutterLaw" r_C "" 40 1 m_C_doubt prog_1_method_12_code 2 (some (.int)) := ⟨Or.inl (cx_in 480 (by decide +kernel) (by decide +kernel)), ⟨cx_in 481 (by decide +kernel) (by decide +kernel), cx_in 482 (by decide +kernel) (by decide +kernel), cx_in 483 (by decide +kernel) (by decide +kernel)⟩, ⟨by decide +kernel, ⟨by decide +kernel, by decide +kernel⟩, by decide +kernel⟩⟩
abbrev m_H_doubt : MethodName := ⟨"CycleCutterLaw", "doubt", "(LCycleCutter;I[J)I"⟩
abbrev rm_H_doubt : Room := { frames := 8, cells := 1, slots := 6, locals := 123 }
def t_H_doubt : List (Nat × cx_E) := [(0, .aload_n 2, 0, 0, 2, 0, 1), (1, .iconst 0, 0, 0, 0, 0, 2), (2, .aload_n 0, 0, 0, 0, 0, 3), (3, .iload_n 1, 0, 0, 1, 0, 4), (7, .i2l, 0, 0, 0, 0, 8), (8, .lastore, 0, 0, 0, 0, 9), (9, .goto 6, 0, 0, 15, 0, 12), (13, .iconst 1, 1, 0, 0, 0, 14), (14, .ireturn, 0, 0, 0, 0, 15), (15, .iconst 0, 0, 0, 0, 0, 16), (16, .ireturn, 0, 0, 0, 0, 17)]
def z_H_doubt : List (Nat × cz_Z) := [(4, zTry 7 sp_C_doubt 2 1 6 1 6 [("java/lang/IndexOutOfBoundsException", 12)]), (12, zAst 13)]
theorem k_H_doubt : t_H_doubt.all (cx_dec true method_10_code (some .int) 4 [] [] [] [] [] [] []) = true := by decide +kernel
def sp_H_doubt : cx_S := fun as ws R => ∃ x n l m t g A p0, as = [.inr (.inr (.inl 0)), .inl p0, .inr (.inr (.inl 40))] ∧ ws = wd x n l m (wq t [oL g]) ∧ rC A x n l m ∧ ansH (douS A p0) t R
set_option maxRecDepth 100000 in
set_option maxHeartbeats 4000000 in
theorem pu_H_doubt : ∀ as ws Rq, sp_H_doubt as ws Rq → cx_cats as ≤ 4 ∧ ∀ V, cz_cl t_H_doubt z_H_doubt [] 1 6 Rq V → V 0 (cx_lv0 as 4) [] ws 0 0 := by
  rintro as ws Rq ⟨x, n, l, m, t, g, A, p0, rfl, rfl, hC, h⟩
  refine ⟨Nat.le_of_ble_eq_true rfl, fun V hV => hV [] 40 _ _ _ _ _ _ ?_⟩
  conv => whnf
  refine ⟨⟨by decide, by decide, Nat.le_of_ble_eq_true rfl, Nat.le_of_ble_eq_true rfl⟩, ?_⟩
  conv => whnf
  refine ⟨x, n, l, m, wq t [oL g], A, p0, rfl, rfl, rfl, hC, fun h0 x' n' l' m' hC' => ?_, fun h0 => ?_⟩
  · have h := h x' n' l' m' (vp_updL g 0 (douS A p0).2.1.toInt64) hC' (fun _ => pk_uLs)
    rw [h0] at h
    conv => whnf
    refine ⟨pk_in 0 1 (by omega), ?_⟩
    conv => whnf
    exact ⟨fun e => absurd e (by decide), h⟩
  · obtain ⟨e1, e2⟩ := th_doubt A p0 h0
    have h := h x n l m g (by rw [e1]; exact hC) (fun e => absurd e h0)
    rw [e2] at h
    conv => whnf
    refine Or.inl ⟨rfl, fun ad => ?_⟩
    conv => whnf
    exact ⟨fun e => absurd e (by decide), h⟩
theorem c_H_doubt {l : Launch} {G : cx_G} (hG : cx_okG G) (hcl : cx_cl G = cx_cls) (hl : cx_nt l) : cw_M [(0, 9, 12, 19)] l G m_H_doubt method_10_code 4 (some .int) rm_H_doubt sp_H_doubt :=
  cw_mk hG (Zs := z_H_doubt) k_H_doubt (fun had S => List.forall_mem_cons.mpr ⟨zTry_ok (rm := rm_C_doubt) (C := r_C) (T0 := f_C) (N0 := 4) (np := 1) S.1 S.2.1 S.2.2.1 S.2.2.2.2.2.2.1 S.2.2.2.2.2.1 (by rw [hcl]; rfl) (cx_M2.weak (c_C_doubt hG hcl hl)) wh_doubt (by decide) (by decide +kernel) (List.forall_mem_cons.mpr ⟨cw_ct1 had S.2.2.2.2.2.2.1 S.2.2.2.2.2.1 S.2.2.2.2.1 (by decide) (by decide) (cx_in 351 (by decide +kernel) (by decide +kernel)) (cx_in 363 (by decide +kernel) (by decide +kernel)), fun _ h => absurd h List.not_mem_nil⟩),
    List.forall_mem_cons.mpr ⟨zAstN_ok (a := 3) S.1 S.2.1 (by decide) (by decide +kernel),
    fun _ h => absurd h List.not_mem_nil⟩⟩) pu_H_doubt
theorem wh_value : cx_wV cx_Tb "CycleCutterLaw" r_C "" 43 2 m_C_value prog_1_method_13_code 3 (some (.int)) := ⟨Or.inl (cx_in 492 (by decide +kernel) (by decide +kernel)), ⟨cx_in 493 (by decide +kernel) (by decide +kernel), cx_in 494 (by decide +kernel) (by decide +kernel), cx_in 495 (by decide +kernel) (by decide +kernel)⟩, ⟨by decide +kernel, ⟨by decide +kernel, by decide +kernel⟩, by decide +kernel⟩⟩
abbrev m_H_value : MethodName := ⟨"CycleCutterLaw", "value", "(LCycleCutter;II[J)I"⟩
abbrev rm_H_value : Room := { frames := 8, cells := 1, slots := 6, locals := 124 }
def t_H_value : List (Nat × cx_E) := [(0, .aload_n 3, 0, 0, 3, 0, 1), (1, .iconst 0, 0, 0, 0, 0, 2), (2, .aload_n 0, 0, 0, 0, 0, 3), (3, .iload_n 1, 0, 0, 1, 0, 4), (4, .iload_n 2, 0, 0, 2, 0, 5), (8, .i2l, 0, 0, 0, 0, 9), (9, .lastore, 0, 0, 0, 0, 10), (10, .goto 7, 0, 0, 17, 0, 13), (15, .iconst 1, 1, 0, 0, 0, 16), (16, .ireturn, 0, 0, 0, 0, 17), (17, .iconst 0, 0, 0, 0, 0, 18), (18, .ireturn, 0, 0, 0, 0, 19)]
def z_H_value : List (Nat × cz_Z) := [(5, zTry 8 sp_C_value 3 1 6 1 6 [("java/lang/IndexOutOfBoundsException", 13)]), (13, zAst 15)]
theorem k_H_value : t_H_value.all (cx_dec true method_11_code (some .int) 5 [] [] [] [] [] [] []) = true := by decide +kernel
def sp_H_value : cx_S := fun as ws R => ∃ x n l m t g A p0 p1, as = [.inr (.inr (.inl 0)), .inl p0, .inl p1, .inr (.inr (.inl 40))] ∧ ws = wd x n l m (wq t [oL g]) ∧ rC A x n l m ∧ ansH (valS A p0 p1) t R
set_option maxRecDepth 100000 in
set_option maxHeartbeats 4000000 in
theorem pu_H_value : ∀ as ws Rq, sp_H_value as ws Rq → cx_cats as ≤ 5 ∧ ∀ V, cz_cl t_H_value z_H_value [] 1 6 Rq V → V 0 (cx_lv0 as 5) [] ws 0 0 := by
  rintro as ws Rq ⟨x, n, l, m, t, g, A, p0, p1, rfl, rfl, hC, h⟩
  refine ⟨Nat.le_of_ble_eq_true rfl, fun V hV => hV [] 40 _ _ _ _ _ _ ?_⟩
  conv => whnf
  refine ⟨⟨by decide, by decide, Nat.le_of_ble_eq_true rfl, Nat.le_of_ble_eq_true rfl⟩, ?_⟩
  conv => whnf
  refine ⟨x, n, l, m, wq t [oL g], A, p0, p1, rfl, rfl, rfl, hC, fun h0 x' n' l' m' hC' => ?_, fun h0 => ?_⟩
  · have h := h x' n' l' m' (vp_updL g 0 (valS A p0 p1).2.1.toInt64) hC' (fun _ => pk_uLs)
    rw [h0] at h
    conv => whnf
    refine ⟨pk_in 0 1 (by omega), ?_⟩
    conv => whnf
    exact ⟨fun e => absurd e (by decide), h⟩
  · obtain ⟨e1, e2⟩ := th_value A p0 p1 h0
    have h := h x n l m g (by rw [e1]; exact hC) (fun e => absurd e h0)
    rw [e2] at h
    conv => whnf
    refine Or.inl ⟨rfl, fun ad => ?_⟩
    conv => whnf
    exact ⟨fun e => absurd e (by decide), h⟩
theorem c_H_value {l : Launch} {G : cx_G} (hG : cx_okG G) (hcl : cx_cl G = cx_cls) (hl : cx_nt l) : cw_M [(0, 10, 13, 19)] l G m_H_value method_11_code 5 (some .int) rm_H_value sp_H_value :=
  cw_mk hG (Zs := z_H_value) k_H_value (fun had S => List.forall_mem_cons.mpr ⟨zTry_ok (rm := rm_C_value) (C := r_C) (T0 := f_C) (N0 := 4) (np := 2) S.1 S.2.1 S.2.2.1 S.2.2.2.2.2.2.1 S.2.2.2.2.2.1 (by rw [hcl]; rfl) (c_C_value hG hcl hl) wh_value (by decide) (by decide +kernel) (List.forall_mem_cons.mpr ⟨cw_ct1 had S.2.2.2.2.2.2.1 S.2.2.2.2.2.1 S.2.2.2.2.1 (by decide) (by decide) (cx_in 351 (by decide +kernel) (by decide +kernel)) (cx_in 363 (by decide +kernel) (by decide +kernel)), fun _ h => absurd h List.not_mem_nil⟩),
    List.forall_mem_cons.mpr ⟨zAst_ok (a := 4) S.1 S.2.1 (by decide) (by decide +kernel),
    fun _ h => absurd h List.not_mem_nil⟩⟩) pu_H_value
