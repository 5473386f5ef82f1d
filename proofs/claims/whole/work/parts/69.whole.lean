/-! The claim: the skeleton's text (kit/laws), turned: whole_start takes that no stack traces are filled in. -/
/-! THE CLAIM OUT OF ONE WALK OF THE LAW'S BODY. Your part is whole_start (and what it stands on); all else here is the same for every law, but numbers. -/
def R_law : String := "CycleCutterLaw"
def lw_P (b : Addr) (xs : List Int32) (args : Array Value) (s : State) : Prop := args = #[.ref b] ∧ s.IntsAt b xs ∧ xs.length ≤ 2048 ∧ (Jvm.Cond.and given_1 narrow_1).before args s = true
def lw_Q (_ : Array Value) (s : State) (o : Outcome) (t : State) : Prop := o = .returned (some (.int 1)) ∧ Framed s o t [] 601024 7293034
def lw_Z (below : List Frame) (a : Array Value) (s : State) : State → Prop := fun t => ∃ o, t.status = .running ∧ Ended t below o ∧ lw_Q a s o t
/-- the law's own end, with 1 on the stack, nothing written that was there before, its room as the claim has it -/
theorem lw_ret {p : Program} {l : Launch} {e : Env} {s : State} {m : MethodId} {below : List Frame} {meth : Method} {c : Code} {b : Nat} (hx : p.tables.exec = Jvm.exec) (hb : c.code = code) (hr : meth.sig.returnType = ret) (hlocks : meth.locks = false) {pc : Nat} {H : Heap} {ls : Array Slot} (hdg : decode code pc = .ok (.ireturn, 1)) : W p l e room_1 s m #[Value.ref b] below meth c H [] 601024 7293034 (lw_Z below #[Value.ref b] s) (F0 m pc ls [.int 1]) := by
  intro T hT X
  obtain ⟨fs, hret, hrun, hended, hW, hframe⟩ := X.leave (v := some (.int 1)) (hlocks := hlocks) (fun h => by rw [hr] at h; cases h)
  have hmeth' : T.vm.method? m = some meth := X.method'
  refine ⟨T.setFrames fs, ?_, .returned (some (.int 1)), hrun, hended, rfl, ⟨_, rfl⟩, hW, hframe⟩
  jvm_step X.here [X.here.top, hx, hb, hdg, hmeth', hr, ret, narrow_b1]
  (try refine ⟨rfl, ?_⟩); (try refine ⟨rfl, ?_⟩)
  first | (intro acts; rw [hret _ acts rfl rfl rfl]) | rw [hret _ _ rfl rfl rfl]
  exact Steps.refl _
/-- what holds at the law's entry: the machine, the code, the tables' words (any of lw_tbl by 'hts w (by decide +kernel)'), the script of L ints xs at the cell b, what the Statement gives of the start (any of its parts by flat_of_before) -/
def lw_At (p : Program) (s : State) (m : MethodId) (meth : Method) (c : Code) (b L : Nat) (xs : Nat → Int32) : Prop :=
  p.tables.exec = Jvm.exec ∧ c.code = code ∧ meth.sig.returnType = ret ∧ c.maxLocals = 7 ∧ s.vm.findClass R_law = some m.cls ∧ (∀ w ∈ lw_tbl, w.before #[Value.ref b] s = true) ∧ va_X b L xs s s.heap ∧ b < s.heap.size ∧ meth.locks = false ∧ (Jvm.Cond.and given_1 narrow_1).before #[Value.ref b] s = true
theorem cw_100 : cy_w "CycleCutterLaw" "" 46 m_C_init prog_1_method_1_code 1 := ⟨Or.inl (cx_in 39 (by decide +kernel) (by decide +kernel)), ⟨cx_in 40 (by decide +kernel) (by decide +kernel), cx_in 41 (by decide +kernel) (by decide +kernel)⟩, by decide +kernel, ⟨by decide +kernel, by decide +kernel⟩, rfl, by decide +kernel⟩
theorem cw_101 : cy_w "CycleCutterLaw" "" 49 m_R_init prog_6_method_1_code 1 := ⟨Or.inl (cx_in 503 (by decide +kernel) (by decide +kernel)), ⟨cx_in 504 (by decide +kernel) (by decide +kernel), cx_in 505 (by decide +kernel) (by decide +kernel)⟩, by decide +kernel, ⟨by decide +kernel, by decide +kernel⟩, rfl, by decide +kernel⟩
theorem lw_nt {l : Launch} (h : l.flags = flags0) : cx_nt l := fun e he => by
  rw [he.platform]
  show l.stackTraces = false
  unfold Launch.stackTraces
  rw [h]
  decide +kernel
/-- the places of all cells, behind the heap of the start -/
def lw_G (c0 c1 c2 c3 c4 : ClassId) (i0 i1 i2 i3 i4 : Nat → Nat) (t0 t1 t2 t3 : ClassId) (H : Heap) : cx_G :=
  ((fun k => match k with | 0 => c0 | 1 => c1 | 2 => c2 | 3 => c3 | _ => c4, fun k => match k with | 0 => i0 | 1 => i1 | 2 => i2 | 3 => i3 | _ => i4), cx_cls, fun j => H.size + cy_off j, fun j i => H.size + cy_off j + 1 + i, fun k => match k with | 0 => t0 | 1 => t1 | 2 => t2 | _ => t3, 41, cy_gl, H)
set_option maxRecDepth 100000 in
set_option maxHeartbeats 8000000 in
theorem whole_start {p : Program} {e : Env} {s : State} {m : MethodId} {below : List Frame} {meth : Method} {c : Code} (l : Launch) (hl : cx_nt l) (hne : c.exceptionTable.isEmpty = true) {b L : Nat} {xs : Nat → Int32} (hL : L ≤ 2048) (C0 : lw_At p s m meth c b L xs) : W p l e room_1 s m #[Value.ref b] below meth c s.heap [] 0 0 (lw_Z below #[Value.ref b] s) (entryFrame m ([Value.ref b] : List Value).toArray 7) := by
  obtain ⟨hx, hb, hr, hml, hown, hts, hX, hbl, hlocks, hgv⟩ := C0
  have hT : ∀ w ∈ cx_Tb, ∀ a : Array Value, w.before a s = true := fun w hw a => cx_stB_spec (List.mem_filter.mp hw).2 (State.WarmedH.refl s) (hts w (List.mem_filter.mp hw).1)
  have hTa : ∀ w ∈ cx_Tb, w.before #[Value.ref b] s = true := fun w hw => hT w hw _
  have hs := flat_of_before _ hgv
  obtain ⟨c0, i0, K0⟩ := u_known (C := r_L) (T := f_L) (N := 5) (n := 5) hTa i_L (hTa _ (cx_in 97 (by decide +kernel) (by decide +kernel)))
  obtain ⟨c1, i1, K1⟩ := u_known (C := r_M) (T := f_M) (N := 11) (n := 11) hTa i_M (hTa _ (cx_in 103 (by decide +kernel) (by decide +kernel)))
  obtain ⟨c2, i2, K2⟩ := u_known (C := r_N) (T := f_N) (N := 12) (n := 12) hTa i_N (hTa _ (cx_in 46 (by decide +kernel) (by decide +kernel)))
  obtain ⟨c3, i3, K3⟩ := u_known (C := r_C) (T := f_C) (N := 4) (n := 4) hTa i_C (hTa _ (cx_in 38 (by decide +kernel) (by decide +kernel)))
  obtain ⟨c4, i4, K4⟩ := u_known (C := r_R) (T := f_R) (N := 21) (n := 21) hTa i_R (hTa _ (cx_in 502 (by decide +kernel) (by decide +kernel)))
  obtain ⟨t0, k0, q0, f0, g0, j0⟩ := Cond.arrayClass_spec (hTa (Jvm.Cond.arrayClass .int) (cx_in 93 (by decide +kernel) (by decide +kernel)))
  obtain ⟨t1, k1, q1, f1, g1, j1⟩ := Cond.arrayClass_spec (hTa (Jvm.Cond.arrayClass .boolean) (cx_in 94 (by decide +kernel) (by decide +kernel)))
  obtain ⟨t2, k2, q2, f2, g2, j2⟩ := Cond.arrayClass_spec (hTa (Jvm.Cond.arrayClass .long) (cx_in 95 (by decide +kernel) (by decide +kernel)))
  have hov : (Jvm.Cond.arrayOver (.array .long)).before #[Value.ref b] s = true := hts _ (List.mem_of_getElem? (i := 52) (by decide +kernel))
  obtain ⟨comp, t3, k3, o1, o2, o3, o4, o5⟩ := arrayOverA_spec hov
  have hls1 : (Jvm.Cond.laysStatic "java/lang/Throwable" "UNASSIGNED_STACK" "[Ljava/lang/StackTraceElement;").before #[Value.ref b] s = true := hts _ (List.mem_of_getElem? (i := 296) (by decide +kernel))
  have hls2 : (Jvm.Cond.laysStatic "java/lang/Throwable" "SUPPRESSED_SENTINEL" "Ljava/util/List;").before #[Value.ref b] s = true := hts _ (List.mem_of_getElem? (i := 298) (by decide +kernel))
  have hini : (Jvm.Cond.initialized "java/lang/Throwable").before #[Value.ref b] s = true := hts _ (List.mem_of_getElem? (i := 29) (by decide +kernel))
  have hr1 : (Jvm.Cond.isRef (.static "java/lang/Throwable" "UNASSIGNED_STACK" "[Ljava/lang/StackTraceElement;")).before #[Value.ref b] s = true := hs _ (by decide +kernel)
  have hr2 : (Jvm.Cond.isRef (.static "java/lang/Throwable" "SUPPRESSED_SENTINEL" "Ljava/util/List;")).before #[Value.ref b] s = true := hs _ (by decide +kernel)
  have hnc : (Jvm.Cond.not (.castable "java/lang/IllegalStateException" "java/lang/IndexOutOfBoundsException")).before #[Value.ref b] s = true := hs _ (by decide +kernel)
  obtain ⟨G, hGd⟩ : ∃ G, G = lw_G c0 c1 c2 c3 c4 i0 i1 i2 i3 i4 t0 t1 t2 t3 s.heap := ⟨_, rfl⟩
  have hG : cy_okG G := by
    subst hGd
    exact ⟨fun _ => rfl, fun _ _ => rfl, fun _ => rfl, rfl⟩
  have hcl : cx_cl G = cx_cls := by
    subst hGd
    rfl
  have hH0 : cx_H0 G = s.heap := by
    subst hGd
    rfl
  have hKn : cx_Kn cx_Tb G s := by
    subst hGd
    refine ⟨hT, ⟨fun cx q hq => ?_, fun k q hk => by cases hk⟩, fun n z => ⟨fun k h => (by cases h), k0, g0, q0, j0⟩, fun n z => ⟨fun k h => (by cases h), k1, g1, q1, j1⟩, fun n z => ⟨fun k h => (by cases h), k2, g2, q2, j2⟩, fun n z => ⟨fun k h => (by cases h), k3, o3, comp, o4⟩, va_Zqof hls1 hini hr1 (fun a ha => Nat.not_le.mpr ha), va_Zqof hls2 hini hr2 (fun a ha => Nat.not_le.mpr ha), cx_ls.of hls1, cx_ls.of hls2⟩
    match cx, hq with
    | 0, hq => cases hq; exact K0
    | 1, hq => cases hq; exact K1
    | 2, hq => cases hq; exact K2
    | 3, hq => cases hq; exact K3
    | 4, hq => cases hq; exact K4
    | cx + 5, hq => cases hq
  have hKy : cy_Kn G s := by
    refine ⟨hKn, ?_, over_moved (Vm.Alike.refl _) hov⟩
    subst hGd
    exact ⟨f0, f1, f2, o5⟩
  have hS : lw_St G p s m meth c := ⟨hx, hb, hml, hlocks, hne, hown, hKn, va_Nc.of hnc⟩
  have hX2 : va_X b L xs s (cx_H0 G) := by rw [hH0]; exact hX
  have hbl2 : b < (cx_H0 G).size := by rw [hH0]; exact hbl
  have cl : ∀ {T : List (Nat × cx_E)} {Zs : List (Nat × cz_Z)} {Sw : List (Nat × List Nat)}, T.all (cx_dec true code ret 7 [] [] [] [] [] [] Sw) = true → (∀ q ∈ Zs, cz_ok p l e room_1 s m #[Value.ref b] below meth c G 7 (cx_F1 G 601024 7293034) (cx_Q below G s 601024 7293034 lw_rq) q) →
      cz_cl T Zs Sw 601024 7293034 lw_rq (cx_AW p l e room_1 s m #[Value.ref b] below meth c G 7 (cx_F1 G 601024 7293034) (cx_Q below G s 601024 7293034 lw_rq)) := fun hT okZ P n pc lv st ws k i h =>
    cz_sound (free := fun q => (cx_H0 G).size ≤ q) (wr := true) (F := []) (FP := []) (LC := []) hx hb hG.ok hKn hlocks hr hown (fun ws k n H locs h => h) (fun ws k n H locs h => h.2.2) (fun ws k n H locs u t h1 h2 h3 => cx_ret1 h1 h2 h3)
      (fun _ ws ws' k n H H' locs a i h1 h2 h3 _ _ => ⟨h2, h1.2.1, cx_locs h1.2.2 h3⟩) (fun q hq => by cases hq) (fun q hq => by cases hq) (fun q hq => by cases hq) okZ hT (fun pc lv st ws k i h => h) n h
  have loop := lw_loop (b := b) (xs := xs) hL (cl k_lh (o_lh hG.ok hcl hl hS hX2 hbl2))
    (cl k_lgate (o_lgate hG.ok hcl hl hS hX2 hbl2))
    (cl k_lfeed (o_lfeed hG.ok hcl hl hS hX2 hbl2))
    (cl k_loutput (o_loutput hG.ok hcl hl hS hX2 hbl2))
    (cl k_lclear (o_lclear hG.ok hcl hl hS hX2 hbl2))
    (cl k_llay (o_llay hG.ok hcl hl hS hX2 hbl2))
    (cl k_lrun (o_lrun hG.ok hcl hl hS hX2 hbl2))
    (cl k_lway (o_lway hG.ok hcl hl hS hX2 hbl2))
    (cl k_lat (o_lat hG.ok hcl hl hS hX2 hbl2))
    (cl k_lsize (o_lsize hG.ok hcl hl hS hX2 hbl2))
    (cl k_lknown (o_lknown hG.ok hcl hl hS hX2 hbl2))
    (cl k_ldoubt (o_ldoubt hG.ok hcl hl hS hX2 hbl2))
    (cl k_lvalue (o_lvalue hG.ok hcl hl hS hX2 hbl2))
    (cl k_lcount (o_lcount hG.ok hcl hl hS hX2 hbl2))
  have okp : ∀ q ∈ z_pre, cz_ok p l e room_1 s m #[Value.ref b] below meth c G 7 (cy_F G 601024 7293034) (cx_Q below G s 601024 7293034 lw_rq) q :=
    List.forall_mem_cons.mpr ⟨zNew_ok (C := r_C) (T0 := f_C) (z := 8) hG hx hb hKn hown (by rw [hcl]; rfl) i_C y_C y_C_ok ⟨cx_in 37 (by decide +kernel) (by decide +kernel), cx_in 38 (by decide +kernel) (by decide +kernel), cx_in 24 (by decide +kernel) (by decide +kernel)⟩ d_C_ok (by decide +kernel) (by decide),
    List.forall_mem_cons.mpr ⟨zCtor_ok (rm := rm_C_init) hx hb hml hKy hown (c_C_init hG hcl) cw_100 (by decide +kernel) (by decide),
    List.forall_mem_cons.mpr ⟨zNew_ok (C := r_R) (T0 := f_R) (z := 47) hG hx hb hKn hown (by rw [hcl]; rfl) i_R y_R y_R_ok ⟨cx_in 501 (by decide +kernel) (by decide +kernel), cx_in 502 (by decide +kernel) (by decide +kernel), cx_in 28 (by decide +kernel) (by decide +kernel)⟩ d_R_ok (by decide +kernel) (by decide),
    List.forall_mem_cons.mpr ⟨zCtor_ok (rm := rm_R_init) hx hb hml hKy hown (c_R_init hG hcl) cw_101 (by decide +kernel) (by decide),
    List.forall_mem_cons.mpr ⟨zNewa_ok (at0 := .long) hG hx hb hKy (Or.inr (Or.inr ⟨rfl, rfl⟩)) (by decide) (by decide +kernel) (by decide),
    fun _ h => absurd h List.not_mem_nil⟩⟩⟩⟩⟩
  refine cx_mono (Q := cx_Q below G s 601024 7293034 lw_rq) (fun t ht => ?_) ?_
  · obtain ⟨o, q, ws, h1, h2, h3, h4, h5, h6, L0, h7, h8⟩ := ht
    cases h3
    cases (show o = .returned (some (.int 1)) from h4)
    exact ⟨_, h1, h2, rfl, ⟨_, rfl⟩, h6, h7.weaken (fun y hy hlt => absurd hlt (Nat.not_lt.mpr (by have := h8 y hy; rw [hH0] at this; exact this))) (Nat.le_refl _) (Nat.le_refl _)⟩
  · have hP0 : cx_P G [] s.heap := ⟨fun j c hc => by simp at hc, by rw [hH0]; exact Nat.le_refl _, fun q hq => by rw [hH0], fun q cell hq hc => by
      rw [hH0] at hq
      exact absurd (Array.getElem?_eq_some_iff.mp hc).1 (Nat.not_lt.mpr hq)⟩
    refine cx_enter (G := G) (nL := 7) (as := [.inr (.inr (.inr (.inr (.ref b))))]) (ws := []) (lv := cx_lv0 [.inr (.inr (.inr (.inr (.ref b))))] 7) (F := cy_F G 601024 7293034) (by rw [cx_sl_len, cx_cats_eq]; exact Nat.le_of_ble_eq_true rfl) (fun t u h => cx_lv0_get h) ⟨⟨hP0, ⟨Nat.zero_le _, Nat.zero_le _⟩, fun q hq => by cases hq⟩, by rw [hG.1, hH0]; rfl⟩ ?_
    exact pu_pre (V := cx_AW p l e room_1 s m #[Value.ref b] below meth c G 7 (cx_F1 G 601024 7293034) (cx_Q below G s 601024 7293034 lw_rq)) (V0 := cx_AW p l e room_1 s m #[Value.ref b] below meth c G 7 (cy_F G 601024 7293034) (cx_Q below G s 601024 7293034 lw_rq))
      (fun n pc lv st ws k i h => cz_sound (F0c := cy_F G 601024 7293034) (free := fun q => (cx_H0 G).size ≤ q) (wr := true) (F := []) (FP := []) (LC := []) hx hb hG.ok hKn hlocks hr hown (fun ws k n H locs h => h.1) (fun ws k n H locs h => h.1.2.2) (fun ws k n H locs u t h1 h2 h3 => cx_ret1 h1.1 h2 h3)
        (fun _ ws ws' k n H H' locs a i h1 h2 h3 h4 h5 => ⟨⟨h2, h1.1.2.1, cx_locs h1.1.2.2 h3⟩, by rw [h4, h5]; exact h1.2⟩) (fun q hq => by cases hq) (fun q hq => by cases hq) (fun q hq => by cases hq) okp k_pre (fun pc lv st ws k n q H locs ls hF hlh => q H locs ls hF.1 hlh) n h)
      (loop 513 0 rfl a_0 x_0 n_0 l_0 m_0 r_0 (fun _ => 0) none none 291 29568 rC_0 rR_0 (by omega) (by omega))
set_option maxHeartbeats 4000000 in
theorem lw_walk (l : Launch) (hl : cx_nt l) (b : Addr) (xs : List Int32) : MetFree l x (headSpec (Jvm.Cond.code x code maxLocals ret :: tables_1) room_1) (lw_P b xs) (fun _ _ _ _ _ => True) lw_Q := by
  refine MetFree.of_bodyS (code := code) (maxLocals := maxLocals) (ret := ret) (by decide) ?_ ?_
  · intro args s m h hn
    obtain ⟨meth, c, h1, h2, h3, h4, h5, h6, -, -⟩ := Cond.code_spec hn (atoms_spec (ws := Jvm.Cond.code x code maxLocals ret :: tables_1) h _ List.mem_cons_self)
    exact ⟨meth, c, h1, h2, h3, h4, h5, h6⟩
  · intro p e s m args below meth c s₁ B hml0 hP _
    obtain ⟨rfl, hx, hbd, hgv⟩ := hP
    obtain ⟨scr, harrAt, hlist, hof, hsmall⟩ := hx
    obtain ⟨hcb, hkn, -, -⟩ := State.arrayAt?_spec harrAt
    have hown : s.vm.findClass R_law = some m.cls := findClass_of_methodNamed B.named
    have hts0 : ∀ c ∈ (Jvm.Cond.code x code maxLocals ret :: tables_1), c.before #[Value.ref b] s = true := atoms_spec (ws := Jvm.Cond.code x code maxLocals ret :: tables_1) B.pre
    have hts : ∀ w ∈ lw_tbl, w.before #[Value.ref b] s = true := k2_hts_sels lw_privs (fun w hw => hts0 w (List.mem_cons_of_mem _ hw)) lw_privs_ok
    have hml : c.maxLocals = 7 := B.maxLocals_eq (hts0 _ List.mem_cons_self)
    have X₀ : Stand p l e room_1 s m #[Value.ref b] below meth c s₁ [] 0 0 := Stand.of_body B
    have hne : c.exceptionTable.isEmpty = true := by
      obtain ⟨meth', c', h1, h2, -, -, -, -, h7, -⟩ := Cond.code_spec B.named (hts0 _ List.mem_cons_self)
      cases B.method.symm.trans h1
      cases X₀.code.symm.trans h2
      exact h7
    have hh0 : s₁.heap = s.heap := by rw [B.state]; rfl
    have hsz : scr.slots.size = xs.length := by rw [← Array.length_toList, hlist, List.length_map]
    have hval : ∀ j : Nat, j < xs.length → scr.slots[j]? = some (.int (xs.getD j 0)) := fun j hj => by
      rw [← Array.getElem?_toList, hlist]
      simp [hj]
    have hbl : b < s.heap.size := (Array.getElem?_eq_some_iff.mp hcb).1
    have hX : va_X b xs.length (fun j => xs.getD j 0) s s.heap := ⟨scr, hcb, hof, hkn, hsz, hval⟩
    have K : W p l e room_1 s m #[Value.ref b] below meth c s₁.heap [] 0 0 (lw_Z below #[Value.ref b] s) (entryFrame m ([Value.ref b] : List Value).toArray 7) := by
      rw [hh0]
      exact whole_start l hl hne hbd ⟨B.exec, B.bytes, B.returns, hml, hown, hts, hX, hbl, B.notSynchronized, hgv⟩
    obtain ⟨t, a1, o, b1, b2, b3⟩ := K s₁ rfl X₀
    exact ⟨t, o, a1, b1, b2, b3⟩
theorem lw_pre_spec {args : Array Value} {s : State} (h : (Jvm.Cond.and given_1 narrow_1).before args s = true) (hr : rest_1_c.before args s = true) : ∃ (b : Addr) (xs : List Int32), lw_P b xs args s := by
  have hs := flat_of_before _ h
  have hq := flat_of_before _ hr
  have hc : (Cond.count 1).before args s = true := hs _ (by decide +kernel)
  have harr : (Cond.arrayOf (.arg 0) .int).before args s = true := hs _ (by decide +kernel)
  have hle : (Cond.le (.length (.arg 0)) (.int 2048)).before args s = true := hs _ (by decide +kernel)
  have hlen : (Cond.isInt (.length (.arg 0))).before args s = true := hq _ (by decide +kernel)
  have hall : (Cond.all (.arg 0) (.isInt (.elem (.arg 0) (.index 0)))).before args s = true := hq _ (by decide +kernel)
  obtain ⟨b, xs, hb, hx⟩ := State.ints_of_pre rfl harr hlen hall
  have hsm : xs.length < 2 ^ 31 := hx.choose_spec.2.2.2
  have hev : (Term.length (.arg 0)).eval args s none [] s = some (.int xs.length.toInt32) := hx.length_eval hb
  have hv := Cond.le_ints hev (show (Term.int 2048).eval args s none [] s = some (.int 2048) from rfl)
  have hd : xs.length.toInt32 ≤ 2048 := by
    simpa [Cond.before, Cond.holds, hv] using hle
  have hN : xs.length ≤ 2048 := (Int32.ofNat_le_ofNat hsm (by decide)).mp (show Int32.ofNat xs.length ≤ Int32.ofNat 2048 from hd)
  exact ⟨b, xs, Cond.one_arg hc (show args[0]? = some (.ref b) from hb), hx, hN, h⟩
theorem lw_comes (l : Launch) (hl : cx_nt l) : Comes l x (Jvm.Cond.code x code maxLocals ret :: tables_1) room_1 (fun tb e args s => Calls_1 tb e args s ∧ rest_1 tb e args s ∧ Pre_1 tb e args s)
    (fun _ _ args s o t => lw_Q args s o t) := by
  intro p e ha hc hk s m args below hf hfit hheap happ hpre
  obtain ⟨b, xs, hP⟩ := lw_pre_spec hpre.2.2 hpre.2.1
  obtain ⟨k, o, h1, h2, h3, hQ⟩ := lw_walk l hl b xs p e ha hc hk s m args below hf ((Spec.applies_iff_loose hf).mp happ).1 hP trivial
  exact ⟨k, o, h1, h2, h3, hQ⟩
theorem lw_frame {s t : State} {o : Outcome} {args : Array Value} (h : Framed s o t [] 601024 7293034) :
    Framed s o t (fieldLocs frame_1_writes args s ++ arrayLocs frame_1_arrays args s ++ staticLocs frame_1_statics s) 601024 7293034 := h
theorem lw_limb (L : Cond) (hL : ∀ (args : Array Value) (s t : State), L.after args s (.returned (some (.int 1))) t = true) :
    ArmFor flags0 classFile x code maxLocals ret World_1 tables_1 room_1 Calls_1 rest_1 Pre_1
      (fun tb e a s o t => postC L tb e a s o t ∧ Framed s o t (fieldLocs frame_1_writes a s ++ arrayLocs frame_1_arrays a s ++ staticLocs frame_1_statics s) 601024 7293034) := by
  intro l hfl _ _ p e ha hc hk s m args below hf hfit hheap happ hpre
  obtain ⟨k, o, h1, h2, h3, rfl, hF⟩ := lw_comes l (lw_nt hfl) p e ha hc hk s m args below hf hfit hheap happ hpre
  exact ⟨k, _, h1, h2, h3, hL args s _, lw_frame hF⟩
theorem i_vc : Claimed_1_1 ∧ Claimed_1_2 := ⟨lw_limb limb_1_1 (fun args s t => by simp [limb_1_1, Cond.after, Cond.holds, Cond.value]), lw_limb limb_1_2 (fun args s t => Cond.after_iff.mpr (by
  first | (rw [show limb_1_2 = Cond.eq .result (.int 1) from rfl, Cond.eq_ints (x := 1) (y := 1) rfl rfl]; simp; done) | (simp [limb_1_2, Cond.value, Term.eval]; done)))⟩
