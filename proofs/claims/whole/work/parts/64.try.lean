/-! Calls within try, and methods with handlers. -/
def cw_h (hs : List (String × Nat)) (x : String) (k : Nat → Prop) : Prop := match hs with
  | [] => False
  | q :: r => (x = q.1 ∧ k q.2) ∨ cw_h r x k
theorem cw_h_spec {hs : List (String × Nat)} {x : String} {k : Nat → Prop} (h : cw_h hs x k) : ∃ n, (x, n) ∈ hs ∧ k n := by
  induction hs with
  | nil => exact h.elim
  | cons q r ih =>
    rcases h with ⟨rfl, h⟩ | h
    · exact ⟨q.2, List.mem_cons_self, h⟩
    · obtain ⟨n, h1, h2⟩ := ih h
      exact ⟨n, List.mem_cons_of_mem _ h1, h2⟩
def cx_raw (v : Value) : cx_V := .inr (.inr (.inr (.inr v)))
def zTry (nx : Nat) (f : cx_S) (na kc ks mc ms : Nat) (hs : List (String × Nat)) : cz_Z := fun lv st ws k n K => (k + kc ≤ mc ∧ n + ks ≤ ms ∧ na ≤ st.length ∧ cx_cats (st.drop na) ≤ 8) ∧ f (st.take na).reverse ws (fun o ws' => match o with
  | .inl none => K nx lv (st.drop na) ws' (k + kc) (n + ks)
  | .inl (some u) => K nx lv (u :: st.drop na) ws' (k + kc) (n + ks)
  | .inr x => cw_h hs x (fun h => ∀ ad : Nat, K h lv [.inr (.inr (.inr (.inr (.ref ad))))] ws' (k + kc) (n + ks)))
def zAst (nx : Nat) : cz_Z := fun _ st ws k n K => match st with
  | [.inr (.inr (.inr (.inr (.ref _))))] => K nx [] [] ws k n
  | _ => False
def zCall (nx : Nat) (f : cx_S) (na kc ks mc ms : Nat) (Rq : cx_R) : cz_Z := fun lv st ws k n K => (k + kc ≤ mc ∧ n + ks ≤ ms ∧ na ≤ st.length ∧ cx_cats (st.drop na) ≤ 8) ∧ f (st.take na).reverse ws (cx_end nx lv (st.drop na) (k + kc) (n + ks) K Rq)
/-- what is known where something may be caught -/
def cw_Kn (G : cx_G) (U : State) : Prop := cx_Kn cx_Tb G U ∧ va_Nc "java/lang/IllegalStateException" "java/lang/IndexOutOfBoundsException" U
theorem cw_Kn.warm {G : cx_G} {u U : State} (hW : u.WarmedH U.vm) (h : cw_Kn G u) : cw_Kn G U := ⟨h.1.warm cx_TbAll hW, h.2.moved hW.alike⟩
/-- a method with handlers -/
def cw_M (hs : List (Nat × Nat × Nat × Nat)) (l : Launch) (G : cx_G) (y : MethodName) (cc : ByteArray) (nL : Nat) (rt : Option FieldType) (rm : Room) (f : cx_S) : Prop :=
  ∀ (as : List cx_V) (ws : List cx_C) (Rq : cx_R), f as ws Rq → ∀ (p : Program) (e : Env) (s : State) (m : MethodId) (below : List Frame) (meth : Method) (c : Code), p.tables.exec = Jvm.exec → c.code = cc → c.maxLocals = nL → meth.sig.returnType = rt → meth.locks = false → c.exceptionTable.toList.map (fun h => (h.startPc, h.endPc, h.handlerPc, h.catchType)) = hs → s.vm.findClass y.cls = some m.cls → cw_Kn G s → cx_P G ws s.heap →
    W p l e rm s m (as.map (cx_v G)).toArray below meth c s.heap [] 0 0 (cx_Q below G s rm.cells rm.slots Rq) (entryFrame m (as.map (cx_v G)).toArray nL)
section CWT
variable {p : Program} {l : Launch} {e : Env} {R : Room} {s : State} {m : MethodId} {args : Array Value} {below : List Frame} {meth : Method} {c : Code} {G : cx_G} {nL mc ms : Nat} {cc : ByteArray} {Rq : cx_R} {Q : State → Prop}
/-- the handlers' table catches X, thrown at pc, at h -/
def cw_ct (e : Env) (s : State) (m : MethodId) (c : Code) (pc : Nat) (X : String) (h : Nat) : Prop := ∀ cX, s.vm.findClass X = some cX → (∃ k, s.vm.classes[cX]? = some k) ∧ ∃ (pre : List ExceptionTableEntry) (x : ExceptionTableEntry) (rest : List ExceptionTableEntry), c.exceptionTable.toList = pre ++ x :: rest ∧ (∀ y ∈ pre, RowPassed e.platform s m.cls pc cX y) ∧ covers x pc = true ∧ x.handlerPc = h ∧ RowCatches e.platform s m.cls cX x
theorem zTry_ok (hx : p.tables.exec = Jvm.exec) (hb : c.code = cc) (hml : c.maxLocals = nL) (hKn : cx_Kn cx_Tb G s) {own C host : String} (hown : s.vm.findClass own = some m.cls) {z ci np pc : Nat} {T0 : u_T} {N0 : Nat} (hci : (cx_cl G)[ci]? = some (C, T0, N0)) {y : MethodName} {cc' : ByteArray} {nL' : Nat} {rt' : Option FieldType} {rm : Room} {f : Nat → List cx_V → List cx_C → cx_R → Prop} (hM : cx_M cx_Tb l G y cc' nL' rt' rm (cx_self ci f))
    (hw : cx_wV cx_Tb own C host z np y cc' nL' rt') (hR : cx_Rm rm R nL' mc ms) (hdg : decode cc pc = .ok (.invokevirtual z, 3)) {hs : List (String × Nat)} (hct : ∀ q ∈ hs, cw_ct e s m c pc q.1 q.2) :
    cz_ok p l e R s m args below meth c G nL (cx_F1 G mc ms) Q (pc, zTry (pc + 3) (cx_self ci f) (np + 1) rm.cells rm.slots mc ms hs) := by
  intro lv st ws k n K h hK H locs ls hF hl
  obtain ⟨⟨hk, hn, hlen, hcats⟩, hf⟩ := h
  generalize has : (st.take (np + 1)).reverse = as at hf
  generalize hrest : st.drop (np + 1) = rest at hf hcats
  have hst : st = as.reverse ++ rest := by rw [← has, ← hrest, List.reverse_reverse, List.take_append_drop]
  have hna : as.length = np + 1 := by rw [← has, List.length_reverse, List.length_take]; omega
  subst hst
  intro T hT X
  subst hT
  obtain ⟨vm₁, mk, t, X₁, hst, hQ⟩ := cx_resV cx_TbAll hx hb hml hKn hown hci hM hw.1 hw.2.1 hw.2.2 ⟨hR.1, hR.2.1⟩ hdg hna hcats (Nat.le_trans hk hR.2.2.1) (Nat.le_trans hn hR.2.2.2) hl.1 hf X hF.1
  obtain ⟨o, q, ws', c1, c2, c3, c4, c5, c6, L, c7, c8⟩ := hQ
  have hL' : ∀ q ∈ locs ++ L, (cx_H0 G).size ≤ q.base := fun q hq => (List.mem_append.mp hq).elim (hF.2.2 q) (c8 q)
  cases q with
  | inl u =>
    have ho : o = .returned (u.map (cx_v G)) := by
      cases u with
      | none => exact c4
      | some u => exact c4
    subst ho
    obtain ⟨T', X', hW', hS', ht⟩ := X₁.outOf (g := F0 m pc ls (rest.map (cx_v G))) rfl (by rw [hb]; exact hdg) c2 c6 c7
    have hh : t.heap = T'.heap := by rw [ht]; rfl
    rw [hh] at c5
    have hKu : K (pc + 3) lv (u.toList ++ rest) ws' (k + rm.cells) (n + rm.slots) := by
      cases u with
      | none => exact c3
      | some u => exact c3
    obtain ⟨t₂, a1, b1⟩ := hK _ _ _ _ _ _ hKu T'.heap (locs ++ L) ls ⟨c5, ⟨hk, hn⟩, hL'⟩ hl T' rfl X'
    refine ⟨t₂, hst.trans ?_, b1⟩
    rw [ht]
    have e1 : (u.map (cx_v G)).toList ++ rest.map (cx_v G) = (u.toList ++ rest).map (cx_v G) := by cases u <;> rfl
    show Steps p.tables e below (T'.setTop { F0 m pc ls (rest.map (cx_v G)) with pc := pc + 3, stack := (u.map (cx_v G)).toList ++ rest.map (cx_v G) }) t₂
    rw [e1]
    exact a1
  | inr x =>
    obtain ⟨ad, cell, rfl, d2, d3, d4⟩ := c4
    obtain ⟨hp, hp1, hp2⟩ := cw_h_spec c3
    obtain ⟨T', X', hW', hS', ht⟩ := X₁.outOfThrown (g := F0 m pc ls (rest.map (cx_v G))) rfl c2 c6 c7
    have hh : t.heap = T'.heap := by rw [ht]; rfl
    rw [hh] at c5 d2
    have d3' : s.vm.findClass x = some cell.cls := by
      have d3' : (T.setVm vm₁).vm.findClass x = some cell.cls := d3
      rw [X₁.warmed.alike.findClass] at d3'
      exact d3'
    obtain ⟨hk0, pre, xr, rr, g1, g2, g3, g4, g5⟩ := hct _ hp1 cell.cls d3'
    rw [ht] at hst
    obtain ⟨vm', XV, hst2⟩ := X'.thenCaughtThrough ad (g := F0 m pc ls (rest.map (cx_v G))) rfl hst d2 (by rw [d4]; rfl) hk0 pre xr rr g1 g2 g3 g5
    rw [g4] at hst2
    obtain ⟨t₂, a1, b1⟩ := hK _ _ _ _ _ _ (hp2 ad) T'.heap (locs ++ L) ls ⟨c5, ⟨hk, hn⟩, hL'⟩ hl (T'.setVm vm') rfl XV
    exact ⟨t₂, hst2.trans a1, b1⟩
theorem zAst_ok {F : cx_F} (hx : p.tables.exec = Jvm.exec) (hb : c.code = cc) {pc a : Nat} (ha : a < nL) (hdg : decode cc pc = .ok (.astore a, 2)) : cz_ok p l e R s m args below meth c G nL F Q (pc, zAst (pc + 2)) := by
  intro lv st ws k n K h hK H locs ls hF hl
  change zAst (pc + 2) lv st ws k n K at h
  unfold zAst at h
  split at h
  · exact lv_astore hx hb hdg hl.lv ha rfl (fun ls' h' => hK _ _ _ _ _ _ h H locs ls' hF ⟨h'.1, h'.2.1, fun i v hv => by simp at hv⟩)
  · exact h.elim
theorem zAstN_ok {F : cx_F} (hx : p.tables.exec = Jvm.exec) (hb : c.code = cc) {pc : Nat} {a : Fin 4} (ha : (a : Nat) < nL) (hdg : decode cc pc = .ok (.astore_n a, 1)) : cz_ok p l e R s m args below meth c G nL F Q (pc, zAst (pc + 1)) := by
  intro lv st ws k n K h hK H locs ls hF hl
  change zAst (pc + 1) lv st ws k n K at h
  unfold zAst at h
  split at h
  · exact lv_astore_n hx hb hdg rfl hl.lv ha rfl (fun ls' h' => hK _ _ _ _ _ _ h H locs ls' hF ⟨h'.1, h'.2.1, fun i v hv => by simp at hv⟩)
  · exact h.elim
theorem zCall_ok {F : cx_F} {i : Instr} {f : cx_S} {pc na kc ks : Nat} (hdg : decode cc pc = .ok (i, 3)) (h0 : cx_okcall p l e R s m args below meth c cc G nL mc ms F Q Rq i f na kc ks) : cz_ok p l e R s m args below meth c G nL F Q (pc, zCall (pc + 3) f na kc ks mc ms Rq) := by
  intro lv st ws k n K h hK H locs ls hF hl
  obtain ⟨⟨hk, hn, hlen, hcats⟩, hf⟩ := h
  have hst : ((st.take na).reverse.reverse ++ st.drop na) = st := by rw [List.reverse_reverse, List.take_append_drop]
  have w := h0 pc H locs k n ls (st.take na).reverse (st.drop na) ws _ hdg (by rw [List.length_reverse, List.length_take]; omega) hcats hk hn hF hl.1 hf (fun x ws' q => q) (fun u ws' H' locs' q1 q2 => by
    cases u with
    | none => exact hK _ _ _ _ _ _ q1 H' locs' ls q2 hl
    | some u => exact hK _ _ _ _ _ _ q1 H' locs' ls q2 hl)
  rw [hst] at w
  exact w
end CWT
abbrev cw_St (G : cx_G) (y : MethodName) (hs : List (Nat × Nat × Nat × Nat)) (cc : ByteArray) (nL : Nat) (p : Program) (s : State) (m : MethodId) (meth : Method) (c : Code) : Prop :=
  p.tables.exec = Jvm.exec ∧ c.code = cc ∧ c.maxLocals = nL ∧ meth.locks = false ∧ c.exceptionTable.toList.map (fun h => (h.startPc, h.endPc, h.handlerPc, h.catchType)) = hs ∧ s.vm.findClass y.cls = some m.cls ∧ cw_Kn G s
theorem cw_mk {l : Launch} {G : cx_G} (hG : cx_okG G) {y : MethodName} {hs : List (Nat × Nat × Nat × Nat)} {cc : ByteArray} {nL : Nat} {rt : Option FieldType} {rm : Room} {f : cx_S} {T : List (Nat × cx_E)} {Zs : List (Nat × cz_Z)}
    (hT : T.all (cx_dec true cc rt nL [] [] [] [] [] [] []) = true)
    (okZ : ∀ {p e s m args below meth c Q}, l.admits e → cw_St G y hs cc nL p s m meth c → ∀ q ∈ Zs, cz_ok p l e rm s m args below meth c G nL (cx_F1 G rm.cells rm.slots) Q q)
    (pure : ∀ as ws Rq, f as ws Rq → cx_cats as ≤ nL ∧ ∀ V, cz_cl T Zs [] rm.cells rm.slots Rq V → V 0 (cx_lv0 as nL) [] ws 0 0) : cw_M hs l G y cc nL rt rm f := by
  intro as ws Rq hf p e s m below meth c hx hb hml hr hlocks hne hown hKn hP
  obtain ⟨hc, hpure⟩ := pure as ws Rq hf
  have S : cw_St G y hs cc nL p s m meth c := ⟨hx, hb, hml, hlocks, hne, hown, hKn⟩
  intro T0 hT0 X0
  have had := X0.admits
  refine cx_enter (lv := cx_lv0 as nL) (F := cx_F1 G rm.cells rm.slots) (by rw [cx_sl_len, cx_cats_eq]; exact hc) (fun t u h => cx_lv0_get h) ⟨hP, ⟨Nat.zero_le _, Nat.zero_le _⟩, fun q hq => by cases hq⟩ ?_ T0 hT0 X0
  refine hpure (cx_AW p l e rm s m (as.map (cx_v G)).toArray below meth c G nL (cx_F1 G rm.cells rm.slots) (cx_Q below G s rm.cells rm.slots Rq)) (fun P n pc lv st ws k i h => ?_)
  exact cz_sound (free := fun q => (cx_H0 G).size ≤ q) (wr := true) (F := []) (FP := []) (LC := []) hx hb hG hKn.1 hlocks hr hown (fun ws k n H locs h => h) (fun ws k n H locs h => h.2.2) (fun ws k n H locs u t h1 h2 h3 => cx_ret1 h1 h2 h3)
    (fun _ ws ws' k n H H' locs a i h1 h2 h3 _ _ => ⟨h2, h1.2.1, cx_locs h1.2.2 h3⟩) (fun q hq => by cases hq) (fun q hq => by cases hq) (fun q hq => by cases hq) (okZ had S) hT (fun pc lv st ws k i h => h) n h
section CWC
variable {p : Program} {l : Launch} {e : Env} {R : Room} {s : State} {m : MethodId} {args : Array Value} {below : List Frame} {meth : Method} {c : Code} {G : cx_G} {nL mc ms : Nat} {cc : ByteArray} {Rq : cx_R}
def cw_w (own : String) (z np : Nat) (y : MethodName) (cc' : ByteArray) (nL' : Nat) (rt' : Option FieldType) (hs : List (Nat × Nat × Nat × Nat)) : Prop :=
  Jvm.Cond.methodLink own z y ∈ cx_Tb ∧ (Jvm.Cond.static y ∈ cx_Tb ∧ Jvm.Cond.initialized y.cls ∈ cx_Tb ∧ Jvm.Cond.codeWith y cc' nL' rt' hs ∈ cx_Tb) ∧ (plainName y.cls = true ∧ (y.cls ≠ "java/lang/invoke/MethodHandle" ∧ y.cls ≠ "java/lang/invoke/VarHandle") ∧ (parseMethodDescriptor y.desc).map (fun d => d.parameters.length) = some np)
/-- a call of such a static method -/
theorem cw_callS (hlocks : meth.locks = false) (hx : p.tables.exec = Jvm.exec) (hb : c.code = cc) (hml : c.maxLocals = nL) (hne : c.exceptionTable.isEmpty = true) (hKn : cw_Kn G s) {own : String} (hown : s.vm.findClass own = some m.cls) {z np : Nat} {y : MethodName} {cc' : ByteArray} {nL' : Nat} {rt' : Option FieldType} {hs : List (Nat × Nat × Nat × Nat)} {rm : Room} {f : cx_S} (hM : cw_M hs l G y cc' nL' rt' rm f)
    (hw : cw_w own z np y cc' nL' rt' hs) (hR : cx_Rm rm R nL' mc ms) : cx_okcall p l e R s m args below meth c cc G nL mc ms (cx_F1 G mc ms) (cx_Q below G s mc ms Rq) Rq (.invokestatic z) f np rm.cells rm.slots := by
  intro pc H locs k n ls as rest ws Rf hdg hna hcats hk hn hF hls hf hthr hret T hT X
  subst hT
  obtain ⟨hlink, ⟨hst0, hini, hcode⟩, hpl, hnot, hpar⟩ := hw
  obtain ⟨mk, methM, cM, hnamed, hmethM, hck, hcc, hml', htab, hrt, hlk, hsigM⟩ := Cond.codeWith_spec (hKn.1.1 _ hcode args)
  have hstatic : methM.isStatic = true := Cond.static_spec hnamed hmethM (hKn.1.1 _ hst0 args)
  obtain ⟨kP, hkP, -⟩ := className_of_methodNamed hnamed
  have hinitP : kP.init = .initialized := Cond.initialized_spec (findClass_of_methodNamed hnamed) hkP (hKn.1.1 _ hini args)
  have hlen : (as.map (cx_v G)).length = methM.sig.parameters.length := by
    rw [List.length_map]
    rw [hsigM] at hpar
    have h3 : methM.sig.parameters.length = np := Option.some.inj hpar
    omega
  have hstack : (F0 m pc ls ((as.reverse ++ rest).map (cx_v G))).stack = (as.map (cx_v G)).reverse ++ rest.map (cx_v G) := by
    show (as.reverse ++ rest).map (cx_v G) = _
    simp only [List.map_append, List.map_reverse]
  obtain ⟨vm₁, X₁, hstep₁⟩ := X.invokestatic hx hown (hKn.1.1 _ hlink args) hnamed hmethM hstatic hkP hinitP hnot (g := F0 m pc ls ((as.reverse ++ rest).map (cx_v G))) rfl (argsL := as.map (cx_v G)) (rest := rest.map (cx_v G)) hlen hstack (by rw [hb]; exact hdg)
  have hmk : (T.setVm vm₁).vm.method? mk = some methM := by rw [X₁.warmed.alike.method?]; exact hmethM
  have hpk : (T.setVm vm₁).plainMethod mk := X₁.warmed.plainAt (fun kk hkk => by
    obtain ⟨k0, hk0, hn0⟩ := className_of_methodNamed hnamed
    cases hkk.symm.trans hk0
    rw [hn0]
    exact hpl)
  have hWt : 2 * (F0 m pc ls (rest.map (cx_v G))).monitorRoom + ((F0 m pc ls (rest.map (cx_v G))).stack.map fun v => v.category).sum ≤ 8 := lv_room (by rw [cx_cats_eq]; exact hcats)
  obtain ⟨X', st⟩ := X₁.into (g := F0 m pc ls (rest.map (cx_v G))) rfl (by rw [hml]; exact hls) (by rw [hb]; exact hdg) (as.map (cx_v G)).toArray (R' := rm) hmk hck hlk hpk hR.1 (by rw [hml']; have := hR.2.1; omega) (Nat.le_trans hk hR.2.2.1) (Nat.le_trans hn hR.2.2.2)
  have hfc : (T.setVm vm₁).vm.findClass y.cls = some mk.cls := by
    rw [X₁.warmed.alike.findClass]
    exact findClass_of_methodNamed hnamed
  have hKn' : cw_Kn G ((T.setVm vm₁).calling (F0 m pc ls (rest.map (cx_v G))) mk (as.map (cx_v G)).toArray) := hKn.warm (show s.WarmedH (T.setVm vm₁).vm from X₁.warmed)
  have w := hM as ws Rf hf p e ((T.setVm vm₁).calling (F0 m pc ls (rest.map (cx_v G))) mk (as.map (cx_v G)).toArray) mk (.java (F0 m pc ls (rest.map (cx_v G))) :: below) methM cM hx hcc hml' hrt hlk htab hfc hKn' hF.1
  rw [← hml'] at w
  obtain ⟨t, a1, hQ⟩ := w (((T.setVm vm₁).setTop (F0 m pc ls (rest.map (cx_v G)))).pushFrame (.java (entryFrame mk (as.map (cx_v G)).toArray cM.maxLocals))) rfl X'
  have hst : Steps p.tables e below (T.setTop (F0 m pc ls ((as.reverse ++ rest).map (cx_v G)))) t := hstep₁ t (fun acts => by
    have e2 := st acts
    show Steps p.tables e below (doInvoke e ((T.setVm vm₁).setTop (F0 m pc ls (rest.map (cx_v G)))) acts mk (as.map (cx_v G)).toArray).1 t
    rw [e2]
    exact Steps.weaken (mid := [.java (F0 m pc ls (rest.map (cx_v G)))]) a1)
  exact cx_behind hlocks hne X₁ (by rw [hb]; exact hdg) hst hQ hk hn hF.2.2 hthr hret
end CWC
