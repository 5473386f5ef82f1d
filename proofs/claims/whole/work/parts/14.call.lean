/-! Contracts of methods, and calls by them. -/
/-- a method's contract: its body from every state whose heap holds the world -/
def cx_Mg (QQ : List Frame → cx_G → State → Nat → Nat → cx_R → State → Prop) (Tb : List Cond) (l : Launch) (G : cx_G) (y : MethodName) (cc : ByteArray) (nL : Nat) (rt : Option FieldType) (rm : Room) (f : cx_S) : Prop :=
  ∀ (as : List cx_V) (ws : List cx_C) (Rq : cx_R), f as ws Rq → ∀ (p : Program) (e : Env) (s : State) (m : MethodId) (below : List Frame) (meth : Method) (c : Code), p.tables.exec = Jvm.exec → c.code = cc → c.maxLocals = nL → meth.sig.returnType = rt → meth.locks = false → c.exceptionTable.isEmpty = true → s.vm.findClass y.cls = some m.cls → cx_Kn Tb G s → cx_P G ws s.heap →
    W p l e rm s m (as.map (cx_v G)).toArray below meth c s.heap [] 0 0 (QQ below G s rm.cells rm.slots Rq) (entryFrame m (as.map (cx_v G)).toArray nL)
abbrev cx_M := cx_Mg cx_Q
abbrev cx_M2 := cx_Mg cx_Q2
theorem cx_M2.weak {Tb : List Cond} {l : Launch} {G : cx_G} {y : MethodName} {cc : ByteArray} {nL : Nat} {rt : Option FieldType} {rm : Room} {f : cx_S} (h : cx_M2 Tb l G y cc nL rt rm f) : cx_M Tb l G y cc nL rt rm f :=
  fun as ws Rq hf p e s m below meth c h1 h2 h3 h4 h5 h6 h7 h8 h9 => cx_mono (fun t ht => ht.weak) (h as ws Rq hf p e s m below meth c h1 h2 h3 h4 h5 h6 h7 h8 h9)
/-- the contract of an object's method: the receiver is a cell of its class -/
def cx_self (ci : Nat) (f : Nat → List cx_V → List cx_C → cx_R → Prop) : cx_S := fun as ws R => cx_p1 as (fun j r => cx_obj ws j ci (fun _ => f j r ws R))
section CXC
variable {p : Program} {l : Launch} {e : Env} {R : Room} {s : State} {m : MethodId} {args : Array Value} {below : List Frame} {meth : Method} {c : Code} {G : cx_G} {nL mc ms : Nat} {cc : ByteArray} {Tb : List Cond} {Rq : cx_R}
theorem cx_core {QQ : List Frame → cx_G → State → Nat → Nat → cx_R → State → Prop} (hTb : Tb.all cx_stB = true) {T : State} {locs : List Loc} {k n : Nat} {y : MethodName} {cc' : ByteArray} {nL' : Nat} {rt' : Option FieldType} {rm : Room} {f : cx_S} (hM : cx_Mg QQ Tb l G y cc' nL' rt' rm f) (hx : p.tables.exec = Jvm.exec) (hKn : cx_Kn Tb G s) {as : List cx_V} {ws : List cx_C} {Rf : cx_R} (hf : f as ws Rf)
    (X : Stand p l e R s m args below meth c T locs k n) (hP : cx_P G ws T.heap) {g : JFrame} (hg : g.method = m) (hsize : g.locals.size = c.maxLocals) {ig : Instr} (hdg : decode c.code g.pc = .ok (ig, 3)) (hW : 2 * g.monitorRoom + (g.stack.map fun v => v.category).sum ≤ 8)
    {mk : MethodId} (hnamed : s.methodNamed? y = some mk) (hcode : (Jvm.Cond.code y cc' nL' rt').before args s = true) (hpl : plainName y.cls = true) (hfr : rm.frames + 1 ≤ R.frames) (hlo : 8 + (nL' + 11) + rm.locals ≤ R.locals) (hc1 : k + rm.cells ≤ R.cells) (hs1 : n + rm.slots ≤ R.slots) :
    ∃ t, (∀ acts, Steps p.tables e below (doInvoke e (T.setTop g) acts mk (as.map (cx_v G)).toArray).1 t) ∧ QQ (.java g :: below) G (T.calling g mk (as.map (cx_v G)).toArray) rm.cells rm.slots Rf t := by
  obtain ⟨methk, ck, hm, hck, hcc, hml, hrt, hlk, hne, -⟩ := Cond.code_spec hnamed hcode
  have hmk : T.vm.method? mk = some methk := by rw [X.warmed.alike.method?]; exact hm
  have hpk : T.plainMethod mk := X.warmed.plainAt (fun kk hkk => by
    obtain ⟨k0, hk0, hn0⟩ := className_of_methodNamed hnamed
    cases hkk.symm.trans hk0
    rw [hn0]
    exact hpl)
  obtain ⟨X', st⟩ := X.into hg hsize hdg (as.map (cx_v G)).toArray (R' := rm) hmk hck hlk hpk hfr (by rw [hml]; omega) hc1 hs1
  have hfc : T.vm.findClass y.cls = some mk.cls := by
    rw [X.warmed.alike.findClass]
    exact findClass_of_methodNamed hnamed
  have hKn' : cx_Kn Tb G (T.calling g mk (as.map (cx_v G)).toArray) := hKn.warm hTb (show s.WarmedH T.vm from X.warmed)
  have w := hM as ws Rf hf p e (T.calling g mk (as.map (cx_v G)).toArray) mk (.java g :: below) methk ck hx hcc hml hrt hlk hne hfc hKn' hP
  rw [← hml] at w
  obtain ⟨t, a1, a2⟩ := w ((T.setTop g).pushFrame (.java (entryFrame mk (as.map (cx_v G)).toArray ck.maxLocals))) rfl X'
  refine ⟨t, fun acts => ?_, a2⟩
  rw [st acts]
  exact Steps.weaken (mid := [.java g]) a1
theorem cx_noH (hne : c.exceptionTable.isEmpty = true) (pc : Nat) : ∀ x ∈ c.exceptionTable.toList, covers x pc = false := fun x hx => by
  have h0 : c.exceptionTable.toList = [] := by
    rw [Array.isEmpty_iff.mp hne]
  rw [h0] at hx
  cases hx
theorem cx_behind (hlocks : meth.locks = false) (hne : c.exceptionTable.isEmpty = true) {T : State} {locs : List Loc} {k n : Nat} {rm : Room} {Rf : cx_R} {s₀ : State}
    (X : Stand p l e R s m args below meth c T locs k n) {pc : Nat} {ls : Array Slot} {rest : List cx_V} {ig : Instr} (hdg : decode c.code pc = .ok (ig, 3)) {mk : MethodId} {a : Array Value} {t : State}
    (hst : Steps p.tables e below s₀ t) (hQ : cx_Q (.java (F0 m pc ls (rest.map (cx_v G))) :: below) G (T.calling (F0 m pc ls (rest.map (cx_v G))) mk a) rm.cells rm.slots Rf t) (hk : k + rm.cells ≤ mc) (hn : n + rm.slots ≤ ms) (hL : ∀ q ∈ locs, (cx_H0 G).size ≤ q.base)
    (hthr : ∀ (x : String) (ws' : List cx_C), Rf (.inr x) ws' → Rq (.inr x) ws')
    (hret : ∀ (u : Option cx_V) (ws' : List cx_C) (H' : Heap) (locs' : List Loc), Rf (.inl u) ws' → cx_F1 G mc ms ws' (k + rm.cells) (n + rm.slots) H' locs' → W p l e R s m args below meth c H' locs' (k + rm.cells) (n + rm.slots) (cx_Q below G s mc ms Rq) (F0 m (pc + 3) ls (u.toList.map (cx_v G) ++ rest.map (cx_v G)))) :
    ∃ t₂, Steps p.tables e below s₀ t₂ ∧ cx_Q below G s mc ms Rq t₂ := by
  obtain ⟨o, q, ws', c1, c2, c3, c4, c5, c6, L, c7, c8⟩ := hQ
  have hL' : ∀ q ∈ locs ++ L, (cx_H0 G).size ≤ q.base := fun q hq => (List.mem_append.mp hq).elim (hL q) (c8 q)
  cases q with
  | inl u =>
    have ho : o = .returned (u.map (cx_v G)) := by
      cases u with
      | none => exact c4
      | some u => exact c4
    subst ho
    obtain ⟨T', X', hW', hS', ht⟩ := X.outOf (g := F0 m pc ls (rest.map (cx_v G))) rfl hdg c2 c6 c7
    have hh : t.heap = T'.heap := by rw [ht]; rfl
    rw [hh] at c5
    obtain ⟨t₂, a1, b1⟩ := hret u ws' T'.heap (locs ++ L) c3 ⟨c5, ⟨hk, hn⟩, hL'⟩ T' rfl X'
    refine ⟨t₂, hst.trans ?_, b1⟩
    rw [ht]
    have e1 : (u.map (cx_v G)).toList ++ rest.map (cx_v G) = u.toList.map (cx_v G) ++ rest.map (cx_v G) := by cases u <;> rfl
    show Steps p.tables e below (T'.setTop { F0 m pc ls (rest.map (cx_v G)) with pc := pc + 3, stack := (u.map (cx_v G)).toList ++ rest.map (cx_v G) }) t₂
    rw [e1]
    exact a1
  | inr x =>
    obtain ⟨ad, cell, rfl, d2, d3, d4⟩ := c4
    obtain ⟨T', X', hW', hS', ht⟩ := X.outOfThrown (g := F0 m pc ls (rest.map (cx_v G))) rfl c2 c6 c7
    have hh : t.heap = T'.heap := by rw [ht]; rfl
    obtain ⟨e1, e2, e3, e4, e5⟩ := (stand_widen X' hk hn).leaveThrown ad (g := F0 m pc ls (rest.map (cx_v G))) rfl rfl rfl (cx_noH hne pc) hlocks
    rw [← ht] at e1
    refine ⟨_, hst.trans e1, .threw ad, .inr x, ws', e2, e3, hthr x ws' c3, ⟨ad, cell, rfl, ?_, ?_, d4⟩, ?_, e4, locs ++ L, e5, hL'⟩
    · show T'.heap[ad]? = some cell
      rw [← hh]
      exact d2
    · have d3' : T.vm.findClass x = some cell.cls := d3
      rw [X.warmed.alike.findClass] at d3'
      exact d3'
    · show cx_P G ws' T'.heap
      rw [← hh]
      exact c5
theorem cx_behind2 (hlocks : meth.locks = false) (hne : c.exceptionTable.isEmpty = true) {T : State} {k n : Nat} {rm : Room} {Rf : cx_R} {s₀ : State}
    (X : Stand p l e R s m args below meth c T [] k n) {pc : Nat} {ls : Array Slot} {rest : List cx_V} {ig : Instr} (hdg : decode c.code pc = .ok (ig, 3)) {mk : MethodId} {a : Array Value} {t : State}
    (hst : Steps p.tables e below s₀ t) (hQ : cx_Q2 (.java (F0 m pc ls (rest.map (cx_v G))) :: below) G (T.calling (F0 m pc ls (rest.map (cx_v G))) mk a) rm.cells rm.slots Rf t) (hk : k + rm.cells ≤ mc) (hn : n + rm.slots ≤ ms) (hH : T.heap = s.heap)
    (hthr : ∀ (x : String) (ws' : List cx_C), Rf (.inr x) ws' → Rq (.inr x) ws')
    (hret : ∀ (u : Option cx_V) (ws' : List cx_C) (H' : Heap) (locs' : List Loc), Rf (.inl u) ws' → cx_F2 G mc ms s ws' (k + rm.cells) (n + rm.slots) H' locs' → W p l e R s m args below meth c H' locs' (k + rm.cells) (n + rm.slots) (cx_Q2 below G s mc ms Rq) (F0 m (pc + 3) ls (u.toList.map (cx_v G) ++ rest.map (cx_v G)))) :
    ∃ t₂, Steps p.tables e below s₀ t₂ ∧ cx_Q2 below G s mc ms Rq t₂ := by
  obtain ⟨o, q, ws', c1, c2, c3, c4, c5, c6, L, c7, c8, c9⟩ := hQ
  cases q with
  | inl u =>
    have ho : o = .returned (u.map (cx_v G)) := by
      cases u with
      | none => exact c4
      | some u => exact c4
    subst ho
    obtain ⟨d1, rfl⟩ := c9 u rfl
    obtain ⟨T', X', hW', hS', ht⟩ := X.outOf (g := F0 m pc ls (rest.map (cx_v G))) rfl hdg c2 c6 c7
    have hh : t.heap = T'.heap := by rw [ht]; rfl
    rw [hh] at c5
    have hT' : T'.heap = s.heap := by rw [← hh, d1]; exact hH
    obtain ⟨t₂, a1, b1⟩ := hret u ws' T'.heap [] c3 ⟨c5, ⟨hk, hn⟩, hT', rfl⟩ T' rfl X'
    refine ⟨t₂, hst.trans ?_, b1⟩
    rw [ht]
    have e1 : (u.map (cx_v G)).toList ++ rest.map (cx_v G) = u.toList.map (cx_v G) ++ rest.map (cx_v G) := by cases u <;> rfl
    show Steps p.tables e below (T'.setTop { F0 m pc ls (rest.map (cx_v G)) with pc := pc + 3, stack := (u.map (cx_v G)).toList ++ rest.map (cx_v G) }) t₂
    rw [e1]
    exact a1
  | inr x =>
    obtain ⟨ad, cell, rfl, d2, d3, d4⟩ := c4
    obtain ⟨T', X', hW', hS', ht⟩ := X.outOfThrown (g := F0 m pc ls (rest.map (cx_v G))) rfl c2 c6 c7
    have hh : t.heap = T'.heap := by rw [ht]; rfl
    obtain ⟨e1, e2, e3, e4, e5⟩ := (stand_widen X' hk hn).leaveThrown ad (g := F0 m pc ls (rest.map (cx_v G))) rfl rfl rfl (cx_noH hne pc) hlocks
    rw [← ht] at e1
    refine ⟨_, hst.trans e1, .threw ad, .inr x, ws', e2, e3, hthr x ws' c3, ⟨ad, cell, rfl, ?_, ?_, d4⟩, ?_, e4, [] ++ L, e5, c8, fun u h => by cases h⟩
    · show T'.heap[ad]? = some cell
      rw [← hh]
      exact d2
    · have d3' : T.vm.findClass x = some cell.cls := d3
      rw [X.warmed.alike.findClass] at d3'
      exact d3'
    · show cx_P G ws' T'.heap
      rw [← hh]
      exact c5
/-- a call, till it comes back: an object's method -/
theorem cx_resV {QQ : List Frame → cx_G → State → Nat → Nat → cx_R → State → Prop} (hTb : Tb.all cx_stB = true) (hx : p.tables.exec = Jvm.exec) (hb : c.code = cc) (hml : c.maxLocals = nL) (hKn : cx_Kn Tb G s) {own C host : String} (hown : s.vm.findClass own = some m.cls) {z ci np : Nat} {T0 : u_T} {N0 : Nat} (hci : (cx_cl G)[ci]? = some (C, T0, N0)) {y : MethodName} {cc' : ByteArray} {nL' : Nat} {rt' : Option FieldType} {rm : Room} {f : Nat → List cx_V → List cx_C → cx_R → Prop} (hM : cx_Mg QQ Tb l G y cc' nL' rt' rm (cx_self ci f))
    (hlink : Jvm.Cond.methodLink own z y ∈ Tb ∨ Jvm.Cond.methodLinkNest own z y host ∈ Tb) (hws : Jvm.Cond.instanceMethod y ∈ Tb ∧ Jvm.Cond.selects C y y ∈ Tb ∧ Jvm.Cond.code y cc' nL' rt' ∈ Tb)
    (hd : plainName y.cls = true ∧ (y.cls ≠ "java/lang/invoke/MethodHandle" ∧ y.cls ≠ "java/lang/invoke/VarHandle") ∧ (parseMethodDescriptor y.desc).map (fun d => d.parameters.length) = some np)
    (hR : rm.frames + 1 ≤ R.frames ∧ 8 + (nL' + 11) + rm.locals ≤ R.locals) {pc : Nat} {locs : List Loc} {k n : Nat} {ls : Array Slot} {as rest : List cx_V} {ws : List cx_C} {Rf : cx_R} (hdg : decode cc pc = .ok (.invokevirtual z, 3)) (hna : as.length = np + 1) (hcats : cx_cats rest ≤ 8) (hk : k + rm.cells ≤ R.cells) (hn : n + rm.slots ≤ R.slots) (hls : ls.size = nL) (hf : cx_self ci f as ws Rf)
    {T : State} (X : Stand p l e R s m args below meth c T locs k n) (hP : cx_P G ws T.heap) :
    ∃ vm₁ mk t, Stand p l e R s m args below meth c (T.setVm vm₁) locs k n ∧ Steps p.tables e below (T.setTop (F0 m pc ls ((as.reverse ++ rest).map (cx_v G)))) t ∧ QQ (.java (F0 m pc ls (rest.map (cx_v G))) :: below) G ((T.setVm vm₁).calling (F0 m pc ls (rest.map (cx_v G))) mk (as.map (cx_v G)).toArray) rm.cells rm.slots Rf t := by
  obtain ⟨j, as', rfl, hf2⟩ := cx_p1_spec hf
  obtain ⟨fs, hj, -⟩ := cx_obj_spec hf2
  obtain ⟨hjN, r, hr, cell, q1, q2, q3, q4⟩ := hP.1 j _ hj
  have hr2 : r = (C, T0, N0) := Option.some.inj (hr.symm.trans hci)
  subst hr2
  have hcls : s.vm.findClass C = some cell.cls := by
    rw [q2]
    exact (hKn.2.1.1 ci _ hci).2.1
  obtain ⟨mk, methM, hnamed, hmethM, hstM, habM⟩ := Cond.instanceMethod_spec (hKn.1 _ hws.1 args)
  obtain ⟨methM', cM, hmethM', -, -, -, -, -, -, hsigM⟩ := Cond.code_spec hnamed (hKn.1 _ hws.2.2 args)
  cases hmethM.symm.trans hmethM'
  obtain ⟨c2, r2, m2, p1, p2, p3, p4, kP, hkP, hkPi⟩ := Cond.selects_spec (hKn.1 _ hws.2.1 args)
  cases hcls.symm.trans p1
  cases (State.methodFound?_of_named hnamed hd.2.1).symm.trans p2
  cases hnamed.symm.trans p3
  have hselP : selectMethod e.platform s.vm cell.cls mk = .method mk := by rw [Launch.admits_selectMethod X.admits]; exact p4
  have hlen : (as'.map (cx_v G)).length = methM.sig.parameters.length := by
    rw [List.length_map]
    have h2 := hd.2.2
    rw [hsigM] at h2
    have h3 : methM.sig.parameters.length = np := Option.some.inj h2
    rw [List.length_cons] at hna
    omega
  have hstack : (F0 m pc ls (((Sum.inr (Sum.inr (Sum.inl j)) :: as').reverse ++ rest).map (cx_v G))).stack = (as'.map (cx_v G)).reverse ++ .ref (cx_ad G j) :: rest.map (cx_v G) := by
    show ((Sum.inr (Sum.inr (Sum.inl j)) :: as').reverse ++ rest).map (cx_v G) = _
    simp only [List.reverse_cons, List.map_append, List.map_reverse, List.map_cons, List.map_nil, List.append_assoc]
    rfl
  have hdg' : decode c.code (F0 m pc ls (((Sum.inr (Sum.inr (Sum.inl j)) :: as').reverse ++ rest).map (cx_v G))).pc = .ok (.invokevirtual z, 3) := by rw [hb]; exact hdg
  have key : ∃ vm₁, Stand p l e R s m args below meth c (T.setVm vm₁) locs k n ∧ ∀ target, (∀ acts, Steps p.tables e below (doInvoke e ((T.setVm vm₁).setTop (F0 m pc ls (rest.map (cx_v G)))) acts mk (Value.ref (cx_ad G j) :: as'.map (cx_v G)).toArray).1 target) → Steps p.tables e below (T.setTop (F0 m pc ls (((Sum.inr (Sum.inr (Sum.inl j)) :: as').reverse ++ rest).map (cx_v G)))) target := by
    rcases hlink with hlink | hlink
    · obtain ⟨vm₁, X₁, hstep₁⟩ := X.invokevirtual hx hown (hKn.1 _ hlink args) hnamed hmethM hstM hkP hkPi hd.2.1 (a := cx_ad G j) (cell := cell) q1 (fun z h => by rw [q3] at h; cases h) hselP hmethM habM hkP hkPi (g := F0 m pc ls (((Sum.inr (Sum.inr (Sum.inl j)) :: as').reverse ++ rest).map (cx_v G))) rfl (argsL := as'.map (cx_v G)) (rest := rest.map (cx_v G)) hlen hstack hdg'
      exact ⟨vm₁, X₁, hstep₁⟩
    · obtain ⟨vm₁, X₁, hstep₁⟩ := X.invokevirtualNest hx hown (hKn.1 _ hlink args) hnamed hmethM hstM hkP hkPi hd.2.1 (a := cx_ad G j) (cell := cell) q1 (fun z h => by rw [q3] at h; cases h) hselP hmethM habM hkP hkPi (g := F0 m pc ls (((Sum.inr (Sum.inr (Sum.inl j)) :: as').reverse ++ rest).map (cx_v G))) rfl (argsL := as'.map (cx_v G)) (rest := rest.map (cx_v G)) hlen hstack hdg'
      exact ⟨vm₁, X₁, hstep₁⟩
  obtain ⟨vm₁, X₁, hstep₁⟩ := key
  have hWt : 2 * (F0 m pc ls (rest.map (cx_v G))).monitorRoom + ((F0 m pc ls (rest.map (cx_v G))).stack.map fun v => v.category).sum ≤ 8 := lv_room (by rw [cx_cats_eq]; exact hcats)
  obtain ⟨t, st, hQ⟩ := cx_core hTb hM hx hKn hf X₁ hP (g := F0 m pc ls (rest.map (cx_v G))) rfl (by rw [hml]; exact hls) (by rw [hb]; exact hdg) hWt hnamed (hKn.1 _ hws.2.2 args) hd.1 hR.1 hR.2 hk hn
  exact ⟨vm₁, mk, t, X₁, hstep₁ t st, hQ⟩
/-- a static method -/
theorem cx_resS {QQ : List Frame → cx_G → State → Nat → Nat → cx_R → State → Prop} (hTb : Tb.all cx_stB = true) (hx : p.tables.exec = Jvm.exec) (hb : c.code = cc) (hml : c.maxLocals = nL) (hKn : cx_Kn Tb G s) {own host : String} (hown : s.vm.findClass own = some m.cls) {z np : Nat} {y : MethodName} {cc' : ByteArray} {nL' : Nat} {rt' : Option FieldType} {rm : Room} {f : cx_S} (hM : cx_Mg QQ Tb l G y cc' nL' rt' rm f)
    (hlink : Jvm.Cond.methodLink own z y ∈ Tb ∨ Jvm.Cond.methodLinkNest own z y host ∈ Tb) (hws : Jvm.Cond.static y ∈ Tb ∧ Jvm.Cond.initialized y.cls ∈ Tb ∧ Jvm.Cond.code y cc' nL' rt' ∈ Tb)
    (hd : plainName y.cls = true ∧ (y.cls ≠ "java/lang/invoke/MethodHandle" ∧ y.cls ≠ "java/lang/invoke/VarHandle") ∧ (parseMethodDescriptor y.desc).map (fun d => d.parameters.length) = some np)
    (hR : rm.frames + 1 ≤ R.frames ∧ 8 + (nL' + 11) + rm.locals ≤ R.locals) {pc : Nat} {locs : List Loc} {k n : Nat} {ls : Array Slot} {as rest : List cx_V} {ws : List cx_C} {Rf : cx_R} (hdg : decode cc pc = .ok (.invokestatic z, 3)) (hna : as.length = np) (hcats : cx_cats rest ≤ 8) (hk : k + rm.cells ≤ R.cells) (hn : n + rm.slots ≤ R.slots) (hls : ls.size = nL) (hf : f as ws Rf)
    {T : State} (X : Stand p l e R s m args below meth c T locs k n) (hP : cx_P G ws T.heap) :
    ∃ vm₁ mk t, Stand p l e R s m args below meth c (T.setVm vm₁) locs k n ∧ Steps p.tables e below (T.setTop (F0 m pc ls ((as.reverse ++ rest).map (cx_v G)))) t ∧ QQ (.java (F0 m pc ls (rest.map (cx_v G))) :: below) G ((T.setVm vm₁).calling (F0 m pc ls (rest.map (cx_v G))) mk (as.map (cx_v G)).toArray) rm.cells rm.slots Rf t := by
  obtain ⟨mk, hnamed⟩ := Cond.code_named (hKn.1 _ hws.2.2 args)
  obtain ⟨methM, cM, hmethM, -, -, -, -, -, -, hsigM⟩ := Cond.code_spec hnamed (hKn.1 _ hws.2.2 args)
  have hstatic : methM.isStatic = true := Cond.static_spec hnamed hmethM (hKn.1 _ hws.1 args)
  obtain ⟨kP, hkP, -⟩ := className_of_methodNamed hnamed
  have hinitP : kP.init = .initialized := Cond.initialized_spec (findClass_of_methodNamed hnamed) hkP (hKn.1 _ hws.2.1 args)
  have hlen : (as.map (cx_v G)).length = methM.sig.parameters.length := by
    rw [List.length_map]
    have h2 := hd.2.2
    rw [hsigM] at h2
    have h3 : methM.sig.parameters.length = np := Option.some.inj h2
    omega
  have hstack : (F0 m pc ls ((as.reverse ++ rest).map (cx_v G))).stack = (as.map (cx_v G)).reverse ++ rest.map (cx_v G) := by
    show (as.reverse ++ rest).map (cx_v G) = _
    simp only [List.map_append, List.map_reverse]
  have hdg' : decode c.code (F0 m pc ls ((as.reverse ++ rest).map (cx_v G))).pc = .ok (.invokestatic z, 3) := by rw [hb]; exact hdg
  have key : ∃ vm₁, Stand p l e R s m args below meth c (T.setVm vm₁) locs k n ∧ ∀ target, (∀ acts, Steps p.tables e below (doInvoke e ((T.setVm vm₁).setTop (F0 m pc ls (rest.map (cx_v G)))) acts mk (as.map (cx_v G)).toArray).1 target) → Steps p.tables e below (T.setTop (F0 m pc ls ((as.reverse ++ rest).map (cx_v G)))) target := by
    rcases hlink with hlink | hlink
    · obtain ⟨vm₁, X₁, hstep₁⟩ := X.invokestatic hx hown (hKn.1 _ hlink args) hnamed hmethM hstatic hkP hinitP hd.2.1 (g := F0 m pc ls ((as.reverse ++ rest).map (cx_v G))) rfl (argsL := as.map (cx_v G)) (rest := rest.map (cx_v G)) hlen hstack hdg'
      exact ⟨vm₁, X₁, hstep₁⟩
    · obtain ⟨vm₁, X₁, hstep₁⟩ := X.invokestaticNest hx hown (hKn.1 _ hlink args) hnamed hmethM hstatic hkP hinitP hd.2.1 (g := F0 m pc ls ((as.reverse ++ rest).map (cx_v G))) rfl (argsL := as.map (cx_v G)) (rest := rest.map (cx_v G)) hlen hstack hdg'
      exact ⟨vm₁, X₁, hstep₁⟩
  obtain ⟨vm₁, X₁, hstep₁⟩ := key
  have hWt : 2 * (F0 m pc ls (rest.map (cx_v G))).monitorRoom + ((F0 m pc ls (rest.map (cx_v G))).stack.map fun v => v.category).sum ≤ 8 := lv_room (by rw [cx_cats_eq]; exact hcats)
  obtain ⟨t, st, hQ⟩ := cx_core hTb hM hx hKn hf X₁ hP (g := F0 m pc ls (rest.map (cx_v G))) rfl (by rw [hml]; exact hls) (by rw [hb]; exact hdg) hWt hnamed (hKn.1 _ hws.2.2 args) hd.1 hR.1 hR.2 hk hn
  exact ⟨vm₁, mk, t, X₁, hstep₁ t st, hQ⟩
/-- what a call needs of the tables, of a virtual and of a static one -/
def cx_wV (Tb : List Cond) (own C host : String) (z np : Nat) (y : MethodName) (cc' : ByteArray) (nL' : Nat) (rt' : Option FieldType) : Prop :=
  (Jvm.Cond.methodLink own z y ∈ Tb ∨ Jvm.Cond.methodLinkNest own z y host ∈ Tb) ∧ (Jvm.Cond.instanceMethod y ∈ Tb ∧ Jvm.Cond.selects C y y ∈ Tb ∧ Jvm.Cond.code y cc' nL' rt' ∈ Tb) ∧ (plainName y.cls = true ∧ (y.cls ≠ "java/lang/invoke/MethodHandle" ∧ y.cls ≠ "java/lang/invoke/VarHandle") ∧ (parseMethodDescriptor y.desc).map (fun d => d.parameters.length) = some np)
def cx_wS (Tb : List Cond) (own host : String) (z np : Nat) (y : MethodName) (cc' : ByteArray) (nL' : Nat) (rt' : Option FieldType) : Prop :=
  (Jvm.Cond.methodLink own z y ∈ Tb ∨ Jvm.Cond.methodLinkNest own z y host ∈ Tb) ∧ (Jvm.Cond.static y ∈ Tb ∧ Jvm.Cond.initialized y.cls ∈ Tb ∧ Jvm.Cond.code y cc' nL' rt' ∈ Tb) ∧ (plainName y.cls = true ∧ (y.cls ≠ "java/lang/invoke/MethodHandle" ∧ y.cls ≠ "java/lang/invoke/VarHandle") ∧ (parseMethodDescriptor y.desc).map (fun d => d.parameters.length) = some np)
abbrev cx_Rm (rm R : Room) (nL' mc ms : Nat) : Prop := rm.frames + 1 ≤ R.frames ∧ 8 + (nL' + 11) + rm.locals ≤ R.locals ∧ mc ≤ R.cells ∧ ms ≤ R.slots
theorem cx_callV (hTb : Tb.all cx_stB = true) (hx : p.tables.exec = Jvm.exec) (hb : c.code = cc) (hml : c.maxLocals = nL) (hKn : cx_Kn Tb G s) (hlocks : meth.locks = false) (hne : c.exceptionTable.isEmpty = true) {own C host : String} (hown : s.vm.findClass own = some m.cls) {z ci np : Nat} {T0 : u_T} {N0 : Nat} (hci : (cx_cl G)[ci]? = some (C, T0, N0)) {y : MethodName} {cc' : ByteArray} {nL' : Nat} {rt' : Option FieldType} {rm : Room} {f : Nat → List cx_V → List cx_C → cx_R → Prop} (hM : cx_M Tb l G y cc' nL' rt' rm (cx_self ci f))
    (hw : cx_wV Tb own C host z np y cc' nL' rt') (hR : cx_Rm rm R nL' mc ms) : cx_okcall p l e R s m args below meth c cc G nL mc ms (cx_F1 G mc ms) (cx_Q below G s mc ms Rq) Rq (.invokevirtual z) (cx_self ci f) (np + 1) rm.cells rm.slots := by
  intro pc H locs k n ls as rest ws Rf hdg hna hcats hk hn hF hls hf hthr hret T hT X
  subst hT
  obtain ⟨vm₁, mk, t, X₁, st, hQ⟩ := cx_resV hTb hx hb hml hKn hown hci hM hw.1 hw.2.1 hw.2.2 ⟨hR.1, hR.2.1⟩ hdg hna hcats (Nat.le_trans hk hR.2.2.1) (Nat.le_trans hn hR.2.2.2) hls hf X hF.1
  exact cx_behind hlocks hne X₁ (by rw [hb]; exact hdg) st hQ hk hn hF.2.2 hthr hret
theorem cx_callV2 (hTb : Tb.all cx_stB = true) (hx : p.tables.exec = Jvm.exec) (hb : c.code = cc) (hml : c.maxLocals = nL) (hKn : cx_Kn Tb G s) (hlocks : meth.locks = false) (hne : c.exceptionTable.isEmpty = true) {own C host : String} (hown : s.vm.findClass own = some m.cls) {z ci np : Nat} {T0 : u_T} {N0 : Nat} (hci : (cx_cl G)[ci]? = some (C, T0, N0)) {y : MethodName} {cc' : ByteArray} {nL' : Nat} {rt' : Option FieldType} {rm : Room} {f : Nat → List cx_V → List cx_C → cx_R → Prop} (hM : cx_M2 Tb l G y cc' nL' rt' rm (cx_self ci f))
    (hw : cx_wV Tb own C host z np y cc' nL' rt') (hR : cx_Rm rm R nL' mc ms) : cx_okcall p l e R s m args below meth c cc G nL mc ms (cx_F2 G mc ms s) (cx_Q2 below G s mc ms Rq) Rq (.invokevirtual z) (cx_self ci f) (np + 1) rm.cells rm.slots := by
  intro pc H locs k n ls as rest ws Rf hdg hna hcats hk hn hF hls hf hthr hret T hT X
  subst hT
  obtain ⟨hF1, hF2, hF3, rfl⟩ := hF
  obtain ⟨vm₁, mk, t, X₁, st, hQ⟩ := cx_resV hTb hx hb hml hKn hown hci hM hw.1 hw.2.1 hw.2.2 ⟨hR.1, hR.2.1⟩ hdg hna hcats (Nat.le_trans hk hR.2.2.1) (Nat.le_trans hn hR.2.2.2) hls hf X hF1
  exact cx_behind2 hlocks hne X₁ (by rw [hb]; exact hdg) st hQ hk hn hF3 hthr hret
theorem cx_callS (hTb : Tb.all cx_stB = true) (hx : p.tables.exec = Jvm.exec) (hb : c.code = cc) (hml : c.maxLocals = nL) (hKn : cx_Kn Tb G s) (hlocks : meth.locks = false) (hne : c.exceptionTable.isEmpty = true) {own host : String} (hown : s.vm.findClass own = some m.cls) {z np : Nat} {y : MethodName} {cc' : ByteArray} {nL' : Nat} {rt' : Option FieldType} {rm : Room} {f : cx_S} (hM : cx_M Tb l G y cc' nL' rt' rm f)
    (hw : cx_wS Tb own host z np y cc' nL' rt') (hR : cx_Rm rm R nL' mc ms) : cx_okcall p l e R s m args below meth c cc G nL mc ms (cx_F1 G mc ms) (cx_Q below G s mc ms Rq) Rq (.invokestatic z) f np rm.cells rm.slots := by
  intro pc H locs k n ls as rest ws Rf hdg hna hcats hk hn hF hls hf hthr hret T hT X
  subst hT
  obtain ⟨vm₁, mk, t, X₁, st, hQ⟩ := cx_resS hTb hx hb hml hKn hown hM hw.1 hw.2.1 hw.2.2 ⟨hR.1, hR.2.1⟩ hdg hna hcats (Nat.le_trans hk hR.2.2.1) (Nat.le_trans hn hR.2.2.2) hls hf X hF.1
  exact cx_behind hlocks hne X₁ (by rw [hb]; exact hdg) st hQ hk hn hF.2.2 hthr hret
theorem cx_callS2 (hTb : Tb.all cx_stB = true) (hx : p.tables.exec = Jvm.exec) (hb : c.code = cc) (hml : c.maxLocals = nL) (hKn : cx_Kn Tb G s) (hlocks : meth.locks = false) (hne : c.exceptionTable.isEmpty = true) {own host : String} (hown : s.vm.findClass own = some m.cls) {z np : Nat} {y : MethodName} {cc' : ByteArray} {nL' : Nat} {rt' : Option FieldType} {rm : Room} {f : cx_S} (hM : cx_M2 Tb l G y cc' nL' rt' rm f)
    (hw : cx_wS Tb own host z np y cc' nL' rt') (hR : cx_Rm rm R nL' mc ms) : cx_okcall p l e R s m args below meth c cc G nL mc ms (cx_F2 G mc ms s) (cx_Q2 below G s mc ms Rq) Rq (.invokestatic z) f np rm.cells rm.slots := by
  intro pc H locs k n ls as rest ws Rf hdg hna hcats hk hn hF hls hf hthr hret T hT X
  subst hT
  obtain ⟨hF1, hF2, hF3, rfl⟩ := hF
  obtain ⟨vm₁, mk, t, X₁, st, hQ⟩ := cx_resS hTb hx hb hml hKn hown hM hw.1 hw.2.1 hw.2.2 ⟨hR.1, hR.2.1⟩ hdg hna hcats (Nat.le_trans hk hR.2.2.1) (Nat.le_trans hn hR.2.2.2) hls hf X hF1
  exact cx_behind2 hlocks hne X₁ (by rw [hb]; exact hdg) st hQ hk hn hF3 hthr hret
/-- getfield and putfield by their words -/
theorem cx_getP (hx : p.tables.exec = Jvm.exec) (hb : c.code = cc) (hKn : cx_Kn Tb G s) {own ref C host : String} (hown : s.vm.findClass own = some m.cls) {z ci b : Nat} {T0 : u_T} {N0 : Nat} (hci : (cx_cl G)[ci]? = some (C, T0, N0)) (hin : ∀ w ∈ u_ws C T0 N0, w ∈ Tb) (hk : b < N0)
    (hlink : Jvm.Cond.fieldLink own z ref (T0 b).2.1 (T0 b).2.2.1 ∈ Tb ∨ Jvm.Cond.fieldLinkNest own z ref (T0 b).2.1 (T0 b).2.2.1 host ∈ Tb) (href : (T0 b).1 = ref) {Q : State → Prop} : cx_okget p l e R s m args below meth c cc G Q z ci b := by
  intro pc H locs k n ls rest a fs v hd hat hv kk
  have hP : va_P (cx_D G) (cx_cl G) [(a, .inr (ci, fs))] H := fun i q hq => by
    cases i with
    | zero => cases hq; exact hat
    | succ i => simp at hq
  subst href
  rcases hlink with hlink | hlink
  · exact va_get hx hb (fun w hw => hKn.1 w hw args) hin hown hKn.2.1 hP 0 rfl hci b hk (hKn.1 _ hlink args) (fun x h => h) hv hd kk
  · exact va_getN hx hb (fun w hw => hKn.1 w hw args) hin hown hKn.2.1 hP 0 rfl hci b hk (hKn.1 _ hlink args) (fun x h => h) hv hd kk
theorem cx_putP (hx : p.tables.exec = Jvm.exec) (hb : c.code = cc) (hKn : cx_Kn Tb G s) {own ref C : String} (hown : s.vm.findClass own = some m.cls) {z ci b : Nat} {fl : Int32} {T0 : u_T} {N0 : Nat} (hci : (cx_cl G)[ci]? = some (C, T0, N0)) (hin : ∀ w ∈ u_ws C T0 N0, w ∈ Tb) (ty0 : Nat → FieldType) (hty : ∀ k, k < N0 → parseFieldDescriptor (T0 k).2.2.1 = some (ty0 k)) (hnm : ∀ a, a < N0 → ∀ b, b < N0 → a ≠ b → (T0 a).2.1 ≠ (T0 b).2.1) (hk : b < N0)
    (hlink : Jvm.Cond.fieldLink own z ref (T0 b).2.1 (T0 b).2.2.1 ∈ Tb) (href : (T0 b).1 = ref) (hfin : (T0 b).2.2.2 = false) (hfl : (fl = 0 ∧ ty0 b = .int) ∨ (fl = 1 ∧ ty0 b = .boolean)) {Q : State → Prop} : cx_okput p l e R s m args below meth c cc G Q z ci b fl := by
  intro pc H locs k n ls rest a fs v hd hat hl htk kk
  subst href
  have hts : ∀ w ∈ Tb, w.before args s = true := fun w hw => hKn.1 w hw args
  have hap := va_apart (own := own) hts hin ty0 hty hnm hKn.2.1 hci
  obtain ⟨r, h1, cell, q1, q2, q3, q4⟩ := hat
  have hr : r = (C, T0, N0) := Option.some.inj (h1.symm.trans hci)
  subst hr
  obtain ⟨hS, hfc, kC, hkC, hkind⟩ := hKn.2.1.1 ci _ hci
  obtain ⟨cf, kf, fi, fd, hi, hsl⟩ := hS b hk
  have hlay := hts _ (hin _ (u_in_lay hk))
  unfold u_lay at hlay
  rw [if_neg (by rw [hfin]; decide)] at hlay
  have hst := (u_facts hfc hkC (u_lays hts hin hk) hi).1
  have hnf : narrow (ty0 b) v = v ∧ fits (ty0 b) v = true := by
    rcases htk with ⟨e1, x, rfl⟩ | ⟨e1, x, rfl, e2⟩ | ⟨e1, x, rfl⟩
    · rcases hfl with ⟨g1, g2⟩ | ⟨g1, g2⟩
      · rw [g2]; exact ⟨rfl, rfl⟩
      · rw [e1] at g1; exact absurd g1 (by decide)
    · rcases hfl with ⟨g1, g2⟩ | ⟨g1, g2⟩
      · rw [g2]; exact ⟨rfl, rfl⟩
      · rw [g2]
        rcases e2 with rfl | rfl <;> decide
    · rcases hfl with ⟨g1, g2⟩ | ⟨g1, g2⟩ <;> (rw [e1] at g1; exact absurd g1 (by decide))
  have h6 := u_store hfc hkC hkind hlay hi (hty b hk) hnf.1 hnf.2
  refine W.putK hx hb (f := fd) ⟨hown, hts _ hlink, ⟨_, _, _, hi⟩, hst⟩ (by rw [q2]; exact h6) q1 q3 (by rw [hsl]; exact k2_hasslot (q4 b hk)) rfl rfl hd fun H' e1 e2 e3 => ?_
  have e1' := e1
  rw [hsl] at e1'
  exact kk H' _ ⟨_, hci, t_OB.to (V := updV (vp_V fs) b v) ⟨_, e1', q2, q3, t_set q4 hap hk v⟩ (fun j _ => vp_updV_set hl v j)⟩ e2 e3
/-- the first locals -/
def cx_slots (as : List cx_V) : cx_L := match as with
  | [] => []
  | v :: r => some v :: (match cx_wd v with
    | true => none :: cx_slots r
    | false => cx_slots r)
theorem cx_slots_args (G : cx_G) : ∀ (as : List cx_V) (i t : Nat) (u : cx_V), (cx_slots as)[t]? = some (some u) → (i + t, cx_v G u) ∈ lv_args i (as.map (cx_v G))
  | [], i, t, u, h => by simp [cx_slots] at h
  | v :: r, i, t, u, h => by
    have hc := cx_v_cat G v
    unfold cx_slots at h
    rw [List.map_cons]
    unfold lv_args
    cases t with
    | zero =>
      simp at h
      subst h
      exact List.mem_cons_self
    | succ t =>
      rw [List.getElem?_cons_succ] at h
      refine List.mem_cons_of_mem _ ?_
      split at h
      · rename_i hw
        rw [hw] at hc
        have h2 : (cx_v G v).category = 2 := by simpa using hc
        rw [if_pos h2]
        cases t with
        | zero => simp at h
        | succ t =>
          rw [List.getElem?_cons_succ] at h
          have := cx_slots_args G r (i + 2) t u h
          rw [show i + (t + 1 + 1) = i + 2 + t by omega]
          exact this
      · rename_i hw
        rw [hw] at hc
        have h2 : ¬ (cx_v G v).category = 2 := by simpa using hc
        rw [if_neg h2]
        have := cx_slots_args G r (i + 1) t u h
        rw [show i + (t + 1) = i + 1 + t by omega]
        exact this
theorem cx_enter {as : List cx_V} {ws : List cx_C} {lv : cx_L} {Q : State → Prop} (hfit : (lg_sl (as.map (cx_v G))).length ≤ nL) (hlv : ∀ (t : Nat) (u : cx_V), lv[t]? = some (some u) → (cx_slots as)[t]? = some (some u)) 
    {F : cx_F} (hF : F ws 0 0 s.heap []) (h : cx_AW p l e R s m (as.map (cx_v G)).toArray below meth c G nL F Q 0 lv [] ws 0 0) : W p l e R s m (as.map (cx_v G)).toArray below meth c s.heap [] 0 0 Q (entryFrame m (as.map (cx_v G)).toArray nL) := by
  rw [lg_entry_eq]
  have hl := lv_entry (as.map (cx_v G)) hfit
  refine h s.heap [] _ hF ⟨hl.1, hl.2.1, fun t u ht => ?_⟩
  have := hl.2.2 _ (cx_slots_args G as 0 t u (hlv t u ht))
  rw [Nat.zero_add] at this
  exact this
end CXC
