/-! The machine with steps of one's own at some places; constructors. -/
abbrev cz_Z : Type := cx_L → List cx_V → List cx_C → Nat → Nat → cx_K → Prop
def cz_get (Zs : List (Nat × cz_Z)) (pc : Nat) : Option cz_Z := match Zs with
  | [] => none
  | q :: r => (match Nat.beq q.1 pc with
    | true => some q.2
    | false => cz_get r pc)
theorem cz_get_spec {Zs : List (Nat × cz_Z)} {pc : Nat} {Z : cz_Z} (h : cz_get Zs pc = some Z) : (pc, Z) ∈ Zs := by
  induction Zs with
  | nil => cases h
  | cons q r ih =>
    unfold cz_get at h
    split at h
    · rename_i e
      cases h
      have := Nat.eq_of_beq_eq_true e
      subst this
      exact List.mem_cons_self
    · exact List.mem_cons_of_mem _ (ih h)
def cz_ax (T : List (Nat × cx_E)) (Zs : List (Nat × cz_Z)) (Sw : List (Nat × List Nat)) (mc ms : Nat) (P : List Nat) (R : cx_R) (K : cx_K) (n : Nat) (pc : Nat) (lv : cx_L) (st : List cx_V) (ws : List cx_C) (c s : Nat) : Prop := match n with
  | 0 => K pc lv st ws c s
  | n + 1 => match cz_get Zs pc with
    | some Z => Z lv st ws c s (fun pc lv st ws c s => match cx_stop P pc with
      | true => K pc lv st ws c s
      | false => cz_ax T Zs Sw mc ms P R K n pc lv st ws c s)
    | none => match cx_get T pc with
      | some en => cx_1 [] [] Sw mc ms en lv st ws c s (fun pc lv st ws c s => match cx_stop P pc with
        | true => K pc lv st ws c s
        | false => cz_ax T Zs Sw mc ms P R K n pc lv st ws c s) R
      | none => False
def cz_cl (T : List (Nat × cx_E)) (Zs : List (Nat × cz_Z)) (Sw : List (Nat × List Nat)) (mc ms : Nat) (Rq : cx_R) (V : cx_K) : Prop :=
  ∀ (P : List Nat) (n pc : Nat) (lv : cx_L) (st : List cx_V) (ws : List cx_C) (k i : Nat), cz_ax T Zs Sw mc ms P Rq V n pc lv st ws k i → V pc lv st ws k i
section CZS
variable {p : Program} {l : Launch} {e : Env} {R : Room} {s : State} {m : MethodId} {args : Array Value} {below : List Frame} {meth : Method} {c : Code} {Q : State → Prop} {G : cx_G} {nL mc ms : Nat} {cc : ByteArray} {Tb : List Cond} {Rq : cx_R}
/-- a step of one's own is right -/
def cz_ok (p : Program) (l : Launch) (e : Env) (R : Room) (s : State) (m : MethodId) (args : Array Value) (below : List Frame) (meth : Method) (c : Code) (G : cx_G) (nL : Nat) (F : cx_F) (Q : State → Prop) (q : Nat × cz_Z) : Prop :=
  ∀ (lv : cx_L) (st : List cx_V) (ws : List cx_C) (k n : Nat) (K : cx_K), q.2 lv st ws k n K → (∀ pc lv st ws k n, K pc lv st ws k n → cx_AW p l e R s m args below meth c G nL F Q pc lv st ws k n) → cx_AW p l e R s m args below meth c G nL F Q q.1 lv st ws k n
theorem cz_sound {wr : Bool} {F0c : cx_F} {own : String} {rt : Option FieldType} {F : List (Nat × Nat × Nat)} {FP : List (Nat × Nat × Nat × Int32)} {LC : List (Nat × Int64)} {T : List (Nat × cx_E)} {Zs : List (Nat × cz_Z)} {Sw : List (Nat × List Nat)} {free : Addr → Prop}
    (hx : p.tables.exec = Jvm.exec) (hb : c.code = cc) (hG : cx_okG G) (hKn : cx_Kn Tb G s) (hlocks : meth.locks = false) (hr : meth.sig.returnType = rt) (hown : s.vm.findClass own = some m.cls)
    (hFP : ∀ ws k n H locs, F0c ws k n H locs → cx_P G ws H ∧ (k ≤ mc ∧ n ≤ ms) ∧ ∀ q ∈ locs, (cx_H0 G).size ≤ q.base)
    (hfree : ∀ ws k n H locs, F0c ws k n H locs → ∀ q ∈ locs, free q.base) (hRet : ∀ ws k n H locs u t, F0c ws k n H locs → Rq (.inl u) ws → cx_end0 below args G s k n free H u t → Q t)
    (hFw : wr = true → ∀ (ws ws' : List cx_C) (k n : Nat) (H H' : Heap) (locs : List Loc) (a i : Nat), F0c ws k n H locs → cx_P G ws' H' → (cx_H0 G).size ≤ a → H'.size = H.size → ws'.length = ws.length → F0c ws' k n H' (locs ++ [⟨a, i⟩]))
    (okF : ∀ q ∈ F, cx_okget p l e R s m args below meth c cc G Q q.1 q.2.1 q.2.2)
    (okP : ∀ q ∈ FP, cx_okput p l e R s m args below meth c cc G Q q.1 q.2.1 q.2.2.1 q.2.2.2)
    (okL : ∀ q ∈ LC, (Jvm.Cond.constantLong own q.1 q.2).before args s = true)
    (okZ : ∀ q ∈ Zs, cz_ok p l e R s m args below meth c G nL F0c Q q)
    (hT : T.all (cx_dec wr cc rt nL F FP LC [] [] [] Sw) = true) {P : List Nat} {K : cx_K} (hK : ∀ pc lv st ws k n, K pc lv st ws k n → cx_AW p l e R s m args below meth c G nL F0c Q pc lv st ws k n) :
    ∀ (i : Nat) {pc : Nat} {lv : cx_L} {st : List cx_V} {ws : List cx_C} {k n : Nat}, cz_ax T Zs Sw mc ms P Rq K i pc lv st ws k n → cx_AW p l e R s m args below meth c G nL F0c Q pc lv st ws k n := by
  intro i
  induction i with
  | zero => intro pc lv st ws k n h; exact hK _ _ _ _ _ _ h
  | succ i ih =>
    intro pc lv st ws k n h
    unfold cz_ax at h
    split at h
    · rename_i Z hZ
      refine okZ _ (cz_get_spec hZ) lv st ws k n _ h (fun pc lv st ws k n q => ?_)
      split at q
      · exact hK _ _ _ _ _ _ q
      · exact ih q
    · split at h
      · rename_i en hen
        obtain ⟨d1, d3, d2⟩ := cx_dec_spec (List.all_eq_true.mp hT _ (cx_get_spec hen))
        refine cx_s1 (Ex := []) (Sp := []) (CV := []) (CS := []) (TH := []) hx hb hG hKn hlocks hr hown hFP hfree hRet hFw okF okP okL (fun q hq => by cases hq) (fun q hq => by cases hq) (fun q hq => by cases hq) d1 d3 d2 (fun pc lv st ws k n q => ?_) h
        split at q
        · exact hK _ _ _ _ _ _ q
        · exact ih q
      · exact h.elim
end CZS
/-! Constructors. -/
def cy_Q (below : List Frame) (G : cx_G) (s : State) (mc ms : Nat) (Rq : List cx_C → Prop) : State → Prop := fun t => ∃ ws : List cx_C, t.status = .running ∧ Ended t below (.returned none) ∧ Rq ws ∧ cx_P G ws t.heap ∧ t.heap.size = cx_ad G ws.length ∧ s.WarmedH t.vm ∧ ∃ L : List Loc, s.sameButNew ({ t with vm := s.vm } : State) L mc ms ∧ ∀ q ∈ L, (cx_H0 G).size ≤ q.base
abbrev cy_S : Type := Nat → List cx_C → (List cx_C → Prop) → Prop
def cy_M (l : Launch) (G : cx_G) (y : MethodName) (cc : ByteArray) (nL : Nat) (rm : Room) (f : cy_S) : Prop :=
  ∀ (j : Nat) (ws : List cx_C) (Rq : List cx_C → Prop), f j ws Rq → ∀ (p : Program) (e : Env) (s : State) (m : MethodId) (below : List Frame) (meth : Method) (c : Code), p.tables.exec = Jvm.exec → c.code = cc → c.maxLocals = nL → meth.sig.returnType = none → meth.name = "<init>" → meth.locks = false → c.exceptionTable.isEmpty = true → s.vm.findClass y.cls = some m.cls → cy_Kn G s → cx_P G ws s.heap → s.heap.size = cx_ad G ws.length →
    W p l e rm s m (([.inr (.inr (.inl j))] : List cx_V).map (cx_v G)).toArray below meth c s.heap [] 0 0 (cy_Q below G s rm.cells rm.slots Rq) (entryFrame m (([.inr (.inr (.inl j))] : List cx_V).map (cx_v G)).toArray nL)
abbrev cy_St (G : cx_G) (y : MethodName) (cc : ByteArray) (nL : Nat) (p : Program) (s : State) (m : MethodId) (meth : Method) (c : Code) : Prop :=
  p.tables.exec = Jvm.exec ∧ c.code = cc ∧ c.maxLocals = nL ∧ meth.locks = false ∧ meth.name = "<init>" ∧ s.vm.findClass y.cls = some m.cls ∧ cy_Kn G s
theorem cy_mk {l : Launch} {G : cx_G} (hG : cy_okG G) {y : MethodName} {cc : ByteArray} {nL : Nat} {rm : Room} {f : cy_S} {FP : List (Nat × Nat × Nat × Int32)} {T : List (Nat × cx_E)} {Zs : List (Nat × cz_Z)} (hnL : 1 ≤ nL)
    (hT : T.all (cx_dec true cc none nL [] FP [] [] [] [] []) = true)
    (okP : ∀ {p e s m args below meth c Q}, cy_St G y cc nL p s m meth c → ∀ q ∈ FP, cx_okput p l e rm s m args below meth c cc G Q q.1 q.2.1 q.2.2.1 q.2.2.2)
    (okZ : ∀ {p e s m args below meth c Q}, cy_St G y cc nL p s m meth c → ∀ q ∈ Zs, cz_ok p l e rm s m args below meth c G nL (cy_F G rm.cells rm.slots) Q q)
    (pure : ∀ j ws Rq, f j ws Rq → ∀ V, cz_cl T Zs [] rm.cells rm.slots (fun o ws => o = .inl none ∧ Rq ws) V → V 0 (cx_lv0 [.inr (.inr (.inl j))] nL) [] ws 0 0) : cy_M l G y cc nL rm f := by
  intro j ws Rq hf p e s m below meth c hx hb hml hr hnm hlocks hne hown hKn hP hz
  have S : cy_St G y cc nL p s m meth c := ⟨hx, hb, hml, hlocks, hnm, hown, hKn⟩
  refine cx_enter (lv := cx_lv0 [.inr (.inr (.inl j))] nL) (F := cy_F G rm.cells rm.slots) (by rw [cx_sl_len, cx_cats_eq]; exact hnL) (fun t u h => cx_lv0_get h) ⟨⟨hP, ⟨Nat.zero_le _, Nat.zero_le _⟩, fun q hq => by cases hq⟩, hz⟩ ?_
  refine pure j ws Rq hf (cx_AW p l e rm s m _ below meth c G nL (cy_F G rm.cells rm.slots) (cy_Q below G s rm.cells rm.slots Rq)) (fun P n pc lv st ws k i h => ?_)
  refine cz_sound (free := fun q => (cx_H0 G).size ≤ q) (wr := true) (F := []) (LC := []) hx hb hG.ok hKn.1 hlocks hr hown (fun ws k n H locs h => h.1) (fun ws k n H locs h => h.1.2.2) (fun ws k n H locs u t h1 h2 h3 => ?_)
    (fun _ ws ws' k n H H' locs a i h1 h2 h3 h4 h5 => ⟨⟨h2, h1.1.2.1, cx_locs h1.1.2.2 h3⟩, by rw [h4, h5]; exact h1.2⟩) (fun q hq => by cases hq) (okP S) (fun q hq => by cases hq) (okZ S) hT (fun pc lv st ws k i h => h) n h
  obtain ⟨h2a, h2b⟩ := h2
  cases h2a
  obtain ⟨o, q1, q2, ⟨q3, q4⟩, L, ⟨-, q5, q6⟩, q7⟩ := h3
  have q3' : o = .returned none := q3
  subst q3'
  exact ⟨ws, q1, q2, h2b, by rw [q4]; exact h1.1.1, by rw [q4]; exact h1.2, q5, L, q6.mono h1.1.2.1.1 h1.1.2.1.2, q7⟩
/-- the steps of one's own -/
def zNewa (nx b a mc ms : Nat) : cz_Z := fun lv st ws k n K => cx_i1 st (fun x r => (x = nI a ∧ (ws.length < 41 ∧ cy_off (ws.length + 1) = cy_off ws.length + 1) ∧ k + 1 ≤ mc ∧ n + a ≤ ms) ∧ cx_fo 42 (ws ++ [cy_zero b a]) (fun ws' => K nx lv (.inr (.inr (.inl ws.length)) :: r) ws' (k + 1) (n + a)))
def zGrid (nx a b mc ms : Nat) : cz_Z := fun lv st ws k n K => cx_ii st (fun x y r => ((x = nI a ∧ y = nI b) ∧ (ws.length < 41 ∧ cy_off (ws.length + 1) = cy_off ws.length + 1 + a ∧ cy_gl ws.length = a) ∧ k + 1 + a ≤ mc ∧ n + a + a * b ≤ ms) ∧ cx_fo 42 (ws ++ [.inr (.inr (.inr (.inr (a, b, fun _ _ => 0))))]) (fun ws' => K nx lv (.inr (.inr (.inl ws.length)) :: r) ws' (k + 1 + a) (n + a + a * b)))
def zNew (nx ci N0 : Nat) (d : List cx_V) (mc ms : Nat) : cz_Z := fun lv st ws k n K => ((ws.length < 41 ∧ cy_off (ws.length + 1) = cy_off ws.length + 1) ∧ k + 1 ≤ mc ∧ n + N0 ≤ ms) ∧ cx_fo 42 (ws ++ [.inl (ci, d)]) (fun ws' => K nx lv (.inr (.inr (.inl ws.length)) :: st) ws' (k + 1) (n + N0))
def zObj (nx : Nat) : cz_Z := fun lv st ws k n K => cx_p1 st (fun _ r => cx_cats r ≤ 8 ∧ K nx lv r ws k n)
def zCtor (nx : Nat) (f : cy_S) (kc ks mc ms : Nat) : cz_Z := fun lv st ws k n K => cx_p1 st (fun j r => (k + kc ≤ mc ∧ n + ks ≤ ms ∧ cx_cats r ≤ 8) ∧ f j ws (fun ws' => K nx lv r ws' (k + kc) (n + ks)))
section CYZ
variable {p : Program} {l : Launch} {e : Env} {R : Room} {s : State} {m : MethodId} {args : Array Value} {below : List Frame} {meth : Method} {c : Code} {Q : State → Prop} {G : cx_G} {nL mc ms : Nat} {cc : ByteArray}
theorem zNewa_ok (hG : cy_okG G) (hx : p.tables.exec = Jvm.exec) (hb : c.code = cc) (hKn : cy_Kn G s) {at0 : ArrayType} {b pc a : Nat} (hat : (at0 = .int ∧ b = 0) ∨ (at0 = .boolean ∧ b = 1) ∨ (at0 = .long ∧ b = 2)) (ha : a < 65536) (hdg : decode cc pc = .ok (.newarray at0, 2)) (hR : mc ≤ R.cells ∧ ms ≤ R.slots) :
    cz_ok p l e R s m args below meth c G nL (cy_F G mc ms) Q (pc, zNewa (pc + 2) b a mc ms) := by
  intro lv st ws k n K h hK H locs ls hF hl
  obtain ⟨x, r, rfl, h⟩ := cx_i1_spec h
  obtain ⟨⟨rfl, h1, h2⟩, h3⟩ := h
  rw [cx_fo_eq] at h3
  exact cy_newa hG hx hb hKn hat ha hdg hF h1 h2 hR (fun H' hF' => hK _ _ _ _ _ _ h3 H' locs ls hF' hl)
theorem zGrid_ok (hG : cy_okG G) (hx : p.tables.exec = Jvm.exec) (hb : c.code = cc) (hKn : cy_Kn G s) {own : String} (hown : s.vm.findClass own = some m.cls) {z pc a b : Nat} (hw : Jvm.Cond.classLink own z "[[J" ∈ cx_Tb) (ha : a < 65536 ∧ b < 65536) (hdg : decode cc pc = .ok (.multianewarray z 2, 4)) (hR : mc ≤ R.cells ∧ ms ≤ R.slots) :
    cz_ok p l e R s m args below meth c G nL (cy_F G mc ms) Q (pc, zGrid (pc + 4) a b mc ms) := by
  intro lv st ws k n K h hK H locs ls hF hl
  obtain ⟨x, y, r, rfl, h⟩ := cx_ii_spec h
  obtain ⟨⟨⟨rfl, rfl⟩, h1, h2⟩, h3⟩ := h
  rw [cx_fo_eq] at h3
  exact cy_grid hG hx hb hKn hown hw ha hdg hF h1 h2 hR (fun H' hF' => hK _ _ _ _ _ _ h3 H' locs ls hF' hl)
theorem zNew_ok (hG : cy_okG G) (hx : p.tables.exec = Jvm.exec) (hb : c.code = cc) (hKn : cx_Kn cx_Tb G s) {own C : String} {T0 : u_T} {N0 ci z pc : Nat} (hown : s.vm.findClass own = some m.cls) (hci : (cx_cl G)[ci]? = some (C, T0, N0)) (hin : ∀ w ∈ u_ws C T0 N0, w ∈ cx_Tb) (ty0 : Nat → FieldType) (hty : ∀ k, k < N0 → parseFieldDescriptor (T0 k).2.2.1 = some (ty0 k))
    (hw : Jvm.Cond.classLink own z C ∈ cx_Tb ∧ Jvm.Cond.instantiable C N0 ∈ cx_Tb ∧ Jvm.Cond.initialized C ∈ cx_Tb) {d : List cx_V} (hd : ∀ j, j < N0 → defaultValue (ty0 j) = vp_V (d.map (cx_v G)) j) (hdg : decode cc pc = .ok (.new z, 3)) (hR : mc ≤ R.cells ∧ ms ≤ R.slots) :
    cz_ok p l e R s m args below meth c G nL (cy_F G mc ms) Q (pc, zNew (pc + 3) ci N0 d mc ms) := by
  intro lv st ws k n K h hK H locs ls hF hl
  obtain ⟨⟨h1, h2⟩, h3⟩ := h
  rw [cx_fo_eq] at h3
  exact cy_new hG hx hb hKn hown hci hin ty0 hty hw hd hdg hF h1 h2 hR (fun H' hF' => hK _ _ _ _ _ _ h3 H' locs ls hF' hl)
theorem zObj_ok {F : cx_F} (hx : p.tables.exec = Jvm.exec) (hb : c.code = cc) (hml : c.maxLocals = nL) (hKn : cx_Kn cx_Tb G s) {own : String} (hown : s.vm.findClass own = some m.cls) {z pc : Nat} (hw : Jvm.Cond.methodLink own z Lib.objectInit ∈ cx_Tb) (hdg : decode cc pc = .ok (.invokespecial z, 3)) (hR : 1 ≤ R.frames ∧ 20 ≤ R.locals) :
    cz_ok p l e R s m args below meth c G nL F Q (pc, zObj (pc + 3)) := by
  intro lv st ws k n K h hK H locs ls hF hl
  obtain ⟨j, r, rfl, h0, h⟩ := cx_p1_spec h
  have i1 : Jvm.Cond.instanceMethod Lib.objectInit ∈ cx_Tb := cx_in 43 (by decide +kernel) (by decide +kernel)
  have i2 : Jvm.Cond.code Lib.objectInit ⟨#[0xb1]⟩ 1 none ∈ cx_Tb := cx_in 44 (by decide +kernel) (by decide +kernel)
  refine W.objInit hx hb hown (hKn.1 _ hw args) (hKn.1 _ i1 args) (hKn.1 _ i2 args) rfl (by rw [hml]; exact hl.1) (a := cx_ad G j) (rest := r.map (cx_v G)) rfl hdg hR.1 ?_ (hK _ _ _ _ _ _ h H locs ls hF hl)
  have := hR.2
  show 2 * 0 + ((r.map (cx_v G)).map fun v => v.category).sum + 12 ≤ _
  rw [cx_cats_eq]
  omega
/-- a constructor's call -/
def cy_w (own host : String) (z : Nat) (y : MethodName) (cc' : ByteArray) (nL' : Nat) : Prop :=
  (Jvm.Cond.methodLink own z y ∈ cx_Tb ∨ Jvm.Cond.methodLinkNest own z y host ∈ cx_Tb) ∧ (Jvm.Cond.instanceMethod y ∈ cx_Tb ∧ Jvm.Cond.code y cc' nL' none ∈ cx_Tb) ∧ plainName y.cls = true ∧ (y.cls ≠ "java/lang/invoke/MethodHandle" ∧ y.cls ≠ "java/lang/invoke/VarHandle") ∧ y.name = "<init>" ∧ (parseMethodDescriptor y.desc).map (fun d => d.parameters.length) = some 0
theorem zCtor_ok (hx : p.tables.exec = Jvm.exec) (hb : c.code = cc) (hml : c.maxLocals = nL) (hKn : cy_Kn G s) {own host : String} (hown : s.vm.findClass own = some m.cls) {z pc : Nat} {y : MethodName} {cc' : ByteArray} {nL' : Nat} {rm : Room} {f : cy_S} (hM : cy_M l G y cc' nL' rm f) (hw : cy_w own host z y cc' nL') (hdg : decode cc pc = .ok (.invokespecial z, 3)) (hR : cx_Rm rm R nL' mc ms) :
    cz_ok p l e R s m args below meth c G nL (cy_F G mc ms) Q (pc, zCtor (pc + 3) f rm.cells rm.slots mc ms) := by
  intro lv st ws k n K h hK H locs ls hF hl
  obtain ⟨j, r, rfl, ⟨hk, hn, hcats⟩, hf⟩ := cx_p1_spec h
  obtain ⟨⟨hP, -, hL⟩, hz⟩ := hF
  obtain ⟨hlink, ⟨hin, hcode⟩, hpl, hnot, hnm, hpar⟩ := hw
  intro T hT X
  subst hT
  have hmag : e.platform.magicAccessors = ({} : Platform).magicAccessors := by rw [X.admits.platform]
  have hlen : ∀ sig, parseMethodDescriptor y.desc = some sig → ([] : List Value).length = sig.parameters.length := fun sig hs => by
    rw [hs] at hpar
    exact (Option.some.inj hpar).symm
  have key : ∃ mk vm₁, s.methodNamed? y = some mk ∧ s.WarmedH vm₁ ∧ ∀ target, (∀ acts, Steps p.tables e below (doInvoke e ((T.setVm vm₁).setTop { F0 m pc ls (.ref (cx_ad G j) :: r.map (cx_v G)) with stack := r.map (cx_v G) }) acts mk (.ref (cx_ad G j) :: ([] : List Value)).toArray).1 target) → Steps p.tables e below (T.setTop (F0 m pc ls (.ref (cx_ad G j) :: r.map (cx_v G)))) target := by
    rcases hlink with hlink | hlink
    · obtain ⟨mk, _, _, _, vm₁, hnamed, -, -, -, -, -, -, -, hW₁, hstep₁⟩ := Steps.initColdArgs (e := e) X.here hx X.warmed hmag hown hnm hnot (hKn.1.1 _ hlink args) (hKn.1.1 _ hin args) (hKn.1.1 _ hcode args) (f := F0 m pc ls (.ref (cx_ad G j) :: r.map (cx_v G))) rfl (a := cx_ad G j) (argsL := []) (rest := r.map (cx_v G)) hlen rfl (by rw [hb]; exact hdg)
      exact ⟨mk, vm₁, hnamed, hW₁, hstep₁⟩
    · obtain ⟨mk, _, _, _, vm₁, hnamed, -, -, -, -, -, -, -, hW₁, hstep₁⟩ := Steps.initColdArgsNest (e := e) X.here hx X.warmed hmag hown hnm hnot (hKn.1.1 _ hlink args) (hKn.1.1 _ hin args) (hKn.1.1 _ hcode args) (f := F0 m pc ls (.ref (cx_ad G j) :: r.map (cx_v G))) rfl (a := cx_ad G j) (argsL := []) (rest := r.map (cx_v G)) hlen rfl (by rw [hb]; exact hdg)
      exact ⟨mk, vm₁, hnamed, hW₁, hstep₁⟩
  obtain ⟨mk, vm₁, hnamed, hW₁, hstep₁⟩ := key
  have X₁ := X.noted hW₁
  obtain ⟨methk, ck, hm, hck, hcc, hml', hrt, hlk, hne, -⟩ := Cond.code_spec hnamed (hKn.1.1 _ hcode args)
  have hmk : (T.setVm vm₁).vm.method? mk = some methk := by rw [X₁.warmed.alike.method?]; exact hm
  have hpk : (T.setVm vm₁).plainMethod mk := X₁.warmed.plainAt (fun kk hkk => by
    obtain ⟨k0, hk0, hn0⟩ := className_of_methodNamed hnamed
    cases hkk.symm.trans hk0
    rw [hn0]
    exact hpl)
  have hWt : 2 * (F0 m pc ls (r.map (cx_v G))).monitorRoom + ((F0 m pc ls (r.map (cx_v G))).stack.map fun v => v.category).sum ≤ 8 := lv_room (by rw [cx_cats_eq]; exact hcats)
  obtain ⟨X', st⟩ := X₁.into (g := F0 m pc ls (r.map (cx_v G))) rfl (by rw [hml]; exact hl.1) (by rw [hb]; exact hdg) #[.ref (cx_ad G j)] (R' := rm) hmk hck hlk hpk hR.1 (by rw [hml']; have := hR.2.1; omega) (Nat.le_trans hk hR.2.2.1) (Nat.le_trans hn hR.2.2.2)
  have hfc : (T.setVm vm₁).vm.findClass y.cls = some mk.cls := by
    rw [X₁.warmed.alike.findClass]
    exact findClass_of_methodNamed hnamed
  have hKn' : cy_Kn G ((T.setVm vm₁).calling (F0 m pc ls (r.map (cx_v G))) mk #[.ref (cx_ad G j)]) := hKn.warm (show s.WarmedH (T.setVm vm₁).vm from X₁.warmed)
  have w := hM j ws _ hf p e ((T.setVm vm₁).calling (F0 m pc ls (r.map (cx_v G))) mk #[.ref (cx_ad G j)]) mk (.java (F0 m pc ls (r.map (cx_v G))) :: below) methk ck hx hcc hml' hrt ((name_of_methodNamed hnamed hm).1.trans hnm) hlk hne hfc hKn' hP hz
  rw [← hml'] at w
  obtain ⟨t, a1, a2⟩ := w (((T.setVm vm₁).setTop (F0 m pc ls (r.map (cx_v G)))).pushFrame (.java (entryFrame mk #[.ref (cx_ad G j)] ck.maxLocals))) rfl X'
  obtain ⟨ws', c1, c2, c3, c5, c5z, c6, L, c7, c8⟩ := a2
  obtain ⟨T', X2, hW', hS', ht⟩ := X₁.outOf (g := F0 m pc ls (r.map (cx_v G))) rfl (by rw [hb]; exact hdg) c2 c6 c7
  have hh : t.heap = T'.heap := by rw [ht]; rfl
  rw [hh] at c5 c5z
  obtain ⟨t₂, b1, b2⟩ := hK _ _ _ _ _ _ c3 T'.heap (locs ++ L) ls ⟨⟨c5, ⟨hk, hn⟩, fun q hq => (List.mem_append.mp hq).elim (hL q) (c8 q)⟩, c5z⟩ hl T' rfl X2
  refine ⟨t₂, (hstep₁ t (fun acts => ?_)).trans ?_, b2⟩
  · rw [show (.ref (cx_ad G j) :: ([] : List Value)).toArray = #[.ref (cx_ad G j)] from rfl]
    rw [st acts]
    exact Steps.weaken (mid := [.java (F0 m pc ls (r.map (cx_v G)))]) a1
  · rw [ht]
    exact b1
/-- a final field of a reference -/
theorem cy_putR (hx : p.tables.exec = Jvm.exec) (hb : c.code = cc) (hnm0 : meth.name = "<init>") (hKn : cx_Kn cx_Tb G s) {own C : String} (hown : s.vm.findClass own = some m.cls) {z ci b : Nat} {T0 : u_T} {N0 : Nat} (hci : (cx_cl G)[ci]? = some (C, T0, N0)) (hin : ∀ w ∈ u_ws C T0 N0, w ∈ cx_Tb) (ty0 : Nat → FieldType) (hty : ∀ k, k < N0 → parseFieldDescriptor (T0 k).2.2.1 = some (ty0 k)) (hnm : ∀ a, a < N0 → ∀ b, b < N0 → a ≠ b → (T0 a).2.1 ≠ (T0 b).2.1) (hk : b < N0)
    (hlink : Jvm.Cond.fieldLink own z own (T0 b).2.1 (T0 b).2.2.1 ∈ cx_Tb) (href : (T0 b).1 = own) (hfin : (T0 b).2.2.2 = true) (hfl : (∃ x, ty0 b = .object x) ∨ ∃ x, ty0 b = .array x) : cx_okput p l e R s m args below meth c cc G Q z ci b 2 := by
  intro pc H locs k n ls rest a fs v hd hat hl htk kk
  have hts : ∀ w ∈ cx_Tb, w.before args s = true := fun w hw => hKn.1 w hw args
  have hap := va_apart (own := own) hts hin ty0 hty hnm hKn.2.1 hci
  obtain ⟨r, h1, cell, q1, q2, q3, q4⟩ := hat
  have hr : r = (C, T0, N0) := Option.some.inj (h1.symm.trans hci)
  subst hr
  obtain ⟨hS, hfc, kC, hkC, hkind⟩ := hKn.2.1.1 ci _ hci
  obtain ⟨cf, kf, fi, fd, hi, hsl⟩ := hS b hk
  have hlay := hts _ (hin _ (u_in_lay hk))
  unfold u_lay at hlay
  rw [if_pos hfin] at hlay
  have hst := (u_facts hfc hkC (u_lays hts hin hk) hi).1
  have hcf : m.cls = cf := by
    obtain ⟨_, _, c', _, _, _, -, -, hf', -, -, -, hown2, -⟩ := Cond.laysFinal_spec hlay
    have e1 : c' = cf := by have := hi.symm.trans hf'; simp at this; exact this.1.symm
    rw [href] at hown2
    rw [← e1]; exact Option.some.inj (hown.symm.trans hown2)
  obtain ⟨w, rfl⟩ : ∃ w, v = .ref w := by
    rcases htk with ⟨e1, -⟩ | ⟨e1, -⟩ | ⟨-, w, e2⟩
    · exact absurd e1 (by decide)
    · exact absurd e1 (by decide)
    · exact ⟨w, e2⟩
  have hnf : narrow (ty0 b) (.ref w) = .ref w ∧ fits (ty0 b) (.ref w) = true := by
    rcases hfl with ⟨x, e1⟩ | ⟨x, e1⟩ <;> rw [e1] <;> exact ⟨rfl, rfl⟩
  have h6 := u_fits hfc hkC hkind (Or.inr hlay) hi (hty b hk) hnf.1 hnf.2
  rw [href] at hi
  refine W.putFinK hx hb hown (hts _ hlink) hi hst hcf hnm0 (by rw [q2]; exact h6) q1 q3 (by rw [hsl]; exact k2_hasslot (q4 b hk)) rfl rfl hd fun H' e1 e2 e3 => ?_
  have e1' := e1
  rw [hsl] at e1'
  exact kk H' _ ⟨_, hci, t_OB.to (V := updV (vp_V fs) b (.ref w)) ⟨_, e1', q2, q3, t_set q4 hap hk (.ref w)⟩ (fun j _ => vp_updV_set hl (.ref w) j)⟩ e2 e3
end CYZ
