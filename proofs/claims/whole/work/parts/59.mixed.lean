/-! Methods that may throw first and write then. -/
section CXM
variable {p : Program} {l : Launch} {e : Env} {R : Room} {s : State} {m : MethodId} {args : Array Value} {below : List Frame} {meth : Method} {c : Code} {G : cx_G} {nL mc ms : Nat} {cc : ByteArray} {Tb : List Cond} {Rq : cx_R}
theorem cx_behind3 (hlocks : meth.locks = false) (hne : c.exceptionTable.isEmpty = true) {T : State} {k n : Nat} {rm : Room} {Rf : cx_R} {s₀ : State}
    (X : Stand p l e R s m args below meth c T [] k n) {pc : Nat} {ls : Array Slot} {rest : List cx_V} {ig : Instr} (hdg : decode c.code pc = .ok (ig, 3)) {mk : MethodId} {a : Array Value} {t : State}
    (hst : Steps p.tables e below s₀ t) (hQ : cx_Q2 (.java (F0 m pc ls (rest.map (cx_v G))) :: below) G (T.calling (F0 m pc ls (rest.map (cx_v G))) mk a) rm.cells rm.slots Rf t) (hk : k + rm.cells ≤ mc) (hn : n + rm.slots ≤ ms) (hH : T.heap = s.heap)
    (hthr : ∀ (x : String) (ws' : List cx_C), Rf (.inr x) ws' → Rq (.inr x) ws')
    (hret : ∀ (u : Option cx_V) (ws' : List cx_C) (H' : Heap) (locs' : List Loc), Rf (.inl u) ws' → cx_F2 G mc ms s ws' (k + rm.cells) (n + rm.slots) H' locs' → W p l e R s m args below meth c H' locs' (k + rm.cells) (n + rm.slots) (cx_Q below G s mc ms Rq) (F0 m (pc + 3) ls (u.toList.map (cx_v G) ++ rest.map (cx_v G)))) :
    ∃ t₂, Steps p.tables e below s₀ t₂ ∧ cx_Q below G s mc ms Rq t₂ := by
  obtain ⟨o, q, ws', c1, c2, c3, c4, c5, c6, L, c7, c8, c9⟩ := hQ
  cases q with
  | inl u =>
    have ho : o = .returned (u.map (cx_v G)) := by
      cases u with
      | none => exact c4
      | some u => exact c4
    subst ho
    obtain ⟨d1, rfl⟩ := c9 u rfl
    obtain ⟨T', X', hW', hS', ht⟩ := X.outOf (g := F0 m pc ls (rest.map (cx_v G))) rfl hdg c2 c6 c7
    have hh : t.heap = T'.heap := by rw [ht]; rfl
    rw [hh] at c5
    have hT' : T'.heap = s.heap := by rw [← hh, d1]; exact hH
    obtain ⟨t₂, a1, b1⟩ := hret u ws' T'.heap [] c3 ⟨c5, ⟨hk, hn⟩, hT', rfl⟩ T' rfl X'
    refine ⟨t₂, hst.trans ?_, b1⟩
    rw [ht]
    have e1 : (u.map (cx_v G)).toList ++ rest.map (cx_v G) = u.toList.map (cx_v G) ++ rest.map (cx_v G) := by cases u <;> rfl
    show Steps p.tables e below (T'.setTop { F0 m pc ls (rest.map (cx_v G)) with pc := pc + 3, stack := (u.map (cx_v G)).toList ++ rest.map (cx_v G) }) t₂
    rw [e1]
    exact a1
  | inr x =>
    obtain ⟨ad, cell, rfl, d2, d3, d4⟩ := c4
    obtain ⟨T', X', hW', hS', ht⟩ := X.outOfThrown (g := F0 m pc ls (rest.map (cx_v G))) rfl c2 c6 c7
    have hh : t.heap = T'.heap := by rw [ht]; rfl
    obtain ⟨e1, e2, e3, e4, e5⟩ := (stand_widen X' hk hn).leaveThrown ad (g := F0 m pc ls (rest.map (cx_v G))) rfl rfl rfl (cx_noH hne pc) hlocks
    rw [← ht] at e1
    refine ⟨_, hst.trans e1, .threw ad, .inr x, ws', e2, e3, hthr x ws' c3, ⟨ad, cell, rfl, ?_, ?_, d4⟩, ?_, e4, [] ++ L, e5, c8⟩
    · show T'.heap[ad]? = some cell
      rw [← hh]
      exact d2
    · have d3' : T.vm.findClass x = some cell.cls := d3
      rw [X.warmed.alike.findClass] at d3'
      exact d3'
    · show cx_P G ws' T'.heap
      rw [← hh]
      exact c5
theorem cx_callV3 (hTb : Tb.all cx_stB = true) (hx : p.tables.exec = Jvm.exec) (hb : c.code = cc) (hml : c.maxLocals = nL) (hKn : cx_Kn Tb G s) (hlocks : meth.locks = false) (hne : c.exceptionTable.isEmpty = true) {own C host : String} (hown : s.vm.findClass own = some m.cls) {z ci np : Nat} {T0 : u_T} {N0 : Nat} (hci : (cx_cl G)[ci]? = some (C, T0, N0)) {y : MethodName} {cc' : ByteArray} {nL' : Nat} {rt' : Option FieldType} {rm : Room} {f : Nat → List cx_V → List cx_C → cx_R → Prop} (hM : cx_M2 Tb l G y cc' nL' rt' rm (cx_self ci f))
    (hw : cx_wV Tb own C host z np y cc' nL' rt') (hR : cx_Rm rm R nL' mc ms) : cx_okcall p l e R s m args below meth c cc G nL mc ms (cx_F2 G mc ms s) (cx_Q below G s mc ms Rq) Rq (.invokevirtual z) (cx_self ci f) (np + 1) rm.cells rm.slots := by
  intro pc H locs k n ls as rest ws Rf hdg hna hcats hk hn hF hls hf hthr hret T hT X
  subst hT
  obtain ⟨hF1, hF2, hF3, rfl⟩ := hF
  obtain ⟨vm₁, mk, t, X₁, st, hQ⟩ := cx_resV hTb hx hb hml hKn hown hci hM hw.1 hw.2.1 hw.2.2 ⟨hR.1, hR.2.1⟩ hdg hna hcats (Nat.le_trans hk hR.2.2.1) (Nat.le_trans hn hR.2.2.2) hls hf X hF1
  exact cx_behind3 hlocks hne X₁ (by rw [hb]; exact hdg) st hQ hk hn hF3 hthr hret
theorem cx_callS3 (hTb : Tb.all cx_stB = true) (hx : p.tables.exec = Jvm.exec) (hb : c.code = cc) (hml : c.maxLocals = nL) (hKn : cx_Kn Tb G s) (hlocks : meth.locks = false) (hne : c.exceptionTable.isEmpty = true) {own host : String} (hown : s.vm.findClass own = some m.cls) {z np : Nat} {y : MethodName} {cc' : ByteArray} {nL' : Nat} {rt' : Option FieldType} {rm : Room} {f : cx_S} (hM : cx_M2 Tb l G y cc' nL' rt' rm f)
    (hw : cx_wS Tb own host z np y cc' nL' rt') (hR : cx_Rm rm R nL' mc ms) : cx_okcall p l e R s m args below meth c cc G nL mc ms (cx_F2 G mc ms s) (cx_Q below G s mc ms Rq) Rq (.invokestatic z) f np rm.cells rm.slots := by
  intro pc H locs k n ls as rest ws Rf hdg hna hcats hk hn hF hls hf hthr hret T hT X
  subst hT
  obtain ⟨hF1, hF2, hF3, rfl⟩ := hF
  obtain ⟨vm₁, mk, t, X₁, st, hQ⟩ := cx_resS hTb hx hb hml hKn hown hM hw.1 hw.2.1 hw.2.2 ⟨hR.1, hR.2.1⟩ hdg hna hcats (Nat.le_trans hk hR.2.2.1) (Nat.le_trans hn hR.2.2.2) hls hf X hF1
  exact cx_behind3 hlocks hne X₁ (by rw [hb]; exact hdg) st hQ hk hn hF3 hthr hret
end CXM
theorem cx_mk3 {l : Launch} {G : cx_G} (hG : cx_okG G) {y : MethodName} {cc : ByteArray} {nL : Nat} {rt : Option FieldType} {rm : Room} {f : cx_S} {F : List (Nat × Nat × Nat)} {FP : List (Nat × Nat × Nat × Int32)} {LC : List (Nat × Int64)} {CV2 CS2 CV1 CS1 : List (Nat × Nat)} {TH : List (Nat × Nat)} {T2 T1 : List (Nat × cx_E)} {Sp : List (cx_S × Nat × Nat × Nat)} {Ex : List String} {Sw : List (Nat × List Nat)}
    (hT2 : T2.all (cx_dec false cc rt nL F FP LC CV2 CS2 TH Sw) = true) (hT1 : T1.all (cx_dec true cc rt nL F FP LC CV1 CS1 [] Sw) = true)
    (okF : ∀ {p e s m args below meth c Q}, cx_St G y cc nL p s m meth c → ∀ q ∈ F, cx_okget p l e rm s m args below meth c cc G Q q.1 q.2.1 q.2.2)
    (okP : ∀ {p e s m args below meth c Q}, cx_St G y cc nL p s m meth c → ∀ q ∈ FP, cx_okput p l e rm s m args below meth c cc G Q q.1 q.2.1 q.2.2.1 q.2.2.2)
    (okL : ∀ {s args}, cx_Kn cx_Tb G s → ∀ q ∈ LC, (Jvm.Cond.constantLong y.cls q.1 q.2).before args s = true)
    (okV2 : ∀ {p e s m args below meth c Rq}, cx_St G y cc nL p s m meth c → ∀ q ∈ CV2, ∀ f na kc ks, Sp[q.2]? = some (f, na, kc, ks) → cx_okcall p l e rm s m args below meth c cc G nL rm.cells rm.slots (cx_F2 G rm.cells rm.slots s) (cx_Q below G s rm.cells rm.slots Rq) Rq (.invokevirtual q.1) f na kc ks)
    (okS2 : ∀ {p e s m args below meth c Rq}, cx_St G y cc nL p s m meth c → ∀ q ∈ CS2, ∀ f na kc ks, Sp[q.2]? = some (f, na, kc, ks) → cx_okcall p l e rm s m args below meth c cc G nL rm.cells rm.slots (cx_F2 G rm.cells rm.slots s) (cx_Q below G s rm.cells rm.slots Rq) Rq (.invokestatic q.1) f na kc ks)
    (okT : ∀ {p e s m args below meth c Rq}, cx_St G y cc nL p s m meth c → ∀ q ∈ TH, ∀ x, Ex[q.2]? = some x → cx_okthr p l e rm s m args below meth c G nL rm.cells rm.slots (cx_F2 G rm.cells rm.slots s) (cx_Q2 below G s rm.cells rm.slots Rq) Rq q.1 x)
    (okV1 : ∀ {p e s m args below meth c Rq}, cx_St G y cc nL p s m meth c → ∀ q ∈ CV1, ∀ f na kc ks, Sp[q.2]? = some (f, na, kc, ks) → cx_okcall p l e rm s m args below meth c cc G nL rm.cells rm.slots (cx_F1 G rm.cells rm.slots) (cx_Q below G s rm.cells rm.slots Rq) Rq (.invokevirtual q.1) f na kc ks)
    (okS1 : ∀ {p e s m args below meth c Rq}, cx_St G y cc nL p s m meth c → ∀ q ∈ CS1, ∀ f na kc ks, Sp[q.2]? = some (f, na, kc, ks) → cx_okcall p l e rm s m args below meth c cc G nL rm.cells rm.slots (cx_F1 G rm.cells rm.slots) (cx_Q below G s rm.cells rm.slots Rq) Rq (.invokestatic q.1) f na kc ks)
    (pure : ∀ as ws Rq, f as ws Rq → cx_cats as ≤ nL ∧ ∀ V2 V1, cx_cl2 T2 T1 Sp Sp Ex Sw rm.cells rm.slots Rq V2 V1 → V2 0 (cx_lv0 as nL) [] ws 0 0) : cx_M cx_Tb l G y cc nL rt rm f := by
  intro as ws Rq hf p e s m below meth c hx hb hml hr hlocks hne hown hKn hP
  obtain ⟨hc, hpure⟩ := pure as ws Rq hf
  have S : cx_St G y cc nL p s m meth c := ⟨hx, hb, hml, hlocks, hne, hown, hKn⟩
  refine cx_enter (lv := cx_lv0 as nL) (F := cx_F2 G rm.cells rm.slots s) (by rw [cx_sl_len, cx_cats_eq]; exact hc) (fun t u h => cx_lv0_get h) ⟨hP, ⟨Nat.zero_le _, Nat.zero_le _⟩, rfl, rfl⟩ ?_
  refine hpure (cx_AW p l e rm s m (as.map (cx_v G)).toArray below meth c G nL (cx_F2 G rm.cells rm.slots s) (cx_Q below G s rm.cells rm.slots Rq)) (cx_AW p l e rm s m (as.map (cx_v G)).toArray below meth c G nL (cx_F1 G rm.cells rm.slots) (cx_Q below G s rm.cells rm.slots Rq)) ⟨fun P n pc lv st ws k i h => ?_, fun P n pc lv st ws k i h => ?_, fun pc lv st ws k i h => ?_⟩
  · exact cx_sound (free := fun _ => False) (wr := false) hx hb hG hKn hlocks hr hown (fun ws k n H locs h => ⟨h.1, h.2.1, fun q hq => by rw [h.2.2.2] at hq; cases hq⟩) (fun ws k n H locs h q hq => by rw [h.2.2.2] at hq; cases hq) (fun ws k n H locs u t h1 h2 h3 => (cx_ret2 h1 h2 h3).weak)
      (fun h => by cases h) (okF S) (okP S) (okL hKn) (okV2 S) (okS2 S) (fun q hq x hx2 H locs ls ws hmc hms hF hls hRq => cx_mono (fun t ht => ht.weak) (okT S q hq x hx2 H locs ls ws hmc hms hF hls hRq)) hT2 (fun pc lv st ws k i h => h) n h
  · exact cx_sound (free := fun q => (cx_H0 G).size ≤ q) (wr := true) hx hb hG hKn hlocks hr hown (fun ws k n H locs h => h) (fun ws k n H locs h => h.2.2) (fun ws k n H locs u t h1 h2 h3 => cx_ret1 h1 h2 h3)
      (fun _ ws ws' k n H H' locs a i h1 h2 h3 _ _ => ⟨h2, h1.2.1, cx_locs h1.2.2 h3⟩) (okF S) (okP S) (okL hKn) (okV1 S) (okS1 S) (fun q hq => by cases hq) hT1 (fun pc lv st ws k i h => h) n h
  · intro H locs ls hF
    exact h H locs ls ⟨hF.1, hF.2.1, fun q hq => by rw [hF.2.2.2] at hq; cases hq⟩
