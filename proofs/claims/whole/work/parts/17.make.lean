/-! From a pure theorem on the abstract machine to a method's contract. -/
/-- V is closed under the machine's steps -/
def cx_cl1 (T : List (Nat × cx_E)) (Sp : List (cx_S × Nat × Nat × Nat)) (Ex : List String) (Sw : List (Nat × List Nat)) (mc ms : Nat) (Rq : cx_R) (V : cx_K) : Prop :=
  ∀ (P : List Nat) (n pc : Nat) (lv : cx_L) (st : List cx_V) (ws : List cx_C) (k i : Nat), cx_ax T Sp Ex Sw mc ms P Rq V n pc lv st ws k i → V pc lv st ws k i
def cx_lv0 (as : List cx_V) (nL : Nat) : cx_L := cx_slots as ++ List.replicate (nL - (cx_slots as).length) none
theorem cx_lv0_get {as : List cx_V} {nL t : Nat} {u : cx_V} (h : (cx_lv0 as nL)[t]? = some (some u)) : (cx_slots as)[t]? = some (some u) := by
  unfold cx_lv0 at h
  by_cases hl : t < (cx_slots as).length
  · rw [List.getElem?_append_left hl] at h
    exact h
  · rw [List.getElem?_append_right (by omega)] at h
    rw [List.getElem?_replicate] at h
    split at h <;> cases h
theorem cx_sl_len (vs : List Value) : (lg_sl vs).length = (vs.map fun v => v.category).sum := by
  induction vs with
  | nil => rfl
  | cons v r ih =>
    have e : lg_sl (v :: r) = (if v.category = 2 then [.val v, .second] else [.val v]) ++ lg_sl r := by
      simp [lg_sl]
    rw [e, List.length_append, ih, List.map_cons, List.sum_cons]
    congr 1
    rcases lv_cat v with h | h <;> simp [h]
/-- the facts of a walk's start -/
abbrev cx_St (G : cx_G) (y : MethodName) (cc : ByteArray) (nL : Nat) (p : Program) (s : State) (m : MethodId) (meth : Method) (c : Code) : Prop :=
  p.tables.exec = Jvm.exec ∧ c.code = cc ∧ c.maxLocals = nL ∧ meth.locks = false ∧ c.exceptionTable.isEmpty = true ∧ s.vm.findClass y.cls = some m.cls ∧ cx_Kn cx_Tb G s
theorem cx_mk {l : Launch} {G : cx_G} (hG : cx_okG G) {y : MethodName} {cc : ByteArray} {nL : Nat} {rt : Option FieldType} {rm : Room} {f : cx_S} {F : List (Nat × Nat × Nat)} {FP : List (Nat × Nat × Nat × Int32)} {LC : List (Nat × Int64)} {CV CS : List (Nat × Nat)} {TH : List (Nat × Nat)} {T : List (Nat × cx_E)} {Sp : List (cx_S × Nat × Nat × Nat)} {Ex : List String} {Sw : List (Nat × List Nat)}
    (hT : T.all (cx_dec true cc rt nL F FP LC CV CS TH Sw) = true)
    (okF : ∀ {p e s m args below meth c Q}, cx_St G y cc nL p s m meth c → ∀ q ∈ F, cx_okget p l e rm s m args below meth c cc G Q q.1 q.2.1 q.2.2)
    (okP : ∀ {p e s m args below meth c Q}, cx_St G y cc nL p s m meth c → ∀ q ∈ FP, cx_okput p l e rm s m args below meth c cc G Q q.1 q.2.1 q.2.2.1 q.2.2.2)
    (okL : ∀ {s args}, cx_Kn cx_Tb G s → ∀ q ∈ LC, (Jvm.Cond.constantLong y.cls q.1 q.2).before args s = true)
    (okV : ∀ {p e s m args below meth c Rq}, cx_St G y cc nL p s m meth c → ∀ q ∈ CV, ∀ f na kc ks, Sp[q.2]? = some (f, na, kc, ks) → cx_okcall p l e rm s m args below meth c cc G nL rm.cells rm.slots (cx_F1 G rm.cells rm.slots) (cx_Q below G s rm.cells rm.slots Rq) Rq (.invokevirtual q.1) f na kc ks)
    (okS : ∀ {p e s m args below meth c Rq}, cx_St G y cc nL p s m meth c → ∀ q ∈ CS, ∀ f na kc ks, Sp[q.2]? = some (f, na, kc, ks) → cx_okcall p l e rm s m args below meth c cc G nL rm.cells rm.slots (cx_F1 G rm.cells rm.slots) (cx_Q below G s rm.cells rm.slots Rq) Rq (.invokestatic q.1) f na kc ks)
    (hTH : TH = [])
    (pure : ∀ as ws Rq, f as ws Rq → cx_cats as ≤ nL ∧ ∀ V, cx_cl1 T Sp Ex Sw rm.cells rm.slots Rq V → V 0 (cx_lv0 as nL) [] ws 0 0) : cx_M cx_Tb l G y cc nL rt rm f := by
  intro as ws Rq hf p e s m below meth c hx hb hml hr hlocks hne hown hKn hP
  obtain ⟨hc, hpure⟩ := pure as ws Rq hf
  have S : cx_St G y cc nL p s m meth c := ⟨hx, hb, hml, hlocks, hne, hown, hKn⟩
  subst hTH
  refine cx_enter (lv := cx_lv0 as nL) (F := cx_F1 G rm.cells rm.slots) (by rw [cx_sl_len, cx_cats_eq]; exact hc) (fun t u h => cx_lv0_get h) ⟨hP, ⟨Nat.zero_le _, Nat.zero_le _⟩, fun q hq => by cases hq⟩ ?_
  refine hpure (cx_AW p l e rm s m (as.map (cx_v G)).toArray below meth c G nL (cx_F1 G rm.cells rm.slots) (cx_Q below G s rm.cells rm.slots Rq)) (fun P n pc lv st ws k i h => ?_)
  exact cx_sound (free := fun q => (cx_H0 G).size ≤ q) (wr := true) hx hb hG hKn hlocks hr hown (fun ws k n H locs h => h) (fun ws k n H locs h => h.2.2) (fun ws k n H locs u t h1 h2 h3 => cx_ret1 h1 h2 h3)
    (fun _ ws ws' k n H H' locs a i h1 h2 h3 _ _ => ⟨h2, h1.2.1, cx_locs h1.2.2 h3⟩) (okF S) (okP S) (okL hKn) (okV S) (okS S) (fun q hq => by cases hq) hT (fun pc lv st ws k i h => h) n h
/-- the same of a method that writes nothing (and may throw) -/
theorem cx_mk2 {l : Launch} {G : cx_G} (hG : cx_okG G) {y : MethodName} {cc : ByteArray} {nL : Nat} {rt : Option FieldType} {rm : Room} {f : cx_S} {F : List (Nat × Nat × Nat)} {FP : List (Nat × Nat × Nat × Int32)} {LC : List (Nat × Int64)} {CV CS : List (Nat × Nat)} {TH : List (Nat × Nat)} {T : List (Nat × cx_E)} {Sp : List (cx_S × Nat × Nat × Nat)} {Ex : List String} {Sw : List (Nat × List Nat)}
    (hT : T.all (cx_dec false cc rt nL F FP LC CV CS TH Sw) = true)
    (okF : ∀ {p e s m args below meth c Q}, cx_St G y cc nL p s m meth c → ∀ q ∈ F, cx_okget p l e rm s m args below meth c cc G Q q.1 q.2.1 q.2.2)
    (okP : ∀ {p e s m args below meth c Q}, cx_St G y cc nL p s m meth c → ∀ q ∈ FP, cx_okput p l e rm s m args below meth c cc G Q q.1 q.2.1 q.2.2.1 q.2.2.2)
    (okL : ∀ {s args}, cx_Kn cx_Tb G s → ∀ q ∈ LC, (Jvm.Cond.constantLong y.cls q.1 q.2).before args s = true)
    (okV : ∀ {p e s m args below meth c Rq}, cx_St G y cc nL p s m meth c → ∀ q ∈ CV, ∀ f na kc ks, Sp[q.2]? = some (f, na, kc, ks) → cx_okcall p l e rm s m args below meth c cc G nL rm.cells rm.slots (cx_F2 G rm.cells rm.slots s) (cx_Q2 below G s rm.cells rm.slots Rq) Rq (.invokevirtual q.1) f na kc ks)
    (okS : ∀ {p e s m args below meth c Rq}, cx_St G y cc nL p s m meth c → ∀ q ∈ CS, ∀ f na kc ks, Sp[q.2]? = some (f, na, kc, ks) → cx_okcall p l e rm s m args below meth c cc G nL rm.cells rm.slots (cx_F2 G rm.cells rm.slots s) (cx_Q2 below G s rm.cells rm.slots Rq) Rq (.invokestatic q.1) f na kc ks)
    (okT : ∀ {p e s m args below meth c Rq}, cx_St G y cc nL p s m meth c → ∀ q ∈ TH, ∀ x, Ex[q.2]? = some x → cx_okthr p l e rm s m args below meth c G nL rm.cells rm.slots (cx_F2 G rm.cells rm.slots s) (cx_Q2 below G s rm.cells rm.slots Rq) Rq q.1 x)
    (pure : ∀ as ws Rq, f as ws Rq → cx_cats as ≤ nL ∧ ∀ V, cx_cl1 T Sp Ex Sw rm.cells rm.slots Rq V → V 0 (cx_lv0 as nL) [] ws 0 0) : cx_M2 cx_Tb l G y cc nL rt rm f := by
  intro as ws Rq hf p e s m below meth c hx hb hml hr hlocks hne hown hKn hP
  obtain ⟨hc, hpure⟩ := pure as ws Rq hf
  have S : cx_St G y cc nL p s m meth c := ⟨hx, hb, hml, hlocks, hne, hown, hKn⟩
  refine cx_enter (lv := cx_lv0 as nL) (F := cx_F2 G rm.cells rm.slots s) (by rw [cx_sl_len, cx_cats_eq]; exact hc) (fun t u h => cx_lv0_get h) ⟨hP, ⟨Nat.zero_le _, Nat.zero_le _⟩, rfl, rfl⟩ ?_
  refine hpure (cx_AW p l e rm s m (as.map (cx_v G)).toArray below meth c G nL (cx_F2 G rm.cells rm.slots s) (cx_Q2 below G s rm.cells rm.slots Rq)) (fun P n pc lv st ws k i h => ?_)
  exact cx_sound (free := fun _ => False) (wr := false) hx hb hG hKn hlocks hr hown (fun ws k n H locs h => ⟨h.1, h.2.1, fun q hq => by rw [h.2.2.2] at hq; cases hq⟩) (fun ws k n H locs h q hq => by rw [h.2.2.2] at hq; cases hq) (fun ws k n H locs u t h1 h2 h3 => cx_ret2 h1 h2 h3)
    (fun h => by cases h) (okF S) (okP S) (okL hKn) (okV S) (okS S) (okT S) hT (fun pc lv st ws k i h => h) n h
/-! The world: the class's cells, then the rest. -/
abbrev wX : Type := Int32 × (Nat → Int32)
abbrev wN : Type := (Nat → Int32) × (Nat → Int32) × (Nat → Int32) × (Nat → Int32) × (Nat → Int32) × (Nat → Int32) × (Nat → Nat → Int64) × (Nat → Nat → Int64) × Int32 × Int32 × Int32 × Int32
abbrev wL : Type := (Nat → Int32) × (Nat → Int32) × (Nat → Nat → Int64) × Int32
abbrev wM : Type := (Nat → Int32) × (Nat → Int32) × (Nat → Int32) × (Nat → Int32) × (Nat → Int32) × (Nat → Int32) × (Nat → Int32) × (Nat → Int32) × (Nat → Int32) × Int32 × Int32
def cx_r (k : Nat) : cx_V := .inr (.inr (.inl k))
def wd (x : wX) (n : wN) (l : wL) (m : wM) (r : List cx_C) : List cx_C :=
  .inl (3, [.inr (.inr (.inl 1)), .inr (.inr (.inl 10)), .inr (.inr (.inl 24)), .inl x.1]) ::
  .inl (2, [.inr (.inr (.inl 2)), .inr (.inr (.inl 3)), .inr (.inr (.inl 4)), .inr (.inr (.inl 5)), .inr (.inr (.inl 6)), .inr (.inr (.inl 7)), .inr (.inr (.inl 8)), .inr (.inr (.inl 9)), .inl n.2.2.2.2.2.2.2.2.1, .inl n.2.2.2.2.2.2.2.2.2.1, .inl n.2.2.2.2.2.2.2.2.2.2.1, .inl n.2.2.2.2.2.2.2.2.2.2.2]) ::
  .inr (.inl (120, n.1)) :: .inr (.inl (120, n.2.1)) :: .inr (.inl (120, n.2.2.1)) :: .inr (.inl (500, n.2.2.2.1)) :: .inr (.inr (.inl (500, n.2.2.2.2.1))) :: .inr (.inl (500, n.2.2.2.2.2.1)) ::
  .inr (.inr (.inr (.inr (120, 4, n.2.2.2.2.2.2.1)))) :: .inr (.inr (.inr (.inr (120, 4, n.2.2.2.2.2.2.2.1)))) ::
  .inl (0, [.inr (.inr (.inl 11)), .inr (.inr (.inl 21)), .inr (.inr (.inl 22)), .inr (.inr (.inl 23)), .inl l.2.2.2]) ::
  .inl (1, [.inr (.inr (.inl 12)), .inr (.inr (.inl 13)), .inr (.inr (.inl 14)), .inr (.inr (.inl 15)), .inr (.inr (.inl 16)), .inr (.inr (.inl 17)), .inr (.inr (.inl 18)), .inr (.inr (.inl 19)), .inr (.inr (.inl 20)), .inl m.2.2.2.2.2.2.2.2.2.1, .inl m.2.2.2.2.2.2.2.2.2.2]) ::
  .inr (.inl (876, m.1)) :: .inr (.inl (876, m.2.1)) :: .inr (.inl (876, m.2.2.1)) :: .inr (.inl (876, m.2.2.2.1)) :: .inr (.inl (876, m.2.2.2.2.1)) :: .inr (.inl (876, m.2.2.2.2.2.1)) :: .inr (.inr (.inl (876, m.2.2.2.2.2.2.1))) :: .inr (.inl (256, m.2.2.2.2.2.2.2.1)) :: .inr (.inl (8, m.2.2.2.2.2.2.2.2.1)) ::
  .inr (.inl (10, l.1)) :: .inr (.inl (10, l.2.1)) :: .inr (.inr (.inr (.inr (10, 4, l.2.2.1)))) ::
  .inr (.inl (10, x.2)) :: r
theorem cx_self_spec {ci : Nat} {f : Nat → List cx_V → List cx_C → cx_R → Prop} {as : List cx_V} {ws : List cx_C} {R : cx_R} (h : cx_self ci f as ws R) : ∃ j r fs, as = .inr (.inr (.inl j)) :: r ∧ ws[j]? = some (.inl (ci, fs)) ∧ f j r ws R := by
  obtain ⟨j, r, e, h1⟩ := cx_p1_spec h
  obtain ⟨fs, hj, h2⟩ := cx_obj_spec h1
  exact ⟨j, r, fs, e, hj, h2⟩
