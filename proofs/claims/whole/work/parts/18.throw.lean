/-! A throw of one's own: new X; dup; ldc; invokespecial; athrow. -/
theorem cx_isRef {C n d : String} {A : Nat → Prop} {s : State} {H0 : Heap} {args : Array Value} (h : va_Zq C n d A s H0) (hA : ∀ q, ¬ A q → q < H0.size → s.heap[q]? = H0[q]?) : (Cond.isRef (.static C n d)).before args s = true := by
  have key : ∀ v, va_Z C n d v A s H0 → (Term.static C n d).eval args s none [] s = some v := by
    intro v hv
    obtain ⟨cf, kf, fi, f, a, cell, h1, h2, h3, h4, h5, h6, h7, h8⟩ := hv
    have h9 : s.heap[a]? = some cell := by
      rw [hA a h8 (Array.getElem?_eq_some_iff.mp h5).1]
      exact h5
    simp [Term.eval, State.fieldNamed?, h1, h2, h4, h9, h6, h7]
  rcases h with h | ⟨t, h⟩
  · simp [Cond.before, Cond.holds, Cond.value, key _ h]
  · simp [Cond.before, Cond.holds, Cond.value, key _ h]
theorem cx_old {s U : State} {k n : Nat} (h : s.sameButNew ({ U with vm := s.vm } : State) [] k n) {q : Nat} (hq : q < s.heap.size) : U.heap[q]? = s.heap[q]? := by
  obtain ⟨c, hc⟩ : ∃ c, s.heap[q]? = some c := ⟨_, Array.getElem?_eq_getElem hq⟩
  obtain ⟨c', h1, h2, h3, h4⟩ := h.2.2.2.2.2 q c hc
  have e : c'.slots = c.slots := by
    apply Array.ext_getElem?
    intro i
    exact h4 i (fun x => by cases x)
  have h1' : U.heap[q]? = some c' := h1
  rw [h1', hc, h2, e]
section CXH
variable {p : Program} {l : Launch} {e : Env} {R : Room} {s : State} {m : MethodId} {args : Array Value} {below : List Frame} {meth : Method} {c : Code} {G : cx_G} {nL mc ms : Nat} {cc : ByteArray} {Tb : List Cond} {Rq : cx_R}
theorem cx_throw (hl : ∀ e : Env, l.admits e → e.platform.stackTraces = false) (hx : p.tables.exec = Jvm.exec) (hb : c.code = cc) (hml : c.maxLocals = nL) (hKn : cx_Kn Tb G s) (hlocks : meth.locks = false) (hne : c.exceptionTable.isEmpty = true) {own X tx : String} (hown : s.vm.findClass own = some m.cls) {z ix ic pc : Nat} {names : List String}
    (hd : decode cc pc = .ok (.new z, 3) ∧ decode cc (pc + 3) = .ok (.dup, 1) ∧ decode cc (pc + 4) = .ok (.ldc ix, 2) ∧ decode cc (pc + 6) = .ok (.invokespecial ic, 3) ∧ decode cc (pc + 9) = .ok (.athrow, 1))
    (hw : Jvm.Cond.classLink own z X ∈ Tb ∧ Jvm.Cond.instantiable X 6 ∈ Tb ∧ Jvm.Cond.initialized X ∈ Tb ∧ Jvm.Cond.stringRef own ix tx ∈ Tb)
    (hat : ∀ a ∈ Jvm.Bundle.ownAtoms own ic X names, a ∈ Tb ∨ a = .isRef (.static "java/lang/Throwable" "UNASSIGNED_STACK" "[Ljava/lang/StackTraceElement;") ∨ a = .isRef (.static "java/lang/Throwable" "SUPPRESSED_SENTINEL" "Ljava/util/List;") ∨ a = .laysStatic "java/lang/Throwable" "UNASSIGNED_STACK" "[Ljava/lang/StackTraceElement;" ∨ a = .laysStatic "java/lang/Throwable" "SUPPRESSED_SENTINEL" "Ljava/util/List;")
    (hX : Jvm.Bundle.fit X = true) (hn : ∀ n ∈ names, Jvm.Bundle.fit n = true) (hR : names.length + 3 < R.frames ∧ 1 + (13 * (names.length + 1) + 42) ≤ R.locals ∧ 1 ≤ R.cells ∧ 6 ≤ R.slots) :
    cx_okthr p l e R s m args below meth c G nL mc ms (cx_F2 G mc ms s) (cx_Q2 below G s mc ms Rq) Rq pc X := by
  intro H locs ls ws hmc hms hF hls hRq
  obtain ⟨hP, -, rfl, rfl⟩ := hF
  obtain ⟨d0, d3, d4, d6, d9⟩ := hd
  obtain ⟨w1, w2, w3, w4⟩ := hw
  obtain ⟨cX, kX0, hfc, -⟩ := Cond.instantiable_spec (hKn.1 _ w2 args)
  refine W.newcK hx hb hown (hKn.1 _ w1 args) (hKn.1 _ w2 args) (hKn.1 _ w3 args) rfl d0 (by omega) (by omega) hfc rfl fun H' kX hkX e1 z1 o1 => ?_
  refine lv_dup (pc := pc + 3) (ls := ls) (rest := []) hx hb d3 rfl ?_
  intro T hT X1
  obtain ⟨kS, cfS, iS, aS, -, -, -, -, -, hev⟩ := Cond.stringRef_spec hown (hKn.1 _ w4 args)
  have hats : ∀ a ∈ Jvm.Bundle.ownAtoms own ic X names, a.before args s = true := by
    intro a ha
    have hA : ∀ q : Nat, ¬ (cx_H0 G).size ≤ q → q < (cx_H0 G).size → s.heap[q]? = (cx_H0 G)[q]? := fun q _ hq => hP.2.2.1 q hq
    rcases hat a ha with h | rfl | rfl | rfl | rfl
    · exact hKn.1 _ h args
    · exact cx_isRef hKn.2.2.2.2.2.2.1 hA
    · exact cx_isRef hKn.2.2.2.2.2.2.2.1 hA
    · exact hKn.2.2.2.2.2.2.2.2.1.use hP.2.2.1
    · exact hKn.2.2.2.2.2.2.2.2.2.use hP.2.2.1
  obtain ⟨U, st, u1, u2, u3, u4, ce, u5, u6⟩ := X1.ctorThrowS hx (hl e X1.admits) (own := own) (cls := X) (names := names) (ic := ic) hown hX hn hats (fun x hx => by cases hx) (a := s.heap.size) hfc hkX (by rw [hT]; exact e1) (Nat.le_refl _) (msg := .ref aS) rfl (g := F0 m (pc + 6) ls [.ref aS, .ref s.heap.size, .ref s.heap.size]) rfl (by rw [hml]; exact hls) rfl rfl (rest := []) rfl (by rw [hb]; exact d6) (by rw [hb]; exact d9) (cx_noH hne _) hR.1 (by
      show 2 * 0 + 1 + _ ≤ _
      have := hR.2.1
      omega) hlocks
  refine ⟨U, X1.ldcString hx hown (hKn.1 _ w4 args) hev (g := F0 m (pc + 4) ls [.ref s.heap.size, .ref s.heap.size]) rfl (by rw [hb]; exact d4) U st, ?_⟩
  have hsz : U.heap.size ≤ s.heap.size + 1 := u4.2.2.1
  refine ⟨.threw s.heap.size, .inr X, ws, u1, u2, hRq, ⟨s.heap.size, ce, rfl, u5, u6.cls, u6.vm⟩, ⟨fun j c hc => ?_, ?_, fun q hq => ?_, fun q cell hq hc => ?_⟩, u3, [], u4.mono hmc hms, (fun q hq => by cases hq), (fun u hu => by cases hu)⟩
  · obtain ⟨q1, q2⟩ := hP.1 j c hc
    have hlt : ∀ q : Nat, (∃ x, s.heap[q]? = some x) → U.heap[q]? = s.heap[q]? := fun q ⟨x, hx⟩ => cx_old u4 (Array.getElem?_eq_some_iff.mp hx).1
    refine ⟨q1, ?_⟩
    rcases c with o | a | a | a | a
    · obtain ⟨r, r1, cell, r2, r3⟩ := q2
      refine ⟨r, r1, cell, ?_, r3⟩
      rw [hlt _ ⟨_, r2⟩]
      exact r2
    · exact (hlt _ ⟨_, q2⟩).trans q2
    · exact (hlt _ ⟨_, q2⟩).trans q2
    · exact (hlt _ ⟨_, q2⟩).trans q2
    · obtain ⟨a1, a2, a3⟩ := q2
      exact ⟨a1, (hlt _ ⟨_, a2⟩).trans a2, fun i hi => (hlt _ ⟨_, a3 i hi⟩).trans (a3 i hi)⟩
  · exact Nat.le_trans hP.2.1 u4.2.1
  · rw [cx_old u4 (Nat.lt_of_lt_of_le hq hP.2.1)]
    exact hP.2.2.1 q hq
  · by_cases e0 : q < s.heap.size
    · rw [cx_old u4 e0] at hc
      exact hP.2.2.2 q cell hq hc
    · have hlt := (Array.getElem?_eq_some_iff.mp hc).1
      have e2 : q = s.heap.size := by omega
      subst e2
      cases (show some ce = some cell from u5.symm.trans hc)
      exact u6.vm
end CXH
