/-! Worlds that grow: constructors. -/
def cy_off (j : Nat) : Nat := if j ≤ 8 then j else if j = 9 then 129 else if j ≤ 23 then j + 240 else j + 250
def cy_gl (j : Nat) : Nat := if j = 8 then 120 else if j = 9 then 120 else if j = 23 then 10 else 0
theorem cy_mono : ∀ n, n < 42 → ∀ j, j < n → cy_off j + cy_gl j < cy_off n := by decide +kernel
/-- the places of the cells, one after the other behind what was there at the start -/
def cy_okG (G : cx_G) : Prop := (∀ j, cx_ad G j = (cx_H0 G).size + cy_off j) ∧ (∀ j i, cx_rd G j i = (cx_H0 G).size + cy_off j + 1 + i) ∧ (∀ j, cx_gl G j = cy_gl j) ∧ cx_N G = 41
theorem cy_gl_lt {j b : Nat} (h : b < cy_gl j) : j < 41 := by
  unfold cy_gl at h
  split at h
  · omega
  · split at h
    · omega
    · split at h
      · omega
      · omega
theorem cy_apart {i j b : Nat} (hi : i < 41) (hj : j < 41) (hb : b < cy_gl j) : cy_off i ≠ cy_off j + 1 + b := by
  intro e
  rcases Nat.lt_trichotomy i j with h | h | h
  · have := cy_mono j (by omega) i h
    omega
  · subst h
    omega
  · have := cy_mono i (by omega) j h
    omega
theorem cy_okG.ok {G : cx_G} (h : cy_okG G) : cx_okG G := by
  obtain ⟨h1, h2, h3, h4⟩ := h
  refine ⟨fun i j hi hj e => ?_, fun i a j b ha hb e => ?_, fun i j b hi hb e => ?_, fun i hi => by rw [h1]; omega, fun j b hb => by rw [h2]; omega⟩
  · rw [h4] at hi hj
    rw [h1, h1] at e
    rcases Nat.lt_trichotomy i j with h | h | h
    · have := cy_mono j (by omega) i h
      omega
    · exact h
    · have := cy_mono i (by omega) j h
      omega
  · rw [h3] at ha hb
    rw [h2, h2] at e
    have l1 := cy_gl_lt ha
    have l2 := cy_gl_lt hb
    rcases Nat.lt_trichotomy i j with h | h | h
    · have := cy_mono j (by omega) i h
      omega
    · subst h
      exact ⟨rfl, by omega⟩
    · have := cy_mono i (by omega) j h
      omega
  · rw [h4] at hi
    rw [h3] at hb
    rw [h1, h2] at e
    exact cy_apart hi (cy_gl_lt hb) hb (by omega)
theorem cx_P.push {G : cx_G} (hG : cy_okG G) {ws : List cx_C} {H H' : Heap} (hP : cx_P G ws H) (hz : H.size = cx_ad G ws.length) {x : cx_C} (hl : ws.length < 41) (hle : H.size ≤ H'.size) (ho : ∀ q : Nat, q < H.size → H'[q]? = H[q]?) (hx : cx_at G ws.length x H') (hn : ∀ (q : Nat) (cell : Cell), H.size ≤ q → H'[q]? = some cell → cell.vm = .none) : cx_P G (ws ++ [x]) H' := by
  obtain ⟨p1, p2, p3, p4⟩ := hP
  obtain ⟨h1, h2, h3, h4⟩ := hG
  refine ⟨fun j c hc => ?_, Nat.le_trans p2 hle, fun q hq => by rw [ho q (Nat.lt_of_lt_of_le hq p2)]; exact p3 q hq, fun q cell hq hc => ?_⟩
  · by_cases hj : j < ws.length
    · rw [List.getElem?_append_left hj] at hc
      obtain ⟨a1, a2⟩ := p1 j c hc
      have hm := cy_mono ws.length (by omega) j hj
      have e : H.size = (cx_H0 G).size + cy_off ws.length := by rw [hz, h1]
      exact ⟨a1, a2.kept (ho _ (by rw [h1]; omega)) (fun i hi => ho _ (by rw [h3] at hi; rw [h2]; omega))⟩
    · rw [List.getElem?_append_right (by omega)] at hc
      have h0 : j - ws.length < 1 := (List.getElem?_eq_some_iff.mp hc).1
      rw [show j - ws.length = 0 by omega] at hc
      cases hc
      have e : j = ws.length := by omega
      subst e
      exact ⟨by rw [h4]; exact hl, hx⟩
  · by_cases hq2 : q < H.size
    · rw [ho q hq2] at hc
      exact p4 q cell hq hc
    · exact hn q cell (by omega) hc
/-- how a growing world stands on the heap -/
def cy_F (G : cx_G) (mc ms : Nat) : cx_F := fun ws k n H locs => (cx_P G ws H ∧ (k ≤ mc ∧ n ≤ ms) ∧ ∀ q ∈ locs, (cx_H0 G).size ≤ q.base) ∧ H.size = cx_ad G ws.length
/-- what constructors know beside -/
def cy_Kn (G : cx_G) (U : State) : Prop := cx_Kn cx_Tb G U ∧ (U.vm.findClass "[I" = some (cx_tc G 0) ∧ U.vm.findClass "[Z" = some (cx_tc G 1) ∧ U.vm.findClass "[J" = some (cx_tc G 2) ∧ U.vm.findClass "[[J" = some (cx_tc G 3)) ∧ (Cond.arrayOver (.array .long)).before #[] U = true
theorem cy_Kn.warm {G : cx_G} {u U : State} (hW : u.WarmedH U.vm) (h : cy_Kn G u) : cy_Kn G U := by
  obtain ⟨h1, ⟨h2, h3, h4, h5⟩, h6⟩ := h
  refine ⟨h1.warm cx_TbAll hW, ⟨?_, ?_, ?_, ?_⟩, over_moved hW.alike h6⟩
  · rw [hW.alike.findClass]; exact h2
  · rw [hW.alike.findClass]; exact h3
  · rw [hW.alike.findClass]; exact h4
  · rw [hW.alike.findClass]; exact h5
section CYR
variable {p : Program} {l : Launch} {e : Env} {R : Room} {s : State} {m : MethodId} {args : Array Value} {below : List Frame} {meth : Method} {c : Code} {Q : State → Prop} {G : cx_G} {mc ms : Nat} {cc : ByteArray}
theorem cy_new (hG : cy_okG G) (hx : p.tables.exec = Jvm.exec) (hb : c.code = cc) (hKn : cx_Kn cx_Tb G s) {own C : String} {T0 : u_T} {N0 ci z pc : Nat} (hown : s.vm.findClass own = some m.cls) (hci : (cx_cl G)[ci]? = some (C, T0, N0)) (hin : ∀ w ∈ u_ws C T0 N0, w ∈ cx_Tb) (ty0 : Nat → FieldType) (hty : ∀ k, k < N0 → parseFieldDescriptor (T0 k).2.2.1 = some (ty0 k))
    (hw : Jvm.Cond.classLink own z C ∈ cx_Tb ∧ Jvm.Cond.instantiable C N0 ∈ cx_Tb ∧ Jvm.Cond.initialized C ∈ cx_Tb) {d : List cx_V} (hd : ∀ j, j < N0 → defaultValue (ty0 j) = vp_V (d.map (cx_v G)) j) (hdg : decode cc pc = .ok (.new z, 3)) {ws : List cx_C} {k n : Nat} {H : Heap} {locs : List Loc} {ls : Array Slot} {st : List Value}
    (hF : cy_F G mc ms ws k n H locs) (hl : ws.length < 41 ∧ cy_off (ws.length + 1) = cy_off ws.length + 1) (hk : k + 1 ≤ mc ∧ n + N0 ≤ ms) (hR : mc ≤ R.cells ∧ ms ≤ R.slots)
    (kk : ∀ H', cy_F G mc ms (ws ++ [.inl (ci, d)]) (k + 1) (n + N0) H' locs → W p l e R s m args below meth c H' locs (k + 1) (n + N0) Q (F0 m (pc + 3) ls (.ref (cx_ad G ws.length) :: st))) : W p l e R s m args below meth c H locs k n Q (F0 m pc ls st) := by
  obtain ⟨⟨hP, hkn, hL⟩, hz⟩ := hF
  have hK := hKn.2.1.1 ci _ hci
  refine W.newcK hx hb hown (hKn.1 _ hw.1 args) (hKn.1 _ hw.2.1 args) (hKn.1 _ hw.2.2 args) rfl hdg (Nat.le_trans hk.1 hR.1) (Nat.le_trans hk.2 hR.2) hK.2.1 rfl fun H1 kC hkC e1 z1 o1 => ?_
  rw [hz]
  refine kk H1 ⟨⟨cx_P.push hG hP hz hl.1 (by omega) o1 ?_ (fun q cell hq hc => ?_), hk, hL⟩, ?_⟩
  · show va_at (cx_D G) (cx_cl G) (cx_ad G ws.length, .inr (ci, d.map (cx_v G))) H1
    rw [← hz]
    exact ⟨_, hci, (u_born ty0 (fun w hw => hKn.1 w hw args) hin hK hkC e1 hty).to hd⟩
  · have := (Array.getElem?_eq_some_iff.mp hc).1
    rw [show q = H.size by omega, e1] at hc
    cases hc
    rfl
  · rw [z1, hz, List.length_append, List.length_singleton, hG.1, hG.1, hl.2]
    omega
/-- the kinds of arrays -/
def cy_zero (b a : Nat) : cx_C := match b with
  | 0 => .inr (.inl (a, fun _ => 0))
  | 1 => .inr (.inr (.inl (a, fun _ => 0)))
  | _ => .inr (.inr (.inr (.inl (a, fun _ => 0))))
theorem cy_newa (hG : cy_okG G) (hx : p.tables.exec = Jvm.exec) (hb : c.code = cc) (hKn : cy_Kn G s) {at0 : ArrayType} {b pc a : Nat} (hat : (at0 = .int ∧ b = 0) ∨ (at0 = .boolean ∧ b = 1) ∨ (at0 = .long ∧ b = 2)) (ha : a < 65536) (hdg : decode cc pc = .ok (.newarray at0, 2))
    {ws : List cx_C} {k n : Nat} {H : Heap} {locs : List Loc} {ls : Array Slot} {st : List Value} (hF : cy_F G mc ms ws k n H locs) (hl : ws.length < 41 ∧ cy_off (ws.length + 1) = cy_off ws.length + 1) (hk : k + 1 ≤ mc ∧ n + a ≤ ms) (hR : mc ≤ R.cells ∧ ms ≤ R.slots)
    (kk : ∀ H', cy_F G mc ms (ws ++ [cy_zero b a]) (k + 1) (n + a) H' locs → W p l e R s m args below meth c H' locs (k + 1) (n + a) Q (F0 m (pc + 2) ls (.ref (cx_ad G ws.length) :: st))) : W p l e R s m args below meth c H locs k n Q (F0 m pc ls (.int (nI a) :: st)) := by
  obtain ⟨⟨hP, hkn, hL⟩, hz⟩ := hF
  have i1 : Jvm.Cond.arrayClass .int ∈ cx_Tb := cx_in 93 (by decide +kernel) (by decide +kernel)
  have i2 : Jvm.Cond.arrayClass .boolean ∈ cx_Tb := cx_in 94 (by decide +kernel) (by decide +kernel)
  have i3 : Jvm.Cond.arrayClass .long ∈ cx_Tb := cx_in 95 (by decide +kernel) (by decide +kernel)
  have hn0 : ¬ nI a < 0 := nI_pos (by omega)
  have hN : (nI a).toNatClampNeg = a := nx_c (by omega)
  have fin : ∀ (H1 : Heap) (cA : ClassId) (x : Value), H1[H.size]? = some (arrV cA a (fun _ => x)) → H1.size = H.size + 1 → (∀ q, q < H.size → H1[q]? = H[q]?) → cx_at G ws.length (cy_zero b a) H1 → cy_F G mc ms (ws ++ [cy_zero b a]) (k + 1) (n + a) H1 locs := by
    intro H1 cA x e1 z1 o1 hat
    refine ⟨⟨cx_P.push hG hP hz hl.1 (by omega) o1 hat (fun q cell hq hc => ?_), hk, hL⟩, ?_⟩
    · have := (Array.getElem?_eq_some_iff.mp hc).1
      rw [show q = H.size by omega, e1] at hc
      cases hc
      rfl
    · rw [z1, hz, List.length_append, List.length_singleton, hG.1, hG.1, hl.2]
      omega
  rcases hat with ⟨rfl, rfl⟩ | ⟨rfl, rfl⟩ | ⟨rfl, rfl⟩
  · refine va_newaK (atype := .int) hx hb (hKn.1.1 _ i1 args) rfl hdg rfl hn0 hN (by show a * componentBytes .int ≤ _; show a * 4 ≤ _; omega) (Nat.le_trans hk.1 hR.1) (Nat.le_trans hk.2 hR.2) rfl fun H1 cA e1 z1 o1 hAr hNm => ?_
    have ec : cA = cx_tc G 0 := Option.some.inj (hNm.symm.trans hKn.2.1.1)
    rw [hz]
    refine kk H1 (fin H1 cA _ e1 z1 o1 ?_)
    show H1[cx_ad G ws.length]? = some (arrV (cx_tc G 0) a (fun i => .int 0))
    rw [← hz, ← ec]
    exact e1
  · refine va_newaK (atype := .boolean) hx hb (hKn.1.1 _ i2 args) rfl hdg rfl hn0 hN (by show a * componentBytes .boolean ≤ _; show a * 1 ≤ _; omega) (Nat.le_trans hk.1 hR.1) (Nat.le_trans hk.2 hR.2) rfl fun H1 cA e1 z1 o1 hAr hNm => ?_
    have ec : cA = cx_tc G 1 := Option.some.inj (hNm.symm.trans hKn.2.1.2.1)
    rw [hz]
    refine kk H1 (fin H1 cA _ e1 z1 o1 ?_)
    show H1[cx_ad G ws.length]? = some (arrV (cx_tc G 1) a (fun i => .int 0))
    rw [← hz, ← ec]
    exact e1
  · refine va_newaK (atype := .long) hx hb (hKn.1.1 _ i3 args) rfl hdg rfl hn0 hN (by show a * componentBytes .long ≤ _; show a * 8 ≤ _; omega) (Nat.le_trans hk.1 hR.1) (Nat.le_trans hk.2 hR.2) rfl fun H1 cA e1 z1 o1 hAr hNm => ?_
    have ec : cA = cx_tc G 2 := Option.some.inj (hNm.symm.trans hKn.2.1.2.2.1)
    rw [hz]
    refine kk H1 (fin H1 cA _ e1 z1 o1 ?_)
    show H1[cx_ad G ws.length]? = some (arrV (cx_tc G 2) a (fun i => .long 0))
    rw [← hz, ← ec]
    exact e1
theorem cy_outer (c : ClassId) (N h0 : Nat) : ∀ i : Nat, Jvm.Free.Multi.outerC c N h0 i = arrV c N (fun j => if j < i then .ref (h0 + 1 + j) else .null)
  | 0 => by
    show ({ cls := c, slots := Array.replicate N .null, vm := .none } : Cell) = _
    rw [arrV_new]
    rfl
  | i + 1 => by
    show (Jvm.Free.Multi.outerC c N h0 i).setSlot i (.ref (h0 + 1 + i)) = _
    rw [cy_outer c N h0 i, arrV_store]
    refine congrArg (arrV c N) (funext fun j => ?_)
    unfold updV
    by_cases e : j = i
    · subst e
      rw [if_pos rfl, if_pos (Nat.lt_succ_self _)]
    · by_cases h : j < i
      · rw [if_neg e, if_pos (show j < i + 1 by omega)]
        exact if_pos h
      · rw [if_neg e, if_neg (show ¬ j < i + 1 by omega)]
        exact if_neg h
theorem cy_arrV {c : ClassId} {N : Nat} {f g : Nat → Value} (h : ∀ j, j < N → f j = g j) : arrV c N f = arrV c N g := by
  have e : (fun j : Fin N => f j.val) = fun j => g j.val := funext fun j => h j.val j.isLt
  unfold arrV
  rw [e]
theorem cy_grid (hG : cy_okG G) (hx : p.tables.exec = Jvm.exec) (hb : c.code = cc) (hKn : cy_Kn G s) {own : String} (hown : s.vm.findClass own = some m.cls) {z pc a b : Nat} (hw : Jvm.Cond.classLink own z "[[J" ∈ cx_Tb) (ha : a < 65536 ∧ b < 65536) (hdg : decode cc pc = .ok (.multianewarray z 2, 4))
    {ws : List cx_C} {k n : Nat} {H : Heap} {locs : List Loc} {ls : Array Slot} {st : List Value} (hF : cy_F G mc ms ws k n H locs) (hl : ws.length < 41 ∧ cy_off (ws.length + 1) = cy_off ws.length + 1 + a ∧ cy_gl ws.length = a) (hk : k + 1 + a ≤ mc ∧ n + a + a * b ≤ ms) (hR : mc ≤ R.cells ∧ ms ≤ R.slots)
    (kk : ∀ H', cy_F G mc ms (ws ++ [.inr (.inr (.inr (.inr (a, b, fun _ _ => 0))))]) (k + 1 + a) (n + a + a * b) H' locs → W p l e R s m args below meth c H' locs (k + 1 + a) (n + a + a * b) Q (F0 m (pc + 4) ls (.ref (cx_ad G ws.length) :: st))) : W p l e R s m args below meth c H locs k n Q (F0 m pc ls (.int (nI b) :: .int (nI a) :: st)) := by
  obtain ⟨⟨hP, hkn, hL⟩, hz⟩ := hF
  have i3 : Jvm.Cond.arrayClass .long ∈ cx_Tb := cx_in 95 (by decide +kernel) (by decide +kernel)
  have hpos : ∀ x, x < 65536 → ¬ nI x < 0 := fun x hx => nI_pos (by omega)
  have hNa : (nI a).toNatClampNeg = a := nx_c (by omega)
  have hNb : (nI b).toNatClampNeg = b := nx_c (by omega)
  intro T hT X
  obtain ⟨vm₁, cA, comp, -, fA, fC, -, -, X', step⟩ := X.multianewarray2F hx hown (hKn.1.1 _ hw args) (over_moved (Vm.Alike.refl _) hKn.2.2) (hKn.1.1 _ i3 args) (g := F0 m pc ls (.int (nI b) :: .int (nI a) :: st)) rfl (by rw [hb]; exact hdg) (n := nI a) (k := nI b) (rest := st) rfl (hpos a ha.1) (hpos b ha.2) (by rw [hNa]; omega) (by rw [hNb]; show b * 8 ≤ _; omega) (by rw [hNb]; omega) rfl rfl (by rw [hNa]; have := hk.1; have := hR.1; omega) (by rw [hNa, hNb]; have := hk.2; have := hR.2; omega)
  rw [hNa, hNb] at X' step
  have ecA : cA = cx_tc G 3 := Option.some.inj (fA.symm.trans hKn.2.1.2.2.2)
  have ecC : comp = cx_tc G 2 := Option.some.inj (fC.symm.trans hKn.2.1.2.2.1)
  have hTh : (T.setVm vm₁).heap = H := hT
  obtain ⟨f1, f2, -, -⟩ := Jvm.Free.Multi.fill_facts (T.setVm vm₁) cA comp a b (defaultValue .long) a
  have f3 : ∀ q : Nat, q < H.size → (Jvm.Free.Multi.fill (T.setVm vm₁) cA comp a b (defaultValue .long) a).heap[q]? = H[q]? := fun q hq => by
    have := Jvm.Free.Multi.fill_old (T.setVm vm₁) cA comp a b (defaultValue .long) (a := q) (by rw [hTh]; exact hq) a
    rw [hTh] at this
    exact this
  have f4 : ∀ j : Nat, j < a → (Jvm.Free.Multi.fill (T.setVm vm₁) cA comp a b (defaultValue .long) a).heap[H.size + 1 + j]? = some (arrV comp b (fun _ => .long 0)) := fun j hj => by
    have := Jvm.Free.Multi.fill_inner (T.setVm vm₁) cA comp a b (defaultValue .long) a j hj
    rw [hTh] at this
    rw [this, ← arrV_new]
    rfl
  rw [hTh] at f1 f2
  have hsz : H.size = (cx_H0 G).size + cy_off ws.length := by rw [hz, hG.1]
  generalize hFl : Jvm.Free.Multi.fill (T.setVm vm₁) cA comp a b (defaultValue .long) a = U at X' step f1 f2 f3 f4
  have hPU : cx_P G (ws ++ [.inr (.inr (.inr (.inr (a, b, fun _ _ => 0))))]) U.heap := by
    refine cx_P.push hG hP hz hl.1 (by omega) f3 ⟨by rw [hG.2.2.1, hl.2.2]; exact Nat.le_refl _, ?_, fun i hi => ?_⟩ (fun q cell hq hc => ?_)
    · show U.heap[cx_ad G ws.length]? = _
      rw [← hz, f2, cy_outer, ecA]
      refine congrArg some (cy_arrV fun j hj => ?_)
      rw [if_pos hj, hG.2.1, hsz]
    · show U.heap[cx_rd G ws.length i]? = some (arrV _ b _)
      rw [hG.2.1, ← hsz, f4 i hi, ecC]
    · have hlt := (Array.getElem?_eq_some_iff.mp hc).1
      by_cases e0 : q = H.size
      · subst e0
        rw [f2] at hc
        cases hc
        exact (Jvm.Free.Multi.outerC_facts _ _ _ _).2.1
      · rw [show q = H.size + 1 + (q - H.size - 1) by omega, f4 (q - H.size - 1) (by omega)] at hc
        cases hc
        rfl
  obtain ⟨t, a1, b1⟩ := kk U.heap ⟨⟨hPU, hk, hL⟩, by rw [f1, hz, List.length_append, List.length_singleton, hG.1, hG.1, hl.2.1]; omega⟩ U rfl X'
  refine ⟨t, step t ?_, b1⟩
  rw [show (T.heap.size : Nat) = cx_ad G ws.length by rw [← hz]; exact congrArg Array.size hT]
  exact a1
end CYR
