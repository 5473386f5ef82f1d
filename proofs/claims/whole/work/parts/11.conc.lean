/-! What the abstract machine's worlds are on the heap. -/
abbrev cx_G : Type := va_G × List vw_C × (Nat → Nat) × (Nat → Nat → Nat) × (Nat → ClassId) × Nat × (Nat → Nat) × Heap
abbrev cx_D (G : cx_G) : va_G := G.1
abbrev cx_cl (G : cx_G) : List vw_C := G.2.1
abbrev cx_ad (G : cx_G) : Nat → Nat := G.2.2.1
abbrev cx_rd (G : cx_G) : Nat → Nat → Nat := G.2.2.2.1
abbrev cx_tc (G : cx_G) : Nat → ClassId := G.2.2.2.2.1
abbrev cx_N (G : cx_G) : Nat := G.2.2.2.2.2.1
abbrev cx_gl (G : cx_G) : Nat → Nat := G.2.2.2.2.2.2.1
abbrev cx_H0 (G : cx_G) : Heap := G.2.2.2.2.2.2.2
def cx_v (G : cx_G) (v : cx_V) : Value := match v with
  | .inl x => .int x
  | .inr (.inl x) => .long x
  | .inr (.inr (.inl k)) => .ref (cx_ad G k)
  | .inr (.inr (.inr (.inl q))) => .ref (cx_rd G q.1 q.2)
  | .inr (.inr (.inr (.inr v))) => v
theorem cx_v_cat (G : cx_G) (v : cx_V) : ((cx_v G v).category == 2) = cx_wd v := by
  rcases v with x | x | x | x | x <;> rfl
theorem cx_cat1 {G : cx_G} {u : cx_V} (h : cx_wd u = false) : (cx_v G u).category = 1 := by
  have h2 := cx_v_cat G u
  rw [h] at h2
  rcases lv_cat (cx_v G u) with q | q
  · exact q
  · rw [q] at h2
    cases h2
theorem cx_cats_eq (G : cx_G) (st : List cx_V) : ((st.map (cx_v G)).map fun v => v.category).sum = cx_cats st := by
  induction st with
  | nil => rfl
  | cons v r ih =>
    simp only [List.map_cons, List.sum_cons, ih, cx_cats]
    congr 1
    rcases v with x | x | x | x | x
    · rfl
    · rfl
    · rfl
    · rfl
    · show x.category = _
      rcases lv_cat x with h | h <;> simp [cx_wd, h]
def cx_okG (G : cx_G) : Prop :=
  (∀ i j, i < cx_N G → j < cx_N G → cx_ad G i = cx_ad G j → i = j) ∧
  (∀ i a j b, a < cx_gl G i → b < cx_gl G j → cx_rd G i a = cx_rd G j b → i = j ∧ a = b) ∧
  (∀ i j b, i < cx_N G → b < cx_gl G j → cx_ad G i ≠ cx_rd G j b) ∧
  (∀ i, i < cx_N G → (cx_H0 G).size ≤ cx_ad G i) ∧ (∀ j b, b < cx_gl G j → (cx_H0 G).size ≤ cx_rd G j b)
def cx_at (G : cx_G) (j : Nat) (c : cx_C) (H : Heap) : Prop := match c with
  | .inl o => va_at (cx_D G) (cx_cl G) (cx_ad G j, .inr (o.1, o.2.map (cx_v G))) H
  | .inr (.inl a) => H[cx_ad G j]? = some (arrV (cx_tc G 0) a.1 (fun i => .int (a.2 i)))
  | .inr (.inr (.inl a)) => H[cx_ad G j]? = some (arrV (cx_tc G 1) a.1 (fun i => .int (a.2 i)))
  | .inr (.inr (.inr (.inl a))) => H[cx_ad G j]? = some (arrV (cx_tc G 2) a.1 (fun i => .long (a.2 i)))
  | .inr (.inr (.inr (.inr a))) => a.1 ≤ cx_gl G j ∧ H[cx_ad G j]? = some (arrV (cx_tc G 3) a.1 (fun i => .ref (cx_rd G j i))) ∧ ∀ i, i < a.1 → H[cx_rd G j i]? = some (arrV (cx_tc G 2) a.2.1 (fun x => .long (a.2.2 i x)))
def cx_P (G : cx_G) (ws : List cx_C) (H : Heap) : Prop := (∀ j c, ws[j]? = some c → j < cx_N G ∧ cx_at G j c H) ∧ (cx_H0 G).size ≤ H.size ∧ (∀ q : Nat, q < (cx_H0 G).size → H[q]? = (cx_H0 G)[q]?) ∧ ∀ (q : Nat) (cell : Cell), (cx_H0 G).size ≤ q → H[q]? = some cell → cell.vm = .none
theorem cx_at.vm {G : cx_G} {j : Nat} {c : cx_C} {H : Heap} {cell : Cell} (h : cx_at G j c H) (hc : H[cx_ad G j]? = some cell) : cell.vm = .none := by
  rcases c with o | a | a | a | a
  · obtain ⟨r, h1, cell', q1, q2, q3, q4⟩ := h
    cases (show some cell' = some cell from q1.symm.trans hc)
    exact q3
  · cases (show some _ = some cell from Eq.trans (Eq.symm h) hc)
    rfl
  · cases (show some _ = some cell from Eq.trans (Eq.symm h) hc)
    rfl
  · cases (show some _ = some cell from Eq.trans (Eq.symm h) hc)
    rfl
  · cases (show some _ = some cell from Eq.trans (Eq.symm h.2.1) hc)
    rfl
theorem cx_at.kept {G : cx_G} {j : Nat} {c : cx_C} {H H' : Heap} (h : cx_at G j c H) (h1 : H'[cx_ad G j]? = H[cx_ad G j]?) (h2 : ∀ i, i < cx_gl G j → H'[cx_rd G j i]? = H[cx_rd G j i]?) : cx_at G j c H' := by
  rcases c with o | a | a | a | a
  · exact va_at.kept (D := cx_D G) (cl := cx_cl G) (q := (cx_ad G j, .inr (o.1, o.2.map (cx_v G)))) h h1
  · exact h1.trans h
  · exact h1.trans h
  · exact h1.trans h
  · obtain ⟨q1, q2, q3⟩ := h
    exact ⟨q1, h1.trans q2, fun i hi => (h2 i (Nat.lt_of_lt_of_le hi q1)).trans (q3 i hi)⟩
theorem cx_P.set {G : cx_G} {ws : List cx_C} {H H' : Heap} {j : Nat} {c0 c' : cx_C} (hG : cx_okG G) (hP : cx_P G ws H) (hj : ws[j]? = some c0) (h' : cx_at G j c' H') (hz : H'.size = H.size) (ho : ∀ q : Nat, q ≠ cx_ad G j → H'[q]? = H[q]?) : cx_P G (ws.set j c') H' := by
  obtain ⟨g1, g2, g3, g4, g5⟩ := hG
  obtain ⟨p1, p2, p3, p4⟩ := hP
  have hjN := (p1 j c0 hj).1
  refine ⟨fun i c hc => ?_, by rw [hz]; exact p2, fun q hq => ?_, fun q cell hq hc => ?_⟩
  · by_cases e : i = j
    · subst e
      have hlt : i < ws.length := (List.getElem?_eq_some_iff.mp hj).1
      rw [List.getElem?_set_self hlt] at hc
      cases hc
      exact ⟨hjN, h'⟩
    · rw [List.getElem?_set_ne (Ne.symm e)] at hc
      obtain ⟨q1, q2⟩ := p1 i c hc
      exact ⟨q1, q2.kept (ho _ (fun h => e (g1 i j q1 hjN h))) (fun b hb => ho _ (fun h => g3 j i b hjN hb h.symm))⟩
  · rw [ho q (fun h => by have := g4 j hjN; omega)]
    exact p3 q hq
  · by_cases e : q = cx_ad G j
    · subst e
      exact h'.vm hc
    · rw [ho q e] at hc
      exact p4 q cell hq hc
theorem cx_P.setRow {G : cx_G} {ws : List cx_C} {H H' : Heap} {j g n k : Nat} {f : Nat → Nat → Int64} {r : Nat → Int64} (hG : cx_okG G) (hP : cx_P G ws H) (hj : ws[j]? = some (.inr (.inr (.inr (.inr (n, k, f)))))) (hg : g < n) (h' : H'[cx_rd G j g]? = some (arrV (cx_tc G 2) k (fun x => .long (r x)))) (hz : H'.size = H.size) (ho : ∀ q : Nat, q ≠ cx_rd G j g → H'[q]? = H[q]?) : cx_P G (ws.set j (.inr (.inr (.inr (.inr (n, k, va_up f g r)))))) H' := by
  obtain ⟨g1, g2, g3, g4, g5⟩ := hG
  obtain ⟨p1, p2, p3, p4⟩ := hP
  obtain ⟨hjN, a1, a2, a3⟩ := p1 j _ hj
  have hgl : g < cx_gl G j := Nat.lt_of_lt_of_le hg a1
  refine ⟨fun i c hc => ?_, by rw [hz]; exact p2, fun q hq => ?_, fun q cell hq hc => ?_⟩
  · by_cases e : i = j
    · subst e
      have hlt : i < ws.length := (List.getElem?_eq_some_iff.mp hj).1
      rw [List.getElem?_set_self hlt] at hc
      cases hc
      refine ⟨hjN, a1, (ho _ (g3 i i g hjN hgl)).trans a2, fun b hb => ?_⟩
      show H'[cx_rd G i b]? = some (arrV _ k (fun x => .long (va_up f g r b x)))
      by_cases eb : b = g
      · subst eb
        rw [va_up_self]
        exact h'
      · rw [va_up_ne _ _ eb, ho _ (fun h => eb (g2 i b i g (Nat.lt_of_lt_of_le hb a1) hgl h).2)]
        exact a3 b hb
    · rw [List.getElem?_set_ne (Ne.symm e)] at hc
      obtain ⟨q1, q2⟩ := p1 i c hc
      exact ⟨q1, q2.kept (ho _ (g3 i j g q1 hgl)) (fun b hb => ho _ (fun h => e (g2 i b j g hb hgl h).1))⟩
  · rw [ho q (fun h => by have := g5 j g hgl; omega)]
    exact p3 q hq
  · by_cases e : q = cx_rd G j g
    · subst e
      cases (show some _ = some cell from Eq.trans (Eq.symm h') hc)
      rfl
    · rw [ho q e] at hc
      exact p4 q cell hq hc
/-- the locals -/
def cx_has (G : cx_G) (ls : Array Slot) (nL : Nat) (lv : cx_L) : Prop := ls.size = nL ∧ lv_wf ls ∧ ∀ (i : Nat) (v : cx_V), lv[i]? = some (some v) → ls[i]? = some (.val (cx_v G v))
def cx_pr (G : cx_G) (lv : cx_L) (i : Nat) : Option (Nat × Value) := match lv[i]? with
  | some (some v) => some (i, cx_v G v)
  | _ => none
def cx_prs (G : cx_G) (lv : cx_L) : List (Nat × Value) := (List.range lv.length).filterMap (cx_pr G lv)
theorem cx_pr_some {G : cx_G} {lv : cx_L} {i : Nat} {q : Nat × Value} (h : cx_pr G lv i = some q) : ∃ v, lv[i]? = some (some v) ∧ q = (i, cx_v G v) := by
  unfold cx_pr at h
  split at h
  · rename_i v hv
    cases h
    exact ⟨v, hv, rfl⟩
  · cases h
theorem cx_prs_in {G : cx_G} {lv : cx_L} {i : Nat} {v : cx_V} (h : lv[i]? = some (some v)) : (i, cx_v G v) ∈ cx_prs G lv := by
  refine List.mem_filterMap.mpr ⟨i, List.mem_range.mpr (List.getElem?_eq_some_iff.mp h).1, ?_⟩
  unfold cx_pr
  rw [h]
theorem cx_has.lv {G : cx_G} {ls : Array Slot} {nL : Nat} {lv : cx_L} (h : cx_has G ls nL lv) : lv_has ls nL (cx_prs G lv) := by
  refine ⟨h.1, h.2.1, fun q hq => ?_⟩
  obtain ⟨i, -, hi⟩ := List.mem_filterMap.mp hq
  obtain ⟨v, hv, rfl⟩ := cx_pr_some hi
  exact h.2.2 i v hv
theorem cx_clob_get {lv : cx_L} {i t : Nat} {u : cx_V} (h : (cx_clob lv i)[t]? = some (some u)) : lv[t]? = some (some u) ∧ ¬ (t + 1 = i ∧ cx_wd u = true) := by
  unfold cx_clob at h
  split at h
  · exact ⟨h, fun q => by omega⟩
  · rename_i j
    split at h
    · rename_i w hw
      split at h
      · rename_i hwd
        by_cases e : t = j
        · subst e
          rw [List.getElem?_set_self (List.getElem?_eq_some_iff.mp hw).1] at h
          cases h
        · rw [List.getElem?_set_ne (Ne.symm e)] at h
          exact ⟨h, fun q => e (by omega)⟩
      · rename_i hwd
        refine ⟨h, fun q => ?_⟩
        have e : t = j := by omega
        subst e
        rw [hw] at h
        cases h
        rw [hwd] at q
        exact Bool.noConfusion q.2
    · rename_i hn
      refine ⟨h, fun q => ?_⟩
      have e : t = j := by omega
      subst e
      exact hn u h
theorem cx_put1_get {lv : cx_L} {i t : Nat} {v u : cx_V} (h : (cx_put1 lv i v)[t]? = some (some u)) : (t = i ∧ u = v) ∨ (t ≠ i ∧ lv[t]? = some (some u) ∧ ¬ (t + 1 = i ∧ cx_wd u = true)) := by
  unfold cx_put1 at h
  by_cases e : t = i
  · subst e
    by_cases hl : t < (cx_clob lv t).length
    · rw [List.getElem?_set_self hl] at h
      cases h
      exact Or.inl ⟨rfl, rfl⟩
    · rw [List.getElem?_eq_none (by rw [List.length_set]; omega)] at h
      cases h
  · rw [List.getElem?_set_ne (Ne.symm e)] at h
    exact Or.inr ⟨e, cx_clob_get h⟩
theorem cx_put2_get {lv : cx_L} {i t : Nat} {v u : cx_V} (h : (cx_put2 lv i v)[t]? = some (some u)) : (t = i ∧ u = v) ∨ (t ≠ i ∧ t ≠ i + 1 ∧ lv[t]? = some (some u) ∧ ¬ (t + 1 = i ∧ cx_wd u = true)) := by
  unfold cx_put2 at h
  by_cases e1 : t = i + 1
  · subst e1
    by_cases hl : i + 1 < ((cx_clob lv i).set i (some v)).length
    · rw [List.getElem?_set_self hl] at h
      cases h
    · rw [List.getElem?_eq_none (by rw [List.length_set]; omega)] at h
      cases h
  · rw [List.getElem?_set_ne (Ne.symm e1)] at h
    rcases cx_put1_get (lv := lv) (i := i) (v := v) h with q | ⟨q1, q2⟩
    · exact Or.inl q
    · exact Or.inr ⟨q1, e1, q2⟩
theorem cx_has.st1 {G : cx_G} {ls' : Array Slot} {nL : Nat} {lv : cx_L} {i : Nat} {v : cx_V} {w : Value} (hw : cx_v G v = w) (h : lv_has ls' nL ((i, w) :: (cx_prs G lv).filter (fun q => !(q.1 == i) && !(q.1 + 1 == i && q.2.category == 2)))) : cx_has G ls' nL (cx_put1 lv i v) := by
  subst hw
  refine ⟨h.1, h.2.1, fun t u ht => ?_⟩
  rcases cx_put1_get ht with ⟨rfl, rfl⟩ | ⟨q1, q2, q3⟩
  · exact h.2.2 _ List.mem_cons_self
  · refine h.2.2 (t, cx_v G u) (List.mem_cons_of_mem _ (List.mem_filter.mpr ⟨cx_prs_in q2, ?_⟩))
    simp only [cx_v_cat]
    simp only [Bool.and_eq_true, Bool.not_eq_true', beq_eq_false_iff_ne, ne_eq, Bool.and_eq_false_iff]
    refine ⟨q1, ?_⟩
    by_cases e : t + 1 = i
    · right
      cases hc : cx_wd u with
      | false => rfl
      | true => exact absurd ⟨e, hc⟩ q3
    · left
      exact e
theorem cx_has.st2 {G : cx_G} {ls' : Array Slot} {nL : Nat} {lv : cx_L} {i : Nat} {v : cx_V} {w : Value} (hw : cx_v G v = w) (h : lv_has ls' nL ((i, w) :: (cx_prs G lv).filter (fun q => !(q.1 == i) && (!(q.1 == i + 1) && !(q.1 + 1 == i && q.2.category == 2))))) : cx_has G ls' nL (cx_put2 lv i v) := by
  subst hw
  refine ⟨h.1, h.2.1, fun t u ht => ?_⟩
  rcases cx_put2_get ht with ⟨rfl, rfl⟩ | ⟨q1, q0, q2, q3⟩
  · exact h.2.2 _ List.mem_cons_self
  · refine h.2.2 (t, cx_v G u) (List.mem_cons_of_mem _ (List.mem_filter.mpr ⟨cx_prs_in q2, ?_⟩))
    simp only [cx_v_cat]
    simp only [Bool.and_eq_true, Bool.not_eq_true', beq_eq_false_iff_ne, ne_eq, Bool.and_eq_false_iff]
    refine ⟨q1, q0, ?_⟩
    by_cases e : t + 1 = i
    · right
      cases hc : cx_wd u with
      | false => rfl
      | true => exact absurd ⟨e, hc⟩ q3
    · left
      exact e
/-- the tables' words, kept by all that a run does to the tables -/
def cx_stB (w : Cond) : Bool := (w.onTables && w.keeps) || (match w with
  | .arrayClass _ => true
  | .fieldLinkNest _ _ _ _ _ _ => true
  | .methodLinkNest _ _ _ _ => true
  | .declares _ => true
  | .stringRef _ _ _ => true
  | .castable _ _ => true
  | _ => false)
theorem cx_strW {own tx : String} {k : Nat} {s U : State} (hW : s.WarmedH U.vm) {a a' : Array Value} (hb : (Cond.stringRef own k tx).before a s = true) : (Cond.stringRef own k tx).before a' U = true := by
  have hcur : ∃ cur, s.vm.findClass own = some cur := by
    have h1 := hb
    simp only [Cond.before, Cond.holds, Cond.value] at h1
    cases hc : s.vm.findClass own with
    | none => simp [hc] at h1
    | some cur => exact ⟨cur, rfl⟩
  obtain ⟨cur, hcur⟩ := hcur
  obtain ⟨_, _, _, q, -, -, -, -, -, hev⟩ := Cond.stringRef_spec hcur hb
  exact (vk_R.warm hW (vk_R.of (A := a) hb hev)).1
theorem cx_stB_spec {w : Cond} (h : cx_stB w = true) {s U : State} (hW : s.WarmedH U.vm) {a a' : Array Value} (hb : w.before a s = true) : w.before a' U = true := by
  unfold cx_stB at h
  rw [Bool.or_eq_true] at h
  rcases h with h | h
  · exact word_at hW (Or.inl h) hb
  · split at h
    · exact word_at hW (Or.inr ⟨_, rfl⟩) hb
    · exact va_Nw.use rfl (va_Nw.warmF hW (va_Nw.of rfl hb))
    · exact va_Nw.use rfl (va_Nw.warmM hW (va_Nw.of rfl hb))
    · exact va_Nw.use rfl (va_Nw.warmD hW (va_Nw.of rfl hb))
    · exact cx_strW hW hb
    · exact va_Nw.use rfl (va_Nw.warmC hW (va_Nw.of rfl hb))
    · cases h
/-- a static field's place, that nobody changes -/
def cx_ls (C n d : String) (U : State) (H : Heap) : Prop := ∃ (c : ClassId) (k : Class) (i : Nat) (f : Field) (a : Nat) (cell : Cell), U.vm.findClass C = some c ∧ U.fieldFound? C n d = some (c, k, i, f) ∧ f.isStatic = true ∧ k.statics = some a ∧ H[a]? = some cell ∧ cell.vm.isStatics = true ∧ cell.cls = c ∧ f.slot < cell.slots.size ∧ k.staticTypes[f.slot]? = some f.type
theorem cx_ls.moved {C n d : String} {u U : State} {H : Heap} (hvm : u.vm.Alike U.vm) (h : cx_ls C n d u H) : cx_ls C n d U H := by
  obtain ⟨c, k, i, f, a, cell, h1, h2, h3, h4, h5, h6, h7, h8, h9⟩ := h
  obtain ⟨k', hi', he⟩ := State.fieldFound?_setVm hvm h2
  exact ⟨c, k', i, f, a, cell, by rw [hvm.findClass]; exact h1, hi', h3, by rw [he]; exact h4, h5, h6, h7, h8, by rw [he]; exact h9⟩
theorem cx_ls.of {C n d : String} {s : State} {args : Array Value} (h : (Cond.laysStatic C n d).before args s = true) : cx_ls C n d s s.heap := Cond.laysStatic_spec h
theorem cx_ls.use {C n d : String} {s : State} {H : Heap} {args : Array Value} (h : cx_ls C n d s H) (hH : ∀ q : Nat, q < H.size → s.heap[q]? = H[q]?) : (Cond.laysStatic C n d).before args s = true := by
  obtain ⟨c, k, i, f, a, cell, h1, h2, h3, h4, h5, h6, h7, h8, h9⟩ := h
  exact Cond.laysStatic_of h1 h2 h3 h4 (by rw [hH a (Array.getElem?_eq_some_iff.mp h5).1]; exact h5) h6 h7 h8 h9
/-- what is known of a state's tables -/
def cx_Kn (Tb : List Cond) (G : cx_G) (U : State) : Prop := (∀ w ∈ Tb, ∀ a : Array Value, w.before a U = true) ∧ va_K (cx_D G) (cx_cl G) [] U ∧ ArrOfT U (cx_tc G 0) .int ∧ ArrOfT U (cx_tc G 1) .boolean ∧ ArrOfT U (cx_tc G 2) .long ∧ ArrOfT U (cx_tc G 3) (.array .long) ∧ va_Zq "java/lang/Throwable" "UNASSIGNED_STACK" "[Ljava/lang/StackTraceElement;" (fun q => (cx_H0 G).size ≤ q) U (cx_H0 G) ∧ va_Zq "java/lang/Throwable" "SUPPRESSED_SENTINEL" "Ljava/util/List;" (fun q => (cx_H0 G).size ≤ q) U (cx_H0 G) ∧ cx_ls "java/lang/Throwable" "UNASSIGNED_STACK" "[Ljava/lang/StackTraceElement;" U (cx_H0 G) ∧ cx_ls "java/lang/Throwable" "SUPPRESSED_SENTINEL" "Ljava/util/List;" U (cx_H0 G)
theorem cx_Kn.warm {Tb : List Cond} {G : cx_G} {u U : State} (hTb : Tb.all cx_stB = true) (hW : u.WarmedH U.vm) (h : cx_Kn Tb G u) : cx_Kn Tb G U := by
  obtain ⟨h1, h2, h3, h4, h5, h6, h7, h8, h9, h10⟩ := h
  exact ⟨fun w hw a => cx_stB_spec (List.all_eq_true.mp hTb w hw) hW (h1 w hw a), va_K.moved hW.alike h2, arrOfT_moved hW.alike h3, arrOfT_moved hW.alike h4, arrOfT_moved hW.alike h5, arrOfT_moved hW.alike h6, va_Zq.moved hW.alike h7, va_Zq.moved hW.alike h8, cx_ls.moved hW.alike h9, cx_ls.moved hW.alike h10⟩
