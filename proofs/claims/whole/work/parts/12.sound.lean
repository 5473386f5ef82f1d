/-! The abstract machine is sound over the rows of the kit. -/
theorem cx_fo_eq {α : Type} : ∀ (n : Nat) (l : List α) (k : List α → Prop), cx_fo n l k = k l
  | 0, _, _ => rfl
  | n + 1, l, k => by
    cases l with
    | nil => rfl
    | cons a r =>
      show cx_fo n r (fun r => k (a :: r)) = _
      rw [cx_fo_eq n r]
theorem cx_ldi_spec {lv : cx_L} {a : Nat} {k : Int32 → Prop} (h : cx_ldi lv a k) : ∃ x, lv[a]? = some (some (.inl x)) ∧ k x := by
  unfold cx_ldi at h
  split at h
  · rename_i x hx
    exact ⟨x, hx, h⟩
  · exact h.elim
theorem cx_ldl_spec {lv : cx_L} {a : Nat} {k : Int64 → Prop} (h : cx_ldl lv a k) : ∃ x, lv[a]? = some (some (.inr (.inl x))) ∧ k x := by
  unfold cx_ldl at h
  split at h
  · rename_i x hx
    exact ⟨x, hx, h⟩
  · exact h.elim
theorem cx_lda_spec {lv : cx_L} {a : Nat} {k : cx_V → Prop} (h : cx_lda lv a k) : ∃ u, lv[a]? = some (some u) ∧ k u ∧ ∀ G, ∃ y, cx_v G u = .ref y := by
  unfold cx_lda at h
  split at h
  · rename_i x hx
    exact ⟨_, hx, h, fun G => ⟨_, rfl⟩⟩
  · rename_i x hx
    exact ⟨_, hx, h, fun G => ⟨_, rfl⟩⟩
  · exact h.elim
theorem cx_i1_spec {st : List cx_V} {k : Int32 → List cx_V → Prop} (h : cx_i1 st k) : ∃ x r, st = .inl x :: r ∧ k x r := by
  unfold cx_i1 at h
  split at h
  · exact ⟨_, _, rfl, h⟩
  · exact h.elim
theorem cx_l1_spec {st : List cx_V} {k : Int64 → List cx_V → Prop} (h : cx_l1 st k) : ∃ x r, st = .inr (.inl x) :: r ∧ k x r := by
  unfold cx_l1 at h
  split at h
  · exact ⟨_, _, rfl, h⟩
  · exact h.elim
theorem cx_ii_spec {st : List cx_V} {k : Int32 → Int32 → List cx_V → Prop} (h : cx_ii st k) : ∃ x y r, st = .inl y :: .inl x :: r ∧ k x y r := by
  unfold cx_ii at h
  split at h
  · exact ⟨_, _, _, rfl, h⟩
  · exact h.elim
theorem cx_ll_spec {st : List cx_V} {k : Int64 → Int64 → List cx_V → Prop} (h : cx_ll st k) : ∃ x y r, st = .inr (.inl y) :: .inr (.inl x) :: r ∧ k x y r := by
  unfold cx_ll at h
  split at h
  · exact ⟨_, _, _, rfl, h⟩
  · exact h.elim
theorem cx_li_spec {st : List cx_V} {k : Int64 → Int32 → List cx_V → Prop} (h : cx_li st k) : ∃ x y r, st = .inl y :: .inr (.inl x) :: r ∧ k x y r := by
  unfold cx_li at h
  split at h
  · exact ⟨_, _, _, rfl, h⟩
  · exact h.elim
theorem cx_a1_spec {st : List cx_V} {k : cx_V → List cx_V → Prop} (h : cx_a1 st k) : ∃ u r, st = u :: r ∧ k u r ∧ ∀ G, ∃ y, cx_v G u = .ref y := by
  unfold cx_a1 at h
  split at h
  · exact ⟨_, _, rfl, h, fun G => ⟨_, rfl⟩⟩
  · exact ⟨_, _, rfl, h, fun G => ⟨_, rfl⟩⟩
  · exact h.elim
theorem cx_obj_spec {ws : List cx_C} {j ci : Nat} {k : List cx_V → Prop} (h : cx_obj ws j ci k) : ∃ fs, ws[j]? = some (.inl (ci, fs)) ∧ k fs := by
  unfold cx_obj at h
  split at h
  · rename_i o ho
    split at h
    · rename_i hb
      have e : o.1 = ci := Nat.eq_of_beq_eq_true hb
      refine ⟨o.2, ?_, h⟩
      rw [ho, ← e]
    · exact h.elim
  · exact h.elim
theorem cx_fld_spec {fs : List cx_V} {b : Nat} {k : cx_V → Prop} (h : cx_fld fs b k) : ∃ u, fs[b]? = some u ∧ k u := by
  unfold cx_fld at h
  split at h
  · rename_i u hu
    exact ⟨u, hu, h⟩
  · exact h.elim
theorem cx_p1_spec {st : List cx_V} {k : Nat → List cx_V → Prop} (h : cx_p1 st k) : ∃ j r, st = .inr (.inr (.inl j)) :: r ∧ k j r := by
  unfold cx_p1 at h
  split at h
  · exact ⟨_, _, rfl, h⟩
  · exact h.elim
theorem cx_pu_spec {st : List cx_V} {k : cx_V → Nat → List cx_V → Prop} (h : cx_pu st k) : ∃ u j r, st = u :: .inr (.inr (.inl j)) :: r ∧ k u j r := by
  unfold cx_pu at h
  split at h
  · exact ⟨_, _, _, rfl, h⟩
  · exact h.elim
theorem cx_pi_spec {st : List cx_V} {k : Int32 → Nat → List cx_V → Prop} (h : cx_pi st k) : ∃ x j r, st = .inl x :: .inr (.inr (.inl j)) :: r ∧ k x j r := by
  unfold cx_pi at h
  split at h
  · exact ⟨_, _, _, rfl, h⟩
  · exact h.elim
theorem cx_pii_spec {st : List cx_V} {k : Int32 → Int32 → Nat → List cx_V → Prop} (h : cx_pii st k) : ∃ y x j r, st = .inl y :: .inl x :: .inr (.inr (.inl j)) :: r ∧ k y x j r := by
  unfold cx_pii at h
  split at h
  · exact ⟨_, _, _, _, rfl, h⟩
  · exact h.elim
theorem cx_pig_spec {st : List cx_V} {k1 : Int32 → Nat → List cx_V → Prop} {k2 : Int32 → Nat → Nat → List cx_V → Prop} (h : cx_pig st k1 k2) : (∃ x j r, st = .inl x :: .inr (.inr (.inl j)) :: r ∧ k1 x j r) ∨ (∃ x j g r, st = .inl x :: .inr (.inr (.inr (.inl (j, g)))) :: r ∧ k2 x j g r) := by
  unfold cx_pig at h
  split at h
  · exact Or.inl ⟨_, _, _, rfl, h⟩
  · exact Or.inr ⟨_, _, _, _, rfl, h⟩
  · exact h.elim
theorem cx_ints_spec {ws : List cx_C} {j : Nat} {k : Nat → (Nat → Int32) → Prop} (h : cx_ints ws j k) : ∃ n f, ws[j]? = some (.inr (.inl (n, f))) ∧ k n f := by
  unfold cx_ints at h
  split at h
  · rename_i q hq
    exact ⟨q.1, q.2, hq, h⟩
  · exact h.elim
theorem cx_bools_spec {ws : List cx_C} {j : Nat} {k : Nat → (Nat → Int32) → Prop} (h : cx_bools ws j k) : ∃ n f, ws[j]? = some (.inr (.inr (.inl (n, f)))) ∧ k n f := by
  unfold cx_bools at h
  split at h
  · rename_i q hq
    exact ⟨q.1, q.2, hq, h⟩
  · exact h.elim
theorem cx_longs_spec {ws : List cx_C} {j : Nat} {k : Nat → (Nat → Int64) → Prop} (h : cx_longs ws j k) : ∃ n f, ws[j]? = some (.inr (.inr (.inr (.inl (n, f))))) ∧ k n f := by
  unfold cx_longs at h
  split at h
  · rename_i q hq
    exact ⟨q.1, q.2, hq, h⟩
  · exact h.elim
theorem cx_grid_spec {ws : List cx_C} {j : Nat} {k : Nat → Nat → (Nat → Nat → Int64) → Prop} (h : cx_grid ws j k) : ∃ n z f, ws[j]? = some (.inr (.inr (.inr (.inr (n, z, f))))) ∧ k n z f := by
  unfold cx_grid at h
  split at h
  · rename_i q hq
    exact ⟨q.1, q.2.1, q.2.2, hq, h⟩
  · exact h.elim
theorem cx_u1_spec {st : List cx_V} {k : cx_V → List cx_V → Prop} (h : cx_u1 st k) : ∃ u r, st = u :: r ∧ cx_wd u = false ∧ k u r := by
  unfold cx_u1 at h
  split at h
  · split at h
    · exact h.elim
    · rename_i hw
      exact ⟨_, _, rfl, hw, h⟩
  · exact h.elim
theorem cx_sw_spec {Sw : List (Nat × List Nat)} {a : Nat} {k : Nat → List Nat → Prop} (h : cx_sw Sw a k) : ∃ d ts, Sw[a]? = some (d, ts) ∧ k d ts := by
  unfold cx_sw at h
  split at h
  · rename_i q hq
    exact ⟨q.1, q.2, hq, h⟩
  · exact h.elim
theorem cx_ir_spec {st : List cx_V} {k : Int32 → Prop} (h : cx_ir st k) : ∃ x, st = [.inl x] ∧ k x := by
  unfold cx_ir at h
  split at h
  · exact ⟨_, rfl, h⟩
  · exact h.elim
theorem cx_ar_spec {st : List cx_V} {k : cx_V → Prop} (h : cx_ar st k) : ∃ u, st = [u] ∧ k u ∧ ∀ G, ∃ y, cx_v G u = .ref y := by
  unfold cx_ar at h
  split at h
  · exact ⟨_, rfl, h, fun G => ⟨_, rfl⟩⟩
  · exact ⟨_, rfl, h, fun G => ⟨_, rfl⟩⟩
  · exact h.elim
theorem cx_vr_spec {st : List cx_V} {k : Prop} (h : cx_vr st k) : st = [] ∧ k := by
  unfold cx_vr at h
  split at h
  · exact ⟨rfl, h⟩
  · exact h.elim
theorem cx_go_spec {Sp : List (cx_S × Nat × Nat × Nat)} {a mc ms : Nat} {st : List cx_V} {c s : Nat} {k : cx_S → Nat → Nat → Nat → Prop} (h : cx_go Sp a mc ms st c s k) : ∃ f n kc ks, Sp[a]? = some (f, n, kc, ks) ∧ c + kc ≤ mc ∧ s + ks ≤ ms ∧ n ≤ st.length ∧ cx_cats (st.drop n) ≤ 8 ∧ k f n kc ks := by
  unfold cx_go at h
  split at h
  · rename_i q hq
    split at h
    · rename_i hb
      simp only [Bool.and_eq_true] at hb
      exact ⟨q.1, q.2.1, q.2.2.1, q.2.2.2, hq, Nat.le_of_ble_eq_true hb.1, Nat.le_of_ble_eq_true hb.2.1, Nat.le_of_ble_eq_true hb.2.2.1, Nat.le_of_ble_eq_true hb.2.2.2, h⟩
    · exact h.elim
  · exact h.elim
theorem cx_thr_spec {Ex : List String} {a mc ms c s : Nat} {k : String → Prop} (h : cx_thr Ex a mc ms c s k) : ∃ x, Ex[a]? = some x ∧ c = 0 ∧ s = 0 ∧ 1 ≤ mc ∧ 6 ≤ ms ∧ k x := by
  unfold cx_thr at h
  split at h
  · rename_i x hx
    split at h
    · rename_i hb
      simp only [Bool.and_eq_true] at hb
      exact ⟨x, hx, Nat.eq_of_beq_eq_true hb.1, Nat.eq_of_beq_eq_true hb.2.1, Nat.le_of_ble_eq_true hb.2.2.1, Nat.le_of_ble_eq_true hb.2.2.2, h⟩
    · exact h.elim
  · exact h.elim
theorem cx_swl_spec {x : Int32} {J : Nat → Prop} : ∀ {ts : List Nat} {k : Nat}, cx_swl x k ts J → ∀ (i t : Nat), ts[i]? = some t → x = nI (k + i) → J t
  | [], _, _, i, t, ht, _ => by simp at ht
  | t0 :: r, k, h, i, t, ht, hx => by
    unfold cx_swl at h
    cases i with
    | zero =>
      simp at ht
      subst ht
      exact h.1 hx
    | succ i =>
      simp at ht
      exact cx_swl_spec h.2 i t ht (by rw [hx]; congr 1; omega)
def cx_len (i : Instr) (b : Nat) : Nat := match i with
  | .bipush _ => 2
  | .iload _ => 2
  | .lload _ => 2
  | .aload _ => 2
  | .istore _ => 2
  | .lstore _ => 2
  | .astore _ => 2
  | .sipush _ => 3
  | .ldc2_w _ => 3
  | .iinc _ _ => 3
  | .ifCond _ _ => 3
  | .if_icmp _ _ => 3
  | .goto _ => 3
  | .getfield _ => 3
  | .putfield _ => 3
  | .invokevirtual _ => 3
  | .invokestatic _ => 3
  | .new _ => 3
  | .tableswitch _ _ _ _ => b
  | _ => 1
/-- what a program checks of an entry -/
def cx_side (wr : Bool) (rt : Option FieldType) (nL : Nat) (F : List (Nat × Nat × Nat)) (FP : List (Nat × Nat × Nat × Int32)) (LC : List (Nat × Int64)) (CV CS : List (Nat × Nat)) (TH : List (Nat × Nat)) (Sw : List (Nat × List Nat)) (pc : Nat) (en : cx_E) : Bool := match en with
  | (i, v, w, a, b, _) => match i with
    | .iconst z => decide (Int32.ofInt z = v)
    | .bipush z => decide ((Int8.ofInt z).toInt32 = v)
    | .sipush z => decide ((Int16.ofInt z).toInt32 = v)
    | .lconst z => decide (Int64.ofNat z.val = w)
    | .ldc2_w z => decide ((z, w) ∈ LC)
    | .iload_n z => decide (z.val = a)
    | .iload z => decide (z = a)
    | .lload_n z => decide (z.val = a)
    | .lload z => decide (z = a)
    | .aload_n z => decide (z.val = a)
    | .aload z => decide (z = a)
    | .istore_n z => decide (z.val = a ∧ a < nL)
    | .istore z => decide (z = a ∧ a < nL)
    | .lstore_n z => decide (z.val = a ∧ a + 1 < nL)
    | .lstore z => decide (z = a ∧ a + 1 < nL)
    | .astore_n z => decide (z.val = a ∧ a < nL)
    | .astore z => decide (z = a ∧ a < nL)
    | .iinc z y => decide (z = a ∧ a < nL ∧ Int32.ofInt y = v)
    | .ifCond _ o => decide ((pc : Int) + o = (a : Int))
    | .if_icmp _ o => decide ((pc : Int) + o = (a : Int))
    | .goto o => decide ((pc : Int) + o = (a : Int))
    | .getfield z => decide ((z, a, b) ∈ F)
    | .putfield z => decide ((z, a, b, v) ∈ FP) && wr
    | .iastore => wr
    | .bastore => wr
    | .lastore => wr
    | .tableswitch d lo hi offs => (match Sw[a]? with
      | some (dt, ts) => decide (((pc : Int) + d = (dt : Int) ∧ lo = 0 ∧ hi + 1 = (ts.length : Int)) ∧ offs.toList.map (fun o => (pc : Int) + o) = ts.map (fun t : Nat => (t : Int)))
      | none => false)
    | .ireturn => decide (rt = some .int ∨ (rt = some .boolean ∧ v = 1))
    | .areturn => (match rt with
      | some (.array _) => true
      | some (.object _) => true
      | _ => false)
    | .return_ => decide (rt = none)
    | .invokevirtual z => decide ((z, a) ∈ CV)
    | .invokestatic z => decide ((z, a) ∈ CS)
    | .new _ => decide ((pc, a) ∈ TH)
    | _ => true
def cx_dec (wr : Bool) (cc : ByteArray) (rt : Option FieldType) (nL : Nat) (F : List (Nat × Nat × Nat)) (FP : List (Nat × Nat × Nat × Int32)) (LC : List (Nat × Int64)) (CV CS : List (Nat × Nat)) (TH : List (Nat × Nat)) (Sw : List (Nat × List Nat)) (q : Nat × cx_E) : Bool := match decode cc q.1 with
  | .ok x => decide (x.1 = q.2.1) && (decide (x.2 = cx_len q.2.1 q.2.2.2.2.2.1 ∧ q.2.2.2.2.2.2 = q.1 + x.2) && cx_side wr rt nL F FP LC CV CS TH Sw q.1 q.2)
  | _ => false
theorem cx_dec_spec {wr : Bool} {cc : ByteArray} {rt : Option FieldType} {nL : Nat} {F : List (Nat × Nat × Nat)} {FP : List (Nat × Nat × Nat × Int32)} {LC : List (Nat × Int64)} {CV CS : List (Nat × Nat)} {TH : List (Nat × Nat)} {Sw : List (Nat × List Nat)} {q : Nat × cx_E} (h : cx_dec wr cc rt nL F FP LC CV CS TH Sw q = true) : decode cc q.1 = .ok (q.2.1, cx_len q.2.1 q.2.2.2.2.2.1) ∧ q.2.2.2.2.2.2 = q.1 + cx_len q.2.1 q.2.2.2.2.2.1 ∧ cx_side wr rt nL F FP LC CV CS TH Sw q.1 q.2 = true := by
  unfold cx_dec at h
  split at h
  · rename_i x hx
    simp only [Bool.and_eq_true, decide_eq_true_eq] at h
    obtain ⟨x1, x2⟩ := x
    obtain ⟨h1, ⟨h2, h4⟩, h3⟩ := h
    dsimp only at h1 h2 h4
    subst h1; subst h2
    exact ⟨hx, h4, h3⟩
  · cases h
/-- a method's end -/
def cx_out (G : cx_G) (s : State) (q : cx_O) (o : Outcome) (t : State) : Prop := match q with
  | .inl none => o = .returned none
  | .inl (some u) => o = .returned (some (cx_v G u))
  | .inr x => ∃ (a : Addr) (cell : Cell), o = .threw a ∧ t.heap[a]? = some cell ∧ s.vm.findClass x = some cell.cls ∧ cell.vm = .none
def cx_Q (below : List Frame) (G : cx_G) (s : State) (mc ms : Nat) (Rq : cx_R) : State → Prop := fun t => ∃ (o : Outcome) (q : cx_O) (ws : List cx_C), t.status = .running ∧ Ended t below o ∧ Rq q ws ∧ cx_out G s q o t ∧ cx_P G ws t.heap ∧ s.WarmedH t.vm ∧ ∃ L : List Loc, s.sameButNew ({ t with vm := s.vm } : State) L mc ms ∧ ∀ q ∈ L, (cx_H0 G).size ≤ q.base
/-- the same of a walk that has changed nothing if it returns -/
def cx_Q2 (below : List Frame) (G : cx_G) (s : State) (mc ms : Nat) (Rq : cx_R) : State → Prop := fun t => ∃ (o : Outcome) (q : cx_O) (ws : List cx_C), t.status = .running ∧ Ended t below o ∧ Rq q ws ∧ cx_out G s q o t ∧ cx_P G ws t.heap ∧ s.WarmedH t.vm ∧ ∃ L : List Loc, s.sameButNew ({ t with vm := s.vm } : State) L mc ms ∧ (∀ q ∈ L, (cx_H0 G).size ≤ q.base) ∧ ∀ u, q = .inl u → t.heap = s.heap ∧ L = []
theorem cx_Q2.weak {below : List Frame} {G : cx_G} {s : State} {mc ms : Nat} {Rq : cx_R} {t : State} (h : cx_Q2 below G s mc ms Rq t) : cx_Q below G s mc ms Rq t := by
  obtain ⟨o, q, ws, h1, h2, h3, h4, h5, h6, L, h7, h8, -⟩ := h
  exact ⟨o, q, ws, h1, h2, h3, h4, h5, h6, L, h7, h8⟩
section CXS
variable {p : Program} {l : Launch} {e : Env} {R : Room} {s : State} {m : MethodId} {args : Array Value} {below : List Frame} {meth : Method} {c : Code} {Q : State → Prop} {G : cx_G} {nL mc ms : Nat} {cc : ByteArray} {Tb : List Cond} {Rq : cx_R}
/-- how a world stands on the heap during a walk: cells and slots made, the heap, the slots written -/
abbrev cx_F : Type := List cx_C → Nat → Nat → Heap → List Loc → Prop
/-- any walk -/
def cx_F1 (G : cx_G) (mc ms : Nat) : cx_F := fun ws k n H locs => cx_P G ws H ∧ (k ≤ mc ∧ n ≤ ms) ∧ ∀ q ∈ locs, (cx_H0 G).size ≤ q.base
/-- a walk that has changed nothing -/
def cx_F2 (G : cx_G) (mc ms : Nat) (s : State) : cx_F := fun ws k n H locs => cx_P G ws H ∧ (k ≤ mc ∧ n ≤ ms) ∧ H = s.heap ∧ locs = []
def cx_AW (p : Program) (l : Launch) (e : Env) (R : Room) (s : State) (m : MethodId) (args : Array Value) (below : List Frame) (meth : Method) (c : Code) (G : cx_G) (nL : Nat) (F : cx_F) (Q : State → Prop) : cx_K := fun pc lv st ws k n =>
  ∀ (H : Heap) (locs : List Loc) (ls : Array Slot), F ws k n H locs → cx_has G ls nL lv → W p l e R s m args below meth c H locs k n Q (F0 m pc ls (st.map (cx_v G)))
theorem cx_mono {Q' : State → Prop} {H : Heap} {locs : List Loc} {k n : Nat} {g : JFrame} (h : ∀ t, Q t → Q' t) (w : W p l e R s m args below meth c H locs k n Q g) : W p l e R s m args below meth c H locs k n Q' g := fun T hT X => by
  obtain ⟨t, a, b⟩ := w T hT X
  exact ⟨t, a, h t b⟩
/-- getfield, putfield by the place of the field -/
def cx_okget (p : Program) (l : Launch) (e : Env) (R : Room) (s : State) (m : MethodId) (args : Array Value) (below : List Frame) (meth : Method) (c : Code) (cc : ByteArray) (G : cx_G) (Q : State → Prop) (z ci b : Nat) : Prop :=
  ∀ (pc : Nat) (H : Heap) (locs : List Loc) (k n : Nat) (ls : Array Slot) (rest : List Value) (a : Nat) (fs : List Value) (v : Value), decode cc pc = .ok (.getfield z, 3) → va_at (cx_D G) (cx_cl G) (a, .inr (ci, fs)) H → fs[b]? = some v →
    W p l e R s m args below meth c H locs k n Q (F0 m (pc + 3) ls (v :: rest)) → W p l e R s m args below meth c H locs k n Q (F0 m pc ls (.ref a :: rest))
def cx_takes (fl : Int32) (v : Value) : Prop := (fl = 0 ∧ ∃ x, v = .int x) ∨ (fl = 1 ∧ ∃ x, v = .int x ∧ (x = 0 ∨ x = 1)) ∨ (fl = 2 ∧ ∃ y, v = .ref y)
def cx_okput (p : Program) (l : Launch) (e : Env) (R : Room) (s : State) (m : MethodId) (args : Array Value) (below : List Frame) (meth : Method) (c : Code) (cc : ByteArray) (G : cx_G) (Q : State → Prop) (z ci b : Nat) (fl : Int32) : Prop :=
  ∀ (pc : Nat) (H : Heap) (locs : List Loc) (k n : Nat) (ls : Array Slot) (rest : List Value) (a : Nat) (fs : List Value) (v : Value), decode cc pc = .ok (.putfield z, 3) → va_at (cx_D G) (cx_cl G) (a, .inr (ci, fs)) H → b < fs.length → cx_takes fl v →
    (∀ (H' : Heap) (i : Nat), va_at (cx_D G) (cx_cl G) (a, .inr (ci, fs.set b v)) H' → H'.size = H.size → (∀ q : Nat, q ≠ a → H'[q]? = H[q]?) → W p l e R s m args below meth c H' (locs ++ [⟨a, i⟩]) k n Q (F0 m (pc + 3) ls rest)) →
    W p l e R s m args below meth c H locs k n Q (F0 m pc ls (v :: .ref a :: rest))
/-- a call by its contract -/
def cx_okcall (p : Program) (l : Launch) (e : Env) (R : Room) (s : State) (m : MethodId) (args : Array Value) (below : List Frame) (meth : Method) (c : Code) (cc : ByteArray) (G : cx_G) (nL mc ms : Nat) (F : cx_F) (Q : State → Prop) (Rq : cx_R) (i : Instr) (f : cx_S) (na kc ks : Nat) : Prop :=
  ∀ (pc : Nat) (H : Heap) (locs : List Loc) (k n : Nat) (ls : Array Slot) (as rest : List cx_V) (ws : List cx_C) (Rf : cx_R), decode cc pc = .ok (i, 3) → as.length = na → cx_cats rest ≤ 8 → k + kc ≤ mc → n + ks ≤ ms → F ws k n H locs → ls.size = nL → f as ws Rf →
    (∀ (x : String) (ws' : List cx_C), Rf (.inr x) ws' → Rq (.inr x) ws') →
    (∀ (u : Option cx_V) (ws' : List cx_C) (H' : Heap) (locs' : List Loc), Rf (.inl u) ws' → F ws' (k + kc) (n + ks) H' locs' → W p l e R s m args below meth c H' locs' (k + kc) (n + ks) Q (F0 m (pc + 3) ls (u.toList.map (cx_v G) ++ rest.map (cx_v G)))) →
    W p l e R s m args below meth c H locs k n Q (F0 m pc ls ((as.reverse ++ rest).map (cx_v G)))
/-- new X; dup; ldc; invokespecial; athrow -/
def cx_okthr (p : Program) (l : Launch) (e : Env) (R : Room) (s : State) (m : MethodId) (args : Array Value) (below : List Frame) (meth : Method) (c : Code) (G : cx_G) (nL mc ms : Nat) (F : cx_F) (Q : State → Prop) (Rq : cx_R) (pc : Nat) (x : String) : Prop :=
  ∀ (H : Heap) (locs : List Loc) (ls : Array Slot) (ws : List cx_C), 1 ≤ mc → 6 ≤ ms → F ws 0 0 H locs → ls.size = nL → Rq (.inr x) ws →
    W p l e R s m args below meth c H locs 0 0 Q (F0 m pc ls [])
theorem cx_locs {locs : List Loc} {a i : Nat} {z : Nat} (h : ∀ q ∈ locs, z ≤ q.base) (ha : z ≤ a) : ∀ q ∈ locs ++ [⟨a, i⟩], z ≤ q.base := by
  intro q hq
  rcases List.mem_append.mp hq with h1 | h1
  · exact h q h1
  · rw [List.mem_singleton.mp h1]
    exact ha
theorem cx_fits_takes {fl : Int32} {u : cx_V} (h : cx_fits fl u) : cx_takes fl (cx_v G u) := by
  unfold cx_fits at h
  split at h
  · rename_i x
    rcases h with h | ⟨h1, h2⟩
    · exact Or.inl ⟨h, x, rfl⟩
    · exact Or.inr (Or.inl ⟨h1, x, rfl, h2⟩)
  · exact Or.inr (Or.inr ⟨h, _, rfl⟩)
  · exact h.elim
theorem cx_nar01 {y : Int32} (h : y = 0 ∨ y = 1) : narrow .boolean (.int y) = .int y := by
  rcases h with rfl | rfl <;> decide
theorem cx_arrI {cA : ClassId} {n : Nat} {f : Nat → Int32} {i : Nat} {y : Int32} : (arrV cA n (fun j => .int (f j))).setSlot i (.int y) = arrV cA n (fun j => .int (upd f i y j)) := by
  rw [arrV_store]
  congr 2
  funext q
  by_cases h : q = i <;> simp [updV, upd, h]
theorem cx_arrL {cA : ClassId} {n : Nat} {f : Nat → Int64} {i : Nat} {y : Int64} : (arrV cA n (fun j => .long (f j))).setSlot i (.long y) = arrV cA n (fun j => .long (vp_updL f i y j)) := by
  rw [arrV_store]
  congr 2
  funext q
  by_cases h : q = i <;> simp [updV, vp_updL, h]
theorem cx_inA {cA : ClassId} {n : Nat} {f : Nat → Value} {x : Int32} (h : vp_in x n) : ¬ (x < 0 ∨ (arrV cA n f).slots.size ≤ x.toNatClampNeg) := by
  rw [arrV_size]
  exact h
theorem cx_rdA {cA : ClassId} {n : Nat} {f : Nat → Value} {x : Int32} (h : vp_in x n) : (arrV cA n f).slots[x.toNatClampNeg]? = some (f x.toNatClampNeg) := arrV_read _ _ (Nat.not_le.mp fun q => h (Or.inr q))
def cx_end0 (below : List Frame) (args : Array Value) (G : cx_G) (s : State) (k n : Nat) (free : Addr → Prop) (H : Heap) (u : Option cx_V) : State → Prop := MQ below (fun _ _ o t => o = .returned (u.map (cx_v G)) ∧ t.heap = H) args s k n free
theorem cx_ret1 {ws : List cx_C} {k n : Nat} {H : Heap} {locs : List Loc} {u : Option cx_V} {t : State} (hF : cx_F1 G mc ms ws k n H locs) (hq : Rq (.inl u) ws) (h : cx_end0 below args G s k n (fun q => (cx_H0 G).size ≤ q) H u t) : cx_Q below G s mc ms Rq t := by
  obtain ⟨o, q1, q2, ⟨q3, q4⟩, L, ⟨-, q5, q6⟩, q7⟩ := h
  refine ⟨o, .inl u, ws, q1, q2, hq, ?_, by rw [q4]; exact hF.1, q5, L, q6.mono hF.2.1.1 hF.2.1.2, q7⟩
  cases u with
  | none => exact q3
  | some u => exact q3
theorem cx_ret2 {ws : List cx_C} {k n : Nat} {H : Heap} {locs : List Loc} {u : Option cx_V} {t : State} (hF : cx_F2 G mc ms s ws k n H locs) (hq : Rq (.inl u) ws) (h : cx_end0 below args G s k n (fun _ => False) H u t) : cx_Q2 below G s mc ms Rq t := by
  obtain ⟨o, q1, q2, ⟨q3, q4⟩, L, ⟨-, q5, q6⟩, q7⟩ := h
  have hL : L = [] := by
    cases L with
    | nil => rfl
    | cons a r => exact (q7 a List.mem_cons_self).elim
  refine ⟨o, .inl u, ws, q1, q2, hq, ?_, by rw [q4]; exact hF.1, q5, L, q6.mono hF.2.1.1 hF.2.1.2, fun x hx => (q7 x hx).elim, fun _ _ => ⟨by rw [q4]; exact hF.2.2.1, hL⟩⟩
  cases u with
  | none => exact q3
  | some u => exact q3
end CXS
