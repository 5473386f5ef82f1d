section
-- ===== PART A: goes FIRST, ahead of the names: the tables' words, and 'selects' of the private methods out of them =====
/-- a private method of a class that the tables say can be made, by its rows of tables_1 -/
def lw_okq (q : MethodName × Nat) : Prop := (q.1.cls ≠ "java/lang/invoke/MethodHandle" ∧ q.1.cls ≠ "java/lang/invoke/VarHandle") ∧ Cond.instantiable q.1.cls q.2 ∈ tables_1 ∧ Cond.privateMethod q.1 ∈ tables_1 ∧ Cond.instanceMethod q.1 ∈ tables_1
theorem lw_p0 : lw_okq (⟨"CycleCutter$Net", "settle", "()V"⟩, 12) := ⟨⟨by decide +kernel, by decide +kernel⟩, List.mem_of_getElem? (i := 23) (by decide +kernel), List.mem_of_getElem? (i := 180) (by decide +kernel), List.mem_of_getElem? (i := 181) (by decide +kernel)⟩
theorem lw_p1 : lw_okq (⟨"CycleCutter$Net", "forgetWord", "(I)V"⟩, 12) := ⟨⟨by decide +kernel, by decide +kernel⟩, List.mem_of_getElem? (i := 23) (by decide +kernel), List.mem_of_getElem? (i := 184) (by decide +kernel), List.mem_of_getElem? (i := 185) (by decide +kernel)⟩
theorem lw_p2 : lw_okq (⟨"CycleCutter$Net", "settleWord", "(I)V"⟩, 12) := ⟨⟨by decide +kernel, by decide +kernel⟩, List.mem_of_getElem? (i := 23) (by decide +kernel), List.mem_of_getElem? (i := 192) (by decide +kernel), List.mem_of_getElem? (i := 193) (by decide +kernel)⟩
theorem lw_p3 : lw_okq (⟨"CycleCutter$Net", "settleGate", "(II)Z"⟩, 12) := ⟨⟨by decide +kernel, by decide +kernel⟩, List.mem_of_getElem? (i := 23) (by decide +kernel), List.mem_of_getElem? (i := 196) (by decide +kernel), List.mem_of_getElem? (i := 197) (by decide +kernel)⟩
theorem lw_p4 : lw_okq (⟨"CycleCutter$Multiplexers", "join", "(III)I"⟩, 11) := ⟨⟨by decide +kernel, by decide +kernel⟩, List.mem_of_getElem? (i := 80) (by decide +kernel), List.mem_of_getElem? (i := 216) (by decide +kernel), List.mem_of_getElem? (i := 217) (by decide +kernel)⟩
theorem lw_p5 : lw_okq (⟨"CycleCutter$Multiplexers", "addMultiplexer", "(III)I"⟩, 11) := ⟨⟨by decide +kernel, by decide +kernel⟩, List.mem_of_getElem? (i := 80) (by decide +kernel), List.mem_of_getElem? (i := 220) (by decide +kernel), List.mem_of_getElem? (i := 221) (by decide +kernel)⟩
theorem lw_p6 : lw_okq (⟨"java/lang/Throwable", "fillInStackTrace", "(I)Ljava/lang/Throwable;"⟩, 6) := ⟨⟨by decide +kernel, by decide +kernel⟩, List.mem_of_getElem? (i := 285) (by decide +kernel), List.mem_of_getElem? (i := 283) (by decide +kernel), List.mem_of_getElem? (i := 284) (by decide +kernel)⟩
theorem lw_p7 : lw_okq (⟨"CycleCutter$Net", "fixInput", "(II)V"⟩, 12) := ⟨⟨by decide +kernel, by decide +kernel⟩, List.mem_of_getElem? (i := 23) (by decide +kernel), List.mem_of_getElem? (i := 319) (by decide +kernel), List.mem_of_getElem? (i := 320) (by decide +kernel)⟩
theorem lw_p8 : lw_okq (⟨"CycleCutter", "requireLaidOut", "(I)V"⟩, 4) := ⟨⟨by decide +kernel, by decide +kernel⟩, List.mem_of_getElem? (i := 15) (by decide +kernel), List.mem_of_getElem? (i := 390) (by decide +kernel), List.mem_of_getElem? (i := 391) (by decide +kernel)⟩
theorem lw_p9 : lw_okq (⟨"CycleCutter$Multiplexers", "follow", "(II)I"⟩, 11) := ⟨⟨by decide +kernel, by decide +kernel⟩, List.mem_of_getElem? (i := 80) (by decide +kernel), List.mem_of_getElem? (i := 407) (by decide +kernel), List.mem_of_getElem? (i := 408) (by decide +kernel)⟩
theorem lw_p10 : lw_okq (⟨"CycleCutterModel", "fails", "(ZZ)Z"⟩, 21) := ⟨⟨by decide +kernel, by decide +kernel⟩, List.mem_of_getElem? (i := 479) (by decide +kernel), List.mem_of_getElem? (i := 557) (by decide +kernel), List.mem_of_getElem? (i := 558) (by decide +kernel)⟩
theorem lw_p11 : lw_okq (⟨"CycleCutterModel", "isGate", "(I)Z"⟩, 21) := ⟨⟨by decide +kernel, by decide +kernel⟩, List.mem_of_getElem? (i := 479) (by decide +kernel), List.mem_of_getElem? (i := 565) (by decide +kernel), List.mem_of_getElem? (i := 566) (by decide +kernel)⟩
theorem lw_p12 : lw_okq (⟨"CycleCutterModel", "spread", "(I)V"⟩, 21) := ⟨⟨by decide +kernel, by decide +kernel⟩, List.mem_of_getElem? (i := 479) (by decide +kernel), List.mem_of_getElem? (i := 581) (by decide +kernel), List.mem_of_getElem? (i := 582) (by decide +kernel)⟩
theorem lw_p13 : lw_okq (⟨"CycleCutterModel", "made", "(I)I"⟩, 21) := ⟨⟨by decide +kernel, by decide +kernel⟩, List.mem_of_getElem? (i := 479) (by decide +kernel), List.mem_of_getElem? (i := 585) (by decide +kernel), List.mem_of_getElem? (i := 586) (by decide +kernel)⟩
theorem lw_p14 : lw_okq (⟨"CycleCutterModel", "empty", "(I)V"⟩, 21) := ⟨⟨by decide +kernel, by decide +kernel⟩, List.mem_of_getElem? (i := 479) (by decide +kernel), List.mem_of_getElem? (i := 593) (by decide +kernel), List.mem_of_getElem? (i := 594) (by decide +kernel)⟩
theorem lw_p15 : lw_okq (⟨"CycleCutterModel", "set", "(II)V"⟩, 21) := ⟨⟨by decide +kernel, by decide +kernel⟩, List.mem_of_getElem? (i := 479) (by decide +kernel), List.mem_of_getElem? (i := 597) (by decide +kernel), List.mem_of_getElem? (i := 598) (by decide +kernel)⟩
def lw_privs_1 : List (MethodName × Nat) := [(⟨"CycleCutter$Net", "settle", "()V"⟩, 12), (⟨"CycleCutter$Net", "forgetWord", "(I)V"⟩, 12), (⟨"CycleCutter$Net", "settleWord", "(I)V"⟩, 12), (⟨"CycleCutter$Net", "settleGate", "(II)Z"⟩, 12), (⟨"CycleCutter$Multiplexers", "join", "(III)I"⟩, 11), (⟨"CycleCutter$Multiplexers", "addMultiplexer", "(III)I"⟩, 11), (⟨"java/lang/Throwable", "fillInStackTrace", "(I)Ljava/lang/Throwable;"⟩, 6), (⟨"CycleCutter$Net", "fixInput", "(II)V"⟩, 12), (⟨"CycleCutter", "requireLaidOut", "(I)V"⟩, 4), (⟨"CycleCutter$Multiplexers", "follow", "(II)I"⟩, 11), (⟨"CycleCutterModel", "fails", "(ZZ)Z"⟩, 21), (⟨"CycleCutterModel", "isGate", "(I)Z"⟩, 21), (⟨"CycleCutterModel", "spread", "(I)V"⟩, 21), (⟨"CycleCutterModel", "made", "(I)I"⟩, 21), (⟨"CycleCutterModel", "empty", "(I)V"⟩, 21), (⟨"CycleCutterModel", "set", "(II)V"⟩, 21)]
theorem lw_r1 : ∀ q ∈ lw_privs_1, lw_okq q := List.forall_mem_cons.mpr ⟨lw_p0, List.forall_mem_cons.mpr ⟨lw_p1, List.forall_mem_cons.mpr ⟨lw_p2, List.forall_mem_cons.mpr ⟨lw_p3, List.forall_mem_cons.mpr ⟨lw_p4, List.forall_mem_cons.mpr ⟨lw_p5, List.forall_mem_cons.mpr ⟨lw_p6, List.forall_mem_cons.mpr ⟨lw_p7, List.forall_mem_cons.mpr ⟨lw_p8, List.forall_mem_cons.mpr ⟨lw_p9, List.forall_mem_cons.mpr ⟨lw_p10, List.forall_mem_cons.mpr ⟨lw_p11, List.forall_mem_cons.mpr ⟨lw_p12, List.forall_mem_cons.mpr ⟨lw_p13, List.forall_mem_cons.mpr ⟨lw_p14, List.forall_mem_cons.mpr ⟨lw_p15, fun _ h => absurd h List.not_mem_nil⟩⟩⟩⟩⟩⟩⟩⟩⟩⟩⟩⟩⟩⟩⟩⟩
theorem lw_p16 : lw_okq (⟨"CycleCutterModel", "number", "()I"⟩, 21) := ⟨⟨by decide +kernel, by decide +kernel⟩, List.mem_of_getElem? (i := 479) (by decide +kernel), List.mem_of_getElem? (i := 601) (by decide +kernel), List.mem_of_getElem? (i := 602) (by decide +kernel)⟩
theorem lw_p17 : lw_okq (⟨"CycleCutterModel", "depends", "(I)I"⟩, 21) := ⟨⟨by decide +kernel, by decide +kernel⟩, List.mem_of_getElem? (i := 479) (by decide +kernel), List.mem_of_getElem? (i := 605) (by decide +kernel), List.mem_of_getElem? (i := 606) (by decide +kernel)⟩
theorem lw_p18 : lw_okq (⟨"CycleCutterModel", "truth", "(II)Z"⟩, 21) := ⟨⟨by decide +kernel, by decide +kernel⟩, List.mem_of_getElem? (i := 479) (by decide +kernel), List.mem_of_getElem? (i := 609) (by decide +kernel), List.mem_of_getElem? (i := 610) (by decide +kernel)⟩
theorem lw_p19 : lw_okq (⟨"CycleCutterModel", "same", "(II)Z"⟩, 21) := ⟨⟨by decide +kernel, by decide +kernel⟩, List.mem_of_getElem? (i := 479) (by decide +kernel), List.mem_of_getElem? (i := 613) (by decide +kernel), List.mem_of_getElem? (i := 614) (by decide +kernel)⟩
theorem lw_p20 : lw_okq (⟨"CycleCutterModel", "fix", "(III)V"⟩, 21) := ⟨⟨by decide +kernel, by decide +kernel⟩, List.mem_of_getElem? (i := 479) (by decide +kernel), List.mem_of_getElem? (i := 617) (by decide +kernel), List.mem_of_getElem? (i := 618) (by decide +kernel)⟩
theorem lw_p21 : lw_okq (⟨"CycleCutterModel", "refuses", "(II)Z"⟩, 21) := ⟨⟨by decide +kernel, by decide +kernel⟩, List.mem_of_getElem? (i := 479) (by decide +kernel), List.mem_of_getElem? (i := 625) (by decide +kernel), List.mem_of_getElem? (i := 626) (by decide +kernel)⟩
theorem lw_p22 : lw_okq (⟨"CycleCutterModel", "reach", "(I)I"⟩, 21) := ⟨⟨by decide +kernel, by decide +kernel⟩, List.mem_of_getElem? (i := 479) (by decide +kernel), List.mem_of_getElem? (i := 641) (by decide +kernel), List.mem_of_getElem? (i := 642) (by decide +kernel)⟩
def lw_privs_2 : List (MethodName × Nat) := [(⟨"CycleCutterModel", "number", "()I"⟩, 21), (⟨"CycleCutterModel", "depends", "(I)I"⟩, 21), (⟨"CycleCutterModel", "truth", "(II)Z"⟩, 21), (⟨"CycleCutterModel", "same", "(II)Z"⟩, 21), (⟨"CycleCutterModel", "fix", "(III)V"⟩, 21), (⟨"CycleCutterModel", "refuses", "(II)Z"⟩, 21), (⟨"CycleCutterModel", "reach", "(I)I"⟩, 21)]
theorem lw_r2 : ∀ q ∈ lw_privs_2, lw_okq q := List.forall_mem_cons.mpr ⟨lw_p16, List.forall_mem_cons.mpr ⟨lw_p17, List.forall_mem_cons.mpr ⟨lw_p18, List.forall_mem_cons.mpr ⟨lw_p19, List.forall_mem_cons.mpr ⟨lw_p20, List.forall_mem_cons.mpr ⟨lw_p21, List.forall_mem_cons.mpr ⟨lw_p22, fun _ h => absurd h List.not_mem_nil⟩⟩⟩⟩⟩⟩⟩
def lw_privs : List (MethodName × Nat) := lw_privs_1 ++ (lw_privs_2)
def lw_tbl : List Cond := k2_sels lw_privs ++ tables_1
theorem lw_privs_ok : ∀ q ∈ lw_privs, lw_okq q := by
  show ∀ q ∈ lw_privs_1 ++ (lw_privs_2), lw_okq q
  exact List.forall_mem_append.mpr ⟨lw_r1, lw_r2⟩
end
section
/-! An abstract machine over a numbered world. A value: an int, a long, a cell's number, a row of a grid (its cell's number, the row), or a raw value. A cell: an object (its class's place, its fields), ints, booleans, longs, a grid of longs. -/
abbrev cx_V : Type := Int32 ⊕ (Int64 ⊕ (Nat ⊕ ((Nat × Nat) ⊕ Value)))
abbrev cx_C : Type := (Nat × List cx_V) ⊕ ((Nat × (Nat → Int32)) ⊕ ((Nat × (Nat → Int32)) ⊕ ((Nat × (Nat → Int64)) ⊕ (Nat × Nat × (Nat → Nat → Int64)))))
abbrev cx_L : Type := List (Option cx_V)
abbrev cx_K : Type := Nat → cx_L → List cx_V → List cx_C → Nat → Nat → Prop
abbrev cx_O : Type := Option cx_V ⊕ String
abbrev cx_R : Type := cx_O → List cx_C → Prop
abbrev cx_S : Type := List cx_V → List cx_C → cx_R → Prop
abbrev cx_E : Type := Instr × Int32 × Int64 × Nat × Nat × Nat
/-- two words -/
def cx_wd (v : cx_V) : Bool := match v with
  | .inl _ => false
  | .inr (.inl _) => true
  | .inr (.inr (.inl _)) => false
  | .inr (.inr (.inr (.inl _))) => false
  | .inr (.inr (.inr (.inr v))) => v.category == 2
def cx_clob (lv : cx_L) (i : Nat) : cx_L := match i with
  | 0 => lv
  | j + 1 => match lv[j]? with
    | some (some w) => (match cx_wd w with
      | true => lv.set j none
      | false => lv)
    | _ => lv
def cx_put1 (lv : cx_L) (i : Nat) (v : cx_V) : cx_L := (cx_clob lv i).set i (some v)
def cx_put2 (lv : cx_L) (i : Nat) (v : cx_V) : cx_L := ((cx_clob lv i).set i (some v)).set (i + 1) none
def cx_ldi (lv : cx_L) (a : Nat) (k : Int32 → Prop) : Prop := match lv[a]? with
  | some (some (.inl x)) => k x
  | _ => False
def cx_ldl (lv : cx_L) (a : Nat) (k : Int64 → Prop) : Prop := match lv[a]? with
  | some (some (.inr (.inl x))) => k x
  | _ => False
def cx_lda (lv : cx_L) (a : Nat) (k : cx_V → Prop) : Prop := match lv[a]? with
  | some (some (.inr (.inr (.inl j)))) => k (.inr (.inr (.inl j)))
  | some (some (.inr (.inr (.inr (.inl q))))) => k (.inr (.inr (.inr (.inl q))))
  | _ => False
def cx_i1 (st : List cx_V) (k : Int32 → List cx_V → Prop) : Prop := match st with
  | .inl x :: r => k x r
  | _ => False
def cx_l1 (st : List cx_V) (k : Int64 → List cx_V → Prop) : Prop := match st with
  | .inr (.inl x) :: r => k x r
  | _ => False
def cx_ii (st : List cx_V) (k : Int32 → Int32 → List cx_V → Prop) : Prop := match st with
  | .inl y :: .inl x :: r => k x y r
  | _ => False
def cx_ll (st : List cx_V) (k : Int64 → Int64 → List cx_V → Prop) : Prop := match st with
  | .inr (.inl y) :: .inr (.inl x) :: r => k x y r
  | _ => False
def cx_li (st : List cx_V) (k : Int64 → Int32 → List cx_V → Prop) : Prop := match st with
  | .inl y :: .inr (.inl x) :: r => k x y r
  | _ => False
def cx_a1 (st : List cx_V) (k : cx_V → List cx_V → Prop) : Prop := match st with
  | .inr (.inr (.inl j)) :: r => k (.inr (.inr (.inl j))) r
  | .inr (.inr (.inr (.inl q))) :: r => k (.inr (.inr (.inr (.inl q)))) r
  | _ => False
def cx_obj (ws : List cx_C) (j ci : Nat) (k : List cx_V → Prop) : Prop := match ws[j]? with
  | some (.inl o) => (match Nat.beq o.1 ci with
    | true => k o.2
    | false => False)
  | _ => False
def cx_fld (fs : List cx_V) (b : Nat) (k : cx_V → Prop) : Prop := match fs[b]? with
  | some u => k u
  | none => False
/-- what a field takes: v = 1: a boolean's 0 or 1; 2: a reference; else an int -/
def cx_fits (v : Int32) (u : cx_V) : Prop := match u with
  | .inl x => v = 0 ∨ (v = 1 ∧ (x = 0 ∨ x = 1))
  | .inr (.inr (.inl _)) => v = 2
  | _ => False
def cx_swl (x : Int32) (k : Nat) (ts : List Nat) (J : Nat → Prop) : Prop := match ts with
  | [] => True
  | t :: r => (x = nI k → J t) ∧ cx_swl x (k + 1) r J
def cx_cats (st : List cx_V) : Nat := match st with
  | [] => 0
  | v :: r => (match cx_wd v with
    | true => 2
    | false => 1) + cx_cats r
/-- a call's end -/
def cx_end (pc : Nat) (lv : cx_L) (r : List cx_V) (c s : Nat) (K : cx_K) (R : cx_R) : cx_R := fun o ws => match o with
  | .inl none => K pc lv r ws c s
  | .inl (some u) => K pc lv (u :: r) ws c s
  | .inr e => R (.inr e) ws
def cx_cmp0 (c : Jvm.ClassFile.Cond) (x : Int32) (A B : Prop) : Prop := match c with
  | .eq => (x = 0 → A) ∧ (¬ x = 0 → B)
  | .ne => (¬ x = 0 → A) ∧ (x = 0 → B)
  | .lt => (x < 0 → A) ∧ (¬ x < 0 → B)
  | .ge => (0 ≤ x → A) ∧ (¬ 0 ≤ x → B)
  | .gt => (0 < x → A) ∧ (¬ 0 < x → B)
  | .le => (x ≤ 0 → A) ∧ (¬ x ≤ 0 → B)
def cx_cmp2 (c : Jvm.ClassFile.Cond) (x y : Int32) (A B : Prop) : Prop := match c with
  | .eq => (x = y → A) ∧ (¬ x = y → B)
  | .ne => (¬ x = y → A) ∧ (x = y → B)
  | .lt => (x < y → A) ∧ (¬ x < y → B)
  | .ge => (y ≤ x → A) ∧ (¬ y ≤ x → B)
  | .gt => (y < x → A) ∧ (¬ y < x → B)
  | .le => (x ≤ y → A) ∧ (¬ x ≤ y → B)
def cx_p1 (st : List cx_V) (k : Nat → List cx_V → Prop) : Prop := match st with
  | .inr (.inr (.inl j)) :: r => k j r
  | _ => False
def cx_pu (st : List cx_V) (k : cx_V → Nat → List cx_V → Prop) : Prop := match st with
  | u :: .inr (.inr (.inl j)) :: r => k u j r
  | _ => False
def cx_pi (st : List cx_V) (k : Int32 → Nat → List cx_V → Prop) : Prop := match st with
  | .inl x :: .inr (.inr (.inl j)) :: r => k x j r
  | _ => False
def cx_pii (st : List cx_V) (k : Int32 → Int32 → Nat → List cx_V → Prop) : Prop := match st with
  | .inl y :: .inl x :: .inr (.inr (.inl j)) :: r => k y x j r
  | _ => False
def cx_pig (st : List cx_V) (k1 : Int32 → Nat → List cx_V → Prop) (k2 : Int32 → Nat → Nat → List cx_V → Prop) : Prop := match st with
  | .inl x :: .inr (.inr (.inl j)) :: r => k1 x j r
  | .inl x :: .inr (.inr (.inr (.inl q))) :: r => k2 x q.1 q.2 r
  | _ => False
def cx_ints (ws : List cx_C) (j : Nat) (k : Nat → (Nat → Int32) → Prop) : Prop := match ws[j]? with
  | some (.inr (.inl q)) => k q.1 q.2
  | _ => False
def cx_bools (ws : List cx_C) (j : Nat) (k : Nat → (Nat → Int32) → Prop) : Prop := match ws[j]? with
  | some (.inr (.inr (.inl q))) => k q.1 q.2
  | _ => False
def cx_longs (ws : List cx_C) (j : Nat) (k : Nat → (Nat → Int64) → Prop) : Prop := match ws[j]? with
  | some (.inr (.inr (.inr (.inl q)))) => k q.1 q.2
  | _ => False
def cx_grid (ws : List cx_C) (j : Nat) (k : Nat → Nat → (Nat → Nat → Int64) → Prop) : Prop := match ws[j]? with
  | some (.inr (.inr (.inr (.inr q)))) => k q.1 q.2.1 q.2.2
  | _ => False
def cx_u1 (st : List cx_V) (k : cx_V → List cx_V → Prop) : Prop := match st with
  | u :: r => (match cx_wd u with
    | true => False
    | false => k u r)
  | _ => False
def cx_sw (Sw : List (Nat × List Nat)) (a : Nat) (k : Nat → List Nat → Prop) : Prop := match Sw[a]? with
  | some q => k q.1 q.2
  | none => False
def cx_ir (st : List cx_V) (k : Int32 → Prop) : Prop := match st with
  | [.inl x] => k x
  | _ => False
def cx_ar (st : List cx_V) (k : cx_V → Prop) : Prop := match st with
  | [.inr (.inr (.inl j))] => k (.inr (.inr (.inl j)))
  | [.inr (.inr (.inr (.inl q)))] => k (.inr (.inr (.inr (.inl q))))
  | _ => False
def cx_vr (st : List cx_V) (k : Prop) : Prop := match st with
  | [] => k
  | _ => False
/-- the first n places of a list, worked out -/
def cx_fo {α : Type} (n : Nat) (l : List α) (k : List α → Prop) : Prop := match n with
  | 0 => k l
  | n + 1 => match l with
    | [] => k []
    | a :: r => cx_fo n r (fun r => k (a :: r))
/-- what a call asks: its contract, its arguments there, room -/
def cx_go (Sp : List (cx_S × Nat × Nat × Nat)) (a mc ms : Nat) (st : List cx_V) (c s : Nat) (k : cx_S → Nat → Nat → Nat → Prop) : Prop := match Sp[a]? with
  | some q => (match Nat.ble (c + q.2.2.1) mc && (Nat.ble (s + q.2.2.2) ms && (Nat.ble q.2.1 st.length && Nat.ble (cx_cats (st.drop q.2.1)) 8)) with
    | true => k q.1 q.2.1 q.2.2.1 q.2.2.2
    | false => False)
  | none => False
def cx_thr (Ex : List String) (a mc ms c s : Nat) (k : String → Prop) : Prop := match Ex[a]? with
  | some x => (match Nat.beq c 0 && (Nat.beq s 0 && (Nat.ble 1 mc && Nat.ble 6 ms)) with
    | true => k x
    | false => False)
  | none => False
/-- one instruction. Sp: what is called (contract, how many arguments, cells, slots); Ex: what is thrown; Sw: the switches' targets (default, the others from 0 on); rc, rs: the room; mc, ms: what the method may have made at its end -/
def cx_1 (Sp : List (cx_S × Nat × Nat × Nat)) (Ex : List String) (Sw : List (Nat × List Nat)) (mc ms : Nat) (en : cx_E) (lv : cx_L) (st : List cx_V) (ws : List cx_C) (c s : Nat) (K : cx_K) (R : cx_R) : Prop :=
  match en with
  | (i, v, w, a, b, nx) => match i with
    | .iconst _ => K nx lv (.inl v :: st) ws c s
    | .bipush _ => K nx lv (.inl v :: st) ws c s
    | .sipush _ => K nx lv (.inl v :: st) ws c s
    | .lconst _ => K nx lv (.inr (.inl w) :: st) ws c s
    | .ldc2_w _ => K nx lv (.inr (.inl w) :: st) ws c s
    | .iload_n _ => cx_ldi lv a (fun x => K nx lv (.inl x :: st) ws c s)
    | .iload _ => cx_ldi lv a (fun x => K nx lv (.inl x :: st) ws c s)
    | .lload_n _ => cx_ldl lv a (fun x => K nx lv (.inr (.inl x) :: st) ws c s)
    | .lload _ => cx_ldl lv a (fun x => K nx lv (.inr (.inl x) :: st) ws c s)
    | .aload_n _ => cx_lda lv a (fun x => K nx lv (x :: st) ws c s)
    | .aload _ => cx_lda lv a (fun x => K nx lv (x :: st) ws c s)
    | .istore_n _ => cx_i1 st (fun x r => cx_fo (a + 1) (cx_put1 lv a (.inl x)) (fun lv => K nx lv r ws c s))
    | .istore _ => cx_i1 st (fun x r => cx_fo (a + 1) (cx_put1 lv a (.inl x)) (fun lv => K nx lv r ws c s))
    | .lstore_n _ => cx_l1 st (fun x r => cx_fo (a + 2) (cx_put2 lv a (.inr (.inl x))) (fun lv => K nx lv r ws c s))
    | .lstore _ => cx_l1 st (fun x r => cx_fo (a + 2) (cx_put2 lv a (.inr (.inl x))) (fun lv => K nx lv r ws c s))
    | .astore_n _ => cx_a1 st (fun x r => cx_fo (a + 1) (cx_put1 lv a x) (fun lv => K nx lv r ws c s))
    | .astore _ => cx_a1 st (fun x r => cx_fo (a + 1) (cx_put1 lv a x) (fun lv => K nx lv r ws c s))
    | .iinc _ _ => cx_ldi lv a (fun x => cx_fo (a + 1) (cx_put1 lv a (.inl (x + v))) (fun lv => K nx lv st ws c s))
    | .iadd => cx_ii st (fun x y r => K nx lv (.inl (x + y) :: r) ws c s)
    | .isub => cx_ii st (fun x y r => K nx lv (.inl (x - y) :: r) ws c s)
    | .imul => cx_ii st (fun x y r => K nx lv (.inl (x * y) :: r) ws c s)
    | .iand => cx_ii st (fun x y r => K nx lv (.inl (x &&& y) :: r) ws c s)
    | .ior => cx_ii st (fun x y r => K nx lv (.inl (x ||| y) :: r) ws c s)
    | .ixor => cx_ii st (fun x y r => K nx lv (.inl (x ^^^ y) :: r) ws c s)
    | .ishl => cx_ii st (fun x y r => K nx lv (.inl (x <<< (y &&& 31)) :: r) ws c s)
    | .ishr => cx_ii st (fun x y r => K nx lv (.inl (x >>> (y &&& 31)) :: r) ws c s)
    | .idiv => cx_ii st (fun x y r => ¬ y = 0 ∧ K nx lv (.inl (x / y) :: r) ws c s)
    | .irem => cx_ii st (fun x y r => ¬ y = 0 ∧ K nx lv (.inl (x - x / y * y) :: r) ws c s)
    | .land => cx_ll st (fun x y r => K nx lv (.inr (.inl (x &&& y)) :: r) ws c s)
    | .lor => cx_ll st (fun x y r => K nx lv (.inr (.inl (x ||| y)) :: r) ws c s)
    | .lxor => cx_ll st (fun x y r => K nx lv (.inr (.inl (x ^^^ y)) :: r) ws c s)
    | .ladd => cx_ll st (fun x y r => K nx lv (.inr (.inl (x + y)) :: r) ws c s)
    | .lsub => cx_ll st (fun x y r => K nx lv (.inr (.inl (x - y)) :: r) ws c s)
    | .lcmp => cx_ll st (fun x y r => K nx lv (.inl (lg_cmp x y) :: r) ws c s)
    | .lshl => cx_li st (fun x y r => K nx lv (.inr (.inl (x <<< (y.toInt64 &&& 63))) :: r) ws c s)
    | .lushr => cx_li st (fun x y r => K nx lv (.inr (.inl (x.toUInt64 >>> (y.toInt64.toUInt64 &&& Int64.toUInt64 63)).toInt64) :: r) ws c s)
    | .lshr => cx_li st (fun x y r => K nx lv (.inr (.inl (x >>> (y.toInt64 &&& 63))) :: r) ws c s)
    | .i2l => cx_i1 st (fun x r => K nx lv (.inr (.inl x.toInt64) :: r) ws c s)
    | .l2i => cx_l1 st (fun x r => K nx lv (.inl x.toInt32 :: r) ws c s)
    | .dup => cx_u1 st (fun u r => K nx lv (u :: u :: r) ws c s)
    | .pop => cx_u1 st (fun _ r => K nx lv r ws c s)
    | .dup2 => cx_u1 st (fun u q => cx_u1 q (fun u2 r => K nx lv (u :: u2 :: u :: u2 :: r) ws c s))
    | .ifCond q _ => cx_i1 st (fun x r => cx_cmp0 q x (K a lv r ws c s) (K nx lv r ws c s))
    | .if_icmp q _ => cx_ii st (fun x y r => cx_cmp2 q x y (K a lv r ws c s) (K nx lv r ws c s))
    | .goto _ => K a lv st ws c s
    | .getfield _ => cx_p1 st (fun j r => cx_obj ws j a (fun fs => cx_fld fs b (fun u => K nx lv (u :: r) ws c s)))
    | .putfield _ => cx_pu st (fun u j r => cx_obj ws j a (fun fs => cx_fld fs b (fun _ => cx_fits v u ∧ cx_fo (b + 1) (fs.set b u) (fun fs => cx_fo (j + 1) (ws.set j (.inl (a, fs))) (fun ws => K nx lv r ws c s)))))
    | .iaload => cx_pi st (fun x j r => cx_ints ws j (fun n f => vp_in x n ∧ K nx lv (.inl (f x.toNatClampNeg) :: r) ws c s))
    | .iastore => cx_pii st (fun y x j r => cx_ints ws j (fun n f => vp_in x n ∧ cx_fo (j + 1) (ws.set j (.inr (.inl (n, upd f x.toNatClampNeg y)))) (fun ws => K nx lv r ws c s)))
    | .baload => cx_pi st (fun x j r => cx_bools ws j (fun n f => vp_in x n ∧ K nx lv (.inl (f x.toNatClampNeg) :: r) ws c s))
    | .bastore => cx_pii st (fun y x j r => cx_bools ws j (fun n f => (vp_in x n ∧ (y = 0 ∨ y = 1)) ∧ cx_fo (j + 1) (ws.set j (.inr (.inr (.inl (n, upd f x.toNatClampNeg y))))) (fun ws => K nx lv r ws c s)))
    | .laload => cx_pig st
        (fun x j r => cx_longs ws j (fun n f => vp_in x n ∧ K nx lv (.inr (.inl (f x.toNatClampNeg)) :: r) ws c s))
        (fun x j g r => cx_grid ws j (fun n k f => (g < n ∧ vp_in x k) ∧ K nx lv (.inr (.inl (f g x.toNatClampNeg)) :: r) ws c s))
    | .lastore => cx_l1 st (fun y q => cx_pig q
        (fun x j r => cx_longs ws j (fun n f => vp_in x n ∧ cx_fo (j + 1) (ws.set j (.inr (.inr (.inr (.inl (n, vp_updL f x.toNatClampNeg y)))))) (fun ws => K nx lv r ws c s)))
        (fun x j g r => cx_grid ws j (fun n k f => (g < n ∧ vp_in x k) ∧ cx_fo (j + 1) (ws.set j (.inr (.inr (.inr (.inr (n, k, va_up f g (vp_updL (f g) x.toNatClampNeg y))))))) (fun ws => K nx lv r ws c s))))
    | .aaload => cx_pi st (fun x j r => cx_grid ws j (fun n _ _ => vp_in x n ∧ K nx lv (.inr (.inr (.inr (.inl (j, x.toNatClampNeg)))) :: r) ws c s))
    | .tableswitch _ _ _ _ => cx_i1 st (fun x r => cx_sw Sw a (fun d ts => (x.toInt < 0 ∨ (ts.length : Int) ≤ x.toInt → K d lv r ws c s) ∧ cx_swl x 0 ts (fun t => K t lv r ws c s)))
    | .ireturn => cx_ir st (fun x => (v = 1 → x = 0 ∨ x = 1) ∧ R (.inl (some (.inl x))) ws)
    | .areturn => cx_ar st (fun u => R (.inl (some u)) ws)
    | .return_ => cx_vr st (R (.inl none) ws)
    | .invokevirtual _ => cx_go Sp a mc ms st c s (fun f n kc ks => f (st.take n).reverse ws (cx_end nx lv (st.drop n) (c + kc) (s + ks) K R))
    | .invokestatic _ => cx_go Sp a mc ms st c s (fun f n kc ks => f (st.take n).reverse ws (cx_end nx lv (st.drop n) (c + kc) (s + ks) K R))
    | .new _ => cx_vr st (cx_thr Ex a mc ms c s (fun x => R (.inr x) ws))
    | _ => False
def cx_get (T : List (Nat × cx_E)) (pc : Nat) : Option cx_E := match T with
  | [] => none
  | q :: r => (match Nat.beq q.1 pc with
    | true => some q.2
    | false => cx_get r pc)
def cx_stop (P : List Nat) (pc : Nat) : Bool := match P with
  | [] => false
  | q :: r => (match Nat.beq q pc with
    | true => true
    | false => cx_stop r pc)
/-- n instructions, or till a pc among P is reached -/
def cx_ax (T : List (Nat × cx_E)) (Sp : List (cx_S × Nat × Nat × Nat)) (Ex : List String) (Sw : List (Nat × List Nat)) (mc ms : Nat) (P : List Nat) (R : cx_R) (K : cx_K) (n : Nat) (pc : Nat) (lv : cx_L) (st : List cx_V) (ws : List cx_C) (c s : Nat) : Prop := match n with
  | 0 => K pc lv st ws c s
  | n + 1 => match cx_get T pc with
    | some en => cx_1 Sp Ex Sw mc ms en lv st ws c s (fun pc lv st ws c s => match cx_stop P pc with
      | true => K pc lv st ws c s
      | false => cx_ax T Sp Ex Sw mc ms P R K n pc lv st ws c s) R
    | none => False
end
section
/-! What the abstract machine's worlds are on the heap. -/
abbrev cx_G : Type := va_G × List vw_C × (Nat → Nat) × (Nat → Nat → Nat) × (Nat → ClassId) × Nat × (Nat → Nat) × Heap
abbrev cx_D (G : cx_G) : va_G := G.1
abbrev cx_cl (G : cx_G) : List vw_C := G.2.1
abbrev cx_ad (G : cx_G) : Nat → Nat := G.2.2.1
abbrev cx_rd (G : cx_G) : Nat → Nat → Nat := G.2.2.2.1
abbrev cx_tc (G : cx_G) : Nat → ClassId := G.2.2.2.2.1
abbrev cx_N (G : cx_G) : Nat := G.2.2.2.2.2.1
abbrev cx_gl (G : cx_G) : Nat → Nat := G.2.2.2.2.2.2.1
abbrev cx_H0 (G : cx_G) : Heap := G.2.2.2.2.2.2.2
def cx_v (G : cx_G) (v : cx_V) : Value := match v with
  | .inl x => .int x
  | .inr (.inl x) => .long x
  | .inr (.inr (.inl k)) => .ref (cx_ad G k)
  | .inr (.inr (.inr (.inl q))) => .ref (cx_rd G q.1 q.2)
  | .inr (.inr (.inr (.inr v))) => v
theorem cx_v_cat (G : cx_G) (v : cx_V) : ((cx_v G v).category == 2) = cx_wd v := by
  rcases v with x | x | x | x | x <;> rfl
theorem cx_cat1 {G : cx_G} {u : cx_V} (h : cx_wd u = false) : (cx_v G u).category = 1 := by
  have h2 := cx_v_cat G u
  rw [h] at h2
  rcases lv_cat (cx_v G u) with q | q
  · exact q
  · rw [q] at h2
    cases h2
theorem cx_cats_eq (G : cx_G) (st : List cx_V) : ((st.map (cx_v G)).map fun v => v.category).sum = cx_cats st := by
  induction st with
  | nil => rfl
  | cons v r ih =>
    simp only [List.map_cons, List.sum_cons, ih, cx_cats]
    congr 1
    rcases v with x | x | x | x | x
    · rfl
    · rfl
    · rfl
    · rfl
    · show x.category = _
      rcases lv_cat x with h | h <;> simp [cx_wd, h]
def cx_okG (G : cx_G) : Prop :=
  (∀ i j, i < cx_N G → j < cx_N G → cx_ad G i = cx_ad G j → i = j) ∧
  (∀ i a j b, a < cx_gl G i → b < cx_gl G j → cx_rd G i a = cx_rd G j b → i = j ∧ a = b) ∧
  (∀ i j b, i < cx_N G → b < cx_gl G j → cx_ad G i ≠ cx_rd G j b) ∧
  (∀ i, i < cx_N G → (cx_H0 G).size ≤ cx_ad G i) ∧ (∀ j b, b < cx_gl G j → (cx_H0 G).size ≤ cx_rd G j b)
def cx_at (G : cx_G) (j : Nat) (c : cx_C) (H : Heap) : Prop := match c with
  | .inl o => va_at (cx_D G) (cx_cl G) (cx_ad G j, .inr (o.1, o.2.map (cx_v G))) H
  | .inr (.inl a) => H[cx_ad G j]? = some (arrV (cx_tc G 0) a.1 (fun i => .int (a.2 i)))
  | .inr (.inr (.inl a)) => H[cx_ad G j]? = some (arrV (cx_tc G 1) a.1 (fun i => .int (a.2 i)))
  | .inr (.inr (.inr (.inl a))) => H[cx_ad G j]? = some (arrV (cx_tc G 2) a.1 (fun i => .long (a.2 i)))
  | .inr (.inr (.inr (.inr a))) => a.1 ≤ cx_gl G j ∧ H[cx_ad G j]? = some (arrV (cx_tc G 3) a.1 (fun i => .ref (cx_rd G j i))) ∧ ∀ i, i < a.1 → H[cx_rd G j i]? = some (arrV (cx_tc G 2) a.2.1 (fun x => .long (a.2.2 i x)))
def cx_P (G : cx_G) (ws : List cx_C) (H : Heap) : Prop := (∀ j c, ws[j]? = some c → j < cx_N G ∧ cx_at G j c H) ∧ (cx_H0 G).size ≤ H.size ∧ (∀ q : Nat, q < (cx_H0 G).size → H[q]? = (cx_H0 G)[q]?) ∧ ∀ (q : Nat) (cell : Cell), (cx_H0 G).size ≤ q → H[q]? = some cell → cell.vm = .none
theorem cx_at.vm {G : cx_G} {j : Nat} {c : cx_C} {H : Heap} {cell : Cell} (h : cx_at G j c H) (hc : H[cx_ad G j]? = some cell) : cell.vm = .none := by
  rcases c with o | a | a | a | a
  · obtain ⟨r, h1, cell', q1, q2, q3, q4⟩ := h
    cases (show some cell' = some cell from q1.symm.trans hc)
    exact q3
  · cases (show some _ = some cell from Eq.trans (Eq.symm h) hc)
    rfl
  · cases (show some _ = some cell from Eq.trans (Eq.symm h) hc)
    rfl
  · cases (show some _ = some cell from Eq.trans (Eq.symm h) hc)
    rfl
  · cases (show some _ = some cell from Eq.trans (Eq.symm h.2.1) hc)
    rfl
theorem cx_at.kept {G : cx_G} {j : Nat} {c : cx_C} {H H' : Heap} (h : cx_at G j c H) (h1 : H'[cx_ad G j]? = H[cx_ad G j]?) (h2 : ∀ i, i < cx_gl G j → H'[cx_rd G j i]? = H[cx_rd G j i]?) : cx_at G j c H' := by
  rcases c with o | a | a | a | a
  · exact va_at.kept (D := cx_D G) (cl := cx_cl G) (q := (cx_ad G j, .inr (o.1, o.2.map (cx_v G)))) h h1
  · exact h1.trans h
  · exact h1.trans h
  · exact h1.trans h
  · obtain ⟨q1, q2, q3⟩ := h
    exact ⟨q1, h1.trans q2, fun i hi => (h2 i (Nat.lt_of_lt_of_le hi q1)).trans (q3 i hi)⟩
theorem cx_P.set {G : cx_G} {ws : List cx_C} {H H' : Heap} {j : Nat} {c0 c' : cx_C} (hG : cx_okG G) (hP : cx_P G ws H) (hj : ws[j]? = some c0) (h' : cx_at G j c' H') (hz : H'.size = H.size) (ho : ∀ q : Nat, q ≠ cx_ad G j → H'[q]? = H[q]?) : cx_P G (ws.set j c') H' := by
  obtain ⟨g1, g2, g3, g4, g5⟩ := hG
  obtain ⟨p1, p2, p3, p4⟩ := hP
  have hjN := (p1 j c0 hj).1
  refine ⟨fun i c hc => ?_, by rw [hz]; exact p2, fun q hq => ?_, fun q cell hq hc => ?_⟩
  · by_cases e : i = j
    · subst e
      have hlt : i < ws.length := (List.getElem?_eq_some_iff.mp hj).1
      rw [List.getElem?_set_self hlt] at hc
      cases hc
      exact ⟨hjN, h'⟩
    · rw [List.getElem?_set_ne (Ne.symm e)] at hc
      obtain ⟨q1, q2⟩ := p1 i c hc
      exact ⟨q1, q2.kept (ho _ (fun h => e (g1 i j q1 hjN h))) (fun b hb => ho _ (fun h => g3 j i b hjN hb h.symm))⟩
  · rw [ho q (fun h => by have := g4 j hjN; omega)]
    exact p3 q hq
  · by_cases e : q = cx_ad G j
    · subst e
      exact h'.vm hc
    · rw [ho q e] at hc
      exact p4 q cell hq hc
theorem cx_P.setRow {G : cx_G} {ws : List cx_C} {H H' : Heap} {j g n k : Nat} {f : Nat → Nat → Int64} {r : Nat → Int64} (hG : cx_okG G) (hP : cx_P G ws H) (hj : ws[j]? = some (.inr (.inr (.inr (.inr (n, k, f)))))) (hg : g < n) (h' : H'[cx_rd G j g]? = some (arrV (cx_tc G 2) k (fun x => .long (r x)))) (hz : H'.size = H.size) (ho : ∀ q : Nat, q ≠ cx_rd G j g → H'[q]? = H[q]?) : cx_P G (ws.set j (.inr (.inr (.inr (.inr (n, k, va_up f g r)))))) H' := by
  obtain ⟨g1, g2, g3, g4, g5⟩ := hG
  obtain ⟨p1, p2, p3, p4⟩ := hP
  obtain ⟨hjN, a1, a2, a3⟩ := p1 j _ hj
  have hgl : g < cx_gl G j := Nat.lt_of_lt_of_le hg a1
  refine ⟨fun i c hc => ?_, by rw [hz]; exact p2, fun q hq => ?_, fun q cell hq hc => ?_⟩
  · by_cases e : i = j
    · subst e
      have hlt : i < ws.length := (List.getElem?_eq_some_iff.mp hj).1
      rw [List.getElem?_set_self hlt] at hc
      cases hc
      refine ⟨hjN, a1, (ho _ (g3 i i g hjN hgl)).trans a2, fun b hb => ?_⟩
      show H'[cx_rd G i b]? = some (arrV _ k (fun x => .long (va_up f g r b x)))
      by_cases eb : b = g
      · subst eb
        rw [va_up_self]
        exact h'
      · rw [va_up_ne _ _ eb, ho _ (fun h => eb (g2 i b i g (Nat.lt_of_lt_of_le hb a1) hgl h).2)]
        exact a3 b hb
    · rw [List.getElem?_set_ne (Ne.symm e)] at hc
      obtain ⟨q1, q2⟩ := p1 i c hc
      exact ⟨q1, q2.kept (ho _ (g3 i j g q1 hgl)) (fun b hb => ho _ (fun h => e (g2 i b j g hb hgl h).1))⟩
  · rw [ho q (fun h => by have := g5 j g hgl; omega)]
    exact p3 q hq
  · by_cases e : q = cx_rd G j g
    · subst e
      cases (show some _ = some cell from Eq.trans (Eq.symm h') hc)
      rfl
    · rw [ho q e] at hc
      exact p4 q cell hq hc
/-- the locals -/
def cx_has (G : cx_G) (ls : Array Slot) (nL : Nat) (lv : cx_L) : Prop := ls.size = nL ∧ lv_wf ls ∧ ∀ (i : Nat) (v : cx_V), lv[i]? = some (some v) → ls[i]? = some (.val (cx_v G v))
def cx_pr (G : cx_G) (lv : cx_L) (i : Nat) : Option (Nat × Value) := match lv[i]? with
  | some (some v) => some (i, cx_v G v)
  | _ => none
def cx_prs (G : cx_G) (lv : cx_L) : List (Nat × Value) := (List.range lv.length).filterMap (cx_pr G lv)
theorem cx_pr_some {G : cx_G} {lv : cx_L} {i : Nat} {q : Nat × Value} (h : cx_pr G lv i = some q) : ∃ v, lv[i]? = some (some v) ∧ q = (i, cx_v G v) := by
  unfold cx_pr at h
  split at h
  · rename_i v hv
    cases h
    exact ⟨v, hv, rfl⟩
  · cases h
theorem cx_prs_in {G : cx_G} {lv : cx_L} {i : Nat} {v : cx_V} (h : lv[i]? = some (some v)) : (i, cx_v G v) ∈ cx_prs G lv := by
  refine List.mem_filterMap.mpr ⟨i, List.mem_range.mpr (List.getElem?_eq_some_iff.mp h).1, ?_⟩
  unfold cx_pr
  rw [h]
theorem cx_has.lv {G : cx_G} {ls : Array Slot} {nL : Nat} {lv : cx_L} (h : cx_has G ls nL lv) : lv_has ls nL (cx_prs G lv) := by
  refine ⟨h.1, h.2.1, fun q hq => ?_⟩
  obtain ⟨i, -, hi⟩ := List.mem_filterMap.mp hq
  obtain ⟨v, hv, rfl⟩ := cx_pr_some hi
  exact h.2.2 i v hv
theorem cx_clob_get {lv : cx_L} {i t : Nat} {u : cx_V} (h : (cx_clob lv i)[t]? = some (some u)) : lv[t]? = some (some u) ∧ ¬ (t + 1 = i ∧ cx_wd u = true) := by
  unfold cx_clob at h
  split at h
  · exact ⟨h, fun q => by omega⟩
  · rename_i j
    split at h
    · rename_i w hw
      split at h
      · rename_i hwd
        by_cases e : t = j
        · subst e
          rw [List.getElem?_set_self (List.getElem?_eq_some_iff.mp hw).1] at h
          cases h
        · rw [List.getElem?_set_ne (Ne.symm e)] at h
          exact ⟨h, fun q => e (by omega)⟩
      · rename_i hwd
        refine ⟨h, fun q => ?_⟩
        have e : t = j := by omega
        subst e
        rw [hw] at h
        cases h
        rw [hwd] at q
        exact Bool.noConfusion q.2
    · rename_i hn
      refine ⟨h, fun q => ?_⟩
      have e : t = j := by omega
      subst e
      exact hn u h
theorem cx_put1_get {lv : cx_L} {i t : Nat} {v u : cx_V} (h : (cx_put1 lv i v)[t]? = some (some u)) : (t = i ∧ u = v) ∨ (t ≠ i ∧ lv[t]? = some (some u) ∧ ¬ (t + 1 = i ∧ cx_wd u = true)) := by
  unfold cx_put1 at h
  by_cases e : t = i
  · subst e
    by_cases hl : t < (cx_clob lv t).length
    · rw [List.getElem?_set_self hl] at h
      cases h
      exact Or.inl ⟨rfl, rfl⟩
    · rw [List.getElem?_eq_none (by rw [List.length_set]; omega)] at h
      cases h
  · rw [List.getElem?_set_ne (Ne.symm e)] at h
    exact Or.inr ⟨e, cx_clob_get h⟩
theorem cx_put2_get {lv : cx_L} {i t : Nat} {v u : cx_V} (h : (cx_put2 lv i v)[t]? = some (some u)) : (t = i ∧ u = v) ∨ (t ≠ i ∧ t ≠ i + 1 ∧ lv[t]? = some (some u) ∧ ¬ (t + 1 = i ∧ cx_wd u = true)) := by
  unfold cx_put2 at h
  by_cases e1 : t = i + 1
  · subst e1
    by_cases hl : i + 1 < ((cx_clob lv i).set i (some v)).length
    · rw [List.getElem?_set_self hl] at h
      cases h
    · rw [List.getElem?_eq_none (by rw [List.length_set]; omega)] at h
      cases h
  · rw [List.getElem?_set_ne (Ne.symm e1)] at h
    rcases cx_put1_get (lv := lv) (i := i) (v := v) h with q | ⟨q1, q2⟩
    · exact Or.inl q
    · exact Or.inr ⟨q1, e1, q2⟩
theorem cx_has.st1 {G : cx_G} {ls' : Array Slot} {nL : Nat} {lv : cx_L} {i : Nat} {v : cx_V} {w : Value} (hw : cx_v G v = w) (h : lv_has ls' nL ((i, w) :: (cx_prs G lv).filter (fun q => !(q.1 == i) && !(q.1 + 1 == i && q.2.category == 2)))) : cx_has G ls' nL (cx_put1 lv i v) := by
  subst hw
  refine ⟨h.1, h.2.1, fun t u ht => ?_⟩
  rcases cx_put1_get ht with ⟨rfl, rfl⟩ | ⟨q1, q2, q3⟩
  · exact h.2.2 _ List.mem_cons_self
  · refine h.2.2 (t, cx_v G u) (List.mem_cons_of_mem _ (List.mem_filter.mpr ⟨cx_prs_in q2, ?_⟩))
    simp only [cx_v_cat]
    simp only [Bool.and_eq_true, Bool.not_eq_true', beq_eq_false_iff_ne, ne_eq, Bool.and_eq_false_iff]
    refine ⟨q1, ?_⟩
    by_cases e : t + 1 = i
    · right
      cases hc : cx_wd u with
      | false => rfl
      | true => exact absurd ⟨e, hc⟩ q3
    · left
      exact e
theorem cx_has.st2 {G : cx_G} {ls' : Array Slot} {nL : Nat} {lv : cx_L} {i : Nat} {v : cx_V} {w : Value} (hw : cx_v G v = w) (h : lv_has ls' nL ((i, w) :: (cx_prs G lv).filter (fun q => !(q.1 == i) && (!(q.1 == i + 1) && !(q.1 + 1 == i && q.2.category == 2))))) : cx_has G ls' nL (cx_put2 lv i v) := by
  subst hw
  refine ⟨h.1, h.2.1, fun t u ht => ?_⟩
  rcases cx_put2_get ht with ⟨rfl, rfl⟩ | ⟨q1, q0, q2, q3⟩
  · exact h.2.2 _ List.mem_cons_self
  · refine h.2.2 (t, cx_v G u) (List.mem_cons_of_mem _ (List.mem_filter.mpr ⟨cx_prs_in q2, ?_⟩))
    simp only [cx_v_cat]
    simp only [Bool.and_eq_true, Bool.not_eq_true', beq_eq_false_iff_ne, ne_eq, Bool.and_eq_false_iff]
    refine ⟨q1, q0, ?_⟩
    by_cases e : t + 1 = i
    · right
      cases hc : cx_wd u with
      | false => rfl
      | true => exact absurd ⟨e, hc⟩ q3
    · left
      exact e
/-- the tables' words, kept by all that a run does to the tables -/
def cx_stB (w : Cond) : Bool := (w.onTables && w.keeps) || (match w with
  | .arrayClass _ => true
  | .fieldLinkNest _ _ _ _ _ _ => true
  | .methodLinkNest _ _ _ _ => true
  | .declares _ => true
  | .stringRef _ _ _ => true
  | .castable _ _ => true
  | _ => false)
theorem cx_strW {own tx : String} {k : Nat} {s U : State} (hW : s.WarmedH U.vm) {a a' : Array Value} (hb : (Cond.stringRef own k tx).before a s = true) : (Cond.stringRef own k tx).before a' U = true := by
  have hcur : ∃ cur, s.vm.findClass own = some cur := by
    have h1 := hb
    simp only [Cond.before, Cond.holds, Cond.value] at h1
    cases hc : s.vm.findClass own with
    | none => simp [hc] at h1
    | some cur => exact ⟨cur, rfl⟩
  obtain ⟨cur, hcur⟩ := hcur
  obtain ⟨_, _, _, q, -, -, -, -, -, hev⟩ := Cond.stringRef_spec hcur hb
  exact (vk_R.warm hW (vk_R.of (A := a) hb hev)).1
theorem cx_stB_spec {w : Cond} (h : cx_stB w = true) {s U : State} (hW : s.WarmedH U.vm) {a a' : Array Value} (hb : w.before a s = true) : w.before a' U = true := by
  unfold cx_stB at h
  rw [Bool.or_eq_true] at h
  rcases h with h | h
  · exact word_at hW (Or.inl h) hb
  · split at h
    · exact word_at hW (Or.inr ⟨_, rfl⟩) hb
    · exact va_Nw.use rfl (va_Nw.warmF hW (va_Nw.of rfl hb))
    · exact va_Nw.use rfl (va_Nw.warmM hW (va_Nw.of rfl hb))
    · exact va_Nw.use rfl (va_Nw.warmD hW (va_Nw.of rfl hb))
    · exact cx_strW hW hb
    · exact va_Nw.use rfl (va_Nw.warmC hW (va_Nw.of rfl hb))
    · cases h
/-- a static field's place, that nobody changes -/
def cx_ls (C n d : String) (U : State) (H : Heap) : Prop := ∃ (c : ClassId) (k : Class) (i : Nat) (f : Field) (a : Nat) (cell : Cell), U.vm.findClass C = some c ∧ U.fieldFound? C n d = some (c, k, i, f) ∧ f.isStatic = true ∧ k.statics = some a ∧ H[a]? = some cell ∧ cell.vm.isStatics = true ∧ cell.cls = c ∧ f.slot < cell.slots.size ∧ k.staticTypes[f.slot]? = some f.type
theorem cx_ls.moved {C n d : String} {u U : State} {H : Heap} (hvm : u.vm.Alike U.vm) (h : cx_ls C n d u H) : cx_ls C n d U H := by
  obtain ⟨c, k, i, f, a, cell, h1, h2, h3, h4, h5, h6, h7, h8, h9⟩ := h
  obtain ⟨k', hi', he⟩ := State.fieldFound?_setVm hvm h2
  exact ⟨c, k', i, f, a, cell, by rw [hvm.findClass]; exact h1, hi', h3, by rw [he]; exact h4, h5, h6, h7, h8, by rw [he]; exact h9⟩
theorem cx_ls.of {C n d : String} {s : State} {args : Array Value} (h : (Cond.laysStatic C n d).before args s = true) : cx_ls C n d s s.heap := Cond.laysStatic_spec h
theorem cx_ls.use {C n d : String} {s : State} {H : Heap} {args : Array Value} (h : cx_ls C n d s H) (hH : ∀ q : Nat, q < H.size → s.heap[q]? = H[q]?) : (Cond.laysStatic C n d).before args s = true := by
  obtain ⟨c, k, i, f, a, cell, h1, h2, h3, h4, h5, h6, h7, h8, h9⟩ := h
  exact Cond.laysStatic_of h1 h2 h3 h4 (by rw [hH a (Array.getElem?_eq_some_iff.mp h5).1]; exact h5) h6 h7 h8 h9
/-- what is known of a state's tables -/
def cx_Kn (Tb : List Cond) (G : cx_G) (U : State) : Prop := (∀ w ∈ Tb, ∀ a : Array Value, w.before a U = true) ∧ va_K (cx_D G) (cx_cl G) [] U ∧ ArrOfT U (cx_tc G 0) .int ∧ ArrOfT U (cx_tc G 1) .boolean ∧ ArrOfT U (cx_tc G 2) .long ∧ ArrOfT U (cx_tc G 3) (.array .long) ∧ va_Zq "java/lang/Throwable" "UNASSIGNED_STACK" "[Ljava/lang/StackTraceElement;" (fun q => (cx_H0 G).size ≤ q) U (cx_H0 G) ∧ va_Zq "java/lang/Throwable" "SUPPRESSED_SENTINEL" "Ljava/util/List;" (fun q => (cx_H0 G).size ≤ q) U (cx_H0 G) ∧ cx_ls "java/lang/Throwable" "UNASSIGNED_STACK" "[Ljava/lang/StackTraceElement;" U (cx_H0 G) ∧ cx_ls "java/lang/Throwable" "SUPPRESSED_SENTINEL" "Ljava/util/List;" U (cx_H0 G)
theorem cx_Kn.warm {Tb : List Cond} {G : cx_G} {u U : State} (hTb : Tb.all cx_stB = true) (hW : u.WarmedH U.vm) (h : cx_Kn Tb G u) : cx_Kn Tb G U := by
  obtain ⟨h1, h2, h3, h4, h5, h6, h7, h8, h9, h10⟩ := h
  exact ⟨fun w hw a => cx_stB_spec (List.all_eq_true.mp hTb w hw) hW (h1 w hw a), va_K.moved hW.alike h2, arrOfT_moved hW.alike h3, arrOfT_moved hW.alike h4, arrOfT_moved hW.alike h5, arrOfT_moved hW.alike h6, va_Zq.moved hW.alike h7, va_Zq.moved hW.alike h8, cx_ls.moved hW.alike h9, cx_ls.moved hW.alike h10⟩
end
section
/-! The abstract machine is sound over the rows of the kit. -/
theorem cx_fo_eq {α : Type} : ∀ (n : Nat) (l : List α) (k : List α → Prop), cx_fo n l k = k l
  | 0, _, _ => rfl
  | n + 1, l, k => by
    cases l with
    | nil => rfl
    | cons a r =>
      show cx_fo n r (fun r => k (a :: r)) = _
      rw [cx_fo_eq n r]
theorem cx_ldi_spec {lv : cx_L} {a : Nat} {k : Int32 → Prop} (h : cx_ldi lv a k) : ∃ x, lv[a]? = some (some (.inl x)) ∧ k x := by
  unfold cx_ldi at h
  split at h
  · rename_i x hx
    exact ⟨x, hx, h⟩
  · exact h.elim
theorem cx_ldl_spec {lv : cx_L} {a : Nat} {k : Int64 → Prop} (h : cx_ldl lv a k) : ∃ x, lv[a]? = some (some (.inr (.inl x))) ∧ k x := by
  unfold cx_ldl at h
  split at h
  · rename_i x hx
    exact ⟨x, hx, h⟩
  · exact h.elim
theorem cx_lda_spec {lv : cx_L} {a : Nat} {k : cx_V → Prop} (h : cx_lda lv a k) : ∃ u, lv[a]? = some (some u) ∧ k u ∧ ∀ G, ∃ y, cx_v G u = .ref y := by
  unfold cx_lda at h
  split at h
  · rename_i x hx
    exact ⟨_, hx, h, fun G => ⟨_, rfl⟩⟩
  · rename_i x hx
    exact ⟨_, hx, h, fun G => ⟨_, rfl⟩⟩
  · exact h.elim
theorem cx_i1_spec {st : List cx_V} {k : Int32 → List cx_V → Prop} (h : cx_i1 st k) : ∃ x r, st = .inl x :: r ∧ k x r := by
  unfold cx_i1 at h
  split at h
  · exact ⟨_, _, rfl, h⟩
  · exact h.elim
theorem cx_l1_spec {st : List cx_V} {k : Int64 → List cx_V → Prop} (h : cx_l1 st k) : ∃ x r, st = .inr (.inl x) :: r ∧ k x r := by
  unfold cx_l1 at h
  split at h
  · exact ⟨_, _, rfl, h⟩
  · exact h.elim
theorem cx_ii_spec {st : List cx_V} {k : Int32 → Int32 → List cx_V → Prop} (h : cx_ii st k) : ∃ x y r, st = .inl y :: .inl x :: r ∧ k x y r := by
  unfold cx_ii at h
  split at h
  · exact ⟨_, _, _, rfl, h⟩
  · exact h.elim
theorem cx_ll_spec {st : List cx_V} {k : Int64 → Int64 → List cx_V → Prop} (h : cx_ll st k) : ∃ x y r, st = .inr (.inl y) :: .inr (.inl x) :: r ∧ k x y r := by
  unfold cx_ll at h
  split at h
  · exact ⟨_, _, _, rfl, h⟩
  · exact h.elim
theorem cx_li_spec {st : List cx_V} {k : Int64 → Int32 → List cx_V → Prop} (h : cx_li st k) : ∃ x y r, st = .inl y :: .inr (.inl x) :: r ∧ k x y r := by
  unfold cx_li at h
  split at h
  · exact ⟨_, _, _, rfl, h⟩
  · exact h.elim
theorem cx_a1_spec {st : List cx_V} {k : cx_V → List cx_V → Prop} (h : cx_a1 st k) : ∃ u r, st = u :: r ∧ k u r ∧ ∀ G, ∃ y, cx_v G u = .ref y := by
  unfold cx_a1 at h
  split at h
  · exact ⟨_, _, rfl, h, fun G => ⟨_, rfl⟩⟩
  · exact ⟨_, _, rfl, h, fun G => ⟨_, rfl⟩⟩
  · exact h.elim
theorem cx_obj_spec {ws : List cx_C} {j ci : Nat} {k : List cx_V → Prop} (h : cx_obj ws j ci k) : ∃ fs, ws[j]? = some (.inl (ci, fs)) ∧ k fs := by
  unfold cx_obj at h
  split at h
  · rename_i o ho
    split at h
    · rename_i hb
      have e : o.1 = ci := Nat.eq_of_beq_eq_true hb
      refine ⟨o.2, ?_, h⟩
      rw [ho, ← e]
    · exact h.elim
  · exact h.elim
theorem cx_fld_spec {fs : List cx_V} {b : Nat} {k : cx_V → Prop} (h : cx_fld fs b k) : ∃ u, fs[b]? = some u ∧ k u := by
  unfold cx_fld at h
  split at h
  · rename_i u hu
    exact ⟨u, hu, h⟩
  · exact h.elim
theorem cx_p1_spec {st : List cx_V} {k : Nat → List cx_V → Prop} (h : cx_p1 st k) : ∃ j r, st = .inr (.inr (.inl j)) :: r ∧ k j r := by
  unfold cx_p1 at h
  split at h
  · exact ⟨_, _, rfl, h⟩
  · exact h.elim
theorem cx_pu_spec {st : List cx_V} {k : cx_V → Nat → List cx_V → Prop} (h : cx_pu st k) : ∃ u j r, st = u :: .inr (.inr (.inl j)) :: r ∧ k u j r := by
  unfold cx_pu at h
  split at h
  · exact ⟨_, _, _, rfl, h⟩
  · exact h.elim
theorem cx_pi_spec {st : List cx_V} {k : Int32 → Nat → List cx_V → Prop} (h : cx_pi st k) : ∃ x j r, st = .inl x :: .inr (.inr (.inl j)) :: r ∧ k x j r := by
  unfold cx_pi at h
  split at h
  · exact ⟨_, _, _, rfl, h⟩
  · exact h.elim
theorem cx_pii_spec {st : List cx_V} {k : Int32 → Int32 → Nat → List cx_V → Prop} (h : cx_pii st k) : ∃ y x j r, st = .inl y :: .inl x :: .inr (.inr (.inl j)) :: r ∧ k y x j r := by
  unfold cx_pii at h
  split at h
  · exact ⟨_, _, _, _, rfl, h⟩
  · exact h.elim
theorem cx_pig_spec {st : List cx_V} {k1 : Int32 → Nat → List cx_V → Prop} {k2 : Int32 → Nat → Nat → List cx_V → Prop} (h : cx_pig st k1 k2) : (∃ x j r, st = .inl x :: .inr (.inr (.inl j)) :: r ∧ k1 x j r) ∨ (∃ x j g r, st = .inl x :: .inr (.inr (.inr (.inl (j, g)))) :: r ∧ k2 x j g r) := by
  unfold cx_pig at h
  split at h
  · exact Or.inl ⟨_, _, _, rfl, h⟩
  · exact Or.inr ⟨_, _, _, _, rfl, h⟩
  · exact h.elim
theorem cx_ints_spec {ws : List cx_C} {j : Nat} {k : Nat → (Nat → Int32) → Prop} (h : cx_ints ws j k) : ∃ n f, ws[j]? = some (.inr (.inl (n, f))) ∧ k n f := by
  unfold cx_ints at h
  split at h
  · rename_i q hq
    exact ⟨q.1, q.2, hq, h⟩
  · exact h.elim
theorem cx_bools_spec {ws : List cx_C} {j : Nat} {k : Nat → (Nat → Int32) → Prop} (h : cx_bools ws j k) : ∃ n f, ws[j]? = some (.inr (.inr (.inl (n, f)))) ∧ k n f := by
  unfold cx_bools at h
  split at h
  · rename_i q hq
    exact ⟨q.1, q.2, hq, h⟩
  · exact h.elim
theorem cx_longs_spec {ws : List cx_C} {j : Nat} {k : Nat → (Nat → Int64) → Prop} (h : cx_longs ws j k) : ∃ n f, ws[j]? = some (.inr (.inr (.inr (.inl (n, f))))) ∧ k n f := by
  unfold cx_longs at h
  split at h
  · rename_i q hq
    exact ⟨q.1, q.2, hq, h⟩
  · exact h.elim
theorem cx_grid_spec {ws : List cx_C} {j : Nat} {k : Nat → Nat → (Nat → Nat → Int64) → Prop} (h : cx_grid ws j k) : ∃ n z f, ws[j]? = some (.inr (.inr (.inr (.inr (n, z, f))))) ∧ k n z f := by
  unfold cx_grid at h
  split at h
  · rename_i q hq
    exact ⟨q.1, q.2.1, q.2.2, hq, h⟩
  · exact h.elim
theorem cx_u1_spec {st : List cx_V} {k : cx_V → List cx_V → Prop} (h : cx_u1 st k) : ∃ u r, st = u :: r ∧ cx_wd u = false ∧ k u r := by
  unfold cx_u1 at h
  split at h
  · split at h
    · exact h.elim
    · rename_i hw
      exact ⟨_, _, rfl, hw, h⟩
  · exact h.elim
theorem cx_sw_spec {Sw : List (Nat × List Nat)} {a : Nat} {k : Nat → List Nat → Prop} (h : cx_sw Sw a k) : ∃ d ts, Sw[a]? = some (d, ts) ∧ k d ts := by
  unfold cx_sw at h
  split at h
  · rename_i q hq
    exact ⟨q.1, q.2, hq, h⟩
  · exact h.elim
theorem cx_ir_spec {st : List cx_V} {k : Int32 → Prop} (h : cx_ir st k) : ∃ x, st = [.inl x] ∧ k x := by
  unfold cx_ir at h
  split at h
  · exact ⟨_, rfl, h⟩
  · exact h.elim
theorem cx_ar_spec {st : List cx_V} {k : cx_V → Prop} (h : cx_ar st k) : ∃ u, st = [u] ∧ k u ∧ ∀ G, ∃ y, cx_v G u = .ref y := by
  unfold cx_ar at h
  split at h
  · exact ⟨_, rfl, h, fun G => ⟨_, rfl⟩⟩
  · exact ⟨_, rfl, h, fun G => ⟨_, rfl⟩⟩
  · exact h.elim
theorem cx_vr_spec {st : List cx_V} {k : Prop} (h : cx_vr st k) : st = [] ∧ k := by
  unfold cx_vr at h
  split at h
  · exact ⟨rfl, h⟩
  · exact h.elim
theorem cx_go_spec {Sp : List (cx_S × Nat × Nat × Nat)} {a mc ms : Nat} {st : List cx_V} {c s : Nat} {k : cx_S → Nat → Nat → Nat → Prop} (h : cx_go Sp a mc ms st c s k) : ∃ f n kc ks, Sp[a]? = some (f, n, kc, ks) ∧ c + kc ≤ mc ∧ s + ks ≤ ms ∧ n ≤ st.length ∧ cx_cats (st.drop n) ≤ 8 ∧ k f n kc ks := by
  unfold cx_go at h
  split at h
  · rename_i q hq
    split at h
    · rename_i hb
      simp only [Bool.and_eq_true] at hb
      exact ⟨q.1, q.2.1, q.2.2.1, q.2.2.2, hq, Nat.le_of_ble_eq_true hb.1, Nat.le_of_ble_eq_true hb.2.1, Nat.le_of_ble_eq_true hb.2.2.1, Nat.le_of_ble_eq_true hb.2.2.2, h⟩
    · exact h.elim
  · exact h.elim
theorem cx_thr_spec {Ex : List String} {a mc ms c s : Nat} {k : String → Prop} (h : cx_thr Ex a mc ms c s k) : ∃ x, Ex[a]? = some x ∧ c = 0 ∧ s = 0 ∧ 1 ≤ mc ∧ 6 ≤ ms ∧ k x := by
  unfold cx_thr at h
  split at h
  · rename_i x hx
    split at h
    · rename_i hb
      simp only [Bool.and_eq_true] at hb
      exact ⟨x, hx, Nat.eq_of_beq_eq_true hb.1, Nat.eq_of_beq_eq_true hb.2.1, Nat.le_of_ble_eq_true hb.2.2.1, Nat.le_of_ble_eq_true hb.2.2.2, h⟩
    · exact h.elim
  · exact h.elim
theorem cx_swl_spec {x : Int32} {J : Nat → Prop} : ∀ {ts : List Nat} {k : Nat}, cx_swl x k ts J → ∀ (i t : Nat), ts[i]? = some t → x = nI (k + i) → J t
  | [], _, _, i, t, ht, _ => by simp at ht
  | t0 :: r, k, h, i, t, ht, hx => by
    unfold cx_swl at h
    cases i with
    | zero =>
      simp at ht
      subst ht
      exact h.1 hx
    | succ i =>
      simp at ht
      exact cx_swl_spec h.2 i t ht (by rw [hx]; congr 1; omega)
def cx_len (i : Instr) (b : Nat) : Nat := match i with
  | .bipush _ => 2
  | .iload _ => 2
  | .lload _ => 2
  | .aload _ => 2
  | .istore _ => 2
  | .lstore _ => 2
  | .astore _ => 2
  | .sipush _ => 3
  | .ldc2_w _ => 3
  | .iinc _ _ => 3
  | .ifCond _ _ => 3
  | .if_icmp _ _ => 3
  | .goto _ => 3
  | .getfield _ => 3
  | .putfield _ => 3
  | .invokevirtual _ => 3
  | .invokestatic _ => 3
  | .new _ => 3
  | .tableswitch _ _ _ _ => b
  | _ => 1
/-- what a program checks of an entry -/
def cx_side (wr : Bool) (rt : Option FieldType) (nL : Nat) (F : List (Nat × Nat × Nat)) (FP : List (Nat × Nat × Nat × Int32)) (LC : List (Nat × Int64)) (CV CS : List (Nat × Nat)) (TH : List (Nat × Nat)) (Sw : List (Nat × List Nat)) (pc : Nat) (en : cx_E) : Bool := match en with
  | (i, v, w, a, b, _) => match i with
    | .iconst z => decide (Int32.ofInt z = v)
    | .bipush z => decide ((Int8.ofInt z).toInt32 = v)
    | .sipush z => decide ((Int16.ofInt z).toInt32 = v)
    | .lconst z => decide (Int64.ofNat z.val = w)
    | .ldc2_w z => decide ((z, w) ∈ LC)
    | .iload_n z => decide (z.val = a)
    | .iload z => decide (z = a)
    | .lload_n z => decide (z.val = a)
    | .lload z => decide (z = a)
    | .aload_n z => decide (z.val = a)
    | .aload z => decide (z = a)
    | .istore_n z => decide (z.val = a ∧ a < nL)
    | .istore z => decide (z = a ∧ a < nL)
    | .lstore_n z => decide (z.val = a ∧ a + 1 < nL)
    | .lstore z => decide (z = a ∧ a + 1 < nL)
    | .astore_n z => decide (z.val = a ∧ a < nL)
    | .astore z => decide (z = a ∧ a < nL)
    | .iinc z y => decide (z = a ∧ a < nL ∧ Int32.ofInt y = v)
    | .ifCond _ o => decide ((pc : Int) + o = (a : Int))
    | .if_icmp _ o => decide ((pc : Int) + o = (a : Int))
    | .goto o => decide ((pc : Int) + o = (a : Int))
    | .getfield z => decide ((z, a, b) ∈ F)
    | .putfield z => decide ((z, a, b, v) ∈ FP) && wr
    | .iastore => wr
    | .bastore => wr
    | .lastore => wr
    | .tableswitch d lo hi offs => (match Sw[a]? with
      | some (dt, ts) => decide (((pc : Int) + d = (dt : Int) ∧ lo = 0 ∧ hi + 1 = (ts.length : Int)) ∧ offs.toList.map (fun o => (pc : Int) + o) = ts.map (fun t : Nat => (t : Int)))
      | none => false)
    | .ireturn => decide (rt = some .int ∨ (rt = some .boolean ∧ v = 1))
    | .areturn => (match rt with
      | some (.array _) => true
      | some (.object _) => true
      | _ => false)
    | .return_ => decide (rt = none)
    | .invokevirtual z => decide ((z, a) ∈ CV)
    | .invokestatic z => decide ((z, a) ∈ CS)
    | .new _ => decide ((pc, a) ∈ TH)
    | _ => true
def cx_dec (wr : Bool) (cc : ByteArray) (rt : Option FieldType) (nL : Nat) (F : List (Nat × Nat × Nat)) (FP : List (Nat × Nat × Nat × Int32)) (LC : List (Nat × Int64)) (CV CS : List (Nat × Nat)) (TH : List (Nat × Nat)) (Sw : List (Nat × List Nat)) (q : Nat × cx_E) : Bool := match decode cc q.1 with
  | .ok x => decide (x.1 = q.2.1) && (decide (x.2 = cx_len q.2.1 q.2.2.2.2.2.1 ∧ q.2.2.2.2.2.2 = q.1 + x.2) && cx_side wr rt nL F FP LC CV CS TH Sw q.1 q.2)
  | _ => false
theorem cx_dec_spec {wr : Bool} {cc : ByteArray} {rt : Option FieldType} {nL : Nat} {F : List (Nat × Nat × Nat)} {FP : List (Nat × Nat × Nat × Int32)} {LC : List (Nat × Int64)} {CV CS : List (Nat × Nat)} {TH : List (Nat × Nat)} {Sw : List (Nat × List Nat)} {q : Nat × cx_E} (h : cx_dec wr cc rt nL F FP LC CV CS TH Sw q = true) : decode cc q.1 = .ok (q.2.1, cx_len q.2.1 q.2.2.2.2.2.1) ∧ q.2.2.2.2.2.2 = q.1 + cx_len q.2.1 q.2.2.2.2.2.1 ∧ cx_side wr rt nL F FP LC CV CS TH Sw q.1 q.2 = true := by
  unfold cx_dec at h
  split at h
  · rename_i x hx
    simp only [Bool.and_eq_true, decide_eq_true_eq] at h
    obtain ⟨x1, x2⟩ := x
    obtain ⟨h1, ⟨h2, h4⟩, h3⟩ := h
    dsimp only at h1 h2 h4
    subst h1; subst h2
    exact ⟨hx, h4, h3⟩
  · cases h
/-- a method's end -/
def cx_out (G : cx_G) (s : State) (q : cx_O) (o : Outcome) (t : State) : Prop := match q with
  | .inl none => o = .returned none
  | .inl (some u) => o = .returned (some (cx_v G u))
  | .inr x => ∃ (a : Addr) (cell : Cell), o = .threw a ∧ t.heap[a]? = some cell ∧ s.vm.findClass x = some cell.cls ∧ cell.vm = .none
def cx_Q (below : List Frame) (G : cx_G) (s : State) (mc ms : Nat) (Rq : cx_R) : State → Prop := fun t => ∃ (o : Outcome) (q : cx_O) (ws : List cx_C), t.status = .running ∧ Ended t below o ∧ Rq q ws ∧ cx_out G s q o t ∧ cx_P G ws t.heap ∧ s.WarmedH t.vm ∧ ∃ L : List Loc, s.sameButNew ({ t with vm := s.vm } : State) L mc ms ∧ ∀ q ∈ L, (cx_H0 G).size ≤ q.base
/-- the same of a walk that has changed nothing if it returns -/
def cx_Q2 (below : List Frame) (G : cx_G) (s : State) (mc ms : Nat) (Rq : cx_R) : State → Prop := fun t => ∃ (o : Outcome) (q : cx_O) (ws : List cx_C), t.status = .running ∧ Ended t below o ∧ Rq q ws ∧ cx_out G s q o t ∧ cx_P G ws t.heap ∧ s.WarmedH t.vm ∧ ∃ L : List Loc, s.sameButNew ({ t with vm := s.vm } : State) L mc ms ∧ (∀ q ∈ L, (cx_H0 G).size ≤ q.base) ∧ ∀ u, q = .inl u → t.heap = s.heap ∧ L = []
theorem cx_Q2.weak {below : List Frame} {G : cx_G} {s : State} {mc ms : Nat} {Rq : cx_R} {t : State} (h : cx_Q2 below G s mc ms Rq t) : cx_Q below G s mc ms Rq t := by
  obtain ⟨o, q, ws, h1, h2, h3, h4, h5, h6, L, h7, h8, -⟩ := h
  exact ⟨o, q, ws, h1, h2, h3, h4, h5, h6, L, h7, h8⟩
section CXS
variable {p : Program} {l : Launch} {e : Env} {R : Room} {s : State} {m : MethodId} {args : Array Value} {below : List Frame} {meth : Method} {c : Code} {Q : State → Prop} {G : cx_G} {nL mc ms : Nat} {cc : ByteArray} {Tb : List Cond} {Rq : cx_R}
/-- how a world stands on the heap during a walk: cells and slots made, the heap, the slots written -/
abbrev cx_F : Type := List cx_C → Nat → Nat → Heap → List Loc → Prop
/-- any walk -/
def cx_F1 (G : cx_G) (mc ms : Nat) : cx_F := fun ws k n H locs => cx_P G ws H ∧ (k ≤ mc ∧ n ≤ ms) ∧ ∀ q ∈ locs, (cx_H0 G).size ≤ q.base
/-- a walk that has changed nothing -/
def cx_F2 (G : cx_G) (mc ms : Nat) (s : State) : cx_F := fun ws k n H locs => cx_P G ws H ∧ (k ≤ mc ∧ n ≤ ms) ∧ H = s.heap ∧ locs = []
def cx_AW (p : Program) (l : Launch) (e : Env) (R : Room) (s : State) (m : MethodId) (args : Array Value) (below : List Frame) (meth : Method) (c : Code) (G : cx_G) (nL : Nat) (F : cx_F) (Q : State → Prop) : cx_K := fun pc lv st ws k n =>
  ∀ (H : Heap) (locs : List Loc) (ls : Array Slot), F ws k n H locs → cx_has G ls nL lv → W p l e R s m args below meth c H locs k n Q (F0 m pc ls (st.map (cx_v G)))
theorem cx_mono {Q' : State → Prop} {H : Heap} {locs : List Loc} {k n : Nat} {g : JFrame} (h : ∀ t, Q t → Q' t) (w : W p l e R s m args below meth c H locs k n Q g) : W p l e R s m args below meth c H locs k n Q' g := fun T hT X => by
  obtain ⟨t, a, b⟩ := w T hT X
  exact ⟨t, a, h t b⟩
/-- getfield, putfield by the place of the field -/
def cx_okget (p : Program) (l : Launch) (e : Env) (R : Room) (s : State) (m : MethodId) (args : Array Value) (below : List Frame) (meth : Method) (c : Code) (cc : ByteArray) (G : cx_G) (Q : State → Prop) (z ci b : Nat) : Prop :=
  ∀ (pc : Nat) (H : Heap) (locs : List Loc) (k n : Nat) (ls : Array Slot) (rest : List Value) (a : Nat) (fs : List Value) (v : Value), decode cc pc = .ok (.getfield z, 3) → va_at (cx_D G) (cx_cl G) (a, .inr (ci, fs)) H → fs[b]? = some v →
    W p l e R s m args below meth c H locs k n Q (F0 m (pc + 3) ls (v :: rest)) → W p l e R s m args below meth c H locs k n Q (F0 m pc ls (.ref a :: rest))
def cx_takes (fl : Int32) (v : Value) : Prop := (fl = 0 ∧ ∃ x, v = .int x) ∨ (fl = 1 ∧ ∃ x, v = .int x ∧ (x = 0 ∨ x = 1)) ∨ (fl = 2 ∧ ∃ y, v = .ref y)
def cx_okput (p : Program) (l : Launch) (e : Env) (R : Room) (s : State) (m : MethodId) (args : Array Value) (below : List Frame) (meth : Method) (c : Code) (cc : ByteArray) (G : cx_G) (Q : State → Prop) (z ci b : Nat) (fl : Int32) : Prop :=
  ∀ (pc : Nat) (H : Heap) (locs : List Loc) (k n : Nat) (ls : Array Slot) (rest : List Value) (a : Nat) (fs : List Value) (v : Value), decode cc pc = .ok (.putfield z, 3) → va_at (cx_D G) (cx_cl G) (a, .inr (ci, fs)) H → b < fs.length → cx_takes fl v →
    (∀ (H' : Heap) (i : Nat), va_at (cx_D G) (cx_cl G) (a, .inr (ci, fs.set b v)) H' → H'.size = H.size → (∀ q : Nat, q ≠ a → H'[q]? = H[q]?) → W p l e R s m args below meth c H' (locs ++ [⟨a, i⟩]) k n Q (F0 m (pc + 3) ls rest)) →
    W p l e R s m args below meth c H locs k n Q (F0 m pc ls (v :: .ref a :: rest))
/-- a call by its contract -/
def cx_okcall (p : Program) (l : Launch) (e : Env) (R : Room) (s : State) (m : MethodId) (args : Array Value) (below : List Frame) (meth : Method) (c : Code) (cc : ByteArray) (G : cx_G) (nL mc ms : Nat) (F : cx_F) (Q : State → Prop) (Rq : cx_R) (i : Instr) (f : cx_S) (na kc ks : Nat) : Prop :=
  ∀ (pc : Nat) (H : Heap) (locs : List Loc) (k n : Nat) (ls : Array Slot) (as rest : List cx_V) (ws : List cx_C) (Rf : cx_R), decode cc pc = .ok (i, 3) → as.length = na → cx_cats rest ≤ 8 → k + kc ≤ mc → n + ks ≤ ms → F ws k n H locs → ls.size = nL → f as ws Rf →
    (∀ (x : String) (ws' : List cx_C), Rf (.inr x) ws' → Rq (.inr x) ws') →
    (∀ (u : Option cx_V) (ws' : List cx_C) (H' : Heap) (locs' : List Loc), Rf (.inl u) ws' → F ws' (k + kc) (n + ks) H' locs' → W p l e R s m args below meth c H' locs' (k + kc) (n + ks) Q (F0 m (pc + 3) ls (u.toList.map (cx_v G) ++ rest.map (cx_v G)))) →
    W p l e R s m args below meth c H locs k n Q (F0 m pc ls ((as.reverse ++ rest).map (cx_v G)))
/-- new X; dup; ldc; invokespecial; athrow -/
def cx_okthr (p : Program) (l : Launch) (e : Env) (R : Room) (s : State) (m : MethodId) (args : Array Value) (below : List Frame) (meth : Method) (c : Code) (G : cx_G) (nL mc ms : Nat) (F : cx_F) (Q : State → Prop) (Rq : cx_R) (pc : Nat) (x : String) : Prop :=
  ∀ (H : Heap) (locs : List Loc) (ls : Array Slot) (ws : List cx_C), 1 ≤ mc → 6 ≤ ms → F ws 0 0 H locs → ls.size = nL → Rq (.inr x) ws →
    W p l e R s m args below meth c H locs 0 0 Q (F0 m pc ls [])
theorem cx_locs {locs : List Loc} {a i : Nat} {z : Nat} (h : ∀ q ∈ locs, z ≤ q.base) (ha : z ≤ a) : ∀ q ∈ locs ++ [⟨a, i⟩], z ≤ q.base := by
  intro q hq
  rcases List.mem_append.mp hq with h1 | h1
  · exact h q h1
  · rw [List.mem_singleton.mp h1]
    exact ha
theorem cx_fits_takes {fl : Int32} {u : cx_V} (h : cx_fits fl u) : cx_takes fl (cx_v G u) := by
  unfold cx_fits at h
  split at h
  · rename_i x
    rcases h with h | ⟨h1, h2⟩
    · exact Or.inl ⟨h, x, rfl⟩
    · exact Or.inr (Or.inl ⟨h1, x, rfl, h2⟩)
  · exact Or.inr (Or.inr ⟨h, _, rfl⟩)
  · exact h.elim
theorem cx_nar01 {y : Int32} (h : y = 0 ∨ y = 1) : narrow .boolean (.int y) = .int y := by
  rcases h with rfl | rfl <;> decide
theorem cx_arrI {cA : ClassId} {n : Nat} {f : Nat → Int32} {i : Nat} {y : Int32} : (arrV cA n (fun j => .int (f j))).setSlot i (.int y) = arrV cA n (fun j => .int (upd f i y j)) := by
  rw [arrV_store]
  congr 2
  funext q
  by_cases h : q = i <;> simp [updV, upd, h]
theorem cx_arrL {cA : ClassId} {n : Nat} {f : Nat → Int64} {i : Nat} {y : Int64} : (arrV cA n (fun j => .long (f j))).setSlot i (.long y) = arrV cA n (fun j => .long (vp_updL f i y j)) := by
  rw [arrV_store]
  congr 2
  funext q
  by_cases h : q = i <;> simp [updV, vp_updL, h]
theorem cx_inA {cA : ClassId} {n : Nat} {f : Nat → Value} {x : Int32} (h : vp_in x n) : ¬ (x < 0 ∨ (arrV cA n f).slots.size ≤ x.toNatClampNeg) := by
  rw [arrV_size]
  exact h
theorem cx_rdA {cA : ClassId} {n : Nat} {f : Nat → Value} {x : Int32} (h : vp_in x n) : (arrV cA n f).slots[x.toNatClampNeg]? = some (f x.toNatClampNeg) := arrV_read _ _ (Nat.not_le.mp fun q => h (Or.inr q))
def cx_end0 (below : List Frame) (args : Array Value) (G : cx_G) (s : State) (k n : Nat) (free : Addr → Prop) (H : Heap) (u : Option cx_V) : State → Prop := MQ below (fun _ _ o t => o = .returned (u.map (cx_v G)) ∧ t.heap = H) args s k n free
theorem cx_ret1 {ws : List cx_C} {k n : Nat} {H : Heap} {locs : List Loc} {u : Option cx_V} {t : State} (hF : cx_F1 G mc ms ws k n H locs) (hq : Rq (.inl u) ws) (h : cx_end0 below args G s k n (fun q => (cx_H0 G).size ≤ q) H u t) : cx_Q below G s mc ms Rq t := by
  obtain ⟨o, q1, q2, ⟨q3, q4⟩, L, ⟨-, q5, q6⟩, q7⟩ := h
  refine ⟨o, .inl u, ws, q1, q2, hq, ?_, by rw [q4]; exact hF.1, q5, L, q6.mono hF.2.1.1 hF.2.1.2, q7⟩
  cases u with
  | none => exact q3
  | some u => exact q3
theorem cx_ret2 {ws : List cx_C} {k n : Nat} {H : Heap} {locs : List Loc} {u : Option cx_V} {t : State} (hF : cx_F2 G mc ms s ws k n H locs) (hq : Rq (.inl u) ws) (h : cx_end0 below args G s k n (fun _ => False) H u t) : cx_Q2 below G s mc ms Rq t := by
  obtain ⟨o, q1, q2, ⟨q3, q4⟩, L, ⟨-, q5, q6⟩, q7⟩ := h
  have hL : L = [] := by
    cases L with
    | nil => rfl
    | cons a r => exact (q7 a List.mem_cons_self).elim
  refine ⟨o, .inl u, ws, q1, q2, hq, ?_, by rw [q4]; exact hF.1, q5, L, q6.mono hF.2.1.1 hF.2.1.2, fun x hx => (q7 x hx).elim, fun _ _ => ⟨by rw [q4]; exact hF.2.2.1, hL⟩⟩
  cases u with
  | none => exact q3
  | some u => exact q3
end CXS
end
section
section CXT
variable {p : Program} {l : Launch} {e : Env} {R : Room} {s : State} {m : MethodId} {args : Array Value} {below : List Frame} {meth : Method} {c : Code} {G : cx_G} {nL mc ms : Nat} {cc : ByteArray} {Tb : List Cond} {Rq : cx_R} {Q : State → Prop} {free : Addr → Prop}
set_option maxHeartbeats 4000000 in
set_option maxRecDepth 100000 in
theorem cx_s1 {wr : Bool} {F0c : cx_F} {own : String} {rt : Option FieldType} {F : List (Nat × Nat × Nat)} {FP : List (Nat × Nat × Nat × Int32)} {LC : List (Nat × Int64)} {CV CS : List (Nat × Nat)} {TH : List (Nat × Nat)} {Sp : List (cx_S × Nat × Nat × Nat)} {Ex : List String} {Sw : List (Nat × List Nat)}
    (hx : p.tables.exec = Jvm.exec) (hb : c.code = cc) (hG : cx_okG G) (hKn : cx_Kn Tb G s) (hlocks : meth.locks = false) (hr : meth.sig.returnType = rt) (hown : s.vm.findClass own = some m.cls)
    (hFP : ∀ ws k n H locs, F0c ws k n H locs → cx_P G ws H ∧ (k ≤ mc ∧ n ≤ ms) ∧ ∀ q ∈ locs, (cx_H0 G).size ≤ q.base)
    (hfree : ∀ ws k n H locs, F0c ws k n H locs → ∀ q ∈ locs, free q.base) (hRet : ∀ ws k n H locs u t, F0c ws k n H locs → Rq (.inl u) ws → cx_end0 below args G s k n free H u t → Q t)
    (hFw : wr = true → ∀ (ws ws' : List cx_C) (k n : Nat) (H H' : Heap) (locs : List Loc) (a i : Nat), F0c ws k n H locs → cx_P G ws' H' → (cx_H0 G).size ≤ a → H'.size = H.size → ws'.length = ws.length → F0c ws' k n H' (locs ++ [⟨a, i⟩]))
    (okF : ∀ q ∈ F, cx_okget p l e R s m args below meth c cc G Q q.1 q.2.1 q.2.2)
    (okP : ∀ q ∈ FP, cx_okput p l e R s m args below meth c cc G Q q.1 q.2.1 q.2.2.1 q.2.2.2)
    (okL : ∀ q ∈ LC, (Jvm.Cond.constantLong own q.1 q.2).before args s = true)
    (okV : ∀ q ∈ CV, ∀ f na kc ks, Sp[q.2]? = some (f, na, kc, ks) → cx_okcall p l e R s m args below meth c cc G nL mc ms F0c Q Rq (.invokevirtual q.1) f na kc ks)
    (okS : ∀ q ∈ CS, ∀ f na kc ks, Sp[q.2]? = some (f, na, kc, ks) → cx_okcall p l e R s m args below meth c cc G nL mc ms F0c Q Rq (.invokestatic q.1) f na kc ks)
    (okT : ∀ q ∈ TH, ∀ x, Ex[q.2]? = some x → cx_okthr p l e R s m args below meth c G nL mc ms F0c Q Rq q.1 x)
    {en : cx_E} {pc : Nat} {lv : cx_L} {st : List cx_V} {ws : List cx_C} {k n : Nat} {K : cx_K}
    (hd : decode cc pc = .ok (en.1, cx_len en.1 en.2.2.2.2.1)) (hnx : en.2.2.2.2.2 = pc + cx_len en.1 en.2.2.2.2.1) (hs : cx_side wr rt nL F FP LC CV CS TH Sw pc en = true)
    (hK : ∀ pc lv st ws k n, K pc lv st ws k n → cx_AW p l e R s m args below meth c G nL F0c Q pc lv st ws k n)
    (h : cx_1 Sp Ex Sw mc ms en lv st ws k n K Rq) : cx_AW p l e R s m args below meth c G nL F0c Q pc lv st ws k n := by
  intro H locs ls hF hl
  obtain ⟨hP, ⟨hk, hn⟩, hL⟩ := hFP _ _ _ _ _ hF
  obtain ⟨i, v, w, a, b, nx⟩ := en
  dsimp only at hnx
  subst hnx
  cases i with
  | iconst z =>
    dsimp only [cx_1] at h
    have hs : Int32.ofInt z = v := of_decide_eq_true hs
    exact lv_iconst hx hb hd hs (hK _ _ _ _ _ _ h H locs ls hF hl)
  | bipush z =>
    dsimp only [cx_1] at h
    have hs : (Int8.ofInt z).toInt32 = v := of_decide_eq_true hs
    exact lv_bipush hx hb hd hs (hK _ _ _ _ _ _ h H locs ls hF hl)
  | sipush z =>
    dsimp only [cx_1] at h
    have hs : (Int16.ofInt z).toInt32 = v := of_decide_eq_true hs
    exact lv_sipush hx hb hd hs (hK _ _ _ _ _ _ h H locs ls hF hl)
  | lconst z =>
    dsimp only [cx_1] at h
    have hs : Int64.ofNat z.val = w := of_decide_eq_true hs
    exact lv_lconst hx hb hd hs (hK _ _ _ _ _ _ h H locs ls hF hl)
  | ldc2_w z =>
    dsimp only [cx_1] at h
    have hs : (z, w) ∈ LC := of_decide_eq_true hs
    exact lv_ldc2 hx hb hown (okL _ hs) hd (hK _ _ _ _ _ _ h H locs ls hF hl)
  | iload_n z =>
    dsimp only [cx_1] at h
    have hs : z.val = a := of_decide_eq_true hs
    obtain ⟨x, h1, hz1⟩ := cx_ldi_spec h
    exact lv_iload_n hx hb hd hs (hl.2.2 _ _ h1) (hK _ _ _ _ _ _ hz1 H locs ls hF hl)
  | iload z =>
    dsimp only [cx_1] at h
    have hs : z = a := of_decide_eq_true hs
    subst hs
    obtain ⟨x, h1, hz1⟩ := cx_ldi_spec h
    exact lv_iload hx hb hd (hl.2.2 _ _ h1) (hK _ _ _ _ _ _ hz1 H locs ls hF hl)
  | lload_n z =>
    dsimp only [cx_1] at h
    have hs : z.val = a := of_decide_eq_true hs
    obtain ⟨x, h1, hz1⟩ := cx_ldl_spec h
    exact lv_lload_n hx hb hd hs (hl.2.2 _ _ h1) (hK _ _ _ _ _ _ hz1 H locs ls hF hl)
  | lload z =>
    dsimp only [cx_1] at h
    have hs : z = a := of_decide_eq_true hs
    subst hs
    obtain ⟨x, h1, hz1⟩ := cx_ldl_spec h
    exact lv_lload hx hb hd (hl.2.2 _ _ h1) (hK _ _ _ _ _ _ hz1 H locs ls hF hl)
  | aload_n z =>
    dsimp only [cx_1] at h
    have hs : z.val = a := of_decide_eq_true hs
    obtain ⟨u, h1, hz1, h2⟩ := cx_lda_spec h
    obtain ⟨y, hy⟩ := h2 G
    have h3 := hl.2.2 _ _ h1
    have h4 := hK _ _ _ _ _ _ hz1 H locs ls hF hl
    rw [List.map_cons, hy] at h4
    rw [hy] at h3
    exact lv_aload_n hx hb hd hs h3 h4
  | aload z =>
    dsimp only [cx_1] at h
    have hs : z = a := of_decide_eq_true hs
    subst hs
    obtain ⟨u, h1, hz1, h2⟩ := cx_lda_spec h
    obtain ⟨y, hy⟩ := h2 G
    have h3 := hl.2.2 _ _ h1
    have h4 := hK _ _ _ _ _ _ hz1 H locs ls hF hl
    rw [List.map_cons, hy] at h4
    rw [hy] at h3
    exact lv_aload hx hb hd h3 h4
  | istore_n z =>
    dsimp only [cx_1] at h
    have hs : z.val = a ∧ a < nL := of_decide_eq_true hs
    obtain ⟨x, r, rfl, hz1⟩ := cx_i1_spec h
    rw [cx_fo_eq] at hz1
    exact lv_istore_n hx hb hd hs.1 hl.lv hs.2 rfl (fun ls' h' => hK _ _ _ _ _ _ hz1 H locs ls' hF (cx_has.st1 rfl h'))
  | istore z =>
    dsimp only [cx_1] at h
    have hs : z = a ∧ a < nL := of_decide_eq_true hs
    obtain ⟨rfl, hs⟩ := hs
    obtain ⟨x, r, rfl, hz1⟩ := cx_i1_spec h
    rw [cx_fo_eq] at hz1
    exact lv_istore hx hb hd hl.lv hs rfl (fun ls' h' => hK _ _ _ _ _ _ hz1 H locs ls' hF (cx_has.st1 rfl h'))
  | lstore_n z =>
    dsimp only [cx_1] at h
    have hs : z.val = a ∧ a + 1 < nL := of_decide_eq_true hs
    obtain ⟨x, r, rfl, hz1⟩ := cx_l1_spec h
    rw [cx_fo_eq] at hz1
    exact lv_lstore_n hx hb hd hs.1 hl.lv hs.2 rfl (fun ls' h' => hK _ _ _ _ _ _ hz1 H locs ls' hF (cx_has.st2 rfl h'))
  | lstore z =>
    dsimp only [cx_1] at h
    have hs : z = a ∧ a + 1 < nL := of_decide_eq_true hs
    obtain ⟨rfl, hs⟩ := hs
    obtain ⟨x, r, rfl, hz1⟩ := cx_l1_spec h
    rw [cx_fo_eq] at hz1
    exact lv_lstore hx hb hd hl.lv hs rfl (fun ls' h' => hK _ _ _ _ _ _ hz1 H locs ls' hF (cx_has.st2 rfl h'))
  | astore_n z =>
    dsimp only [cx_1] at h
    have hs : z.val = a ∧ a < nL := of_decide_eq_true hs
    obtain ⟨u, r, rfl, hz1, h2⟩ := cx_a1_spec h
    obtain ⟨y, hy⟩ := h2 G
    rw [List.map_cons, hy]
    rw [cx_fo_eq] at hz1
    exact lv_astore_n hx hb hd hs.1 hl.lv hs.2 rfl (fun ls' h' => hK _ _ _ _ _ _ hz1 H locs ls' hF (cx_has.st1 hy h'))
  | astore z =>
    dsimp only [cx_1] at h
    have hs : z = a ∧ a < nL := of_decide_eq_true hs
    obtain ⟨rfl, hs⟩ := hs
    obtain ⟨u, r, rfl, hz1, h2⟩ := cx_a1_spec h
    obtain ⟨y, hy⟩ := h2 G
    rw [List.map_cons, hy]
    rw [cx_fo_eq] at hz1
    exact lv_astore hx hb hd hl.lv hs rfl (fun ls' h' => hK _ _ _ _ _ _ hz1 H locs ls' hF (cx_has.st1 hy h'))
  | iinc z y =>
    dsimp only [cx_1] at h
    have hs : z = a ∧ a < nL ∧ Int32.ofInt y = v := of_decide_eq_true hs
    obtain ⟨rfl, hs1, hs2⟩ := hs
    obtain ⟨x, h1, hz1⟩ := cx_ldi_spec h
    obtain ⟨q, hq⟩ := List.getElem?_of_mem (cx_prs_in (G := G) h1)
    rw [cx_fo_eq] at hz1
    exact lv_iinc (v := x + v) hx hb hd hl.lv hq (by rw [hs2]) hs1 rfl (fun ls' h' => hK _ _ _ _ _ _ hz1 H locs ls' hF (cx_has.st1 rfl h'))
  | iadd =>
    dsimp only [cx_1] at h
    obtain ⟨x, y, r, rfl, hz1⟩ := cx_ii_spec h
    exact lv_iadd hx hb hd (hK _ _ _ _ _ _ hz1 H locs ls hF hl)
  | isub =>
    dsimp only [cx_1] at h
    obtain ⟨x, y, r, rfl, hz1⟩ := cx_ii_spec h
    exact lv_isub hx hb hd (hK _ _ _ _ _ _ hz1 H locs ls hF hl)
  | imul =>
    dsimp only [cx_1] at h
    obtain ⟨x, y, r, rfl, hz1⟩ := cx_ii_spec h
    exact lv_imul hx hb hd (hK _ _ _ _ _ _ hz1 H locs ls hF hl)
  | iand =>
    dsimp only [cx_1] at h
    obtain ⟨x, y, r, rfl, hz1⟩ := cx_ii_spec h
    exact lv_iand hx hb hd (hK _ _ _ _ _ _ hz1 H locs ls hF hl)
  | ior =>
    dsimp only [cx_1] at h
    obtain ⟨x, y, r, rfl, hz1⟩ := cx_ii_spec h
    exact lv_ior hx hb hd (hK _ _ _ _ _ _ hz1 H locs ls hF hl)
  | ixor =>
    dsimp only [cx_1] at h
    obtain ⟨x, y, r, rfl, hz1⟩ := cx_ii_spec h
    exact lv_ixor hx hb hd (hK _ _ _ _ _ _ hz1 H locs ls hF hl)
  | ishl =>
    dsimp only [cx_1] at h
    obtain ⟨x, y, r, rfl, hz1⟩ := cx_ii_spec h
    exact lv_ishl hx hb hd (hK _ _ _ _ _ _ hz1 H locs ls hF hl)
  | ishr =>
    dsimp only [cx_1] at h
    obtain ⟨x, y, r, rfl, hz1⟩ := cx_ii_spec h
    exact lv_ishr hx hb hd (hK _ _ _ _ _ _ hz1 H locs ls hF hl)
  | idiv =>
    dsimp only [cx_1] at h
    obtain ⟨x, y, r, rfl, h0, hz1⟩ := cx_ii_spec h
    exact lv_idiv hx hb hd h0 (hK _ _ _ _ _ _ hz1 H locs ls hF hl)
  | irem =>
    dsimp only [cx_1] at h
    obtain ⟨x, y, r, rfl, h0, hz1⟩ := cx_ii_spec h
    exact lv_irem hx hb hd h0 (hK _ _ _ _ _ _ hz1 H locs ls hF hl)
  | land =>
    dsimp only [cx_1] at h
    obtain ⟨x, y, r, rfl, hz1⟩ := cx_ll_spec h
    exact lv_land hx hb hd (hK _ _ _ _ _ _ hz1 H locs ls hF hl)
  | lor =>
    dsimp only [cx_1] at h
    obtain ⟨x, y, r, rfl, hz1⟩ := cx_ll_spec h
    exact lv_lor hx hb hd (hK _ _ _ _ _ _ hz1 H locs ls hF hl)
  | lxor =>
    dsimp only [cx_1] at h
    obtain ⟨x, y, r, rfl, hz1⟩ := cx_ll_spec h
    exact lv_lxor hx hb hd (hK _ _ _ _ _ _ hz1 H locs ls hF hl)
  | ladd =>
    dsimp only [cx_1] at h
    obtain ⟨x, y, r, rfl, hz1⟩ := cx_ll_spec h
    exact lv_ladd hx hb hd (hK _ _ _ _ _ _ hz1 H locs ls hF hl)
  | lsub =>
    dsimp only [cx_1] at h
    obtain ⟨x, y, r, rfl, hz1⟩ := cx_ll_spec h
    exact lv_lsub hx hb hd (hK _ _ _ _ _ _ hz1 H locs ls hF hl)
  | lcmp =>
    dsimp only [cx_1] at h
    obtain ⟨x, y, r, rfl, hz1⟩ := cx_ll_spec h
    exact W.lcmp hx hb hd (hK _ _ _ _ _ _ hz1 H locs ls hF hl)
  | lshl =>
    dsimp only [cx_1] at h
    obtain ⟨x, y, r, rfl, hz1⟩ := cx_li_spec h
    exact lv_lshl hx hb hd rfl (hK _ _ _ _ _ _ hz1 H locs ls hF hl)
  | lushr =>
    dsimp only [cx_1] at h
    obtain ⟨x, y, r, rfl, hz1⟩ := cx_li_spec h
    exact lv_lushr hx hb hd rfl (hK _ _ _ _ _ _ hz1 H locs ls hF hl)
  | lshr =>
    dsimp only [cx_1] at h
    obtain ⟨x, y, r, rfl, hz1⟩ := cx_li_spec h
    exact lv_lshr hx hb hd rfl (hK _ _ _ _ _ _ hz1 H locs ls hF hl)
  | i2l =>
    dsimp only [cx_1] at h
    obtain ⟨x, r, rfl, hz1⟩ := cx_i1_spec h
    exact lv_i2l hx hb hd rfl (hK _ _ _ _ _ _ hz1 H locs ls hF hl)
  | l2i =>
    dsimp only [cx_1] at h
    obtain ⟨x, r, rfl, hz1⟩ := cx_l1_spec h
    exact lv_l2i hx hb hd rfl (hK _ _ _ _ _ _ hz1 H locs ls hF hl)
  | dup =>
    dsimp only [cx_1] at h
    obtain ⟨u, r, rfl, hw, hz1⟩ := cx_u1_spec h
    exact lv_dup hx hb hd (cx_cat1 hw) (hK _ _ _ _ _ _ hz1 H locs ls hF hl)
  | pop =>
    dsimp only [cx_1] at h
    obtain ⟨u, r, rfl, hw, hz1⟩ := cx_u1_spec h
    exact lv_pop hx hb hd (cx_cat1 hw) (hK _ _ _ _ _ _ hz1 H locs ls hF hl)
  | dup2 =>
    dsimp only [cx_1] at h
    obtain ⟨u, r, rfl, hw, hz1⟩ := cx_u1_spec h
    obtain ⟨u2, r, rfl, hw2, hz2⟩ := cx_u1_spec hz1
    exact lv_dup2_11 hx hb hd (cx_cat1 hw) (cx_cat1 hw2) (hK _ _ _ _ _ _ hz2 H locs ls hF hl)
  | ifCond q o =>
    dsimp only [cx_1] at h
    have ht : (pc : Int) + o = (a : Int) := of_decide_eq_true hs
    obtain ⟨x, r, rfl, hz1⟩ := cx_i1_spec h
    cases q with
    | eq =>
      dsimp only [cx_cmp0] at hz1
      exact lv_if_eq hx hb hd ht (fun q => hK _ _ _ _ _ _ (hz1.1 q) H locs ls hF hl) (fun q => hK _ _ _ _ _ _ (hz1.2 q) H locs ls hF hl)
    | ne =>
      dsimp only [cx_cmp0] at hz1
      exact lv_if_ne hx hb hd ht (fun q => hK _ _ _ _ _ _ (hz1.1 q) H locs ls hF hl) (fun q => hK _ _ _ _ _ _ (hz1.2 q) H locs ls hF hl)
    | lt =>
      dsimp only [cx_cmp0] at hz1
      exact lv_if_lt hx hb hd ht (fun q => hK _ _ _ _ _ _ (hz1.1 q) H locs ls hF hl) (fun q => hK _ _ _ _ _ _ (hz1.2 q) H locs ls hF hl)
    | ge =>
      dsimp only [cx_cmp0] at hz1
      exact lv_if_ge hx hb hd ht (fun q => hK _ _ _ _ _ _ (hz1.1 q) H locs ls hF hl) (fun q => hK _ _ _ _ _ _ (hz1.2 q) H locs ls hF hl)
    | gt =>
      dsimp only [cx_cmp0] at hz1
      exact lv_if_gt hx hb hd ht (fun q => hK _ _ _ _ _ _ (hz1.1 q) H locs ls hF hl) (fun q => hK _ _ _ _ _ _ (hz1.2 q) H locs ls hF hl)
    | le =>
      dsimp only [cx_cmp0] at hz1
      exact lv_if_le hx hb hd ht (fun q => hK _ _ _ _ _ _ (hz1.1 q) H locs ls hF hl) (fun q => hK _ _ _ _ _ _ (hz1.2 q) H locs ls hF hl)
  | if_icmp q o =>
    dsimp only [cx_1] at h
    have ht : (pc : Int) + o = (a : Int) := of_decide_eq_true hs
    obtain ⟨x, y, r, rfl, hz1⟩ := cx_ii_spec h
    cases q with
    | eq =>
      dsimp only [cx_cmp2] at hz1
      exact lv_icmp_eq hx hb hd ht (fun q => hK _ _ _ _ _ _ (hz1.1 q) H locs ls hF hl) (fun q => hK _ _ _ _ _ _ (hz1.2 q) H locs ls hF hl)
    | ne =>
      dsimp only [cx_cmp2] at hz1
      exact lv_icmp_ne hx hb hd ht (fun q => hK _ _ _ _ _ _ (hz1.1 q) H locs ls hF hl) (fun q => hK _ _ _ _ _ _ (hz1.2 q) H locs ls hF hl)
    | lt =>
      dsimp only [cx_cmp2] at hz1
      exact lv_icmp_lt hx hb hd ht (fun q => hK _ _ _ _ _ _ (hz1.1 q) H locs ls hF hl) (fun q => hK _ _ _ _ _ _ (hz1.2 q) H locs ls hF hl)
    | ge =>
      dsimp only [cx_cmp2] at hz1
      exact lv_icmp_ge hx hb hd ht (fun q => hK _ _ _ _ _ _ (hz1.1 q) H locs ls hF hl) (fun q => hK _ _ _ _ _ _ (hz1.2 q) H locs ls hF hl)
    | gt =>
      dsimp only [cx_cmp2] at hz1
      exact lv_icmp_gt hx hb hd ht (fun q => hK _ _ _ _ _ _ (hz1.1 q) H locs ls hF hl) (fun q => hK _ _ _ _ _ _ (hz1.2 q) H locs ls hF hl)
    | le =>
      dsimp only [cx_cmp2] at hz1
      exact lv_icmp_le hx hb hd ht (fun q => hK _ _ _ _ _ _ (hz1.1 q) H locs ls hF hl) (fun q => hK _ _ _ _ _ _ (hz1.2 q) H locs ls hF hl)
  | goto o =>
    dsimp only [cx_1] at h
    have hs : (pc : Int) + o = (a : Int) := of_decide_eq_true hs
    exact lv_goto hx hb hd hs (hK _ _ _ _ _ _ h H locs ls hF hl)
  | getfield z =>
    dsimp only [cx_1] at h
    have hs : (z, a, b) ∈ F := of_decide_eq_true hs
    obtain ⟨j, r, rfl, hz1⟩ := cx_p1_spec h
    obtain ⟨fs, hj, hz2⟩ := cx_obj_spec hz1
    obtain ⟨u, hu, hz3⟩ := cx_fld_spec hz2
    exact okF _ hs pc H locs k n ls _ _ (fs.map (cx_v G)) (cx_v G u) hd (hP.1 j _ hj).2 (by rw [List.getElem?_map, hu]; rfl) (hK _ _ _ _ _ _ hz3 H locs ls hF hl)
  | putfield z =>
    dsimp only [cx_1] at h
    have hs0 : (decide ((z, a, b, v) ∈ FP) && wr) = true := hs
    rw [Bool.and_eq_true] at hs0
    obtain ⟨hs1, hs⟩ := hs0
    have hs1 : (z, a, b, v) ∈ FP := of_decide_eq_true hs1
    obtain ⟨u, j, r, rfl, hz1⟩ := cx_pu_spec h
    obtain ⟨fs, hj, hz2⟩ := cx_obj_spec hz1
    obtain ⟨u0, hu, h1, hz3⟩ := cx_fld_spec hz2
    obtain ⟨hjN, hat⟩ := hP.1 j _ hj
    have hlen : b < fs.length := (List.getElem?_eq_some_iff.mp hu).1
    refine okP _ hs1 pc H locs k n ls _ _ (fs.map (cx_v G)) (cx_v G u) hd hat (by rw [List.length_map]; exact hlen) (cx_fits_takes h1) (fun H' i e1 e2 e3 => ?_)
    rw [cx_fo_eq, cx_fo_eq] at hz3
    refine hK _ _ _ _ _ _ hz3 H' _ ls (hFw hs _ _ _ _ _ _ _ _ _ hF (hP.set hG hj ?_ e2 e3) (hG.2.2.2.1 j hjN) e2 List.length_set) hl
    show va_at _ _ (_, .inr (a, (fs.set b u).map (cx_v G))) H'
    rw [List.map_set]
    exact e1
  | iaload =>
    dsimp only [cx_1] at h
    obtain ⟨x, j, r, rfl, hz1⟩ := cx_pi_spec h
    obtain ⟨n1, f, hj, h0, hz2⟩ := cx_ints_spec hz1
    exact W.iald (v := .int (f x.toNatClampNeg)) hx hb (hP.1 j _ hj).2 (hKn.2.2.1 _ _) (fun q => by cases q) (cx_inA h0) (cx_rdA h0) rfl rfl hd (hK _ _ _ _ _ _ hz2 H locs ls hF hl)
  | iastore =>
    dsimp only [cx_1] at h
    have hs : wr = true := hs
    obtain ⟨y, x, j, r, rfl, hz1⟩ := cx_pii_spec h
    obtain ⟨n1, f, hj, h0, hz2⟩ := cx_ints_spec hz1
    obtain ⟨hjN, hat⟩ := hP.1 j _ hj
    refine W.iast hx hb hat (hKn.2.2.1 _ _) (fun q => by cases q) (cx_inA h0) rfl rfl hd (fun H' e1 e2 e3 => ?_)
    rw [cx_fo_eq] at hz2
    refine hK _ _ _ _ _ _ hz2 H' _ ls (hFw hs _ _ _ _ _ _ _ _ _ hF (hP.set hG hj ?_ e2 e3) (hG.2.2.2.1 j hjN) e2 List.length_set) hl
    rw [cx_arrI] at e1
    exact e1
  | baload =>
    dsimp only [cx_1] at h
    obtain ⟨x, j, r, rfl, hz1⟩ := cx_pi_spec h
    obtain ⟨n1, f, hj, h0, hz2⟩ := cx_bools_spec hz1
    exact W.zald (v := .int (f x.toNatClampNeg)) hx hb (hP.1 j _ hj).2 (hKn.2.2.2.1 _ _) (fun q => by cases q) (cx_inA h0) (cx_rdA h0) rfl rfl hd (hK _ _ _ _ _ _ hz2 H locs ls hF hl)
  | bastore =>
    dsimp only [cx_1] at h
    have hs : wr = true := hs
    obtain ⟨y, x, j, r, rfl, hz1⟩ := cx_pii_spec h
    obtain ⟨n1, f, hj, ⟨h0, hy⟩, hz2⟩ := cx_bools_spec hz1
    obtain ⟨hjN, hat⟩ := hP.1 j _ hj
    refine W.zast hx hb hat (hKn.2.2.2.1 _ _) (fun q => by cases q) (cx_inA h0) rfl rfl hd (fun H' e1 e2 e3 => ?_)
    rw [cx_fo_eq] at hz2
    refine hK _ _ _ _ _ _ hz2 H' _ ls (hFw hs _ _ _ _ _ _ _ _ _ hF (hP.set hG hj ?_ e2 e3) (hG.2.2.2.1 j hjN) e2 List.length_set) hl
    rw [cx_nar01 hy, cx_arrI] at e1
    exact e1
  | laload =>
    dsimp only [cx_1] at h
    rcases cx_pig_spec h with ⟨x, j, r, rfl, hz1⟩ | ⟨x, j, g, r, rfl, hz1⟩
    · skip
      obtain ⟨n1, f, hj, h0, hz2⟩ := cx_longs_spec hz1
      exact W.lald (v := .long (f x.toNatClampNeg)) hx hb (hP.1 j _ hj).2 (hKn.2.2.2.2.1 _ _) (fun q => by cases q) (cx_inA h0) (cx_rdA h0) rfl rfl hd (hK _ _ _ _ _ _ hz2 H locs ls hF hl)
    · skip
      obtain ⟨n1, n2, f, hj, ⟨h0, h1⟩, hz3⟩ := cx_grid_spec hz1
      exact W.lald (v := .long (f g x.toNatClampNeg)) hx hb ((hP.1 j _ hj).2.2.2 g h0) (hKn.2.2.2.2.1 _ _) (fun q => by cases q) (cx_inA h1) (cx_rdA h1) rfl rfl hd (hK _ _ _ _ _ _ hz3 H locs ls hF hl)
  | lastore =>
    dsimp only [cx_1] at h
    have hs : wr = true := hs
    obtain ⟨y, q, rfl, hz1⟩ := cx_l1_spec h
    rcases cx_pig_spec hz1 with ⟨x, j, r, rfl, hz2⟩ | ⟨x, j, g, r, rfl, hz2⟩
    · skip
      obtain ⟨n1, f, hj, h0, hz3⟩ := cx_longs_spec hz2
      obtain ⟨hjN, hat⟩ := hP.1 j _ hj
      refine W.last hx hb hat (hKn.2.2.2.2.1 _ _) (fun q => by cases q) (cx_inA h0) rfl rfl hd (fun H' e1 e2 e3 => ?_)
      rw [cx_fo_eq] at hz3
      refine hK _ _ _ _ _ _ hz3 H' _ ls (hFw hs _ _ _ _ _ _ _ _ _ hF (hP.set hG hj ?_ e2 e3) (hG.2.2.2.1 j hjN) e2 List.length_set) hl
      rw [cx_arrL] at e1
      exact e1
    · skip
      obtain ⟨n1, n2, f, hj, ⟨h0, h1⟩, hz4⟩ := cx_grid_spec hz2
      obtain ⟨hjN, ha1, ha2, ha3⟩ := hP.1 j _ hj
      refine W.last hx hb (ha3 g h0) (hKn.2.2.2.2.1 _ _) (fun q => by cases q) (cx_inA h1) rfl rfl hd (fun H' e1 e2 e3 => ?_)
      rw [cx_fo_eq] at hz4
      refine hK _ _ _ _ _ _ hz4 H' _ ls (hFw hs _ _ _ _ _ _ _ _ _ hF (hP.setRow hG hj h0 ?_ e2 e3) (hG.2.2.2.2 j g (Nat.lt_of_lt_of_le h0 ha1)) e2 List.length_set) hl
      rw [cx_arrL] at e1
      exact e1
  | aaload =>
    dsimp only [cx_1] at h
    obtain ⟨x, j, r, rfl, hz1⟩ := cx_pi_spec h
    obtain ⟨n1, n2, f, hj, h0, hz2⟩ := cx_grid_spec hz1
    exact W.aald (v := .ref (cx_rd G j x.toNatClampNeg)) hx hb (hP.1 j _ hj).2.2.1 (hKn.2.2.2.2.2.1 _ _) rfl (fun q => by cases q) (cx_inA h0) (cx_rdA h0) rfl rfl hd (hK _ _ _ _ _ _ hz2 H locs ls hF hl)
  | tableswitch d lo hi offs =>
    dsimp only [cx_1] at h
    obtain ⟨x, r, rfl, hz1⟩ := cx_i1_spec h
    obtain ⟨dt, ts, hsw, h1, h2⟩ := cx_sw_spec hz1
    have hs : ((pc : Int) + d = (dt : Int) ∧ lo = 0 ∧ hi + 1 = (ts.length : Int)) ∧ offs.toList.map (fun o => (pc : Int) + o) = ts.map (fun t : Nat => (t : Int)) := by
      simp only [cx_side, hsw] at hs
      exact of_decide_eq_true hs
    obtain ⟨⟨hs1, rfl, hs3⟩, hs4⟩ := hs
    by_cases hc : x.toInt < 0 ∨ (ts.length : Int) ≤ x.toInt
    · exact lv_tableOut hx hb hd (by omega) hs1 (hK _ _ _ _ _ _ (h1 hc) H locs ls hF hl)
    · have hx0 : ¬ x.toInt < 0 := fun q => hc (Or.inl q)
      have hx1 : ¬ (ts.length : Int) ≤ x.toInt := fun q => hc (Or.inr q)
      obtain ⟨i, hi1, hi2⟩ : ∃ i : Nat, i < ts.length ∧ x.toInt = (i : Int) := ⟨x.toInt.toNat, by omega, by omega⟩
      have hxi : x = nI (0 + i) := by
        rw [Nat.zero_add]
        have hb2 : i < 2 ^ 31 := by
          have := Int32.toInt_lt x
          omega
        exact Int32.toInt_inj.mp (by rw [hi2, nI_toInt hb2])
      obtain ⟨t, ht⟩ : ∃ t, ts[i]? = some t := ⟨_, List.getElem?_eq_getElem hi1⟩
      have ho : (offs.toList.map (fun o => (pc : Int) + o))[i]? = some (t : Int) := by
        rw [hs4, List.getElem?_map, ht]
        rfl
      rw [List.getElem?_map] at ho
      obtain ⟨o, ho1, ho2⟩ := Option.map_eq_some_iff.mp ho
      refine lv_tableIn (off := o) (tgt := t) hx hb hd (by omega) (by omega) ?_ ho2 (hK _ _ _ _ _ _ (cx_swl_spec h2 i t ht hxi) H locs ls hF hl)
      rw [show (x.toInt - 0).toNat = i by omega, ← Array.getElem?_toList]
      exact ho1
  | ireturn =>
    dsimp only [cx_1] at h
    have hs : rt = some .int ∨ (rt = some .boolean ∧ v = 1) := of_decide_eq_true hs
    obtain ⟨x, rfl, h1, hz1⟩ := cx_ir_spec h
    rcases hs with hs | ⟨hs, hv⟩
    · exact cx_mono (fun t ht => hRet ws k n H locs (some (.inl x)) t hF hz1 ht) (W.zret hx hb (hr.trans hs) rfl (fun t ht hW => ⟨rfl, ht⟩) (hfree _ _ _ _ _ hF) hd hlocks)
    · exact cx_mono (fun t ht => hRet ws k n H locs (some (.inl x)) t hF hz1 ht) (W.zret hx hb (hr.trans hs) (cx_nar01 (h1 hv)) (fun t ht hW => ⟨rfl, ht⟩) (hfree _ _ _ _ _ hF) hd hlocks)
  | areturn =>
    dsimp only [cx_1] at h
    obtain ⟨u, rfl, hz1, h2⟩ := cx_ar_spec h
    obtain ⟨y, hy⟩ := h2 G
    have hrt : ∃ r, rt = some r ∧ ((∃ n, r = .object n) ∨ ∃ t, r = .array t) := by
      simp only [cx_side] at hs
      split at hs
      · exact ⟨_, rfl, Or.inr ⟨_, rfl⟩⟩
      · exact ⟨_, rfl, Or.inl ⟨_, rfl⟩⟩
      · cases hs
    obtain ⟨r, hr1, hr2⟩ := hrt
    exact cx_mono (fun t ht => hRet ws k n H locs (some u) t hF hz1 ht) (W.aret (v := cx_v G u) hx hb (hr.trans hr1) hr2 (Or.inr ⟨y, hy⟩) (fun t ht hW => ⟨rfl, ht⟩) (hfree _ _ _ _ _ hF) hd hlocks)
  | return_ =>
    dsimp only [cx_1] at h
    have hs : rt = none := of_decide_eq_true hs
    obtain ⟨rfl, hz1⟩ := cx_vr_spec h
    exact cx_mono (fun t ht => hRet ws k n H locs (none) t hF hz1 ht) (W.vret hx hb (hr.trans hs) (fun t ht hW => ⟨rfl, ht⟩) (hfree _ _ _ _ _ hF) hd hlocks)
  | invokevirtual z =>
    dsimp only [cx_1] at h
    have hs : (z, a) ∈ CV := of_decide_eq_true hs
    obtain ⟨f, na, kc, ks, hf, h1, h2, h3, h4, hz1⟩ := cx_go_spec h
    have hst : st = (st.take na).reverse.reverse ++ st.drop na := by rw [List.reverse_reverse, List.take_append_drop]
    rw [hst]
    refine okV _ hs f na kc ks hf pc H locs k n ls _ _ ws _ hd (by rw [List.length_reverse, List.length_take]; omega) h4 h1 h2 hF hl.1 hz1 (fun x ws' q => q) (fun u ws' H' locs' q hF' => ?_)
    cases u with
    | none => exact hK _ _ _ _ _ _ q H' locs' ls hF' hl
    | some u => exact hK _ _ _ _ _ _ q H' locs' ls hF' hl
  | invokestatic z =>
    dsimp only [cx_1] at h
    have hs : (z, a) ∈ CS := of_decide_eq_true hs
    obtain ⟨f, na, kc, ks, hf, h1, h2, h3, h4, hz1⟩ := cx_go_spec h
    have hst : st = (st.take na).reverse.reverse ++ st.drop na := by rw [List.reverse_reverse, List.take_append_drop]
    rw [hst]
    refine okS _ hs f na kc ks hf pc H locs k n ls _ _ ws _ hd (by rw [List.length_reverse, List.length_take]; omega) h4 h1 h2 hF hl.1 hz1 (fun x ws' q => q) (fun u ws' H' locs' q hF' => ?_)
    cases u with
    | none => exact hK _ _ _ _ _ _ q H' locs' ls hF' hl
    | some u => exact hK _ _ _ _ _ _ q H' locs' ls hF' hl
  | new z =>
    dsimp only [cx_1] at h
    have hs : (pc, a) ∈ TH := of_decide_eq_true hs
    obtain ⟨rfl, hz1⟩ := cx_vr_spec h
    obtain ⟨x, hx1, rfl, rfl, h1, h2, hz2⟩ := cx_thr_spec hz1
    exact okT _ hs x hx1 H locs ls ws h1 h2 hF hl.1 hz2
  | _ => exact False.elim h
theorem cx_get_spec : ∀ {T : List (Nat × cx_E)} {pc : Nat} {en : cx_E}, cx_get T pc = some en → (pc, en) ∈ T
  | [], _, _, h => by cases h
  | q :: r, pc, en, h => by
    unfold cx_get at h
    split at h
    · rename_i hb
      have e : q.1 = pc := Nat.eq_of_beq_eq_true hb
      cases h
      rw [← e]
      exact List.mem_cons_self
    · exact List.mem_cons_of_mem _ (cx_get_spec h)
theorem cx_sound {wr : Bool} {F0c : cx_F} {own : String} {rt : Option FieldType} {F : List (Nat × Nat × Nat)} {FP : List (Nat × Nat × Nat × Int32)} {LC : List (Nat × Int64)} {CV CS : List (Nat × Nat)} {TH : List (Nat × Nat)} {T : List (Nat × cx_E)} {Sp : List (cx_S × Nat × Nat × Nat)} {Ex : List String} {Sw : List (Nat × List Nat)}
    (hx : p.tables.exec = Jvm.exec) (hb : c.code = cc) (hG : cx_okG G) (hKn : cx_Kn Tb G s) (hlocks : meth.locks = false) (hr : meth.sig.returnType = rt) (hown : s.vm.findClass own = some m.cls)
    (hFP : ∀ ws k n H locs, F0c ws k n H locs → cx_P G ws H ∧ (k ≤ mc ∧ n ≤ ms) ∧ ∀ q ∈ locs, (cx_H0 G).size ≤ q.base)
    (hfree : ∀ ws k n H locs, F0c ws k n H locs → ∀ q ∈ locs, free q.base) (hRet : ∀ ws k n H locs u t, F0c ws k n H locs → Rq (.inl u) ws → cx_end0 below args G s k n free H u t → Q t)
    (hFw : wr = true → ∀ (ws ws' : List cx_C) (k n : Nat) (H H' : Heap) (locs : List Loc) (a i : Nat), F0c ws k n H locs → cx_P G ws' H' → (cx_H0 G).size ≤ a → H'.size = H.size → ws'.length = ws.length → F0c ws' k n H' (locs ++ [⟨a, i⟩]))
    (okF : ∀ q ∈ F, cx_okget p l e R s m args below meth c cc G Q q.1 q.2.1 q.2.2)
    (okP : ∀ q ∈ FP, cx_okput p l e R s m args below meth c cc G Q q.1 q.2.1 q.2.2.1 q.2.2.2)
    (okL : ∀ q ∈ LC, (Jvm.Cond.constantLong own q.1 q.2).before args s = true)
    (okV : ∀ q ∈ CV, ∀ f na kc ks, Sp[q.2]? = some (f, na, kc, ks) → cx_okcall p l e R s m args below meth c cc G nL mc ms F0c Q Rq (.invokevirtual q.1) f na kc ks)
    (okS : ∀ q ∈ CS, ∀ f na kc ks, Sp[q.2]? = some (f, na, kc, ks) → cx_okcall p l e R s m args below meth c cc G nL mc ms F0c Q Rq (.invokestatic q.1) f na kc ks)
    (okT : ∀ q ∈ TH, ∀ x, Ex[q.2]? = some x → cx_okthr p l e R s m args below meth c G nL mc ms F0c Q Rq q.1 x)
    (hT : T.all (cx_dec wr cc rt nL F FP LC CV CS TH Sw) = true) {P : List Nat} {K : cx_K} (hK : ∀ pc lv st ws k n, K pc lv st ws k n → cx_AW p l e R s m args below meth c G nL F0c Q pc lv st ws k n) :
    ∀ (i : Nat) {pc : Nat} {lv : cx_L} {st : List cx_V} {ws : List cx_C} {k n : Nat}, cx_ax T Sp Ex Sw mc ms P Rq K i pc lv st ws k n → cx_AW p l e R s m args below meth c G nL F0c Q pc lv st ws k n := by
  intro i
  induction i with
  | zero => intro pc lv st ws k n h; exact hK _ _ _ _ _ _ h
  | succ i ih =>
    intro pc lv st ws k n h
    unfold cx_ax at h
    split at h
    · rename_i en hen
      obtain ⟨d1, d3, d2⟩ := cx_dec_spec (List.all_eq_true.mp hT _ (cx_get_spec hen))
      refine cx_s1 hx hb hG hKn hlocks hr hown hFP hfree hRet hFw okF okP okL okV okS okT d1 d3 d2 (fun pc lv st ws k n q => ?_) h
      split at q
      · exact hK _ _ _ _ _ _ q
      · exact ih q
    · exact h.elim
end CXT
end
section
/-! Contracts of methods, and calls by them. -/
/-- a method's contract: its body from every state whose heap holds the world -/
def cx_Mg (QQ : List Frame → cx_G → State → Nat → Nat → cx_R → State → Prop) (Tb : List Cond) (l : Launch) (G : cx_G) (y : MethodName) (cc : ByteArray) (nL : Nat) (rt : Option FieldType) (rm : Room) (f : cx_S) : Prop :=
  ∀ (as : List cx_V) (ws : List cx_C) (Rq : cx_R), f as ws Rq → ∀ (p : Program) (e : Env) (s : State) (m : MethodId) (below : List Frame) (meth : Method) (c : Code), p.tables.exec = Jvm.exec → c.code = cc → c.maxLocals = nL → meth.sig.returnType = rt → meth.locks = false → c.exceptionTable.isEmpty = true → s.vm.findClass y.cls = some m.cls → cx_Kn Tb G s → cx_P G ws s.heap →
    W p l e rm s m (as.map (cx_v G)).toArray below meth c s.heap [] 0 0 (QQ below G s rm.cells rm.slots Rq) (entryFrame m (as.map (cx_v G)).toArray nL)
abbrev cx_M := cx_Mg cx_Q
abbrev cx_M2 := cx_Mg cx_Q2
theorem cx_M2.weak {Tb : List Cond} {l : Launch} {G : cx_G} {y : MethodName} {cc : ByteArray} {nL : Nat} {rt : Option FieldType} {rm : Room} {f : cx_S} (h : cx_M2 Tb l G y cc nL rt rm f) : cx_M Tb l G y cc nL rt rm f :=
  fun as ws Rq hf p e s m below meth c h1 h2 h3 h4 h5 h6 h7 h8 h9 => cx_mono (fun t ht => ht.weak) (h as ws Rq hf p e s m below meth c h1 h2 h3 h4 h5 h6 h7 h8 h9)
/-- the contract of an object's method: the receiver is a cell of its class -/
def cx_self (ci : Nat) (f : Nat → List cx_V → List cx_C → cx_R → Prop) : cx_S := fun as ws R => cx_p1 as (fun j r => cx_obj ws j ci (fun _ => f j r ws R))
section CXC
variable {p : Program} {l : Launch} {e : Env} {R : Room} {s : State} {m : MethodId} {args : Array Value} {below : List Frame} {meth : Method} {c : Code} {G : cx_G} {nL mc ms : Nat} {cc : ByteArray} {Tb : List Cond} {Rq : cx_R}
theorem cx_core {QQ : List Frame → cx_G → State → Nat → Nat → cx_R → State → Prop} (hTb : Tb.all cx_stB = true) {T : State} {locs : List Loc} {k n : Nat} {y : MethodName} {cc' : ByteArray} {nL' : Nat} {rt' : Option FieldType} {rm : Room} {f : cx_S} (hM : cx_Mg QQ Tb l G y cc' nL' rt' rm f) (hx : p.tables.exec = Jvm.exec) (hKn : cx_Kn Tb G s) {as : List cx_V} {ws : List cx_C} {Rf : cx_R} (hf : f as ws Rf)
    (X : Stand p l e R s m args below meth c T locs k n) (hP : cx_P G ws T.heap) {g : JFrame} (hg : g.method = m) (hsize : g.locals.size = c.maxLocals) {ig : Instr} (hdg : decode c.code g.pc = .ok (ig, 3)) (hW : 2 * g.monitorRoom + (g.stack.map fun v => v.category).sum ≤ 8)
    {mk : MethodId} (hnamed : s.methodNamed? y = some mk) (hcode : (Jvm.Cond.code y cc' nL' rt').before args s = true) (hpl : plainName y.cls = true) (hfr : rm.frames + 1 ≤ R.frames) (hlo : 8 + (nL' + 11) + rm.locals ≤ R.locals) (hc1 : k + rm.cells ≤ R.cells) (hs1 : n + rm.slots ≤ R.slots) :
    ∃ t, (∀ acts, Steps p.tables e below (doInvoke e (T.setTop g) acts mk (as.map (cx_v G)).toArray).1 t) ∧ QQ (.java g :: below) G (T.calling g mk (as.map (cx_v G)).toArray) rm.cells rm.slots Rf t := by
  obtain ⟨methk, ck, hm, hck, hcc, hml, hrt, hlk, hne, -⟩ := Cond.code_spec hnamed hcode
  have hmk : T.vm.method? mk = some methk := by rw [X.warmed.alike.method?]; exact hm
  have hpk : T.plainMethod mk := X.warmed.plainAt (fun kk hkk => by
    obtain ⟨k0, hk0, hn0⟩ := className_of_methodNamed hnamed
    cases hkk.symm.trans hk0
    rw [hn0]
    exact hpl)
  obtain ⟨X', st⟩ := X.into hg hsize hdg (as.map (cx_v G)).toArray (R' := rm) hmk hck hlk hpk hfr (by rw [hml]; omega) hc1 hs1
  have hfc : T.vm.findClass y.cls = some mk.cls := by
    rw [X.warmed.alike.findClass]
    exact findClass_of_methodNamed hnamed
  have hKn' : cx_Kn Tb G (T.calling g mk (as.map (cx_v G)).toArray) := hKn.warm hTb (show s.WarmedH T.vm from X.warmed)
  have w := hM as ws Rf hf p e (T.calling g mk (as.map (cx_v G)).toArray) mk (.java g :: below) methk ck hx hcc hml hrt hlk hne hfc hKn' hP
  rw [← hml] at w
  obtain ⟨t, a1, a2⟩ := w ((T.setTop g).pushFrame (.java (entryFrame mk (as.map (cx_v G)).toArray ck.maxLocals))) rfl X'
  refine ⟨t, fun acts => ?_, a2⟩
  rw [st acts]
  exact Steps.weaken (mid := [.java g]) a1
theorem cx_noH (hne : c.exceptionTable.isEmpty = true) (pc : Nat) : ∀ x ∈ c.exceptionTable.toList, covers x pc = false := fun x hx => by
  have h0 : c.exceptionTable.toList = [] := by
    rw [Array.isEmpty_iff.mp hne]
  rw [h0] at hx
  cases hx
theorem cx_behind (hlocks : meth.locks = false) (hne : c.exceptionTable.isEmpty = true) {T : State} {locs : List Loc} {k n : Nat} {rm : Room} {Rf : cx_R} {s₀ : State}
    (X : Stand p l e R s m args below meth c T locs k n) {pc : Nat} {ls : Array Slot} {rest : List cx_V} {ig : Instr} (hdg : decode c.code pc = .ok (ig, 3)) {mk : MethodId} {a : Array Value} {t : State}
    (hst : Steps p.tables e below s₀ t) (hQ : cx_Q (.java (F0 m pc ls (rest.map (cx_v G))) :: below) G (T.calling (F0 m pc ls (rest.map (cx_v G))) mk a) rm.cells rm.slots Rf t) (hk : k + rm.cells ≤ mc) (hn : n + rm.slots ≤ ms) (hL : ∀ q ∈ locs, (cx_H0 G).size ≤ q.base)
    (hthr : ∀ (x : String) (ws' : List cx_C), Rf (.inr x) ws' → Rq (.inr x) ws')
    (hret : ∀ (u : Option cx_V) (ws' : List cx_C) (H' : Heap) (locs' : List Loc), Rf (.inl u) ws' → cx_F1 G mc ms ws' (k + rm.cells) (n + rm.slots) H' locs' → W p l e R s m args below meth c H' locs' (k + rm.cells) (n + rm.slots) (cx_Q below G s mc ms Rq) (F0 m (pc + 3) ls (u.toList.map (cx_v G) ++ rest.map (cx_v G)))) :
    ∃ t₂, Steps p.tables e below s₀ t₂ ∧ cx_Q below G s mc ms Rq t₂ := by
  obtain ⟨o, q, ws', c1, c2, c3, c4, c5, c6, L, c7, c8⟩ := hQ
  have hL' : ∀ q ∈ locs ++ L, (cx_H0 G).size ≤ q.base := fun q hq => (List.mem_append.mp hq).elim (hL q) (c8 q)
  cases q with
  | inl u =>
    have ho : o = .returned (u.map (cx_v G)) := by
      cases u with
      | none => exact c4
      | some u => exact c4
    subst ho
    obtain ⟨T', X', hW', hS', ht⟩ := X.outOf (g := F0 m pc ls (rest.map (cx_v G))) rfl hdg c2 c6 c7
    have hh : t.heap = T'.heap := by rw [ht]; rfl
    rw [hh] at c5
    obtain ⟨t₂, a1, b1⟩ := hret u ws' T'.heap (locs ++ L) c3 ⟨c5, ⟨hk, hn⟩, hL'⟩ T' rfl X'
    refine ⟨t₂, hst.trans ?_, b1⟩
    rw [ht]
    have e1 : (u.map (cx_v G)).toList ++ rest.map (cx_v G) = u.toList.map (cx_v G) ++ rest.map (cx_v G) := by cases u <;> rfl
    show Steps p.tables e below (T'.setTop { F0 m pc ls (rest.map (cx_v G)) with pc := pc + 3, stack := (u.map (cx_v G)).toList ++ rest.map (cx_v G) }) t₂
    rw [e1]
    exact a1
  | inr x =>
    obtain ⟨ad, cell, rfl, d2, d3, d4⟩ := c4
    obtain ⟨T', X', hW', hS', ht⟩ := X.outOfThrown (g := F0 m pc ls (rest.map (cx_v G))) rfl c2 c6 c7
    have hh : t.heap = T'.heap := by rw [ht]; rfl
    obtain ⟨e1, e2, e3, e4, e5⟩ := (stand_widen X' hk hn).leaveThrown ad (g := F0 m pc ls (rest.map (cx_v G))) rfl rfl rfl (cx_noH hne pc) hlocks
    rw [← ht] at e1
    refine ⟨_, hst.trans e1, .threw ad, .inr x, ws', e2, e3, hthr x ws' c3, ⟨ad, cell, rfl, ?_, ?_, d4⟩, ?_, e4, locs ++ L, e5, hL'⟩
    · show T'.heap[ad]? = some cell
      rw [← hh]
      exact d2
    · have d3' : T.vm.findClass x = some cell.cls := d3
      rw [X.warmed.alike.findClass] at d3'
      exact d3'
    · show cx_P G ws' T'.heap
      rw [← hh]
      exact c5
theorem cx_behind2 (hlocks : meth.locks = false) (hne : c.exceptionTable.isEmpty = true) {T : State} {k n : Nat} {rm : Room} {Rf : cx_R} {s₀ : State}
    (X : Stand p l e R s m args below meth c T [] k n) {pc : Nat} {ls : Array Slot} {rest : List cx_V} {ig : Instr} (hdg : decode c.code pc = .ok (ig, 3)) {mk : MethodId} {a : Array Value} {t : State}
    (hst : Steps p.tables e below s₀ t) (hQ : cx_Q2 (.java (F0 m pc ls (rest.map (cx_v G))) :: below) G (T.calling (F0 m pc ls (rest.map (cx_v G))) mk a) rm.cells rm.slots Rf t) (hk : k + rm.cells ≤ mc) (hn : n + rm.slots ≤ ms) (hH : T.heap = s.heap)
    (hthr : ∀ (x : String) (ws' : List cx_C), Rf (.inr x) ws' → Rq (.inr x) ws')
    (hret : ∀ (u : Option cx_V) (ws' : List cx_C) (H' : Heap) (locs' : List Loc), Rf (.inl u) ws' → cx_F2 G mc ms s ws' (k + rm.cells) (n + rm.slots) H' locs' → W p l e R s m args below meth c H' locs' (k + rm.cells) (n + rm.slots) (cx_Q2 below G s mc ms Rq) (F0 m (pc + 3) ls (u.toList.map (cx_v G) ++ rest.map (cx_v G)))) :
    ∃ t₂, Steps p.tables e below s₀ t₂ ∧ cx_Q2 below G s mc ms Rq t₂ := by
  obtain ⟨o, q, ws', c1, c2, c3, c4, c5, c6, L, c7, c8, c9⟩ := hQ
  cases q with
  | inl u =>
    have ho : o = .returned (u.map (cx_v G)) := by
      cases u with
      | none => exact c4
      | some u => exact c4
    subst ho
    obtain ⟨d1, rfl⟩ := c9 u rfl
    obtain ⟨T', X', hW', hS', ht⟩ := X.outOf (g := F0 m pc ls (rest.map (cx_v G))) rfl hdg c2 c6 c7
    have hh : t.heap = T'.heap := by rw [ht]; rfl
    rw [hh] at c5
    have hT' : T'.heap = s.heap := by rw [← hh, d1]; exact hH
    obtain ⟨t₂, a1, b1⟩ := hret u ws' T'.heap [] c3 ⟨c5, ⟨hk, hn⟩, hT', rfl⟩ T' rfl X'
    refine ⟨t₂, hst.trans ?_, b1⟩
    rw [ht]
    have e1 : (u.map (cx_v G)).toList ++ rest.map (cx_v G) = u.toList.map (cx_v G) ++ rest.map (cx_v G) := by cases u <;> rfl
    show Steps p.tables e below (T'.setTop { F0 m pc ls (rest.map (cx_v G)) with pc := pc + 3, stack := (u.map (cx_v G)).toList ++ rest.map (cx_v G) }) t₂
    rw [e1]
    exact a1
  | inr x =>
    obtain ⟨ad, cell, rfl, d2, d3, d4⟩ := c4
    obtain ⟨T', X', hW', hS', ht⟩ := X.outOfThrown (g := F0 m pc ls (rest.map (cx_v G))) rfl c2 c6 c7
    have hh : t.heap = T'.heap := by rw [ht]; rfl
    obtain ⟨e1, e2, e3, e4, e5⟩ := (stand_widen X' hk hn).leaveThrown ad (g := F0 m pc ls (rest.map (cx_v G))) rfl rfl rfl (cx_noH hne pc) hlocks
    rw [← ht] at e1
    refine ⟨_, hst.trans e1, .threw ad, .inr x, ws', e2, e3, hthr x ws' c3, ⟨ad, cell, rfl, ?_, ?_, d4⟩, ?_, e4, [] ++ L, e5, c8, fun u h => by cases h⟩
    · show T'.heap[ad]? = some cell
      rw [← hh]
      exact d2
    · have d3' : T.vm.findClass x = some cell.cls := d3
      rw [X.warmed.alike.findClass] at d3'
      exact d3'
    · show cx_P G ws' T'.heap
      rw [← hh]
      exact c5
/-- a call, till it comes back: an object's method -/
theorem cx_resV {QQ : List Frame → cx_G → State → Nat → Nat → cx_R → State → Prop} (hTb : Tb.all cx_stB = true) (hx : p.tables.exec = Jvm.exec) (hb : c.code = cc) (hml : c.maxLocals = nL) (hKn : cx_Kn Tb G s) {own C host : String} (hown : s.vm.findClass own = some m.cls) {z ci np : Nat} {T0 : u_T} {N0 : Nat} (hci : (cx_cl G)[ci]? = some (C, T0, N0)) {y : MethodName} {cc' : ByteArray} {nL' : Nat} {rt' : Option FieldType} {rm : Room} {f : Nat → List cx_V → List cx_C → cx_R → Prop} (hM : cx_Mg QQ Tb l G y cc' nL' rt' rm (cx_self ci f))
    (hlink : Jvm.Cond.methodLink own z y ∈ Tb ∨ Jvm.Cond.methodLinkNest own z y host ∈ Tb) (hws : Jvm.Cond.instanceMethod y ∈ Tb ∧ Jvm.Cond.selects C y y ∈ Tb ∧ Jvm.Cond.code y cc' nL' rt' ∈ Tb)
    (hd : plainName y.cls = true ∧ (y.cls ≠ "java/lang/invoke/MethodHandle" ∧ y.cls ≠ "java/lang/invoke/VarHandle") ∧ (parseMethodDescriptor y.desc).map (fun d => d.parameters.length) = some np)
    (hR : rm.frames + 1 ≤ R.frames ∧ 8 + (nL' + 11) + rm.locals ≤ R.locals) {pc : Nat} {locs : List Loc} {k n : Nat} {ls : Array Slot} {as rest : List cx_V} {ws : List cx_C} {Rf : cx_R} (hdg : decode cc pc = .ok (.invokevirtual z, 3)) (hna : as.length = np + 1) (hcats : cx_cats rest ≤ 8) (hk : k + rm.cells ≤ R.cells) (hn : n + rm.slots ≤ R.slots) (hls : ls.size = nL) (hf : cx_self ci f as ws Rf)
    {T : State} (X : Stand p l e R s m args below meth c T locs k n) (hP : cx_P G ws T.heap) :
    ∃ vm₁ mk t, Stand p l e R s m args below meth c (T.setVm vm₁) locs k n ∧ Steps p.tables e below (T.setTop (F0 m pc ls ((as.reverse ++ rest).map (cx_v G)))) t ∧ QQ (.java (F0 m pc ls (rest.map (cx_v G))) :: below) G ((T.setVm vm₁).calling (F0 m pc ls (rest.map (cx_v G))) mk (as.map (cx_v G)).toArray) rm.cells rm.slots Rf t := by
  obtain ⟨j, as', rfl, hf2⟩ := cx_p1_spec hf
  obtain ⟨fs, hj, -⟩ := cx_obj_spec hf2
  obtain ⟨hjN, r, hr, cell, q1, q2, q3, q4⟩ := hP.1 j _ hj
  have hr2 : r = (C, T0, N0) := Option.some.inj (hr.symm.trans hci)
  subst hr2
  have hcls : s.vm.findClass C = some cell.cls := by
    rw [q2]
    exact (hKn.2.1.1 ci _ hci).2.1
  obtain ⟨mk, methM, hnamed, hmethM, hstM, habM⟩ := Cond.instanceMethod_spec (hKn.1 _ hws.1 args)
  obtain ⟨methM', cM, hmethM', -, -, -, -, -, -, hsigM⟩ := Cond.code_spec hnamed (hKn.1 _ hws.2.2 args)
  cases hmethM.symm.trans hmethM'
  obtain ⟨c2, r2, m2, p1, p2, p3, p4, kP, hkP, hkPi⟩ := Cond.selects_spec (hKn.1 _ hws.2.1 args)
  cases hcls.symm.trans p1
  cases (State.methodFound?_of_named hnamed hd.2.1).symm.trans p2
  cases hnamed.symm.trans p3
  have hselP : selectMethod e.platform s.vm cell.cls mk = .method mk := by rw [Launch.admits_selectMethod X.admits]; exact p4
  have hlen : (as'.map (cx_v G)).length = methM.sig.parameters.length := by
    rw [List.length_map]
    have h2 := hd.2.2
    rw [hsigM] at h2
    have h3 : methM.sig.parameters.length = np := Option.some.inj h2
    rw [List.length_cons] at hna
    omega
  have hstack : (F0 m pc ls (((Sum.inr (Sum.inr (Sum.inl j)) :: as').reverse ++ rest).map (cx_v G))).stack = (as'.map (cx_v G)).reverse ++ .ref (cx_ad G j) :: rest.map (cx_v G) := by
    show ((Sum.inr (Sum.inr (Sum.inl j)) :: as').reverse ++ rest).map (cx_v G) = _
    simp only [List.reverse_cons, List.map_append, List.map_reverse, List.map_cons, List.map_nil, List.append_assoc]
    rfl
  have hdg' : decode c.code (F0 m pc ls (((Sum.inr (Sum.inr (Sum.inl j)) :: as').reverse ++ rest).map (cx_v G))).pc = .ok (.invokevirtual z, 3) := by rw [hb]; exact hdg
  have key : ∃ vm₁, Stand p l e R s m args below meth c (T.setVm vm₁) locs k n ∧ ∀ target, (∀ acts, Steps p.tables e below (doInvoke e ((T.setVm vm₁).setTop (F0 m pc ls (rest.map (cx_v G)))) acts mk (Value.ref (cx_ad G j) :: as'.map (cx_v G)).toArray).1 target) → Steps p.tables e below (T.setTop (F0 m pc ls (((Sum.inr (Sum.inr (Sum.inl j)) :: as').reverse ++ rest).map (cx_v G)))) target := by
    rcases hlink with hlink | hlink
    · obtain ⟨vm₁, X₁, hstep₁⟩ := X.invokevirtual hx hown (hKn.1 _ hlink args) hnamed hmethM hstM hkP hkPi hd.2.1 (a := cx_ad G j) (cell := cell) q1 (fun z h => by rw [q3] at h; cases h) hselP hmethM habM hkP hkPi (g := F0 m pc ls (((Sum.inr (Sum.inr (Sum.inl j)) :: as').reverse ++ rest).map (cx_v G))) rfl (argsL := as'.map (cx_v G)) (rest := rest.map (cx_v G)) hlen hstack hdg'
      exact ⟨vm₁, X₁, hstep₁⟩
    · obtain ⟨vm₁, X₁, hstep₁⟩ := X.invokevirtualNest hx hown (hKn.1 _ hlink args) hnamed hmethM hstM hkP hkPi hd.2.1 (a := cx_ad G j) (cell := cell) q1 (fun z h => by rw [q3] at h; cases h) hselP hmethM habM hkP hkPi (g := F0 m pc ls (((Sum.inr (Sum.inr (Sum.inl j)) :: as').reverse ++ rest).map (cx_v G))) rfl (argsL := as'.map (cx_v G)) (rest := rest.map (cx_v G)) hlen hstack hdg'
      exact ⟨vm₁, X₁, hstep₁⟩
  obtain ⟨vm₁, X₁, hstep₁⟩ := key
  have hWt : 2 * (F0 m pc ls (rest.map (cx_v G))).monitorRoom + ((F0 m pc ls (rest.map (cx_v G))).stack.map fun v => v.category).sum ≤ 8 := lv_room (by rw [cx_cats_eq]; exact hcats)
  obtain ⟨t, st, hQ⟩ := cx_core hTb hM hx hKn hf X₁ hP (g := F0 m pc ls (rest.map (cx_v G))) rfl (by rw [hml]; exact hls) (by rw [hb]; exact hdg) hWt hnamed (hKn.1 _ hws.2.2 args) hd.1 hR.1 hR.2 hk hn
  exact ⟨vm₁, mk, t, X₁, hstep₁ t st, hQ⟩
/-- a static method -/
theorem cx_resS {QQ : List Frame → cx_G → State → Nat → Nat → cx_R → State → Prop} (hTb : Tb.all cx_stB = true) (hx : p.tables.exec = Jvm.exec) (hb : c.code = cc) (hml : c.maxLocals = nL) (hKn : cx_Kn Tb G s) {own host : String} (hown : s.vm.findClass own = some m.cls) {z np : Nat} {y : MethodName} {cc' : ByteArray} {nL' : Nat} {rt' : Option FieldType} {rm : Room} {f : cx_S} (hM : cx_Mg QQ Tb l G y cc' nL' rt' rm f)
    (hlink : Jvm.Cond.methodLink own z y ∈ Tb ∨ Jvm.Cond.methodLinkNest own z y host ∈ Tb) (hws : Jvm.Cond.static y ∈ Tb ∧ Jvm.Cond.initialized y.cls ∈ Tb ∧ Jvm.Cond.code y cc' nL' rt' ∈ Tb)
    (hd : plainName y.cls = true ∧ (y.cls ≠ "java/lang/invoke/MethodHandle" ∧ y.cls ≠ "java/lang/invoke/VarHandle") ∧ (parseMethodDescriptor y.desc).map (fun d => d.parameters.length) = some np)
    (hR : rm.frames + 1 ≤ R.frames ∧ 8 + (nL' + 11) + rm.locals ≤ R.locals) {pc : Nat} {locs : List Loc} {k n : Nat} {ls : Array Slot} {as rest : List cx_V} {ws : List cx_C} {Rf : cx_R} (hdg : decode cc pc = .ok (.invokestatic z, 3)) (hna : as.length = np) (hcats : cx_cats rest ≤ 8) (hk : k + rm.cells ≤ R.cells) (hn : n + rm.slots ≤ R.slots) (hls : ls.size = nL) (hf : f as ws Rf)
    {T : State} (X : Stand p l e R s m args below meth c T locs k n) (hP : cx_P G ws T.heap) :
    ∃ vm₁ mk t, Stand p l e R s m args below meth c (T.setVm vm₁) locs k n ∧ Steps p.tables e below (T.setTop (F0 m pc ls ((as.reverse ++ rest).map (cx_v G)))) t ∧ QQ (.java (F0 m pc ls (rest.map (cx_v G))) :: below) G ((T.setVm vm₁).calling (F0 m pc ls (rest.map (cx_v G))) mk (as.map (cx_v G)).toArray) rm.cells rm.slots Rf t := by
  obtain ⟨mk, hnamed⟩ := Cond.code_named (hKn.1 _ hws.2.2 args)
  obtain ⟨methM, cM, hmethM, -, -, -, -, -, -, hsigM⟩ := Cond.code_spec hnamed (hKn.1 _ hws.2.2 args)
  have hstatic : methM.isStatic = true := Cond.static_spec hnamed hmethM (hKn.1 _ hws.1 args)
  obtain ⟨kP, hkP, -⟩ := className_of_methodNamed hnamed
  have hinitP : kP.init = .initialized := Cond.initialized_spec (findClass_of_methodNamed hnamed) hkP (hKn.1 _ hws.2.1 args)
  have hlen : (as.map (cx_v G)).length = methM.sig.parameters.length := by
    rw [List.length_map]
    have h2 := hd.2.2
    rw [hsigM] at h2
    have h3 : methM.sig.parameters.length = np := Option.some.inj h2
    omega
  have hstack : (F0 m pc ls ((as.reverse ++ rest).map (cx_v G))).stack = (as.map (cx_v G)).reverse ++ rest.map (cx_v G) := by
    show (as.reverse ++ rest).map (cx_v G) = _
    simp only [List.map_append, List.map_reverse]
  have hdg' : decode c.code (F0 m pc ls ((as.reverse ++ rest).map (cx_v G))).pc = .ok (.invokestatic z, 3) := by rw [hb]; exact hdg
  have key : ∃ vm₁, Stand p l e R s m args below meth c (T.setVm vm₁) locs k n ∧ ∀ target, (∀ acts, Steps p.tables e below (doInvoke e ((T.setVm vm₁).setTop (F0 m pc ls (rest.map (cx_v G)))) acts mk (as.map (cx_v G)).toArray).1 target) → Steps p.tables e below (T.setTop (F0 m pc ls ((as.reverse ++ rest).map (cx_v G)))) target := by
    rcases hlink with hlink | hlink
    · obtain ⟨vm₁, X₁, hstep₁⟩ := X.invokestatic hx hown (hKn.1 _ hlink args) hnamed hmethM hstatic hkP hinitP hd.2.1 (g := F0 m pc ls ((as.reverse ++ rest).map (cx_v G))) rfl (argsL := as.map (cx_v G)) (rest := rest.map (cx_v G)) hlen hstack hdg'
      exact ⟨vm₁, X₁, hstep₁⟩
    · obtain ⟨vm₁, X₁, hstep₁⟩ := X.invokestaticNest hx hown (hKn.1 _ hlink args) hnamed hmethM hstatic hkP hinitP hd.2.1 (g := F0 m pc ls ((as.reverse ++ rest).map (cx_v G))) rfl (argsL := as.map (cx_v G)) (rest := rest.map (cx_v G)) hlen hstack hdg'
      exact ⟨vm₁, X₁, hstep₁⟩
  obtain ⟨vm₁, X₁, hstep₁⟩ := key
  have hWt : 2 * (F0 m pc ls (rest.map (cx_v G))).monitorRoom + ((F0 m pc ls (rest.map (cx_v G))).stack.map fun v => v.category).sum ≤ 8 := lv_room (by rw [cx_cats_eq]; exact hcats)
  obtain ⟨t, st, hQ⟩ := cx_core hTb hM hx hKn hf X₁ hP (g := F0 m pc ls (rest.map (cx_v G))) rfl (by rw [hml]; exact hls) (by rw [hb]; exact hdg) hWt hnamed (hKn.1 _ hws.2.2 args) hd.1 hR.1 hR.2 hk hn
  exact ⟨vm₁, mk, t, X₁, hstep₁ t st, hQ⟩
/-- what a call needs of the tables, of a virtual and of a static one -/
def cx_wV (Tb : List Cond) (own C host : String) (z np : Nat) (y : MethodName) (cc' : ByteArray) (nL' : Nat) (rt' : Option FieldType) : Prop :=
  (Jvm.Cond.methodLink own z y ∈ Tb ∨ Jvm.Cond.methodLinkNest own z y host ∈ Tb) ∧ (Jvm.Cond.instanceMethod y ∈ Tb ∧ Jvm.Cond.selects C y y ∈ Tb ∧ Jvm.Cond.code y cc' nL' rt' ∈ Tb) ∧ (plainName y.cls = true ∧ (y.cls ≠ "java/lang/invoke/MethodHandle" ∧ y.cls ≠ "java/lang/invoke/VarHandle") ∧ (parseMethodDescriptor y.desc).map (fun d => d.parameters.length) = some np)
def cx_wS (Tb : List Cond) (own host : String) (z np : Nat) (y : MethodName) (cc' : ByteArray) (nL' : Nat) (rt' : Option FieldType) : Prop :=
  (Jvm.Cond.methodLink own z y ∈ Tb ∨ Jvm.Cond.methodLinkNest own z y host ∈ Tb) ∧ (Jvm.Cond.static y ∈ Tb ∧ Jvm.Cond.initialized y.cls ∈ Tb ∧ Jvm.Cond.code y cc' nL' rt' ∈ Tb) ∧ (plainName y.cls = true ∧ (y.cls ≠ "java/lang/invoke/MethodHandle" ∧ y.cls ≠ "java/lang/invoke/VarHandle") ∧ (parseMethodDescriptor y.desc).map (fun d => d.parameters.length) = some np)
abbrev cx_Rm (rm R : Room) (nL' mc ms : Nat) : Prop := rm.frames + 1 ≤ R.frames ∧ 8 + (nL' + 11) + rm.locals ≤ R.locals ∧ mc ≤ R.cells ∧ ms ≤ R.slots
theorem cx_callV (hTb : Tb.all cx_stB = true) (hx : p.tables.exec = Jvm.exec) (hb : c.code = cc) (hml : c.maxLocals = nL) (hKn : cx_Kn Tb G s) (hlocks : meth.locks = false) (hne : c.exceptionTable.isEmpty = true) {own C host : String} (hown : s.vm.findClass own = some m.cls) {z ci np : Nat} {T0 : u_T} {N0 : Nat} (hci : (cx_cl G)[ci]? = some (C, T0, N0)) {y : MethodName} {cc' : ByteArray} {nL' : Nat} {rt' : Option FieldType} {rm : Room} {f : Nat → List cx_V → List cx_C → cx_R → Prop} (hM : cx_M Tb l G y cc' nL' rt' rm (cx_self ci f))
    (hw : cx_wV Tb own C host z np y cc' nL' rt') (hR : cx_Rm rm R nL' mc ms) : cx_okcall p l e R s m args below meth c cc G nL mc ms (cx_F1 G mc ms) (cx_Q below G s mc ms Rq) Rq (.invokevirtual z) (cx_self ci f) (np + 1) rm.cells rm.slots := by
  intro pc H locs k n ls as rest ws Rf hdg hna hcats hk hn hF hls hf hthr hret T hT X
  subst hT
  obtain ⟨vm₁, mk, t, X₁, st, hQ⟩ := cx_resV hTb hx hb hml hKn hown hci hM hw.1 hw.2.1 hw.2.2 ⟨hR.1, hR.2.1⟩ hdg hna hcats (Nat.le_trans hk hR.2.2.1) (Nat.le_trans hn hR.2.2.2) hls hf X hF.1
  exact cx_behind hlocks hne X₁ (by rw [hb]; exact hdg) st hQ hk hn hF.2.2 hthr hret
theorem cx_callV2 (hTb : Tb.all cx_stB = true) (hx : p.tables.exec = Jvm.exec) (hb : c.code = cc) (hml : c.maxLocals = nL) (hKn : cx_Kn Tb G s) (hlocks : meth.locks = false) (hne : c.exceptionTable.isEmpty = true) {own C host : String} (hown : s.vm.findClass own = some m.cls) {z ci np : Nat} {T0 : u_T} {N0 : Nat} (hci : (cx_cl G)[ci]? = some (C, T0, N0)) {y : MethodName} {cc' : ByteArray} {nL' : Nat} {rt' : Option FieldType} {rm : Room} {f : Nat → List cx_V → List cx_C → cx_R → Prop} (hM : cx_M2 Tb l G y cc' nL' rt' rm (cx_self ci f))
    (hw : cx_wV Tb own C host z np y cc' nL' rt') (hR : cx_Rm rm R nL' mc ms) : cx_okcall p l e R s m args below meth c cc G nL mc ms (cx_F2 G mc ms s) (cx_Q2 below G s mc ms Rq) Rq (.invokevirtual z) (cx_self ci f) (np + 1) rm.cells rm.slots := by
  intro pc H locs k n ls as rest ws Rf hdg hna hcats hk hn hF hls hf hthr hret T hT X
  subst hT
  obtain ⟨hF1, hF2, hF3, rfl⟩ := hF
  obtain ⟨vm₁, mk, t, X₁, st, hQ⟩ := cx_resV hTb hx hb hml hKn hown hci hM hw.1 hw.2.1 hw.2.2 ⟨hR.1, hR.2.1⟩ hdg hna hcats (Nat.le_trans hk hR.2.2.1) (Nat.le_trans hn hR.2.2.2) hls hf X hF1
  exact cx_behind2 hlocks hne X₁ (by rw [hb]; exact hdg) st hQ hk hn hF3 hthr hret
theorem cx_callS (hTb : Tb.all cx_stB = true) (hx : p.tables.exec = Jvm.exec) (hb : c.code = cc) (hml : c.maxLocals = nL) (hKn : cx_Kn Tb G s) (hlocks : meth.locks = false) (hne : c.exceptionTable.isEmpty = true) {own host : String} (hown : s.vm.findClass own = some m.cls) {z np : Nat} {y : MethodName} {cc' : ByteArray} {nL' : Nat} {rt' : Option FieldType} {rm : Room} {f : cx_S} (hM : cx_M Tb l G y cc' nL' rt' rm f)
    (hw : cx_wS Tb own host z np y cc' nL' rt') (hR : cx_Rm rm R nL' mc ms) : cx_okcall p l e R s m args below meth c cc G nL mc ms (cx_F1 G mc ms) (cx_Q below G s mc ms Rq) Rq (.invokestatic z) f np rm.cells rm.slots := by
  intro pc H locs k n ls as rest ws Rf hdg hna hcats hk hn hF hls hf hthr hret T hT X
  subst hT
  obtain ⟨vm₁, mk, t, X₁, st, hQ⟩ := cx_resS hTb hx hb hml hKn hown hM hw.1 hw.2.1 hw.2.2 ⟨hR.1, hR.2.1⟩ hdg hna hcats (Nat.le_trans hk hR.2.2.1) (Nat.le_trans hn hR.2.2.2) hls hf X hF.1
  exact cx_behind hlocks hne X₁ (by rw [hb]; exact hdg) st hQ hk hn hF.2.2 hthr hret
theorem cx_callS2 (hTb : Tb.all cx_stB = true) (hx : p.tables.exec = Jvm.exec) (hb : c.code = cc) (hml : c.maxLocals = nL) (hKn : cx_Kn Tb G s) (hlocks : meth.locks = false) (hne : c.exceptionTable.isEmpty = true) {own host : String} (hown : s.vm.findClass own = some m.cls) {z np : Nat} {y : MethodName} {cc' : ByteArray} {nL' : Nat} {rt' : Option FieldType} {rm : Room} {f : cx_S} (hM : cx_M2 Tb l G y cc' nL' rt' rm f)
    (hw : cx_wS Tb own host z np y cc' nL' rt') (hR : cx_Rm rm R nL' mc ms) : cx_okcall p l e R s m args below meth c cc G nL mc ms (cx_F2 G mc ms s) (cx_Q2 below G s mc ms Rq) Rq (.invokestatic z) f np rm.cells rm.slots := by
  intro pc H locs k n ls as rest ws Rf hdg hna hcats hk hn hF hls hf hthr hret T hT X
  subst hT
  obtain ⟨hF1, hF2, hF3, rfl⟩ := hF
  obtain ⟨vm₁, mk, t, X₁, st, hQ⟩ := cx_resS hTb hx hb hml hKn hown hM hw.1 hw.2.1 hw.2.2 ⟨hR.1, hR.2.1⟩ hdg hna hcats (Nat.le_trans hk hR.2.2.1) (Nat.le_trans hn hR.2.2.2) hls hf X hF1
  exact cx_behind2 hlocks hne X₁ (by rw [hb]; exact hdg) st hQ hk hn hF3 hthr hret
/-- getfield and putfield by their words -/
theorem cx_getP (hx : p.tables.exec = Jvm.exec) (hb : c.code = cc) (hKn : cx_Kn Tb G s) {own ref C host : String} (hown : s.vm.findClass own = some m.cls) {z ci b : Nat} {T0 : u_T} {N0 : Nat} (hci : (cx_cl G)[ci]? = some (C, T0, N0)) (hin : ∀ w ∈ u_ws C T0 N0, w ∈ Tb) (hk : b < N0)
    (hlink : Jvm.Cond.fieldLink own z ref (T0 b).2.1 (T0 b).2.2.1 ∈ Tb ∨ Jvm.Cond.fieldLinkNest own z ref (T0 b).2.1 (T0 b).2.2.1 host ∈ Tb) (href : (T0 b).1 = ref) {Q : State → Prop} : cx_okget p l e R s m args below meth c cc G Q z ci b := by
  intro pc H locs k n ls rest a fs v hd hat hv kk
  have hP : va_P (cx_D G) (cx_cl G) [(a, .inr (ci, fs))] H := fun i q hq => by
    cases i with
    | zero => cases hq; exact hat
    | succ i => simp at hq
  subst href
  rcases hlink with hlink | hlink
  · exact va_get hx hb (fun w hw => hKn.1 w hw args) hin hown hKn.2.1 hP 0 rfl hci b hk (hKn.1 _ hlink args) (fun x h => h) hv hd kk
  · exact va_getN hx hb (fun w hw => hKn.1 w hw args) hin hown hKn.2.1 hP 0 rfl hci b hk (hKn.1 _ hlink args) (fun x h => h) hv hd kk
theorem cx_putP (hx : p.tables.exec = Jvm.exec) (hb : c.code = cc) (hKn : cx_Kn Tb G s) {own ref C : String} (hown : s.vm.findClass own = some m.cls) {z ci b : Nat} {fl : Int32} {T0 : u_T} {N0 : Nat} (hci : (cx_cl G)[ci]? = some (C, T0, N0)) (hin : ∀ w ∈ u_ws C T0 N0, w ∈ Tb) (ty0 : Nat → FieldType) (hty : ∀ k, k < N0 → parseFieldDescriptor (T0 k).2.2.1 = some (ty0 k)) (hnm : ∀ a, a < N0 → ∀ b, b < N0 → a ≠ b → (T0 a).2.1 ≠ (T0 b).2.1) (hk : b < N0)
    (hlink : Jvm.Cond.fieldLink own z ref (T0 b).2.1 (T0 b).2.2.1 ∈ Tb) (href : (T0 b).1 = ref) (hfin : (T0 b).2.2.2 = false) (hfl : (fl = 0 ∧ ty0 b = .int) ∨ (fl = 1 ∧ ty0 b = .boolean)) {Q : State → Prop} : cx_okput p l e R s m args below meth c cc G Q z ci b fl := by
  intro pc H locs k n ls rest a fs v hd hat hl htk kk
  subst href
  have hts : ∀ w ∈ Tb, w.before args s = true := fun w hw => hKn.1 w hw args
  have hap := va_apart (own := own) hts hin ty0 hty hnm hKn.2.1 hci
  obtain ⟨r, h1, cell, q1, q2, q3, q4⟩ := hat
  have hr : r = (C, T0, N0) := Option.some.inj (h1.symm.trans hci)
  subst hr
  obtain ⟨hS, hfc, kC, hkC, hkind⟩ := hKn.2.1.1 ci _ hci
  obtain ⟨cf, kf, fi, fd, hi, hsl⟩ := hS b hk
  have hlay := hts _ (hin _ (u_in_lay hk))
  unfold u_lay at hlay
  rw [if_neg (by rw [hfin]; decide)] at hlay
  have hst := (u_facts hfc hkC (u_lays hts hin hk) hi).1
  have hnf : narrow (ty0 b) v = v ∧ fits (ty0 b) v = true := by
    rcases htk with ⟨e1, x, rfl⟩ | ⟨e1, x, rfl, e2⟩ | ⟨e1, x, rfl⟩
    · rcases hfl with ⟨g1, g2⟩ | ⟨g1, g2⟩
      · rw [g2]; exact ⟨rfl, rfl⟩
      · rw [e1] at g1; exact absurd g1 (by decide)
    · rcases hfl with ⟨g1, g2⟩ | ⟨g1, g2⟩
      · rw [g2]; exact ⟨rfl, rfl⟩
      · rw [g2]
        rcases e2 with rfl | rfl <;> decide
    · rcases hfl with ⟨g1, g2⟩ | ⟨g1, g2⟩ <;> (rw [e1] at g1; exact absurd g1 (by decide))
  have h6 := u_store hfc hkC hkind hlay hi (hty b hk) hnf.1 hnf.2
  refine W.putK hx hb (f := fd) ⟨hown, hts _ hlink, ⟨_, _, _, hi⟩, hst⟩ (by rw [q2]; exact h6) q1 q3 (by rw [hsl]; exact k2_hasslot (q4 b hk)) rfl rfl hd fun H' e1 e2 e3 => ?_
  have e1' := e1
  rw [hsl] at e1'
  exact kk H' _ ⟨_, hci, t_OB.to (V := updV (vp_V fs) b v) ⟨_, e1', q2, q3, t_set q4 hap hk v⟩ (fun j _ => vp_updV_set hl v j)⟩ e2 e3
/-- the first locals -/
def cx_slots (as : List cx_V) : cx_L := match as with
  | [] => []
  | v :: r => some v :: (match cx_wd v with
    | true => none :: cx_slots r
    | false => cx_slots r)
theorem cx_slots_args (G : cx_G) : ∀ (as : List cx_V) (i t : Nat) (u : cx_V), (cx_slots as)[t]? = some (some u) → (i + t, cx_v G u) ∈ lv_args i (as.map (cx_v G))
  | [], i, t, u, h => by simp [cx_slots] at h
  | v :: r, i, t, u, h => by
    have hc := cx_v_cat G v
    unfold cx_slots at h
    rw [List.map_cons]
    unfold lv_args
    cases t with
    | zero =>
      simp at h
      subst h
      exact List.mem_cons_self
    | succ t =>
      rw [List.getElem?_cons_succ] at h
      refine List.mem_cons_of_mem _ ?_
      split at h
      · rename_i hw
        rw [hw] at hc
        have h2 : (cx_v G v).category = 2 := by simpa using hc
        rw [if_pos h2]
        cases t with
        | zero => simp at h
        | succ t =>
          rw [List.getElem?_cons_succ] at h
          have := cx_slots_args G r (i + 2) t u h
          rw [show i + (t + 1 + 1) = i + 2 + t by omega]
          exact this
      · rename_i hw
        rw [hw] at hc
        have h2 : ¬ (cx_v G v).category = 2 := by simpa using hc
        rw [if_neg h2]
        have := cx_slots_args G r (i + 1) t u h
        rw [show i + (t + 1) = i + 1 + t by omega]
        exact this
theorem cx_enter {as : List cx_V} {ws : List cx_C} {lv : cx_L} {Q : State → Prop} (hfit : (lg_sl (as.map (cx_v G))).length ≤ nL) (hlv : ∀ (t : Nat) (u : cx_V), lv[t]? = some (some u) → (cx_slots as)[t]? = some (some u)) 
    {F : cx_F} (hF : F ws 0 0 s.heap []) (h : cx_AW p l e R s m (as.map (cx_v G)).toArray below meth c G nL F Q 0 lv [] ws 0 0) : W p l e R s m (as.map (cx_v G)).toArray below meth c s.heap [] 0 0 Q (entryFrame m (as.map (cx_v G)).toArray nL) := by
  rw [lg_entry_eq]
  have hl := lv_entry (as.map (cx_v G)) hfit
  refine h s.heap [] _ hF ⟨hl.1, hl.2.1, fun t u ht => ?_⟩
  have := hl.2.2 _ (cx_slots_args G as 0 t u (hlv t u ht))
  rw [Nat.zero_add] at this
  exact this
end CXC
end
section
/-! Classes, fields, methods: by program (wip/whole/gen.py) out of the tables' words and javap. -/
def cx_Tb : List Cond := lw_tbl.filter cx_stB
theorem cx_TbAll : cx_Tb.all cx_stB = true := List.all_eq_true.mpr fun w h => (List.mem_filter.mp h).2
theorem cx_in {w : Cond} (i : Nat) (h : lw_tbl[i]? = some w) (hs : cx_stB w = true) : w ∈ cx_Tb := List.mem_filter.mpr ⟨List.mem_of_getElem? h, hs⟩
def r_L : String := "CycleCutter$Layout"
def f_L : u_T := fun k => match k with
  | 0 => ("CycleCutter$Layout", "multiplexers", "LCycleCutter$Multiplexers;", true)
  | 1 => ("CycleCutter$Layout", "highRoots", "[I", true)
  | 2 => ("CycleCutter$Layout", "lowRoots", "[I", true)
  | 3 => ("CycleCutter$Layout", "knownSets", "[[J", true)
  | _ => ("CycleCutter$Layout", "outputs", "I", false)
def y_L : Nat → FieldType := fun k => match k with
  | 0 => .object "CycleCutter$Multiplexers"
  | 1 => .array .int
  | 2 => .array .int
  | 3 => .array (.array .long)
  | _ => .int
theorem n_L : ∀ a, a < 5 → ∀ b, b < 5 → a ≠ b → (f_L a).2.1 ≠ (f_L b).2.1 := by decide +kernel
theorem y_L_ok : ∀ k, k < 5 → parseFieldDescriptor (f_L k).2.2.1 = some (y_L k) := by decide +kernel
theorem i_L : ∀ w ∈ u_ws r_L f_L 5, w ∈ cx_Tb := by
  intro w hw
  obtain ⟨k, hk, rfl⟩ := List.mem_map.mp hw
  have hk := List.mem_range.mp hk
  match k, hk with
  | 0, _ => exact cx_in 154 (by decide +kernel) (by decide +kernel)
  | 1, _ => exact cx_in 156 (by decide +kernel) (by decide +kernel)
  | 2, _ => exact cx_in 158 (by decide +kernel) (by decide +kernel)
  | 3, _ => exact cx_in 160 (by decide +kernel) (by decide +kernel)
  | 4, _ => exact cx_in 162 (by decide +kernel) (by decide +kernel)
def r_M : String := "CycleCutter$Multiplexers"
def f_M : u_T := fun k => match k with
  | 0 => ("CycleCutter$Multiplexers", "inputOf", "[I", true)
  | 1 => ("CycleCutter$Multiplexers", "ifZero", "[I", true)
  | 2 => ("CycleCutter$Multiplexers", "ifOne", "[I", true)
  | 3 => ("CycleCutter$Multiplexers", "depthOf", "[I", true)
  | 4 => ("CycleCutter$Multiplexers", "firstTaker", "[I", true)
  | 5 => ("CycleCutter$Multiplexers", "nextTaker", "[I", true)
  | 6 => ("CycleCutter$Multiplexers", "reached", "[Z", true)
  | 7 => ("CycleCutter$Multiplexers", "row", "[I", true)
  | 8 => ("CycleCutter$Multiplexers", "perInput", "[I", true)
  | 9 => ("CycleCutter$Multiplexers", "nodes", "I", false)
  | _ => ("CycleCutter$Multiplexers", "longest", "I", false)
def y_M : Nat → FieldType := fun k => match k with
  | 0 => .array .int
  | 1 => .array .int
  | 2 => .array .int
  | 3 => .array .int
  | 4 => .array .int
  | 5 => .array .int
  | 6 => .array .boolean
  | 7 => .array .int
  | 8 => .array .int
  | 9 => .int
  | _ => .int
theorem n_M : ∀ a, a < 11 → ∀ b, b < 11 → a ≠ b → (f_M a).2.1 ≠ (f_M b).2.1 := by decide +kernel
theorem y_M_ok : ∀ k, k < 11 → parseFieldDescriptor (f_M k).2.2.1 = some (y_M k) := by decide +kernel
theorem i_M : ∀ w ∈ u_ws r_M f_M 11, w ∈ cx_Tb := by
  intro w hw
  obtain ⟨k, hk, rfl⟩ := List.mem_map.mp hw
  have hk := List.mem_range.mp hk
  match k, hk with
  | 0, _ => exact cx_in 121 (by decide +kernel) (by decide +kernel)
  | 1, _ => exact cx_in 123 (by decide +kernel) (by decide +kernel)
  | 2, _ => exact cx_in 125 (by decide +kernel) (by decide +kernel)
  | 3, _ => exact cx_in 127 (by decide +kernel) (by decide +kernel)
  | 4, _ => exact cx_in 129 (by decide +kernel) (by decide +kernel)
  | 5, _ => exact cx_in 131 (by decide +kernel) (by decide +kernel)
  | 6, _ => exact cx_in 133 (by decide +kernel) (by decide +kernel)
  | 7, _ => exact cx_in 135 (by decide +kernel) (by decide +kernel)
  | 8, _ => exact cx_in 137 (by decide +kernel) (by decide +kernel)
  | 9, _ => exact cx_in 139 (by decide +kernel) (by decide +kernel)
  | 10, _ => exact cx_in 141 (by decide +kernel) (by decide +kernel)
def r_N : String := "CycleCutter$Net"
def f_N : u_T := fun k => match k with
  | 0 => ("CycleCutter$Net", "sorts", "[I", true)
  | 1 => ("CycleCutter$Net", "firstFeed", "[I", true)
  | 2 => ("CycleCutter$Net", "feedsOf", "[I", true)
  | 3 => ("CycleCutter$Net", "feedFrom", "[I", true)
  | 4 => ("CycleCutter$Net", "feedNegated", "[Z", true)
  | 5 => ("CycleCutter$Net", "nextFeed", "[I", true)
  | 6 => ("CycleCutter$Net", "high", "[[J", true)
  | 7 => ("CycleCutter$Net", "low", "[[J", true)
  | 8 => ("CycleCutter$Net", "gates", "I", false)
  | 9 => ("CycleCutter$Net", "feeds", "I", false)
  | 10 => ("CycleCutter$Net", "inputs", "I", false)
  | _ => ("CycleCutter$Net", "settled", "Z", false)
def y_N : Nat → FieldType := fun k => match k with
  | 0 => .array .int
  | 1 => .array .int
  | 2 => .array .int
  | 3 => .array .int
  | 4 => .array .boolean
  | 5 => .array .int
  | 6 => .array (.array .long)
  | 7 => .array (.array .long)
  | 8 => .int
  | 9 => .int
  | 10 => .int
  | _ => .boolean
theorem n_N : ∀ a, a < 12 → ∀ b, b < 12 → a ≠ b → (f_N a).2.1 ≠ (f_N b).2.1 := by decide +kernel
theorem y_N_ok : ∀ k, k < 12 → parseFieldDescriptor (f_N k).2.2.1 = some (y_N k) := by decide +kernel
theorem i_N : ∀ w ∈ u_ws r_N f_N 12, w ∈ cx_Tb := by
  intro w hw
  obtain ⟨k, hk, rfl⟩ := List.mem_map.mp hw
  have hk := List.mem_range.mp hk
  match k, hk with
  | 0, _ => exact cx_in 68 (by decide +kernel) (by decide +kernel)
  | 1, _ => exact cx_in 70 (by decide +kernel) (by decide +kernel)
  | 2, _ => exact cx_in 72 (by decide +kernel) (by decide +kernel)
  | 3, _ => exact cx_in 74 (by decide +kernel) (by decide +kernel)
  | 4, _ => exact cx_in 76 (by decide +kernel) (by decide +kernel)
  | 5, _ => exact cx_in 78 (by decide +kernel) (by decide +kernel)
  | 6, _ => exact cx_in 80 (by decide +kernel) (by decide +kernel)
  | 7, _ => exact cx_in 82 (by decide +kernel) (by decide +kernel)
  | 8, _ => exact cx_in 84 (by decide +kernel) (by decide +kernel)
  | 9, _ => exact cx_in 86 (by decide +kernel) (by decide +kernel)
  | 10, _ => exact cx_in 88 (by decide +kernel) (by decide +kernel)
  | 11, _ => exact cx_in 90 (by decide +kernel) (by decide +kernel)
def r_C : String := "CycleCutter"
def f_C : u_T := fun k => match k with
  | 0 => ("CycleCutter", "net", "LCycleCutter$Net;", true)
  | 1 => ("CycleCutter", "layout", "LCycleCutter$Layout;", true)
  | 2 => ("CycleCutter", "outputGates", "[I", true)
  | _ => ("CycleCutter", "outputs", "I", false)
def y_C : Nat → FieldType := fun k => match k with
  | 0 => .object "CycleCutter$Net"
  | 1 => .object "CycleCutter$Layout"
  | 2 => .array .int
  | _ => .int
theorem n_C : ∀ a, a < 4 → ∀ b, b < 4 → a ≠ b → (f_C a).2.1 ≠ (f_C b).2.1 := by decide +kernel
theorem y_C_ok : ∀ k, k < 4 → parseFieldDescriptor (f_C k).2.2.1 = some (y_C k) := by decide +kernel
theorem i_C : ∀ w ∈ u_ws r_C f_C 4, w ∈ cx_Tb := by
  intro w hw
  obtain ⟨k, hk, rfl⟩ := List.mem_map.mp hw
  have hk := List.mem_range.mp hk
  match k, hk with
  | 0, _ => exact cx_in 169 (by decide +kernel) (by decide +kernel)
  | 1, _ => exact cx_in 171 (by decide +kernel) (by decide +kernel)
  | 2, _ => exact cx_in 173 (by decide +kernel) (by decide +kernel)
  | 3, _ => exact cx_in 175 (by decide +kernel) (by decide +kernel)
def r_R : String := "CycleCutterModel"
def f_R : u_T := fun k => match k with
  | 0 => ("CycleCutterModel", "thrown", "I", false)
  | 1 => ("CycleCutterModel", "gates", "I", false)
  | 2 => ("CycleCutterModel", "feeds", "I", false)
  | 3 => ("CycleCutterModel", "inputs", "I", false)
  | 4 => ("CycleCutterModel", "outputs", "I", false)
  | 5 => ("CycleCutterModel", "sort", "[I", true)
  | 6 => ("CycleCutterModel", "numbers", "[I", true)
  | 7 => ("CycleCutterModel", "to", "[I", true)
  | 8 => ("CycleCutterModel", "from", "[I", true)
  | 9 => ("CycleCutterModel", "named", "[I", true)
  | 10 => ("CycleCutterModel", "negated", "[Z", true)
  | 11 => ("CycleCutterModel", "value", "[I", true)
  | 12 => ("CycleCutterModel", "laid", "I", false)
  | 13 => ("CycleCutterModel", "tables", "I", false)
  | 14 => ("CycleCutterModel", "words", "[J", true)
  | 15 => ("CycleCutterModel", "input", "[I", true)
  | 16 => ("CycleCutterModel", "low", "[I", true)
  | 17 => ("CycleCutterModel", "high", "[I", true)
  | 18 => ("CycleCutterModel", "far", "[I", true)
  | 19 => ("CycleCutterModel", "roots", "[I", true)
  | _ => ("CycleCutterModel", "marked", "[Z", true)
def y_R : Nat → FieldType := fun k => match k with
  | 0 => .int
  | 1 => .int
  | 2 => .int
  | 3 => .int
  | 4 => .int
  | 5 => .array .int
  | 6 => .array .int
  | 7 => .array .int
  | 8 => .array .int
  | 9 => .array .int
  | 10 => .array .boolean
  | 11 => .array .int
  | 12 => .int
  | 13 => .int
  | 14 => .array .long
  | 15 => .array .int
  | 16 => .array .int
  | 17 => .array .int
  | 18 => .array .int
  | 19 => .array .int
  | _ => .array .boolean
theorem n_R : ∀ a, a < 21 → ∀ b, b < 21 → a ≠ b → (f_R a).2.1 ≠ (f_R b).2.1 := by decide +kernel
theorem y_R_ok : ∀ k, k < 21 → parseFieldDescriptor (f_R k).2.2.1 = some (y_R k) := by decide +kernel
theorem i_R : ∀ w ∈ u_ws r_R f_R 21, w ∈ cx_Tb := by
  intro w hw
  obtain ⟨k, hk, rfl⟩ := List.mem_map.mp hw
  have hk := List.mem_range.mp hk
  match k, hk with
  | 0, _ => exact cx_in 528 (by decide +kernel) (by decide +kernel)
  | 1, _ => exact cx_in 530 (by decide +kernel) (by decide +kernel)
  | 2, _ => exact cx_in 532 (by decide +kernel) (by decide +kernel)
  | 3, _ => exact cx_in 534 (by decide +kernel) (by decide +kernel)
  | 4, _ => exact cx_in 536 (by decide +kernel) (by decide +kernel)
  | 5, _ => exact cx_in 538 (by decide +kernel) (by decide +kernel)
  | 6, _ => exact cx_in 540 (by decide +kernel) (by decide +kernel)
  | 7, _ => exact cx_in 542 (by decide +kernel) (by decide +kernel)
  | 8, _ => exact cx_in 544 (by decide +kernel) (by decide +kernel)
  | 9, _ => exact cx_in 546 (by decide +kernel) (by decide +kernel)
  | 10, _ => exact cx_in 548 (by decide +kernel) (by decide +kernel)
  | 11, _ => exact cx_in 550 (by decide +kernel) (by decide +kernel)
  | 12, _ => exact cx_in 552 (by decide +kernel) (by decide +kernel)
  | 13, _ => exact cx_in 554 (by decide +kernel) (by decide +kernel)
  | 14, _ => exact cx_in 556 (by decide +kernel) (by decide +kernel)
  | 15, _ => exact cx_in 558 (by decide +kernel) (by decide +kernel)
  | 16, _ => exact cx_in 560 (by decide +kernel) (by decide +kernel)
  | 17, _ => exact cx_in 562 (by decide +kernel) (by decide +kernel)
  | 18, _ => exact cx_in 564 (by decide +kernel) (by decide +kernel)
  | 19, _ => exact cx_in 566 (by decide +kernel) (by decide +kernel)
  | 20, _ => exact cx_in 568 (by decide +kernel) (by decide +kernel)
  | k + 21, hk => exact absurd hk (by omega)
abbrev cx_cls : List vw_C := [(r_L, f_L, 5), (r_M, f_M, 11), (r_N, f_N, 12), (r_C, f_C, 4), (r_R, f_R, 21)]
section CXN
variable {p : Program} {l : Launch} {e : Env} {R : Room} {s : State} {m : MethodId} {args : Array Value} {below : List Frame} {meth : Method} {c : Code} {G : cx_G} {cc : ByteArray} {Q : State → Prop}
abbrev g_L : List (Nat × Nat × Nat) := [(12, 0, 0), (18, 0, 1), (22, 0, 2), (27, 0, 3), (30, 0, 4)]
theorem g_L_ok (hx : p.tables.exec = Jvm.exec) (hb : c.code = cc) (hKn : cx_Kn cx_Tb G s) (hcl : cx_cl G = cx_cls) (hown : s.vm.findClass r_L = some m.cls) : ∀ q ∈ g_L, cx_okget p l e R s m args below meth c cc G Q q.1 q.2.1 q.2.2 :=
  List.forall_mem_cons.mpr ⟨cx_getP (host := "") (C := r_L) (T0 := f_L) (N0 := 5) hx hb hKn hown (by rw [hcl]; rfl) i_L (by decide) (Or.inl (cx_in 145 (by decide +kernel) (by decide +kernel))) rfl,
  List.forall_mem_cons.mpr ⟨cx_getP (host := "") (C := r_L) (T0 := f_L) (N0 := 5) hx hb hKn hown (by rw [hcl]; rfl) i_L (by decide) (Or.inl (cx_in 147 (by decide +kernel) (by decide +kernel))) rfl,
  List.forall_mem_cons.mpr ⟨cx_getP (host := "") (C := r_L) (T0 := f_L) (N0 := 5) hx hb hKn hown (by rw [hcl]; rfl) i_L (by decide) (Or.inl (cx_in 149 (by decide +kernel) (by decide +kernel))) rfl,
  List.forall_mem_cons.mpr ⟨cx_getP (host := "") (C := r_L) (T0 := f_L) (N0 := 5) hx hb hKn hown (by rw [hcl]; rfl) i_L (by decide) (Or.inl (cx_in 151 (by decide +kernel) (by decide +kernel))) rfl,
  List.forall_mem_cons.mpr ⟨cx_getP (host := "") (C := r_L) (T0 := f_L) (N0 := 5) hx hb hKn hown (by rw [hcl]; rfl) i_L (by decide) (Or.inl (cx_in 152 (by decide +kernel) (by decide +kernel))) rfl,
  fun _ h => absurd h List.not_mem_nil⟩⟩⟩⟩⟩
abbrev p_L : List (Nat × Nat × Nat × Int32) := [(30, 0, 4, 0)]
theorem p_L_ok (hx : p.tables.exec = Jvm.exec) (hb : c.code = cc) (hKn : cx_Kn cx_Tb G s) (hcl : cx_cl G = cx_cls) (hown : s.vm.findClass r_L = some m.cls) : ∀ q ∈ p_L, cx_okput p l e R s m args below meth c cc G Q q.1 q.2.1 q.2.2.1 q.2.2.2 :=
  List.forall_mem_cons.mpr ⟨cx_putP (C := r_L) (T0 := f_L) (N0 := 5) hx hb hKn hown (by rw [hcl]; rfl) i_L y_L y_L_ok n_L (by decide) (cx_in 152 (by decide +kernel) (by decide +kernel)) rfl rfl (Or.inl ⟨rfl, rfl⟩),
  fun _ h => absurd h List.not_mem_nil⟩
abbrev g_M : List (Nat × Nat × Nat) := [(11, 1, 0), (15, 1, 1), (18, 1, 2), (21, 1, 3), (24, 1, 4), (27, 1, 5), (30, 1, 6), (34, 1, 7), (37, 1, 8), (40, 1, 9), (44, 1, 10)]
theorem g_M_ok (hx : p.tables.exec = Jvm.exec) (hb : c.code = cc) (hKn : cx_Kn cx_Tb G s) (hcl : cx_cl G = cx_cls) (hown : s.vm.findClass r_M = some m.cls) : ∀ q ∈ g_M, cx_okget p l e R s m args below meth c cc G Q q.1 q.2.1 q.2.2 :=
  List.forall_mem_cons.mpr ⟨cx_getP (host := "") (C := r_M) (T0 := f_M) (N0 := 11) hx hb hKn hown (by rw [hcl]; rfl) i_M (by decide) (Or.inl (cx_in 108 (by decide +kernel) (by decide +kernel))) rfl,
  List.forall_mem_cons.mpr ⟨cx_getP (host := "") (C := r_M) (T0 := f_M) (N0 := 11) hx hb hKn hown (by rw [hcl]; rfl) i_M (by decide) (Or.inl (cx_in 109 (by decide +kernel) (by decide +kernel))) rfl,
  List.forall_mem_cons.mpr ⟨cx_getP (host := "") (C := r_M) (T0 := f_M) (N0 := 11) hx hb hKn hown (by rw [hcl]; rfl) i_M (by decide) (Or.inl (cx_in 110 (by decide +kernel) (by decide +kernel))) rfl,
  List.forall_mem_cons.mpr ⟨cx_getP (host := "") (C := r_M) (T0 := f_M) (N0 := 11) hx hb hKn hown (by rw [hcl]; rfl) i_M (by decide) (Or.inl (cx_in 111 (by decide +kernel) (by decide +kernel))) rfl,
  List.forall_mem_cons.mpr ⟨cx_getP (host := "") (C := r_M) (T0 := f_M) (N0 := 11) hx hb hKn hown (by rw [hcl]; rfl) i_M (by decide) (Or.inl (cx_in 112 (by decide +kernel) (by decide +kernel))) rfl,
  List.forall_mem_cons.mpr ⟨cx_getP (host := "") (C := r_M) (T0 := f_M) (N0 := 11) hx hb hKn hown (by rw [hcl]; rfl) i_M (by decide) (Or.inl (cx_in 113 (by decide +kernel) (by decide +kernel))) rfl,
  List.forall_mem_cons.mpr ⟨cx_getP (host := "") (C := r_M) (T0 := f_M) (N0 := 11) hx hb hKn hown (by rw [hcl]; rfl) i_M (by decide) (Or.inl (cx_in 114 (by decide +kernel) (by decide +kernel))) rfl,
  List.forall_mem_cons.mpr ⟨cx_getP (host := "") (C := r_M) (T0 := f_M) (N0 := 11) hx hb hKn hown (by rw [hcl]; rfl) i_M (by decide) (Or.inl (cx_in 115 (by decide +kernel) (by decide +kernel))) rfl,
  List.forall_mem_cons.mpr ⟨cx_getP (host := "") (C := r_M) (T0 := f_M) (N0 := 11) hx hb hKn hown (by rw [hcl]; rfl) i_M (by decide) (Or.inl (cx_in 116 (by decide +kernel) (by decide +kernel))) rfl,
  List.forall_mem_cons.mpr ⟨cx_getP (host := "") (C := r_M) (T0 := f_M) (N0 := 11) hx hb hKn hown (by rw [hcl]; rfl) i_M (by decide) (Or.inl (cx_in 118 (by decide +kernel) (by decide +kernel))) rfl,
  List.forall_mem_cons.mpr ⟨cx_getP (host := "") (C := r_M) (T0 := f_M) (N0 := 11) hx hb hKn hown (by rw [hcl]; rfl) i_M (by decide) (Or.inl (cx_in 119 (by decide +kernel) (by decide +kernel))) rfl,
  fun _ h => absurd h List.not_mem_nil⟩⟩⟩⟩⟩⟩⟩⟩⟩⟩⟩
abbrev p_M : List (Nat × Nat × Nat × Int32) := [(40, 1, 9, 0), (44, 1, 10, 0)]
theorem p_M_ok (hx : p.tables.exec = Jvm.exec) (hb : c.code = cc) (hKn : cx_Kn cx_Tb G s) (hcl : cx_cl G = cx_cls) (hown : s.vm.findClass r_M = some m.cls) : ∀ q ∈ p_M, cx_okput p l e R s m args below meth c cc G Q q.1 q.2.1 q.2.2.1 q.2.2.2 :=
  List.forall_mem_cons.mpr ⟨cx_putP (C := r_M) (T0 := f_M) (N0 := 11) hx hb hKn hown (by rw [hcl]; rfl) i_M y_M y_M_ok n_M (by decide) (cx_in 118 (by decide +kernel) (by decide +kernel)) rfl rfl (Or.inl ⟨rfl, rfl⟩),
  List.forall_mem_cons.mpr ⟨cx_putP (C := r_M) (T0 := f_M) (N0 := 11) hx hb hKn hown (by rw [hcl]; rfl) i_M y_M y_M_ok n_M (by decide) (cx_in 119 (by decide +kernel) (by decide +kernel)) rfl rfl (Or.inl ⟨rfl, rfl⟩),
  fun _ h => absurd h List.not_mem_nil⟩⟩
abbrev g_N : List (Nat × Nat × Nat) := [(9, 2, 0), (15, 2, 1), (18, 2, 2), (21, 2, 3), (24, 2, 4), (28, 2, 5), (33, 2, 6), (36, 2, 7), (39, 2, 8), (43, 2, 9), (46, 2, 10), (49, 2, 11)]
theorem g_N_ok (hx : p.tables.exec = Jvm.exec) (hb : c.code = cc) (hKn : cx_Kn cx_Tb G s) (hcl : cx_cl G = cx_cls) (hown : s.vm.findClass r_N = some m.cls) : ∀ q ∈ g_N, cx_okget p l e R s m args below meth c cc G Q q.1 q.2.1 q.2.2 :=
  List.forall_mem_cons.mpr ⟨cx_getP (host := "") (C := r_N) (T0 := f_N) (N0 := 12) hx hb hKn hown (by rw [hcl]; rfl) i_N (by decide) (Or.inl (cx_in 53 (by decide +kernel) (by decide +kernel))) rfl,
  List.forall_mem_cons.mpr ⟨cx_getP (host := "") (C := r_N) (T0 := f_N) (N0 := 12) hx hb hKn hown (by rw [hcl]; rfl) i_N (by decide) (Or.inl (cx_in 54 (by decide +kernel) (by decide +kernel))) rfl,
  List.forall_mem_cons.mpr ⟨cx_getP (host := "") (C := r_N) (T0 := f_N) (N0 := 12) hx hb hKn hown (by rw [hcl]; rfl) i_N (by decide) (Or.inl (cx_in 55 (by decide +kernel) (by decide +kernel))) rfl,
  List.forall_mem_cons.mpr ⟨cx_getP (host := "") (C := r_N) (T0 := f_N) (N0 := 12) hx hb hKn hown (by rw [hcl]; rfl) i_N (by decide) (Or.inl (cx_in 56 (by decide +kernel) (by decide +kernel))) rfl,
  List.forall_mem_cons.mpr ⟨cx_getP (host := "") (C := r_N) (T0 := f_N) (N0 := 12) hx hb hKn hown (by rw [hcl]; rfl) i_N (by decide) (Or.inl (cx_in 57 (by decide +kernel) (by decide +kernel))) rfl,
  List.forall_mem_cons.mpr ⟨cx_getP (host := "") (C := r_N) (T0 := f_N) (N0 := 12) hx hb hKn hown (by rw [hcl]; rfl) i_N (by decide) (Or.inl (cx_in 58 (by decide +kernel) (by decide +kernel))) rfl,
  List.forall_mem_cons.mpr ⟨cx_getP (host := "") (C := r_N) (T0 := f_N) (N0 := 12) hx hb hKn hown (by rw [hcl]; rfl) i_N (by decide) (Or.inl (cx_in 59 (by decide +kernel) (by decide +kernel))) rfl,
  List.forall_mem_cons.mpr ⟨cx_getP (host := "") (C := r_N) (T0 := f_N) (N0 := 12) hx hb hKn hown (by rw [hcl]; rfl) i_N (by decide) (Or.inl (cx_in 60 (by decide +kernel) (by decide +kernel))) rfl,
  List.forall_mem_cons.mpr ⟨cx_getP (host := "") (C := r_N) (T0 := f_N) (N0 := 12) hx hb hKn hown (by rw [hcl]; rfl) i_N (by decide) (Or.inl (cx_in 61 (by decide +kernel) (by decide +kernel))) rfl,
  List.forall_mem_cons.mpr ⟨cx_getP (host := "") (C := r_N) (T0 := f_N) (N0 := 12) hx hb hKn hown (by rw [hcl]; rfl) i_N (by decide) (Or.inl (cx_in 63 (by decide +kernel) (by decide +kernel))) rfl,
  List.forall_mem_cons.mpr ⟨cx_getP (host := "") (C := r_N) (T0 := f_N) (N0 := 12) hx hb hKn hown (by rw [hcl]; rfl) i_N (by decide) (Or.inl (cx_in 65 (by decide +kernel) (by decide +kernel))) rfl,
  List.forall_mem_cons.mpr ⟨cx_getP (host := "") (C := r_N) (T0 := f_N) (N0 := 12) hx hb hKn hown (by rw [hcl]; rfl) i_N (by decide) (Or.inl (cx_in 67 (by decide +kernel) (by decide +kernel))) rfl,
  fun _ h => absurd h List.not_mem_nil⟩⟩⟩⟩⟩⟩⟩⟩⟩⟩⟩⟩
abbrev p_N : List (Nat × Nat × Nat × Int32) := [(39, 2, 8, 0), (43, 2, 9, 0), (46, 2, 10, 0), (49, 2, 11, 1)]
theorem p_N_ok (hx : p.tables.exec = Jvm.exec) (hb : c.code = cc) (hKn : cx_Kn cx_Tb G s) (hcl : cx_cl G = cx_cls) (hown : s.vm.findClass r_N = some m.cls) : ∀ q ∈ p_N, cx_okput p l e R s m args below meth c cc G Q q.1 q.2.1 q.2.2.1 q.2.2.2 :=
  List.forall_mem_cons.mpr ⟨cx_putP (C := r_N) (T0 := f_N) (N0 := 12) hx hb hKn hown (by rw [hcl]; rfl) i_N y_N y_N_ok n_N (by decide) (cx_in 61 (by decide +kernel) (by decide +kernel)) rfl rfl (Or.inl ⟨rfl, rfl⟩),
  List.forall_mem_cons.mpr ⟨cx_putP (C := r_N) (T0 := f_N) (N0 := 12) hx hb hKn hown (by rw [hcl]; rfl) i_N y_N y_N_ok n_N (by decide) (cx_in 63 (by decide +kernel) (by decide +kernel)) rfl rfl (Or.inl ⟨rfl, rfl⟩),
  List.forall_mem_cons.mpr ⟨cx_putP (C := r_N) (T0 := f_N) (N0 := 12) hx hb hKn hown (by rw [hcl]; rfl) i_N y_N y_N_ok n_N (by decide) (cx_in 65 (by decide +kernel) (by decide +kernel)) rfl rfl (Or.inl ⟨rfl, rfl⟩),
  List.forall_mem_cons.mpr ⟨cx_putP (C := r_N) (T0 := f_N) (N0 := 12) hx hb hKn hown (by rw [hcl]; rfl) i_N y_N y_N_ok n_N (by decide) (cx_in 67 (by decide +kernel) (by decide +kernel)) rfl rfl (Or.inr ⟨rfl, rfl⟩),
  fun _ h => absurd h List.not_mem_nil⟩⟩⟩⟩
abbrev g_C : List (Nat × Nat × Nat) := [(12, 3, 0), (19, 3, 1), (23, 3, 2), (27, 3, 3), (63, 2, 8), (81, 0, 0), (105, 1, 8), (108, 0, 1), (111, 0, 2), (124, 2, 9), (127, 2, 10), (130, 0, 4), (131, 1, 10)]
theorem g_C_ok (hx : p.tables.exec = Jvm.exec) (hb : c.code = cc) (hKn : cx_Kn cx_Tb G s) (hcl : cx_cl G = cx_cls) (hown : s.vm.findClass r_C = some m.cls) : ∀ q ∈ g_C, cx_okget p l e R s m args below meth c cc G Q q.1 q.2.1 q.2.2 :=
  List.forall_mem_cons.mpr ⟨cx_getP (host := "") (C := r_C) (T0 := f_C) (N0 := 4) hx hb hKn hown (by rw [hcl]; rfl) i_C (by decide) (Or.inl (cx_in 165 (by decide +kernel) (by decide +kernel))) rfl,
  List.forall_mem_cons.mpr ⟨cx_getP (host := "") (C := r_C) (T0 := f_C) (N0 := 4) hx hb hKn hown (by rw [hcl]; rfl) i_C (by decide) (Or.inl (cx_in 166 (by decide +kernel) (by decide +kernel))) rfl,
  List.forall_mem_cons.mpr ⟨cx_getP (host := "") (C := r_C) (T0 := f_C) (N0 := 4) hx hb hKn hown (by rw [hcl]; rfl) i_C (by decide) (Or.inl (cx_in 167 (by decide +kernel) (by decide +kernel))) rfl,
  List.forall_mem_cons.mpr ⟨cx_getP (host := "") (C := r_C) (T0 := f_C) (N0 := 4) hx hb hKn hown (by rw [hcl]; rfl) i_C (by decide) (Or.inl (cx_in 168 (by decide +kernel) (by decide +kernel))) rfl,
  List.forall_mem_cons.mpr ⟨cx_getP (host := "CycleCutter") (C := r_N) (T0 := f_N) (N0 := 12) hx hb hKn hown (by rw [hcl]; rfl) i_N (by decide) (Or.inr (cx_in 62 (by decide +kernel) (by decide +kernel))) rfl,
  List.forall_mem_cons.mpr ⟨cx_getP (host := "CycleCutter") (C := r_L) (T0 := f_L) (N0 := 5) hx hb hKn hown (by rw [hcl]; rfl) i_L (by decide) (Or.inr (cx_in 146 (by decide +kernel) (by decide +kernel))) rfl,
  List.forall_mem_cons.mpr ⟨cx_getP (host := "CycleCutter") (C := r_M) (T0 := f_M) (N0 := 11) hx hb hKn hown (by rw [hcl]; rfl) i_M (by decide) (Or.inr (cx_in 117 (by decide +kernel) (by decide +kernel))) rfl,
  List.forall_mem_cons.mpr ⟨cx_getP (host := "CycleCutter") (C := r_L) (T0 := f_L) (N0 := 5) hx hb hKn hown (by rw [hcl]; rfl) i_L (by decide) (Or.inr (cx_in 148 (by decide +kernel) (by decide +kernel))) rfl,
  List.forall_mem_cons.mpr ⟨cx_getP (host := "CycleCutter") (C := r_L) (T0 := f_L) (N0 := 5) hx hb hKn hown (by rw [hcl]; rfl) i_L (by decide) (Or.inr (cx_in 150 (by decide +kernel) (by decide +kernel))) rfl,
  List.forall_mem_cons.mpr ⟨cx_getP (host := "CycleCutter") (C := r_N) (T0 := f_N) (N0 := 12) hx hb hKn hown (by rw [hcl]; rfl) i_N (by decide) (Or.inr (cx_in 64 (by decide +kernel) (by decide +kernel))) rfl,
  List.forall_mem_cons.mpr ⟨cx_getP (host := "CycleCutter") (C := r_N) (T0 := f_N) (N0 := 12) hx hb hKn hown (by rw [hcl]; rfl) i_N (by decide) (Or.inr (cx_in 66 (by decide +kernel) (by decide +kernel))) rfl,
  List.forall_mem_cons.mpr ⟨cx_getP (host := "CycleCutter") (C := r_L) (T0 := f_L) (N0 := 5) hx hb hKn hown (by rw [hcl]; rfl) i_L (by decide) (Or.inr (cx_in 153 (by decide +kernel) (by decide +kernel))) rfl,
  List.forall_mem_cons.mpr ⟨cx_getP (host := "CycleCutter") (C := r_M) (T0 := f_M) (N0 := 11) hx hb hKn hown (by rw [hcl]; rfl) i_M (by decide) (Or.inr (cx_in 120 (by decide +kernel) (by decide +kernel))) rfl,
  fun _ h => absurd h List.not_mem_nil⟩⟩⟩⟩⟩⟩⟩⟩⟩⟩⟩⟩⟩
abbrev p_C : List (Nat × Nat × Nat × Int32) := [(27, 3, 3, 0)]
theorem p_C_ok (hx : p.tables.exec = Jvm.exec) (hb : c.code = cc) (hKn : cx_Kn cx_Tb G s) (hcl : cx_cl G = cx_cls) (hown : s.vm.findClass r_C = some m.cls) : ∀ q ∈ p_C, cx_okput p l e R s m args below meth c cc G Q q.1 q.2.1 q.2.2.1 q.2.2.2 :=
  List.forall_mem_cons.mpr ⟨cx_putP (C := r_C) (T0 := f_C) (N0 := 4) hx hb hKn hown (by rw [hcl]; rfl) i_C y_C y_C_ok n_C (by decide) (cx_in 168 (by decide +kernel) (by decide +kernel)) rfl rfl (Or.inl ⟨rfl, rfl⟩),
  fun _ h => absurd h List.not_mem_nil⟩
abbrev g_R : List (Nat × Nat × Nat) := [(7, 4, 5), (13, 4, 6), (16, 4, 7), (19, 4, 8), (22, 4, 9), (25, 4, 10), (29, 4, 11), (32, 4, 14), (36, 4, 15), (39, 4, 16), (42, 4, 17), (45, 4, 18), (48, 4, 19), (51, 4, 20), (54, 4, 0), (58, 4, 1), (65, 4, 3), (72, 4, 2), (75, 4, 4), (78, 4, 12), (81, 4, 13)]
theorem g_R_ok (hx : p.tables.exec = Jvm.exec) (hb : c.code = cc) (hKn : cx_Kn cx_Tb G s) (hcl : cx_cl G = cx_cls) (hown : s.vm.findClass r_R = some m.cls) : ∀ q ∈ g_R, cx_okget p l e R s m args below meth c cc G Q q.1 q.2.1 q.2.2 :=
  List.forall_mem_cons.mpr ⟨cx_getP (host := "") (C := r_R) (T0 := f_R) (N0 := 21) hx hb hKn hown (by rw [hcl]; rfl) i_R (by decide) (Or.inl (cx_in 512 (by decide +kernel) (by decide +kernel))) rfl,
  List.forall_mem_cons.mpr ⟨cx_getP (host := "") (C := r_R) (T0 := f_R) (N0 := 21) hx hb hKn hown (by rw [hcl]; rfl) i_R (by decide) (Or.inl (cx_in 513 (by decide +kernel) (by decide +kernel))) rfl,
  List.forall_mem_cons.mpr ⟨cx_getP (host := "") (C := r_R) (T0 := f_R) (N0 := 21) hx hb hKn hown (by rw [hcl]; rfl) i_R (by decide) (Or.inl (cx_in 514 (by decide +kernel) (by decide +kernel))) rfl,
  List.forall_mem_cons.mpr ⟨cx_getP (host := "") (C := r_R) (T0 := f_R) (N0 := 21) hx hb hKn hown (by rw [hcl]; rfl) i_R (by decide) (Or.inl (cx_in 515 (by decide +kernel) (by decide +kernel))) rfl,
  List.forall_mem_cons.mpr ⟨cx_getP (host := "") (C := r_R) (T0 := f_R) (N0 := 21) hx hb hKn hown (by rw [hcl]; rfl) i_R (by decide) (Or.inl (cx_in 516 (by decide +kernel) (by decide +kernel))) rfl,
  List.forall_mem_cons.mpr ⟨cx_getP (host := "") (C := r_R) (T0 := f_R) (N0 := 21) hx hb hKn hown (by rw [hcl]; rfl) i_R (by decide) (Or.inl (cx_in 517 (by decide +kernel) (by decide +kernel))) rfl,
  List.forall_mem_cons.mpr ⟨cx_getP (host := "") (C := r_R) (T0 := f_R) (N0 := 21) hx hb hKn hown (by rw [hcl]; rfl) i_R (by decide) (Or.inl (cx_in 518 (by decide +kernel) (by decide +kernel))) rfl,
  List.forall_mem_cons.mpr ⟨cx_getP (host := "") (C := r_R) (T0 := f_R) (N0 := 21) hx hb hKn hown (by rw [hcl]; rfl) i_R (by decide) (Or.inl (cx_in 521 (by decide +kernel) (by decide +kernel))) rfl,
  List.forall_mem_cons.mpr ⟨cx_getP (host := "") (C := r_R) (T0 := f_R) (N0 := 21) hx hb hKn hown (by rw [hcl]; rfl) i_R (by decide) (Or.inl (cx_in 522 (by decide +kernel) (by decide +kernel))) rfl,
  List.forall_mem_cons.mpr ⟨cx_getP (host := "") (C := r_R) (T0 := f_R) (N0 := 21) hx hb hKn hown (by rw [hcl]; rfl) i_R (by decide) (Or.inl (cx_in 523 (by decide +kernel) (by decide +kernel))) rfl,
  List.forall_mem_cons.mpr ⟨cx_getP (host := "") (C := r_R) (T0 := f_R) (N0 := 21) hx hb hKn hown (by rw [hcl]; rfl) i_R (by decide) (Or.inl (cx_in 524 (by decide +kernel) (by decide +kernel))) rfl,
  List.forall_mem_cons.mpr ⟨cx_getP (host := "") (C := r_R) (T0 := f_R) (N0 := 21) hx hb hKn hown (by rw [hcl]; rfl) i_R (by decide) (Or.inl (cx_in 525 (by decide +kernel) (by decide +kernel))) rfl,
  List.forall_mem_cons.mpr ⟨cx_getP (host := "") (C := r_R) (T0 := f_R) (N0 := 21) hx hb hKn hown (by rw [hcl]; rfl) i_R (by decide) (Or.inl (cx_in 526 (by decide +kernel) (by decide +kernel))) rfl,
  List.forall_mem_cons.mpr ⟨cx_getP (host := "") (C := r_R) (T0 := f_R) (N0 := 21) hx hb hKn hown (by rw [hcl]; rfl) i_R (by decide) (Or.inl (cx_in 527 (by decide +kernel) (by decide +kernel))) rfl,
  List.forall_mem_cons.mpr ⟨cx_getP (host := "") (C := r_R) (T0 := f_R) (N0 := 21) hx hb hKn hown (by rw [hcl]; rfl) i_R (by decide) (Or.inl (cx_in 507 (by decide +kernel) (by decide +kernel))) rfl,
  List.forall_mem_cons.mpr ⟨cx_getP (host := "") (C := r_R) (T0 := f_R) (N0 := 21) hx hb hKn hown (by rw [hcl]; rfl) i_R (by decide) (Or.inl (cx_in 508 (by decide +kernel) (by decide +kernel))) rfl,
  List.forall_mem_cons.mpr ⟨cx_getP (host := "") (C := r_R) (T0 := f_R) (N0 := 21) hx hb hKn hown (by rw [hcl]; rfl) i_R (by decide) (Or.inl (cx_in 510 (by decide +kernel) (by decide +kernel))) rfl,
  List.forall_mem_cons.mpr ⟨cx_getP (host := "") (C := r_R) (T0 := f_R) (N0 := 21) hx hb hKn hown (by rw [hcl]; rfl) i_R (by decide) (Or.inl (cx_in 509 (by decide +kernel) (by decide +kernel))) rfl,
  List.forall_mem_cons.mpr ⟨cx_getP (host := "") (C := r_R) (T0 := f_R) (N0 := 21) hx hb hKn hown (by rw [hcl]; rfl) i_R (by decide) (Or.inl (cx_in 511 (by decide +kernel) (by decide +kernel))) rfl,
  List.forall_mem_cons.mpr ⟨cx_getP (host := "") (C := r_R) (T0 := f_R) (N0 := 21) hx hb hKn hown (by rw [hcl]; rfl) i_R (by decide) (Or.inl (cx_in 519 (by decide +kernel) (by decide +kernel))) rfl,
  List.forall_mem_cons.mpr ⟨cx_getP (host := "") (C := r_R) (T0 := f_R) (N0 := 21) hx hb hKn hown (by rw [hcl]; rfl) i_R (by decide) (Or.inl (cx_in 520 (by decide +kernel) (by decide +kernel))) rfl,
  fun _ h => absurd h List.not_mem_nil⟩⟩⟩⟩⟩⟩⟩⟩⟩⟩⟩⟩⟩⟩⟩⟩⟩⟩⟩⟩⟩
abbrev p_R : List (Nat × Nat × Nat × Int32) := [(54, 4, 0, 0), (58, 4, 1, 0), (65, 4, 3, 0), (72, 4, 2, 0), (75, 4, 4, 0), (78, 4, 12, 0), (81, 4, 13, 0)]
theorem p_R_ok (hx : p.tables.exec = Jvm.exec) (hb : c.code = cc) (hKn : cx_Kn cx_Tb G s) (hcl : cx_cl G = cx_cls) (hown : s.vm.findClass r_R = some m.cls) : ∀ q ∈ p_R, cx_okput p l e R s m args below meth c cc G Q q.1 q.2.1 q.2.2.1 q.2.2.2 :=
  List.forall_mem_cons.mpr ⟨cx_putP (C := r_R) (T0 := f_R) (N0 := 21) hx hb hKn hown (by rw [hcl]; rfl) i_R y_R y_R_ok n_R (by decide) (cx_in 507 (by decide +kernel) (by decide +kernel)) rfl rfl (Or.inl ⟨rfl, rfl⟩),
  List.forall_mem_cons.mpr ⟨cx_putP (C := r_R) (T0 := f_R) (N0 := 21) hx hb hKn hown (by rw [hcl]; rfl) i_R y_R y_R_ok n_R (by decide) (cx_in 508 (by decide +kernel) (by decide +kernel)) rfl rfl (Or.inl ⟨rfl, rfl⟩),
  List.forall_mem_cons.mpr ⟨cx_putP (C := r_R) (T0 := f_R) (N0 := 21) hx hb hKn hown (by rw [hcl]; rfl) i_R y_R y_R_ok n_R (by decide) (cx_in 510 (by decide +kernel) (by decide +kernel)) rfl rfl (Or.inl ⟨rfl, rfl⟩),
  List.forall_mem_cons.mpr ⟨cx_putP (C := r_R) (T0 := f_R) (N0 := 21) hx hb hKn hown (by rw [hcl]; rfl) i_R y_R y_R_ok n_R (by decide) (cx_in 509 (by decide +kernel) (by decide +kernel)) rfl rfl (Or.inl ⟨rfl, rfl⟩),
  List.forall_mem_cons.mpr ⟨cx_putP (C := r_R) (T0 := f_R) (N0 := 21) hx hb hKn hown (by rw [hcl]; rfl) i_R y_R y_R_ok n_R (by decide) (cx_in 511 (by decide +kernel) (by decide +kernel)) rfl rfl (Or.inl ⟨rfl, rfl⟩),
  List.forall_mem_cons.mpr ⟨cx_putP (C := r_R) (T0 := f_R) (N0 := 21) hx hb hKn hown (by rw [hcl]; rfl) i_R y_R y_R_ok n_R (by decide) (cx_in 519 (by decide +kernel) (by decide +kernel)) rfl rfl (Or.inl ⟨rfl, rfl⟩),
  List.forall_mem_cons.mpr ⟨cx_putP (C := r_R) (T0 := f_R) (N0 := 21) hx hb hKn hown (by rw [hcl]; rfl) i_R y_R y_R_ok n_R (by decide) (cx_in 520 (by decide +kernel) (by decide +kernel)) rfl rfl (Or.inl ⟨rfl, rfl⟩),
  fun _ h => absurd h List.not_mem_nil⟩⟩⟩⟩⟩⟩⟩
end CXN
abbrev l_L : List (Nat × Int64) := []
theorem l_L_ok {G : cx_G} {s : State} {args : Array Value} (hKn : cx_Kn cx_Tb G s) : ∀ q ∈ l_L, (Jvm.Cond.constantLong "CycleCutter$Layout" q.1 q.2).before args s = true :=
  fun _ h => absurd h List.not_mem_nil
abbrev l_M : List (Nat × Int64) := []
theorem l_M_ok {G : cx_G} {s : State} {args : Array Value} (hKn : cx_Kn cx_Tb G s) : ∀ q ∈ l_M, (Jvm.Cond.constantLong "CycleCutter$Multiplexers" q.1 q.2).before args s = true :=
  fun _ h => absurd h List.not_mem_nil
abbrev l_N : List (Nat × Int64) := [(61, -1)]
theorem l_N_ok {G : cx_G} {s : State} {args : Array Value} (hKn : cx_Kn cx_Tb G s) : ∀ q ∈ l_N, (Jvm.Cond.constantLong "CycleCutter$Net" q.1 q.2).before args s = true :=
  List.forall_mem_cons.mpr ⟨hKn.1 _ (cx_in 222 (by decide +kernel) (by decide +kernel)) args,
  fun _ h => absurd h List.not_mem_nil⟩
abbrev l_C : List (Nat × Int64) := []
theorem l_C_ok {G : cx_G} {s : State} {args : Array Value} (hKn : cx_Kn cx_Tb G s) : ∀ q ∈ l_C, (Jvm.Cond.constantLong "CycleCutter" q.1 q.2).before args s = true :=
  fun _ h => absurd h List.not_mem_nil
abbrev l_R : List (Nat × Int64) := []
theorem l_R_ok {G : cx_G} {s : State} {args : Array Value} (hKn : cx_Kn cx_Tb G s) : ∀ q ∈ l_R, (Jvm.Cond.constantLong "CycleCutterModel" q.1 q.2).before args s = true :=
  fun _ h => absurd h List.not_mem_nil
abbrev l_J : List (Nat × Int64) := [(314, 6148914691236517205), (316, 3689348814741910323), (318, 1085102592571150095)]
theorem l_J_ok {G : cx_G} {s : State} {args : Array Value} (hKn : cx_Kn cx_Tb G s) : ∀ q ∈ l_J, (Jvm.Cond.constantLong "java/lang/Long" q.1 q.2).before args s = true :=
  List.forall_mem_cons.mpr ⟨hKn.1 _ (cx_in 474 (by decide +kernel) (by decide +kernel)) args,
  List.forall_mem_cons.mpr ⟨hKn.1 _ (cx_in 475 (by decide +kernel) (by decide +kernel)) args,
  List.forall_mem_cons.mpr ⟨hKn.1 _ (cx_in 476 (by decide +kernel) (by decide +kernel)) args,
  fun _ h => absurd h List.not_mem_nil⟩⟩⟩
end
section
/-! The methods' tables: by program (wip/whole/gen.py). -/
def t_L_dropAll : List (Nat × cx_E) := [(0, .aload_n 0, 0, 0, 0, 0, 1),
  (1, .getfield 12, 0, 0, 0, 0, 4),
  (4, .invokevirtual 34, 0, 0, 0, 0, 7),
  (7, .aload_n 0, 0, 0, 0, 0, 8),
  (8, .iconst 0, 0, 0, 0, 0, 9),
  (9, .putfield 30, 0, 0, 0, 4, 12),
  (12, .return_, 0, 0, 0, 0, 13)]
abbrev v_L_dropAll : List (Nat × Nat) := [(34, 0)]
abbrev s_L_dropAll : List (Nat × Nat) := []
abbrev h_L_dropAll : List (Nat × Nat) := []
abbrev w_L_dropAll : List (Nat × List Nat) := []
abbrev x_L_dropAll : List String := []
theorem k_L_dropAll : t_L_dropAll.all (cx_dec true prog_2_method_2_code none 1 g_L p_L l_L v_L_dropAll s_L_dropAll h_L_dropAll w_L_dropAll) = true := by decide +kernel
abbrev m_L_dropAll : MethodName := ⟨"CycleCutter$Layout", "dropAll", "()V"⟩
-- calls of L_dropAll: 0 = CycleCutter$Multiplexers.dropAll()V
def t_L_addOutput : List (Nat × cx_E) := [(0, .aload_n 0, 0, 0, 0, 0, 1),
  (1, .getfield 30, 0, 0, 0, 4, 4),
  (4, .bipush 10, 10, 0, 0, 0, 6),
  (6, .if_icmp .lt 4, 0, 0, 10, 0, 9),
  (9, .return_, 0, 0, 0, 0, 10),
  (10, .aload_n 0, 0, 0, 0, 0, 11),
  (11, .getfield 18, 0, 0, 0, 1, 14),
  (14, .aload_n 0, 0, 0, 0, 0, 15),
  (15, .getfield 30, 0, 0, 0, 4, 18),
  (18, .aload_n 0, 0, 0, 0, 0, 19),
  (19, .getfield 12, 0, 0, 0, 0, 22),
  (22, .aload_n 1, 0, 0, 1, 0, 23),
  (23, .invokevirtual 37, 0, 0, 0, 0, 26),
  (26, .iastore, 0, 0, 0, 0, 27),
  (27, .aload_n 0, 0, 0, 0, 0, 28),
  (28, .getfield 22, 0, 0, 0, 2, 31),
  (31, .aload_n 0, 0, 0, 0, 0, 32),
  (32, .getfield 30, 0, 0, 0, 4, 35),
  (35, .aload_n 0, 0, 0, 0, 0, 36),
  (36, .getfield 12, 0, 0, 0, 0, 39),
  (39, .aload_n 2, 0, 0, 2, 0, 40),
  (40, .invokevirtual 37, 0, 0, 0, 0, 43),
  (43, .iastore, 0, 0, 0, 0, 44),
  (44, .iconst 0, 0, 0, 0, 0, 45),
  (45, .istore_n 3, 0, 0, 3, 0, 46),
  (46, .iload_n 3, 0, 0, 3, 0, 47),
  (47, .iconst 4, 4, 0, 0, 0, 48),
  (48, .if_icmp .ge 27, 0, 0, 75, 0, 51),
  (51, .aload_n 0, 0, 0, 0, 0, 52),
  (52, .getfield 27, 0, 0, 0, 3, 55),
  (55, .aload_n 0, 0, 0, 0, 0, 56),
  (56, .getfield 30, 0, 0, 0, 4, 59),
  (59, .aaload, 0, 0, 0, 0, 60),
  (60, .iload_n 3, 0, 0, 3, 0, 61),
  (61, .aload_n 1, 0, 0, 1, 0, 62),
  (62, .iload_n 3, 0, 0, 3, 0, 63),
  (63, .laload, 0, 0, 0, 0, 64),
  (64, .aload_n 2, 0, 0, 2, 0, 65),
  (65, .iload_n 3, 0, 0, 3, 0, 66),
  (66, .laload, 0, 0, 0, 0, 67),
  (67, .lor, 0, 0, 0, 0, 68),
  (68, .lastore, 0, 0, 0, 0, 69),
  (69, .iinc 3 1, 1, 0, 3, 0, 72),
  (72, .goto (-26), 0, 0, 46, 0, 75),
  (75, .aload_n 0, 0, 0, 0, 0, 76),
  (76, .aload_n 0, 0, 0, 0, 0, 77),
  (77, .getfield 30, 0, 0, 0, 4, 80),
  (80, .iconst 1, 1, 0, 0, 0, 81),
  (81, .iadd, 0, 0, 0, 0, 82),
  (82, .putfield 30, 0, 0, 0, 4, 85),
  (85, .return_, 0, 0, 0, 0, 86)]
abbrev v_L_addOutput : List (Nat × Nat) := [(37, 0)]
abbrev s_L_addOutput : List (Nat × Nat) := []
abbrev h_L_addOutput : List (Nat × Nat) := []
abbrev w_L_addOutput : List (Nat × List Nat) := []
abbrev x_L_addOutput : List String := []
theorem k_L_addOutput : t_L_addOutput.all (cx_dec true prog_2_method_3_code none 4 g_L p_L l_L v_L_addOutput s_L_addOutput h_L_addOutput w_L_addOutput) = true := by decide +kernel
abbrev m_L_addOutput : MethodName := ⟨"CycleCutter$Layout", "addOutput", "([J[J)V"⟩
-- calls of L_addOutput: 0 = CycleCutter$Multiplexers.addFunction([J)I
def t_L_valueOn : List (Nat × cx_E) := [(0, .aload_n 0, 0, 0, 0, 0, 1),
  (1, .getfield 12, 0, 0, 0, 0, 4),
  (4, .aload_n 0, 0, 0, 0, 0, 5),
  (5, .getfield 18, 0, 0, 0, 1, 8),
  (8, .iload_n 1, 0, 0, 1, 0, 9),
  (9, .iaload, 0, 0, 0, 0, 10),
  (10, .iload_n 2, 0, 0, 2, 0, 11),
  (11, .invokevirtual 41, 0, 0, 0, 0, 14),
  (14, .ifCond .eq 5, 0, 0, 19, 0, 17),
  (17, .iconst 1, 1, 0, 0, 0, 18),
  (18, .ireturn, 0, 0, 0, 0, 19),
  (19, .aload_n 0, 0, 0, 0, 0, 20),
  (20, .getfield 12, 0, 0, 0, 0, 23),
  (23, .aload_n 0, 0, 0, 0, 0, 24),
  (24, .getfield 22, 0, 0, 0, 2, 27),
  (27, .iload_n 1, 0, 0, 1, 0, 28),
  (28, .iaload, 0, 0, 0, 0, 29),
  (29, .iload_n 2, 0, 0, 2, 0, 30),
  (30, .invokevirtual 41, 0, 0, 0, 0, 33),
  (33, .ifCond .eq 7, 0, 0, 40, 0, 36),
  (36, .iconst 0, 0, 0, 0, 0, 37),
  (37, .goto 4, 0, 0, 41, 0, 40),
  (40, .iconst 2, 2, 0, 0, 0, 41),
  (41, .ireturn, 0, 0, 0, 0, 42)]
abbrev v_L_valueOn : List (Nat × Nat) := [(41, 0)]
abbrev s_L_valueOn : List (Nat × Nat) := []
abbrev h_L_valueOn : List (Nat × Nat) := []
abbrev w_L_valueOn : List (Nat × List Nat) := []
abbrev x_L_valueOn : List String := []
theorem k_L_valueOn : t_L_valueOn.all (cx_dec true prog_2_method_4_code (some (.int)) 3 g_L p_L l_L v_L_valueOn s_L_valueOn h_L_valueOn w_L_valueOn) = true := by decide +kernel
abbrev m_L_valueOn : MethodName := ⟨"CycleCutter$Layout", "valueOn", "(II)I"⟩
-- calls of L_valueOn: 0 = CycleCutter$Multiplexers.isOneOn(II)Z
def t_L_stepsOn : List (Nat × cx_E) := [(0, .aload_n 0, 0, 0, 0, 0, 1),
  (1, .getfield 12, 0, 0, 0, 0, 4),
  (4, .aload_n 0, 0, 0, 0, 0, 5),
  (5, .getfield 18, 0, 0, 0, 1, 8),
  (8, .iload_n 1, 0, 0, 1, 0, 9),
  (9, .iaload, 0, 0, 0, 0, 10),
  (10, .iload_n 2, 0, 0, 2, 0, 11),
  (11, .invokevirtual 45, 0, 0, 0, 0, 14),
  (14, .aload_n 0, 0, 0, 0, 0, 15),
  (15, .getfield 12, 0, 0, 0, 0, 18),
  (18, .aload_n 0, 0, 0, 0, 0, 19),
  (19, .getfield 22, 0, 0, 0, 2, 22),
  (22, .iload_n 1, 0, 0, 1, 0, 23),
  (23, .iaload, 0, 0, 0, 0, 24),
  (24, .iload_n 2, 0, 0, 2, 0, 25),
  (25, .invokevirtual 45, 0, 0, 0, 0, 28),
  (28, .iadd, 0, 0, 0, 0, 29),
  (29, .ireturn, 0, 0, 0, 0, 30)]
abbrev v_L_stepsOn : List (Nat × Nat) := [(45, 0)]
abbrev s_L_stepsOn : List (Nat × Nat) := []
abbrev h_L_stepsOn : List (Nat × Nat) := []
abbrev w_L_stepsOn : List (Nat × List Nat) := []
abbrev x_L_stepsOn : List String := []
theorem k_L_stepsOn : t_L_stepsOn.all (cx_dec true prog_2_method_5_code (some (.int)) 3 g_L p_L l_L v_L_stepsOn s_L_stepsOn h_L_stepsOn w_L_stepsOn) = true := by decide +kernel
abbrev m_L_stepsOn : MethodName := ⟨"CycleCutter$Layout", "stepsOn", "(II)I"⟩
-- calls of L_stepsOn: 0 = CycleCutter$Multiplexers.stepsOn(II)I
def t_L_knownChoices : List (Nat × cx_E) := [(0, .iconst 0, 0, 0, 0, 0, 1),
  (1, .istore_n 2, 0, 0, 2, 0, 2),
  (2, .iconst 0, 0, 0, 0, 0, 3),
  (3, .istore_n 3, 0, 0, 3, 0, 4),
  (4, .iload_n 3, 0, 0, 3, 0, 5),
  (5, .iconst 4, 4, 0, 0, 0, 6),
  (6, .if_icmp .ge 23, 0, 0, 29, 0, 9),
  (9, .iload_n 2, 0, 0, 2, 0, 10),
  (10, .aload_n 0, 0, 0, 0, 0, 11),
  (11, .getfield 27, 0, 0, 0, 3, 14),
  (14, .iload_n 1, 0, 0, 1, 0, 15),
  (15, .aaload, 0, 0, 0, 0, 16),
  (16, .iload_n 3, 0, 0, 3, 0, 17),
  (17, .laload, 0, 0, 0, 0, 18),
  (18, .invokestatic 49, 0, 0, 0, 0, 21),
  (21, .iadd, 0, 0, 0, 0, 22),
  (22, .istore_n 2, 0, 0, 2, 0, 23),
  (23, .iinc 3 1, 1, 0, 3, 0, 26),
  (26, .goto (-22), 0, 0, 4, 0, 29),
  (29, .iload_n 2, 0, 0, 2, 0, 30),
  (30, .ireturn, 0, 0, 0, 0, 31)]
abbrev v_L_knownChoices : List (Nat × Nat) := []
abbrev s_L_knownChoices : List (Nat × Nat) := [(49, 0)]
abbrev h_L_knownChoices : List (Nat × Nat) := []
abbrev w_L_knownChoices : List (Nat × List Nat) := []
abbrev x_L_knownChoices : List String := []
theorem k_L_knownChoices : t_L_knownChoices.all (cx_dec true prog_2_method_6_code (some (.int)) 4 g_L p_L l_L v_L_knownChoices s_L_knownChoices h_L_knownChoices w_L_knownChoices) = true := by decide +kernel
abbrev m_L_knownChoices : MethodName := ⟨"CycleCutter$Layout", "knownChoices", "(I)I"⟩
-- calls of L_knownChoices: 0 = java/lang/Long.bitCount(J)I
def t_L_firstDoubtFrom : List (Nat × cx_E) := [(0, .iload_n 1, 0, 0, 1, 0, 1),
  (1, .istore_n 2, 0, 0, 2, 0, 2),
  (2, .iload_n 2, 0, 0, 2, 0, 3),
  (3, .sipush 256, 256, 0, 0, 0, 6),
  (6, .if_icmp .ge 40, 0, 0, 46, 0, 9),
  (9, .iconst 0, 0, 0, 0, 0, 10),
  (10, .istore_n 3, 0, 0, 3, 0, 11),
  (11, .iload_n 3, 0, 0, 3, 0, 12),
  (12, .aload_n 0, 0, 0, 0, 0, 13),
  (13, .getfield 30, 0, 0, 0, 4, 16),
  (16, .if_icmp .ge 24, 0, 0, 40, 0, 19),
  (19, .aload_n 0, 0, 0, 0, 0, 20),
  (20, .getfield 27, 0, 0, 0, 3, 23),
  (23, .iload_n 3, 0, 0, 3, 0, 24),
  (24, .aaload, 0, 0, 0, 0, 25),
  (25, .iload_n 2, 0, 0, 2, 0, 26),
  (26, .invokestatic 55, 0, 0, 0, 0, 29),
  (29, .ifCond .ne 5, 0, 0, 34, 0, 32),
  (32, .iload_n 2, 0, 0, 2, 0, 33),
  (33, .ireturn, 0, 0, 0, 0, 34),
  (34, .iinc 3 1, 1, 0, 3, 0, 37),
  (37, .goto (-26), 0, 0, 11, 0, 40),
  (40, .iinc 2 1, 1, 0, 2, 0, 43),
  (43, .goto (-41), 0, 0, 2, 0, 46),
  (46, .iconst (-1), (-1), 0, 0, 0, 47),
  (47, .ireturn, 0, 0, 0, 0, 48)]
abbrev v_L_firstDoubtFrom : List (Nat × Nat) := []
abbrev s_L_firstDoubtFrom : List (Nat × Nat) := [(55, 0)]
abbrev h_L_firstDoubtFrom : List (Nat × Nat) := []
abbrev w_L_firstDoubtFrom : List (Nat × List Nat) := []
abbrev x_L_firstDoubtFrom : List String := []
theorem k_L_firstDoubtFrom : t_L_firstDoubtFrom.all (cx_dec true prog_2_method_7_code (some (.int)) 4 g_L p_L l_L v_L_firstDoubtFrom s_L_firstDoubtFrom h_L_firstDoubtFrom w_L_firstDoubtFrom) = true := by decide +kernel
abbrev m_L_firstDoubtFrom : MethodName := ⟨"CycleCutter$Layout", "firstDoubtFrom", "(I)I"⟩
-- calls of L_firstDoubtFrom: 0 = CycleCutter.isMember([JI)Z
def t_M_dropAll : List (Nat × cx_E) := [(0, .aload_n 0, 0, 0, 0, 0, 1),
  (1, .iconst 2, 2, 0, 0, 0, 2),
  (2, .putfield 40, 0, 0, 1, 9, 5),
  (5, .aload_n 0, 0, 0, 0, 0, 6),
  (6, .iconst 0, 0, 0, 0, 0, 7),
  (7, .putfield 44, 0, 0, 1, 10, 10),
  (10, .iconst 0, 0, 0, 0, 0, 11),
  (11, .istore_n 1, 0, 0, 1, 0, 12),
  (12, .iload_n 1, 0, 0, 1, 0, 13),
  (13, .iconst 2, 2, 0, 0, 0, 14),
  (14, .if_icmp .ge 23, 0, 0, 37, 0, 17),
  (17, .aload_n 0, 0, 0, 0, 0, 18),
  (18, .getfield 21, 0, 0, 1, 3, 21),
  (21, .iload_n 1, 0, 0, 1, 0, 22),
  (22, .iconst 0, 0, 0, 0, 0, 23),
  (23, .iastore, 0, 0, 0, 0, 24),
  (24, .aload_n 0, 0, 0, 0, 0, 25),
  (25, .getfield 24, 0, 0, 1, 4, 28),
  (28, .iload_n 1, 0, 0, 1, 0, 29),
  (29, .iconst (-1), (-1), 0, 0, 0, 30),
  (30, .iastore, 0, 0, 0, 0, 31),
  (31, .iinc 1 1, 1, 0, 1, 0, 34),
  (34, .goto (-22), 0, 0, 12, 0, 37),
  (37, .iconst 0, 0, 0, 0, 0, 38),
  (38, .istore_n 1, 0, 0, 1, 0, 39),
  (39, .iload_n 1, 0, 0, 1, 0, 40),
  (40, .bipush 8, 8, 0, 0, 0, 42),
  (42, .if_icmp .ge 16, 0, 0, 58, 0, 45),
  (45, .aload_n 0, 0, 0, 0, 0, 46),
  (46, .getfield 37, 0, 0, 1, 8, 49),
  (49, .iload_n 1, 0, 0, 1, 0, 50),
  (50, .iconst 0, 0, 0, 0, 0, 51),
  (51, .iastore, 0, 0, 0, 0, 52),
  (52, .iinc 1 1, 1, 0, 1, 0, 55),
  (55, .goto (-16), 0, 0, 39, 0, 58),
  (58, .return_, 0, 0, 0, 0, 59)]
abbrev v_M_dropAll : List (Nat × Nat) := []
abbrev s_M_dropAll : List (Nat × Nat) := []
abbrev h_M_dropAll : List (Nat × Nat) := []
abbrev w_M_dropAll : List (Nat × List Nat) := []
abbrev x_M_dropAll : List String := []
theorem k_M_dropAll : t_M_dropAll.all (cx_dec true prog_3_method_2_code none 2 g_M p_M l_M v_M_dropAll s_M_dropAll h_M_dropAll w_M_dropAll) = true := by decide +kernel
abbrev m_M_dropAll : MethodName := ⟨"CycleCutter$Multiplexers", "dropAll", "()V"⟩
-- calls of M_dropAll: 
def t_M_total : List (Nat × cx_E) := [(0, .aload_n 0, 0, 0, 0, 0, 1),
  (1, .getfield 40, 0, 0, 1, 9, 4),
  (4, .iconst 2, 2, 0, 0, 0, 5),
  (5, .isub, 0, 0, 0, 0, 6),
  (6, .ireturn, 0, 0, 0, 0, 7)]
abbrev v_M_total : List (Nat × Nat) := []
abbrev s_M_total : List (Nat × Nat) := []
abbrev h_M_total : List (Nat × Nat) := []
abbrev w_M_total : List (Nat × List Nat) := []
abbrev x_M_total : List String := []
theorem k_M_total : t_M_total.all (cx_dec true prog_3_method_3_code (some (.int)) 1 g_M p_M l_M v_M_total s_M_total h_M_total w_M_total) = true := by decide +kernel
abbrev m_M_total : MethodName := ⟨"CycleCutter$Multiplexers", "total", "()I"⟩
-- calls of M_total: 
def t_M_addFunction : List (Nat × cx_E) := [(0, .iconst 0, 0, 0, 0, 0, 1),
  (1, .istore_n 2, 0, 0, 2, 0, 2),
  (2, .iload_n 2, 0, 0, 2, 0, 3),
  (3, .sipush 256, 256, 0, 0, 0, 6),
  (6, .if_icmp .ge 28, 0, 0, 34, 0, 9),
  (9, .aload_n 0, 0, 0, 0, 0, 10),
  (10, .getfield 34, 0, 0, 1, 7, 13),
  (13, .iload_n 2, 0, 0, 2, 0, 14),
  (14, .aload_n 1, 0, 0, 1, 0, 15),
  (15, .iload_n 2, 0, 0, 2, 0, 16),
  (16, .invokestatic 47, 0, 0, 0, 0, 19),
  (19, .ifCond .eq 7, 0, 0, 26, 0, 22),
  (22, .iconst 1, 1, 0, 0, 0, 23),
  (23, .goto 4, 0, 0, 27, 0, 26),
  (26, .iconst 0, 0, 0, 0, 0, 27),
  (27, .iastore, 0, 0, 0, 0, 28),
  (28, .iinc 2 1, 1, 0, 2, 0, 31),
  (31, .goto (-29), 0, 0, 2, 0, 34),
  (34, .bipush 7, 7, 0, 0, 0, 36),
  (36, .istore_n 2, 0, 0, 2, 0, 37),
  (37, .iload_n 2, 0, 0, 2, 0, 38),
  (38, .ifCond .lt 60, 0, 0, 98, 0, 41),
  (41, .iconst 1, 1, 0, 0, 0, 42),
  (42, .iload_n 2, 0, 0, 2, 0, 43),
  (43, .ishl, 0, 0, 0, 0, 44),
  (44, .istore_n 3, 0, 0, 3, 0, 45),
  (45, .iconst 0, 0, 0, 0, 0, 46),
  (46, .istore 4, 0, 0, 4, 0, 48),
  (48, .iload 4, 0, 0, 4, 0, 50),
  (50, .iload_n 3, 0, 0, 3, 0, 51),
  (51, .if_icmp .ge 41, 0, 0, 92, 0, 54),
  (54, .aload_n 0, 0, 0, 0, 0, 55),
  (55, .getfield 34, 0, 0, 1, 7, 58),
  (58, .iload 4, 0, 0, 4, 0, 60),
  (60, .aload_n 0, 0, 0, 0, 0, 61),
  (61, .iload_n 2, 0, 0, 2, 0, 62),
  (62, .aload_n 0, 0, 0, 0, 0, 63),
  (63, .getfield 34, 0, 0, 1, 7, 66),
  (66, .iconst 2, 2, 0, 0, 0, 67),
  (67, .iload 4, 0, 0, 4, 0, 69),
  (69, .imul, 0, 0, 0, 0, 70),
  (70, .iaload, 0, 0, 0, 0, 71),
  (71, .aload_n 0, 0, 0, 0, 0, 72),
  (72, .getfield 34, 0, 0, 1, 7, 75),
  (75, .iconst 2, 2, 0, 0, 0, 76),
  (76, .iload 4, 0, 0, 4, 0, 78),
  (78, .imul, 0, 0, 0, 0, 79),
  (79, .iconst 1, 1, 0, 0, 0, 80),
  (80, .iadd, 0, 0, 0, 0, 81),
  (81, .iaload, 0, 0, 0, 0, 82),
  (82, .invokevirtual 51, 0, 0, 1, 0, 85),
  (85, .iastore, 0, 0, 0, 0, 86),
  (86, .iinc 4 1, 1, 0, 4, 0, 89),
  (89, .goto (-41), 0, 0, 48, 0, 92),
  (92, .iinc 2 (-1), (-1), 0, 2, 0, 95),
  (95, .goto (-58), 0, 0, 37, 0, 98),
  (98, .aload_n 0, 0, 0, 0, 0, 99),
  (99, .getfield 34, 0, 0, 1, 7, 102),
  (102, .iconst 0, 0, 0, 0, 0, 103),
  (103, .iaload, 0, 0, 0, 0, 104),
  (104, .ireturn, 0, 0, 0, 0, 105)]
abbrev v_M_addFunction : List (Nat × Nat) := [(51, 1)]
abbrev s_M_addFunction : List (Nat × Nat) := [(47, 0)]
abbrev h_M_addFunction : List (Nat × Nat) := []
abbrev w_M_addFunction : List (Nat × List Nat) := []
abbrev x_M_addFunction : List String := []
theorem k_M_addFunction : t_M_addFunction.all (cx_dec true prog_3_method_4_code (some (.int)) 5 g_M p_M l_M v_M_addFunction s_M_addFunction h_M_addFunction w_M_addFunction) = true := by decide +kernel
abbrev m_M_addFunction : MethodName := ⟨"CycleCutter$Multiplexers", "addFunction", "([J)I"⟩
-- calls of M_addFunction: 0 = CycleCutter.isMember([JI)Z, 1 = CycleCutter$Multiplexers.join(III)I
def t_M_join : List (Nat × cx_E) := [(0, .iload_n 2, 0, 0, 2, 0, 1),
  (1, .iload_n 3, 0, 0, 3, 0, 2),
  (2, .if_icmp .ne 5, 0, 0, 7, 0, 5),
  (5, .iload_n 2, 0, 0, 2, 0, 6),
  (6, .ireturn, 0, 0, 0, 0, 7),
  (7, .aload_n 0, 0, 0, 0, 0, 8),
  (8, .getfield 24, 0, 0, 1, 4, 11),
  (11, .iload_n 2, 0, 0, 2, 0, 12),
  (12, .iaload, 0, 0, 0, 0, 13),
  (13, .istore 4, 0, 0, 4, 0, 15),
  (15, .iconst 0, 0, 0, 0, 0, 16),
  (16, .istore 5, 0, 0, 5, 0, 18),
  (18, .iload 5, 0, 0, 5, 0, 20),
  (20, .aload_n 0, 0, 0, 0, 0, 21),
  (21, .getfield 40, 0, 0, 1, 9, 24),
  (24, .if_icmp .ge 49, 0, 0, 73, 0, 27),
  (27, .iload 4, 0, 0, 4, 0, 29),
  (29, .iconst (-1), (-1), 0, 0, 0, 30),
  (30, .if_icmp .eq 43, 0, 0, 73, 0, 33),
  (33, .aload_n 0, 0, 0, 0, 0, 34),
  (34, .getfield 11, 0, 0, 1, 0, 37),
  (37, .iload 4, 0, 0, 4, 0, 39),
  (39, .iaload, 0, 0, 0, 0, 40),
  (40, .iload_n 1, 0, 0, 1, 0, 41),
  (41, .if_icmp .ne 17, 0, 0, 58, 0, 44),
  (44, .aload_n 0, 0, 0, 0, 0, 45),
  (45, .getfield 18, 0, 0, 1, 2, 48),
  (48, .iload 4, 0, 0, 4, 0, 50),
  (50, .iaload, 0, 0, 0, 0, 51),
  (51, .iload_n 3, 0, 0, 3, 0, 52),
  (52, .if_icmp .ne 6, 0, 0, 58, 0, 55),
  (55, .iload 4, 0, 0, 4, 0, 57),
  (57, .ireturn, 0, 0, 0, 0, 58),
  (58, .aload_n 0, 0, 0, 0, 0, 59),
  (59, .getfield 27, 0, 0, 1, 5, 62),
  (62, .iload 4, 0, 0, 4, 0, 64),
  (64, .iaload, 0, 0, 0, 0, 65),
  (65, .istore 4, 0, 0, 4, 0, 67),
  (67, .iinc 5 1, 1, 0, 5, 0, 70),
  (70, .goto (-52), 0, 0, 18, 0, 73),
  (73, .aload_n 0, 0, 0, 0, 0, 74),
  (74, .iload_n 1, 0, 0, 1, 0, 75),
  (75, .iload_n 2, 0, 0, 2, 0, 76),
  (76, .iload_n 3, 0, 0, 3, 0, 77),
  (77, .invokevirtual 55, 0, 0, 0, 0, 80),
  (80, .ireturn, 0, 0, 0, 0, 81)]
abbrev v_M_join : List (Nat × Nat) := [(55, 0)]
abbrev s_M_join : List (Nat × Nat) := []
abbrev h_M_join : List (Nat × Nat) := []
abbrev w_M_join : List (Nat × List Nat) := []
abbrev x_M_join : List String := []
theorem k_M_join : t_M_join.all (cx_dec true prog_3_method_5_code (some (.int)) 6 g_M p_M l_M v_M_join s_M_join h_M_join w_M_join) = true := by decide +kernel
abbrev m_M_join : MethodName := ⟨"CycleCutter$Multiplexers", "join", "(III)I"⟩
-- calls of M_join: 0 = CycleCutter$Multiplexers.addMultiplexer(III)I
def t_M_addMultiplexer : List (Nat × cx_E) := [(0, .aload_n 0, 0, 0, 0, 0, 1),
  (1, .getfield 40, 0, 0, 1, 9, 4),
  (4, .sipush 876, 876, 0, 0, 0, 7),
  (7, .if_icmp .lt 5, 0, 0, 12, 0, 10),
  (10, .iload_n 2, 0, 0, 2, 0, 11),
  (11, .ireturn, 0, 0, 0, 0, 12),
  (12, .aload_n 0, 0, 0, 0, 0, 13),
  (13, .getfield 40, 0, 0, 1, 9, 16),
  (16, .istore 4, 0, 0, 4, 0, 18),
  (18, .aload_n 0, 0, 0, 0, 0, 19),
  (19, .getfield 11, 0, 0, 1, 0, 22),
  (22, .iload 4, 0, 0, 4, 0, 24),
  (24, .iload_n 1, 0, 0, 1, 0, 25),
  (25, .iastore, 0, 0, 0, 0, 26),
  (26, .aload_n 0, 0, 0, 0, 0, 27),
  (27, .getfield 15, 0, 0, 1, 1, 30),
  (30, .iload 4, 0, 0, 4, 0, 32),
  (32, .iload_n 2, 0, 0, 2, 0, 33),
  (33, .iastore, 0, 0, 0, 0, 34),
  (34, .aload_n 0, 0, 0, 0, 0, 35),
  (35, .getfield 18, 0, 0, 1, 2, 38),
  (38, .iload 4, 0, 0, 4, 0, 40),
  (40, .iload_n 3, 0, 0, 3, 0, 41),
  (41, .iastore, 0, 0, 0, 0, 42),
  (42, .aload_n 0, 0, 0, 0, 0, 43),
  (43, .getfield 21, 0, 0, 1, 3, 46),
  (46, .iload 4, 0, 0, 4, 0, 48),
  (48, .iconst 1, 1, 0, 0, 0, 49),
  (49, .aload_n 0, 0, 0, 0, 0, 50),
  (50, .getfield 21, 0, 0, 1, 3, 53),
  (53, .iload_n 2, 0, 0, 2, 0, 54),
  (54, .iaload, 0, 0, 0, 0, 55),
  (55, .aload_n 0, 0, 0, 0, 0, 56),
  (56, .getfield 21, 0, 0, 1, 3, 59),
  (59, .iload_n 3, 0, 0, 3, 0, 60),
  (60, .iaload, 0, 0, 0, 0, 61),
  (61, .invokestatic 58, 0, 0, 0, 0, 64),
  (64, .iadd, 0, 0, 0, 0, 65),
  (65, .iastore, 0, 0, 0, 0, 66),
  (66, .aload_n 0, 0, 0, 0, 0, 67),
  (67, .getfield 27, 0, 0, 1, 5, 70),
  (70, .iload 4, 0, 0, 4, 0, 72),
  (72, .aload_n 0, 0, 0, 0, 0, 73),
  (73, .getfield 24, 0, 0, 1, 4, 76),
  (76, .iload_n 2, 0, 0, 2, 0, 77),
  (77, .iaload, 0, 0, 0, 0, 78),
  (78, .iastore, 0, 0, 0, 0, 79),
  (79, .aload_n 0, 0, 0, 0, 0, 80),
  (80, .getfield 24, 0, 0, 1, 4, 83),
  (83, .iload_n 2, 0, 0, 2, 0, 84),
  (84, .iload 4, 0, 0, 4, 0, 86),
  (86, .iastore, 0, 0, 0, 0, 87),
  (87, .aload_n 0, 0, 0, 0, 0, 88),
  (88, .getfield 24, 0, 0, 1, 4, 91),
  (91, .iload 4, 0, 0, 4, 0, 93),
  (93, .iconst (-1), (-1), 0, 0, 0, 94),
  (94, .iastore, 0, 0, 0, 0, 95),
  (95, .aload_n 0, 0, 0, 0, 0, 96),
  (96, .getfield 37, 0, 0, 1, 8, 99),
  (99, .iload_n 1, 0, 0, 1, 0, 100),
  (100, .aload_n 0, 0, 0, 0, 0, 101),
  (101, .getfield 37, 0, 0, 1, 8, 104),
  (104, .iload_n 1, 0, 0, 1, 0, 105),
  (105, .iaload, 0, 0, 0, 0, 106),
  (106, .iconst 1, 1, 0, 0, 0, 107),
  (107, .iadd, 0, 0, 0, 0, 108),
  (108, .iastore, 0, 0, 0, 0, 109),
  (109, .aload_n 0, 0, 0, 0, 0, 110),
  (110, .aload_n 0, 0, 0, 0, 0, 111),
  (111, .getfield 44, 0, 0, 1, 10, 114),
  (114, .aload_n 0, 0, 0, 0, 0, 115),
  (115, .getfield 21, 0, 0, 1, 3, 118),
  (118, .iload 4, 0, 0, 4, 0, 120),
  (120, .iaload, 0, 0, 0, 0, 121),
  (121, .invokestatic 58, 0, 0, 0, 0, 124),
  (124, .putfield 44, 0, 0, 1, 10, 127),
  (127, .aload_n 0, 0, 0, 0, 0, 128),
  (128, .iload 4, 0, 0, 4, 0, 130),
  (130, .iconst 1, 1, 0, 0, 0, 131),
  (131, .iadd, 0, 0, 0, 0, 132),
  (132, .putfield 40, 0, 0, 1, 9, 135),
  (135, .iload 4, 0, 0, 4, 0, 137),
  (137, .ireturn, 0, 0, 0, 0, 138)]
abbrev v_M_addMultiplexer : List (Nat × Nat) := []
abbrev s_M_addMultiplexer : List (Nat × Nat) := [(58, 0)]
abbrev h_M_addMultiplexer : List (Nat × Nat) := []
abbrev w_M_addMultiplexer : List (Nat × List Nat) := []
abbrev x_M_addMultiplexer : List String := []
theorem k_M_addMultiplexer : t_M_addMultiplexer.all (cx_dec true prog_3_method_6_code (some (.int)) 5 g_M p_M l_M v_M_addMultiplexer s_M_addMultiplexer h_M_addMultiplexer w_M_addMultiplexer) = true := by decide +kernel
abbrev m_M_addMultiplexer : MethodName := ⟨"CycleCutter$Multiplexers", "addMultiplexer", "(III)I"⟩
-- calls of M_addMultiplexer: 0 = java/lang/Math.max(II)I
def t_M_follow : List (Nat × cx_E) := [(0, .aload_n 0, 0, 0, 0, 0, 1),
  (1, .getfield 11, 0, 0, 1, 0, 4),
  (4, .iload_n 1, 0, 0, 1, 0, 5),
  (5, .iaload, 0, 0, 0, 0, 6),
  (6, .iload_n 2, 0, 0, 2, 0, 7),
  (7, .invokestatic 64, 0, 0, 0, 0, 10),
  (10, .ifCond .eq 12, 0, 0, 22, 0, 13),
  (13, .aload_n 0, 0, 0, 0, 0, 14),
  (14, .getfield 18, 0, 0, 1, 2, 17),
  (17, .iload_n 1, 0, 0, 1, 0, 18),
  (18, .iaload, 0, 0, 0, 0, 19),
  (19, .goto 9, 0, 0, 28, 0, 22),
  (22, .aload_n 0, 0, 0, 0, 0, 23),
  (23, .getfield 15, 0, 0, 1, 1, 26),
  (26, .iload_n 1, 0, 0, 1, 0, 27),
  (27, .iaload, 0, 0, 0, 0, 28),
  (28, .ireturn, 0, 0, 0, 0, 29)]
abbrev v_M_follow : List (Nat × Nat) := []
abbrev s_M_follow : List (Nat × Nat) := [(64, 0)]
abbrev h_M_follow : List (Nat × Nat) := []
abbrev w_M_follow : List (Nat × List Nat) := []
abbrev x_M_follow : List String := []
theorem k_M_follow : t_M_follow.all (cx_dec true prog_3_method_7_code (some (.int)) 3 g_M p_M l_M v_M_follow s_M_follow h_M_follow w_M_follow) = true := by decide +kernel
abbrev m_M_follow : MethodName := ⟨"CycleCutter$Multiplexers", "follow", "(II)I"⟩
-- calls of M_follow: 0 = CycleCutter.isInputSet(II)Z
def t_M_isOneOn : List (Nat × cx_E) := [(0, .iload_n 1, 0, 0, 1, 0, 1),
  (1, .istore_n 3, 0, 0, 3, 0, 2),
  (2, .iconst 0, 0, 0, 0, 0, 3),
  (3, .istore 4, 0, 0, 4, 0, 5),
  (5, .iload 4, 0, 0, 4, 0, 7),
  (7, .bipush 8, 8, 0, 0, 0, 9),
  (9, .if_icmp .ge 21, 0, 0, 30, 0, 12),
  (12, .iload_n 3, 0, 0, 3, 0, 13),
  (13, .iconst 2, 2, 0, 0, 0, 14),
  (14, .if_icmp .lt 16, 0, 0, 30, 0, 17),
  (17, .aload_n 0, 0, 0, 0, 0, 18),
  (18, .iload_n 3, 0, 0, 3, 0, 19),
  (19, .iload_n 2, 0, 0, 2, 0, 20),
  (20, .invokevirtual 68, 0, 0, 0, 0, 23),
  (23, .istore_n 3, 0, 0, 3, 0, 24),
  (24, .iinc 4 1, 1, 0, 4, 0, 27),
  (27, .goto (-22), 0, 0, 5, 0, 30),
  (30, .iload_n 3, 0, 0, 3, 0, 31),
  (31, .iconst 1, 1, 0, 0, 0, 32),
  (32, .if_icmp .ne 7, 0, 0, 39, 0, 35),
  (35, .iconst 1, 1, 0, 0, 0, 36),
  (36, .goto 4, 0, 0, 40, 0, 39),
  (39, .iconst 0, 0, 0, 0, 0, 40),
  (40, .ireturn, 1, 0, 0, 0, 41)]
abbrev v_M_isOneOn : List (Nat × Nat) := [(68, 0)]
abbrev s_M_isOneOn : List (Nat × Nat) := []
abbrev h_M_isOneOn : List (Nat × Nat) := []
abbrev w_M_isOneOn : List (Nat × List Nat) := []
abbrev x_M_isOneOn : List String := []
theorem k_M_isOneOn : t_M_isOneOn.all (cx_dec true prog_3_method_8_code (some (.boolean)) 5 g_M p_M l_M v_M_isOneOn s_M_isOneOn h_M_isOneOn w_M_isOneOn) = true := by decide +kernel
abbrev m_M_isOneOn : MethodName := ⟨"CycleCutter$Multiplexers", "isOneOn", "(II)Z"⟩
-- calls of M_isOneOn: 0 = CycleCutter$Multiplexers.follow(II)I
def t_M_stepsOn : List (Nat × cx_E) := [(0, .iload_n 1, 0, 0, 1, 0, 1),
  (1, .istore_n 3, 0, 0, 3, 0, 2),
  (2, .iconst 0, 0, 0, 0, 0, 3),
  (3, .istore 4, 0, 0, 4, 0, 5),
  (5, .iload 4, 0, 0, 4, 0, 7),
  (7, .bipush 8, 8, 0, 0, 0, 9),
  (9, .if_icmp .ge 21, 0, 0, 30, 0, 12),
  (12, .iload_n 3, 0, 0, 3, 0, 13),
  (13, .iconst 2, 2, 0, 0, 0, 14),
  (14, .if_icmp .lt 16, 0, 0, 30, 0, 17),
  (17, .aload_n 0, 0, 0, 0, 0, 18),
  (18, .iload_n 3, 0, 0, 3, 0, 19),
  (19, .iload_n 2, 0, 0, 2, 0, 20),
  (20, .invokevirtual 68, 0, 0, 0, 0, 23),
  (23, .istore_n 3, 0, 0, 3, 0, 24),
  (24, .iinc 4 1, 1, 0, 4, 0, 27),
  (27, .goto (-22), 0, 0, 5, 0, 30),
  (30, .iload 4, 0, 0, 4, 0, 32),
  (32, .ireturn, 0, 0, 0, 0, 33)]
abbrev v_M_stepsOn : List (Nat × Nat) := [(68, 0)]
abbrev s_M_stepsOn : List (Nat × Nat) := []
abbrev h_M_stepsOn : List (Nat × Nat) := []
abbrev w_M_stepsOn : List (Nat × List Nat) := []
abbrev x_M_stepsOn : List String := []
theorem k_M_stepsOn : t_M_stepsOn.all (cx_dec true prog_3_method_9_code (some (.int)) 5 g_M p_M l_M v_M_stepsOn s_M_stepsOn h_M_stepsOn w_M_stepsOn) = true := by decide +kernel
abbrev m_M_stepsOn : MethodName := ⟨"CycleCutter$Multiplexers", "stepsOn", "(II)I"⟩
-- calls of M_stepsOn: 0 = CycleCutter$Multiplexers.follow(II)I
def t_M_totalBelow : List (Nat × cx_E) := [(0, .iconst 0, 0, 0, 0, 0, 1),
  (1, .istore_n 2, 0, 0, 2, 0, 2),
  (2, .iload_n 2, 0, 0, 2, 0, 3),
  (3, .iload_n 1, 0, 0, 1, 0, 4),
  (4, .if_icmp .gt 16, 0, 0, 20, 0, 7),
  (7, .aload_n 0, 0, 0, 0, 0, 8),
  (8, .getfield 30, 0, 0, 1, 6, 11),
  (11, .iload_n 2, 0, 0, 2, 0, 12),
  (12, .iconst 0, 0, 0, 0, 0, 13),
  (13, .bastore, 0, 0, 0, 0, 14),
  (14, .iinc 2 1, 1, 0, 2, 0, 17),
  (17, .goto (-15), 0, 0, 2, 0, 20),
  (20, .aload_n 0, 0, 0, 0, 0, 21),
  (21, .getfield 30, 0, 0, 1, 6, 24),
  (24, .iload_n 1, 0, 0, 1, 0, 25),
  (25, .iconst 1, 1, 0, 0, 0, 26),
  (26, .bastore, 0, 0, 0, 0, 27),
  (27, .iconst 0, 0, 0, 0, 0, 28),
  (28, .istore_n 2, 0, 0, 2, 0, 29),
  (29, .iload_n 1, 0, 0, 1, 0, 30),
  (30, .istore_n 3, 0, 0, 3, 0, 31),
  (31, .iload_n 3, 0, 0, 3, 0, 32),
  (32, .iconst 2, 2, 0, 0, 0, 33),
  (33, .if_icmp .lt 45, 0, 0, 78, 0, 36),
  (36, .aload_n 0, 0, 0, 0, 0, 37),
  (37, .getfield 30, 0, 0, 1, 6, 40),
  (40, .iload_n 3, 0, 0, 3, 0, 41),
  (41, .baload, 0, 0, 0, 0, 42),
  (42, .ifCond .eq 30, 0, 0, 72, 0, 45),
  (45, .iinc 2 1, 1, 0, 2, 0, 48),
  (48, .aload_n 0, 0, 0, 0, 0, 49),
  (49, .getfield 30, 0, 0, 1, 6, 52),
  (52, .aload_n 0, 0, 0, 0, 0, 53),
  (53, .getfield 15, 0, 0, 1, 1, 56),
  (56, .iload_n 3, 0, 0, 3, 0, 57),
  (57, .iaload, 0, 0, 0, 0, 58),
  (58, .iconst 1, 1, 0, 0, 0, 59),
  (59, .bastore, 0, 0, 0, 0, 60),
  (60, .aload_n 0, 0, 0, 0, 0, 61),
  (61, .getfield 30, 0, 0, 1, 6, 64),
  (64, .aload_n 0, 0, 0, 0, 0, 65),
  (65, .getfield 18, 0, 0, 1, 2, 68),
  (68, .iload_n 3, 0, 0, 3, 0, 69),
  (69, .iaload, 0, 0, 0, 0, 70),
  (70, .iconst 1, 1, 0, 0, 0, 71),
  (71, .bastore, 0, 0, 0, 0, 72),
  (72, .iinc 3 (-1), (-1), 0, 3, 0, 75),
  (75, .goto (-44), 0, 0, 31, 0, 78),
  (78, .iload_n 2, 0, 0, 2, 0, 79),
  (79, .ireturn, 0, 0, 0, 0, 80)]
abbrev v_M_totalBelow : List (Nat × Nat) := []
abbrev s_M_totalBelow : List (Nat × Nat) := []
abbrev h_M_totalBelow : List (Nat × Nat) := []
abbrev w_M_totalBelow : List (Nat × List Nat) := []
abbrev x_M_totalBelow : List String := []
theorem k_M_totalBelow : t_M_totalBelow.all (cx_dec true prog_3_method_10_code (some (.int)) 4 g_M p_M l_M v_M_totalBelow s_M_totalBelow h_M_totalBelow w_M_totalBelow) = true := by decide +kernel
abbrev m_M_totalBelow : MethodName := ⟨"CycleCutter$Multiplexers", "totalBelow", "(I)I"⟩
-- calls of M_totalBelow: 
def t_N_dropAll : List (Nat × cx_E) := [(0, .aload_n 0, 0, 0, 0, 0, 1),
  (1, .iconst 0, 0, 0, 0, 0, 2),
  (2, .putfield 39, 0, 0, 2, 8, 5),
  (5, .aload_n 0, 0, 0, 0, 0, 6),
  (6, .iconst 0, 0, 0, 0, 0, 7),
  (7, .putfield 43, 0, 0, 2, 9, 10),
  (10, .aload_n 0, 0, 0, 0, 0, 11),
  (11, .iconst 0, 0, 0, 0, 0, 12),
  (12, .putfield 46, 0, 0, 2, 10, 15),
  (15, .aload_n 0, 0, 0, 0, 0, 16),
  (16, .iconst 0, 0, 0, 0, 0, 17),
  (17, .putfield 49, 1, 0, 2, 11, 20),
  (20, .return_, 0, 0, 0, 0, 21)]
abbrev v_N_dropAll : List (Nat × Nat) := []
abbrev s_N_dropAll : List (Nat × Nat) := []
abbrev h_N_dropAll : List (Nat × Nat) := []
abbrev w_N_dropAll : List (Nat × List Nat) := []
abbrev x_N_dropAll : List String := []
theorem k_N_dropAll : t_N_dropAll.all (cx_dec true prog_4_method_2_code none 1 g_N p_N l_N v_N_dropAll s_N_dropAll h_N_dropAll w_N_dropAll) = true := by decide +kernel
abbrev m_N_dropAll : MethodName := ⟨"CycleCutter$Net", "dropAll", "()V"⟩
-- calls of N_dropAll: 
def t_N_hasGate : List (Nat × cx_E) := [(0, .iload_n 1, 0, 0, 1, 0, 1),
  (1, .ifCond .lt 15, 0, 0, 16, 0, 4),
  (4, .iload_n 1, 0, 0, 1, 0, 5),
  (5, .aload_n 0, 0, 0, 0, 0, 6),
  (6, .getfield 39, 0, 0, 2, 8, 9),
  (9, .if_icmp .ge 7, 0, 0, 16, 0, 12),
  (12, .iconst 1, 1, 0, 0, 0, 13),
  (13, .goto 4, 0, 0, 17, 0, 16),
  (16, .iconst 0, 0, 0, 0, 0, 17),
  (17, .ireturn, 1, 0, 0, 0, 18)]
abbrev v_N_hasGate : List (Nat × Nat) := []
abbrev s_N_hasGate : List (Nat × Nat) := []
abbrev h_N_hasGate : List (Nat × Nat) := []
abbrev w_N_hasGate : List (Nat × List Nat) := []
abbrev x_N_hasGate : List String := []
theorem k_N_hasGate : t_N_hasGate.all (cx_dec true prog_4_method_3_code (some (.boolean)) 2 g_N p_N l_N v_N_hasGate s_N_hasGate h_N_hasGate w_N_hasGate) = true := by decide +kernel
abbrev m_N_hasGate : MethodName := ⟨"CycleCutter$Net", "hasGate", "(I)Z"⟩
-- calls of N_hasGate: 
def t_N_isInput : List (Nat × cx_E) := [(0, .aload_n 0, 0, 0, 0, 0, 1),
  (1, .getfield 9, 0, 0, 2, 0, 4),
  (4, .iload_n 1, 0, 0, 1, 0, 5),
  (5, .iaload, 0, 0, 0, 0, 6),
  (6, .ifCond .ne 7, 0, 0, 13, 0, 9),
  (9, .iconst 1, 1, 0, 0, 0, 10),
  (10, .goto 4, 0, 0, 14, 0, 13),
  (13, .iconst 0, 0, 0, 0, 0, 14),
  (14, .ireturn, 1, 0, 0, 0, 15)]
abbrev v_N_isInput : List (Nat × Nat) := []
abbrev s_N_isInput : List (Nat × Nat) := []
abbrev h_N_isInput : List (Nat × Nat) := []
abbrev w_N_isInput : List (Nat × List Nat) := []
abbrev x_N_isInput : List String := []
theorem k_N_isInput : t_N_isInput.all (cx_dec true prog_4_method_4_code (some (.boolean)) 2 g_N p_N l_N v_N_isInput s_N_isInput h_N_isInput w_N_isInput) = true := by decide +kernel
abbrev m_N_isInput : MethodName := ⟨"CycleCutter$Net", "isInput", "(I)Z"⟩
-- calls of N_isInput: 
def t_N_addGate : List (Nat × cx_E) := [(0, .aload_n 0, 0, 0, 0, 0, 1),
  (1, .getfield 39, 0, 0, 2, 8, 4),
  (4, .bipush 120, 120, 0, 0, 0, 6),
  (6, .if_icmp .ge 16, 0, 0, 22, 0, 9),
  (9, .iload_n 1, 0, 0, 1, 0, 10),
  (10, .ifCond .ne 14, 0, 0, 24, 0, 13),
  (13, .aload_n 0, 0, 0, 0, 0, 14),
  (14, .getfield 46, 0, 0, 2, 10, 17),
  (17, .bipush 8, 8, 0, 0, 0, 19),
  (19, .if_icmp .lt 5, 0, 0, 24, 0, 22),
  (22, .iconst (-1), (-1), 0, 0, 0, 23),
  (23, .ireturn, 0, 0, 0, 0, 24),
  (24, .aload_n 0, 0, 0, 0, 0, 25),
  (25, .getfield 39, 0, 0, 2, 8, 28),
  (28, .istore_n 2, 0, 0, 2, 0, 29),
  (29, .aload_n 0, 0, 0, 0, 0, 30),
  (30, .getfield 9, 0, 0, 2, 0, 33),
  (33, .iload_n 2, 0, 0, 2, 0, 34),
  (34, .iload_n 1, 0, 0, 1, 0, 35),
  (35, .iastore, 0, 0, 0, 0, 36),
  (36, .aload_n 0, 0, 0, 0, 0, 37),
  (37, .getfield 15, 0, 0, 2, 1, 40),
  (40, .iload_n 2, 0, 0, 2, 0, 41),
  (41, .iconst (-1), (-1), 0, 0, 0, 42),
  (42, .iastore, 0, 0, 0, 0, 43),
  (43, .aload_n 0, 0, 0, 0, 0, 44),
  (44, .getfield 18, 0, 0, 2, 2, 47),
  (47, .iload_n 2, 0, 0, 2, 0, 48),
  (48, .iconst 0, 0, 0, 0, 0, 49),
  (49, .iastore, 0, 0, 0, 0, 50),
  (50, .aload_n 0, 0, 0, 0, 0, 51),
  (51, .iload_n 2, 0, 0, 2, 0, 52),
  (52, .iconst 1, 1, 0, 0, 0, 53),
  (53, .iadd, 0, 0, 0, 0, 54),
  (54, .putfield 39, 0, 0, 2, 8, 57),
  (57, .aload_n 0, 0, 0, 0, 0, 58),
  (58, .iconst 0, 0, 0, 0, 0, 59),
  (59, .putfield 49, 1, 0, 2, 11, 62),
  (62, .iload_n 1, 0, 0, 1, 0, 63),
  (63, .ifCond .ne 22, 0, 0, 85, 0, 66),
  (66, .aload_n 0, 0, 0, 0, 0, 67),
  (67, .iload_n 2, 0, 0, 2, 0, 68),
  (68, .aload_n 0, 0, 0, 0, 0, 69),
  (69, .getfield 46, 0, 0, 2, 10, 72),
  (72, .invokevirtual 53, 0, 0, 0, 0, 75),
  (75, .aload_n 0, 0, 0, 0, 0, 76),
  (76, .aload_n 0, 0, 0, 0, 0, 77),
  (77, .getfield 46, 0, 0, 2, 10, 80),
  (80, .iconst 1, 1, 0, 0, 0, 81),
  (81, .iadd, 0, 0, 0, 0, 82),
  (82, .putfield 46, 0, 0, 2, 10, 85),
  (85, .iload_n 2, 0, 0, 2, 0, 86),
  (86, .ireturn, 0, 0, 0, 0, 87)]
abbrev v_N_addGate : List (Nat × Nat) := [(53, 0)]
abbrev s_N_addGate : List (Nat × Nat) := []
abbrev h_N_addGate : List (Nat × Nat) := []
abbrev w_N_addGate : List (Nat × List Nat) := []
abbrev x_N_addGate : List String := []
theorem k_N_addGate : t_N_addGate.all (cx_dec true prog_4_method_5_code (some (.int)) 3 g_N p_N l_N v_N_addGate s_N_addGate h_N_addGate w_N_addGate) = true := by decide +kernel
abbrev m_N_addGate : MethodName := ⟨"CycleCutter$Net", "addGate", "(I)I"⟩
-- calls of N_addGate: 0 = CycleCutter$Net.fixInput(II)V
def t_N_fixInput : List (Nat × cx_E) := [(0, .iconst 0, 0, 0, 0, 0, 1),
  (1, .istore_n 3, 0, 0, 3, 0, 2),
  (2, .iload_n 3, 0, 0, 3, 0, 3),
  (3, .iconst 4, 4, 0, 0, 0, 4),
  (4, .if_icmp .ge 75, 0, 0, 79, 0, 7),
  (7, .lconst 0, 0, 0, 0, 0, 8),
  (8, .lstore 4, 0, 0, 4, 0, 10),
  (10, .iconst 0, 0, 0, 0, 0, 11),
  (11, .istore 6, 0, 0, 6, 0, 13),
  (13, .iload 6, 0, 0, 6, 0, 15),
  (15, .bipush 64, 64, 0, 0, 0, 17),
  (17, .if_icmp .ge 32, 0, 0, 49, 0, 20),
  (20, .iload_n 2, 0, 0, 2, 0, 21),
  (21, .iload_n 3, 0, 0, 3, 0, 22),
  (22, .bipush 64, 64, 0, 0, 0, 24),
  (24, .imul, 0, 0, 0, 0, 25),
  (25, .iload 6, 0, 0, 6, 0, 27),
  (27, .iadd, 0, 0, 0, 0, 28),
  (28, .invokestatic 57, 0, 0, 0, 0, 31),
  (31, .ifCond .eq 12, 0, 0, 43, 0, 34),
  (34, .lload 4, 0, 0, 4, 0, 36),
  (36, .lconst 1, 0, 1, 0, 0, 37),
  (37, .iload 6, 0, 0, 6, 0, 39),
  (39, .lshl, 0, 0, 0, 0, 40),
  (40, .lor, 0, 0, 0, 0, 41),
  (41, .lstore 4, 0, 0, 4, 0, 43),
  (43, .iinc 6 1, 1, 0, 6, 0, 46),
  (46, .goto (-33), 0, 0, 13, 0, 49),
  (49, .aload_n 0, 0, 0, 0, 0, 50),
  (50, .getfield 33, 0, 0, 2, 6, 53),
  (53, .iload_n 1, 0, 0, 1, 0, 54),
  (54, .aaload, 0, 0, 0, 0, 55),
  (55, .iload_n 3, 0, 0, 3, 0, 56),
  (56, .lload 4, 0, 0, 4, 0, 58),
  (58, .lastore, 0, 0, 0, 0, 59),
  (59, .aload_n 0, 0, 0, 0, 0, 60),
  (60, .getfield 36, 0, 0, 2, 7, 63),
  (63, .iload_n 1, 0, 0, 1, 0, 64),
  (64, .aaload, 0, 0, 0, 0, 65),
  (65, .iload_n 3, 0, 0, 3, 0, 66),
  (66, .lload 4, 0, 0, 4, 0, 68),
  (68, .ldc2_w 61, 0, (-1), 0, 0, 71),
  (71, .lxor, 0, 0, 0, 0, 72),
  (72, .lastore, 0, 0, 0, 0, 73),
  (73, .iinc 3 1, 1, 0, 3, 0, 76),
  (76, .goto (-74), 0, 0, 2, 0, 79),
  (79, .return_, 0, 0, 0, 0, 80)]
abbrev v_N_fixInput : List (Nat × Nat) := []
abbrev s_N_fixInput : List (Nat × Nat) := [(57, 0)]
abbrev h_N_fixInput : List (Nat × Nat) := []
abbrev w_N_fixInput : List (Nat × List Nat) := []
abbrev x_N_fixInput : List String := []
theorem k_N_fixInput : t_N_fixInput.all (cx_dec true prog_4_method_6_code none 7 g_N p_N l_N v_N_fixInput s_N_fixInput h_N_fixInput w_N_fixInput) = true := by decide +kernel
abbrev m_N_fixInput : MethodName := ⟨"CycleCutter$Net", "fixInput", "(II)V"⟩
-- calls of N_fixInput: 0 = CycleCutter.isInputSet(II)Z
def t_N_addFeed : List (Nat × cx_E) := [(0, .aload_n 0, 0, 0, 0, 0, 1),
  (1, .getfield 43, 0, 0, 2, 9, 4),
  (4, .sipush 500, 500, 0, 0, 0, 7),
  (7, .if_icmp .lt 5, 0, 0, 12, 0, 10),
  (10, .iconst (-1), (-1), 0, 0, 0, 11),
  (11, .ireturn, 0, 0, 0, 0, 12),
  (12, .aload_n 0, 0, 0, 0, 0, 13),
  (13, .getfield 43, 0, 0, 2, 9, 16),
  (16, .istore 4, 0, 0, 4, 0, 18),
  (18, .aload_n 0, 0, 0, 0, 0, 19),
  (19, .getfield 21, 0, 0, 2, 3, 22),
  (22, .iload 4, 0, 0, 4, 0, 24),
  (24, .iload_n 2, 0, 0, 2, 0, 25),
  (25, .iastore, 0, 0, 0, 0, 26),
  (26, .aload_n 0, 0, 0, 0, 0, 27),
  (27, .getfield 24, 0, 0, 2, 4, 30),
  (30, .iload 4, 0, 0, 4, 0, 32),
  (32, .iload_n 3, 0, 0, 3, 0, 33),
  (33, .bastore, 0, 0, 0, 0, 34),
  (34, .aload_n 0, 0, 0, 0, 0, 35),
  (35, .getfield 28, 0, 0, 2, 5, 38),
  (38, .iload 4, 0, 0, 4, 0, 40),
  (40, .aload_n 0, 0, 0, 0, 0, 41),
  (41, .getfield 15, 0, 0, 2, 1, 44),
  (44, .iload_n 1, 0, 0, 1, 0, 45),
  (45, .iaload, 0, 0, 0, 0, 46),
  (46, .iastore, 0, 0, 0, 0, 47),
  (47, .aload_n 0, 0, 0, 0, 0, 48),
  (48, .getfield 15, 0, 0, 2, 1, 51),
  (51, .iload_n 1, 0, 0, 1, 0, 52),
  (52, .iload 4, 0, 0, 4, 0, 54),
  (54, .iastore, 0, 0, 0, 0, 55),
  (55, .aload_n 0, 0, 0, 0, 0, 56),
  (56, .getfield 18, 0, 0, 2, 2, 59),
  (59, .iload_n 1, 0, 0, 1, 0, 60),
  (60, .aload_n 0, 0, 0, 0, 0, 61),
  (61, .getfield 18, 0, 0, 2, 2, 64),
  (64, .iload_n 1, 0, 0, 1, 0, 65),
  (65, .iaload, 0, 0, 0, 0, 66),
  (66, .iconst 1, 1, 0, 0, 0, 67),
  (67, .iadd, 0, 0, 0, 0, 68),
  (68, .iastore, 0, 0, 0, 0, 69),
  (69, .aload_n 0, 0, 0, 0, 0, 70),
  (70, .iload 4, 0, 0, 4, 0, 72),
  (72, .iconst 1, 1, 0, 0, 0, 73),
  (73, .iadd, 0, 0, 0, 0, 74),
  (74, .putfield 43, 0, 0, 2, 9, 77),
  (77, .aload_n 0, 0, 0, 0, 0, 78),
  (78, .iconst 0, 0, 0, 0, 0, 79),
  (79, .putfield 49, 1, 0, 2, 11, 82),
  (82, .aload_n 0, 0, 0, 0, 0, 83),
  (83, .getfield 18, 0, 0, 2, 2, 86),
  (86, .iload_n 1, 0, 0, 1, 0, 87),
  (87, .iaload, 0, 0, 0, 0, 88),
  (88, .ireturn, 0, 0, 0, 0, 89)]
abbrev v_N_addFeed : List (Nat × Nat) := []
abbrev s_N_addFeed : List (Nat × Nat) := []
abbrev h_N_addFeed : List (Nat × Nat) := []
abbrev w_N_addFeed : List (Nat × List Nat) := []
abbrev x_N_addFeed : List String := []
theorem k_N_addFeed : t_N_addFeed.all (cx_dec true prog_4_method_7_code (some (.int)) 5 g_N p_N l_N v_N_addFeed s_N_addFeed h_N_addFeed w_N_addFeed) = true := by decide +kernel
abbrev m_N_addFeed : MethodName := ⟨"CycleCutter$Net", "addFeed", "(IIZ)I"⟩
-- calls of N_addFeed: 
def t_N_highOf : List (Nat × cx_E) := [(0, .aload_n 0, 0, 0, 0, 0, 1),
  (1, .invokevirtual 63, 0, 0, 0, 0, 4),
  (4, .aload_n 0, 0, 0, 0, 0, 5),
  (5, .getfield 33, 0, 0, 2, 6, 8),
  (8, .iload_n 1, 0, 0, 1, 0, 9),
  (9, .aaload, 0, 0, 0, 0, 10),
  (10, .areturn, 0, 0, 0, 0, 11)]
abbrev v_N_highOf : List (Nat × Nat) := [(63, 0)]
abbrev s_N_highOf : List (Nat × Nat) := []
abbrev h_N_highOf : List (Nat × Nat) := []
abbrev w_N_highOf : List (Nat × List Nat) := []
abbrev x_N_highOf : List String := []
theorem k_N_highOf : t_N_highOf.all (cx_dec true prog_4_method_8_code (some (.array .long)) 2 g_N p_N l_N v_N_highOf s_N_highOf h_N_highOf w_N_highOf) = true := by decide +kernel
abbrev m_N_highOf : MethodName := ⟨"CycleCutter$Net", "highOf", "(I)[J"⟩
-- calls of N_highOf: 0 = CycleCutter$Net.settle()V
def t_N_lowOf : List (Nat × cx_E) := [(0, .aload_n 0, 0, 0, 0, 0, 1),
  (1, .invokevirtual 63, 0, 0, 0, 0, 4),
  (4, .aload_n 0, 0, 0, 0, 0, 5),
  (5, .getfield 36, 0, 0, 2, 7, 8),
  (8, .iload_n 1, 0, 0, 1, 0, 9),
  (9, .aaload, 0, 0, 0, 0, 10),
  (10, .areturn, 0, 0, 0, 0, 11)]
abbrev v_N_lowOf : List (Nat × Nat) := [(63, 0)]
abbrev s_N_lowOf : List (Nat × Nat) := []
abbrev h_N_lowOf : List (Nat × Nat) := []
abbrev w_N_lowOf : List (Nat × List Nat) := []
abbrev x_N_lowOf : List String := []
theorem k_N_lowOf : t_N_lowOf.all (cx_dec true prog_4_method_9_code (some (.array .long)) 2 g_N p_N l_N v_N_lowOf s_N_lowOf h_N_lowOf w_N_lowOf) = true := by decide +kernel
abbrev m_N_lowOf : MethodName := ⟨"CycleCutter$Net", "lowOf", "(I)[J"⟩
-- calls of N_lowOf: 0 = CycleCutter$Net.settle()V
def t_N_valueOn : List (Nat × cx_E) := [(0, .aload_n 0, 0, 0, 0, 0, 1),
  (1, .invokevirtual 63, 0, 0, 0, 0, 4),
  (4, .aload_n 0, 0, 0, 0, 0, 5),
  (5, .getfield 33, 0, 0, 2, 6, 8),
  (8, .iload_n 1, 0, 0, 1, 0, 9),
  (9, .aaload, 0, 0, 0, 0, 10),
  (10, .iload_n 2, 0, 0, 2, 0, 11),
  (11, .invokestatic 66, 0, 0, 1, 0, 14),
  (14, .ifCond .eq 5, 0, 0, 19, 0, 17),
  (17, .iconst 1, 1, 0, 0, 0, 18),
  (18, .ireturn, 0, 0, 0, 0, 19),
  (19, .aload_n 0, 0, 0, 0, 0, 20),
  (20, .getfield 36, 0, 0, 2, 7, 23),
  (23, .iload_n 1, 0, 0, 1, 0, 24),
  (24, .aaload, 0, 0, 0, 0, 25),
  (25, .iload_n 2, 0, 0, 2, 0, 26),
  (26, .invokestatic 66, 0, 0, 1, 0, 29),
  (29, .ifCond .eq 7, 0, 0, 36, 0, 32),
  (32, .iconst 0, 0, 0, 0, 0, 33),
  (33, .goto 4, 0, 0, 37, 0, 36),
  (36, .iconst 2, 2, 0, 0, 0, 37),
  (37, .ireturn, 0, 0, 0, 0, 38)]
abbrev v_N_valueOn : List (Nat × Nat) := [(63, 0)]
abbrev s_N_valueOn : List (Nat × Nat) := [(66, 1)]
abbrev h_N_valueOn : List (Nat × Nat) := []
abbrev w_N_valueOn : List (Nat × List Nat) := []
abbrev x_N_valueOn : List String := []
theorem k_N_valueOn : t_N_valueOn.all (cx_dec true prog_4_method_10_code (some (.int)) 3 g_N p_N l_N v_N_valueOn s_N_valueOn h_N_valueOn w_N_valueOn) = true := by decide +kernel
abbrev m_N_valueOn : MethodName := ⟨"CycleCutter$Net", "valueOn", "(II)I"⟩
-- calls of N_valueOn: 0 = CycleCutter$Net.settle()V, 1 = CycleCutter.isMember([JI)Z
def t_N_settle : List (Nat × cx_E) := [(0, .aload_n 0, 0, 0, 0, 0, 1),
  (1, .getfield 49, 0, 0, 2, 11, 4),
  (4, .ifCond .eq 4, 0, 0, 8, 0, 7),
  (7, .return_, 0, 0, 0, 0, 8),
  (8, .iconst 0, 0, 0, 0, 0, 9),
  (9, .istore_n 1, 0, 0, 1, 0, 10),
  (10, .iload_n 1, 0, 0, 1, 0, 11),
  (11, .iconst 4, 4, 0, 0, 0, 12),
  (12, .if_icmp .ge 19, 0, 0, 31, 0, 15),
  (15, .aload_n 0, 0, 0, 0, 0, 16),
  (16, .iload_n 1, 0, 0, 1, 0, 17),
  (17, .invokevirtual 70, 0, 0, 0, 0, 20),
  (20, .aload_n 0, 0, 0, 0, 0, 21),
  (21, .iload_n 1, 0, 0, 1, 0, 22),
  (22, .invokevirtual 74, 0, 0, 1, 0, 25),
  (25, .iinc 1 1, 1, 0, 1, 0, 28),
  (28, .goto (-18), 0, 0, 10, 0, 31),
  (31, .aload_n 0, 0, 0, 0, 0, 32),
  (32, .iconst 1, 1, 0, 0, 0, 33),
  (33, .putfield 49, 1, 0, 2, 11, 36),
  (36, .return_, 0, 0, 0, 0, 37)]
abbrev v_N_settle : List (Nat × Nat) := [(70, 0), (74, 1)]
abbrev s_N_settle : List (Nat × Nat) := []
abbrev h_N_settle : List (Nat × Nat) := []
abbrev w_N_settle : List (Nat × List Nat) := []
abbrev x_N_settle : List String := []
theorem k_N_settle : t_N_settle.all (cx_dec true prog_4_method_11_code none 2 g_N p_N l_N v_N_settle s_N_settle h_N_settle w_N_settle) = true := by decide +kernel
abbrev m_N_settle : MethodName := ⟨"CycleCutter$Net", "settle", "()V"⟩
-- calls of N_settle: 0 = CycleCutter$Net.forgetWord(I)V, 1 = CycleCutter$Net.settleWord(I)V
def t_N_forgetWord : List (Nat × cx_E) := [(0, .iconst 0, 0, 0, 0, 0, 1),
  (1, .istore_n 2, 0, 0, 2, 0, 2),
  (2, .iload_n 2, 0, 0, 2, 0, 3),
  (3, .aload_n 0, 0, 0, 0, 0, 4),
  (4, .getfield 39, 0, 0, 2, 8, 7),
  (7, .if_icmp .ge 35, 0, 0, 42, 0, 10),
  (10, .aload_n 0, 0, 0, 0, 0, 11),
  (11, .iload_n 2, 0, 0, 2, 0, 12),
  (12, .invokevirtual 77, 0, 0, 0, 0, 15),
  (15, .ifCond .ne 21, 0, 0, 36, 0, 18),
  (18, .aload_n 0, 0, 0, 0, 0, 19),
  (19, .getfield 33, 0, 0, 2, 6, 22),
  (22, .iload_n 2, 0, 0, 2, 0, 23),
  (23, .aaload, 0, 0, 0, 0, 24),
  (24, .iload_n 1, 0, 0, 1, 0, 25),
  (25, .lconst 0, 0, 0, 0, 0, 26),
  (26, .lastore, 0, 0, 0, 0, 27),
  (27, .aload_n 0, 0, 0, 0, 0, 28),
  (28, .getfield 36, 0, 0, 2, 7, 31),
  (31, .iload_n 2, 0, 0, 2, 0, 32),
  (32, .aaload, 0, 0, 0, 0, 33),
  (33, .iload_n 1, 0, 0, 1, 0, 34),
  (34, .lconst 0, 0, 0, 0, 0, 35),
  (35, .lastore, 0, 0, 0, 0, 36),
  (36, .iinc 2 1, 1, 0, 2, 0, 39),
  (39, .goto (-37), 0, 0, 2, 0, 42),
  (42, .return_, 0, 0, 0, 0, 43)]
abbrev v_N_forgetWord : List (Nat × Nat) := [(77, 0)]
abbrev s_N_forgetWord : List (Nat × Nat) := []
abbrev h_N_forgetWord : List (Nat × Nat) := []
abbrev w_N_forgetWord : List (Nat × List Nat) := []
abbrev x_N_forgetWord : List String := []
theorem k_N_forgetWord : t_N_forgetWord.all (cx_dec true prog_4_method_12_code none 3 g_N p_N l_N v_N_forgetWord s_N_forgetWord h_N_forgetWord w_N_forgetWord) = true := by decide +kernel
abbrev m_N_forgetWord : MethodName := ⟨"CycleCutter$Net", "forgetWord", "(I)V"⟩
-- calls of N_forgetWord: 0 = CycleCutter$Net.isInput(I)Z
def t_N_settleWord : List (Nat × cx_E) := [(0, .iconst 1, 1, 0, 0, 0, 1),
  (1, .istore_n 2, 0, 0, 2, 0, 2),
  (2, .iconst 0, 0, 0, 0, 0, 3),
  (3, .istore_n 3, 0, 0, 3, 0, 4),
  (4, .iload_n 2, 0, 0, 2, 0, 5),
  (5, .ifCond .eq 58, 0, 0, 63, 0, 8),
  (8, .iload_n 3, 0, 0, 3, 0, 9),
  (9, .aload_n 0, 0, 0, 0, 0, 10),
  (10, .getfield 39, 0, 0, 2, 8, 13),
  (13, .if_icmp .gt 50, 0, 0, 63, 0, 16),
  (16, .iconst 0, 0, 0, 0, 0, 17),
  (17, .istore_n 2, 0, 0, 2, 0, 18),
  (18, .iconst 0, 0, 0, 0, 0, 19),
  (19, .istore 4, 0, 0, 4, 0, 21),
  (21, .iload 4, 0, 0, 4, 0, 23),
  (23, .aload_n 0, 0, 0, 0, 0, 24),
  (24, .getfield 39, 0, 0, 2, 8, 27),
  (27, .if_icmp .ge 30, 0, 0, 57, 0, 30),
  (30, .aload_n 0, 0, 0, 0, 0, 31),
  (31, .iload 4, 0, 0, 4, 0, 33),
  (33, .invokevirtual 77, 0, 0, 0, 0, 36),
  (36, .ifCond .ne 15, 0, 0, 51, 0, 39),
  (39, .aload_n 0, 0, 0, 0, 0, 40),
  (40, .iload 4, 0, 0, 4, 0, 42),
  (42, .iload_n 1, 0, 0, 1, 0, 43),
  (43, .invokevirtual 81, 0, 0, 1, 0, 46),
  (46, .ifCond .eq 5, 0, 0, 51, 0, 49),
  (49, .iconst 1, 1, 0, 0, 0, 50),
  (50, .istore_n 2, 0, 0, 2, 0, 51),
  (51, .iinc 4 1, 1, 0, 4, 0, 54),
  (54, .goto (-33), 0, 0, 21, 0, 57),
  (57, .iinc 3 1, 1, 0, 3, 0, 60),
  (60, .goto (-56), 0, 0, 4, 0, 63),
  (63, .return_, 0, 0, 0, 0, 64)]
abbrev v_N_settleWord : List (Nat × Nat) := [(77, 0), (81, 1)]
abbrev s_N_settleWord : List (Nat × Nat) := []
abbrev h_N_settleWord : List (Nat × Nat) := []
abbrev w_N_settleWord : List (Nat × List Nat) := []
abbrev x_N_settleWord : List String := []
theorem k_N_settleWord : t_N_settleWord.all (cx_dec true prog_4_method_13_code none 5 g_N p_N l_N v_N_settleWord s_N_settleWord h_N_settleWord w_N_settleWord) = true := by decide +kernel
abbrev m_N_settleWord : MethodName := ⟨"CycleCutter$Net", "settleWord", "(I)V"⟩
-- calls of N_settleWord: 0 = CycleCutter$Net.isInput(I)Z, 1 = CycleCutter$Net.settleGate(II)Z
def t_N_settleGate : List (Nat × cx_E) := [(0, .aload_n 0, 0, 0, 0, 0, 1),
  (1, .getfield 9, 0, 0, 2, 0, 4),
  (4, .iload_n 1, 0, 0, 1, 0, 5),
  (5, .iaload, 0, 0, 0, 0, 6),
  (6, .iconst 3, 3, 0, 0, 0, 7),
  (7, .if_icmp .ne 7, 0, 0, 14, 0, 10),
  (10, .iconst 1, 1, 0, 0, 0, 11),
  (11, .goto 4, 0, 0, 15, 0, 14),
  (14, .iconst 0, 0, 0, 0, 0, 15),
  (15, .istore_n 3, 0, 0, 3, 0, 16),
  (16, .ldc2_w 61, 0, (-1), 0, 0, 19),
  (19, .lstore 4, 0, 0, 4, 0, 21),
  (21, .lconst 0, 0, 0, 0, 0, 22),
  (22, .lstore 6, 0, 0, 6, 0, 24),
  (24, .aload_n 0, 0, 0, 0, 0, 25),
  (25, .getfield 15, 0, 0, 2, 1, 28),
  (28, .iload_n 1, 0, 0, 1, 0, 29),
  (29, .iaload, 0, 0, 0, 0, 30),
  (30, .istore 8, 0, 0, 8, 0, 32),
  (32, .iconst 0, 0, 0, 0, 0, 33),
  (33, .istore 9, 0, 0, 9, 0, 35),
  (35, .iload 9, 0, 0, 9, 0, 37),
  (37, .aload_n 0, 0, 0, 0, 0, 38),
  (38, .getfield 43, 0, 0, 2, 9, 41),
  (41, .if_icmp .ge 113, 0, 0, 154, 0, 44),
  (44, .iload 8, 0, 0, 8, 0, 46),
  (46, .iconst (-1), (-1), 0, 0, 0, 47),
  (47, .if_icmp .eq 107, 0, 0, 154, 0, 50),
  (50, .aload_n 0, 0, 0, 0, 0, 51),
  (51, .getfield 21, 0, 0, 2, 3, 54),
  (54, .iload 8, 0, 0, 8, 0, 56),
  (56, .iaload, 0, 0, 0, 0, 57),
  (57, .istore 10, 0, 0, 10, 0, 59),
  (59, .aload_n 0, 0, 0, 0, 0, 60),
  (60, .getfield 24, 0, 0, 2, 4, 63),
  (63, .iload 8, 0, 0, 8, 0, 65),
  (65, .baload, 0, 0, 0, 0, 66),
  (66, .iload_n 3, 0, 0, 3, 0, 67),
  (67, .if_icmp .eq 7, 0, 0, 74, 0, 70),
  (70, .iconst 1, 1, 0, 0, 0, 71),
  (71, .goto 4, 0, 0, 75, 0, 74),
  (74, .iconst 0, 0, 0, 0, 0, 75),
  (75, .istore 11, 0, 0, 11, 0, 77),
  (77, .lload 4, 0, 0, 4, 0, 79),
  (79, .iload 11, 0, 0, 11, 0, 81),
  (81, .ifCond .eq 15, 0, 0, 96, 0, 84),
  (84, .aload_n 0, 0, 0, 0, 0, 85),
  (85, .getfield 36, 0, 0, 2, 7, 88),
  (88, .iload 10, 0, 0, 10, 0, 90),
  (90, .aaload, 0, 0, 0, 0, 91),
  (91, .iload_n 2, 0, 0, 2, 0, 92),
  (92, .laload, 0, 0, 0, 0, 93),
  (93, .goto 12, 0, 0, 105, 0, 96),
  (96, .aload_n 0, 0, 0, 0, 0, 97),
  (97, .getfield 33, 0, 0, 2, 6, 100),
  (100, .iload 10, 0, 0, 10, 0, 102),
  (102, .aaload, 0, 0, 0, 0, 103),
  (103, .iload_n 2, 0, 0, 2, 0, 104),
  (104, .laload, 0, 0, 0, 0, 105),
  (105, .land, 0, 0, 0, 0, 106),
  (106, .lstore 4, 0, 0, 4, 0, 108),
  (108, .lload 6, 0, 0, 6, 0, 110),
  (110, .iload 11, 0, 0, 11, 0, 112),
  (112, .ifCond .eq 15, 0, 0, 127, 0, 115),
  (115, .aload_n 0, 0, 0, 0, 0, 116),
  (116, .getfield 33, 0, 0, 2, 6, 119),
  (119, .iload 10, 0, 0, 10, 0, 121),
  (121, .aaload, 0, 0, 0, 0, 122),
  (122, .iload_n 2, 0, 0, 2, 0, 123),
  (123, .laload, 0, 0, 0, 0, 124),
  (124, .goto 12, 0, 0, 136, 0, 127),
  (127, .aload_n 0, 0, 0, 0, 0, 128),
  (128, .getfield 36, 0, 0, 2, 7, 131),
  (131, .iload 10, 0, 0, 10, 0, 133),
  (133, .aaload, 0, 0, 0, 0, 134),
  (134, .iload_n 2, 0, 0, 2, 0, 135),
  (135, .laload, 0, 0, 0, 0, 136),
  (136, .lor, 0, 0, 0, 0, 137),
  (137, .lstore 6, 0, 0, 6, 0, 139),
  (139, .aload_n 0, 0, 0, 0, 0, 140),
  (140, .getfield 28, 0, 0, 2, 5, 143),
  (143, .iload 8, 0, 0, 8, 0, 145),
  (145, .iaload, 0, 0, 0, 0, 146),
  (146, .istore 8, 0, 0, 8, 0, 148),
  (148, .iinc 9 1, 1, 0, 9, 0, 151),
  (151, .goto (-116), 0, 0, 35, 0, 154),
  (154, .iload_n 3, 0, 0, 3, 0, 155),
  (155, .ifCond .eq 8, 0, 0, 163, 0, 158),
  (158, .lload 6, 0, 0, 6, 0, 160),
  (160, .goto 5, 0, 0, 165, 0, 163),
  (163, .lload 4, 0, 0, 4, 0, 165),
  (165, .lstore 9, 0, 0, 9, 0, 167),
  (167, .iload_n 3, 0, 0, 3, 0, 168),
  (168, .ifCond .eq 8, 0, 0, 176, 0, 171),
  (171, .lload 4, 0, 0, 4, 0, 173),
  (173, .goto 5, 0, 0, 178, 0, 176),
  (176, .lload 6, 0, 0, 6, 0, 178),
  (178, .lstore 11, 0, 0, 11, 0, 180),
  (180, .lload 9, 0, 0, 9, 0, 182),
  (182, .aload_n 0, 0, 0, 0, 0, 183),
  (183, .getfield 33, 0, 0, 2, 6, 186),
  (186, .iload_n 1, 0, 0, 1, 0, 187),
  (187, .aaload, 0, 0, 0, 0, 188),
  (188, .iload_n 2, 0, 0, 2, 0, 189),
  (189, .laload, 0, 0, 0, 0, 190),
  (190, .lcmp, 0, 0, 0, 0, 191),
  (191, .ifCond .ne 17, 0, 0, 208, 0, 194),
  (194, .lload 11, 0, 0, 11, 0, 196),
  (196, .aload_n 0, 0, 0, 0, 0, 197),
  (197, .getfield 36, 0, 0, 2, 7, 200),
  (200, .iload_n 1, 0, 0, 1, 0, 201),
  (201, .aaload, 0, 0, 0, 0, 202),
  (202, .iload_n 2, 0, 0, 2, 0, 203),
  (203, .laload, 0, 0, 0, 0, 204),
  (204, .lcmp, 0, 0, 0, 0, 205),
  (205, .ifCond .eq 7, 0, 0, 212, 0, 208),
  (208, .iconst 1, 1, 0, 0, 0, 209),
  (209, .goto 4, 0, 0, 213, 0, 212),
  (212, .iconst 0, 0, 0, 0, 0, 213),
  (213, .istore 13, 0, 0, 13, 0, 215),
  (215, .aload_n 0, 0, 0, 0, 0, 216),
  (216, .getfield 33, 0, 0, 2, 6, 219),
  (219, .iload_n 1, 0, 0, 1, 0, 220),
  (220, .aaload, 0, 0, 0, 0, 221),
  (221, .iload_n 2, 0, 0, 2, 0, 222),
  (222, .lload 9, 0, 0, 9, 0, 224),
  (224, .lastore, 0, 0, 0, 0, 225),
  (225, .aload_n 0, 0, 0, 0, 0, 226),
  (226, .getfield 36, 0, 0, 2, 7, 229),
  (229, .iload_n 1, 0, 0, 1, 0, 230),
  (230, .aaload, 0, 0, 0, 0, 231),
  (231, .iload_n 2, 0, 0, 2, 0, 232),
  (232, .lload 11, 0, 0, 11, 0, 234),
  (234, .lastore, 0, 0, 0, 0, 235),
  (235, .iload 13, 0, 0, 13, 0, 237),
  (237, .ireturn, 1, 0, 0, 0, 238)]
abbrev v_N_settleGate : List (Nat × Nat) := []
abbrev s_N_settleGate : List (Nat × Nat) := []
abbrev h_N_settleGate : List (Nat × Nat) := []
abbrev w_N_settleGate : List (Nat × List Nat) := []
abbrev x_N_settleGate : List String := []
theorem k_N_settleGate : t_N_settleGate.all (cx_dec true prog_4_method_14_code (some (.boolean)) 14 g_N p_N l_N v_N_settleGate s_N_settleGate h_N_settleGate w_N_settleGate) = true := by decide +kernel
abbrev m_N_settleGate : MethodName := ⟨"CycleCutter$Net", "settleGate", "(II)Z"⟩
-- calls of N_settleGate: 
def t_C_gate : List (Nat × cx_E) := [(0, .iload_n 1, 0, 0, 1, 0, 1),
  (1, .ifCond .eq 23, 0, 0, 24, 0, 4),
  (4, .iload_n 1, 0, 0, 1, 0, 5),
  (5, .iconst 2, 2, 0, 0, 0, 6),
  (6, .if_icmp .eq 18, 0, 0, 24, 0, 9),
  (9, .iload_n 1, 0, 0, 1, 0, 10),
  (10, .iconst 3, 3, 0, 0, 0, 11),
  (11, .if_icmp .eq 13, 0, 0, 24, 0, 14),
  (14, .new 31, 0, 0, 0, 0, 17),
  (24, .aload_n 0, 0, 0, 0, 0, 25),
  (25, .getfield 12, 0, 0, 3, 0, 28),
  (28, .iload_n 1, 0, 0, 1, 0, 29),
  (29, .invokevirtual 38, 0, 0, 0, 0, 32),
  (32, .ireturn, 0, 0, 0, 0, 33)]
abbrev v_C_gate : List (Nat × Nat) := [(38, 0)]
abbrev s_C_gate : List (Nat × Nat) := []
abbrev h_C_gate : List (Nat × Nat) := [(14, 0)]
abbrev w_C_gate : List (Nat × List Nat) := []
abbrev x_C_gate : List String := ["java/lang/IllegalArgumentException"]
theorem k_C_gate : t_C_gate.all (cx_dec true prog_1_method_2_code (some (.int)) 2 g_C p_C l_C v_C_gate s_C_gate h_C_gate w_C_gate) = true := by decide +kernel
abbrev m_C_gate : MethodName := ⟨"CycleCutter", "gate", "(I)I"⟩
-- calls of C_gate: 0 = CycleCutter$Net.addGate(I)I
def t_C_feed : List (Nat × cx_E) := [(0, .aload_n 0, 0, 0, 0, 0, 1),
  (1, .getfield 12, 0, 0, 3, 0, 4),
  (4, .iload_n 1, 0, 0, 1, 0, 5),
  (5, .invokevirtual 42, 0, 0, 0, 0, 8),
  (8, .ifCond .eq 14, 0, 0, 22, 0, 11),
  (11, .aload_n 0, 0, 0, 0, 0, 12),
  (12, .getfield 12, 0, 0, 3, 0, 15),
  (15, .iload_n 2, 0, 0, 2, 0, 16),
  (16, .invokevirtual 42, 0, 0, 0, 0, 19),
  (19, .ifCond .ne 13, 0, 0, 32, 0, 22),
  (22, .new 46, 0, 0, 0, 0, 25),
  (32, .aload_n 0, 0, 0, 0, 0, 33),
  (33, .getfield 12, 0, 0, 3, 0, 36),
  (36, .iload_n 1, 0, 0, 1, 0, 37),
  (37, .invokevirtual 51, 0, 0, 1, 0, 40),
  (40, .ifCond .eq 13, 0, 0, 53, 0, 43),
  (43, .new 54, 0, 0, 1, 0, 46),
  (53, .aload_n 0, 0, 0, 0, 0, 54),
  (54, .getfield 12, 0, 0, 3, 0, 57),
  (57, .iload_n 1, 0, 0, 1, 0, 58),
  (58, .iload_n 2, 0, 0, 2, 0, 59),
  (59, .iload_n 3, 0, 0, 3, 0, 60),
  (60, .invokevirtual 59, 0, 0, 2, 0, 63),
  (63, .ireturn, 0, 0, 0, 0, 64)]
abbrev v_C_feed : List (Nat × Nat) := [(42, 0), (51, 1), (59, 2)]
abbrev s_C_feed : List (Nat × Nat) := []
abbrev h_C_feed : List (Nat × Nat) := [(22, 0), (43, 1)]
abbrev w_C_feed : List (Nat × List Nat) := []
abbrev x_C_feed : List String := ["java/lang/IndexOutOfBoundsException", "java/lang/IllegalStateException"]
theorem k_C_feed : t_C_feed.all (cx_dec true prog_1_method_3_code (some (.int)) 4 g_C p_C l_C v_C_feed s_C_feed h_C_feed w_C_feed) = true := by decide +kernel
abbrev m_C_feed : MethodName := ⟨"CycleCutter", "feed", "(IIZ)I"⟩
-- calls of C_feed: 0 = CycleCutter$Net.hasGate(I)Z, 1 = CycleCutter$Net.isInput(I)Z, 2 = CycleCutter$Net.addFeed(IIZ)I
def t_C_output : List (Nat × cx_E) := [(0, .aload_n 0, 0, 0, 0, 0, 1),
  (1, .getfield 12, 0, 0, 3, 0, 4),
  (4, .iload_n 1, 0, 0, 1, 0, 5),
  (5, .invokevirtual 42, 0, 0, 0, 0, 8),
  (8, .ifCond .ne 13, 0, 0, 21, 0, 11),
  (11, .new 46, 0, 0, 0, 0, 14),
  (21, .aload_n 0, 0, 0, 0, 0, 22),
  (22, .getfield 27, 0, 0, 3, 3, 25),
  (25, .bipush 10, 10, 0, 0, 0, 27),
  (27, .if_icmp .lt 5, 0, 0, 32, 0, 30),
  (30, .iconst (-1), (-1), 0, 0, 0, 31),
  (31, .ireturn, 0, 0, 0, 0, 32),
  (32, .aload_n 0, 0, 0, 0, 0, 33),
  (33, .getfield 27, 0, 0, 3, 3, 36),
  (36, .istore_n 2, 0, 0, 2, 0, 37),
  (37, .aload_n 0, 0, 0, 0, 0, 38),
  (38, .getfield 23, 0, 0, 3, 2, 41),
  (41, .iload_n 2, 0, 0, 2, 0, 42),
  (42, .iload_n 1, 0, 0, 1, 0, 43),
  (43, .iastore, 0, 0, 0, 0, 44),
  (44, .aload_n 0, 0, 0, 0, 0, 45),
  (45, .iload_n 2, 0, 0, 2, 0, 46),
  (46, .iconst 1, 1, 0, 0, 0, 47),
  (47, .iadd, 0, 0, 0, 0, 48),
  (48, .putfield 27, 0, 0, 3, 3, 51),
  (51, .iload_n 2, 0, 0, 2, 0, 52),
  (52, .ireturn, 0, 0, 0, 0, 53)]
abbrev v_C_output : List (Nat × Nat) := [(42, 0)]
abbrev s_C_output : List (Nat × Nat) := []
abbrev h_C_output : List (Nat × Nat) := [(11, 0)]
abbrev w_C_output : List (Nat × List Nat) := []
abbrev x_C_output : List String := ["java/lang/IndexOutOfBoundsException"]
theorem k_C_output : t_C_output.all (cx_dec true prog_1_method_4_code (some (.int)) 3 g_C p_C l_C v_C_output s_C_output h_C_output w_C_output) = true := by decide +kernel
abbrev m_C_output : MethodName := ⟨"CycleCutter", "output", "(I)I"⟩
-- calls of C_output: 0 = CycleCutter$Net.hasGate(I)Z
def t_C_clear : List (Nat × cx_E) := [(0, .aload_n 0, 0, 0, 0, 0, 1),
  (1, .getfield 12, 0, 0, 3, 0, 4),
  (4, .getfield 63, 0, 0, 2, 8, 7),
  (7, .istore_n 1, 0, 0, 1, 0, 8),
  (8, .aload_n 0, 0, 0, 0, 0, 9),
  (9, .getfield 12, 0, 0, 3, 0, 12),
  (12, .invokevirtual 66, 0, 0, 0, 0, 15),
  (15, .aload_n 0, 0, 0, 0, 0, 16),
  (16, .getfield 19, 0, 0, 3, 1, 19),
  (19, .invokevirtual 69, 0, 0, 1, 0, 22),
  (22, .aload_n 0, 0, 0, 0, 0, 23),
  (23, .iconst 0, 0, 0, 0, 0, 24),
  (24, .putfield 27, 0, 0, 3, 3, 27),
  (27, .iload_n 1, 0, 0, 1, 0, 28),
  (28, .ireturn, 0, 0, 0, 0, 29)]
abbrev v_C_clear : List (Nat × Nat) := [(66, 0), (69, 1)]
abbrev s_C_clear : List (Nat × Nat) := []
abbrev h_C_clear : List (Nat × Nat) := []
abbrev w_C_clear : List (Nat × List Nat) := []
abbrev x_C_clear : List String := []
theorem k_C_clear : t_C_clear.all (cx_dec true prog_1_method_5_code (some (.int)) 2 g_C p_C l_C v_C_clear s_C_clear h_C_clear w_C_clear) = true := by decide +kernel
abbrev m_C_clear : MethodName := ⟨"CycleCutter", "clear", "()I"⟩
-- calls of C_clear: 0 = CycleCutter$Net.dropAll()V, 1 = CycleCutter$Layout.dropAll()V
def t_C_lay : List (Nat × cx_E) := [(0, .aload_n 0, 0, 0, 0, 0, 1),
  (1, .getfield 19, 0, 0, 3, 1, 4),
  (4, .invokevirtual 69, 0, 0, 0, 0, 7),
  (7, .iconst 0, 0, 0, 0, 0, 8),
  (8, .istore_n 1, 0, 0, 1, 0, 9),
  (9, .iload_n 1, 0, 0, 1, 0, 10),
  (10, .aload_n 0, 0, 0, 0, 0, 11),
  (11, .getfield 27, 0, 0, 3, 3, 14),
  (14, .if_icmp .ge 39, 0, 0, 53, 0, 17),
  (17, .aload_n 0, 0, 0, 0, 0, 18),
  (18, .getfield 23, 0, 0, 3, 2, 21),
  (21, .iload_n 1, 0, 0, 1, 0, 22),
  (22, .iaload, 0, 0, 0, 0, 23),
  (23, .istore_n 2, 0, 0, 2, 0, 24),
  (24, .aload_n 0, 0, 0, 0, 0, 25),
  (25, .getfield 19, 0, 0, 3, 1, 28),
  (28, .aload_n 0, 0, 0, 0, 0, 29),
  (29, .getfield 12, 0, 0, 3, 0, 32),
  (32, .iload_n 2, 0, 0, 2, 0, 33),
  (33, .invokevirtual 70, 0, 0, 1, 0, 36),
  (36, .aload_n 0, 0, 0, 0, 0, 37),
  (37, .getfield 12, 0, 0, 3, 0, 40),
  (40, .iload_n 2, 0, 0, 2, 0, 41),
  (41, .invokevirtual 74, 0, 0, 2, 0, 44),
  (44, .invokevirtual 77, 0, 0, 3, 0, 47),
  (47, .iinc 1 1, 1, 0, 1, 0, 50),
  (50, .goto (-41), 0, 0, 9, 0, 53),
  (53, .aload_n 0, 0, 0, 0, 0, 54),
  (54, .getfield 19, 0, 0, 3, 1, 57),
  (57, .getfield 81, 0, 0, 0, 0, 60),
  (60, .invokevirtual 85, 0, 0, 4, 0, 63),
  (63, .ireturn, 0, 0, 0, 0, 64)]
abbrev v_C_lay : List (Nat × Nat) := [(69, 0), (70, 1), (74, 2), (77, 3), (85, 4)]
abbrev s_C_lay : List (Nat × Nat) := []
abbrev h_C_lay : List (Nat × Nat) := []
abbrev w_C_lay : List (Nat × List Nat) := []
abbrev x_C_lay : List String := []
theorem k_C_lay : t_C_lay.all (cx_dec true prog_1_method_6_code (some (.int)) 3 g_C p_C l_C v_C_lay s_C_lay h_C_lay w_C_lay) = true := by decide +kernel
abbrev m_C_lay : MethodName := ⟨"CycleCutter", "lay", "()I"⟩
-- calls of C_lay: 0 = CycleCutter$Layout.dropAll()V, 1 = CycleCutter$Net.highOf(I)[J, 2 = CycleCutter$Net.lowOf(I)[J, 3 = CycleCutter$Layout.addOutput([J[J)V, 4 = CycleCutter$Multiplexers.total()I
def t_C_run : List (Nat × cx_E) := [(0, .aload_n 0, 0, 0, 0, 0, 1),
  (1, .iload_n 1, 0, 0, 1, 0, 2),
  (2, .invokevirtual 91, 0, 0, 0, 0, 5),
  (5, .iload_n 2, 0, 0, 2, 0, 6),
  (6, .invokestatic 95, 0, 0, 1, 0, 9),
  (9, .aload_n 0, 0, 0, 0, 0, 10),
  (10, .getfield 19, 0, 0, 3, 1, 13),
  (13, .iload_n 1, 0, 0, 1, 0, 14),
  (14, .iload_n 2, 0, 0, 2, 0, 15),
  (15, .invokevirtual 98, 0, 0, 2, 0, 18),
  (18, .ireturn, 0, 0, 0, 0, 19)]
abbrev v_C_run : List (Nat × Nat) := [(91, 0), (98, 2)]
abbrev s_C_run : List (Nat × Nat) := [(95, 1)]
abbrev h_C_run : List (Nat × Nat) := []
abbrev w_C_run : List (Nat × List Nat) := []
abbrev x_C_run : List String := []
theorem k_C_run : t_C_run.all (cx_dec true prog_1_method_7_code (some (.int)) 3 g_C p_C l_C v_C_run s_C_run h_C_run w_C_run) = true := by decide +kernel
abbrev m_C_run : MethodName := ⟨"CycleCutter", "run", "(II)I"⟩
-- calls of C_run: 0 = CycleCutter.requireLaidOut(I)V, 1 = CycleCutter.requireChoice(I)V, 2 = CycleCutter$Layout.valueOn(II)I
def t_C_way : List (Nat × cx_E) := [(0, .aload_n 0, 0, 0, 0, 0, 1),
  (1, .iload_n 1, 0, 0, 1, 0, 2),
  (2, .invokevirtual 91, 0, 0, 0, 0, 5),
  (5, .iload_n 2, 0, 0, 2, 0, 6),
  (6, .invokestatic 95, 0, 0, 1, 0, 9),
  (9, .aload_n 0, 0, 0, 0, 0, 10),
  (10, .getfield 19, 0, 0, 3, 1, 13),
  (13, .iload_n 1, 0, 0, 1, 0, 14),
  (14, .iload_n 2, 0, 0, 2, 0, 15),
  (15, .invokevirtual 102, 0, 0, 2, 0, 18),
  (18, .ireturn, 0, 0, 0, 0, 19)]
abbrev v_C_way : List (Nat × Nat) := [(91, 0), (102, 2)]
abbrev s_C_way : List (Nat × Nat) := [(95, 1)]
abbrev h_C_way : List (Nat × Nat) := []
abbrev w_C_way : List (Nat × List Nat) := []
abbrev x_C_way : List String := []
theorem k_C_way : t_C_way.all (cx_dec true prog_1_method_8_code (some (.int)) 3 g_C p_C l_C v_C_way s_C_way h_C_way w_C_way) = true := by decide +kernel
abbrev m_C_way : MethodName := ⟨"CycleCutter", "way", "(II)I"⟩
-- calls of C_way: 0 = CycleCutter.requireLaidOut(I)V, 1 = CycleCutter.requireChoice(I)V, 2 = CycleCutter$Layout.stepsOn(II)I
def t_C_at : List (Nat × cx_E) := [(0, .iload_n 1, 0, 0, 1, 0, 1),
  (1, .ifCond .lt 9, 0, 0, 10, 0, 4),
  (4, .iload_n 1, 0, 0, 1, 0, 5),
  (5, .bipush 8, 8, 0, 0, 0, 7),
  (7, .if_icmp .lt 5, 0, 0, 12, 0, 10),
  (10, .iconst 0, 0, 0, 0, 0, 11),
  (11, .ireturn, 0, 0, 0, 0, 12),
  (12, .aload_n 0, 0, 0, 0, 0, 13),
  (13, .getfield 19, 0, 0, 3, 1, 16),
  (16, .getfield 81, 0, 0, 0, 0, 19),
  (19, .getfield 105, 0, 0, 1, 8, 22),
  (22, .iload_n 1, 0, 0, 1, 0, 23),
  (23, .iaload, 0, 0, 0, 0, 24),
  (24, .ireturn, 0, 0, 0, 0, 25)]
abbrev v_C_at : List (Nat × Nat) := []
abbrev s_C_at : List (Nat × Nat) := []
abbrev h_C_at : List (Nat × Nat) := []
abbrev w_C_at : List (Nat × List Nat) := []
abbrev x_C_at : List String := []
theorem k_C_at : t_C_at.all (cx_dec true prog_1_method_9_code (some (.int)) 2 g_C p_C l_C v_C_at s_C_at h_C_at w_C_at) = true := by decide +kernel
abbrev m_C_at : MethodName := ⟨"CycleCutter", "at", "(I)I"⟩
-- calls of C_at: 
def t_C_size : List (Nat × cx_E) := [(0, .aload_n 0, 0, 0, 0, 0, 1),
  (1, .iload_n 1, 0, 0, 1, 0, 2),
  (2, .invokevirtual 91, 0, 0, 0, 0, 5),
  (5, .iload_n 2, 0, 0, 2, 0, 6),
  (6, .ifCond .eq 15, 0, 0, 21, 0, 9),
  (9, .aload_n 0, 0, 0, 0, 0, 10),
  (10, .getfield 19, 0, 0, 3, 1, 13),
  (13, .getfield 108, 0, 0, 0, 1, 16),
  (16, .iload_n 1, 0, 0, 1, 0, 17),
  (17, .iaload, 0, 0, 0, 0, 18),
  (18, .goto 12, 0, 0, 30, 0, 21),
  (21, .aload_n 0, 0, 0, 0, 0, 22),
  (22, .getfield 19, 0, 0, 3, 1, 25),
  (25, .getfield 111, 0, 0, 0, 2, 28),
  (28, .iload_n 1, 0, 0, 1, 0, 29),
  (29, .iaload, 0, 0, 0, 0, 30),
  (30, .istore_n 3, 0, 0, 3, 0, 31),
  (31, .aload_n 0, 0, 0, 0, 0, 32),
  (32, .getfield 19, 0, 0, 3, 1, 35),
  (35, .getfield 81, 0, 0, 0, 0, 38),
  (38, .iload_n 3, 0, 0, 3, 0, 39),
  (39, .invokevirtual 114, 0, 0, 1, 0, 42),
  (42, .ireturn, 0, 0, 0, 0, 43)]
abbrev v_C_size : List (Nat × Nat) := [(91, 0), (114, 1)]
abbrev s_C_size : List (Nat × Nat) := []
abbrev h_C_size : List (Nat × Nat) := []
abbrev w_C_size : List (Nat × List Nat) := []
abbrev x_C_size : List String := []
theorem k_C_size : t_C_size.all (cx_dec true prog_1_method_10_code (some (.int)) 4 g_C p_C l_C v_C_size s_C_size h_C_size w_C_size) = true := by decide +kernel
abbrev m_C_size : MethodName := ⟨"CycleCutter", "size", "(IZ)I"⟩
-- calls of C_size: 0 = CycleCutter.requireLaidOut(I)V, 1 = CycleCutter$Multiplexers.totalBelow(I)I
def t_C_known : List (Nat × cx_E) := [(0, .aload_n 0, 0, 0, 0, 0, 1),
  (1, .iload_n 1, 0, 0, 1, 0, 2),
  (2, .invokevirtual 91, 0, 0, 0, 0, 5),
  (5, .aload_n 0, 0, 0, 0, 0, 6),
  (6, .getfield 19, 0, 0, 3, 1, 9),
  (9, .iload_n 1, 0, 0, 1, 0, 10),
  (10, .invokevirtual 117, 0, 0, 1, 0, 13),
  (13, .ireturn, 0, 0, 0, 0, 14)]
abbrev v_C_known : List (Nat × Nat) := [(91, 0), (117, 1)]
abbrev s_C_known : List (Nat × Nat) := []
abbrev h_C_known : List (Nat × Nat) := []
abbrev w_C_known : List (Nat × List Nat) := []
abbrev x_C_known : List String := []
theorem k_C_known : t_C_known.all (cx_dec true prog_1_method_11_code (some (.int)) 2 g_C p_C l_C v_C_known s_C_known h_C_known w_C_known) = true := by decide +kernel
abbrev m_C_known : MethodName := ⟨"CycleCutter", "known", "(I)I"⟩
-- calls of C_known: 0 = CycleCutter.requireLaidOut(I)V, 1 = CycleCutter$Layout.knownChoices(I)I
def t_C_doubt : List (Nat × cx_E) := [(0, .iload_n 1, 0, 0, 1, 0, 1),
  (1, .invokestatic 95, 0, 0, 0, 0, 4),
  (4, .aload_n 0, 0, 0, 0, 0, 5),
  (5, .getfield 19, 0, 0, 3, 1, 8),
  (8, .iload_n 1, 0, 0, 1, 0, 9),
  (9, .invokevirtual 120, 0, 0, 1, 0, 12),
  (12, .ireturn, 0, 0, 0, 0, 13)]
abbrev v_C_doubt : List (Nat × Nat) := [(120, 1)]
abbrev s_C_doubt : List (Nat × Nat) := [(95, 0)]
abbrev h_C_doubt : List (Nat × Nat) := []
abbrev w_C_doubt : List (Nat × List Nat) := []
abbrev x_C_doubt : List String := []
theorem k_C_doubt : t_C_doubt.all (cx_dec true prog_1_method_12_code (some (.int)) 2 g_C p_C l_C v_C_doubt s_C_doubt h_C_doubt w_C_doubt) = true := by decide +kernel
abbrev m_C_doubt : MethodName := ⟨"CycleCutter", "doubt", "(I)I"⟩
-- calls of C_doubt: 0 = CycleCutter.requireChoice(I)V, 1 = CycleCutter$Layout.firstDoubtFrom(I)I
def t_C_value : List (Nat × cx_E) := [(0, .aload_n 0, 0, 0, 0, 0, 1),
  (1, .getfield 12, 0, 0, 3, 0, 4),
  (4, .iload_n 1, 0, 0, 1, 0, 5),
  (5, .invokevirtual 42, 0, 0, 0, 0, 8),
  (8, .ifCond .ne 13, 0, 0, 21, 0, 11),
  (11, .new 46, 0, 0, 0, 0, 14),
  (21, .iload_n 2, 0, 0, 2, 0, 22),
  (22, .invokestatic 95, 0, 0, 1, 0, 25),
  (25, .aload_n 0, 0, 0, 0, 0, 26),
  (26, .getfield 12, 0, 0, 3, 0, 29),
  (29, .iload_n 1, 0, 0, 1, 0, 30),
  (30, .iload_n 2, 0, 0, 2, 0, 31),
  (31, .invokevirtual 123, 0, 0, 2, 0, 34),
  (34, .ireturn, 0, 0, 0, 0, 35)]
abbrev v_C_value : List (Nat × Nat) := [(42, 0), (123, 2)]
abbrev s_C_value : List (Nat × Nat) := [(95, 1)]
abbrev h_C_value : List (Nat × Nat) := [(11, 0)]
abbrev w_C_value : List (Nat × List Nat) := []
abbrev x_C_value : List String := ["java/lang/IndexOutOfBoundsException"]
theorem k_C_value : t_C_value.all (cx_dec true prog_1_method_13_code (some (.int)) 3 g_C p_C l_C v_C_value s_C_value h_C_value w_C_value) = true := by decide +kernel
abbrev m_C_value : MethodName := ⟨"CycleCutter", "value", "(II)I"⟩
-- calls of C_value: 0 = CycleCutter$Net.hasGate(I)Z, 1 = CycleCutter.requireChoice(I)V, 2 = CycleCutter$Net.valueOn(II)I
def t_C_count : List (Nat × cx_E) := [(0, .iload_n 1, 0, 0, 1, 0, 1),
  (1, .tableswitch 102 0 6 #[43, 51, 59, 67, 72, 80, 91], 0, 0, 0, 43, 44),
  (44, .aload_n 0, 0, 0, 0, 0, 45),
  (45, .getfield 12, 0, 0, 3, 0, 48),
  (48, .getfield 63, 0, 0, 2, 8, 51),
  (51, .ireturn, 0, 0, 0, 0, 52),
  (52, .aload_n 0, 0, 0, 0, 0, 53),
  (53, .getfield 12, 0, 0, 3, 0, 56),
  (56, .getfield 124, 0, 0, 2, 9, 59),
  (59, .ireturn, 0, 0, 0, 0, 60),
  (60, .aload_n 0, 0, 0, 0, 0, 61),
  (61, .getfield 12, 0, 0, 3, 0, 64),
  (64, .getfield 127, 0, 0, 2, 10, 67),
  (67, .ireturn, 0, 0, 0, 0, 68),
  (68, .aload_n 0, 0, 0, 0, 0, 69),
  (69, .getfield 27, 0, 0, 3, 3, 72),
  (72, .ireturn, 0, 0, 0, 0, 73),
  (73, .aload_n 0, 0, 0, 0, 0, 74),
  (74, .getfield 19, 0, 0, 3, 1, 77),
  (77, .getfield 130, 0, 0, 0, 4, 80),
  (80, .ireturn, 0, 0, 0, 0, 81),
  (81, .aload_n 0, 0, 0, 0, 0, 82),
  (82, .getfield 19, 0, 0, 3, 1, 85),
  (85, .getfield 81, 0, 0, 0, 0, 88),
  (88, .invokevirtual 85, 0, 0, 0, 0, 91),
  (91, .ireturn, 0, 0, 0, 0, 92),
  (92, .aload_n 0, 0, 0, 0, 0, 93),
  (93, .getfield 19, 0, 0, 3, 1, 96),
  (96, .getfield 81, 0, 0, 0, 0, 99),
  (99, .getfield 131, 0, 0, 1, 10, 102),
  (102, .ireturn, 0, 0, 0, 0, 103),
  (103, .iconst (-1), (-1), 0, 0, 0, 104),
  (104, .ireturn, 0, 0, 0, 0, 105)]
abbrev v_C_count : List (Nat × Nat) := [(85, 0)]
abbrev s_C_count : List (Nat × Nat) := []
abbrev h_C_count : List (Nat × Nat) := []
abbrev w_C_count : List (Nat × List Nat) := [(103, [44, 52, 60, 68, 73, 81, 92])]
abbrev x_C_count : List String := []
theorem k_C_count : t_C_count.all (cx_dec true prog_1_method_14_code (some (.int)) 2 g_C p_C l_C v_C_count s_C_count h_C_count w_C_count) = true := by decide +kernel
abbrev m_C_count : MethodName := ⟨"CycleCutter", "count", "(I)I"⟩
-- calls of C_count: 0 = CycleCutter$Multiplexers.total()I
def t_C_requireLaidOut : List (Nat × cx_E) := [(0, .iload_n 1, 0, 0, 1, 0, 1),
  (1, .ifCond .lt 14, 0, 0, 15, 0, 4),
  (4, .iload_n 1, 0, 0, 1, 0, 5),
  (5, .aload_n 0, 0, 0, 0, 0, 6),
  (6, .getfield 19, 0, 0, 3, 1, 9),
  (9, .getfield 130, 0, 0, 0, 4, 12),
  (12, .if_icmp .lt 13, 0, 0, 25, 0, 15),
  (15, .new 46, 0, 0, 0, 0, 18),
  (25, .return_, 0, 0, 0, 0, 26)]
abbrev v_C_requireLaidOut : List (Nat × Nat) := []
abbrev s_C_requireLaidOut : List (Nat × Nat) := []
abbrev h_C_requireLaidOut : List (Nat × Nat) := [(15, 0)]
abbrev w_C_requireLaidOut : List (Nat × List Nat) := []
abbrev x_C_requireLaidOut : List String := ["java/lang/IndexOutOfBoundsException"]
theorem k_C_requireLaidOut : t_C_requireLaidOut.all (cx_dec true prog_1_method_15_code none 2 g_C p_C l_C v_C_requireLaidOut s_C_requireLaidOut h_C_requireLaidOut w_C_requireLaidOut) = true := by decide +kernel
abbrev m_C_requireLaidOut : MethodName := ⟨"CycleCutter", "requireLaidOut", "(I)V"⟩
-- calls of C_requireLaidOut: 
def t_C_requireChoice : List (Nat × cx_E) := [(0, .iload_n 0, 0, 0, 0, 0, 1),
  (1, .ifCond .lt 10, 0, 0, 11, 0, 4),
  (4, .iload_n 0, 0, 0, 0, 0, 5),
  (5, .sipush 256, 256, 0, 0, 0, 8),
  (8, .if_icmp .lt 13, 0, 0, 21, 0, 11),
  (11, .new 46, 0, 0, 0, 0, 14),
  (21, .return_, 0, 0, 0, 0, 22)]
abbrev v_C_requireChoice : List (Nat × Nat) := []
abbrev s_C_requireChoice : List (Nat × Nat) := []
abbrev h_C_requireChoice : List (Nat × Nat) := [(11, 0)]
abbrev w_C_requireChoice : List (Nat × List Nat) := []
abbrev x_C_requireChoice : List String := ["java/lang/IndexOutOfBoundsException"]
theorem k_C_requireChoice : t_C_requireChoice.all (cx_dec true prog_1_method_16_code none 1 g_C p_C l_C v_C_requireChoice s_C_requireChoice h_C_requireChoice w_C_requireChoice) = true := by decide +kernel
abbrev m_C_requireChoice : MethodName := ⟨"CycleCutter", "requireChoice", "(I)V"⟩
-- calls of C_requireChoice: 
def t_C_isInputSet : List (Nat × cx_E) := [(0, .iload_n 1, 0, 0, 1, 0, 1),
  (1, .bipush 7, 7, 0, 0, 0, 3),
  (3, .iload_n 0, 0, 0, 0, 0, 4),
  (4, .isub, 0, 0, 0, 0, 5),
  (5, .ishr, 0, 0, 0, 0, 6),
  (6, .iconst 1, 1, 0, 0, 0, 7),
  (7, .iand, 0, 0, 0, 0, 8),
  (8, .iconst 1, 1, 0, 0, 0, 9),
  (9, .if_icmp .ne 7, 0, 0, 16, 0, 12),
  (12, .iconst 1, 1, 0, 0, 0, 13),
  (13, .goto 4, 0, 0, 17, 0, 16),
  (16, .iconst 0, 0, 0, 0, 0, 17),
  (17, .ireturn, 1, 0, 0, 0, 18)]
abbrev v_C_isInputSet : List (Nat × Nat) := []
abbrev s_C_isInputSet : List (Nat × Nat) := []
abbrev h_C_isInputSet : List (Nat × Nat) := []
abbrev w_C_isInputSet : List (Nat × List Nat) := []
abbrev x_C_isInputSet : List String := []
theorem k_C_isInputSet : t_C_isInputSet.all (cx_dec true prog_1_method_17_code (some (.boolean)) 2 g_C p_C l_C v_C_isInputSet s_C_isInputSet h_C_isInputSet w_C_isInputSet) = true := by decide +kernel
abbrev m_C_isInputSet : MethodName := ⟨"CycleCutter", "isInputSet", "(II)Z"⟩
-- calls of C_isInputSet: 
def t_C_isMember : List (Nat × cx_E) := [(0, .aload_n 0, 0, 0, 0, 0, 1),
  (1, .iload_n 1, 0, 0, 1, 0, 2),
  (2, .bipush 64, 64, 0, 0, 0, 4),
  (4, .idiv, 0, 0, 0, 0, 5),
  (5, .laload, 0, 0, 0, 0, 6),
  (6, .iload_n 1, 0, 0, 1, 0, 7),
  (7, .bipush 64, 64, 0, 0, 0, 9),
  (9, .irem, 0, 0, 0, 0, 10),
  (10, .lushr, 0, 0, 0, 0, 11),
  (11, .lconst 1, 0, 1, 0, 0, 12),
  (12, .land, 0, 0, 0, 0, 13),
  (13, .lconst 1, 0, 1, 0, 0, 14),
  (14, .lcmp, 0, 0, 0, 0, 15),
  (15, .ifCond .ne 7, 0, 0, 22, 0, 18),
  (18, .iconst 1, 1, 0, 0, 0, 19),
  (19, .goto 4, 0, 0, 23, 0, 22),
  (22, .iconst 0, 0, 0, 0, 0, 23),
  (23, .ireturn, 1, 0, 0, 0, 24)]
abbrev v_C_isMember : List (Nat × Nat) := []
abbrev s_C_isMember : List (Nat × Nat) := []
abbrev h_C_isMember : List (Nat × Nat) := []
abbrev w_C_isMember : List (Nat × List Nat) := []
abbrev x_C_isMember : List String := []
theorem k_C_isMember : t_C_isMember.all (cx_dec true prog_1_method_18_code (some (.boolean)) 2 g_C p_C l_C v_C_isMember s_C_isMember h_C_isMember w_C_isMember) = true := by decide +kernel
abbrev m_C_isMember : MethodName := ⟨"CycleCutter", "isMember", "([JI)Z"⟩
-- calls of C_isMember: 
def t_R_thrown : List (Nat × cx_E) := [(0, .aload_n 0, 0, 0, 0, 0, 1),
  (1, .getfield 54, 0, 0, 4, 0, 4),
  (4, .ireturn, 0, 0, 0, 0, 5)]
abbrev v_R_thrown : List (Nat × Nat) := []
abbrev s_R_thrown : List (Nat × Nat) := []
abbrev h_R_thrown : List (Nat × Nat) := []
abbrev w_R_thrown : List (Nat × List Nat) := []
abbrev x_R_thrown : List String := []
theorem k_R_thrown : t_R_thrown.all (cx_dec true prog_6_method_2_code (some (.int)) 1 g_R p_R l_R v_R_thrown s_R_thrown h_R_thrown w_R_thrown) = true := by decide +kernel
abbrev m_R_thrown : MethodName := ⟨"CycleCutterModel", "thrown", "()I"⟩
-- calls of R_thrown: 
def t_R_fails : List (Nat × cx_E) := [(0, .aload_n 0, 0, 0, 0, 0, 1),
  (1, .iload_n 1, 0, 0, 1, 0, 2),
  (2, .ifCond .eq 7, 0, 0, 9, 0, 5),
  (5, .iconst 1, 1, 0, 0, 0, 6),
  (6, .goto 12, 0, 0, 18, 0, 9),
  (9, .iload_n 2, 0, 0, 2, 0, 10),
  (10, .ifCond .eq 7, 0, 0, 17, 0, 13),
  (13, .iconst 2, 2, 0, 0, 0, 14),
  (14, .goto 4, 0, 0, 18, 0, 17),
  (17, .iconst 0, 0, 0, 0, 0, 18),
  (18, .putfield 54, 0, 0, 4, 0, 21),
  (21, .aload_n 0, 0, 0, 0, 0, 22),
  (22, .getfield 54, 0, 0, 4, 0, 25),
  (25, .ifCond .le 7, 0, 0, 32, 0, 28),
  (28, .iconst 1, 1, 0, 0, 0, 29),
  (29, .goto 4, 0, 0, 33, 0, 32),
  (32, .iconst 0, 0, 0, 0, 0, 33),
  (33, .ireturn, 1, 0, 0, 0, 34)]
abbrev v_R_fails : List (Nat × Nat) := []
abbrev s_R_fails : List (Nat × Nat) := []
abbrev h_R_fails : List (Nat × Nat) := []
abbrev w_R_fails : List (Nat × List Nat) := []
abbrev x_R_fails : List String := []
theorem k_R_fails : t_R_fails.all (cx_dec true prog_6_method_3_code (some (.boolean)) 3 g_R p_R l_R v_R_fails s_R_fails h_R_fails w_R_fails) = true := by decide +kernel
abbrev m_R_fails : MethodName := ⟨"CycleCutterModel", "fails", "(ZZ)Z"⟩
-- calls of R_fails: 
def t_R_isGate : List (Nat × cx_E) := [(0, .iload_n 1, 0, 0, 1, 0, 1),
  (1, .ifCond .lt 15, 0, 0, 16, 0, 4),
  (4, .iload_n 1, 0, 0, 1, 0, 5),
  (5, .aload_n 0, 0, 0, 0, 0, 6),
  (6, .getfield 58, 0, 0, 4, 1, 9),
  (9, .if_icmp .ge 7, 0, 0, 16, 0, 12),
  (12, .iconst 1, 1, 0, 0, 0, 13),
  (13, .goto 4, 0, 0, 17, 0, 16),
  (16, .iconst 0, 0, 0, 0, 0, 17),
  (17, .ireturn, 1, 0, 0, 0, 18)]
abbrev v_R_isGate : List (Nat × Nat) := []
abbrev s_R_isGate : List (Nat × Nat) := []
abbrev h_R_isGate : List (Nat × Nat) := []
abbrev w_R_isGate : List (Nat × List Nat) := []
abbrev x_R_isGate : List String := []
theorem k_R_isGate : t_R_isGate.all (cx_dec true prog_6_method_4_code (some (.boolean)) 2 g_R p_R l_R v_R_isGate s_R_isGate h_R_isGate w_R_isGate) = true := by decide +kernel
abbrev m_R_isGate : MethodName := ⟨"CycleCutterModel", "isGate", "(I)Z"⟩
-- calls of R_isGate: 
def t_R_gate : List (Nat × cx_E) := [(0, .aload_n 0, 0, 0, 0, 0, 1),
  (1, .iload_n 1, 0, 0, 1, 0, 2),
  (2, .ifCond .eq 17, 0, 0, 19, 0, 5),
  (5, .iload_n 1, 0, 0, 1, 0, 6),
  (6, .iconst 2, 2, 0, 0, 0, 7),
  (7, .if_icmp .eq 12, 0, 0, 19, 0, 10),
  (10, .iload_n 1, 0, 0, 1, 0, 11),
  (11, .iconst 3, 3, 0, 0, 0, 12),
  (12, .if_icmp .eq 7, 0, 0, 19, 0, 15),
  (15, .iconst 1, 1, 0, 0, 0, 16),
  (16, .goto 4, 0, 0, 20, 0, 19),
  (19, .iconst 0, 0, 0, 0, 0, 20),
  (20, .iconst 0, 0, 0, 0, 0, 21),
  (21, .invokevirtual 61, 0, 0, 0, 0, 24),
  (24, .ifCond .eq 5, 0, 0, 29, 0, 27),
  (27, .iconst 0, 0, 0, 0, 0, 28),
  (28, .ireturn, 0, 0, 0, 0, 29),
  (29, .aload_n 0, 0, 0, 0, 0, 30),
  (30, .getfield 58, 0, 0, 4, 1, 33),
  (33, .bipush 120, 120, 0, 0, 0, 35),
  (35, .if_icmp .eq 16, 0, 0, 51, 0, 38),
  (38, .iload_n 1, 0, 0, 1, 0, 39),
  (39, .ifCond .ne 14, 0, 0, 53, 0, 42),
  (42, .aload_n 0, 0, 0, 0, 0, 43),
  (43, .getfield 65, 0, 0, 4, 3, 46),
  (46, .bipush 8, 8, 0, 0, 0, 48),
  (48, .if_icmp .ne 5, 0, 0, 53, 0, 51),
  (51, .iconst (-1), (-1), 0, 0, 0, 52),
  (52, .ireturn, 0, 0, 0, 0, 53),
  (53, .aload_n 0, 0, 0, 0, 0, 54),
  (54, .getfield 7, 0, 0, 4, 5, 57),
  (57, .aload_n 0, 0, 0, 0, 0, 58),
  (58, .getfield 58, 0, 0, 4, 1, 61),
  (61, .iload_n 1, 0, 0, 1, 0, 62),
  (62, .iastore, 0, 0, 0, 0, 63),
  (63, .aload_n 0, 0, 0, 0, 0, 64),
  (64, .getfield 13, 0, 0, 4, 6, 67),
  (67, .aload_n 0, 0, 0, 0, 0, 68),
  (68, .getfield 58, 0, 0, 4, 1, 71),
  (71, .aload_n 0, 0, 0, 0, 0, 72),
  (72, .getfield 65, 0, 0, 4, 3, 75),
  (75, .iastore, 0, 0, 0, 0, 76),
  (76, .aload_n 0, 0, 0, 0, 0, 77),
  (77, .dup, 0, 0, 0, 0, 78),
  (78, .getfield 65, 0, 0, 4, 3, 81),
  (81, .iload_n 1, 0, 0, 1, 0, 82),
  (82, .ifCond .ne 7, 0, 0, 89, 0, 85),
  (85, .iconst 1, 1, 0, 0, 0, 86),
  (86, .goto 4, 0, 0, 90, 0, 89),
  (89, .iconst 0, 0, 0, 0, 0, 90),
  (90, .iadd, 0, 0, 0, 0, 91),
  (91, .putfield 65, 0, 0, 4, 3, 94),
  (94, .aload_n 0, 0, 0, 0, 0, 95),
  (95, .dup, 0, 0, 0, 0, 96),
  (96, .getfield 58, 0, 0, 4, 1, 99),
  (99, .iconst 1, 1, 0, 0, 0, 100),
  (100, .iadd, 0, 0, 0, 0, 101),
  (101, .putfield 58, 0, 0, 4, 1, 104),
  (104, .aload_n 0, 0, 0, 0, 0, 105),
  (105, .getfield 58, 0, 0, 4, 1, 108),
  (108, .iconst 1, 1, 0, 0, 0, 109),
  (109, .isub, 0, 0, 0, 0, 110),
  (110, .ireturn, 0, 0, 0, 0, 111)]
abbrev v_R_gate : List (Nat × Nat) := [(61, 0)]
abbrev s_R_gate : List (Nat × Nat) := []
abbrev h_R_gate : List (Nat × Nat) := []
abbrev w_R_gate : List (Nat × List Nat) := []
abbrev x_R_gate : List String := []
theorem k_R_gate : t_R_gate.all (cx_dec true prog_6_method_5_code (some (.int)) 2 g_R p_R l_R v_R_gate s_R_gate h_R_gate w_R_gate) = true := by decide +kernel
abbrev m_R_gate : MethodName := ⟨"CycleCutterModel", "gate", "(I)I"⟩
-- calls of R_gate: 0 = CycleCutterModel.fails(ZZ)Z
def t_R_feed : List (Nat × cx_E) := [(0, .aload_n 0, 0, 0, 0, 0, 1),
  (1, .iload_n 1, 0, 0, 1, 0, 2),
  (2, .invokevirtual 68, 0, 0, 0, 0, 5),
  (5, .ifCond .eq 15, 0, 0, 20, 0, 8),
  (8, .aload_n 0, 0, 0, 0, 0, 9),
  (9, .iload_n 2, 0, 0, 2, 0, 10),
  (10, .invokevirtual 68, 0, 0, 0, 0, 13),
  (13, .ifCond .eq 7, 0, 0, 20, 0, 16),
  (16, .iconst 1, 1, 0, 0, 0, 17),
  (17, .goto 4, 0, 0, 21, 0, 20),
  (20, .iconst 0, 0, 0, 0, 0, 21),
  (21, .istore 4, 0, 0, 4, 0, 23),
  (23, .aload_n 0, 0, 0, 0, 0, 24),
  (24, .iload 4, 0, 0, 4, 0, 26),
  (26, .ifCond .ne 7, 0, 0, 33, 0, 29),
  (29, .iconst 1, 1, 0, 0, 0, 30),
  (30, .goto 4, 0, 0, 34, 0, 33),
  (33, .iconst 0, 0, 0, 0, 0, 34),
  (34, .iload 4, 0, 0, 4, 0, 36),
  (36, .ifCond .eq 25, 0, 0, 61, 0, 39),
  (39, .aload_n 0, 0, 0, 0, 0, 40),
  (40, .getfield 7, 0, 0, 4, 5, 43),
  (43, .iload 4, 0, 0, 4, 0, 45),
  (45, .ifCond .eq 7, 0, 0, 52, 0, 48),
  (48, .iload_n 1, 0, 0, 1, 0, 49),
  (49, .goto 4, 0, 0, 53, 0, 52),
  (52, .iconst 0, 0, 0, 0, 0, 53),
  (53, .iaload, 0, 0, 0, 0, 54),
  (54, .ifCond .ne 7, 0, 0, 61, 0, 57),
  (57, .iconst 1, 1, 0, 0, 0, 58),
  (58, .goto 4, 0, 0, 62, 0, 61),
  (61, .iconst 0, 0, 0, 0, 0, 62),
  (62, .invokevirtual 61, 0, 0, 1, 0, 65),
  (65, .ifCond .eq 5, 0, 0, 70, 0, 68),
  (68, .iconst 0, 0, 0, 0, 0, 69),
  (69, .ireturn, 0, 0, 0, 0, 70),
  (70, .aload_n 0, 0, 0, 0, 0, 71),
  (71, .getfield 72, 0, 0, 4, 2, 74),
  (74, .sipush 500, 500, 0, 0, 0, 77),
  (77, .if_icmp .ne 5, 0, 0, 82, 0, 80),
  (80, .iconst (-1), (-1), 0, 0, 0, 81),
  (81, .ireturn, 0, 0, 0, 0, 82),
  (82, .aload_n 0, 0, 0, 0, 0, 83),
  (83, .getfield 16, 0, 0, 4, 7, 86),
  (86, .aload_n 0, 0, 0, 0, 0, 87),
  (87, .getfield 72, 0, 0, 4, 2, 90),
  (90, .iload_n 1, 0, 0, 1, 0, 91),
  (91, .iastore, 0, 0, 0, 0, 92),
  (92, .aload_n 0, 0, 0, 0, 0, 93),
  (93, .getfield 19, 0, 0, 4, 8, 96),
  (96, .aload_n 0, 0, 0, 0, 0, 97),
  (97, .getfield 72, 0, 0, 4, 2, 100),
  (100, .iload_n 2, 0, 0, 2, 0, 101),
  (101, .iastore, 0, 0, 0, 0, 102),
  (102, .aload_n 0, 0, 0, 0, 0, 103),
  (103, .getfield 25, 0, 0, 4, 10, 106),
  (106, .aload_n 0, 0, 0, 0, 0, 107),
  (107, .getfield 72, 0, 0, 4, 2, 110),
  (110, .iload_n 3, 0, 0, 3, 0, 111),
  (111, .bastore, 0, 0, 0, 0, 112),
  (112, .aload_n 0, 0, 0, 0, 0, 113),
  (113, .dup, 0, 0, 0, 0, 114),
  (114, .getfield 72, 0, 0, 4, 2, 117),
  (117, .iconst 1, 1, 0, 0, 0, 118),
  (118, .iadd, 0, 0, 0, 0, 119),
  (119, .putfield 72, 0, 0, 4, 2, 122),
  (122, .iconst 0, 0, 0, 0, 0, 123),
  (123, .istore 5, 0, 0, 5, 0, 125),
  (125, .iconst 0, 0, 0, 0, 0, 126),
  (126, .istore 6, 0, 0, 6, 0, 128),
  (128, .iload 6, 0, 0, 6, 0, 130),
  (130, .aload_n 0, 0, 0, 0, 0, 131),
  (131, .getfield 72, 0, 0, 4, 2, 134),
  (134, .if_icmp .ge 30, 0, 0, 164, 0, 137),
  (137, .iload 5, 0, 0, 5, 0, 139),
  (139, .aload_n 0, 0, 0, 0, 0, 140),
  (140, .getfield 16, 0, 0, 4, 7, 143),
  (143, .iload 6, 0, 0, 6, 0, 145),
  (145, .iaload, 0, 0, 0, 0, 146),
  (146, .iload_n 1, 0, 0, 1, 0, 147),
  (147, .if_icmp .ne 7, 0, 0, 154, 0, 150),
  (150, .iconst 1, 1, 0, 0, 0, 151),
  (151, .goto 4, 0, 0, 155, 0, 154),
  (154, .iconst 0, 0, 0, 0, 0, 155),
  (155, .iadd, 0, 0, 0, 0, 156),
  (156, .istore 5, 0, 0, 5, 0, 158),
  (158, .iinc 6 1, 1, 0, 6, 0, 161),
  (161, .goto (-33), 0, 0, 128, 0, 164),
  (164, .iload 5, 0, 0, 5, 0, 166),
  (166, .ireturn, 0, 0, 0, 0, 167)]
abbrev v_R_feed : List (Nat × Nat) := [(61, 1), (68, 0)]
abbrev s_R_feed : List (Nat × Nat) := []
abbrev h_R_feed : List (Nat × Nat) := []
abbrev w_R_feed : List (Nat × List Nat) := []
abbrev x_R_feed : List String := []
theorem k_R_feed : t_R_feed.all (cx_dec true prog_6_method_6_code (some (.int)) 7 g_R p_R l_R v_R_feed s_R_feed h_R_feed w_R_feed) = true := by decide +kernel
abbrev m_R_feed : MethodName := ⟨"CycleCutterModel", "feed", "(IIZ)I"⟩
-- calls of R_feed: 0 = CycleCutterModel.isGate(I)Z, 1 = CycleCutterModel.fails(ZZ)Z
def t_R_output : List (Nat × cx_E) := [(0, .aload_n 0, 0, 0, 0, 0, 1),
  (1, .aload_n 0, 0, 0, 0, 0, 2),
  (2, .iload_n 1, 0, 0, 1, 0, 3),
  (3, .invokevirtual 68, 0, 0, 0, 0, 6),
  (6, .ifCond .ne 7, 0, 0, 13, 0, 9),
  (9, .iconst 1, 1, 0, 0, 0, 10),
  (10, .goto 4, 0, 0, 14, 0, 13),
  (13, .iconst 0, 0, 0, 0, 0, 14),
  (14, .iconst 0, 0, 0, 0, 0, 15),
  (15, .invokevirtual 61, 0, 0, 1, 0, 18),
  (18, .ifCond .eq 5, 0, 0, 23, 0, 21),
  (21, .iconst 0, 0, 0, 0, 0, 22),
  (22, .ireturn, 0, 0, 0, 0, 23),
  (23, .aload_n 0, 0, 0, 0, 0, 24),
  (24, .getfield 75, 0, 0, 4, 4, 27),
  (27, .bipush 10, 10, 0, 0, 0, 29),
  (29, .if_icmp .ne 5, 0, 0, 34, 0, 32),
  (32, .iconst (-1), (-1), 0, 0, 0, 33),
  (33, .ireturn, 0, 0, 0, 0, 34),
  (34, .aload_n 0, 0, 0, 0, 0, 35),
  (35, .getfield 22, 0, 0, 4, 9, 38),
  (38, .aload_n 0, 0, 0, 0, 0, 39),
  (39, .getfield 75, 0, 0, 4, 4, 42),
  (42, .iload_n 1, 0, 0, 1, 0, 43),
  (43, .iastore, 0, 0, 0, 0, 44),
  (44, .aload_n 0, 0, 0, 0, 0, 45),
  (45, .dup, 0, 0, 0, 0, 46),
  (46, .getfield 75, 0, 0, 4, 4, 49),
  (49, .iconst 1, 1, 0, 0, 0, 50),
  (50, .iadd, 0, 0, 0, 0, 51),
  (51, .putfield 75, 0, 0, 4, 4, 54),
  (54, .aload_n 0, 0, 0, 0, 0, 55),
  (55, .getfield 75, 0, 0, 4, 4, 58),
  (58, .iconst 1, 1, 0, 0, 0, 59),
  (59, .isub, 0, 0, 0, 0, 60),
  (60, .ireturn, 0, 0, 0, 0, 61)]
abbrev v_R_output : List (Nat × Nat) := [(61, 1), (68, 0)]
abbrev s_R_output : List (Nat × Nat) := []
abbrev h_R_output : List (Nat × Nat) := []
abbrev w_R_output : List (Nat × List Nat) := []
abbrev x_R_output : List String := []
theorem k_R_output : t_R_output.all (cx_dec true prog_6_method_7_code (some (.int)) 2 g_R p_R l_R v_R_output s_R_output h_R_output w_R_output) = true := by decide +kernel
abbrev m_R_output : MethodName := ⟨"CycleCutterModel", "output", "(I)I"⟩
-- calls of R_output: 0 = CycleCutterModel.isGate(I)Z, 1 = CycleCutterModel.fails(ZZ)Z
def t_R_clear : List (Nat × cx_E) := [(0, .aload_n 0, 0, 0, 0, 0, 1),
  (1, .iconst 0, 0, 0, 0, 0, 2),
  (2, .putfield 54, 0, 0, 4, 0, 5),
  (5, .aload_n 0, 0, 0, 0, 0, 6),
  (6, .getfield 58, 0, 0, 4, 1, 9),
  (9, .istore_n 1, 0, 0, 1, 0, 10),
  (10, .aload_n 0, 0, 0, 0, 0, 11),
  (11, .iconst 0, 0, 0, 0, 0, 12),
  (12, .putfield 58, 0, 0, 4, 1, 15),
  (15, .aload_n 0, 0, 0, 0, 0, 16),
  (16, .iconst 0, 0, 0, 0, 0, 17),
  (17, .putfield 72, 0, 0, 4, 2, 20),
  (20, .aload_n 0, 0, 0, 0, 0, 21),
  (21, .iconst 0, 0, 0, 0, 0, 22),
  (22, .putfield 65, 0, 0, 4, 3, 25),
  (25, .aload_n 0, 0, 0, 0, 0, 26),
  (26, .iconst 0, 0, 0, 0, 0, 27),
  (27, .putfield 75, 0, 0, 4, 4, 30),
  (30, .aload_n 0, 0, 0, 0, 0, 31),
  (31, .iconst 0, 0, 0, 0, 0, 32),
  (32, .putfield 78, 0, 0, 4, 12, 35),
  (35, .aload_n 0, 0, 0, 0, 0, 36),
  (36, .iconst 0, 0, 0, 0, 0, 37),
  (37, .putfield 81, 0, 0, 4, 13, 40),
  (40, .iload_n 1, 0, 0, 1, 0, 41),
  (41, .ireturn, 0, 0, 0, 0, 42)]
abbrev v_R_clear : List (Nat × Nat) := []
abbrev s_R_clear : List (Nat × Nat) := []
abbrev h_R_clear : List (Nat × Nat) := []
abbrev w_R_clear : List (Nat × List Nat) := []
abbrev x_R_clear : List String := []
theorem k_R_clear : t_R_clear.all (cx_dec true prog_6_method_8_code (some (.int)) 2 g_R p_R l_R v_R_clear s_R_clear h_R_clear w_R_clear) = true := by decide +kernel
abbrev m_R_clear : MethodName := ⟨"CycleCutterModel", "clear", "()I"⟩
-- calls of R_clear: 
def t_R_made : List (Nat × cx_E) := [(0, .aload_n 0, 0, 0, 0, 0, 1),
  (1, .getfield 7, 0, 0, 4, 5, 4),
  (4, .iload_n 1, 0, 0, 1, 0, 5),
  (5, .iaload, 0, 0, 0, 0, 6),
  (6, .iconst 2, 2, 0, 0, 0, 7),
  (7, .if_icmp .ne 7, 0, 0, 14, 0, 10),
  (10, .iconst 0, 0, 0, 0, 0, 11),
  (11, .goto 4, 0, 0, 15, 0, 14),
  (14, .iconst 1, 1, 0, 0, 0, 15),
  (15, .istore_n 2, 0, 0, 2, 0, 16),
  (16, .iconst 1, 1, 0, 0, 0, 17),
  (17, .iload_n 2, 0, 0, 2, 0, 18),
  (18, .isub, 0, 0, 0, 0, 19),
  (19, .istore_n 3, 0, 0, 3, 0, 20),
  (20, .iconst 0, 0, 0, 0, 0, 21),
  (21, .istore 4, 0, 0, 4, 0, 23),
  (23, .iload 4, 0, 0, 4, 0, 25),
  (25, .aload_n 0, 0, 0, 0, 0, 26),
  (26, .getfield 72, 0, 0, 4, 2, 29),
  (29, .if_icmp .ge 88, 0, 0, 117, 0, 32),
  (32, .aload_n 0, 0, 0, 0, 0, 33),
  (33, .getfield 16, 0, 0, 4, 7, 36),
  (36, .iload 4, 0, 0, 4, 0, 38),
  (38, .iaload, 0, 0, 0, 0, 39),
  (39, .iload_n 1, 0, 0, 1, 0, 40),
  (40, .if_icmp .ne 71, 0, 0, 111, 0, 43),
  (43, .iload_n 3, 0, 0, 3, 0, 44),
  (44, .iload_n 2, 0, 0, 2, 0, 45),
  (45, .if_icmp .ne 6, 0, 0, 51, 0, 48),
  (48, .goto 63, 0, 0, 111, 0, 51),
  (51, .aload_n 0, 0, 0, 0, 0, 52),
  (52, .getfield 29, 0, 0, 4, 11, 55),
  (55, .aload_n 0, 0, 0, 0, 0, 56),
  (56, .getfield 19, 0, 0, 4, 8, 59),
  (59, .iload 4, 0, 0, 4, 0, 61),
  (61, .iaload, 0, 0, 0, 0, 62),
  (62, .iaload, 0, 0, 0, 0, 63),
  (63, .istore 5, 0, 0, 5, 0, 65),
  (65, .iload 5, 0, 0, 5, 0, 67),
  (67, .iconst 2, 2, 0, 0, 0, 68),
  (68, .if_icmp .eq 13, 0, 0, 81, 0, 71),
  (71, .aload_n 0, 0, 0, 0, 0, 72),
  (72, .getfield 25, 0, 0, 4, 10, 75),
  (75, .iload 4, 0, 0, 4, 0, 77),
  (77, .baload, 0, 0, 0, 0, 78),
  (78, .ifCond .ne 8, 0, 0, 86, 0, 81),
  (81, .iload 5, 0, 0, 5, 0, 83),
  (83, .goto 7, 0, 0, 90, 0, 86),
  (86, .iconst 1, 1, 0, 0, 0, 87),
  (87, .iload 5, 0, 0, 5, 0, 89),
  (89, .isub, 0, 0, 0, 0, 90),
  (90, .istore 5, 0, 0, 5, 0, 92),
  (92, .iload 5, 0, 0, 5, 0, 94),
  (94, .iload_n 2, 0, 0, 2, 0, 95),
  (95, .if_icmp .eq 9, 0, 0, 104, 0, 98),
  (98, .iload 5, 0, 0, 5, 0, 100),
  (100, .iconst 2, 2, 0, 0, 0, 101),
  (101, .if_icmp .ne 8, 0, 0, 109, 0, 104),
  (104, .iload 5, 0, 0, 5, 0, 106),
  (106, .goto 4, 0, 0, 110, 0, 109),
  (109, .iload_n 3, 0, 0, 3, 0, 110),
  (110, .istore_n 3, 0, 0, 3, 0, 111),
  (111, .iinc 4 1, 1, 0, 4, 0, 114),
  (114, .goto (-91), 0, 0, 23, 0, 117),
  (117, .iload_n 3, 0, 0, 3, 0, 118),
  (118, .ireturn, 0, 0, 0, 0, 119)]
abbrev v_R_made : List (Nat × Nat) := []
abbrev s_R_made : List (Nat × Nat) := []
abbrev h_R_made : List (Nat × Nat) := []
abbrev w_R_made : List (Nat × List Nat) := []
abbrev x_R_made : List String := []
theorem k_R_made : t_R_made.all (cx_dec true prog_6_method_9_code (some (.int)) 6 g_R p_R l_R v_R_made s_R_made h_R_made w_R_made) = true := by decide +kernel
abbrev m_R_made : MethodName := ⟨"CycleCutterModel", "made", "(I)I"⟩
-- calls of R_made: 
def t_R_spread : List (Nat × cx_E) := [(0, .iconst 0, 0, 0, 0, 0, 1),
  (1, .istore_n 2, 0, 0, 2, 0, 2),
  (2, .iload_n 2, 0, 0, 2, 0, 3),
  (3, .aload_n 0, 0, 0, 0, 0, 4),
  (4, .getfield 58, 0, 0, 4, 1, 7),
  (7, .if_icmp .ge 41, 0, 0, 48, 0, 10),
  (10, .aload_n 0, 0, 0, 0, 0, 11),
  (11, .getfield 29, 0, 0, 4, 11, 14),
  (14, .iload_n 2, 0, 0, 2, 0, 15),
  (15, .aload_n 0, 0, 0, 0, 0, 16),
  (16, .getfield 7, 0, 0, 4, 5, 19),
  (19, .iload_n 2, 0, 0, 2, 0, 20),
  (20, .iaload, 0, 0, 0, 0, 21),
  (21, .ifCond .ne 19, 0, 0, 40, 0, 24),
  (24, .iload_n 1, 0, 0, 1, 0, 25),
  (25, .bipush 7, 7, 0, 0, 0, 27),
  (27, .aload_n 0, 0, 0, 0, 0, 28),
  (28, .getfield 13, 0, 0, 4, 6, 31),
  (31, .iload_n 2, 0, 0, 2, 0, 32),
  (32, .iaload, 0, 0, 0, 0, 33),
  (33, .isub, 0, 0, 0, 0, 34),
  (34, .ishr, 0, 0, 0, 0, 35),
  (35, .iconst 1, 1, 0, 0, 0, 36),
  (36, .iand, 0, 0, 0, 0, 37),
  (37, .goto 4, 0, 0, 41, 0, 40),
  (40, .iconst 2, 2, 0, 0, 0, 41),
  (41, .iastore, 0, 0, 0, 0, 42),
  (42, .iinc 2 1, 1, 0, 2, 0, 45),
  (45, .goto (-43), 0, 0, 2, 0, 48),
  (48, .iconst 1, 1, 0, 0, 0, 49),
  (49, .istore_n 2, 0, 0, 2, 0, 50),
  (50, .iload_n 2, 0, 0, 2, 0, 51),
  (51, .ifCond .eq 77, 0, 0, 128, 0, 54),
  (54, .iconst 0, 0, 0, 0, 0, 55),
  (55, .istore_n 2, 0, 0, 2, 0, 56),
  (56, .iconst 0, 0, 0, 0, 0, 57),
  (57, .istore_n 3, 0, 0, 3, 0, 58),
  (58, .iload_n 3, 0, 0, 3, 0, 59),
  (59, .aload_n 0, 0, 0, 0, 0, 60),
  (60, .getfield 58, 0, 0, 4, 1, 63),
  (63, .if_icmp .ge 62, 0, 0, 125, 0, 66),
  (66, .aload_n 0, 0, 0, 0, 0, 67),
  (67, .getfield 7, 0, 0, 4, 5, 70),
  (70, .iload_n 3, 0, 0, 3, 0, 71),
  (71, .iaload, 0, 0, 0, 0, 72),
  (72, .ifCond .eq 47, 0, 0, 119, 0, 75),
  (75, .aload_n 0, 0, 0, 0, 0, 76),
  (76, .getfield 29, 0, 0, 4, 11, 79),
  (79, .iload_n 3, 0, 0, 3, 0, 80),
  (80, .iaload, 0, 0, 0, 0, 81),
  (81, .iconst 2, 2, 0, 0, 0, 82),
  (82, .if_icmp .eq 6, 0, 0, 88, 0, 85),
  (85, .goto 34, 0, 0, 119, 0, 88),
  (88, .aload_n 0, 0, 0, 0, 0, 89),
  (89, .getfield 29, 0, 0, 4, 11, 92),
  (92, .iload_n 3, 0, 0, 3, 0, 93),
  (93, .aload_n 0, 0, 0, 0, 0, 94),
  (94, .iload_n 3, 0, 0, 3, 0, 95),
  (95, .invokevirtual 84, 0, 0, 0, 0, 98),
  (98, .iastore, 0, 0, 0, 0, 99),
  (99, .iload_n 2, 0, 0, 2, 0, 100),
  (100, .ifCond .ne 13, 0, 0, 113, 0, 103),
  (103, .aload_n 0, 0, 0, 0, 0, 104),
  (104, .getfield 29, 0, 0, 4, 11, 107),
  (107, .iload_n 3, 0, 0, 3, 0, 108),
  (108, .iaload, 0, 0, 0, 0, 109),
  (109, .iconst 2, 2, 0, 0, 0, 110),
  (110, .if_icmp .eq 7, 0, 0, 117, 0, 113),
  (113, .iconst 1, 1, 0, 0, 0, 114),
  (114, .goto 4, 0, 0, 118, 0, 117),
  (117, .iconst 0, 0, 0, 0, 0, 118),
  (118, .istore_n 2, 0, 0, 2, 0, 119),
  (119, .iinc 3 1, 1, 0, 3, 0, 122),
  (122, .goto (-64), 0, 0, 58, 0, 125),
  (125, .goto (-75), 0, 0, 50, 0, 128),
  (128, .return_, 0, 0, 0, 0, 129)]
abbrev v_R_spread : List (Nat × Nat) := [(84, 0)]
abbrev s_R_spread : List (Nat × Nat) := []
abbrev h_R_spread : List (Nat × Nat) := []
abbrev w_R_spread : List (Nat × List Nat) := []
abbrev x_R_spread : List String := []
theorem k_R_spread : t_R_spread.all (cx_dec true prog_6_method_10_code none 4 g_R p_R l_R v_R_spread s_R_spread h_R_spread w_R_spread) = true := by decide +kernel
abbrev m_R_spread : MethodName := ⟨"CycleCutterModel", "spread", "(I)V"⟩
-- calls of R_spread: 0 = CycleCutterModel.made(I)I
def t_R_value : List (Nat × cx_E) := [(0, .aload_n 0, 0, 0, 0, 0, 1),
  (1, .aload_n 0, 0, 0, 0, 0, 2),
  (2, .iload_n 1, 0, 0, 1, 0, 3),
  (3, .invokevirtual 68, 0, 0, 0, 0, 6),
  (6, .ifCond .eq 14, 0, 0, 20, 0, 9),
  (9, .iload_n 2, 0, 0, 2, 0, 10),
  (10, .ifCond .lt 10, 0, 0, 20, 0, 13),
  (13, .iload_n 2, 0, 0, 2, 0, 14),
  (14, .sipush 255, 255, 0, 0, 0, 17),
  (17, .if_icmp .le 7, 0, 0, 24, 0, 20),
  (20, .iconst 1, 1, 0, 0, 0, 21),
  (21, .goto 4, 0, 0, 25, 0, 24),
  (24, .iconst 0, 0, 0, 0, 0, 25),
  (25, .iconst 0, 0, 0, 0, 0, 26),
  (26, .invokevirtual 61, 0, 0, 1, 0, 29),
  (29, .ifCond .eq 5, 0, 0, 34, 0, 32),
  (32, .iconst 0, 0, 0, 0, 0, 33),
  (33, .ireturn, 0, 0, 0, 0, 34),
  (34, .aload_n 0, 0, 0, 0, 0, 35),
  (35, .iload_n 2, 0, 0, 2, 0, 36),
  (36, .invokevirtual 88, 0, 0, 2, 0, 39),
  (39, .aload_n 0, 0, 0, 0, 0, 40),
  (40, .getfield 29, 0, 0, 4, 11, 43),
  (43, .iload_n 1, 0, 0, 1, 0, 44),
  (44, .iaload, 0, 0, 0, 0, 45),
  (45, .ireturn, 0, 0, 0, 0, 46)]
abbrev v_R_value : List (Nat × Nat) := [(61, 1), (68, 0), (88, 2)]
abbrev s_R_value : List (Nat × Nat) := []
abbrev h_R_value : List (Nat × Nat) := []
abbrev w_R_value : List (Nat × List Nat) := []
abbrev x_R_value : List String := []
theorem k_R_value : t_R_value.all (cx_dec true prog_6_method_11_code (some (.int)) 3 g_R p_R l_R v_R_value s_R_value h_R_value w_R_value) = true := by decide +kernel
abbrev m_R_value : MethodName := ⟨"CycleCutterModel", "value", "(II)I"⟩
-- calls of R_value: 0 = CycleCutterModel.isGate(I)Z, 1 = CycleCutterModel.fails(ZZ)Z, 2 = CycleCutterModel.spread(I)V
def t_R_truth : List (Nat × cx_E) := [(0, .aload_n 0, 0, 0, 0, 0, 1),
  (1, .getfield 32, 0, 0, 4, 14, 4),
  (4, .iconst 4, 4, 0, 0, 0, 5),
  (5, .iload_n 1, 0, 0, 1, 0, 6),
  (6, .imul, 0, 0, 0, 0, 7),
  (7, .iload_n 2, 0, 0, 2, 0, 8),
  (8, .bipush 6, 6, 0, 0, 0, 10),
  (10, .ishr, 0, 0, 0, 0, 11),
  (11, .iadd, 0, 0, 0, 0, 12),
  (12, .laload, 0, 0, 0, 0, 13),
  (13, .iload_n 2, 0, 0, 2, 0, 14),
  (14, .bipush 63, 63, 0, 0, 0, 16),
  (16, .iand, 0, 0, 0, 0, 17),
  (17, .lshr, 0, 0, 0, 0, 18),
  (18, .lconst 1, 0, 1, 0, 0, 19),
  (19, .land, 0, 0, 0, 0, 20),
  (20, .lconst 1, 0, 1, 0, 0, 21),
  (21, .lcmp, 0, 0, 0, 0, 22),
  (22, .ifCond .ne 7, 0, 0, 29, 0, 25),
  (25, .iconst 1, 1, 0, 0, 0, 26),
  (26, .goto 4, 0, 0, 30, 0, 29),
  (29, .iconst 0, 0, 0, 0, 0, 30),
  (30, .ireturn, 1, 0, 0, 0, 31)]
abbrev v_R_truth : List (Nat × Nat) := []
abbrev s_R_truth : List (Nat × Nat) := []
abbrev h_R_truth : List (Nat × Nat) := []
abbrev w_R_truth : List (Nat × List Nat) := []
abbrev x_R_truth : List String := []
theorem k_R_truth : t_R_truth.all (cx_dec true prog_6_method_12_code (some (.boolean)) 3 g_R p_R l_R v_R_truth s_R_truth h_R_truth w_R_truth) = true := by decide +kernel
abbrev m_R_truth : MethodName := ⟨"CycleCutterModel", "truth", "(II)Z"⟩
-- calls of R_truth: 
def t_R_set : List (Nat × cx_E) := [(0, .aload_n 0, 0, 0, 0, 0, 1),
  (1, .getfield 32, 0, 0, 4, 14, 4),
  (4, .iconst 4, 4, 0, 0, 0, 5),
  (5, .iload_n 1, 0, 0, 1, 0, 6),
  (6, .imul, 0, 0, 0, 0, 7),
  (7, .iload_n 2, 0, 0, 2, 0, 8),
  (8, .bipush 6, 6, 0, 0, 0, 10),
  (10, .ishr, 0, 0, 0, 0, 11),
  (11, .iadd, 0, 0, 0, 0, 12),
  (12, .dup2, 0, 0, 0, 0, 13),
  (13, .laload, 0, 0, 0, 0, 14),
  (14, .lconst 1, 0, 1, 0, 0, 15),
  (15, .iload_n 2, 0, 0, 2, 0, 16),
  (16, .bipush 63, 63, 0, 0, 0, 18),
  (18, .iand, 0, 0, 0, 0, 19),
  (19, .lshl, 0, 0, 0, 0, 20),
  (20, .lor, 0, 0, 0, 0, 21),
  (21, .lastore, 0, 0, 0, 0, 22),
  (22, .return_, 0, 0, 0, 0, 23)]
abbrev v_R_set : List (Nat × Nat) := []
abbrev s_R_set : List (Nat × Nat) := []
abbrev h_R_set : List (Nat × Nat) := []
abbrev w_R_set : List (Nat × List Nat) := []
abbrev x_R_set : List String := []
theorem k_R_set : t_R_set.all (cx_dec true prog_6_method_13_code none 3 g_R p_R l_R v_R_set s_R_set h_R_set w_R_set) = true := by decide +kernel
abbrev m_R_set : MethodName := ⟨"CycleCutterModel", "set", "(II)V"⟩
-- calls of R_set: 
def t_R_empty : List (Nat × cx_E) := [(0, .iconst 0, 0, 0, 0, 0, 1),
  (1, .istore_n 2, 0, 0, 2, 0, 2),
  (2, .iload_n 2, 0, 0, 2, 0, 3),
  (3, .iconst 4, 4, 0, 0, 0, 4),
  (4, .if_icmp .ge 20, 0, 0, 24, 0, 7),
  (7, .aload_n 0, 0, 0, 0, 0, 8),
  (8, .getfield 32, 0, 0, 4, 14, 11),
  (11, .iconst 4, 4, 0, 0, 0, 12),
  (12, .iload_n 1, 0, 0, 1, 0, 13),
  (13, .imul, 0, 0, 0, 0, 14),
  (14, .iload_n 2, 0, 0, 2, 0, 15),
  (15, .iadd, 0, 0, 0, 0, 16),
  (16, .lconst 0, 0, 0, 0, 0, 17),
  (17, .lastore, 0, 0, 0, 0, 18),
  (18, .iinc 2 1, 1, 0, 2, 0, 21),
  (21, .goto (-19), 0, 0, 2, 0, 24),
  (24, .return_, 0, 0, 0, 0, 25)]
abbrev v_R_empty : List (Nat × Nat) := []
abbrev s_R_empty : List (Nat × Nat) := []
abbrev h_R_empty : List (Nat × Nat) := []
abbrev w_R_empty : List (Nat × List Nat) := []
abbrev x_R_empty : List String := []
theorem k_R_empty : t_R_empty.all (cx_dec true prog_6_method_14_code none 3 g_R p_R l_R v_R_empty s_R_empty h_R_empty w_R_empty) = true := by decide +kernel
abbrev m_R_empty : MethodName := ⟨"CycleCutterModel", "empty", "(I)V"⟩
-- calls of R_empty: 
def t_R_depends : List (Nat × cx_E) := [(0, .iconst 0, 0, 0, 0, 0, 1),
  (1, .istore_n 2, 0, 0, 2, 0, 2),
  (2, .iload_n 2, 0, 0, 2, 0, 3),
  (3, .bipush 8, 8, 0, 0, 0, 5),
  (5, .if_icmp .ge 47, 0, 0, 52, 0, 8),
  (8, .iconst 0, 0, 0, 0, 0, 9),
  (9, .istore_n 3, 0, 0, 3, 0, 10),
  (10, .iload_n 3, 0, 0, 3, 0, 11),
  (11, .sipush 256, 256, 0, 0, 0, 14),
  (14, .if_icmp .ge 32, 0, 0, 46, 0, 17),
  (17, .aload_n 0, 0, 0, 0, 0, 18),
  (18, .iload_n 1, 0, 0, 1, 0, 19),
  (19, .iload_n 3, 0, 0, 3, 0, 20),
  (20, .invokevirtual 92, 0, 0, 0, 0, 23),
  (23, .aload_n 0, 0, 0, 0, 0, 24),
  (24, .iload_n 1, 0, 0, 1, 0, 25),
  (25, .iload_n 3, 0, 0, 3, 0, 26),
  (26, .sipush 128, 128, 0, 0, 0, 29),
  (29, .iload_n 2, 0, 0, 2, 0, 30),
  (30, .ishr, 0, 0, 0, 0, 31),
  (31, .ixor, 0, 0, 0, 0, 32),
  (32, .invokevirtual 92, 0, 0, 0, 0, 35),
  (35, .if_icmp .eq 5, 0, 0, 40, 0, 38),
  (38, .iload_n 2, 0, 0, 2, 0, 39),
  (39, .ireturn, 0, 0, 0, 0, 40),
  (40, .iinc 3 1, 1, 0, 3, 0, 43),
  (43, .goto (-33), 0, 0, 10, 0, 46),
  (46, .iinc 2 1, 1, 0, 2, 0, 49),
  (49, .goto (-47), 0, 0, 2, 0, 52),
  (52, .bipush 8, 8, 0, 0, 0, 54),
  (54, .ireturn, 0, 0, 0, 0, 55)]
abbrev v_R_depends : List (Nat × Nat) := [(92, 0)]
abbrev s_R_depends : List (Nat × Nat) := []
abbrev h_R_depends : List (Nat × Nat) := []
abbrev w_R_depends : List (Nat × List Nat) := []
abbrev x_R_depends : List String := []
theorem k_R_depends : t_R_depends.all (cx_dec true prog_6_method_15_code (some (.int)) 4 g_R p_R l_R v_R_depends s_R_depends h_R_depends w_R_depends) = true := by decide +kernel
abbrev m_R_depends : MethodName := ⟨"CycleCutterModel", "depends", "(I)I"⟩
-- calls of R_depends: 0 = CycleCutterModel.truth(II)Z
def t_R_same : List (Nat × cx_E) := [(0, .iconst 1, 1, 0, 0, 0, 1),
  (1, .istore_n 3, 0, 0, 3, 0, 2),
  (2, .iconst 0, 0, 0, 0, 0, 3),
  (3, .istore 4, 0, 0, 4, 0, 5),
  (5, .iload 4, 0, 0, 4, 0, 7),
  (7, .iconst 4, 4, 0, 0, 0, 8),
  (8, .if_icmp .ge 45, 0, 0, 53, 0, 11),
  (11, .iload_n 3, 0, 0, 3, 0, 12),
  (12, .ifCond .eq 33, 0, 0, 45, 0, 15),
  (15, .aload_n 0, 0, 0, 0, 0, 16),
  (16, .getfield 32, 0, 0, 4, 14, 19),
  (19, .iconst 4, 4, 0, 0, 0, 20),
  (20, .iload_n 1, 0, 0, 1, 0, 21),
  (21, .imul, 0, 0, 0, 0, 22),
  (22, .iload 4, 0, 0, 4, 0, 24),
  (24, .iadd, 0, 0, 0, 0, 25),
  (25, .laload, 0, 0, 0, 0, 26),
  (26, .aload_n 0, 0, 0, 0, 0, 27),
  (27, .getfield 32, 0, 0, 4, 14, 30),
  (30, .iconst 4, 4, 0, 0, 0, 31),
  (31, .iload_n 2, 0, 0, 2, 0, 32),
  (32, .imul, 0, 0, 0, 0, 33),
  (33, .iload 4, 0, 0, 4, 0, 35),
  (35, .iadd, 0, 0, 0, 0, 36),
  (36, .laload, 0, 0, 0, 0, 37),
  (37, .lcmp, 0, 0, 0, 0, 38),
  (38, .ifCond .ne 7, 0, 0, 45, 0, 41),
  (41, .iconst 1, 1, 0, 0, 0, 42),
  (42, .goto 4, 0, 0, 46, 0, 45),
  (45, .iconst 0, 0, 0, 0, 0, 46),
  (46, .istore_n 3, 0, 0, 3, 0, 47),
  (47, .iinc 4 1, 1, 0, 4, 0, 50),
  (50, .goto (-45), 0, 0, 5, 0, 53),
  (53, .iload_n 3, 0, 0, 3, 0, 54),
  (54, .ireturn, 1, 0, 0, 0, 55)]
abbrev v_R_same : List (Nat × Nat) := []
abbrev s_R_same : List (Nat × Nat) := []
abbrev h_R_same : List (Nat × Nat) := []
abbrev w_R_same : List (Nat × List Nat) := []
abbrev x_R_same : List String := []
theorem k_R_same : t_R_same.all (cx_dec true prog_6_method_16_code (some (.boolean)) 5 g_R p_R l_R v_R_same s_R_same h_R_same w_R_same) = true := by decide +kernel
abbrev m_R_same : MethodName := ⟨"CycleCutterModel", "same", "(II)Z"⟩
-- calls of R_same: 
def t_R_fix : List (Nat × cx_E) := [(0, .aload_n 0, 0, 0, 0, 0, 1),
  (1, .bipush 20, 20, 0, 0, 0, 3),
  (3, .aload_n 0, 0, 0, 0, 0, 4),
  (4, .getfield 81, 0, 0, 4, 13, 7),
  (7, .iadd, 0, 0, 0, 0, 8),
  (8, .invokevirtual 96, 0, 0, 0, 0, 11),
  (11, .iconst 0, 0, 0, 0, 0, 12),
  (12, .istore 4, 0, 0, 4, 0, 14),
  (14, .iload 4, 0, 0, 4, 0, 16),
  (16, .sipush 256, 256, 0, 0, 0, 19),
  (19, .if_icmp .ge 60, 0, 0, 79, 0, 22),
  (22, .iload_n 3, 0, 0, 3, 0, 23),
  (23, .iconst 1, 1, 0, 0, 0, 24),
  (24, .if_icmp .ne 14, 0, 0, 38, 0, 27),
  (27, .iload 4, 0, 0, 4, 0, 29),
  (29, .sipush 128, 128, 0, 0, 0, 32),
  (32, .iload_n 2, 0, 0, 2, 0, 33),
  (33, .ishr, 0, 0, 0, 0, 34),
  (34, .ior, 0, 0, 0, 0, 35),
  (35, .goto 13, 0, 0, 48, 0, 38),
  (38, .iload 4, 0, 0, 4, 0, 40),
  (40, .sipush 128, 128, 0, 0, 0, 43),
  (43, .iload_n 2, 0, 0, 2, 0, 44),
  (44, .ishr, 0, 0, 0, 0, 45),
  (45, .iconst (-1), (-1), 0, 0, 0, 46),
  (46, .ixor, 0, 0, 0, 0, 47),
  (47, .iand, 0, 0, 0, 0, 48),
  (48, .istore 5, 0, 0, 5, 0, 50),
  (50, .aload_n 0, 0, 0, 0, 0, 51),
  (51, .iload_n 1, 0, 0, 1, 0, 52),
  (52, .iload 5, 0, 0, 5, 0, 54),
  (54, .invokevirtual 92, 0, 0, 1, 0, 57),
  (57, .ifCond .eq 16, 0, 0, 73, 0, 60),
  (60, .aload_n 0, 0, 0, 0, 0, 61),
  (61, .bipush 20, 20, 0, 0, 0, 63),
  (63, .aload_n 0, 0, 0, 0, 0, 64),
  (64, .getfield 81, 0, 0, 4, 13, 67),
  (67, .iadd, 0, 0, 0, 0, 68),
  (68, .iload 4, 0, 0, 4, 0, 70),
  (70, .invokevirtual 99, 0, 0, 2, 0, 73),
  (73, .iinc 4 1, 1, 0, 4, 0, 76),
  (76, .goto (-62), 0, 0, 14, 0, 79),
  (79, .return_, 0, 0, 0, 0, 80)]
abbrev v_R_fix : List (Nat × Nat) := [(92, 1), (96, 0), (99, 2)]
abbrev s_R_fix : List (Nat × Nat) := []
abbrev h_R_fix : List (Nat × Nat) := []
abbrev w_R_fix : List (Nat × List Nat) := []
abbrev x_R_fix : List String := []
theorem k_R_fix : t_R_fix.all (cx_dec true prog_6_method_17_code none 6 g_R p_R l_R v_R_fix s_R_fix h_R_fix w_R_fix) = true := by decide +kernel
abbrev m_R_fix : MethodName := ⟨"CycleCutterModel", "fix", "(III)V"⟩
-- calls of R_fix: 0 = CycleCutterModel.empty(I)V, 1 = CycleCutterModel.truth(II)Z, 2 = CycleCutterModel.set(II)V
def t_R_number : List (Nat × cx_E) := [(0, .bipush 20, 20, 0, 0, 0, 2),
  (2, .aload_n 0, 0, 0, 0, 0, 3),
  (3, .getfield 81, 0, 0, 4, 13, 6),
  (6, .iadd, 0, 0, 0, 0, 7),
  (7, .istore_n 1, 0, 0, 1, 0, 8),
  (8, .aload_n 0, 0, 0, 0, 0, 9),
  (9, .iload_n 1, 0, 0, 1, 0, 10),
  (10, .invokevirtual 103, 0, 0, 0, 0, 13),
  (13, .istore_n 2, 0, 0, 2, 0, 14),
  (14, .iload_n 2, 0, 0, 2, 0, 15),
  (15, .bipush 8, 8, 0, 0, 0, 17),
  (17, .if_icmp .ne 5, 0, 0, 22, 0, 20),
  (20, .iconst (-1), (-1), 0, 0, 0, 21),
  (21, .ireturn, 0, 0, 0, 0, 22),
  (22, .iconst 0, 0, 0, 0, 0, 23),
  (23, .istore_n 3, 0, 0, 3, 0, 24),
  (24, .iload_n 3, 0, 0, 3, 0, 25),
  (25, .aload_n 0, 0, 0, 0, 0, 26),
  (26, .getfield 81, 0, 0, 4, 13, 29),
  (29, .if_icmp .ge 23, 0, 0, 52, 0, 32),
  (32, .aload_n 0, 0, 0, 0, 0, 33),
  (33, .bipush 20, 20, 0, 0, 0, 35),
  (35, .iload_n 3, 0, 0, 3, 0, 36),
  (36, .iadd, 0, 0, 0, 0, 37),
  (37, .iload_n 1, 0, 0, 1, 0, 38),
  (38, .invokevirtual 106, 0, 0, 1, 0, 41),
  (41, .ifCond .eq 5, 0, 0, 46, 0, 44),
  (44, .iload_n 3, 0, 0, 3, 0, 45),
  (45, .ireturn, 0, 0, 0, 0, 46),
  (46, .iinc 3 1, 1, 0, 3, 0, 49),
  (49, .goto (-25), 0, 0, 24, 0, 52),
  (52, .aload_n 0, 0, 0, 0, 0, 53),
  (53, .getfield 36, 0, 0, 4, 15, 56),
  (56, .aload_n 0, 0, 0, 0, 0, 57),
  (57, .getfield 81, 0, 0, 4, 13, 60),
  (60, .iload_n 2, 0, 0, 2, 0, 61),
  (61, .iastore, 0, 0, 0, 0, 62),
  (62, .aload_n 0, 0, 0, 0, 0, 63),
  (63, .dup, 0, 0, 0, 0, 64),
  (64, .getfield 81, 0, 0, 4, 13, 67),
  (67, .iconst 1, 1, 0, 0, 0, 68),
  (68, .iadd, 0, 0, 0, 0, 69),
  (69, .putfield 81, 0, 0, 4, 13, 72),
  (72, .aload_n 0, 0, 0, 0, 0, 73),
  (73, .getfield 81, 0, 0, 4, 13, 76),
  (76, .iconst 1, 1, 0, 0, 0, 77),
  (77, .isub, 0, 0, 0, 0, 78),
  (78, .ireturn, 0, 0, 0, 0, 79)]
abbrev v_R_number : List (Nat × Nat) := [(103, 0), (106, 1)]
abbrev s_R_number : List (Nat × Nat) := []
abbrev h_R_number : List (Nat × Nat) := []
abbrev w_R_number : List (Nat × List Nat) := []
abbrev x_R_number : List String := []
theorem k_R_number : t_R_number.all (cx_dec true prog_6_method_18_code (some (.int)) 4 g_R p_R l_R v_R_number s_R_number h_R_number w_R_number) = true := by decide +kernel
abbrev m_R_number : MethodName := ⟨"CycleCutterModel", "number", "()I"⟩
-- calls of R_number: 0 = CycleCutterModel.depends(I)I, 1 = CycleCutterModel.same(II)Z
def t_R_lay : List (Nat × cx_E) := [(0, .aload_n 0, 0, 0, 0, 0, 1),
  (1, .iconst 0, 0, 0, 0, 0, 2),
  (2, .putfield 54, 0, 0, 4, 0, 5),
  (5, .aload_n 0, 0, 0, 0, 0, 6),
  (6, .iconst 0, 0, 0, 0, 0, 7),
  (7, .putfield 81, 0, 0, 4, 13, 10),
  (10, .aload_n 0, 0, 0, 0, 0, 11),
  (11, .aload_n 0, 0, 0, 0, 0, 12),
  (12, .getfield 75, 0, 0, 4, 4, 15),
  (15, .putfield 78, 0, 0, 4, 12, 18),
  (18, .iconst 0, 0, 0, 0, 0, 19),
  (19, .istore_n 1, 0, 0, 1, 0, 20),
  (20, .iload_n 1, 0, 0, 1, 0, 21),
  (21, .bipush 20, 20, 0, 0, 0, 23),
  (23, .if_icmp .ge 14, 0, 0, 37, 0, 26),
  (26, .aload_n 0, 0, 0, 0, 0, 27),
  (27, .iload_n 1, 0, 0, 1, 0, 28),
  (28, .invokevirtual 96, 0, 0, 0, 0, 31),
  (31, .iinc 1 1, 1, 0, 1, 0, 34),
  (34, .goto (-14), 0, 0, 20, 0, 37),
  (37, .iconst 0, 0, 0, 0, 0, 38),
  (38, .istore_n 1, 0, 0, 1, 0, 39),
  (39, .iload_n 1, 0, 0, 1, 0, 40),
  (40, .sipush 256, 256, 0, 0, 0, 43),
  (43, .if_icmp .ge 68, 0, 0, 111, 0, 46),
  (46, .aload_n 0, 0, 0, 0, 0, 47),
  (47, .iload_n 1, 0, 0, 1, 0, 48),
  (48, .invokevirtual 88, 0, 0, 1, 0, 51),
  (51, .iconst 0, 0, 0, 0, 0, 52),
  (52, .istore_n 2, 0, 0, 2, 0, 53),
  (53, .iload_n 2, 0, 0, 2, 0, 54),
  (54, .aload_n 0, 0, 0, 0, 0, 55),
  (55, .getfield 75, 0, 0, 4, 4, 58),
  (58, .if_icmp .ge 47, 0, 0, 105, 0, 61),
  (61, .aload_n 0, 0, 0, 0, 0, 62),
  (62, .getfield 29, 0, 0, 4, 11, 65),
  (65, .aload_n 0, 0, 0, 0, 0, 66),
  (66, .getfield 22, 0, 0, 4, 9, 69),
  (69, .iload_n 2, 0, 0, 2, 0, 70),
  (70, .iaload, 0, 0, 0, 0, 71),
  (71, .iaload, 0, 0, 0, 0, 72),
  (72, .istore_n 3, 0, 0, 3, 0, 73),
  (73, .iload_n 3, 0, 0, 3, 0, 74),
  (74, .iconst 2, 2, 0, 0, 0, 75),
  (75, .if_icmp .eq 24, 0, 0, 99, 0, 78),
  (78, .aload_n 0, 0, 0, 0, 0, 79),
  (79, .iload_n 3, 0, 0, 3, 0, 80),
  (80, .iconst 1, 1, 0, 0, 0, 81),
  (81, .if_icmp .ne 9, 0, 0, 90, 0, 84),
  (84, .iconst 2, 2, 0, 0, 0, 85),
  (85, .iload_n 2, 0, 0, 2, 0, 86),
  (86, .imul, 0, 0, 0, 0, 87),
  (87, .goto 8, 0, 0, 95, 0, 90),
  (90, .iconst 2, 2, 0, 0, 0, 91),
  (91, .iload_n 2, 0, 0, 2, 0, 92),
  (92, .imul, 0, 0, 0, 0, 93),
  (93, .iconst 1, 1, 0, 0, 0, 94),
  (94, .iadd, 0, 0, 0, 0, 95),
  (95, .iload_n 1, 0, 0, 1, 0, 96),
  (96, .invokevirtual 99, 0, 0, 2, 0, 99),
  (99, .iinc 2 1, 1, 0, 2, 0, 102),
  (102, .goto (-49), 0, 0, 53, 0, 105),
  (105, .iinc 1 1, 1, 0, 1, 0, 108),
  (108, .goto (-69), 0, 0, 39, 0, 111),
  (111, .iconst 0, 0, 0, 0, 0, 112),
  (112, .istore_n 1, 0, 0, 1, 0, 113),
  (113, .iload_n 1, 0, 0, 1, 0, 114),
  (114, .iconst 2, 2, 0, 0, 0, 115),
  (115, .aload_n 0, 0, 0, 0, 0, 116),
  (116, .getfield 75, 0, 0, 4, 4, 119),
  (119, .imul, 0, 0, 0, 0, 120),
  (120, .if_icmp .ge 58, 0, 0, 178, 0, 123),
  (123, .iconst 0, 0, 0, 0, 0, 124),
  (124, .istore_n 2, 0, 0, 2, 0, 125),
  (125, .iload_n 2, 0, 0, 2, 0, 126),
  (126, .iconst 4, 4, 0, 0, 0, 127),
  (127, .if_icmp .ge 35, 0, 0, 162, 0, 130),
  (130, .aload_n 0, 0, 0, 0, 0, 131),
  (131, .getfield 32, 0, 0, 4, 14, 134),
  (134, .bipush 80, 80, 0, 0, 0, 136),
  (136, .iconst 4, 4, 0, 0, 0, 137),
  (137, .aload_n 0, 0, 0, 0, 0, 138),
  (138, .getfield 81, 0, 0, 4, 13, 141),
  (141, .imul, 0, 0, 0, 0, 142),
  (142, .iadd, 0, 0, 0, 0, 143),
  (143, .iload_n 2, 0, 0, 2, 0, 144),
  (144, .iadd, 0, 0, 0, 0, 145),
  (145, .aload_n 0, 0, 0, 0, 0, 146),
  (146, .getfield 32, 0, 0, 4, 14, 149),
  (149, .iconst 4, 4, 0, 0, 0, 150),
  (150, .iload_n 1, 0, 0, 1, 0, 151),
  (151, .imul, 0, 0, 0, 0, 152),
  (152, .iload_n 2, 0, 0, 2, 0, 153),
  (153, .iadd, 0, 0, 0, 0, 154),
  (154, .laload, 0, 0, 0, 0, 155),
  (155, .lastore, 0, 0, 0, 0, 156),
  (156, .iinc 2 1, 1, 0, 2, 0, 159),
  (159, .goto (-34), 0, 0, 125, 0, 162),
  (162, .aload_n 0, 0, 0, 0, 0, 163),
  (163, .getfield 48, 0, 0, 4, 19, 166),
  (166, .iload_n 1, 0, 0, 1, 0, 167),
  (167, .aload_n 0, 0, 0, 0, 0, 168),
  (168, .invokevirtual 109, 0, 0, 3, 0, 171),
  (171, .iastore, 0, 0, 0, 0, 172),
  (172, .iinc 1 1, 1, 0, 1, 0, 175),
  (175, .goto (-62), 0, 0, 113, 0, 178),
  (178, .iconst 0, 0, 0, 0, 0, 179),
  (179, .istore_n 1, 0, 0, 1, 0, 180),
  (180, .iload_n 1, 0, 0, 1, 0, 181),
  (181, .aload_n 0, 0, 0, 0, 0, 182),
  (182, .getfield 81, 0, 0, 4, 13, 185),
  (185, .if_icmp .ge 59, 0, 0, 244, 0, 188),
  (188, .aload_n 0, 0, 0, 0, 0, 189),
  (189, .bipush 20, 20, 0, 0, 0, 191),
  (191, .iload_n 1, 0, 0, 1, 0, 192),
  (192, .iadd, 0, 0, 0, 0, 193),
  (193, .aload_n 0, 0, 0, 0, 0, 194),
  (194, .getfield 36, 0, 0, 4, 15, 197),
  (197, .iload_n 1, 0, 0, 1, 0, 198),
  (198, .iaload, 0, 0, 0, 0, 199),
  (199, .iconst 0, 0, 0, 0, 0, 200),
  (200, .invokevirtual 113, 0, 0, 4, 0, 203),
  (203, .aload_n 0, 0, 0, 0, 0, 204),
  (204, .getfield 39, 0, 0, 4, 16, 207),
  (207, .iload_n 1, 0, 0, 1, 0, 208),
  (208, .aload_n 0, 0, 0, 0, 0, 209),
  (209, .invokevirtual 109, 0, 0, 3, 0, 212),
  (212, .iastore, 0, 0, 0, 0, 213),
  (213, .aload_n 0, 0, 0, 0, 0, 214),
  (214, .bipush 20, 20, 0, 0, 0, 216),
  (216, .iload_n 1, 0, 0, 1, 0, 217),
  (217, .iadd, 0, 0, 0, 0, 218),
  (218, .aload_n 0, 0, 0, 0, 0, 219),
  (219, .getfield 36, 0, 0, 4, 15, 222),
  (222, .iload_n 1, 0, 0, 1, 0, 223),
  (223, .iaload, 0, 0, 0, 0, 224),
  (224, .iconst 1, 1, 0, 0, 0, 225),
  (225, .invokevirtual 113, 0, 0, 4, 0, 228),
  (228, .aload_n 0, 0, 0, 0, 0, 229),
  (229, .getfield 42, 0, 0, 4, 17, 232),
  (232, .iload_n 1, 0, 0, 1, 0, 233),
  (233, .aload_n 0, 0, 0, 0, 0, 234),
  (234, .invokevirtual 109, 0, 0, 3, 0, 237),
  (237, .iastore, 0, 0, 0, 0, 238),
  (238, .iinc 1 1, 1, 0, 1, 0, 241),
  (241, .goto (-61), 0, 0, 180, 0, 244),
  (244, .bipush 7, 7, 0, 0, 0, 246),
  (246, .istore_n 1, 0, 0, 1, 0, 247),
  (247, .iload_n 1, 0, 0, 1, 0, 248),
  (248, .ifCond .lt 108, 0, 0, 356, 0, 251),
  (251, .iconst 0, 0, 0, 0, 0, 252),
  (252, .istore_n 2, 0, 0, 2, 0, 253),
  (253, .iload_n 2, 0, 0, 2, 0, 254),
  (254, .aload_n 0, 0, 0, 0, 0, 255),
  (255, .getfield 81, 0, 0, 4, 13, 258),
  (258, .if_icmp .ge 92, 0, 0, 350, 0, 261),
  (261, .aload_n 0, 0, 0, 0, 0, 262),
  (262, .getfield 39, 0, 0, 4, 16, 265),
  (265, .iload_n 2, 0, 0, 2, 0, 266),
  (266, .iaload, 0, 0, 0, 0, 267),
  (267, .iconst (-1), (-1), 0, 0, 0, 268),
  (268, .if_icmp .ne 7, 0, 0, 275, 0, 271),
  (271, .iconst 0, 0, 0, 0, 0, 272),
  (272, .goto 14, 0, 0, 286, 0, 275),
  (275, .aload_n 0, 0, 0, 0, 0, 276),
  (276, .getfield 45, 0, 0, 4, 18, 279),
  (279, .aload_n 0, 0, 0, 0, 0, 280),
  (280, .getfield 39, 0, 0, 4, 16, 283),
  (283, .iload_n 2, 0, 0, 2, 0, 284),
  (284, .iaload, 0, 0, 0, 0, 285),
  (285, .iaload, 0, 0, 0, 0, 286),
  (286, .istore_n 3, 0, 0, 3, 0, 287),
  (287, .aload_n 0, 0, 0, 0, 0, 288),
  (288, .getfield 42, 0, 0, 4, 17, 291),
  (291, .iload_n 2, 0, 0, 2, 0, 292),
  (292, .iaload, 0, 0, 0, 0, 293),
  (293, .iconst (-1), (-1), 0, 0, 0, 294),
  (294, .if_icmp .ne 7, 0, 0, 301, 0, 297),
  (297, .iconst 0, 0, 0, 0, 0, 298),
  (298, .goto 14, 0, 0, 312, 0, 301),
  (301, .aload_n 0, 0, 0, 0, 0, 302),
  (302, .getfield 45, 0, 0, 4, 18, 305),
  (305, .aload_n 0, 0, 0, 0, 0, 306),
  (306, .getfield 42, 0, 0, 4, 17, 309),
  (309, .iload_n 2, 0, 0, 2, 0, 310),
  (310, .iaload, 0, 0, 0, 0, 311),
  (311, .iaload, 0, 0, 0, 0, 312),
  (312, .istore 4, 0, 0, 4, 0, 314),
  (314, .aload_n 0, 0, 0, 0, 0, 315),
  (315, .getfield 36, 0, 0, 4, 15, 318),
  (318, .iload_n 2, 0, 0, 2, 0, 319),
  (319, .iaload, 0, 0, 0, 0, 320),
  (320, .iload_n 1, 0, 0, 1, 0, 321),
  (321, .if_icmp .ne 23, 0, 0, 344, 0, 324),
  (324, .aload_n 0, 0, 0, 0, 0, 325),
  (325, .getfield 45, 0, 0, 4, 18, 328),
  (328, .iload_n 2, 0, 0, 2, 0, 329),
  (329, .iconst 1, 1, 0, 0, 0, 330),
  (330, .iload_n 3, 0, 0, 3, 0, 331),
  (331, .iload 4, 0, 0, 4, 0, 333),
  (333, .if_icmp .le 7, 0, 0, 340, 0, 336),
  (336, .iload_n 3, 0, 0, 3, 0, 337),
  (337, .goto 5, 0, 0, 342, 0, 340),
  (340, .iload 4, 0, 0, 4, 0, 342),
  (342, .iadd, 0, 0, 0, 0, 343),
  (343, .iastore, 0, 0, 0, 0, 344),
  (344, .iinc 2 1, 1, 0, 2, 0, 347),
  (347, .goto (-94), 0, 0, 253, 0, 350),
  (350, .iinc 1 (-1), (-1), 0, 1, 0, 353),
  (353, .goto (-106), 0, 0, 247, 0, 356),
  (356, .aload_n 0, 0, 0, 0, 0, 357),
  (357, .getfield 81, 0, 0, 4, 13, 360),
  (360, .ireturn, 0, 0, 0, 0, 361)]
abbrev v_R_lay : List (Nat × Nat) := [(88, 1), (96, 0), (99, 2), (109, 3), (113, 4)]
abbrev s_R_lay : List (Nat × Nat) := []
abbrev h_R_lay : List (Nat × Nat) := []
abbrev w_R_lay : List (Nat × List Nat) := []
abbrev x_R_lay : List String := []
theorem k_R_lay : t_R_lay.all (cx_dec true prog_6_method_19_code (some (.int)) 5 g_R p_R l_R v_R_lay s_R_lay h_R_lay w_R_lay) = true := by decide +kernel
abbrev m_R_lay : MethodName := ⟨"CycleCutterModel", "lay", "()I"⟩
-- calls of R_lay: 0 = CycleCutterModel.empty(I)V, 1 = CycleCutterModel.spread(I)V, 2 = CycleCutterModel.set(II)V, 3 = CycleCutterModel.number()I, 4 = CycleCutterModel.fix(III)V
def t_R_refuses : List (Nat × cx_E) := [(0, .aload_n 0, 0, 0, 0, 0, 1),
  (1, .iload_n 1, 0, 0, 1, 0, 2),
  (2, .ifCond .lt 22, 0, 0, 24, 0, 5),
  (5, .iload_n 1, 0, 0, 1, 0, 6),
  (6, .aload_n 0, 0, 0, 0, 0, 7),
  (7, .getfield 78, 0, 0, 4, 12, 10),
  (10, .if_icmp .ge 14, 0, 0, 24, 0, 13),
  (13, .iload_n 2, 0, 0, 2, 0, 14),
  (14, .ifCond .lt 10, 0, 0, 24, 0, 17),
  (17, .iload_n 2, 0, 0, 2, 0, 18),
  (18, .sipush 255, 255, 0, 0, 0, 21),
  (21, .if_icmp .le 7, 0, 0, 28, 0, 24),
  (24, .iconst 1, 1, 0, 0, 0, 25),
  (25, .goto 4, 0, 0, 29, 0, 28),
  (28, .iconst 0, 0, 0, 0, 0, 29),
  (29, .iconst 0, 0, 0, 0, 0, 30),
  (30, .invokevirtual 61, 0, 0, 0, 0, 33),
  (33, .ireturn, 1, 0, 0, 0, 34)]
abbrev v_R_refuses : List (Nat × Nat) := [(61, 0)]
abbrev s_R_refuses : List (Nat × Nat) := []
abbrev h_R_refuses : List (Nat × Nat) := []
abbrev w_R_refuses : List (Nat × List Nat) := []
abbrev x_R_refuses : List String := []
theorem k_R_refuses : t_R_refuses.all (cx_dec true prog_6_method_20_code (some (.boolean)) 3 g_R p_R l_R v_R_refuses s_R_refuses h_R_refuses w_R_refuses) = true := by decide +kernel
abbrev m_R_refuses : MethodName := ⟨"CycleCutterModel", "refuses", "(II)Z"⟩
-- calls of R_refuses: 0 = CycleCutterModel.fails(ZZ)Z
def t_R_run : List (Nat × cx_E) := [(0, .aload_n 0, 0, 0, 0, 0, 1),
  (1, .iload_n 1, 0, 0, 1, 0, 2),
  (2, .iload_n 2, 0, 0, 2, 0, 3),
  (3, .invokevirtual 117, 0, 0, 0, 0, 6),
  (6, .ifCond .eq 5, 0, 0, 11, 0, 9),
  (9, .iconst 0, 0, 0, 0, 0, 10),
  (10, .ireturn, 0, 0, 0, 0, 11),
  (11, .aload_n 0, 0, 0, 0, 0, 12),
  (12, .iconst 2, 2, 0, 0, 0, 13),
  (13, .iload_n 1, 0, 0, 1, 0, 14),
  (14, .imul, 0, 0, 0, 0, 15),
  (15, .iload_n 2, 0, 0, 2, 0, 16),
  (16, .invokevirtual 92, 0, 0, 1, 0, 19),
  (19, .ifCond .eq 7, 0, 0, 26, 0, 22),
  (22, .iconst 1, 1, 0, 0, 0, 23),
  (23, .goto 21, 0, 0, 44, 0, 26),
  (26, .aload_n 0, 0, 0, 0, 0, 27),
  (27, .iconst 2, 2, 0, 0, 0, 28),
  (28, .iload_n 1, 0, 0, 1, 0, 29),
  (29, .imul, 0, 0, 0, 0, 30),
  (30, .iconst 1, 1, 0, 0, 0, 31),
  (31, .iadd, 0, 0, 0, 0, 32),
  (32, .iload_n 2, 0, 0, 2, 0, 33),
  (33, .invokevirtual 92, 0, 0, 1, 0, 36),
  (36, .ifCond .eq 7, 0, 0, 43, 0, 39),
  (39, .iconst 0, 0, 0, 0, 0, 40),
  (40, .goto 4, 0, 0, 44, 0, 43),
  (43, .iconst 2, 2, 0, 0, 0, 44),
  (44, .ireturn, 0, 0, 0, 0, 45)]
abbrev v_R_run : List (Nat × Nat) := [(92, 1), (117, 0)]
abbrev s_R_run : List (Nat × Nat) := []
abbrev h_R_run : List (Nat × Nat) := []
abbrev w_R_run : List (Nat × List Nat) := []
abbrev x_R_run : List String := []
theorem k_R_run : t_R_run.all (cx_dec true prog_6_method_21_code (some (.int)) 3 g_R p_R l_R v_R_run s_R_run h_R_run w_R_run) = true := by decide +kernel
abbrev m_R_run : MethodName := ⟨"CycleCutterModel", "run", "(II)I"⟩
-- calls of R_run: 0 = CycleCutterModel.refuses(II)Z, 1 = CycleCutterModel.truth(II)Z
def t_R_way : List (Nat × cx_E) := [(0, .aload_n 0, 0, 0, 0, 0, 1),
  (1, .iload_n 1, 0, 0, 1, 0, 2),
  (2, .iload_n 2, 0, 0, 2, 0, 3),
  (3, .invokevirtual 117, 0, 0, 0, 0, 6),
  (6, .ifCond .eq 5, 0, 0, 11, 0, 9),
  (9, .iconst 0, 0, 0, 0, 0, 10),
  (10, .ireturn, 0, 0, 0, 0, 11),
  (11, .iconst 0, 0, 0, 0, 0, 12),
  (12, .istore_n 3, 0, 0, 3, 0, 13),
  (13, .iconst 0, 0, 0, 0, 0, 14),
  (14, .istore 4, 0, 0, 4, 0, 16),
  (16, .iload 4, 0, 0, 4, 0, 18),
  (18, .iconst 2, 2, 0, 0, 0, 19),
  (19, .if_icmp .ge 71, 0, 0, 90, 0, 22),
  (22, .aload_n 0, 0, 0, 0, 0, 23),
  (23, .getfield 48, 0, 0, 4, 19, 26),
  (26, .iconst 2, 2, 0, 0, 0, 27),
  (27, .iload_n 1, 0, 0, 1, 0, 28),
  (28, .imul, 0, 0, 0, 0, 29),
  (29, .iload 4, 0, 0, 4, 0, 31),
  (31, .iadd, 0, 0, 0, 0, 32),
  (32, .iaload, 0, 0, 0, 0, 33),
  (33, .istore 5, 0, 0, 5, 0, 35),
  (35, .iload 5, 0, 0, 5, 0, 37),
  (37, .iconst (-1), (-1), 0, 0, 0, 38),
  (38, .if_icmp .eq 46, 0, 0, 84, 0, 41),
  (41, .iinc 3 1, 1, 0, 3, 0, 44),
  (44, .iload_n 2, 0, 0, 2, 0, 45),
  (45, .bipush 7, 7, 0, 0, 0, 47),
  (47, .aload_n 0, 0, 0, 0, 0, 48),
  (48, .getfield 36, 0, 0, 4, 15, 51),
  (51, .iload 5, 0, 0, 5, 0, 53),
  (53, .iaload, 0, 0, 0, 0, 54),
  (54, .isub, 0, 0, 0, 0, 55),
  (55, .ishr, 0, 0, 0, 0, 56),
  (56, .iconst 1, 1, 0, 0, 0, 57),
  (57, .iand, 0, 0, 0, 0, 58),
  (58, .iconst 1, 1, 0, 0, 0, 59),
  (59, .if_icmp .ne 13, 0, 0, 72, 0, 62),
  (62, .aload_n 0, 0, 0, 0, 0, 63),
  (63, .getfield 42, 0, 0, 4, 17, 66),
  (66, .iload 5, 0, 0, 5, 0, 68),
  (68, .iaload, 0, 0, 0, 0, 69),
  (69, .goto 10, 0, 0, 79, 0, 72),
  (72, .aload_n 0, 0, 0, 0, 0, 73),
  (73, .getfield 39, 0, 0, 4, 16, 76),
  (76, .iload 5, 0, 0, 5, 0, 78),
  (78, .iaload, 0, 0, 0, 0, 79),
  (79, .istore 5, 0, 0, 5, 0, 81),
  (81, .goto (-46), 0, 0, 35, 0, 84),
  (84, .iinc 4 1, 1, 0, 4, 0, 87),
  (87, .goto (-71), 0, 0, 16, 0, 90),
  (90, .iload_n 3, 0, 0, 3, 0, 91),
  (91, .ireturn, 0, 0, 0, 0, 92)]
abbrev v_R_way : List (Nat × Nat) := [(117, 0)]
abbrev s_R_way : List (Nat × Nat) := []
abbrev h_R_way : List (Nat × Nat) := []
abbrev w_R_way : List (Nat × List Nat) := []
abbrev x_R_way : List String := []
theorem k_R_way : t_R_way.all (cx_dec true prog_6_method_22_code (some (.int)) 6 g_R p_R l_R v_R_way s_R_way h_R_way w_R_way) = true := by decide +kernel
abbrev m_R_way : MethodName := ⟨"CycleCutterModel", "way", "(II)I"⟩
-- calls of R_way: 0 = CycleCutterModel.refuses(II)Z
def t_R_at : List (Nat × cx_E) := [(0, .aload_n 0, 0, 0, 0, 0, 1),
  (1, .iconst 0, 0, 0, 0, 0, 2),
  (2, .putfield 54, 0, 0, 4, 0, 5),
  (5, .iconst 0, 0, 0, 0, 0, 6),
  (6, .istore_n 2, 0, 0, 2, 0, 7),
  (7, .iconst 0, 0, 0, 0, 0, 8),
  (8, .istore_n 3, 0, 0, 3, 0, 9),
  (9, .iload_n 3, 0, 0, 3, 0, 10),
  (10, .aload_n 0, 0, 0, 0, 0, 11),
  (11, .getfield 81, 0, 0, 4, 13, 14),
  (14, .if_icmp .ge 27, 0, 0, 41, 0, 17),
  (17, .iload_n 2, 0, 0, 2, 0, 18),
  (18, .aload_n 0, 0, 0, 0, 0, 19),
  (19, .getfield 36, 0, 0, 4, 15, 22),
  (22, .iload_n 3, 0, 0, 3, 0, 23),
  (23, .iaload, 0, 0, 0, 0, 24),
  (24, .iload_n 1, 0, 0, 1, 0, 25),
  (25, .if_icmp .ne 7, 0, 0, 32, 0, 28),
  (28, .iconst 1, 1, 0, 0, 0, 29),
  (29, .goto 4, 0, 0, 33, 0, 32),
  (32, .iconst 0, 0, 0, 0, 0, 33),
  (33, .iadd, 0, 0, 0, 0, 34),
  (34, .istore_n 2, 0, 0, 2, 0, 35),
  (35, .iinc 3 1, 1, 0, 3, 0, 38),
  (38, .goto (-29), 0, 0, 9, 0, 41),
  (41, .iload_n 2, 0, 0, 2, 0, 42),
  (42, .ireturn, 0, 0, 0, 0, 43)]
abbrev v_R_at : List (Nat × Nat) := []
abbrev s_R_at : List (Nat × Nat) := []
abbrev h_R_at : List (Nat × Nat) := []
abbrev w_R_at : List (Nat × List Nat) := []
abbrev x_R_at : List String := []
theorem k_R_at : t_R_at.all (cx_dec true prog_6_method_23_code (some (.int)) 4 g_R p_R l_R v_R_at s_R_at h_R_at w_R_at) = true := by decide +kernel
abbrev m_R_at : MethodName := ⟨"CycleCutterModel", "at", "(I)I"⟩
-- calls of R_at: 
def t_R_size : List (Nat × cx_E) := [(0, .aload_n 0, 0, 0, 0, 0, 1),
  (1, .iload_n 1, 0, 0, 1, 0, 2),
  (2, .iconst 0, 0, 0, 0, 0, 3),
  (3, .invokevirtual 117, 0, 0, 0, 0, 6),
  (6, .ifCond .eq 5, 0, 0, 11, 0, 9),
  (9, .iconst 0, 0, 0, 0, 0, 10),
  (10, .ireturn, 0, 0, 0, 0, 11),
  (11, .iconst 0, 0, 0, 0, 0, 12),
  (12, .istore_n 3, 0, 0, 3, 0, 13),
  (13, .iload_n 3, 0, 0, 3, 0, 14),
  (14, .aload_n 0, 0, 0, 0, 0, 15),
  (15, .getfield 81, 0, 0, 4, 13, 18),
  (18, .if_icmp .ge 16, 0, 0, 34, 0, 21),
  (21, .aload_n 0, 0, 0, 0, 0, 22),
  (22, .getfield 51, 0, 0, 4, 20, 25),
  (25, .iload_n 3, 0, 0, 3, 0, 26),
  (26, .iconst 0, 0, 0, 0, 0, 27),
  (27, .bastore, 0, 0, 0, 0, 28),
  (28, .iinc 3 1, 1, 0, 3, 0, 31),
  (31, .goto (-18), 0, 0, 13, 0, 34),
  (34, .aload_n 0, 0, 0, 0, 0, 35),
  (35, .getfield 48, 0, 0, 4, 19, 38),
  (38, .iload_n 2, 0, 0, 2, 0, 39),
  (39, .ifCond .eq 9, 0, 0, 48, 0, 42),
  (42, .iconst 2, 2, 0, 0, 0, 43),
  (43, .iload_n 1, 0, 0, 1, 0, 44),
  (44, .imul, 0, 0, 0, 0, 45),
  (45, .goto 8, 0, 0, 53, 0, 48),
  (48, .iconst 2, 2, 0, 0, 0, 49),
  (49, .iload_n 1, 0, 0, 1, 0, 50),
  (50, .imul, 0, 0, 0, 0, 51),
  (51, .iconst 1, 1, 0, 0, 0, 52),
  (52, .iadd, 0, 0, 0, 0, 53),
  (53, .iaload, 0, 0, 0, 0, 54),
  (54, .istore_n 3, 0, 0, 3, 0, 55),
  (55, .iload_n 3, 0, 0, 3, 0, 56),
  (56, .iconst (-1), (-1), 0, 0, 0, 57),
  (57, .if_icmp .ne 5, 0, 0, 62, 0, 60),
  (60, .iconst 0, 0, 0, 0, 0, 61),
  (61, .ireturn, 0, 0, 0, 0, 62),
  (62, .aload_n 0, 0, 0, 0, 0, 63),
  (63, .getfield 51, 0, 0, 4, 20, 66),
  (66, .iload_n 3, 0, 0, 3, 0, 67),
  (67, .iconst 1, 1, 0, 0, 0, 68),
  (68, .bastore, 0, 0, 0, 0, 69),
  (69, .iconst 1, 1, 0, 0, 0, 70),
  (70, .istore 4, 0, 0, 4, 0, 72),
  (72, .iconst 1, 1, 0, 0, 0, 73),
  (73, .istore 5, 0, 0, 5, 0, 75),
  (75, .iload 5, 0, 0, 5, 0, 77),
  (77, .ifCond .eq 83, 0, 0, 160, 0, 80),
  (80, .iload 4, 0, 0, 4, 0, 82),
  (82, .istore 6, 0, 0, 6, 0, 84),
  (84, .iconst 0, 0, 0, 0, 0, 85),
  (85, .istore 7, 0, 0, 7, 0, 87),
  (87, .iload 7, 0, 0, 7, 0, 89),
  (89, .aload_n 0, 0, 0, 0, 0, 90),
  (90, .getfield 81, 0, 0, 4, 13, 93),
  (93, .if_icmp .ge 50, 0, 0, 143, 0, 96),
  (96, .aload_n 0, 0, 0, 0, 0, 97),
  (97, .getfield 51, 0, 0, 4, 20, 100),
  (100, .iload 7, 0, 0, 7, 0, 102),
  (102, .baload, 0, 0, 0, 0, 103),
  (103, .ifCond .ne 6, 0, 0, 109, 0, 106),
  (106, .goto 31, 0, 0, 137, 0, 109),
  (109, .iload 4, 0, 0, 4, 0, 111),
  (111, .aload_n 0, 0, 0, 0, 0, 112),
  (112, .aload_n 0, 0, 0, 0, 0, 113),
  (113, .getfield 39, 0, 0, 4, 16, 116),
  (116, .iload 7, 0, 0, 7, 0, 118),
  (118, .iaload, 0, 0, 0, 0, 119),
  (119, .invokevirtual 120, 0, 0, 1, 0, 122),
  (122, .aload_n 0, 0, 0, 0, 0, 123),
  (123, .aload_n 0, 0, 0, 0, 0, 124),
  (124, .getfield 42, 0, 0, 4, 17, 127),
  (127, .iload 7, 0, 0, 7, 0, 129),
  (129, .iaload, 0, 0, 0, 0, 130),
  (130, .invokevirtual 120, 0, 0, 1, 0, 133),
  (133, .iadd, 0, 0, 0, 0, 134),
  (134, .iadd, 0, 0, 0, 0, 135),
  (135, .istore 4, 0, 0, 4, 0, 137),
  (137, .iinc 7 1, 1, 0, 7, 0, 140),
  (140, .goto (-53), 0, 0, 87, 0, 143),
  (143, .iload 4, 0, 0, 4, 0, 145),
  (145, .iload 6, 0, 0, 6, 0, 147),
  (147, .if_icmp .le 7, 0, 0, 154, 0, 150),
  (150, .iconst 1, 1, 0, 0, 0, 151),
  (151, .goto 4, 0, 0, 155, 0, 154),
  (154, .iconst 0, 0, 0, 0, 0, 155),
  (155, .istore 5, 0, 0, 5, 0, 157),
  (157, .goto (-82), 0, 0, 75, 0, 160),
  (160, .iload 4, 0, 0, 4, 0, 162),
  (162, .ireturn, 0, 0, 0, 0, 163)]
abbrev v_R_size : List (Nat × Nat) := [(117, 0), (120, 1)]
abbrev s_R_size : List (Nat × Nat) := []
abbrev h_R_size : List (Nat × Nat) := []
abbrev w_R_size : List (Nat × List Nat) := []
abbrev x_R_size : List String := []
theorem k_R_size : t_R_size.all (cx_dec true prog_6_method_24_code (some (.int)) 8 g_R p_R l_R v_R_size s_R_size h_R_size w_R_size) = true := by decide +kernel
abbrev m_R_size : MethodName := ⟨"CycleCutterModel", "size", "(IZ)I"⟩
-- calls of R_size: 0 = CycleCutterModel.refuses(II)Z, 1 = CycleCutterModel.reach(I)I
def t_R_reach : List (Nat × cx_E) := [(0, .iload_n 1, 0, 0, 1, 0, 1),
  (1, .iconst (-1), (-1), 0, 0, 0, 2),
  (2, .if_icmp .eq 12, 0, 0, 14, 0, 5),
  (5, .aload_n 0, 0, 0, 0, 0, 6),
  (6, .getfield 51, 0, 0, 4, 20, 9),
  (9, .iload_n 1, 0, 0, 1, 0, 10),
  (10, .baload, 0, 0, 0, 0, 11),
  (11, .ifCond .eq 5, 0, 0, 16, 0, 14),
  (14, .iconst 0, 0, 0, 0, 0, 15),
  (15, .ireturn, 0, 0, 0, 0, 16),
  (16, .aload_n 0, 0, 0, 0, 0, 17),
  (17, .getfield 51, 0, 0, 4, 20, 20),
  (20, .iload_n 1, 0, 0, 1, 0, 21),
  (21, .iconst 1, 1, 0, 0, 0, 22),
  (22, .bastore, 0, 0, 0, 0, 23),
  (23, .iconst 1, 1, 0, 0, 0, 24),
  (24, .ireturn, 0, 0, 0, 0, 25)]
abbrev v_R_reach : List (Nat × Nat) := []
abbrev s_R_reach : List (Nat × Nat) := []
abbrev h_R_reach : List (Nat × Nat) := []
abbrev w_R_reach : List (Nat × List Nat) := []
abbrev x_R_reach : List String := []
theorem k_R_reach : t_R_reach.all (cx_dec true prog_6_method_25_code (some (.int)) 2 g_R p_R l_R v_R_reach s_R_reach h_R_reach w_R_reach) = true := by decide +kernel
abbrev m_R_reach : MethodName := ⟨"CycleCutterModel", "reach", "(I)I"⟩
-- calls of R_reach: 
def t_R_known : List (Nat × cx_E) := [(0, .aload_n 0, 0, 0, 0, 0, 1),
  (1, .iload_n 1, 0, 0, 1, 0, 2),
  (2, .iconst 0, 0, 0, 0, 0, 3),
  (3, .invokevirtual 117, 0, 0, 0, 0, 6),
  (6, .ifCond .eq 5, 0, 0, 11, 0, 9),
  (9, .iconst 0, 0, 0, 0, 0, 10),
  (10, .ireturn, 0, 0, 0, 0, 11),
  (11, .iconst 0, 0, 0, 0, 0, 12),
  (12, .istore_n 2, 0, 0, 2, 0, 13),
  (13, .iconst 0, 0, 0, 0, 0, 14),
  (14, .istore_n 3, 0, 0, 3, 0, 15),
  (15, .iload_n 3, 0, 0, 3, 0, 16),
  (16, .sipush 256, 256, 0, 0, 0, 19),
  (19, .if_icmp .ge 41, 0, 0, 60, 0, 22),
  (22, .iload_n 2, 0, 0, 2, 0, 23),
  (23, .aload_n 0, 0, 0, 0, 0, 24),
  (24, .iconst 2, 2, 0, 0, 0, 25),
  (25, .iload_n 1, 0, 0, 1, 0, 26),
  (26, .imul, 0, 0, 0, 0, 27),
  (27, .iload_n 3, 0, 0, 3, 0, 28),
  (28, .invokevirtual 92, 0, 0, 1, 0, 31),
  (31, .ifCond .ne 16, 0, 0, 47, 0, 34),
  (34, .aload_n 0, 0, 0, 0, 0, 35),
  (35, .iconst 2, 2, 0, 0, 0, 36),
  (36, .iload_n 1, 0, 0, 1, 0, 37),
  (37, .imul, 0, 0, 0, 0, 38),
  (38, .iconst 1, 1, 0, 0, 0, 39),
  (39, .iadd, 0, 0, 0, 0, 40),
  (40, .iload_n 3, 0, 0, 3, 0, 41),
  (41, .invokevirtual 92, 0, 0, 1, 0, 44),
  (44, .ifCond .eq 7, 0, 0, 51, 0, 47),
  (47, .iconst 1, 1, 0, 0, 0, 48),
  (48, .goto 4, 0, 0, 52, 0, 51),
  (51, .iconst 0, 0, 0, 0, 0, 52),
  (52, .iadd, 0, 0, 0, 0, 53),
  (53, .istore_n 2, 0, 0, 2, 0, 54),
  (54, .iinc 3 1, 1, 0, 3, 0, 57),
  (57, .goto (-42), 0, 0, 15, 0, 60),
  (60, .iload_n 2, 0, 0, 2, 0, 61),
  (61, .ireturn, 0, 0, 0, 0, 62)]
abbrev v_R_known : List (Nat × Nat) := [(92, 1), (117, 0)]
abbrev s_R_known : List (Nat × Nat) := []
abbrev h_R_known : List (Nat × Nat) := []
abbrev w_R_known : List (Nat × List Nat) := []
abbrev x_R_known : List String := []
theorem k_R_known : t_R_known.all (cx_dec true prog_6_method_26_code (some (.int)) 4 g_R p_R l_R v_R_known s_R_known h_R_known w_R_known) = true := by decide +kernel
abbrev m_R_known : MethodName := ⟨"CycleCutterModel", "known", "(I)I"⟩
-- calls of R_known: 0 = CycleCutterModel.refuses(II)Z, 1 = CycleCutterModel.truth(II)Z
def t_R_doubt : List (Nat × cx_E) := [(0, .aload_n 0, 0, 0, 0, 0, 1),
  (1, .iload_n 1, 0, 0, 1, 0, 2),
  (2, .ifCond .lt 10, 0, 0, 12, 0, 5),
  (5, .iload_n 1, 0, 0, 1, 0, 6),
  (6, .sipush 255, 255, 0, 0, 0, 9),
  (9, .if_icmp .le 7, 0, 0, 16, 0, 12),
  (12, .iconst 1, 1, 0, 0, 0, 13),
  (13, .goto 4, 0, 0, 17, 0, 16),
  (16, .iconst 0, 0, 0, 0, 0, 17),
  (17, .iconst 0, 0, 0, 0, 0, 18),
  (18, .invokevirtual 61, 0, 0, 0, 0, 21),
  (21, .ifCond .eq 5, 0, 0, 26, 0, 24),
  (24, .iconst 0, 0, 0, 0, 0, 25),
  (25, .ireturn, 0, 0, 0, 0, 26),
  (26, .iload_n 1, 0, 0, 1, 0, 27),
  (27, .istore_n 2, 0, 0, 2, 0, 28),
  (28, .iload_n 2, 0, 0, 2, 0, 29),
  (29, .sipush 256, 256, 0, 0, 0, 32),
  (32, .if_icmp .ge 51, 0, 0, 83, 0, 35),
  (35, .iconst 0, 0, 0, 0, 0, 36),
  (36, .istore_n 3, 0, 0, 3, 0, 37),
  (37, .iload_n 3, 0, 0, 3, 0, 38),
  (38, .aload_n 0, 0, 0, 0, 0, 39),
  (39, .getfield 78, 0, 0, 4, 12, 42),
  (42, .if_icmp .ge 35, 0, 0, 77, 0, 45),
  (45, .aload_n 0, 0, 0, 0, 0, 46),
  (46, .iconst 2, 2, 0, 0, 0, 47),
  (47, .iload_n 3, 0, 0, 3, 0, 48),
  (48, .imul, 0, 0, 0, 0, 49),
  (49, .iload_n 2, 0, 0, 2, 0, 50),
  (50, .invokevirtual 92, 0, 0, 1, 0, 53),
  (53, .ifCond .ne 18, 0, 0, 71, 0, 56),
  (56, .aload_n 0, 0, 0, 0, 0, 57),
  (57, .iconst 2, 2, 0, 0, 0, 58),
  (58, .iload_n 3, 0, 0, 3, 0, 59),
  (59, .imul, 0, 0, 0, 0, 60),
  (60, .iconst 1, 1, 0, 0, 0, 61),
  (61, .iadd, 0, 0, 0, 0, 62),
  (62, .iload_n 2, 0, 0, 2, 0, 63),
  (63, .invokevirtual 92, 0, 0, 1, 0, 66),
  (66, .ifCond .ne 5, 0, 0, 71, 0, 69),
  (69, .iload_n 2, 0, 0, 2, 0, 70),
  (70, .ireturn, 0, 0, 0, 0, 71),
  (71, .iinc 3 1, 1, 0, 3, 0, 74),
  (74, .goto (-37), 0, 0, 37, 0, 77),
  (77, .iinc 2 1, 1, 0, 2, 0, 80),
  (80, .goto (-52), 0, 0, 28, 0, 83),
  (83, .iconst (-1), (-1), 0, 0, 0, 84),
  (84, .ireturn, 0, 0, 0, 0, 85)]
abbrev v_R_doubt : List (Nat × Nat) := [(61, 0), (92, 1)]
abbrev s_R_doubt : List (Nat × Nat) := []
abbrev h_R_doubt : List (Nat × Nat) := []
abbrev w_R_doubt : List (Nat × List Nat) := []
abbrev x_R_doubt : List String := []
theorem k_R_doubt : t_R_doubt.all (cx_dec true prog_6_method_27_code (some (.int)) 4 g_R p_R l_R v_R_doubt s_R_doubt h_R_doubt w_R_doubt) = true := by decide +kernel
abbrev m_R_doubt : MethodName := ⟨"CycleCutterModel", "doubt", "(I)I"⟩
-- calls of R_doubt: 0 = CycleCutterModel.fails(ZZ)Z, 1 = CycleCutterModel.truth(II)Z
def t_R_count : List (Nat × cx_E) := [(0, .aload_n 0, 0, 0, 0, 0, 1),
  (1, .iconst 0, 0, 0, 0, 0, 2),
  (2, .putfield 54, 0, 0, 4, 0, 5),
  (5, .iconst 0, 0, 0, 0, 0, 6),
  (6, .istore_n 2, 0, 0, 2, 0, 7),
  (7, .iconst 0, 0, 0, 0, 0, 8),
  (8, .istore_n 3, 0, 0, 3, 0, 9),
  (9, .iload_n 3, 0, 0, 3, 0, 10),
  (10, .aload_n 0, 0, 0, 0, 0, 11),
  (11, .getfield 81, 0, 0, 4, 13, 14),
  (14, .if_icmp .ge 30, 0, 0, 44, 0, 17),
  (17, .aload_n 0, 0, 0, 0, 0, 18),
  (18, .getfield 45, 0, 0, 4, 18, 21),
  (21, .iload_n 3, 0, 0, 3, 0, 22),
  (22, .iaload, 0, 0, 0, 0, 23),
  (23, .iload_n 2, 0, 0, 2, 0, 24),
  (24, .if_icmp .le 12, 0, 0, 36, 0, 27),
  (27, .aload_n 0, 0, 0, 0, 0, 28),
  (28, .getfield 45, 0, 0, 4, 18, 31),
  (31, .iload_n 3, 0, 0, 3, 0, 32),
  (32, .iaload, 0, 0, 0, 0, 33),
  (33, .goto 4, 0, 0, 37, 0, 36),
  (36, .iload_n 2, 0, 0, 2, 0, 37),
  (37, .istore_n 2, 0, 0, 2, 0, 38),
  (38, .iinc 3 1, 1, 0, 3, 0, 41),
  (41, .goto (-32), 0, 0, 9, 0, 44),
  (44, .iload_n 1, 0, 0, 1, 0, 45),
  (45, .tableswitch 75 0 6 #[43, 48, 53, 58, 63, 68, 73], 0, 0, 0, 43, 88),
  (88, .aload_n 0, 0, 0, 0, 0, 89),
  (89, .getfield 58, 0, 0, 4, 1, 92),
  (92, .ireturn, 0, 0, 0, 0, 93),
  (93, .aload_n 0, 0, 0, 0, 0, 94),
  (94, .getfield 72, 0, 0, 4, 2, 97),
  (97, .ireturn, 0, 0, 0, 0, 98),
  (98, .aload_n 0, 0, 0, 0, 0, 99),
  (99, .getfield 65, 0, 0, 4, 3, 102),
  (102, .ireturn, 0, 0, 0, 0, 103),
  (103, .aload_n 0, 0, 0, 0, 0, 104),
  (104, .getfield 75, 0, 0, 4, 4, 107),
  (107, .ireturn, 0, 0, 0, 0, 108),
  (108, .aload_n 0, 0, 0, 0, 0, 109),
  (109, .getfield 78, 0, 0, 4, 12, 112),
  (112, .ireturn, 0, 0, 0, 0, 113),
  (113, .aload_n 0, 0, 0, 0, 0, 114),
  (114, .getfield 81, 0, 0, 4, 13, 117),
  (117, .ireturn, 0, 0, 0, 0, 118),
  (118, .iload_n 2, 0, 0, 2, 0, 119),
  (119, .ireturn, 0, 0, 0, 0, 120),
  (120, .iconst (-1), (-1), 0, 0, 0, 121),
  (121, .ireturn, 0, 0, 0, 0, 122)]
abbrev v_R_count : List (Nat × Nat) := []
abbrev s_R_count : List (Nat × Nat) := []
abbrev h_R_count : List (Nat × Nat) := []
abbrev w_R_count : List (Nat × List Nat) := [(120, [88, 93, 98, 103, 108, 113, 118])]
abbrev x_R_count : List String := []
theorem k_R_count : t_R_count.all (cx_dec true prog_6_method_28_code (some (.int)) 4 g_R p_R l_R v_R_count s_R_count h_R_count w_R_count) = true := by decide +kernel
abbrev m_R_count : MethodName := ⟨"CycleCutterModel", "count", "(I)I"⟩
-- calls of R_count: 
def t_J_bitCount : List (Nat × cx_E) := [(0, .lload_n 0, 0, 0, 0, 0, 1),
  (1, .lload_n 0, 0, 0, 0, 0, 2),
  (2, .iconst 1, 1, 0, 0, 0, 3),
  (3, .lushr, 0, 0, 0, 0, 4),
  (4, .ldc2_w 314, 0, 6148914691236517205, 0, 0, 7),
  (7, .land, 0, 0, 0, 0, 8),
  (8, .lsub, 0, 0, 0, 0, 9),
  (9, .lstore_n 0, 0, 0, 0, 0, 10),
  (10, .lload_n 0, 0, 0, 0, 0, 11),
  (11, .ldc2_w 316, 0, 3689348814741910323, 0, 0, 14),
  (14, .land, 0, 0, 0, 0, 15),
  (15, .lload_n 0, 0, 0, 0, 0, 16),
  (16, .iconst 2, 2, 0, 0, 0, 17),
  (17, .lushr, 0, 0, 0, 0, 18),
  (18, .ldc2_w 316, 0, 3689348814741910323, 0, 0, 21),
  (21, .land, 0, 0, 0, 0, 22),
  (22, .ladd, 0, 0, 0, 0, 23),
  (23, .lstore_n 0, 0, 0, 0, 0, 24),
  (24, .lload_n 0, 0, 0, 0, 0, 25),
  (25, .lload_n 0, 0, 0, 0, 0, 26),
  (26, .iconst 4, 4, 0, 0, 0, 27),
  (27, .lushr, 0, 0, 0, 0, 28),
  (28, .ladd, 0, 0, 0, 0, 29),
  (29, .ldc2_w 318, 0, 1085102592571150095, 0, 0, 32),
  (32, .land, 0, 0, 0, 0, 33),
  (33, .lstore_n 0, 0, 0, 0, 0, 34),
  (34, .lload_n 0, 0, 0, 0, 0, 35),
  (35, .lload_n 0, 0, 0, 0, 0, 36),
  (36, .bipush 8, 8, 0, 0, 0, 38),
  (38, .lushr, 0, 0, 0, 0, 39),
  (39, .ladd, 0, 0, 0, 0, 40),
  (40, .lstore_n 0, 0, 0, 0, 0, 41),
  (41, .lload_n 0, 0, 0, 0, 0, 42),
  (42, .lload_n 0, 0, 0, 0, 0, 43),
  (43, .bipush 16, 16, 0, 0, 0, 45),
  (45, .lushr, 0, 0, 0, 0, 46),
  (46, .ladd, 0, 0, 0, 0, 47),
  (47, .lstore_n 0, 0, 0, 0, 0, 48),
  (48, .lload_n 0, 0, 0, 0, 0, 49),
  (49, .lload_n 0, 0, 0, 0, 0, 50),
  (50, .bipush 32, 32, 0, 0, 0, 52),
  (52, .lushr, 0, 0, 0, 0, 53),
  (53, .ladd, 0, 0, 0, 0, 54),
  (54, .lstore_n 0, 0, 0, 0, 0, 55),
  (55, .lload_n 0, 0, 0, 0, 0, 56),
  (56, .l2i, 0, 0, 0, 0, 57),
  (57, .bipush 127, 127, 0, 0, 0, 59),
  (59, .iand, 0, 0, 0, 0, 60),
  (60, .ireturn, 0, 0, 0, 0, 61)]
abbrev v_J_bitCount : List (Nat × Nat) := []
abbrev s_J_bitCount : List (Nat × Nat) := []
abbrev h_J_bitCount : List (Nat × Nat) := []
abbrev w_J_bitCount : List (Nat × List Nat) := []
abbrev x_J_bitCount : List String := []
theorem k_J_bitCount : t_J_bitCount.all (cx_dec true prog_11_method_50_code (some (.int)) 2 [] [] l_J v_J_bitCount s_J_bitCount h_J_bitCount w_J_bitCount) = true := by decide +kernel
abbrev m_J_bitCount : MethodName := ⟨"java/lang/Long", "bitCount", "(J)I"⟩
-- calls of J_bitCount: 
def t_J_max : List (Nat × cx_E) := [(0, .iload_n 0, 0, 0, 0, 0, 1),
  (1, .iload_n 1, 0, 0, 1, 0, 2),
  (2, .if_icmp .lt 7, 0, 0, 9, 0, 5),
  (5, .iload_n 0, 0, 0, 0, 0, 6),
  (6, .goto 4, 0, 0, 10, 0, 9),
  (9, .iload_n 1, 0, 0, 1, 0, 10),
  (10, .ireturn, 0, 0, 0, 0, 11)]
abbrev v_J_max : List (Nat × Nat) := []
abbrev s_J_max : List (Nat × Nat) := []
abbrev h_J_max : List (Nat × Nat) := []
abbrev w_J_max : List (Nat × List Nat) := []
abbrev x_J_max : List String := []
theorem k_J_max : t_J_max.all (cx_dec true prog_12_method_65_code (some (.int)) 2 [] [] l_J v_J_max s_J_max h_J_max w_J_max) = true := by decide +kernel
abbrev m_J_max : MethodName := ⟨"java/lang/Math", "max", "(II)I"⟩
-- calls of J_max: 
end
section
/-! From a pure theorem on the abstract machine to a method's contract. -/
/-- V is closed under the machine's steps -/
def cx_cl1 (T : List (Nat × cx_E)) (Sp : List (cx_S × Nat × Nat × Nat)) (Ex : List String) (Sw : List (Nat × List Nat)) (mc ms : Nat) (Rq : cx_R) (V : cx_K) : Prop :=
  ∀ (P : List Nat) (n pc : Nat) (lv : cx_L) (st : List cx_V) (ws : List cx_C) (k i : Nat), cx_ax T Sp Ex Sw mc ms P Rq V n pc lv st ws k i → V pc lv st ws k i
def cx_lv0 (as : List cx_V) (nL : Nat) : cx_L := cx_slots as ++ List.replicate (nL - (cx_slots as).length) none
theorem cx_lv0_get {as : List cx_V} {nL t : Nat} {u : cx_V} (h : (cx_lv0 as nL)[t]? = some (some u)) : (cx_slots as)[t]? = some (some u) := by
  unfold cx_lv0 at h
  by_cases hl : t < (cx_slots as).length
  · rw [List.getElem?_append_left hl] at h
    exact h
  · rw [List.getElem?_append_right (by omega)] at h
    rw [List.getElem?_replicate] at h
    split at h <;> cases h
theorem cx_sl_len (vs : List Value) : (lg_sl vs).length = (vs.map fun v => v.category).sum := by
  induction vs with
  | nil => rfl
  | cons v r ih =>
    have e : lg_sl (v :: r) = (if v.category = 2 then [.val v, .second] else [.val v]) ++ lg_sl r := by
      simp [lg_sl]
    rw [e, List.length_append, ih, List.map_cons, List.sum_cons]
    congr 1
    rcases lv_cat v with h | h <;> simp [h]
/-- the facts of a walk's start -/
abbrev cx_St (G : cx_G) (y : MethodName) (cc : ByteArray) (nL : Nat) (p : Program) (s : State) (m : MethodId) (meth : Method) (c : Code) : Prop :=
  p.tables.exec = Jvm.exec ∧ c.code = cc ∧ c.maxLocals = nL ∧ meth.locks = false ∧ c.exceptionTable.isEmpty = true ∧ s.vm.findClass y.cls = some m.cls ∧ cx_Kn cx_Tb G s
theorem cx_mk {l : Launch} {G : cx_G} (hG : cx_okG G) {y : MethodName} {cc : ByteArray} {nL : Nat} {rt : Option FieldType} {rm : Room} {f : cx_S} {F : List (Nat × Nat × Nat)} {FP : List (Nat × Nat × Nat × Int32)} {LC : List (Nat × Int64)} {CV CS : List (Nat × Nat)} {TH : List (Nat × Nat)} {T : List (Nat × cx_E)} {Sp : List (cx_S × Nat × Nat × Nat)} {Ex : List String} {Sw : List (Nat × List Nat)}
    (hT : T.all (cx_dec true cc rt nL F FP LC CV CS TH Sw) = true)
    (okF : ∀ {p e s m args below meth c Q}, cx_St G y cc nL p s m meth c → ∀ q ∈ F, cx_okget p l e rm s m args below meth c cc G Q q.1 q.2.1 q.2.2)
    (okP : ∀ {p e s m args below meth c Q}, cx_St G y cc nL p s m meth c → ∀ q ∈ FP, cx_okput p l e rm s m args below meth c cc G Q q.1 q.2.1 q.2.2.1 q.2.2.2)
    (okL : ∀ {s args}, cx_Kn cx_Tb G s → ∀ q ∈ LC, (Jvm.Cond.constantLong y.cls q.1 q.2).before args s = true)
    (okV : ∀ {p e s m args below meth c Rq}, cx_St G y cc nL p s m meth c → ∀ q ∈ CV, ∀ f na kc ks, Sp[q.2]? = some (f, na, kc, ks) → cx_okcall p l e rm s m args below meth c cc G nL rm.cells rm.slots (cx_F1 G rm.cells rm.slots) (cx_Q below G s rm.cells rm.slots Rq) Rq (.invokevirtual q.1) f na kc ks)
    (okS : ∀ {p e s m args below meth c Rq}, cx_St G y cc nL p s m meth c → ∀ q ∈ CS, ∀ f na kc ks, Sp[q.2]? = some (f, na, kc, ks) → cx_okcall p l e rm s m args below meth c cc G nL rm.cells rm.slots (cx_F1 G rm.cells rm.slots) (cx_Q below G s rm.cells rm.slots Rq) Rq (.invokestatic q.1) f na kc ks)
    (hTH : TH = [])
    (pure : ∀ as ws Rq, f as ws Rq → cx_cats as ≤ nL ∧ ∀ V, cx_cl1 T Sp Ex Sw rm.cells rm.slots Rq V → V 0 (cx_lv0 as nL) [] ws 0 0) : cx_M cx_Tb l G y cc nL rt rm f := by
  intro as ws Rq hf p e s m below meth c hx hb hml hr hlocks hne hown hKn hP
  obtain ⟨hc, hpure⟩ := pure as ws Rq hf
  have S : cx_St G y cc nL p s m meth c := ⟨hx, hb, hml, hlocks, hne, hown, hKn⟩
  subst hTH
  refine cx_enter (lv := cx_lv0 as nL) (F := cx_F1 G rm.cells rm.slots) (by rw [cx_sl_len, cx_cats_eq]; exact hc) (fun t u h => cx_lv0_get h) ⟨hP, ⟨Nat.zero_le _, Nat.zero_le _⟩, fun q hq => by cases hq⟩ ?_
  refine hpure (cx_AW p l e rm s m (as.map (cx_v G)).toArray below meth c G nL (cx_F1 G rm.cells rm.slots) (cx_Q below G s rm.cells rm.slots Rq)) (fun P n pc lv st ws k i h => ?_)
  exact cx_sound (free := fun q => (cx_H0 G).size ≤ q) (wr := true) hx hb hG hKn hlocks hr hown (fun ws k n H locs h => h) (fun ws k n H locs h => h.2.2) (fun ws k n H locs u t h1 h2 h3 => cx_ret1 h1 h2 h3)
    (fun _ ws ws' k n H H' locs a i h1 h2 h3 _ _ => ⟨h2, h1.2.1, cx_locs h1.2.2 h3⟩) (okF S) (okP S) (okL hKn) (okV S) (okS S) (fun q hq => by cases hq) hT (fun pc lv st ws k i h => h) n h
/-- the same of a method that writes nothing (and may throw) -/
theorem cx_mk2 {l : Launch} {G : cx_G} (hG : cx_okG G) {y : MethodName} {cc : ByteArray} {nL : Nat} {rt : Option FieldType} {rm : Room} {f : cx_S} {F : List (Nat × Nat × Nat)} {FP : List (Nat × Nat × Nat × Int32)} {LC : List (Nat × Int64)} {CV CS : List (Nat × Nat)} {TH : List (Nat × Nat)} {T : List (Nat × cx_E)} {Sp : List (cx_S × Nat × Nat × Nat)} {Ex : List String} {Sw : List (Nat × List Nat)}
    (hT : T.all (cx_dec false cc rt nL F FP LC CV CS TH Sw) = true)
    (okF : ∀ {p e s m args below meth c Q}, cx_St G y cc nL p s m meth c → ∀ q ∈ F, cx_okget p l e rm s m args below meth c cc G Q q.1 q.2.1 q.2.2)
    (okP : ∀ {p e s m args below meth c Q}, cx_St G y cc nL p s m meth c → ∀ q ∈ FP, cx_okput p l e rm s m args below meth c cc G Q q.1 q.2.1 q.2.2.1 q.2.2.2)
    (okL : ∀ {s args}, cx_Kn cx_Tb G s → ∀ q ∈ LC, (Jvm.Cond.constantLong y.cls q.1 q.2).before args s = true)
    (okV : ∀ {p e s m args below meth c Rq}, cx_St G y cc nL p s m meth c → ∀ q ∈ CV, ∀ f na kc ks, Sp[q.2]? = some (f, na, kc, ks) → cx_okcall p l e rm s m args below meth c cc G nL rm.cells rm.slots (cx_F2 G rm.cells rm.slots s) (cx_Q2 below G s rm.cells rm.slots Rq) Rq (.invokevirtual q.1) f na kc ks)
    (okS : ∀ {p e s m args below meth c Rq}, cx_St G y cc nL p s m meth c → ∀ q ∈ CS, ∀ f na kc ks, Sp[q.2]? = some (f, na, kc, ks) → cx_okcall p l e rm s m args below meth c cc G nL rm.cells rm.slots (cx_F2 G rm.cells rm.slots s) (cx_Q2 below G s rm.cells rm.slots Rq) Rq (.invokestatic q.1) f na kc ks)
    (okT : ∀ {p e s m args below meth c Rq}, cx_St G y cc nL p s m meth c → ∀ q ∈ TH, ∀ x, Ex[q.2]? = some x → cx_okthr p l e rm s m args below meth c G nL rm.cells rm.slots (cx_F2 G rm.cells rm.slots s) (cx_Q2 below G s rm.cells rm.slots Rq) Rq q.1 x)
    (pure : ∀ as ws Rq, f as ws Rq → cx_cats as ≤ nL ∧ ∀ V, cx_cl1 T Sp Ex Sw rm.cells rm.slots Rq V → V 0 (cx_lv0 as nL) [] ws 0 0) : cx_M2 cx_Tb l G y cc nL rt rm f := by
  intro as ws Rq hf p e s m below meth c hx hb hml hr hlocks hne hown hKn hP
  obtain ⟨hc, hpure⟩ := pure as ws Rq hf
  have S : cx_St G y cc nL p s m meth c := ⟨hx, hb, hml, hlocks, hne, hown, hKn⟩
  refine cx_enter (lv := cx_lv0 as nL) (F := cx_F2 G rm.cells rm.slots s) (by rw [cx_sl_len, cx_cats_eq]; exact hc) (fun t u h => cx_lv0_get h) ⟨hP, ⟨Nat.zero_le _, Nat.zero_le _⟩, rfl, rfl⟩ ?_
  refine hpure (cx_AW p l e rm s m (as.map (cx_v G)).toArray below meth c G nL (cx_F2 G rm.cells rm.slots s) (cx_Q2 below G s rm.cells rm.slots Rq)) (fun P n pc lv st ws k i h => ?_)
  exact cx_sound (free := fun _ => False) (wr := false) hx hb hG hKn hlocks hr hown (fun ws k n H locs h => ⟨h.1, h.2.1, fun q hq => by rw [h.2.2.2] at hq; cases hq⟩) (fun ws k n H locs h q hq => by rw [h.2.2.2] at hq; cases hq) (fun ws k n H locs u t h1 h2 h3 => cx_ret2 h1 h2 h3)
    (fun h => by cases h) (okF S) (okP S) (okL hKn) (okV S) (okS S) (okT S) hT (fun pc lv st ws k i h => h) n h
/-! The world: the class's cells, then the rest. -/
abbrev wX : Type := Int32 × (Nat → Int32)
abbrev wN : Type := (Nat → Int32) × (Nat → Int32) × (Nat → Int32) × (Nat → Int32) × (Nat → Int32) × (Nat → Int32) × (Nat → Nat → Int64) × (Nat → Nat → Int64) × Int32 × Int32 × Int32 × Int32
abbrev wL : Type := (Nat → Int32) × (Nat → Int32) × (Nat → Nat → Int64) × Int32
abbrev wM : Type := (Nat → Int32) × (Nat → Int32) × (Nat → Int32) × (Nat → Int32) × (Nat → Int32) × (Nat → Int32) × (Nat → Int32) × (Nat → Int32) × (Nat → Int32) × Int32 × Int32
def cx_r (k : Nat) : cx_V := .inr (.inr (.inl k))
def wd (x : wX) (n : wN) (l : wL) (m : wM) (r : List cx_C) : List cx_C :=
  .inl (3, [.inr (.inr (.inl 1)), .inr (.inr (.inl 10)), .inr (.inr (.inl 24)), .inl x.1]) ::
  .inl (2, [.inr (.inr (.inl 2)), .inr (.inr (.inl 3)), .inr (.inr (.inl 4)), .inr (.inr (.inl 5)), .inr (.inr (.inl 6)), .inr (.inr (.inl 7)), .inr (.inr (.inl 8)), .inr (.inr (.inl 9)), .inl n.2.2.2.2.2.2.2.2.1, .inl n.2.2.2.2.2.2.2.2.2.1, .inl n.2.2.2.2.2.2.2.2.2.2.1, .inl n.2.2.2.2.2.2.2.2.2.2.2]) ::
  .inr (.inl (120, n.1)) :: .inr (.inl (120, n.2.1)) :: .inr (.inl (120, n.2.2.1)) :: .inr (.inl (500, n.2.2.2.1)) :: .inr (.inr (.inl (500, n.2.2.2.2.1))) :: .inr (.inl (500, n.2.2.2.2.2.1)) ::
  .inr (.inr (.inr (.inr (120, 4, n.2.2.2.2.2.2.1)))) :: .inr (.inr (.inr (.inr (120, 4, n.2.2.2.2.2.2.2.1)))) ::
  .inl (0, [.inr (.inr (.inl 11)), .inr (.inr (.inl 21)), .inr (.inr (.inl 22)), .inr (.inr (.inl 23)), .inl l.2.2.2]) ::
  .inl (1, [.inr (.inr (.inl 12)), .inr (.inr (.inl 13)), .inr (.inr (.inl 14)), .inr (.inr (.inl 15)), .inr (.inr (.inl 16)), .inr (.inr (.inl 17)), .inr (.inr (.inl 18)), .inr (.inr (.inl 19)), .inr (.inr (.inl 20)), .inl m.2.2.2.2.2.2.2.2.2.1, .inl m.2.2.2.2.2.2.2.2.2.2]) ::
  .inr (.inl (876, m.1)) :: .inr (.inl (876, m.2.1)) :: .inr (.inl (876, m.2.2.1)) :: .inr (.inl (876, m.2.2.2.1)) :: .inr (.inl (876, m.2.2.2.2.1)) :: .inr (.inl (876, m.2.2.2.2.2.1)) :: .inr (.inr (.inl (876, m.2.2.2.2.2.2.1))) :: .inr (.inl (256, m.2.2.2.2.2.2.2.1)) :: .inr (.inl (8, m.2.2.2.2.2.2.2.2.1)) ::
  .inr (.inl (10, l.1)) :: .inr (.inl (10, l.2.1)) :: .inr (.inr (.inr (.inr (10, 4, l.2.2.1)))) ::
  .inr (.inl (10, x.2)) :: r
theorem cx_self_spec {ci : Nat} {f : Nat → List cx_V → List cx_C → cx_R → Prop} {as : List cx_V} {ws : List cx_C} {R : cx_R} (h : cx_self ci f as ws R) : ∃ j r fs, as = .inr (.inr (.inl j)) :: r ∧ ws[j]? = some (.inl (ci, fs)) ∧ f j r ws R := by
  obtain ⟨j, r, e, h1⟩ := cx_p1_spec h
  obtain ⟨fs, hj, h2⟩ := cx_obj_spec h1
  exact ⟨j, r, fs, e, hj, h2⟩
end
section
/-! A throw of one's own: new X; dup; ldc; invokespecial; athrow. -/
theorem cx_isRef {C n d : String} {A : Nat → Prop} {s : State} {H0 : Heap} {args : Array Value} (h : va_Zq C n d A s H0) (hA : ∀ q, ¬ A q → q < H0.size → s.heap[q]? = H0[q]?) : (Cond.isRef (.static C n d)).before args s = true := by
  have key : ∀ v, va_Z C n d v A s H0 → (Term.static C n d).eval args s none [] s = some v := by
    intro v hv
    obtain ⟨cf, kf, fi, f, a, cell, h1, h2, h3, h4, h5, h6, h7, h8⟩ := hv
    have h9 : s.heap[a]? = some cell := by
      rw [hA a h8 (Array.getElem?_eq_some_iff.mp h5).1]
      exact h5
    simp [Term.eval, State.fieldNamed?, h1, h2, h4, h9, h6, h7]
  rcases h with h | ⟨t, h⟩
  · simp [Cond.before, Cond.holds, Cond.value, key _ h]
  · simp [Cond.before, Cond.holds, Cond.value, key _ h]
theorem cx_old {s U : State} {k n : Nat} (h : s.sameButNew ({ U with vm := s.vm } : State) [] k n) {q : Nat} (hq : q < s.heap.size) : U.heap[q]? = s.heap[q]? := by
  obtain ⟨c, hc⟩ : ∃ c, s.heap[q]? = some c := ⟨_, Array.getElem?_eq_getElem hq⟩
  obtain ⟨c', h1, h2, h3, h4⟩ := h.2.2.2.2.2 q c hc
  have e : c'.slots = c.slots := by
    apply Array.ext_getElem?
    intro i
    exact h4 i (fun x => by cases x)
  have h1' : U.heap[q]? = some c' := h1
  rw [h1', hc, h2, e]
section CXH
variable {p : Program} {l : Launch} {e : Env} {R : Room} {s : State} {m : MethodId} {args : Array Value} {below : List Frame} {meth : Method} {c : Code} {G : cx_G} {nL mc ms : Nat} {cc : ByteArray} {Tb : List Cond} {Rq : cx_R}
theorem cx_throw (hl : ∀ e : Env, l.admits e → e.platform.stackTraces = false) (hx : p.tables.exec = Jvm.exec) (hb : c.code = cc) (hml : c.maxLocals = nL) (hKn : cx_Kn Tb G s) (hlocks : meth.locks = false) (hne : c.exceptionTable.isEmpty = true) {own X tx : String} (hown : s.vm.findClass own = some m.cls) {z ix ic pc : Nat} {names : List String}
    (hd : decode cc pc = .ok (.new z, 3) ∧ decode cc (pc + 3) = .ok (.dup, 1) ∧ decode cc (pc + 4) = .ok (.ldc ix, 2) ∧ decode cc (pc + 6) = .ok (.invokespecial ic, 3) ∧ decode cc (pc + 9) = .ok (.athrow, 1))
    (hw : Jvm.Cond.classLink own z X ∈ Tb ∧ Jvm.Cond.instantiable X 6 ∈ Tb ∧ Jvm.Cond.initialized X ∈ Tb ∧ Jvm.Cond.stringRef own ix tx ∈ Tb)
    (hat : ∀ a ∈ Jvm.Bundle.ownAtoms own ic X names, a ∈ Tb ∨ a = .isRef (.static "java/lang/Throwable" "UNASSIGNED_STACK" "[Ljava/lang/StackTraceElement;") ∨ a = .isRef (.static "java/lang/Throwable" "SUPPRESSED_SENTINEL" "Ljava/util/List;") ∨ a = .laysStatic "java/lang/Throwable" "UNASSIGNED_STACK" "[Ljava/lang/StackTraceElement;" ∨ a = .laysStatic "java/lang/Throwable" "SUPPRESSED_SENTINEL" "Ljava/util/List;")
    (hX : Jvm.Bundle.fit X = true) (hn : ∀ n ∈ names, Jvm.Bundle.fit n = true) (hR : names.length + 3 < R.frames ∧ 1 + (13 * (names.length + 1) + 42) ≤ R.locals ∧ 1 ≤ R.cells ∧ 6 ≤ R.slots) :
    cx_okthr p l e R s m args below meth c G nL mc ms (cx_F2 G mc ms s) (cx_Q2 below G s mc ms Rq) Rq pc X := by
  intro H locs ls ws hmc hms hF hls hRq
  obtain ⟨hP, -, rfl, rfl⟩ := hF
  obtain ⟨d0, d3, d4, d6, d9⟩ := hd
  obtain ⟨w1, w2, w3, w4⟩ := hw
  obtain ⟨cX, kX0, hfc, -⟩ := Cond.instantiable_spec (hKn.1 _ w2 args)
  refine W.newcK hx hb hown (hKn.1 _ w1 args) (hKn.1 _ w2 args) (hKn.1 _ w3 args) rfl d0 (by omega) (by omega) hfc rfl fun H' kX hkX e1 z1 o1 => ?_
  refine lv_dup (pc := pc + 3) (ls := ls) (rest := []) hx hb d3 rfl ?_
  intro T hT X1
  obtain ⟨kS, cfS, iS, aS, -, -, -, -, -, hev⟩ := Cond.stringRef_spec hown (hKn.1 _ w4 args)
  have hats : ∀ a ∈ Jvm.Bundle.ownAtoms own ic X names, a.before args s = true := by
    intro a ha
    have hA : ∀ q : Nat, ¬ (cx_H0 G).size ≤ q → q < (cx_H0 G).size → s.heap[q]? = (cx_H0 G)[q]? := fun q _ hq => hP.2.2.1 q hq
    rcases hat a ha with h | rfl | rfl | rfl | rfl
    · exact hKn.1 _ h args
    · exact cx_isRef hKn.2.2.2.2.2.2.1 hA
    · exact cx_isRef hKn.2.2.2.2.2.2.2.1 hA
    · exact hKn.2.2.2.2.2.2.2.2.1.use hP.2.2.1
    · exact hKn.2.2.2.2.2.2.2.2.2.use hP.2.2.1
  obtain ⟨U, st, u1, u2, u3, u4, ce, u5, u6⟩ := X1.ctorThrowS hx (hl e X1.admits) (own := own) (cls := X) (names := names) (ic := ic) hown hX hn hats (fun x hx => by cases hx) (a := s.heap.size) hfc hkX (by rw [hT]; exact e1) (Nat.le_refl _) (msg := .ref aS) rfl (g := F0 m (pc + 6) ls [.ref aS, .ref s.heap.size, .ref s.heap.size]) rfl (by rw [hml]; exact hls) rfl rfl (rest := []) rfl (by rw [hb]; exact d6) (by rw [hb]; exact d9) (cx_noH hne _) hR.1 (by
      show 2 * 0 + 1 + _ ≤ _
      have := hR.2.1
      omega) hlocks
  refine ⟨U, X1.ldcString hx hown (hKn.1 _ w4 args) hev (g := F0 m (pc + 4) ls [.ref s.heap.size, .ref s.heap.size]) rfl (by rw [hb]; exact d4) U st, ?_⟩
  have hsz : U.heap.size ≤ s.heap.size + 1 := u4.2.2.1
  refine ⟨.threw s.heap.size, .inr X, ws, u1, u2, hRq, ⟨s.heap.size, ce, rfl, u5, u6.cls, u6.vm⟩, ⟨fun j c hc => ?_, ?_, fun q hq => ?_, fun q cell hq hc => ?_⟩, u3, [], u4.mono hmc hms, (fun q hq => by cases hq), (fun u hu => by cases hu)⟩
  · obtain ⟨q1, q2⟩ := hP.1 j c hc
    have hlt : ∀ q : Nat, (∃ x, s.heap[q]? = some x) → U.heap[q]? = s.heap[q]? := fun q ⟨x, hx⟩ => cx_old u4 (Array.getElem?_eq_some_iff.mp hx).1
    refine ⟨q1, ?_⟩
    rcases c with o | a | a | a | a
    · obtain ⟨r, r1, cell, r2, r3⟩ := q2
      refine ⟨r, r1, cell, ?_, r3⟩
      rw [hlt _ ⟨_, r2⟩]
      exact r2
    · exact (hlt _ ⟨_, q2⟩).trans q2
    · exact (hlt _ ⟨_, q2⟩).trans q2
    · exact (hlt _ ⟨_, q2⟩).trans q2
    · obtain ⟨a1, a2, a3⟩ := q2
      exact ⟨a1, (hlt _ ⟨_, a2⟩).trans a2, fun i hi => (hlt _ ⟨_, a3 i hi⟩).trans (a3 i hi)⟩
  · exact Nat.le_trans hP.2.1 u4.2.1
  · rw [cx_old u4 (Nat.lt_of_lt_of_le hq hP.2.1)]
    exact hP.2.2.1 q hq
  · by_cases e0 : q < s.heap.size
    · rw [cx_old u4 e0] at hc
      exact hP.2.2.2 q cell hq hc
    · have hlt := (Array.getElem?_eq_some_iff.mp hc).1
      have e2 : q = s.heap.size := by omega
      subst e2
      cases (show some ce = some cell from u5.symm.trans hc)
      exact u6.vm
end CXH
end
section
/-! Numbers and bits. -/
def lb (w : Int64) (i : Nat) : Bool := w.toBitVec.getLsbD i
theorem lb_ext {x y : Int64} (h : ∀ i, i < 64 → lb x i = lb y i) : x = y := Int64.toBitVec_inj.mp (BitVec.eq_of_getLsbD_eq h)
theorem lb_and (x y : Int64) (i : Nat) : lb (x &&& y) i = (lb x i && lb y i) := by simp [lb, Int64.toBitVec_and]
theorem lb_or (x y : Int64) (i : Nat) : lb (x ||| y) i = (lb x i || lb y i) := by simp [lb, Int64.toBitVec_or]
theorem lb_0 (i : Nat) : lb 0 i = false := by
  show (0#64).getLsbD i = false
  simp
theorem lb_m1 {i : Nat} (h : i < 64) : lb (-1) i = true := by
  have ha : (-1 : Int64).toBitVec = BitVec.allOnes 64 := by decide
  unfold lb
  rw [ha, BitVec.getLsbD_allOnes]
  simp [h]
theorem lb_not (x : Int64) {i : Nat} (h : i < 64) : lb (x ^^^ (-1)) i = !lb x i := by
  have ha : (-1 : Int64).toBitVec = BitVec.allOnes 64 := by decide
  simp [lb, Int64.toBitVec_xor, ha, h]
theorem wb_c : ∀ k, k < 64 → ((nI k).toInt64 &&& 63) = lN k := by decide +kernel
theorem wb_cu : ∀ k, k < 64 → ((nI k).toInt64.toUInt64 &&& Int64.toUInt64 63) = UInt64.ofNat k := by decide +kernel
theorem wb_sm : ∀ k, k < 64 → (lN k).toBitVec.smod 64 = BitVec.ofNat 64 k := by decide +kernel
theorem lb_1shl : ∀ k, k < 64 → ((1 : Int64) <<< lN k).toBitVec = BitVec.twoPow 64 k := by decide +kernel
theorem lb_shl1 {k i : Nat} (hk : k < 64) (hi : i < 64) : lb ((1 : Int64) <<< ((nI k).toInt64 &&& 63)) i = decide (i = k) := by
  rw [wb_c k hk]
  unfold lb
  rw [lb_1shl k hk, BitVec.getLsbD_twoPow]
  by_cases e : i = k
  · subst e; simp [hi]
  · simp [e, hi, Ne.symm e]
theorem lb_one (x : Int64) : (x &&& 1) = if lb x 0 then 1 else 0 := by
  apply lb_ext
  intro i hi
  rw [lb_and]
  have h1 : lb 1 i = decide (i = 0) := by
    show (1#64).getLsbD i = _
    by_cases e : i = 0 <;> simp [e, hi]
  rw [h1]
  by_cases e : i = 0
  · subst e
    cases h : lb x 0 <;> simp [lb_0, h1]
  · cases h : lb x 0 <;> simp [e, lb_0, h1]
theorem lb_ushr1 {w : Int64} {k : Nat} (hk : k < 64) : ((w.toUInt64 >>> ((nI k).toInt64.toUInt64 &&& Int64.toUInt64 63)).toInt64 &&& 1) = if lb w k then 1 else 0 := by
  rw [wb_cu k hk, lb_one]
  have e : (w.toUInt64 >>> UInt64.ofNat k).toInt64.toBitVec = w.toBitVec >>> k := by
    apply BitVec.eq_of_toNat_eq
    show (w.toUInt64 >>> UInt64.ofNat k).toNat = _
    rw [UInt64.toNat_shiftRight, UInt64.toNat_ofNat', Nat.mod_eq_of_lt (show k < 2 ^ 64 by omega), Nat.mod_eq_of_lt hk, BitVec.toNat_ushiftRight]
    rfl
  unfold lb
  rw [e]
  simp
theorem lb_sshr1 {w : Int64} {k : Nat} (hk : k < 64) : ((w >>> ((nI k).toInt64 &&& 63)) &&& 1) = if lb w k then 1 else 0 := by
  rw [wb_c k hk, lb_one]
  unfold lb
  rw [Int64.toBitVec_shiftRight, wb_sm k hk, BitVec.sshiftRight_eq']
  rw [BitVec.getLsbD_sshiftRight]
  have : (BitVec.ofNat 64 k).toNat = k := by simp; omega
  rw [this]
  simp [hk]
theorem nx_sm : ∀ k, k < 32 → ((nI k &&& 31).toBitVec.smod 32).toNat = k := by decide +kernel
theorem nx_shr {c k : Nat} (hc : c < 2 ^ 31) (hk : k < 32) : nI c >>> (nI k &&& 31) = nI (c / 2 ^ k) := pk_shrN hc _ k (nx_sm k hk)
theorem nx_shl {c k : Nat} (hk : k < 32) (h : c * 2 ^ k < 2 ^ 32) : nI c <<< (nI k &&& 31) = nI (c * 2 ^ k) := pk_shlN _ k (nx_sm k hk) h
theorem nx_and1 {c : Nat} (hc : c < 2 ^ 32) : nI c &&& 1 = nI (c % 2) := pk_andN hc 1 rfl
theorem nx_and63 {c : Nat} (hc : c < 2 ^ 32) : nI c &&& 63 = nI (c % 64) := pk_andN hc 6 rfl
theorem nx_c {c : Nat} (hc : c < 2 ^ 31) : (nI c).toNatClampNeg = c := nI_clamp hc
theorem nx_ne1 {c : Nat} : nI (c % 2) = 1 ↔ c % 2 = 1 := by
  rw [show (1 : Int32) = nI 1 from rfl, nI_eq (by omega) (by omega)]
/-- the value of input k on choice c -/
def cb (k c : Nat) : Bool := c / 2 ^ (7 - k) % 2 == 1
/-- a boolean as an int -/
def b2 (b : Bool) : Int32 := if b then 1 else 0
theorem b2_01 (b : Bool) : b2 b = 0 ∨ b2 b = 1 := by cases b <;> simp [b2]
theorem b2_t : b2 true = 1 := rfl
theorem b2_f : b2 false = 0 := rfl
theorem b2_ne0 {b : Bool} : ¬ b2 b = 0 ↔ b = true := by cases b <;> decide
theorem b2_eq0 {b : Bool} : b2 b = 0 ↔ b = false := by cases b <;> decide
theorem cb_val {k c : Nat} (hk : k < 8) (hc : c < 2 ^ 31) : (nI c >>> ((7 - nI k) &&& 31)) &&& 1 = nI (c / 2 ^ (7 - k) % 2) := by
  rw [show (7 : Int32) = nI 7 from rfl, pk_sub (by omega), nx_shr hc (by omega), nx_and1]
  exact Nat.lt_of_le_of_lt (Nat.div_le_self _ _) (by omega)
theorem cb_iff {k c : Nat} (hk : k < 8) (hc : c < 2 ^ 31) : (nI c >>> ((7 - nI k) &&& 31)) &&& 1 = 1 ↔ cb k c = true := by
  rw [cb_val hk hc, nx_ne1]
  simp [cb]
/-- lcmp with 1 of a bit -/
theorem lc_bit (b : Bool) : lg_cmp (if b then 1 else 0) 1 = if b then 0 else -1 := by cases b <;> decide
theorem lc_eq {x y : Int64} : lg_cmp x y = 0 ↔ x = y := by
  unfold lg_cmp
  split
  · rename_i h
    constructor
    · intro q; exact absurd q (by decide)
    · intro q; subst q; exact (Int64.lt_irrefl h).elim
  · split
    · rename_i h; simp [h]
    · rename_i h
      constructor
      · intro q; exact absurd q (by decide)
      · intro q; exact absurd q h
end
section
/-! First methods. -/
def sp_M_total : cx_S := cx_self 1 (fun j r ws R => ∃ x n l m q, ws = wd x n l m q ∧ j = 11 ∧ r = [] ∧ R (.inl (some (.inl (m.2.2.2.2.2.2.2.2.2.1 - 2)))) ws)
theorem pu_M_total : ∀ as ws Rq, sp_M_total as ws Rq → cx_cats as ≤ 1 ∧ ∀ V, cx_cl1 t_M_total [] [] [] 0 0 Rq V → V 0 (cx_lv0 as 1) [] ws 0 0 := by
  intro as ws Rq h0
  obtain ⟨j, r, fs, rfl, hj, x, n, l, m, q, rfl, rfl, rfl, h⟩ := cx_self_spec h0
  refine ⟨Nat.le_of_ble_eq_true rfl, fun V hV => hV [] 20 _ _ _ _ _ _ ?_⟩
  conv => whnf
  exact ⟨fun q => absurd q (by decide), h⟩
def sp_N_isInput : cx_S := cx_self 2 (fun j r ws R => ∃ x n l m q g, ws = wd x n l m q ∧ j = 1 ∧ r = [.inl g] ∧ vp_in g 120 ∧ (n.1 g.toNatClampNeg = 0 → R (.inl (some (.inl 1))) ws) ∧ (¬ n.1 g.toNatClampNeg = 0 → R (.inl (some (.inl 0))) ws))
theorem pu_N_isInput : ∀ as ws Rq, sp_N_isInput as ws Rq → cx_cats as ≤ 2 ∧ ∀ V, cx_cl1 t_N_isInput [] [] [] 0 0 Rq V → V 0 (cx_lv0 as 2) [] ws 0 0 := by
  intro as ws Rq h0
  obtain ⟨j, r, fs, rfl, hj, x, n, l, m, q, g, rfl, rfl, rfl, h1, h2, h3⟩ := cx_self_spec h0
  refine ⟨Nat.le_of_ble_eq_true rfl, fun V hV => hV [] 20 _ _ _ _ _ _ ?_⟩
  conv => whnf
  refine ⟨h1, ?_⟩
  conv => whnf
  refine ⟨fun q => ?_, fun q => ?_⟩
  · conv => whnf
    exact ⟨fun _ => Or.inl rfl, h3 q⟩
  · conv => whnf
    exact ⟨fun _ => Or.inr rfl, h2 q⟩
end
section
/-! Small methods: what they answer. -/
/-- is x a number below y -/
def hg (x y : Int32) : Bool := decide (¬ x < 0) && decide (¬ y ≤ x)
def sp_N_hasGate : cx_S := cx_self 2 (fun j r ws R => ∃ x n l m q g, ws = wd x n l m q ∧ j = 1 ∧ r = [.inl g] ∧ R (.inl (some (.inl (b2 (hg g n.2.2.2.2.2.2.2.2.1))))) ws)
theorem pu_N_hasGate : ∀ as ws Rq, sp_N_hasGate as ws Rq → cx_cats as ≤ 2 ∧ ∀ V, cx_cl1 t_N_hasGate [] [] [] 0 0 Rq V → V 0 (cx_lv0 as 2) [] ws 0 0 := by
  intro as ws Rq h0
  obtain ⟨j, r, fs, rfl, hj, x, n, l, m, q, g, rfl, rfl, rfl, h⟩ := cx_self_spec h0
  refine ⟨Nat.le_of_ble_eq_true rfl, fun V hV => hV [] 20 _ _ _ _ _ _ ?_⟩
  conv => whnf
  refine ⟨fun q1 => ?_, fun q1 => ?_⟩
  · conv => whnf
    rw [show hg g n.2.2.2.2.2.2.2.2.1 = false by simp [hg, q1]] at h
    exact ⟨fun _ => Or.inl rfl, h⟩
  · conv => whnf
    refine ⟨fun q2 => ?_, fun q2 => ?_⟩
    · conv => whnf
      rw [show hg g n.2.2.2.2.2.2.2.2.1 = false by simp [hg, q2]] at h
      exact ⟨fun _ => Or.inl rfl, h⟩
    · conv => whnf
      rw [show hg g n.2.2.2.2.2.2.2.2.1 = true by simp [hg, q1, q2]] at h
      exact ⟨fun _ => Or.inr rfl, h⟩
/-- isInputSet -/
def sp_C_isInputSet : cx_S := fun as ws R => ∃ k c, as = [.inl (nI k), .inl (nI c)] ∧ k < 8 ∧ c < 256 ∧ R (.inl (some (.inl (b2 (cb k c))))) ws
theorem pu_C_isInputSet : ∀ as ws Rq, sp_C_isInputSet as ws Rq → cx_cats as ≤ 2 ∧ ∀ V, cx_cl1 t_C_isInputSet [] [] [] 0 0 Rq V → V 0 (cx_lv0 as 2) [] ws 0 0 := by
  rintro as ws Rq ⟨k, c, rfl, hk, hc, h⟩
  refine ⟨Nat.le_of_ble_eq_true rfl, fun V hV => hV [] 20 _ _ _ _ _ _ ?_⟩
  conv => whnf
  refine ⟨fun q1 => ?_, fun q1 => ?_⟩
  · conv => whnf
    rw [show cb k c = false by
      cases e : cb k c with
      | false => rfl
      | true => exact absurd ((cb_iff hk (by omega)).mpr e) q1] at h
    exact ⟨fun _ => Or.inl rfl, h⟩
  · conv => whnf
    rw [(cb_iff hk (by omega)).mp q1] at h
    exact ⟨fun _ => Or.inr rfl, h⟩
/-- isMember -/
def sp_C_isMember : cx_S := fun as ws R => ∃ j g c n k f, as = [.inr (.inr (.inr (.inl (j, g)))), .inl (nI c)] ∧ c < 256 ∧ ws[j]? = some (.inr (.inr (.inr (.inr (n, k, f))))) ∧ g < n ∧ k = 4 ∧ R (.inl (some (.inl (b2 (lb (f g (c / 64)) (c % 64)))))) ws
theorem pu_C_isMember : ∀ as ws Rq, sp_C_isMember as ws Rq → cx_cats as ≤ 2 ∧ ∀ V, cx_cl1 t_C_isMember [] [] [] 0 0 Rq V → V 0 (cx_lv0 as 2) [] ws 0 0 := by
  rintro as ws Rq ⟨j, g, c, n, k, f, rfl, hc, hj, hg, rfl, h⟩
  refine ⟨Nat.le_of_ble_eq_true rfl, fun V hV => hV [] 40 _ _ _ _ _ _ ?_⟩
  have h64 : nI c / 64 = nI (c / 64) := pk_div (d := 64) (by omega) (by omega) (by omega)
  have hr64 : nI c - nI c / 64 * 64 = nI (c % 64) := pk_rem (d := 64) (by omega) (by omega) (by omega)
  conv => whnf
  refine ⟨by decide, ?_⟩
  conv => whnf
  rw [hj]
  conv => whnf
  refine ⟨⟨hg, by rw [h64]; exact vp_in_nI (N := 4) (by omega) (by omega)⟩, ?_⟩
  conv => whnf
  refine ⟨by decide, ?_⟩
  conv => whnf
  rw [hr64, lb_ushr1 (by omega), lc_bit, h64, nx_c (by omega)]
  cases hb : lb (f g (c / 64)) (c % 64) with
  | true =>
    rw [hb] at h
    refine ⟨fun q => absurd rfl q, fun _ => ?_⟩
    conv => whnf
    exact ⟨fun _ => Or.inr rfl, h⟩
  | false =>
    rw [hb] at h
    refine ⟨fun _ => ?_, fun q => absurd q (by decide)⟩
    conv => whnf
    exact ⟨fun _ => Or.inl rfl, h⟩
end
section
/-! The net: what its gates settle at, by rounds. -/
abbrev aN : Type := Nat × (Nat → Nat) × (Nat → Nat) × Nat × (Nat → Nat) × (Nat → Nat) × (Nat → Bool) × Nat
abbrev a_g (a : aN) : Nat := a.1
abbrev a_so (a : aN) : Nat → Nat := a.2.1
abbrev a_nu (a : aN) : Nat → Nat := a.2.2.1
abbrev a_f (a : aN) : Nat := a.2.2.2.1
abbrev a_to (a : aN) : Nat → Nat := a.2.2.2.2.1
abbrev a_fr (a : aN) : Nat → Nat := a.2.2.2.2.2.1
abbrev a_ne (a : aN) : Nat → Bool := a.2.2.2.2.2.2.1
abbrev a_i (a : aN) : Nat := a.2.2.2.2.2.2.2
abbrev vl : Type := Option Bool
def and3 (x y : vl) : vl := match x, y with
  | some false, _ => some false
  | _, some false => some false
  | some true, y => y
  | none, _ => none
def xr (b : Bool) (x : vl) : vl := x.map (fun z => z ^^ b)
def tr (a : aN) (g : Nat) : Bool := a_so a g == 3
def tk (a : aN) (g : Nat) (v : Nat → vl) (k : Nat) : vl := xr (a_ne a k ^^ tr a g) (v (a_fr a k))
def mad (a : aN) (g : Nat) (v : Nat → vl) : Nat → vl
  | 0 => some true
  | k + 1 => if a_to a k = g then and3 (mad a g v k) (tk a g v k) else mad a g v k
def made (a : aN) (g : Nat) (v : Nat → vl) : vl := xr (tr a g) (mad a g v (a_f a))
def le3 (x y : vl) : Prop := x = none ∨ x = y
theorem le3_rfl (x : vl) : le3 x x := Or.inr rfl
theorem le3_some {x y : vl} (h : le3 x y) (hx : x ≠ none) : y = x := (h.elim (fun e => absurd e hx) id).symm
theorem le3_trans {x y z : vl} (h1 : le3 x y) (h2 : le3 y z) : le3 x z := by
  rcases h1 with h | h
  · exact Or.inl h
  · subst h; exact h2
theorem and3_mono {x x' y y' : vl} (hx : le3 x x') (hy : le3 y y') : le3 (and3 x y) (and3 x' y') := by
  rcases hx with rfl | rfl <;> rcases hy with rfl | rfl
  · exact Or.inl rfl
  · rcases y with _ | _ | _ <;> rcases x' with _ | _ | _ <;> simp [and3, le3]
  · rcases x with _ | _ | _ <;> rcases y' with _ | _ | _ <;> simp [and3, le3]
  · exact Or.inr rfl
theorem and3_comm (x y : vl) : and3 x y = and3 y x := by
  rcases x with _ | _ | _ <;> rcases y with _ | _ | _ <;> rfl
theorem and3_assoc (x y z : vl) : and3 (and3 x y) z = and3 x (and3 y z) := by
  rcases x with _ | _ | _ <;> rcases y with _ | _ | _ <;> rcases z with _ | _ | _ <;> rfl
theorem xr_mono {b : Bool} {x y : vl} (h : le3 x y) : le3 (xr b x) (xr b y) := by
  rcases h with rfl | rfl
  · exact Or.inl rfl
  · exact Or.inr rfl
def leV (v w : Nat → vl) : Prop := ∀ g, le3 (v g) (w g)
theorem leV_rfl (v : Nat → vl) : leV v v := fun g => le3_rfl _
theorem leV_trans {u v w : Nat → vl} (h1 : leV u v) (h2 : leV v w) : leV u w := fun g => le3_trans (h1 g) (h2 g)
theorem mad_mono {a : aN} {g : Nat} {v w : Nat → vl} (h : leV v w) : ∀ k, le3 (mad a g v k) (mad a g w k)
  | 0 => le3_rfl _
  | k + 1 => by
    unfold mad
    split
    · exact and3_mono (mad_mono h k) (xr_mono (h _))
    · exact mad_mono h k
theorem made_mono {a : aN} {g : Nat} {v w : Nat → vl} (h : leV v w) : le3 (made a g v) (made a g w) := xr_mono (mad_mono h _)
/-- one gate is worked out anew -/
def pst (a : aN) (v : Nat → vl) (g : Nat) : Nat → vl := if a_so a g = 0 then v else fun q => if q = g then made a g v else v q
def pas (a : aN) (v : Nat → vl) : Nat → Nat → vl
  | 0 => v
  | g + 1 => pst a (pas a v g) g
def rnd (a : aN) (v : Nat → vl) : Nat → vl := pas a v (a_g a)
def ini (a : aN) (c : Nat) : Nat → vl := fun g => if a_so a g = 0 then some (cb (a_nu a g) c) else none
def itr (a : aN) (c : Nat) : Nat → Nat → vl
  | 0 => ini a c
  | r + 1 => rnd a (itr a c r)
/-- the value of a gate on a choice -/
def val (a : aN) (c : Nat) : Nat → vl := itr a c (a_g a + 1)
def con (a : aN) (v : Nat → vl) : Prop := ∀ g, g < a_g a → a_so a g ≠ 0 → v g ≠ none → made a g v = v g
theorem pst_le {a : aN} {v : Nat → vl} {g : Nat} (hg : g < a_g a) (h : con a v) : leV v (pst a v g) := by
  intro q
  unfold pst
  split
  · exact le3_rfl _
  · rename_i hs
    by_cases e : q = g
    · subst e
      simp only [if_true]
      by_cases hn : v q = none
      · exact Or.inl hn
      · exact Or.inr (h q hg hs hn).symm
    · simp only [e, if_false]
      exact le3_rfl _
theorem pst_con {a : aN} {v : Nat → vl} {g : Nat} (hg : g < a_g a) (h : con a v) : con a (pst a v g) := by
  have hle := pst_le hg h
  intro q hq hs hn
  by_cases e : q = g
  · subst e
    have e2 : pst a v q q = made a q v := by simp [pst, hs]
    rw [e2] at hn ⊢
    exact le3_some (made_mono hle) hn
  · have e2 : pst a v g q = v q := by
      unfold pst
      split
      · rfl
      · simp [e]
    rw [e2] at hn ⊢
    have := h q hq hs hn
    rw [← this] at hn
    rw [← this]
    exact le3_some (made_mono hle) hn
theorem pas_both {a : aN} {v : Nat → vl} (h : con a v) : ∀ g, g ≤ a_g a → con a (pas a v g) ∧ leV v (pas a v g)
  | 0, _ => ⟨h, leV_rfl v⟩
  | g + 1, hg => by
    obtain ⟨h1, h2⟩ := pas_both h g (by omega)
    exact ⟨pst_con (by omega) h1, leV_trans h2 (pst_le (by omega) h1)⟩
theorem ini_con (a : aN) (c : Nat) : con a (ini a c) := by
  intro g hg hs hn
  simp [ini, hs] at hn
theorem itr_con (a : aN) (c : Nat) : ∀ r, con a (itr a c r)
  | 0 => ini_con a c
  | r + 1 => (pas_both (itr_con a c r) _ (Nat.le_refl _)).1
theorem rnd_le (a : aN) (c r : Nat) : leV (itr a c r) (itr a c (r + 1)) := (pas_both (itr_con a c r) _ (Nat.le_refl _)).2
def kc (v : Nat → vl) : Nat → Nat
  | 0 => 0
  | n + 1 => kc v n + (if v n = none then 0 else 1)
theorem kc_le (v : Nat → vl) : ∀ n, kc v n ≤ n
  | 0 => Nat.le_refl _
  | n + 1 => by
    have := kc_le v n
    unfold kc
    split <;> omega
theorem kc_mono {v w : Nat → vl} (h : leV v w) : ∀ n, kc v n ≤ kc w n
  | 0 => Nat.le_refl _
  | n + 1 => by
    have h1 := kc_mono h n
    unfold kc
    by_cases e : v n = none
    · simp only [e, if_true]
      omega
    · have e2 : w n ≠ none := by
        rw [le3_some (h n) e]
        exact e
      simp only [e, e2, if_false]
      omega
theorem kc_lt {v w : Nat → vl} (h : leV v w) : ∀ n, (∃ g, g < n ∧ v g ≠ w g) → kc v n < kc w n
  | 0, ⟨g, hg, _⟩ => absurd hg (Nat.not_lt_zero _)
  | n + 1, ⟨g, hg, hne⟩ => by
    have h1 := kc_mono h n
    by_cases e : v n = none
    · by_cases e2 : w n = none
      · have hgn : g < n := by
          rcases Nat.lt_or_ge g n with q | q
          · exact q
          · have : g = n := by omega
            subst this
            exact absurd (e.trans e2.symm) hne
        have h2 := kc_lt h n ⟨g, hgn, hne⟩
        simp only [kc, e, e2, if_true]
        omega
      · simp only [kc, e, e2, if_true, if_false]
        omega
    · have e2 : w n = v n := le3_some (h n) e
      have hgn : g < n := by
        rcases Nat.lt_or_ge g n with q | q
        · exact q
        · have : g = n := by omega
          subst this
          exact absurd e2.symm hne
      have h2 := kc_lt h n ⟨g, hgn, hne⟩
      simp only [kc, e2, e, if_false]
      omega
theorem pas_out {a : aN} {v : Nat → vl} : ∀ n q, n ≤ q → pas a v n q = v q
  | 0, _, _ => rfl
  | n + 1, q, h => by
    show pst a (pas a v n) n q = v q
    unfold pst
    split
    · exact pas_out n q (by omega)
    · simp only [show q ≠ n by omega, if_false]
      exact pas_out n q (by omega)
theorem itr_fix (a : aN) (c : Nat) : ∃ r, r ≤ a_g a ∧ itr a c (r + 1) = itr a c r := by
  apply Classical.byContradiction
  intro hno
  have key : ∀ r, r ≤ a_g a + 1 → r ≤ kc (itr a c r) (a_g a) := by
    intro r
    induction r with
    | zero => intro _; exact Nat.zero_le _
    | succ r ih =>
      intro hr
      have h1 := ih (by omega)
      have hne : itr a c (r + 1) ≠ itr a c r := fun e => hno ⟨r, by omega, e⟩
      have : ∃ g, g < a_g a ∧ itr a c r g ≠ itr a c (r + 1) g := by
        apply Classical.byContradiction
        intro hn
        apply hne
        funext g
        rcases Nat.lt_or_ge g (a_g a) with q | q
        · apply Classical.byContradiction
          intro h2
          exact hn ⟨g, q, fun e => h2 e.symm⟩
        · exact pas_out (a := a) (v := itr a c r) (a_g a) g q
      have h2 := kc_lt (rnd_le a c r) _ this
      omega
  have h1 := key (a_g a + 1) (Nat.le_refl _)
  have h2 := kc_le (itr a c (a_g a + 1)) (a_g a)
  omega
theorem itr_stay {a : aN} {c r : Nat} (h : itr a c (r + 1) = itr a c r) : ∀ s, itr a c (r + s) = itr a c r
  | 0 => rfl
  | s + 1 => by
    show rnd a (itr a c (r + s)) = _
    rw [itr_stay h s]
    exact h
theorem val_stay (a : aN) (c : Nat) : ∃ r, r ≤ a_g a ∧ val a c = itr a c r ∧ itr a c (r + 1) = itr a c r := by
  obtain ⟨r, h1, h2⟩ := itr_fix a c
  refine ⟨r, h1, ?_, h2⟩
  have := itr_stay h2 (a_g a + 1 - r)
  rw [show r + (a_g a + 1 - r) = a_g a + 1 by omega] at this
  exact this
theorem val_fix (a : aN) (c : Nat) : rnd a (val a c) = val a c := by
  obtain ⟨r, -, h1, h2⟩ := val_stay a c
  rw [h1]
  exact h2
/-- where a round changes nothing the values are reached -/
theorem val_of_fix {a : aN} {c r : Nat} (h : itr a c (r + 1) = itr a c r) : itr a c r = val a c := by
  obtain ⟨r0, -, h1, h2⟩ := val_stay a c
  rw [h1]
  rcases Nat.le_total r r0 with q | q
  · have := itr_stay h (r0 - r)
    rw [show r + (r0 - r) = r0 by omega] at this
    exact this.symm
  · have := itr_stay h2 (r - r0)
    rw [show r0 + (r - r0) = r by omega] at this
    exact this
/-- a known gate may be passed over -/
def mps (a : aN) (v : Nat → vl) (g : Nat) : Nat → vl := if a_so a g = 0 ∨ v g ≠ none then v else fun q => if q = g then made a g v else v q
theorem mps_eq {a : aN} {v : Nat → vl} {g : Nat} (hg : g < a_g a) (h : con a v) : mps a v g = pst a v g := by
  unfold mps pst
  by_cases hs : a_so a g = 0
  · simp [hs]
  · by_cases hn : v g = none
    · simp [hs, hn]
    · simp only [hs, hn, ne_eq, not_false_iff, or_true, if_true, if_false]
      funext q
      by_cases e : q = g
      · subst e; simp [h q hg hs hn]
      · simp [e]
end
section
/-! How the class and the reference hold a net. -/
def prv (to : Nat → Nat) : Nat → Nat → Nat
  | 0, _ => 0
  | n + 1, g => if to n = g then n + 1 else prv to n g
/-- a place in a chain, one more than the number; 0 is none -/
def prI (p : Nat) : Int32 := nI p - 1
theorem prI_0 : prI 0 = -1 := by decide
theorem prI_s (p : Nat) : prI (p + 1) = nI p := nI_pred p
theorem prI_ne {p : Nat} (h : p < 2 ^ 31) : ¬ prI (p + 1) = -1 := by
  rw [prI_s]
  intro e
  have := nI_toInt h
  rw [e] at this
  have h1 : (-1 : Int32).toInt = -1 := by decide
  rw [h1] at this
  omega
theorem prv_le (to : Nat → Nat) (g : Nat) : ∀ n, prv to n g ≤ n
  | 0 => Nat.le_refl _
  | n + 1 => by
    unfold prv
    have := prv_le to g n
    split <;> omega
theorem prv_hit (to : Nat → Nat) (g : Nat) : ∀ n p, prv to n g = p + 1 → to p = g
  | 0, p, h => by simp [prv] at h
  | n + 1, p, h => by
    unfold prv at h
    split at h
    · rename_i e
      have : n = p := by omega
      subst this
      exact e
    · exact prv_hit to g n p h
theorem prv_idem (to : Nat → Nat) (g : Nat) : ∀ n, prv to (prv to n g) g = prv to n g
  | 0 => rfl
  | n + 1 => by
    by_cases e : to n = g
    · simp [prv, e]
    · simp only [prv, e, if_false]
      exact prv_idem to g n
def cnt (to : Nat → Nat) : Nat → Nat → Nat
  | 0, _ => 0
  | n + 1, g => cnt to n g + (if to n = g then 1 else 0)
theorem cnt_le (to : Nat → Nat) (g : Nat) : ∀ n, cnt to n g ≤ n
  | 0 => Nat.le_refl _
  | n + 1 => by
    unfold cnt
    have := cnt_le to g n
    split <;> omega
theorem mad_prv (a : aN) (g : Nat) (v : Nat → vl) : ∀ n, mad a g v n = mad a g v (prv (a_to a) n g)
  | 0 => rfl
  | n + 1 => by
    by_cases e : a_to a n = g
    · simp [prv, e]
    · simp only [prv, e, if_false]
      rw [← mad_prv a g v n]
      simp [mad, e]
theorem mad_hit {a : aN} {g : Nat} {v : Nat → vl} {p : Nat} (e : a_to a p = g) : mad a g v (p + 1) = and3 (mad a g v p) (tk a g v p) := by simp [mad, e]
def wfN (a : aN) : Prop := a_g a ≤ 120 ∧ a_f a ≤ 500 ∧ a_i a ≤ 8 ∧ (∀ g, g < a_g a → (a_so a g = 0 ∨ a_so a g = 2 ∨ a_so a g = 3) ∧ (a_so a g = 0 → a_nu a g < 8)) ∧ ∀ k, k < a_f a → a_to a k < a_g a ∧ a_fr a k < a_g a ∧ a_so a (a_to a k) ≠ 0
abbrev n_so (n : wN) := n.1
abbrev n_ff (n : wN) := n.2.1
abbrev n_fo (n : wN) := n.2.2.1
abbrev n_fr (n : wN) := n.2.2.2.1
abbrev n_ne (n : wN) := n.2.2.2.2.1
abbrev n_nx (n : wN) := n.2.2.2.2.2.1
abbrev n_hi (n : wN) := n.2.2.2.2.2.2.1
abbrev n_lo (n : wN) := n.2.2.2.2.2.2.2.1
abbrev n_g (n : wN) := n.2.2.2.2.2.2.2.2.1
abbrev n_f (n : wN) := n.2.2.2.2.2.2.2.2.2.1
abbrev n_i (n : wN) := n.2.2.2.2.2.2.2.2.2.2.1
abbrev n_st (n : wN) := n.2.2.2.2.2.2.2.2.2.2.2
/-- the class's net but for the rows -/
def rS (a : aN) (n : wN) : Prop := wfN a ∧ n_g n = nI (a_g a) ∧ n_f n = nI (a_f a) ∧ n_i n = nI (a_i a) ∧
  (∀ g, g < a_g a → n_so n g = nI (a_so a g) ∧ n_ff n g = prI (prv (a_to a) (a_f a) g) ∧ n_fo n g = nI (cnt (a_to a) (a_f a) g)) ∧
  (∀ k, k < a_f a → n_fr n k = nI (a_fr a k) ∧ n_ne n k = b2 (a_ne a k) ∧ n_nx n k = prI (prv (a_to a) k (a_to a k)))
def eH (x : vl) : Bool := x == some true
def eL (x : vl) : Bool := x == some false
theorem eH_and (x y : vl) : eH (and3 x y) = (eH x && eH y) := by
  rcases x with _ | _ | _ <;> rcases y with _ | _ | _ <;> rfl
theorem eL_and (x y : vl) : eL (and3 x y) = (eL x || eL y) := by
  rcases x with _ | _ | _ <;> rcases y with _ | _ | _ <;> rfl
theorem eH_xr (b : Bool) (x : vl) : eH (xr b x) = if b then eL x else eH x := by
  rcases x with _ | _ | _ <;> cases b <;> rfl
theorem eL_xr (b : Bool) (x : vl) : eL (xr b x) = if b then eH x else eL x := by
  rcases x with _ | _ | _ <;> cases b <;> rfl
theorem e_ext {x y : vl} (h1 : eH x = eH y) (h2 : eL x = eL y) : x = y := by
  rcases x with _ | _ | _ <;> rcases y with _ | _ | _ <;> first | rfl | (simp [eH, eL] at h1 h2)
theorem and3_t (x : vl) : and3 x (some true) = x := by rcases x with _ | _ | _ <;> rfl
theorem t_and3 (x : vl) : and3 (some true) x = x := by rcases x with _ | _ | _ <;> rfl
/-- word w of the rows holds the values v b on its choices -/
def encW (a : aN) (hi lo : Nat → Nat → Int64) (w : Nat) (v : Nat → Nat → vl) : Prop := ∀ b, b < 64 → ∀ q, q < a_g a → lb (hi q w) b = eH (v b q) ∧ lb (lo q w) b = eL (v b q)
end
section
/-! settleGate: a gate is worked out anew on 64 choices. -/
def sp_N_settleGate : cx_S := cx_self 2 (fun j r ws R => ∃ x n l m q a g w v, ws = wd x n l m q ∧ j = 1 ∧ r = [.inl (nI g), .inl (nI w)] ∧ rS a n ∧ g < a_g a ∧ w < 4 ∧ encW a (n_hi n) (n_lo n) w v ∧
  ∀ (o z : Int64) (ch : Bool), (∀ b, b < 64 → lb o b = eH (made a g (v b)) ∧ lb z b = eL (made a g (v b))) → (ch = false → o = n_hi n g w ∧ z = n_lo n g w) →
    R (.inl (some (.inl (b2 ch)))) (wd x (n_so n, n_ff n, n_fo n, n_fr n, n_ne n, n_nx n, va_up (n_hi n) g (vp_updL (n_hi n g) w o), va_up (n_lo n) g (vp_updL (n_lo n g) w z), n_g n, n_f n, n_i n, n_st n) l m q))
set_option maxRecDepth 100000 in
set_option maxHeartbeats 4000000 in
theorem pu_N_settleGate : ∀ as ws Rq, sp_N_settleGate as ws Rq → cx_cats as ≤ 14 ∧ ∀ V, cx_cl1 t_N_settleGate [] [] [] 0 0 Rq V → V 0 (cx_lv0 as 14) [] ws 0 0 := by
  intro as ws Rq h0
  obtain ⟨j, r, fs, rfl, hj, x, n, l, m, q, a, g, w, v, rfl, rfl, rfl, ⟨hwf, hgg, hff, hii, hG, hK⟩, hg, hw, hen, h⟩ := cx_self_spec h0
  refine ⟨Nat.le_of_ble_eq_true rfl, fun V hV => ?_⟩
  obtain ⟨w1, w2, w3, w4, w5⟩ := hwf
  have hcg : (nI g).toNatClampNeg = g := nx_c (by omega)
  have hcw : (nI w).toNatClampNeg = w := nx_c (by omega)
  have ing : vp_in (nI g) 120 := vp_in_nI (by omega) (by omega)
  have inw : vp_in (nI w) 4 := vp_in_nI hw (by omega)
  obtain ⟨hso, hfi, -⟩ := hG g hg
  have fin2 : ∀ (o z : Int64) (ch : Bool) (o3 o4 o6 o8 : Option cx_V), (∀ b, b < 64 → lb o b = eH (made a g (v b)) ∧ lb z b = eL (made a g (v b))) → (ch = false → o = n_hi n g w ∧ z = n_lo n g w) →
      V 213 [some (.inr (.inr (.inl 1))), some (.inl (nI g)), some (.inl (nI w)), o3, o4, none, o6, none, o8, some (.inr (.inl o)), none, some (.inr (.inl z)), none, none] [.inl (b2 ch)] (wd x n l m q) 0 0 := by
    intro o z ch o3 o4 o6 o8 h1 h2
    have h3 := h o z ch h1 h2
    refine hV [] 60 _ _ _ _ _ _ ?_
    conv => whnf
    refine ⟨ing, ?_⟩
    conv => whnf
    refine ⟨⟨by rw [hcg]; show g < 120; omega, inw⟩, ?_⟩
    conv => whnf
    refine ⟨ing, ?_⟩
    conv => whnf
    refine ⟨⟨by rw [hcg]; show g < 120; omega, inw⟩, ?_⟩
    conv => whnf
    refine ⟨fun _ => b2_01 ch, ?_⟩
    rw [hcg, hcw]
    exact h3
  have fin : ∀ (acc : Nat → vl) (al an : Int64) (f8 i9 : Int32) (o10 o11 : Option cx_V), (∀ b, b < 64 → lb al b = eH (acc b) ∧ lb an b = eL (acc b)) → (∀ b, b < 64 → acc b = mad a g (v b) (a_f a)) →
      V 154 [some (.inr (.inr (.inl 1))), some (.inl (nI g)), some (.inl (nI w)), some (.inl (b2 (tr a g))), some (.inr (.inl al)), none, some (.inr (.inl an)), none, some (.inl f8), some (.inl i9), o10, o11, none, none] [] (wd x n l m q) 0 0 := by
    intro acc al an f8 i9 o10 o11 h1 h2
    have hm : ∀ b, b < 64 → lb (if tr a g then an else al) b = eH (made a g (v b)) ∧ lb (if tr a g then al else an) b = eL (made a g (v b)) := by
      intro b hb
      unfold made
      rw [eH_xr, eL_xr, ← h2 b hb]
      cases tr a g <;> simp [h1 b hb]
    refine hV [213] 60 _ _ _ _ _ _ ?_
    cases ht : tr a g with
    | true =>
      rw [ht] at hm
      conv => whnf
      refine ⟨fun e => absurd e (by decide), fun _ => ?_⟩
      conv => whnf
      refine ⟨fun e => absurd e (by decide), fun _ => ?_⟩
      conv => whnf
      refine ⟨ing, ?_⟩
      conv => whnf
      refine ⟨⟨by rw [hcg]; show g < 120; omega, inw⟩, ?_⟩
      conv => whnf
      rw [hcg, hcw]
      refine ⟨fun e1 => ?_, fun e1 => ?_⟩
      · conv => whnf
        exact fin2 an al true _ _ _ _ hm (fun e => by cases e)
      · conv => whnf
        refine ⟨ing, ?_⟩
        conv => whnf
        refine ⟨⟨by rw [hcg]; show g < 120; omega, inw⟩, ?_⟩
        conv => whnf
        rw [hcg, hcw]
        refine ⟨fun e2 => ?_, fun e2 => ?_⟩
        · conv => whnf
          exact fin2 an al false _ _ _ _ hm (fun _ => ⟨lc_eq.mp e1, lc_eq.mp e2⟩)
        · conv => whnf
          exact fin2 an al true _ _ _ _ hm (fun e => by cases e)
    | false =>
      rw [ht] at hm
      conv => whnf
      refine ⟨fun _ => ?_, fun e => absurd rfl e⟩
      conv => whnf
      refine ⟨fun _ => ?_, fun e => absurd rfl e⟩
      conv => whnf
      refine ⟨ing, ?_⟩
      conv => whnf
      refine ⟨⟨by rw [hcg]; show g < 120; omega, inw⟩, ?_⟩
      conv => whnf
      rw [hcg, hcw]
      refine ⟨fun e1 => ?_, fun e1 => ?_⟩
      · conv => whnf
        exact fin2 al an true _ _ _ _ hm (fun e => by cases e)
      · conv => whnf
        refine ⟨ing, ?_⟩
        conv => whnf
        refine ⟨⟨by rw [hcg]; show g < 120; omega, inw⟩, ?_⟩
        conv => whnf
        rw [hcg, hcw]
        refine ⟨fun e2 => ?_, fun e2 => ?_⟩
        · conv => whnf
          exact fin2 al an false _ _ _ _ hm (fun _ => ⟨lc_eq.mp e1, lc_eq.mp e2⟩)
        · conv => whnf
          exact fin2 al an true _ _ _ _ hm (fun e => by cases e)
  have loop : ∀ (d p i : Nat) (acc : Nat → vl) (al an : Int64) (o10 o11 : Option cx_V), p ≤ d → p + i ≤ a_f a → p = prv (a_to a) p g → (∀ b, b < 64 → lb al b = eH (acc b) ∧ lb an b = eL (acc b)) → (∀ b, b < 64 → and3 (mad a g (v b) p) (acc b) = mad a g (v b) (a_f a)) →
      V 35 [some (.inr (.inr (.inl 1))), some (.inl (nI g)), some (.inl (nI w)), some (.inl (b2 (tr a g))), some (.inr (.inl al)), none, some (.inr (.inl an)), none, some (.inl (prI p)), some (.inl (nI i)), o10, o11, none, none] [] (wd x n l m q) 0 0 := by
    intro d
    induction d with
    | zero =>
      intro p i acc al an o10 o11 hpd hpi hpp h1 h2
      have hp0 : p = 0 := by omega
      subst hp0
      refine hV [154] 60 _ _ _ _ _ _ ?_
      conv => whnf
      have h3 : ∀ b, b < 64 → acc b = mad a g (v b) (a_f a) := fun b hb => by
        have := h2 b hb
        rw [show mad a g (v b) 0 = some true from rfl, t_and3] at this
        exact this
      refine ⟨fun _ => ?_, fun _ => ?_⟩
      · conv => whnf
        exact fin acc al an _ _ _ _ h1 h3
      · conv => whnf
        refine ⟨fun _ => ?_, fun e => absurd prI_0 e⟩
        conv => whnf
        exact fin acc al an _ _ _ _ h1 h3
    | succ d ih =>
      intro p i acc al an o10 o11 hpd hpi hpp h1 h2
      cases p with
      | zero => exact ih 0 i acc al an o10 o11 (Nat.zero_le _) hpi hpp h1 h2
      | succ k =>
        have hk : k < a_f a := by omega
        have hto : a_to a k = g := prv_hit _ _ _ _ hpp.symm
        obtain ⟨hfr, hne, hnx⟩ := hK k hk
        obtain ⟨-, hfrg, -⟩ := w5 k hk
        have hck : (nI k).toNatClampNeg = k := nx_c (by omega)
        have hcf : (nI (a_fr a k)).toNatClampNeg = a_fr a k := nx_c (by omega)
        have ink : vp_in (nI k) 500 := vp_in_nI (by omega) (by omega)
        have inf : vp_in (nI (a_fr a k)) 120 := vp_in_nI (by omega) (by omega)
        rw [prI_s]
        refine hV [35] 60 _ _ _ _ _ _ ?_
        conv => whnf
        refine ⟨fun e => ?_, fun _ => ?_⟩
        · exfalso
          have e2 : nI (a_f a) ≤ nI i := by rw [← hff]; exact e
          rw [nI_leI (by omega) (by omega)] at e2
          omega
        conv => whnf
        refine ⟨fun e => ?_, fun _ => ?_⟩
        · exact absurd (by rw [prI_s]; exact e) (prI_ne (p := k) (by omega))
        conv => whnf
        refine ⟨ink, ?_⟩
        simp only [hck, hfr]
        conv => whnf
        refine ⟨ink, ?_⟩
        simp only [hck, hne]
        conv => whnf
        have hxy : b2 (a_ne a k) = b2 (tr a g) ↔ (a_ne a k ^^ tr a g) = false := by cases a_ne a k <;> cases tr a g <;> decide
        refine ⟨fun e0 => ?_, fun e0 => ?_⟩
        · have hsw : (a_ne a k ^^ tr a g) = false := hxy.mp e0
          conv => whnf
          refine ⟨fun e => ?_, fun e => absurd rfl e⟩
          conv => whnf
          refine ⟨inf, ?_⟩
          conv => whnf
          refine ⟨⟨by rw [hcf]; show a_fr a k < 120; omega, inw⟩, ?_⟩
          conv => whnf
          refine ⟨fun e => ?_, fun e => absurd rfl e⟩
          conv => whnf
          refine ⟨inf, ?_⟩
          conv => whnf
          refine ⟨⟨by rw [hcf]; show a_fr a k < 120; omega, inw⟩, ?_⟩
          conv => whnf
          refine ⟨ink, ?_⟩
          simp only [hck, hcf, hcw, hnx, hto]
          conv => whnf
          rw [nI_1]
          refine ih (prv (a_to a) k g) (i + 1) (fun b => and3 (tk a g (v b) k) (acc b)) _ _ _ _ ?_ ?_ ?_ ?_ ?_
          · have := prv_le (a_to a) g k
            omega
          · have := prv_le (a_to a) g k
            omega
          · exact (prv_idem _ _ _).symm
          · intro b hb
            obtain ⟨e1, e2⟩ := hen b hb (a_fr a k) hfrg
            obtain ⟨e3, e4⟩ := h1 b hb
            rw [lb_and, lb_or, eH_and, eL_and]
            unfold tk
            rw [eH_xr, eL_xr, hsw]
            simp only [e1, e2, e3, e4]
            exact ⟨Bool.and_comm _ _, Bool.or_comm _ _⟩
          · intro b hb
            rw [← mad_prv, ← h2 b hb, mad_hit hto, and3_assoc]
        · have hsw : (a_ne a k ^^ tr a g) = true := by
            cases hq : (a_ne a k ^^ tr a g) with
            | true => rfl
            | false => exact absurd (hxy.mpr hq) e0
          conv => whnf
          refine ⟨fun e => absurd e (by decide), fun e => ?_⟩
          conv => whnf
          refine ⟨inf, ?_⟩
          conv => whnf
          refine ⟨⟨by rw [hcf]; show a_fr a k < 120; omega, inw⟩, ?_⟩
          conv => whnf
          refine ⟨fun e => absurd e (by decide), fun e => ?_⟩
          conv => whnf
          refine ⟨inf, ?_⟩
          conv => whnf
          refine ⟨⟨by rw [hcf]; show a_fr a k < 120; omega, inw⟩, ?_⟩
          conv => whnf
          refine ⟨ink, ?_⟩
          simp only [hck, hcf, hcw, hnx, hto]
          conv => whnf
          rw [nI_1]
          refine ih (prv (a_to a) k g) (i + 1) (fun b => and3 (tk a g (v b) k) (acc b)) _ _ _ _ ?_ ?_ ?_ ?_ ?_
          · have := prv_le (a_to a) g k
            omega
          · have := prv_le (a_to a) g k
            omega
          · exact (prv_idem _ _ _).symm
          · intro b hb
            obtain ⟨e1, e2⟩ := hen b hb (a_fr a k) hfrg
            obtain ⟨e3, e4⟩ := h1 b hb
            rw [lb_and, lb_or, eH_and, eL_and]
            unfold tk
            rw [eH_xr, eL_xr, hsw]
            simp only [e1, e2, e3, e4]
            exact ⟨Bool.and_comm _ _, Bool.or_comm _ _⟩
          · intro b hb
            rw [← mad_prv, ← h2 b hb, mad_hit hto, and3_assoc]
  refine hV [35] 60 _ _ _ _ _ _ ?_
  conv => whnf
  refine ⟨ing, ?_⟩
  simp only [hcg, hso]
  conv => whnf
  have h3 : nI (a_so a g) = 3 ↔ tr a g = true := by
    rw [show (3 : Int32) = nI 3 from rfl, nI_eq (by rcases (w4 g hg).1 with e | e | e <;> omega) (by omega)]
    simp [tr]
  have st : ∀ (b : Bool), tr a g = b → V 35 [some (.inr (.inr (.inl 1))), some (.inl (nI g)), some (.inl (nI w)), some (.inl (b2 b)), some (.inr (.inl (-1))), none, some (.inr (.inl 0)), none, some (.inl (prI (prv (a_to a) (a_f a) g))), some (.inl 0), none, none, none, none] [] (wd x n l m q) 0 0 := by
    rintro b rfl
    rw [← nI_0]
    refine loop (a_f a) (prv (a_to a) (a_f a) g) 0 (fun _ => some true) (-1) 0 _ _ (prv_le _ _ _) (prv_le _ _ _) (prv_idem _ _ _).symm (fun b hb => ⟨lb_m1 hb, lb_0 b⟩) (fun b hb => ?_)
    rw [and3_t, ← mad_prv]
  refine ⟨fun e => ?_, fun e => ?_⟩
  · conv => whnf
    refine ⟨ing, ?_⟩
    simp only [hcg, hfi]
    conv => whnf
    exact st false (by
      cases hq : tr a g with
      | false => rfl
      | true => exact absurd (h3.mpr hq) e)
  · conv => whnf
    refine ⟨ing, ?_⟩
    simp only [hcg, hfi]
    conv => whnf
    exact st true (h3.mp e)
end
section
/-! settleWord: rounds over all gates till nothing more becomes known on 64 choices. -/
abbrev nS (n : wN) (hi lo : Nat → Nat → Int64) : wN := (n_so n, n_ff n, n_fo n, n_fr n, n_ne n, n_nx n, hi, lo, n_g n, n_f n, n_i n, n_st n)
/-- the rows are the same but for word w -/
def oth (hi lo hi' lo' : Nat → Nat → Int64) (w : Nat) : Prop := ∀ q u, u ≠ w → hi' q u = hi q u ∧ lo' q u = lo q u
theorem oth_rfl (hi lo : Nat → Nat → Int64) (w : Nat) : oth hi lo hi lo w := fun _ _ _ => ⟨rfl, rfl⟩
theorem oth_put {hi lo h l : Nat → Nat → Int64} {w g : Nat} {o z : Int64} (h0 : oth hi lo h l w) : oth hi lo (va_up h g (vp_updL (h g) w o)) (va_up l g (vp_updL (l g) w z)) w := by
  intro q u hu
  obtain ⟨h1, h2⟩ := h0 q u hu
  by_cases e : q = g
  · subst e
    rw [va_up_self, va_up_self]
    simp only [vp_updL, hu, if_false]
    exact ⟨h1, h2⟩
  · rw [va_up_ne _ _ e, va_up_ne _ _ e]
    exact ⟨h1, h2⟩
theorem enc_put {a : aN} {h l : Nat → Nat → Int64} {w g : Nat} {o z : Int64} {v : Nat → Nat → vl} (hs : a_so a g ≠ 0) (h0 : encW a h l w v) (h1 : ∀ b, b < 64 → lb o b = eH (made a g (v b)) ∧ lb z b = eL (made a g (v b))) :
    encW a (va_up h g (vp_updL (h g) w o)) (va_up l g (vp_updL (l g) w z)) w (fun b => pst a (v b) g) := by
  intro b hb q hq
  by_cases e : q = g
  · subst e
    rw [va_up_self, va_up_self]
    simp only [vp_updL, if_true]
    rw [show pst a (v b) q q = made a q (v b) by simp [pst, hs]]
    exact h1 b hb
  · rw [va_up_ne _ _ e, va_up_ne _ _ e]
    show lb (h q w) b = eH (pst a (v b) g q) ∧ lb (l q w) b = eL (pst a (v b) g q)
    rw [show pst a (v b) g q = v b q by simp [pst, hs, e]]
    exact h0 b hb q hq
def sp_N_settleWord : cx_S := cx_self 2 (fun j r ws R => ∃ x n l m q a w, ws = wd x n l m q ∧ j = 1 ∧ r = [.inl (nI w)] ∧ rS a n ∧ w < 4 ∧ encW a (n_hi n) (n_lo n) w (fun b => ini a (64 * w + b)) ∧
  ∀ hi lo, oth (n_hi n) (n_lo n) hi lo w → encW a hi lo w (fun b => val a (64 * w + b)) → R (.inl none) (wd x (nS n hi lo) l m q))
set_option maxRecDepth 100000 in
set_option maxHeartbeats 4000000 in
theorem pu_N_settleWord : ∀ as ws Rq, sp_N_settleWord as ws Rq → cx_cats as ≤ 5 ∧ ∀ V, cx_cl1 t_N_settleWord [(sp_N_isInput, 2, 0, 0), (sp_N_settleGate, 3, 0, 0)] [] [] 0 0 Rq V → V 0 (cx_lv0 as 5) [] ws 0 0 := by
  intro as ws Rq h0
  obtain ⟨j, r, fs, rfl, hj, x, n, l, m, q, a, w, rfl, rfl, rfl, hS, hw, hen, h⟩ := cx_self_spec h0
  refine ⟨Nat.le_of_ble_eq_true rfl, fun V hV => ?_⟩
  have hS2 := hS
  obtain ⟨hwf, hgg, hff, hii, hG, hK⟩ := hS2
  obtain ⟨w1, w2, w3, w4, w5⟩ := hwf
  have inner : ∀ (d gi r : Nat) (ch : Bool) (hi lo : Nat → Nat → Int64), gi + d = a_g a → oth (n_hi n) (n_lo n) hi lo w → encW a hi lo w (fun b => pas a (itr a (64 * w + b) r) gi) → (ch = false → ∀ b, b < 64 → ∀ q, q < a_g a → pas a (itr a (64 * w + b) r) gi q = itr a (64 * w + b) r q) →
      (∀ (ch : Bool) (hi lo : Nat → Nat → Int64) (g4 : Int32), oth (n_hi n) (n_lo n) hi lo w → encW a hi lo w (fun b => itr a (64 * w + b) (r + 1)) → (ch = false → ∀ b, b < 64 → itr a (64 * w + b) (r + 1) = itr a (64 * w + b) r) →
        V 57 [some (.inr (.inr (.inl 1))), some (.inl (nI w)), some (.inl (b2 ch)), some (.inl (nI r)), some (.inl g4)] [] (wd x (nS n hi lo) l m q) 0 0) →
      V 21 [some (.inr (.inr (.inl 1))), some (.inl (nI w)), some (.inl (b2 ch)), some (.inl (nI r)), some (.inl (nI gi))] [] (wd x (nS n hi lo) l m q) 0 0 := by
    intro d
    induction d with
    | zero =>
      intro gi r ch hi lo hd ho he hc hk
      refine hV [57] 60 _ _ _ _ _ _ ?_
      conv => whnf
      refine ⟨fun _ => ?_, fun e => ?_⟩
      · have hgi : gi = a_g a := by omega
        subst hgi
        exact hk ch hi lo _ ho he (fun e b hb => by
          funext q
          rcases Nat.lt_or_ge q (a_g a) with hq | hq
          · exact hc e b hb q hq
          · exact pas_out (a := a) (a_g a) q hq)
      · exact absurd (by rw [show n.2.2.2.2.2.2.2.2.1 = nI (a_g a) from hgg]; exact nI_le (by omega) (by omega)) e
    | succ d ih =>
      intro gi r ch hi lo hd ho he hc hk
      have hgi : gi < a_g a := by omega
      have hcg : (nI gi).toNatClampNeg = gi := nx_c (by omega)
      obtain ⟨hso, -, -⟩ := hG gi hgi
      refine hV [21] 60 _ _ _ _ _ _ ?_
      conv => whnf
      refine ⟨fun e => ?_, fun _ => ?_⟩
      · exfalso
        rw [show n.2.2.2.2.2.2.2.2.1 = nI (a_g a) from hgg, nI_leI (by omega) (by omega)] at e
        omega
      conv => whnf
      refine ⟨x, nS n hi lo, l, m, q, nI gi, rfl, rfl, rfl, vp_in_nI (by omega) (by omega), fun e => ?_, fun e => ?_⟩
      · have hs0 : a_so a gi = 0 := by
          rw [hcg, show n.1 gi = nI (a_so a gi) from hso, show (0 : Int32) = nI 0 from rfl, nI_eq (by rcases (w4 gi hgi).1 with e | e | e <;> omega) (by omega)] at e
          exact e
        conv => whnf
        refine ⟨fun _ => ?_, fun e => absurd e (by decide)⟩
        conv => whnf
        rw [nI_1]
        have hp : ∀ v : Nat → vl, pas a v (gi + 1) = pas a v gi := fun v => by
          show pst a (pas a v gi) gi = _
          unfold pst
          rw [if_pos hs0]
        exact ih (gi + 1) r ch hi lo (by omega) ho (by simpa only [hp] using he) (by simpa only [hp] using hc) hk
      · have hs0 : a_so a gi ≠ 0 := by
          intro e0
          apply e
          rw [hcg, show n.1 gi = nI (a_so a gi) from hso, e0]
          rfl
        conv => whnf
        refine ⟨fun e => absurd rfl e, fun _ => ?_⟩
        conv => whnf
        refine ⟨x, nS n hi lo, l, m, q, a, gi, w, (fun b => pas a (itr a (64 * w + b) r) gi), rfl, rfl, rfl, hS, hgi, hw, he, fun o z c1 hb1 hb2 => ?_⟩
        have hnew := enc_put hs0 he hb1
        have hother := oth_put (g := gi) (o := o) (z := z) ho
        have hch2 : (c1 = false) → ∀ b, b < 64 → ∀ q, q < a_g a → pas a (itr a (64 * w + b) r) (gi + 1) q = pas a (itr a (64 * w + b) r) gi q := by
          intro ec b hb q hq
          show pst a (pas a (itr a (64 * w + b) r) gi) gi q = _
          by_cases eq : q = gi
          · subst eq
            rw [show pst a (pas a (itr a (64 * w + b) r) q) q q = made a q (pas a (itr a (64 * w + b) r) q) by simp [pst, hs0]]
            obtain ⟨eo, ez⟩ := hb2 ec
            obtain ⟨f1, f2⟩ := hb1 b hb
            obtain ⟨f3, f4⟩ := he b hb q hq
            rw [eo] at f1
            rw [ez] at f2
            exact e_ext (f1.symm.trans f3) (f2.symm.trans f4)
          · simp [pst, hs0, eq]
        cases c1 with
        | true =>
          conv => whnf
          refine ⟨fun e => absurd e (by decide), fun _ => ?_⟩
          conv => whnf
          rw [nI_1]
          exact ih (gi + 1) r true _ _ (by omega) hother hnew (fun e => by cases e) hk
        | false =>
          conv => whnf
          refine ⟨fun _ => ?_, fun e => absurd rfl e⟩
          conv => whnf
          rw [nI_1]
          exact ih (gi + 1) r ch _ _ (by omega) hother hnew (fun e b hb q hq => (hch2 rfl b hb q hq).trans (hc e b hb q hq)) hk
  have outer : ∀ (d r : Nat) (ch : Bool) (hi lo : Nat → Nat → Int64) (o4 : Option cx_V), r + d = a_g a + 1 → oth (n_hi n) (n_lo n) hi lo w → encW a hi lo w (fun b => itr a (64 * w + b) r) → (ch = false → ∀ b, b < 64 → itr a (64 * w + b) r = val a (64 * w + b)) →
      V 4 [some (.inr (.inr (.inl 1))), some (.inl (nI w)), some (.inl (b2 ch)), some (.inl (nI r)), o4] [] (wd x (nS n hi lo) l m q) 0 0 := by
    intro d
    induction d with
    | zero =>
      intro r ch hi lo o4 hd ho he hc
      have hr : r = a_g a + 1 := by omega
      subst hr
      refine hV [] 60 _ _ _ _ _ _ ?_
      conv => whnf
      refine ⟨fun _ => ?_, fun _ => ?_⟩
      · conv => whnf
        exact h hi lo ho he
      · conv => whnf
        refine ⟨fun _ => ?_, fun e => ?_⟩
        · conv => whnf
          exact h hi lo ho he
        · exact absurd (by rw [show n.2.2.2.2.2.2.2.2.1 = nI (a_g a) from hgg]; exact nI_lt (by omega) (by omega)) e
    | succ d ih =>
      intro r ch hi lo o4 hd ho he hc
      refine hV [21] 60 _ _ _ _ _ _ ?_
      conv => whnf
      refine ⟨fun e => ?_, fun e => ?_⟩
      · conv => whnf
        have ec : ch = false := b2_eq0.mp e
        exact h hi lo ho (fun b hb => by
          have := he b hb
          dsimp only at this ⊢
          rw [show itr a (64 * w + b) r = val a (64 * w + b) from hc ec b hb] at this
          exact this)
      · conv => whnf
        refine ⟨fun e2 => ?_, fun _ => ?_⟩
        · exfalso
          rw [show n.2.2.2.2.2.2.2.2.1 = nI (a_g a) from hgg, nI_ltI (by omega) (by omega)] at e2
          omega
        conv => whnf
        have := inner (a_g a) 0 r false hi lo (by omega) ho he (fun _ b hb q hq => rfl) (fun c1 hi1 lo1 g4 ho1 he1 hc1 => by
          refine hV [4] 60 _ _ _ _ _ _ ?_
          conv => whnf
          rw [nI_1]
          exact ih (r + 1) c1 hi1 lo1 _ (by omega) ho1 he1 (fun ec b hb => by
            have e3 := hc1 ec b hb
            rw [e3]
            exact val_of_fix e3))
        exact this
  refine hV [4] 60 _ _ _ _ _ _ ?_
  conv => whnf
  exact outer (a_g a + 1) 0 true (n_hi n) (n_lo n) _ (by omega) (oth_rfl _ _ _) hen (fun e => by cases e)
end
section
/-! forgetWord, settle, and what asks after it. -/
def inR (a : aN) (hi lo : Nat → Nat → Int64) : Prop := ∀ q, q < a_g a → a_so a q = 0 → ∀ w, w < 4 → ∀ b, b < 64 → lb (hi q w) b = cb (a_nu a q) (64 * w + b) ∧ lb (lo q w) b = !cb (a_nu a q) (64 * w + b)
def setR (a : aN) (hi lo : Nat → Nat → Int64) : Prop := ∀ w, w < 4 → encW a hi lo w (fun b => val a (64 * w + b))
/-- the class's net -/
def rN (a : aN) (n : wN) : Prop := rS a n ∧ inR a (n_hi n) (n_lo n) ∧ (n_st n = 0 ∨ (n_st n = 1 ∧ setR a (n_hi n) (n_lo n)))
theorem itr_in {a : aN} {c q : Nat} (hs : a_so a q = 0) : ∀ r, itr a c r q = some (cb (a_nu a q) c)
  | 0 => by simp [itr, ini, hs]
  | r + 1 => by
    have key : ∀ g, pas a (itr a c r) g q = itr a c r q := by
      intro g
      induction g with
      | zero => rfl
      | succ g ih =>
        show pst a (pas a (itr a c r) g) g q = _
        unfold pst
        split
        · exact ih
        · rename_i h
          by_cases e : q = g
          · subst e; exact absurd hs h
          · simp only [e, if_false]; exact ih
    show pas a (itr a c r) (a_g a) q = _
    rw [key, itr_in hs r]
theorem eH_s (b : Bool) : eH (some b) = b := by cases b <;> rfl
theorem eL_s (b : Bool) : eL (some b) = !b := by cases b <;> rfl
def sp_N_forgetWord : cx_S := cx_self 2 (fun j r ws R => ∃ x n l m q a w, ws = wd x n l m q ∧ j = 1 ∧ r = [.inl (nI w)] ∧ rS a n ∧ inR a (n_hi n) (n_lo n) ∧ w < 4 ∧
  ∀ hi lo, oth (n_hi n) (n_lo n) hi lo w → encW a hi lo w (fun b => ini a (64 * w + b)) → R (.inl none) (wd x (nS n hi lo) l m q))
set_option maxRecDepth 100000 in
set_option maxHeartbeats 4000000 in
theorem pu_N_forgetWord : ∀ as ws Rq, sp_N_forgetWord as ws Rq → cx_cats as ≤ 3 ∧ ∀ V, cx_cl1 t_N_forgetWord [(sp_N_isInput, 2, 0, 0)] [] [] 0 0 Rq V → V 0 (cx_lv0 as 3) [] ws 0 0 := by
  intro as ws Rq h0
  obtain ⟨j, r, fs, rfl, hj, x, n, l, m, q, a, w, rfl, rfl, rfl, hS, hin, hw, h⟩ := cx_self_spec h0
  refine ⟨Nat.le_of_ble_eq_true rfl, fun V hV => ?_⟩
  have hS2 := hS
  obtain ⟨hwf, hgg, hff, hii, hG, hK⟩ := hS2
  obtain ⟨w1, w2, w3, w4, w5⟩ := hwf
  have hcw : (nI w).toNatClampNeg = w := nx_c (by omega)
  have inw : vp_in (nI w) 4 := vp_in_nI hw (by omega)
  have loop : ∀ (d gi : Nat) (hi lo : Nat → Nat → Int64), gi + d = a_g a → oth (n_hi n) (n_lo n) hi lo w → (∀ b, b < 64 → ∀ q, q < a_g a → (q < gi ∨ a_so a q = 0) → lb (hi q w) b = eH (ini a (64 * w + b) q) ∧ lb (lo q w) b = eL (ini a (64 * w + b) q)) →
      V 2 [some (.inr (.inr (.inl 1))), some (.inl (nI w)), some (.inl (nI gi))] [] (wd x (nS n hi lo) l m q) 0 0 := by
    intro d
    induction d with
    | zero =>
      intro gi hi lo hd ho he
      refine hV [] 60 _ _ _ _ _ _ ?_
      conv => whnf
      refine ⟨fun _ => ?_, fun e => ?_⟩
      · conv => whnf
        exact h hi lo ho (fun b hb q hq => he b hb q hq (Or.inl (by omega)))
      · exact absurd (by rw [show n.2.2.2.2.2.2.2.2.1 = nI (a_g a) from hgg]; exact nI_le (by omega) (by omega)) e
    | succ d ih =>
      intro gi hi lo hd ho he
      have hgi : gi < a_g a := by omega
      have hcg : (nI gi).toNatClampNeg = gi := nx_c (by omega)
      have ing : vp_in (nI gi) 120 := vp_in_nI (by omega) (by omega)
      obtain ⟨hso, -, -⟩ := hG gi hgi
      refine hV [2] 60 _ _ _ _ _ _ ?_
      conv => whnf
      refine ⟨fun e => ?_, fun _ => ?_⟩
      · exfalso
        rw [show n.2.2.2.2.2.2.2.2.1 = nI (a_g a) from hgg, nI_leI (by omega) (by omega)] at e
        omega
      conv => whnf
      refine ⟨x, nS n hi lo, l, m, q, nI gi, rfl, rfl, rfl, ing, fun e => ?_, fun e => ?_⟩
      · have hs0 : a_so a gi = 0 := by
          rw [hcg, show n.1 gi = nI (a_so a gi) from hso, show (0 : Int32) = nI 0 from rfl, nI_eq (by rcases (w4 gi hgi).1 with e | e | e <;> omega) (by omega)] at e
          exact e
        conv => whnf
        refine ⟨fun _ => ?_, fun e => absurd e (by decide)⟩
        conv => whnf
        rw [nI_1]
        refine ih (gi + 1) hi lo (by omega) ho (fun b hb q hq hor => he b hb q hq ?_)
        rcases hor with h1 | h1
        · by_cases e1 : q = gi
          · subst e1; exact Or.inr hs0
          · exact Or.inl (by omega)
        · exact Or.inr h1
      · have hs0 : a_so a gi ≠ 0 := by
          intro e0
          apply e
          rw [hcg, show n.1 gi = nI (a_so a gi) from hso, e0]
          rfl
        conv => whnf
        refine ⟨fun e => absurd rfl e, fun _ => ?_⟩
        conv => whnf
        refine ⟨ing, ?_⟩
        conv => whnf
        refine ⟨⟨by rw [hcg]; show gi < 120; omega, inw⟩, ?_⟩
        conv => whnf
        refine ⟨ing, ?_⟩
        conv => whnf
        refine ⟨⟨by rw [hcg]; show gi < 120; omega, inw⟩, ?_⟩
        conv => whnf
        rw [hcg, hcw, nI_1]
        refine ih (gi + 1) (va_up hi gi (vp_updL (hi gi) w 0)) (va_up lo gi (vp_updL (lo gi) w 0)) (by omega) (oth_put ho) (fun b hb q hq hor => ?_)
        by_cases e1 : q = gi
        · subst e1
          rw [va_up_self, va_up_self]
          simp only [vp_updL, if_true]
          simp [ini, hs0, lb_0, eH, eL]
        · rw [va_up_ne _ _ e1, va_up_ne _ _ e1]
          refine he b hb q hq ?_
          rcases hor with h1 | h1
          · exact Or.inl (by omega)
          · exact Or.inr h1
  refine hV [2] 60 _ _ _ _ _ _ ?_
  conv => whnf
  rw [← nI_0]
  refine loop (a_g a) 0 (n_hi n) (n_lo n) (by omega) (oth_rfl _ _ _) (fun b hb q hq hor => ?_)
  rcases hor with h1 | h1
  · omega
  · obtain ⟨e1, e2⟩ := hin q hq h1 w hw b hb
    rw [show ini a (64 * w + b) q = some (cb (a_nu a q) (64 * w + b)) by simp [ini, h1], eH_s, eL_s]
    exact ⟨e1, e2⟩
def sp_N_settle : cx_S := cx_self 2 (fun j r ws R => ∃ x n l m q a, ws = wd x n l m q ∧ j = 1 ∧ r = [] ∧ rN a n ∧ ∀ n', rN a n' → setR a (n_hi n') (n_lo n') → R (.inl none) (wd x n' l m q))
set_option maxRecDepth 100000 in
set_option maxHeartbeats 4000000 in
theorem pu_N_settle : ∀ as ws Rq, sp_N_settle as ws Rq → cx_cats as ≤ 2 ∧ ∀ V, cx_cl1 t_N_settle [(sp_N_forgetWord, 2, 0, 0), (sp_N_settleWord, 2, 0, 0)] [] [] 0 0 Rq V → V 0 (cx_lv0 as 2) [] ws 0 0 := by
  intro as ws Rq h0
  obtain ⟨j, r, fs, rfl, hj, x, n, l, m, q, a, rfl, rfl, rfl, hN, h⟩ := cx_self_spec h0
  refine ⟨Nat.le_of_ble_eq_true rfl, fun V hV => ?_⟩
  have hN2 := hN
  obtain ⟨hS, hin, hst⟩ := hN2
  have loop : ∀ (d w : Nat) (hi lo : Nat → Nat → Int64), w + d = 4 → inR a hi lo → (∀ u, u < w → encW a hi lo u (fun b => val a (64 * u + b))) →
      V 10 [some (.inr (.inr (.inl 1))), some (.inl (nI w))] [] (wd x (nS n hi lo) l m q) 0 0 := by
    intro d
    induction d with
    | zero =>
      intro w hi lo hd hi1 he
      have hw : w = 4 := by omega
      subst hw
      refine hV [] 60 _ _ _ _ _ _ ?_
      conv => whnf
      refine ⟨fun _ => ?_, fun e => absurd (by decide) e⟩
      conv => whnf
      refine ⟨Or.inr ⟨rfl, Or.inr rfl⟩, ?_⟩
      conv => whnf
      exact h (n_so n, n_ff n, n_fo n, n_fr n, n_ne n, n_nx n, hi, lo, n_g n, n_f n, n_i n, 1) ⟨hS, hi1, Or.inr ⟨rfl, he⟩⟩ he
    | succ d ih =>
      intro w hi lo hd hi1 he
      have hw : w < 4 := by omega
      refine hV [10] 60 _ _ _ _ _ _ ?_
      conv => whnf
      refine ⟨fun e => ?_, fun _ => ?_⟩
      · exfalso
        rw [show (4 : Int32) = nI 4 from rfl, nI_leI (by omega) (by omega)] at e
        omega
      conv => whnf
      refine ⟨x, nS n hi lo, l, m, q, a, w, rfl, rfl, rfl, hS, hi1, hw, fun hi2 lo2 ho2 he2 => ?_⟩
      conv => whnf
      refine ⟨x, nS n hi2 lo2, l, m, q, a, w, rfl, rfl, rfl, hS, hw, he2, fun hi3 lo3 ho3 he3 => ?_⟩
      conv => whnf
      rw [nI_1]
      have hoo : ∀ p u, u ≠ w → hi3 p u = hi p u ∧ lo3 p u = lo p u := fun p u hu => by
        obtain ⟨f1, f2⟩ := ho2 p u hu
        obtain ⟨f3, f4⟩ := ho3 p u hu
        exact ⟨f3.trans f1, f4.trans f2⟩
      refine ih (w + 1) hi3 lo3 (by omega) (fun p hp hs u hu b hb => ?_) (fun u hu => ?_)
      · by_cases eu : u = w
        · subst eu
          obtain ⟨f1, f2⟩ := he3 b hb p hp
          dsimp only at f1 f2
          rw [show val a (64 * u + b) p = some (cb (a_nu a p) (64 * u + b)) from itr_in hs _, eH_s] at f1
          rw [show val a (64 * u + b) p = some (cb (a_nu a p) (64 * u + b)) from itr_in hs _, eL_s] at f2
          exact ⟨f1, f2⟩
        · obtain ⟨f1, f2⟩ := hoo p u eu
          rw [f1, f2]
          exact hi1 p hp hs u hu b hb
      · by_cases eu : u = w
        · subst eu; exact he3
        · intro b hb p hp
          obtain ⟨f1, f2⟩ := hoo p u eu
          rw [f1, f2]
          exact he u (by omega) b hb p hp
  refine hV [10] 60 _ _ _ _ _ _ ?_
  conv => whnf
  refine ⟨fun e => ?_, fun e => ?_⟩
  · conv => whnf
    rw [← nI_0]
    exact loop 4 0 (n_hi n) (n_lo n) (by omega) hin (fun u hu => by omega)
  · conv => whnf
    rcases hst with h1 | ⟨h1, h2⟩
    · exact absurd h1 e
    · exact h n hN h2
def sp_N_highOf : cx_S := cx_self 2 (fun j r ws R => ∃ x n l m q a g, ws = wd x n l m q ∧ j = 1 ∧ r = [.inl (nI g)] ∧ rN a n ∧ g < a_g a ∧ ∀ n', rN a n' → setR a (n_hi n') (n_lo n') → R (.inl (some (.inr (.inr (.inr (.inl (8, g))))))) (wd x n' l m q))
def sp_N_lowOf : cx_S := cx_self 2 (fun j r ws R => ∃ x n l m q a g, ws = wd x n l m q ∧ j = 1 ∧ r = [.inl (nI g)] ∧ rN a n ∧ g < a_g a ∧ ∀ n', rN a n' → setR a (n_hi n') (n_lo n') → R (.inl (some (.inr (.inr (.inr (.inl (9, g))))))) (wd x n' l m q))
theorem pu_N_highOf : ∀ as ws Rq, sp_N_highOf as ws Rq → cx_cats as ≤ 2 ∧ ∀ V, cx_cl1 t_N_highOf [(sp_N_settle, 1, 0, 0)] [] [] 0 0 Rq V → V 0 (cx_lv0 as 2) [] ws 0 0 := by
  intro as ws Rq h0
  obtain ⟨j, r, fs, rfl, hj, x, n, l, m, q, a, g, rfl, rfl, rfl, hN, hg, h⟩ := cx_self_spec h0
  refine ⟨Nat.le_of_ble_eq_true rfl, fun V hV => ?_⟩
  have hg1 := hN.1.1.1
  have hcg : (nI g).toNatClampNeg = g := nx_c (by omega)
  refine hV [] 60 _ _ _ _ _ _ ?_
  conv => whnf
  refine ⟨x, n, l, m, q, a, rfl, rfl, rfl, hN, fun n' h1 h2 => ?_⟩
  conv => whnf
  refine ⟨vp_in_nI (N := 120) (by omega) (by omega), ?_⟩
  conv => whnf
  rw [hcg]
  exact h n' h1 h2
theorem pu_N_lowOf : ∀ as ws Rq, sp_N_lowOf as ws Rq → cx_cats as ≤ 2 ∧ ∀ V, cx_cl1 t_N_lowOf [(sp_N_settle, 1, 0, 0)] [] [] 0 0 Rq V → V 0 (cx_lv0 as 2) [] ws 0 0 := by
  intro as ws Rq h0
  obtain ⟨j, r, fs, rfl, hj, x, n, l, m, q, a, g, rfl, rfl, rfl, hN, hg, h⟩ := cx_self_spec h0
  refine ⟨Nat.le_of_ble_eq_true rfl, fun V hV => ?_⟩
  have hg1 := hN.1.1.1
  have hcg : (nI g).toNatClampNeg = g := nx_c (by omega)
  refine hV [] 60 _ _ _ _ _ _ ?_
  conv => whnf
  refine ⟨x, n, l, m, q, a, rfl, rfl, rfl, hN, fun n' h1 h2 => ?_⟩
  conv => whnf
  refine ⟨vp_in_nI (N := 120) (by omega) (by omega), ?_⟩
  conv => whnf
  rw [hcg]
  exact h n' h1 h2
/-- a value as an int -/
def vI (x : vl) : Int32 := match x with
  | some true => 1
  | some false => 0
  | none => 2
def sp_N_valueOn : cx_S := cx_self 2 (fun j r ws R => ∃ x n l m q a g c, ws = wd x n l m q ∧ j = 1 ∧ r = [.inl (nI g), .inl (nI c)] ∧ rN a n ∧ g < a_g a ∧ c < 256 ∧ ∀ n', rN a n' → R (.inl (some (.inl (vI (val a c g))))) (wd x n' l m q))
theorem pu_N_valueOn : ∀ as ws Rq, sp_N_valueOn as ws Rq → cx_cats as ≤ 3 ∧ ∀ V, cx_cl1 t_N_valueOn [(sp_N_settle, 1, 0, 0), (sp_C_isMember, 2, 0, 0)] [] [] 0 0 Rq V → V 0 (cx_lv0 as 3) [] ws 0 0 := by
  intro as ws Rq h0
  obtain ⟨j, r, fs, rfl, hj, x, n, l, m, q, a, g, c, rfl, rfl, rfl, hN, hg, hc, h⟩ := cx_self_spec h0
  refine ⟨Nat.le_of_ble_eq_true rfl, fun V hV => ?_⟩
  have hg1 := hN.1.1.1
  have hcg : (nI g).toNatClampNeg = g := nx_c (by omega)
  refine hV [] 60 _ _ _ _ _ _ ?_
  conv => whnf
  refine ⟨x, n, l, m, q, a, rfl, rfl, rfl, hN, fun n' h1 h2 => ?_⟩
  have h3 := h n' h1
  obtain ⟨e1, e2⟩ := h2 (c / 64) (by omega) (c % 64) (by omega) g hg
  dsimp only at e1 e2
  rw [show 64 * (c / 64) + c % 64 = c by omega] at e1 e2
  conv => whnf
  refine ⟨vp_in_nI (N := 120) (by omega) (by omega), ?_⟩
  conv => whnf
  rw [hcg]
  refine ⟨8, g, c, 120, 4, n_hi n', rfl, hc, rfl, by omega, rfl, ?_⟩
  rw [e1]
  conv => whnf
  refine ⟨fun e => ?_, fun e => ?_⟩
  · conv => whnf
    refine ⟨vp_in_nI (N := 120) (by omega) (by omega), ?_⟩
    conv => whnf
    rw [hcg]
    refine ⟨9, g, c, 120, 4, n_lo n', rfl, hc, rfl, by omega, rfl, ?_⟩
    rw [e2]
    conv => whnf
    have hH := b2_eq0.mp e
    refine ⟨fun e3 => ?_, fun e3 => ?_⟩
    · have hL := b2_eq0.mp e3
      conv => whnf
      rw [show vI (val a c g) = 2 by
        rcases hv : val a c g with _ | _ | _
        · rfl
        · rw [hv] at hL; cases hL
        · rw [hv] at hH; cases hH] at h3
      exact ⟨fun e => absurd e (by decide), h3⟩
    · have hL := b2_ne0.mp e3
      conv => whnf
      rw [show vI (val a c g) = 0 by
        rcases hv : val a c g with _ | _ | _
        · rw [hv] at hL; cases hL
        · rfl
        · rw [hv] at hL; cases hL] at h3
      exact ⟨fun e => absurd e (by decide), h3⟩
  · conv => whnf
    have hH := b2_ne0.mp e
    rw [show vI (val a c g) = 1 by
      rcases hv : val a c g with _ | _ | _
      · rw [hv] at hH; cases hH
      · rw [hv] at hH; cases hH
      · rfl] at h3
    exact ⟨fun e => absurd e (by decide), h3⟩
end
section
/-! addGate, fixInput, addFeed, dropAll. -/
def gatA (a : aN) (s : Nat) : aN := (a_g a + 1, fun q => if q = a_g a then s else a_so a q, fun q => if q = a_g a then a_i a else a_nu a q, a_f a, a_to a, a_fr a, a_ne a, if s = 0 then a_i a + 1 else a_i a)
def fedA (a : aN) (t f : Nat) (n : Bool) : aN := (a_g a, a_so a, a_nu a, a_f a + 1, fun k => if k = a_f a then t else a_to a k, fun k => if k = a_f a then f else a_fr a k, fun k => if k = a_f a then n else a_ne a k, a_i a)
def zerA : aN := (0, fun _ => 0, fun _ => 0, 0, fun _ => 0, fun _ => 0, fun _ => false, 0)
theorem prv_congr {to to' : Nat → Nat} : ∀ n g, (∀ k, k < n → to k = to' k) → prv to n g = prv to' n g
  | 0, _, _ => rfl
  | n + 1, g, h => by
    unfold prv
    rw [h n (by omega), prv_congr n g (fun k hk => h k (by omega))]
theorem cnt_congr {to to' : Nat → Nat} : ∀ n g, (∀ k, k < n → to k = to' k) → cnt to n g = cnt to' n g
  | 0, _, _ => rfl
  | n + 1, g, h => by
    unfold cnt
    rw [h n (by omega), cnt_congr n g (fun k hk => h k (by omega))]
theorem prv_none {to : Nat → Nat} {g : Nat} : ∀ n, (∀ k, k < n → to k ≠ g) → prv to n g = 0
  | 0, _ => rfl
  | n + 1, h => by
    unfold prv
    rw [if_neg (h n (by omega))]
    exact prv_none n (fun k hk => h k (by omega))
theorem cnt_none {to : Nat → Nat} {g : Nat} : ∀ n, (∀ k, k < n → to k ≠ g) → cnt to n g = 0
  | 0, _ => rfl
  | n + 1, h => by
    unfold cnt
    rw [if_neg (h n (by omega)), cnt_none n (fun k hk => h k (by omega))]
def sp_N_dropAll : cx_S := cx_self 2 (fun j r ws R => ∃ x n l m q, ws = wd x n l m q ∧ j = 1 ∧ r = [] ∧ ∀ n', rN zerA n' → R (.inl none) (wd x n' l m q))
theorem pu_N_dropAll : ∀ as ws Rq, sp_N_dropAll as ws Rq → cx_cats as ≤ 1 ∧ ∀ V, cx_cl1 t_N_dropAll [] [] [] 0 0 Rq V → V 0 (cx_lv0 as 1) [] ws 0 0 := by
  intro as ws Rq h0
  obtain ⟨j, r, fs, rfl, hj, x, n, l, m, q, rfl, rfl, rfl, h⟩ := cx_self_spec h0
  refine ⟨Nat.le_of_ble_eq_true rfl, fun V hV => hV [] 40 _ _ _ _ _ _ ?_⟩
  conv => whnf
  refine ⟨Or.inl rfl, ?_⟩
  conv => whnf
  refine ⟨Or.inl rfl, ?_⟩
  conv => whnf
  refine ⟨Or.inl rfl, ?_⟩
  conv => whnf
  refine ⟨Or.inr ⟨rfl, Or.inl rfl⟩, ?_⟩
  conv => whnf
  refine h (n_so n, n_ff n, n_fo n, n_fr n, n_ne n, n_nx n, n_hi n, n_lo n, 0, 0, 0, 0) ⟨⟨⟨Nat.zero_le _, Nat.zero_le _, Nat.zero_le _, fun g hg => absurd hg (Nat.not_lt_zero _), fun g hg => absurd hg (Nat.not_lt_zero _)⟩, rfl, rfl, rfl, fun g hg => absurd hg (Nat.not_lt_zero _), fun g hg => absurd hg (Nat.not_lt_zero _)⟩, fun g hg => absurd hg (Nat.not_lt_zero _), Or.inl rfl⟩
def sp_N_addFeed : cx_S := cx_self 2 (fun j r ws R => ∃ x n l m q a t f b, ws = wd x n l m q ∧ j = 1 ∧ r = [.inl (nI t), .inl (nI f), .inl (b2 b)] ∧ rN a n ∧ t < a_g a ∧ f < a_g a ∧ a_so a t ≠ 0 ∧
  (a_f a = 500 → R (.inl (some (.inl (-1)))) ws) ∧ (a_f a < 500 → ∀ n', rN (fedA a t f b) n' → R (.inl (some (.inl (nI (cnt (a_to (fedA a t f b)) (a_f a + 1) t))))) (wd x n' l m q)))
set_option maxRecDepth 100000 in
set_option maxHeartbeats 4000000 in
theorem pu_N_addFeed : ∀ as ws Rq, sp_N_addFeed as ws Rq → cx_cats as ≤ 5 ∧ ∀ V, cx_cl1 t_N_addFeed [] [] [] 0 0 Rq V → V 0 (cx_lv0 as 5) [] ws 0 0 := by
  intro as ws Rq h0
  obtain ⟨j, r, fs, rfl, hj, x, n, l, m, q, a, t, f, b, rfl, rfl, rfl, hN, ht, hf, hs, h1, h2⟩ := cx_self_spec h0
  refine ⟨Nat.le_of_ble_eq_true rfl, fun V hV => hV [] 60 _ _ _ _ _ _ ?_⟩
  obtain ⟨hS, hin, hst⟩ := hN
  have hS2 := hS
  obtain ⟨hwf, hgg, hff, hii, hG, hK⟩ := hS2
  obtain ⟨w1, w2, w3, w4, w5⟩ := hwf
  have hct : (nI t).toNatClampNeg = t := nx_c (by omega)
  have hcf : (nI (a_f a)).toNatClampNeg = a_f a := nx_c (by omega)
  have e0 : n.2.2.2.2.2.2.2.2.2.1 = nI (a_f a) := hff
  conv => whnf
  refine ⟨fun e => ?_, fun e => ?_⟩
  · rw [e0, show (500 : Int32) = nI 500 from rfl, nI_ltI (by omega) (by omega)] at e
    have h3 := h2 e
    have int : vp_in (nI t) 120 := vp_in_nI (by omega) (by omega)
    have inf : vp_in n.2.2.2.2.2.2.2.2.2.1 500 := by rw [e0]; exact vp_in_nI (by omega) (by omega)
    conv => whnf
    refine ⟨inf, ?_⟩
    conv => whnf
    refine ⟨⟨inf, b2_01 b⟩, ?_⟩
    conv => whnf
    refine ⟨int, ?_⟩
    conv => whnf
    refine ⟨inf, ?_⟩
    conv => whnf
    refine ⟨int, ?_⟩
    conv => whnf
    refine ⟨int, ?_⟩
    conv => whnf
    refine ⟨int, ?_⟩
    conv => whnf
    refine ⟨Or.inl rfl, ?_⟩
    conv => whnf
    refine ⟨Or.inr ⟨rfl, Or.inl rfl⟩, ?_⟩
    conv => whnf
    refine ⟨int, ?_⟩
    conv => whnf
    refine ⟨fun e => absurd e (by decide), ?_⟩
    obtain ⟨g1, g2, g3⟩ := hG t ht
    have key : (upd n.2.2.1 (nI t).toNatClampNeg (n.2.2.1 (nI t).toNatClampNeg + 1)) (nI t).toNatClampNeg = nI (cnt (a_to (fedA a t f b)) (a_f a + 1) t) := by
      rw [hct]
      have e1 : upd n.2.2.1 t (n.2.2.1 t + 1) t = n.2.2.1 t + 1 := by simp [upd]
      rw [e1, show n.2.2.1 t = nI (cnt (a_to a) (a_f a) t) from g3, nI_1]
      have e2 : cnt (a_to (fedA a t f b)) (a_f a + 1) t = cnt (a_to a) (a_f a) t + 1 := by
        have e3 : cnt (a_to (fedA a t f b)) (a_f a) t = cnt (a_to a) (a_f a) t := cnt_congr _ _ (fun k hk => by simp [fedA, a_to, show k ≠ a_f a by omega])
        show cnt (a_to (fedA a t f b)) (a_f a) t + _ = _
        rw [e3]
        simp [fedA, a_to]
      rw [e2]
    dsimp only
    rw [key]
    rw [e0, hcf, hct]
    have eto : ∀ k, k < a_f a → a_to (fedA a t f b) k = a_to a k := fun k hk => by simp [fedA, a_to, show k ≠ a_f a by omega]
    have etf : a_to (fedA a t f b) (a_f a) = t := by simp [fedA, a_to]
    refine h3 (n.1, upd n.2.1 t (nI (a_f a)), upd n.2.2.1 t (n.2.2.1 t + 1), upd n.2.2.2.1 (a_f a) (nI f), upd n.2.2.2.2.1 (a_f a) (b2 b), upd n.2.2.2.2.2.1 (a_f a) (n.2.1 t), n_hi n, n_lo n, n_g n, nI (a_f a) + 1, n_i n, 0) ⟨⟨⟨w1, ?_, w3, w4, fun k hk => ?_⟩, hgg, ?_, hii, fun g hg => ⟨(hG g hg).1, ?_, ?_⟩, fun k hk => ?_⟩, hin, Or.inl rfl⟩
    · show a_f a + 1 ≤ 500
      omega
    · have hk' : k < a_f a + 1 := hk
      by_cases e : k = a_f a
      · subst e
        rw [etf]
        simp only [fedA, a_fr, a_so, a_g] at hf ht hs ⊢
        exact ⟨ht, by simpa using hf, hs⟩
      · rw [eto k (by omega)]
        obtain ⟨u1, u2, u3⟩ := w5 k (by omega)
        refine ⟨u1, ?_, u3⟩
        show (if k = a_f a then f else a_fr a k) < a_g a
        rw [if_neg e]
        exact u2
    · show nI (a_f a) + 1 = nI (a_f a + 1)
      exact nI_1 _
    · show upd n.2.1 t (nI (a_f a)) g = prI (prv (a_to (fedA a t f b)) (a_f a + 1) g)
      unfold prv
      rw [etf]
      by_cases e : g = t
      · subst e
        simp [upd, prI_s]
      · rw [if_neg (Ne.symm e), prv_congr _ _ eto]
        simp only [upd, e, if_false]
        exact (hG g hg).2.1
    · show upd n.2.2.1 t (n.2.2.1 t + 1) g = nI (cnt (a_to (fedA a t f b)) (a_f a + 1) g)
      unfold cnt
      rw [etf, cnt_congr _ _ eto]
      by_cases e : g = t
      · subst e
        simp only [upd, if_true]
        rw [show n.2.2.1 g = nI (cnt (a_to a) (a_f a) g) from g3, nI_1]
      · rw [if_neg (Ne.symm e)]
        simp only [upd, e, if_false]
        exact (hG g hg).2.2
    · have hk' : k < a_f a + 1 := hk
      by_cases e : k = a_f a
      · subst e
        refine ⟨?_, ?_, ?_⟩
        · refine pk_us.trans ?_
          show nI f = nI (if a_f a = a_f a then f else a_fr a (a_f a))
          rw [if_pos rfl]
        · refine pk_us.trans ?_
          show b2 b = b2 (if a_f a = a_f a then b else a_ne a (a_f a))
          rw [if_pos rfl]
        · show upd n.2.2.2.2.2.1 (a_f a) (n.2.1 t) (a_f a) = _
          rw [etf, prv_congr _ _ eto]
          simp only [upd, if_true]
          exact g2
      · obtain ⟨u1, u2, u3⟩ := hK k (by omega)
        refine ⟨?_, ?_, ?_⟩
        · refine (pk_un e).trans ?_
          show n.2.2.2.1 k = nI (if k = a_f a then f else a_fr a k)
          rw [if_neg e]; exact u1
        · refine (pk_un e).trans ?_
          show n.2.2.2.2.1 k = b2 (if k = a_f a then b else a_ne a k)
          rw [if_neg e]; exact u2
        · rw [eto k (by omega), prv_congr _ _ (fun i hi => eto i (by omega))]
          exact (pk_un e).trans u3
  · rw [e0, show (500 : Int32) = nI 500 from rfl, nI_ltI (by omega) (by omega)] at e
    conv => whnf
    exact ⟨fun e => absurd e (by decide), h1 (by omega)⟩
def sp_N_fixInput : cx_S := cx_self 2 (fun j r ws R => ∃ x n l m q g k, ws = wd x n l m q ∧ j = 1 ∧ r = [.inl (nI g), .inl (nI k)] ∧ g < 120 ∧ k < 8 ∧
  ∀ hi lo, (∀ p, p ≠ g → hi p = n_hi n p ∧ lo p = n_lo n p) → (∀ w, w < 4 → ∀ b, b < 64 → lb (hi g w) b = cb k (64 * w + b) ∧ lb (lo g w) b = !cb k (64 * w + b)) → R (.inl none) (wd x (nS n hi lo) l m q))
set_option maxRecDepth 100000 in
set_option maxHeartbeats 4000000 in
theorem pu_N_fixInput : ∀ as ws Rq, sp_N_fixInput as ws Rq → cx_cats as ≤ 7 ∧ ∀ V, cx_cl1 t_N_fixInput [(sp_C_isInputSet, 2, 0, 0)] [] [] 0 0 Rq V → V 0 (cx_lv0 as 7) [] ws 0 0 := by
  intro as ws Rq h0
  obtain ⟨j, r, fs, rfl, hj, x, n, l, m, q, g, k, rfl, rfl, rfl, hg, hk, h⟩ := cx_self_spec h0
  refine ⟨Nat.le_of_ble_eq_true rfl, fun V hV => ?_⟩
  have hcg : (nI g).toNatClampNeg = g := nx_c (by omega)
  have ing : vp_in (nI g) 120 := vp_in_nI (by omega) (by omega)
  have inner : ∀ (d b w : Nat) (o : Int64) (hi lo : Nat → Nat → Int64), b + d = 64 → w < 4 → (∀ i, i < 64 → lb o i = (decide (i < b) && cb k (64 * w + i))) →
      (∀ o', (∀ i, i < 64 → lb o' i = cb k (64 * w + i)) → V 49 [some (.inr (.inr (.inl 1))), some (.inl (nI g)), some (.inl (nI k)), some (.inl (nI w)), some (.inr (.inl o')), none, some (.inl (nI 64))] [] (wd x (nS n hi lo) l m q) 0 0) →
      V 13 [some (.inr (.inr (.inl 1))), some (.inl (nI g)), some (.inl (nI k)), some (.inl (nI w)), some (.inr (.inl o)), none, some (.inl (nI b))] [] (wd x (nS n hi lo) l m q) 0 0 := by
    intro d
    induction d with
    | zero =>
      intro b w o hi lo hd hw ho hk2
      have e : b = 64 := by omega
      subst e
      refine hV [49] 60 _ _ _ _ _ _ ?_
      conv => whnf
      refine ⟨fun _ => ?_, fun e => absurd (by decide) e⟩
      exact hk2 o (fun i hi => by rw [ho i hi]; simp [hi])
    | succ d ih =>
      intro b w o hi lo hd hw ho hk2
      refine hV [13] 60 _ _ _ _ _ _ ?_
      conv => whnf
      refine ⟨fun e => ?_, fun _ => ?_⟩
      · exfalso
        rw [show (64 : Int32) = nI 64 from rfl, nI_leI (by omega) (by omega)] at e
        omega
      conv => whnf
      refine ⟨k, 64 * w + b, ?_, hk, by omega, ?_⟩
      · rw [show nI w * 64 + nI b = nI (64 * w + b) by
          rw [show (64 : Int32) = nI 64 from rfl, pk_mul, nI_add, Nat.mul_comm]]
        rfl
      conv => whnf
      cases hc : cb k (64 * w + b) with
      | false =>
        refine ⟨fun _ => ?_, fun e => absurd rfl e⟩
        conv => whnf
        rw [nI_1]
        refine ih (b + 1) w o hi lo (by omega) hw (fun i hi => ?_) hk2
        rw [ho i hi]
        by_cases e : i = b
        · subst e; simp [hc]
        · simp [show (i < b + 1) = (i < b) by simp; omega]
      | true =>
        refine ⟨fun e => absurd e (by decide), fun _ => ?_⟩
        conv => whnf
        rw [nI_1]
        refine ih (b + 1) w _ hi lo (by omega) hw (fun i hi => ?_) hk2
        rw [lb_or, ho i hi, lb_shl1 (by omega) hi]
        by_cases e : i = b
        · subst e; simp [hc]
        · simp [show (i < b + 1) = (i < b) by simp; omega, e]
  have loop : ∀ (d w : Nat) (hi lo : Nat → Nat → Int64) (s4 : Option cx_V) (s5 : Option cx_V) (s6 : Option cx_V), w + d = 4 → (∀ p, p ≠ g → hi p = n_hi n p ∧ lo p = n_lo n p) → (∀ u, u < w → ∀ b, b < 64 → lb (hi g u) b = cb k (64 * u + b) ∧ lb (lo g u) b = !cb k (64 * u + b)) →
      V 2 [some (.inr (.inr (.inl 1))), some (.inl (nI g)), some (.inl (nI k)), some (.inl (nI w)), s4, s5, s6] [] (wd x (nS n hi lo) l m q) 0 0 := by
    intro d
    induction d with
    | zero =>
      intro w hi lo s4 s5 s6 hd h1 h2
      have e : w = 4 := by omega
      subst e
      refine hV [] 60 _ _ _ _ _ _ ?_
      conv => whnf
      refine ⟨fun _ => ?_, fun e => absurd (by decide) e⟩
      conv => whnf
      exact h hi lo h1 h2
    | succ d ih =>
      intro w hi lo s4 s5 s6 hd h1 h2
      have inw : vp_in (nI w) 4 := vp_in_nI (by omega) (by omega)
      have hcw : (nI w).toNatClampNeg = w := nx_c (by omega)
      refine hV [13] 60 _ _ _ _ _ _ ?_
      conv => whnf
      refine ⟨fun e => ?_, fun _ => ?_⟩
      · exfalso
        rw [show (4 : Int32) = nI 4 from rfl, nI_leI (by omega) (by omega)] at e
        omega
      conv => whnf
      rw [← nI_0]
      refine inner 64 0 w 0 hi lo (by omega) (by omega) (fun i hi => by simp [lb_0]) (fun o ho => ?_)
      refine hV [2] 60 _ _ _ _ _ _ ?_
      conv => whnf
      refine ⟨ing, ?_⟩
      conv => whnf
      refine ⟨⟨by rw [hcg]; exact hg, inw⟩, ?_⟩
      conv => whnf
      refine ⟨ing, ?_⟩
      conv => whnf
      refine ⟨⟨by rw [hcg]; exact hg, inw⟩, ?_⟩
      conv => whnf
      rw [nI_1, hcg, hcw]
      refine ih (w + 1) (va_up hi g (vp_updL (hi g) w o)) (va_up lo g (vp_updL (lo g) w (o ^^^ (-1)))) _ _ _ (by omega) (fun p hp => ?_) (fun u hu b hb => ?_)
      · rw [va_up_ne _ _ hp, va_up_ne _ _ hp]
        exact h1 p hp
      · rw [va_up_self, va_up_self]
        by_cases e : u = w
        · subst e
          simp only [vp_updL, if_true]
          rw [lb_not _ hb, ho b hb]
          exact ⟨rfl, rfl⟩
        · simp only [vp_updL, e, if_false]
          exact h2 u (by omega) b hb
  refine hV [2] 60 _ _ _ _ _ _ ?_
  conv => whnf
  rw [← nI_0]
  exact loop 4 0 (n_hi n) (n_lo n) none none none (by omega) (fun p hp => ⟨rfl, rfl⟩) (fun u hu => by omega)
def sp_N_addGate : cx_S := cx_self 2 (fun j r ws R => ∃ x n l m q a s, ws = wd x n l m q ∧ j = 1 ∧ r = [.inl (nI s)] ∧ rN a n ∧ (s = 0 ∨ s = 2 ∨ s = 3) ∧
  ((a_g a = 120 ∨ (s = 0 ∧ a_i a = 8)) → R (.inl (some (.inl (-1)))) ws) ∧ (¬ (a_g a = 120 ∨ (s = 0 ∧ a_i a = 8)) → ∀ n', rN (gatA a s) n' → R (.inl (some (.inl (nI (a_g a))))) (wd x n' l m q)))
theorem gatA_rN {a : aN} {n : wN} {s : Nat} (hN : rN a n) (hs : s = 0 ∨ s = 2 ∨ s = 3) (hno : ¬ (a_g a = 120 ∨ (s = 0 ∧ a_i a = 8))) {hi lo : Nat → Nat → Int64} {i' : Int32} (h1 : ∀ p, p ≠ a_g a → hi p = n_hi n p ∧ lo p = n_lo n p)
    (h2 : s = 0 → (∀ w, w < 4 → ∀ b, b < 64 → lb (hi (a_g a) w) b = cb (a_i a) (64 * w + b) ∧ lb (lo (a_g a) w) b = !cb (a_i a) (64 * w + b)) ∧ i' = nI (a_i a + 1)) (h3 : s ≠ 0 → i' = nI (a_i a)) :
    rN (gatA a s) (upd n.1 (a_g a) (nI s), upd n.2.1 (a_g a) (-1), upd n.2.2.1 (a_g a) 0, n_fr n, n_ne n, n_nx n, hi, lo, nI (a_g a + 1), n_f n, i', 0) := by
  obtain ⟨hS, hin, hst⟩ := hN
  obtain ⟨hwf, hgg, hff, hii, hG, hK⟩ := hS
  obtain ⟨w1, w2, w3, w4, w5⟩ := hwf
  have hne : ∀ k, k < a_f a → a_to a k ≠ a_g a := fun k hk => by have := (w5 k hk).1; omega
  have hso : ∀ g, g ≠ a_g a → a_so (gatA a s) g = a_so a g := fun g hg => by simp [gatA, a_so, hg]
  have hsn : a_so (gatA a s) (a_g a) = s := by simp [gatA, a_so]
  have hno1 : a_g a ≠ 120 := fun e => hno (Or.inl e)
  have hno2 : s = 0 → a_i a ≠ 8 := fun e e2 => hno (Or.inr ⟨e, e2⟩)
  refine ⟨⟨⟨?_, w2, ?_, fun g hg => ?_, fun k hk => ?_⟩, rfl, hff, ?_, fun g hg => ?_, fun k hk => hK k hk⟩, fun g hg hs0 w hw b hb => ?_, Or.inl rfl⟩
  · show a_g a + 1 ≤ 120
    omega
  · show (if s = 0 then a_i a + 1 else a_i a) ≤ 8
    split
    · rename_i e
      have := hno2 e
      omega
    · exact w3
  · have hg' : g < a_g a + 1 := hg
    by_cases e : g = a_g a
    · subst e
      rw [hsn]
      refine ⟨hs, fun e0 => ?_⟩
      show (if a_g a = a_g a then a_i a else a_nu a (a_g a)) < 8
      rw [if_pos rfl]
      have := hno2 e0
      omega
    · rw [hso g e]
      obtain ⟨u1, u2⟩ := w4 g (by omega)
      refine ⟨u1, fun e0 => ?_⟩
      show (if g = a_g a then a_i a else a_nu a g) < 8
      rw [if_neg e]
      exact u2 e0
  · obtain ⟨u1, u2, u3⟩ := w5 k hk
    refine ⟨Nat.lt_succ_of_lt u1, Nat.lt_succ_of_lt u2, ?_⟩
    show a_so (gatA a s) (a_to a k) ≠ 0
    rw [hso _ (hne k hk)]
    exact u3
  · show i' = nI (if s = 0 then a_i a + 1 else a_i a)
    split
    · rename_i e; exact (h2 e).2
    · rename_i e; exact h3 e
  · have hg' : g < a_g a + 1 := hg
    by_cases e : g = a_g a
    · subst e
      rw [hsn]
      refine ⟨pk_us, ?_, ?_⟩
      · show upd n.2.1 (a_g a) (-1) (a_g a) = prI (prv (a_to a) (a_f a) (a_g a))
        rw [prv_none _ hne]
        simp [upd, prI_0]
      · show upd n.2.2.1 (a_g a) 0 (a_g a) = nI (cnt (a_to a) (a_f a) (a_g a))
        rw [cnt_none _ hne]
        simp [upd, nI_0]
    · rw [hso g e]
      obtain ⟨u1, u2, u3⟩ := hG g (by omega)
      exact ⟨(pk_un e).trans u1, (pk_un e).trans u2, (pk_un e).trans u3⟩
  · have hg' : g < a_g a + 1 := hg
    by_cases e : g = a_g a
    · subst e
      rw [hsn] at hs0
      show lb (hi (a_g a) w) b = cb (if a_g a = a_g a then a_i a else a_nu a (a_g a)) _ ∧ lb (lo (a_g a) w) b = !cb (if a_g a = a_g a then a_i a else a_nu a (a_g a)) _
      rw [if_pos rfl]
      exact (h2 hs0).1 w hw b hb
    · rw [hso g e] at hs0
      show lb (hi g w) b = cb (if g = a_g a then a_i a else a_nu a g) _ ∧ lb (lo g w) b = !cb (if g = a_g a then a_i a else a_nu a g) _
      rw [if_neg e, (h1 g e).1, (h1 g e).2]
      exact hin g (by omega) hs0 w hw b hb
set_option maxRecDepth 100000 in
set_option maxHeartbeats 4000000 in
theorem pu_N_addGate : ∀ as ws Rq, sp_N_addGate as ws Rq → cx_cats as ≤ 3 ∧ ∀ V, cx_cl1 t_N_addGate [(sp_N_fixInput, 3, 0, 0)] [] [] 0 0 Rq V → V 0 (cx_lv0 as 3) [] ws 0 0 := by
  intro as ws Rq h0
  obtain ⟨j, r, fs, rfl, hj, x, n, l, m, q, a, s, rfl, rfl, rfl, hN, hs, h1, h2⟩ := cx_self_spec h0
  refine ⟨Nat.le_of_ble_eq_true rfl, fun V hV => ?_⟩
  have hN2 := hN
  obtain ⟨hS, hin, hst⟩ := hN2
  obtain ⟨hwf, hgg, hff, hii, hG, hK⟩ := hS
  obtain ⟨w1, w2, w3, w4, w5⟩ := hwf
  have e0 : n.2.2.2.2.2.2.2.2.1 = nI (a_g a) := hgg
  have e1 : n.2.2.2.2.2.2.2.2.2.2.1 = nI (a_i a) := hii
  have hcg : (nI (a_g a)).toNatClampNeg = a_g a := nx_c (by omega)
  have nIs : nI s = 0 ↔ s = 0 := by rw [show (0 : Int32) = nI 0 from rfl, nI_eq (by omega) (by omega)]
  have cont : ¬ (a_g a = 120 ∨ (s = 0 ∧ a_i a = 8)) → V 24 [some (.inr (.inr (.inl 1))), some (.inl (nI s)), none] [] (wd x n l m q) 0 0 := by
    intro hno
    have h3 := h2 hno
    have hno1 : a_g a ≠ 120 := fun e => hno (Or.inl e)
    have ing : vp_in n.2.2.2.2.2.2.2.2.1 120 := by rw [e0]; exact vp_in_nI (by omega) (by omega)
    refine hV [] 60 _ _ _ _ _ _ ?_
    conv => whnf
    refine ⟨ing, ?_⟩
    conv => whnf
    refine ⟨ing, ?_⟩
    conv => whnf
    refine ⟨ing, ?_⟩
    conv => whnf
    refine ⟨Or.inl rfl, ?_⟩
    conv => whnf
    refine ⟨Or.inr ⟨rfl, Or.inl rfl⟩, ?_⟩
    conv => whnf
    refine ⟨fun e => ?_, fun e => ?_⟩
    · have hs0 : s ≠ 0 := fun q => e (nIs.mpr q)
      conv => whnf
      refine ⟨fun e => absurd e (by decide), ?_⟩
      rw [e0, hcg, nI_1]
      exact h3 _ (gatA_rN hN hs hno (hi := n_hi n) (lo := n_lo n) (i' := n_i n) (fun p hp => ⟨rfl, rfl⟩) (fun q => absurd q hs0) (fun _ => hii))
    · have hs0 : s = 0 := nIs.mp e
      have hi8 : a_i a ≠ 8 := fun q => hno (Or.inr ⟨hs0, q⟩)
      conv => whnf
      refine ⟨x, (upd n.1 (a_g a) (nI s), upd n.2.1 (a_g a) (-1), upd n.2.2.1 (a_g a) 0, n_fr n, n_ne n, n_nx n, n_hi n, n_lo n, nI (a_g a + 1), n_f n, n_i n, 0), l, m, q, a_g a, a_i a, ?_, rfl, ?_, by omega, by omega, fun hi lo p1 p2 => ?_⟩
      · rw [e0, hcg, nI_1]
        rfl
      · rw [e0, e1]
      conv => whnf
      refine ⟨Or.inl rfl, ?_⟩
      conv => whnf
      refine ⟨fun e => absurd e (by decide), ?_⟩
      rw [e0]
      refine h3 (upd n.1 (a_g a) (nI s), upd n.2.1 (a_g a) (-1), upd n.2.2.1 (a_g a) 0, n_fr n, n_ne n, n_nx n, hi, lo, nI (a_g a + 1), n_f n, n.2.2.2.2.2.2.2.2.2.2.1 + 1, 0) ?_
      exact gatA_rN hN hs hno p1 (fun _ => ⟨p2, by rw [e1, nI_1]⟩) (fun q => absurd hs0 q)
  refine hV [24] 60 _ _ _ _ _ _ ?_
  conv => whnf
  refine ⟨fun e => ?_, fun e => ?_⟩
  · conv => whnf
    rw [e0, show (120 : Int32) = nI 120 from rfl, nI_leI (by omega) (by omega)] at e
    exact ⟨fun e => absurd e (by decide), h1 (Or.inl (by omega))⟩
  · rw [e0, show (120 : Int32) = nI 120 from rfl, nI_leI (by omega) (by omega)] at e
    conv => whnf
    refine ⟨fun e2 => ?_, fun e2 => ?_⟩
    · have hs0 : s ≠ 0 := fun q => e2 (nIs.mpr q)
      exact cont (fun q => q.elim (fun q => by omega) (fun q => hs0 q.1))
    · conv => whnf
      have hs0 : s = 0 := nIs.mp e2
      refine ⟨fun e3 => ?_, fun e3 => ?_⟩
      · rw [e1, show (8 : Int32) = nI 8 from rfl, nI_ltI (by omega) (by omega)] at e3
        exact cont (fun q => q.elim (fun q => by omega) (fun q => by omega))
      · rw [e1, show (8 : Int32) = nI 8 from rfl, nI_ltI (by omega) (by omega)] at e3
        conv => whnf
        exact ⟨fun e => absurd e (by decide), h1 (Or.inr ⟨hs0, by omega⟩)⟩
end
section
/-! Truth functions of 256 choices, and what is left of one when its first inputs are fixed. -/
abbrev Ky : Type := Nat → Bool
def sub (f : Ky) (k i : Nat) : Ky := fun c => decide (c < 256) && f (i * 2 ^ (8 - k) + c % 2 ^ (8 - k))
def kF : Ky := fun _ => false
def kT : Ky := fun c => decide (c < 256)
def nf (f : Ky) : Prop := ∀ c, 256 ≤ c → f c = false
/-- f takes no notice of the inputs below k -/
def dk (f : Ky) (k : Nat) : Prop := ∀ c, c < 256 → f c = f (c % 2 ^ (8 - k))
def dkB (f : Ky) (k : Nat) : Bool := (List.range 256).all (fun c => f c == f (c % 2 ^ (8 - k)))
theorem dkB_iff {f : Ky} {k : Nat} : dkB f k = true ↔ dk f k := by
  unfold dkB dk
  rw [List.all_eq_true]
  constructor
  · intro h c hc
    have := h c (List.mem_range.mpr hc)
    simpa using this
  · intro h c hc
    have := h c (List.mem_range.mp hc)
    simpa using this
def fdn (f : Ky) : Nat → Nat
  | 0 => 0
  | k + 1 => if dkB f (k + 1) = true then k + 1 else fdn f k
/-- the first input that f depends on, or 8 -/
def fd (f : Ky) : Nat := fdn f 8
theorem nf_ext {f g : Ky} (hf : nf f) (hg : nf g) (h : ∀ c, c < 256 → f c = g c) : f = g := by
  funext c
  by_cases e : c < 256
  · exact h c e
  · rw [hf c (by omega), hg c (by omega)]
theorem nf_sub (f : Ky) (k i : Nat) : nf (sub f k i) := fun c hc => by simp [sub, show ¬ c < 256 by omega]
theorem nf_kF : nf kF := fun c _ => rfl
theorem nf_kT : nf kT := fun c hc => by simp [kT, show ¬ c < 256 by omega]
theorem pw_le {k : Nat} : 2 ^ (8 - k) ≤ 256 := Nat.pow_le_pow_right (by omega) (show 8 - k ≤ 8 by omega)
theorem pw_pos (k : Nat) : 0 < 2 ^ k := Nat.two_pow_pos k
theorem pw_lt {k c : Nat} : c % 2 ^ (8 - k) < 256 := Nat.lt_of_lt_of_le (Nat.mod_lt _ (pw_pos _)) pw_le
theorem pw_split {j k : Nat} (h : j ≤ k) (hk : k ≤ 8) : 2 ^ (8 - j) = 2 ^ (k - j) * 2 ^ (8 - k) := by rw [← Nat.pow_add]; congr 1; omega
theorem sub_in {f : Ky} {k i c : Nat} (hc : c < 256) : sub f k i c = f (i * 2 ^ (8 - k) + c % 2 ^ (8 - k)) := by simp [sub, hc]
theorem dk_0 (f : Ky) : dk f 0 := fun c hc => by rw [Nat.mod_eq_of_lt (show c < 2 ^ (8 - 0) from hc)]
theorem dk_anti {f : Ky} {j k : Nat} (h : dk f k) (hj : j ≤ k) (hk : k ≤ 8) : dk f j := fun c hc => by
  rw [h c hc, h (c % 2 ^ (8 - j)) pw_lt]
  congr 1
  rw [Nat.mod_mod_of_dvd]
  exact ⟨2 ^ (k - j), by rw [pw_split hj hk, Nat.mul_comm]⟩
theorem fdn_le (f : Ky) : ∀ k, fdn f k ≤ k
  | 0 => Nat.le_refl _
  | k + 1 => by
    unfold fdn
    split
    · exact Nat.le_refl _
    · exact Nat.le_succ_of_le (fdn_le f k)
theorem fdn_dk (f : Ky) : ∀ k, dk f (fdn f k)
  | 0 => dk_0 f
  | k + 1 => by
    unfold fdn
    split
    · rename_i h
      exact dkB_iff.mp h
    · exact fdn_dk f k
theorem fdn_max {f : Ky} {j : Nat} (h : dk f j) : ∀ k, j ≤ k → j ≤ fdn f k
  | 0, hj => hj
  | k + 1, hj => by
    unfold fdn
    split
    · exact hj
    · rename_i hn
      refine fdn_max h k ?_
      rcases Nat.lt_or_ge j (k + 1) with q | q
      · omega
      · have : j = k + 1 := by omega
        subst this
        exact absurd (dkB_iff.mpr h) hn
theorem fd_le (f : Ky) : fd f ≤ 8 := fdn_le f 8
theorem fd_dk (f : Ky) : dk f (fd f) := fdn_dk f 8
theorem fd_max {f : Ky} {k : Nat} (h : dk f k) (hk : k ≤ 8) : k ≤ fd f := fdn_max h 8 hk
theorem sub_dk {f : Ky} {k i : Nat} : dk (sub f k i) k := fun c hc => by
  rw [sub_in hc, sub_in pw_lt, Nat.mod_mod]
theorem fd_sub_ge {f : Ky} {k i : Nat} (hk : k ≤ 8) : k ≤ fd (sub f k i) := fd_max sub_dk hk
theorem sub_self {f : Ky} {k : Nat} (hf : nf f) (h : dk f k) : sub f k 0 = f := nf_ext (nf_sub _ _ _) hf (fun c hc => by rw [sub_in hc, Nat.zero_mul, Nat.zero_add, ← h c hc])
theorem sub_sub {f : Ky} {k k' i i' : Nat} (h : k ≤ k') (hk : k' ≤ 8) (hi : i' < 2 ^ (k' - k)) : sub (sub f k i) k' i' = sub f k' (i * 2 ^ (k' - k) + i') := nf_ext (nf_sub _ _ _) (nf_sub _ _ _) (fun c hc => by
  have e1 := pw_split h hk
  have hlt : i' * 2 ^ (8 - k') + c % 2 ^ (8 - k') < 2 ^ (8 - k) := by
    have h1 := Nat.mod_lt c (pw_pos (8 - k'))
    have h2 : (i' + 1) * 2 ^ (8 - k') ≤ 2 ^ (k' - k) * 2 ^ (8 - k') := Nat.mul_le_mul_right _ hi
    rw [Nat.add_mul] at h2
    omega
  rw [sub_in hc, sub_in (Nat.lt_of_lt_of_le hlt pw_le), sub_in hc, Nat.mod_eq_of_lt hlt]
  congr 1
  rw [e1, Nat.add_mul, Nat.mul_assoc]
  omega)
theorem sub_b {f : Ky} {k i b : Nat} (hk : k < 8) (hb : b < 2) : sub (sub f k i) (k + 1) b = sub f (k + 1) (2 * i + b) := by
  rw [sub_sub (by omega) (by omega) (by rw [show k + 1 - k = 1 by omega]; exact hb), show k + 1 - k = 1 by omega, Nat.pow_one, Nat.mul_comm]
theorem sub_0 {f : Ky} {k k' i : Nat} (h : k ≤ k') (hk : k' ≤ 8) : sub (sub f k i) k' 0 = sub f k' (i * 2 ^ (k' - k)) := by
  rw [sub_sub h hk (pw_pos _), Nat.add_zero]
theorem mod_split (c k : Nat) (hk : k < 8) : c % 2 ^ (8 - k) = c / 2 ^ (7 - k) % 2 * 2 ^ (7 - k) + c % 2 ^ (7 - k) := by
  rw [show 8 - k = 7 - k + 1 by omega, Nat.pow_succ, Nat.mod_mul, Nat.mul_comm, Nat.add_comm]
def bn (b : Bool) : Nat := if b then 1 else 0
theorem bn_lt (b : Bool) : bn b < 2 := by cases b <;> decide
theorem cb_bn (k c : Nat) : bn (cb k c) = c / 2 ^ (7 - k) % 2 := by
  unfold cb bn
  rcases Nat.mod_two_eq_zero_or_one (c / 2 ^ (7 - k)) with h | h <;> simp [h]
theorem sub_bit {g : Ky} {k c : Nat} (hk : k < 8) (h : dk g k) (hc : c < 256) : g c = sub g (k + 1) (bn (cb k c)) c := by
  rw [sub_in hc, cb_bn, h c hc, mod_split c k hk, show 8 - (k + 1) = 7 - k by omega]
theorem key_ext {g h : Ky} {k : Nat} (hk : k < 8) (hg : dk g k) (hh : dk h k) (ng : nf g) (nh : nf h) (h0 : sub g (k + 1) 0 = sub h (k + 1) 0) (h1 : sub g (k + 1) 1 = sub h (k + 1) 1) : g = h := nf_ext ng nh (fun c hc => by
  rw [sub_bit hk hg hc, sub_bit hk hh hc]
  cases cb k c
  · exact congrFun h0 c
  · exact congrFun h1 c)
theorem key_same {g : Ky} {k : Nat} (hk : k < 8) (hg : dk g k) (ng : nf g) (h : sub g (k + 1) 0 = sub g (k + 1) 1) : g = sub g (k + 1) 0 := nf_ext ng (nf_sub _ _ _) (fun c hc => by
  rw [sub_bit hk hg hc]
  cases cb k c
  · rfl
  · exact (congrFun h c).symm)
theorem fd_ne {g : Ky} (h : fd g < 8) (ng : nf g) : sub g (fd g + 1) 0 ≠ sub g (fd g + 1) 1 := fun e => by
  have e2 := key_same h (fd_dk g) ng e
  have h3 : dk g (fd g + 1) := by
    have := sub_dk (f := g) (k := fd g + 1) (i := 0)
    rw [← e2] at this
    exact this
  have := fd_max h3 (by omega)
  omega
theorem dk_sub1 {g : Ky} {k i : Nat} (hg : dk g k) (hi : i < 2 ^ k) (hk : k ≤ 8) : sub g k i = sub g k 0 := nf_ext (nf_sub _ _ _) (nf_sub _ _ _) (fun c hc => by
  have hm := Nat.mod_lt c (pw_pos (8 - k))
  have h2 : (i + 1) * 2 ^ (8 - k) ≤ 2 ^ k * 2 ^ (8 - k) := Nat.mul_le_mul_right _ hi
  rw [← Nat.pow_add, show k + (8 - k) = 8 by omega, Nat.add_mul] at h2
  rw [sub_in hc, sub_in hc, hg _ (by omega), Nat.zero_mul, Nat.zero_add, Nat.add_comm, Nat.add_mul_mod_self_right]
  rw [Nat.mod_mod])
theorem fd_is {g : Ky} {k : Nat} (hk : k < 8) (hg : dk g k) (h : sub g (k + 1) 0 ≠ sub g (k + 1) 1) : fd g = k := by
  have h1 := fd_max hg (by omega)
  rcases Nat.lt_or_ge (fd g) (k + 1) with q | q
  · omega
  · exfalso
    apply h
    have h2 := dk_anti (fd_dk g) q (fd_le g)
    exact (dk_sub1 h2 (show 1 < 2 ^ (k + 1) by rw [Nat.pow_succ]; have := pw_pos k; omega) (by omega)).symm
theorem key_const {g : Ky} (ng : nf g) (h : fd g = 8) : g = kF ∨ g = kT := by
  have h1 := fd_dk g
  rw [h] at h1
  cases e : g 0 with
  | false =>
    refine Or.inl (nf_ext ng nf_kF (fun c hc => ?_))
    rw [h1 c hc, Nat.mod_one, e]
    rfl
  | true =>
    refine Or.inr (nf_ext ng nf_kT (fun c hc => ?_))
    rw [h1 c hc, Nat.mod_one, e]
    simp [kT, hc]
theorem fd_kF : fd kF = 8 := Nat.le_antisymm (fd_le _) (fd_max (fun c hc => rfl) (Nat.le_refl _))
theorem fd_kT : fd kT = 8 := Nat.le_antisymm (fd_le _) (fd_max (fun c hc => by simp [kT, hc, Nat.mod_one]) (Nat.le_refl _))
theorem kFT : kF ≠ kT := fun e => by
  have := congrFun e 0
  simp [kF, kT] at this
/-- how deep a function's multiplexers go -/
def dp : Nat → Ky → Nat
  | 0, _ => 0
  | n + 1, f => if fd f = 8 then 0 else 1 + max (dp n (sub f (fd f + 1) 0)) (dp n (sub f (fd f + 1) 1))
theorem dp_fuel : ∀ n f, 8 ≤ fd f + n → dp (n + 1) f = dp n f
  | 0, f, h => by
    have : fd f = 8 := by have := fd_le f; omega
    simp [dp, this]
  | n + 1, f, h => by
    by_cases e : fd f = 8
    · simp [dp, e]
    · have h8 : fd f < 8 := by have := fd_le f; omega
      have a0 := fd_sub_ge (f := f) (i := 0) (show fd f + 1 ≤ 8 by omega)
      have a1 := fd_sub_ge (f := f) (i := 1) (show fd f + 1 ≤ 8 by omega)
      show (if fd f = 8 then 0 else 1 + max (dp (n + 1) (sub f (fd f + 1) 0)) (dp (n + 1) (sub f (fd f + 1) 1))) = (if fd f = 8 then 0 else 1 + max (dp n (sub f (fd f + 1) 0)) (dp n (sub f (fd f + 1) 1)))
      rw [if_neg e, if_neg e, dp_fuel n _ (by omega), dp_fuel n _ (by omega)]
theorem dp_up : ∀ d n f, 8 ≤ fd f + n → dp (n + d) f = dp n f
  | 0, _, _, _ => rfl
  | d + 1, n, f, h => by
    rw [show n + (d + 1) = n + d + 1 by omega, dp_fuel (n + d) f (by omega)]
    exact dp_up d n f h
theorem dp_step {f : Ky} (h : fd f < 8) : dp 8 f = 1 + max (dp 8 (sub f (fd f + 1) 0)) (dp 8 (sub f (fd f + 1) 1)) := by
  have a0 := fd_sub_ge (f := f) (i := 0) (show fd f + 1 ≤ 8 by omega)
  have a1 := fd_sub_ge (f := f) (i := 1) (show fd f + 1 ≤ 8 by omega)
  show (if fd f = 8 then 0 else 1 + max (dp 7 (sub f (fd f + 1) 0)) (dp 7 (sub f (fd f + 1) 1))) = _
  rw [if_neg (by omega), dp_fuel 7 _ (by omega), dp_fuel 7 _ (by omega)]
theorem dp_const {f : Ky} (h : fd f = 8) : dp 8 f = 0 := by simp [dp, h]
theorem dp_le : ∀ n f, dp n f ≤ n
  | 0, _ => Nat.le_refl _
  | n + 1, f => by
    unfold dp
    have h0 := dp_le n (sub f (fd f + 1) 0)
    have h1 := dp_le n (sub f (fd f + 1) 1)
    split <;> omega
/-- how many multiplexers a choice goes through -/
def wl : Nat → Ky → Nat → Nat
  | 0, _, _ => 0
  | n + 1, f, c => if fd f = 8 then 0 else 1 + wl n (sub f (fd f + 1) (bn (cb (fd f) c))) c
theorem wl_le : ∀ n f c, wl n f c ≤ n
  | 0, _, _ => Nat.le_refl _
  | n + 1, f, c => by
    unfold wl
    have h0 := wl_le n (sub f (fd f + 1) (bn (cb (fd f) c))) c
    split <;> omega
/-- is g what is left of one of the first J functions -/
def memK (J : Nat) (fs : Nat → Ky) (g : Ky) : Prop := ∃ j k i, j < J ∧ k ≤ 8 ∧ i < 2 ^ k ∧ g = sub (fs j) k i
theorem mem_fd {J : Nat} {fs : Nat → Ky} {g : Ky} (h : memK J fs g) : ∃ j i, j < J ∧ i < 2 ^ fd g ∧ g = sub (fs j) (fd g) i := by
  obtain ⟨j, k, i, hj, hk, hi, e⟩ := h
  have h1 : k ≤ fd g := by
    rw [e]
    exact fd_sub_ge hk
  refine ⟨j, i * 2 ^ (fd g - k), hj, ?_, ?_⟩
  · have : 2 ^ fd g = 2 ^ k * 2 ^ (fd g - k) := by rw [← Nat.pow_add]; congr 1; omega
    rw [this]
    exact (Nat.mul_lt_mul_right (pw_pos _)).mpr hi
  · have h2 : sub g (fd g) 0 = g := sub_self (by rw [e]; exact nf_sub _ _ _) (fd_dk g)
    rw [← sub_0 h1 (fd_le g), ← e, h2]
theorem mem_child {J : Nat} {fs : Nat → Ky} {g : Ky} {b : Nat} (h : memK J fs g) (hf : fd g < 8) (hb : b < 2) : memK J fs (sub g (fd g + 1) b) := by
  obtain ⟨j, i, hj, hi, e⟩ := mem_fd h
  refine ⟨j, fd g + 1, 2 * i + b, hj, by omega, ?_, ?_⟩
  · rw [Nat.pow_succ]; omega
  · have e2 := sub_b (f := fs j) (i := i) hf hb
    rw [← e] at e2
    exact e2
theorem mem_nf {J : Nat} {fs : Nat → Ky} {g : Ky} (h : memK J fs g) : nf g := by
  obtain ⟨j, k, i, -, -, -, e⟩ := h
  rw [e]
  exact nf_sub _ _ _
theorem mem_mono {J J' : Nat} {fs : Nat → Ky} {g : Ky} (h : memK J fs g) (hJ : J ≤ J') : memK J' fs g := by
  obtain ⟨j, k, i, h1, h2⟩ := h
  exact ⟨j, k, i, by omega, h2⟩
theorem mem_congr {J : Nat} {fs fs' : Nat → Ky} {g : Ky} (h : memK J fs g) (e : ∀ j, j < J → fs j = fs' j) : memK J fs' g := by
  obtain ⟨j, k, i, h1, h2, h3, h4⟩ := h
  exact ⟨j, k, i, h1, h2, h3, by rw [← e j h1]; exact h4⟩
theorem mem_root {J : Nat} {fs : Nat → Ky} {j : Nat} (hj : j < J) (hn : nf (fs j)) : memK J fs (fs j) := ⟨j, 0, 0, hj, by omega, by decide, (sub_self hn (dk_0 _)).symm⟩
/-- pigeons -/
theorem pigeon : ∀ (m n : Nat) (f : Nat → Nat), (∀ i, i < n → f i < m) → (∀ i, i < n → ∀ j, j < n → f i = f j → i = j) → n ≤ m
  | 0, n, f, h1, h2 => by
    rcases Nat.eq_zero_or_pos n with h | h
    · omega
    · exact absurd (h1 0 h) (Nat.not_lt_zero _)
  | m + 1, 0, f, h1, h2 => Nat.zero_le _
  | m + 1, n + 1, f, h1, h2 => by
    refine Nat.succ_le_succ (pigeon m n (fun j => if f j = m then f n else f j) (fun j hj => ?_) (fun i hi j hj e => ?_))
    · show (if f j = m then f n else f j) < m
      split
      · rename_i e
        have a1 := h1 n (by omega)
        have a2 : f n ≠ m := fun e2 => by
          have := h2 j (by omega) n (by omega) (e.trans e2.symm)
          omega
        omega
      · have := h1 j (by omega)
        omega
    · have e' : (if f i = m then f n else f i) = (if f j = m then f n else f j) := e
      split at e'
      · rename_i ei
        split at e'
        · rename_i ej
          exact h2 i (by omega) j (by omega) (ei.trans ej.symm)
        · have := h2 n (by omega) j (by omega) e'
          omega
      · split at e'
        · have := h2 i (by omega) n (by omega) e'
          omega
        · exact h2 i (by omega) j (by omega) e'
def pat (g : Ky) : Nat := bn (g 0) + 2 * bn (g 1) + 4 * bn (g 2) + 8 * bn (g 3) + 16 * bn (g 4) + 32 * bn (g 5) + 64 * bn (g 6) + 128 * bn (g 7)
theorem bn_inj {a b : Bool} (h : bn a = bn b) : a = b := by cases a <;> cases b <;> first | rfl | (simp [bn] at h)
theorem pat_lt (g : Ky) : pat g < 256 := by
  unfold pat
  have := bn_lt (g 0); have := bn_lt (g 1); have := bn_lt (g 2); have := bn_lt (g 3)
  have := bn_lt (g 4); have := bn_lt (g 5); have := bn_lt (g 6); have := bn_lt (g 7)
  omega
theorem pat_inj {g h : Ky} (ng : nf g) (nh : nf h) (dg : dk g 5) (dh : dk h 5) (e : pat g = pat h) : g = h := by
  unfold pat at e
  have := bn_lt (g 0); have := bn_lt (g 1); have := bn_lt (g 2); have := bn_lt (g 3)
  have := bn_lt (g 4); have := bn_lt (g 5); have := bn_lt (g 6); have := bn_lt (g 7)
  have := bn_lt (h 0); have := bn_lt (h 1); have := bn_lt (h 2); have := bn_lt (h 3)
  have := bn_lt (h 4); have := bn_lt (h 5); have := bn_lt (h 6); have := bn_lt (h 7)
  have e0 : bn (g 0) = bn (h 0) := by omega
  have e1 : bn (g 1) = bn (h 1) := by omega
  have e2 : bn (g 2) = bn (h 2) := by omega
  have e3 : bn (g 3) = bn (h 3) := by omega
  have e4 : bn (g 4) = bn (h 4) := by omega
  have e5 : bn (g 5) = bn (h 5) := by omega
  have e6 : bn (g 6) = bn (h 6) := by omega
  have e7 : bn (g 7) = bn (h 7) := by omega
  refine nf_ext ng nh (fun c hc => ?_)
  rw [dg c hc, dh c hc]
  have hm : c % 2 ^ (8 - 5) < 8 := Nat.mod_lt _ (by decide)
  generalize c % 2 ^ (8 - 5) = r at hm
  have : r = 0 ∨ r = 1 ∨ r = 2 ∨ r = 3 ∨ r = 4 ∨ r = 5 ∨ r = 6 ∨ r = 7 := by omega
  rcases this with rfl | rfl | rfl | rfl | rfl | rfl | rfl | rfl
  · exact bn_inj e0
  · exact bn_inj e1
  · exact bn_inj e2
  · exact bn_inj e3
  · exact bn_inj e4
  · exact bn_inj e5
  · exact bn_inj e6
  · exact bn_inj e7
/-- there are not more than 876 such functions, the constants included -/
theorem key_bound {J N : Nat} {fs : Nat → Ky} {ks : Nat → Ky} (hJ : J ≤ 20) (hm : ∀ n, n < N → memK J fs (ks n) ∨ (fd (ks n) = 8 ∧ nf (ks n))) (hi : ∀ i, i < N → ∀ j, j < N → ks i = ks j → i = j) : N ≤ 876 := by
  have hc : ∀ n, ∃ q : Nat, n < N → q < 876 ∧ ((5 ≤ fd (ks n) ∧ q = pat (ks n)) ∨ (fd (ks n) < 5 ∧ ∃ j i, j < 20 ∧ i < 2 ^ fd (ks n) ∧ ks n = sub (fs j) (fd (ks n)) i ∧ q = 256 + 20 * (2 ^ fd (ks n) - 1) + j * 2 ^ fd (ks n) + i)) := by
    intro n
    by_cases hn : n < N
    · by_cases h5 : fd (ks n) < 5
      · have hmm : memK J fs (ks n) := (hm n hn).elim id (fun h => by omega)
        obtain ⟨j, i, hj, hi2, e⟩ := mem_fd hmm
        refine ⟨256 + 20 * (2 ^ fd (ks n) - 1) + j * 2 ^ fd (ks n) + i, fun _ => ⟨?_, Or.inr ⟨h5, j, i, by omega, hi2, e, rfl⟩⟩⟩
        generalize fd (ks n) = k at h5 hi2
        have : k = 0 ∨ k = 1 ∨ k = 2 ∨ k = 3 ∨ k = 4 := by omega
        rcases this with rfl | rfl | rfl | rfl | rfl <;> simp at hi2 ⊢ <;> omega
      · exact ⟨pat (ks n), fun _ => ⟨Nat.lt_of_lt_of_le (pat_lt _) (by decide), Or.inl ⟨by omega, rfl⟩⟩⟩
    · exact ⟨0, fun h => absurd h hn⟩
  refine pigeon 876 N (fun n => Classical.choose (hc n)) (fun n hn => (Classical.choose_spec (hc n) hn).1) (fun a ha b hb e => hi a ha b hb ?_)
  have sa := (Classical.choose_spec (hc a) ha).2
  have sb := (Classical.choose_spec (hc b) hb).2
  have e' : Classical.choose (hc a) = Classical.choose (hc b) := e
  rw [← e'] at sb
  generalize Classical.choose (hc a) = q at sa sb
  have nfA : ∀ n, n < N → nf (ks n) := fun n hn => (hm n hn).elim mem_nf (fun h => h.2)
  rcases sa with ⟨a1, a2⟩ | ⟨a1, ja, ia, a2, a3, a4, a5⟩
  · rcases sb with ⟨b1, b2⟩ | ⟨b1, jb, ib, b2, b3, b4, b5⟩
    · exact pat_inj (nfA a ha) (nfA b hb) (dk_anti (fd_dk _) a1 (fd_le _)) (dk_anti (fd_dk _) b1 (fd_le _)) (a2.symm.trans b2)
    · have := pat_lt (ks a)
      omega
  · rcases sb with ⟨b1, b2⟩ | ⟨b1, jb, ib, b2, b3, b4, b5⟩
    · have := pat_lt (ks b)
      omega
    · rw [a4, b4]
      generalize fd (ks a) = k at a1 a3 a5
      generalize fd (ks b) = l at b1 b3 b5
      have hk : k = 0 ∨ k = 1 ∨ k = 2 ∨ k = 3 ∨ k = 4 := by omega
      have hl : l = 0 ∨ l = 1 ∨ l = 2 ∨ l = 3 ∨ l = 4 := by omega
      have : k = l ∧ ja = jb ∧ ia = ib := by
        rcases hk with rfl | rfl | rfl | rfl | rfl <;> rcases hl with rfl | rfl | rfl | rfl | rfl <;> simp at a3 b3 a5 b5 <;> omega
      obtain ⟨rfl, rfl, rfl⟩ := this
      rfl
def cnP (ks : Nat → Ky) (p : Ky → Bool) : Nat → Nat
  | 0 => 0
  | n + 1 => cnP ks p n + bn (p (ks n))
theorem cnP_congr {ks ks' : Nat → Ky} {p p' : Ky → Bool} : ∀ n, (∀ i, i < n → p (ks i) = p' (ks' i)) → cnP ks p n = cnP ks' p' n
  | 0, _ => rfl
  | n + 1, h => by
    unfold cnP
    rw [cnP_congr n (fun i hi => h i (by omega)), h n (by omega)]
theorem cnP_less {ks : Nat → Ky} {p p' : Ky → Bool} (hp : ∀ g, p' g = true → p g = true) : ∀ n, cnP ks p' n ≤ cnP ks p n
  | 0 => Nat.le_refl _
  | n + 1 => by
    unfold cnP
    have h1 := cnP_less (ks := ks) hp n
    have h2 : bn (p' (ks n)) ≤ bn (p (ks n)) := by
      cases e : p' (ks n) with
      | false => simp [bn]
      | true => rw [hp _ e]; exact Nat.le_refl _
    omega
theorem cnP_drop {ks : Nat → Ky} {p p' : Ky → Bool} (hp : ∀ g, p' g = true → p g = true) : ∀ n i, i < n → p (ks i) = true → p' (ks i) = false → cnP ks p' n + 1 ≤ cnP ks p n
  | 0, i, hi, _, _ => absurd hi (Nat.not_lt_zero _)
  | n + 1, i, hi, h1, h2 => by
    unfold cnP
    by_cases e : i = n
    · subst e
      rw [h1, h2]
      have := cnP_less (ks := ks) hp i
      simp [bn]
      omega
    · have h3 := cnP_drop (ks := ks) hp n i (by omega) h1 h2
      have h4 : bn (p' (ks n)) ≤ bn (p (ks n)) := by
        cases e : p' (ks n) with
        | false => simp [bn]
        | true => rw [hp _ e]; exact Nat.le_refl _
      omega
theorem cnP_le {ks' : Nat → Ky} {N' : Nat} {ks : Nat → Ky} : ∀ (N : Nat) (p : Ky → Bool), (∀ i, i < N → ∀ j, j < N → ks i = ks j → i = j) → (∀ i, i < N → p (ks i) = true → ∃ i', i' < N' ∧ ks' i' = ks i) → cnP ks p N ≤ cnP ks' p N'
  | 0, p, _, _ => Nat.zero_le _
  | n + 1, p, hi, hm => by
    show cnP ks p n + bn (p (ks n)) ≤ cnP ks' p N'
    cases e : p (ks n) with
    | false =>
      have := cnP_le n p (fun i h1 j h2 => hi i (by omega) j (by omega)) (fun i h1 => hm i (by omega))
      simp [bn]
      exact this
    | true =>
      obtain ⟨i', h1, h2⟩ := hm n (by omega) e
      classical
      let p' : Ky → Bool := fun g => p g && decide (g ≠ ks n)
      have hp : ∀ g, p' g = true → p g = true := fun g hg => by
        have : (p g && decide (g ≠ ks n)) = true := hg
        simp at this
        exact this.1
      have q1 : cnP ks p n = cnP ks p' n := cnP_congr n (fun i h => by
        show p (ks i) = (p (ks i) && decide (ks i ≠ ks n))
        have : ks i ≠ ks n := fun e2 => by
          have := hi i (by omega) n (by omega) e2
          omega
        simp [this])
      have q2 := cnP_drop (ks := ks') hp N' i' h1 (by rw [h2]; exact e) (by
        show (p (ks' i') && decide (ks' i' ≠ ks n)) = false
        simp [h2])
      have q3 := cnP_le n p' (fun i h1 j h2 => hi i (by omega) j (by omega)) (fun i h1 h2 => hm i (by omega) (hp _ h2))
      rw [q1]
      simp [bn]
      omega
/-- the deepest -/
def mxP (ks : Nat → Ky) : Nat → Nat
  | 0 => 0
  | n + 1 => max (mxP ks n) (dp 8 (ks n))
theorem mxP_ge {ks : Nat → Ky} : ∀ n i, i < n → dp 8 (ks i) ≤ mxP ks n
  | 0, i, hi => absurd hi (Nat.not_lt_zero _)
  | n + 1, i, hi => by
    unfold mxP
    by_cases e : i = n
    · subst e; omega
    · have := mxP_ge (ks := ks) n i (by omega)
      omega
theorem mxP_le {ks : Nat → Ky} {B : Nat} : ∀ n, (∀ i, i < n → dp 8 (ks i) ≤ B) → mxP ks n ≤ B
  | 0, _ => Nat.zero_le _
  | n + 1, h => by
    unfold mxP
    have h1 := mxP_le (ks := ks) n (fun i hi => h i (by omega))
    have h2 := h n (by omega)
    omega
theorem mxP_8 (ks : Nat → Ky) (n : Nat) : mxP ks n ≤ 8 := mxP_le n (fun i _ => dp_le 8 _)
theorem cnP_n (ks : Nat → Ky) (p : Ky → Bool) : ∀ n, cnP ks p n ≤ n
  | 0 => Nat.le_refl _
  | n + 1 => by
    unfold cnP
    have := cnP_n ks p n
    have := bn_lt (p (ks n))
    omega
end
section
/-! The class's multiplexers. -/
abbrev m_in (m : wM) := m.1
abbrev m_z (m : wM) := m.2.1
abbrev m_o (m : wM) := m.2.2.1
abbrev m_dp (m : wM) := m.2.2.2.1
abbrev m_ft (m : wM) := m.2.2.2.2.1
abbrev m_nt (m : wM) := m.2.2.2.2.2.1
abbrev m_re (m : wM) := m.2.2.2.2.2.2.1
abbrev m_row (m : wM) := m.2.2.2.2.2.2.2.1
abbrev m_pi (m : wM) := m.2.2.2.2.2.2.2.2.1
abbrev m_n (m : wM) := m.2.2.2.2.2.2.2.2.2.1
abbrev m_lg (m : wM) := m.2.2.2.2.2.2.2.2.2.2
def zr (f : Nat → Int32) (n : Nat) : Nat := if n < 2 then 1000 else (f n).toNatClampNeg
def nodR (J : Nat) (fs : Nat → Ky) (ks : Nat → Ky) (m : wM) (n : Nat) : Prop := fd (ks n) < 8 ∧ memK J fs (ks n) ∧ m_in m n = nI (fd (ks n)) ∧ ∃ z o, z < n ∧ o < n ∧ m_z m n = nI z ∧ m_o m n = nI o ∧ ks z = sub (ks n) (fd (ks n) + 1) 0 ∧ ks o = sub (ks n) (fd (ks n) + 1) 1
/-- nodes 0 .. N - 1 stand for the functions ks, all but the constants what is left of the first J of fs -/
def rMx (J : Nat) (fs : Nat → Ky) (N : Nat) (ks : Nat → Ky) (m : wM) : Prop :=
  2 ≤ N ∧ N ≤ 876 ∧ m_n m = nI N ∧ ks 0 = kF ∧ ks 1 = kT ∧
  (∀ i, i < N → ∀ j, j < N → ks i = ks j → i = j) ∧
  (∀ n, 2 ≤ n → n < N → nodR J fs ks m n) ∧
  (∀ n, n < N → m_dp m n = nI (dp 8 (ks n)) ∧ m_ft m n = prI (prv (zr (m_z m)) N n)) ∧
  (∀ n, 2 ≤ n → n < N → m_nt m n = prI (prv (zr (m_z m)) n (zr (m_z m) n))) ∧
  (∀ k, k < 8 → m_pi m k = nI (cnP ks (fun g => fd g == k) N)) ∧
  m_lg m = nI (mxP ks N)
theorem prv_gap {to : Nat → Nat} {g : Nat} : ∀ n i, prv to n g ≤ i → i < n → to i ≠ g
  | 0, i, _, hi => absurd hi (Nat.not_lt_zero _)
  | n + 1, i, h, hi => by
    unfold prv at h
    split at h
    · omega
    · rename_i e
      by_cases e2 : i = n
      · subst e2; exact e
      · exact prv_gap n i h (by omega)
theorem mxP_congr {ks ks' : Nat → Ky} : ∀ n, (∀ i, i < n → ks i = ks' i) → mxP ks n = mxP ks' n
  | 0, _ => rfl
  | n + 1, h => by
    unfold mxP
    rw [mxP_congr n (fun i hi => h i (by omega)), h n (by omega)]
theorem rMx_const {J : Nat} {fs : Nat → Ky} {N : Nat} {ks : Nat → Ky} {m : wM} (h : rMx J fs N ks m) {n : Nat} (hn : n < N) : memK J fs (ks n) ∨ (fd (ks n) = 8 ∧ nf (ks n)) := by
  obtain ⟨h1, h2, h3, h4, h5, h6, h7, h8, h9, h10, h11⟩ := h
  by_cases e : 2 ≤ n
  · exact Or.inl (h7 n e hn).2.1
  · have : n = 0 ∨ n = 1 := by omega
    rcases this with rfl | rfl
    · rw [h4]; exact Or.inr ⟨fd_kF, nf_kF⟩
    · rw [h5]; exact Or.inr ⟨fd_kT, nf_kT⟩
theorem rMx_nf {J : Nat} {fs : Nat → Ky} {N : Nat} {ks : Nat → Ky} {m : wM} (h : rMx J fs N ks m) {n : Nat} (hn : n < N) : nf (ks n) := (rMx_const h hn).elim mem_nf (fun q => q.2)
theorem zr_lt {J : Nat} {fs : Nat → Ky} {N : Nat} {ks : Nat → Ky} {m : wM} (h : rMx J fs N ks m) {n : Nat} (h2 : 2 ≤ n) (hn : n < N) : zr (m_z m) n < n := by
  obtain ⟨-, -, -, z, o, hz, ho, e1, e2, -⟩ := h.2.2.2.2.2.2.1 n h2 hn
  have := h.2.1
  unfold zr
  rw [if_neg (by omega), e1, nx_c (by omega)]
  exact hz
def nK (ks : Nat → Ky) (N : Nat) (g : Ky) : Nat → Ky := fun n => if n = N then g else ks n
theorem nK_ne {ks : Nat → Ky} {N n : Nat} {g : Ky} (h : n ≠ N) : nK ks N g n = ks n := if_neg h
theorem nK_N {ks : Nat → Ky} {N : Nat} {g : Ky} : nK ks N g N = g := if_pos rfl
theorem rMx_lt {J : Nat} {fs : Nat → Ky} {N : Nat} {ks : Nat → Ky} {m : wM} (hJ : J ≤ 20) (h : rMx J fs N ks m) {g : Ky} (hg : memK J fs g) (hn : ∀ n, n < N → ks n ≠ g) : N + 1 ≤ 876 := by
  refine key_bound (fs := fs) (ks := nK ks N g) hJ (fun n hn2 => ?_) (fun i hi j hj e => ?_)
  · by_cases e : n = N
    · subst e; rw [nK_N]; exact Or.inl hg
    · rw [nK_ne e]; exact rMx_const h (by omega)
  · by_cases ei : i = N
    · by_cases ej : j = N
      · omega
      · rw [ei, nK_N, nK_ne ej] at e
        exact absurd e.symm (hn j (by omega))
    · by_cases ej : j = N
      · rw [ej, nK_N, nK_ne ei] at e
        exact absurd e (hn i (by omega))
      · rw [nK_ne ei, nK_ne ej] at e
        exact h.2.2.2.2.2.1 i (by omega) j (by omega) e
theorem rMx_add {J : Nat} {fs : Nat → Ky} {N : Nat} {ks : Nat → Ky} {m : wM} (hJ : J ≤ 20) (h : rMx J fs N ks m) {g : Ky} {k z o : Nat} (hg : memK J fs g) (hn : ∀ n, n < N → ks n ≠ g) (hk : k < 8) (hd : dk g k) (hz : z < N) (ho : o < N) (hzo : z ≠ o) (ez : ks z = sub g (k + 1) 0) (eo : ks o = sub g (k + 1) 1) {d lg : Int32} (ed : d = nI (1 + max (dp 8 (ks z)) (dp 8 (ks o)))) (el : lg = nI (max (mxP ks N) (1 + max (dp 8 (ks z)) (dp 8 (ks o))))) :
    rMx J fs (N + 1) (nK ks N g) (upd (m_in m) N (nI k), upd (m_z m) N (nI z), upd (m_o m) N (nI o), upd (m_dp m) N d, upd (upd (m_ft m) z (nI N)) N (-1), upd (m_nt m) N (m_ft m z), m_re m, m_row m, upd (m_pi m) k (m_pi m k + 1), nI N + 1, lg) := by
  have hb := rMx_lt hJ h hg hn
  have h0 := h
  obtain ⟨h1, h2, h3, h4, h5, h6, h7, h8, h9, h10, h11⟩ := h
  have ngg := mem_nf hg
  have hfd : fd g = k := fd_is hk hd (by rw [← ez, ← eo]; exact fun e => hzo (h6 z hz o ho e))
  have ezr : ∀ n, n < N → zr (upd (m_z m) N (nI z)) n = zr (m_z m) n := fun n hn => by
    unfold zr
    rw [pk_un (show n ≠ N by omega)]
  have ezN : zr (upd (m_z m) N (nI z)) N = z := by
    unfold zr
    rw [if_neg (by omega), pk_us, nx_c (by omega)]
  have edg : dp 8 g = 1 + max (dp 8 (ks z)) (dp 8 (ks o)) := by
    rw [dp_step (by omega), hfd, ← ez, ← eo]
  refine ⟨by omega, hb, nI_1 N, by rw [nK_ne (by omega)]; exact h4, by rw [nK_ne (by omega)]; exact h5, fun i hi j hj e => ?_, fun n hn2 hn3 => ?_, fun n hn2 => ?_, fun n hn2 hn3 => ?_, fun k' hk' => ?_, ?_⟩
  · by_cases ei : i = N
    · by_cases ej : j = N
      · omega
      · rw [ei, nK_N, nK_ne ej] at e
        exact absurd e.symm (hn j (by omega))
    · by_cases ej : j = N
      · rw [ej, nK_N, nK_ne ei] at e
        exact absurd e (hn i (by omega))
      · rw [nK_ne ei, nK_ne ej] at e
        exact h6 i (by omega) j (by omega) e
  · by_cases e : n = N
    · subst e
      unfold nodR
      rw [nK_N, hfd]
      refine ⟨hk, hg, pk_us, z, o, hz, ho, pk_us, pk_us, ?_, ?_⟩
      · rw [nK_ne (by omega)]; exact ez
      · rw [nK_ne (by omega)]; exact eo
    · obtain ⟨a1, a2, a3, z', o', a4, a5, a6, a7, a8, a9⟩ := h7 n hn2 (by omega)
      unfold nodR
      rw [nK_ne e]
      refine ⟨a1, a2, (pk_un e).trans a3, z', o', a4, a5, (pk_un e).trans a6, (pk_un e).trans a7, ?_, ?_⟩
      · rw [nK_ne (by omega)]; exact a8
      · rw [nK_ne (by omega)]; exact a9
  · by_cases e : n = N
    · subst e
      rw [nK_N, edg]
      refine ⟨pk_us.trans ed, pk_us.trans ?_⟩
      show (-1 : Int32) = prI (prv (zr (upd (m_z m) n (nI z))) (n + 1) n)
      rw [prv_none (n + 1) (fun i hi => ?_), prI_0]
      by_cases ei : i = n
      · subst ei; rw [ezN]; omega
      · rw [ezr i (by omega)]
        by_cases e2 : 2 ≤ i
        · have := zr_lt h0 e2 (show i < n by omega)
          omega
        · unfold zr
          rw [if_pos (by omega)]
          omega
    · rw [nK_ne e]
      refine ⟨(pk_un e).trans (h8 n (by omega)).1, (pk_un e).trans ?_⟩
      show upd (m_ft m) z (nI N) n = prI (prv (zr (upd (m_z m) N (nI z))) (N + 1) n)
      unfold prv
      rw [ezN, prv_congr N n ezr]
      by_cases e2 : z = n
      · subst e2
        rw [if_pos rfl, pk_us, prI_s]
      · rw [if_neg e2, pk_un (Ne.symm e2)]
        exact (h8 n (by omega)).2
  · by_cases e : n = N
    · subst e
      refine pk_us.trans ?_
      show m_ft m z = prI (prv (zr (upd (m_z m) n (nI z))) n (zr (upd (m_z m) n (nI z)) n))
      rw [ezN, prv_congr n z ezr]
      exact (h8 z hz).2
    · refine (pk_un e).trans ?_
      show m_nt m n = prI (prv (zr (upd (m_z m) N (nI z))) n (zr (upd (m_z m) N (nI z)) n))
      rw [ezr n (by omega), prv_congr n _ (fun i hi => ezr i (by omega))]
      exact h9 n hn2 (by omega)
  · show upd (m_pi m) k (m_pi m k + 1) k' = nI (cnP (nK ks N g) (fun g => fd g == k') N + bn (fd (nK ks N g N) == k'))
    rw [nK_N, cnP_congr (ks := nK ks N g) (ks' := ks) (p' := fun g => fd g == k') N (fun i hi => by rw [nK_ne (by omega)]), hfd]
    by_cases e : k' = k
    · subst e
      rw [pk_us, h10 k' hk', nI_1]
      simp [bn]
    · rw [pk_un e, h10 k' hk']
      simp [bn, Ne.symm e]
  · show lg = nI (max (mxP (nK ks N g) N) (dp 8 (nK ks N g N)))
    rw [nK_N, edg, mxP_congr (ks := nK ks N g) (ks' := ks) N (fun i hi => nK_ne (by omega))]
    exact el
def sp_J_max : cx_S := fun as ws R => ∃ a b, as = [.inl (nI a), .inl (nI b)] ∧ a < 2 ^ 31 ∧ b < 2 ^ 31 ∧ R (.inl (some (.inl (nI (max a b))))) ws
theorem pu_J_max : ∀ as ws Rq, sp_J_max as ws Rq → cx_cats as ≤ 2 ∧ ∀ V, cx_cl1 t_J_max [] [] [] 0 0 Rq V → V 0 (cx_lv0 as 2) [] ws 0 0 := by
  rintro as ws Rq ⟨a, b, rfl, ha, hb, h⟩
  refine ⟨Nat.le_of_ble_eq_true rfl, fun V hV => hV [] 40 _ _ _ _ _ _ ?_⟩
  conv => whnf
  refine pk_lt a b (fun e => ?_) (fun e => ?_)
  · conv => whnf
    rw [show max a b = b by omega] at h
    exact ⟨fun e => absurd e (by decide), h⟩
  · conv => whnf
    rw [show max a b = a by omega] at h
    exact ⟨fun e => absurd e (by decide), h⟩
/-- what add and join ask of the function that they make a node of -/
def askM (J : Nat) (fs : Nat → Ky) (N : Nat) (ks : Nat → Ky) (g : Ky) (k z o : Nat) : Prop := J ≤ 20 ∧ memK J fs g ∧ k < 8 ∧ dk g k ∧ z < N ∧ o < N ∧ ks z = sub g (k + 1) 0 ∧ ks o = sub g (k + 1) 1
def sp_M_addMultiplexer : cx_S := cx_self 1 (fun j r ws R => ∃ x n l m q J fs N ks g k z o, ws = wd x n l m q ∧ j = 11 ∧ r = [.inl (nI k), .inl (nI z), .inl (nI o)] ∧ rMx J fs N ks m ∧ askM J fs N ks g k z o ∧ z ≠ o ∧ (∀ n, n < N → ks n ≠ g) ∧
  ∀ m', rMx J fs (N + 1) (nK ks N g) m' → m_row m' = m_row m → R (.inl (some (.inl (nI N)))) (wd x n l m' q))
set_option maxRecDepth 100000 in
set_option maxHeartbeats 4000000 in
theorem pu_M_addMultiplexer : ∀ as ws Rq, sp_M_addMultiplexer as ws Rq → cx_cats as ≤ 5 ∧ ∀ V, cx_cl1 t_M_addMultiplexer [(sp_J_max, 2, 0, 0)] [] [] 0 0 Rq V → V 0 (cx_lv0 as 5) [] ws 0 0 := by
  intro as ws Rq h0
  obtain ⟨j, r, fs0, rfl, hj, x, n, l, m, q, J, fs, N, ks, g, k, z, o, rfl, rfl, rfl, hM, ⟨hJ, hg, hk, hd, hz, ho, ez, eo⟩, hzo, hn, h⟩ := cx_self_spec h0
  refine ⟨Nat.le_of_ble_eq_true rfl, fun V hV => ?_⟩
  have hb := rMx_lt hJ hM hg hn
  have hM2 := hM
  obtain ⟨h1, h2, h3, h4, h5, h6, h7, h8, h9, h10, h11⟩ := hM2
  have e0 : m.2.2.2.2.2.2.2.2.2.1 = nI N := h3
  have hcz : (nI z).toNatClampNeg = z := nx_c (by omega)
  have hco : (nI o).toNatClampNeg = o := nx_c (by omega)
  have hck : (nI k).toNatClampNeg = k := nx_c (by omega)
  have hcN : (nI N).toNatClampNeg = N := nx_c (by omega)
  have inN : vp_in m.2.2.2.2.2.2.2.2.2.1 876 := pk_in N 876 (by omega) e0
  have inz : vp_in (nI z) 876 := pk_in z 876 (by omega)
  have ino : vp_in (nI o) 876 := pk_in o 876 (by omega)
  have ink : vp_in (nI k) 8 := pk_in k 8 (by omega)
  have dz := dp_le 8 (ks z)
  have do_ := dp_le 8 (ks o)
  refine hV [] 130 _ _ _ _ _ _ ?_
  conv => whnf
  refine pk_lt N 876 (fun e => ?_) (fun e => by omega) e0
  conv => whnf
  refine ⟨inN, ?_⟩
  conv => whnf
  refine ⟨inN, ?_⟩
  conv => whnf
  refine ⟨inN, ?_⟩
  conv => whnf
  refine ⟨inz, ?_⟩
  conv => whnf
  refine ⟨ino, ?_⟩
  conv => whnf
  rw [hcz, hco]
  refine ⟨dp 8 (ks z), dp 8 (ks o), ?_, by omega, by omega, ?_⟩
  · show [Sum.inl (m.2.2.2.1 z), Sum.inl (m.2.2.2.1 o)] = _
    rw [show m.2.2.2.1 z = nI (dp 8 (ks z)) from (h8 z hz).1, show m.2.2.2.1 o = nI (dp 8 (ks o)) from (h8 o ho).1]
  conv => whnf
  refine ⟨inN, ?_⟩
  conv => whnf
  refine ⟨inz, ?_⟩
  conv => whnf
  refine ⟨inN, ?_⟩
  conv => whnf
  refine ⟨inz, ?_⟩
  conv => whnf
  refine ⟨inN, ?_⟩
  conv => whnf
  refine ⟨ink, ?_⟩
  conv => whnf
  refine ⟨ink, ?_⟩
  conv => whnf
  refine ⟨inN, ?_⟩
  conv => whnf
  refine ⟨mxP ks N, 1 + max (dp 8 (ks z)) (dp 8 (ks o)), ?_, by have := mxP_8 ks N; omega, by omega, ?_⟩
  · rw [e0, hcN]
    show [Sum.inl m.2.2.2.2.2.2.2.2.2.2, Sum.inl (upd m.2.2.2.1 N _ N)] = _
    rw [pk_us, show m.2.2.2.2.2.2.2.2.2.2 = nI (mxP ks N) from h11, show (1 : Int32) = nI 1 from rfl, nI_add]
  conv => whnf
  refine ⟨Or.inl rfl, ?_⟩
  conv => whnf
  refine ⟨Or.inl rfl, ?_⟩
  conv => whnf
  refine ⟨fun e => absurd e (by decide), ?_⟩
  rw [e0, hcN, hcz, hck]
  exact h _ (rMx_add hJ hM hg hn hk hd hz ho hzo ez eo (d := 1 + nI (max (dp 8 (ks z)) (dp 8 (ks o)))) (by rw [show (1 : Int32) = nI 1 from rfl, nI_add]) rfl) rfl
def sp_M_join : cx_S := cx_self 1 (fun j r ws R => ∃ x n l m q J fs N ks g k z o, ws = wd x n l m q ∧ j = 11 ∧ r = [.inl (nI k), .inl (nI z), .inl (nI o)] ∧ rMx J fs N ks m ∧ askM J fs N ks g k z o ∧
  ∀ m' N' ks' r, rMx J fs N' ks' m' → m_row m' = m_row m → N ≤ N' → (∀ n, n < N → ks' n = ks n) → r < N' → ks' r = g → R (.inl (some (.inl (nI r)))) (wd x n l m' q))
set_option maxRecDepth 100000 in
set_option maxHeartbeats 4000000 in
theorem pu_M_join : ∀ as ws Rq, sp_M_join as ws Rq → cx_cats as ≤ 6 ∧ ∀ V, cx_cl1 t_M_join [(sp_M_addMultiplexer, 4, 0, 0)] [] [] 0 0 Rq V → V 0 (cx_lv0 as 6) [] ws 0 0 := by
  intro as ws Rq h0
  obtain ⟨j, r, fs0, rfl, hj, x, n, l, m, q, J, fs, N, ks, g, k, z, o, rfl, rfl, rfl, hM, hA, h⟩ := cx_self_spec h0
  refine ⟨Nat.le_of_ble_eq_true rfl, fun V hV => ?_⟩
  have hM2 := hM
  obtain ⟨h1, h2, h3, h4, h5, h6, h7, h8, h9, h10, h11⟩ := hM2
  have hA2 := hA
  obtain ⟨hJ, hg, hk, hd, hz, ho, ez, eo⟩ := hA2
  have e0 : m.2.2.2.2.2.2.2.2.2.1 = nI N := h3
  have hcz : (nI z).toNatClampNeg = z := nx_c (by omega)
  have inz : vp_in (nI z) 876 := pk_in z 876 (by omega)
  have match_ : ∀ p, p < N → zr (m_z m) p = z → m_in m p = nI k → m_o m p = nI o → ks p = g := by
    intro p hp hzp hkp hop
    have p2 : 2 ≤ p := by
      rcases Nat.lt_or_ge p 2 with q | q
      · unfold zr at hzp
        rw [if_pos q] at hzp
        omega
      · exact q
    obtain ⟨a1, a2, a3, z', o', a4, a5, a6, a7, a8, a9⟩ := h7 p p2 hp
    have ek : fd (ks p) = k := by
      rw [a3, nI_eq (by omega) (by omega)] at hkp
      exact hkp
    have ez' : z' = z := by
      unfold zr at hzp
      rw [if_neg (by omega), a6, nx_c (by omega)] at hzp
      exact hzp
    have eo' : o' = o := by
      rw [a7, nI_eq (by omega) (by omega)] at hop
      exact hop
    subst ez' eo'
    rw [ek] at a8 a9
    refine key_ext hk ?_ hd (rMx_nf hM hp) (mem_nf hg) (a8.symm.trans ez) (a9.symm.trans eo)
    have := fd_dk (ks p)
    rw [ek] at this
    exact this
  refine hV [18] 80 _ _ _ _ _ _ ?_
  conv => whnf
  have split : ∀ A B : Prop, (z ≠ o → A) → (z = o → B) → (¬ nI z = nI o → A) ∧ (nI z = nI o → B) := fun A B f g => by
    rw [nI_eq (by omega) (by omega)]
    exact ⟨f, g⟩
  refine split _ _ (fun hzo => ?_) (fun hzo => ?_)
  · conv => whnf
    refine ⟨inz, ?_⟩
    conv => whnf
    dsimp only
    rw [hcz, show m.2.2.2.2.1 z = prI (prv (zr (m_z m)) N z) from (h8 z hz).2, ← nI_0]
    have fin : ∀ (s4 s5 : Option cx_V), (∀ p, p < N → zr (m_z m) p = z → ¬ (m_in m p = nI k ∧ m_o m p = nI o)) → V 73 [some (.inr (.inr (.inl 11))), some (.inl (nI k)), some (.inl (nI z)), some (.inl (nI o)), s4, s5] [] (wd x n l m q) 0 0 := by
      intro s4 s5 hno
      refine hV [] 80 _ _ _ _ _ _ ?_
      conv => whnf
      refine ⟨x, n, l, m, q, J, fs, N, ks, g, k, z, o, rfl, rfl, rfl, hM, hA, hzo, fun p hp e => ?_, fun m' hm' hr => ?_⟩
      · have hfd : fd g = k := fd_is hk hd (by rw [← ez, ← eo]; exact fun e => hzo (h6 z hz o ho e))
        have p2 : 2 ≤ p := by
          rcases Nat.lt_or_ge p 2 with q | q
          · exfalso
            have : p = 0 ∨ p = 1 := by omega
            rcases this with rfl | rfl
            · rw [← e, h4, fd_kF] at hfd; omega
            · rw [← e, h5, fd_kT] at hfd; omega
          · exact q
        obtain ⟨a1, a2, a3, z', o', a4, a5, a6, a7, a8, a9⟩ := h7 p p2 hp
        rw [e, hfd] at a3 a8 a9
        have ez' : z' = z := h6 z' (by omega) z hz (a8.trans ez.symm)
        have eo' : o' = o := h6 o' (by omega) o ho (a9.trans eo.symm)
        subst ez' eo'
        refine hno p hp ?_ ⟨a3, a7⟩
        unfold zr
        rw [if_neg (by omega), a6, nx_c (by omega)]
      · conv => whnf
        refine ⟨fun e => absurd e (by decide), ?_⟩
        exact h m' (N + 1) (nK ks N g) N hm' hr (by omega) (fun i hi => nK_ne (by omega)) (by omega) nK_N
    have loop : ∀ (d p t : Nat), p ≤ d → t + p ≤ N → prv (zr (m_z m)) p z = p → (∀ i, p ≤ i → i < N → zr (m_z m) i = z → ¬ (m_in m i = nI k ∧ m_o m i = nI o)) →
        V 18 [some (.inr (.inr (.inl 11))), some (.inl (nI k)), some (.inl (nI z)), some (.inl (nI o)), some (.inl (prI p)), some (.inl (nI t))] [] (wd x n l m q) 0 0 := by
      intro d
      induction d with
      | zero =>
        intro p t hp ht hpr hno
        have e : p = 0 := by omega
        subst e
        refine hV [73] 80 _ _ _ _ _ _ ?_
        conv => whnf
        refine ⟨fun _ => fin _ _ (fun i hi => hno i (by omega) hi), fun _ => ?_⟩
        conv => whnf
        rw [prI_0]
        exact ⟨fun _ => fin _ _ (fun i hi => hno i (by omega) hi), fun e => absurd rfl e⟩
      | succ d ih =>
        intro p t hp ht hpr hno
        cases p with
        | zero => exact ih 0 t (by omega) (by omega) rfl hno
        | succ p =>
          have hzp := prv_hit _ _ _ _ hpr
          have p2 : 2 ≤ p := by
            rcases Nat.lt_or_ge p 2 with q | q
            · unfold zr at hzp
              rw [if_pos q] at hzp
              omega
            · exact q
          have inp : vp_in (prI (p + 1)) 876 := by rw [prI_s]; exact pk_in p 876 (by omega)
          have hcp : (prI (p + 1)).toNatClampNeg = p := by rw [prI_s]; exact nx_c (by omega)
          have next : V 58 [some (.inr (.inr (.inl 11))), some (.inl (nI k)), some (.inl (nI z)), some (.inl (nI o)), some (.inl (prI (p + 1))), some (.inl (nI t))] [] (wd x n l m q) 0 0 ∨ (m_in m p = nI k ∧ m_o m p = nI o) := by
            by_cases em : m_in m p = nI k ∧ m_o m p = nI o
            · exact Or.inr em
            · refine Or.inl (hV [18] 80 _ _ _ _ _ _ ?_)
              conv => whnf
              refine ⟨inp, ?_⟩
              conv => whnf
              dsimp only
              rw [hcp, show m.2.2.2.2.2.1 p = prI (prv (zr (m_z m)) p (zr (m_z m) p)) from h9 p p2 (by omega), hzp, nI_1]
              have hle := prv_le (zr (m_z m)) z p
              refine ih _ (t + 1) (by omega) (by omega) (prv_idem _ _ _) (fun i hi hi2 hz2 => ?_)
              by_cases e1 : p + 1 ≤ i
              · exact hno i e1 hi2 hz2
              · by_cases e2 : i = p
                · subst e2; exact em
                · exact absurd hz2 (prv_gap p i hi (by omega))
          refine hV [73, 58] 80 _ _ _ _ _ _ ?_
          conv => whnf
          refine pk_le N t (fun e => by omega) (fun _ => ?_) e0
          conv => whnf
          refine ⟨fun e => absurd e (prI_ne (by omega)), fun _ => ?_⟩
          conv => whnf
          refine ⟨inp, ?_⟩
          conv => whnf
          rw [hcp]
          refine ⟨fun e => next.elim id (fun q => absurd q.1 e), fun e1 => ?_⟩
          conv => whnf
          refine ⟨inp, ?_⟩
          conv => whnf
          rw [hcp]
          refine ⟨fun e => next.elim id (fun q => absurd q.2 e), fun e2 => ?_⟩
          conv => whnf
          refine ⟨fun e => absurd e (by decide), ?_⟩
          rw [prI_s]
          exact h m N ks p hM rfl (Nat.le_refl _) (fun i hi => rfl) (by omega) (match_ p (by omega) hzp e1 e2)
    exact loop N _ 0 (prv_le _ _ _) (by have := prv_le (zr (m_z m)) z N; omega) (prv_idem _ _ _) (fun i hi hi2 hz2 => absurd hz2 (prv_gap N i hi hi2))
  · subst hzo
    conv => whnf
    refine ⟨fun e => absurd e (by decide), ?_⟩
    have e2 := key_same hk hd (mem_nf hg) (ez.symm.trans eo)
    exact h m N ks z hM rfl (Nat.le_refl _) (fun i hi => rfl) hz (ez.trans e2.symm)
end
section
/-! The multiplexers: emptied, filled, run through. -/
theorem nI_m1 (p : Nat) : nI p + (-1) = prI p := by
  unfold prI
  rw [Int32.sub_eq_add_neg]
def tt (f : Nat → Int64) : Ky := fun c => decide (c < 256) && lb (f (c / 64)) (c % 64)
theorem nf_tt (f : Nat → Int64) : nf (tt f) := fun c hc => by simp [tt, show ¬ c < 256 by omega]
def ks0 : Nat → Ky := fun n => if n = 0 then kF else kT
def sp_M_dropAll : cx_S := cx_self 1 (fun j r ws R => ∃ x n l m q, ws = wd x n l m q ∧ j = 11 ∧ r = [] ∧ ∀ m', (∀ fs, rMx 0 fs 2 ks0 m') → R (.inl none) (wd x n l m' q))
set_option maxRecDepth 100000 in
set_option maxHeartbeats 4000000 in
theorem pu_M_dropAll : ∀ as ws Rq, sp_M_dropAll as ws Rq → cx_cats as ≤ 2 ∧ ∀ V, cx_cl1 t_M_dropAll [] [] [] 0 0 Rq V → V 0 (cx_lv0 as 2) [] ws 0 0 := by
  intro as ws Rq h0
  obtain ⟨j, r, fs0, rfl, hj, x, n, l, m, q, rfl, rfl, rfl, h⟩ := cx_self_spec h0
  refine ⟨Nat.le_of_ble_eq_true rfl, fun V hV => ?_⟩
  have loop : ∀ (d k : Nat) (m : wM), k + d = 8 → m_n m = 2 → m_lg m = 0 → (∀ i, i < 2 → m_dp m i = 0 ∧ m_ft m i = -1) → (∀ i, i < k → m_pi m i = 0) → V 39 [some (.inr (.inr (.inl 11))), some (.inl (nI k))] [] (wd x n l m q) 0 0 := by
    intro d
    induction d with
    | zero =>
      intro k m hd h1 h2 h3 h4
      refine hV [] 40 _ _ _ _ _ _ ?_
      conv => whnf
      refine pk_le 8 k (fun _ => ?_) (fun _ => by omega)
      conv => whnf
      refine h m (fun fs => ⟨Nat.le_refl _, by decide, h1, rfl, rfl, fun i hi j hj e => ?_, fun n hn1 hn2 => by omega, fun n hn => ?_, fun n hn1 hn2 => by omega, fun k' hk' => ?_, ?_⟩)
      · have hi' : i = 0 ∨ i = 1 := by omega
        have hj' : j = 0 ∨ j = 1 := by omega
        rcases hi' with rfl | rfl <;> rcases hj' with rfl | rfl
        · rfl
        · exact absurd e kFT
        · exact absurd e.symm kFT
        · rfl
      · have e : prv (zr (m_z m)) 2 n = 0 := prv_none 2 (fun i hi => by unfold zr; rw [if_pos hi]; omega)
        have e2 : dp 8 (ks0 n) = 0 := by
          have hn' : n = 0 ∨ n = 1 := by omega
          rcases hn' with rfl | rfl
          · exact dp_const fd_kF
          · exact dp_const fd_kT
        rw [e, e2, prI_0, nI_0]
        exact h3 n hn
      · rw [h4 k' (by omega)]
        show (0 : Int32) = nI (0 + bn (fd kF == k') + bn (fd kT == k'))
        rw [fd_kF, fd_kT, show ((8 : Nat) == k') = false by simp; omega]
        rfl
      · rw [h2]
        show (0 : Int32) = nI (max (max 0 (dp 8 kF)) (dp 8 kT))
        rw [dp_const fd_kF, dp_const fd_kT]
        rfl
    | succ d ih =>
      intro k m hd h1 h2 h3 h4
      refine hV [39] 40 _ _ _ _ _ _ ?_
      conv => whnf
      refine pk_le 8 k (fun _ => by omega) (fun _ => ?_)
      conv => whnf
      refine ⟨pk_in k 8 (by omega), ?_⟩
      conv => whnf
      rw [nI_1, nx_c (show k < 2 ^ 31 by omega)]
      refine ih (k + 1) (m_in m, m_z m, m_o m, m_dp m, m_ft m, m_nt m, m_re m, m_row m, upd (m_pi m) k 0, m_n m, m_lg m) (by omega) h1 h2 h3 (fun i hi => ?_)
      by_cases e : i = k
      · subst e; exact pk_us
      · exact (pk_un e).trans (h4 i (by omega))
  refine hV [39] 80 _ _ _ _ _ _ ?_
  conv => whnf
  refine ⟨Or.inl rfl, ?_⟩
  conv => whnf
  refine ⟨Or.inl rfl, ?_⟩
  conv => whnf
  refine ⟨fun e => absurd e (by decide), fun _ => ?_⟩
  conv => whnf
  refine ⟨pk_in 0 876 (by decide), ?_⟩
  conv => whnf
  refine ⟨pk_in 0 876 (by decide), ?_⟩
  conv => whnf
  refine ⟨fun e => absurd e (by decide), fun _ => ?_⟩
  conv => whnf
  refine ⟨pk_in 1 876 (by decide), ?_⟩
  conv => whnf
  refine ⟨pk_in 1 876 (by decide), ?_⟩
  conv => whnf
  refine ⟨fun _ => ?_, fun e => absurd (by decide) e⟩
  conv => whnf
  rw [← nI_0]
  refine loop 8 0 (m_in m, m_z m, m_o m, upd (upd (m_dp m) _ _) _ _, upd (upd (m_ft m) _ _) _ _, m_nt m, m_re m, m_row m, m_pi m, 2, nI 0) (by omega) rfl rfl (fun i hi => ?_) (fun i hi => by omega)
  have hi' : i = 0 ∨ i = 1 := by omega
  rcases hi' with rfl | rfl
  · exact ⟨rfl, rfl⟩
  · exact ⟨rfl, rfl⟩
def lvl (f : Ky) (k lo hi N : Nat) (ks : Nat → Ky) (row : Nat → Int32) : Prop := ∀ i, lo ≤ i → i < hi → ∃ r, r < N ∧ row i = nI r ∧ ks r = sub f k i
def cmpl (f : Ky) (k N : Nat) (ks : Nat → Ky) : Prop := ∀ k', k ≤ k' → k' ≤ 8 → ∀ i, i < 2 ^ k' → ∃ n, n < N ∧ ks n = sub f k' i
def mRow (m : wM) (row : Nat → Int32) : wM := (m_in m, m_z m, m_o m, m_dp m, m_ft m, m_nt m, m_re m, row, m_pi m, m_n m, m_lg m)
theorem rMx_row {J : Nat} {fs : Nat → Ky} {N : Nat} {ks : Nat → Ky} {m : wM} (h : rMx J fs N ks m) (row : Nat → Int32) : rMx J fs N ks (mRow m row) := h
theorem rMx_up {J J' : Nat} {fs : Nat → Ky} {N : Nat} {ks : Nat → Ky} {m : wM} (h : rMx J fs N ks m) (hJ : J ≤ J') : rMx J' fs N ks m := by
  obtain ⟨h1, h2, h3, h4, h5, h6, h7, h8⟩ := h
  refine ⟨h1, h2, h3, h4, h5, h6, fun n a b => ?_, h8⟩
  obtain ⟨c1, c2, c3⟩ := h7 n a b
  exact ⟨c1, mem_mono c2 hJ, c3⟩
theorem rMx_fs {J : Nat} {fs fs' : Nat → Ky} {N : Nat} {ks : Nat → Ky} {m : wM} (h : rMx J fs N ks m) (e : ∀ j, j < J → fs j = fs' j) : rMx J fs' N ks m := by
  obtain ⟨h1, h2, h3, h4, h5, h6, h7, h8⟩ := h
  refine ⟨h1, h2, h3, h4, h5, h6, fun n a b => ?_, h8⟩
  obtain ⟨c1, c2, c3⟩ := h7 n a b
  exact ⟨c1, mem_congr c2 e, c3⟩
theorem sub_8 (f : Ky) (c : Nat) : sub f 8 c = if f c = true then kT else kF := by
  funext d
  unfold sub
  rw [show 2 ^ (8 - 8) = 1 from rfl, Nat.mod_one, Nat.mul_one, Nat.add_zero]
  cases f c <;> simp [kF, kT]
def sp_M_addFunction : cx_S := cx_self 1 (fun j r ws R => ∃ x n l m q J fs N ks jj g, ws = wd x n l m q ∧ j = 11 ∧ r = [.inr (.inr (.inr (.inl (jj, g))))] ∧ (jj = 8 ∨ jj = 9) ∧ g < 120 ∧ rMx J fs N ks m ∧ J < 20 ∧ fs J = tt ((if jj = 8 then n_hi n else n_lo n) g) ∧
  ∀ m' N' ks' r, rMx (J + 1) fs N' ks' m' → N ≤ N' → (∀ n, n < N → ks' n = ks n) → r < N' → ks' r = fs J → cmpl (fs J) 0 N' ks' → R (.inl (some (.inl (nI r)))) (wd x n l m' q))
set_option maxRecDepth 100000 in
set_option maxHeartbeats 4000000 in
theorem pu_M_addFunction : ∀ as ws Rq, sp_M_addFunction as ws Rq → cx_cats as ≤ 5 ∧ ∀ V, cx_cl1 t_M_addFunction [(sp_C_isMember, 2, 0, 0), (sp_M_join, 4, 0, 0)] [] [] 0 0 Rq V → V 0 (cx_lv0 as 5) [] ws 0 0 := by
  intro as ws Rq h0
  obtain ⟨j, r, fs0, rfl, hj, x, n, l, m, q, J, fs, N, ks, jj, g, rfl, rfl, rfl, hjj, hg, hM, hJ, hfJ, h⟩ := cx_self_spec h0
  refine ⟨Nat.le_of_ble_eq_true rfl, fun V hV => ?_⟩
  have nfJ : nf (fs J) := by rw [hfJ]; exact nf_tt _
  have hcell : ∀ m : wM, (wd x n l m q)[jj]? = some (.inr (.inr (.inr (.inr (120, 4, if jj = 8 then n_hi n else n_lo n))))) := fun m => by
    rcases hjj with rfl | rfl <;> rfl
  -- the levels
  have inner : ∀ (d i k0 : Nat) (m' : wM) (N' : Nat) (ks' : Nat → Ky), i + d = 2 ^ k0 → k0 < 8 → rMx (J + 1) fs N' ks' m' → N ≤ N' → (∀ n, n < N → ks' n = ks n) → lvl (fs J) k0 0 i N' ks' (m_row m') → lvl (fs J) (k0 + 1) (2 * i) (2 ^ (k0 + 1)) N' ks' (m_row m') → cmpl (fs J) (k0 + 1) N' ks' →
      (∀ (m' : wM) (N' : Nat) (ks' : Nat → Ky) (s4 : Option cx_V), rMx (J + 1) fs N' ks' m' → N ≤ N' → (∀ n, n < N → ks' n = ks n) → lvl (fs J) k0 0 (2 ^ k0) N' ks' (m_row m') → cmpl (fs J) (k0 + 1) N' ks' → V 92 [some (.inr (.inr (.inl 11))), some (.inr (.inr (.inr (.inl (jj, g))))), some (.inl (nI k0)), some (.inl (nI (2 ^ k0))), s4] [] (wd x n l m' q) 0 0) →
      V 48 [some (.inr (.inr (.inl 11))), some (.inr (.inr (.inr (.inl (jj, g))))), some (.inl (nI k0)), some (.inl (nI (2 ^ k0))), some (.inl (nI i))] [] (wd x n l m' q) 0 0 := by
    intro d
    induction d with
    | zero =>
      intro i k0 m' N' ks' hd hk h1 h2 h3 h4 h5 h6 hK
      have e : i = 2 ^ k0 := by omega
      subst e
      have hlt : 2 ^ k0 < 2 ^ 8 := Nat.pow_lt_pow_right (by omega) hk
      refine hV [92] 40 _ _ _ _ _ _ ?_
      conv => whnf
      refine pk_le (2 ^ k0) (2 ^ k0) (fun _ => ?_) (fun e => absurd e (Nat.lt_irrefl _)) rfl rfl (by omega) (by omega)
      exact hK m' N' ks' _ h1 h2 h3 h4 h6
    | succ d ih =>
      intro i k0 m' N' ks' hd hk h1 h2 h3 h4 h5 h6 hK
      have hlt : 2 ^ k0 < 2 ^ 8 := Nat.pow_lt_pow_right (by omega) hk
      have hlt2 : 2 ^ (k0 + 1) ≤ 2 ^ 8 := Nat.pow_le_pow_right (by omega) (by omega)
      have hpw : 2 ^ (k0 + 1) = 2 * 2 ^ k0 := by rw [Nat.pow_succ, Nat.mul_comm]
      have hN := h1.2.1
      obtain ⟨r0, a1, a2, a3⟩ := h5 (2 * i) (by omega) (by omega)
      obtain ⟨r1, b1, b2, b3⟩ := h5 (2 * i + 1) (by omega) (by omega)
      refine hV [48, 92] 60 _ _ _ _ _ _ ?_
      conv => whnf
      refine pk_le (2 ^ k0) i (fun e => by omega) (fun _ => ?_) rfl rfl (by omega) (by omega)
      conv => whnf
      have hc2 : (2 * nI i : Int32) = nI (2 * i) := by rw [show (2 : Int32) = nI 2 from rfl, pk_mul]
      refine ⟨pk_in (2 * i) 256 (by omega) hc2, ?_⟩
      conv => whnf
      refine ⟨pk_in (2 * i + 1) 256 (by omega) (by rw [hc2, nI_1]), ?_⟩
      conv => whnf
      rw [hc2, nI_1, nx_c (show 2 * i < 2 ^ 31 by omega), nx_c (show 2 * i + 1 < 2 ^ 31 by omega)]
      have hmem : memK (J + 1) fs (sub (fs J) k0 i) := ⟨J, k0, i, by omega, by omega, by omega, rfl⟩
      refine ⟨x, n, l, m', q, J + 1, fs, N', ks', sub (fs J) k0 i, k0, r0, r1, rfl, rfl, ?_, h1, ⟨by omega, hmem, hk, sub_dk, a1, b1, ?_, ?_⟩, fun m2 N2 ks2 r2 c1 c2 c3 c4 c5 c6 => ?_⟩
      · show [Sum.inl (nI k0), Sum.inl (m'.2.2.2.2.2.2.2.1 (2 * i)), Sum.inl (m'.2.2.2.2.2.2.2.1 (2 * i + 1))] = _
        rw [show m'.2.2.2.2.2.2.2.1 (2 * i) = nI r0 from a2, show m'.2.2.2.2.2.2.2.1 (2 * i + 1) = nI r1 from b2]
      · rw [a3, sub_b hk (by omega)]; rfl
      · rw [b3, sub_b hk (by omega)]
      conv => whnf
      refine ⟨pk_in i 256 (by omega), ?_⟩
      conv => whnf
      rw [nI_1, nx_c (show i < 2 ^ 31 by omega)]
      refine ih (i + 1) k0 (mRow m2 (upd (m_row m2) i (nI r2))) N2 ks2 (by omega) hk (rMx_row c1 _) (by omega) (fun p hp => (c4 p (by omega)).trans (h3 p hp)) (fun p hp1 hp2 => ?_) (fun p hp1 hp2 => ?_) (fun k' q1 q2 p hp => ?_) hK
      · by_cases e : p = i
        · subst e
          exact ⟨r2, c5, pk_us, c6⟩
        · obtain ⟨r3, d1, d2, d3⟩ := h4 p hp1 (by omega)
          exact ⟨r3, by omega, (pk_un e).trans (by rw [c2]; exact d2), by rw [c4 r3 d1]; exact d3⟩
      · obtain ⟨r3, d1, d2, d3⟩ := h5 p (by omega) hp2
        exact ⟨r3, by omega, (pk_un (by omega)).trans (by rw [c2]; exact d2), by rw [c4 r3 d1]; exact d3⟩
      · obtain ⟨r3, d1, d2⟩ := h6 k' q1 q2 p hp
        exact ⟨r3, by omega, by rw [c4 r3 d1]; exact d2⟩
  have outer : ∀ (k : Nat) (m' : wM) (N' : Nat) (ks' : Nat → Ky) (s3 s4 : Option cx_V), k ≤ 8 → rMx (J + 1) fs N' ks' m' → N ≤ N' → (∀ n, n < N → ks' n = ks n) → lvl (fs J) k 0 (2 ^ k) N' ks' (m_row m') → cmpl (fs J) k N' ks' →
      V 37 [some (.inr (.inr (.inl 11))), some (.inr (.inr (.inr (.inl (jj, g))))), some (.inl (prI k)), s3, s4] [] (wd x n l m' q) 0 0 := by
    intro k
    induction k with
    | zero =>
      intro m' N' ks' s3 s4 hk h1 h2 h3 h4 h5
      obtain ⟨r0, a1, a2, a3⟩ := h4 0 (Nat.le_refl _) (by decide)
      refine hV [] 40 _ _ _ _ _ _ ?_
      conv => whnf
      rw [prI_0]
      refine ⟨fun _ => ?_, fun e => absurd (by decide) e⟩
      conv => whnf
      refine ⟨pk_in 0 256 (by decide), ?_⟩
      conv => whnf
      refine ⟨fun e => absurd e (by decide), ?_⟩
      rw [show (0 : Int32).toNatClampNeg = 0 from rfl]
      dsimp only
      rw [show m'.2.2.2.2.2.2.2.1 0 = nI r0 from a2]
      exact h m' N' ks' r0 h1 h2 h3 a1 (a3.trans (sub_self nfJ (dk_0 _))) h5
    | succ k0 ih =>
      intro m' N' ks' s3 s4 hk h1 h2 h3 h4 h5
      rw [prI_s]
      refine hV [48] 40 _ _ _ _ _ _ ?_
      conv => whnf
      refine ⟨fun e => absurd e (nI_pos (by omega)), fun _ => ?_⟩
      conv => whnf
      rw [← nI_0, show (1 : Int32) <<< (nI k0 &&& 31) = nI (2 ^ k0) by
        rw [show (1 : Int32) = nI 1 from rfl, nx_shl (by omega) (by rw [Nat.one_mul]; exact Nat.pow_lt_pow_right (by omega) (by omega)), Nat.one_mul]]
      refine inner (2 ^ k0) 0 k0 m' N' ks' (by omega) (by omega) h1 h2 h3 (fun i hi1 hi2 => by omega) h4 h5 (fun m2 N2 ks2 s4 c1 c2 c3 c4 c5 => ?_)
      refine hV [37] 40 _ _ _ _ _ _ ?_
      conv => whnf
      rw [nI_m1]
      refine ih m2 N2 ks2 _ _ (by omega) c1 c2 c3 c4 (fun k' q1 q2 p hp => ?_)
      by_cases e : k' = k0
      · subst e
        obtain ⟨r3, d1, d2, d3⟩ := c4 p (Nat.zero_le _) hp
        exact ⟨r3, d1, d3⟩
      · exact c5 k' (by omega) q2 p hp
  -- the row of values
  have first : ∀ (d c : Nat) (m' : wM), c + d = 256 → rMx (J + 1) fs N ks m' → (∀ i, i < c → m_row m' i = nI (bn (fs J i))) → V 2 [some (.inr (.inr (.inl 11))), some (.inr (.inr (.inr (.inl (jj, g))))), some (.inl (nI c)), none, none] [] (wd x n l m' q) 0 0 := by
    intro d
    induction d with
    | zero =>
      intro c m' hd h1 h2
      refine hV [37] 40 _ _ _ _ _ _ ?_
      conv => whnf
      refine pk_le 256 c (fun _ => ?_) (fun _ => by omega)
      conv => whnf
      have key : ∀ i, i < 2 ^ 8 → ks (bn (fs J i)) = sub (fs J) 8 i := fun i hi => by
        rw [sub_8]
        cases fs J i
        · exact h1.2.2.2.1
        · exact h1.2.2.2.2.1
      have hlt : ∀ i, bn (fs J i) < N := fun i => Nat.lt_of_lt_of_le (bn_lt _) h1.1
      refine outer 8 m' N ks none none (Nat.le_refl _) h1 (Nat.le_refl _) (fun p hp => rfl) (fun i _ hi => ⟨bn (fs J i), hlt i, h2 i (by omega), key i hi⟩) (fun k' q1 q2 i hi => ?_)
      have : k' = 8 := by omega
      subst this
      exact ⟨bn (fs J i), hlt i, key i hi⟩
    | succ d ih =>
      intro c m' hd h1 h2
      have hv : lb ((if jj = 8 then n_hi n else n_lo n) g (c / 64)) (c % 64) = fs J c := by
        rw [hfJ]
        simp [tt, show c < 256 by omega]
      have st : ∀ (b : Bool), fs J c = b → V 28 [some (.inr (.inr (.inl 11))), some (.inr (.inr (.inr (.inl (jj, g))))), some (.inl (nI c)), none, none] [] (wd x n l (mRow m' (upd (m_row m') c (b2 b))) q) 0 0 := by
        intro b hb
        refine hV [2] 40 _ _ _ _ _ _ ?_
        conv => whnf
        rw [nI_1]
        refine ih (c + 1) (mRow m' (upd (m_row m') c (b2 b))) (by omega) (rMx_row h1 _) (fun i hi => ?_)
        by_cases e : i = c
        · subst e
          refine pk_us.trans ?_
          rw [hb]
          cases b <;> rfl
        · exact (pk_un e).trans (h2 i (by omega))
      refine hV [28] 40 _ _ _ _ _ _ ?_
      conv => whnf
      refine pk_le 256 c (fun _ => by omega) (fun _ => ?_)
      conv => whnf
      refine ⟨jj, g, c, 120, 4, if jj = 8 then n_hi n else n_lo n, rfl, by omega, hcell m', hg, rfl, ?_⟩
      rw [hv]
      conv => whnf
      cases hb : fs J c with
      | false =>
        refine ⟨fun _ => ?_, fun e => absurd rfl e⟩
        conv => whnf
        refine ⟨pk_in c 256 (by omega), ?_⟩
        conv => whnf
        rw [nx_c (show c < 2 ^ 31 by omega)]
        exact st false hb
      | true =>
        refine ⟨fun e => absurd e (by decide), fun _ => ?_⟩
        conv => whnf
        refine ⟨pk_in c 256 (by omega), ?_⟩
        conv => whnf
        rw [nx_c (show c < 2 ^ 31 by omega)]
        exact st true hb
  refine hV [2] 40 _ _ _ _ _ _ ?_
  conv => whnf
  rw [← nI_0]
  exact first 256 0 m (by omega) (rMx_up hM (by omega)) (fun i hi => by omega)
end
section
/-! The multiplexers: what is asked of them. -/
def sp_M_follow : cx_S := cx_self 1 (fun j r ws R => ∃ x n l m q J fs N ks p c, ws = wd x n l m q ∧ j = 11 ∧ r = [.inl (nI p), .inl (nI c)] ∧ rMx J fs N ks m ∧ 2 ≤ p ∧ p < N ∧ c < 256 ∧
  ∀ p', p' < p → ks p' = sub (ks p) (fd (ks p) + 1) (bn (cb (fd (ks p)) c)) → R (.inl (some (.inl (nI p')))) ws)
theorem pu_M_follow : ∀ as ws Rq, sp_M_follow as ws Rq → cx_cats as ≤ 3 ∧ ∀ V, cx_cl1 t_M_follow [(sp_C_isInputSet, 2, 0, 0)] [] [] 0 0 Rq V → V 0 (cx_lv0 as 3) [] ws 0 0 := by
  intro as ws Rq h0
  obtain ⟨j, r, fs0, rfl, hj, x, n, l, m, q, J, fs, N, ks, p, c, rfl, rfl, rfl, hM, hp2, hp, hc, h⟩ := cx_self_spec h0
  refine ⟨Nat.le_of_ble_eq_true rfl, fun V hV => ?_⟩
  obtain ⟨a1, a2, a3, z, o, a4, a5, a6, a7, a8, a9⟩ := hM.2.2.2.2.2.2.1 p hp2 hp
  have hN := hM.2.1
  have inp : vp_in (nI p) 876 := pk_in p 876 (by omega)
  have hcp : (nI p).toNatClampNeg = p := nx_c (by omega)
  refine hV [] 40 _ _ _ _ _ _ ?_
  conv => whnf
  refine ⟨inp, ?_⟩
  conv => whnf
  rw [hcp]
  refine ⟨fd (ks p), c, ?_, a1, hc, ?_⟩
  · show [Sum.inl (m.1 p), Sum.inl (nI c)] = _
    rw [show m.1 p = nI (fd (ks p)) from a3]
  conv => whnf
  cases hb : cb (fd (ks p)) c with
  | false =>
    rw [hb] at h
    refine ⟨fun _ => ?_, fun e => absurd rfl e⟩
    conv => whnf
    refine ⟨inp, ?_⟩
    conv => whnf
    rw [hcp]
    dsimp only
    rw [show m.2.1 p = nI z from a6]
    exact ⟨fun e => absurd e (by decide), h z a4 a8⟩
  | true =>
    rw [hb] at h
    refine ⟨fun e => absurd e (by decide), fun _ => ?_⟩
    conv => whnf
    refine ⟨inp, ?_⟩
    conv => whnf
    rw [hcp]
    dsimp only
    rw [show m.2.2.1 p = nI o from a7]
    exact ⟨fun e => absurd e (by decide), h o a5 a9⟩
theorem rMx_8 {J : Nat} {fs : Nat → Ky} {N : Nat} {ks : Nat → Ky} {m : wM} (h : rMx J fs N ks m) {p : Nat} (hp : p < N) : fd (ks p) = 8 ↔ p < 2 := by
  constructor
  · intro e
    rcases Nat.lt_or_ge p 2 with q | q
    · exact q
    · have := (h.2.2.2.2.2.2.1 p q hp).1
      omega
  · intro e
    have : p = 0 ∨ p = 1 := by omega
    rcases this with rfl | rfl
    · rw [h.2.2.2.1]; exact fd_kF
    · rw [h.2.2.2.2.1]; exact fd_kT
def sp_M_isOneOn : cx_S := cx_self 1 (fun j r ws R => ∃ x n l m q J fs N ks p c, ws = wd x n l m q ∧ j = 11 ∧ r = [.inl (nI p), .inl (nI c)] ∧ rMx J fs N ks m ∧ p < N ∧ c < 256 ∧ R (.inl (some (.inl (b2 (ks p c))))) ws)
theorem pu_M_isOneOn : ∀ as ws Rq, sp_M_isOneOn as ws Rq → cx_cats as ≤ 5 ∧ ∀ V, cx_cl1 t_M_isOneOn [(sp_M_follow, 3, 0, 0)] [] [] 0 0 Rq V → V 0 (cx_lv0 as 5) [] ws 0 0 := by
  intro as ws Rq h0
  obtain ⟨j, r, fs0, rfl, hj, x, n, l, m, q, J, fs, N, ks, p0, c, rfl, rfl, rfl, hM, hp0, hc, h⟩ := cx_self_spec h0
  refine ⟨Nat.le_of_ble_eq_true rfl, fun V hV => ?_⟩
  have hN := hM.2.1
  have fin : ∀ (p : Nat) (s4 : Option cx_V), p < N → p < 2 → ks p c = ks p0 c → V 30 [some (.inr (.inr (.inl 11))), some (.inl (nI p0)), some (.inl (nI c)), some (.inl (nI p)), s4] [] (wd x n l m q) 0 0 := by
    intro p s4 hp h2 e
    refine hV [] 40 _ _ _ _ _ _ ?_
    rw [← e] at h
    have : p = 0 ∨ p = 1 := by omega
    rcases this with rfl | rfl
    · rw [hM.2.2.2.1] at h
      conv => whnf
      refine ⟨fun _ => ?_, fun e => absurd e (by decide)⟩
      conv => whnf
      exact ⟨fun _ => Or.inl rfl, h⟩
    · rw [hM.2.2.2.2.1, show kT c = true by simp [kT, hc]] at h
      conv => whnf
      refine ⟨fun e => absurd (by decide) e, fun _ => ?_⟩
      conv => whnf
      exact ⟨fun _ => Or.inr rfl, h⟩
  have loop : ∀ (d p t : Nat), t + d = 8 → p < N → t ≤ fd (ks p) → ks p c = ks p0 c → V 5 [some (.inr (.inr (.inl 11))), some (.inl (nI p0)), some (.inl (nI c)), some (.inl (nI p)), some (.inl (nI t))] [] (wd x n l m q) 0 0 := by
    intro d
    induction d with
    | zero =>
      intro p t hd hp ht e
      have h8 : fd (ks p) = 8 := by have := fd_le (ks p); omega
      refine hV [30] 40 _ _ _ _ _ _ ?_
      conv => whnf
      refine pk_le 8 t (fun _ => fin p _ hp ((rMx_8 hM hp).mp h8) e) (fun _ => by omega)
    | succ d ih =>
      intro p t hd hp ht e
      refine hV [30, 5] 40 _ _ _ _ _ _ ?_
      conv => whnf
      refine pk_le 8 t (fun _ => by omega) (fun _ => ?_)
      conv => whnf
      refine pk_lt p 2 (fun q => fin p _ hp q e) (fun hp2 => ?_)
      conv => whnf
      have hf := (hM.2.2.2.2.2.2.1 p hp2 hp).1
      refine ⟨x, n, l, m, q, J, fs, N, ks, p, c, rfl, rfl, rfl, hM, hp2, hp, hc, fun p' h1 h2 => ?_⟩
      conv => whnf
      rw [nI_1]
      refine ih p' (t + 1) (by omega) (by omega) ?_ ?_
      · rw [h2]
        have := fd_sub_ge (f := ks p) (i := bn (cb (fd (ks p)) c)) (show fd (ks p) + 1 ≤ 8 by omega)
        omega
      · rw [h2, ← sub_bit hf (fd_dk _) hc]
        exact e
  refine hV [5] 40 _ _ _ _ _ _ ?_
  conv => whnf
  rw [← nI_0]
  exact loop 8 p0 0 (by omega) hp0 (Nat.zero_le _) rfl
def sp_M_stepsOn : cx_S := cx_self 1 (fun j r ws R => ∃ x n l m q J fs N ks p c, ws = wd x n l m q ∧ j = 11 ∧ r = [.inl (nI p), .inl (nI c)] ∧ rMx J fs N ks m ∧ p < N ∧ c < 256 ∧ R (.inl (some (.inl (nI (wl 8 (ks p) c))))) ws)
theorem pu_M_stepsOn : ∀ as ws Rq, sp_M_stepsOn as ws Rq → cx_cats as ≤ 5 ∧ ∀ V, cx_cl1 t_M_stepsOn [(sp_M_follow, 3, 0, 0)] [] [] 0 0 Rq V → V 0 (cx_lv0 as 5) [] ws 0 0 := by
  intro as ws Rq h0
  obtain ⟨j, r, fs0, rfl, hj, x, n, l, m, q, J, fs, N, ks, p0, c, rfl, rfl, rfl, hM, hp0, hc, h⟩ := cx_self_spec h0
  refine ⟨Nat.le_of_ble_eq_true rfl, fun V hV => ?_⟩
  have hN := hM.2.1
  have fin : ∀ (t : Nat) (s3 : Option cx_V), t = wl 8 (ks p0) c → V 30 [some (.inr (.inr (.inl 11))), some (.inl (nI p0)), some (.inl (nI c)), s3, some (.inl (nI t))] [] (wd x n l m q) 0 0 := by
    intro t s3 e
    refine hV [] 40 _ _ _ _ _ _ ?_
    conv => whnf
    rw [e]
    exact ⟨fun e => absurd e (by decide), h⟩
  have loop : ∀ (d p t : Nat), t + d = 8 → p < N → t ≤ fd (ks p) → t + wl d (ks p) c = wl 8 (ks p0) c → V 5 [some (.inr (.inr (.inl 11))), some (.inl (nI p0)), some (.inl (nI c)), some (.inl (nI p)), some (.inl (nI t))] [] (wd x n l m q) 0 0 := by
    intro d
    induction d with
    | zero =>
      intro p t hd hp ht e
      refine hV [30] 40 _ _ _ _ _ _ ?_
      conv => whnf
      refine pk_le 8 t (fun _ => fin t _ e) (fun _ => by omega)
    | succ d ih =>
      intro p t hd hp ht e
      refine hV [30, 5] 40 _ _ _ _ _ _ ?_
      conv => whnf
      refine pk_le 8 t (fun _ => by omega) (fun _ => ?_)
      conv => whnf
      refine pk_lt p 2 (fun q => fin t _ ?_) (fun hp2 => ?_)
      · have h8 := (rMx_8 hM hp).mpr q
        have e3 : wl (d + 1) (ks p) c = 0 := if_pos h8
        omega
      conv => whnf
      have hf := (hM.2.2.2.2.2.2.1 p hp2 hp).1
      refine ⟨x, n, l, m, q, J, fs, N, ks, p, c, rfl, rfl, rfl, hM, hp2, hp, hc, fun p' h1 h2 => ?_⟩
      conv => whnf
      rw [nI_1]
      refine ih p' (t + 1) (by omega) (by omega) ?_ ?_
      · rw [h2]
        have := fd_sub_ge (f := ks p) (i := bn (cb (fd (ks p)) c)) (show fd (ks p) + 1 ≤ 8 by omega)
        omega
      · rw [h2]
        have h8 : ¬ fd (ks p) = 8 := by omega
        have e3 : wl (d + 1) (ks p) c = 1 + wl d (sub (ks p) (fd (ks p) + 1) (bn (cb (fd (ks p)) c))) c := if_neg h8
        omega
  refine hV [5] 40 _ _ _ _ _ _ ?_
  conv => whnf
  rw [← nI_0]
  exact loop 8 p0 0 (by omega) hp0 (Nat.zero_le _) (Nat.zero_add _)
/-- what is left of f when some first inputs are fixed, but for the constants -/
noncomputable def isub (f g : Ky) : Bool := @decide (fd g < 8 ∧ memK 1 (fun _ => f) g) (Classical.propDecidable _)
theorem isub_iff {f g : Ky} : isub f g = true ↔ fd g < 8 ∧ memK 1 (fun _ => f) g := by
  unfold isub
  exact @decide_eq_true_iff _ (Classical.propDecidable _)
theorem sub_node {J : Nat} {fs : Nat → Ky} {N : Nat} {ks : Nat → Ky} {m : wM} (h : rMx J fs N ks m) {r : Nat} (hr : r < N) : ∀ k, k ≤ 8 → ∀ i, i < 2 ^ k → ∃ p, p ≤ r ∧ ks p = sub (ks r) k i
  | 0, _, i, hi => ⟨r, Nat.le_refl _, by
      have : i = 0 := by rw [Nat.pow_zero] at hi; omega
      subst this
      exact (sub_self (rMx_nf h hr) (dk_0 _)).symm⟩
  | k + 1, hk, i, hi => by
    rw [Nat.pow_succ] at hi
    obtain ⟨p, hp, e⟩ := sub_node h hr k (by omega) (i / 2) (by omega)
    have hb : i % 2 < 2 := Nat.mod_lt _ (by omega)
    have e2 : sub (ks p) (k + 1) (i % 2) = sub (ks r) (k + 1) i := by
      rw [e, sub_b (by omega) hb, Nat.div_add_mod]
    have hge : k ≤ fd (ks p) := by rw [e]; exact fd_sub_ge (by omega)
    by_cases hf : fd (ks p) = k
    · have p2 : 2 ≤ p := by
        rcases Nat.lt_or_ge p 2 with q | q
        · have := (rMx_8 h (show p < N by omega)).mpr q
          omega
        · exact q
      obtain ⟨a1, a2, a3, z, o, a4, a5, a6, a7, a8, a9⟩ := h.2.2.2.2.2.2.1 p p2 (by omega)
      rw [hf] at a8 a9
      rcases Nat.mod_two_eq_zero_or_one i with q | q
      · rw [q] at e2; exact ⟨z, by omega, a8.trans e2⟩
      · rw [q] at e2; exact ⟨o, by omega, a9.trans e2⟩
    · have hd : dk (ks p) (k + 1) := dk_anti (fd_dk _) (by omega) (fd_le _)
      have hlt : i % 2 < 2 ^ (k + 1) := Nat.lt_of_lt_of_le hb (by rw [Nat.pow_succ]; have := pw_pos k; omega)
      rw [dk_sub1 hd hlt hk, sub_self (rMx_nf h (by omega)) hd] at e2
      exact ⟨p, hp, e2⟩
def mRe (m : wM) (re : Nat → Int32) : wM := (m_in m, m_z m, m_o m, m_dp m, m_ft m, m_nt m, re, m_row m, m_pi m, m_n m, m_lg m)
theorem cnP_zero {ks : Nat → Ky} {p : Ky → Bool} (a : Nat) : ∀ d, (∀ i, a ≤ i → i < a + d → p (ks i) = false) → cnP ks p (a + d) = cnP ks p a
  | 0, _ => rfl
  | d + 1, h => by
    show cnP ks p (a + d) + bn (p (ks (a + d))) = _
    rw [h (a + d) (by omega) (by omega), cnP_zero a d (fun i h1 h2 => h i h1 (by omega))]
    rfl
def sp_M_totalBelow : cx_S := cx_self 1 (fun j r ws R => ∃ x n l m q J fs N ks p, ws = wd x n l m q ∧ j = 11 ∧ r = [.inl (nI p)] ∧ rMx J fs N ks m ∧ p < N ∧ ∀ m', rMx J fs N ks m' → R (.inl (some (.inl (nI (cnP ks (isub (ks p)) N))))) (wd x n l m' q))
set_option maxRecDepth 100000 in
set_option maxHeartbeats 4000000 in
theorem pu_M_totalBelow : ∀ as ws Rq, sp_M_totalBelow as ws Rq → cx_cats as ≤ 4 ∧ ∀ V, cx_cl1 t_M_totalBelow [] [] [] 0 0 Rq V → V 0 (cx_lv0 as 4) [] ws 0 0 := by
  intro as ws Rq h0
  obtain ⟨j, r, fs0, rfl, hj, x, n, l, m, q, J, fs, N, ks, r, rfl, rfl, rfl, hM, hr, h⟩ := cx_self_spec h0
  refine ⟨Nat.le_of_ble_eq_true rfl, fun V hV => ?_⟩
  have hN := hM.2.1
  have hMre : ∀ re, rMx J fs N ks (mRe m re) := fun re => hM
  have h7 := hM.2.2.2.2.2.2.1
  have inj := hM.2.2.2.2.2.1
  -- what is marked when all above p have been passed
  have compl : ∀ (re : Nat → Int32) (nd : Nat), re r = 1 → (∀ p, nd < p → p ≤ r → 2 ≤ p → re p = 1 → ∀ z o, m_z m p = nI z → m_o m p = nI o → z < p → o < p → re z = 1 ∧ re o = 1) → ∀ k, k ≤ 8 → ∀ i, i < 2 ^ k → ∀ p, nd ≤ p → p ≤ r → 2 ≤ p → ks p = sub (ks r) k i → re p = 1 := by
    intro re nd hre hcl k
    induction k with
    | zero =>
      intro _ i hi p hp1 hp2 hp3 e
      have : i = 0 := by rw [Nat.pow_zero] at hi; omega
      subst this
      rw [sub_self (rMx_nf hM hr) (dk_0 _)] at e
      rw [inj p (by omega) r hr e]
      exact hre
    | succ k ih =>
      intro hk i hi p hp1 hp2 hp3 e
      rw [Nat.pow_succ] at hi
      obtain ⟨p', hp', e1⟩ := sub_node hM hr k (by omega) (i / 2) (by omega)
      have hb : i % 2 < 2 := Nat.mod_lt _ (by omega)
      have e2 : sub (ks p') (k + 1) (i % 2) = ks p := by
        rw [e, e1, sub_b (by omega) hb, Nat.div_add_mod]
      have hge : k ≤ fd (ks p') := by rw [e1]; exact fd_sub_ge (by omega)
      by_cases hf : fd (ks p') = k
      · have p2 : 2 ≤ p' := by
          rcases Nat.lt_or_ge p' 2 with q | q
          · have := (rMx_8 hM (show p' < N by omega)).mpr q
            omega
          · exact q
        obtain ⟨a1, a2, a3, z, o, a4, a5, a6, a7, a8, a9⟩ := h7 p' p2 (by omega)
        rw [hf] at a8 a9
        rcases Nat.mod_two_eq_zero_or_one i with q | q
        · rw [q] at e2
          have ez : z = p := inj z (by omega) p (by omega) (a8.trans e2)
          subst ez
          exact (hcl p' (by omega) hp' p2 (ih (by omega) _ (by omega) p' (by omega) hp' p2 e1) z o a6 a7 a4 a5).1
        · rw [q] at e2
          have eo : o = p := inj o (by omega) p (by omega) (a9.trans e2)
          subst eo
          exact (hcl p' (by omega) hp' p2 (ih (by omega) _ (by omega) p' (by omega) hp' p2 e1) z o a6 a7 a4 a5).2
      · have hd : dk (ks p') (k + 1) := dk_anti (fd_dk _) (by omega) (fd_le _)
        have hlt : i % 2 < 2 ^ (k + 1) := Nat.lt_of_lt_of_le hb (by rw [Nat.pow_succ]; have := pw_pos k; omega)
        rw [dk_sub1 hd hlt hk, sub_self (rMx_nf hM (by omega)) hd] at e2
        exact ih (by omega) (i / 2) (by omega) p hp1 hp2 hp3 (e2.symm.trans e1)
  have beyond : ∀ p, r < p → p < N → isub (ks r) (ks p) = false := fun p h1 h2 => by
    cases e : isub (ks r) (ks p) with
    | false => rfl
    | true =>
      obtain ⟨e1, j, k, i, -, hk, hi, e2⟩ := isub_iff.mp e
      obtain ⟨p', hp', e3⟩ := sub_node hM hr k hk i hi
      have := inj p' (by omega) p h2 (e3.trans e2.symm)
      omega
  have hcnt : cnP ks (isub (ks r)) N = cnP ks (isub (ks r)) (r + 1) := by
    have := cnP_zero (ks := ks) (p := isub (ks r)) (r + 1) (N - (r + 1)) (fun i h1 h2 => beyond i (by omega) (by omega))
    rw [show r + 1 + (N - (r + 1)) = N by omega] at this
    exact this
  rw [hcnt] at h
  have low2 : ∀ p, p < 2 → isub (ks r) (ks p) = false := fun p hp => by
    cases e : isub (ks r) (ks p) with
    | false => rfl
    | true =>
      have e1 := (isub_iff.mp e).1
      have := (rMx_8 hM (show p < N by have := hM.1; omega)).mpr hp
      omega
  have c2 : ∀ p, p ≤ 2 → cnP ks (isub (ks r)) p = 0 := fun p hp => by
    have := cnP_zero (ks := ks) (p := isub (ks r)) 0 p (fun i h1 h2 => low2 i (by omega))
    rw [Nat.zero_add] at this
    exact this
  have loop : ∀ (d nd s : Nat) (re : Nat → Int32), nd ≤ d → nd ≤ r → s + cnP ks (isub (ks r)) (nd + 1) = cnP ks (isub (ks r)) (r + 1) → re r = 1 → (∀ p, p ≤ r → re p = 0 ∨ re p = 1) → (∀ p, p ≤ r → re p = 1 → memK 1 (fun _ => ks r) (ks p)) →
      (∀ p, nd < p → p ≤ r → 2 ≤ p → re p = 1 → ∀ z o, m_z m p = nI z → m_o m p = nI o → z < p → o < p → re z = 1 ∧ re o = 1) →
      V 31 [some (.inr (.inr (.inl 11))), some (.inl (nI r)), some (.inl (nI s)), some (.inl (nI nd))] [] (wd x n l (mRe m re) q) 0 0 := by
    intro d
    induction d with
    | zero =>
      intro nd s re h1 h2 h3 h4 h5 h6 h8
      refine hV [] 40 _ _ _ _ _ _ ?_
      conv => whnf
      refine pk_lt nd 2 (fun _ => ?_) (fun _ => by omega)
      conv => whnf
      rw [c2 (nd + 1) (by omega), Nat.add_zero] at h3
      rw [h3]
      exact ⟨fun e => absurd e (by decide), h _ (hMre re)⟩
    | succ d ih =>
      intro nd s re h1 h2 h3 h4 h5 h6 h8
      refine hV [31] 60 _ _ _ _ _ _ ?_
      conv => whnf
      refine pk_lt nd 2 (fun _ => ?_) (fun h9 => ?_)
      · conv => whnf
        rw [c2 (nd + 1) (by omega), Nat.add_zero] at h3
        rw [h3]
        exact ⟨fun e => absurd e (by decide), h _ (hMre re)⟩
      have ind : vp_in (nI nd) 876 := pk_in nd 876 (by omega)
      have hcd : (nI nd).toNatClampNeg = nd := nx_c (by omega)
      obtain ⟨a1, a2, a3, z, o, a4, a5, a6, a7, a8, a9⟩ := h7 nd h9 (by omega)
      have hnd : nI nd + (-1) = nI (nd - 1) := by
        have := pk_m1 (nd - 1)
        rw [show nd - 1 + 1 = nd by omega] at this
        exact this
      conv => whnf
      refine ⟨ind, ?_⟩
      conv => whnf
      rw [hcd]
      have step : cnP ks (isub (ks r)) (nd + 1) = cnP ks (isub (ks r)) nd + bn (isub (ks r) (ks nd)) := rfl
      refine ⟨fun e => ?_, fun e => ?_⟩
      · have e' : re nd = 0 := e
        have hno : isub (ks r) (ks nd) = false := by
          cases e2 : isub (ks r) (ks nd) with
          | false => rfl
          | true =>
            obtain ⟨e3, j, k, i, -, hk, hi, e4⟩ := isub_iff.mp e2
            have := compl re nd h4 h8 k hk i hi nd (Nat.le_refl _) h2 h9 e4
            rw [e'] at this
            exact absurd this (by decide)
        conv => whnf
        rw [hnd]
        refine ih (nd - 1) s re (by omega) (by omega) ?_ h4 h5 h6 (fun p p1 p2 p3 p4 => ?_)
        · rw [show nd - 1 + 1 = nd by omega]
          rw [step, hno] at h3
          exact h3
        · by_cases ep : p = nd
          · subst ep
            rw [e'] at p4
            exact absurd p4 (by decide)
          · exact h8 p (by omega) p2 p3 p4
      · have e' : re nd = 1 := (h5 nd h2).elim (fun q => absurd q e) id
        have hyes : isub (ks r) (ks nd) = true := isub_iff.mpr ⟨a1, h6 nd h2 e'⟩
        conv => whnf
        refine ⟨ind, ?_⟩
        conv => whnf
        refine ⟨⟨pk_in z 876 (by omega) (by rw [hcd]; exact a6), Or.inr rfl⟩, ?_⟩
        conv => whnf
        refine ⟨ind, ?_⟩
        conv => whnf
        refine ⟨⟨pk_in o 876 (by omega) (by rw [hcd]; exact a7), Or.inr rfl⟩, ?_⟩
        conv => whnf
        rw [hcd]
        dsimp only
        rw [show (mRe m re).2.1 nd = nI z from a6, show (mRe m re).2.2.1 nd = nI o from a7, nx_c (show z < 2 ^ 31 by omega), nx_c (show o < 2 ^ 31 by omega), hnd, nI_1]
        have hup : ∀ p, re p = 1 → upd (upd re z 1) o 1 p = 1 := fun p hp => by
          by_cases eo : p = o
          · subst eo; exact pk_us
          · rw [pk_un eo]
            by_cases ez : p = z
            · subst ez; exact pk_us
            · rw [pk_un ez]; exact hp
        have hsame : ∀ p, nd ≤ p → upd (upd re z 1) o 1 p = re p := fun p hp => by
          rw [pk_un (by omega), pk_un (by omega)]
        refine ih (nd - 1) (s + 1) (upd (upd re z 1) o 1) (by omega) (by omega) ?_ (hup r h4) (fun p hp => ?_) (fun p hp e1 => ?_) (fun p p1 p2 p3 p4 z' o' f1 f2 f3 f4 => ?_)
        · rw [show nd - 1 + 1 = nd by omega]
          rw [step, hyes] at h3
          simp [bn] at h3
          omega
        · by_cases eo : p = o
          · subst eo; exact Or.inr pk_us
          · rw [pk_un eo]
            by_cases ez : p = z
            · subst ez; exact Or.inr pk_us
            · rw [pk_un ez]; exact h5 p hp
        · by_cases eo : p = o
          · subst eo
            rw [a9]
            exact mem_child (h6 nd h2 e') a1 (by omega)
          · rw [pk_un eo] at e1
            by_cases ez : p = z
            · subst ez
              rw [a8]
              exact mem_child (h6 nd h2 e') a1 (by omega)
            · rw [pk_un ez] at e1; exact h6 p hp e1
        · rw [hsame p (by omega)] at p4
          by_cases ep : p = nd
          · subst ep
            have ez : z' = z := by
              rw [a6, nI_eq (by omega) (by omega)] at f1
              exact f1.symm
            have eo : o' = o := by
              rw [a7, nI_eq (by omega) (by omega)] at f2
              exact f2.symm
            subst ez eo
            refine ⟨?_, pk_us⟩
            by_cases ezo : z' = o'
            · subst ezo; exact pk_us
            · rw [pk_un ezo]; exact pk_us
          · obtain ⟨g1, g2⟩ := h8 p (by omega) p2 p3 p4 z' o' f1 f2 f3 f4
            exact ⟨hup _ g1, hup _ g2⟩
  have first : ∀ (d i : Nat) (re : Nat → Int32), i + d = r + 1 → (∀ p, p < i → re p = 0) → V 2 [some (.inr (.inr (.inl 11))), some (.inl (nI r)), some (.inl (nI i)), none] [] (wd x n l (mRe m re) q) 0 0 := by
    intro d
    induction d with
    | zero =>
      intro i re hd hz
      refine hV [31] 40 _ _ _ _ _ _ ?_
      conv => whnf
      refine pk_lt r i (fun _ => ?_) (fun _ => by omega)
      conv => whnf
      refine ⟨⟨pk_in r 876 (by omega), Or.inr rfl⟩, ?_⟩
      conv => whnf
      rw [nx_c (show r < 2 ^ 31 by omega), ← nI_0]
      refine loop r r 0 (upd re r 1) (Nat.le_refl _) (Nat.le_refl _) (Nat.zero_add _) pk_us (fun p hp => ?_) (fun p hp e => ?_) (fun p p1 p2 => by omega)
      · by_cases e : p = r
        · subst e; exact Or.inr pk_us
        · rw [pk_un e]; exact Or.inl (hz p (by omega))
      · by_cases e2 : p = r
        · subst e2
          exact mem_root (J := 1) (fs := fun _ => ks p) (j := 0) (by omega) (rMx_nf hM hr)
        · rw [pk_un e2, hz p (by omega)] at e
          exact absurd e (by decide)
    | succ d ih =>
      intro i re hd hz
      refine hV [2] 40 _ _ _ _ _ _ ?_
      conv => whnf
      refine pk_lt r i (fun _ => by omega) (fun _ => ?_)
      conv => whnf
      refine ⟨⟨pk_in i 876 (by omega), Or.inl rfl⟩, ?_⟩
      conv => whnf
      rw [nI_1, nx_c (show i < 2 ^ 31 by omega)]
      refine ih (i + 1) (upd re i 0) (by omega) (fun p hp => ?_)
      by_cases e : p = i
      · subst e; exact pk_us
      · rw [pk_un e]; exact hz p (by omega)
  refine hV [2] 40 _ _ _ _ _ _ ?_
  conv => whnf
  rw [← nI_0]
  exact first (r + 1) 0 (m_re m) (by omega) (fun p hp => by omega)
end
section
/-! What is laid out. -/
abbrev l_h (l : wL) := l.1
abbrev l_l (l : wL) := l.2.1
abbrev l_k (l : wL) := l.2.2.1
abbrev l_n (l : wL) := l.2.2.2
/-- the class's layout: lo outputs, their functions fs -/
def rL (lo : Nat) (fs : Nat → Ky) (N : Nat) (ks : Nat → Ky) (l : wL) (m : wM) : Prop := lo ≤ 10 ∧ l_n l = nI lo ∧ rMx (2 * lo) fs N ks m ∧
  (∀ o, o < lo → (∃ a, a < N ∧ l_h l o = nI a ∧ ks a = fs (2 * o)) ∧ ∃ b, b < N ∧ l_l l o = nI b ∧ ks b = fs (2 * o + 1)) ∧
  (∀ o, o < lo → ∀ c, c < 256 → lb (l_k l o (c / 64)) (c % 64) = (fs (2 * o) c || fs (2 * o + 1) c)) ∧
  ∀ j, j < 2 * lo → cmpl (fs j) 0 N ks
def rLay (lo : Nat) (fs : Nat → Ky) (l : wL) (m : wM) : Prop := ∃ N ks, rL lo fs N ks l m
def sp_L_dropAll : cx_S := cx_self 0 (fun j r ws R => ∃ x n l m q, ws = wd x n l m q ∧ j = 10 ∧ r = [] ∧ ∀ l' m', (∀ fs, rLay 0 fs l' m') → R (.inl none) (wd x n l' m' q))
theorem pu_L_dropAll : ∀ as ws Rq, sp_L_dropAll as ws Rq → cx_cats as ≤ 1 ∧ ∀ V, cx_cl1 t_L_dropAll [(sp_M_dropAll, 1, 0, 0)] [] [] 0 0 Rq V → V 0 (cx_lv0 as 1) [] ws 0 0 := by
  intro as ws Rq h0
  obtain ⟨j, r, fs0, rfl, hj, x, n, l, m, q, rfl, rfl, rfl, h⟩ := cx_self_spec h0
  refine ⟨Nat.le_of_ble_eq_true rfl, fun V hV => hV [] 40 _ _ _ _ _ _ ?_⟩
  conv => whnf
  refine ⟨x, n, l, m, q, rfl, rfl, rfl, fun m' hm' => ?_⟩
  conv => whnf
  refine ⟨Or.inl rfl, ?_⟩
  conv => whnf
  exact h (l_h l, l_l l, l_k l, 0) m' (fun fs => ⟨2, ks0, by omega, rfl, hm' fs, fun o ho => by omega, fun o ho => by omega, fun j hj => by omega⟩)
theorem lb_tt {f : Nat → Int64} {c : Nat} (hc : c < 256) : tt f c = lb (f (c / 64)) (c % 64) := by simp [tt, hc]
def sp_L_addOutput : cx_S := cx_self 0 (fun j r ws R => ∃ x n l m q lo fs g, ws = wd x n l m q ∧ j = 10 ∧ r = [.inr (.inr (.inr (.inl (8, g)))), .inr (.inr (.inr (.inl (9, g))))] ∧ g < 120 ∧ rLay lo fs l m ∧ lo < 10 ∧ fs (2 * lo) = tt (n_hi n g) ∧ fs (2 * lo + 1) = tt (n_lo n g) ∧
  ∀ l' m', rLay (lo + 1) fs l' m' → R (.inl none) (wd x n l' m' q))
set_option maxRecDepth 100000 in
set_option maxHeartbeats 4000000 in
theorem pu_L_addOutput : ∀ as ws Rq, sp_L_addOutput as ws Rq → cx_cats as ≤ 4 ∧ ∀ V, cx_cl1 t_L_addOutput [(sp_M_addFunction, 2, 0, 0)] [] [] 0 0 Rq V → V 0 (cx_lv0 as 4) [] ws 0 0 := by
  intro as ws Rq h0
  obtain ⟨j, r, fs0, rfl, hj, x, n, l, m, q, lo, fs, g, rfl, rfl, rfl, hg, ⟨N, ks, h1, h2, h3, h4, h5, h6⟩, hlo, e1, e2, h⟩ := cx_self_spec h0
  refine ⟨Nat.le_of_ble_eq_true rfl, fun V hV => ?_⟩
  have h2' : l.2.2.2 = nI lo := h2
  have inl_ : vp_in l.2.2.2 10 := pk_in lo 10 (by omega) h2'
  have hcl : (nI lo).toNatClampNeg = lo := nx_c (by omega)
  have loop : ∀ (d w : Nat) (l' : wL) (m' : wM), w + d = 4 → l_n l' = nI lo → (∀ u, u < w → l_k l' lo u = n_hi n g u ||| n_lo n g u) → (∀ l2, l_n l2 = nI (lo + 1) → l_h l2 = l_h l' → l_l l2 = l_l l' → (∀ o, o ≠ lo → l_k l2 o = l_k l' o) → (∀ u, u < 4 → l_k l2 lo u = n_hi n g u ||| n_lo n g u) → Rq (.inl none) (wd x n l2 m' q)) →
      V 46 [some (.inr (.inr (.inl 10))), some (.inr (.inr (.inr (.inl (8, g))))), some (.inr (.inr (.inr (.inl (9, g))))), some (.inl (nI w))] [] (wd x n l' m' q) 0 0 := by
    intro d
    induction d with
    | zero =>
      intro w l' m' hd hn hk hK
      have : w = 4 := by omega
      subst this
      refine hV [] 40 _ _ _ _ _ _ ?_
      conv => whnf
      refine ⟨fun _ => ?_, fun e => absurd (by decide) e⟩
      conv => whnf
      refine ⟨Or.inl rfl, ?_⟩
      conv => whnf
      exact hK (l_h l', l_l l', l_k l', l_n l' + 1) (by show l_n l' + 1 = _; rw [hn, nI_1]) rfl rfl (fun o ho => rfl) hk
    | succ d ih =>
      intro w l' m' hd hn hk hK
      have hn' : l'.2.2.2 = nI lo := hn
      have hcw : (nI w).toNatClampNeg = w := nx_c (by omega)
      refine hV [46] 40 _ _ _ _ _ _ ?_
      conv => whnf
      refine pk_le 4 w (fun _ => by omega) (fun _ => ?_)
      conv => whnf
      refine ⟨pk_in lo 10 (by omega) hn', ?_⟩
      conv => whnf
      refine ⟨⟨hg, pk_in w 4 (by omega)⟩, ?_⟩
      conv => whnf
      refine ⟨⟨hg, pk_in w 4 (by omega)⟩, ?_⟩
      conv => whnf
      rw [hn', hcl, hcw]
      refine ⟨⟨by show lo < 10; omega, pk_in w 4 (by omega)⟩, ?_⟩
      conv => whnf
      rw [nI_1]
      refine ih (w + 1) (l_h l', l_l l', va_up (l_k l') lo (vp_updL (l_k l' lo) w (n_hi n g w ||| n_lo n g w)), l_n l') m' (by omega) hn (fun u hu => ?_) (fun l2 a1 a2 a3 a4 a5 => hK l2 a1 a2 a3 (fun o ho => ?_) a5)
      · show va_up (l_k l') lo _ lo u = _
        rw [va_up_self]
        by_cases e : u = w
        · subst e; exact pk_uLs
        · rw [pk_uLn e]; exact hk u (by omega)
      · rw [a4 o ho]
        show va_up (l_k l') lo _ o = _
        rw [va_up_ne _ _ ho]
  refine hV [46] 80 _ _ _ _ _ _ ?_
  conv => whnf
  refine pk_lt lo 10 (fun _ => ?_) (fun _ => by omega) h2'
  conv => whnf
  refine ⟨x, n, l, m, q, 2 * lo, fs, N, ks, 8, g, rfl, rfl, rfl, Or.inl rfl, hg, h3, by omega, by rw [if_pos rfl]; exact e1, fun m1 N1 ks1 r1 a1 a2 a3 a4 a5 a6 => ?_⟩
  conv => whnf
  refine ⟨inl_, ?_⟩
  conv => whnf
  refine ⟨x, n, (upd (l_h l) l.2.2.2.toNatClampNeg (nI r1), l_l l, l_k l, l_n l), m1, q, 2 * lo + 1, fs, N1, ks1, 9, g, rfl, rfl, rfl, Or.inr rfl, hg, a1, by omega, by rw [if_neg (by decide)]; exact e2, fun m2 N2 ks2 r2 b1 b2 b3 b4 b5 b6 => ?_⟩
  conv => whnf
  refine ⟨inl_, ?_⟩
  conv => whnf
  rw [← nI_0]
  refine loop 4 0 (upd (l_h l) l.2.2.2.toNatClampNeg (nI r1), upd (l_l l) l.2.2.2.toNatClampNeg (nI r2), l_k l, l_n l) m2 (by omega) h2 (fun u hu => by omega) (fun l2 c1 c2 c3 c4 c5 => h l2 m2 ⟨N2, ks2, by omega, c1, b1, fun o ho => ?_, fun o ho c hc => ?_, fun j hj k' k1 k2 i hi => ?_⟩)
  · rw [c2, c3]
    show (∃ a, a < N2 ∧ upd (l_h l) l.2.2.2.toNatClampNeg (nI r1) o = nI a ∧ ks2 a = fs (2 * o)) ∧ ∃ b, b < N2 ∧ upd (l_l l) l.2.2.2.toNatClampNeg (nI r2) o = nI b ∧ ks2 b = fs (2 * o + 1)
    rw [h2', hcl]
    by_cases e : o = lo
    · subst e
      exact ⟨⟨r1, by omega, pk_us, (b3 r1 a4).trans a5⟩, ⟨r2, b4, pk_us, b5⟩⟩
    · obtain ⟨⟨a, d1, d2, d3⟩, ⟨b, d4, d5, d6⟩⟩ := h4 o (by omega)
      exact ⟨⟨a, by omega, (pk_un e).trans d2, by rw [b3 a (by omega), a3 a d1]; exact d3⟩, ⟨b, by omega, (pk_un e).trans d5, by rw [b3 b (by omega), a3 b d4]; exact d6⟩⟩
  · by_cases e : o = lo
    · subst e
      rw [c5 (c / 64) (by omega), lb_or, e1, e2, lb_tt hc, lb_tt hc]
    · rw [c4 o e]
      exact h5 o (by omega) c hc
  · have hj' : j < 2 * lo ∨ j = 2 * lo ∨ j = 2 * lo + 1 := by omega
    rcases hj' with q1 | rfl | rfl
    · obtain ⟨p, d1, d2⟩ := h6 j q1 k' k1 k2 i hi
      exact ⟨p, by omega, by rw [b3 p (by omega), a3 p d1]; exact d2⟩
    · obtain ⟨p, d1, d2⟩ := a6 k' k1 k2 i hi
      exact ⟨p, by omega, by rw [b3 p d1]; exact d2⟩
    · exact b6 k' k1 k2 i hi
/-- the value of an output, by its functions -/
def rv (fs : Nat → Ky) (o c : Nat) : Int32 := if fs (2 * o) c then 1 else if fs (2 * o + 1) c then 0 else 2
def sp_L_valueOn : cx_S := cx_self 0 (fun j r ws R => ∃ x n l m q lo fs o c, ws = wd x n l m q ∧ j = 10 ∧ r = [.inl (nI o), .inl (nI c)] ∧ rLay lo fs l m ∧ o < lo ∧ c < 256 ∧ R (.inl (some (.inl (rv fs o c)))) ws)
theorem pu_L_valueOn : ∀ as ws Rq, sp_L_valueOn as ws Rq → cx_cats as ≤ 3 ∧ ∀ V, cx_cl1 t_L_valueOn [(sp_M_isOneOn, 3, 0, 0)] [] [] 0 0 Rq V → V 0 (cx_lv0 as 3) [] ws 0 0 := by
  intro as ws Rq h0
  obtain ⟨j, r, fs0, rfl, hj, x, n, l, m, q, lo, fs, o, c, rfl, rfl, rfl, ⟨N, ks, h1, h2, h3, h4, h5, h6⟩, ho, hc, h⟩ := cx_self_spec h0
  refine ⟨Nat.le_of_ble_eq_true rfl, fun V hV => hV [] 40 _ _ _ _ _ _ ?_⟩
  obtain ⟨⟨a, d1, d2, d3⟩, ⟨b, d4, d5, d6⟩⟩ := h4 o ho
  have hco : (nI o).toNatClampNeg = o := nx_c (by omega)
  conv => whnf
  refine ⟨pk_in o 10 (by omega), ?_⟩
  conv => whnf
  rw [hco]
  refine ⟨x, n, l, m, q, 2 * lo, fs, N, ks, a, c, rfl, rfl, ?_, h3, d1, hc, ?_⟩
  · show [Sum.inl (l.1 o), Sum.inl (nI c)] = _
    rw [show l.1 o = nI a from d2]
  rw [d3]
  conv => whnf
  cases e1 : fs (2 * o) c with
  | true =>
    refine ⟨fun e => absurd e (by decide), fun _ => ?_⟩
    conv => whnf
    simp only [rv, e1, if_true] at h
    exact ⟨fun e => absurd e (by decide), h⟩
  | false =>
    refine ⟨fun _ => ?_, fun e => absurd rfl e⟩
    conv => whnf
    refine ⟨pk_in o 10 (by omega), ?_⟩
    conv => whnf
    rw [hco]
    refine ⟨x, n, l, m, q, 2 * lo, fs, N, ks, b, c, rfl, rfl, ?_, h3, d4, hc, ?_⟩
    · show [Sum.inl (l.2.1 o), Sum.inl (nI c)] = _
      rw [show l.2.1 o = nI b from d5]
    rw [d6]
    conv => whnf
    cases e2 : fs (2 * o + 1) c with
    | true =>
      refine ⟨fun e => absurd e (by decide), fun _ => ?_⟩
      conv => whnf
      simp [rv, e1, e2] at h
      exact ⟨fun e => absurd e (by decide), h⟩
    | false =>
      refine ⟨fun _ => ?_, fun e => absurd rfl e⟩
      conv => whnf
      simp [rv, e1, e2] at h
      exact ⟨fun e => absurd e (by decide), h⟩
def sp_L_stepsOn : cx_S := cx_self 0 (fun j r ws R => ∃ x n l m q lo fs o c, ws = wd x n l m q ∧ j = 10 ∧ r = [.inl (nI o), .inl (nI c)] ∧ rLay lo fs l m ∧ o < lo ∧ c < 256 ∧ R (.inl (some (.inl (nI (wl 8 (fs (2 * o)) c + wl 8 (fs (2 * o + 1)) c))))) ws)
theorem pu_L_stepsOn : ∀ as ws Rq, sp_L_stepsOn as ws Rq → cx_cats as ≤ 3 ∧ ∀ V, cx_cl1 t_L_stepsOn [(sp_M_stepsOn, 3, 0, 0)] [] [] 0 0 Rq V → V 0 (cx_lv0 as 3) [] ws 0 0 := by
  intro as ws Rq h0
  obtain ⟨j, r, fs0, rfl, hj, x, n, l, m, q, lo, fs, o, c, rfl, rfl, rfl, ⟨N, ks, h1, h2, h3, h4, h5, h6⟩, ho, hc, h⟩ := cx_self_spec h0
  refine ⟨Nat.le_of_ble_eq_true rfl, fun V hV => hV [] 40 _ _ _ _ _ _ ?_⟩
  obtain ⟨⟨a, d1, d2, d3⟩, ⟨b, d4, d5, d6⟩⟩ := h4 o ho
  have hco : (nI o).toNatClampNeg = o := nx_c (by omega)
  conv => whnf
  refine ⟨pk_in o 10 (by omega), ?_⟩
  conv => whnf
  rw [hco]
  refine ⟨x, n, l, m, q, 2 * lo, fs, N, ks, a, c, rfl, rfl, ?_, h3, d1, hc, ?_⟩
  · show [Sum.inl (l.1 o), Sum.inl (nI c)] = _
    rw [show l.1 o = nI a from d2]
  rw [d3]
  conv => whnf
  refine ⟨pk_in o 10 (by omega), ?_⟩
  conv => whnf
  rw [hco]
  refine ⟨x, n, l, m, q, 2 * lo, fs, N, ks, b, c, rfl, rfl, ?_, h3, d4, hc, ?_⟩
  · show [Sum.inl (l.2.1 o), Sum.inl (nI c)] = _
    rw [show l.2.1 o = nI b from d5]
  rw [d6]
  conv => whnf
  rw [nI_add]
  exact ⟨fun e => absurd e (by decide), h⟩
/-- how many -/
def ctB (p : Nat → Bool) : Nat → Nat
  | 0 => 0
  | n + 1 => ctB p n + bn (p n)
theorem ctB_congr {p p' : Nat → Bool} : ∀ n, (∀ i, i < n → p i = p' i) → ctB p n = ctB p' n
  | 0, _ => rfl
  | n + 1, h => by
    unfold ctB
    rw [ctB_congr n (fun i hi => h i (by omega)), h n (by omega)]
theorem ctB_add (p : Nat → Bool) (a : Nat) : ∀ b, ctB p (a + b) = ctB p a + ctB (fun i => p (a + i)) b
  | 0 => rfl
  | b + 1 => by
    show ctB p (a + b) + bn (p (a + b)) = ctB p a + (ctB (fun i => p (a + i)) b + bn (p (a + b)))
    rw [ctB_add p a b]
    omega
theorem ctB_le (p : Nat → Bool) : ∀ n, ctB p n ≤ n
  | 0 => Nat.le_refl _
  | n + 1 => by
    unfold ctB
    have := ctB_le p n
    have := bn_lt (p n)
    omega
def sp_J_bitCount : cx_S := fun as ws R => ∃ w, as = [.inr (.inl w)] ∧ R (.inl (some (.inl (nI (ctB (lb w) 64))))) ws
def kno (fs : Nat → Ky) (o c : Nat) : Bool := fs (2 * o) c || fs (2 * o + 1) c
def sp_L_knownChoices : cx_S := cx_self 0 (fun j r ws R => ∃ x n l m q lo fs o, ws = wd x n l m q ∧ j = 10 ∧ r = [.inl (nI o)] ∧ rLay lo fs l m ∧ o < lo ∧ R (.inl (some (.inl (nI (ctB (kno fs o) 256))))) ws)
theorem pu_L_knownChoices : ∀ as ws Rq, sp_L_knownChoices as ws Rq → cx_cats as ≤ 4 ∧ ∀ V, cx_cl1 t_L_knownChoices [(sp_J_bitCount, 1, 0, 0)] [] [] 0 0 Rq V → V 0 (cx_lv0 as 4) [] ws 0 0 := by
  intro as ws Rq h0
  obtain ⟨j, r, fs0, rfl, hj, x, n, l, m, q, lo, fs, o, rfl, rfl, rfl, ⟨N, ks, h1, h2, h3, h4, h5, h6⟩, ho, h⟩ := cx_self_spec h0
  refine ⟨Nat.le_of_ble_eq_true rfl, fun V hV => ?_⟩
  have hco : (nI o).toNatClampNeg = o := nx_c (by omega)
  have loop : ∀ (d w : Nat), w + d = 4 → V 4 [some (.inr (.inr (.inl 10))), some (.inl (nI o)), some (.inl (nI (ctB (kno fs o) (64 * w)))), some (.inl (nI w))] [] (wd x n l m q) 0 0 := by
    intro d
    induction d with
    | zero =>
      intro w hd
      have : w = 4 := by omega
      subst this
      refine hV [] 40 _ _ _ _ _ _ ?_
      conv => whnf
      refine ⟨fun _ => ?_, fun e => absurd (by decide) e⟩
      conv => whnf
      exact ⟨fun e => absurd e (by decide), h⟩
    | succ d ih =>
      intro w hd
      have hcw : (nI w).toNatClampNeg = w := nx_c (by omega)
      refine hV [4] 40 _ _ _ _ _ _ ?_
      conv => whnf
      refine pk_le 4 w (fun _ => by omega) (fun _ => ?_)
      conv => whnf
      refine ⟨pk_in o 10 (by omega), ?_⟩
      conv => whnf
      rw [hco]
      refine ⟨⟨by show o < 10; omega, pk_in w 4 (by omega)⟩, ?_⟩
      conv => whnf
      rw [hcw]
      refine ⟨_, rfl, ?_⟩
      conv => whnf
      dsimp only
      have e : nI (ctB (kno fs o) (64 * w)) + nI (ctB (lb (l.2.2.1 o w)) 64) = nI (ctB (kno fs o) (64 * (w + 1))) := by
        rw [nI_add, show 64 * (w + 1) = 64 * w + 64 by omega, ctB_add]
        congr 2
        refine ctB_congr 64 (fun i hi => ?_)
        have := h5 o ho (64 * w + i) (by omega)
        rw [show (64 * w + i) / 64 = w by omega, show (64 * w + i) % 64 = i by omega] at this
        exact this
      rw [e, nI_1]
      exact ih (w + 1) (by omega)
  refine hV [4] 40 _ _ _ _ _ _ ?_
  conv => whnf
  rw [← nI_0]
  exact loop 4 0 (by omega)
/-- is some output unknown on c -/
def dou (fs : Nat → Ky) (c : Nat) : Nat → Bool
  | 0 => false
  | o + 1 => dou fs c o || !kno fs o c
def fdt (lo : Nat) (fs : Nat → Ky) : Nat → Nat → Int32
  | 0, _ => -1
  | d + 1, c => if dou fs c lo then nI c else fdt lo fs d (c + 1)
theorem dou_iff {fs : Nat → Ky} {c : Nat} : ∀ lo, dou fs c lo = true ↔ ∃ o, o < lo ∧ kno fs o c = false
  | 0 => by simp [dou]
  | lo + 1 => by
    unfold dou
    rw [Bool.or_eq_true, dou_iff lo]
    constructor
    · rintro (⟨o, h1, h2⟩ | h)
      · exact ⟨o, by omega, h2⟩
      · exact ⟨lo, by omega, by simpa using h⟩
    · rintro ⟨o, h1, h2⟩
      by_cases e : o = lo
      · subst e; right; simp [h2]
      · left; exact ⟨o, by omega, h2⟩
def sp_L_firstDoubtFrom : cx_S := cx_self 0 (fun j r ws R => ∃ x n l m q lo fs c, ws = wd x n l m q ∧ j = 10 ∧ r = [.inl (nI c)] ∧ (lo ≤ 10 ∧ l_n l = nI lo ∧ ∀ o, o < lo → ∀ c, c < 256 → lb (l_k l o (c / 64)) (c % 64) = (fs (2 * o) c || fs (2 * o + 1) c)) ∧ c < 256 ∧ R (.inl (some (.inl (fdt lo fs (256 - c) c)))) ws)
theorem pu_L_firstDoubtFrom : ∀ as ws Rq, sp_L_firstDoubtFrom as ws Rq → cx_cats as ≤ 4 ∧ ∀ V, cx_cl1 t_L_firstDoubtFrom [(sp_C_isMember, 2, 0, 0)] [] [] 0 0 Rq V → V 0 (cx_lv0 as 4) [] ws 0 0 := by
  intro as ws Rq h0
  obtain ⟨j, r, fs0, rfl, hj, x, n, l, m, q, lo, fs, c0, rfl, rfl, rfl, ⟨h1, h2, h5⟩, hc0, h⟩ := cx_self_spec h0
  refine ⟨Nat.le_of_ble_eq_true rfl, fun V hV => ?_⟩
  have h2' : l.2.2.2 = nI lo := h2
  have inner : ∀ (d c o : Nat), o + d = lo → c < 256 → (∀ p, p < o → kno fs p c = true) → (dou fs c lo = true → Rq (.inl (some (.inl (nI c)))) (wd x n l m q)) →
      (dou fs c lo = false → ∀ s3, V 40 [some (.inr (.inr (.inl 10))), some (.inl (nI c0)), some (.inl (nI c)), s3] [] (wd x n l m q) 0 0) →
      V 11 [some (.inr (.inr (.inl 10))), some (.inl (nI c0)), some (.inl (nI c)), some (.inl (nI o))] [] (wd x n l m q) 0 0 := by
    intro d
    induction d with
    | zero =>
      intro c o hd hc hp k1 k2
      have hf : dou fs c lo = false := by
        cases e : dou fs c lo with
        | false => rfl
        | true =>
          obtain ⟨p, q1, q2⟩ := (dou_iff lo).mp e
          rw [hp p (by omega)] at q2
          cases q2
      refine hV [40] 40 _ _ _ _ _ _ ?_
      conv => whnf
      refine pk_le lo o (fun _ => k2 hf _) (fun _ => by omega) h2'
    | succ d ih =>
      intro c o hd hc hp k1 k2
      have hco : (nI o).toNatClampNeg = o := nx_c (by omega)
      refine hV [40, 11] 40 _ _ _ _ _ _ ?_
      conv => whnf
      refine pk_le lo o (fun _ => by omega) (fun _ => ?_) h2'
      conv => whnf
      refine ⟨pk_in o 10 (by omega), ?_⟩
      conv => whnf
      rw [hco]
      refine ⟨23, o, c, 10, 4, l_k l, rfl, hc, rfl, by omega, rfl, ?_⟩
      rw [h5 o (by omega) c hc]
      conv => whnf
      cases e : kno fs o c with
      | true =>
        rw [show (fs (2 * o) c || fs (2 * o + 1) c) = true from e]
        refine ⟨fun _ => ?_, fun e => absurd e (by decide)⟩
        conv => whnf
        rw [nI_1]
        refine ih c (o + 1) (by omega) hc (fun p hp2 => ?_) k1 k2
        by_cases ep : p = o
        · subst ep; exact e
        · exact hp p (by omega)
      | false =>
        rw [show (fs (2 * o) c || fs (2 * o + 1) c) = false from e]
        refine ⟨fun e => absurd rfl e, fun _ => ?_⟩
        conv => whnf
        exact ⟨fun e => absurd e (by decide), k1 ((dou_iff lo).mpr ⟨o, by omega, e⟩)⟩
  have outer : ∀ (d c : Nat) (s3 : Option cx_V), c + d = 256 → Rq (.inl (some (.inl (fdt lo fs d c)))) (wd x n l m q) → V 2 [some (.inr (.inr (.inl 10))), some (.inl (nI c0)), some (.inl (nI c)), s3] [] (wd x n l m q) 0 0 := by
    intro d
    induction d with
    | zero =>
      intro c s3 hd hR
      refine hV [] 40 _ _ _ _ _ _ ?_
      conv => whnf
      refine pk_le 256 c (fun _ => ?_) (fun _ => by omega)
      conv => whnf
      exact ⟨fun e => absurd e (by decide), hR⟩
    | succ d ih =>
      intro c s3 hd hR
      refine hV [11] 40 _ _ _ _ _ _ ?_
      conv => whnf
      refine pk_le 256 c (fun _ => by omega) (fun _ => ?_)
      conv => whnf
      rw [← nI_0]
      refine inner lo c 0 (by omega) (by omega) (fun p hp => by omega) (fun e => ?_) (fun e s3 => ?_)
      · have e2 : fdt lo fs (d + 1) c = nI c := if_pos e
        rw [e2] at hR
        exact hR
      · have e2 : fdt lo fs (d + 1) c = fdt lo fs d (c + 1) := if_neg (by rw [e]; decide)
        rw [e2] at hR
        refine hV [2] 40 _ _ _ _ _ _ ?_
        conv => whnf
        rw [nI_1]
        exact ih (c + 1) _ (by omega) hR
  refine hV [2] 40 _ _ _ _ _ _ ?_
  conv => whnf
  exact outer (256 - c0) c0 none (by omega) h
end
section
/-! Long.bitCount. -/
def pm (b : Nat) : Nat → Nat
  | 0 => 0
  | n + 1 => 256 * pm b n + b
theorem pm_s (b n : Nat) : pm b (n + 1) = 256 * pm b n + b := rfl
theorem and_split (p q r s : Nat) (hq : q < 256) (hs : s < 256) : (256 * p + q) &&& (256 * r + s) = 256 * (p &&& r) + (q &&& s) := by
  have h1 : ((256 * p + q) &&& (256 * r + s)) / 2 ^ 8 = p &&& r := by
    rw [Nat.and_div_two_pow, show (256 * p + q) / 2 ^ 8 = p by omega, show (256 * r + s) / 2 ^ 8 = r by omega]
  have h2 : ((256 * p + q) &&& (256 * r + s)) % 2 ^ 8 = q &&& s := by
    rw [Nat.and_mod_two_pow, show (256 * p + q) % 2 ^ 8 = q by omega, show (256 * r + s) % 2 ^ 8 = s by omega]
  omega
def pA (n x : Nat) : Nat := x - (x / 2 &&& pm 85 n)
def pB (n y : Nat) : Nat := (y &&& pm 51 n) + (y / 4 &&& pm 51 n)
def pC (n z : Nat) : Nat := (z + z / 16) &&& pm 15 n
def bA (a : Nat) : Nat := a - (a / 2 &&& 85)
def bB (a : Nat) : Nat := (a &&& 51) + (a / 4 &&& 51)
theorem and85 : ∀ a, a < 256 → ∀ h, h < 2 → (128 * h + a / 2) &&& 85 = a / 2 &&& 85 := by decide +kernel
theorem and51 : ∀ a, a < 256 → ∀ h, h < 4 → (64 * h + a / 4) &&& 51 = a / 4 &&& 51 := by decide +kernel
theorem and15 : ∀ a, a < 256 → ∀ h, h < 5 → a % 16 ≤ 4 → a / 16 ≤ 4 → (16 * h + a + a / 16) &&& 15 = a % 16 + a / 16 := by decide +kernel
theorem bA_lt : ∀ a, a < 256 → bA a < 256 := by decide +kernel
theorem bB_ok : ∀ a, a < 256 → bB (bA a) % 16 ≤ 4 ∧ bB (bA a) / 16 ≤ 4 ∧ bB (bA a) ≤ 68 := by decide +kernel
theorem pop8 : ∀ a, a < 256 → bB (bA a) % 16 + bB (bA a) / 16 = ctB a.testBit 8 := by decide +kernel
theorem pA_s (n x : Nat) : pA (n + 1) x = 256 * pA n (x / 256) + bA (x % 256) := by
  unfold pA bA
  rw [pm_s]
  have hm := Nat.mod_lt x (show 0 < 256 by decide)
  have e : x / 2 &&& (256 * pm 85 n + 85) = 256 * (x / 256 / 2 &&& pm 85 n) + (x % 256 / 2 &&& 85) := by
    have e1 : x / 2 = 256 * (x / 256 / 2) + (128 * (x / 256 % 2) + x % 256 / 2) := by omega
    rw [e1, and_split _ _ _ _ (by omega) (by decide), and85 _ hm _ (by omega)]
  rw [e]
  have h1 : (x / 256 / 2 &&& pm 85 n) ≤ x / 256 / 2 := Nat.and_le_left
  have h2 : (x % 256 / 2 &&& 85) ≤ x % 256 / 2 := Nat.and_le_left
  omega
theorem pB_s (n y : Nat) : pB (n + 1) y = 256 * pB n (y / 256) + bB (y % 256) := by
  unfold pB bB
  rw [pm_s]
  have hm := Nat.mod_lt y (show 0 < 256 by decide)
  have e : y / 4 &&& (256 * pm 51 n + 51) = 256 * (y / 256 / 4 &&& pm 51 n) + (y % 256 / 4 &&& 51) := by
    have e1 : y / 4 = 256 * (y / 256 / 4) + (64 * (y / 256 % 4) + y % 256 / 4) := by omega
    rw [e1, and_split _ _ _ _ (by omega) (by decide), and51 _ hm _ (by omega)]
  have e2 : y &&& (256 * pm 51 n + 51) = 256 * (y / 256 &&& pm 51 n) + (y % 256 &&& 51) := by
    have e1 : y = 256 * (y / 256) + y % 256 := by omega
    exact (congrArg (fun t => t &&& (256 * pm 51 n + 51)) e1).trans (and_split _ _ _ _ hm (by decide))
  rw [e, e2]
  omega
theorem pC_s (n h c : Nat) (hh : h % 16 ≤ 4) (h1 : c % 16 ≤ 4) (h2 : c / 16 ≤ 4) : pC (n + 1) (256 * h + c) = 256 * pC n h + (c % 16 + c / 16) := by
  unfold pC
  rw [pm_s]
  have hc : c < 256 := by omega
  have e1 : 256 * h + c + (256 * h + c) / 16 = 256 * (h + h / 16) + (16 * (h % 16) + c + c / 16) := by omega
  rw [e1, and_split _ _ _ _ (by omega) (by decide), and15 c hc _ (by omega) h1 h2]
def pU : Nat → Nat → Nat
  | 0, _ => 0
  | n + 1, x => 256 * pU n (x / 256) + ctB (x % 256).testBit 8
theorem pZ_s (n x : Nat) : pB (n + 1) (pA (n + 1) x) = 256 * pB n (pA n (x / 256)) + bB (bA (x % 256)) := by
  have := bA_lt (x % 256) (Nat.mod_lt _ (by decide))
  rw [pB_s, pA_s, show (256 * pA n (x / 256) + bA (x % 256)) / 256 = pA n (x / 256) by omega, show (256 * pA n (x / 256) + bA (x % 256)) % 256 = bA (x % 256) by omega]
theorem pZ_ok : ∀ n x, x < 256 ^ n → pB n (pA n x) % 16 ≤ 4 ∧ 3 * pB n (pA n x) < 256 ^ n ∧ pC n (pB n (pA n x)) = pU n x
  | 0, x, h => by
    have : x = 0 := by rw [Nat.pow_zero] at h; omega
    subst this
    decide
  | n + 1, x, h => by
    rw [Nat.pow_succ] at h ⊢
    obtain ⟨h1, h2, h3⟩ := pZ_ok n (x / 256) (by omega)
    have hm := Nat.mod_lt x (show 0 < 256 by decide)
    obtain ⟨b1, b2, b3⟩ := bB_ok _ hm
    rw [pZ_s]
    refine ⟨by omega, by omega, ?_⟩
    rw [pC_s n _ _ h1 b1 b2, h3, pop8 _ hm]
    rfl
theorem pd1 {a b c r s : Nat} (ha : a ≤ 16) (hb : b ≤ 16) (h : c = a + 256 * b + 65536 * (r + s)) : c / 65536 = r + s := by omega
theorem pd2 {a b c d w r : Nat} (ha : a ≤ 32) (hb : b ≤ 32) (hc : c ≤ 32) (hd : d ≤ 32) (h : w = a + 256 * b + 65536 * c + 16777216 * d + 4294967296 * r) : w / 4294967296 = r := by omega
theorem pd3 {t s q : Nat} (hs : s ≤ 64) (h : t = s + 256 * q) (ht : t < 2 ^ 64) : t % 2 ^ 64 % 2 ^ 32 % 128 = s := by omega
theorem pdig {c0 c1 c2 c3 c4 c5 c6 c7 u v w : Nat} (a0 : c0 ≤ 8) (a1 : c1 ≤ 8) (a2 : c2 ≤ 8) (a3 : c3 ≤ 8) (a4 : c4 ≤ 8) (a5 : c5 ≤ 8) (a6 : c6 ≤ 8) (a7 : c7 ≤ 8)
    (hu : u = 256 * (256 * (256 * (256 * (256 * (256 * (256 * (256 * 0 + c7) + c6) + c5) + c4) + c3) + c2) + c1) + c0) (hv : v = (u + u / 256) % 2 ^ 64) (hw : w = (v + v / 65536) % 2 ^ 64) : (w + w / 4294967296) % 2 ^ 64 % 2 ^ 32 % 128 = c0 + c1 + c2 + c3 + c4 + c5 + c6 + c7 := by
  generalize h7 : 256 * 0 + c7 = r7 at hu
  generalize h6 : 256 * r7 + c6 = r6 at hu
  generalize h5 : 256 * r6 + c5 = r5 at hu
  generalize h4 : 256 * r5 + c4 = r4 at hu
  generalize h3 : 256 * r4 + c3 = r3 at hu
  generalize h2 : 256 * r3 + c2 = r2 at hu
  generalize h1 : 256 * r2 + c1 = r1 at hu
  have b7 : r7 ≤ 8 := by omega
  have b6 : r6 ≤ 2056 := by omega
  have b5 : r5 ≤ 526344 := by omega
  have b4 : r4 ≤ 134744072 := by omega
  have b3 : r3 ≤ 34494482440 := by omega
  have b2 : r2 ≤ 8830587504648 := by omega
  have b1 : r1 ≤ 2260630401189896 := by omega
  have b0 : u ≤ 578721382704613384 := by omega
  have e0 : u = c0 + 256 * r1 := by omega
  clear hu
  have d1 : u / 256 = r1 := by
    clear h1 h2 h3 h4 h5 h6 h7 hv hw
    omega
  have ev : v = u + r1 := by
    rw [hv, d1]
    exact Nat.mod_eq_of_lt (by omega)
  clear hv
  have d2 : v / 65536 = r2 + r3 := by
    refine pd1 (a := c0 + c1) (b := c1 + c2) (by omega) (by omega) ?_
    clear h3 h4 h5 h6 h7 d1 hw
    omega
  have ew : w = u + r1 + r2 + r3 := by
    rw [hw, d2, ev, Nat.mod_eq_of_lt (by omega)]
    omega
  clear hw
  have d3 : w / 4294967296 = r4 + r5 + r6 + r7 := by
    refine pd2 (a := c0 + c1 + c2 + c3) (b := c1 + c2 + c3 + c4) (c := c2 + c3 + c4 + c5) (d := c3 + c4 + c5 + c6) (by omega) (by omega) (by omega) (by omega) ?_
    clear d1 d2 ev
    omega
  rw [d3]
  refine pd3 (q := r1 + r2 + r3 + r4 + r5 + r6 + r7 + 0) (by omega) ?_ (by omega)
  clear d1 d2 d3 ev
  omega
theorem popN {x : Nat} (hx : x < 2 ^ 64) : ∃ u, u = pC 8 (pB 8 (pA 8 x)) ∧ pB 8 (pA 8 x) + pB 8 (pA 8 x) / 16 < 2 ^ 64 ∧ (let v := (u + u / 256) % 2 ^ 64; let w := (v + v / 65536) % 2 ^ 64; ((w + w / 4294967296) % 2 ^ 64) % 2 ^ 32 % 128 = ctB x.testBit 64) := by
  obtain ⟨h1, h2, h3⟩ := pZ_ok 8 x (by rw [show 256 ^ 8 = 2 ^ 64 from rfl]; exact hx)
  refine ⟨_, rfl, by rw [show 256 ^ 8 = 2 ^ 64 from rfl] at h2; omega, ?_⟩
  rw [h3]
  have key : ctB x.testBit 64 = ctB (x % 256).testBit 8 + ctB (x / 256 % 256).testBit 8 + ctB (x / 256 / 256 % 256).testBit 8 + ctB (x / 256 / 256 / 256 % 256).testBit 8 + ctB (x / 256 / 256 / 256 / 256 % 256).testBit 8 + ctB (x / 256 / 256 / 256 / 256 / 256 % 256).testBit 8 + ctB (x / 256 / 256 / 256 / 256 / 256 / 256 % 256).testBit 8 + ctB (x / 256 / 256 / 256 / 256 / 256 / 256 / 256 % 256).testBit 8 := by
    have st : ∀ (y n : Nat), ctB y.testBit (8 + n) = ctB (y % 256).testBit 8 + ctB (y / 256).testBit n := by
      intro y n
      rw [ctB_add]
      congr 1
      · exact ctB_congr 8 (fun i hi => by rw [show (256 : Nat) = 2 ^ 8 from rfl, Nat.testBit_mod_two_pow]; simp [hi])
      · exact ctB_congr n (fun i hi => by rw [show (256 : Nat) = 2 ^ 8 from rfl, Nat.testBit_div_two_pow, Nat.add_comm])
    rw [show 64 = 8 + 56 from rfl, st, show 56 = 8 + 48 from rfl, st, show 48 = 8 + 40 from rfl, st, show 40 = 8 + 32 from rfl, st, show 32 = 8 + 24 from rfl, st, show 24 = 8 + 16 from rfl, st, show 16 = 8 + 8 from rfl, st, show ctB (x / 256 / 256 / 256 / 256 / 256 / 256 / 256).testBit 8 = ctB (x / 256 / 256 / 256 / 256 / 256 / 256 / 256 % 256).testBit 8 from ctB_congr 8 (fun i hi => by rw [show (256 : Nat) = 2 ^ 8 from rfl, Nat.testBit_mod_two_pow]; simp [hi])]
    omega
  rw [key]
  simp only [pU]
  have a0 := ctB_le (x % 256).testBit 8
  have a1 := ctB_le (x / 256 % 256).testBit 8
  have a2 := ctB_le (x / 256 / 256 % 256).testBit 8
  have a3 := ctB_le (x / 256 / 256 / 256 % 256).testBit 8
  have a4 := ctB_le (x / 256 / 256 / 256 / 256 % 256).testBit 8
  have a5 := ctB_le (x / 256 / 256 / 256 / 256 / 256 % 256).testBit 8
  have a6 := ctB_le (x / 256 / 256 / 256 / 256 / 256 / 256 % 256).testBit 8
  have a7 := ctB_le (x / 256 / 256 / 256 / 256 / 256 / 256 / 256 % 256).testBit 8
  generalize ctB (x % 256).testBit 8 = c0 at *
  generalize ctB (x / 256 % 256).testBit 8 = c1 at *
  generalize ctB (x / 256 / 256 % 256).testBit 8 = c2 at *
  generalize ctB (x / 256 / 256 / 256 % 256).testBit 8 = c3 at *
  generalize ctB (x / 256 / 256 / 256 / 256 % 256).testBit 8 = c4 at *
  generalize ctB (x / 256 / 256 / 256 / 256 / 256 % 256).testBit 8 = c5 at *
  generalize ctB (x / 256 / 256 / 256 / 256 / 256 / 256 % 256).testBit 8 = c6 at *
  generalize ctB (x / 256 / 256 / 256 / 256 / 256 / 256 / 256 % 256).testBit 8 = c7 at *
  clear h1 h2 h3 key hx
  exact pdig a0 a1 a2 a3 a4 a5 a6 a7 rfl rfl rfl
def uN (x : Int64) : Nat := x.toBitVec.toNat
theorem uN_lt (x : Int64) : uN x < 2 ^ 64 := x.toBitVec.isLt
theorem uN_and (x y : Int64) : uN (x &&& y) = uN x &&& uN y := by
  unfold uN
  rw [Int64.toBitVec_and, BitVec.toNat_and]
theorem uN_add (x y : Int64) : uN (x + y) = (uN x + uN y) % 2 ^ 64 := by
  unfold uN
  rw [Int64.toBitVec_add, BitVec.toNat_add]
theorem uN_sub {x y : Int64} (h : uN y ≤ uN x) : uN (x - y) = uN x - uN y := by
  have hx := uN_lt x
  unfold uN at *
  rw [Int64.toBitVec_sub, BitVec.toNat_sub]
  omega
theorem uN_shr {x : Int64} {k : Nat} (hk : k < 64) : uN (x.toUInt64 >>> ((nI k).toInt64.toUInt64 &&& Int64.toUInt64 63)).toInt64 = uN x / 2 ^ k := by
  rw [wb_cu k hk]
  show (x.toUInt64 >>> UInt64.ofNat k).toNat = _
  rw [UInt64.toNat_shiftRight, UInt64.toNat_ofNat', Nat.mod_eq_of_lt (show k < 2 ^ 64 by omega), Nat.mod_eq_of_lt hk, Nat.shiftRight_eq_div_pow]
  rfl
theorem lb_uN (x : Int64) (i : Nat) : lb x i = (uN x).testBit i := by
  unfold lb uN
  rw [BitVec.testBit_toNat]
theorem pu_J_bitCount : ∀ as ws Rq, sp_J_bitCount as ws Rq → cx_cats as ≤ 2 ∧ ∀ V, cx_cl1 t_J_bitCount [] [] [] 0 0 Rq V → V 0 (cx_lv0 as 2) [] ws 0 0 := by
  rintro as ws Rq ⟨w, rfl, h⟩
  refine ⟨Nat.le_of_ble_eq_true rfl, fun V hV => hV [] 80 _ _ _ _ _ _ ?_⟩
  conv => whnf
  refine ⟨fun e => absurd e (by decide), ?_⟩
  obtain ⟨u, hu, hz, hv⟩ := popN (uN_lt w)
  have s1 : uN (w - ((w.toUInt64 >>> ((nI 1).toInt64.toUInt64 &&& Int64.toUInt64 63)).toInt64 &&& 6148914691236517205)) = pA 8 (uN w) := by
    have e : uN ((w.toUInt64 >>> ((nI 1).toInt64.toUInt64 &&& Int64.toUInt64 63)).toInt64 &&& 6148914691236517205) = uN w / 2 &&& pm 85 8 := by
      rw [uN_and, uN_shr (by decide)]
      rfl
    have hle : uN w / 2 &&& pm 85 8 ≤ uN w := Nat.le_trans Nat.and_le_left (Nat.div_le_self _ _)
    rw [uN_sub (by rw [e]; exact hle), e]
    rfl
  generalize hx1 : w - ((w.toUInt64 >>> ((nI 1).toInt64.toUInt64 &&& Int64.toUInt64 63)).toInt64 &&& 6148914691236517205) = x1 at s1
  have s2 : uN ((x1 &&& 3689348814741910323) + ((x1.toUInt64 >>> ((nI 2).toInt64.toUInt64 &&& Int64.toUInt64 63)).toInt64 &&& 3689348814741910323)) = pB 8 (pA 8 (uN w)) := by
    rw [uN_add, uN_and, uN_and, uN_shr (by decide), s1]
    exact Nat.mod_eq_of_lt (Nat.lt_of_le_of_lt (Nat.le_add_right _ _) hz)
  generalize hx2 : (x1 &&& 3689348814741910323) + ((x1.toUInt64 >>> ((nI 2).toInt64.toUInt64 &&& Int64.toUInt64 63)).toInt64 &&& 3689348814741910323) = x2 at s2
  have s3 : uN ((x2 + (x2.toUInt64 >>> ((nI 4).toInt64.toUInt64 &&& Int64.toUInt64 63)).toInt64) &&& 1085102592571150095) = u := by
    rw [uN_and, uN_add, uN_shr (by decide), s2, hu, Nat.mod_eq_of_lt hz]
    rfl
  generalize hx3 : (x2 + (x2.toUInt64 >>> ((nI 4).toInt64.toUInt64 &&& Int64.toUInt64 63)).toInt64) &&& 1085102592571150095 = x3 at s3
  have s4 : uN (x3 + (x3.toUInt64 >>> ((nI 8).toInt64.toUInt64 &&& Int64.toUInt64 63)).toInt64) = (u + u / 256) % 2 ^ 64 := by
    rw [uN_add, uN_shr (by decide), s3]
  generalize hx4 : x3 + (x3.toUInt64 >>> ((nI 8).toInt64.toUInt64 &&& Int64.toUInt64 63)).toInt64 = x4 at s4
  have s5 : uN (x4 + (x4.toUInt64 >>> ((nI 16).toInt64.toUInt64 &&& Int64.toUInt64 63)).toInt64) = ((u + u / 256) % 2 ^ 64 + (u + u / 256) % 2 ^ 64 / 65536) % 2 ^ 64 := by
    rw [uN_add, uN_shr (by decide), s4]
  generalize hx5 : x4 + (x4.toUInt64 >>> ((nI 16).toInt64.toUInt64 &&& Int64.toUInt64 63)).toInt64 = x5 at s5
  have fin : (x5 + (x5.toUInt64 >>> ((nI 32).toInt64.toUInt64 &&& Int64.toUInt64 63)).toInt64).toInt32 &&& 127 = nI (ctB (lb w) 64) := by
    rw [pk_and _ (m := 127) 7 (by decide)]
    have e : (x5 + (x5.toUInt64 >>> ((nI 32).toInt64.toUInt64 &&& Int64.toUInt64 63)).toInt64).toInt32.toBitVec.toNat = uN (x5 + (x5.toUInt64 >>> ((nI 32).toInt64.toUInt64 &&& Int64.toUInt64 63)).toInt64) % 2 ^ 32 := by
      rw [Int64.toBitVec_toInt32, BitVec.toNat_signExtend, show (2 ^ 32 - 2 ^ 64 : Nat) = 0 from rfl, ite_self, Nat.add_zero, BitVec.toNat_setWidth]
      rfl
    rw [e, uN_add, uN_shr (by decide), s5]
    have e2 : ctB (lb w) 64 = ctB (uN w).testBit 64 := ctB_congr 64 (fun i hi => lb_uN w i)
    rw [e2]
    exact congrArg nI hv
  rw [← fin] at h
  subst hx5 hx4 hx3 hx2 hx1
  exact h
end
section
/-! What the calls answer, and the state that they leave. -/
abbrev aS : Type := aN × Nat × (Nat → Nat) × Nat × (Nat → Ky)
abbrev s_a (A : aS) : aN := A.1
abbrev s_on (A : aS) : Nat := A.2.1
abbrev s_nm (A : aS) : Nat → Nat := A.2.2.1
abbrev s_lo (A : aS) : Nat := A.2.2.2.1
abbrev s_fs (A : aS) : Nat → Ky := A.2.2.2.2
/-- an enumeration of all that is left of the first J functions, the constants aside -/
def enu (J : Nat) (fs : Nat → Ky) (N : Nat) (ks : Nat → Ky) : Prop := (∀ i, i < N → ∀ j, j < N → ks i = ks j → i = j) ∧ (∀ i, i < N → fd (ks i) < 8 → memK J fs (ks i)) ∧ ∀ g, memK J fs g → fd g < 8 → ∃ i, i < N ∧ ks i = g
def pnc (p : Ky → Bool) : Ky → Bool := fun g => p g && decide (fd g < 8)
theorem pnc_iff {p : Ky → Bool} {g : Ky} : pnc p g = true ↔ p g = true ∧ fd g < 8 := by simp [pnc]
theorem enu_le {J : Nat} {fs : Nat → Ky} {N N' : Nat} {ks ks' : Nat → Ky} (h : enu J fs N ks) (h' : enu J fs N' ks') (p : Ky → Bool) : cnP ks (pnc p) N ≤ cnP ks' (pnc p) N' :=
  cnP_le N (pnc p) h.1 (fun i hi hp => h'.2.2 _ (h.2.1 i hi (pnc_iff.mp hp).2) (pnc_iff.mp hp).2)
theorem enu_mx {J : Nat} {fs : Nat → Ky} {N N' : Nat} {ks ks' : Nat → Ky} (h : enu J fs N ks) (h' : enu J fs N' ks') : mxP ks N ≤ mxP ks' N' :=
  mxP_le N (fun i hi => by
    by_cases e : fd (ks i) = 8
    · rw [dp_const e]; exact Nat.zero_le _
    · have h8 : fd (ks i) < 8 := by have := fd_le (ks i); omega
      obtain ⟨i', q1, q2⟩ := h'.2.2 _ (h.2.1 i hi h8) h8
      rw [← q2]
      exact mxP_ge N' i' q1)
noncomputable def kE (J : Nat) (fs : Nat → Ky) : Nat × (Nat → Ky) := @dite _ (∃ q : Nat × (Nat → Ky), enu J fs q.1 q.2) (Classical.propDecidable _) (fun h => Classical.choose h) (fun _ => (0, fun _ => kF))
theorem kE_spec {J : Nat} {fs : Nat → Ky} {N : Nat} {ks : Nat → Ky} (h : enu J fs N ks) : enu J fs (kE J fs).1 (kE J fs).2 := by
  have h2 : ∃ q : Nat × (Nat → Ky), enu J fs q.1 q.2 := ⟨(N, ks), h⟩
  unfold kE
  rw [dif_pos h2]
  exact Classical.choose_spec h2
/-- how many multiplexers of such a kind -/
noncomputable def kN (J : Nat) (fs : Nat → Ky) (p : Ky → Bool) : Nat := cnP (kE J fs).2 (pnc p) (kE J fs).1
noncomputable def kM (J : Nat) (fs : Nat → Ky) : Nat := mxP (kE J fs).2 (kE J fs).1
theorem kN_eq {J : Nat} {fs : Nat → Ky} {N : Nat} {ks : Nat → Ky} (h : enu J fs N ks) (p : Ky → Bool) : cnP ks (pnc p) N = kN J fs p := Nat.le_antisymm (enu_le h (kE_spec h) p) (enu_le (kE_spec h) h p)
theorem kM_eq {J : Nat} {fs : Nat → Ky} {N : Nat} {ks : Nat → Ky} (h : enu J fs N ks) : mxP ks N = kM J fs := Nat.le_antisymm (enu_mx h (kE_spec h)) (enu_mx (kE_spec h) h)
theorem rL_enu {lo : Nat} {fs : Nat → Ky} {N : Nat} {ks : Nat → Ky} {l : wL} {m : wM} (h : rL lo fs N ks l m) : enu (2 * lo) fs N ks := by
  obtain ⟨h1, h2, h3, h4, h5, h6⟩ := h
  refine ⟨h3.2.2.2.2.2.1, fun i hi h8 => ?_, fun g hg h8 => ?_⟩
  · rcases rMx_const h3 hi with q | q
    · exact q
    · omega
  · obtain ⟨j, k, i, q1, q2, q3, q4⟩ := hg
    obtain ⟨p, p1, p2⟩ := h6 j q1 k (Nat.zero_le _) q2 i q3
    exact ⟨p, p1, p2.trans q4.symm⟩
theorem cnP_all {ks : Nat → Ky} {p : Ky → Bool} (a : Nat) : ∀ d, (∀ i, a ≤ i → i < a + d → p (ks i) = true) → cnP ks p (a + d) = cnP ks p a + d
  | 0, _ => rfl
  | d + 1, h => by
    show cnP ks p (a + d) + bn (p (ks (a + d))) = _
    rw [h (a + d) (by omega) (by omega), cnP_all a d (fun i h1 h2 => h i h1 (by omega))]
    show cnP ks p a + d + 1 = _
    omega
theorem rMx_total {J : Nat} {fs : Nat → Ky} {N : Nat} {ks : Nat → Ky} {m : wM} (h : rMx J fs N ks m) : cnP ks (pnc (fun _ => true)) N = N - 2 := by
  have h2 := h.1
  have e := cnP_all (ks := ks) (p := pnc (fun _ => true)) 2 (N - 2) (fun i h1 h2 => pnc_iff.mpr ⟨rfl, (h.2.2.2.2.2.2.1 i h1 (by omega)).1⟩)
  rw [show 2 + (N - 2) = N by omega] at e
  rw [e]
  have e2 := cnP_zero (ks := ks) (p := pnc (fun _ => true)) 0 2 (fun i _ hi => by
    cases q : pnc (fun _ => true) (ks i) with
    | false => rfl
    | true =>
      have q1 := (pnc_iff.mp q).2
      have q2 := (rMx_8 h (show i < N by omega)).mpr (by omega)
      omega)
  rw [show (0 + 2 : Nat) = 2 from rfl] at e2
  rw [e2]
  show 0 + (N - 2) = _
  omega
theorem pnc_fd {ks : Nat → Ky} {k N : Nat} (hk : k < 8) : cnP ks (fun g => fd g == k) N = cnP ks (pnc (fun g => fd g == k)) N := cnP_congr N (fun i hi => by
  unfold pnc
  by_cases e : fd (ks i) = k
  · simp [e, hk]
  · simp [e])
/-- a layout as it is made: nothing is laid out -/
def frL (lo : Nat) (l : wL) (m : wM) : Prop := lo = 0 ∧ l_n l = nI 0 ∧ m_n m = nI 2 ∧ (∀ k, k < 8 → m_pi m k = nI 0) ∧ m_lg m = nI 0
def rLy (lo : Nat) (fs : Nat → Ky) (l : wL) (m : wM) : Prop := rLay lo fs l m ∨ frL lo l m
theorem enu_0 (fs : Nat → Ky) : enu (2 * 0) fs 0 (fun _ => kF) := ⟨fun i hi => absurd hi (Nat.not_lt_zero _), fun i hi => absurd hi (Nat.not_lt_zero _), fun g hg _ => by
  obtain ⟨j, k, i, q1, -⟩ := hg
  omega⟩
theorem rLy_10 {lo : Nat} {fs : Nat → Ky} {l : wL} {m : wM} (h : rLy lo fs l m) : lo ≤ 10 := by
  rcases h with ⟨N, ks, h⟩ | ⟨rfl, h⟩
  · exact h.1
  · exact Nat.zero_le _
theorem rLy_n {lo : Nat} {fs : Nat → Ky} {l : wL} {m : wM} (h : rLy lo fs l m) : l_n l = nI lo := by
  rcases h with ⟨N, ks, h⟩ | ⟨rfl, h⟩
  · exact h.2.1
  · exact h.1
theorem rLy_in {lo o : Nat} {fs : Nat → Ky} {l : wL} {m : wM} (h : rLy lo fs l m) (ho : o < lo) : rLay lo fs l m := by
  rcases h with h | ⟨rfl, h⟩
  · exact h
  · exact absurd ho (Nat.not_lt_zero _)
theorem rLy_kn {lo : Nat} {fs : Nat → Ky} {l : wL} {m : wM} (h : rLy lo fs l m) : ∀ o, o < lo → ∀ c, c < 256 → lb (l_k l o (c / 64)) (c % 64) = (fs (2 * o) c || fs (2 * o + 1) c) := fun o ho => by
  obtain ⟨N, ks, q⟩ := rLy_in h ho
  exact q.2.2.2.2.1 o ho
theorem rLy_pi {lo k : Nat} {fs : Nat → Ky} {l : wL} {m : wM} (h : rLy lo fs l m) (hk : k < 8) : m_pi m k = nI (kN (2 * lo) fs (fun g => fd g == k)) := by
  rcases h with ⟨N, ks, c5⟩ | ⟨rfl, -, -, h, -⟩
  · rw [show m_pi m k = nI (cnP ks (fun g => fd g == k) N) from c5.2.2.1.2.2.2.2.2.2.2.2.2.1 k hk, pnc_fd hk, kN_eq (rL_enu c5)]
  · rw [h k hk, ← kN_eq (enu_0 fs)]
    rfl
theorem rLy_t {lo : Nat} {fs : Nat → Ky} {l : wL} {m : wM} (h : rLy lo fs l m) : m_n m - 2 = nI (kN (2 * lo) fs (fun _ => true)) := by
  rcases h with ⟨N, ks, c5⟩ | ⟨rfl, -, h, -⟩
  · have hM := c5.2.2.1
    rw [show m_n m = nI N from hM.2.2.1, show (2 : Int32) = nI 2 from rfl, pk_sub hM.1, ← kN_eq (rL_enu c5), rMx_total hM]
  · rw [h, ← kN_eq (enu_0 fs)]
    rfl
theorem rLy_lg {lo : Nat} {fs : Nat → Ky} {l : wL} {m : wM} (h : rLy lo fs l m) : m_lg m = nI (kM (2 * lo) fs) := by
  rcases h with ⟨N, ks, c5⟩ | ⟨rfl, -, -, -, h⟩
  · rw [show m_lg m = nI (mxP ks N) from c5.2.2.1.2.2.2.2.2.2.2.2.2.2, kM_eq (rL_enu c5)]
  · rw [h, ← kM_eq (enu_0 fs)]
    rfl
/-- the class's state -/
def rC (A : aS) (x : wX) (n : wN) (l : wL) (m : wM) : Prop := rN (s_a A) n ∧ s_on A ≤ 10 ∧ x.1 = nI (s_on A) ∧ (∀ i, i < s_on A → s_nm A i < a_g (s_a A) ∧ x.2 i = nI (s_nm A i)) ∧ rLy (s_lo A) (s_fs A) l m
/-- a call's outcome: what is thrown (0 nothing), the answer, the state behind it -/
abbrev rs : Type := Nat × Int32 × aS
def hiK (a : aN) (g : Nat) : Ky := fun c => decide (c < 256) && eH (val a c g)
def loK (a : aN) (g : Nat) : Ky := fun c => decide (c < 256) && eL (val a c g)
def fsN (a : aN) (nm : Nat → Nat) : Nat → Ky := fun t => if t % 2 = 0 then hiK a (nm (t / 2)) else loK a (nm (t / 2))
theorem nf_fsN (a : aN) (nm : Nat → Nat) (t : Nat) : nf (fsN a nm t) := fun c hc => by
  unfold fsN
  split <;> simp [hiK, loK, show ¬ c < 256 by omega]
def gateS (A : aS) (p : Int32) : rs := if p = 0 ∨ p = 2 ∨ p = 3 then (if a_g (s_a A) = 120 ∨ (p = 0 ∧ a_i (s_a A) = 8) then (0, -1, A) else (0, nI (a_g (s_a A)), (gatA (s_a A) p.toNatClampNeg, A.2))) else (1, 0, A)
def feedS (A : aS) (t f : Int32) (b : Bool) : rs := if hg t (nI (a_g (s_a A))) && hg f (nI (a_g (s_a A))) then (if a_so (s_a A) t.toNatClampNeg = 0 then (2, 0, A) else if a_f (s_a A) = 500 then (0, -1, A) else (0, nI (cnt (a_to (fedA (s_a A) t.toNatClampNeg f.toNatClampNeg b)) (a_f (s_a A) + 1) t.toNatClampNeg), (fedA (s_a A) t.toNatClampNeg f.toNatClampNeg b, A.2))) else (1, 0, A)
def outS (A : aS) (g : Int32) : rs := if hg g (nI (a_g (s_a A))) then (if s_on A = 10 then (0, -1, A) else (0, nI (s_on A), (s_a A, s_on A + 1, (fun i => if i = s_on A then g.toNatClampNeg else s_nm A i), s_lo A, s_fs A))) else (1, 0, A)
def clrS (A : aS) : rs := (0, nI (a_g (s_a A)), (zerA, 0, s_nm A, 0, s_fs A))
noncomputable def layS (A : aS) : rs := (0, nI (kN (2 * s_on A) (fsN (s_a A) (s_nm A)) (fun _ => true)), (s_a A, s_on A, s_nm A, s_on A, fsN (s_a A) (s_nm A)))
def runS (A : aS) (o c : Int32) : rs := if hg o (nI (s_lo A)) && hg c 256 then (0, rv (s_fs A) o.toNatClampNeg c.toNatClampNeg, A) else (1, 0, A)
def wayS (A : aS) (o c : Int32) : rs := if hg o (nI (s_lo A)) && hg c 256 then (0, nI (wl 8 (s_fs A (2 * o.toNatClampNeg)) c.toNatClampNeg + wl 8 (s_fs A (2 * o.toNatClampNeg + 1)) c.toNatClampNeg), A) else (1, 0, A)
noncomputable def atS (A : aS) (k : Int32) : rs := (0, if hg k 8 then nI (kN (2 * s_lo A) (s_fs A) (fun g => fd g == k.toNatClampNeg)) else 0, A)
noncomputable def sizS (A : aS) (o : Int32) (b : Bool) : rs := if hg o (nI (s_lo A)) then (0, nI (kN (2 * s_lo A) (s_fs A) (isub (s_fs A (2 * o.toNatClampNeg + bn (!b))))), A) else (1, 0, A)
def knoS (A : aS) (o : Int32) : rs := if hg o (nI (s_lo A)) then (0, nI (ctB (kno (s_fs A) o.toNatClampNeg) 256), A) else (1, 0, A)
def douS (A : aS) (c : Int32) : rs := if hg c 256 then (0, fdt (s_lo A) (s_fs A) (256 - c.toNatClampNeg) c.toNatClampNeg, A) else (1, 0, A)
def valS (A : aS) (g c : Int32) : rs := if hg g (nI (a_g (s_a A))) && hg c 256 then (0, vI (val (s_a A) c.toNatClampNeg g.toNatClampNeg), A) else (1, 0, A)
noncomputable def cntS (A : aS) (w : Int32) : rs := (0, if w = 0 then nI (a_g (s_a A)) else if w = 1 then nI (a_f (s_a A)) else if w = 2 then nI (a_i (s_a A)) else if w = 3 then nI (s_on A) else if w = 4 then nI (s_lo A) else if w = 5 then nI (kN (2 * s_lo A) (s_fs A) (fun _ => true)) else if w = 6 then nI (kM (2 * s_lo A) (s_fs A)) else -1, A)
theorem hg_of {x : Int32} {n : Nat} (hn : n < 2 ^ 31) (h : hg x (nI n) = true) : ∃ j, j < n ∧ x = nI j := by
  unfold hg at h
  rw [Bool.and_eq_true, decide_eq_true_eq, decide_eq_true_eq] at h
  rcases pk_ix x hn with q | q | q
  · exact absurd q h.1
  · exact absurd q h.2
  · exact q
theorem hg_in {j n : Nat} (h : j < n) (hn : n < 2 ^ 31) : hg (nI j) (nI n) = true := by
  unfold hg
  rw [Bool.and_eq_true, decide_eq_true_eq, decide_eq_true_eq]
  exact ⟨nI_pos (by omega), nI_ge h hn⟩
/-- the class answers so -/
def ans (E : Nat → String) (o : rs) (q : List cx_C) (ws : List cx_C) (R : cx_R) : Prop := (o.1 = 0 → ∀ x n l m, rC o.2.2 x n l m → R (.inl (some (.inl o.2.1))) (wd x n l m q)) ∧ (o.1 ≠ 0 → R (.inr (E o.1)) ws)
theorem ans_ret {E : Nat → String} {o : rs} {q ws : List cx_C} {R : cx_R} {v : Int32} {A : aS} (h : ans E o q ws R) (e : o = (0, v, A)) {x : wX} {n : wN} {l : wL} {m : wM} (hC : rC A x n l m) : R (.inl (some (.inl v))) (wd x n l m q) := by
  subst e
  exact h.1 rfl x n l m hC
theorem ans_thr {E : Nat → String} {o : rs} {q ws : List cx_C} {R : cx_R} {k : Nat} {v : Int32} {A : aS} (h : ans E o q ws R) (e : o = (k + 1, v, A)) : R (.inr (E (k + 1))) ws := by
  subst e
  exact h.2 (Nat.succ_ne_zero _)
def eI : Nat → String := fun _ => "java/lang/IndexOutOfBoundsException"
def eA : Nat → String := fun _ => "java/lang/IllegalArgumentException"
def eF : Nat → String := fun k => if k = 1 then "java/lang/IndexOutOfBoundsException" else "java/lang/IllegalStateException"
/-- two ways of walking: first nothing may be written, then it may -/
def cx_cl2 (T2 T1 : List (Nat × cx_E)) (Sp2 Sp1 : List (cx_S × Nat × Nat × Nat)) (Ex : List String) (Sw : List (Nat × List Nat)) (mc ms : Nat) (Rq : cx_R) (V2 V1 : cx_K) : Prop :=
  cx_cl1 T2 Sp2 Ex Sw mc ms Rq V2 ∧ cx_cl1 T1 Sp1 [] Sw mc ms Rq V1 ∧ ∀ pc lv st ws k i, V1 pc lv st ws k i → V2 pc lv st ws k i
end
section
/-! The class's own methods. -/
def sp_C_requireChoice : cx_S := fun as ws R => ∃ c, as = [.inl c] ∧ (hg c 256 = true → R (.inl none) ws) ∧ (hg c 256 = false → R (.inr "java/lang/IndexOutOfBoundsException") ws)
theorem pu_C_requireChoice : ∀ as ws Rq, sp_C_requireChoice as ws Rq → cx_cats as ≤ 1 ∧ ∀ V, cx_cl1 t_C_requireChoice [] x_C_requireChoice [] 1 6 Rq V → V 0 (cx_lv0 as 1) [] ws 0 0 := by
  rintro as ws Rq ⟨c, rfl, h1, h2⟩
  refine ⟨Nat.le_of_ble_eq_true rfl, fun V hV => hV [] 40 _ _ _ _ _ _ ?_⟩
  conv => whnf
  refine ⟨fun e => ?_, fun e => ?_⟩
  · conv => whnf
    exact h2 (by simp [hg, e])
  · conv => whnf
    refine ⟨fun e2 => ?_, fun e2 => ?_⟩
    · conv => whnf
      exact h1 (by simp [hg, e, Int32.not_le.mpr e2])
    · conv => whnf
      exact h2 (by simp [hg, e, Int32.not_lt.mp e2])
def sp_C_requireLaidOut : cx_S := cx_self 3 (fun j r ws R => ∃ x n l m q o, ws = wd x n l m q ∧ j = 0 ∧ r = [.inl o] ∧ (hg o (l_n l) = true → R (.inl none) ws) ∧ (hg o (l_n l) = false → R (.inr "java/lang/IndexOutOfBoundsException") ws))
theorem pu_C_requireLaidOut : ∀ as ws Rq, sp_C_requireLaidOut as ws Rq → cx_cats as ≤ 2 ∧ ∀ V, cx_cl1 t_C_requireLaidOut [] x_C_requireLaidOut [] 1 6 Rq V → V 0 (cx_lv0 as 2) [] ws 0 0 := by
  intro as ws Rq h0
  obtain ⟨j, r, fs0, rfl, hj, x, n, l, m, q, c, rfl, rfl, rfl, h1, h2⟩ := cx_self_spec h0
  refine ⟨Nat.le_of_ble_eq_true rfl, fun V hV => hV [] 40 _ _ _ _ _ _ ?_⟩
  conv => whnf
  refine ⟨fun e => ?_, fun e => ?_⟩
  · conv => whnf
    exact h2 (by simp [hg, e])
  · conv => whnf
    refine ⟨fun e2 => ?_, fun e2 => ?_⟩
    · conv => whnf
      exact h1 (by simp [hg, e, Int32.not_le.mpr e2])
    · conv => whnf
      exact h2 (by simp [hg, e, Int32.not_lt.mp e2])
def sp_C_gate : cx_S := cx_self 3 (fun j r ws R => ∃ x n l m q A p, ws = wd x n l m q ∧ j = 0 ∧ r = [.inl p] ∧ rC A x n l m ∧ ans eA (gateS A p) q ws R)
theorem pu_C_gate : ∀ as ws Rq, sp_C_gate as ws Rq → cx_cats as ≤ 2 ∧ ∀ V2 V1, cx_cl2 (t_C_gate.take 9) (t_C_gate.drop 9) [(sp_N_addGate, 2, 0, 0)] [(sp_N_addGate, 2, 0, 0)] x_C_gate [] 1 6 Rq V2 V1 → V2 0 (cx_lv0 as 2) [] ws 0 0 := by
  intro as ws Rq h0
  obtain ⟨j, r, fs0, rfl, hj, x, n, l, m, q, A, p, rfl, rfl, rfl, hC, h⟩ := cx_self_spec h0
  refine ⟨Nat.le_of_ble_eq_true rfl, fun V2 V1 hV => ?_⟩
  obtain ⟨hV2, hV1, hL⟩ := hV
  obtain ⟨c1, c2, c3, c4, c5⟩ := hC
  have cont : (p = 0 ∨ p = 2 ∨ p = 3) → V2 24 [some (.inr (.inr (.inl 0))), some (.inl p)] [] (wd x n l m q) 0 0 := by
    intro hp
    have hs : ∃ s, (s = 0 ∨ s = 2 ∨ s = 3) ∧ p = nI s := by
      rcases hp with rfl | rfl | rfl
      · exact ⟨0, Or.inl rfl, rfl⟩
      · exact ⟨2, Or.inr (Or.inl rfl), rfl⟩
      · exact ⟨3, Or.inr (Or.inr rfl), rfl⟩
    obtain ⟨s, hs, rfl⟩ := hs
    have e0 : nI s = 0 ↔ s = 0 := by rw [show (0 : Int32) = nI 0 from rfl, nI_eq (by omega) (by omega)]
    have ec : (nI s).toNatClampNeg = s := nx_c (by omega)
    refine hL _ _ _ _ _ _ (hV1 [] 40 _ _ _ _ _ _ ?_)
    conv => whnf
    refine ⟨x, n, l, m, q, s_a A, s, rfl, rfl, rfl, c1, hs, fun hf => ?_, fun hf n' hn' => ?_⟩
    · conv => whnf
      refine ⟨fun e => absurd e (by decide), ans_ret h (A := A) ?_ ⟨c1, c2, c3, c4, c5⟩⟩
      unfold gateS
      rw [if_pos hp, if_pos (by rw [e0]; exact hf)]
    · conv => whnf
      refine ⟨fun e => absurd e (by decide), ans_ret h (A := (gatA (s_a A) s, A.2)) ?_ ⟨hn', c2, c3, fun i hi => ⟨Nat.lt_succ_of_lt (c4 i hi).1, (c4 i hi).2⟩, c5⟩⟩
      unfold gateS
      rw [if_pos hp, if_neg (by rw [e0]; exact hf), ec]
  refine hV2 [24] 40 _ _ _ _ _ _ ?_
  conv => whnf
  refine ⟨fun e => cont (Or.inl e), fun e1 => ?_⟩
  conv => whnf
  refine ⟨fun e => cont (Or.inr (Or.inl e)), fun e2 => ?_⟩
  conv => whnf
  refine ⟨fun e => cont (Or.inr (Or.inr e)), fun e3 => ?_⟩
  conv => whnf
  have e : gateS A p = (0 + 1, 0, A) := by
    unfold gateS
    rw [if_neg (fun q => q.elim e1 (fun q => q.elim e2 e3))]
  exact ans_thr h e
def sp_C_feed : cx_S := cx_self 3 (fun j r ws R => ∃ x n l m q A t f b, ws = wd x n l m q ∧ j = 0 ∧ r = [.inl t, .inl f, .inl (b2 b)] ∧ rC A x n l m ∧ ans eF (feedS A t f b) q ws R)
theorem pu_C_feed : ∀ as ws Rq, sp_C_feed as ws Rq → cx_cats as ≤ 4 ∧ ∀ V2 V1, cx_cl2 (t_C_feed.take 17) (t_C_feed.drop 17) [(sp_N_hasGate, 2, 0, 0), (sp_N_isInput, 2, 0, 0), (sp_N_addFeed, 4, 0, 0)] [(sp_N_hasGate, 2, 0, 0), (sp_N_isInput, 2, 0, 0), (sp_N_addFeed, 4, 0, 0)] x_C_feed [] 1 6 Rq V2 V1 → V2 0 (cx_lv0 as 4) [] ws 0 0 := by
  intro as ws Rq h0
  obtain ⟨j, r, fs0, rfl, hj, x, n, l, m, q, A, t, f, b, rfl, rfl, rfl, hC, h⟩ := cx_self_spec h0
  refine ⟨Nat.le_of_ble_eq_true rfl, fun V2 V1 hV => ?_⟩
  obtain ⟨hV2, hV1, hL⟩ := hV
  obtain ⟨c1, c2, c3, c4, c5⟩ := hC
  have hgg : n.2.2.2.2.2.2.2.2.1 = nI (a_g (s_a A)) := c1.1.2.1
  have g120 := c1.1.1.1
  refine hV2 [53] 40 _ _ _ _ _ _ ?_
  conv => whnf
  refine ⟨x, n, l, m, q, t, rfl, rfl, rfl, ?_⟩
  rw [hgg]
  conv => whnf
  refine ⟨fun e => ?_, fun e => ?_⟩
  · conv => whnf
    have e2 : feedS A t f b = (0 + 1, 0, A) := by
      unfold feedS
      rw [if_neg (by rw [b2_eq0.mp e]; simp)]
    exact ans_thr h e2
  have ht := b2_ne0.mp e
  conv => whnf
  refine ⟨x, n, l, m, q, f, rfl, rfl, rfl, ?_⟩
  rw [hgg]
  conv => whnf
  refine ⟨fun e => ?_, fun e => ?_⟩
  rotate_left
  · conv => whnf
    have e2 : feedS A t f b = (0 + 1, 0, A) := by
      unfold feedS
      rw [if_neg (by rw [b2_eq0.mp e]; simp)]
    exact ans_thr h e2
  have hf := b2_ne0.mp e
  obtain ⟨t, ht1, rfl⟩ := hg_of (by omega) ht
  obtain ⟨f, hf1, rfl⟩ := hg_of (by omega) hf
  have hct : (nI t).toNatClampNeg = t := nx_c (by omega)
  have hcf : (nI f).toNatClampNeg = f := nx_c (by omega)
  have hso : n.1 t = nI (a_so (s_a A) t) := (c1.1.2.2.2.2.1 t ht1).1
  have s3 := (c1.1.1.2.2.2.1 t ht1).1
  have e0 : n.1 t = 0 ↔ a_so (s_a A) t = 0 := by rw [hso, show (0 : Int32) = nI 0 from rfl, nI_eq (by omega) (by omega)]
  conv => whnf
  refine ⟨x, n, l, m, q, nI t, rfl, rfl, rfl, pk_in t 120 (by omega), fun e => ?_, fun e => ?_⟩
  · rw [hct] at e
    conv => whnf
    refine ⟨fun e => absurd e (by decide), fun _ => ?_⟩
    conv => whnf
    have e2 : feedS A (nI t) (nI f) b = (1 + 1, 0, A) := by
      unfold feedS
      rw [ht, hf, hct, if_pos (show (true && true) = true from rfl), if_pos (e0.mp e)]
    exact ans_thr h e2
  · rw [hct] at e
    have hs0 : a_so (s_a A) t ≠ 0 := fun q => e (e0.mpr q)
    conv => whnf
    refine ⟨fun _ => ?_, fun e => absurd rfl e⟩
    refine hL _ _ _ _ _ _ (hV1 [] 40 _ _ _ _ _ _ ?_)
    conv => whnf
    refine ⟨x, n, l, m, q, s_a A, t, f, b, rfl, rfl, rfl, c1, ht1, hf1, hs0, fun h5 => ?_, fun h5 n' hn' => ?_⟩
    · conv => whnf
      refine ⟨fun e => absurd e (by decide), ans_ret h (A := A) ?_ ⟨c1, c2, c3, c4, c5⟩⟩
      unfold feedS
      rw [ht, hf, hct, if_pos (show (true && true) = true from rfl), if_neg hs0, if_pos h5]
    · conv => whnf
      refine ⟨fun e => absurd e (by decide), ans_ret h (A := (fedA (s_a A) t f b, A.2)) ?_ ⟨hn', c2, c3, c4, c5⟩⟩
      unfold feedS
      rw [ht, hf, hct, hcf, if_pos (show (true && true) = true from rfl), if_neg hs0, if_neg (by omega)]
def sp_C_output : cx_S := cx_self 3 (fun j r ws R => ∃ x n l m q A g, ws = wd x n l m q ∧ j = 0 ∧ r = [.inl g] ∧ rC A x n l m ∧ ans eI (outS A g) q ws R)
theorem pu_C_output : ∀ as ws Rq, sp_C_output as ws Rq → cx_cats as ≤ 3 ∧ ∀ V2 V1, cx_cl2 (t_C_output.take 6) (t_C_output.drop 6) [(sp_N_hasGate, 2, 0, 0)] [(sp_N_hasGate, 2, 0, 0)] x_C_output [] 1 6 Rq V2 V1 → V2 0 (cx_lv0 as 3) [] ws 0 0 := by
  intro as ws Rq h0
  obtain ⟨j, r, fs0, rfl, hj, x, n, l, m, q, A, g, rfl, rfl, rfl, hC, h⟩ := cx_self_spec h0
  refine ⟨Nat.le_of_ble_eq_true rfl, fun V2 V1 hV => ?_⟩
  obtain ⟨hV2, hV1, hL⟩ := hV
  obtain ⟨c1, c2, c3, c4, c5⟩ := hC
  have hgg : n.2.2.2.2.2.2.2.2.1 = nI (a_g (s_a A)) := c1.1.2.1
  have g120 := c1.1.1.1
  refine hV2 [21] 40 _ _ _ _ _ _ ?_
  conv => whnf
  refine ⟨x, n, l, m, q, g, rfl, rfl, rfl, ?_⟩
  rw [hgg]
  conv => whnf
  refine ⟨fun e => ?_, fun e => ?_⟩
  · have hg1 := b2_ne0.mp e
    obtain ⟨g, hg2, rfl⟩ := hg_of (by omega) hg1
    have hcg : (nI g).toNatClampNeg = g := nx_c (by omega)
    refine hL _ _ _ _ _ _ (hV1 [] 40 _ _ _ _ _ _ ?_)
    conv => whnf
    refine pk_lt (s_on A) 10 (fun h1 => ?_) (fun h1 => ?_) c3
    · conv => whnf
      refine ⟨pk_in (s_on A) 10 h1 c3, ?_⟩
      conv => whnf
      refine ⟨Or.inl rfl, ?_⟩
      conv => whnf
      refine ⟨fun e => absurd e (by decide), ?_⟩
      rw [c3, nx_c (show s_on A < 2 ^ 31 by omega), nI_1]
      refine ans_ret h (x := (nI (s_on A + 1), upd x.2 (s_on A) (nI g))) (n := n) (l := l) (m := m) (A := (s_a A, s_on A + 1, (fun i => if i = s_on A then g else s_nm A i), s_lo A, s_fs A)) ?_ ⟨c1, ?_, rfl, fun i hi => ?_, c5⟩
      · unfold outS
        rw [if_pos hg1, if_neg (by omega), hcg]
      · show s_on A + 1 ≤ 10
        omega
      · have hi' : i < s_on A + 1 := hi
        by_cases e : i = s_on A
        · subst e
          refine ⟨?_, ?_⟩
          · show (if s_on A = s_on A then g else s_nm A (s_on A)) < _
            rw [if_pos rfl]; exact hg2
          · show upd x.2 (s_on A) (nI g) (s_on A) = nI (if s_on A = s_on A then g else s_nm A (s_on A))
            rw [if_pos rfl]; exact pk_us
        · refine ⟨?_, ?_⟩
          · show (if i = s_on A then g else s_nm A i) < _
            rw [if_neg e]; exact (c4 i (by omega)).1
          · show upd x.2 (s_on A) (nI g) i = nI (if i = s_on A then g else s_nm A i)
            rw [if_neg e, pk_un e]; exact (c4 i (by omega)).2
    · conv => whnf
      refine ⟨fun e => absurd e (by decide), ans_ret h (A := A) ?_ ⟨c1, c2, c3, c4, c5⟩⟩
      unfold outS
      rw [if_pos hg1, if_pos (by omega)]
  · conv => whnf
    have e2 : outS A g = (0 + 1, 0, A) := by
      unfold outS
      rw [if_neg (by rw [b2_eq0.mp e]; simp)]
    exact ans_thr h e2
def sp_C_clear : cx_S := cx_self 3 (fun j r ws R => ∃ x n l m q A, ws = wd x n l m q ∧ j = 0 ∧ r = [] ∧ rC A x n l m ∧ ans eI (clrS A) q ws R)
theorem pu_C_clear : ∀ as ws Rq, sp_C_clear as ws Rq → cx_cats as ≤ 2 ∧ ∀ V, cx_cl1 t_C_clear [(sp_N_dropAll, 1, 0, 0), (sp_L_dropAll, 1, 0, 0)] [] [] 0 0 Rq V → V 0 (cx_lv0 as 2) [] ws 0 0 := by
  intro as ws Rq h0
  obtain ⟨j, r, fs0, rfl, hj, x, n, l, m, q, A, rfl, rfl, rfl, hC, h⟩ := cx_self_spec h0
  refine ⟨Nat.le_of_ble_eq_true rfl, fun V hV => hV [] 40 _ _ _ _ _ _ ?_⟩
  obtain ⟨c1, c2, c3, c4, c5⟩ := hC
  have hgg : n.2.2.2.2.2.2.2.2.1 = nI (a_g (s_a A)) := c1.1.2.1
  conv => whnf
  refine ⟨x, n, l, m, q, rfl, rfl, rfl, fun n' hn' => ?_⟩
  conv => whnf
  refine ⟨x, n', l, m, q, rfl, rfl, rfl, fun l' m' hl' => ?_⟩
  conv => whnf
  refine ⟨Or.inl rfl, ?_⟩
  conv => whnf
  refine ⟨fun e => absurd e (by decide), ?_⟩
  rw [hgg]
  exact ans_ret h (x := (0, x.2)) (n := n') (l := l') (m := m') (A := (zerA, 0, s_nm A, 0, s_fs A)) rfl ⟨hn', Nat.zero_le _, rfl, fun i hi => absurd hi (Nat.not_lt_zero _), Or.inl (hl' _)⟩
theorem hiK_eq {a : aN} {n : wN} (h : setR a (n_hi n) (n_lo n)) {g : Nat} (hg : g < a_g a) : tt (n_hi n g) = hiK a g ∧ tt (n_lo n g) = loK a g := by
  constructor
  · refine nf_ext (nf_tt _) (fun c hc => by simp [hiK, show ¬ c < 256 by omega]) (fun c hc => ?_)
    have := (h (c / 64) (by omega) (c % 64) (by omega) g hg).1
    dsimp only at this
    rw [show 64 * (c / 64) + c % 64 = c by omega] at this
    rw [lb_tt hc, this]
    simp [hiK, hc]
  · refine nf_ext (nf_tt _) (fun c hc => by simp [loK, show ¬ c < 256 by omega]) (fun c hc => ?_)
    have := (h (c / 64) (by omega) (c % 64) (by omega) g hg).2
    dsimp only at this
    rw [show 64 * (c / 64) + c % 64 = c by omega] at this
    rw [lb_tt hc, this]
    simp [loK, hc]
theorem fsN_e (a : aN) (nm : Nat → Nat) (o : Nat) : fsN a nm (2 * o) = hiK a (nm o) := by
  unfold fsN
  rw [if_pos (by omega), show 2 * o / 2 = o by omega]
theorem fsN_o (a : aN) (nm : Nat → Nat) (o : Nat) : fsN a nm (2 * o + 1) = loK a (nm o) := by
  unfold fsN
  rw [if_neg (by omega), show (2 * o + 1) / 2 = o by omega]
def sp_C_lay : cx_S := cx_self 3 (fun j r ws R => ∃ x n l m q A, ws = wd x n l m q ∧ j = 0 ∧ r = [] ∧ rC A x n l m ∧ ans eI (layS A) q ws R)
theorem pu_C_lay : ∀ as ws Rq, sp_C_lay as ws Rq → cx_cats as ≤ 3 ∧ ∀ V, cx_cl1 t_C_lay [(sp_L_dropAll, 1, 0, 0), (sp_N_highOf, 2, 0, 0), (sp_N_lowOf, 2, 0, 0), (sp_L_addOutput, 3, 0, 0), (sp_M_total, 1, 0, 0)] [] [] 0 0 Rq V → V 0 (cx_lv0 as 3) [] ws 0 0 := by
  intro as ws Rq h0
  obtain ⟨j, r, fs0, rfl, hj, x, n, l, m, q, A, rfl, rfl, rfl, hC, h⟩ := cx_self_spec h0
  refine ⟨Nat.le_of_ble_eq_true rfl, fun V hV => ?_⟩
  obtain ⟨c1, c2, c3, c4, c5⟩ := hC
  have loop : ∀ (d i : Nat) (n : wN) (l : wL) (m : wM) (s2 : Option cx_V), i + d = s_on A → rN (s_a A) n → rLay i (fsN (s_a A) (s_nm A)) l m → V 9 [some (.inr (.inr (.inl 0))), some (.inl (nI i)), s2] [] (wd x n l m q) 0 0 := by
    intro d
    induction d with
    | zero =>
      intro i n l m s2 hd hn hl
      have : i = s_on A := by omega
      subst this
      refine hV [] 40 _ _ _ _ _ _ ?_
      conv => whnf
      refine pk_le (s_on A) (s_on A) (fun _ => ?_) (fun e => absurd e (Nat.lt_irrefl _)) c3
      conv => whnf
      refine ⟨x, n, l, m, q, rfl, rfl, rfl, ?_⟩
      obtain ⟨N, ks, hR⟩ := hl
      have hM := hR.2.2.1
      have e : m.2.2.2.2.2.2.2.2.2.1 - 2 = nI (kN (2 * s_on A) (fsN (s_a A) (s_nm A)) (fun _ => true)) := by
        rw [show m.2.2.2.2.2.2.2.2.2.1 = nI N from hM.2.2.1, show (2 : Int32) = nI 2 from rfl, pk_sub hM.1, ← kN_eq (rL_enu hR), rMx_total hM]
      rw [e]
      conv => whnf
      exact ⟨fun e => absurd e (by decide), ans_ret h (A := (s_a A, s_on A, s_nm A, s_on A, fsN (s_a A) (s_nm A))) rfl ⟨hn, c2, c3, c4, Or.inl ⟨N, ks, hR⟩⟩⟩
    | succ d ih =>
      intro i n l m s2 hd hn hl
      obtain ⟨g1, g2⟩ := c4 i (by omega)
      have hci : (nI i).toNatClampNeg = i := nx_c (by omega)
      have g120 := hn.1.1.1
      refine hV [9] 40 _ _ _ _ _ _ ?_
      conv => whnf
      refine pk_le (s_on A) i (fun _ => by omega) (fun _ => ?_) c3
      conv => whnf
      refine ⟨pk_in i 10 (by omega), ?_⟩
      conv => whnf
      rw [hci]
      dsimp only
      rw [g2]
      refine ⟨x, n, l, m, q, s_a A, s_nm A i, rfl, rfl, rfl, hn, g1, fun n1 a1 a2 => ?_⟩
      conv => whnf
      refine ⟨x, n1, l, m, q, s_a A, s_nm A i, rfl, rfl, rfl, a1, g1, fun n2 b1 b2 => ?_⟩
      conv => whnf
      obtain ⟨k1, k2⟩ := hiK_eq b2 g1
      refine ⟨x, n2, l, m, q, i, fsN (s_a A) (s_nm A), s_nm A i, rfl, rfl, rfl, by omega, hl, by omega, by rw [fsN_e, k1], by rw [fsN_o, k2], fun l' m' hl' => ?_⟩
      conv => whnf
      rw [nI_1]
      exact ih (i + 1) n2 l' m' _ (by omega) b1 hl'
  refine hV [9] 40 _ _ _ _ _ _ ?_
  conv => whnf
  refine ⟨x, n, l, m, q, rfl, rfl, rfl, fun l' m' hl' => ?_⟩
  conv => whnf
  rw [← nI_0]
  exact loop (s_on A) 0 n l' m' none (by omega) c1 (hl' _)
theorem hg_256 {c : Int32} (h : hg c 256 = true) : ∃ j, j < 256 ∧ c = nI j := hg_of (n := 256) (by omega) h
def sp_C_run : cx_S := cx_self 3 (fun j r ws R => ∃ x n l m q A o c, ws = wd x n l m q ∧ j = 0 ∧ r = [.inl o, .inl c] ∧ rC A x n l m ∧ ans eI (runS A o c) q ws R)
theorem pu_C_run : ∀ as ws Rq, sp_C_run as ws Rq → cx_cats as ≤ 3 ∧ ∀ V, cx_cl1 t_C_run [(sp_C_requireLaidOut, 2, 1, 6), (sp_C_requireChoice, 1, 1, 6), (sp_L_valueOn, 3, 0, 0)] [] [] 2 12 Rq V → V 0 (cx_lv0 as 3) [] ws 0 0 := by
  intro as ws Rq h0
  obtain ⟨j, r, fs0, rfl, hj, x, n, l, m, q, A, o, c, rfl, rfl, rfl, hC, h⟩ := cx_self_spec h0
  refine ⟨Nat.le_of_ble_eq_true rfl, fun V hV => hV [] 40 _ _ _ _ _ _ ?_⟩
  have hC2 := hC
  obtain ⟨c1, c2, c3, c4, c5⟩ := hC2
  have hln : l_n l = nI (s_lo A) := rLy_n c5
  have lo10 : s_lo A ≤ 10 := rLy_10 c5
  conv => whnf
  refine ⟨x, n, l, m, q, o, rfl, rfl, rfl, fun e1 => ?_, fun e1 => ?_⟩
  rotate_left
  · rw [hln] at e1
    have e2 : runS A o c = (0 + 1, 0, A) := by
      unfold runS
      rw [if_neg (by rw [e1]; simp)]
    exact ans_thr h e2
  rw [hln] at e1
  conv => whnf
  refine ⟨c, rfl, fun e2 => ?_, fun e2 => ?_⟩
  rotate_left
  · have e3 : runS A o c = (0 + 1, 0, A) := by
      unfold runS
      rw [if_neg (by rw [e2]; simp)]
    exact ans_thr h e3
  obtain ⟨o, ho, rfl⟩ := hg_of (by omega) e1
  obtain ⟨c, hc, rfl⟩ := hg_256 e2
  conv => whnf
  refine ⟨x, n, l, m, q, s_lo A, s_fs A, o, c, rfl, rfl, rfl, rLy_in c5 ho, ho, hc, ?_⟩
  conv => whnf
  refine ⟨fun e => absurd e (by decide), ans_ret h (A := A) ?_ hC⟩
  unfold runS
  rw [e1, e2, if_pos (show (true && true) = true from rfl), nx_c (show o < 2 ^ 31 by omega), nx_c (show c < 2 ^ 31 by omega)]
def sp_C_way : cx_S := cx_self 3 (fun j r ws R => ∃ x n l m q A o c, ws = wd x n l m q ∧ j = 0 ∧ r = [.inl o, .inl c] ∧ rC A x n l m ∧ ans eI (wayS A o c) q ws R)
theorem pu_C_way : ∀ as ws Rq, sp_C_way as ws Rq → cx_cats as ≤ 3 ∧ ∀ V, cx_cl1 t_C_way [(sp_C_requireLaidOut, 2, 1, 6), (sp_C_requireChoice, 1, 1, 6), (sp_L_stepsOn, 3, 0, 0)] [] [] 2 12 Rq V → V 0 (cx_lv0 as 3) [] ws 0 0 := by
  intro as ws Rq h0
  obtain ⟨j, r, fs0, rfl, hj, x, n, l, m, q, A, o, c, rfl, rfl, rfl, hC, h⟩ := cx_self_spec h0
  refine ⟨Nat.le_of_ble_eq_true rfl, fun V hV => hV [] 40 _ _ _ _ _ _ ?_⟩
  have hC2 := hC
  obtain ⟨c1, c2, c3, c4, c5⟩ := hC2
  have hln : l_n l = nI (s_lo A) := rLy_n c5
  have lo10 : s_lo A ≤ 10 := rLy_10 c5
  conv => whnf
  refine ⟨x, n, l, m, q, o, rfl, rfl, rfl, fun e1 => ?_, fun e1 => ?_⟩
  rotate_left
  · rw [hln] at e1
    have e2 : wayS A o c = (0 + 1, 0, A) := by
      unfold wayS
      rw [if_neg (by rw [e1]; simp)]
    exact ans_thr h e2
  rw [hln] at e1
  conv => whnf
  refine ⟨c, rfl, fun e2 => ?_, fun e2 => ?_⟩
  rotate_left
  · have e3 : wayS A o c = (0 + 1, 0, A) := by
      unfold wayS
      rw [if_neg (by rw [e2]; simp)]
    exact ans_thr h e3
  obtain ⟨o, ho, rfl⟩ := hg_of (by omega) e1
  obtain ⟨c, hc, rfl⟩ := hg_256 e2
  conv => whnf
  refine ⟨x, n, l, m, q, s_lo A, s_fs A, o, c, rfl, rfl, rfl, rLy_in c5 ho, ho, hc, ?_⟩
  conv => whnf
  refine ⟨fun e => absurd e (by decide), ans_ret h (A := A) ?_ hC⟩
  unfold wayS
  rw [e1, e2, if_pos (show (true && true) = true from rfl), nx_c (show o < 2 ^ 31 by omega), nx_c (show c < 2 ^ 31 by omega)]
def sp_C_at : cx_S := cx_self 3 (fun j r ws R => ∃ x n l m q A k, ws = wd x n l m q ∧ j = 0 ∧ r = [.inl k] ∧ rC A x n l m ∧ ans eI (atS A k) q ws R)
theorem pu_C_at : ∀ as ws Rq, sp_C_at as ws Rq → cx_cats as ≤ 2 ∧ ∀ V, cx_cl1 t_C_at [] [] [] 0 0 Rq V → V 0 (cx_lv0 as 2) [] ws 0 0 := by
  intro as ws Rq h0
  obtain ⟨j, r, fs0, rfl, hj, x, n, l, m, q, A, k, rfl, rfl, rfl, hC, h⟩ := cx_self_spec h0
  refine ⟨Nat.le_of_ble_eq_true rfl, fun V hV => hV [] 40 _ _ _ _ _ _ ?_⟩
  have hC2 := hC
  obtain ⟨c1, c2, c3, c4, c5⟩ := hC2
  have no : hg k 8 = false → Rq (.inl (some (.inl 0))) (wd x n l m q) := fun e => ans_ret h (A := A) (by unfold atS; rw [e]; rfl) hC
  conv => whnf
  refine ⟨fun e => ?_, fun e => ?_⟩
  · conv => whnf
    exact ⟨fun e => absurd e (by decide), no (by simp [hg, e])⟩
  · conv => whnf
    refine ⟨fun e2 => ?_, fun e2 => ?_⟩
    · have hk : hg k 8 = true := by simp [hg, e, Int32.not_le.mpr e2]
      obtain ⟨k, hk8, rfl⟩ := hg_of (n := 8) (by omega) hk
      have hck : (nI k).toNatClampNeg = k := nx_c (by omega)
      conv => whnf
      refine ⟨pk_in k 8 hk8, ?_⟩
      conv => whnf
      refine ⟨fun e => absurd e (by decide), ?_⟩
      rw [hck]
      dsimp only
      rw [show m.2.2.2.2.2.2.2.2.1 k = _ from rLy_pi c5 hk8]
      exact ans_ret h (A := A) (by unfold atS; rw [hk, hck]; rfl) hC
    · conv => whnf
      exact ⟨fun e => absurd e (by decide), no (by simp [hg, e, Int32.not_lt.mp e2])⟩
def sp_C_size : cx_S := cx_self 3 (fun j r ws R => ∃ x n l m q A o b, ws = wd x n l m q ∧ j = 0 ∧ r = [.inl o, .inl (b2 b)] ∧ rC A x n l m ∧ ans eI (sizS A o b) q ws R)
theorem pnc_isub {ks : Nat → Ky} {f : Ky} {N : Nat} : cnP ks (isub f) N = cnP ks (pnc (isub f)) N := cnP_congr N (fun i hi => by
  unfold pnc
  cases e : isub f (ks i) with
  | false => rfl
  | true => simp [(isub_iff.mp e).1])
theorem pu_C_size : ∀ as ws Rq, sp_C_size as ws Rq → cx_cats as ≤ 4 ∧ ∀ V2 V1, cx_cl2 (t_C_size.take 3) (t_C_size.drop 3) [(sp_C_requireLaidOut, 2, 1, 6), (sp_M_totalBelow, 2, 0, 0)] [(sp_C_requireLaidOut, 2, 1, 6), (sp_M_totalBelow, 2, 0, 0)] x_C_size [] 1 6 Rq V2 V1 → V2 0 (cx_lv0 as 4) [] ws 0 0 := by
  intro as ws Rq h0
  obtain ⟨j, r, fs0, rfl, hj, x, n, l, m, q, A, o, b, rfl, rfl, rfl, hC, h⟩ := cx_self_spec h0
  refine ⟨Nat.le_of_ble_eq_true rfl, fun V2 V1 hV => ?_⟩
  obtain ⟨hV2, hV1, hL⟩ := hV
  have hC2 := hC
  obtain ⟨c1, c2, c3, c4, c5⟩ := hC2
  have hln : l_n l = nI (s_lo A) := rLy_n c5
  have lo10 : s_lo A ≤ 10 := rLy_10 c5
  refine hV2 [5] 40 _ _ _ _ _ _ ?_
  conv => whnf
  refine ⟨x, n, l, m, q, o, rfl, rfl, rfl, fun e1 => ?_, fun e1 => ?_⟩
  rotate_left
  · rw [hln] at e1
    have e2 : sizS A o b = (0 + 1, 0, A) := by
      unfold sizS
      rw [if_neg (by rw [e1]; simp)]
    exact ans_thr h e2
  rw [hln] at e1
  obtain ⟨o, ho, rfl⟩ := hg_of (by omega) e1
  have hco : (nI o).toNatClampNeg = o := nx_c (by omega)
  obtain ⟨N, ks, c5⟩ := rLy_in c5 ho
  obtain ⟨⟨ra, d1, d2, d3⟩, ⟨rb, d4, d5, d6⟩⟩ := c5.2.2.2.1 o ho
  refine hL _ _ _ _ _ _ (hV1 [] 40 _ _ _ _ _ _ ?_)
  conv => whnf
  cases b with
  | false =>
    refine ⟨fun _ => ?_, fun e => absurd rfl e⟩
    conv => whnf
    refine ⟨pk_in o 10 (by omega), ?_⟩
    conv => whnf
    rw [hco]
    refine ⟨x, n, l, m, q, 2 * s_lo A, s_fs A, N, ks, rb, rfl, rfl, ?_, c5.2.2.1, d4, fun m' hm' => ?_⟩
    · show [Sum.inl (l.2.1 o)] = _
      rw [show l.2.1 o = nI rb from d5]
    conv => whnf
    refine ⟨fun e => absurd e (by decide), ?_⟩
    rw [pnc_isub, kN_eq (rL_enu c5), d6]
    refine ans_ret h (A := A) ?_ ⟨c1, c2, c3, c4, Or.inl ⟨N, ks, c5.1, c5.2.1, hm', c5.2.2.2⟩⟩
    unfold sizS
    rw [if_pos e1, hco]
    rfl
  | true =>
    refine ⟨fun e => absurd e (by decide), fun _ => ?_⟩
    conv => whnf
    refine ⟨pk_in o 10 (by omega), ?_⟩
    conv => whnf
    rw [hco]
    refine ⟨x, n, l, m, q, 2 * s_lo A, s_fs A, N, ks, ra, rfl, rfl, ?_, c5.2.2.1, d1, fun m' hm' => ?_⟩
    · show [Sum.inl (l.1 o)] = _
      rw [show l.1 o = nI ra from d2]
    conv => whnf
    refine ⟨fun e => absurd e (by decide), ?_⟩
    rw [pnc_isub, kN_eq (rL_enu c5), d3]
    refine ans_ret h (A := A) ?_ ⟨c1, c2, c3, c4, Or.inl ⟨N, ks, c5.1, c5.2.1, hm', c5.2.2.2⟩⟩
    unfold sizS
    rw [if_pos e1, hco]
    rfl
def sp_C_known : cx_S := cx_self 3 (fun j r ws R => ∃ x n l m q A o, ws = wd x n l m q ∧ j = 0 ∧ r = [.inl o] ∧ rC A x n l m ∧ ans eI (knoS A o) q ws R)
theorem pu_C_known : ∀ as ws Rq, sp_C_known as ws Rq → cx_cats as ≤ 2 ∧ ∀ V, cx_cl1 t_C_known [(sp_C_requireLaidOut, 2, 1, 6), (sp_L_knownChoices, 2, 0, 0)] [] [] 1 6 Rq V → V 0 (cx_lv0 as 2) [] ws 0 0 := by
  intro as ws Rq h0
  obtain ⟨j, r, fs0, rfl, hj, x, n, l, m, q, A, o, rfl, rfl, rfl, hC, h⟩ := cx_self_spec h0
  refine ⟨Nat.le_of_ble_eq_true rfl, fun V hV => hV [] 40 _ _ _ _ _ _ ?_⟩
  have hC2 := hC
  obtain ⟨c1, c2, c3, c4, c5⟩ := hC2
  have hln : l_n l = nI (s_lo A) := rLy_n c5
  have lo10 : s_lo A ≤ 10 := rLy_10 c5
  conv => whnf
  refine ⟨x, n, l, m, q, o, rfl, rfl, rfl, fun e1 => ?_, fun e1 => ?_⟩
  rotate_left
  · rw [hln] at e1
    have e2 : knoS A o = (0 + 1, 0, A) := by
      unfold knoS
      rw [if_neg (by rw [e1]; simp)]
    exact ans_thr h e2
  rw [hln] at e1
  obtain ⟨o, ho, rfl⟩ := hg_of (by omega) e1
  conv => whnf
  refine ⟨x, n, l, m, q, s_lo A, s_fs A, o, rfl, rfl, rfl, rLy_in c5 ho, ho, ?_⟩
  conv => whnf
  refine ⟨fun e => absurd e (by decide), ans_ret h (A := A) ?_ hC⟩
  unfold knoS
  rw [if_pos e1, nx_c (show o < 2 ^ 31 by omega)]
def sp_C_doubt : cx_S := cx_self 3 (fun j r ws R => ∃ x n l m q A c, ws = wd x n l m q ∧ j = 0 ∧ r = [.inl c] ∧ rC A x n l m ∧ ans eI (douS A c) q ws R)
theorem pu_C_doubt : ∀ as ws Rq, sp_C_doubt as ws Rq → cx_cats as ≤ 2 ∧ ∀ V, cx_cl1 t_C_doubt [(sp_C_requireChoice, 1, 1, 6), (sp_L_firstDoubtFrom, 2, 0, 0)] [] [] 1 6 Rq V → V 0 (cx_lv0 as 2) [] ws 0 0 := by
  intro as ws Rq h0
  obtain ⟨j, r, fs0, rfl, hj, x, n, l, m, q, A, c, rfl, rfl, rfl, hC, h⟩ := cx_self_spec h0
  refine ⟨Nat.le_of_ble_eq_true rfl, fun V hV => hV [] 40 _ _ _ _ _ _ ?_⟩
  have hC2 := hC
  obtain ⟨c1, c2, c3, c4, c5⟩ := hC2
  conv => whnf
  refine ⟨c, rfl, fun e1 => ?_, fun e1 => ?_⟩
  rotate_left
  · have e2 : douS A c = (0 + 1, 0, A) := by
      unfold douS
      rw [if_neg (by rw [e1]; simp)]
    exact ans_thr h e2
  obtain ⟨c, hc, rfl⟩ := hg_256 e1
  conv => whnf
  refine ⟨x, n, l, m, q, s_lo A, s_fs A, c, rfl, rfl, rfl, ⟨rLy_10 c5, rLy_n c5, rLy_kn c5⟩, hc, ?_⟩
  conv => whnf
  refine ⟨fun e => absurd e (by decide), ans_ret h (A := A) ?_ hC⟩
  unfold douS
  rw [if_pos e1, nx_c (show c < 2 ^ 31 by omega)]
def sp_C_value : cx_S := cx_self 3 (fun j r ws R => ∃ x n l m q A g c, ws = wd x n l m q ∧ j = 0 ∧ r = [.inl g, .inl c] ∧ rC A x n l m ∧ ans eI (valS A g c) q ws R)
theorem pu_C_value : ∀ as ws Rq, sp_C_value as ws Rq → cx_cats as ≤ 3 ∧ ∀ V2 V1, cx_cl2 (t_C_value.take 8) (t_C_value.drop 8) [(sp_N_hasGate, 2, 0, 0), (sp_C_requireChoice, 1, 1, 6), (sp_N_valueOn, 3, 0, 0)] [(sp_N_hasGate, 2, 0, 0), (sp_C_requireChoice, 1, 1, 6), (sp_N_valueOn, 3, 0, 0)] x_C_value [] 1 6 Rq V2 V1 → V2 0 (cx_lv0 as 3) [] ws 0 0 := by
  intro as ws Rq h0
  obtain ⟨j, r, fs0, rfl, hj, x, n, l, m, q, A, g, c, rfl, rfl, rfl, hC, h⟩ := cx_self_spec h0
  refine ⟨Nat.le_of_ble_eq_true rfl, fun V2 V1 hV => ?_⟩
  obtain ⟨hV2, hV1, hL⟩ := hV
  obtain ⟨c1, c2, c3, c4, c5⟩ := hC
  have hgg : n.2.2.2.2.2.2.2.2.1 = nI (a_g (s_a A)) := c1.1.2.1
  have g120 := c1.1.1.1
  refine hV2 [25] 40 _ _ _ _ _ _ ?_
  conv => whnf
  refine ⟨x, n, l, m, q, g, rfl, rfl, rfl, ?_⟩
  rw [hgg]
  conv => whnf
  refine ⟨fun e => ?_, fun e => ?_⟩
  · have hg1 := b2_ne0.mp e
    obtain ⟨g, hg2, rfl⟩ := hg_of (by omega) hg1
    have hcg : (nI g).toNatClampNeg = g := nx_c (by omega)
    conv => whnf
    refine ⟨c, rfl, fun e2 => ?_, fun e2 => ?_⟩
    rotate_left
    · have e3 : valS A (nI g) c = (0 + 1, 0, A) := by
        unfold valS
        rw [if_neg (by rw [e2]; simp)]
      exact ans_thr h e3
    obtain ⟨c, hc, rfl⟩ := hg_256 e2
    refine hL _ _ _ _ _ _ (hV1 [] 40 _ _ _ _ _ _ ?_)
    conv => whnf
    refine ⟨x, n, l, m, q, s_a A, g, c, rfl, rfl, rfl, c1, hg2, hc, fun n' hn' => ?_⟩
    conv => whnf
    refine ⟨fun e => absurd e (by decide), ans_ret h (A := A) ?_ ⟨hn', c2, c3, c4, c5⟩⟩
    unfold valS
    rw [hg1, e2, if_pos (show (true && true) = true from rfl), hcg, nx_c (show c < 2 ^ 31 by omega)]
  · conv => whnf
    have e2 : valS A g c = (0 + 1, 0, A) := by
      unfold valS
      rw [if_neg (by rw [b2_eq0.mp e]; simp)]
    exact ans_thr h e2
def sp_C_count : cx_S := cx_self 3 (fun j r ws R => ∃ x n l m q A w, ws = wd x n l m q ∧ j = 0 ∧ r = [.inl w] ∧ rC A x n l m ∧ ans eI (cntS A w) q ws R)
theorem pu_C_count : ∀ as ws Rq, sp_C_count as ws Rq → cx_cats as ≤ 2 ∧ ∀ V, cx_cl1 t_C_count [(sp_M_total, 1, 0, 0)] [] w_C_count 0 0 Rq V → V 0 (cx_lv0 as 2) [] ws 0 0 := by
  intro as ws Rq h0
  obtain ⟨j, r, fs0, rfl, hj, x, n, l, m, q, A, w, rfl, rfl, rfl, hC, h⟩ := cx_self_spec h0
  refine ⟨Nat.le_of_ble_eq_true rfl, fun V hV => hV [] 40 _ _ _ _ _ _ ?_⟩
  have hC2 := hC
  obtain ⟨c1, c2, c3, c4, c5⟩ := hC2
  have go : ∀ v, cntS A w = (0, v, A) → Rq (.inl (some (.inl v))) (wd x n l m q) := fun v e => ans_ret h e hC
  conv => whnf
  refine ⟨fun e => ?_, ?_⟩
  · conv => whnf
    refine ⟨fun e => absurd e (by decide), go _ ?_⟩
    have ne : ∀ k : Nat, k < 7 → w ≠ nI k := fun k hk e2 => by
      subst e2
      rw [nI_toInt (by omega)] at e
      rcases e with e | e
      · omega
      · have : ([44, 52, 60, 68, 73, 81, 92] : List Nat).length = 7 := rfl
        rw [this] at e
        omega
    unfold cntS
    rw [if_neg (show ¬ w = 0 from ne 0 (by omega)), if_neg (show ¬ w = 1 from ne 1 (by omega)), if_neg (show ¬ w = 2 from ne 2 (by omega)), if_neg (show ¬ w = 3 from ne 3 (by omega)), if_neg (show ¬ w = 4 from ne 4 (by omega)), if_neg (show ¬ w = 5 from ne 5 (by omega)), if_neg (show ¬ w = 6 from ne 6 (by omega))]
  refine ⟨fun e => ?_, fun e => ?_, fun e => ?_, fun e => ?_, fun e => ?_, fun e => ?_, fun e => ?_, trivial⟩
  · subst e
    conv => whnf
    refine ⟨fun e => absurd e (by decide), ?_⟩
    rw [show n.2.2.2.2.2.2.2.2.1 = nI (a_g (s_a A)) from c1.1.2.1]
    exact go _ rfl
  · subst e
    conv => whnf
    refine ⟨fun e => absurd e (by decide), ?_⟩
    rw [show n.2.2.2.2.2.2.2.2.2.1 = nI (a_f (s_a A)) from c1.1.2.2.1]
    exact go _ rfl
  · subst e
    conv => whnf
    refine ⟨fun e => absurd e (by decide), ?_⟩
    rw [show n.2.2.2.2.2.2.2.2.2.2.1 = nI (a_i (s_a A)) from c1.1.2.2.2.1]
    exact go _ rfl
  · subst e
    conv => whnf
    refine ⟨fun e => absurd e (by decide), ?_⟩
    rw [c3]
    exact go _ rfl
  · subst e
    conv => whnf
    refine ⟨fun e => absurd e (by decide), ?_⟩
    rw [show l.2.2.2 = nI (s_lo A) from rLy_n c5]
    exact go _ rfl
  · subst e
    conv => whnf
    refine ⟨x, n, l, m, q, rfl, rfl, rfl, ?_⟩
    have e : m.2.2.2.2.2.2.2.2.2.1 - 2 = nI (kN (2 * s_lo A) (s_fs A) (fun _ => true)) := rLy_t c5
    rw [e]
    conv => whnf
    exact ⟨fun e => absurd e (by decide), go _ rfl⟩
  · subst e
    conv => whnf
    refine ⟨fun e => absurd e (by decide), ?_⟩
    rw [show m.2.2.2.2.2.2.2.2.2.2 = _ from rLy_lg c5]
    exact go _ rfl
end
section
/-! The reference's cells. -/
abbrev wR : Type := (Int32 × Int32 × Int32 × Int32 × Int32) × ((Nat → Int32) × (Nat → Int32) × (Nat → Int32) × (Nat → Int32) × (Nat → Int32) × (Nat → Int32)) × ((Nat → Int32) × Int32 × Int32 × (Nat → Int64) × (Nat → Int32)) × ((Nat → Int32) × (Nat → Int32) × (Nat → Int32) × (Nat → Int32) × (Nat → Int32))
abbrev rt_th (t : wR) : Int32 := t.1.1
abbrev rt_g (t : wR) : Int32 := t.1.2.1
abbrev rt_f (t : wR) : Int32 := t.1.2.2.1
abbrev rt_i (t : wR) : Int32 := t.1.2.2.2.1
abbrev rt_on (t : wR) : Int32 := t.1.2.2.2.2
abbrev rt_so (t : wR) : (Nat → Int32) := t.2.1.1
abbrev rt_nu (t : wR) : (Nat → Int32) := t.2.1.2.1
abbrev rt_to (t : wR) : (Nat → Int32) := t.2.1.2.2.1
abbrev rt_fr (t : wR) : (Nat → Int32) := t.2.1.2.2.2.1
abbrev rt_nm (t : wR) : (Nat → Int32) := t.2.1.2.2.2.2.1
abbrev rt_ne (t : wR) : (Nat → Int32) := t.2.1.2.2.2.2.2
abbrev rt_va (t : wR) : (Nat → Int32) := t.2.2.1.1
abbrev rt_la (t : wR) : Int32 := t.2.2.1.2.1
abbrev rt_tb (t : wR) : Int32 := t.2.2.1.2.2.1
abbrev rt_w (t : wR) : (Nat → Int64) := t.2.2.1.2.2.2.1
abbrev rt_in (t : wR) : (Nat → Int32) := t.2.2.1.2.2.2.2
abbrev rt_lo (t : wR) : (Nat → Int32) := t.2.2.2.1
abbrev rt_hi (t : wR) : (Nat → Int32) := t.2.2.2.2.1
abbrev rt_far (t : wR) : (Nat → Int32) := t.2.2.2.2.2.1
abbrev rt_ro (t : wR) : (Nat → Int32) := t.2.2.2.2.2.2.1
abbrev rt_mk (t : wR) : (Nat → Int32) := t.2.2.2.2.2.2.2
def wq (t : wR) (r : List cx_C) : List cx_C :=
  .inl (4, [.inl t.1.1, .inl t.1.2.1, .inl t.1.2.2.1, .inl t.1.2.2.2.1, .inl t.1.2.2.2.2, .inr (.inr (.inl 26)), .inr (.inr (.inl 27)), .inr (.inr (.inl 28)), .inr (.inr (.inl 29)), .inr (.inr (.inl 30)), .inr (.inr (.inl 31)), .inr (.inr (.inl 32)), .inl t.2.2.1.2.1, .inl t.2.2.1.2.2.1, .inr (.inr (.inl 33)), .inr (.inr (.inl 34)), .inr (.inr (.inl 35)), .inr (.inr (.inl 36)), .inr (.inr (.inl 37)), .inr (.inr (.inl 38)), .inr (.inr (.inl 39))]) ::
  .inr (.inl (120, t.2.1.1)) :: .inr (.inl (120, t.2.1.2.1)) :: .inr (.inl (500, t.2.1.2.2.1)) :: .inr (.inl (500, t.2.1.2.2.2.1)) :: .inr (.inl (10, t.2.1.2.2.2.2.1)) :: .inr (.inr (.inl (500, t.2.1.2.2.2.2.2))) :: .inr (.inl (120, t.2.2.1.1)) :: .inr (.inr (.inr (.inl (8088, t.2.2.1.2.2.2.1)))) :: .inr (.inl (2000, t.2.2.1.2.2.2.2)) :: .inr (.inl (2000, t.2.2.2.1)) :: .inr (.inl (2000, t.2.2.2.2.1)) :: .inr (.inl (2000, t.2.2.2.2.2.1)) :: .inr (.inl (20, t.2.2.2.2.2.2.1)) :: .inr (.inr (.inl (2000, t.2.2.2.2.2.2.2))) :: r
def ru_th (t : wR) (v : Int32) : wR := ((v, t.1.2.1, t.1.2.2.1, t.1.2.2.2.1, t.1.2.2.2.2), t.2.1, t.2.2.1, t.2.2.2)
def ru_g (t : wR) (v : Int32) : wR := ((t.1.1, v, t.1.2.2.1, t.1.2.2.2.1, t.1.2.2.2.2), t.2.1, t.2.2.1, t.2.2.2)
def ru_f (t : wR) (v : Int32) : wR := ((t.1.1, t.1.2.1, v, t.1.2.2.2.1, t.1.2.2.2.2), t.2.1, t.2.2.1, t.2.2.2)
def ru_i (t : wR) (v : Int32) : wR := ((t.1.1, t.1.2.1, t.1.2.2.1, v, t.1.2.2.2.2), t.2.1, t.2.2.1, t.2.2.2)
def ru_on (t : wR) (v : Int32) : wR := ((t.1.1, t.1.2.1, t.1.2.2.1, t.1.2.2.2.1, v), t.2.1, t.2.2.1, t.2.2.2)
def ru_so (t : wR) (v : (Nat → Int32)) : wR := (t.1, (v, t.2.1.2.1, t.2.1.2.2.1, t.2.1.2.2.2.1, t.2.1.2.2.2.2.1, t.2.1.2.2.2.2.2), t.2.2.1, t.2.2.2)
def ru_nu (t : wR) (v : (Nat → Int32)) : wR := (t.1, (t.2.1.1, v, t.2.1.2.2.1, t.2.1.2.2.2.1, t.2.1.2.2.2.2.1, t.2.1.2.2.2.2.2), t.2.2.1, t.2.2.2)
def ru_to (t : wR) (v : (Nat → Int32)) : wR := (t.1, (t.2.1.1, t.2.1.2.1, v, t.2.1.2.2.2.1, t.2.1.2.2.2.2.1, t.2.1.2.2.2.2.2), t.2.2.1, t.2.2.2)
def ru_fr (t : wR) (v : (Nat → Int32)) : wR := (t.1, (t.2.1.1, t.2.1.2.1, t.2.1.2.2.1, v, t.2.1.2.2.2.2.1, t.2.1.2.2.2.2.2), t.2.2.1, t.2.2.2)
def ru_nm (t : wR) (v : (Nat → Int32)) : wR := (t.1, (t.2.1.1, t.2.1.2.1, t.2.1.2.2.1, t.2.1.2.2.2.1, v, t.2.1.2.2.2.2.2), t.2.2.1, t.2.2.2)
def ru_ne (t : wR) (v : (Nat → Int32)) : wR := (t.1, (t.2.1.1, t.2.1.2.1, t.2.1.2.2.1, t.2.1.2.2.2.1, t.2.1.2.2.2.2.1, v), t.2.2.1, t.2.2.2)
def ru_va (t : wR) (v : (Nat → Int32)) : wR := (t.1, t.2.1, (v, t.2.2.1.2.1, t.2.2.1.2.2.1, t.2.2.1.2.2.2.1, t.2.2.1.2.2.2.2), t.2.2.2)
def ru_la (t : wR) (v : Int32) : wR := (t.1, t.2.1, (t.2.2.1.1, v, t.2.2.1.2.2.1, t.2.2.1.2.2.2.1, t.2.2.1.2.2.2.2), t.2.2.2)
def ru_tb (t : wR) (v : Int32) : wR := (t.1, t.2.1, (t.2.2.1.1, t.2.2.1.2.1, v, t.2.2.1.2.2.2.1, t.2.2.1.2.2.2.2), t.2.2.2)
def ru_w (t : wR) (v : (Nat → Int64)) : wR := (t.1, t.2.1, (t.2.2.1.1, t.2.2.1.2.1, t.2.2.1.2.2.1, v, t.2.2.1.2.2.2.2), t.2.2.2)
def ru_in (t : wR) (v : (Nat → Int32)) : wR := (t.1, t.2.1, (t.2.2.1.1, t.2.2.1.2.1, t.2.2.1.2.2.1, t.2.2.1.2.2.2.1, v), t.2.2.2)
def ru_lo (t : wR) (v : (Nat → Int32)) : wR := (t.1, t.2.1, t.2.2.1, (v, t.2.2.2.2.1, t.2.2.2.2.2.1, t.2.2.2.2.2.2.1, t.2.2.2.2.2.2.2))
def ru_hi (t : wR) (v : (Nat → Int32)) : wR := (t.1, t.2.1, t.2.2.1, (t.2.2.2.1, v, t.2.2.2.2.2.1, t.2.2.2.2.2.2.1, t.2.2.2.2.2.2.2))
def ru_far (t : wR) (v : (Nat → Int32)) : wR := (t.1, t.2.1, t.2.2.1, (t.2.2.2.1, t.2.2.2.2.1, v, t.2.2.2.2.2.2.1, t.2.2.2.2.2.2.2))
def ru_ro (t : wR) (v : (Nat → Int32)) : wR := (t.1, t.2.1, t.2.2.1, (t.2.2.2.1, t.2.2.2.2.1, t.2.2.2.2.2.1, v, t.2.2.2.2.2.2.2))
def ru_mk (t : wR) (v : (Nat → Int32)) : wR := (t.1, t.2.1, t.2.2.1, (t.2.2.2.1, t.2.2.2.2.1, t.2.2.2.2.2.1, t.2.2.2.2.2.2.1, v))
/-- the reference's net -/
def rRn (a : aN) (t : wR) : Prop := wfN a ∧ rt_g t = nI (a_g a) ∧ rt_f t = nI (a_f a) ∧ rt_i t = nI (a_i a) ∧ (∀ g, g < a_g a → rt_so t g = nI (a_so a g) ∧ rt_nu t g = nI (a_nu a g) ∧ a_nu a g ≤ 8) ∧ ∀ k, k < a_f a → rt_to t k = nI (a_to a k) ∧ rt_fr t k = nI (a_fr a k) ∧ rt_ne t k = b2 (a_ne a k)
/-- a function's place among the tables, -1 for a constant -/
def ixT (T : Nat) (ks : Nat → Ky) (g : Ky) (v : Int32) : Prop := (fd g = 8 ∧ v = -1) ∨ ∃ i, i < T ∧ ks i = g ∧ v = nI i
def tabR (J : Nat) (fs : Nat → Ky) (T : Nat) (ks : Nat → Ky) (t : wR) : Prop := T ≤ 874 ∧ rt_tb t = nI T ∧ (∀ i, i < T → ∀ j, j < T → ks i = ks j → i = j) ∧ ∀ i, i < T → fd (ks i) < 8 ∧ memK J fs (ks i) ∧ rt_in t i = nI (fd (ks i))
def rRl (lo : Nat) (fs : Nat → Ky) (t : wR) : Prop := lo ≤ 10 ∧ rt_la t = nI lo ∧ (∀ j, j < 2 * lo → nf (fs j) ∧ ∀ c, c < 256 → lb (rt_w t (4 * j + c / 64)) (c % 64) = fs j c) ∧
  ∃ T ks, tabR (2 * lo) fs T ks t ∧ (∀ i, i < T → ixT T ks (sub (ks i) (fd (ks i) + 1) 0) (rt_lo t i) ∧ ixT T ks (sub (ks i) (fd (ks i) + 1) 1) (rt_hi t i) ∧ rt_far t i = nI (dp 8 (ks i))) ∧ ∀ j, j < 2 * lo → ixT T ks (fs j) (rt_ro t j)
def rR (A : aS) (t : wR) : Prop := rRn (s_a A) t ∧ s_on A ≤ 10 ∧ rt_on t = nI (s_on A) ∧ (∀ i, i < s_on A → s_nm A i < a_g (s_a A) ∧ rt_nm t i = nI (s_nm A i)) ∧ rRl (s_lo A) (s_fs A) t
/-- the reference answers so -/
def ansR (o : rs) (x : wX) (n : wN) (l : wL) (m : wM) (r : List cx_C) (R : cx_R) : Prop := ∀ t, rR o.2.2 t → rt_th t = nI o.1 → R (.inl (some (.inl (if o.1 = 0 then o.2.1 else 0)))) (wd x n l m (wq t r))
theorem ansR_ret {o : rs} {x : wX} {n : wN} {l : wL} {m : wM} {r : List cx_C} {R : cx_R} {v : Int32} {A : aS} (h : ansR o x n l m r R) (e : o = (0, v, A)) {t : wR} (hC : rR A t) (ht : rt_th t = 0) : R (.inl (some (.inl v))) (wd x n l m (wq t r)) := by
  subst e
  exact h t hC (by rw [ht]; rfl)
theorem ansR_thr {o : rs} {x : wX} {n : wN} {l : wL} {m : wM} {r : List cx_C} {R : cx_R} {v : Int32} {A : aS} {k : Nat} (h : ansR o x n l m r R) (e : o = (k + 1, v, A)) {t : wR} (hC : rR A t) (ht : rt_th t = nI (k + 1)) : R (.inl (some (.inl 0))) (wd x n l m (wq t r)) := by
  subst e
  have := h t hC ht
  rw [if_neg (Nat.succ_ne_zero _)] at this
  exact this
end
section
/-! The reference: its net. -/
def sp_R_thrown : cx_S := cx_self 4 (fun j r ws R => ∃ x n l m t q, ws = wd x n l m (wq t q) ∧ j = 25 ∧ r = [] ∧ R (.inl (some (.inl (rt_th t)))) ws)
theorem pu_R_thrown : ∀ as ws Rq, sp_R_thrown as ws Rq → cx_cats as ≤ 1 ∧ ∀ V, cx_cl1 t_R_thrown [] [] [] 0 0 Rq V → V 0 (cx_lv0 as 1) [] ws 0 0 := by
  intro as ws Rq h0
  obtain ⟨j, r, fs0, rfl, hj, x, n, l, m, t, q, rfl, rfl, rfl, h⟩ := cx_self_spec h0
  refine ⟨Nat.le_of_ble_eq_true rfl, fun V hV => hV [] 40 _ _ _ _ _ _ ?_⟩
  conv => whnf
  exact ⟨fun e => absurd e (by decide), h⟩
def sp_R_fails : cx_S := cx_self 4 (fun j r ws R => ∃ x n l m t q b c v, ws = wd x n l m (wq t q) ∧ j = 25 ∧ r = [.inl (b2 b), .inl (b2 c)] ∧ v = (if b then 1 else if c then 2 else 0) ∧ R (.inl (some (.inl (b2 (b || c))))) (wd x n l m (wq (ru_th t v) q)))
set_option maxRecDepth 100000 in
theorem pu_R_fails : ∀ as ws Rq, sp_R_fails as ws Rq → cx_cats as ≤ 3 ∧ ∀ V, cx_cl1 t_R_fails [] [] [] 0 0 Rq V → V 0 (cx_lv0 as 3) [] ws 0 0 := by
  intro as ws Rq h0
  obtain ⟨j, r, fs0, rfl, hj, x, n, l, m, t, q, b, c, v, rfl, rfl, rfl, rfl, h⟩ := cx_self_spec h0
  refine ⟨Nat.le_of_ble_eq_true rfl, fun V hV => hV [] 40 _ _ _ _ _ _ ?_⟩
  conv => whnf
  cases b with
  | true =>
    refine ⟨fun e => absurd e (by decide), fun _ => ?_⟩
    conv => whnf
    refine ⟨Or.inl rfl, ?_⟩
    conv => whnf
    refine ⟨fun e => absurd e (by decide), fun _ => ?_⟩
    conv => whnf
    exact ⟨fun _ => Or.inr rfl, h⟩
  | false =>
    refine ⟨fun _ => ?_, fun e => absurd rfl e⟩
    conv => whnf
    cases c with
    | true =>
      refine ⟨fun e => absurd e (by decide), fun _ => ?_⟩
      conv => whnf
      refine ⟨Or.inl rfl, ?_⟩
      conv => whnf
      refine ⟨fun e => absurd e (by decide), fun _ => ?_⟩
      conv => whnf
      exact ⟨fun _ => Or.inr rfl, h⟩
    | false =>
      refine ⟨fun _ => ?_, fun e => absurd rfl e⟩
      conv => whnf
      refine ⟨Or.inl rfl, ?_⟩
      conv => whnf
      refine ⟨fun _ => ?_, fun e => absurd (by decide) e⟩
      conv => whnf
      exact ⟨fun _ => Or.inl rfl, h⟩
def sp_R_isGate : cx_S := cx_self 4 (fun j r ws R => ∃ x n l m t q g, ws = wd x n l m (wq t q) ∧ j = 25 ∧ r = [.inl g] ∧ R (.inl (some (.inl (b2 (hg g (rt_g t)))))) ws)
theorem pu_R_isGate : ∀ as ws Rq, sp_R_isGate as ws Rq → cx_cats as ≤ 2 ∧ ∀ V, cx_cl1 t_R_isGate [] [] [] 0 0 Rq V → V 0 (cx_lv0 as 2) [] ws 0 0 := by
  intro as ws Rq h0
  obtain ⟨j, r, fs0, rfl, hj, x, n, l, m, t, q, g, rfl, rfl, rfl, h⟩ := cx_self_spec h0
  refine ⟨Nat.le_of_ble_eq_true rfl, fun V hV => hV [] 40 _ _ _ _ _ _ ?_⟩
  conv => whnf
  refine ⟨fun e => ?_, fun e => ?_⟩
  · conv => whnf
    rw [show hg g (rt_g t) = false by simp [hg, e]] at h
    exact ⟨fun _ => Or.inl rfl, h⟩
  · conv => whnf
    refine ⟨fun e2 => ?_, fun e2 => ?_⟩
    · conv => whnf
      rw [show hg g (rt_g t) = false by simp [hg, rt_g, e2]] at h
      exact ⟨fun _ => Or.inl rfl, h⟩
    · conv => whnf
      rw [show hg g (rt_g t) = true by simp only [hg, rt_g, e, e2]; rfl] at h
      exact ⟨fun _ => Or.inr rfl, h⟩
def sp_R_clear : cx_S := cx_self 4 (fun j r ws R => ∃ x n l m t q A, ws = wd x n l m (wq t q) ∧ j = 25 ∧ r = [] ∧ rR A t ∧ ansR (clrS A) x n l m q R)
set_option maxRecDepth 100000 in
theorem pu_R_clear : ∀ as ws Rq, sp_R_clear as ws Rq → cx_cats as ≤ 2 ∧ ∀ V, cx_cl1 t_R_clear [] [] [] 0 0 Rq V → V 0 (cx_lv0 as 2) [] ws 0 0 := by
  intro as ws Rq h0
  obtain ⟨j, r, fs0, rfl, hj, x, n, l, m, t, q, A, rfl, rfl, rfl, hR, h⟩ := cx_self_spec h0
  refine ⟨Nat.le_of_ble_eq_true rfl, fun V hV => hV [] 60 _ _ _ _ _ _ ?_⟩
  obtain ⟨⟨a1, a2, a3, a4, a5, a6⟩, b1, b2, b3, c1, c2, c3, c4⟩ := hR
  conv => whnf
  refine ⟨Or.inl rfl, ?_⟩
  conv => whnf
  refine ⟨Or.inl rfl, ?_⟩
  conv => whnf
  refine ⟨Or.inl rfl, ?_⟩
  conv => whnf
  refine ⟨Or.inl rfl, ?_⟩
  conv => whnf
  refine ⟨Or.inl rfl, ?_⟩
  conv => whnf
  refine ⟨Or.inl rfl, ?_⟩
  conv => whnf
  refine ⟨Or.inl rfl, ?_⟩
  conv => whnf
  refine ⟨fun e => absurd e (by decide), ?_⟩
  rw [show t.1.2.1 = nI (a_g (s_a A)) from a2]
  exact ansR_ret h (A := (zerA, 0, s_nm A, 0, s_fs A)) rfl (t := ((0, 0, 0, 0, 0), (rt_so t, rt_nu t, rt_to t, rt_fr t, rt_nm t, rt_ne t), (rt_va t, 0, 0, rt_w t, rt_in t), (rt_lo t, rt_hi t, rt_far t, rt_ro t, rt_mk t))) ⟨⟨⟨Nat.zero_le _, Nat.zero_le _, Nat.zero_le _, fun g hg => absurd hg (Nat.not_lt_zero _), fun g hg => absurd hg (Nat.not_lt_zero _)⟩, rfl, rfl, rfl, fun g hg => absurd hg (Nat.not_lt_zero _), fun g hg => absurd hg (Nat.not_lt_zero _)⟩, Nat.zero_le _, rfl, fun i hi => absurd hi (Nat.not_lt_zero _), Nat.zero_le _, rfl, fun j hj => absurd hj (Nat.not_lt_zero _), 0, fun _ => kF, ⟨Nat.zero_le _, rfl, fun i hi => absurd hi (Nat.not_lt_zero _), fun i hi => absurd hi (Nat.not_lt_zero _)⟩, fun i hi => absurd hi (Nat.not_lt_zero _), fun i hi => absurd hi (Nat.not_lt_zero _)⟩ rfl
def sp_R_output : cx_S := cx_self 4 (fun j r ws R => ∃ x n l m t q A g, ws = wd x n l m (wq t q) ∧ j = 25 ∧ r = [.inl g] ∧ rR A t ∧ ansR (outS A g) x n l m q R)
set_option maxRecDepth 100000 in
theorem pu_R_output : ∀ as ws Rq, sp_R_output as ws Rq → cx_cats as ≤ 2 ∧ ∀ V, cx_cl1 t_R_output [(sp_R_isGate, 2, 0, 0), (sp_R_fails, 3, 0, 0)] [] [] 0 0 Rq V → V 0 (cx_lv0 as 2) [] ws 0 0 := by
  intro as ws Rq h0
  obtain ⟨j, r, fs0, rfl, hj, x, n, l, m, t, q, A, g, rfl, rfl, rfl, hR, h⟩ := cx_self_spec h0
  refine ⟨Nat.le_of_ble_eq_true rfl, fun V hV => hV [] 60 _ _ _ _ _ _ ?_⟩
  have hR2 := hR
  obtain ⟨a0, b1, b2, b3, c0⟩ := hR2
  have a2 := a0.2.1
  have g120 := a0.1.1
  conv => whnf
  refine ⟨x, n, l, m, t, q, g, rfl, rfl, rfl, ?_⟩
  rw [a2]
  conv => whnf
  refine ⟨fun e => ?_, fun e => ?_⟩
  · have hg1 := b2_ne0.mp e
    conv => whnf
    refine ⟨x, n, l, m, t, q, false, false, 0, rfl, rfl, rfl, rfl, ?_⟩
    conv => whnf
    refine ⟨fun _ => ?_, fun e => absurd rfl e⟩
    conv => whnf
    obtain ⟨g, hg2, rfl⟩ := hg_of (by omega) hg1
    have hcg : (nI g).toNatClampNeg = g := nx_c (by omega)
    have b2' : (ru_th t 0).1.2.2.2.2 = nI (s_on A) := b2
    refine ⟨fun e => ?_, fun e => ?_⟩
    · have e' : s_on A ≠ 10 := fun q => e (by rw [show (ru_th t 0).1.2.2.2.2 = nI (s_on A) from b2, q]; rfl)
      conv => whnf
      refine ⟨pk_in (s_on A) 10 (by omega) b2, ?_⟩
      conv => whnf
      refine ⟨Or.inl rfl, ?_⟩
      conv => whnf
      refine ⟨fun e => absurd e (by decide), ?_⟩
      rw [show (ru_th t 0).1.2.2.2.2 = nI (s_on A) from b2, nx_c (show s_on A < 2 ^ 31 by omega), nI_1, nI_pred]
      refine ansR_ret h (A := (s_a A, s_on A + 1, (fun i => if i = s_on A then g else s_nm A i), s_lo A, s_fs A)) ?_ (t := ((0, rt_g t, rt_f t, rt_i t, nI (s_on A + 1)), (rt_so t, rt_nu t, rt_to t, rt_fr t, upd (rt_nm t) (s_on A) (nI g), rt_ne t), (rt_va t, rt_la t, rt_tb t, rt_w t, rt_in t), (rt_lo t, rt_hi t, rt_far t, rt_ro t, rt_mk t))) ⟨a0, ?_, rfl, fun i hi => ?_, c0⟩ rfl
      · unfold outS
        rw [if_pos hg1, if_neg e', hcg]
      · show s_on A + 1 ≤ 10
        omega
      · have hi' : i < s_on A + 1 := hi
        by_cases e : i = s_on A
        · subst e
          refine ⟨?_, ?_⟩
          · show (if s_on A = s_on A then g else s_nm A (s_on A)) < _
            rw [if_pos rfl]; exact hg2
          · show upd (rt_nm t) (s_on A) (nI g) (s_on A) = nI (if s_on A = s_on A then g else s_nm A (s_on A))
            rw [if_pos rfl]; exact pk_us
        · refine ⟨?_, ?_⟩
          · show (if i = s_on A then g else s_nm A i) < _
            rw [if_neg e]; exact (b3 i (by omega)).1
          · show upd (rt_nm t) (s_on A) (nI g) i = nI (if i = s_on A then g else s_nm A i)
            rw [if_neg e, pk_un e]; exact (b3 i (by omega)).2
    · have e' : s_on A = 10 := by
        have e2 : nI (s_on A) = nI 10 := b2.symm.trans e
        rw [nI_eq (by omega) (by omega)] at e2
        exact e2
      conv => whnf
      refine ⟨fun e => absurd e (by decide), ansR_ret h (A := A) ?_ (t := ru_th t 0) hR rfl⟩
      unfold outS
      rw [if_pos hg1, if_pos e']
  · conv => whnf
    refine ⟨x, n, l, m, t, q, true, false, 1, rfl, rfl, rfl, rfl, ?_⟩
    conv => whnf
    refine ⟨fun e => absurd e (by decide), fun _ => ?_⟩
    conv => whnf
    have e2 : outS A g = (0 + 1, 0, A) := by
      unfold outS
      rw [if_neg (by rw [b2_eq0.mp e]; simp)]
    exact ⟨fun e => absurd e (by decide), ansR_thr h e2 (t := ru_th t 1) hR rfl⟩
def sp_R_gate : cx_S := cx_self 4 (fun j r ws R => ∃ x n l m t q A p, ws = wd x n l m (wq t q) ∧ j = 25 ∧ r = [.inl p] ∧ rR A t ∧ ansR (gateS A p) x n l m q R)
theorem gatA_rR {A : aS} {t : wR} {s : Nat} (hR : rR A t) (hs : s = 0 ∨ s = 2 ∨ s = 3) (hno : ¬ (a_g (s_a A) = 120 ∨ (s = 0 ∧ a_i (s_a A) = 8))) {i' : Int32} (hi : i' = nI (if s = 0 then a_i (s_a A) + 1 else a_i (s_a A))) :
    rR (gatA (s_a A) s, A.2) ((0, nI (a_g (s_a A) + 1), rt_f t, i', rt_on t), (upd (rt_so t) (a_g (s_a A)) (nI s), upd (rt_nu t) (a_g (s_a A)) (nI (a_i (s_a A))), rt_to t, rt_fr t, rt_nm t, rt_ne t), (rt_va t, rt_la t, rt_tb t, rt_w t, rt_in t), (rt_lo t, rt_hi t, rt_far t, rt_ro t, rt_mk t)) := by
  obtain ⟨⟨⟨w1, w2, w3, w4, w5⟩, a2, a3, a4, a5, a6⟩, b1, b2, b3, c0⟩ := hR
  have hno1 : a_g (s_a A) ≠ 120 := fun e => hno (Or.inl e)
  have hno2 : s = 0 → a_i (s_a A) ≠ 8 := fun e e2 => hno (Or.inr ⟨e, e2⟩)
  have hne : ∀ k, k < a_f (s_a A) → a_to (s_a A) k ≠ a_g (s_a A) := fun k hk => by have := (w5 k hk).1; omega
  have hso : ∀ g, g ≠ a_g (s_a A) → a_so (gatA (s_a A) s) g = a_so (s_a A) g := fun g hg => if_neg hg
  have hsn : a_so (gatA (s_a A) s) (a_g (s_a A)) = s := if_pos rfl
  have hnu : ∀ g, g ≠ a_g (s_a A) → a_nu (gatA (s_a A) s) g = a_nu (s_a A) g := fun g hg => if_neg hg
  have hnn : a_nu (gatA (s_a A) s) (a_g (s_a A)) = a_i (s_a A) := if_pos rfl
  refine ⟨⟨⟨?_, w2, ?_, fun g hg => ?_, fun k hk => ?_⟩, rfl, a3, hi, fun g hg => ?_, a6⟩, b1, b2, fun i hi => ⟨Nat.lt_succ_of_lt (b3 i hi).1, (b3 i hi).2⟩, c0⟩
  · show a_g (s_a A) + 1 ≤ 120
    omega
  · show (if s = 0 then a_i (s_a A) + 1 else a_i (s_a A)) ≤ 8
    split
    · rename_i e
      have := hno2 e
      omega
    · exact w3
  · have hg' : g < a_g (s_a A) + 1 := hg
    show (a_so (gatA (s_a A) s) g = 0 ∨ _) ∧ _
    by_cases e : g = a_g (s_a A)
    · subst e
      show (a_so (gatA (s_a A) s) (a_g (s_a A)) = 0 ∨ a_so (gatA (s_a A) s) (a_g (s_a A)) = 2 ∨ a_so (gatA (s_a A) s) (a_g (s_a A)) = 3) ∧ (a_so (gatA (s_a A) s) (a_g (s_a A)) = 0 → a_nu (gatA (s_a A) s) (a_g (s_a A)) < 8)
      rw [hsn, hnn]
      exact ⟨hs, fun e0 => by have := hno2 e0; omega⟩
    · show (a_so (gatA (s_a A) s) g = 0 ∨ a_so (gatA (s_a A) s) g = 2 ∨ a_so (gatA (s_a A) s) g = 3) ∧ (a_so (gatA (s_a A) s) g = 0 → a_nu (gatA (s_a A) s) g < 8)
      rw [hso g e, hnu g e]
      exact w4 g (by omega)
  · obtain ⟨u1, u2, u3⟩ := w5 k hk
    refine ⟨Nat.lt_succ_of_lt u1, Nat.lt_succ_of_lt u2, ?_⟩
    show a_so (gatA (s_a A) s) (a_to (s_a A) k) ≠ 0
    rw [hso _ (hne k hk)]
    exact u3
  · have hg' : g < a_g (s_a A) + 1 := hg
    by_cases e : g = a_g (s_a A)
    · subst e
      show upd (rt_so t) (a_g (s_a A)) (nI s) (a_g (s_a A)) = nI (a_so (gatA (s_a A) s) (a_g (s_a A))) ∧ upd (rt_nu t) (a_g (s_a A)) (nI (a_i (s_a A))) (a_g (s_a A)) = nI (a_nu (gatA (s_a A) s) (a_g (s_a A))) ∧ a_nu (gatA (s_a A) s) (a_g (s_a A)) ≤ 8
      rw [hsn, hnn]
      exact ⟨pk_us, pk_us, w3⟩
    · show upd (rt_so t) (a_g (s_a A)) (nI s) g = nI (a_so (gatA (s_a A) s) g) ∧ upd (rt_nu t) (a_g (s_a A)) (nI (a_i (s_a A))) g = nI (a_nu (gatA (s_a A) s) g) ∧ a_nu (gatA (s_a A) s) g ≤ 8
      rw [hso g e, hnu g e, pk_un e, pk_un e]
      exact a5 g (by omega)
set_option maxRecDepth 100000 in
set_option maxHeartbeats 4000000 in
theorem pu_R_gate : ∀ as ws Rq, sp_R_gate as ws Rq → cx_cats as ≤ 2 ∧ ∀ V, cx_cl1 t_R_gate [(sp_R_fails, 3, 0, 0)] [] [] 0 0 Rq V → V 0 (cx_lv0 as 2) [] ws 0 0 := by
  intro as ws Rq h0
  obtain ⟨j, r, fs0, rfl, hj, x, n, l, m, t, q, A, p, rfl, rfl, rfl, hR, h⟩ := cx_self_spec h0
  refine ⟨Nat.le_of_ble_eq_true rfl, fun V hV => ?_⟩
  have a2 : t.1.2.1 = nI (a_g (s_a A)) := hR.1.2.1
  have a4 : t.1.2.2.2.1 = nI (a_i (s_a A)) := hR.1.2.2.2.1
  have w1 := hR.1.1.1
  have w3 := hR.1.1.2.2.1
  have cont : (p = 0 ∨ p = 2 ∨ p = 3) → V 19 [some (.inr (.inr (.inl 25))), some (.inl p)] [.inr (.inr (.inl 25))] (wd x n l m (wq t q)) 0 0 := by
    intro hp
    have hs : ∃ s, (s = 0 ∨ s = 2 ∨ s = 3) ∧ p = nI s := by
      rcases hp with rfl | rfl | rfl
      · exact ⟨0, Or.inl rfl, rfl⟩
      · exact ⟨2, Or.inr (Or.inl rfl), rfl⟩
      · exact ⟨3, Or.inr (Or.inr rfl), rfl⟩
    obtain ⟨s, hs, rfl⟩ := hs
    have e0 : nI s = 0 ↔ s = 0 := by rw [show (0 : Int32) = nI 0 from rfl, nI_eq (by omega) (by omega)]
    have ec : (nI s).toNatClampNeg = s := nx_c (by omega)
    have full : (a_g (s_a A) = 120 ∨ (s = 0 ∧ a_i (s_a A) = 8)) → Rq (.inl (some (.inl (-1)))) (wd x n l m (wq (ru_th t 0) q)) := fun hf => ansR_ret h (A := A) (by
      unfold gateS
      rw [if_pos hp, if_pos (by rw [e0]; exact hf)]) (t := ru_th t 0) hR rfl
    have cont2 : ¬ (a_g (s_a A) = 120 ∨ (s = 0 ∧ a_i (s_a A) = 8)) → V 53 [some (.inr (.inr (.inl 25))), some (.inl (nI s))] [] (wd x n l m (wq (ru_th t 0) q)) 0 0 := by
      intro hno
      have hno1 : a_g (s_a A) ≠ 120 := fun e => hno (Or.inl e)
      have ret : gateS A (nI s) = (0, nI (a_g (s_a A)), (gatA (s_a A) s, A.2)) := by
        unfold gateS
        rw [if_pos hp, if_neg (by rw [e0]; exact hno), ec]
      refine hV [] 60 _ _ _ _ _ _ ?_
      conv => whnf
      refine ⟨pk_in (a_g (s_a A)) 120 (by omega) a2, ?_⟩
      conv => whnf
      refine ⟨pk_in (a_g (s_a A)) 120 (by omega) a2, ?_⟩
      conv => whnf
      refine ⟨fun e => ?_, fun e => ?_⟩
      · have hs0 : s ≠ 0 := fun q => e (e0.mpr q)
        conv => whnf
        refine ⟨Or.inl rfl, ?_⟩
        conv => whnf
        refine ⟨Or.inl rfl, ?_⟩
        conv => whnf
        refine ⟨fun e => absurd e (by decide), ?_⟩
        rw [show (ru_th t 0).1.2.1 = nI (a_g (s_a A)) from a2, show (ru_th t 0).1.2.2.2.1 = nI (a_i (s_a A)) from a4, nx_c (show a_g (s_a A) < 2 ^ 31 by omega), nI_1, nI_pred]
        exact ansR_ret h ret (gatA_rR hR hs hno (i' := nI (a_i (s_a A)) + 0) (by rw [if_neg hs0, Int32.add_zero])) rfl
      · have hs0 : s = 0 := e0.mp e
        conv => whnf
        refine ⟨Or.inl rfl, ?_⟩
        conv => whnf
        refine ⟨Or.inl rfl, ?_⟩
        conv => whnf
        refine ⟨fun e => absurd e (by decide), ?_⟩
        rw [show (ru_th t 0).1.2.1 = nI (a_g (s_a A)) from a2, show (ru_th t 0).1.2.2.2.1 = nI (a_i (s_a A)) from a4, nx_c (show a_g (s_a A) < 2 ^ 31 by omega), nI_1, nI_pred]
        exact ansR_ret h ret (gatA_rR hR hs hno (i' := nI (a_i (s_a A)) + 1) (by rw [if_pos hs0, nI_1])) rfl
    refine hV [53] 60 _ _ _ _ _ _ ?_
    conv => whnf
    refine ⟨x, n, l, m, t, q, false, false, 0, rfl, rfl, rfl, rfl, ?_⟩
    conv => whnf
    refine ⟨fun _ => ?_, fun e => absurd rfl e⟩
    conv => whnf
    refine pk_eq (a_g (s_a A)) 120 (fun e => ?_) (fun e => ?_) a2
    · conv => whnf
      exact ⟨fun e => absurd e (by decide), full (Or.inl e)⟩
    · conv => whnf
      refine ⟨fun e2 => ?_, fun e2 => ?_⟩
      · exact cont2 (fun q => q.elim e (fun q => e2 (e0.mpr q.1)))
      · conv => whnf
        refine ⟨fun e3 => ?_, fun e3 => ?_⟩
        · refine cont2 (fun q => q.elim e (fun q => e3 ?_))
          rw [show (ru_th t 0).1.2.2.2.1 = nI (a_i (s_a A)) from a4, q.2]
          rfl
        · conv => whnf
          refine ⟨fun e => absurd e (by decide), full (Or.inr ⟨e0.mp e2, ?_⟩)⟩
          have e4 : nI (a_i (s_a A)) = nI 8 := a4.symm.trans e3
          rw [nI_eq (by omega) (by omega)] at e4
          exact e4
  refine hV [19] 60 _ _ _ _ _ _ ?_
  conv => whnf
  refine ⟨fun e => cont (Or.inl e), fun e1 => ?_⟩
  conv => whnf
  refine ⟨fun e => cont (Or.inr (Or.inl e)), fun e2 => ?_⟩
  conv => whnf
  refine ⟨fun e => cont (Or.inr (Or.inr e)), fun e3 => ?_⟩
  conv => whnf
  refine ⟨x, n, l, m, t, q, true, false, 1, rfl, rfl, rfl, rfl, ?_⟩
  conv => whnf
  refine ⟨fun e => absurd e (by decide), fun _ => ?_⟩
  conv => whnf
  have e : gateS A p = (0 + 1, 0, A) := by
    unfold gateS
    rw [if_neg (fun q => q.elim e1 (fun q => q.elim e2 e3))]
  exact ⟨fun e => absurd e (by decide), ansR_thr h e (t := ru_th t 1) hR rfl⟩
end
section
/-! The reference: feeds and values. -/
def sp_R_feed : cx_S := cx_self 4 (fun j r ws R => ∃ x n l m t q A p f b, ws = wd x n l m (wq t q) ∧ j = 25 ∧ r = [.inl p, .inl f, .inl (b2 b)] ∧ rR A t ∧ ansR (feedS A p f b) x n l m q R)
set_option maxRecDepth 100000 in
set_option maxHeartbeats 4000000 in
theorem pu_R_feed : ∀ as ws Rq, sp_R_feed as ws Rq → cx_cats as ≤ 7 ∧ ∀ V, cx_cl1 t_R_feed [(sp_R_isGate, 2, 0, 0), (sp_R_fails, 3, 0, 0)] [] [] 0 0 Rq V → V 0 (cx_lv0 as 7) [] ws 0 0 := by
  intro as ws Rq h0
  obtain ⟨j, r, fs0, rfl, hj, x, n, l, m, t, q, A, p, f, b, rfl, rfl, rfl, hR, h⟩ := cx_self_spec h0
  refine ⟨Nat.le_of_ble_eq_true rfl, fun V hV => ?_⟩
  have hR2 := hR
  obtain ⟨⟨⟨w1, w2, w3, w4, w5⟩, a2, a3, a4, a5, a6⟩, b1, b2', b3, c0⟩ := hR2
  have no : (hg p (nI (a_g (s_a A))) && hg f (nI (a_g (s_a A)))) = false → V 20 [some (.inr (.inr (.inl 25))), some (.inl p), some (.inl f), some (.inl (b2 b)), none, none, none] [] (wd x n l m (wq t q)) 0 0 := by
    intro e
    refine hV [] 60 _ _ _ _ _ _ ?_
    conv => whnf
    refine ⟨fun e => absurd rfl e, fun _ => ?_⟩
    conv => whnf
    refine ⟨fun _ => ?_, fun e => absurd rfl e⟩
    conv => whnf
    refine ⟨x, n, l, m, t, q, true, false, 1, rfl, rfl, rfl, rfl, ?_⟩
    conv => whnf
    refine ⟨fun e => absurd e (by decide), fun _ => ?_⟩
    conv => whnf
    have e2 : feedS A p f b = (0 + 1, 0, A) := by
      unfold feedS
      rw [if_neg (by rw [e]; simp)]
    exact ⟨fun e => absurd e (by decide), ansR_thr h e2 (t := ru_th t 1) hR rfl⟩
  refine hV [20, 128] 120 _ _ _ _ _ _ ?_
  conv => whnf
  refine ⟨x, n, l, m, t, q, p, rfl, rfl, rfl, ?_⟩
  rw [a2]
  conv => whnf
  refine ⟨fun e => no (by rw [b2_eq0.mp e]; rfl), fun e => ?_⟩
  have hp := b2_ne0.mp e
  conv => whnf
  refine ⟨x, n, l, m, t, q, f, rfl, rfl, rfl, ?_⟩
  rw [a2]
  conv => whnf
  refine ⟨fun e => no (by rw [b2_eq0.mp e, Bool.and_false]), fun e => ?_⟩
  have hf := b2_ne0.mp e
  conv => whnf
  refine ⟨fun _ => ?_, fun e => absurd e (by decide)⟩
  conv => whnf
  refine ⟨fun e => absurd e (by decide), fun _ => ?_⟩
  conv => whnf
  refine ⟨fun e => absurd e (by decide), fun _ => ?_⟩
  obtain ⟨p, hp1, rfl⟩ := hg_of (by omega) hp
  obtain ⟨f, hf1, rfl⟩ := hg_of (by omega) hf
  have hcp : (nI p).toNatClampNeg = p := nx_c (by omega)
  have hcf : (nI f).toNatClampNeg = f := nx_c (by omega)
  have s3 := (w4 p hp1).1
  have hso : t.2.1.1 p = nI (a_so (s_a A) p) := (a5 p hp1).1
  conv => whnf
  refine ⟨pk_in p 120 (by omega), ?_⟩
  conv => whnf
  rw [hcp]
  dsimp only
  rw [hso]
  refine ⟨fun e => ?_, fun e => ?_⟩
  rotate_left
  · have hs0 : a_so (s_a A) p = 0 := by
      rw [show (0 : Int32) = nI 0 from rfl, nI_eq (by omega) (by omega)] at e
      exact e
    conv => whnf
    refine ⟨x, n, l, m, t, q, false, true, 2, rfl, rfl, rfl, rfl, ?_⟩
    conv => whnf
    refine ⟨fun e => absurd e (by decide), fun _ => ?_⟩
    conv => whnf
    have e2 : feedS A (nI p) (nI f) b = (1 + 1, 0, A) := by
      unfold feedS
      rw [hp, hf, hcp, if_pos (show (true && true) = true from rfl), if_pos hs0]
    exact ⟨fun e => absurd e (by decide), ansR_thr h e2 (t := ru_th t 2) hR rfl⟩
  have hs0 : a_so (s_a A) p ≠ 0 := fun q => e (by rw [q]; rfl)
  conv => whnf
  refine ⟨x, n, l, m, t, q, false, false, 0, rfl, rfl, rfl, rfl, ?_⟩
  conv => whnf
  refine ⟨fun _ => ?_, fun e => absurd rfl e⟩
  conv => whnf
  have eto : ∀ k, k < a_f (s_a A) → a_to (fedA (s_a A) p f b) k = a_to (s_a A) k := fun k hk => if_neg (by omega)
  have etf : a_to (fedA (s_a A) p f b) (a_f (s_a A)) = p := if_pos rfl
  refine ⟨fun e => ?_, fun e => ?_⟩
  rotate_left
  · have e' : a_f (s_a A) = 500 := by
      have e2 : nI (a_f (s_a A)) = nI 500 := a3.symm.trans e
      rw [nI_eq (by omega) (by omega)] at e2
      exact e2
    conv => whnf
    refine ⟨fun e => absurd e (by decide), ansR_ret h (A := A) ?_ (t := ru_th t 0) hR rfl⟩
    unfold feedS
    rw [hp, hf, hcp, if_pos (show (true && true) = true from rfl), if_neg hs0, if_pos e']
  have e' : a_f (s_a A) ≠ 500 := fun q => e (by rw [show (ru_th t 0).1.2.2.1 = nI (a_f (s_a A)) from a3, q]; rfl)
  have inf : vp_in (ru_th t 0).1.2.2.1 500 := pk_in (a_f (s_a A)) 500 (by omega) a3
  conv => whnf
  refine ⟨inf, ?_⟩
  conv => whnf
  refine ⟨inf, ?_⟩
  conv => whnf
  refine ⟨⟨inf, b2_01 b⟩, ?_⟩
  conv => whnf
  refine ⟨Or.inl rfl, ?_⟩
  conv => whnf
  rw [show (ru_th t 0).1.2.2.1 = nI (a_f (s_a A)) from a3, nx_c (show a_f (s_a A) < 2 ^ 31 by omega), nI_1, ← nI_0]
  have hT : rR (fedA (s_a A) p f b, A.2) ((0, rt_g t, nI (a_f (s_a A) + 1), rt_i t, rt_on t), (rt_so t, rt_nu t, upd (rt_to t) (a_f (s_a A)) (nI p), upd (rt_fr t) (a_f (s_a A)) (nI f), rt_nm t, upd (rt_ne t) (a_f (s_a A)) (b2 b)), (rt_va t, rt_la t, rt_tb t, rt_w t, rt_in t), (rt_lo t, rt_hi t, rt_far t, rt_ro t, rt_mk t)) := by
    refine ⟨⟨⟨w1, ?_, w3, w4, fun k hk => ?_⟩, a2, rfl, a4, a5, fun k hk => ?_⟩, b1, b2', b3, c0⟩
    · show a_f (s_a A) + 1 ≤ 500
      omega
    · have hk' : k < a_f (s_a A) + 1 := hk
      show a_to (fedA (s_a A) p f b) k < a_g (s_a A) ∧ (if k = a_f (s_a A) then f else a_fr (s_a A) k) < a_g (s_a A) ∧ a_so (s_a A) (a_to (fedA (s_a A) p f b) k) ≠ 0
      by_cases ek : k = a_f (s_a A)
      · subst ek
        rw [etf, if_pos rfl]
        exact ⟨hp1, hf1, hs0⟩
      · rw [eto k (by omega), if_neg ek]
        exact w5 k (by omega)
    · have hk' : k < a_f (s_a A) + 1 := hk
      show upd (rt_to t) (a_f (s_a A)) (nI p) k = nI (a_to (fedA (s_a A) p f b) k) ∧ upd (rt_fr t) (a_f (s_a A)) (nI f) k = nI (if k = a_f (s_a A) then f else a_fr (s_a A) k) ∧ upd (rt_ne t) (a_f (s_a A)) (b2 b) k = b2 (if k = a_f (s_a A) then b else a_ne (s_a A) k)
      by_cases ek : k = a_f (s_a A)
      · subst ek
        rw [etf, if_pos rfl, if_pos rfl]
        exact ⟨pk_us, pk_us, pk_us⟩
      · rw [eto k (by omega), if_neg ek, if_neg ek, pk_un ek, pk_un ek, pk_un ek]
        exact a6 k (by omega)
  generalize ht2 : (((0, rt_g t, nI (a_f (s_a A) + 1), rt_i t, rt_on t), (rt_so t, rt_nu t, upd (rt_to t) (a_f (s_a A)) (nI p), upd (rt_fr t) (a_f (s_a A)) (nI f), rt_nm t, upd (rt_ne t) (a_f (s_a A)) (b2 b)), (rt_va t, rt_la t, rt_tb t, rt_w t, rt_in t), (rt_lo t, rt_hi t, rt_far t, rt_ro t, rt_mk t)) : wR) = t2 at hT
  have fin : feedS A (nI p) (nI f) b = (0, nI (cnt (a_to (fedA (s_a A) p f b)) (a_f (s_a A) + 1) p), (fedA (s_a A) p f b, A.2)) := by
    unfold feedS
    rw [hp, hf, hcp, hcf, if_pos (show (true && true) = true from rfl), if_neg hs0, if_neg e']
  have t20 : rt_th t2 = 0 := by rw [← ht2]
  have loop : ∀ (d k : Nat), k + d = a_f (s_a A) + 1 → V 128 [some (.inr (.inr (.inl 25))), some (.inl (nI p)), some (.inl (nI f)), some (.inl (b2 b)), some (.inl 1), some (.inl (nI (cnt (a_to (fedA (s_a A) p f b)) k p))), some (.inl (nI k))] [] (wd x n l m (wq t2 q)) 0 0 := by
    intro d
    have tf : t2.1.2.2.1 = nI (a_f (s_a A) + 1) := hT.1.2.2.1
    induction d with
    | zero =>
      intro k hd
      refine hV [] 60 _ _ _ _ _ _ ?_
      conv => whnf
      refine pk_le (a_f (s_a A) + 1) k (fun _ => ?_) (fun _ => by omega) tf
      conv => whnf
      refine ⟨fun e => absurd e (by decide), ?_⟩
      rw [show k = a_f (s_a A) + 1 by omega]
      exact ansR_ret h fin hT t20
    | succ d ih =>
      intro k hd
      refine hV [128] 60 _ _ _ _ _ _ ?_
      conv => whnf
      refine pk_le (a_f (s_a A) + 1) k (fun _ => by omega) (fun _ => ?_) tf
      conv => whnf
      refine ⟨pk_in k 500 (by omega), ?_⟩
      conv => whnf
      rw [nx_c (show k < 2 ^ 31 by omega)]
      have hto : t2.2.1.2.2.1 k = nI (a_to (fedA (s_a A) p f b) k) := (hT.1.2.2.2.2.2 k (show k < a_f (s_a A) + 1 by omega)).1
      have hlt : a_to (fedA (s_a A) p f b) k < a_g (s_a A) := (hT.1.1.2.2.2.2 k (show k < a_f (s_a A) + 1 by omega)).1
      have step : cnt (a_to (fedA (s_a A) p f b)) (k + 1) p = cnt (a_to (fedA (s_a A) p f b)) k p + if a_to (fedA (s_a A) p f b) k = p then 1 else 0 := rfl
      dsimp only
      rw [hto]
      refine ⟨fun e => ?_, fun e => ?_⟩
      · have ek : a_to (fedA (s_a A) p f b) k ≠ p := fun q => e (by rw [q])
        conv => whnf
        rw [nI_1, Int32.add_zero]
        have := ih (k + 1) (by omega)
        rw [step, if_neg ek, Nat.add_zero] at this
        exact this
      · have ek : a_to (fedA (s_a A) p f b) k = p := by
          rw [nI_eq (by omega) (by omega)] at e
          exact e
        conv => whnf
        rw [nI_1, nI_1]
        have := ih (k + 1) (by omega)
        rw [step, if_pos ek] at this
        exact this
  have := loop (a_f (s_a A) + 1) 0 (by omega)
  rw [← ht2] at this
  exact this
theorem vst (b : Bool) (y : vl) : vI (xr b y) = b2 b ↔ y = some false := by
  rcases y with _ | _ | _ <;> cases b <;> simp [vI, xr, b2]
theorem v2n (y : vl) : vI y = 2 ↔ y = none := by
  rcases y with _ | _ | _ <;> simp [vI]
theorem xr_xr (b c : Bool) (y : vl) : xr b (xr c y) = xr (c ^^ b) y := by
  rcases y with _ | _ | _ <;> cases b <;> cases c <;> rfl
theorem xr_none {b : Bool} {y : vl} : xr b y = none ↔ y = none := by
  rcases y with _ | _ | _ <;> simp [xr]
theorem xr_ff (b : Bool) (y : vl) : xr b (xr b y) = y := by
  rcases y with _ | _ | _ <;> cases b <;> rfl
def sp_R_made : cx_S := cx_self 4 (fun j r ws R => ∃ x n l m t q a g v, ws = wd x n l m (wq t q) ∧ j = 25 ∧ r = [.inl (nI g)] ∧ rRn a t ∧ g < a_g a ∧ a_so a g ≠ 0 ∧ (∀ p, p < a_g a → rt_va t p = vI (v p)) ∧ R (.inl (some (.inl (vI (made a g v))))) ws)
set_option maxRecDepth 100000 in
set_option maxHeartbeats 4000000 in
theorem pu_R_made : ∀ as ws Rq, sp_R_made as ws Rq → cx_cats as ≤ 6 ∧ ∀ V, cx_cl1 t_R_made [] [] [] 0 0 Rq V → V 0 (cx_lv0 as 6) [] ws 0 0 := by
  intro as ws Rq h0
  obtain ⟨j, r, fs0, rfl, hj, x, n, l, m, t, q, a, g, v, rfl, rfl, rfl, hR, hg1, hs0, hv, h⟩ := cx_self_spec h0
  refine ⟨Nat.le_of_ble_eq_true rfl, fun V hV => ?_⟩
  obtain ⟨⟨w1, w2, w3, w4, w5⟩, a2, a3, a4, a5, a6⟩ := hR
  have hcg : (nI g).toNatClampNeg = g := nx_c (by omega)
  have hso : t.2.1.1 g = nI (a_so a g) := (a5 g hg1).1
  have s3 := (w4 g hg1).1
  have loop : ∀ (d k : Nat) (s5 : Option cx_V), k + d = a_f a → V 23 [some (.inr (.inr (.inl 25))), some (.inl (nI g)), some (.inl (b2 (tr a g))), some (.inl (vI (xr (tr a g) (mad a g v k)))), some (.inl (nI k)), s5] [] (wd x n l m (wq t q)) 0 0 := by
    intro d
    induction d with
    | zero =>
      intro k s5 hd
      have : k = a_f a := by omega
      subst this
      refine hV [] 60 _ _ _ _ _ _ ?_
      conv => whnf
      refine pk_le (a_f a) (a_f a) (fun _ => ?_) (fun e => absurd e (Nat.lt_irrefl _)) a3
      conv => whnf
      exact ⟨fun e => absurd e (by decide), h⟩
    | succ d ih =>
      intro k s5 hd
      have hk : k < a_f a := by omega
      obtain ⟨t1, t2, t3⟩ := a6 k hk
      obtain ⟨u1, u2, u3⟩ := w5 k hk
      have hck : (nI k).toNatClampNeg = k := nx_c (by omega)
      have ink : vp_in (nI k) 500 := pk_in k 500 (by omega)
      have next : ∀ (y : vl) (s5 : Option cx_V), y = mad a g v (k + 1) → V 111 [some (.inr (.inr (.inl 25))), some (.inl (nI g)), some (.inl (b2 (tr a g))), some (.inl (vI (xr (tr a g) y))), some (.inl (nI k)), s5] [] (wd x n l m (wq t q)) 0 0 := by
        intro y s5 e
        subst e
        refine hV [23] 60 _ _ _ _ _ _ ?_
        conv => whnf
        rw [nI_1]
        exact ih (k + 1) s5 (by omega)
      refine hV [111, 90] 60 _ _ _ _ _ _ ?_
      conv => whnf
      refine pk_le (a_f a) k (fun _ => by omega) (fun _ => ?_) a3
      conv => whnf
      refine ⟨ink, ?_⟩
      conv => whnf
      rw [hck]
      dsimp only
      rw [show t.2.1.2.2.1 k = nI (a_to a k) from t1]
      refine ⟨fun e => ?_, fun e => ?_⟩
      · have ek : a_to a k ≠ g := fun q => e (by rw [q])
        exact next _ _ (by simp [mad, ek])
      have ek : a_to a k = g := by
        rw [nI_eq (by omega) (by omega)] at e
        exact e
      conv => whnf
      refine ⟨fun e => ?_, fun e => ?_⟩
      rotate_left
      · have e2 := (vst _ _).mp e
        conv => whnf
        refine next _ _ ?_
        rw [mad_hit ek, e2]
        rfl
      have hx : mad a g v k ≠ some false := fun q => e ((vst _ _).mpr q)
      conv => whnf
      refine ⟨ink, ?_⟩
      conv => whnf
      rw [hck]
      dsimp only
      rw [show t.2.1.2.2.2.1 k = nI (a_fr a k) from t2]
      refine ⟨pk_in (a_fr a k) 120 (by omega), ?_⟩
      conv => whnf
      rw [nx_c (show a_fr a k < 2 ^ 31 by omega)]
      dsimp only
      rw [show t.2.2.1.1 (a_fr a k) = vI (v (a_fr a k)) from hv _ u2]
      have at90 : ∀ (s5 : Int32), V 90 [some (.inr (.inr (.inl 25))), some (.inl (nI g)), some (.inl (b2 (tr a g))), some (.inl (vI (xr (tr a g) (mad a g v k)))), some (.inl (nI k)), some (.inl s5)] [.inl (vI (xr (a_ne a k) (v (a_fr a k))))] (wd x n l m (wq t q)) 0 0 := by
        intro s5
        have e3 : xr (tr a g) (tk a g v k) = xr (a_ne a k) (v (a_fr a k)) := by
          unfold tk
          rw [xr_xr]
          cases a_ne a k <;> cases tr a g <;> rfl
        rw [← e3]
        refine hV [111] 60 _ _ _ _ _ _ ?_
        conv => whnf
        refine ⟨fun e => ?_, fun e => ?_⟩
        · have e4 := (vst _ _).mp e
          conv => whnf
          refine next (tk a g v k) _ ?_
          rw [mad_hit ek, e4]
          rcases hm : mad a g v k with _ | _ | _ <;> rfl
        · conv => whnf
          refine ⟨fun e5 => ?_, fun e5 => ?_⟩
          · conv => whnf
            refine next (mad a g v k) _ ?_
            rw [mad_hit ek]
            have n1 : tk a g v k ≠ some false := fun q => e ((vst _ _).mpr q)
            have n2 : tk a g v k ≠ none := fun q => e5 ((v2n _).mpr (xr_none.mpr q))
            rcases hm : tk a g v k with _ | _ | _
            · exact absurd hm n2
            · exact absurd hm n1
            · rw [and3_t]
          · have e6 := xr_none.mp ((v2n _).mp e5)
            conv => whnf
            refine next (tk a g v k) _ ?_
            rw [mad_hit ek, e6]
            rcases hm : mad a g v k with _ | _ | _
            · rfl
            · exact absurd hm hx
            · rfl
      refine ⟨fun e => ?_, fun e => ?_⟩
      · have e2 := (v2n _).mp e
        conv => whnf
        have := at90 (vI (v (a_fr a k)))
        rw [e2] at this ⊢
        exact this
      · conv => whnf
        refine ⟨ink, ?_⟩
        conv => whnf
        rw [hck]
        dsimp only
        rw [show t.2.1.2.2.2.2.2 k = b2 (a_ne a k) from t3]
        have := at90 (vI (v (a_fr a k)))
        refine ⟨fun e2 => ?_, fun e2 => ?_⟩
        · conv => whnf
          rw [b2_ne0.mp e2] at this
          rcases hm : v (a_fr a k) with _ | _ | _
          · exact absurd ((v2n _).mpr hm) e
          · rw [hm] at this; exact this
          · rw [hm] at this; exact this
        · conv => whnf
          rw [b2_eq0.mp e2] at this
          rcases hm : v (a_fr a k) with _ | _ | _
          · exact absurd ((v2n _).mpr hm) e
          · rw [hm] at this; exact this
          · rw [hm] at this; exact this
  refine hV [23] 60 _ _ _ _ _ _ ?_
  conv => whnf
  refine ⟨pk_in g 120 (by omega), ?_⟩
  conv => whnf
  rw [hcg]
  dsimp only
  rw [hso]
  refine ⟨fun e => ?_, fun e => ?_⟩
  · have e3 : a_so a g = 3 := by
      rcases s3 with q | q | q
      · exact absurd q hs0
      · exact absurd (by rw [q]; rfl) e
      · exact q
    have et : tr a g = true := by simp [tr, e3]
    conv => whnf
    rw [← nI_0]
    have := loop (a_f a) 0 none (by omega)
    rw [et] at this
    exact this
  · have e3 : a_so a g = 2 := by
      rw [show (2 : Int32) = nI 2 from rfl, nI_eq (by omega) (by omega)] at e
      exact e
    have et : tr a g = false := by simp [tr, e3]
    conv => whnf
    have := loop (a_f a) 0 none (by omega)
    rw [et] at this
    exact this
end
section
/-! The reference: what the gates settle at. -/
def sp_R_spread : cx_S := cx_self 4 (fun j r ws R => ∃ x n l m t q a c, ws = wd x n l m (wq t q) ∧ j = 25 ∧ r = [.inl (nI c)] ∧ rRn a t ∧ c < 256 ∧ ∀ va, (∀ p, p < a_g a → va p = vI (val a c p)) → R (.inl none) (wd x n l m (wq (ru_va t va) q)))
set_option maxRecDepth 100000 in
set_option maxHeartbeats 4000000 in
theorem pu_R_spread : ∀ as ws Rq, sp_R_spread as ws Rq → cx_cats as ≤ 4 ∧ ∀ V, cx_cl1 t_R_spread [(sp_R_made, 2, 0, 0)] [] [] 0 0 Rq V → V 0 (cx_lv0 as 4) [] ws 0 0 := by
  intro as ws Rq h0
  obtain ⟨j, r, fs0, rfl, hj, x, n, l, m, t, q, a, c, rfl, rfl, rfl, hR, hc, h⟩ := cx_self_spec h0
  refine ⟨Nat.le_of_ble_eq_true rfl, fun V hV => ?_⟩
  have hRv : ∀ va, rRn a (ru_va t va) := fun va => hR
  have hR2 := hR
  obtain ⟨⟨w1, w2, w3, w4, w5⟩, a2, a3, a4, a5, a6⟩ := hR2
  have a2' : t.1.2.1 = nI (a_g a) := a2
  obtain ⟨r0, hr0, hv0, hfix⟩ := val_stay a c
  have inner : ∀ (d g r : Nat) (more : Bool) (va : Nat → Int32), g + d = a_g a → (∀ p, p < a_g a → va p = vI (pas a (itr a c r) g p)) → (more = false → pas a (itr a c r) g = itr a c r) → (more = true → ∃ p, itr a c r p ≠ pas a (itr a c r) g p) →
      (∀ (more : Bool) (va : Nat → Int32) (s3 : Option cx_V), (∀ p, p < a_g a → va p = vI (itr a c (r + 1) p)) → (more = false → itr a c (r + 1) = itr a c r) → (more = true → itr a c (r + 1) ≠ itr a c r) → V 50 [some (.inr (.inr (.inl 25))), some (.inl (nI c)), some (.inl (b2 more)), s3] [] (wd x n l m (wq (ru_va t va) q)) 0 0) →
      V 58 [some (.inr (.inr (.inl 25))), some (.inl (nI c)), some (.inl (b2 more)), some (.inl (nI g))] [] (wd x n l m (wq (ru_va t va) q)) 0 0 := by
    intro d
    induction d with
    | zero =>
      intro g r more va hd h1 h2 h3 hK
      have : g = a_g a := by omega
      subst this
      refine hV [50] 60 _ _ _ _ _ _ ?_
      conv => whnf
      refine pk_le (a_g a) (a_g a) (fun _ => ?_) (fun e => absurd e (Nat.lt_irrefl _)) a2'
      conv => whnf
      refine hK more va _ h1 h2 (fun e q => ?_)
      obtain ⟨p, hp⟩ := h3 e
      exact hp (congrFun q p).symm
    | succ d ih =>
      intro g r more va hd h1 h2 h3 hK
      have hg1 : g < a_g a := by omega
      have hcg : (nI g).toNatClampNeg = g := nx_c (by omega)
      have ing : vp_in (nI g) 120 := pk_in g 120 (by omega)
      have hso : t.2.1.1 g = nI (a_so a g) := (a5 g hg1).1
      have s3 := (w4 g hg1).1
      have hcon := (pas_both (itr_con a c r) g (by omega)).1
      have hle := (pas_both (itr_con a c r) g (by omega)).2
      have hst : pas a (itr a c r) (g + 1) = mps a (pas a (itr a c r) g) g := (mps_eq hg1 hcon).symm
      have pass : a_so a g = 0 ∨ pas a (itr a c r) g g ≠ none → V 119 [some (.inr (.inr (.inl 25))), some (.inl (nI c)), some (.inl (b2 more)), some (.inl (nI g))] [] (wd x n l m (wq (ru_va t va) q)) 0 0 := by
        intro e
        have e2 : pas a (itr a c r) (g + 1) = pas a (itr a c r) g := by
          rw [hst]
          unfold mps
          rw [if_pos e]
        refine hV [58] 60 _ _ _ _ _ _ ?_
        conv => whnf
        rw [nI_1]
        exact ih (g + 1) r more va (by omega) (by rw [e2]; exact h1) (by rw [e2]; exact h2) (by rw [e2]; exact h3) hK
      refine hV [58, 119] 60 _ _ _ _ _ _ ?_
      conv => whnf
      refine pk_le (a_g a) g (fun _ => by omega) (fun _ => ?_) a2'
      conv => whnf
      refine ⟨ing, ?_⟩
      conv => whnf
      rw [hcg]
      dsimp only
      rw [show (ru_va t va).2.1.1 g = nI (a_so a g) from hso]
      refine ⟨fun e => ?_, fun e => ?_⟩
      · have hs0 : a_so a g = 0 := by
          rw [show (0 : Int32) = nI 0 from rfl, nI_eq (by omega) (by omega)] at e
          exact e
        exact pass (Or.inl hs0)
      have hs0 : a_so a g ≠ 0 := fun q => e (by rw [q]; rfl)
      conv => whnf
      refine ⟨ing, ?_⟩
      conv => whnf
      rw [hcg]
      dsimp only
      rw [show (ru_va t va).2.2.1.1 g = vI (pas a (itr a c r) g g) from h1 g hg1]
      refine ⟨fun e2 => ?_, fun e2 => ?_⟩
      rotate_left
      · have e3 : pas a (itr a c r) g g ≠ none := fun q => e2 ((v2n _).mpr q)
        conv => whnf
        exact pass (Or.inr e3)
      have e3 := (v2n _).mp e2
      have e4 : pas a (itr a c r) (g + 1) = fun p => if p = g then made a g (pas a (itr a c r) g) else pas a (itr a c r) g p := by
        rw [hst]
        unfold mps
        rw [if_neg (fun q => q.elim hs0 (fun q => q e3))]
      have e4' : ∀ p, pas a (itr a c r) (g + 1) p = if p = g then made a g (pas a (itr a c r) g) else pas a (itr a c r) g p := fun p => congrFun e4 p
      have e5 : itr a c r g = none := by
        rcases hle g with q | q
        · exact q
        · rw [q]; exact e3
      conv => whnf
      refine ⟨x, n, l, m, ru_va t va, q, a, g, pas a (itr a c r) g, rfl, rfl, rfl, hRv va, hg1, hs0, h1, ?_⟩
      conv => whnf
      refine ⟨ing, ?_⟩
      conv => whnf
      rw [hcg]
      have h1' : ∀ p, p < a_g a → upd va g (vI (made a g (pas a (itr a c r) g))) p = vI (pas a (itr a c r) (g + 1) p) := fun p hp => by
        rw [e4' p]
        by_cases ep : p = g
        · subst ep
          rw [pk_us, if_pos rfl]
        · rw [pk_un ep, if_neg ep]
          exact h1 p hp
      have go : ∀ more' : Bool, more' = (more || decide (made a g (pas a (itr a c r) g) ≠ none)) → V 119 [some (.inr (.inr (.inl 25))), some (.inl (nI c)), some (.inl (b2 more')), some (.inl (nI g))] [] (wd x n l m (wq (ru_va t (upd va g (vI (made a g (pas a (itr a c r) g))))) q)) 0 0 := by
        intro more' em
        refine hV [58] 60 _ _ _ _ _ _ ?_
        conv => whnf
        rw [nI_1]
        refine ih (g + 1) r more' _ (by omega) h1' (fun q => ?_) (fun q => ?_) hK
        · rw [q] at em
          have em2 := em.symm
          rw [Bool.or_eq_false_iff] at em2
          have em3 : made a g (pas a (itr a c r) g) = none := by simpa using em2.2
          funext p
          rw [e4' p]
          by_cases ep : p = g
          · subst ep
            rw [if_pos rfl, em3, e5]
          · rw [if_neg ep, h2 em2.1]
        · rw [q] at em
          have em2 := em.symm
          rw [Bool.or_eq_true] at em2
          rcases em2 with em3 | em3
          · obtain ⟨p, hp⟩ := h3 em3
            refine ⟨p, ?_⟩
            rw [e4' p]
            by_cases ep : p = g
            · subst ep
              rw [e3] at hp
              exact absurd e5 hp
            · rw [if_neg ep]
              exact hp
          · refine ⟨g, ?_⟩
            rw [e4' g, if_pos rfl, e5]
            have : made a g (pas a (itr a c r) g) ≠ none := by simpa using em3
            exact fun q => this q.symm
      cases more with
      | true =>
        refine ⟨fun _ => ?_, fun e => absurd e (by decide)⟩
        conv => whnf
        exact go true rfl
      | false =>
        refine ⟨fun e => absurd rfl e, fun _ => ?_⟩
        conv => whnf
        refine ⟨ing, ?_⟩
        conv => whnf
        rw [hcg]
        dsimp only
        rw [pk_us]
        refine ⟨fun e6 => ?_, fun e6 => ?_⟩
        · conv => whnf
          refine go false ?_
          have := (v2n _).mp e6
          simp [this]
        · conv => whnf
          refine go true ?_
          have : made a g (pas a (itr a c r) g) ≠ none := fun q => e6 ((v2n _).mpr q)
          simp [this]
  have outer : ∀ (d r : Nat) (va : Nat → Int32) (s3 : Option cx_V), r + d = r0 → (∀ p, p < a_g a → va p = vI (itr a c r p)) → V 50 [some (.inr (.inr (.inl 25))), some (.inl (nI c)), some (.inl (b2 true)), s3] [] (wd x n l m (wq (ru_va t va) q)) 0 0 := by
    intro d
    have fin : ∀ (r : Nat) (va : Nat → Int32) (s3 : Option cx_V), itr a c (r + 1) = itr a c r → (∀ p, p < a_g a → va p = vI (itr a c (r + 1) p)) → V 50 [some (.inr (.inr (.inl 25))), some (.inl (nI c)), some (.inl (b2 false)), s3] [] (wd x n l m (wq (ru_va t va) q)) 0 0 := by
      intro r va s3 e h1
      refine hV [] 60 _ _ _ _ _ _ ?_
      conv => whnf
      refine ⟨fun _ => ?_, fun e => absurd rfl e⟩
      conv => whnf
      refine h va (fun p hp => ?_)
      rw [h1 p hp, e, val_of_fix e]
    induction d with
    | zero =>
      intro r va s3 hd h1
      have : r = r0 := by omega
      subst this
      refine hV [58] 60 _ _ _ _ _ _ ?_
      conv => whnf
      refine ⟨fun e => absurd e (by decide), fun _ => ?_⟩
      conv => whnf
      rw [show (some (Sum.inl (0 : Int32)) : Option cx_V) = some (.inl (b2 false)) from rfl]
      refine inner (a_g a) 0 r false va (by omega) h1 (fun _ => rfl) (fun e => by cases e) (fun more va' s3 k1 k2 k3 => ?_)
      cases more with
      | false => exact fin r va' s3 (k2 rfl) k1
      | true => exact absurd hfix (k3 rfl)
    | succ d ih =>
      intro r va s3 hd h1
      refine hV [58] 60 _ _ _ _ _ _ ?_
      conv => whnf
      refine ⟨fun e => absurd e (by decide), fun _ => ?_⟩
      conv => whnf
      rw [show (some (Sum.inl (0 : Int32)) : Option cx_V) = some (.inl (b2 false)) from rfl]
      refine inner (a_g a) 0 r false va (by omega) h1 (fun _ => rfl) (fun e => by cases e) (fun more va' s3 k1 k2 k3 => ?_)
      cases more with
      | false => exact fin r va' s3 (k2 rfl) k1
      | true => exact ih (r + 1) va' s3 (by omega) k1
  have first : ∀ (d g : Nat) (va : Nat → Int32), g + d = a_g a → (∀ p, p < g → va p = vI (ini a c p)) → V 2 [some (.inr (.inr (.inl 25))), some (.inl (nI c)), some (.inl (nI g)), none] [] (wd x n l m (wq (ru_va t va) q)) 0 0 := by
    intro d
    induction d with
    | zero =>
      intro g va hd h1
      refine hV [50] 60 _ _ _ _ _ _ ?_
      conv => whnf
      refine pk_le (a_g a) g (fun _ => ?_) (fun _ => by omega) a2'
      conv => whnf
      exact outer r0 0 va none (by omega) (fun p hp => h1 p (by omega))
    | succ d ih =>
      intro g va hd h1
      have hg1 : g < a_g a := by omega
      have hcg : (nI g).toNatClampNeg = g := nx_c (by omega)
      have ing : vp_in (nI g) 120 := pk_in g 120 (by omega)
      obtain ⟨hso, hnu, hn8⟩ := a5 g hg1
      have s3 := w4 g hg1
      have go : ∀ v, v = vI (ini a c g) → V 42 [some (.inr (.inr (.inl 25))), some (.inl (nI c)), some (.inl (nI g)), none] [] (wd x n l m (wq (ru_va t (upd va g v)) q)) 0 0 := by
        intro v ev
        refine hV [2] 60 _ _ _ _ _ _ ?_
        conv => whnf
        rw [nI_1]
        refine ih (g + 1) _ (by omega) (fun p hp => ?_)
        by_cases ep : p = g
        · subst ep; rw [pk_us]; exact ev
        · rw [pk_un ep]; exact h1 p (by omega)
      refine hV [42] 60 _ _ _ _ _ _ ?_
      conv => whnf
      refine pk_le (a_g a) g (fun _ => by omega) (fun _ => ?_) a2'
      conv => whnf
      refine ⟨ing, ?_⟩
      conv => whnf
      rw [hcg]
      dsimp only
      rw [show (ru_va t va).2.1.1 g = nI (a_so a g) from hso]
      refine ⟨fun e => ?_, fun e => ?_⟩
      · have hs0 : a_so a g ≠ 0 := fun q => e (by rw [q]; rfl)
        conv => whnf
        refine ⟨ing, ?_⟩
        conv => whnf
        rw [hcg]
        exact go 2 (by simp [ini, hs0, vI])
      · have hs0 : a_so a g = 0 := by
          rw [show (0 : Int32) = nI 0 from rfl, nI_eq (by omega) (by omega)] at e
          exact e
        have hn7 := s3.2 hs0
        conv => whnf
        refine ⟨ing, ?_⟩
        conv => whnf
        refine ⟨ing, ?_⟩
        conv => whnf
        rw [hcg]
        dsimp only
        rw [show (ru_va t va).2.1.2.1 g = nI (a_nu a g) from hnu]
        refine go _ ?_
        rw [cb_val hn7 (by omega)]
        have e2 : ini a c g = some (cb (a_nu a g) c) := by simp [ini, hs0]
        rw [e2, ← cb_bn]
        cases cb (a_nu a g) c <;> rfl
  refine hV [2] 60 _ _ _ _ _ _ ?_
  conv => whnf
  rw [← nI_0]
  exact first (a_g a) 0 (rt_va t) (by omega) (fun p hp => by omega)
def sp_R_value : cx_S := cx_self 4 (fun j r ws R => ∃ x n l m t q A g c, ws = wd x n l m (wq t q) ∧ j = 25 ∧ r = [.inl g, .inl c] ∧ rR A t ∧ ansR (valS A g c) x n l m q R)
set_option maxRecDepth 100000 in
theorem pu_R_value : ∀ as ws Rq, sp_R_value as ws Rq → cx_cats as ≤ 3 ∧ ∀ V, cx_cl1 t_R_value [(sp_R_isGate, 2, 0, 0), (sp_R_fails, 3, 0, 0), (sp_R_spread, 2, 0, 0)] [] [] 0 0 Rq V → V 0 (cx_lv0 as 3) [] ws 0 0 := by
  intro as ws Rq h0
  obtain ⟨j, r, fs0, rfl, hj, x, n, l, m, t, q, A, g, c, rfl, rfl, rfl, hR, h⟩ := cx_self_spec h0
  refine ⟨Nat.le_of_ble_eq_true rfl, fun V hV => ?_⟩
  have a2 := hR.1.2.1
  have w1 := hR.1.1.1
  have no : (hg g (nI (a_g (s_a A))) && hg c 256) = false → V 20 [some (.inr (.inr (.inl 25))), some (.inl g), some (.inl c)] [.inr (.inr (.inl 25))] (wd x n l m (wq t q)) 0 0 := by
    intro e
    refine hV [] 60 _ _ _ _ _ _ ?_
    conv => whnf
    refine ⟨x, n, l, m, t, q, true, false, 1, rfl, rfl, rfl, rfl, ?_⟩
    conv => whnf
    refine ⟨fun e => absurd e (by decide), fun _ => ?_⟩
    conv => whnf
    have e2 : valS A g c = (0 + 1, 0, A) := by
      unfold valS
      rw [if_neg (by rw [e]; simp)]
    exact ⟨fun e => absurd e (by decide), ansR_thr h e2 (t := ru_th t 1) hR rfl⟩
  refine hV [20] 60 _ _ _ _ _ _ ?_
  conv => whnf
  refine ⟨x, n, l, m, t, q, g, rfl, rfl, rfl, ?_⟩
  rw [a2]
  conv => whnf
  refine ⟨fun e => no (by rw [b2_eq0.mp e]; rfl), fun e => ?_⟩
  have hg1 := b2_ne0.mp e
  conv => whnf
  refine ⟨fun e => no (by rw [show hg c 256 = false by simp [hg, e], Bool.and_false]), fun e1 => ?_⟩
  conv => whnf
  refine ⟨fun e2 => ?_, fun e2 => ?_⟩
  rotate_left
  · refine no ?_
    have : hg c 256 = false := by
      cases hh : hg c 256 with
      | false => rfl
      | true =>
        obtain ⟨j, hj1, rfl⟩ := hg_256 hh
        exact absurd (nI_le (a := j) (b := 255) (by omega) (by omega)) e2
    rw [this, Bool.and_false]
  have hc : hg c 256 = true := by
    obtain ⟨j, hj1, rfl⟩ := nI_of2 (M := 255) (n := 255) (by decide) e1 e2
    exact hg_in (n := 256) (by omega) (by omega)
  obtain ⟨g, hg2, rfl⟩ := hg_of (by omega) hg1
  obtain ⟨c, hc2, rfl⟩ := hg_256 hc
  conv => whnf
  refine ⟨x, n, l, m, t, q, false, false, 0, rfl, rfl, rfl, rfl, ?_⟩
  conv => whnf
  refine ⟨fun _ => ?_, fun e => absurd rfl e⟩
  conv => whnf
  refine ⟨x, n, l, m, ru_th t 0, q, s_a A, c, rfl, rfl, rfl, hR.1, hc2, fun va hva => ?_⟩
  conv => whnf
  refine ⟨pk_in g 120 (by omega), ?_⟩
  conv => whnf
  rw [nx_c (show g < 2 ^ 31 by omega)]
  refine ⟨fun e => absurd e (by decide), ?_⟩
  show Rq (.inl (some (.inl (va g)))) _
  rw [hva g hg2]
  refine ansR_ret h (A := A) ?_ (t := ((0, rt_g t, rt_f t, rt_i t, rt_on t), (rt_so t, rt_nu t, rt_to t, rt_fr t, rt_nm t, rt_ne t), (va, rt_la t, rt_tb t, rt_w t, rt_in t), (rt_lo t, rt_hi t, rt_far t, rt_ro t, rt_mk t))) hR rfl
  unfold valS
  rw [hg1, hc, if_pos (show (true && true) = true from rfl), nx_c (show g < 2 ^ 31 by omega), nx_c (show c < 2 ^ 31 by omega)]
end
section
/-! The reference: tables of words. -/
theorem ru_w_self (t : wR) : ru_w t (rt_w t) = t := rfl
theorem ru_va_self (t : wR) : ru_va t (rt_va t) = t := rfl
theorem ru_it_self (t : wR) : ru_tb (ru_in t (rt_in t)) (rt_tb t) = t := rfl
def tw (w : Nat → Int64) (T : Nat) : Ky := tt (fun k => w (4 * T + k))
theorem tw_in {w : Nat → Int64} {T c : Nat} (hc : c < 256) : tw w T c = lb (w (4 * T + c / 64)) (c % 64) := lb_tt hc
theorem nf_tw (w : Nat → Int64) (T : Nat) : nf (tw w T) := nf_tt _
theorem tw_other {w w' : Nat → Int64} {T : Nat} (h : ∀ k, k / 4 ≠ T → w' k = w k) {T' : Nat} (hT : T' ≠ T) : tw w' T' = tw w T' := nf_ext (nf_tw _ _) (nf_tw _ _) (fun c hc => by
  rw [tw_in hc, tw_in hc, h _ (by omega)])
theorem tw_ext {w : Nat → Int64} {a b : Nat} : tw w a = tw w b ↔ ∀ k, k < 4 → w (4 * a + k) = w (4 * b + k) := by
  constructor
  · intro h k hk
    refine lb_ext (fun i hi => ?_)
    have := congrFun h (64 * k + i)
    rw [tw_in (by omega), tw_in (by omega), show (64 * k + i) / 64 = k by omega, show (64 * k + i) % 64 = i by omega] at this
    exact this
  · intro h
    refine nf_ext (nf_tw _ _) (nf_tw _ _) (fun c hc => ?_)
    rw [tw_in hc, tw_in hc, h (c / 64) (by omega)]
theorem ix4 {T c : Nat} (hT : T < 2022) (hc : c < 256) : ((4 : Int32) * nI T + (nI c >>> ((6 : Int32) &&& 31))) = nI (4 * T + c / 64) := by
  rw [show (4 : Int32) = nI 4 from rfl, pk_mul, show (6 : Int32) = nI 6 from rfl, nx_shr (by omega) (by omega), nI_add]
def sp_R_truth : cx_S := cx_self 4 (fun j r ws R => ∃ x n l m t q T c, ws = wd x n l m (wq t q) ∧ j = 25 ∧ r = [.inl (nI T), .inl (nI c)] ∧ T < 2022 ∧ c < 256 ∧ R (.inl (some (.inl (b2 (tw (rt_w t) T c))))) ws)
theorem pu_R_truth : ∀ as ws Rq, sp_R_truth as ws Rq → cx_cats as ≤ 3 ∧ ∀ V, cx_cl1 t_R_truth [] [] [] 0 0 Rq V → V 0 (cx_lv0 as 3) [] ws 0 0 := by
  intro as ws Rq h0
  obtain ⟨j, r, fs0, rfl, hj, x, n, l, m, t, q, T, c, rfl, rfl, rfl, hT, hc, h⟩ := cx_self_spec h0
  refine ⟨Nat.le_of_ble_eq_true rfl, fun V hV => hV [] 40 _ _ _ _ _ _ ?_⟩
  have e1 := ix4 hT hc
  conv => whnf
  refine ⟨pk_in (4 * T + c / 64) 8088 (by omega) e1, ?_⟩
  conv => whnf
  rw [e1, nx_c (show 4 * T + c / 64 < 2 ^ 31 by omega), nx_and63 (by omega), lb_sshr1 (Nat.mod_lt _ (by decide)), lc_bit]
  rw [tw_in hc] at h
  dsimp only
  cases hb : lb (rt_w t (4 * T + c / 64)) (c % 64) with
  | true =>
    rw [hb] at h
    refine ⟨fun e => absurd rfl e, fun _ => ?_⟩
    conv => whnf
    exact ⟨fun _ => Or.inr rfl, h⟩
  | false =>
    rw [hb] at h
    refine ⟨fun _ => ?_, fun e => absurd e (by decide)⟩
    conv => whnf
    exact ⟨fun _ => Or.inl rfl, h⟩
def sp_R_set : cx_S := cx_self 4 (fun j r ws R => ∃ x n l m t q T c, ws = wd x n l m (wq t q) ∧ j = 25 ∧ r = [.inl (nI T), .inl (nI c)] ∧ T < 2022 ∧ c < 256 ∧ ∀ w, (∀ k, k / 4 ≠ T → w k = rt_w t k) → (∀ d, d < 256 → tw w T d = (tw (rt_w t) T d || decide (d = c))) → R (.inl none) (wd x n l m (wq (ru_w t w) q)))
set_option maxRecDepth 100000 in
theorem pu_R_set : ∀ as ws Rq, sp_R_set as ws Rq → cx_cats as ≤ 3 ∧ ∀ V, cx_cl1 t_R_set [] [] [] 0 0 Rq V → V 0 (cx_lv0 as 3) [] ws 0 0 := by
  intro as ws Rq h0
  obtain ⟨j, r, fs0, rfl, hj, x, n, l, m, t, q, T, c, rfl, rfl, rfl, hT, hc, h⟩ := cx_self_spec h0
  refine ⟨Nat.le_of_ble_eq_true rfl, fun V hV => hV [] 40 _ _ _ _ _ _ ?_⟩
  have e1 := ix4 hT hc
  have hin : vp_in ((4 : Int32) * nI T + (nI c >>> ((6 : Int32) &&& 31))) 8088 := pk_in (4 * T + c / 64) 8088 (by omega) e1
  conv => whnf
  refine ⟨hin, ?_⟩
  conv => whnf
  refine ⟨hin, ?_⟩
  conv => whnf
  rw [e1, nx_c (show 4 * T + c / 64 < 2 ^ 31 by omega), nx_and63 (by omega)]
  refine h (vp_updL (rt_w t) (4 * T + c / 64) _) (fun k hk => pk_uLn (by omega)) (fun d hd => ?_)
  rw [tw_in hd, tw_in hd]
  by_cases e : d / 64 = c / 64
  · rw [e, pk_uLs, lb_or, lb_shl1 (Nat.mod_lt _ (by decide)) (Nat.mod_lt _ (by decide))]
    congr 1
    by_cases e2 : d = c
    · simp [e2]
    · have : ¬ d % 64 = c % 64 := by omega
      simp [e2, this]
  · have e2 : d ≠ c := fun q => e (by rw [q])
    rw [pk_uLn (by omega)]
    simp [e2]
def sp_R_empty : cx_S := cx_self 4 (fun j r ws R => ∃ x n l m t q T, ws = wd x n l m (wq t q) ∧ j = 25 ∧ r = [.inl (nI T)] ∧ T < 2022 ∧ ∀ w, (∀ k, k / 4 ≠ T → w k = rt_w t k) → (∀ d, d < 256 → tw w T d = false) → R (.inl none) (wd x n l m (wq (ru_w t w) q)))
set_option maxRecDepth 100000 in
theorem pu_R_empty : ∀ as ws Rq, sp_R_empty as ws Rq → cx_cats as ≤ 3 ∧ ∀ V, cx_cl1 t_R_empty [] [] [] 0 0 Rq V → V 0 (cx_lv0 as 3) [] ws 0 0 := by
  intro as ws Rq h0
  obtain ⟨j, r, fs0, rfl, hj, x, n, l, m, t, q, T, rfl, rfl, rfl, hT, h⟩ := cx_self_spec h0
  refine ⟨Nat.le_of_ble_eq_true rfl, fun V hV => ?_⟩
  have loop : ∀ (d k : Nat) (w : Nat → Int64), k + d = 4 → (∀ i, i / 4 ≠ T → w i = rt_w t i) → (∀ i, i < k → w (4 * T + i) = 0) → V 2 [some (.inr (.inr (.inl 25))), some (.inl (nI T)), some (.inl (nI k))] [] (wd x n l m (wq (ru_w t w) q)) 0 0 := by
    intro d
    induction d with
    | zero =>
      intro k w hd h1 h2
      refine hV [] 40 _ _ _ _ _ _ ?_
      conv => whnf
      refine pk_le 4 k (fun _ => ?_) (fun _ => by omega)
      conv => whnf
      refine h w h1 (fun d hd => ?_)
      rw [tw_in hd, h2 _ (by omega), lb_0]
    | succ d ih =>
      intro k w hd h1 h2
      have e1 : ((4 : Int32) * nI T + nI k) = nI (4 * T + k) := by rw [show (4 : Int32) = nI 4 from rfl, pk_mul, nI_add]
      refine hV [2] 40 _ _ _ _ _ _ ?_
      conv => whnf
      refine pk_le 4 k (fun _ => by omega) (fun _ => ?_)
      conv => whnf
      refine ⟨pk_in (4 * T + k) 8088 (by omega) e1, ?_⟩
      conv => whnf
      rw [e1, nx_c (show 4 * T + k < 2 ^ 31 by omega), nI_1]
      dsimp only [ru_w]
      generalize hw' : vp_updL w (4 * T + k) 0 = w'
      refine ih (k + 1) w' (by omega) (fun i hi => ?_) (fun i hi => ?_)
      · rw [← hw', pk_uLn (by omega)]; exact h1 i hi
      · rw [← hw']
        by_cases e : i = k
        · subst e; exact pk_uLs
        · rw [pk_uLn (by omega)]; exact h2 i (by omega)
  refine hV [2] 40 _ _ _ _ _ _ ?_
  conv => whnf
  rw [← nI_0]
  have := loop 4 0 (rt_w t) (by omega) (fun i hi => rfl) (fun i hi => by omega)
  rw [ru_w_self] at this
  exact this
def fl (k c : Nat) : Nat := if c / 2 ^ (7 - k) % 2 = 0 then c + 2 ^ (7 - k) else c - 2 ^ (7 - k)
theorem flI : ∀ k, k < 8 → ∀ c, c < 256 → nI c ^^^ ((128 : Int32) >>> (nI k &&& 31)) = nI (fl k c) := by decide +kernel
theorem fl_lt : ∀ k, k < 8 → ∀ c, c < 256 → fl k c < 256 ∧ fl k c % 2 ^ (7 - k) = c % 2 ^ (7 - k) ∧ (c % 2 ^ (8 - k) = c % 2 ^ (7 - k) ∨ fl k (c % 2 ^ (8 - k)) = c % 2 ^ (7 - k)) := by decide +kernel
theorem dk_fl {f : Ky} {k : Nat} (hk : k < 8) (hd : dk f k) (h : ∀ c, c < 256 → f c = f (fl k c)) : dk f (k + 1) := fun c hc => by
  rw [show 8 - (k + 1) = 7 - k by omega, hd c hc]
  rcases (fl_lt k hk c hc).2.2 with e | e
  · rw [e]
  · rw [h _ pw_lt, e]
theorem fl_dk {f : Ky} {k : Nat} (hk : k < 8) (hd : dk f (k + 1)) {c : Nat} (hc : c < 256) : f c = f (fl k c) := by
  rw [hd c hc, hd _ (fl_lt k hk c hc).1, show 8 - (k + 1) = 7 - k by omega, (fl_lt k hk c hc).2.1]
def sp_R_depends : cx_S := cx_self 4 (fun j r ws R => ∃ x n l m t q T, ws = wd x n l m (wq t q) ∧ j = 25 ∧ r = [.inl (nI T)] ∧ T < 2022 ∧ R (.inl (some (.inl (nI (fd (tw (rt_w t) T)))))) ws)
theorem pu_R_depends : ∀ as ws Rq, sp_R_depends as ws Rq → cx_cats as ≤ 4 ∧ ∀ V, cx_cl1 t_R_depends [(sp_R_truth, 3, 0, 0)] [] [] 0 0 Rq V → V 0 (cx_lv0 as 4) [] ws 0 0 := by
  intro as ws Rq h0
  obtain ⟨j, r, fs0, rfl, hj, x, n, l, m, t, q, T, rfl, rfl, rfl, hT, h⟩ := cx_self_spec h0
  refine ⟨Nat.le_of_ble_eq_true rfl, fun V hV => ?_⟩
  have inner : ∀ (d c k : Nat), c + d = 256 → k < 8 → dk (tw (rt_w t) T) k → (∀ i, i < c → tw (rt_w t) T i = tw (rt_w t) T (fl k i)) → (∀ s3, dk (tw (rt_w t) T) (k + 1) → V 46 [some (.inr (.inr (.inl 25))), some (.inl (nI T)), some (.inl (nI k)), s3] [] (wd x n l m (wq t q)) 0 0) →
      V 10 [some (.inr (.inr (.inl 25))), some (.inl (nI T)), some (.inl (nI k)), some (.inl (nI c))] [] (wd x n l m (wq t q)) 0 0 := by
    intro d
    induction d with
    | zero =>
      intro c k hd hk h1 h2 hK
      refine hV [46] 40 _ _ _ _ _ _ ?_
      conv => whnf
      refine pk_le 256 c (fun _ => ?_) (fun _ => by omega)
      exact hK _ (dk_fl hk h1 (fun i hi => h2 i (by omega)))
    | succ d ih =>
      intro c k hd hk h1 h2 hK
      refine hV [10, 46] 40 _ _ _ _ _ _ ?_
      conv => whnf
      refine pk_le 256 c (fun _ => by omega) (fun _ => ?_)
      conv => whnf
      refine ⟨x, n, l, m, t, q, T, c, rfl, rfl, rfl, hT, by omega, ?_⟩
      conv => whnf
      rw [flI k hk c (by omega)]
      refine ⟨x, n, l, m, t, q, T, fl k c, rfl, rfl, rfl, hT, (fl_lt k hk c (by omega)).1, ?_⟩
      conv => whnf
      refine ⟨fun e => ?_, fun e => ?_⟩
      · have e2 : tw (rt_w t) T c = tw (rt_w t) T (fl k c) := by
          cases h3 : tw (rt_w t) T c <;> cases h4 : tw (rt_w t) T (fl k c)
          · rfl
          · rw [h3, h4] at e; exact absurd e (by decide)
          · rw [h3, h4] at e; exact absurd e (by decide)
          · rfl
        conv => whnf
        rw [nI_1]
        refine ih (c + 1) k (by omega) hk h1 (fun i hi => ?_) hK
        by_cases ei : i = c
        · subst ei; exact e2
        · exact h2 i (by omega)
      · conv => whnf
        refine ⟨fun e => absurd e (by decide), ?_⟩
        have e3 : fd (tw (rt_w t) T) = k := by
          have g1 := fd_max h1 (by omega)
          rcases Nat.lt_or_ge (fd (tw (rt_w t) T)) (k + 1) with g | g
          · omega
          · exfalso
            have g2 := fl_dk hk (dk_anti (fd_dk _) g (fd_le _)) (c := c) (by omega)
            exact e (by rw [← g2])
        rw [e3] at h
        exact h
  have outer : ∀ (d k : Nat) (s3 : Option cx_V), k + d = 8 → dk (tw (rt_w t) T) k → V 2 [some (.inr (.inr (.inl 25))), some (.inl (nI T)), some (.inl (nI k)), s3] [] (wd x n l m (wq t q)) 0 0 := by
    intro d
    induction d with
    | zero =>
      intro k s3 hd h1
      have : k = 8 := by omega
      subst this
      refine hV [] 40 _ _ _ _ _ _ ?_
      conv => whnf
      refine ⟨fun _ => ?_, fun e => absurd (by decide) e⟩
      conv => whnf
      refine ⟨fun e => absurd e (by decide), ?_⟩
      have e3 : fd (tw (rt_w t) T) = 8 := Nat.le_antisymm (fd_le _) (fd_max h1 (Nat.le_refl _))
      rw [e3] at h
      exact h
    | succ d ih =>
      intro k s3 hd h1
      refine hV [10] 40 _ _ _ _ _ _ ?_
      conv => whnf
      refine pk_le 8 k (fun _ => by omega) (fun _ => ?_)
      conv => whnf
      rw [← nI_0]
      refine inner 256 0 k (by omega) (by omega) h1 (fun i hi => by omega) (fun s3 h2 => ?_)
      refine hV [2] 40 _ _ _ _ _ _ ?_
      conv => whnf
      rw [nI_1]
      exact ih (k + 1) s3 (by omega) h2
  refine hV [2] 40 _ _ _ _ _ _ ?_
  conv => whnf
  rw [← nI_0]
  exact outer 8 0 none (by omega) (dk_0 _)
def sp_R_same : cx_S := cx_self 4 (fun j r ws R => ∃ x n l m t q a b, ws = wd x n l m (wq t q) ∧ j = 25 ∧ r = [.inl (nI a), .inl (nI b)] ∧ a < 2022 ∧ b < 2022 ∧ ∀ e : Bool, (e = true ↔ tw (rt_w t) a = tw (rt_w t) b) → R (.inl (some (.inl (b2 e)))) ws)
theorem pu_R_same : ∀ as ws Rq, sp_R_same as ws Rq → cx_cats as ≤ 5 ∧ ∀ V, cx_cl1 t_R_same [] [] [] 0 0 Rq V → V 0 (cx_lv0 as 5) [] ws 0 0 := by
  intro as ws Rq h0
  obtain ⟨j, r, fs0, rfl, hj, x, n, l, m, t, q, a, b, rfl, rfl, rfl, ha, hb, h⟩ := cx_self_spec h0
  refine ⟨Nat.le_of_ble_eq_true rfl, fun V hV => ?_⟩
  have loop : ∀ (d k : Nat) (e : Bool), k + d = 4 → (e = true ↔ ∀ i, i < k → rt_w t (4 * a + i) = rt_w t (4 * b + i)) → V 5 [some (.inr (.inr (.inl 25))), some (.inl (nI a)), some (.inl (nI b)), some (.inl (b2 e)), some (.inl (nI k))] [] (wd x n l m (wq t q)) 0 0 := by
    intro d
    induction d with
    | zero =>
      intro k e hd he
      refine hV [] 40 _ _ _ _ _ _ ?_
      conv => whnf
      refine pk_le 4 k (fun _ => ?_) (fun _ => by omega)
      conv => whnf
      refine ⟨fun _ => b2_01 e, h e (he.trans ?_)⟩
      rw [tw_ext, show k = 4 by omega]
    | succ d ih =>
      intro k e hd he
      have ea : ((4 : Int32) * nI a + nI k) = nI (4 * a + k) := by rw [show (4 : Int32) = nI 4 from rfl, pk_mul, nI_add]
      have eb : ((4 : Int32) * nI b + nI k) = nI (4 * b + k) := by rw [show (4 : Int32) = nI 4 from rfl, pk_mul, nI_add]
      refine hV [5] 40 _ _ _ _ _ _ ?_
      conv => whnf
      refine pk_le 4 k (fun _ => by omega) (fun _ => ?_)
      conv => whnf
      cases e with
      | false =>
        refine ⟨fun _ => ?_, fun e => absurd rfl e⟩
        conv => whnf
        rw [nI_1]
        refine ih (k + 1) false (by omega) ⟨fun q => (by cases q), fun q => he.mpr (fun i hi => q i (by omega))⟩
      | true =>
        refine ⟨fun e => absurd e (by decide), fun _ => ?_⟩
        conv => whnf
        refine ⟨pk_in (4 * a + k) 8088 (by omega) ea, ?_⟩
        conv => whnf
        refine ⟨pk_in (4 * b + k) 8088 (by omega) eb, ?_⟩
        conv => whnf
        rw [ea, eb, nx_c (show 4 * a + k < 2 ^ 31 by omega), nx_c (show 4 * b + k < 2 ^ 31 by omega)]
        refine ⟨fun e2 => ?_, fun e2 => ?_⟩
        · have e3 : rt_w t (4 * a + k) ≠ rt_w t (4 * b + k) := fun q => e2 (lc_eq.mpr q)
          conv => whnf
          rw [nI_1]
          exact ih (k + 1) false (by omega) ⟨fun q => (by cases q), fun q => absurd (q k (by omega)) e3⟩
        · have e3 : rt_w t (4 * a + k) = rt_w t (4 * b + k) := lc_eq.mp e2
          conv => whnf
          rw [nI_1]
          refine ih (k + 1) true (by omega) ⟨fun _ i hi => ?_, fun _ => rfl⟩
          by_cases ei : i = k
          · subst ei; exact e3
          · exact he.mp rfl i (by omega)
  refine hV [5] 40 _ _ _ _ _ _ ?_
  conv => whnf
  rw [← nI_0]
  exact loop 4 0 true (by omega) ⟨fun _ i hi => by omega, fun _ => rfl⟩
def fxx (k b c : Nat) : Nat := c / 2 ^ (8 - k) * 2 ^ (8 - k) + b * 2 ^ (7 - k) + c % 2 ^ (7 - k)
theorem fxI1 : ∀ k, k < 8 → ∀ c, c < 256 → nI c ||| ((128 : Int32) >>> (nI k &&& 31)) = nI (fxx k 1 c) := by decide +kernel
theorem fxI0 : ∀ k, k < 8 → ∀ c, c < 256 → nI c &&& (((128 : Int32) >>> (nI k &&& 31)) ^^^ (-1)) = nI (fxx k 0 c) := by decide +kernel
theorem fxx_lt : ∀ k, k < 8 → ∀ b, b < 2 → ∀ c, c < 256 → fxx k b c < 256 ∧ fxx k b c % 2 ^ (8 - k) = b * 2 ^ (7 - k) + c % 2 ^ (7 - k) := by decide +kernel
theorem fxx_sub {f : Ky} {k b : Nat} (hk : k < 8) (hb : b < 2) (hd : dk f k) {c : Nat} (hc : c < 256) : f (fxx k b c) = sub f (k + 1) b c := by
  obtain ⟨h1, h2⟩ := fxx_lt k hk b hb c hc
  rw [hd _ h1, h2, sub_in hc, show 8 - (k + 1) = 7 - k by omega]
def sp_R_fix : cx_S := cx_self 4 (fun j r ws R => ∃ x n l m t q T k b N, ws = wd x n l m (wq t q) ∧ j = 25 ∧ r = [.inl (nI T), .inl (nI k), .inl (nI b)] ∧ T < 2022 ∧ k < 8 ∧ b < 2 ∧ rt_tb t = nI N ∧ N ≤ 874 ∧ T ≠ 20 + N ∧ ∀ w, (∀ i, i / 4 ≠ 20 + N → w i = rt_w t i) → (∀ d, d < 256 → tw w (20 + N) d = tw (rt_w t) T (fxx k b d)) → R (.inl none) (wd x n l m (wq (ru_w t w) q)))
set_option maxRecDepth 100000 in
theorem pu_R_fix : ∀ as ws Rq, sp_R_fix as ws Rq → cx_cats as ≤ 6 ∧ ∀ V, cx_cl1 t_R_fix [(sp_R_empty, 2, 0, 0), (sp_R_truth, 3, 0, 0), (sp_R_set, 3, 0, 0)] [] [] 0 0 Rq V → V 0 (cx_lv0 as 6) [] ws 0 0 := by
  intro as ws Rq h0
  obtain ⟨j, r, fs0, rfl, hj, x, n, l, m, t, q, T, k, b, N, rfl, rfl, rfl, hT, hk, hb, htb, hN, hTN, h⟩ := cx_self_spec h0
  refine ⟨Nat.le_of_ble_eq_true rfl, fun V hV => ?_⟩
  have e20 : ((20 : Int32) + t.2.2.1.2.2.1) = nI (20 + N) := by
    rw [show t.2.2.1.2.2.1 = nI N from htb, show (20 : Int32) = nI 20 from rfl, nI_add]
  have loop : ∀ (d c : Nat) (w : Nat → Int64) (s5 : Option cx_V), c + d = 256 → (∀ i, i / 4 ≠ 20 + N → w i = rt_w t i) → (∀ i, i < 256 → tw w (20 + N) i = (decide (i < c) && tw (rt_w t) T (fxx k b i))) → V 14 [some (.inr (.inr (.inl 25))), some (.inl (nI T)), some (.inl (nI k)), some (.inl (nI b)), some (.inl (nI c)), s5] [] (wd x n l m (wq (ru_w t w) q)) 0 0 := by
    intro d
    induction d with
    | zero =>
      intro c w s5 hd h1 h2
      refine hV [] 60 _ _ _ _ _ _ ?_
      conv => whnf
      refine pk_le 256 c (fun _ => ?_) (fun _ => by omega)
      conv => whnf
      refine h w h1 (fun d hd => ?_)
      rw [h2 d hd]
      simp [show d < c by omega]
    | succ d ih =>
      intro c w s5 hd h1 h2
      have hx := (fxx_lt k hk b hb c (by omega)).1
      have at48 : V 48 [some (.inr (.inr (.inl 25))), some (.inl (nI T)), some (.inl (nI k)), some (.inl (nI b)), some (.inl (nI c)), s5] [.inl (nI (fxx k b c))] (wd x n l m (wq (ru_w t w) q)) 0 0 := by
        refine hV [14] 60 _ _ _ _ _ _ ?_
        conv => whnf
        refine ⟨x, n, l, m, ru_w t w, q, T, fxx k b c, rfl, rfl, rfl, hT, hx, ?_⟩
        conv => whnf
        rw [show tw (rt_w (ru_w t w)) T = tw (rt_w t) T from tw_other h1 hTN]
        cases hv : tw (rt_w t) T (fxx k b c) with
        | false =>
          refine ⟨fun _ => ?_, fun e => absurd rfl e⟩
          conv => whnf
          rw [nI_1]
          refine ih (c + 1) w _ (by omega) h1 (fun i hi => ?_)
          rw [h2 i hi]
          by_cases e : i = c
          · subst e; simp [hv]
          · have : decide (i < c + 1) = decide (i < c) := by simp; omega
            rw [this]
        | true =>
          refine ⟨fun e => absurd e (by decide), fun _ => ?_⟩
          conv => whnf
          rw [show ((20 : Int32) + (ru_w t w).2.2.1.2.2.1) = nI (20 + N) from e20]
          refine ⟨x, n, l, m, ru_w t w, q, 20 + N, c, rfl, rfl, rfl, by omega, by omega, fun w' k1 k2 => ?_⟩
          conv => whnf
          rw [nI_1]
          refine ih (c + 1) w' _ (by omega) (fun i hi => (k1 i hi).trans (h1 i hi)) (fun i hi => ?_)
          rw [k2 i hi, show tw (rt_w (ru_w t w)) (20 + N) i = tw w (20 + N) i from rfl, h2 i hi]
          by_cases e : i = c
          · subst e; simp [hv]
          · have : decide (i < c + 1) = decide (i < c) := by simp; omega
            rw [this]
            simp [e]
      have hb' : b = 0 ∨ b = 1 := by omega
      refine hV [48] 60 _ _ _ _ _ _ ?_
      conv => whnf
      refine pk_le 256 c (fun _ => by omega) (fun _ => ?_)
      conv => whnf
      rcases hb' with rfl | rfl
      · refine ⟨fun _ => ?_, fun e => absurd e (by decide)⟩
        conv => whnf
        rw [fxI0 k hk c (by omega)]
        exact at48
      · refine ⟨fun e => absurd (by decide) e, fun _ => ?_⟩
        conv => whnf
        rw [fxI1 k hk c (by omega)]
        exact at48
  refine hV [14] 60 _ _ _ _ _ _ ?_
  conv => whnf
  rw [e20]
  refine ⟨x, n, l, m, t, q, 20 + N, rfl, rfl, rfl, by omega, fun w k1 k2 => ?_⟩
  conv => whnf
  rw [← nI_0]
  exact loop 256 0 w none (by omega) k1 (fun i hi => by rw [k2 i hi]; simp)
theorem tab_bound {J : Nat} {fs : Nat → Ky} {T : Nat} {ks : Nat → Ky} (hJ : J ≤ 20) (hinj : ∀ i, i < T → ∀ j, j < T → ks i = ks j → i = j) (hm : ∀ i, i < T → fd (ks i) < 8 ∧ memK J fs (ks i)) : T ≤ 874 := by
  have := key_bound (J := J) (N := T + 2) (fs := fs) (ks := fun n => if n = T then kF else if n = T + 1 then kT else ks n) hJ (fun n hn => ?_) (fun i hi j hj e => ?_)
  · omega
  · by_cases e1 : n = T
    · simp only [e1, if_true]; exact Or.inr ⟨fd_kF, nf_kF⟩
    · by_cases e2 : n = T + 1
      · simp only [e2, if_true]
        rw [if_neg (by omega)]
        exact Or.inr ⟨fd_kT, nf_kT⟩
      · simp only [e1, e2, if_false]
        exact Or.inl (hm n (by omega)).2
  · have fdc : ∀ n, n < T → ks n ≠ kF ∧ ks n ≠ kT := fun n hn => ⟨fun q => by have := (hm n hn).1; rw [q, fd_kF] at this; omega, fun q => by have := (hm n hn).1; rw [q, fd_kT] at this; omega⟩
    have ev : ∀ n, n < T + 2 → (n < T ∧ (if n = T then kF else if n = T + 1 then kT else ks n) = ks n) ∨ (n = T ∧ (if n = T then kF else if n = T + 1 then kT else ks n) = kF) ∨ (n = T + 1 ∧ (if n = T then kF else if n = T + 1 then kT else ks n) = kT) := fun n hn => by
      by_cases e1 : n = T
      · exact Or.inr (Or.inl ⟨e1, if_pos e1⟩)
      · by_cases e2 : n = T + 1
        · exact Or.inr (Or.inr ⟨e2, by rw [if_neg e1, if_pos e2]⟩)
        · exact Or.inl ⟨by omega, by rw [if_neg e1, if_neg e2]⟩
    have e' : (if i = T then kF else if i = T + 1 then kT else ks i) = (if j = T then kF else if j = T + 1 then kT else ks j) := e
    rcases ev i hi with ⟨i1, i2⟩ | ⟨i1, i2⟩ | ⟨i1, i2⟩ <;> rcases ev j hj with ⟨j1, j2⟩ | ⟨j1, j2⟩ | ⟨j1, j2⟩ <;> rw [i2, j2] at e'
    · exact hinj i i1 j j1 e'
    · exact absurd e' (fdc i i1).1
    · exact absurd e' (fdc i i1).2
    · exact absurd e'.symm (fdc j j1).1
    · omega
    · exact absurd e' kFT
    · exact absurd e'.symm (fdc j j1).2
    · exact absurd e'.symm kFT
    · omega
def sp_R_number : cx_S := cx_self 4 (fun j r ws R => ∃ x n l m t q J fs T ks, ws = wd x n l m (wq t q) ∧ j = 25 ∧ r = [] ∧ J ≤ 20 ∧ tabR J fs T ks t ∧ (∀ i, i < T → tw (rt_w t) (20 + i) = ks i) ∧ memK J fs (tw (rt_w t) (20 + T)) ∧
  ∀ T' ks' in' tb' v, tabR J fs T' ks' (ru_tb (ru_in t in') tb') → T ≤ T' → (∀ i, i < T → ks' i = ks i) → (∀ i, i < T' → tw (rt_w t) (20 + i) = ks' i) → ixT T' ks' (tw (rt_w t) (20 + T)) v → R (.inl (some (.inl v))) (wd x n l m (wq (ru_tb (ru_in t in') tb') q)))
set_option maxRecDepth 100000 in
theorem pu_R_number : ∀ as ws Rq, sp_R_number as ws Rq → cx_cats as ≤ 4 ∧ ∀ V, cx_cl1 t_R_number [(sp_R_depends, 2, 0, 0), (sp_R_same, 3, 0, 0)] [] [] 0 0 Rq V → V 0 (cx_lv0 as 4) [] ws 0 0 := by
  intro as ws Rq h0
  obtain ⟨j, r, fs0, rfl, hj, x, n, l, m, t, q, J, fs, T, ks, rfl, rfl, rfl, hJ, hTab, hw, hg, h⟩ := cx_self_spec h0
  refine ⟨Nat.le_of_ble_eq_true rfl, fun V hV => ?_⟩
  have hTab2 := hTab
  obtain ⟨t1, t2, t3, t4⟩ := hTab2
  have htb : t.2.2.1.2.2.1 = nI T := t2
  have e20 : ((20 : Int32) + t.2.2.1.2.2.1) = nI (20 + T) := by
    rw [htb, show (20 : Int32) = nI 20 from rfl, nI_add]
  have loop : ∀ (d i : Nat), i + d = T → fd (tw (rt_w t) (20 + T)) < 8 → (∀ p, p < i → ks p ≠ tw (rt_w t) (20 + T)) → V 24 [some (.inr (.inr (.inl 25))), some (.inl (nI (20 + T))), some (.inl (nI (fd (tw (rt_w t) (20 + T))))), some (.inl (nI i))] [] (wd x n l m (wq t q)) 0 0 := by
    intro d
    induction d with
    | zero =>
      intro i hd h8 hno
      have : i = T := by omega
      subst this
      have hT' : i + 1 ≤ 874 := by
        refine tab_bound (J := J) (fs := fs) (ks := nK ks i (tw (rt_w t) (20 + i))) hJ (fun a ha b hb e => ?_) (fun a ha => ?_)
        · by_cases ea : a = i
          · by_cases eb : b = i
            · omega
            · rw [ea, nK_N, nK_ne eb] at e
              exact absurd e.symm (hno b (by omega))
          · by_cases eb : b = i
            · rw [eb, nK_N, nK_ne ea] at e
              exact absurd e (hno a (by omega))
            · rw [nK_ne ea, nK_ne eb] at e
              exact t3 a (by omega) b (by omega) e
        · by_cases ea : a = i
          · rw [ea, nK_N]; exact ⟨h8, hg⟩
          · rw [nK_ne ea]; exact ⟨(t4 a (by omega)).1, (t4 a (by omega)).2.1⟩
      refine hV [] 60 _ _ _ _ _ _ ?_
      conv => whnf
      refine pk_le i i (fun _ => ?_) (fun e => absurd e (Nat.lt_irrefl _)) htb
      conv => whnf
      refine ⟨pk_in i 2000 (by omega) htb, ?_⟩
      conv => whnf
      refine ⟨Or.inl rfl, ?_⟩
      conv => whnf
      refine ⟨fun e => absurd e (by decide), ?_⟩
      rw [htb, nx_c (show i < 2 ^ 31 by omega), nI_1, nI_pred]
      refine h (i + 1) (nK ks i (tw (rt_w t) (20 + i))) (upd (rt_in t) i (nI (fd (tw (rt_w t) (20 + i))))) (nI (i + 1)) (nI i) ⟨hT', rfl, fun a ha b hb e => ?_, fun a ha => ?_⟩ (by omega) (fun a ha => nK_ne (by omega)) (fun a ha => ?_) (Or.inr ⟨i, by omega, nK_N, rfl⟩)
      · by_cases ea : a = i
        · by_cases eb : b = i
          · omega
          · rw [ea, nK_N, nK_ne eb] at e
            exact absurd e.symm (hno b (by omega))
        · by_cases eb : b = i
          · rw [eb, nK_N, nK_ne ea] at e
            exact absurd e (hno a (by omega))
          · rw [nK_ne ea, nK_ne eb] at e
            exact t3 a (by omega) b (by omega) e
      · show fd (nK ks i (tw (rt_w t) (20 + i)) a) < 8 ∧ memK J fs (nK ks i (tw (rt_w t) (20 + i)) a) ∧ upd (rt_in t) i (nI (fd (tw (rt_w t) (20 + i)))) a = _
        by_cases ea : a = i
        · rw [ea, nK_N]; exact ⟨h8, hg, pk_us⟩
        · rw [nK_ne ea, pk_un ea]; exact t4 a (by omega)
      · by_cases ea : a = i
        · rw [ea, nK_N]
        · rw [nK_ne ea]; exact hw a (by omega)
    | succ d ih =>
      intro i hd h8 hno
      refine hV [24] 60 _ _ _ _ _ _ ?_
      conv => whnf
      refine pk_le T i (fun _ => by omega) (fun _ => ?_) htb
      conv => whnf
      rw [show ((20 : Int32) + nI i) = nI (20 + i) by rw [show (20 : Int32) = nI 20 from rfl, nI_add]]
      refine ⟨x, n, l, m, t, q, 20 + i, 20 + T, rfl, rfl, rfl, by omega, by omega, fun e he => ?_⟩
      rw [hw i (by omega)] at he
      conv => whnf
      cases e with
      | true =>
        refine ⟨fun e => absurd e (by decide), fun _ => ?_⟩
        conv => whnf
        refine ⟨fun e => absurd e (by decide), ?_⟩
        exact h T ks (rt_in t) (rt_tb t) (nI i) hTab (Nat.le_refl _) (fun a ha => rfl) hw (Or.inr ⟨i, by omega, he.mp rfl, rfl⟩)
      | false =>
        refine ⟨fun _ => ?_, fun e => absurd rfl e⟩
        conv => whnf
        rw [nI_1]
        refine ih (i + 1) (by omega) h8 (fun p hp => ?_)
        by_cases ep : p = i
        · subst ep
          intro e2
          have := he.mpr e2
          cases this
        · exact hno p (by omega)
  refine hV [24] 60 _ _ _ _ _ _ ?_
  conv => whnf
  rw [e20]
  refine ⟨x, n, l, m, t, q, 20 + T, rfl, rfl, rfl, by omega, ?_⟩
  conv => whnf
  have h8 := fd_le (tw (rt_w t) (20 + T))
  refine ⟨fun e => ?_, fun e => ?_⟩
  · have e2 : fd (tw (rt_w t) (20 + T)) ≠ 8 := fun q => e (by rw [q]; rfl)
    conv => whnf
    rw [← nI_0]
    exact loop T 0 (by omega) (by omega) (fun p hp => by omega)
  · have e2 : fd (tw (rt_w t) (20 + T)) = 8 := by
      rw [show (8 : Int32) = nI 8 from rfl, nI_eq (by omega) (by omega)] at e
      exact e
    conv => whnf
    refine ⟨fun e => absurd e (by decide), ?_⟩
    exact h T ks (rt_in t) (rt_tb t) (-1) hTab (Nat.le_refl _) (fun a ha => rfl) hw (Or.inl ⟨e2, rfl⟩)
end
section
/-! The reference lays out. -/
theorem ixT_up {T T' : Nat} {ks ks' : Nat → Ky} {g : Ky} {v : Int32} (h : ixT T ks g v) (hT : T ≤ T') (e : ∀ i, i < T → ks' i = ks i) : ixT T' ks' g v := by
  rcases h with h | ⟨i, h1, h2, h3⟩
  · exact Or.inl h
  · exact Or.inr ⟨i, by omega, (e i h1).trans h2, h3⟩
def chR (T n : Nat) (ks : Nat → Ky) (lo hi : Nat → Int32) : Prop := ∀ i, i < n → ixT T ks (sub (ks i) (fd (ks i) + 1) 0) (lo i) ∧ ixT T ks (sub (ks i) (fd (ks i) + 1) 1) (hi i)
theorem sub_tab {J : Nat} {fs : Nat → Ky} {T : Nat} {ks : Nat → Ky} {lo hi ro : Nat → Int32} (hnf : ∀ j, j < J → nf (fs j)) (hm : ∀ i, i < T → fd (ks i) < 8 ∧ memK J fs (ks i)) (hc : chR T T ks lo hi) (hr : ∀ j, j < J → ixT T ks (fs j) (ro j)) {j : Nat} (hj : j < J) : ∀ k, k ≤ 8 → ∀ i, i < 2 ^ k → fd (sub (fs j) k i) = 8 ∨ ∃ p, p < T ∧ ks p = sub (fs j) k i
  | 0, _, i, hi2 => by
    have : i = 0 := by rw [Nat.pow_zero] at hi2; omega
    subst this
    rw [sub_self (hnf j hj) (dk_0 _)]
    rcases hr j hj with ⟨h, -⟩ | ⟨p, h1, h2, -⟩
    · exact Or.inl h
    · exact Or.inr ⟨p, h1, h2⟩
  | k + 1, hk, i, hi2 => by
    rw [Nat.pow_succ] at hi2
    have hb : i % 2 < 2 := Nat.mod_lt _ (by omega)
    have hlt : i % 2 < 2 ^ (k + 1) := Nat.lt_of_lt_of_le hb (by rw [Nat.pow_succ]; have := pw_pos k; omega)
    have e2 : sub (sub (fs j) k (i / 2)) (k + 1) (i % 2) = sub (fs j) (k + 1) i := by
      rw [sub_b (by omega) hb, Nat.div_add_mod]
    have hge : k ≤ fd (sub (fs j) k (i / 2)) := fd_sub_ge (by omega)
    by_cases hf : fd (sub (fs j) k (i / 2)) = k
    · rcases sub_tab hnf hm hc hr hj k (by omega) (i / 2) (by omega) with h8 | ⟨p, h1, h2⟩
      · omega
      · rw [← h2] at e2 hf
        obtain ⟨c0, c1⟩ := hc p h1
        rw [hf] at c0 c1
        rcases Nat.mod_two_eq_zero_or_one i with q | q
        · rw [q] at e2
          rw [← e2]
          rcases c0 with ⟨d1, -⟩ | ⟨p', d1, d2, -⟩
          · exact Or.inl d1
          · exact Or.inr ⟨p', d1, d2⟩
        · rw [q] at e2
          rw [← e2]
          rcases c1 with ⟨d1, -⟩ | ⟨p', d1, d2, -⟩
          · exact Or.inl d1
          · exact Or.inr ⟨p', d1, d2⟩
    · have hd : dk (sub (fs j) k (i / 2)) (k + 1) := dk_anti (fd_dk _) (by omega) (fd_le _)
      rw [dk_sub1 hd hlt hk, sub_self (nf_sub _ _ _) hd] at e2
      rw [← e2]
      exact sub_tab hnf hm hc hr hj k (by omega) (i / 2) (by omega)
theorem tab_enu {J : Nat} {fs : Nat → Ky} {T : Nat} {ks : Nat → Ky} {lo hi ro : Nat → Int32} (hnf : ∀ j, j < J → nf (fs j)) (hinj : ∀ i, i < T → ∀ j, j < T → ks i = ks j → i = j) (hm : ∀ i, i < T → fd (ks i) < 8 ∧ memK J fs (ks i)) (hc : chR T T ks lo hi) (hr : ∀ j, j < J → ixT T ks (fs j) (ro j)) : enu J fs T ks := by
  refine ⟨hinj, fun i hi _ => (hm i hi).2, fun g hg h8 => ?_⟩
  obtain ⟨j, k, i, q1, q2, q3, q4⟩ := hg
  rcases sub_tab hnf hm hc hr q1 k q2 i q3 with h | ⟨p, h1, h2⟩
  · rw [← q4] at h; omega
  · exact ⟨p, h1, h2.trans q4.symm⟩
theorem rRl_enu {lo : Nat} {fs : Nat → Ky} {t : wR} (h : rRl lo fs t) : ∃ T ks, enu (2 * lo) fs T ks ∧ tabR (2 * lo) fs T ks t ∧ chR T T ks (rt_lo t) (rt_hi t) ∧ (∀ i, i < T → rt_far t i = nI (dp 8 (ks i))) ∧ (∀ j, j < 2 * lo → ixT T ks (fs j) (rt_ro t j)) := by
  obtain ⟨h1, h2, h3, T, ks, h4, h5, h6⟩ := h
  exact ⟨T, ks, tab_enu (fun j hj => (h3 j hj).1) h4.2.2.1 (fun i hi => ⟨(h4.2.2.2 i hi).1, (h4.2.2.2 i hi).2.1⟩) (fun i hi => ⟨(h5 i hi).1, (h5 i hi).2.1⟩) h6, h4, fun i hi => ⟨(h5 i hi).1, (h5 i hi).2.1⟩, fun i hi => (h5 i hi).2.2, h6⟩
theorem tab_total {J : Nat} {fs : Nat → Ky} {T : Nat} {ks : Nat → Ky} (hm : ∀ i, i < T → fd (ks i) < 8) : cnP ks (pnc (fun _ => true)) T = T := by
  have := cnP_all (ks := ks) (p := pnc (fun _ => true)) 0 T (fun i _ hi => pnc_iff.mpr ⟨rfl, hm i (by omega)⟩)
  rw [Nat.zero_add] at this
  rw [this]
  show 0 + T = T
  omega
def bsR (A : aS) (t : wR) : Prop := rRn (s_a A) t ∧ s_on A ≤ 10 ∧ rt_on t = nI (s_on A) ∧ (∀ i, i < s_on A → s_nm A i < a_g (s_a A) ∧ rt_nm t i = nI (s_nm A i)) ∧ rt_th t = 0 ∧ rt_la t = nI (s_on A)
def sp_R_lay : cx_S := cx_self 4 (fun j r ws R => ∃ x n l m t q A, ws = wd x n l m (wq t q) ∧ j = 25 ∧ r = [] ∧ rR A t ∧ ansR (layS A) x n l m q R)
/-- the steps of lay, from a pc on -/
def lyF (V : cx_K) (x : wX) (n : wN) (l : wL) (m : wM) (q : List cx_C) (pc : Nat) (i : Nat) (t : wR) : Prop := ∀ s2 s3 s4 : Option cx_V, V pc [some (.inr (.inr (.inl 25))), some (.inl (nI i)), s2, s3, s4] [] (wd x n l m (wq t q)) 0 0
abbrev lySp : List (cx_S × Nat × Nat × Nat) := [(sp_R_empty, 2, 0, 0), (sp_R_spread, 2, 0, 0), (sp_R_set, 3, 0, 0), (sp_R_number, 1, 0, 0), (sp_R_fix, 4, 0, 0)]
set_option maxRecDepth 100000 in
set_option maxHeartbeats 4000000 in
theorem ly_empty {V : cx_K} {Rq : cx_R} (hV : cx_cl1 t_R_lay lySp [] [] 0 0 Rq V) {x : wX} {n : wN} {l : wL} {m : wM} {q : List cx_C} {A : aS} (hK : ∀ t, bsR A t → rt_tb t = 0 → (∀ j, j < 20 → ∀ d, d < 256 → tw (rt_w t) j d = false) → lyF V x n l m q 39 0 t) :
    ∀ (d i : Nat) (t : wR), i + d = 20 → bsR A t → rt_tb t = 0 → (∀ j, j < i → ∀ d, d < 256 → tw (rt_w t) j d = false) → lyF V x n l m q 20 i t := by
  intro d
  induction d with
  | zero =>
    intro i t hd hb htb h1 s2 s3 s4
    refine hV [39] 40 _ _ _ _ _ _ ?_
    conv => whnf
    refine pk_le 20 i (fun _ => ?_) (fun _ => by omega)
    conv => whnf
    exact hK t hb htb (fun j hj => h1 j (by omega)) s2 s3 s4
  | succ d ih =>
    intro i t hd hb htb h1 s2 s3 s4
    refine hV [20] 40 _ _ _ _ _ _ ?_
    conv => whnf
    refine pk_le 20 i (fun _ => by omega) (fun _ => ?_)
    conv => whnf
    refine ⟨x, n, l, m, t, q, i, rfl, rfl, rfl, by omega, fun w k1 k2 => ?_⟩
    conv => whnf
    rw [nI_1]
    refine ih (i + 1) (ru_w t w) (by omega) hb htb (fun j hj d2 hd2 => ?_) s2 s3 s4
    by_cases e : j = i
    · subst e; exact k2 d2 hd2
    · rw [show tw (rt_w (ru_w t w)) j = tw (rt_w t) j from tw_other k1 e]
      exact h1 j (by omega) d2 hd2
set_option maxRecDepth 100000 in
set_option maxHeartbeats 4000000 in
theorem ly_out {V : cx_K} {Rq : cx_R} (hV : cx_cl1 t_R_lay lySp [] [] 0 0 Rq V) {x : wX} {n : wN} {l : wL} {m : wM} {q : List cx_C} {A : aS} {c : Nat} (hc : c < 256)
    (hK : ∀ t, bsR A t → rt_tb t = 0 → (∀ j, j < 2 * s_on A → ∀ d, d < 256 → tw (rt_w t) j d = (decide (d < c + 1) && fsN (s_a A) (s_nm A) j d)) → ∀ s2 s3 s4, V 105 [some (.inr (.inr (.inl 25))), some (.inl (nI c)), s2, s3, s4] [] (wd x n l m (wq t q)) 0 0) :
    ∀ (d o : Nat) (t : wR) (s3 s4 : Option cx_V), o + d = s_on A → bsR A t → rt_tb t = 0 → (∀ p, p < a_g (s_a A) → rt_va t p = vI (val (s_a A) c p)) → (∀ j, j < 2 * s_on A → ∀ d, d < 256 → tw (rt_w t) j d = (decide (d < (if j < 2 * o then c + 1 else c)) && fsN (s_a A) (s_nm A) j d)) →
      V 53 [some (.inr (.inr (.inl 25))), some (.inl (nI c)), some (.inl (nI o)), s3, s4] [] (wd x n l m (wq t q)) 0 0 := by
  intro d
  induction d with
  | zero =>
    intro o t s3 s4 hd hb htb hva h1
    have on10 := hb.2.1
    refine hV [105] 40 _ _ _ _ _ _ ?_
    conv => whnf
    refine pk_le (s_on A) o (fun _ => ?_) (fun _ => by omega) hb.2.2.1
    refine hK t hb htb (fun j hj d hd => ?_) _ s3 s4
    rw [h1 j hj d hd, if_pos (by omega)]
  | succ d ih =>
    intro o t s3 s4 hd hb htb hva h1
    have on10 := hb.2.1
    obtain ⟨g1, g2⟩ := hb.2.2.2.1 o (by omega)
    have g120 := hb.1.1.1
    have next : ∀ (t' : wR) (s3 : Option cx_V), bsR A t' → rt_tb t' = 0 → (∀ p, p < a_g (s_a A) → rt_va t' p = vI (val (s_a A) c p)) → (∀ j, j < 2 * s_on A → ∀ d, d < 256 → tw (rt_w t') j d = (decide (d < (if j < 2 * (o + 1) then c + 1 else c)) && fsN (s_a A) (s_nm A) j d)) →
        V 99 [some (.inr (.inr (.inl 25))), some (.inl (nI c)), some (.inl (nI o)), s3, s4] [] (wd x n l m (wq t' q)) 0 0 := by
      intro t' s3 b1 b2 b3 b4
      refine hV [53] 40 _ _ _ _ _ _ ?_
      conv => whnf
      rw [nI_1]
      exact ih (o + 1) t' s3 s4 (by omega) b1 b2 b3 b4
    have fe : fsN (s_a A) (s_nm A) (2 * o) c = eH (val (s_a A) c (s_nm A o)) := by rw [fsN_e]; simp [hiK, hc]
    have fo : fsN (s_a A) (s_nm A) (2 * o + 1) c = eL (val (s_a A) c (s_nm A o)) := by rw [fsN_o]; simp [loK, hc]
    -- what the tables hold when one bit, or none, has been set
    have upd1 : ∀ (w : Nat → Int64) (J : Nat → Bool), (∀ j, j < 2 * s_on A → ∀ d, d < 256 → tw w j d = (tw (rt_w t) j d || (J j && decide (d = c)))) → (∀ j, J j = true → fsN (s_a A) (s_nm A) j c = true ∧ 2 * o ≤ j ∧ j < 2 * (o + 1)) → (∀ j, 2 * o ≤ j → j < 2 * (o + 1) → J j = false → fsN (s_a A) (s_nm A) j c = false) →
        ∀ j, j < 2 * s_on A → ∀ d, d < 256 → tw w j d = (decide (d < (if j < 2 * (o + 1) then c + 1 else c)) && fsN (s_a A) (s_nm A) j d) := by
      intro w J k1 k2 k3 j hj d hd
      rw [k1 j hj d hd, h1 j hj d hd]
      by_cases e1 : j < 2 * o
      · have hJ : J j = false := by
          cases e : J j with
          | false => rfl
          | true => have := (k2 j e).2.1; omega
        rw [if_pos e1, if_pos (by omega), hJ]
        simp
      · rw [if_neg e1]
        by_cases e2 : j < 2 * (o + 1)
        · rw [if_pos e2]
          cases hJ : J j with
          | true =>
            by_cases ed : d = c
            · subst ed
              rw [(k2 j hJ).1]
              simp
            · have : decide (d < c + 1) = decide (d < c) := by simp; omega
              rw [this]
              simp [ed]
          | false =>
            by_cases ed : d = c
            · subst ed
              rw [k3 j (by omega) e2 hJ]
              simp
            · have : decide (d < c + 1) = decide (d < c) := by simp; omega
              rw [this]
              simp
        · have hJ : J j = false := by
            cases e : J j with
            | false => rfl
            | true => have := (k2 j e).2.2; omega
          rw [if_neg e2, hJ]
          simp
    refine hV [99] 60 _ _ _ _ _ _ ?_
    conv => whnf
    refine pk_le (s_on A) o (fun _ => by omega) (fun _ => ?_) hb.2.2.1
    conv => whnf
    refine ⟨pk_in o 10 (by omega), ?_⟩
    conv => whnf
    rw [nx_c (show o < 2 ^ 31 by omega)]
    dsimp only
    rw [show t.2.1.2.2.2.2.1 o = nI (s_nm A o) from g2]
    refine ⟨pk_in (s_nm A o) 120 (by omega), ?_⟩
    conv => whnf
    rw [nx_c (show s_nm A o < 2 ^ 31 by omega)]
    dsimp only
    rw [show t.2.2.1.1 (s_nm A o) = vI (val (s_a A) c (s_nm A o)) from hva _ g1]
    rcases hv : val (s_a A) c (s_nm A o) with _ | _ | _
    · refine ⟨fun _ => ?_, fun e => absurd rfl e⟩
      rw [hv] at fe fo
      refine next t _ hb htb hva (upd1 (rt_w t) (fun _ => false) (fun j hj d hd => by simp) (fun j e => by cases e) (fun j k1 k2 _ => ?_))
      have : j = 2 * o ∨ j = 2 * o + 1 := by omega
      rcases this with rfl | rfl
      · rw [fe]; rfl
      · rw [fo]; rfl
    · refine ⟨fun e => absurd e (by decide), fun _ => ?_⟩
      conv => whnf
      refine ⟨fun _ => ?_, fun e => absurd e (by decide)⟩
      conv => whnf
      rw [show (2 : Int32) * nI o + 1 = nI (2 * o + 1) by rw [show (2 : Int32) = nI 2 from rfl, pk_mul, nI_1]]
      refine ⟨x, n, l, m, t, q, 2 * o + 1, c, rfl, rfl, rfl, by omega, hc, fun w k1 k2 => ?_⟩
      conv => whnf
      rw [hv] at fe fo
      refine next (ru_w t w) _ hb htb hva (upd1 w (fun j => decide (j = 2 * o + 1)) (fun j hj d hd => ?_) (fun j e => ?_) (fun j q1 q2 e => ?_))
      · by_cases e : j = 2 * o + 1
        · subst e; rw [k2 d hd]; simp
        · rw [tw_other k1 e]; simp [e]
      · have e' : j = 2 * o + 1 := by simpa using e
        subst e'
        exact ⟨by rw [fo]; rfl, by omega, by omega⟩
      · have e' : j ≠ 2 * o + 1 := by simpa using e
        have : j = 2 * o := by omega
        subst this
        rw [fe]; rfl
    · refine ⟨fun e => absurd e (by decide), fun _ => ?_⟩
      conv => whnf
      refine ⟨fun e => absurd (by decide) e, fun _ => ?_⟩
      conv => whnf
      rw [show (2 : Int32) * nI o = nI (2 * o) by rw [show (2 : Int32) = nI 2 from rfl, pk_mul]]
      refine ⟨x, n, l, m, t, q, 2 * o, c, rfl, rfl, rfl, by omega, hc, fun w k1 k2 => ?_⟩
      conv => whnf
      rw [hv] at fe fo
      refine next (ru_w t w) _ hb htb hva (upd1 w (fun j => decide (j = 2 * o)) (fun j hj d hd => ?_) (fun j e => ?_) (fun j q1 q2 e => ?_))
      · by_cases e : j = 2 * o
        · subst e; rw [k2 d hd]; simp
        · rw [tw_other k1 e]; simp [e]
      · have e' : j = 2 * o := by simpa using e
        subst e'
        exact ⟨by rw [fe]; rfl, by omega, by omega⟩
      · have e' : j ≠ 2 * o := by simpa using e
        have : j = 2 * o + 1 := by omega
        subst this
        rw [fo]; rfl
set_option maxRecDepth 100000 in
set_option maxHeartbeats 4000000 in
theorem ly_val {V : cx_K} {Rq : cx_R} (hV : cx_cl1 t_R_lay lySp [] [] 0 0 Rq V) {x : wX} {n : wN} {l : wL} {m : wM} {q : List cx_C} {A : aS}
    (hK : ∀ t, bsR A t → rt_tb t = 0 → (∀ j, j < 2 * s_on A → tw (rt_w t) j = fsN (s_a A) (s_nm A) j) → lyF V x n l m q 113 0 t) :
    ∀ (d c : Nat) (t : wR), c + d = 256 → bsR A t → rt_tb t = 0 → (∀ j, j < 2 * s_on A → ∀ d, d < 256 → tw (rt_w t) j d = (decide (d < c) && fsN (s_a A) (s_nm A) j d)) → lyF V x n l m q 39 c t := by
  intro d
  induction d with
  | zero =>
    intro c t hd hb htb h1 s2 s3 s4
    refine hV [113] 40 _ _ _ _ _ _ ?_
    conv => whnf
    refine pk_le 256 c (fun _ => ?_) (fun _ => by omega)
    conv => whnf
    refine hK t hb htb (fun j hj => nf_ext (nf_tw _ _) (nf_fsN _ _ _) (fun d hd => ?_)) s2 s3 s4
    rw [h1 j hj d hd]
    simp [show d < c by omega]
  | succ d ih =>
    intro c t hd hb htb h1 s2 s3 s4
    refine hV [53] 40 _ _ _ _ _ _ ?_
    conv => whnf
    refine pk_le 256 c (fun _ => by omega) (fun _ => ?_)
    conv => whnf
    refine ⟨x, n, l, m, t, q, s_a A, c, rfl, rfl, rfl, hb.1, by omega, fun va hva => ?_⟩
    conv => whnf
    rw [← nI_0]
    refine ly_out hV (by omega) (fun t' b1 b2 b3 s2 s3 s4 => ?_) (s_on A) 0 (ru_va t va) s3 s4 (by omega) hb htb hva (fun j hj d hd => ?_)
    · refine hV [39] 40 _ _ _ _ _ _ ?_
      conv => whnf
      rw [nI_1]
      exact ih (c + 1) t' (by omega) b1 b2 b3 s2 s3 s4
    · rw [if_neg (by omega)]
      exact h1 j hj d hd
def ixs (A : aS) (T : Nat) (ks : Nat → Ky) (t : wR) : Prop := bsR A t ∧ tabR (2 * s_on A) (fsN (s_a A) (s_nm A)) T ks t ∧ (∀ i, i < T → tw (rt_w t) (20 + i) = ks i) ∧ ∀ j, j < 2 * s_on A → tw (rt_w t) j = fsN (s_a A) (s_nm A) j
theorem ixs_fs {A : aS} {T : Nat} {ks : Nat → Ky} {t : wR} (h : ixs A T ks t) {w : Nat → Int64} (hw : ∀ i, i / 4 ≠ 20 + T → w i = rt_w t i) : ixs A T ks (ru_w t w) := by
  obtain ⟨h1, h2, h3, h4⟩ := h
  have on10 := h1.2.1
  refine ⟨h1, h2, fun i hi => ?_, fun j hj => ?_⟩
  · rw [← h3 i hi]; exact tw_other hw (by omega)
  · rw [← h4 j hj]; exact tw_other hw (by omega)
set_option maxRecDepth 100000 in
set_option maxHeartbeats 4000000 in
theorem ly_root {V : cx_K} {Rq : cx_R} (hV : cx_cl1 t_R_lay lySp [] [] 0 0 Rq V) {x : wX} {n : wN} {l : wL} {m : wM} {q : List cx_C} {A : aS}
    (hK : ∀ t T ks, ixs A T ks t → (∀ j, j < 2 * s_on A → ixT T ks (fsN (s_a A) (s_nm A) j) (rt_ro t j)) → lyF V x n l m q 180 0 t) :
    ∀ (d i : Nat) (t : wR) (T : Nat) (ks : Nat → Ky), i + d = 2 * s_on A → ixs A T ks t → (∀ j, j < i → ixT T ks (fsN (s_a A) (s_nm A) j) (rt_ro t j)) → lyF V x n l m q 113 i t := by
  intro d
  induction d with
  | zero =>
    intro i t T ks hd hx h1 s2 s3 s4
    have on10 := hx.1.2.1
    refine hV [180] 40 _ _ _ _ _ _ ?_
    conv => whnf
    refine pk_le (2 * s_on A) i (fun _ => ?_) (fun _ => by omega) (by rw [show t.1.2.2.2.2 = nI (s_on A) from hx.1.2.2.1, show (2 : Int32) = nI 2 from rfl, pk_mul])
    conv => whnf
    exact hK t T ks hx (fun j hj => h1 j (by omega)) s2 s3 s4
  | succ d ih =>
    intro i t T ks hd hx h1 s2 s3 s4
    have on10 := hx.1.2.1
    have hT := hx.2.1.1
    have htb : ∀ w, (ru_w t w).2.2.1.2.2.1 = nI T := fun w => hx.2.1.2.1
    have copy : ∀ (d k : Nat) (w : Nat → Int64), k + d = 4 → (∀ i, i / 4 ≠ 20 + T → w i = rt_w t i) → (∀ p, p < k → w (4 * (20 + T) + p) = w (4 * i + p)) → V 125 [some (.inr (.inr (.inl 25))), some (.inl (nI i)), some (.inl (nI k)), s3, s4] [] (wd x n l m (wq (ru_w t w) q)) 0 0 := by
      intro d
      induction d with
      | zero =>
        intro k w hd2 h2 h3
        have hx2 := ixs_fs hx h2
        have e1 : tw w (20 + T) = fsN (s_a A) (s_nm A) i := by
          rw [← hx2.2.2.2 i (by omega)]
          exact tw_ext.mpr (fun p hp => h3 p (by omega))
        refine hV [113] 60 _ _ _ _ _ _ ?_
        conv => whnf
        refine pk_le 4 k (fun _ => ?_) (fun _ => by omega)
        conv => whnf
        refine ⟨x, n, l, m, ru_w t w, q, 2 * s_on A, fsN (s_a A) (s_nm A), T, ks, rfl, rfl, rfl, by omega, hx2.2.1, hx2.2.2.1, ?_, fun T' ks' in' tb' v c1 c2 c3 c4 c5 => ?_⟩
        · show memK _ _ (tw w (20 + T))
          rw [e1]
          exact mem_root (by omega) (nf_fsN _ _ _)
        have c5' : ixT T' ks' (fsN (s_a A) (s_nm A) i) v := by
          have : tw (rt_w (ru_w t w)) (20 + T) = fsN (s_a A) (s_nm A) i := e1
          rw [this] at c5
          exact c5
        conv => whnf
        refine ⟨pk_in i 20 (by omega), ?_⟩
        conv => whnf
        rw [nx_c (show i < 2 ^ 31 by omega), nI_1]
        refine ih (i + 1) (t.1, t.2.1, (rt_va t, rt_la t, tb', w, in'), (rt_lo t, rt_hi t, rt_far t, upd (rt_ro t) i v, rt_mk t)) T' ks' (by omega) ⟨hx.1, c1, c4, hx2.2.2.2⟩ (fun j hj => ?_) _ s3 s4
        show ixT T' ks' (fsN (s_a A) (s_nm A) j) (upd (rt_ro t) i v j)
        by_cases e : j = i
        · subst e; rw [pk_us]; exact c5'
        · rw [pk_un e]; exact ixT_up (h1 j (by omega)) c2 c3
      | succ d ih2 =>
        intro k w hd2 h2 h3
        have ea : (80 : Int32) + 4 * (ru_w t w).2.2.1.2.2.1 + nI k = nI (4 * (20 + T) + k) := by
          rw [htb w, show (80 : Int32) = nI 80 from rfl, show (4 : Int32) = nI 4 from rfl, pk_mul, nI_add, nI_add]
          congr 1
          omega
        have eb : (4 : Int32) * nI i + nI k = nI (4 * i + k) := by rw [show (4 : Int32) = nI 4 from rfl, pk_mul, nI_add]
        refine hV [125] 60 _ _ _ _ _ _ ?_
        conv => whnf
        refine pk_le 4 k (fun _ => by omega) (fun _ => ?_)
        conv => whnf
        refine ⟨pk_in (4 * i + k) 8088 (by omega) eb, ?_⟩
        conv => whnf
        refine ⟨pk_in (4 * (20 + T) + k) 8088 (by omega) ea, ?_⟩
        conv => whnf
        rw [ea, eb, nx_c (show 4 * i + k < 2 ^ 31 by omega), nx_c (show 4 * (20 + T) + k < 2 ^ 31 by omega), nI_1]
        refine ih2 (k + 1) (vp_updL w (4 * (20 + T) + k) (w (4 * i + k))) (by omega) (fun p hp => ?_) (fun p hp => ?_)
        · rw [pk_uLn (by omega)]; exact h2 p hp
        · by_cases e : p = k
          · subst e
            rw [pk_uLs, pk_uLn (by omega)]
          · rw [pk_uLn (by omega), pk_uLn (by omega)]; exact h3 p (by omega)
    refine hV [125] 60 _ _ _ _ _ _ ?_
    conv => whnf
    refine pk_le (2 * s_on A) i (fun _ => by omega) (fun _ => ?_) (by rw [show t.1.2.2.2.2 = nI (s_on A) from hx.1.2.2.1, show (2 : Int32) = nI 2 from rfl, pk_mul])
    conv => whnf
    rw [← nI_0]
    have := copy 4 0 (rt_w t) (by omega) (fun i hi => rfl) (fun p hp => by omega)
    rw [ru_w_self] at this
    exact this
end
section
/-! The reference lays out: what the tables take, how far they go. -/
theorem fix_sub {w w' : Nat → Int64} {T i k b : Nat} {g : Ky} (hg : tw w (20 + i) = g) (hk : fd g = k) (hk8 : k < 8) (hb : b < 2) (h : ∀ d, d < 256 → tw w' (20 + T) d = tw w (20 + i) (fxx k b d)) : tw w' (20 + T) = sub g (k + 1) b := nf_ext (nf_tw _ _) (nf_sub _ _ _) (fun d hd => by
  rw [h d hd, hg]
  have := fd_dk g
  rw [hk] at this
  exact fxx_sub hk8 hb this hd)
set_option maxRecDepth 100000 in
set_option maxHeartbeats 4000000 in
theorem ly_child {V : cx_K} {Rq : cx_R} (hV : cx_cl1 t_R_lay lySp [] [] 0 0 Rq V) {x : wX} {n : wN} {l : wL} {m : wM} {q : List cx_C} {A : aS}
    (hK : ∀ t T ks, ixs A T ks t → (∀ j, j < 2 * s_on A → ixT T ks (fsN (s_a A) (s_nm A) j) (rt_ro t j)) → chR T T ks (rt_lo t) (rt_hi t) → ∀ s2 s3 s4, V 247 [some (.inr (.inr (.inl 25))), some (.inl (prI 8)), s2, s3, s4] [] (wd x n l m (wq t q)) 0 0) :
    ∀ (d i : Nat) (t : wR) (T : Nat) (ks : Nat → Ky), i + d = 874 → i ≤ T → ixs A T ks t → (∀ j, j < 2 * s_on A → ixT T ks (fsN (s_a A) (s_nm A) j) (rt_ro t j)) → chR T i ks (rt_lo t) (rt_hi t) → lyF V x n l m q 180 i t := by
  intro d
  induction d with
  | zero =>
    intro i t T ks hd hi hx h1 h2 s2 s3 s4
    have hT := hx.2.1.1
    refine hV [247] 60 _ _ _ _ _ _ ?_
    conv => whnf
    refine pk_le T i (fun _ => ?_) (fun _ => by omega) hx.2.1.2.1
    conv => whnf
    have : i = T := by omega
    subst this
    exact hK t i ks hx h1 h2 s2 s3 s4
  | succ d ih =>
    intro i t T ks hd hi hx h1 h2 s2 s3 s4
    have hT := hx.2.1.1
    have on10 := hx.1.2.1
    refine hV [247, 180] 80 _ _ _ _ _ _ ?_
    conv => whnf
    refine pk_le T i (fun h3 => ?_) (fun h3 => ?_) hx.2.1.2.1
    · conv => whnf
      have : i = T := by omega
      subst this
      exact hK t i ks hx h1 h2 s2 s3 s4
    have e20 : (20 : Int32) + nI i = nI (20 + i) := by rw [show (20 : Int32) = nI 20 from rfl, nI_add]
    obtain ⟨f1, f2, f3⟩ := hx.2.1.2.2.2 i h3
    have hci : (nI i).toNatClampNeg = i := nx_c (by omega)
    have ini_ : vp_in (nI i) 2000 := pk_in i 2000 (by omega)
    conv => whnf
    refine ⟨ini_, ?_⟩
    conv => whnf
    rw [e20, hci]
    dsimp only
    rw [show t.2.2.1.2.2.2.2 i = nI (fd (ks i)) from f3]
    refine ⟨x, n, l, m, t, q, 20 + i, fd (ks i), 0, T, rfl, rfl, rfl, by omega, f1, by omega, hx.2.1.2.1, hT, by omega, fun w k1 k2 => ?_⟩
    have hx2 := ixs_fs hx k1
    have g1 : tw w (20 + T) = sub (ks i) (fd (ks i) + 1) 0 := fix_sub (hx.2.2.1 i h3) rfl f1 (by omega) k2
    conv => whnf
    refine ⟨x, n, l, m, ru_w t w, q, 2 * s_on A, fsN (s_a A) (s_nm A), T, ks, rfl, rfl, rfl, by omega, hx2.2.1, hx2.2.2.1, ?_, fun T1 ks1 in1 tb1 v1 c1 c2 c3 c4 c5 => ?_⟩
    · show memK _ _ (tw w (20 + T))
      rw [g1]
      exact mem_child f2 f1 (by omega)
    have c5' : ixT T1 ks1 (sub (ks i) (fd (ks i) + 1) 0) v1 := by
      have : tw (rt_w (ru_w t w)) (20 + T) = sub (ks i) (fd (ks i) + 1) 0 := g1
      rw [this] at c5
      exact c5
    conv => whnf
    refine ⟨ini_, ?_⟩
    conv => whnf
    rw [hci]
    have hx3 : ixs A T1 ks1 (t.1, t.2.1, (rt_va t, rt_la t, tb1, w, in1), (upd (rt_lo t) i v1, rt_hi t, rt_far t, rt_ro t, rt_mk t)) := ⟨hx.1, c1, c4, hx2.2.2.2⟩
    have hT1 := c1.1
    obtain ⟨p1, p2, p3⟩ := c1.2.2.2 i (by omega)
    have ek : ks1 i = ks i := c3 i h3
    refine ⟨ini_, ?_⟩
    conv => whnf
    dsimp only
    rw [e20, show (ru_tb (ru_in (ru_w t w) in1) tb1).2.2.1.2.2.2.2 i = nI (fd (ks i)) from (by rw [← ek]; exact p3)]
    refine ⟨x, n, l, m, (t.1, t.2.1, (rt_va t, rt_la t, tb1, w, in1), (upd (rt_lo t) i v1, rt_hi t, rt_far t, rt_ro t, rt_mk t)), q, 20 + i, fd (ks i), 1, T1, rfl, rfl, rfl, by omega, f1, by omega, c1.2.1, hT1, by omega, fun w' k3 k4 => ?_⟩
    have hx4 := ixs_fs hx3 k3
    have g2 : tw w' (20 + T1) = sub (ks i) (fd (ks i) + 1) 1 := fix_sub ((c4 i (by omega)).trans ek) rfl f1 (by omega) k4
    conv => whnf
    refine ⟨x, n, l, m, (t.1, t.2.1, (rt_va t, rt_la t, tb1, w', in1), (upd (rt_lo t) i v1, rt_hi t, rt_far t, rt_ro t, rt_mk t)), q, 2 * s_on A, fsN (s_a A) (s_nm A), T1, ks1, rfl, rfl, rfl, by omega, hx4.2.1, hx4.2.2.1, ?_, fun T2 ks2 in2 tb2 v2 d1 d2 d3 d4 d5 => ?_⟩
    · show memK _ _ (tw w' (20 + T1))
      rw [g2]
      exact mem_child f2 f1 (by omega)
    have d5' : ixT T2 ks2 (sub (ks i) (fd (ks i) + 1) 1) v2 := by
      have : tw (rt_w ((t.1, t.2.1, (rt_va t, rt_la t, tb1, w', in1), (upd (rt_lo t) i v1, rt_hi t, rt_far t, rt_ro t, rt_mk t)) : wR)) (20 + T1) = sub (ks i) (fd (ks i) + 1) 1 := g2
      rw [this] at d5
      exact d5
    conv => whnf
    refine ⟨ini_, ?_⟩
    conv => whnf
    rw [hci, nI_1]
    have ek2 : ∀ p, p < T → ks2 p = ks p := fun p hp => (d3 p (by omega)).trans (c3 p hp)
    refine ih (i + 1) (t.1, t.2.1, (rt_va t, rt_la t, tb2, w', in2), (upd (rt_lo t) i v1, upd (rt_hi t) i v2, rt_far t, rt_ro t, rt_mk t)) T2 ks2 (by omega) (by omega) ⟨hx.1, d1, d4, hx4.2.2.2⟩ (fun j hj => ixT_up (h1 j hj) (by omega) ek2) (fun p hp => ?_) s2 s3 s4
    show ixT T2 ks2 (sub (ks2 p) (fd (ks2 p) + 1) 0) (upd (rt_lo t) i v1 p) ∧ ixT T2 ks2 (sub (ks2 p) (fd (ks2 p) + 1) 1) (upd (rt_hi t) i v2 p)
    rw [ek2 p (by omega)]
    by_cases ep : p = i
    · subst ep
      rw [pk_us, pk_us]
      exact ⟨ixT_up c5' d2 d3, d5'⟩
    · rw [pk_un ep, pk_un ep]
      obtain ⟨r1, r2⟩ := h2 p (by omega)
      exact ⟨ixT_up r1 (by omega) ek2, ixT_up r2 (by omega) ek2⟩
set_option maxRecDepth 100000 in
set_option maxHeartbeats 4000000 in
theorem ly_far {V : cx_K} {Rq : cx_R} (hV : cx_cl1 t_R_lay lySp [] [] 0 0 Rq V) {x : wX} {n : wN} {l : wL} {m : wM} {q : List cx_C} {T : Nat} {ks : Nat → Ky} {t : wR} (hT : T ≤ 874) (htb : rt_tb t = nI T) (hin : ∀ i, i < T → fd (ks i) < 8 ∧ rt_in t i = nI (fd (ks i))) (hch : chR T T ks (rt_lo t) (rt_hi t))
    (hK : ∀ far, (∀ i, i < T → far i = nI (dp 8 (ks i))) → Rq (.inl (some (.inl (nI T)))) (wd x n l m (wq (ru_far t far) q))) :
    ∀ (k : Nat) (far : Nat → Int32) (s2 s3 s4 : Option cx_V), k ≤ 8 → (∀ i, i < T → k ≤ fd (ks i) → far i = nI (dp 8 (ks i))) → V 247 [some (.inr (.inr (.inl 25))), some (.inl (prI k)), s2, s3, s4] [] (wd x n l m (wq (ru_far t far) q)) 0 0 := by
  intro k
  induction k with
  | zero =>
    intro far s2 s3 s4 hk h1
    refine hV [] 60 _ _ _ _ _ _ ?_
    conv => whnf
    rw [prI_0]
    refine ⟨fun _ => ?_, fun e => absurd (by decide) e⟩
    conv => whnf
    refine ⟨fun e => absurd e (by decide), ?_⟩
    rw [show (ru_far t far).2.2.1.2.2.1 = nI T from htb]
    exact hK far (fun i hi => h1 i hi (Nat.zero_le _))
  | succ k ih =>
    intro far s2 s3 s4 hk h1
    rw [prI_s]
    have inner : ∀ (d i : Nat) (far : Nat → Int32) (s3 s4 : Option cx_V), i + d = T → (∀ p, p < T → k + 1 ≤ fd (ks p) → far p = nI (dp 8 (ks p))) → (∀ p, p < i → fd (ks p) = k → far p = nI (dp 8 (ks p))) → V 253 [some (.inr (.inr (.inl 25))), some (.inl (nI k)), some (.inl (nI i)), s3, s4] [] (wd x n l m (wq (ru_far t far) q)) 0 0 := by
      intro d
      induction d with
      | zero =>
        intro i far s3 s4 hd h2 h3
        refine hV [247] 60 _ _ _ _ _ _ ?_
        conv => whnf
        refine pk_le T i (fun _ => ?_) (fun _ => by omega) htb
        conv => whnf
        rw [nI_m1]
        refine ih far _ s3 s4 (by omega) (fun p hp hpk => ?_)
        by_cases e : fd (ks p) = k
        · exact h3 p (by omega) e
        · exact h2 p hp (by omega)
      | succ d ih2 =>
        intro i far s3 s4 hd h2 h3
        have hi : i < T := by omega
        obtain ⟨f1, f2⟩ := hin i hi
        obtain ⟨c0, c1⟩ := hch i hi
        have ini_ : vp_in (nI i) 2000 := pk_in i 2000 (by omega)
        have hci : (nI i).toNatClampNeg = i := nx_c (by omega)
        have next : ∀ (far' : Nat → Int32) (s3 s4 : Option cx_V), (∀ p, p ≠ i → far' p = far p) → (fd (ks i) = k → far' i = nI (dp 8 (ks i))) → (fd (ks i) ≠ k → far' i = far i) → V 344 [some (.inr (.inr (.inl 25))), some (.inl (nI k)), some (.inl (nI i)), s3, s4] [] (wd x n l m (wq (ru_far t far') q)) 0 0 := by
          intro far' s3 s4 g1 g2 g3
          refine hV [253] 60 _ _ _ _ _ _ ?_
          conv => whnf
          rw [nI_1]
          refine ih2 (i + 1) far' s3 s4 (by omega) (fun p hp hpk => ?_) (fun p hp hpk => ?_)
          · by_cases e : p = i
            · subst e; rw [g3 (by omega)]; exact h2 p hp hpk
            · rw [g1 p e]; exact h2 p hp hpk
          · by_cases e : p = i
            · subst e; exact g2 hpk
            · rw [g1 p e]; exact h3 p (by omega) hpk
        have at314 : ∀ a b : Int32, (fd (ks i) = k → a = nI (dp 8 (sub (ks i) (fd (ks i) + 1) 0)) ∧ b = nI (dp 8 (sub (ks i) (fd (ks i) + 1) 1))) → V 314 [some (.inr (.inr (.inl 25))), some (.inl (nI k)), some (.inl (nI i)), some (.inl a), some (.inl b)] [] (wd x n l m (wq (ru_far t far) q)) 0 0 := by
          intro a b hab
          refine hV [344] 60 _ _ _ _ _ _ ?_
          conv => whnf
          refine ⟨ini_, ?_⟩
          conv => whnf
          rw [hci]
          dsimp only
          rw [show (ru_far t far).2.2.1.2.2.2.2 i = nI (fd (ks i)) from f2]
          refine ⟨fun e => ?_, fun e => ?_⟩
          · have e2 : fd (ks i) ≠ k := fun q => e (by rw [q])
            exact next far _ _ (fun p _ => rfl) (fun q => absurd q e2) (fun _ => rfl)
          · have e2 : fd (ks i) = k := by
              rw [nI_eq (by omega) (by omega)] at e
              exact e
            obtain ⟨ha, hb⟩ := hab e2
            subst ha hb
            have l0 := dp_le 8 (sub (ks i) (fd (ks i) + 1) 0)
            have l1 := dp_le 8 (sub (ks i) (fd (ks i) + 1) 1)
            have fin : ∀ v, v = nI (dp 8 (ks i)) → V 344 [some (.inr (.inr (.inl 25))), some (.inl (nI k)), some (.inl (nI i)), some (.inl (nI (dp 8 (sub (ks i) (fd (ks i) + 1) 0)))), some (.inl (nI (dp 8 (sub (ks i) (fd (ks i) + 1) 1))))] [] (wd x n l m (wq (ru_far t (upd far i v)) q)) 0 0 := fun v hv => next (upd far i v) _ _ (fun p hp => pk_un hp) (fun _ => pk_us.trans hv) (fun q => absurd e2 q)
            conv => whnf
            refine pk_le (dp 8 (sub (ks i) (fd (ks i) + 1) 0)) (dp 8 (sub (ks i) (fd (ks i) + 1) 1)) (fun h4 => ?_) (fun h4 => ?_)
            · conv => whnf
              refine ⟨ini_, ?_⟩
              conv => whnf
              rw [hci]
              refine fin _ ?_
              rw [dp_step f1, show (1 : Int32) = nI 1 from rfl, nI_add]
              congr 2
              omega
            · conv => whnf
              refine ⟨ini_, ?_⟩
              conv => whnf
              rw [hci]
              refine fin _ ?_
              rw [dp_step f1, show (1 : Int32) = nI 1 from rfl, nI_add]
              congr 2
              omega
        have val0 : ∀ (g : Ky) (v : Int32), ixT T ks g v → fd (ks i) + 1 ≤ fd g → (v = -1 → fd (ks i) = k → (0 : Int32) = nI (dp 8 g)) ∧ (v ≠ -1 → vp_in v 2000 ∧ (fd (ks i) = k → far v.toNatClampNeg = nI (dp 8 g))) := by
          intro g v hix hge
          rcases hix with ⟨q1, q2⟩ | ⟨p, q1, q2, q3⟩
          · refine ⟨fun _ _ => by rw [dp_const q1]; rfl, fun e => absurd q2 e⟩
          · subst q3
            refine ⟨fun e => ?_, fun _ => ⟨pk_in p 2000 (by omega), fun e => ?_⟩⟩
            · exfalso
              have := nI_toInt (n := p) (by omega)
              rw [e] at this
              have h1 : (-1 : Int32).toInt = -1 := by decide
              rw [h1] at this
              omega
            · rw [nx_c (by omega), ← q2]
              exact h2 p q1 (by rw [q2]; omega)
        obtain ⟨a1, a2⟩ := val0 _ _ c0 (fd_sub_ge (by omega))
        obtain ⟨b1, b2⟩ := val0 _ _ c1 (fd_sub_ge (by omega))
        have at287 : ∀ a : Int32, (fd (ks i) = k → a = nI (dp 8 (sub (ks i) (fd (ks i) + 1) 0))) → V 287 [some (.inr (.inr (.inl 25))), some (.inl (nI k)), some (.inl (nI i)), some (.inl a), s4] [] (wd x n l m (wq (ru_far t far) q)) 0 0 := by
          intro a ha
          refine hV [314] 60 _ _ _ _ _ _ ?_
          conv => whnf
          refine ⟨ini_, ?_⟩
          conv => whnf
          rw [hci]
          refine ⟨fun e => ?_, fun e => ?_⟩
          · conv => whnf
            refine ⟨ini_, ?_⟩
            conv => whnf
            rw [hci]
            refine ⟨(b2 e).1, ?_⟩
            conv => whnf
            exact at314 a _ (fun q => ⟨ha q, (b2 e).2 q⟩)
          · conv => whnf
            exact at314 a 0 (fun q => ⟨ha q, b1 e q⟩)
        refine hV [287] 60 _ _ _ _ _ _ ?_
        conv => whnf
        refine pk_le T i (fun _ => by omega) (fun _ => ?_) htb
        conv => whnf
        refine ⟨ini_, ?_⟩
        conv => whnf
        rw [hci]
        refine ⟨fun e => ?_, fun e => ?_⟩
        · conv => whnf
          refine ⟨ini_, ?_⟩
          conv => whnf
          rw [hci]
          refine ⟨(a2 e).1, ?_⟩
          conv => whnf
          exact at287 _ (fun q => (a2 e).2 q)
        · conv => whnf
          exact at287 0 (fun q => a1 e q)
    refine hV [253] 60 _ _ _ _ _ _ ?_
    conv => whnf
    refine ⟨fun e => absurd e (nI_pos (by omega)), fun _ => ?_⟩
    conv => whnf
    rw [← nI_0]
    exact inner T 0 far s3 s4 (by omega) h1 (fun p hp => by omega)
theorem ru_far_self (t : wR) : ru_far t (rt_far t) = t := rfl
set_option maxRecDepth 100000 in
set_option maxHeartbeats 4000000 in
theorem pu_R_lay : ∀ as ws Rq, sp_R_lay as ws Rq → cx_cats as ≤ 5 ∧ ∀ V, cx_cl1 t_R_lay lySp [] [] 0 0 Rq V → V 0 (cx_lv0 as 5) [] ws 0 0 := by
  intro as ws Rq h0
  obtain ⟨j, r, fs0, rfl, hj, x, n, l, m, t, q, A, rfl, rfl, rfl, hR, h⟩ := cx_self_spec h0
  refine ⟨Nat.le_of_ble_eq_true rfl, fun V hV => ?_⟩
  obtain ⟨h1, h2, h3, h4, h5⟩ := hR
  have st4 : ∀ t T ks, ixs A T ks t → (∀ j, j < 2 * s_on A → ixT T ks (fsN (s_a A) (s_nm A) j) (rt_ro t j)) → chR T T ks (rt_lo t) (rt_hi t) → ∀ s2 s3 s4, V 247 [some (.inr (.inr (.inl 25))), some (.inl (prI 8)), s2, s3, s4] [] (wd x n l m (wq t q)) 0 0 := by
    intro t T ks hx hro hch s2 s3 s4
    have hm : ∀ i, i < T → fd (ks i) < 8 ∧ memK (2 * s_on A) (fsN (s_a A) (s_nm A)) (ks i) := fun i hi => ⟨(hx.2.1.2.2.2 i hi).1, (hx.2.1.2.2.2 i hi).2.1⟩
    have hen := tab_enu (fun j _ => nf_fsN (s_a A) (s_nm A) j) hx.2.1.2.2.1 hm hch hro
    have := ly_far hV (x := x) (n := n) (l := l) (m := m) (q := q) (T := T) (ks := ks) (t := t) hx.2.1.1 hx.2.1.2.1 (fun i hi => ⟨(hx.2.1.2.2.2 i hi).1, (hx.2.1.2.2.2 i hi).2.2⟩) hch (fun far hf => ?_) 8 (rt_far t) s2 s3 s4 (Nat.le_refl _) (fun i hi h8 => by have := (hm i hi).1; omega)
    · rw [ru_far_self] at this
      exact this
    · have e1 : nI T = nI (kN (2 * s_on A) (fsN (s_a A) (s_nm A)) (fun _ => true)) := by
        rw [← kN_eq hen, tab_total (J := 2 * s_on A) (fs := fsN (s_a A) (s_nm A)) (fun i hi => (hm i hi).1)]
      rw [e1]
      refine ansR_ret h (A := (s_a A, s_on A, s_nm A, s_on A, fsN (s_a A) (s_nm A))) rfl (t := ru_far t far) ⟨hx.1.1, hx.1.2.1, hx.1.2.2.1, hx.1.2.2.2.1, hx.1.2.1, hx.1.2.2.2.2.2, fun j hj => ⟨nf_fsN _ _ _, fun c hc => ?_⟩, T, ks, hx.2.1, fun i hi => ⟨(hch i hi).1, (hch i hi).2, hf i hi⟩, hro⟩ hx.1.2.2.2.2.1
      have e2 := congrFun (hx.2.2.2 j hj) c
      rw [tw_in hc] at e2
      exact e2
  have st3 : ∀ t T ks, ixs A T ks t → (∀ j, j < 2 * s_on A → ixT T ks (fsN (s_a A) (s_nm A) j) (rt_ro t j)) → lyF V x n l m q 180 0 t := fun t T ks hx hro => ly_child hV st4 874 0 t T ks (by omega) (Nat.zero_le _) hx hro (fun i hi => by omega)
  have st2 : ∀ t, bsR A t → rt_tb t = 0 → (∀ j, j < 2 * s_on A → tw (rt_w t) j = fsN (s_a A) (s_nm A) j) → lyF V x n l m q 113 0 t := fun t hb htb hw => ly_root hV st3 (2 * s_on A) 0 t 0 (fun _ => kF) (by omega) ⟨hb, ⟨Nat.zero_le _, htb, fun i hi => by omega, fun i hi => by omega⟩, fun i hi => by omega, hw⟩ (fun j hj => by omega)
  have st1 : ∀ t, bsR A t → rt_tb t = 0 → (∀ j, j < 20 → ∀ d, d < 256 → tw (rt_w t) j d = false) → lyF V x n l m q 39 0 t := fun t hb htb hw => ly_val hV st2 256 0 t (by omega) hb htb (fun j hj d hd => by rw [hw j (by have := hb.2.1; omega) d hd]; simp)
  refine hV [20] 60 _ _ _ _ _ _ ?_
  conv => whnf
  refine ⟨Or.inl rfl, ?_⟩
  conv => whnf
  refine ⟨Or.inl rfl, ?_⟩
  conv => whnf
  refine ⟨Or.inl rfl, ?_⟩
  conv => whnf
  rw [← nI_0]
  exact ly_empty hV st1 20 0 ((0, rt_g t, rt_f t, rt_i t, rt_on t), t.2.1, (rt_va t, rt_on t, 0, rt_w t, rt_in t), t.2.2.2) (by omega) ⟨h1, h2, h3, h4, rfl, h3⟩ rfl (fun j hj => by omega) none none none
end
section
/-! The reference: what is asked of what is laid out. -/
theorem hg_neg {c : Int32} (h : c < 0) (y : Int32) : hg c y = false := by simp [hg, h]
theorem hg_ge {c y : Int32} (h : y ≤ c) : hg c y = false := by simp [hg, h]
theorem hg_yes {c y : Int32} (h1 : ¬ c < 0) (h2 : ¬ y ≤ c) : hg c y = true := by simp only [hg, h1, h2]; rfl
theorem hg_gt255 {c : Int32} (h : ¬ c ≤ 255) : hg c 256 = false := by
  cases hh : hg c 256 with
  | false => rfl
  | true =>
    obtain ⟨j, hj1, rfl⟩ := hg_256 hh
    exact absurd (nI_le (a := j) (b := 255) (by omega) (by omega)) h
theorem hg_le255 {c : Int32} (h1 : ¬ c < 0) (h2 : c ≤ 255) : hg c 256 = true := by
  obtain ⟨j, hj1, rfl⟩ := nI_of2 (M := 255) (n := 255) (by decide) h1 h2
  exact hg_in (n := 256) (by omega) (by omega)
def sp_R_refuses : cx_S := cx_self 4 (fun j r ws R => ∃ x n l m t q o c, ws = wd x n l m (wq t q) ∧ j = 25 ∧ r = [.inl o, .inl c] ∧ ((hg o (rt_la t) && hg c 256) = true → R (.inl (some (.inl 0))) (wd x n l m (wq (ru_th t 0) q))) ∧ ((hg o (rt_la t) && hg c 256) = false → R (.inl (some (.inl 1))) (wd x n l m (wq (ru_th t 1) q))))
theorem pu_R_refuses : ∀ as ws Rq, sp_R_refuses as ws Rq → cx_cats as ≤ 3 ∧ ∀ V, cx_cl1 t_R_refuses [(sp_R_fails, 3, 0, 0)] [] [] 0 0 Rq V → V 0 (cx_lv0 as 3) [] ws 0 0 := by
  intro as ws Rq h0
  obtain ⟨j, r, fs0, rfl, hj, x, n, l, m, t, q, o, c, rfl, rfl, rfl, h1, h2⟩ := cx_self_spec h0
  refine ⟨Nat.le_of_ble_eq_true rfl, fun V hV => ?_⟩
  have no : (hg o (rt_la t) && hg c 256) = false → V 24 [some (.inr (.inr (.inl 25))), some (.inl o), some (.inl c)] [.inr (.inr (.inl 25))] (wd x n l m (wq t q)) 0 0 := by
    intro e
    refine hV [] 40 _ _ _ _ _ _ ?_
    conv => whnf
    refine ⟨x, n, l, m, t, q, true, false, 1, rfl, rfl, rfl, rfl, ?_⟩
    conv => whnf
    exact ⟨fun _ => Or.inr rfl, h2 e⟩
  refine hV [24] 40 _ _ _ _ _ _ ?_
  conv => whnf
  refine ⟨fun e => no (by rw [hg_neg e]; rfl), fun e1 => ?_⟩
  conv => whnf
  refine ⟨fun e => no (by rw [hg_ge e]; rfl), fun e2 => ?_⟩
  conv => whnf
  refine ⟨fun e => no (by rw [hg_neg e, Bool.and_false]), fun e3 => ?_⟩
  conv => whnf
  refine ⟨fun e4 => ?_, fun e => no (by rw [hg_gt255 e, Bool.and_false])⟩
  conv => whnf
  refine ⟨x, n, l, m, t, q, false, false, 0, rfl, rfl, rfl, rfl, ?_⟩
  conv => whnf
  exact ⟨fun _ => Or.inl rfl, h1 (by rw [hg_yes e1 e2, hg_le255 e3 e4]; rfl)⟩
theorem rRl_tw {lo : Nat} {fs : Nat → Ky} {t : wR} (h : rRl lo fs t) {j : Nat} (hj : j < 2 * lo) : tw (rt_w t) j = fs j := nf_ext (nf_tw _ _) (h.2.2.1 j hj).1 (fun c hc => by
  rw [tw_in hc]
  exact (h.2.2.1 j hj).2 c hc)
def sp_R_run : cx_S := cx_self 4 (fun j r ws R => ∃ x n l m t q A o c, ws = wd x n l m (wq t q) ∧ j = 25 ∧ r = [.inl o, .inl c] ∧ rR A t ∧ ansR (runS A o c) x n l m q R)
theorem pu_R_run : ∀ as ws Rq, sp_R_run as ws Rq → cx_cats as ≤ 3 ∧ ∀ V, cx_cl1 t_R_run [(sp_R_refuses, 3, 0, 0), (sp_R_truth, 3, 0, 0)] [] [] 0 0 Rq V → V 0 (cx_lv0 as 3) [] ws 0 0 := by
  intro as ws Rq h0
  obtain ⟨j, r, fs0, rfl, hj, x, n, l, m, t, q, A, o, c, rfl, rfl, rfl, hR, h⟩ := cx_self_spec h0
  refine ⟨Nat.le_of_ble_eq_true rfl, fun V hV => hV [] 60 _ _ _ _ _ _ ?_⟩
  have hL := hR.2.2.2.2
  have lo10 := hL.1
  have hla : rt_la t = nI (s_lo A) := hL.2.1
  conv => whnf
  refine ⟨x, n, l, m, t, q, o, c, rfl, rfl, rfl, fun e => ?_, fun e => ?_⟩
  rotate_left
  · rw [hla] at e
    conv => whnf
    refine ⟨fun e => absurd e (by decide), fun _ => ?_⟩
    conv => whnf
    have e2 : runS A o c = (0 + 1, 0, A) := by
      unfold runS
      rw [if_neg (by rw [e]; simp)]
    exact ⟨fun e => absurd e (by decide), ansR_thr h e2 (t := ru_th t 1) hR rfl⟩
  rw [hla] at e
  rw [Bool.and_eq_true] at e
  obtain ⟨e1, e2⟩ := e
  obtain ⟨o, ho, rfl⟩ := hg_of (by omega) e1
  obtain ⟨c, hc, rfl⟩ := hg_256 e2
  have ret : runS A (nI o) (nI c) = (0, rv (s_fs A) o c, A) := by
    unfold runS
    rw [e1, e2, if_pos (show (true && true) = true from rfl), nx_c (show o < 2 ^ 31 by omega), nx_c (show c < 2 ^ 31 by omega)]
  conv => whnf
  refine ⟨fun _ => ?_, fun e => absurd rfl e⟩
  conv => whnf
  rw [show (2 : Int32) * nI o = nI (2 * o) by rw [show (2 : Int32) = nI 2 from rfl, pk_mul]]
  refine ⟨x, n, l, m, ru_th t 0, q, 2 * o, c, rfl, rfl, rfl, by omega, hc, ?_⟩
  rw [show tw (rt_w (ru_th t 0)) (2 * o) = s_fs A (2 * o) from rRl_tw hL (by omega)]
  conv => whnf
  cases h1 : s_fs A (2 * o) c with
  | true =>
    refine ⟨fun e => absurd e (by decide), fun _ => ?_⟩
    conv => whnf
    refine ⟨fun e => absurd e (by decide), ansR_ret h (v := 1) (A := A) ?_ (t := ru_th t 0) hR rfl⟩
    rw [ret]
    simp [rv, h1]
  | false =>
    refine ⟨fun _ => ?_, fun e => absurd rfl e⟩
    conv => whnf
    rw [show (2 : Int32) * nI o + 1 = nI (2 * o + 1) by rw [show (2 : Int32) = nI 2 from rfl, pk_mul, nI_1]]
    refine ⟨x, n, l, m, ru_th t 0, q, 2 * o + 1, c, rfl, rfl, rfl, by omega, hc, ?_⟩
    rw [show tw (rt_w (ru_th t 0)) (2 * o + 1) = s_fs A (2 * o + 1) from rRl_tw hL (by omega)]
    conv => whnf
    cases h2 : s_fs A (2 * o + 1) c with
    | true =>
      refine ⟨fun e => absurd e (by decide), fun _ => ?_⟩
      conv => whnf
      refine ⟨fun e => absurd e (by decide), ansR_ret h (v := 0) (A := A) ?_ (t := ru_th t 0) hR rfl⟩
      rw [ret]
      simp [rv, h1, h2]
    | false =>
      refine ⟨fun _ => ?_, fun e => absurd rfl e⟩
      conv => whnf
      refine ⟨fun e => absurd e (by decide), ansR_ret h (v := 2) (A := A) ?_ (t := ru_th t 0) hR rfl⟩
      rw [ret]
      simp [rv, h1, h2]
theorem nI_ne_m1 {p : Nat} (hp : p < 2 ^ 31) : ¬ nI p = -1 := by
  have := prI_ne hp
  rw [prI_s] at this
  exact this
def sp_R_way : cx_S := cx_self 4 (fun j r ws R => ∃ x n l m t q A o c, ws = wd x n l m (wq t q) ∧ j = 25 ∧ r = [.inl o, .inl c] ∧ rR A t ∧ ansR (wayS A o c) x n l m q R)
set_option maxHeartbeats 4000000 in
theorem pu_R_way : ∀ as ws Rq, sp_R_way as ws Rq → cx_cats as ≤ 6 ∧ ∀ V, cx_cl1 t_R_way [(sp_R_refuses, 3, 0, 0)] [] [] 0 0 Rq V → V 0 (cx_lv0 as 6) [] ws 0 0 := by
  intro as ws Rq h0
  obtain ⟨j, r, fs0, rfl, hj, x, n, l, m, t, q, A, o, c, rfl, rfl, rfl, hR, h⟩ := cx_self_spec h0
  refine ⟨Nat.le_of_ble_eq_true rfl, fun V hV => ?_⟩
  have hL := hR.2.2.2.2
  have lo10 := hL.1
  have hla : rt_la t = nI (s_lo A) := hL.2.1
  obtain ⟨T, ks, hen, hTab, hch, hfar, hro⟩ := rRl_enu hL
  have hT := hTab.1
  refine hV [16] 60 _ _ _ _ _ _ ?_
  conv => whnf
  refine ⟨x, n, l, m, t, q, o, c, rfl, rfl, rfl, fun e => ?_, fun e => ?_⟩
  rotate_left
  · rw [hla] at e
    conv => whnf
    refine ⟨fun e => absurd e (by decide), fun _ => ?_⟩
    conv => whnf
    have e2 : wayS A o c = (0 + 1, 0, A) := by
      unfold wayS
      rw [if_neg (by rw [e]; simp)]
    exact ⟨fun e => absurd e (by decide), ansR_thr h e2 (t := ru_th t 1) hR rfl⟩
  rw [hla] at e
  rw [Bool.and_eq_true] at e
  obtain ⟨e1, e2⟩ := e
  obtain ⟨o, ho, rfl⟩ := hg_of (by omega) e1
  obtain ⟨c, hc, rfl⟩ := hg_256 e2
  have ret : wayS A (nI o) (nI c) = (0, nI (wl 8 (s_fs A (2 * o)) c + wl 8 (s_fs A (2 * o + 1)) c), A) := by
    unfold wayS
    rw [e1, e2, if_pos (show (true && true) = true from rfl), nx_c (show o < 2 ^ 31 by omega), nx_c (show c < 2 ^ 31 by omega)]
  have inner : ∀ (d : Nat) (g : Ky) (v : Int32) (k : Nat) (rr : Int32), ixT T ks g v → 8 ≤ fd g + d → (∀ s5, V 84 [some (.inr (.inr (.inl 25))), some (.inl (nI o)), some (.inl (nI c)), some (.inl (nI (k + wl d g c))), some (.inl rr), s5] [] (wd x n l m (wq (ru_th t 0) q)) 0 0) →
      V 35 [some (.inr (.inr (.inl 25))), some (.inl (nI o)), some (.inl (nI c)), some (.inl (nI k)), some (.inl rr), some (.inl v)] [] (wd x n l m (wq (ru_th t 0) q)) 0 0 := by
    intro d
    have stop : ∀ (d : Nat) (g : Ky) (k : Nat) (rr : Int32), fd g = 8 → (∀ s5, V 84 [some (.inr (.inr (.inl 25))), some (.inl (nI o)), some (.inl (nI c)), some (.inl (nI (k + wl d g c))), some (.inl rr), s5] [] (wd x n l m (wq (ru_th t 0) q)) 0 0) → V 35 [some (.inr (.inr (.inl 25))), some (.inl (nI o)), some (.inl (nI c)), some (.inl (nI k)), some (.inl rr), some (.inl (-1))] [] (wd x n l m (wq (ru_th t 0) q)) 0 0 := by
      intro d g k rr hg8 hK
      have e0 : wl d g c = 0 := by
        cases d with
        | zero => rfl
        | succ d => exact if_pos hg8
      refine hV [84] 60 _ _ _ _ _ _ ?_
      conv => whnf
      refine ⟨fun _ => ?_, fun e => absurd rfl e⟩
      have := hK (some (.inl (-1)))
      rw [e0, Nat.add_zero] at this
      exact this
    induction d with
    | zero =>
      intro g v k rr hix hge hK
      have h8 : fd g = 8 := by have := fd_le g; omega
      rcases hix with ⟨q1, q2⟩ | ⟨p, q1, q2, q3⟩
      · subst q2; exact stop 0 g k rr q1 hK
      · exfalso
        have := (hTab.2.2.2 p q1).1
        rw [q2] at this
        omega
    | succ d ih =>
      intro g v k rr hix hge hK
      rcases hix with ⟨q1, q2⟩ | ⟨p, q1, q2, q3⟩
      · subst q2; exact stop (d + 1) g k rr q1 hK
      subst q3
      obtain ⟨f1, f2, f3⟩ := hTab.2.2.2 p q1
      obtain ⟨c0, c1⟩ := hch p q1
      rw [q2] at f1 f3 c0 c1
      have inp : vp_in (nI p) 2000 := pk_in p 2000 (by omega)
      have hcp : (nI p).toNatClampNeg = p := nx_c (by omega)
      have e3 : wl (d + 1) g c = 1 + wl d (sub g (fd g + 1) (bn (cb (fd g) c))) c := if_neg (by omega)
      have hge2 := fd_sub_ge (f := g) (i := bn (cb (fd g) c)) (show fd g + 1 ≤ 8 by omega)
      refine hV [84, 35] 60 _ _ _ _ _ _ ?_
      conv => whnf
      refine ⟨fun e => absurd e (nI_ne_m1 (by omega)), fun _ => ?_⟩
      conv => whnf
      refine ⟨inp, ?_⟩
      conv => whnf
      rw [hcp]
      dsimp only
      rw [show (ru_th t 0).2.2.1.2.2.2.2 p = nI (fd g) from f3]
      have go : ∀ v', ixT T ks (sub g (fd g + 1) (bn (cb (fd g) c))) v' → V 35 [some (.inr (.inr (.inl 25))), some (.inl (nI o)), some (.inl (nI c)), some (.inl (nI (k + 1))), some (.inl rr), some (.inl v')] [] (wd x n l m (wq (ru_th t 0) q)) 0 0 := fun v' hv' => ih _ v' (k + 1) rr hv' (by omega) (fun s5 => by
        have := hK s5
        rw [e3, show k + (1 + wl d (sub g (fd g + 1) (bn (cb (fd g) c))) c) = k + 1 + wl d (sub g (fd g + 1) (bn (cb (fd g) c))) c by omega] at this
        exact this)
      refine ⟨fun e => ?_, fun e => ?_⟩
      · have hb : cb (fd g) c = false := by
          cases hh : cb (fd g) c with
          | false => rfl
          | true => exact absurd ((cb_iff f1 (by omega)).mpr hh) e
        rw [hb] at go
        conv => whnf
        refine ⟨inp, ?_⟩
        conv => whnf
        rw [hcp, nI_1]
        exact go _ c0
      · have hb := (cb_iff f1 (by omega)).mp e
        rw [hb] at go
        conv => whnf
        refine ⟨inp, ?_⟩
        conv => whnf
        rw [hcp, nI_1]
        exact go _ c1
  have step : ∀ (b k : Nat) (s5 : Option cx_V), b < 2 → (∀ s5, V 16 [some (.inr (.inr (.inl 25))), some (.inl (nI o)), some (.inl (nI c)), some (.inl (nI (k + wl 8 (s_fs A (2 * o + b)) c))), some (.inl (nI (b + 1))), s5] [] (wd x n l m (wq (ru_th t 0) q)) 0 0) → V 16 [some (.inr (.inr (.inl 25))), some (.inl (nI o)), some (.inl (nI c)), some (.inl (nI k)), some (.inl (nI b)), s5] [] (wd x n l m (wq (ru_th t 0) q)) 0 0 := by
    intro b k s5 hb hK
    have eb : (2 : Int32) * nI o + nI b = nI (2 * o + b) := by rw [show (2 : Int32) = nI 2 from rfl, pk_mul, nI_add]
    refine hV [35] 60 _ _ _ _ _ _ ?_
    conv => whnf
    refine pk_le 2 b (fun _ => by omega) (fun _ => ?_)
    conv => whnf
    refine ⟨pk_in (2 * o + b) 20 (by omega) eb, ?_⟩
    conv => whnf
    rw [eb, nx_c (show 2 * o + b < 2 ^ 31 by omega)]
    refine inner 8 (s_fs A (2 * o + b)) _ k (nI b) (hro (2 * o + b) (by omega)) (by omega) (fun s5 => ?_)
    refine hV [16] 60 _ _ _ _ _ _ ?_
    conv => whnf
    rw [nI_1]
    exact hK s5
  conv => whnf
  refine ⟨fun _ => ?_, fun e => absurd rfl e⟩
  conv => whnf
  rw [← nI_0]
  refine step 0 0 none (by omega) (fun s5 => step 1 _ s5 (by omega) (fun s5 => ?_))
  refine hV [] 60 _ _ _ _ _ _ ?_
  conv => whnf
  refine ⟨fun _ => ?_, fun e => absurd (by decide) e⟩
  conv => whnf
  refine ⟨fun e => absurd e (by decide), ?_⟩
  rw [Nat.add_zero, Nat.zero_add]
  exact ansR_ret h ret (t := ru_th t 0) hR rfl
def sp_R_at : cx_S := cx_self 4 (fun j r ws R => ∃ x n l m t q A k, ws = wd x n l m (wq t q) ∧ j = 25 ∧ r = [.inl k] ∧ rR A t ∧ ansR (atS A k) x n l m q R)
theorem pu_R_at : ∀ as ws Rq, sp_R_at as ws Rq → cx_cats as ≤ 4 ∧ ∀ V, cx_cl1 t_R_at [] [] [] 0 0 Rq V → V 0 (cx_lv0 as 4) [] ws 0 0 := by
  intro as ws Rq h0
  obtain ⟨j, r, fs0, rfl, hj, x, n, l, m, t, q, A, k, rfl, rfl, rfl, hR, h⟩ := cx_self_spec h0
  refine ⟨Nat.le_of_ble_eq_true rfl, fun V hV => ?_⟩
  have hL := hR.2.2.2.2
  obtain ⟨T, ks, hen, hTab, hch, hfar, hro⟩ := rRl_enu hL
  have hT := hTab.1
  have loop : ∀ (d i : Nat), i + d = T → V 9 [some (.inr (.inr (.inl 25))), some (.inl k), some (.inl (nI (cnP ks (fun g => decide (nI (fd g) = k)) i))), some (.inl (nI i))] [] (wd x n l m (wq (ru_th t 0) q)) 0 0 := by
    intro d
    induction d with
    | zero =>
      intro i hd
      have : i = T := by omega
      subst this
      refine hV [] 60 _ _ _ _ _ _ ?_
      conv => whnf
      refine pk_le i i (fun _ => ?_) (fun e => absurd e (Nat.lt_irrefl _)) hTab.2.1
      conv => whnf
      refine ⟨fun e => absurd e (by decide), ?_⟩
      refine ansR_ret h (A := A) ?_ (t := ru_th t 0) hR rfl
      unfold atS
      cases hk : hg k 8 with
      | true =>
        obtain ⟨k, hk8, rfl⟩ := hg_of (n := 8) (by omega) hk
        rw [if_pos rfl, nx_c (show k < 2 ^ 31 by omega), ← kN_eq hen, ← pnc_fd hk8]
        congr 3
        refine cnP_congr i (fun p hp => ?_)
        have := fd_le (ks p)
        rw [Bool.eq_iff_iff, decide_eq_true_eq, beq_iff_eq, nI_eq (by omega) (by omega)]
      | false =>
        rw [if_neg (by decide)]
        have e : cnP ks (fun g => decide (nI (fd g) = k)) i = 0 := by
          have := cnP_zero (ks := ks) (p := fun g => decide (nI (fd g) = k)) 0 i (fun p _ hp => by
            have h8 := (hTab.2.2.2 p (by omega)).1
            rw [decide_eq_false_iff_not]
            intro e
            rw [← e, show hg (nI (fd (ks p))) 8 = true from hg_in (n := 8) h8 (by omega)] at hk
            cases hk)
          rw [Nat.zero_add] at this
          exact this
        rw [e]
        rfl
    | succ d ih =>
      intro i hd
      have hi : i < T := by omega
      have f3 := (hTab.2.2.2 i hi).2.2
      refine hV [9] 60 _ _ _ _ _ _ ?_
      conv => whnf
      refine pk_le T i (fun _ => by omega) (fun _ => ?_) hTab.2.1
      conv => whnf
      refine ⟨pk_in i 2000 (by omega), ?_⟩
      conv => whnf
      rw [nx_c (show i < 2 ^ 31 by omega)]
      dsimp only
      rw [show (ru_th t 0).2.2.1.2.2.2.2 i = nI (fd (ks i)) from f3]
      have st : cnP ks (fun g => decide (nI (fd g) = k)) (i + 1) = cnP ks (fun g => decide (nI (fd g) = k)) i + bn (decide (nI (fd (ks i)) = k)) := rfl
      have := ih (i + 1) (by omega)
      rw [st] at this
      refine ⟨fun e => ?_, fun e => ?_⟩
      · conv => whnf
        rw [nI_1, Int32.add_zero]
        rw [show decide (nI (fd (ks i)) = k) = false by simp [e]] at this
        exact this
      · conv => whnf
        rw [nI_1, nI_1]
        rw [show decide (nI (fd (ks i)) = k) = true by simp [e]] at this
        exact this
  refine hV [9] 60 _ _ _ _ _ _ ?_
  conv => whnf
  refine ⟨Or.inl rfl, ?_⟩
  conv => whnf
  rw [← nI_0]
  exact loop T 0 (by omega)
def sp_R_known : cx_S := cx_self 4 (fun j r ws R => ∃ x n l m t q A o, ws = wd x n l m (wq t q) ∧ j = 25 ∧ r = [.inl o] ∧ rR A t ∧ ansR (knoS A o) x n l m q R)
theorem pu_R_known : ∀ as ws Rq, sp_R_known as ws Rq → cx_cats as ≤ 4 ∧ ∀ V, cx_cl1 t_R_known [(sp_R_refuses, 3, 0, 0), (sp_R_truth, 3, 0, 0)] [] [] 0 0 Rq V → V 0 (cx_lv0 as 4) [] ws 0 0 := by
  intro as ws Rq h0
  obtain ⟨j, r, fs0, rfl, hj, x, n, l, m, t, q, A, o, rfl, rfl, rfl, hR, h⟩ := cx_self_spec h0
  refine ⟨Nat.le_of_ble_eq_true rfl, fun V hV => ?_⟩
  have hL := hR.2.2.2.2
  have lo10 := hL.1
  have hla : rt_la t = nI (s_lo A) := hL.2.1
  refine hV [15] 60 _ _ _ _ _ _ ?_
  conv => whnf
  refine ⟨x, n, l, m, t, q, o, 0, rfl, rfl, rfl, fun e => ?_, fun e => ?_⟩
  rotate_left
  · rw [hla, show hg 0 256 = true from by decide, Bool.and_true] at e
    conv => whnf
    refine ⟨fun e => absurd e (by decide), fun _ => ?_⟩
    conv => whnf
    have e2 : knoS A o = (0 + 1, 0, A) := by
      unfold knoS
      rw [if_neg (by rw [e]; simp)]
    exact ⟨fun e => absurd e (by decide), ansR_thr h e2 (t := ru_th t 1) hR rfl⟩
  rw [hla, show hg 0 256 = true from by decide, Bool.and_true] at e
  obtain ⟨o, ho, rfl⟩ := hg_of (by omega) e
  have ret : knoS A (nI o) = (0, nI (ctB (kno (s_fs A) o) 256), A) := by
    unfold knoS
    rw [if_pos e, nx_c (show o < 2 ^ 31 by omega)]
  have e2o : (2 : Int32) * nI o = nI (2 * o) := by rw [show (2 : Int32) = nI 2 from rfl, pk_mul]
  have loop : ∀ (d c : Nat), c + d = 256 → V 15 [some (.inr (.inr (.inl 25))), some (.inl (nI o)), some (.inl (nI (ctB (kno (s_fs A) o) c))), some (.inl (nI c))] [] (wd x n l m (wq (ru_th t 0) q)) 0 0 := by
    intro d
    induction d with
    | zero =>
      intro c hd
      have : c = 256 := by omega
      subst this
      refine hV [] 60 _ _ _ _ _ _ ?_
      conv => whnf
      refine ⟨fun _ => ?_, fun e => absurd (by decide) e⟩
      conv => whnf
      exact ⟨fun e => absurd e (by decide), ansR_ret h ret (t := ru_th t 0) hR rfl⟩
    | succ d ih =>
      intro c hd
      have nxt := ih (c + 1) (by omega)
      have st : ctB (kno (s_fs A) o) (c + 1) = ctB (kno (s_fs A) o) c + bn (kno (s_fs A) o c) := rfl
      rw [st] at nxt
      have at47 : kno (s_fs A) o c = true → V 47 [some (.inr (.inr (.inl 25))), some (.inl (nI o)), some (.inl (nI (ctB (kno (s_fs A) o) c))), some (.inl (nI c))] [.inl (nI (ctB (kno (s_fs A) o) c))] (wd x n l m (wq (ru_th t 0) q)) 0 0 := by
        intro hk
        rw [hk] at nxt
        refine hV [15] 60 _ _ _ _ _ _ ?_
        conv => whnf
        rw [nI_1, nI_1]
        exact nxt
      refine hV [15, 47] 60 _ _ _ _ _ _ ?_
      conv => whnf
      refine pk_le 256 c (fun _ => by omega) (fun _ => ?_)
      conv => whnf
      rw [e2o]
      refine ⟨x, n, l, m, ru_th t 0, q, 2 * o, c, rfl, rfl, rfl, by omega, by omega, ?_⟩
      rw [show tw (rt_w (ru_th t 0)) (2 * o) = s_fs A (2 * o) from rRl_tw hL (by omega)]
      conv => whnf
      refine ⟨fun e => at47 (by unfold kno; rw [b2_ne0.mp e]; rfl), fun e1 => ?_⟩
      conv => whnf
      rw [e2o, nI_1]
      refine ⟨x, n, l, m, ru_th t 0, q, 2 * o + 1, c, rfl, rfl, rfl, by omega, by omega, ?_⟩
      rw [show tw (rt_w (ru_th t 0)) (2 * o + 1) = s_fs A (2 * o + 1) from rRl_tw hL (by omega)]
      conv => whnf
      refine ⟨fun e2 => ?_, fun e => at47 (by unfold kno; rw [b2_ne0.mp e, Bool.or_true])⟩
      conv => whnf
      rw [nI_1, Int32.add_zero]
      rw [show kno (s_fs A) o c = false by unfold kno; rw [b2_eq0.mp e1, b2_eq0.mp e2]; rfl] at nxt
      exact nxt
  conv => whnf
  refine ⟨fun _ => ?_, fun e => absurd rfl e⟩
  conv => whnf
  rw [← nI_0]
  exact loop 256 0 (by omega)
def sp_R_doubt : cx_S := cx_self 4 (fun j r ws R => ∃ x n l m t q A c, ws = wd x n l m (wq t q) ∧ j = 25 ∧ r = [.inl c] ∧ rR A t ∧ ansR (douS A c) x n l m q R)
theorem pu_R_doubt : ∀ as ws Rq, sp_R_doubt as ws Rq → cx_cats as ≤ 4 ∧ ∀ V, cx_cl1 t_R_doubt [(sp_R_fails, 3, 0, 0), (sp_R_truth, 3, 0, 0)] [] [] 0 0 Rq V → V 0 (cx_lv0 as 4) [] ws 0 0 := by
  intro as ws Rq h0
  obtain ⟨j, r, fs0, rfl, hj, x, n, l, m, t, q, A, c, rfl, rfl, rfl, hR, h⟩ := cx_self_spec h0
  refine ⟨Nat.le_of_ble_eq_true rfl, fun V hV => ?_⟩
  have hL := hR.2.2.2.2
  have lo10 := hL.1
  have hla : rt_la t = nI (s_lo A) := hL.2.1
  have no : hg c 256 = false → V 12 [some (.inr (.inr (.inl 25))), some (.inl c), none, none] [.inr (.inr (.inl 25))] (wd x n l m (wq t q)) 0 0 := by
    intro e
    refine hV [] 40 _ _ _ _ _ _ ?_
    conv => whnf
    refine ⟨x, n, l, m, t, q, true, false, 1, rfl, rfl, rfl, rfl, ?_⟩
    conv => whnf
    refine ⟨fun e => absurd e (by decide), fun _ => ?_⟩
    conv => whnf
    have e2 : douS A c = (0 + 1, 0, A) := by
      unfold douS
      rw [if_neg (by rw [e]; simp)]
    exact ⟨fun e => absurd e (by decide), ansR_thr h e2 (t := ru_th t 1) hR rfl⟩
  refine hV [12, 28] 40 _ _ _ _ _ _ ?_
  conv => whnf
  refine ⟨fun e => no (hg_neg e _), fun e1 => ?_⟩
  conv => whnf
  refine ⟨fun e2 => ?_, fun e => no (hg_gt255 e)⟩
  have hc := hg_le255 e1 e2
  obtain ⟨c0, hc0, rfl⟩ := hg_256 hc
  have ret : douS A (nI c0) = (0, fdt (s_lo A) (s_fs A) (256 - c0) c0, A) := by
    unfold douS
    rw [if_pos hc, nx_c (show c0 < 2 ^ 31 by omega)]
  have fin : Rq (.inl (some (.inl (fdt (s_lo A) (s_fs A) (256 - c0) c0)))) (wd x n l m (wq (ru_th t 0) q)) := ansR_ret h ret (t := ru_th t 0) hR rfl
  have inner : ∀ (d c o : Nat), o + d = s_lo A → c < 256 → (∀ p, p < o → kno (s_fs A) p c = true) → (dou (s_fs A) c (s_lo A) = true → Rq (.inl (some (.inl (nI c)))) (wd x n l m (wq (ru_th t 0) q))) →
      (dou (s_fs A) c (s_lo A) = false → ∀ s3, V 77 [some (.inr (.inr (.inl 25))), some (.inl (nI c0)), some (.inl (nI c)), s3] [] (wd x n l m (wq (ru_th t 0) q)) 0 0) →
      V 37 [some (.inr (.inr (.inl 25))), some (.inl (nI c0)), some (.inl (nI c)), some (.inl (nI o))] [] (wd x n l m (wq (ru_th t 0) q)) 0 0 := by
    intro d
    induction d with
    | zero =>
      intro c o hd hc hp k1 k2
      have hf : dou (s_fs A) c (s_lo A) = false := by
        cases e : dou (s_fs A) c (s_lo A) with
        | false => rfl
        | true =>
          obtain ⟨p, q1, q2⟩ := (dou_iff _).mp e
          rw [hp p (by omega)] at q2
          cases q2
      refine hV [77] 40 _ _ _ _ _ _ ?_
      conv => whnf
      refine pk_le (s_lo A) o (fun _ => k2 hf _) (fun _ => by omega) hla
    | succ d ih =>
      intro c o hd hc hp k1 k2
      have e2o : (2 : Int32) * nI o = nI (2 * o) := by rw [show (2 : Int32) = nI 2 from rfl, pk_mul]
      have at71 : kno (s_fs A) o c = true → V 71 [some (.inr (.inr (.inl 25))), some (.inl (nI c0)), some (.inl (nI c)), some (.inl (nI o))] [] (wd x n l m (wq (ru_th t 0) q)) 0 0 := by
        intro hk
        refine hV [37] 40 _ _ _ _ _ _ ?_
        conv => whnf
        rw [nI_1]
        refine ih c (o + 1) (by omega) hc (fun p hp2 => ?_) k1 k2
        by_cases ep : p = o
        · subst ep; exact hk
        · exact hp p (by omega)
      refine hV [77, 37, 71] 60 _ _ _ _ _ _ ?_
      conv => whnf
      refine pk_le (s_lo A) o (fun _ => by omega) (fun _ => ?_) hla
      conv => whnf
      rw [e2o]
      refine ⟨x, n, l, m, ru_th t 0, q, 2 * o, c, rfl, rfl, rfl, by omega, hc, ?_⟩
      rw [show tw (rt_w (ru_th t 0)) (2 * o) = s_fs A (2 * o) from rRl_tw hL (by omega)]
      conv => whnf
      refine ⟨fun e => at71 (by unfold kno; rw [b2_ne0.mp e]; rfl), fun e1 => ?_⟩
      conv => whnf
      rw [e2o, nI_1]
      refine ⟨x, n, l, m, ru_th t 0, q, 2 * o + 1, c, rfl, rfl, rfl, by omega, hc, ?_⟩
      rw [show tw (rt_w (ru_th t 0)) (2 * o + 1) = s_fs A (2 * o + 1) from rRl_tw hL (by omega)]
      conv => whnf
      refine ⟨fun e => at71 (by unfold kno; rw [b2_ne0.mp e, Bool.or_true]), fun e2 => ?_⟩
      conv => whnf
      exact ⟨fun e => absurd e (by decide), k1 ((dou_iff _).mpr ⟨o, by omega, by unfold kno; rw [b2_eq0.mp e1, b2_eq0.mp e2]; rfl⟩)⟩
  have outer : ∀ (d c : Nat) (s3 : Option cx_V), c + d = 256 → Rq (.inl (some (.inl (fdt (s_lo A) (s_fs A) d c)))) (wd x n l m (wq (ru_th t 0) q)) → V 28 [some (.inr (.inr (.inl 25))), some (.inl (nI c0)), some (.inl (nI c)), s3] [] (wd x n l m (wq (ru_th t 0) q)) 0 0 := by
    intro d
    induction d with
    | zero =>
      intro c s3 hd hq
      refine hV [] 40 _ _ _ _ _ _ ?_
      conv => whnf
      refine pk_le 256 c (fun _ => ?_) (fun _ => by omega)
      conv => whnf
      exact ⟨fun e => absurd e (by decide), hq⟩
    | succ d ih =>
      intro c s3 hd hq
      refine hV [37] 40 _ _ _ _ _ _ ?_
      conv => whnf
      refine pk_le 256 c (fun _ => by omega) (fun _ => ?_)
      conv => whnf
      rw [← nI_0]
      refine inner (s_lo A) c 0 (by omega) (by omega) (fun p hp => by omega) (fun e => ?_) (fun e s3 => ?_)
      · have e2 : fdt (s_lo A) (s_fs A) (d + 1) c = nI c := if_pos e
        rw [e2] at hq
        exact hq
      · have e2 : fdt (s_lo A) (s_fs A) (d + 1) c = fdt (s_lo A) (s_fs A) d (c + 1) := if_neg (by rw [e]; decide)
        rw [e2] at hq
        refine hV [28] 40 _ _ _ _ _ _ ?_
        conv => whnf
        rw [nI_1]
        exact ih (c + 1) _ (by omega) hq
  conv => whnf
  refine ⟨x, n, l, m, t, q, false, false, 0, rfl, rfl, rfl, rfl, ?_⟩
  conv => whnf
  refine ⟨fun _ => ?_, fun e => absurd rfl e⟩
  conv => whnf
  exact outer (256 - c0) c0 none (by omega) fin
def sp_R_count : cx_S := cx_self 4 (fun j r ws R => ∃ x n l m t q A w, ws = wd x n l m (wq t q) ∧ j = 25 ∧ r = [.inl w] ∧ rR A t ∧ ansR (cntS A w) x n l m q R)
theorem pu_R_count : ∀ as ws Rq, sp_R_count as ws Rq → cx_cats as ≤ 4 ∧ ∀ V, cx_cl1 t_R_count [] [] w_R_count 0 0 Rq V → V 0 (cx_lv0 as 4) [] ws 0 0 := by
  intro as ws Rq h0
  obtain ⟨j, r, fs0, rfl, hj, x, n, l, m, t, q, A, w, rfl, rfl, rfl, hR, h⟩ := cx_self_spec h0
  refine ⟨Nat.le_of_ble_eq_true rfl, fun V hV => ?_⟩
  have hL := hR.2.2.2.2
  obtain ⟨T, ks, hen, hTab, hch, hfar, hro⟩ := rRl_enu hL
  have hT := hTab.1
  have go : ∀ v, cntS A w = (0, v, A) → Rq (.inl (some (.inl v))) (wd x n l m (wq (ru_th t 0) q)) := fun v e => ansR_ret h e (t := ru_th t 0) hR rfl
  have loop : ∀ (d i : Nat), i + d = T → V 9 [some (.inr (.inr (.inl 25))), some (.inl w), some (.inl (nI (mxP ks i))), some (.inl (nI i))] [] (wd x n l m (wq (ru_th t 0) q)) 0 0 := by
    intro d
    induction d with
    | zero =>
      intro i hd
      have : i = T := by omega
      subst this
      refine hV [] 60 _ _ _ _ _ _ ?_
      conv => whnf
      refine pk_le i i (fun _ => ?_) (fun e => absurd e (Nat.lt_irrefl _)) hTab.2.1
      conv => whnf
      refine ⟨fun e => ?_, ?_⟩
      · conv => whnf
        refine ⟨fun e => absurd e (by decide), go _ ?_⟩
        have ne : ∀ k : Nat, k < 7 → w ≠ nI k := fun k hk e2 => by
          subst e2
          rw [nI_toInt (by omega)] at e
          rcases e with e | e
          · omega
          · have : ([88, 93, 98, 103, 108, 113, 118] : List Nat).length = 7 := rfl
            rw [this] at e
            omega
        unfold cntS
        rw [if_neg (show ¬ w = 0 from ne 0 (by omega)), if_neg (show ¬ w = 1 from ne 1 (by omega)), if_neg (show ¬ w = 2 from ne 2 (by omega)), if_neg (show ¬ w = 3 from ne 3 (by omega)), if_neg (show ¬ w = 4 from ne 4 (by omega)), if_neg (show ¬ w = 5 from ne 5 (by omega)), if_neg (show ¬ w = 6 from ne 6 (by omega))]
      refine ⟨fun e => ?_, fun e => ?_, fun e => ?_, fun e => ?_, fun e => ?_, fun e => ?_, fun e => ?_, trivial⟩
      · subst e
        conv => whnf
        refine ⟨fun e => absurd e (by decide), ?_⟩
        rw [show (ru_th t 0).1.2.1 = nI (a_g (s_a A)) from hR.1.2.1]
        exact go _ rfl
      · subst e
        conv => whnf
        refine ⟨fun e => absurd e (by decide), ?_⟩
        rw [show (ru_th t 0).1.2.2.1 = nI (a_f (s_a A)) from hR.1.2.2.1]
        exact go _ rfl
      · subst e
        conv => whnf
        refine ⟨fun e => absurd e (by decide), ?_⟩
        rw [show (ru_th t 0).1.2.2.2.1 = nI (a_i (s_a A)) from hR.1.2.2.2.1]
        exact go _ rfl
      · subst e
        conv => whnf
        refine ⟨fun e => absurd e (by decide), ?_⟩
        rw [show (ru_th t 0).1.2.2.2.2 = nI (s_on A) from hR.2.2.1]
        exact go _ rfl
      · subst e
        conv => whnf
        refine ⟨fun e => absurd e (by decide), ?_⟩
        rw [show (ru_th t 0).2.2.1.2.1 = nI (s_lo A) from hL.2.1]
        exact go _ rfl
      · subst e
        conv => whnf
        refine ⟨fun e => absurd e (by decide), ?_⟩
        have e5 : nI i = nI (kN (2 * s_lo A) (s_fs A) (fun _ => true)) := by
          rw [← kN_eq hen, tab_total (J := 2 * s_lo A) (fs := s_fs A) (fun p hp => (hTab.2.2.2 p hp).1)]
        rw [show (ru_th t 0).2.2.1.2.2.1 = nI i from hTab.2.1, e5]
        exact go _ rfl
      · subst e
        conv => whnf
        refine ⟨fun e => absurd e (by decide), ?_⟩
        rw [kM_eq hen]
        exact go _ rfl
    | succ d ih =>
      intro i hd
      have hi : i < T := by omega
      have nxt := ih (i + 1) (by omega)
      have ini_ : vp_in (nI i) 2000 := pk_in i 2000 (by omega)
      have hci : (nI i).toNatClampNeg = i := nx_c (by omega)
      have m8 := mxP_8 ks i
      have d8 := dp_le 8 (ks i)
      have st : mxP ks (i + 1) = max (mxP ks i) (dp 8 (ks i)) := rfl
      rw [st] at nxt
      refine hV [9] 60 _ _ _ _ _ _ ?_
      conv => whnf
      refine pk_le T i (fun _ => by omega) (fun _ => ?_) hTab.2.1
      conv => whnf
      refine ⟨ini_, ?_⟩
      conv => whnf
      rw [hci]
      dsimp only
      rw [show (ru_th t 0).2.2.2.2.2.1 i = nI (dp 8 (ks i)) from hfar i hi]
      refine pk_le (dp 8 (ks i)) (mxP ks i) (fun h4 => ?_) (fun h4 => ?_)
      · conv => whnf
        rw [nI_1]
        rw [show max (mxP ks i) (dp 8 (ks i)) = mxP ks i by omega] at nxt
        exact nxt
      · conv => whnf
        refine ⟨ini_, ?_⟩
        conv => whnf
        rw [hci, nI_1]
        dsimp only
        rw [show (ru_th t 0).2.2.2.2.2.1 i = nI (dp 8 (ks i)) from hfar i hi]
        rw [show max (mxP ks i) (dp 8 (ks i)) = dp 8 (ks i) by omega] at nxt
        exact nxt
  refine hV [9] 60 _ _ _ _ _ _ ?_
  conv => whnf
  refine ⟨Or.inl rfl, ?_⟩
  conv => whnf
  rw [← nI_0]
  exact loop T 0 (by omega)
end
section
/-! The reference: size. -/
def sp_R_reach : cx_S := cx_self 4 (fun j r ws R => ∃ (x : wX) (n : wN) (l : wL) (m : wM) (t : wR) (q : List cx_C) (T : Nat) (mb : Nat → Bool) (v : Int32), ws = wd x n l m (wq t q) ∧ j = 25 ∧ r = [.inl v] ∧ T ≤ 874 ∧ (∀ i, i < T → rt_mk t i = b2 (mb i)) ∧ (v = -1 ∨ ∃ p, p < T ∧ v = nI p) ∧
  (v = -1 → R (.inl (some (.inl 0))) ws) ∧ (∀ p, p < T → v = nI p → mb p = true → R (.inl (some (.inl 0))) ws) ∧ (∀ p, p < T → v = nI p → mb p = false → R (.inl (some (.inl 1))) (wd x n l m (wq (ru_mk t (upd (rt_mk t) p 1)) q))))
theorem pu_R_reach : ∀ as ws Rq, sp_R_reach as ws Rq → cx_cats as ≤ 2 ∧ ∀ V, cx_cl1 t_R_reach [] [] [] 0 0 Rq V → V 0 (cx_lv0 as 2) [] ws 0 0 := by
  intro as ws Rq h0
  obtain ⟨j, r, fs0, rfl, hj, x, n, l, m, t, q, T, mb, v, rfl, rfl, rfl, hT, hmk, hv, h1, h2, h3⟩ := cx_self_spec h0
  refine ⟨Nat.le_of_ble_eq_true rfl, fun V hV => hV [] 40 _ _ _ _ _ _ ?_⟩
  conv => whnf
  refine ⟨fun e => ?_, fun e => ?_⟩
  · conv => whnf
    exact ⟨fun e => absurd e (by decide), h1 e⟩
  · rcases hv with hv | ⟨p, hp, rfl⟩
    · exact absurd hv e
    have inp : vp_in (nI p) 2000 := pk_in p 2000 (by omega)
    have hcp : (nI p).toNatClampNeg = p := nx_c (by omega)
    conv => whnf
    refine ⟨inp, ?_⟩
    conv => whnf
    rw [hcp]
    dsimp only
    rw [show t.2.2.2.2.2.2.2 p = b2 (mb p) from hmk p hp]
    refine ⟨fun e2 => ?_, fun e2 => ?_⟩
    · conv => whnf
      refine ⟨⟨inp, Or.inr rfl⟩, ?_⟩
      conv => whnf
      refine ⟨fun e => absurd e (by decide), ?_⟩
      rw [hcp]
      exact h3 p hp rfl (b2_eq0.mp e2)
    · conv => whnf
      exact ⟨fun e => absurd e (by decide), h2 p hp rfl (b2_ne0.mp e2)⟩
theorem ctB_mono {p p' : Nat → Bool} : ∀ n, (∀ i, i < n → p i = true → p' i = true) → ctB p n ≤ ctB p' n
  | 0, _ => Nat.le_refl _
  | n + 1, h => by
    unfold ctB
    have h1 := ctB_mono n (fun i hi => h i (by omega))
    have h2 : bn (p n) ≤ bn (p' n) := by
      cases e : p n with
      | false => simp [bn]
      | true => rw [h n (by omega) e]; exact Nat.le_refl _
    omega
theorem ctB_same {p p' : Nat → Bool} : ∀ n, (∀ i, i < n → p i = true → p' i = true) → ctB p' n ≤ ctB p n → ∀ i, i < n → p' i = p i
  | 0, _, _, i, hi => absurd hi (Nat.not_lt_zero _)
  | n + 1, h, hc, i, hi => by
    unfold ctB at hc
    have h1 := ctB_mono (p := p) (p' := p') n (fun i hi => h i (by omega))
    have h2 : bn (p n) ≤ bn (p' n) := by
      cases e : p n with
      | false => simp [bn]
      | true => rw [h n (by omega) e]; exact Nat.le_refl _
    by_cases e : i = n
    · subst e
      exact (bn_inj (by omega)).symm
    · exact ctB_same n (fun i hi => h i (by omega)) (by omega) i (by omega)
def setB (mb : Nat → Bool) (p : Nat) : Nat → Bool := fun i => if i = p then true else mb i
theorem ctB_set {mb : Nat → Bool} {p : Nat} (h : mb p = false) : ∀ n, p < n → ctB (setB mb p) n = ctB mb n + 1
  | 0, hp => absurd hp (Nat.not_lt_zero _)
  | n + 1, hp => by
    unfold ctB
    by_cases e : p = n
    · subst e
      rw [ctB_congr (p := setB mb p) (p' := mb) p (fun i hi => if_neg (by omega)), show setB mb p p = true from if_pos rfl, h]
      simp [bn]
    · rw [ctB_set h n (by omega), show setB mb p n = mb n from if_neg (by omega)]
      omega
/-- the marks: all within what f leaves -/
def mkR (T : Nat) (ks : Nat → Ky) (f : Ky) (mb : Nat → Bool) (mk : Nat → Int32) : Prop := (∀ i, i < T → mk i = b2 (mb i)) ∧ ∀ i, i < T → mb i = true → memK 1 (fun _ => f) (ks i)
def mkd (T : Nat) (mb : Nat → Bool) (v : Int32) : Prop := v = -1 ∨ ∃ p, p < T ∧ v = nI p ∧ mb p = true
theorem nI_inj {a b T : Nat} (hT : T ≤ 874) (ha : a < T) (hb : b < T) (e : nI a = nI b) : a = b := by
  rw [nI_eq (by omega) (by omega)] at e
  exact e
theorem sub_mark {T : Nat} {ks : Nat → Ky} {f : Ky} {mb : Nat → Bool} {lo hi : Nat → Int32} (hT : T ≤ 874) (hnf : nf f) (hc : chR T T ks lo hi) {r : Nat} (hr : r < T) (er : ks r = f) (hmr : mb r = true) (hcl : ∀ p, p < T → mb p = true → mkd T mb (lo p) ∧ mkd T mb (hi p)) : ∀ k, k ≤ 8 → ∀ i, i < 2 ^ k → fd (sub f k i) = 8 ∨ ∃ p, p < T ∧ ks p = sub f k i ∧ mb p = true
  | 0, _, i, hi2 => by
    have : i = 0 := by rw [Nat.pow_zero] at hi2; omega
    subst this
    rw [sub_self hnf (dk_0 _)]
    exact Or.inr ⟨r, hr, er, hmr⟩
  | k + 1, hk, i, hi2 => by
    rw [Nat.pow_succ] at hi2
    have hb : i % 2 < 2 := Nat.mod_lt _ (by omega)
    have hlt : i % 2 < 2 ^ (k + 1) := Nat.lt_of_lt_of_le hb (by rw [Nat.pow_succ]; have := pw_pos k; omega)
    have e2 : sub (sub f k (i / 2)) (k + 1) (i % 2) = sub f (k + 1) i := by
      rw [sub_b (by omega) hb, Nat.div_add_mod]
    have hge : k ≤ fd (sub f k (i / 2)) := fd_sub_ge (by omega)
    have fin : ∀ (g : Ky) (v : Int32), ixT T ks g v → mkd T mb v → fd g = 8 ∨ ∃ p, p < T ∧ ks p = g ∧ mb p = true := by
      intro g v h1 h2
      rcases h1 with ⟨d1, -⟩ | ⟨p', d1, d2, d3⟩
      · exact Or.inl d1
      · rcases h2 with h2 | ⟨p, p1, p2, p3⟩
        · rw [d3] at h2
          exact absurd h2 (nI_ne_m1 (by omega))
        · rw [d3] at p2
          exact Or.inr ⟨p', d1, d2, by rw [nI_inj hT d1 p1 p2]; exact p3⟩
    by_cases hf : fd (sub f k (i / 2)) = k
    · rcases sub_mark hT hnf hc hr er hmr hcl k (by omega) (i / 2) (by omega) with h8 | ⟨p, h1, h2, h3⟩
      · omega
      · rw [← h2] at e2 hf
        obtain ⟨c0, c1⟩ := hc p h1
        obtain ⟨m0, m1⟩ := hcl p h1 h3
        rw [hf] at c0 c1
        rcases Nat.mod_two_eq_zero_or_one i with q | q
        · rw [q] at e2
          rw [← e2]
          exact fin _ _ c0 m0
        · rw [q] at e2
          rw [← e2]
          exact fin _ _ c1 m1
    · have hd : dk (sub f k (i / 2)) (k + 1) := dk_anti (fd_dk _) (by omega) (fd_le _)
      rw [dk_sub1 hd hlt hk, sub_self (nf_sub _ _ _) hd] at e2
      rw [← e2]
      exact sub_mark hT hnf hc hr er hmr hcl k (by omega) (i / 2) (by omega)
theorem const_sub {f : Ky} (h : fd f = 8) {k i : Nat} (hk : k ≤ 8) (hi : i < 2 ^ k) : fd (sub f k i) = 8 := by
  have hd := fd_dk f
  rw [h] at hd
  refine Nat.le_antisymm (fd_le _) (fd_max (fun c hc => ?_) (Nat.le_refl _))
  have hx : ∀ c, i * 2 ^ (8 - k) + c % 2 ^ (8 - k) < 256 := fun c => by
    have hm := Nat.mod_lt c (pw_pos (8 - k))
    have h2 : (i + 1) * 2 ^ (8 - k) ≤ 2 ^ k * 2 ^ (8 - k) := Nat.mul_le_mul_right _ hi
    rw [← Nat.pow_add, show k + (8 - k) = 8 by omega, Nat.add_mul] at h2
    omega
  rw [sub_in hc, sub_in pw_lt, hd _ (hx _), hd (i * 2 ^ (8 - k) + _) (hx _)]
  rw [show 2 ^ (8 - 8) = 1 from rfl, Nat.mod_one, Nat.mod_one]
theorem ctB_cnP {mb : Nat → Bool} {ks : Nat → Ky} {p : Ky → Bool} : ∀ n, (∀ i, i < n → mb i = p (ks i)) → ctB mb n = cnP ks p n
  | 0, _ => rfl
  | n + 1, h => by
    unfold ctB cnP
    rw [ctB_cnP n (fun i hi => h i (by omega)), h n (by omega)]
theorem ru_mk_self (t : wR) : ru_mk t (rt_mk t) = t := rfl
theorem mkd_up {T : Nat} {mb mb' : Nat → Bool} {v : Int32} (h : mkd T mb v) (hs : ∀ i, i < T → mb i = true → mb' i = true) : mkd T mb' v := by
  rcases h with h | ⟨p, p1, p2, p3⟩
  · exact Or.inl h
  · exact Or.inr ⟨p, p1, p2, hs p p1 p3⟩
theorem reach_use {T : Nat} {ks : Nat → Ky} {f g : Ky} {mb : Nat → Bool} {t : wR} {v : Int32} {x : wX} {n : wN} {l : wL} {m : wM} {q : List cx_C} {R : cx_R} (hT : T ≤ 874) (hmk : mkR T ks f mb (rt_mk t)) (hix : ixT T ks g v) (hg : memK 1 (fun _ => f) g)
    (hK : ∀ mk' mb' c, mkR T ks f mb' mk' → (∀ i, i < T → mb i = true → mb' i = true) → mkd T mb' v → ctB mb' T = ctB mb T + c → c ≤ 1 → R (.inl (some (.inl (nI c)))) (wd x n l m (wq (ru_mk t mk') q))) :
    T ≤ 874 ∧ (∀ i, i < T → rt_mk t i = b2 (mb i)) ∧ (v = -1 ∨ ∃ p, p < T ∧ v = nI p) ∧ (v = -1 → R (.inl (some (.inl 0))) (wd x n l m (wq t q))) ∧ (∀ p, p < T → v = nI p → mb p = true → R (.inl (some (.inl 0))) (wd x n l m (wq t q))) ∧ (∀ p, p < T → v = nI p → mb p = false → R (.inl (some (.inl 1))) (wd x n l m (wq (ru_mk t (upd (rt_mk t) p 1)) q))) := by
  refine ⟨hT, hmk.1, ?_, fun e => ?_, fun p hp e hb => ?_, fun p hp e hb => ?_⟩
  · rcases hix with ⟨-, h⟩ | ⟨p, h1, -, h2⟩
    · exact Or.inl h
    · exact Or.inr ⟨p, h1, h2⟩
  · have := hK (rt_mk t) mb 0 hmk (fun i _ h => h) (Or.inl e) rfl (by omega)
    rw [ru_mk_self] at this
    exact this
  · have := hK (rt_mk t) mb 0 hmk (fun i _ h => h) (Or.inr ⟨p, hp, e, hb⟩) rfl (by omega)
    rw [ru_mk_self] at this
    exact this
  · have hgp : ks p = g := by
      rcases hix with ⟨-, h⟩ | ⟨p', h1, h2, h3⟩
      · rw [e] at h; exact absurd h (nI_ne_m1 (by omega))
      · rw [e] at h3
        rw [nI_inj hT hp h1 h3]
        exact h2
    refine hK (upd (rt_mk t) p 1) (setB mb p) 1 ⟨fun i hi => ?_, fun i hi h => ?_⟩ (fun i hi h => ?_) (Or.inr ⟨p, hp, e, if_pos rfl⟩) (ctB_set hb T hp) (Nat.le_refl _)
    · by_cases ei : i = p
      · subst ei; rw [pk_us, show setB mb i i = true from if_pos rfl]; rfl
      · rw [pk_un ei, show setB mb p i = mb i from if_neg ei]; exact hmk.1 i hi
    · by_cases ei : i = p
      · subst ei; rw [hgp]; exact hg
      · rw [show setB mb p i = mb i from if_neg ei] at h; exact hmk.2 i hi h
    · by_cases ei : i = p
      · exact if_pos ei
      · rw [show setB mb p i = mb i from if_neg ei]; exact h
def sp_R_size : cx_S := cx_self 4 (fun j r ws R => ∃ x n l m t q A o b, ws = wd x n l m (wq t q) ∧ j = 25 ∧ r = [.inl o, .inl (b2 b)] ∧ rR A t ∧ ansR (sizS A o b) x n l m q R)
set_option maxRecDepth 100000 in
set_option maxHeartbeats 4000000 in
theorem pu_R_size : ∀ as ws Rq, sp_R_size as ws Rq → cx_cats as ≤ 8 ∧ ∀ V, cx_cl1 t_R_size [(sp_R_refuses, 3, 0, 0), (sp_R_reach, 2, 0, 0)] [] [] 0 0 Rq V → V 0 (cx_lv0 as 8) [] ws 0 0 := by
  intro as ws Rq h0
  obtain ⟨j, r, fs0, rfl, hj, x, n, l, m, t, q, A, o, b, rfl, rfl, rfl, hR, h⟩ := cx_self_spec h0
  refine ⟨Nat.le_of_ble_eq_true rfl, fun V hV => ?_⟩
  have hL := hR.2.2.2.2
  have lo10 := hL.1
  have hla : rt_la t = nI (s_lo A) := hL.2.1
  obtain ⟨T, ks, hen, hTab, hch, hfar, hro⟩ := rRl_enu hL
  have hT := hTab.1
  refine hV [13] 60 _ _ _ _ _ _ ?_
  conv => whnf
  refine ⟨x, n, l, m, t, q, o, 0, rfl, rfl, rfl, fun e => ?_, fun e => ?_⟩
  rotate_left
  · rw [hla, show hg 0 256 = true from by decide, Bool.and_true] at e
    conv => whnf
    refine ⟨fun e => absurd e (by decide), fun _ => ?_⟩
    conv => whnf
    have e2 : sizS A o b = (0 + 1, 0, A) := by
      unfold sizS
      rw [if_neg (by rw [e]; simp)]
    exact ⟨fun e => absurd e (by decide), ansR_thr h e2 (t := ru_th t 1) hR rfl⟩
  rw [hla, show hg 0 256 = true from by decide, Bool.and_true] at e
  obtain ⟨o, ho, rfl⟩ := hg_of (by omega) e
  have hbl := bn_lt (!b)
  have nff : nf (s_fs A (2 * o + bn (!b))) := (hL.2.2.1 _ (by omega)).1
  have hrf := hro (2 * o + bn (!b)) (by omega)
  generalize hf : s_fs A (2 * o + bn (!b)) = f at nff hrf
  have ret : sizS A (nI o) b = (0, nI (kN (2 * s_lo A) (s_fs A) (isub f)), A) := by
    unfold sizS
    rw [if_pos e, nx_c (show o < 2 ^ 31 by omega), hf]
  have hRm : ∀ mk, rR A (ru_mk (ru_th t 0) mk) := fun mk => hR
  have outer : ∀ (d : Nat) (r : Nat) (mb : Nat → Bool) (mk : Nat → Int32) (s6 s7 : Option cx_V), ctB mb T + d = T → r < T → ks r = f → mb r = true → mkR T ks f mb mk → V 75 [some (.inr (.inr (.inl 25))), some (.inl (nI o)), some (.inl (b2 b)), some (.inl (nI r)), some (.inl (nI (ctB mb T))), some (.inl 1), s6, s7] [] (wd x n l m (wq (ru_mk (ru_th t 0) mk) q)) 0 0 := by
    intro d
    induction d using Nat.strongRecOn with
    | ind d ihd =>
      intro r mb0 mk0 s6 s7 hd hr er hmr hmk0
      have inner : ∀ (d i : Nat) (mb : Nat → Bool) (mk : Nat → Int32), i + d = T → mkR T ks f mb mk → (∀ p, p < T → mb0 p = true → mb p = true) → (∀ p, p < i → mb0 p = true → mkd T mb (rt_lo t p) ∧ mkd T mb (rt_hi t p)) →
          V 87 [some (.inr (.inr (.inl 25))), some (.inl (nI o)), some (.inl (b2 b)), some (.inl (nI r)), some (.inl (nI (ctB mb T))), some (.inl 1), some (.inl (nI (ctB mb0 T))), some (.inl (nI i))] [] (wd x n l m (wq (ru_mk (ru_th t 0) mk) q)) 0 0 := by
        intro d
        induction d with
        | zero =>
          intro i mb mk hd2 g1 g2 g3
          have hle := ctB_mono (p := mb0) (p' := mb) T g2
          have hle2 := ctB_le mb T
          refine hV [75] 60 _ _ _ _ _ _ ?_
          conv => whnf
          refine pk_le T i (fun _ => ?_) (fun _ => by omega) hTab.2.1
          conv => whnf
          refine pk_le (ctB mb T) (ctB mb0 T) (fun h4 => ?_) (fun h4 => ?_)
          · conv => whnf
            have heq := ctB_same (p := mb0) (p' := mb) T g2 h4
            refine hV [] 60 _ _ _ _ _ _ ?_
            conv => whnf
            refine ⟨fun _ => ?_, fun e => absurd rfl e⟩
            conv => whnf
            refine ⟨fun e => absurd e (by decide), ?_⟩
            have hcl : ∀ p, p < T → mb p = true → mkd T mb (rt_lo t p) ∧ mkd T mb (rt_hi t p) := fun p hp hb => g3 p (by omega) (by rw [← heq p hp]; exact hb)
            have hall := sub_mark hT nff hch hr er (g2 r hr hmr) hcl
            have ecnt : ctB mb T = kN (2 * s_lo A) (s_fs A) (isub f) := by
              rw [← kN_eq hen]
              refine ctB_cnP T (fun p hp => ?_)
              have f8 := (hTab.2.2.2 p hp).1
              rw [Bool.eq_iff_iff, pnc_iff]
              constructor
              · intro hb
                exact ⟨isub_iff.mpr ⟨f8, g1.2 p hp hb⟩, f8⟩
              · rintro ⟨hs, -⟩
                obtain ⟨-, j, k, i, -, hk, hi, ek⟩ := isub_iff.mp hs
                have ek' : ks p = sub f k i := ek
                rcases hall k hk i hi with h8 | ⟨p', p1, p2, p3⟩
                · rw [← ek'] at h8; omega
                · rw [hTab.2.2.1 p hp p' p1 (ek'.trans p2.symm)]; exact p3
            rw [ecnt]
            exact ansR_ret h ret (hRm mk) rfl
          · conv => whnf
            exact ihd (T - ctB mb T) (by omega) r mb mk _ _ (by omega) hr er (g2 r hr hmr) g1
        | succ d ih2 =>
          intro i mb mk hd2 g1 g2 g3
          have hi : i < T := by omega
          have ini_ : vp_in (nI i) 2000 := pk_in i 2000 (by omega)
          have hci : (nI i).toNatClampNeg = i := nx_c (by omega)
          obtain ⟨c0, c1⟩ := hch i hi
          have f8 := (hTab.2.2.2 i hi).1
          refine hV [87, 75] 60 _ _ _ _ _ _ ?_
          conv => whnf
          refine pk_le T i (fun _ => by omega) (fun _ => ?_) hTab.2.1
          conv => whnf
          refine ⟨ini_, ?_⟩
          conv => whnf
          rw [hci]
          dsimp only
          rw [show (ru_mk (ru_th t 0) mk).2.2.2.2.2.2.2 i = b2 (mb i) from g1.1 i hi]
          refine ⟨fun e => ?_, fun e => ?_⟩
          rotate_left
          · have hb := b2_eq0.mp e
            conv => whnf
            rw [nI_1]
            refine ih2 (i + 1) mb mk (by omega) g1 g2 (fun p hp hb0 => ?_)
            by_cases ep : p = i
            · subst ep
              have := g2 p hi hb0
              rw [hb] at this
              cases this
            · exact g3 p (by omega) hb0
          have hb := b2_ne0.mp e
          have mi := g1.2 i hi hb
          conv => whnf
          refine ⟨ini_, ?_⟩
          conv => whnf
          rw [hci]
          refine ⟨x, n, l, m, ru_mk (ru_th t 0) mk, q, T, mb, rt_lo t i, rfl, rfl, rfl, reach_use hT g1 c0 (mem_child mi f8 (by omega)) (fun mk1 mb1 k1 a1 a2 a3 a4 a5 => ?_)⟩
          conv => whnf
          refine ⟨ini_, ?_⟩
          conv => whnf
          rw [hci]
          refine ⟨x, n, l, m, ru_mk (ru_th t 0) mk1, q, T, mb1, rt_hi t i, rfl, rfl, rfl, reach_use hT (t := ru_mk (ru_th t 0) mk1) a1 c1 (mem_child mi f8 (by omega)) (fun mk2 mb2 k2 b1 b2 b3 b4 b5 => ?_)⟩
          conv => whnf
          rw [nI_add, nI_add, nI_1]
          have ec : ctB mb T + (k1 + k2) = ctB mb2 T := by omega
          rw [ec]
          refine ih2 (i + 1) mb2 mk2 (by omega) b1 (fun p hp hb0 => b2 p hp (a2 p hp (g2 p hp hb0))) (fun p hp hb0 => ?_)
          by_cases ep : p = i
          · subst ep
            exact ⟨mkd_up a3 b2, b3⟩
          · obtain ⟨r1, r2⟩ := g3 p (by omega) hb0
            exact ⟨mkd_up (mkd_up r1 a2) b2, mkd_up (mkd_up r2 a2) b2⟩
      refine hV [87] 60 _ _ _ _ _ _ ?_
      conv => whnf
      refine ⟨fun e => absurd e (by decide), fun _ => ?_⟩
      conv => whnf
      rw [← nI_0]
      exact inner T 0 mb0 mk0 (by omega) hmk0 (fun p _ hb => hb) (fun p hp => by omega)
  have at53 : ∀ (mk : Nat → Int32) (s3 : Option cx_V), (∀ p, p < T → mk p = 0) → V 53 [some (.inr (.inr (.inl 25))), some (.inl (nI o)), some (.inl (b2 b)), s3, none, none, none, none] [.inl (nI (2 * o + bn (!b))), .inr (.inr (.inl 38))] (wd x n l m (wq (ru_mk (ru_th t 0) mk) q)) 0 0 := by
    intro mk s3 hz
    refine hV [75] 60 _ _ _ _ _ _ ?_
    conv => whnf
    refine ⟨pk_in (2 * o + bn (!b)) 20 (by omega), ?_⟩
    conv => whnf
    rw [nx_c (show 2 * o + bn (!b) < 2 ^ 31 by omega)]
    rcases hrf with ⟨d1, d2⟩ | ⟨r, d1, d2, d3⟩
    · refine ⟨fun e => absurd d2 e, fun _ => ?_⟩
      conv => whnf
      refine ⟨fun e => absurd e (by decide), ?_⟩
      refine ansR_ret h (v := 0) (A := A) ?_ (hRm mk) rfl
      rw [ret, ← kN_eq hen]
      have e0 : cnP ks (pnc (isub f)) T = 0 := by
        have := cnP_zero (ks := ks) (p := pnc (isub f)) 0 T (fun p _ hp => by
          cases hh : pnc (isub f) (ks p) with
          | false => rfl
          | true =>
            obtain ⟨hs, -⟩ := pnc_iff.mp hh
            obtain ⟨g8, j, k, i, -, hk, hi, ek⟩ := isub_iff.mp hs
            have := const_sub d1 hk hi
            rw [← show ks p = sub f k i from ek] at this
            omega)
        rw [Nat.zero_add] at this
        exact this
      rw [e0]
      rfl
    · have d3' : (ru_mk (ru_th t 0) mk).2.2.2.2.2.2.1 (2 * o + bn (!b)) = nI r := d3
      refine ⟨fun _ => ?_, fun e => absurd (d3'.symm.trans e) (nI_ne_m1 (by omega))⟩
      conv => whnf
      refine ⟨⟨pk_in r 2000 (by omega) d3', Or.inr rfl⟩, ?_⟩
      conv => whnf
      dsimp only
      rw [d3', nx_c (show r < 2 ^ 31 by omega)]
      have e0 : ctB (fun _ => false) T = 0 := by
        have : ∀ k, ctB (fun _ => false) k = 0 := by
          intro k
          induction k with
          | zero => rfl
          | succ k ih =>
            show ctB (fun _ => false) k + 0 = 0
            rw [ih]
        exact this T
      have e1 : ctB (setB (fun _ => false) r) T = 1 := by rw [ctB_set rfl T d1, e0]
      have := outer (T - 1) r (setB (fun _ => false) r) (upd mk r 1) none none (by omega) d1 d2 (if_pos rfl) ⟨fun i hi => ?_, fun i hi hb => ?_⟩
      · rw [e1] at this
        exact this
      · by_cases ei : i = r
        · subst ei; rw [pk_us, show setB (fun _ => false) i i = true from if_pos rfl]; rfl
        · rw [pk_un ei, show setB (fun _ => false) r i = false from if_neg ei]; exact hz i hi
      · by_cases ei : i = r
        · subst ei; rw [d2]; exact mem_root (J := 1) (fs := fun _ => f) (j := 0) (by omega) nff
        · rw [show setB (fun _ => false) r i = false from if_neg ei] at hb; cases hb
  have first : ∀ (d i : Nat) (mk : Nat → Int32), i + d = T → (∀ p, p < i → mk p = 0) → V 13 [some (.inr (.inr (.inl 25))), some (.inl (nI o)), some (.inl (b2 b)), some (.inl (nI i)), none, none, none, none] [] (wd x n l m (wq (ru_mk (ru_th t 0) mk) q)) 0 0 := by
    intro d
    induction d with
    | zero =>
      intro i mk hd hz
      have e2o : (2 : Int32) * nI o = nI (2 * o) := by rw [show (2 : Int32) = nI 2 from rfl, pk_mul]
      have h53 := at53 mk (some (.inl (nI i))) (fun p hp => hz p (by omega))
      refine hV [53] 60 _ _ _ _ _ _ ?_
      conv => whnf
      refine pk_le T i (fun _ => ?_) (fun _ => by omega) hTab.2.1
      conv => whnf
      cases b with
      | true =>
        refine ⟨fun e => absurd e (by decide), fun _ => ?_⟩
        conv => whnf
        rw [e2o]
        exact h53
      | false =>
        refine ⟨fun _ => ?_, fun e => absurd rfl e⟩
        conv => whnf
        rw [e2o, nI_1]
        exact h53
    | succ d ih =>
      intro i mk hd hz
      refine hV [13] 60 _ _ _ _ _ _ ?_
      conv => whnf
      refine pk_le T i (fun _ => by omega) (fun _ => ?_) hTab.2.1
      conv => whnf
      refine ⟨⟨pk_in i 2000 (by omega), Or.inl rfl⟩, ?_⟩
      conv => whnf
      rw [nI_1, nx_c (show i < 2 ^ 31 by omega)]
      refine ih (i + 1) (upd mk i 0) (by omega) (fun p hp => ?_)
      by_cases e : p = i
      · subst e; exact pk_us
      · rw [pk_un e]; exact hz p (by omega)
  conv => whnf
  refine ⟨fun _ => ?_, fun e => absurd rfl e⟩
  conv => whnf
  rw [← nI_0]
  exact first T 0 (rt_mk t) (by omega) (fun p hp => by omega)
end
section
/-! Methods that may throw first and write then. -/
section CXM
variable {p : Program} {l : Launch} {e : Env} {R : Room} {s : State} {m : MethodId} {args : Array Value} {below : List Frame} {meth : Method} {c : Code} {G : cx_G} {nL mc ms : Nat} {cc : ByteArray} {Tb : List Cond} {Rq : cx_R}
theorem cx_behind3 (hlocks : meth.locks = false) (hne : c.exceptionTable.isEmpty = true) {T : State} {k n : Nat} {rm : Room} {Rf : cx_R} {s₀ : State}
    (X : Stand p l e R s m args below meth c T [] k n) {pc : Nat} {ls : Array Slot} {rest : List cx_V} {ig : Instr} (hdg : decode c.code pc = .ok (ig, 3)) {mk : MethodId} {a : Array Value} {t : State}
    (hst : Steps p.tables e below s₀ t) (hQ : cx_Q2 (.java (F0 m pc ls (rest.map (cx_v G))) :: below) G (T.calling (F0 m pc ls (rest.map (cx_v G))) mk a) rm.cells rm.slots Rf t) (hk : k + rm.cells ≤ mc) (hn : n + rm.slots ≤ ms) (hH : T.heap = s.heap)
    (hthr : ∀ (x : String) (ws' : List cx_C), Rf (.inr x) ws' → Rq (.inr x) ws')
    (hret : ∀ (u : Option cx_V) (ws' : List cx_C) (H' : Heap) (locs' : List Loc), Rf (.inl u) ws' → cx_F2 G mc ms s ws' (k + rm.cells) (n + rm.slots) H' locs' → W p l e R s m args below meth c H' locs' (k + rm.cells) (n + rm.slots) (cx_Q below G s mc ms Rq) (F0 m (pc + 3) ls (u.toList.map (cx_v G) ++ rest.map (cx_v G)))) :
    ∃ t₂, Steps p.tables e below s₀ t₂ ∧ cx_Q below G s mc ms Rq t₂ := by
  obtain ⟨o, q, ws', c1, c2, c3, c4, c5, c6, L, c7, c8, c9⟩ := hQ
  cases q with
  | inl u =>
    have ho : o = .returned (u.map (cx_v G)) := by
      cases u with
      | none => exact c4
      | some u => exact c4
    subst ho
    obtain ⟨d1, rfl⟩ := c9 u rfl
    obtain ⟨T', X', hW', hS', ht⟩ := X.outOf (g := F0 m pc ls (rest.map (cx_v G))) rfl hdg c2 c6 c7
    have hh : t.heap = T'.heap := by rw [ht]; rfl
    rw [hh] at c5
    have hT' : T'.heap = s.heap := by rw [← hh, d1]; exact hH
    obtain ⟨t₂, a1, b1⟩ := hret u ws' T'.heap [] c3 ⟨c5, ⟨hk, hn⟩, hT', rfl⟩ T' rfl X'
    refine ⟨t₂, hst.trans ?_, b1⟩
    rw [ht]
    have e1 : (u.map (cx_v G)).toList ++ rest.map (cx_v G) = u.toList.map (cx_v G) ++ rest.map (cx_v G) := by cases u <;> rfl
    show Steps p.tables e below (T'.setTop { F0 m pc ls (rest.map (cx_v G)) with pc := pc + 3, stack := (u.map (cx_v G)).toList ++ rest.map (cx_v G) }) t₂
    rw [e1]
    exact a1
  | inr x =>
    obtain ⟨ad, cell, rfl, d2, d3, d4⟩ := c4
    obtain ⟨T', X', hW', hS', ht⟩ := X.outOfThrown (g := F0 m pc ls (rest.map (cx_v G))) rfl c2 c6 c7
    have hh : t.heap = T'.heap := by rw [ht]; rfl
    obtain ⟨e1, e2, e3, e4, e5⟩ := (stand_widen X' hk hn).leaveThrown ad (g := F0 m pc ls (rest.map (cx_v G))) rfl rfl rfl (cx_noH hne pc) hlocks
    rw [← ht] at e1
    refine ⟨_, hst.trans e1, .threw ad, .inr x, ws', e2, e3, hthr x ws' c3, ⟨ad, cell, rfl, ?_, ?_, d4⟩, ?_, e4, [] ++ L, e5, c8⟩
    · show T'.heap[ad]? = some cell
      rw [← hh]
      exact d2
    · have d3' : T.vm.findClass x = some cell.cls := d3
      rw [X.warmed.alike.findClass] at d3'
      exact d3'
    · show cx_P G ws' T'.heap
      rw [← hh]
      exact c5
theorem cx_callV3 (hTb : Tb.all cx_stB = true) (hx : p.tables.exec = Jvm.exec) (hb : c.code = cc) (hml : c.maxLocals = nL) (hKn : cx_Kn Tb G s) (hlocks : meth.locks = false) (hne : c.exceptionTable.isEmpty = true) {own C host : String} (hown : s.vm.findClass own = some m.cls) {z ci np : Nat} {T0 : u_T} {N0 : Nat} (hci : (cx_cl G)[ci]? = some (C, T0, N0)) {y : MethodName} {cc' : ByteArray} {nL' : Nat} {rt' : Option FieldType} {rm : Room} {f : Nat → List cx_V → List cx_C → cx_R → Prop} (hM : cx_M2 Tb l G y cc' nL' rt' rm (cx_self ci f))
    (hw : cx_wV Tb own C host z np y cc' nL' rt') (hR : cx_Rm rm R nL' mc ms) : cx_okcall p l e R s m args below meth c cc G nL mc ms (cx_F2 G mc ms s) (cx_Q below G s mc ms Rq) Rq (.invokevirtual z) (cx_self ci f) (np + 1) rm.cells rm.slots := by
  intro pc H locs k n ls as rest ws Rf hdg hna hcats hk hn hF hls hf hthr hret T hT X
  subst hT
  obtain ⟨hF1, hF2, hF3, rfl⟩ := hF
  obtain ⟨vm₁, mk, t, X₁, st, hQ⟩ := cx_resV hTb hx hb hml hKn hown hci hM hw.1 hw.2.1 hw.2.2 ⟨hR.1, hR.2.1⟩ hdg hna hcats (Nat.le_trans hk hR.2.2.1) (Nat.le_trans hn hR.2.2.2) hls hf X hF1
  exact cx_behind3 hlocks hne X₁ (by rw [hb]; exact hdg) st hQ hk hn hF3 hthr hret
theorem cx_callS3 (hTb : Tb.all cx_stB = true) (hx : p.tables.exec = Jvm.exec) (hb : c.code = cc) (hml : c.maxLocals = nL) (hKn : cx_Kn Tb G s) (hlocks : meth.locks = false) (hne : c.exceptionTable.isEmpty = true) {own host : String} (hown : s.vm.findClass own = some m.cls) {z np : Nat} {y : MethodName} {cc' : ByteArray} {nL' : Nat} {rt' : Option FieldType} {rm : Room} {f : cx_S} (hM : cx_M2 Tb l G y cc' nL' rt' rm f)
    (hw : cx_wS Tb own host z np y cc' nL' rt') (hR : cx_Rm rm R nL' mc ms) : cx_okcall p l e R s m args below meth c cc G nL mc ms (cx_F2 G mc ms s) (cx_Q below G s mc ms Rq) Rq (.invokestatic z) f np rm.cells rm.slots := by
  intro pc H locs k n ls as rest ws Rf hdg hna hcats hk hn hF hls hf hthr hret T hT X
  subst hT
  obtain ⟨hF1, hF2, hF3, rfl⟩ := hF
  obtain ⟨vm₁, mk, t, X₁, st, hQ⟩ := cx_resS hTb hx hb hml hKn hown hM hw.1 hw.2.1 hw.2.2 ⟨hR.1, hR.2.1⟩ hdg hna hcats (Nat.le_trans hk hR.2.2.1) (Nat.le_trans hn hR.2.2.2) hls hf X hF1
  exact cx_behind3 hlocks hne X₁ (by rw [hb]; exact hdg) st hQ hk hn hF3 hthr hret
end CXM
theorem cx_mk3 {l : Launch} {G : cx_G} (hG : cx_okG G) {y : MethodName} {cc : ByteArray} {nL : Nat} {rt : Option FieldType} {rm : Room} {f : cx_S} {F : List (Nat × Nat × Nat)} {FP : List (Nat × Nat × Nat × Int32)} {LC : List (Nat × Int64)} {CV2 CS2 CV1 CS1 : List (Nat × Nat)} {TH : List (Nat × Nat)} {T2 T1 : List (Nat × cx_E)} {Sp : List (cx_S × Nat × Nat × Nat)} {Ex : List String} {Sw : List (Nat × List Nat)}
    (hT2 : T2.all (cx_dec false cc rt nL F FP LC CV2 CS2 TH Sw) = true) (hT1 : T1.all (cx_dec true cc rt nL F FP LC CV1 CS1 [] Sw) = true)
    (okF : ∀ {p e s m args below meth c Q}, cx_St G y cc nL p s m meth c → ∀ q ∈ F, cx_okget p l e rm s m args below meth c cc G Q q.1 q.2.1 q.2.2)
    (okP : ∀ {p e s m args below meth c Q}, cx_St G y cc nL p s m meth c → ∀ q ∈ FP, cx_okput p l e rm s m args below meth c cc G Q q.1 q.2.1 q.2.2.1 q.2.2.2)
    (okL : ∀ {s args}, cx_Kn cx_Tb G s → ∀ q ∈ LC, (Jvm.Cond.constantLong y.cls q.1 q.2).before args s = true)
    (okV2 : ∀ {p e s m args below meth c Rq}, cx_St G y cc nL p s m meth c → ∀ q ∈ CV2, ∀ f na kc ks, Sp[q.2]? = some (f, na, kc, ks) → cx_okcall p l e rm s m args below meth c cc G nL rm.cells rm.slots (cx_F2 G rm.cells rm.slots s) (cx_Q below G s rm.cells rm.slots Rq) Rq (.invokevirtual q.1) f na kc ks)
    (okS2 : ∀ {p e s m args below meth c Rq}, cx_St G y cc nL p s m meth c → ∀ q ∈ CS2, ∀ f na kc ks, Sp[q.2]? = some (f, na, kc, ks) → cx_okcall p l e rm s m args below meth c cc G nL rm.cells rm.slots (cx_F2 G rm.cells rm.slots s) (cx_Q below G s rm.cells rm.slots Rq) Rq (.invokestatic q.1) f na kc ks)
    (okT : ∀ {p e s m args below meth c Rq}, cx_St G y cc nL p s m meth c → ∀ q ∈ TH, ∀ x, Ex[q.2]? = some x → cx_okthr p l e rm s m args below meth c G nL rm.cells rm.slots (cx_F2 G rm.cells rm.slots s) (cx_Q2 below G s rm.cells rm.slots Rq) Rq q.1 x)
    (okV1 : ∀ {p e s m args below meth c Rq}, cx_St G y cc nL p s m meth c → ∀ q ∈ CV1, ∀ f na kc ks, Sp[q.2]? = some (f, na, kc, ks) → cx_okcall p l e rm s m args below meth c cc G nL rm.cells rm.slots (cx_F1 G rm.cells rm.slots) (cx_Q below G s rm.cells rm.slots Rq) Rq (.invokevirtual q.1) f na kc ks)
    (okS1 : ∀ {p e s m args below meth c Rq}, cx_St G y cc nL p s m meth c → ∀ q ∈ CS1, ∀ f na kc ks, Sp[q.2]? = some (f, na, kc, ks) → cx_okcall p l e rm s m args below meth c cc G nL rm.cells rm.slots (cx_F1 G rm.cells rm.slots) (cx_Q below G s rm.cells rm.slots Rq) Rq (.invokestatic q.1) f na kc ks)
    (pure : ∀ as ws Rq, f as ws Rq → cx_cats as ≤ nL ∧ ∀ V2 V1, cx_cl2 T2 T1 Sp Sp Ex Sw rm.cells rm.slots Rq V2 V1 → V2 0 (cx_lv0 as nL) [] ws 0 0) : cx_M cx_Tb l G y cc nL rt rm f := by
  intro as ws Rq hf p e s m below meth c hx hb hml hr hlocks hne hown hKn hP
  obtain ⟨hc, hpure⟩ := pure as ws Rq hf
  have S : cx_St G y cc nL p s m meth c := ⟨hx, hb, hml, hlocks, hne, hown, hKn⟩
  refine cx_enter (lv := cx_lv0 as nL) (F := cx_F2 G rm.cells rm.slots s) (by rw [cx_sl_len, cx_cats_eq]; exact hc) (fun t u h => cx_lv0_get h) ⟨hP, ⟨Nat.zero_le _, Nat.zero_le _⟩, rfl, rfl⟩ ?_
  refine hpure (cx_AW p l e rm s m (as.map (cx_v G)).toArray below meth c G nL (cx_F2 G rm.cells rm.slots s) (cx_Q below G s rm.cells rm.slots Rq)) (cx_AW p l e rm s m (as.map (cx_v G)).toArray below meth c G nL (cx_F1 G rm.cells rm.slots) (cx_Q below G s rm.cells rm.slots Rq)) ⟨fun P n pc lv st ws k i h => ?_, fun P n pc lv st ws k i h => ?_, fun pc lv st ws k i h => ?_⟩
  · exact cx_sound (free := fun _ => False) (wr := false) hx hb hG hKn hlocks hr hown (fun ws k n H locs h => ⟨h.1, h.2.1, fun q hq => by rw [h.2.2.2] at hq; cases hq⟩) (fun ws k n H locs h q hq => by rw [h.2.2.2] at hq; cases hq) (fun ws k n H locs u t h1 h2 h3 => (cx_ret2 h1 h2 h3).weak)
      (fun h => by cases h) (okF S) (okP S) (okL hKn) (okV2 S) (okS2 S) (fun q hq x hx2 H locs ls ws hmc hms hF hls hRq => cx_mono (fun t ht => ht.weak) (okT S q hq x hx2 H locs ls ws hmc hms hF hls hRq)) hT2 (fun pc lv st ws k i h => h) n h
  · exact cx_sound (free := fun q => (cx_H0 G).size ≤ q) (wr := true) hx hb hG hKn hlocks hr hown (fun ws k n H locs h => h) (fun ws k n H locs h => h.2.2) (fun ws k n H locs u t h1 h2 h3 => cx_ret1 h1 h2 h3)
      (fun _ ws ws' k n H H' locs a i h1 h2 h3 _ _ => ⟨h2, h1.2.1, cx_locs h1.2.2 h3⟩) (okF S) (okP S) (okL hKn) (okV1 S) (okS1 S) (fun q hq => by cases hq) hT1 (fun pc lv st ws k i h => h) n h
  · intro H locs ls hF
    exact h H locs ls ⟨hF.1, hF.2.1, fun q hq => by rw [hF.2.2.2] at hq; cases hq⟩
end
section
/-! The methods' contracts: by program (wip/whole/gen_con.py). -/
/-- Math.max: by the kit's row -/
def cx_wM (Tb : List Cond) (own : String) (z : Nat) : Prop := Jvm.Cond.methodLink own z Lib.Math.max.name ∈ Tb ∧ Jvm.Cond.static Lib.Math.max.name ∈ Tb ∧ Jvm.Cond.initialized "java/lang/Math" ∈ Tb ∧ Jvm.Cond.code Lib.Math.max.name Lib.Math.max.code 2 (some .int) ∈ Tb
theorem cx_max {p : Program} {l : Launch} {e : Env} {R : Room} {s : State} {m : MethodId} {args : Array Value} {below : List Frame} {meth : Method} {c : Code} {G : cx_G} {nL mc ms : Nat} {cc : ByteArray} {Tb : List Cond} {Rq : cx_R} (hx : p.tables.exec = Jvm.exec) (hb : c.code = cc) (hml : c.maxLocals = nL) (hKn : cx_Kn Tb G s) {own : String} (hown : s.vm.findClass own = some m.cls) {z : Nat} (hw : cx_wM Tb own z) (hR : 1 ≤ R.frames ∧ 21 ≤ R.locals ∧ mc ≤ R.cells ∧ ms ≤ R.slots) :
    cx_okcall p l e R s m args below meth c cc G nL mc ms (cx_F1 G mc ms) (cx_Q below G s mc ms Rq) Rq (.invokestatic z) sp_J_max 2 0 0 := by
  intro pc H locs k n ls as rest ws Rf hdg hna hcats hk hn hF hls hf hthr hret
  obtain ⟨a, b, rfl, ha, hb2, h⟩ := hf
  refine va_mmax hx hb (by rw [hml, hls]) hown (hKn.1 _ hw.1 args) (hKn.1 _ hw.2.1 args) (hKn.1 _ hw.2.2.1 args) (hKn.1 _ hw.2.2.2 args) hR.1 ?_ (Nat.le_trans hk hR.2.2.1) (Nat.le_trans hn hR.2.2.2) (x := nI a) (y := nI b) hdg ?_
  · have := hR.2.1
    show ((rest.map (cx_v G)).map fun v => v.category).sum + 13 ≤ _
    rw [cx_cats_eq]
    omega
  · have e : (if nI a < nI b then nI b else nI a) = nI (max a b) := by
      by_cases q : a < b
      · rw [if_pos ((nI_ltI ha hb2).mpr q), Nat.max_eq_right (by omega)]
      · rw [if_neg (fun q2 => q ((nI_ltI ha hb2).mp q2)), Nat.max_eq_left (by omega)]
    rw [e]
    exact hret _ _ H locs h hF
/-- a throw's words by their places -/
def cx_atB (L : List Cond) (ix : List Nat) : Bool := match L, ix with
  | [], _ => true
  | a :: r, i :: ix => (match i with
    | 0 => decide (a = .isRef (.static "java/lang/Throwable" "UNASSIGNED_STACK" "[Ljava/lang/StackTraceElement;") ∨ a = .isRef (.static "java/lang/Throwable" "SUPPRESSED_SENTINEL" "Ljava/util/List;") ∨ a = .laysStatic "java/lang/Throwable" "UNASSIGNED_STACK" "[Ljava/lang/StackTraceElement;" ∨ a = .laysStatic "java/lang/Throwable" "SUPPRESSED_SENTINEL" "Ljava/util/List;")
    | i + 1 => decide (lw_tbl[i]? = some a) && cx_stB a) && cx_atB r ix
  | _ :: _, [] => false
theorem cx_ats {L : List Cond} : ∀ {ix : List Nat}, cx_atB L ix = true → ∀ a ∈ L, a ∈ cx_Tb ∨ a = .isRef (.static "java/lang/Throwable" "UNASSIGNED_STACK" "[Ljava/lang/StackTraceElement;") ∨ a = .isRef (.static "java/lang/Throwable" "SUPPRESSED_SENTINEL" "Ljava/util/List;") ∨ a = .laysStatic "java/lang/Throwable" "UNASSIGNED_STACK" "[Ljava/lang/StackTraceElement;" ∨ a = .laysStatic "java/lang/Throwable" "SUPPRESSED_SENTINEL" "Ljava/util/List;" := by
  induction L with
  | nil => intro ix _ a ha; cases ha
  | cons b r ih =>
    intro ix h a ha
    cases ix with
    | nil => cases h
    | cons i ix =>
      have h2 := Bool.and_eq_true_iff.mp h
      rcases List.mem_cons.mp ha with rfl | ha
      · cases i with
        | zero => exact Or.inr (of_decide_eq_true h2.1)
        | succ i =>
          have h3 := Bool.and_eq_true_iff.mp h2.1
          exact Or.inl (cx_in i (of_decide_eq_true h3.1) h3.2)
      · exact ih h2.2 a ha
abbrev cx_nt (l : Launch) : Prop := ∀ e : Env, l.admits e → e.platform.stackTraces = false
abbrev rm_M_dropAll : Room := { frames := 0, cells := 0, slots := 0, locals := 0 }
theorem c_M_dropAll {l : Launch} {G : cx_G} (hG : cx_okG G) (hcl : cx_cl G = cx_cls) : cx_M cx_Tb l G m_M_dropAll prog_3_method_2_code 2 none rm_M_dropAll sp_M_dropAll :=
  cx_mk hG (Sp := []) (Ex := []) k_M_dropAll (fun S => g_M_ok S.1 S.2.1 S.2.2.2.2.2.2 hcl S.2.2.2.2.2.1) (fun S => p_M_ok S.1 S.2.1 S.2.2.2.2.2.2 hcl S.2.2.2.2.2.1) (fun h => l_M_ok h)
    (fun S => fun _ h => absurd h List.not_mem_nil)
    (fun S => fun _ h => absurd h List.not_mem_nil) rfl pu_M_dropAll
abbrev rm_L_dropAll : Room := { frames := 1, cells := 0, slots := 0, locals := 21 }
theorem wl_0 : cx_wV cx_Tb "CycleCutter$Layout" r_M "" 34 0 m_M_dropAll prog_3_method_2_code 2 none := ⟨Or.inl (cx_in 190 (by decide +kernel) (by decide +kernel)), ⟨cx_in 191 (by decide +kernel) (by decide +kernel), cx_in 192 (by decide +kernel) (by decide +kernel), cx_in 193 (by decide +kernel) (by decide +kernel)⟩, ⟨by decide +kernel, ⟨by decide +kernel, by decide +kernel⟩, by decide +kernel⟩⟩
theorem c_L_dropAll {l : Launch} {G : cx_G} (hG : cx_okG G) (hcl : cx_cl G = cx_cls) : cx_M cx_Tb l G m_L_dropAll prog_2_method_2_code 1 none rm_L_dropAll sp_L_dropAll :=
  cx_mk hG (Sp := [(sp_M_dropAll, 1, 0, 0)]) (Ex := []) k_L_dropAll (fun S => g_L_ok S.1 S.2.1 S.2.2.2.2.2.2 hcl S.2.2.2.2.2.1) (fun S => p_L_ok S.1 S.2.1 S.2.2.2.2.2.2 hcl S.2.2.2.2.2.1) (fun h => l_L_ok h)
    (fun S => List.forall_mem_cons.mpr ⟨fun f na kc ks h => by
      cases (show some (sp_M_dropAll, 1, 0, 0) = some (f, na, kc, ks) from h)
      exact cx_callV (C := r_M) (T0 := f_M) (N0 := 11) (np := 0) cx_TbAll S.1 S.2.1 S.2.2.1 S.2.2.2.2.2.2 S.2.2.2.1 S.2.2.2.2.1 S.2.2.2.2.2.1 (by rw [hcl]; rfl) (c_M_dropAll hG hcl) wl_0 (by decide), fun _ h => absurd h List.not_mem_nil⟩)
    (fun S => fun _ h => absurd h List.not_mem_nil) rfl pu_L_dropAll
abbrev rm_C_isMember : Room := { frames := 0, cells := 0, slots := 0, locals := 0 }
theorem k2_C_isMember : t_C_isMember.all (cx_dec false prog_1_method_18_code (some (.boolean)) 2 g_C p_C l_C v_C_isMember s_C_isMember h_C_isMember w_C_isMember) = true := by decide +kernel
theorem c_C_isMember {l : Launch} {G : cx_G} (hG : cx_okG G) (hcl : cx_cl G = cx_cls) : cx_M2 cx_Tb l G m_C_isMember prog_1_method_18_code 2 (some (.boolean)) rm_C_isMember sp_C_isMember :=
  cx_mk2 hG (Sp := []) (Ex := []) k2_C_isMember (fun S => g_C_ok S.1 S.2.1 S.2.2.2.2.2.2 hcl S.2.2.2.2.2.1) (fun S => p_C_ok S.1 S.2.1 S.2.2.2.2.2.2 hcl S.2.2.2.2.2.1) (fun h => l_C_ok h)
    (fun S => fun _ h => absurd h List.not_mem_nil)
    (fun S => fun _ h => absurd h List.not_mem_nil)
    (fun S => fun _ h => absurd h List.not_mem_nil) pu_C_isMember
abbrev rm_M_addMultiplexer : Room := { frames := 1, cells := 0, slots := 0, locals := 21 }
theorem wl_1 : cx_wM cx_Tb "CycleCutter$Multiplexers" 58 := ⟨cx_in 246 (by decide +kernel) (by decide +kernel), cx_in 247 (by decide +kernel) (by decide +kernel), cx_in 35 (by decide +kernel) (by decide +kernel), cx_in 248 (by decide +kernel) (by decide +kernel)⟩
theorem c_M_addMultiplexer {l : Launch} {G : cx_G} (hG : cx_okG G) (hcl : cx_cl G = cx_cls) : cx_M cx_Tb l G m_M_addMultiplexer prog_3_method_6_code 5 (some (.int)) rm_M_addMultiplexer sp_M_addMultiplexer :=
  cx_mk hG (Sp := [(sp_J_max, 2, 0, 0)]) (Ex := []) k_M_addMultiplexer (fun S => g_M_ok S.1 S.2.1 S.2.2.2.2.2.2 hcl S.2.2.2.2.2.1) (fun S => p_M_ok S.1 S.2.1 S.2.2.2.2.2.2 hcl S.2.2.2.2.2.1) (fun h => l_M_ok h)
    (fun S => fun _ h => absurd h List.not_mem_nil)
    (fun S => List.forall_mem_cons.mpr ⟨fun f na kc ks h => by
      cases (show some (sp_J_max, 2, 0, 0) = some (f, na, kc, ks) from h)
      exact cx_max S.1 S.2.1 S.2.2.1 S.2.2.2.2.2.2 S.2.2.2.2.2.1 wl_1 (by decide), fun _ h => absurd h List.not_mem_nil⟩) rfl pu_M_addMultiplexer
abbrev rm_M_join : Room := { frames := 2, cells := 0, slots := 0, locals := 45 }
theorem wl_2 : cx_wV cx_Tb "CycleCutter$Multiplexers" r_M "" 55 3 m_M_addMultiplexer prog_3_method_6_code 5 (some (.int)) := ⟨Or.inl (cx_in 242 (by decide +kernel) (by decide +kernel)), ⟨cx_in 244 (by decide +kernel) (by decide +kernel), cx_in 5 (by decide +kernel) (by decide +kernel), cx_in 245 (by decide +kernel) (by decide +kernel)⟩, ⟨by decide +kernel, ⟨by decide +kernel, by decide +kernel⟩, by decide +kernel⟩⟩
theorem c_M_join {l : Launch} {G : cx_G} (hG : cx_okG G) (hcl : cx_cl G = cx_cls) : cx_M cx_Tb l G m_M_join prog_3_method_5_code 6 (some (.int)) rm_M_join sp_M_join :=
  cx_mk hG (Sp := [(sp_M_addMultiplexer, 4, 0, 0)]) (Ex := []) k_M_join (fun S => g_M_ok S.1 S.2.1 S.2.2.2.2.2.2 hcl S.2.2.2.2.2.1) (fun S => p_M_ok S.1 S.2.1 S.2.2.2.2.2.2 hcl S.2.2.2.2.2.1) (fun h => l_M_ok h)
    (fun S => List.forall_mem_cons.mpr ⟨fun f na kc ks h => by
      cases (show some (sp_M_addMultiplexer, 4, 0, 0) = some (f, na, kc, ks) from h)
      exact cx_callV (C := r_M) (T0 := f_M) (N0 := 11) (np := 3) cx_TbAll S.1 S.2.1 S.2.2.1 S.2.2.2.2.2.2 S.2.2.2.1 S.2.2.2.2.1 S.2.2.2.2.2.1 (by rw [hcl]; rfl) (c_M_addMultiplexer hG hcl) wl_2 (by decide), fun _ h => absurd h List.not_mem_nil⟩)
    (fun S => fun _ h => absurd h List.not_mem_nil) rfl pu_M_join
abbrev rm_M_addFunction : Room := { frames := 3, cells := 0, slots := 0, locals := 70 }
theorem wl_3 : cx_wV cx_Tb "CycleCutter$Multiplexers" r_M "" 51 3 m_M_join prog_3_method_5_code 6 (some (.int)) := ⟨Or.inl (cx_in 238 (by decide +kernel) (by decide +kernel)), ⟨cx_in 240 (by decide +kernel) (by decide +kernel), cx_in 4 (by decide +kernel) (by decide +kernel), cx_in 241 (by decide +kernel) (by decide +kernel)⟩, ⟨by decide +kernel, ⟨by decide +kernel, by decide +kernel⟩, by decide +kernel⟩⟩
theorem wl_4 : cx_wS cx_Tb "CycleCutter$Multiplexers" "CycleCutter" 47 2 m_C_isMember prog_1_method_18_code 2 (some (.boolean)) := ⟨Or.inr (cx_in 235 (by decide +kernel) (by decide +kernel)), ⟨cx_in 236 (by decide +kernel) (by decide +kernel), cx_in 24 (by decide +kernel) (by decide +kernel), cx_in 237 (by decide +kernel) (by decide +kernel)⟩, ⟨by decide +kernel, ⟨by decide +kernel, by decide +kernel⟩, by decide +kernel⟩⟩
theorem c_M_addFunction {l : Launch} {G : cx_G} (hG : cx_okG G) (hcl : cx_cl G = cx_cls) : cx_M cx_Tb l G m_M_addFunction prog_3_method_4_code 5 (some (.int)) rm_M_addFunction sp_M_addFunction :=
  cx_mk hG (Sp := [(sp_C_isMember, 2, 0, 0), (sp_M_join, 4, 0, 0)]) (Ex := []) k_M_addFunction (fun S => g_M_ok S.1 S.2.1 S.2.2.2.2.2.2 hcl S.2.2.2.2.2.1) (fun S => p_M_ok S.1 S.2.1 S.2.2.2.2.2.2 hcl S.2.2.2.2.2.1) (fun h => l_M_ok h)
    (fun S => List.forall_mem_cons.mpr ⟨fun f na kc ks h => by
      cases (show some (sp_M_join, 4, 0, 0) = some (f, na, kc, ks) from h)
      exact cx_callV (C := r_M) (T0 := f_M) (N0 := 11) (np := 3) cx_TbAll S.1 S.2.1 S.2.2.1 S.2.2.2.2.2.2 S.2.2.2.1 S.2.2.2.2.1 S.2.2.2.2.2.1 (by rw [hcl]; rfl) (c_M_join hG hcl) wl_3 (by decide), fun _ h => absurd h List.not_mem_nil⟩)
    (fun S => List.forall_mem_cons.mpr ⟨fun f na kc ks h => by
      cases (show some (sp_C_isMember, 2, 0, 0) = some (f, na, kc, ks) from h)
      exact cx_callS (np := 2) cx_TbAll S.1 S.2.1 S.2.2.1 S.2.2.2.2.2.2 S.2.2.2.1 S.2.2.2.2.1 S.2.2.2.2.2.1 (cx_M2.weak (c_C_isMember hG hcl)) wl_4 (by decide), fun _ h => absurd h List.not_mem_nil⟩) rfl pu_M_addFunction
abbrev rm_L_addOutput : Room := { frames := 4, cells := 0, slots := 0, locals := 94 }
theorem wl_5 : cx_wV cx_Tb "CycleCutter$Layout" r_M "" 37 1 m_M_addFunction prog_3_method_4_code 5 (some (.int)) := ⟨Or.inl (cx_in 231 (by decide +kernel) (by decide +kernel)), ⟨cx_in 232 (by decide +kernel) (by decide +kernel), cx_in 233 (by decide +kernel) (by decide +kernel), cx_in 234 (by decide +kernel) (by decide +kernel)⟩, ⟨by decide +kernel, ⟨by decide +kernel, by decide +kernel⟩, by decide +kernel⟩⟩
theorem c_L_addOutput {l : Launch} {G : cx_G} (hG : cx_okG G) (hcl : cx_cl G = cx_cls) : cx_M cx_Tb l G m_L_addOutput prog_2_method_3_code 4 none rm_L_addOutput sp_L_addOutput :=
  cx_mk hG (Sp := [(sp_M_addFunction, 2, 0, 0)]) (Ex := []) k_L_addOutput (fun S => g_L_ok S.1 S.2.1 S.2.2.2.2.2.2 hcl S.2.2.2.2.2.1) (fun S => p_L_ok S.1 S.2.1 S.2.2.2.2.2.2 hcl S.2.2.2.2.2.1) (fun h => l_L_ok h)
    (fun S => List.forall_mem_cons.mpr ⟨fun f na kc ks h => by
      cases (show some (sp_M_addFunction, 2, 0, 0) = some (f, na, kc, ks) from h)
      exact cx_callV (C := r_M) (T0 := f_M) (N0 := 11) (np := 1) cx_TbAll S.1 S.2.1 S.2.2.1 S.2.2.2.2.2.2 S.2.2.2.1 S.2.2.2.2.1 S.2.2.2.2.2.1 (by rw [hcl]; rfl) (c_M_addFunction hG hcl) wl_5 (by decide), fun _ h => absurd h List.not_mem_nil⟩)
    (fun S => fun _ h => absurd h List.not_mem_nil) rfl pu_L_addOutput
abbrev rm_C_isInputSet : Room := { frames := 0, cells := 0, slots := 0, locals := 0 }
theorem k2_C_isInputSet : t_C_isInputSet.all (cx_dec false prog_1_method_17_code (some (.boolean)) 2 g_C p_C l_C v_C_isInputSet s_C_isInputSet h_C_isInputSet w_C_isInputSet) = true := by decide +kernel
theorem c_C_isInputSet {l : Launch} {G : cx_G} (hG : cx_okG G) (hcl : cx_cl G = cx_cls) : cx_M2 cx_Tb l G m_C_isInputSet prog_1_method_17_code 2 (some (.boolean)) rm_C_isInputSet sp_C_isInputSet :=
  cx_mk2 hG (Sp := []) (Ex := []) k2_C_isInputSet (fun S => g_C_ok S.1 S.2.1 S.2.2.2.2.2.2 hcl S.2.2.2.2.2.1) (fun S => p_C_ok S.1 S.2.1 S.2.2.2.2.2.2 hcl S.2.2.2.2.2.1) (fun h => l_C_ok h)
    (fun S => fun _ h => absurd h List.not_mem_nil)
    (fun S => fun _ h => absurd h List.not_mem_nil)
    (fun S => fun _ h => absurd h List.not_mem_nil) pu_C_isInputSet
abbrev rm_M_follow : Room := { frames := 1, cells := 0, slots := 0, locals := 21 }
theorem k2_M_follow : t_M_follow.all (cx_dec false prog_3_method_7_code (some (.int)) 3 g_M p_M l_M v_M_follow s_M_follow h_M_follow w_M_follow) = true := by decide +kernel
theorem wl_6 : cx_wS cx_Tb "CycleCutter$Multiplexers" "CycleCutter" 64 2 m_C_isInputSet prog_1_method_17_code 2 (some (.boolean)) := ⟨Or.inr (cx_in 433 (by decide +kernel) (by decide +kernel)), ⟨cx_in 346 (by decide +kernel) (by decide +kernel), cx_in 24 (by decide +kernel) (by decide +kernel), cx_in 347 (by decide +kernel) (by decide +kernel)⟩, ⟨by decide +kernel, ⟨by decide +kernel, by decide +kernel⟩, by decide +kernel⟩⟩
theorem c_M_follow {l : Launch} {G : cx_G} (hG : cx_okG G) (hcl : cx_cl G = cx_cls) : cx_M2 cx_Tb l G m_M_follow prog_3_method_7_code 3 (some (.int)) rm_M_follow sp_M_follow :=
  cx_mk2 hG (Sp := [(sp_C_isInputSet, 2, 0, 0)]) (Ex := []) k2_M_follow (fun S => g_M_ok S.1 S.2.1 S.2.2.2.2.2.2 hcl S.2.2.2.2.2.1) (fun S => p_M_ok S.1 S.2.1 S.2.2.2.2.2.2 hcl S.2.2.2.2.2.1) (fun h => l_M_ok h)
    (fun S => fun _ h => absurd h List.not_mem_nil)
    (fun S => List.forall_mem_cons.mpr ⟨fun f na kc ks h => by
      cases (show some (sp_C_isInputSet, 2, 0, 0) = some (f, na, kc, ks) from h)
      exact cx_callS2 (np := 2) cx_TbAll S.1 S.2.1 S.2.2.1 S.2.2.2.2.2.2 S.2.2.2.1 S.2.2.2.2.1 S.2.2.2.2.2.1 (c_C_isInputSet hG hcl) wl_6 (by decide), fun _ h => absurd h List.not_mem_nil⟩)
    (fun S => fun _ h => absurd h List.not_mem_nil) pu_M_follow
abbrev rm_M_isOneOn : Room := { frames := 2, cells := 0, slots := 0, locals := 43 }
theorem k2_M_isOneOn : t_M_isOneOn.all (cx_dec false prog_3_method_8_code (some (.boolean)) 5 g_M p_M l_M v_M_isOneOn s_M_isOneOn h_M_isOneOn w_M_isOneOn) = true := by decide +kernel
theorem wl_7 : cx_wV cx_Tb "CycleCutter$Multiplexers" r_M "" 68 2 m_M_follow prog_3_method_7_code 3 (some (.int)) := ⟨Or.inl (cx_in 429 (by decide +kernel) (by decide +kernel)), ⟨cx_in 431 (by decide +kernel) (by decide +kernel), cx_in 9 (by decide +kernel) (by decide +kernel), cx_in 432 (by decide +kernel) (by decide +kernel)⟩, ⟨by decide +kernel, ⟨by decide +kernel, by decide +kernel⟩, by decide +kernel⟩⟩
theorem c_M_isOneOn {l : Launch} {G : cx_G} (hG : cx_okG G) (hcl : cx_cl G = cx_cls) : cx_M2 cx_Tb l G m_M_isOneOn prog_3_method_8_code 5 (some (.boolean)) rm_M_isOneOn sp_M_isOneOn :=
  cx_mk2 hG (Sp := [(sp_M_follow, 3, 0, 0)]) (Ex := []) k2_M_isOneOn (fun S => g_M_ok S.1 S.2.1 S.2.2.2.2.2.2 hcl S.2.2.2.2.2.1) (fun S => p_M_ok S.1 S.2.1 S.2.2.2.2.2.2 hcl S.2.2.2.2.2.1) (fun h => l_M_ok h)
    (fun S => List.forall_mem_cons.mpr ⟨fun f na kc ks h => by
      cases (show some (sp_M_follow, 3, 0, 0) = some (f, na, kc, ks) from h)
      exact cx_callV2 (C := r_M) (T0 := f_M) (N0 := 11) (np := 2) cx_TbAll S.1 S.2.1 S.2.2.1 S.2.2.2.2.2.2 S.2.2.2.1 S.2.2.2.2.1 S.2.2.2.2.2.1 (by rw [hcl]; rfl) (c_M_follow hG hcl) wl_7 (by decide), fun _ h => absurd h List.not_mem_nil⟩)
    (fun S => fun _ h => absurd h List.not_mem_nil)
    (fun S => fun _ h => absurd h List.not_mem_nil) pu_M_isOneOn
abbrev rm_L_valueOn : Room := { frames := 3, cells := 0, slots := 0, locals := 67 }
theorem k2_L_valueOn : t_L_valueOn.all (cx_dec false prog_2_method_4_code (some (.int)) 3 g_L p_L l_L v_L_valueOn s_L_valueOn h_L_valueOn w_L_valueOn) = true := by decide +kernel
theorem wl_8 : cx_wV cx_Tb "CycleCutter$Layout" r_M "" 41 2 m_M_isOneOn prog_3_method_8_code 5 (some (.boolean)) := ⟨Or.inl (cx_in 425 (by decide +kernel) (by decide +kernel)), ⟨cx_in 426 (by decide +kernel) (by decide +kernel), cx_in 427 (by decide +kernel) (by decide +kernel), cx_in 428 (by decide +kernel) (by decide +kernel)⟩, ⟨by decide +kernel, ⟨by decide +kernel, by decide +kernel⟩, by decide +kernel⟩⟩
theorem c_L_valueOn {l : Launch} {G : cx_G} (hG : cx_okG G) (hcl : cx_cl G = cx_cls) : cx_M2 cx_Tb l G m_L_valueOn prog_2_method_4_code 3 (some (.int)) rm_L_valueOn sp_L_valueOn :=
  cx_mk2 hG (Sp := [(sp_M_isOneOn, 3, 0, 0)]) (Ex := []) k2_L_valueOn (fun S => g_L_ok S.1 S.2.1 S.2.2.2.2.2.2 hcl S.2.2.2.2.2.1) (fun S => p_L_ok S.1 S.2.1 S.2.2.2.2.2.2 hcl S.2.2.2.2.2.1) (fun h => l_L_ok h)
    (fun S => List.forall_mem_cons.mpr ⟨fun f na kc ks h => by
      cases (show some (sp_M_isOneOn, 3, 0, 0) = some (f, na, kc, ks) from h)
      exact cx_callV2 (C := r_M) (T0 := f_M) (N0 := 11) (np := 2) cx_TbAll S.1 S.2.1 S.2.2.1 S.2.2.2.2.2.2 S.2.2.2.1 S.2.2.2.2.1 S.2.2.2.2.2.1 (by rw [hcl]; rfl) (c_M_isOneOn hG hcl) wl_8 (by decide), fun _ h => absurd h List.not_mem_nil⟩)
    (fun S => fun _ h => absurd h List.not_mem_nil)
    (fun S => fun _ h => absurd h List.not_mem_nil) pu_L_valueOn
abbrev rm_M_stepsOn : Room := { frames := 2, cells := 0, slots := 0, locals := 43 }
theorem k2_M_stepsOn : t_M_stepsOn.all (cx_dec false prog_3_method_9_code (some (.int)) 5 g_M p_M l_M v_M_stepsOn s_M_stepsOn h_M_stepsOn w_M_stepsOn) = true := by decide +kernel
theorem c_M_stepsOn {l : Launch} {G : cx_G} (hG : cx_okG G) (hcl : cx_cl G = cx_cls) : cx_M2 cx_Tb l G m_M_stepsOn prog_3_method_9_code 5 (some (.int)) rm_M_stepsOn sp_M_stepsOn :=
  cx_mk2 hG (Sp := [(sp_M_follow, 3, 0, 0)]) (Ex := []) k2_M_stepsOn (fun S => g_M_ok S.1 S.2.1 S.2.2.2.2.2.2 hcl S.2.2.2.2.2.1) (fun S => p_M_ok S.1 S.2.1 S.2.2.2.2.2.2 hcl S.2.2.2.2.2.1) (fun h => l_M_ok h)
    (fun S => List.forall_mem_cons.mpr ⟨fun f na kc ks h => by
      cases (show some (sp_M_follow, 3, 0, 0) = some (f, na, kc, ks) from h)
      exact cx_callV2 (C := r_M) (T0 := f_M) (N0 := 11) (np := 2) cx_TbAll S.1 S.2.1 S.2.2.1 S.2.2.2.2.2.2 S.2.2.2.1 S.2.2.2.2.1 S.2.2.2.2.2.1 (by rw [hcl]; rfl) (c_M_follow hG hcl) wl_7 (by decide), fun _ h => absurd h List.not_mem_nil⟩)
    (fun S => fun _ h => absurd h List.not_mem_nil)
    (fun S => fun _ h => absurd h List.not_mem_nil) pu_M_stepsOn
abbrev rm_L_stepsOn : Room := { frames := 3, cells := 0, slots := 0, locals := 67 }
theorem k2_L_stepsOn : t_L_stepsOn.all (cx_dec false prog_2_method_5_code (some (.int)) 3 g_L p_L l_L v_L_stepsOn s_L_stepsOn h_L_stepsOn w_L_stepsOn) = true := by decide +kernel
theorem wl_9 : cx_wV cx_Tb "CycleCutter$Layout" r_M "" 45 2 m_M_stepsOn prog_3_method_9_code 5 (some (.int)) := ⟨Or.inl (cx_in 445 (by decide +kernel) (by decide +kernel)), ⟨cx_in 446 (by decide +kernel) (by decide +kernel), cx_in 447 (by decide +kernel) (by decide +kernel), cx_in 448 (by decide +kernel) (by decide +kernel)⟩, ⟨by decide +kernel, ⟨by decide +kernel, by decide +kernel⟩, by decide +kernel⟩⟩
theorem c_L_stepsOn {l : Launch} {G : cx_G} (hG : cx_okG G) (hcl : cx_cl G = cx_cls) : cx_M2 cx_Tb l G m_L_stepsOn prog_2_method_5_code 3 (some (.int)) rm_L_stepsOn sp_L_stepsOn :=
  cx_mk2 hG (Sp := [(sp_M_stepsOn, 3, 0, 0)]) (Ex := []) k2_L_stepsOn (fun S => g_L_ok S.1 S.2.1 S.2.2.2.2.2.2 hcl S.2.2.2.2.2.1) (fun S => p_L_ok S.1 S.2.1 S.2.2.2.2.2.2 hcl S.2.2.2.2.2.1) (fun h => l_L_ok h)
    (fun S => List.forall_mem_cons.mpr ⟨fun f na kc ks h => by
      cases (show some (sp_M_stepsOn, 3, 0, 0) = some (f, na, kc, ks) from h)
      exact cx_callV2 (C := r_M) (T0 := f_M) (N0 := 11) (np := 2) cx_TbAll S.1 S.2.1 S.2.2.1 S.2.2.2.2.2.2 S.2.2.2.1 S.2.2.2.2.1 S.2.2.2.2.2.1 (by rw [hcl]; rfl) (c_M_stepsOn hG hcl) wl_9 (by decide), fun _ h => absurd h List.not_mem_nil⟩)
    (fun S => fun _ h => absurd h List.not_mem_nil)
    (fun S => fun _ h => absurd h List.not_mem_nil) pu_L_stepsOn
abbrev rm_J_bitCount : Room := { frames := 0, cells := 0, slots := 0, locals := 0 }
theorem k2_J_bitCount : t_J_bitCount.all (cx_dec false prog_11_method_50_code (some (.int)) 2 [] [] l_J v_J_bitCount s_J_bitCount h_J_bitCount w_J_bitCount) = true := by decide +kernel
theorem c_J_bitCount {l : Launch} {G : cx_G} (hG : cx_okG G) (hcl : cx_cl G = cx_cls) : cx_M2 cx_Tb l G m_J_bitCount prog_11_method_50_code 2 (some (.int)) rm_J_bitCount sp_J_bitCount :=
  cx_mk2 hG (Sp := []) (Ex := []) k2_J_bitCount (fun S => fun _ h => absurd h List.not_mem_nil) (fun S => fun _ h => absurd h List.not_mem_nil) (fun h => l_J_ok h)
    (fun S => fun _ h => absurd h List.not_mem_nil)
    (fun S => fun _ h => absurd h List.not_mem_nil)
    (fun S => fun _ h => absurd h List.not_mem_nil) pu_J_bitCount
abbrev rm_L_knownChoices : Room := { frames := 1, cells := 0, slots := 0, locals := 21 }
theorem k2_L_knownChoices : t_L_knownChoices.all (cx_dec false prog_2_method_6_code (some (.int)) 4 g_L p_L l_L v_L_knownChoices s_L_knownChoices h_L_knownChoices w_L_knownChoices) = true := by decide +kernel
theorem wl_10 : cx_wS cx_Tb "CycleCutter$Layout" "" 49 1 m_J_bitCount prog_11_method_50_code 2 (some (.int)) := ⟨Or.inl (cx_in 471 (by decide +kernel) (by decide +kernel)), ⟨cx_in 472 (by decide +kernel) (by decide +kernel), cx_in 36 (by decide +kernel) (by decide +kernel), cx_in 473 (by decide +kernel) (by decide +kernel)⟩, ⟨by decide +kernel, ⟨by decide +kernel, by decide +kernel⟩, by decide +kernel⟩⟩
theorem c_L_knownChoices {l : Launch} {G : cx_G} (hG : cx_okG G) (hcl : cx_cl G = cx_cls) : cx_M2 cx_Tb l G m_L_knownChoices prog_2_method_6_code 4 (some (.int)) rm_L_knownChoices sp_L_knownChoices :=
  cx_mk2 hG (Sp := [(sp_J_bitCount, 1, 0, 0)]) (Ex := []) k2_L_knownChoices (fun S => g_L_ok S.1 S.2.1 S.2.2.2.2.2.2 hcl S.2.2.2.2.2.1) (fun S => p_L_ok S.1 S.2.1 S.2.2.2.2.2.2 hcl S.2.2.2.2.2.1) (fun h => l_L_ok h)
    (fun S => fun _ h => absurd h List.not_mem_nil)
    (fun S => List.forall_mem_cons.mpr ⟨fun f na kc ks h => by
      cases (show some (sp_J_bitCount, 1, 0, 0) = some (f, na, kc, ks) from h)
      exact cx_callS2 (np := 1) cx_TbAll S.1 S.2.1 S.2.2.1 S.2.2.2.2.2.2 S.2.2.2.1 S.2.2.2.2.1 S.2.2.2.2.2.1 (c_J_bitCount hG hcl) wl_10 (by decide), fun _ h => absurd h List.not_mem_nil⟩)
    (fun S => fun _ h => absurd h List.not_mem_nil) pu_L_knownChoices
abbrev rm_L_firstDoubtFrom : Room := { frames := 1, cells := 0, slots := 0, locals := 21 }
theorem k2_L_firstDoubtFrom : t_L_firstDoubtFrom.all (cx_dec false prog_2_method_7_code (some (.int)) 4 g_L p_L l_L v_L_firstDoubtFrom s_L_firstDoubtFrom h_L_firstDoubtFrom w_L_firstDoubtFrom) = true := by decide +kernel
theorem wl_11 : cx_wS cx_Tb "CycleCutter$Layout" "CycleCutter" 55 2 m_C_isMember prog_1_method_18_code 2 (some (.boolean)) := ⟨Or.inr (cx_in 488 (by decide +kernel) (by decide +kernel)), ⟨cx_in 236 (by decide +kernel) (by decide +kernel), cx_in 24 (by decide +kernel) (by decide +kernel), cx_in 237 (by decide +kernel) (by decide +kernel)⟩, ⟨by decide +kernel, ⟨by decide +kernel, by decide +kernel⟩, by decide +kernel⟩⟩
theorem c_L_firstDoubtFrom {l : Launch} {G : cx_G} (hG : cx_okG G) (hcl : cx_cl G = cx_cls) : cx_M2 cx_Tb l G m_L_firstDoubtFrom prog_2_method_7_code 4 (some (.int)) rm_L_firstDoubtFrom sp_L_firstDoubtFrom :=
  cx_mk2 hG (Sp := [(sp_C_isMember, 2, 0, 0)]) (Ex := []) k2_L_firstDoubtFrom (fun S => g_L_ok S.1 S.2.1 S.2.2.2.2.2.2 hcl S.2.2.2.2.2.1) (fun S => p_L_ok S.1 S.2.1 S.2.2.2.2.2.2 hcl S.2.2.2.2.2.1) (fun h => l_L_ok h)
    (fun S => fun _ h => absurd h List.not_mem_nil)
    (fun S => List.forall_mem_cons.mpr ⟨fun f na kc ks h => by
      cases (show some (sp_C_isMember, 2, 0, 0) = some (f, na, kc, ks) from h)
      exact cx_callS2 (np := 2) cx_TbAll S.1 S.2.1 S.2.2.1 S.2.2.2.2.2.2 S.2.2.2.1 S.2.2.2.2.1 S.2.2.2.2.2.1 (c_C_isMember hG hcl) wl_11 (by decide), fun _ h => absurd h List.not_mem_nil⟩)
    (fun S => fun _ h => absurd h List.not_mem_nil) pu_L_firstDoubtFrom
abbrev rm_M_total : Room := { frames := 0, cells := 0, slots := 0, locals := 0 }
theorem c_M_total {l : Launch} {G : cx_G} (hG : cx_okG G) (hcl : cx_cl G = cx_cls) : cx_M cx_Tb l G m_M_total prog_3_method_3_code 1 (some (.int)) rm_M_total sp_M_total :=
  cx_mk hG (Sp := []) (Ex := []) k_M_total (fun S => g_M_ok S.1 S.2.1 S.2.2.2.2.2.2 hcl S.2.2.2.2.2.1) (fun S => p_M_ok S.1 S.2.1 S.2.2.2.2.2.2 hcl S.2.2.2.2.2.1) (fun h => l_M_ok h)
    (fun S => fun _ h => absurd h List.not_mem_nil)
    (fun S => fun _ h => absurd h List.not_mem_nil) rfl pu_M_total
abbrev rm_M_totalBelow : Room := { frames := 0, cells := 0, slots := 0, locals := 0 }
theorem c_M_totalBelow {l : Launch} {G : cx_G} (hG : cx_okG G) (hcl : cx_cl G = cx_cls) : cx_M cx_Tb l G m_M_totalBelow prog_3_method_10_code 4 (some (.int)) rm_M_totalBelow sp_M_totalBelow :=
  cx_mk hG (Sp := []) (Ex := []) k_M_totalBelow (fun S => g_M_ok S.1 S.2.1 S.2.2.2.2.2.2 hcl S.2.2.2.2.2.1) (fun S => p_M_ok S.1 S.2.1 S.2.2.2.2.2.2 hcl S.2.2.2.2.2.1) (fun h => l_M_ok h)
    (fun S => fun _ h => absurd h List.not_mem_nil)
    (fun S => fun _ h => absurd h List.not_mem_nil) rfl pu_M_totalBelow
abbrev rm_N_dropAll : Room := { frames := 0, cells := 0, slots := 0, locals := 0 }
theorem c_N_dropAll {l : Launch} {G : cx_G} (hG : cx_okG G) (hcl : cx_cl G = cx_cls) : cx_M cx_Tb l G m_N_dropAll prog_4_method_2_code 1 none rm_N_dropAll sp_N_dropAll :=
  cx_mk hG (Sp := []) (Ex := []) k_N_dropAll (fun S => g_N_ok S.1 S.2.1 S.2.2.2.2.2.2 hcl S.2.2.2.2.2.1) (fun S => p_N_ok S.1 S.2.1 S.2.2.2.2.2.2 hcl S.2.2.2.2.2.1) (fun h => l_N_ok h)
    (fun S => fun _ h => absurd h List.not_mem_nil)
    (fun S => fun _ h => absurd h List.not_mem_nil) rfl pu_N_dropAll
abbrev rm_N_hasGate : Room := { frames := 0, cells := 0, slots := 0, locals := 0 }
theorem k2_N_hasGate : t_N_hasGate.all (cx_dec false prog_4_method_3_code (some (.boolean)) 2 g_N p_N l_N v_N_hasGate s_N_hasGate h_N_hasGate w_N_hasGate) = true := by decide +kernel
theorem c_N_hasGate {l : Launch} {G : cx_G} (hG : cx_okG G) (hcl : cx_cl G = cx_cls) : cx_M2 cx_Tb l G m_N_hasGate prog_4_method_3_code 2 (some (.boolean)) rm_N_hasGate sp_N_hasGate :=
  cx_mk2 hG (Sp := []) (Ex := []) k2_N_hasGate (fun S => g_N_ok S.1 S.2.1 S.2.2.2.2.2.2 hcl S.2.2.2.2.2.1) (fun S => p_N_ok S.1 S.2.1 S.2.2.2.2.2.2 hcl S.2.2.2.2.2.1) (fun h => l_N_ok h)
    (fun S => fun _ h => absurd h List.not_mem_nil)
    (fun S => fun _ h => absurd h List.not_mem_nil)
    (fun S => fun _ h => absurd h List.not_mem_nil) pu_N_hasGate
abbrev rm_N_isInput : Room := { frames := 0, cells := 0, slots := 0, locals := 0 }
theorem k2_N_isInput : t_N_isInput.all (cx_dec false prog_4_method_4_code (some (.boolean)) 2 g_N p_N l_N v_N_isInput s_N_isInput h_N_isInput w_N_isInput) = true := by decide +kernel
theorem c_N_isInput {l : Launch} {G : cx_G} (hG : cx_okG G) (hcl : cx_cl G = cx_cls) : cx_M2 cx_Tb l G m_N_isInput prog_4_method_4_code 2 (some (.boolean)) rm_N_isInput sp_N_isInput :=
  cx_mk2 hG (Sp := []) (Ex := []) k2_N_isInput (fun S => g_N_ok S.1 S.2.1 S.2.2.2.2.2.2 hcl S.2.2.2.2.2.1) (fun S => p_N_ok S.1 S.2.1 S.2.2.2.2.2.2 hcl S.2.2.2.2.2.1) (fun h => l_N_ok h)
    (fun S => fun _ h => absurd h List.not_mem_nil)
    (fun S => fun _ h => absurd h List.not_mem_nil)
    (fun S => fun _ h => absurd h List.not_mem_nil) pu_N_isInput
abbrev rm_N_fixInput : Room := { frames := 1, cells := 0, slots := 0, locals := 21 }
theorem wl_12 : cx_wS cx_Tb "CycleCutter$Net" "CycleCutter" 57 2 m_C_isInputSet prog_1_method_17_code 2 (some (.boolean)) := ⟨Or.inr (cx_in 345 (by decide +kernel) (by decide +kernel)), ⟨cx_in 346 (by decide +kernel) (by decide +kernel), cx_in 24 (by decide +kernel) (by decide +kernel), cx_in 347 (by decide +kernel) (by decide +kernel)⟩, ⟨by decide +kernel, ⟨by decide +kernel, by decide +kernel⟩, by decide +kernel⟩⟩
theorem c_N_fixInput {l : Launch} {G : cx_G} (hG : cx_okG G) (hcl : cx_cl G = cx_cls) : cx_M cx_Tb l G m_N_fixInput prog_4_method_6_code 7 none rm_N_fixInput sp_N_fixInput :=
  cx_mk hG (Sp := [(sp_C_isInputSet, 2, 0, 0)]) (Ex := []) k_N_fixInput (fun S => g_N_ok S.1 S.2.1 S.2.2.2.2.2.2 hcl S.2.2.2.2.2.1) (fun S => p_N_ok S.1 S.2.1 S.2.2.2.2.2.2 hcl S.2.2.2.2.2.1) (fun h => l_N_ok h)
    (fun S => fun _ h => absurd h List.not_mem_nil)
    (fun S => List.forall_mem_cons.mpr ⟨fun f na kc ks h => by
      cases (show some (sp_C_isInputSet, 2, 0, 0) = some (f, na, kc, ks) from h)
      exact cx_callS (np := 2) cx_TbAll S.1 S.2.1 S.2.2.1 S.2.2.2.2.2.2 S.2.2.2.1 S.2.2.2.2.1 S.2.2.2.2.2.1 (cx_M2.weak (c_C_isInputSet hG hcl)) wl_12 (by decide), fun _ h => absurd h List.not_mem_nil⟩) rfl pu_N_fixInput
abbrev rm_N_addGate : Room := { frames := 2, cells := 0, slots := 0, locals := 47 }
theorem wl_13 : cx_wV cx_Tb "CycleCutter$Net" r_N "" 53 2 m_N_fixInput prog_4_method_6_code 7 none := ⟨Or.inl (cx_in 341 (by decide +kernel) (by decide +kernel)), ⟨cx_in 343 (by decide +kernel) (by decide +kernel), cx_in 7 (by decide +kernel) (by decide +kernel), cx_in 344 (by decide +kernel) (by decide +kernel)⟩, ⟨by decide +kernel, ⟨by decide +kernel, by decide +kernel⟩, by decide +kernel⟩⟩
theorem c_N_addGate {l : Launch} {G : cx_G} (hG : cx_okG G) (hcl : cx_cl G = cx_cls) : cx_M cx_Tb l G m_N_addGate prog_4_method_5_code 3 (some (.int)) rm_N_addGate sp_N_addGate :=
  cx_mk hG (Sp := [(sp_N_fixInput, 3, 0, 0)]) (Ex := []) k_N_addGate (fun S => g_N_ok S.1 S.2.1 S.2.2.2.2.2.2 hcl S.2.2.2.2.2.1) (fun S => p_N_ok S.1 S.2.1 S.2.2.2.2.2.2 hcl S.2.2.2.2.2.1) (fun h => l_N_ok h)
    (fun S => List.forall_mem_cons.mpr ⟨fun f na kc ks h => by
      cases (show some (sp_N_fixInput, 3, 0, 0) = some (f, na, kc, ks) from h)
      exact cx_callV (C := r_N) (T0 := f_N) (N0 := 12) (np := 2) cx_TbAll S.1 S.2.1 S.2.2.1 S.2.2.2.2.2.2 S.2.2.2.1 S.2.2.2.2.1 S.2.2.2.2.2.1 (by rw [hcl]; rfl) (c_N_fixInput hG hcl) wl_13 (by decide), fun _ h => absurd h List.not_mem_nil⟩)
    (fun S => fun _ h => absurd h List.not_mem_nil) rfl pu_N_addGate
abbrev rm_N_addFeed : Room := { frames := 0, cells := 0, slots := 0, locals := 0 }
theorem c_N_addFeed {l : Launch} {G : cx_G} (hG : cx_okG G) (hcl : cx_cl G = cx_cls) : cx_M cx_Tb l G m_N_addFeed prog_4_method_7_code 5 (some (.int)) rm_N_addFeed sp_N_addFeed :=
  cx_mk hG (Sp := []) (Ex := []) k_N_addFeed (fun S => g_N_ok S.1 S.2.1 S.2.2.2.2.2.2 hcl S.2.2.2.2.2.1) (fun S => p_N_ok S.1 S.2.1 S.2.2.2.2.2.2 hcl S.2.2.2.2.2.1) (fun h => l_N_ok h)
    (fun S => fun _ h => absurd h List.not_mem_nil)
    (fun S => fun _ h => absurd h List.not_mem_nil) rfl pu_N_addFeed
abbrev rm_N_forgetWord : Room := { frames := 1, cells := 0, slots := 0, locals := 21 }
theorem wl_14 : cx_wV cx_Tb "CycleCutter$Net" r_N "" 77 1 m_N_isInput prog_4_method_4_code 2 (some (.boolean)) := ⟨Or.inl (cx_in 210 (by decide +kernel) (by decide +kernel)), ⟨cx_in 211 (by decide +kernel) (by decide +kernel), cx_in 212 (by decide +kernel) (by decide +kernel), cx_in 213 (by decide +kernel) (by decide +kernel)⟩, ⟨by decide +kernel, ⟨by decide +kernel, by decide +kernel⟩, by decide +kernel⟩⟩
theorem c_N_forgetWord {l : Launch} {G : cx_G} (hG : cx_okG G) (hcl : cx_cl G = cx_cls) : cx_M cx_Tb l G m_N_forgetWord prog_4_method_12_code 3 none rm_N_forgetWord sp_N_forgetWord :=
  cx_mk hG (Sp := [(sp_N_isInput, 2, 0, 0)]) (Ex := []) k_N_forgetWord (fun S => g_N_ok S.1 S.2.1 S.2.2.2.2.2.2 hcl S.2.2.2.2.2.1) (fun S => p_N_ok S.1 S.2.1 S.2.2.2.2.2.2 hcl S.2.2.2.2.2.1) (fun h => l_N_ok h)
    (fun S => List.forall_mem_cons.mpr ⟨fun f na kc ks h => by
      cases (show some (sp_N_isInput, 2, 0, 0) = some (f, na, kc, ks) from h)
      exact cx_callV (C := r_N) (T0 := f_N) (N0 := 12) (np := 1) cx_TbAll S.1 S.2.1 S.2.2.1 S.2.2.2.2.2.2 S.2.2.2.1 S.2.2.2.2.1 S.2.2.2.2.2.1 (by rw [hcl]; rfl) (cx_M2.weak (c_N_isInput hG hcl)) wl_14 (by decide), fun _ h => absurd h List.not_mem_nil⟩)
    (fun S => fun _ h => absurd h List.not_mem_nil) rfl pu_N_forgetWord
abbrev rm_N_settleGate : Room := { frames := 0, cells := 0, slots := 0, locals := 0 }
theorem c_N_settleGate {l : Launch} {G : cx_G} (hG : cx_okG G) (hcl : cx_cl G = cx_cls) : cx_M cx_Tb l G m_N_settleGate prog_4_method_14_code 14 (some (.boolean)) rm_N_settleGate sp_N_settleGate :=
  cx_mk hG (Sp := []) (Ex := []) k_N_settleGate (fun S => g_N_ok S.1 S.2.1 S.2.2.2.2.2.2 hcl S.2.2.2.2.2.1) (fun S => p_N_ok S.1 S.2.1 S.2.2.2.2.2.2 hcl S.2.2.2.2.2.1) (fun h => l_N_ok h)
    (fun S => fun _ h => absurd h List.not_mem_nil)
    (fun S => fun _ h => absurd h List.not_mem_nil) rfl pu_N_settleGate
abbrev rm_N_settleWord : Room := { frames := 1, cells := 0, slots := 0, locals := 33 }
theorem wl_15 : cx_wV cx_Tb "CycleCutter$Net" r_N "" 81 2 m_N_settleGate prog_4_method_14_code 14 (some (.boolean)) := ⟨Or.inl (cx_in 218 (by decide +kernel) (by decide +kernel)), ⟨cx_in 220 (by decide +kernel) (by decide +kernel), cx_in 3 (by decide +kernel) (by decide +kernel), cx_in 221 (by decide +kernel) (by decide +kernel)⟩, ⟨by decide +kernel, ⟨by decide +kernel, by decide +kernel⟩, by decide +kernel⟩⟩
theorem c_N_settleWord {l : Launch} {G : cx_G} (hG : cx_okG G) (hcl : cx_cl G = cx_cls) : cx_M cx_Tb l G m_N_settleWord prog_4_method_13_code 5 none rm_N_settleWord sp_N_settleWord :=
  cx_mk hG (Sp := [(sp_N_isInput, 2, 0, 0), (sp_N_settleGate, 3, 0, 0)]) (Ex := []) k_N_settleWord (fun S => g_N_ok S.1 S.2.1 S.2.2.2.2.2.2 hcl S.2.2.2.2.2.1) (fun S => p_N_ok S.1 S.2.1 S.2.2.2.2.2.2 hcl S.2.2.2.2.2.1) (fun h => l_N_ok h)
    (fun S => List.forall_mem_cons.mpr ⟨fun f na kc ks h => by
      cases (show some (sp_N_isInput, 2, 0, 0) = some (f, na, kc, ks) from h)
      exact cx_callV (C := r_N) (T0 := f_N) (N0 := 12) (np := 1) cx_TbAll S.1 S.2.1 S.2.2.1 S.2.2.2.2.2.2 S.2.2.2.1 S.2.2.2.2.1 S.2.2.2.2.2.1 (by rw [hcl]; rfl) (cx_M2.weak (c_N_isInput hG hcl)) wl_14 (by decide), List.forall_mem_cons.mpr ⟨fun f na kc ks h => by
      cases (show some (sp_N_settleGate, 3, 0, 0) = some (f, na, kc, ks) from h)
      exact cx_callV (C := r_N) (T0 := f_N) (N0 := 12) (np := 2) cx_TbAll S.1 S.2.1 S.2.2.1 S.2.2.2.2.2.2 S.2.2.2.1 S.2.2.2.2.1 S.2.2.2.2.2.1 (by rw [hcl]; rfl) (c_N_settleGate hG hcl) wl_15 (by decide), fun _ h => absurd h List.not_mem_nil⟩⟩)
    (fun S => fun _ h => absurd h List.not_mem_nil) rfl pu_N_settleWord
abbrev rm_N_settle : Room := { frames := 2, cells := 0, slots := 0, locals := 57 }
theorem wl_16 : cx_wV cx_Tb "CycleCutter$Net" r_N "" 70 1 m_N_forgetWord prog_4_method_12_code 3 none := ⟨Or.inl (cx_in 206 (by decide +kernel) (by decide +kernel)), ⟨cx_in 208 (by decide +kernel) (by decide +kernel), cx_in 1 (by decide +kernel) (by decide +kernel), cx_in 209 (by decide +kernel) (by decide +kernel)⟩, ⟨by decide +kernel, ⟨by decide +kernel, by decide +kernel⟩, by decide +kernel⟩⟩
theorem wl_17 : cx_wV cx_Tb "CycleCutter$Net" r_N "" 74 1 m_N_settleWord prog_4_method_13_code 5 none := ⟨Or.inl (cx_in 214 (by decide +kernel) (by decide +kernel)), ⟨cx_in 216 (by decide +kernel) (by decide +kernel), cx_in 2 (by decide +kernel) (by decide +kernel), cx_in 217 (by decide +kernel) (by decide +kernel)⟩, ⟨by decide +kernel, ⟨by decide +kernel, by decide +kernel⟩, by decide +kernel⟩⟩
theorem c_N_settle {l : Launch} {G : cx_G} (hG : cx_okG G) (hcl : cx_cl G = cx_cls) : cx_M cx_Tb l G m_N_settle prog_4_method_11_code 2 none rm_N_settle sp_N_settle :=
  cx_mk hG (Sp := [(sp_N_forgetWord, 2, 0, 0), (sp_N_settleWord, 2, 0, 0)]) (Ex := []) k_N_settle (fun S => g_N_ok S.1 S.2.1 S.2.2.2.2.2.2 hcl S.2.2.2.2.2.1) (fun S => p_N_ok S.1 S.2.1 S.2.2.2.2.2.2 hcl S.2.2.2.2.2.1) (fun h => l_N_ok h)
    (fun S => List.forall_mem_cons.mpr ⟨fun f na kc ks h => by
      cases (show some (sp_N_forgetWord, 2, 0, 0) = some (f, na, kc, ks) from h)
      exact cx_callV (C := r_N) (T0 := f_N) (N0 := 12) (np := 1) cx_TbAll S.1 S.2.1 S.2.2.1 S.2.2.2.2.2.2 S.2.2.2.1 S.2.2.2.2.1 S.2.2.2.2.2.1 (by rw [hcl]; rfl) (c_N_forgetWord hG hcl) wl_16 (by decide), List.forall_mem_cons.mpr ⟨fun f na kc ks h => by
      cases (show some (sp_N_settleWord, 2, 0, 0) = some (f, na, kc, ks) from h)
      exact cx_callV (C := r_N) (T0 := f_N) (N0 := 12) (np := 1) cx_TbAll S.1 S.2.1 S.2.2.1 S.2.2.2.2.2.2 S.2.2.2.1 S.2.2.2.2.1 S.2.2.2.2.2.1 (by rw [hcl]; rfl) (c_N_settleWord hG hcl) wl_17 (by decide), fun _ h => absurd h List.not_mem_nil⟩⟩)
    (fun S => fun _ h => absurd h List.not_mem_nil) rfl pu_N_settle
abbrev rm_N_highOf : Room := { frames := 3, cells := 0, slots := 0, locals := 78 }
theorem wl_18 : cx_wV cx_Tb "CycleCutter$Net" r_N "" 63 0 m_N_settle prog_4_method_11_code 2 none := ⟨Or.inl (cx_in 202 (by decide +kernel) (by decide +kernel)), ⟨cx_in 204 (by decide +kernel) (by decide +kernel), cx_in 0 (by decide +kernel) (by decide +kernel), cx_in 205 (by decide +kernel) (by decide +kernel)⟩, ⟨by decide +kernel, ⟨by decide +kernel, by decide +kernel⟩, by decide +kernel⟩⟩
theorem c_N_highOf {l : Launch} {G : cx_G} (hG : cx_okG G) (hcl : cx_cl G = cx_cls) : cx_M cx_Tb l G m_N_highOf prog_4_method_8_code 2 (some (.array .long)) rm_N_highOf sp_N_highOf :=
  cx_mk hG (Sp := [(sp_N_settle, 1, 0, 0)]) (Ex := []) k_N_highOf (fun S => g_N_ok S.1 S.2.1 S.2.2.2.2.2.2 hcl S.2.2.2.2.2.1) (fun S => p_N_ok S.1 S.2.1 S.2.2.2.2.2.2 hcl S.2.2.2.2.2.1) (fun h => l_N_ok h)
    (fun S => List.forall_mem_cons.mpr ⟨fun f na kc ks h => by
      cases (show some (sp_N_settle, 1, 0, 0) = some (f, na, kc, ks) from h)
      exact cx_callV (C := r_N) (T0 := f_N) (N0 := 12) (np := 0) cx_TbAll S.1 S.2.1 S.2.2.1 S.2.2.2.2.2.2 S.2.2.2.1 S.2.2.2.2.1 S.2.2.2.2.2.1 (by rw [hcl]; rfl) (c_N_settle hG hcl) wl_18 (by decide), fun _ h => absurd h List.not_mem_nil⟩)
    (fun S => fun _ h => absurd h List.not_mem_nil) rfl pu_N_highOf
abbrev rm_N_lowOf : Room := { frames := 3, cells := 0, slots := 0, locals := 78 }
theorem c_N_lowOf {l : Launch} {G : cx_G} (hG : cx_okG G) (hcl : cx_cl G = cx_cls) : cx_M cx_Tb l G m_N_lowOf prog_4_method_9_code 2 (some (.array .long)) rm_N_lowOf sp_N_lowOf :=
  cx_mk hG (Sp := [(sp_N_settle, 1, 0, 0)]) (Ex := []) k_N_lowOf (fun S => g_N_ok S.1 S.2.1 S.2.2.2.2.2.2 hcl S.2.2.2.2.2.1) (fun S => p_N_ok S.1 S.2.1 S.2.2.2.2.2.2 hcl S.2.2.2.2.2.1) (fun h => l_N_ok h)
    (fun S => List.forall_mem_cons.mpr ⟨fun f na kc ks h => by
      cases (show some (sp_N_settle, 1, 0, 0) = some (f, na, kc, ks) from h)
      exact cx_callV (C := r_N) (T0 := f_N) (N0 := 12) (np := 0) cx_TbAll S.1 S.2.1 S.2.2.1 S.2.2.2.2.2.2 S.2.2.2.1 S.2.2.2.2.1 S.2.2.2.2.2.1 (by rw [hcl]; rfl) (c_N_settle hG hcl) wl_18 (by decide), fun _ h => absurd h List.not_mem_nil⟩)
    (fun S => fun _ h => absurd h List.not_mem_nil) rfl pu_N_lowOf
abbrev rm_N_valueOn : Room := { frames := 3, cells := 0, slots := 0, locals := 78 }
theorem wl_19 : cx_wS cx_Tb "CycleCutter$Net" "CycleCutter" 66 2 m_C_isMember prog_1_method_18_code 2 (some (.boolean)) := ⟨Or.inr (cx_in 500 (by decide +kernel) (by decide +kernel)), ⟨cx_in 236 (by decide +kernel) (by decide +kernel), cx_in 24 (by decide +kernel) (by decide +kernel), cx_in 237 (by decide +kernel) (by decide +kernel)⟩, ⟨by decide +kernel, ⟨by decide +kernel, by decide +kernel⟩, by decide +kernel⟩⟩
theorem c_N_valueOn {l : Launch} {G : cx_G} (hG : cx_okG G) (hcl : cx_cl G = cx_cls) : cx_M cx_Tb l G m_N_valueOn prog_4_method_10_code 3 (some (.int)) rm_N_valueOn sp_N_valueOn :=
  cx_mk hG (Sp := [(sp_N_settle, 1, 0, 0), (sp_C_isMember, 2, 0, 0)]) (Ex := []) k_N_valueOn (fun S => g_N_ok S.1 S.2.1 S.2.2.2.2.2.2 hcl S.2.2.2.2.2.1) (fun S => p_N_ok S.1 S.2.1 S.2.2.2.2.2.2 hcl S.2.2.2.2.2.1) (fun h => l_N_ok h)
    (fun S => List.forall_mem_cons.mpr ⟨fun f na kc ks h => by
      cases (show some (sp_N_settle, 1, 0, 0) = some (f, na, kc, ks) from h)
      exact cx_callV (C := r_N) (T0 := f_N) (N0 := 12) (np := 0) cx_TbAll S.1 S.2.1 S.2.2.1 S.2.2.2.2.2.2 S.2.2.2.1 S.2.2.2.2.1 S.2.2.2.2.2.1 (by rw [hcl]; rfl) (c_N_settle hG hcl) wl_18 (by decide), fun _ h => absurd h List.not_mem_nil⟩)
    (fun S => List.forall_mem_cons.mpr ⟨fun f na kc ks h => by
      cases (show some (sp_C_isMember, 2, 0, 0) = some (f, na, kc, ks) from h)
      exact cx_callS (np := 2) cx_TbAll S.1 S.2.1 S.2.2.1 S.2.2.2.2.2.2 S.2.2.2.1 S.2.2.2.2.1 S.2.2.2.2.2.1 (cx_M2.weak (c_C_isMember hG hcl)) wl_19 (by decide), fun _ h => absurd h List.not_mem_nil⟩) rfl pu_N_valueOn
abbrev rm_C_gate : Room := { frames := 6, cells := 1, slots := 6, locals := 82 }
abbrev v2_C_gate : List (Nat × Nat) := []
abbrev s2_C_gate : List (Nat × Nat) := []
abbrev v1_C_gate : List (Nat × Nat) := [(38, 0)]
abbrev s1_C_gate : List (Nat × Nat) := []
theorem k2_C_gate : (t_C_gate.take 9).all (cx_dec false prog_1_method_2_code (some (.int)) 2 g_C p_C l_C v2_C_gate s2_C_gate h_C_gate w_C_gate) = true := by decide +kernel
theorem k1_C_gate : (t_C_gate.drop 9).all (cx_dec true prog_1_method_2_code (some (.int)) 2 g_C p_C l_C v1_C_gate s1_C_gate [] w_C_gate) = true := by decide +kernel
theorem th_0 : ∀ a ∈ Jvm.Bundle.ownAtoms "CycleCutter" 35 "java/lang/IllegalArgumentException" ["java/lang/RuntimeException", "java/lang/Exception"], a ∈ cx_Tb ∨ a = .isRef (.static "java/lang/Throwable" "UNASSIGNED_STACK" "[Ljava/lang/StackTraceElement;") ∨ a = .isRef (.static "java/lang/Throwable" "SUPPRESSED_SENTINEL" "Ljava/util/List;") ∨ a = .laysStatic "java/lang/Throwable" "UNASSIGNED_STACK" "[Ljava/lang/StackTraceElement;" ∨ a = .laysStatic "java/lang/Throwable" "SUPPRESSED_SENTINEL" "Ljava/util/List;" := cx_ats (ix := [30, 292, 301, 305, 308, 310, 293, 294, 44, 45, 295, 300, 306, 326, 282, 327, 284, 328, 286, 296, 0, 298, 0, 288, 322, 323, 325, 288, 313, 314, 315, 316, 274, 316, 317, 318, 319, 276, 319, 320, 321, 322, 278, 312, 271, 272, 279, 280, 281, 283, 285, 287, 0, 0, 291, 290, 289]) (by decide +kernel)
theorem wl_20 : cx_wV cx_Tb "CycleCutter" r_N "" 38 1 m_N_addGate prog_4_method_5_code 3 (some (.int)) := ⟨Or.inl (cx_in 337 (by decide +kernel) (by decide +kernel)), ⟨cx_in 338 (by decide +kernel) (by decide +kernel), cx_in 339 (by decide +kernel) (by decide +kernel), cx_in 340 (by decide +kernel) (by decide +kernel)⟩, ⟨by decide +kernel, ⟨by decide +kernel, by decide +kernel⟩, by decide +kernel⟩⟩
theorem c_C_gate {l : Launch} {G : cx_G} (hG : cx_okG G) (hcl : cx_cl G = cx_cls) (hl : cx_nt l) : cx_M cx_Tb l G m_C_gate prog_1_method_2_code 2 (some (.int)) rm_C_gate sp_C_gate :=
  cx_mk3 hG (Sp := [(sp_N_addGate, 2, 0, 0)]) (Ex := x_C_gate) k2_C_gate k1_C_gate (fun S => g_C_ok S.1 S.2.1 S.2.2.2.2.2.2 hcl S.2.2.2.2.2.1) (fun S => p_C_ok S.1 S.2.1 S.2.2.2.2.2.2 hcl S.2.2.2.2.2.1) (fun h => l_C_ok h)
    (fun S => fun _ h => absurd h List.not_mem_nil)
    (fun S => fun _ h => absurd h List.not_mem_nil)
    (fun S => List.forall_mem_cons.mpr ⟨fun x h => by
      cases (show some "java/lang/IllegalArgumentException" = some x from h)
      exact cx_throw (z := 31) (ix := 33) (tx := "sort is not 0, 2 or 3") hl S.1 S.2.1 S.2.2.1 S.2.2.2.2.2.2 S.2.2.2.1 S.2.2.2.2.1 S.2.2.2.2.2.1 ⟨by decide +kernel, by decide +kernel, by decide +kernel, by decide +kernel, by decide +kernel⟩ ⟨cx_in 269 (by decide +kernel) (by decide +kernel), cx_in 270 (by decide +kernel) (by decide +kernel), cx_in 32 (by decide +kernel) (by decide +kernel), cx_in 310 (by decide +kernel) (by decide +kernel)⟩ th_0 (by decide +kernel) (by decide +kernel) (by decide), fun _ h => absurd h List.not_mem_nil⟩)
    (fun S => List.forall_mem_cons.mpr ⟨fun f na kc ks h => by
      cases (show some (sp_N_addGate, 2, 0, 0) = some (f, na, kc, ks) from h)
      exact cx_callV (C := r_N) (T0 := f_N) (N0 := 12) (np := 1) cx_TbAll S.1 S.2.1 S.2.2.1 S.2.2.2.2.2.2 S.2.2.2.1 S.2.2.2.2.1 S.2.2.2.2.2.1 (by rw [hcl]; rfl) (c_N_addGate hG hcl) wl_20 (by decide), fun _ h => absurd h List.not_mem_nil⟩)
    (fun S => fun _ h => absurd h List.not_mem_nil) pu_C_gate
abbrev rm_C_feed : Room := { frames := 6, cells := 1, slots := 6, locals := 82 }
abbrev v2_C_feed : List (Nat × Nat) := [(42, 0), (51, 1)]
abbrev s2_C_feed : List (Nat × Nat) := []
abbrev v1_C_feed : List (Nat × Nat) := [(59, 2)]
abbrev s1_C_feed : List (Nat × Nat) := []
theorem k2_C_feed : (t_C_feed.take 17).all (cx_dec false prog_1_method_3_code (some (.int)) 4 g_C p_C l_C v2_C_feed s2_C_feed h_C_feed w_C_feed) = true := by decide +kernel
theorem k1_C_feed : (t_C_feed.drop 17).all (cx_dec true prog_1_method_3_code (some (.int)) 4 g_C p_C l_C v1_C_feed s1_C_feed [] w_C_feed) = true := by decide +kernel
theorem wl_21 : cx_wV cx_Tb "CycleCutter" r_N "" 42 1 m_N_hasGate prog_4_method_3_code 2 (some (.boolean)) := ⟨Or.inl (cx_in 357 (by decide +kernel) (by decide +kernel)), ⟨cx_in 358 (by decide +kernel) (by decide +kernel), cx_in 359 (by decide +kernel) (by decide +kernel), cx_in 360 (by decide +kernel) (by decide +kernel)⟩, ⟨by decide +kernel, ⟨by decide +kernel, by decide +kernel⟩, by decide +kernel⟩⟩
theorem wl_22 : cx_wV cx_Tb "CycleCutter" r_N "" 51 1 m_N_isInput prog_4_method_4_code 2 (some (.boolean)) := ⟨Or.inl (cx_in 377 (by decide +kernel) (by decide +kernel)), ⟨cx_in 211 (by decide +kernel) (by decide +kernel), cx_in 212 (by decide +kernel) (by decide +kernel), cx_in 213 (by decide +kernel) (by decide +kernel)⟩, ⟨by decide +kernel, ⟨by decide +kernel, by decide +kernel⟩, by decide +kernel⟩⟩
theorem th_1 : ∀ a ∈ Jvm.Bundle.ownAtoms "CycleCutter" 50 "java/lang/IndexOutOfBoundsException" ["java/lang/RuntimeException", "java/lang/Exception"], a ∈ cx_Tb ∨ a = .isRef (.static "java/lang/Throwable" "UNASSIGNED_STACK" "[Ljava/lang/StackTraceElement;") ∨ a = .isRef (.static "java/lang/Throwable" "SUPPRESSED_SENTINEL" "Ljava/util/List;") ∨ a = .laysStatic "java/lang/Throwable" "UNASSIGNED_STACK" "[Ljava/lang/StackTraceElement;" ∨ a = .laysStatic "java/lang/Throwable" "SUPPRESSED_SENTINEL" "Ljava/util/List;" := cx_ats (ix := [30, 292, 301, 305, 308, 310, 293, 294, 44, 45, 295, 300, 306, 326, 282, 327, 284, 328, 286, 296, 0, 298, 0, 288, 322, 323, 325, 288, 373, 374, 375, 316, 274, 316, 317, 318, 319, 276, 319, 320, 321, 322, 278, 372, 363, 364, 365, 304, 366, 367, 368, 369, 0, 0, 291, 290, 370]) (by decide +kernel)
theorem th_2 : ∀ a ∈ Jvm.Bundle.ownAtoms "CycleCutter" 58 "java/lang/IllegalStateException" ["java/lang/RuntimeException", "java/lang/Exception"], a ∈ cx_Tb ∨ a = .isRef (.static "java/lang/Throwable" "UNASSIGNED_STACK" "[Ljava/lang/StackTraceElement;") ∨ a = .isRef (.static "java/lang/Throwable" "SUPPRESSED_SENTINEL" "Ljava/util/List;") ∨ a = .laysStatic "java/lang/Throwable" "UNASSIGNED_STACK" "[Ljava/lang/StackTraceElement;" ∨ a = .laysStatic "java/lang/Throwable" "SUPPRESSED_SENTINEL" "Ljava/util/List;" := cx_ats (ix := [30, 292, 301, 305, 308, 310, 293, 294, 44, 45, 295, 300, 306, 326, 282, 327, 284, 328, 286, 296, 0, 298, 0, 288, 322, 323, 325, 288, 390, 391, 392, 316, 274, 316, 317, 318, 319, 276, 319, 320, 321, 322, 278, 389, 380, 381, 382, 303, 383, 384, 385, 386, 0, 0, 291, 290, 387]) (by decide +kernel)
theorem wl_23 : cx_wV cx_Tb "CycleCutter" r_N "" 59 3 m_N_addFeed prog_4_method_7_code 5 (some (.int)) := ⟨Or.inl (cx_in 394 (by decide +kernel) (by decide +kernel)), ⟨cx_in 395 (by decide +kernel) (by decide +kernel), cx_in 396 (by decide +kernel) (by decide +kernel), cx_in 397 (by decide +kernel) (by decide +kernel)⟩, ⟨by decide +kernel, ⟨by decide +kernel, by decide +kernel⟩, by decide +kernel⟩⟩
theorem c_C_feed {l : Launch} {G : cx_G} (hG : cx_okG G) (hcl : cx_cl G = cx_cls) (hl : cx_nt l) : cx_M cx_Tb l G m_C_feed prog_1_method_3_code 4 (some (.int)) rm_C_feed sp_C_feed :=
  cx_mk3 hG (Sp := [(sp_N_hasGate, 2, 0, 0), (sp_N_isInput, 2, 0, 0), (sp_N_addFeed, 4, 0, 0)]) (Ex := x_C_feed) k2_C_feed k1_C_feed (fun S => g_C_ok S.1 S.2.1 S.2.2.2.2.2.2 hcl S.2.2.2.2.2.1) (fun S => p_C_ok S.1 S.2.1 S.2.2.2.2.2.2 hcl S.2.2.2.2.2.1) (fun h => l_C_ok h)
    (fun S => List.forall_mem_cons.mpr ⟨fun f na kc ks h => by
      cases (show some (sp_N_hasGate, 2, 0, 0) = some (f, na, kc, ks) from h)
      exact cx_callV3 (C := r_N) (T0 := f_N) (N0 := 12) (np := 1) cx_TbAll S.1 S.2.1 S.2.2.1 S.2.2.2.2.2.2 S.2.2.2.1 S.2.2.2.2.1 S.2.2.2.2.2.1 (by rw [hcl]; rfl) (c_N_hasGate hG hcl) wl_21 (by decide), List.forall_mem_cons.mpr ⟨fun f na kc ks h => by
      cases (show some (sp_N_isInput, 2, 0, 0) = some (f, na, kc, ks) from h)
      exact cx_callV3 (C := r_N) (T0 := f_N) (N0 := 12) (np := 1) cx_TbAll S.1 S.2.1 S.2.2.1 S.2.2.2.2.2.2 S.2.2.2.1 S.2.2.2.2.1 S.2.2.2.2.2.1 (by rw [hcl]; rfl) (c_N_isInput hG hcl) wl_22 (by decide), fun _ h => absurd h List.not_mem_nil⟩⟩)
    (fun S => fun _ h => absurd h List.not_mem_nil)
    (fun S => List.forall_mem_cons.mpr ⟨fun x h => by
      cases (show some "java/lang/IndexOutOfBoundsException" = some x from h)
      exact cx_throw (z := 46) (ix := 48) (tx := "no such gate") hl S.1 S.2.1 S.2.2.1 S.2.2.2.2.2.2 S.2.2.2.1 S.2.2.2.2.1 S.2.2.2.2.2.1 ⟨by decide +kernel, by decide +kernel, by decide +kernel, by decide +kernel, by decide +kernel⟩ ⟨cx_in 361 (by decide +kernel) (by decide +kernel), cx_in 362 (by decide +kernel) (by decide +kernel), cx_in 33 (by decide +kernel) (by decide +kernel), cx_in 370 (by decide +kernel) (by decide +kernel)⟩ th_1 (by decide +kernel) (by decide +kernel) (by decide), List.forall_mem_cons.mpr ⟨fun x h => by
      cases (show some "java/lang/IllegalStateException" = some x from h)
      exact cx_throw (z := 54) (ix := 56) (tx := "an input takes no feeds") hl S.1 S.2.1 S.2.2.1 S.2.2.2.2.2.2 S.2.2.2.1 S.2.2.2.2.1 S.2.2.2.2.2.1 ⟨by decide +kernel, by decide +kernel, by decide +kernel, by decide +kernel, by decide +kernel⟩ ⟨cx_in 378 (by decide +kernel) (by decide +kernel), cx_in 379 (by decide +kernel) (by decide +kernel), cx_in 34 (by decide +kernel) (by decide +kernel), cx_in 387 (by decide +kernel) (by decide +kernel)⟩ th_2 (by decide +kernel) (by decide +kernel) (by decide), fun _ h => absurd h List.not_mem_nil⟩⟩)
    (fun S => List.forall_mem_cons.mpr ⟨fun f na kc ks h => by
      cases (show some (sp_N_addFeed, 4, 0, 0) = some (f, na, kc, ks) from h)
      exact cx_callV (C := r_N) (T0 := f_N) (N0 := 12) (np := 3) cx_TbAll S.1 S.2.1 S.2.2.1 S.2.2.2.2.2.2 S.2.2.2.1 S.2.2.2.2.1 S.2.2.2.2.2.1 (by rw [hcl]; rfl) (c_N_addFeed hG hcl) wl_23 (by decide), fun _ h => absurd h List.not_mem_nil⟩)
    (fun S => fun _ h => absurd h List.not_mem_nil) pu_C_feed
abbrev rm_C_output : Room := { frames := 6, cells := 1, slots := 6, locals := 82 }
abbrev v2_C_output : List (Nat × Nat) := [(42, 0)]
abbrev s2_C_output : List (Nat × Nat) := []
abbrev v1_C_output : List (Nat × Nat) := []
abbrev s1_C_output : List (Nat × Nat) := []
theorem k2_C_output : (t_C_output.take 6).all (cx_dec false prog_1_method_4_code (some (.int)) 3 g_C p_C l_C v2_C_output s2_C_output h_C_output w_C_output) = true := by decide +kernel
theorem k1_C_output : (t_C_output.drop 6).all (cx_dec true prog_1_method_4_code (some (.int)) 3 g_C p_C l_C v1_C_output s1_C_output [] w_C_output) = true := by decide +kernel
theorem c_C_output {l : Launch} {G : cx_G} (hG : cx_okG G) (hcl : cx_cl G = cx_cls) (hl : cx_nt l) : cx_M cx_Tb l G m_C_output prog_1_method_4_code 3 (some (.int)) rm_C_output sp_C_output :=
  cx_mk3 hG (Sp := [(sp_N_hasGate, 2, 0, 0)]) (Ex := x_C_output) k2_C_output k1_C_output (fun S => g_C_ok S.1 S.2.1 S.2.2.2.2.2.2 hcl S.2.2.2.2.2.1) (fun S => p_C_ok S.1 S.2.1 S.2.2.2.2.2.2 hcl S.2.2.2.2.2.1) (fun h => l_C_ok h)
    (fun S => List.forall_mem_cons.mpr ⟨fun f na kc ks h => by
      cases (show some (sp_N_hasGate, 2, 0, 0) = some (f, na, kc, ks) from h)
      exact cx_callV3 (C := r_N) (T0 := f_N) (N0 := 12) (np := 1) cx_TbAll S.1 S.2.1 S.2.2.1 S.2.2.2.2.2.2 S.2.2.2.1 S.2.2.2.2.1 S.2.2.2.2.2.1 (by rw [hcl]; rfl) (c_N_hasGate hG hcl) wl_21 (by decide), fun _ h => absurd h List.not_mem_nil⟩)
    (fun S => fun _ h => absurd h List.not_mem_nil)
    (fun S => List.forall_mem_cons.mpr ⟨fun x h => by
      cases (show some "java/lang/IndexOutOfBoundsException" = some x from h)
      exact cx_throw (z := 46) (ix := 48) (tx := "no such gate") hl S.1 S.2.1 S.2.2.1 S.2.2.2.2.2.2 S.2.2.2.1 S.2.2.2.2.1 S.2.2.2.2.2.1 ⟨by decide +kernel, by decide +kernel, by decide +kernel, by decide +kernel, by decide +kernel⟩ ⟨cx_in 361 (by decide +kernel) (by decide +kernel), cx_in 362 (by decide +kernel) (by decide +kernel), cx_in 33 (by decide +kernel) (by decide +kernel), cx_in 370 (by decide +kernel) (by decide +kernel)⟩ th_1 (by decide +kernel) (by decide +kernel) (by decide), fun _ h => absurd h List.not_mem_nil⟩)
    (fun S => fun _ h => absurd h List.not_mem_nil)
    (fun S => fun _ h => absurd h List.not_mem_nil) pu_C_output
abbrev rm_C_clear : Room := { frames := 2, cells := 0, slots := 0, locals := 41 }
theorem wl_24 : cx_wV cx_Tb "CycleCutter" r_N "" 66 0 m_N_dropAll prog_4_method_2_code 1 none := ⟨Or.inl (cx_in 182 (by decide +kernel) (by decide +kernel)), ⟨cx_in 183 (by decide +kernel) (by decide +kernel), cx_in 184 (by decide +kernel) (by decide +kernel), cx_in 185 (by decide +kernel) (by decide +kernel)⟩, ⟨by decide +kernel, ⟨by decide +kernel, by decide +kernel⟩, by decide +kernel⟩⟩
theorem wl_25 : cx_wV cx_Tb "CycleCutter" r_L "" 69 0 m_L_dropAll prog_2_method_2_code 1 none := ⟨Or.inl (cx_in 186 (by decide +kernel) (by decide +kernel)), ⟨cx_in 187 (by decide +kernel) (by decide +kernel), cx_in 188 (by decide +kernel) (by decide +kernel), cx_in 189 (by decide +kernel) (by decide +kernel)⟩, ⟨by decide +kernel, ⟨by decide +kernel, by decide +kernel⟩, by decide +kernel⟩⟩
theorem c_C_clear {l : Launch} {G : cx_G} (hG : cx_okG G) (hcl : cx_cl G = cx_cls) : cx_M cx_Tb l G m_C_clear prog_1_method_5_code 2 (some (.int)) rm_C_clear sp_C_clear :=
  cx_mk hG (Sp := [(sp_N_dropAll, 1, 0, 0), (sp_L_dropAll, 1, 0, 0)]) (Ex := []) k_C_clear (fun S => g_C_ok S.1 S.2.1 S.2.2.2.2.2.2 hcl S.2.2.2.2.2.1) (fun S => p_C_ok S.1 S.2.1 S.2.2.2.2.2.2 hcl S.2.2.2.2.2.1) (fun h => l_C_ok h)
    (fun S => List.forall_mem_cons.mpr ⟨fun f na kc ks h => by
      cases (show some (sp_N_dropAll, 1, 0, 0) = some (f, na, kc, ks) from h)
      exact cx_callV (C := r_N) (T0 := f_N) (N0 := 12) (np := 0) cx_TbAll S.1 S.2.1 S.2.2.1 S.2.2.2.2.2.2 S.2.2.2.1 S.2.2.2.2.1 S.2.2.2.2.2.1 (by rw [hcl]; rfl) (c_N_dropAll hG hcl) wl_24 (by decide), List.forall_mem_cons.mpr ⟨fun f na kc ks h => by
      cases (show some (sp_L_dropAll, 1, 0, 0) = some (f, na, kc, ks) from h)
      exact cx_callV (C := r_L) (T0 := f_L) (N0 := 5) (np := 0) cx_TbAll S.1 S.2.1 S.2.2.1 S.2.2.2.2.2.2 S.2.2.2.1 S.2.2.2.2.1 S.2.2.2.2.2.1 (by rw [hcl]; rfl) (c_L_dropAll hG hcl) wl_25 (by decide), fun _ h => absurd h List.not_mem_nil⟩⟩)
    (fun S => fun _ h => absurd h List.not_mem_nil) rfl pu_C_clear
abbrev rm_C_lay : Room := { frames := 5, cells := 0, slots := 0, locals := 117 }
theorem wl_26 : cx_wV cx_Tb "CycleCutter" r_N "" 70 1 m_N_highOf prog_4_method_8_code 2 (some (.array .long)) := ⟨Or.inl (cx_in 198 (by decide +kernel) (by decide +kernel)), ⟨cx_in 199 (by decide +kernel) (by decide +kernel), cx_in 200 (by decide +kernel) (by decide +kernel), cx_in 201 (by decide +kernel) (by decide +kernel)⟩, ⟨by decide +kernel, ⟨by decide +kernel, by decide +kernel⟩, by decide +kernel⟩⟩
theorem wl_27 : cx_wV cx_Tb "CycleCutter" r_N "" 74 1 m_N_lowOf prog_4_method_9_code 2 (some (.array .long)) := ⟨Or.inl (cx_in 223 (by decide +kernel) (by decide +kernel)), ⟨cx_in 224 (by decide +kernel) (by decide +kernel), cx_in 225 (by decide +kernel) (by decide +kernel), cx_in 226 (by decide +kernel) (by decide +kernel)⟩, ⟨by decide +kernel, ⟨by decide +kernel, by decide +kernel⟩, by decide +kernel⟩⟩
theorem wl_28 : cx_wV cx_Tb "CycleCutter" r_L "" 77 2 m_L_addOutput prog_2_method_3_code 4 none := ⟨Or.inl (cx_in 227 (by decide +kernel) (by decide +kernel)), ⟨cx_in 228 (by decide +kernel) (by decide +kernel), cx_in 229 (by decide +kernel) (by decide +kernel), cx_in 230 (by decide +kernel) (by decide +kernel)⟩, ⟨by decide +kernel, ⟨by decide +kernel, by decide +kernel⟩, by decide +kernel⟩⟩
theorem wl_29 : cx_wV cx_Tb "CycleCutter" r_M "" 85 0 m_M_total prog_3_method_3_code 1 (some (.int)) := ⟨Or.inl (cx_in 249 (by decide +kernel) (by decide +kernel)), ⟨cx_in 250 (by decide +kernel) (by decide +kernel), cx_in 251 (by decide +kernel) (by decide +kernel), cx_in 252 (by decide +kernel) (by decide +kernel)⟩, ⟨by decide +kernel, ⟨by decide +kernel, by decide +kernel⟩, by decide +kernel⟩⟩
theorem c_C_lay {l : Launch} {G : cx_G} (hG : cx_okG G) (hcl : cx_cl G = cx_cls) : cx_M cx_Tb l G m_C_lay prog_1_method_6_code 3 (some (.int)) rm_C_lay sp_C_lay :=
  cx_mk hG (Sp := [(sp_L_dropAll, 1, 0, 0), (sp_N_highOf, 2, 0, 0), (sp_N_lowOf, 2, 0, 0), (sp_L_addOutput, 3, 0, 0), (sp_M_total, 1, 0, 0)]) (Ex := []) k_C_lay (fun S => g_C_ok S.1 S.2.1 S.2.2.2.2.2.2 hcl S.2.2.2.2.2.1) (fun S => p_C_ok S.1 S.2.1 S.2.2.2.2.2.2 hcl S.2.2.2.2.2.1) (fun h => l_C_ok h)
    (fun S => List.forall_mem_cons.mpr ⟨fun f na kc ks h => by
      cases (show some (sp_L_dropAll, 1, 0, 0) = some (f, na, kc, ks) from h)
      exact cx_callV (C := r_L) (T0 := f_L) (N0 := 5) (np := 0) cx_TbAll S.1 S.2.1 S.2.2.1 S.2.2.2.2.2.2 S.2.2.2.1 S.2.2.2.2.1 S.2.2.2.2.2.1 (by rw [hcl]; rfl) (c_L_dropAll hG hcl) wl_25 (by decide), List.forall_mem_cons.mpr ⟨fun f na kc ks h => by
      cases (show some (sp_N_highOf, 2, 0, 0) = some (f, na, kc, ks) from h)
      exact cx_callV (C := r_N) (T0 := f_N) (N0 := 12) (np := 1) cx_TbAll S.1 S.2.1 S.2.2.1 S.2.2.2.2.2.2 S.2.2.2.1 S.2.2.2.2.1 S.2.2.2.2.2.1 (by rw [hcl]; rfl) (c_N_highOf hG hcl) wl_26 (by decide), List.forall_mem_cons.mpr ⟨fun f na kc ks h => by
      cases (show some (sp_N_lowOf, 2, 0, 0) = some (f, na, kc, ks) from h)
      exact cx_callV (C := r_N) (T0 := f_N) (N0 := 12) (np := 1) cx_TbAll S.1 S.2.1 S.2.2.1 S.2.2.2.2.2.2 S.2.2.2.1 S.2.2.2.2.1 S.2.2.2.2.2.1 (by rw [hcl]; rfl) (c_N_lowOf hG hcl) wl_27 (by decide), List.forall_mem_cons.mpr ⟨fun f na kc ks h => by
      cases (show some (sp_L_addOutput, 3, 0, 0) = some (f, na, kc, ks) from h)
      exact cx_callV (C := r_L) (T0 := f_L) (N0 := 5) (np := 2) cx_TbAll S.1 S.2.1 S.2.2.1 S.2.2.2.2.2.2 S.2.2.2.1 S.2.2.2.2.1 S.2.2.2.2.2.1 (by rw [hcl]; rfl) (c_L_addOutput hG hcl) wl_28 (by decide), List.forall_mem_cons.mpr ⟨fun f na kc ks h => by
      cases (show some (sp_M_total, 1, 0, 0) = some (f, na, kc, ks) from h)
      exact cx_callV (C := r_M) (T0 := f_M) (N0 := 11) (np := 0) cx_TbAll S.1 S.2.1 S.2.2.1 S.2.2.2.2.2.2 S.2.2.2.1 S.2.2.2.2.1 S.2.2.2.2.2.1 (by rw [hcl]; rfl) (c_M_total hG hcl) wl_29 (by decide), fun _ h => absurd h List.not_mem_nil⟩⟩⟩⟩⟩)
    (fun S => fun _ h => absurd h List.not_mem_nil) rfl pu_C_lay
abbrev rm_C_requireLaidOut : Room := { frames := 6, cells := 1, slots := 6, locals := 82 }
theorem k2_C_requireLaidOut : t_C_requireLaidOut.all (cx_dec false prog_1_method_15_code none 2 g_C p_C l_C v_C_requireLaidOut s_C_requireLaidOut h_C_requireLaidOut w_C_requireLaidOut) = true := by decide +kernel
theorem c_C_requireLaidOut {l : Launch} {G : cx_G} (hG : cx_okG G) (hcl : cx_cl G = cx_cls) (hl : cx_nt l) : cx_M2 cx_Tb l G m_C_requireLaidOut prog_1_method_15_code 2 none rm_C_requireLaidOut sp_C_requireLaidOut :=
  cx_mk2 hG (Sp := []) (Ex := x_C_requireLaidOut) k2_C_requireLaidOut (fun S => g_C_ok S.1 S.2.1 S.2.2.2.2.2.2 hcl S.2.2.2.2.2.1) (fun S => p_C_ok S.1 S.2.1 S.2.2.2.2.2.2 hcl S.2.2.2.2.2.1) (fun h => l_C_ok h)
    (fun S => fun _ h => absurd h List.not_mem_nil)
    (fun S => fun _ h => absurd h List.not_mem_nil)
    (fun S => List.forall_mem_cons.mpr ⟨fun x h => by
      cases (show some "java/lang/IndexOutOfBoundsException" = some x from h)
      exact cx_throw (z := 46) (ix := 134) (tx := "no such output is laid out") hl S.1 S.2.1 S.2.2.1 S.2.2.2.2.2.2 S.2.2.2.1 S.2.2.2.2.1 S.2.2.2.2.2.1 ⟨by decide +kernel, by decide +kernel, by decide +kernel, by decide +kernel, by decide +kernel⟩ ⟨cx_in 361 (by decide +kernel) (by decide +kernel), cx_in 362 (by decide +kernel) (by decide +kernel), cx_in 33 (by decide +kernel) (by decide +kernel), cx_in 416 (by decide +kernel) (by decide +kernel)⟩ th_1 (by decide +kernel) (by decide +kernel) (by decide), fun _ h => absurd h List.not_mem_nil⟩) pu_C_requireLaidOut
abbrev rm_C_requireChoice : Room := { frames := 6, cells := 1, slots := 6, locals := 82 }
theorem k2_C_requireChoice : t_C_requireChoice.all (cx_dec false prog_1_method_16_code none 1 g_C p_C l_C v_C_requireChoice s_C_requireChoice h_C_requireChoice w_C_requireChoice) = true := by decide +kernel
theorem c_C_requireChoice {l : Launch} {G : cx_G} (hG : cx_okG G) (hcl : cx_cl G = cx_cls) (hl : cx_nt l) : cx_M2 cx_Tb l G m_C_requireChoice prog_1_method_16_code 1 none rm_C_requireChoice sp_C_requireChoice :=
  cx_mk2 hG (Sp := []) (Ex := x_C_requireChoice) k2_C_requireChoice (fun S => g_C_ok S.1 S.2.1 S.2.2.2.2.2.2 hcl S.2.2.2.2.2.1) (fun S => p_C_ok S.1 S.2.1 S.2.2.2.2.2.2 hcl S.2.2.2.2.2.1) (fun h => l_C_ok h)
    (fun S => fun _ h => absurd h List.not_mem_nil)
    (fun S => fun _ h => absurd h List.not_mem_nil)
    (fun S => List.forall_mem_cons.mpr ⟨fun x h => by
      cases (show some "java/lang/IndexOutOfBoundsException" = some x from h)
      exact cx_throw (z := 46) (ix := 136) (tx := "choice is not 0 .. 255") hl S.1 S.2.1 S.2.2.1 S.2.2.2.2.2.2 S.2.2.2.1 S.2.2.2.2.1 S.2.2.2.2.2.1 ⟨by decide +kernel, by decide +kernel, by decide +kernel, by decide +kernel, by decide +kernel⟩ ⟨cx_in 361 (by decide +kernel) (by decide +kernel), cx_in 362 (by decide +kernel) (by decide +kernel), cx_in 33 (by decide +kernel) (by decide +kernel), cx_in 420 (by decide +kernel) (by decide +kernel)⟩ th_1 (by decide +kernel) (by decide +kernel) (by decide), fun _ h => absurd h List.not_mem_nil⟩) pu_C_requireChoice
abbrev rm_C_run : Room := { frames := 7, cells := 2, slots := 12, locals := 103 }
theorem k2_C_run : t_C_run.all (cx_dec false prog_1_method_7_code (some (.int)) 3 g_C p_C l_C v_C_run s_C_run h_C_run w_C_run) = true := by decide +kernel
theorem wl_30 : cx_wV cx_Tb "CycleCutter" r_C "" 91 1 m_C_requireLaidOut prog_1_method_15_code 2 none := ⟨Or.inl (cx_in 412 (by decide +kernel) (by decide +kernel)), ⟨cx_in 414 (by decide +kernel) (by decide +kernel), cx_in 8 (by decide +kernel) (by decide +kernel), cx_in 415 (by decide +kernel) (by decide +kernel)⟩, ⟨by decide +kernel, ⟨by decide +kernel, by decide +kernel⟩, by decide +kernel⟩⟩
theorem wl_31 : cx_wV cx_Tb "CycleCutter" r_L "" 98 2 m_L_valueOn prog_2_method_4_code 3 (some (.int)) := ⟨Or.inl (cx_in 421 (by decide +kernel) (by decide +kernel)), ⟨cx_in 422 (by decide +kernel) (by decide +kernel), cx_in 423 (by decide +kernel) (by decide +kernel), cx_in 424 (by decide +kernel) (by decide +kernel)⟩, ⟨by decide +kernel, ⟨by decide +kernel, by decide +kernel⟩, by decide +kernel⟩⟩
theorem wl_32 : cx_wS cx_Tb "CycleCutter" "" 95 1 m_C_requireChoice prog_1_method_16_code 1 none := ⟨Or.inl (cx_in 417 (by decide +kernel) (by decide +kernel)), ⟨cx_in 418 (by decide +kernel) (by decide +kernel), cx_in 24 (by decide +kernel) (by decide +kernel), cx_in 419 (by decide +kernel) (by decide +kernel)⟩, ⟨by decide +kernel, ⟨by decide +kernel, by decide +kernel⟩, by decide +kernel⟩⟩
theorem c_C_run {l : Launch} {G : cx_G} (hG : cx_okG G) (hcl : cx_cl G = cx_cls) (hl : cx_nt l) : cx_M2 cx_Tb l G m_C_run prog_1_method_7_code 3 (some (.int)) rm_C_run sp_C_run :=
  cx_mk2 hG (Sp := [(sp_C_requireLaidOut, 2, 1, 6), (sp_C_requireChoice, 1, 1, 6), (sp_L_valueOn, 3, 0, 0)]) (Ex := []) k2_C_run (fun S => g_C_ok S.1 S.2.1 S.2.2.2.2.2.2 hcl S.2.2.2.2.2.1) (fun S => p_C_ok S.1 S.2.1 S.2.2.2.2.2.2 hcl S.2.2.2.2.2.1) (fun h => l_C_ok h)
    (fun S => List.forall_mem_cons.mpr ⟨fun f na kc ks h => by
      cases (show some (sp_C_requireLaidOut, 2, 1, 6) = some (f, na, kc, ks) from h)
      exact cx_callV2 (C := r_C) (T0 := f_C) (N0 := 4) (np := 1) cx_TbAll S.1 S.2.1 S.2.2.1 S.2.2.2.2.2.2 S.2.2.2.1 S.2.2.2.2.1 S.2.2.2.2.2.1 (by rw [hcl]; rfl) (c_C_requireLaidOut hG hcl hl) wl_30 (by decide), List.forall_mem_cons.mpr ⟨fun f na kc ks h => by
      cases (show some (sp_L_valueOn, 3, 0, 0) = some (f, na, kc, ks) from h)
      exact cx_callV2 (C := r_L) (T0 := f_L) (N0 := 5) (np := 2) cx_TbAll S.1 S.2.1 S.2.2.1 S.2.2.2.2.2.2 S.2.2.2.1 S.2.2.2.2.1 S.2.2.2.2.2.1 (by rw [hcl]; rfl) (c_L_valueOn hG hcl) wl_31 (by decide), fun _ h => absurd h List.not_mem_nil⟩⟩)
    (fun S => List.forall_mem_cons.mpr ⟨fun f na kc ks h => by
      cases (show some (sp_C_requireChoice, 1, 1, 6) = some (f, na, kc, ks) from h)
      exact cx_callS2 (np := 1) cx_TbAll S.1 S.2.1 S.2.2.1 S.2.2.2.2.2.2 S.2.2.2.1 S.2.2.2.2.1 S.2.2.2.2.2.1 (c_C_requireChoice hG hcl hl) wl_32 (by decide), fun _ h => absurd h List.not_mem_nil⟩)
    (fun S => fun _ h => absurd h List.not_mem_nil) pu_C_run
abbrev rm_C_way : Room := { frames := 7, cells := 2, slots := 12, locals := 103 }
theorem k2_C_way : t_C_way.all (cx_dec false prog_1_method_8_code (some (.int)) 3 g_C p_C l_C v_C_way s_C_way h_C_way w_C_way) = true := by decide +kernel
theorem wl_33 : cx_wV cx_Tb "CycleCutter" r_L "" 102 2 m_L_stepsOn prog_2_method_5_code 3 (some (.int)) := ⟨Or.inl (cx_in 441 (by decide +kernel) (by decide +kernel)), ⟨cx_in 442 (by decide +kernel) (by decide +kernel), cx_in 443 (by decide +kernel) (by decide +kernel), cx_in 444 (by decide +kernel) (by decide +kernel)⟩, ⟨by decide +kernel, ⟨by decide +kernel, by decide +kernel⟩, by decide +kernel⟩⟩
theorem c_C_way {l : Launch} {G : cx_G} (hG : cx_okG G) (hcl : cx_cl G = cx_cls) (hl : cx_nt l) : cx_M2 cx_Tb l G m_C_way prog_1_method_8_code 3 (some (.int)) rm_C_way sp_C_way :=
  cx_mk2 hG (Sp := [(sp_C_requireLaidOut, 2, 1, 6), (sp_C_requireChoice, 1, 1, 6), (sp_L_stepsOn, 3, 0, 0)]) (Ex := []) k2_C_way (fun S => g_C_ok S.1 S.2.1 S.2.2.2.2.2.2 hcl S.2.2.2.2.2.1) (fun S => p_C_ok S.1 S.2.1 S.2.2.2.2.2.2 hcl S.2.2.2.2.2.1) (fun h => l_C_ok h)
    (fun S => List.forall_mem_cons.mpr ⟨fun f na kc ks h => by
      cases (show some (sp_C_requireLaidOut, 2, 1, 6) = some (f, na, kc, ks) from h)
      exact cx_callV2 (C := r_C) (T0 := f_C) (N0 := 4) (np := 1) cx_TbAll S.1 S.2.1 S.2.2.1 S.2.2.2.2.2.2 S.2.2.2.1 S.2.2.2.2.1 S.2.2.2.2.2.1 (by rw [hcl]; rfl) (c_C_requireLaidOut hG hcl hl) wl_30 (by decide), List.forall_mem_cons.mpr ⟨fun f na kc ks h => by
      cases (show some (sp_L_stepsOn, 3, 0, 0) = some (f, na, kc, ks) from h)
      exact cx_callV2 (C := r_L) (T0 := f_L) (N0 := 5) (np := 2) cx_TbAll S.1 S.2.1 S.2.2.1 S.2.2.2.2.2.2 S.2.2.2.1 S.2.2.2.2.1 S.2.2.2.2.2.1 (by rw [hcl]; rfl) (c_L_stepsOn hG hcl) wl_33 (by decide), fun _ h => absurd h List.not_mem_nil⟩⟩)
    (fun S => List.forall_mem_cons.mpr ⟨fun f na kc ks h => by
      cases (show some (sp_C_requireChoice, 1, 1, 6) = some (f, na, kc, ks) from h)
      exact cx_callS2 (np := 1) cx_TbAll S.1 S.2.1 S.2.2.1 S.2.2.2.2.2.2 S.2.2.2.1 S.2.2.2.2.1 S.2.2.2.2.2.1 (c_C_requireChoice hG hcl hl) wl_32 (by decide), fun _ h => absurd h List.not_mem_nil⟩)
    (fun S => fun _ h => absurd h List.not_mem_nil) pu_C_way
abbrev rm_C_at : Room := { frames := 0, cells := 0, slots := 0, locals := 0 }
theorem c_C_at {l : Launch} {G : cx_G} (hG : cx_okG G) (hcl : cx_cl G = cx_cls) : cx_M cx_Tb l G m_C_at prog_1_method_9_code 2 (some (.int)) rm_C_at sp_C_at :=
  cx_mk hG (Sp := []) (Ex := []) k_C_at (fun S => g_C_ok S.1 S.2.1 S.2.2.2.2.2.2 hcl S.2.2.2.2.2.1) (fun S => p_C_ok S.1 S.2.1 S.2.2.2.2.2.2 hcl S.2.2.2.2.2.1) (fun h => l_C_ok h)
    (fun S => fun _ h => absurd h List.not_mem_nil)
    (fun S => fun _ h => absurd h List.not_mem_nil) rfl pu_C_at
abbrev rm_C_size : Room := { frames := 7, cells := 1, slots := 6, locals := 103 }
abbrev v2_C_size : List (Nat × Nat) := [(91, 0)]
abbrev s2_C_size : List (Nat × Nat) := []
abbrev v1_C_size : List (Nat × Nat) := [(114, 1)]
abbrev s1_C_size : List (Nat × Nat) := []
theorem k2_C_size : (t_C_size.take 3).all (cx_dec false prog_1_method_10_code (some (.int)) 4 g_C p_C l_C v2_C_size s2_C_size h_C_size w_C_size) = true := by decide +kernel
theorem k1_C_size : (t_C_size.drop 3).all (cx_dec true prog_1_method_10_code (some (.int)) 4 g_C p_C l_C v1_C_size s1_C_size [] w_C_size) = true := by decide +kernel
theorem wl_34 : cx_wV cx_Tb "CycleCutter" r_M "" 114 1 m_M_totalBelow prog_3_method_10_code 4 (some (.int)) := ⟨Or.inl (cx_in 456 (by decide +kernel) (by decide +kernel)), ⟨cx_in 457 (by decide +kernel) (by decide +kernel), cx_in 458 (by decide +kernel) (by decide +kernel), cx_in 459 (by decide +kernel) (by decide +kernel)⟩, ⟨by decide +kernel, ⟨by decide +kernel, by decide +kernel⟩, by decide +kernel⟩⟩
theorem c_C_size {l : Launch} {G : cx_G} (hG : cx_okG G) (hcl : cx_cl G = cx_cls) (hl : cx_nt l) : cx_M cx_Tb l G m_C_size prog_1_method_10_code 4 (some (.int)) rm_C_size sp_C_size :=
  cx_mk3 hG (Sp := [(sp_C_requireLaidOut, 2, 1, 6), (sp_M_totalBelow, 2, 0, 0)]) (Ex := x_C_size) k2_C_size k1_C_size (fun S => g_C_ok S.1 S.2.1 S.2.2.2.2.2.2 hcl S.2.2.2.2.2.1) (fun S => p_C_ok S.1 S.2.1 S.2.2.2.2.2.2 hcl S.2.2.2.2.2.1) (fun h => l_C_ok h)
    (fun S => List.forall_mem_cons.mpr ⟨fun f na kc ks h => by
      cases (show some (sp_C_requireLaidOut, 2, 1, 6) = some (f, na, kc, ks) from h)
      exact cx_callV3 (C := r_C) (T0 := f_C) (N0 := 4) (np := 1) cx_TbAll S.1 S.2.1 S.2.2.1 S.2.2.2.2.2.2 S.2.2.2.1 S.2.2.2.2.1 S.2.2.2.2.2.1 (by rw [hcl]; rfl) (c_C_requireLaidOut hG hcl hl) wl_30 (by decide), fun _ h => absurd h List.not_mem_nil⟩)
    (fun S => fun _ h => absurd h List.not_mem_nil)
    (fun S => fun _ h => absurd h List.not_mem_nil)
    (fun S => List.forall_mem_cons.mpr ⟨fun f na kc ks h => by
      cases (show some (sp_M_totalBelow, 2, 0, 0) = some (f, na, kc, ks) from h)
      exact cx_callV (C := r_M) (T0 := f_M) (N0 := 11) (np := 1) cx_TbAll S.1 S.2.1 S.2.2.1 S.2.2.2.2.2.2 S.2.2.2.1 S.2.2.2.2.1 S.2.2.2.2.2.1 (by rw [hcl]; rfl) (c_M_totalBelow hG hcl) wl_34 (by decide), fun _ h => absurd h List.not_mem_nil⟩)
    (fun S => fun _ h => absurd h List.not_mem_nil) pu_C_size
abbrev rm_C_known : Room := { frames := 7, cells := 1, slots := 6, locals := 103 }
theorem k2_C_known : t_C_known.all (cx_dec false prog_1_method_11_code (some (.int)) 2 g_C p_C l_C v_C_known s_C_known h_C_known w_C_known) = true := by decide +kernel
theorem wl_35 : cx_wV cx_Tb "CycleCutter" r_L "" 117 1 m_L_knownChoices prog_2_method_6_code 4 (some (.int)) := ⟨Or.inl (cx_in 467 (by decide +kernel) (by decide +kernel)), ⟨cx_in 468 (by decide +kernel) (by decide +kernel), cx_in 469 (by decide +kernel) (by decide +kernel), cx_in 470 (by decide +kernel) (by decide +kernel)⟩, ⟨by decide +kernel, ⟨by decide +kernel, by decide +kernel⟩, by decide +kernel⟩⟩
theorem c_C_known {l : Launch} {G : cx_G} (hG : cx_okG G) (hcl : cx_cl G = cx_cls) (hl : cx_nt l) : cx_M2 cx_Tb l G m_C_known prog_1_method_11_code 2 (some (.int)) rm_C_known sp_C_known :=
  cx_mk2 hG (Sp := [(sp_C_requireLaidOut, 2, 1, 6), (sp_L_knownChoices, 2, 0, 0)]) (Ex := []) k2_C_known (fun S => g_C_ok S.1 S.2.1 S.2.2.2.2.2.2 hcl S.2.2.2.2.2.1) (fun S => p_C_ok S.1 S.2.1 S.2.2.2.2.2.2 hcl S.2.2.2.2.2.1) (fun h => l_C_ok h)
    (fun S => List.forall_mem_cons.mpr ⟨fun f na kc ks h => by
      cases (show some (sp_C_requireLaidOut, 2, 1, 6) = some (f, na, kc, ks) from h)
      exact cx_callV2 (C := r_C) (T0 := f_C) (N0 := 4) (np := 1) cx_TbAll S.1 S.2.1 S.2.2.1 S.2.2.2.2.2.2 S.2.2.2.1 S.2.2.2.2.1 S.2.2.2.2.2.1 (by rw [hcl]; rfl) (c_C_requireLaidOut hG hcl hl) wl_30 (by decide), List.forall_mem_cons.mpr ⟨fun f na kc ks h => by
      cases (show some (sp_L_knownChoices, 2, 0, 0) = some (f, na, kc, ks) from h)
      exact cx_callV2 (C := r_L) (T0 := f_L) (N0 := 5) (np := 1) cx_TbAll S.1 S.2.1 S.2.2.1 S.2.2.2.2.2.2 S.2.2.2.1 S.2.2.2.2.1 S.2.2.2.2.2.1 (by rw [hcl]; rfl) (c_L_knownChoices hG hcl) wl_35 (by decide), fun _ h => absurd h List.not_mem_nil⟩⟩)
    (fun S => fun _ h => absurd h List.not_mem_nil)
    (fun S => fun _ h => absurd h List.not_mem_nil) pu_C_known
abbrev rm_C_doubt : Room := { frames := 7, cells := 1, slots := 6, locals := 102 }
theorem k2_C_doubt : t_C_doubt.all (cx_dec false prog_1_method_12_code (some (.int)) 2 g_C p_C l_C v_C_doubt s_C_doubt h_C_doubt w_C_doubt) = true := by decide +kernel
theorem wl_36 : cx_wV cx_Tb "CycleCutter" r_L "" 120 1 m_L_firstDoubtFrom prog_2_method_7_code 4 (some (.int)) := ⟨Or.inl (cx_in 484 (by decide +kernel) (by decide +kernel)), ⟨cx_in 485 (by decide +kernel) (by decide +kernel), cx_in 486 (by decide +kernel) (by decide +kernel), cx_in 487 (by decide +kernel) (by decide +kernel)⟩, ⟨by decide +kernel, ⟨by decide +kernel, by decide +kernel⟩, by decide +kernel⟩⟩
theorem c_C_doubt {l : Launch} {G : cx_G} (hG : cx_okG G) (hcl : cx_cl G = cx_cls) (hl : cx_nt l) : cx_M2 cx_Tb l G m_C_doubt prog_1_method_12_code 2 (some (.int)) rm_C_doubt sp_C_doubt :=
  cx_mk2 hG (Sp := [(sp_C_requireChoice, 1, 1, 6), (sp_L_firstDoubtFrom, 2, 0, 0)]) (Ex := []) k2_C_doubt (fun S => g_C_ok S.1 S.2.1 S.2.2.2.2.2.2 hcl S.2.2.2.2.2.1) (fun S => p_C_ok S.1 S.2.1 S.2.2.2.2.2.2 hcl S.2.2.2.2.2.1) (fun h => l_C_ok h)
    (fun S => List.forall_mem_cons.mpr ⟨fun f na kc ks h => by
      cases (show some (sp_L_firstDoubtFrom, 2, 0, 0) = some (f, na, kc, ks) from h)
      exact cx_callV2 (C := r_L) (T0 := f_L) (N0 := 5) (np := 1) cx_TbAll S.1 S.2.1 S.2.2.1 S.2.2.2.2.2.2 S.2.2.2.1 S.2.2.2.2.1 S.2.2.2.2.2.1 (by rw [hcl]; rfl) (c_L_firstDoubtFrom hG hcl) wl_36 (by decide), fun _ h => absurd h List.not_mem_nil⟩)
    (fun S => List.forall_mem_cons.mpr ⟨fun f na kc ks h => by
      cases (show some (sp_C_requireChoice, 1, 1, 6) = some (f, na, kc, ks) from h)
      exact cx_callS2 (np := 1) cx_TbAll S.1 S.2.1 S.2.2.1 S.2.2.2.2.2.2 S.2.2.2.1 S.2.2.2.2.1 S.2.2.2.2.2.1 (c_C_requireChoice hG hcl hl) wl_32 (by decide), fun _ h => absurd h List.not_mem_nil⟩)
    (fun S => fun _ h => absurd h List.not_mem_nil) pu_C_doubt
abbrev rm_C_value : Room := { frames := 7, cells := 1, slots := 6, locals := 102 }
abbrev v2_C_value : List (Nat × Nat) := [(42, 0)]
abbrev s2_C_value : List (Nat × Nat) := [(95, 1)]
abbrev v1_C_value : List (Nat × Nat) := [(123, 2)]
abbrev s1_C_value : List (Nat × Nat) := []
theorem k2_C_value : (t_C_value.take 8).all (cx_dec false prog_1_method_13_code (some (.int)) 3 g_C p_C l_C v2_C_value s2_C_value h_C_value w_C_value) = true := by decide +kernel
theorem k1_C_value : (t_C_value.drop 8).all (cx_dec true prog_1_method_13_code (some (.int)) 3 g_C p_C l_C v1_C_value s1_C_value [] w_C_value) = true := by decide +kernel
theorem wl_37 : cx_wV cx_Tb "CycleCutter" r_N "" 123 2 m_N_valueOn prog_4_method_10_code 3 (some (.int)) := ⟨Or.inl (cx_in 496 (by decide +kernel) (by decide +kernel)), ⟨cx_in 497 (by decide +kernel) (by decide +kernel), cx_in 498 (by decide +kernel) (by decide +kernel), cx_in 499 (by decide +kernel) (by decide +kernel)⟩, ⟨by decide +kernel, ⟨by decide +kernel, by decide +kernel⟩, by decide +kernel⟩⟩
theorem c_C_value {l : Launch} {G : cx_G} (hG : cx_okG G) (hcl : cx_cl G = cx_cls) (hl : cx_nt l) : cx_M cx_Tb l G m_C_value prog_1_method_13_code 3 (some (.int)) rm_C_value sp_C_value :=
  cx_mk3 hG (Sp := [(sp_N_hasGate, 2, 0, 0), (sp_C_requireChoice, 1, 1, 6), (sp_N_valueOn, 3, 0, 0)]) (Ex := x_C_value) k2_C_value k1_C_value (fun S => g_C_ok S.1 S.2.1 S.2.2.2.2.2.2 hcl S.2.2.2.2.2.1) (fun S => p_C_ok S.1 S.2.1 S.2.2.2.2.2.2 hcl S.2.2.2.2.2.1) (fun h => l_C_ok h)
    (fun S => List.forall_mem_cons.mpr ⟨fun f na kc ks h => by
      cases (show some (sp_N_hasGate, 2, 0, 0) = some (f, na, kc, ks) from h)
      exact cx_callV3 (C := r_N) (T0 := f_N) (N0 := 12) (np := 1) cx_TbAll S.1 S.2.1 S.2.2.1 S.2.2.2.2.2.2 S.2.2.2.1 S.2.2.2.2.1 S.2.2.2.2.2.1 (by rw [hcl]; rfl) (c_N_hasGate hG hcl) wl_21 (by decide), fun _ h => absurd h List.not_mem_nil⟩)
    (fun S => List.forall_mem_cons.mpr ⟨fun f na kc ks h => by
      cases (show some (sp_C_requireChoice, 1, 1, 6) = some (f, na, kc, ks) from h)
      exact cx_callS3 (np := 1) cx_TbAll S.1 S.2.1 S.2.2.1 S.2.2.2.2.2.2 S.2.2.2.1 S.2.2.2.2.1 S.2.2.2.2.2.1 (c_C_requireChoice hG hcl hl) wl_32 (by decide), fun _ h => absurd h List.not_mem_nil⟩)
    (fun S => List.forall_mem_cons.mpr ⟨fun x h => by
      cases (show some "java/lang/IndexOutOfBoundsException" = some x from h)
      exact cx_throw (z := 46) (ix := 48) (tx := "no such gate") hl S.1 S.2.1 S.2.2.1 S.2.2.2.2.2.2 S.2.2.2.1 S.2.2.2.2.1 S.2.2.2.2.2.1 ⟨by decide +kernel, by decide +kernel, by decide +kernel, by decide +kernel, by decide +kernel⟩ ⟨cx_in 361 (by decide +kernel) (by decide +kernel), cx_in 362 (by decide +kernel) (by decide +kernel), cx_in 33 (by decide +kernel) (by decide +kernel), cx_in 370 (by decide +kernel) (by decide +kernel)⟩ th_1 (by decide +kernel) (by decide +kernel) (by decide), fun _ h => absurd h List.not_mem_nil⟩)
    (fun S => List.forall_mem_cons.mpr ⟨fun f na kc ks h => by
      cases (show some (sp_N_valueOn, 3, 0, 0) = some (f, na, kc, ks) from h)
      exact cx_callV (C := r_N) (T0 := f_N) (N0 := 12) (np := 2) cx_TbAll S.1 S.2.1 S.2.2.1 S.2.2.2.2.2.2 S.2.2.2.1 S.2.2.2.2.1 S.2.2.2.2.2.1 (by rw [hcl]; rfl) (c_N_valueOn hG hcl) wl_37 (by decide), fun _ h => absurd h List.not_mem_nil⟩)
    (fun S => fun _ h => absurd h List.not_mem_nil) pu_C_value
abbrev rm_C_count : Room := { frames := 1, cells := 0, slots := 0, locals := 20 }
theorem c_C_count {l : Launch} {G : cx_G} (hG : cx_okG G) (hcl : cx_cl G = cx_cls) : cx_M cx_Tb l G m_C_count prog_1_method_14_code 2 (some (.int)) rm_C_count sp_C_count :=
  cx_mk hG (Sp := [(sp_M_total, 1, 0, 0)]) (Ex := []) k_C_count (fun S => g_C_ok S.1 S.2.1 S.2.2.2.2.2.2 hcl S.2.2.2.2.2.1) (fun S => p_C_ok S.1 S.2.1 S.2.2.2.2.2.2 hcl S.2.2.2.2.2.1) (fun h => l_C_ok h)
    (fun S => List.forall_mem_cons.mpr ⟨fun f na kc ks h => by
      cases (show some (sp_M_total, 1, 0, 0) = some (f, na, kc, ks) from h)
      exact cx_callV (C := r_M) (T0 := f_M) (N0 := 11) (np := 0) cx_TbAll S.1 S.2.1 S.2.2.1 S.2.2.2.2.2.2 S.2.2.2.1 S.2.2.2.2.1 S.2.2.2.2.2.1 (by rw [hcl]; rfl) (c_M_total hG hcl) wl_29 (by decide), fun _ h => absurd h List.not_mem_nil⟩)
    (fun S => fun _ h => absurd h List.not_mem_nil) rfl pu_C_count
abbrev rm_R_thrown : Room := { frames := 0, cells := 0, slots := 0, locals := 0 }
theorem c_R_thrown {l : Launch} {G : cx_G} (hG : cx_okG G) (hcl : cx_cl G = cx_cls) : cx_M cx_Tb l G m_R_thrown prog_6_method_2_code 1 (some (.int)) rm_R_thrown sp_R_thrown :=
  cx_mk hG (Sp := []) (Ex := []) k_R_thrown (fun S => g_R_ok S.1 S.2.1 S.2.2.2.2.2.2 hcl S.2.2.2.2.2.1) (fun S => p_R_ok S.1 S.2.1 S.2.2.2.2.2.2 hcl S.2.2.2.2.2.1) (fun h => l_R_ok h)
    (fun S => fun _ h => absurd h List.not_mem_nil)
    (fun S => fun _ h => absurd h List.not_mem_nil) rfl pu_R_thrown
abbrev rm_R_fails : Room := { frames := 0, cells := 0, slots := 0, locals := 0 }
theorem c_R_fails {l : Launch} {G : cx_G} (hG : cx_okG G) (hcl : cx_cl G = cx_cls) : cx_M cx_Tb l G m_R_fails prog_6_method_3_code 3 (some (.boolean)) rm_R_fails sp_R_fails :=
  cx_mk hG (Sp := []) (Ex := []) k_R_fails (fun S => g_R_ok S.1 S.2.1 S.2.2.2.2.2.2 hcl S.2.2.2.2.2.1) (fun S => p_R_ok S.1 S.2.1 S.2.2.2.2.2.2 hcl S.2.2.2.2.2.1) (fun h => l_R_ok h)
    (fun S => fun _ h => absurd h List.not_mem_nil)
    (fun S => fun _ h => absurd h List.not_mem_nil) rfl pu_R_fails
abbrev rm_R_isGate : Room := { frames := 0, cells := 0, slots := 0, locals := 0 }
theorem c_R_isGate {l : Launch} {G : cx_G} (hG : cx_okG G) (hcl : cx_cl G = cx_cls) : cx_M cx_Tb l G m_R_isGate prog_6_method_4_code 2 (some (.boolean)) rm_R_isGate sp_R_isGate :=
  cx_mk hG (Sp := []) (Ex := []) k_R_isGate (fun S => g_R_ok S.1 S.2.1 S.2.2.2.2.2.2 hcl S.2.2.2.2.2.1) (fun S => p_R_ok S.1 S.2.1 S.2.2.2.2.2.2 hcl S.2.2.2.2.2.1) (fun h => l_R_ok h)
    (fun S => fun _ h => absurd h List.not_mem_nil)
    (fun S => fun _ h => absurd h List.not_mem_nil) rfl pu_R_isGate
abbrev rm_R_gate : Room := { frames := 1, cells := 0, slots := 0, locals := 22 }
theorem wl_38 : cx_wV cx_Tb "CycleCutterModel" r_R "" 61 2 m_R_fails prog_6_method_3_code 3 (some (.boolean)) := ⟨Or.inl (cx_in 579 (by decide +kernel) (by decide +kernel)), ⟨cx_in 581 (by decide +kernel) (by decide +kernel), cx_in 10 (by decide +kernel) (by decide +kernel), cx_in 582 (by decide +kernel) (by decide +kernel)⟩, ⟨by decide +kernel, ⟨by decide +kernel, by decide +kernel⟩, by decide +kernel⟩⟩
theorem c_R_gate {l : Launch} {G : cx_G} (hG : cx_okG G) (hcl : cx_cl G = cx_cls) : cx_M cx_Tb l G m_R_gate prog_6_method_5_code 2 (some (.int)) rm_R_gate sp_R_gate :=
  cx_mk hG (Sp := [(sp_R_fails, 3, 0, 0)]) (Ex := []) k_R_gate (fun S => g_R_ok S.1 S.2.1 S.2.2.2.2.2.2 hcl S.2.2.2.2.2.1) (fun S => p_R_ok S.1 S.2.1 S.2.2.2.2.2.2 hcl S.2.2.2.2.2.1) (fun h => l_R_ok h)
    (fun S => List.forall_mem_cons.mpr ⟨fun f na kc ks h => by
      cases (show some (sp_R_fails, 3, 0, 0) = some (f, na, kc, ks) from h)
      exact cx_callV (C := r_R) (T0 := f_R) (N0 := 21) (np := 2) cx_TbAll S.1 S.2.1 S.2.2.1 S.2.2.2.2.2.2 S.2.2.2.1 S.2.2.2.2.1 S.2.2.2.2.2.1 (by rw [hcl]; rfl) (c_R_fails hG hcl) wl_38 (by decide), fun _ h => absurd h List.not_mem_nil⟩)
    (fun S => fun _ h => absurd h List.not_mem_nil) rfl pu_R_gate
abbrev rm_R_feed : Room := { frames := 1, cells := 0, slots := 0, locals := 22 }
theorem wl_39 : cx_wV cx_Tb "CycleCutterModel" r_R "" 68 1 m_R_isGate prog_6_method_4_code 2 (some (.boolean)) := ⟨Or.inl (cx_in 587 (by decide +kernel) (by decide +kernel)), ⟨cx_in 589 (by decide +kernel) (by decide +kernel), cx_in 11 (by decide +kernel) (by decide +kernel), cx_in 590 (by decide +kernel) (by decide +kernel)⟩, ⟨by decide +kernel, ⟨by decide +kernel, by decide +kernel⟩, by decide +kernel⟩⟩
theorem c_R_feed {l : Launch} {G : cx_G} (hG : cx_okG G) (hcl : cx_cl G = cx_cls) : cx_M cx_Tb l G m_R_feed prog_6_method_6_code 7 (some (.int)) rm_R_feed sp_R_feed :=
  cx_mk hG (Sp := [(sp_R_isGate, 2, 0, 0), (sp_R_fails, 3, 0, 0)]) (Ex := []) k_R_feed (fun S => g_R_ok S.1 S.2.1 S.2.2.2.2.2.2 hcl S.2.2.2.2.2.1) (fun S => p_R_ok S.1 S.2.1 S.2.2.2.2.2.2 hcl S.2.2.2.2.2.1) (fun h => l_R_ok h)
    (fun S => List.forall_mem_cons.mpr ⟨fun f na kc ks h => by
      cases (show some (sp_R_fails, 3, 0, 0) = some (f, na, kc, ks) from h)
      exact cx_callV (C := r_R) (T0 := f_R) (N0 := 21) (np := 2) cx_TbAll S.1 S.2.1 S.2.2.1 S.2.2.2.2.2.2 S.2.2.2.1 S.2.2.2.2.1 S.2.2.2.2.2.1 (by rw [hcl]; rfl) (c_R_fails hG hcl) wl_38 (by decide), List.forall_mem_cons.mpr ⟨fun f na kc ks h => by
      cases (show some (sp_R_isGate, 2, 0, 0) = some (f, na, kc, ks) from h)
      exact cx_callV (C := r_R) (T0 := f_R) (N0 := 21) (np := 1) cx_TbAll S.1 S.2.1 S.2.2.1 S.2.2.2.2.2.2 S.2.2.2.1 S.2.2.2.2.1 S.2.2.2.2.2.1 (by rw [hcl]; rfl) (c_R_isGate hG hcl) wl_39 (by decide), fun _ h => absurd h List.not_mem_nil⟩⟩)
    (fun S => fun _ h => absurd h List.not_mem_nil) rfl pu_R_feed
abbrev rm_R_output : Room := { frames := 1, cells := 0, slots := 0, locals := 22 }
theorem c_R_output {l : Launch} {G : cx_G} (hG : cx_okG G) (hcl : cx_cl G = cx_cls) : cx_M cx_Tb l G m_R_output prog_6_method_7_code 2 (some (.int)) rm_R_output sp_R_output :=
  cx_mk hG (Sp := [(sp_R_isGate, 2, 0, 0), (sp_R_fails, 3, 0, 0)]) (Ex := []) k_R_output (fun S => g_R_ok S.1 S.2.1 S.2.2.2.2.2.2 hcl S.2.2.2.2.2.1) (fun S => p_R_ok S.1 S.2.1 S.2.2.2.2.2.2 hcl S.2.2.2.2.2.1) (fun h => l_R_ok h)
    (fun S => List.forall_mem_cons.mpr ⟨fun f na kc ks h => by
      cases (show some (sp_R_fails, 3, 0, 0) = some (f, na, kc, ks) from h)
      exact cx_callV (C := r_R) (T0 := f_R) (N0 := 21) (np := 2) cx_TbAll S.1 S.2.1 S.2.2.1 S.2.2.2.2.2.2 S.2.2.2.1 S.2.2.2.2.1 S.2.2.2.2.2.1 (by rw [hcl]; rfl) (c_R_fails hG hcl) wl_38 (by decide), List.forall_mem_cons.mpr ⟨fun f na kc ks h => by
      cases (show some (sp_R_isGate, 2, 0, 0) = some (f, na, kc, ks) from h)
      exact cx_callV (C := r_R) (T0 := f_R) (N0 := 21) (np := 1) cx_TbAll S.1 S.2.1 S.2.2.1 S.2.2.2.2.2.2 S.2.2.2.1 S.2.2.2.2.1 S.2.2.2.2.2.1 (by rw [hcl]; rfl) (c_R_isGate hG hcl) wl_39 (by decide), fun _ h => absurd h List.not_mem_nil⟩⟩)
    (fun S => fun _ h => absurd h List.not_mem_nil) rfl pu_R_output
abbrev rm_R_clear : Room := { frames := 0, cells := 0, slots := 0, locals := 0 }
theorem c_R_clear {l : Launch} {G : cx_G} (hG : cx_okG G) (hcl : cx_cl G = cx_cls) : cx_M cx_Tb l G m_R_clear prog_6_method_8_code 2 (some (.int)) rm_R_clear sp_R_clear :=
  cx_mk hG (Sp := []) (Ex := []) k_R_clear (fun S => g_R_ok S.1 S.2.1 S.2.2.2.2.2.2 hcl S.2.2.2.2.2.1) (fun S => p_R_ok S.1 S.2.1 S.2.2.2.2.2.2 hcl S.2.2.2.2.2.1) (fun h => l_R_ok h)
    (fun S => fun _ h => absurd h List.not_mem_nil)
    (fun S => fun _ h => absurd h List.not_mem_nil) rfl pu_R_clear
abbrev rm_R_made : Room := { frames := 0, cells := 0, slots := 0, locals := 0 }
theorem c_R_made {l : Launch} {G : cx_G} (hG : cx_okG G) (hcl : cx_cl G = cx_cls) : cx_M cx_Tb l G m_R_made prog_6_method_9_code 6 (some (.int)) rm_R_made sp_R_made :=
  cx_mk hG (Sp := []) (Ex := []) k_R_made (fun S => g_R_ok S.1 S.2.1 S.2.2.2.2.2.2 hcl S.2.2.2.2.2.1) (fun S => p_R_ok S.1 S.2.1 S.2.2.2.2.2.2 hcl S.2.2.2.2.2.1) (fun h => l_R_ok h)
    (fun S => fun _ h => absurd h List.not_mem_nil)
    (fun S => fun _ h => absurd h List.not_mem_nil) rfl pu_R_made
abbrev rm_R_spread : Room := { frames := 1, cells := 0, slots := 0, locals := 25 }
theorem wl_40 : cx_wV cx_Tb "CycleCutterModel" r_R "" 84 1 m_R_made prog_6_method_9_code 6 (some (.int)) := ⟨Or.inl (cx_in 607 (by decide +kernel) (by decide +kernel)), ⟨cx_in 609 (by decide +kernel) (by decide +kernel), cx_in 13 (by decide +kernel) (by decide +kernel), cx_in 610 (by decide +kernel) (by decide +kernel)⟩, ⟨by decide +kernel, ⟨by decide +kernel, by decide +kernel⟩, by decide +kernel⟩⟩
theorem c_R_spread {l : Launch} {G : cx_G} (hG : cx_okG G) (hcl : cx_cl G = cx_cls) : cx_M cx_Tb l G m_R_spread prog_6_method_10_code 4 none rm_R_spread sp_R_spread :=
  cx_mk hG (Sp := [(sp_R_made, 2, 0, 0)]) (Ex := []) k_R_spread (fun S => g_R_ok S.1 S.2.1 S.2.2.2.2.2.2 hcl S.2.2.2.2.2.1) (fun S => p_R_ok S.1 S.2.1 S.2.2.2.2.2.2 hcl S.2.2.2.2.2.1) (fun h => l_R_ok h)
    (fun S => List.forall_mem_cons.mpr ⟨fun f na kc ks h => by
      cases (show some (sp_R_made, 2, 0, 0) = some (f, na, kc, ks) from h)
      exact cx_callV (C := r_R) (T0 := f_R) (N0 := 21) (np := 1) cx_TbAll S.1 S.2.1 S.2.2.1 S.2.2.2.2.2.2 S.2.2.2.1 S.2.2.2.2.1 S.2.2.2.2.2.1 (by rw [hcl]; rfl) (c_R_made hG hcl) wl_40 (by decide), fun _ h => absurd h List.not_mem_nil⟩)
    (fun S => fun _ h => absurd h List.not_mem_nil) rfl pu_R_spread
abbrev rm_R_value : Room := { frames := 2, cells := 0, slots := 0, locals := 48 }
theorem wl_41 : cx_wV cx_Tb "CycleCutterModel" r_R "" 88 1 m_R_spread prog_6_method_10_code 4 none := ⟨Or.inl (cx_in 603 (by decide +kernel) (by decide +kernel)), ⟨cx_in 605 (by decide +kernel) (by decide +kernel), cx_in 12 (by decide +kernel) (by decide +kernel), cx_in 606 (by decide +kernel) (by decide +kernel)⟩, ⟨by decide +kernel, ⟨by decide +kernel, by decide +kernel⟩, by decide +kernel⟩⟩
theorem c_R_value {l : Launch} {G : cx_G} (hG : cx_okG G) (hcl : cx_cl G = cx_cls) : cx_M cx_Tb l G m_R_value prog_6_method_11_code 3 (some (.int)) rm_R_value sp_R_value :=
  cx_mk hG (Sp := [(sp_R_isGate, 2, 0, 0), (sp_R_fails, 3, 0, 0), (sp_R_spread, 2, 0, 0)]) (Ex := []) k_R_value (fun S => g_R_ok S.1 S.2.1 S.2.2.2.2.2.2 hcl S.2.2.2.2.2.1) (fun S => p_R_ok S.1 S.2.1 S.2.2.2.2.2.2 hcl S.2.2.2.2.2.1) (fun h => l_R_ok h)
    (fun S => List.forall_mem_cons.mpr ⟨fun f na kc ks h => by
      cases (show some (sp_R_fails, 3, 0, 0) = some (f, na, kc, ks) from h)
      exact cx_callV (C := r_R) (T0 := f_R) (N0 := 21) (np := 2) cx_TbAll S.1 S.2.1 S.2.2.1 S.2.2.2.2.2.2 S.2.2.2.1 S.2.2.2.2.1 S.2.2.2.2.2.1 (by rw [hcl]; rfl) (c_R_fails hG hcl) wl_38 (by decide), List.forall_mem_cons.mpr ⟨fun f na kc ks h => by
      cases (show some (sp_R_isGate, 2, 0, 0) = some (f, na, kc, ks) from h)
      exact cx_callV (C := r_R) (T0 := f_R) (N0 := 21) (np := 1) cx_TbAll S.1 S.2.1 S.2.2.1 S.2.2.2.2.2.2 S.2.2.2.1 S.2.2.2.2.1 S.2.2.2.2.2.1 (by rw [hcl]; rfl) (c_R_isGate hG hcl) wl_39 (by decide), List.forall_mem_cons.mpr ⟨fun f na kc ks h => by
      cases (show some (sp_R_spread, 2, 0, 0) = some (f, na, kc, ks) from h)
      exact cx_callV (C := r_R) (T0 := f_R) (N0 := 21) (np := 1) cx_TbAll S.1 S.2.1 S.2.2.1 S.2.2.2.2.2.2 S.2.2.2.1 S.2.2.2.2.1 S.2.2.2.2.2.1 (by rw [hcl]; rfl) (c_R_spread hG hcl) wl_41 (by decide), fun _ h => absurd h List.not_mem_nil⟩⟩⟩)
    (fun S => fun _ h => absurd h List.not_mem_nil) rfl pu_R_value
abbrev rm_R_truth : Room := { frames := 0, cells := 0, slots := 0, locals := 0 }
theorem c_R_truth {l : Launch} {G : cx_G} (hG : cx_okG G) (hcl : cx_cl G = cx_cls) : cx_M cx_Tb l G m_R_truth prog_6_method_12_code 3 (some (.boolean)) rm_R_truth sp_R_truth :=
  cx_mk hG (Sp := []) (Ex := []) k_R_truth (fun S => g_R_ok S.1 S.2.1 S.2.2.2.2.2.2 hcl S.2.2.2.2.2.1) (fun S => p_R_ok S.1 S.2.1 S.2.2.2.2.2.2 hcl S.2.2.2.2.2.1) (fun h => l_R_ok h)
    (fun S => fun _ h => absurd h List.not_mem_nil)
    (fun S => fun _ h => absurd h List.not_mem_nil) rfl pu_R_truth
abbrev rm_R_set : Room := { frames := 0, cells := 0, slots := 0, locals := 0 }
theorem c_R_set {l : Launch} {G : cx_G} (hG : cx_okG G) (hcl : cx_cl G = cx_cls) : cx_M cx_Tb l G m_R_set prog_6_method_13_code 3 none rm_R_set sp_R_set :=
  cx_mk hG (Sp := []) (Ex := []) k_R_set (fun S => g_R_ok S.1 S.2.1 S.2.2.2.2.2.2 hcl S.2.2.2.2.2.1) (fun S => p_R_ok S.1 S.2.1 S.2.2.2.2.2.2 hcl S.2.2.2.2.2.1) (fun h => l_R_ok h)
    (fun S => fun _ h => absurd h List.not_mem_nil)
    (fun S => fun _ h => absurd h List.not_mem_nil) rfl pu_R_set
abbrev rm_R_empty : Room := { frames := 0, cells := 0, slots := 0, locals := 0 }
theorem c_R_empty {l : Launch} {G : cx_G} (hG : cx_okG G) (hcl : cx_cl G = cx_cls) : cx_M cx_Tb l G m_R_empty prog_6_method_14_code 3 none rm_R_empty sp_R_empty :=
  cx_mk hG (Sp := []) (Ex := []) k_R_empty (fun S => g_R_ok S.1 S.2.1 S.2.2.2.2.2.2 hcl S.2.2.2.2.2.1) (fun S => p_R_ok S.1 S.2.1 S.2.2.2.2.2.2 hcl S.2.2.2.2.2.1) (fun h => l_R_ok h)
    (fun S => fun _ h => absurd h List.not_mem_nil)
    (fun S => fun _ h => absurd h List.not_mem_nil) rfl pu_R_empty
abbrev rm_R_depends : Room := { frames := 1, cells := 0, slots := 0, locals := 22 }
theorem wl_42 : cx_wV cx_Tb "CycleCutterModel" r_R "" 92 2 m_R_truth prog_6_method_12_code 3 (some (.boolean)) := ⟨Or.inl (cx_in 631 (by decide +kernel) (by decide +kernel)), ⟨cx_in 633 (by decide +kernel) (by decide +kernel), cx_in 18 (by decide +kernel) (by decide +kernel), cx_in 634 (by decide +kernel) (by decide +kernel)⟩, ⟨by decide +kernel, ⟨by decide +kernel, by decide +kernel⟩, by decide +kernel⟩⟩
theorem c_R_depends {l : Launch} {G : cx_G} (hG : cx_okG G) (hcl : cx_cl G = cx_cls) : cx_M cx_Tb l G m_R_depends prog_6_method_15_code 4 (some (.int)) rm_R_depends sp_R_depends :=
  cx_mk hG (Sp := [(sp_R_truth, 3, 0, 0)]) (Ex := []) k_R_depends (fun S => g_R_ok S.1 S.2.1 S.2.2.2.2.2.2 hcl S.2.2.2.2.2.1) (fun S => p_R_ok S.1 S.2.1 S.2.2.2.2.2.2 hcl S.2.2.2.2.2.1) (fun h => l_R_ok h)
    (fun S => List.forall_mem_cons.mpr ⟨fun f na kc ks h => by
      cases (show some (sp_R_truth, 3, 0, 0) = some (f, na, kc, ks) from h)
      exact cx_callV (C := r_R) (T0 := f_R) (N0 := 21) (np := 2) cx_TbAll S.1 S.2.1 S.2.2.1 S.2.2.2.2.2.2 S.2.2.2.1 S.2.2.2.2.1 S.2.2.2.2.2.1 (by rw [hcl]; rfl) (c_R_truth hG hcl) wl_42 (by decide), fun _ h => absurd h List.not_mem_nil⟩)
    (fun S => fun _ h => absurd h List.not_mem_nil) rfl pu_R_depends
abbrev rm_R_same : Room := { frames := 0, cells := 0, slots := 0, locals := 0 }
theorem c_R_same {l : Launch} {G : cx_G} (hG : cx_okG G) (hcl : cx_cl G = cx_cls) : cx_M cx_Tb l G m_R_same prog_6_method_16_code 5 (some (.boolean)) rm_R_same sp_R_same :=
  cx_mk hG (Sp := []) (Ex := []) k_R_same (fun S => g_R_ok S.1 S.2.1 S.2.2.2.2.2.2 hcl S.2.2.2.2.2.1) (fun S => p_R_ok S.1 S.2.1 S.2.2.2.2.2.2 hcl S.2.2.2.2.2.1) (fun h => l_R_ok h)
    (fun S => fun _ h => absurd h List.not_mem_nil)
    (fun S => fun _ h => absurd h List.not_mem_nil) rfl pu_R_same
abbrev rm_R_fix : Room := { frames := 1, cells := 0, slots := 0, locals := 22 }
theorem wl_43 : cx_wV cx_Tb "CycleCutterModel" r_R "" 96 1 m_R_empty prog_6_method_14_code 3 none := ⟨Or.inl (cx_in 615 (by decide +kernel) (by decide +kernel)), ⟨cx_in 617 (by decide +kernel) (by decide +kernel), cx_in 14 (by decide +kernel) (by decide +kernel), cx_in 618 (by decide +kernel) (by decide +kernel)⟩, ⟨by decide +kernel, ⟨by decide +kernel, by decide +kernel⟩, by decide +kernel⟩⟩
theorem wl_44 : cx_wV cx_Tb "CycleCutterModel" r_R "" 99 2 m_R_set prog_6_method_13_code 3 none := ⟨Or.inl (cx_in 619 (by decide +kernel) (by decide +kernel)), ⟨cx_in 621 (by decide +kernel) (by decide +kernel), cx_in 15 (by decide +kernel) (by decide +kernel), cx_in 622 (by decide +kernel) (by decide +kernel)⟩, ⟨by decide +kernel, ⟨by decide +kernel, by decide +kernel⟩, by decide +kernel⟩⟩
theorem c_R_fix {l : Launch} {G : cx_G} (hG : cx_okG G) (hcl : cx_cl G = cx_cls) : cx_M cx_Tb l G m_R_fix prog_6_method_17_code 6 none rm_R_fix sp_R_fix :=
  cx_mk hG (Sp := [(sp_R_empty, 2, 0, 0), (sp_R_truth, 3, 0, 0), (sp_R_set, 3, 0, 0)]) (Ex := []) k_R_fix (fun S => g_R_ok S.1 S.2.1 S.2.2.2.2.2.2 hcl S.2.2.2.2.2.1) (fun S => p_R_ok S.1 S.2.1 S.2.2.2.2.2.2 hcl S.2.2.2.2.2.1) (fun h => l_R_ok h)
    (fun S => List.forall_mem_cons.mpr ⟨fun f na kc ks h => by
      cases (show some (sp_R_truth, 3, 0, 0) = some (f, na, kc, ks) from h)
      exact cx_callV (C := r_R) (T0 := f_R) (N0 := 21) (np := 2) cx_TbAll S.1 S.2.1 S.2.2.1 S.2.2.2.2.2.2 S.2.2.2.1 S.2.2.2.2.1 S.2.2.2.2.2.1 (by rw [hcl]; rfl) (c_R_truth hG hcl) wl_42 (by decide), List.forall_mem_cons.mpr ⟨fun f na kc ks h => by
      cases (show some (sp_R_empty, 2, 0, 0) = some (f, na, kc, ks) from h)
      exact cx_callV (C := r_R) (T0 := f_R) (N0 := 21) (np := 1) cx_TbAll S.1 S.2.1 S.2.2.1 S.2.2.2.2.2.2 S.2.2.2.1 S.2.2.2.2.1 S.2.2.2.2.2.1 (by rw [hcl]; rfl) (c_R_empty hG hcl) wl_43 (by decide), List.forall_mem_cons.mpr ⟨fun f na kc ks h => by
      cases (show some (sp_R_set, 3, 0, 0) = some (f, na, kc, ks) from h)
      exact cx_callV (C := r_R) (T0 := f_R) (N0 := 21) (np := 2) cx_TbAll S.1 S.2.1 S.2.2.1 S.2.2.2.2.2.2 S.2.2.2.1 S.2.2.2.2.1 S.2.2.2.2.2.1 (by rw [hcl]; rfl) (c_R_set hG hcl) wl_44 (by decide), fun _ h => absurd h List.not_mem_nil⟩⟩⟩)
    (fun S => fun _ h => absurd h List.not_mem_nil) rfl pu_R_fix
abbrev rm_R_number : Room := { frames := 2, cells := 0, slots := 0, locals := 45 }
theorem wl_45 : cx_wV cx_Tb "CycleCutterModel" r_R "" 103 1 m_R_depends prog_6_method_15_code 4 (some (.int)) := ⟨Or.inl (cx_in 627 (by decide +kernel) (by decide +kernel)), ⟨cx_in 629 (by decide +kernel) (by decide +kernel), cx_in 17 (by decide +kernel) (by decide +kernel), cx_in 630 (by decide +kernel) (by decide +kernel)⟩, ⟨by decide +kernel, ⟨by decide +kernel, by decide +kernel⟩, by decide +kernel⟩⟩
theorem wl_46 : cx_wV cx_Tb "CycleCutterModel" r_R "" 106 2 m_R_same prog_6_method_16_code 5 (some (.boolean)) := ⟨Or.inl (cx_in 635 (by decide +kernel) (by decide +kernel)), ⟨cx_in 637 (by decide +kernel) (by decide +kernel), cx_in 19 (by decide +kernel) (by decide +kernel), cx_in 638 (by decide +kernel) (by decide +kernel)⟩, ⟨by decide +kernel, ⟨by decide +kernel, by decide +kernel⟩, by decide +kernel⟩⟩
theorem c_R_number {l : Launch} {G : cx_G} (hG : cx_okG G) (hcl : cx_cl G = cx_cls) : cx_M cx_Tb l G m_R_number prog_6_method_18_code 4 (some (.int)) rm_R_number sp_R_number :=
  cx_mk hG (Sp := [(sp_R_depends, 2, 0, 0), (sp_R_same, 3, 0, 0)]) (Ex := []) k_R_number (fun S => g_R_ok S.1 S.2.1 S.2.2.2.2.2.2 hcl S.2.2.2.2.2.1) (fun S => p_R_ok S.1 S.2.1 S.2.2.2.2.2.2 hcl S.2.2.2.2.2.1) (fun h => l_R_ok h)
    (fun S => List.forall_mem_cons.mpr ⟨fun f na kc ks h => by
      cases (show some (sp_R_depends, 2, 0, 0) = some (f, na, kc, ks) from h)
      exact cx_callV (C := r_R) (T0 := f_R) (N0 := 21) (np := 1) cx_TbAll S.1 S.2.1 S.2.2.1 S.2.2.2.2.2.2 S.2.2.2.1 S.2.2.2.2.1 S.2.2.2.2.2.1 (by rw [hcl]; rfl) (c_R_depends hG hcl) wl_45 (by decide), List.forall_mem_cons.mpr ⟨fun f na kc ks h => by
      cases (show some (sp_R_same, 3, 0, 0) = some (f, na, kc, ks) from h)
      exact cx_callV (C := r_R) (T0 := f_R) (N0 := 21) (np := 2) cx_TbAll S.1 S.2.1 S.2.2.1 S.2.2.2.2.2.2 S.2.2.2.1 S.2.2.2.2.1 S.2.2.2.2.2.1 (by rw [hcl]; rfl) (c_R_same hG hcl) wl_46 (by decide), fun _ h => absurd h List.not_mem_nil⟩⟩)
    (fun S => fun _ h => absurd h List.not_mem_nil) rfl pu_R_number
abbrev rm_R_lay : Room := { frames := 3, cells := 0, slots := 0, locals := 68 }
theorem wl_47 : cx_wV cx_Tb "CycleCutterModel" r_R "" 109 0 m_R_number prog_6_method_18_code 4 (some (.int)) := ⟨Or.inl (cx_in 623 (by decide +kernel) (by decide +kernel)), ⟨cx_in 625 (by decide +kernel) (by decide +kernel), cx_in 16 (by decide +kernel) (by decide +kernel), cx_in 626 (by decide +kernel) (by decide +kernel)⟩, ⟨by decide +kernel, ⟨by decide +kernel, by decide +kernel⟩, by decide +kernel⟩⟩
theorem wl_48 : cx_wV cx_Tb "CycleCutterModel" r_R "" 113 3 m_R_fix prog_6_method_17_code 6 none := ⟨Or.inl (cx_in 639 (by decide +kernel) (by decide +kernel)), ⟨cx_in 641 (by decide +kernel) (by decide +kernel), cx_in 20 (by decide +kernel) (by decide +kernel), cx_in 642 (by decide +kernel) (by decide +kernel)⟩, ⟨by decide +kernel, ⟨by decide +kernel, by decide +kernel⟩, by decide +kernel⟩⟩
theorem c_R_lay {l : Launch} {G : cx_G} (hG : cx_okG G) (hcl : cx_cl G = cx_cls) : cx_M cx_Tb l G m_R_lay prog_6_method_19_code 5 (some (.int)) rm_R_lay sp_R_lay :=
  cx_mk hG (Sp := [(sp_R_empty, 2, 0, 0), (sp_R_spread, 2, 0, 0), (sp_R_set, 3, 0, 0), (sp_R_number, 1, 0, 0), (sp_R_fix, 4, 0, 0)]) (Ex := []) k_R_lay (fun S => g_R_ok S.1 S.2.1 S.2.2.2.2.2.2 hcl S.2.2.2.2.2.1) (fun S => p_R_ok S.1 S.2.1 S.2.2.2.2.2.2 hcl S.2.2.2.2.2.1) (fun h => l_R_ok h)
    (fun S => List.forall_mem_cons.mpr ⟨fun f na kc ks h => by
      cases (show some (sp_R_spread, 2, 0, 0) = some (f, na, kc, ks) from h)
      exact cx_callV (C := r_R) (T0 := f_R) (N0 := 21) (np := 1) cx_TbAll S.1 S.2.1 S.2.2.1 S.2.2.2.2.2.2 S.2.2.2.1 S.2.2.2.2.1 S.2.2.2.2.2.1 (by rw [hcl]; rfl) (c_R_spread hG hcl) wl_41 (by decide), List.forall_mem_cons.mpr ⟨fun f na kc ks h => by
      cases (show some (sp_R_empty, 2, 0, 0) = some (f, na, kc, ks) from h)
      exact cx_callV (C := r_R) (T0 := f_R) (N0 := 21) (np := 1) cx_TbAll S.1 S.2.1 S.2.2.1 S.2.2.2.2.2.2 S.2.2.2.1 S.2.2.2.2.1 S.2.2.2.2.2.1 (by rw [hcl]; rfl) (c_R_empty hG hcl) wl_43 (by decide), List.forall_mem_cons.mpr ⟨fun f na kc ks h => by
      cases (show some (sp_R_set, 3, 0, 0) = some (f, na, kc, ks) from h)
      exact cx_callV (C := r_R) (T0 := f_R) (N0 := 21) (np := 2) cx_TbAll S.1 S.2.1 S.2.2.1 S.2.2.2.2.2.2 S.2.2.2.1 S.2.2.2.2.1 S.2.2.2.2.2.1 (by rw [hcl]; rfl) (c_R_set hG hcl) wl_44 (by decide), List.forall_mem_cons.mpr ⟨fun f na kc ks h => by
      cases (show some (sp_R_number, 1, 0, 0) = some (f, na, kc, ks) from h)
      exact cx_callV (C := r_R) (T0 := f_R) (N0 := 21) (np := 0) cx_TbAll S.1 S.2.1 S.2.2.1 S.2.2.2.2.2.2 S.2.2.2.1 S.2.2.2.2.1 S.2.2.2.2.2.1 (by rw [hcl]; rfl) (c_R_number hG hcl) wl_47 (by decide), List.forall_mem_cons.mpr ⟨fun f na kc ks h => by
      cases (show some (sp_R_fix, 4, 0, 0) = some (f, na, kc, ks) from h)
      exact cx_callV (C := r_R) (T0 := f_R) (N0 := 21) (np := 3) cx_TbAll S.1 S.2.1 S.2.2.1 S.2.2.2.2.2.2 S.2.2.2.1 S.2.2.2.2.1 S.2.2.2.2.2.1 (by rw [hcl]; rfl) (c_R_fix hG hcl) wl_48 (by decide), fun _ h => absurd h List.not_mem_nil⟩⟩⟩⟩⟩)
    (fun S => fun _ h => absurd h List.not_mem_nil) rfl pu_R_lay
abbrev rm_R_refuses : Room := { frames := 1, cells := 0, slots := 0, locals := 22 }
theorem c_R_refuses {l : Launch} {G : cx_G} (hG : cx_okG G) (hcl : cx_cl G = cx_cls) : cx_M cx_Tb l G m_R_refuses prog_6_method_20_code 3 (some (.boolean)) rm_R_refuses sp_R_refuses :=
  cx_mk hG (Sp := [(sp_R_fails, 3, 0, 0)]) (Ex := []) k_R_refuses (fun S => g_R_ok S.1 S.2.1 S.2.2.2.2.2.2 hcl S.2.2.2.2.2.1) (fun S => p_R_ok S.1 S.2.1 S.2.2.2.2.2.2 hcl S.2.2.2.2.2.1) (fun h => l_R_ok h)
    (fun S => List.forall_mem_cons.mpr ⟨fun f na kc ks h => by
      cases (show some (sp_R_fails, 3, 0, 0) = some (f, na, kc, ks) from h)
      exact cx_callV (C := r_R) (T0 := f_R) (N0 := 21) (np := 2) cx_TbAll S.1 S.2.1 S.2.2.1 S.2.2.2.2.2.2 S.2.2.2.1 S.2.2.2.2.1 S.2.2.2.2.2.1 (by rw [hcl]; rfl) (c_R_fails hG hcl) wl_38 (by decide), fun _ h => absurd h List.not_mem_nil⟩)
    (fun S => fun _ h => absurd h List.not_mem_nil) rfl pu_R_refuses
abbrev rm_R_run : Room := { frames := 2, cells := 0, slots := 0, locals := 44 }
theorem wl_49 : cx_wV cx_Tb "CycleCutterModel" r_R "" 117 2 m_R_refuses prog_6_method_20_code 3 (some (.boolean)) := ⟨Or.inl (cx_in 647 (by decide +kernel) (by decide +kernel)), ⟨cx_in 649 (by decide +kernel) (by decide +kernel), cx_in 21 (by decide +kernel) (by decide +kernel), cx_in 650 (by decide +kernel) (by decide +kernel)⟩, ⟨by decide +kernel, ⟨by decide +kernel, by decide +kernel⟩, by decide +kernel⟩⟩
theorem c_R_run {l : Launch} {G : cx_G} (hG : cx_okG G) (hcl : cx_cl G = cx_cls) : cx_M cx_Tb l G m_R_run prog_6_method_21_code 3 (some (.int)) rm_R_run sp_R_run :=
  cx_mk hG (Sp := [(sp_R_refuses, 3, 0, 0), (sp_R_truth, 3, 0, 0)]) (Ex := []) k_R_run (fun S => g_R_ok S.1 S.2.1 S.2.2.2.2.2.2 hcl S.2.2.2.2.2.1) (fun S => p_R_ok S.1 S.2.1 S.2.2.2.2.2.2 hcl S.2.2.2.2.2.1) (fun h => l_R_ok h)
    (fun S => List.forall_mem_cons.mpr ⟨fun f na kc ks h => by
      cases (show some (sp_R_truth, 3, 0, 0) = some (f, na, kc, ks) from h)
      exact cx_callV (C := r_R) (T0 := f_R) (N0 := 21) (np := 2) cx_TbAll S.1 S.2.1 S.2.2.1 S.2.2.2.2.2.2 S.2.2.2.1 S.2.2.2.2.1 S.2.2.2.2.2.1 (by rw [hcl]; rfl) (c_R_truth hG hcl) wl_42 (by decide), List.forall_mem_cons.mpr ⟨fun f na kc ks h => by
      cases (show some (sp_R_refuses, 3, 0, 0) = some (f, na, kc, ks) from h)
      exact cx_callV (C := r_R) (T0 := f_R) (N0 := 21) (np := 2) cx_TbAll S.1 S.2.1 S.2.2.1 S.2.2.2.2.2.2 S.2.2.2.1 S.2.2.2.2.1 S.2.2.2.2.2.1 (by rw [hcl]; rfl) (c_R_refuses hG hcl) wl_49 (by decide), fun _ h => absurd h List.not_mem_nil⟩⟩)
    (fun S => fun _ h => absurd h List.not_mem_nil) rfl pu_R_run
abbrev rm_R_way : Room := { frames := 2, cells := 0, slots := 0, locals := 44 }
theorem c_R_way {l : Launch} {G : cx_G} (hG : cx_okG G) (hcl : cx_cl G = cx_cls) : cx_M cx_Tb l G m_R_way prog_6_method_22_code 6 (some (.int)) rm_R_way sp_R_way :=
  cx_mk hG (Sp := [(sp_R_refuses, 3, 0, 0)]) (Ex := []) k_R_way (fun S => g_R_ok S.1 S.2.1 S.2.2.2.2.2.2 hcl S.2.2.2.2.2.1) (fun S => p_R_ok S.1 S.2.1 S.2.2.2.2.2.2 hcl S.2.2.2.2.2.1) (fun h => l_R_ok h)
    (fun S => List.forall_mem_cons.mpr ⟨fun f na kc ks h => by
      cases (show some (sp_R_refuses, 3, 0, 0) = some (f, na, kc, ks) from h)
      exact cx_callV (C := r_R) (T0 := f_R) (N0 := 21) (np := 2) cx_TbAll S.1 S.2.1 S.2.2.1 S.2.2.2.2.2.2 S.2.2.2.1 S.2.2.2.2.1 S.2.2.2.2.2.1 (by rw [hcl]; rfl) (c_R_refuses hG hcl) wl_49 (by decide), fun _ h => absurd h List.not_mem_nil⟩)
    (fun S => fun _ h => absurd h List.not_mem_nil) rfl pu_R_way
abbrev rm_R_at : Room := { frames := 0, cells := 0, slots := 0, locals := 0 }
theorem c_R_at {l : Launch} {G : cx_G} (hG : cx_okG G) (hcl : cx_cl G = cx_cls) : cx_M cx_Tb l G m_R_at prog_6_method_23_code 4 (some (.int)) rm_R_at sp_R_at :=
  cx_mk hG (Sp := []) (Ex := []) k_R_at (fun S => g_R_ok S.1 S.2.1 S.2.2.2.2.2.2 hcl S.2.2.2.2.2.1) (fun S => p_R_ok S.1 S.2.1 S.2.2.2.2.2.2 hcl S.2.2.2.2.2.1) (fun h => l_R_ok h)
    (fun S => fun _ h => absurd h List.not_mem_nil)
    (fun S => fun _ h => absurd h List.not_mem_nil) rfl pu_R_at
abbrev rm_R_reach : Room := { frames := 0, cells := 0, slots := 0, locals := 0 }
theorem c_R_reach {l : Launch} {G : cx_G} (hG : cx_okG G) (hcl : cx_cl G = cx_cls) : cx_M cx_Tb l G m_R_reach prog_6_method_25_code 2 (some (.int)) rm_R_reach sp_R_reach :=
  cx_mk hG (Sp := []) (Ex := []) k_R_reach (fun S => g_R_ok S.1 S.2.1 S.2.2.2.2.2.2 hcl S.2.2.2.2.2.1) (fun S => p_R_ok S.1 S.2.1 S.2.2.2.2.2.2 hcl S.2.2.2.2.2.1) (fun h => l_R_ok h)
    (fun S => fun _ h => absurd h List.not_mem_nil)
    (fun S => fun _ h => absurd h List.not_mem_nil) rfl pu_R_reach
abbrev rm_R_size : Room := { frames := 2, cells := 0, slots := 0, locals := 44 }
theorem wl_50 : cx_wV cx_Tb "CycleCutterModel" r_R "" 120 1 m_R_reach prog_6_method_25_code 2 (some (.int)) := ⟨Or.inl (cx_in 663 (by decide +kernel) (by decide +kernel)), ⟨cx_in 665 (by decide +kernel) (by decide +kernel), cx_in 22 (by decide +kernel) (by decide +kernel), cx_in 666 (by decide +kernel) (by decide +kernel)⟩, ⟨by decide +kernel, ⟨by decide +kernel, by decide +kernel⟩, by decide +kernel⟩⟩
theorem c_R_size {l : Launch} {G : cx_G} (hG : cx_okG G) (hcl : cx_cl G = cx_cls) : cx_M cx_Tb l G m_R_size prog_6_method_24_code 8 (some (.int)) rm_R_size sp_R_size :=
  cx_mk hG (Sp := [(sp_R_refuses, 3, 0, 0), (sp_R_reach, 2, 0, 0)]) (Ex := []) k_R_size (fun S => g_R_ok S.1 S.2.1 S.2.2.2.2.2.2 hcl S.2.2.2.2.2.1) (fun S => p_R_ok S.1 S.2.1 S.2.2.2.2.2.2 hcl S.2.2.2.2.2.1) (fun h => l_R_ok h)
    (fun S => List.forall_mem_cons.mpr ⟨fun f na kc ks h => by
      cases (show some (sp_R_refuses, 3, 0, 0) = some (f, na, kc, ks) from h)
      exact cx_callV (C := r_R) (T0 := f_R) (N0 := 21) (np := 2) cx_TbAll S.1 S.2.1 S.2.2.1 S.2.2.2.2.2.2 S.2.2.2.1 S.2.2.2.2.1 S.2.2.2.2.2.1 (by rw [hcl]; rfl) (c_R_refuses hG hcl) wl_49 (by decide), List.forall_mem_cons.mpr ⟨fun f na kc ks h => by
      cases (show some (sp_R_reach, 2, 0, 0) = some (f, na, kc, ks) from h)
      exact cx_callV (C := r_R) (T0 := f_R) (N0 := 21) (np := 1) cx_TbAll S.1 S.2.1 S.2.2.1 S.2.2.2.2.2.2 S.2.2.2.1 S.2.2.2.2.1 S.2.2.2.2.2.1 (by rw [hcl]; rfl) (c_R_reach hG hcl) wl_50 (by decide), fun _ h => absurd h List.not_mem_nil⟩⟩)
    (fun S => fun _ h => absurd h List.not_mem_nil) rfl pu_R_size
abbrev rm_R_known : Room := { frames := 2, cells := 0, slots := 0, locals := 44 }
theorem c_R_known {l : Launch} {G : cx_G} (hG : cx_okG G) (hcl : cx_cl G = cx_cls) : cx_M cx_Tb l G m_R_known prog_6_method_26_code 4 (some (.int)) rm_R_known sp_R_known :=
  cx_mk hG (Sp := [(sp_R_refuses, 3, 0, 0), (sp_R_truth, 3, 0, 0)]) (Ex := []) k_R_known (fun S => g_R_ok S.1 S.2.1 S.2.2.2.2.2.2 hcl S.2.2.2.2.2.1) (fun S => p_R_ok S.1 S.2.1 S.2.2.2.2.2.2 hcl S.2.2.2.2.2.1) (fun h => l_R_ok h)
    (fun S => List.forall_mem_cons.mpr ⟨fun f na kc ks h => by
      cases (show some (sp_R_truth, 3, 0, 0) = some (f, na, kc, ks) from h)
      exact cx_callV (C := r_R) (T0 := f_R) (N0 := 21) (np := 2) cx_TbAll S.1 S.2.1 S.2.2.1 S.2.2.2.2.2.2 S.2.2.2.1 S.2.2.2.2.1 S.2.2.2.2.2.1 (by rw [hcl]; rfl) (c_R_truth hG hcl) wl_42 (by decide), List.forall_mem_cons.mpr ⟨fun f na kc ks h => by
      cases (show some (sp_R_refuses, 3, 0, 0) = some (f, na, kc, ks) from h)
      exact cx_callV (C := r_R) (T0 := f_R) (N0 := 21) (np := 2) cx_TbAll S.1 S.2.1 S.2.2.1 S.2.2.2.2.2.2 S.2.2.2.1 S.2.2.2.2.1 S.2.2.2.2.2.1 (by rw [hcl]; rfl) (c_R_refuses hG hcl) wl_49 (by decide), fun _ h => absurd h List.not_mem_nil⟩⟩)
    (fun S => fun _ h => absurd h List.not_mem_nil) rfl pu_R_known
abbrev rm_R_doubt : Room := { frames := 1, cells := 0, slots := 0, locals := 22 }
theorem c_R_doubt {l : Launch} {G : cx_G} (hG : cx_okG G) (hcl : cx_cl G = cx_cls) : cx_M cx_Tb l G m_R_doubt prog_6_method_27_code 4 (some (.int)) rm_R_doubt sp_R_doubt :=
  cx_mk hG (Sp := [(sp_R_fails, 3, 0, 0), (sp_R_truth, 3, 0, 0)]) (Ex := []) k_R_doubt (fun S => g_R_ok S.1 S.2.1 S.2.2.2.2.2.2 hcl S.2.2.2.2.2.1) (fun S => p_R_ok S.1 S.2.1 S.2.2.2.2.2.2 hcl S.2.2.2.2.2.1) (fun h => l_R_ok h)
    (fun S => List.forall_mem_cons.mpr ⟨fun f na kc ks h => by
      cases (show some (sp_R_fails, 3, 0, 0) = some (f, na, kc, ks) from h)
      exact cx_callV (C := r_R) (T0 := f_R) (N0 := 21) (np := 2) cx_TbAll S.1 S.2.1 S.2.2.1 S.2.2.2.2.2.2 S.2.2.2.1 S.2.2.2.2.1 S.2.2.2.2.2.1 (by rw [hcl]; rfl) (c_R_fails hG hcl) wl_38 (by decide), List.forall_mem_cons.mpr ⟨fun f na kc ks h => by
      cases (show some (sp_R_truth, 3, 0, 0) = some (f, na, kc, ks) from h)
      exact cx_callV (C := r_R) (T0 := f_R) (N0 := 21) (np := 2) cx_TbAll S.1 S.2.1 S.2.2.1 S.2.2.2.2.2.2 S.2.2.2.1 S.2.2.2.2.1 S.2.2.2.2.2.1 (by rw [hcl]; rfl) (c_R_truth hG hcl) wl_42 (by decide), fun _ h => absurd h List.not_mem_nil⟩⟩)
    (fun S => fun _ h => absurd h List.not_mem_nil) rfl pu_R_doubt
abbrev rm_R_count : Room := { frames := 0, cells := 0, slots := 0, locals := 0 }
theorem c_R_count {l : Launch} {G : cx_G} (hG : cx_okG G) (hcl : cx_cl G = cx_cls) : cx_M cx_Tb l G m_R_count prog_6_method_28_code 4 (some (.int)) rm_R_count sp_R_count :=
  cx_mk hG (Sp := []) (Ex := []) k_R_count (fun S => g_R_ok S.1 S.2.1 S.2.2.2.2.2.2 hcl S.2.2.2.2.2.1) (fun S => p_R_ok S.1 S.2.1 S.2.2.2.2.2.2 hcl S.2.2.2.2.2.1) (fun h => l_R_ok h)
    (fun S => fun _ h => absurd h List.not_mem_nil)
    (fun S => fun _ h => absurd h List.not_mem_nil) rfl pu_R_count
end
section
/-! Worlds that grow: constructors. -/
def cy_off (j : Nat) : Nat := if j ≤ 8 then j else if j = 9 then 129 else if j ≤ 23 then j + 240 else j + 250
def cy_gl (j : Nat) : Nat := if j = 8 then 120 else if j = 9 then 120 else if j = 23 then 10 else 0
theorem cy_mono : ∀ n, n < 42 → ∀ j, j < n → cy_off j + cy_gl j < cy_off n := by decide +kernel
/-- the places of the cells, one after the other behind what was there at the start -/
def cy_okG (G : cx_G) : Prop := (∀ j, cx_ad G j = (cx_H0 G).size + cy_off j) ∧ (∀ j i, cx_rd G j i = (cx_H0 G).size + cy_off j + 1 + i) ∧ (∀ j, cx_gl G j = cy_gl j) ∧ cx_N G = 41
theorem cy_gl_lt {j b : Nat} (h : b < cy_gl j) : j < 41 := by
  unfold cy_gl at h
  split at h
  · omega
  · split at h
    · omega
    · split at h
      · omega
      · omega
theorem cy_apart {i j b : Nat} (hi : i < 41) (hj : j < 41) (hb : b < cy_gl j) : cy_off i ≠ cy_off j + 1 + b := by
  intro e
  rcases Nat.lt_trichotomy i j with h | h | h
  · have := cy_mono j (by omega) i h
    omega
  · subst h
    omega
  · have := cy_mono i (by omega) j h
    omega
theorem cy_okG.ok {G : cx_G} (h : cy_okG G) : cx_okG G := by
  obtain ⟨h1, h2, h3, h4⟩ := h
  refine ⟨fun i j hi hj e => ?_, fun i a j b ha hb e => ?_, fun i j b hi hb e => ?_, fun i hi => by rw [h1]; omega, fun j b hb => by rw [h2]; omega⟩
  · rw [h4] at hi hj
    rw [h1, h1] at e
    rcases Nat.lt_trichotomy i j with h | h | h
    · have := cy_mono j (by omega) i h
      omega
    · exact h
    · have := cy_mono i (by omega) j h
      omega
  · rw [h3] at ha hb
    rw [h2, h2] at e
    have l1 := cy_gl_lt ha
    have l2 := cy_gl_lt hb
    rcases Nat.lt_trichotomy i j with h | h | h
    · have := cy_mono j (by omega) i h
      omega
    · subst h
      exact ⟨rfl, by omega⟩
    · have := cy_mono i (by omega) j h
      omega
  · rw [h4] at hi
    rw [h3] at hb
    rw [h1, h2] at e
    exact cy_apart hi (cy_gl_lt hb) hb (by omega)
theorem cx_P.push {G : cx_G} (hG : cy_okG G) {ws : List cx_C} {H H' : Heap} (hP : cx_P G ws H) (hz : H.size = cx_ad G ws.length) {x : cx_C} (hl : ws.length < 41) (hle : H.size ≤ H'.size) (ho : ∀ q : Nat, q < H.size → H'[q]? = H[q]?) (hx : cx_at G ws.length x H') (hn : ∀ (q : Nat) (cell : Cell), H.size ≤ q → H'[q]? = some cell → cell.vm = .none) : cx_P G (ws ++ [x]) H' := by
  obtain ⟨p1, p2, p3, p4⟩ := hP
  obtain ⟨h1, h2, h3, h4⟩ := hG
  refine ⟨fun j c hc => ?_, Nat.le_trans p2 hle, fun q hq => by rw [ho q (Nat.lt_of_lt_of_le hq p2)]; exact p3 q hq, fun q cell hq hc => ?_⟩
  · by_cases hj : j < ws.length
    · rw [List.getElem?_append_left hj] at hc
      obtain ⟨a1, a2⟩ := p1 j c hc
      have hm := cy_mono ws.length (by omega) j hj
      have e : H.size = (cx_H0 G).size + cy_off ws.length := by rw [hz, h1]
      exact ⟨a1, a2.kept (ho _ (by rw [h1]; omega)) (fun i hi => ho _ (by rw [h3] at hi; rw [h2]; omega))⟩
    · rw [List.getElem?_append_right (by omega)] at hc
      have h0 : j - ws.length < 1 := (List.getElem?_eq_some_iff.mp hc).1
      rw [show j - ws.length = 0 by omega] at hc
      cases hc
      have e : j = ws.length := by omega
      subst e
      exact ⟨by rw [h4]; exact hl, hx⟩
  · by_cases hq2 : q < H.size
    · rw [ho q hq2] at hc
      exact p4 q cell hq hc
    · exact hn q cell (by omega) hc
/-- how a growing world stands on the heap -/
def cy_F (G : cx_G) (mc ms : Nat) : cx_F := fun ws k n H locs => (cx_P G ws H ∧ (k ≤ mc ∧ n ≤ ms) ∧ ∀ q ∈ locs, (cx_H0 G).size ≤ q.base) ∧ H.size = cx_ad G ws.length
/-- what constructors know beside -/
def cy_Kn (G : cx_G) (U : State) : Prop := cx_Kn cx_Tb G U ∧ (U.vm.findClass "[I" = some (cx_tc G 0) ∧ U.vm.findClass "[Z" = some (cx_tc G 1) ∧ U.vm.findClass "[J" = some (cx_tc G 2) ∧ U.vm.findClass "[[J" = some (cx_tc G 3)) ∧ (Cond.arrayOver (.array .long)).before #[] U = true
theorem cy_Kn.warm {G : cx_G} {u U : State} (hW : u.WarmedH U.vm) (h : cy_Kn G u) : cy_Kn G U := by
  obtain ⟨h1, ⟨h2, h3, h4, h5⟩, h6⟩ := h
  refine ⟨h1.warm cx_TbAll hW, ⟨?_, ?_, ?_, ?_⟩, over_moved hW.alike h6⟩
  · rw [hW.alike.findClass]; exact h2
  · rw [hW.alike.findClass]; exact h3
  · rw [hW.alike.findClass]; exact h4
  · rw [hW.alike.findClass]; exact h5
section CYR
variable {p : Program} {l : Launch} {e : Env} {R : Room} {s : State} {m : MethodId} {args : Array Value} {below : List Frame} {meth : Method} {c : Code} {Q : State → Prop} {G : cx_G} {mc ms : Nat} {cc : ByteArray}
theorem cy_new (hG : cy_okG G) (hx : p.tables.exec = Jvm.exec) (hb : c.code = cc) (hKn : cx_Kn cx_Tb G s) {own C : String} {T0 : u_T} {N0 ci z pc : Nat} (hown : s.vm.findClass own = some m.cls) (hci : (cx_cl G)[ci]? = some (C, T0, N0)) (hin : ∀ w ∈ u_ws C T0 N0, w ∈ cx_Tb) (ty0 : Nat → FieldType) (hty : ∀ k, k < N0 → parseFieldDescriptor (T0 k).2.2.1 = some (ty0 k))
    (hw : Jvm.Cond.classLink own z C ∈ cx_Tb ∧ Jvm.Cond.instantiable C N0 ∈ cx_Tb ∧ Jvm.Cond.initialized C ∈ cx_Tb) {d : List cx_V} (hd : ∀ j, j < N0 → defaultValue (ty0 j) = vp_V (d.map (cx_v G)) j) (hdg : decode cc pc = .ok (.new z, 3)) {ws : List cx_C} {k n : Nat} {H : Heap} {locs : List Loc} {ls : Array Slot} {st : List Value}
    (hF : cy_F G mc ms ws k n H locs) (hl : ws.length < 41 ∧ cy_off (ws.length + 1) = cy_off ws.length + 1) (hk : k + 1 ≤ mc ∧ n + N0 ≤ ms) (hR : mc ≤ R.cells ∧ ms ≤ R.slots)
    (kk : ∀ H', cy_F G mc ms (ws ++ [.inl (ci, d)]) (k + 1) (n + N0) H' locs → W p l e R s m args below meth c H' locs (k + 1) (n + N0) Q (F0 m (pc + 3) ls (.ref (cx_ad G ws.length) :: st))) : W p l e R s m args below meth c H locs k n Q (F0 m pc ls st) := by
  obtain ⟨⟨hP, hkn, hL⟩, hz⟩ := hF
  have hK := hKn.2.1.1 ci _ hci
  refine W.newcK hx hb hown (hKn.1 _ hw.1 args) (hKn.1 _ hw.2.1 args) (hKn.1 _ hw.2.2 args) rfl hdg (Nat.le_trans hk.1 hR.1) (Nat.le_trans hk.2 hR.2) hK.2.1 rfl fun H1 kC hkC e1 z1 o1 => ?_
  rw [hz]
  refine kk H1 ⟨⟨cx_P.push hG hP hz hl.1 (by omega) o1 ?_ (fun q cell hq hc => ?_), hk, hL⟩, ?_⟩
  · show va_at (cx_D G) (cx_cl G) (cx_ad G ws.length, .inr (ci, d.map (cx_v G))) H1
    rw [← hz]
    exact ⟨_, hci, (u_born ty0 (fun w hw => hKn.1 w hw args) hin hK hkC e1 hty).to hd⟩
  · have := (Array.getElem?_eq_some_iff.mp hc).1
    rw [show q = H.size by omega, e1] at hc
    cases hc
    rfl
  · rw [z1, hz, List.length_append, List.length_singleton, hG.1, hG.1, hl.2]
    omega
/-- the kinds of arrays -/
def cy_zero (b a : Nat) : cx_C := match b with
  | 0 => .inr (.inl (a, fun _ => 0))
  | 1 => .inr (.inr (.inl (a, fun _ => 0)))
  | _ => .inr (.inr (.inr (.inl (a, fun _ => 0))))
theorem cy_newa (hG : cy_okG G) (hx : p.tables.exec = Jvm.exec) (hb : c.code = cc) (hKn : cy_Kn G s) {at0 : ArrayType} {b pc a : Nat} (hat : (at0 = .int ∧ b = 0) ∨ (at0 = .boolean ∧ b = 1) ∨ (at0 = .long ∧ b = 2)) (ha : a < 65536) (hdg : decode cc pc = .ok (.newarray at0, 2))
    {ws : List cx_C} {k n : Nat} {H : Heap} {locs : List Loc} {ls : Array Slot} {st : List Value} (hF : cy_F G mc ms ws k n H locs) (hl : ws.length < 41 ∧ cy_off (ws.length + 1) = cy_off ws.length + 1) (hk : k + 1 ≤ mc ∧ n + a ≤ ms) (hR : mc ≤ R.cells ∧ ms ≤ R.slots)
    (kk : ∀ H', cy_F G mc ms (ws ++ [cy_zero b a]) (k + 1) (n + a) H' locs → W p l e R s m args below meth c H' locs (k + 1) (n + a) Q (F0 m (pc + 2) ls (.ref (cx_ad G ws.length) :: st))) : W p l e R s m args below meth c H locs k n Q (F0 m pc ls (.int (nI a) :: st)) := by
  obtain ⟨⟨hP, hkn, hL⟩, hz⟩ := hF
  have i1 : Jvm.Cond.arrayClass .int ∈ cx_Tb := cx_in 93 (by decide +kernel) (by decide +kernel)
  have i2 : Jvm.Cond.arrayClass .boolean ∈ cx_Tb := cx_in 94 (by decide +kernel) (by decide +kernel)
  have i3 : Jvm.Cond.arrayClass .long ∈ cx_Tb := cx_in 95 (by decide +kernel) (by decide +kernel)
  have hn0 : ¬ nI a < 0 := nI_pos (by omega)
  have hN : (nI a).toNatClampNeg = a := nx_c (by omega)
  have fin : ∀ (H1 : Heap) (cA : ClassId) (x : Value), H1[H.size]? = some (arrV cA a (fun _ => x)) → H1.size = H.size + 1 → (∀ q, q < H.size → H1[q]? = H[q]?) → cx_at G ws.length (cy_zero b a) H1 → cy_F G mc ms (ws ++ [cy_zero b a]) (k + 1) (n + a) H1 locs := by
    intro H1 cA x e1 z1 o1 hat
    refine ⟨⟨cx_P.push hG hP hz hl.1 (by omega) o1 hat (fun q cell hq hc => ?_), hk, hL⟩, ?_⟩
    · have := (Array.getElem?_eq_some_iff.mp hc).1
      rw [show q = H.size by omega, e1] at hc
      cases hc
      rfl
    · rw [z1, hz, List.length_append, List.length_singleton, hG.1, hG.1, hl.2]
      omega
  rcases hat with ⟨rfl, rfl⟩ | ⟨rfl, rfl⟩ | ⟨rfl, rfl⟩
  · refine va_newaK (atype := .int) hx hb (hKn.1.1 _ i1 args) rfl hdg rfl hn0 hN (by show a * componentBytes .int ≤ _; show a * 4 ≤ _; omega) (Nat.le_trans hk.1 hR.1) (Nat.le_trans hk.2 hR.2) rfl fun H1 cA e1 z1 o1 hAr hNm => ?_
    have ec : cA = cx_tc G 0 := Option.some.inj (hNm.symm.trans hKn.2.1.1)
    rw [hz]
    refine kk H1 (fin H1 cA _ e1 z1 o1 ?_)
    show H1[cx_ad G ws.length]? = some (arrV (cx_tc G 0) a (fun i => .int 0))
    rw [← hz, ← ec]
    exact e1
  · refine va_newaK (atype := .boolean) hx hb (hKn.1.1 _ i2 args) rfl hdg rfl hn0 hN (by show a * componentBytes .boolean ≤ _; show a * 1 ≤ _; omega) (Nat.le_trans hk.1 hR.1) (Nat.le_trans hk.2 hR.2) rfl fun H1 cA e1 z1 o1 hAr hNm => ?_
    have ec : cA = cx_tc G 1 := Option.some.inj (hNm.symm.trans hKn.2.1.2.1)
    rw [hz]
    refine kk H1 (fin H1 cA _ e1 z1 o1 ?_)
    show H1[cx_ad G ws.length]? = some (arrV (cx_tc G 1) a (fun i => .int 0))
    rw [← hz, ← ec]
    exact e1
  · refine va_newaK (atype := .long) hx hb (hKn.1.1 _ i3 args) rfl hdg rfl hn0 hN (by show a * componentBytes .long ≤ _; show a * 8 ≤ _; omega) (Nat.le_trans hk.1 hR.1) (Nat.le_trans hk.2 hR.2) rfl fun H1 cA e1 z1 o1 hAr hNm => ?_
    have ec : cA = cx_tc G 2 := Option.some.inj (hNm.symm.trans hKn.2.1.2.2.1)
    rw [hz]
    refine kk H1 (fin H1 cA _ e1 z1 o1 ?_)
    show H1[cx_ad G ws.length]? = some (arrV (cx_tc G 2) a (fun i => .long 0))
    rw [← hz, ← ec]
    exact e1
theorem cy_outer (c : ClassId) (N h0 : Nat) : ∀ i : Nat, Jvm.Free.Multi.outerC c N h0 i = arrV c N (fun j => if j < i then .ref (h0 + 1 + j) else .null)
  | 0 => by
    show ({ cls := c, slots := Array.replicate N .null, vm := .none } : Cell) = _
    rw [arrV_new]
    rfl
  | i + 1 => by
    show (Jvm.Free.Multi.outerC c N h0 i).setSlot i (.ref (h0 + 1 + i)) = _
    rw [cy_outer c N h0 i, arrV_store]
    refine congrArg (arrV c N) (funext fun j => ?_)
    unfold updV
    by_cases e : j = i
    · subst e
      rw [if_pos rfl, if_pos (Nat.lt_succ_self _)]
    · by_cases h : j < i
      · rw [if_neg e, if_pos (show j < i + 1 by omega)]
        exact if_pos h
      · rw [if_neg e, if_neg (show ¬ j < i + 1 by omega)]
        exact if_neg h
theorem cy_arrV {c : ClassId} {N : Nat} {f g : Nat → Value} (h : ∀ j, j < N → f j = g j) : arrV c N f = arrV c N g := by
  have e : (fun j : Fin N => f j.val) = fun j => g j.val := funext fun j => h j.val j.isLt
  unfold arrV
  rw [e]
theorem cy_grid (hG : cy_okG G) (hx : p.tables.exec = Jvm.exec) (hb : c.code = cc) (hKn : cy_Kn G s) {own : String} (hown : s.vm.findClass own = some m.cls) {z pc a b : Nat} (hw : Jvm.Cond.classLink own z "[[J" ∈ cx_Tb) (ha : a < 65536 ∧ b < 65536) (hdg : decode cc pc = .ok (.multianewarray z 2, 4))
    {ws : List cx_C} {k n : Nat} {H : Heap} {locs : List Loc} {ls : Array Slot} {st : List Value} (hF : cy_F G mc ms ws k n H locs) (hl : ws.length < 41 ∧ cy_off (ws.length + 1) = cy_off ws.length + 1 + a ∧ cy_gl ws.length = a) (hk : k + 1 + a ≤ mc ∧ n + a + a * b ≤ ms) (hR : mc ≤ R.cells ∧ ms ≤ R.slots)
    (kk : ∀ H', cy_F G mc ms (ws ++ [.inr (.inr (.inr (.inr (a, b, fun _ _ => 0))))]) (k + 1 + a) (n + a + a * b) H' locs → W p l e R s m args below meth c H' locs (k + 1 + a) (n + a + a * b) Q (F0 m (pc + 4) ls (.ref (cx_ad G ws.length) :: st))) : W p l e R s m args below meth c H locs k n Q (F0 m pc ls (.int (nI b) :: .int (nI a) :: st)) := by
  obtain ⟨⟨hP, hkn, hL⟩, hz⟩ := hF
  have i3 : Jvm.Cond.arrayClass .long ∈ cx_Tb := cx_in 95 (by decide +kernel) (by decide +kernel)
  have hpos : ∀ x, x < 65536 → ¬ nI x < 0 := fun x hx => nI_pos (by omega)
  have hNa : (nI a).toNatClampNeg = a := nx_c (by omega)
  have hNb : (nI b).toNatClampNeg = b := nx_c (by omega)
  intro T hT X
  obtain ⟨vm₁, cA, comp, -, fA, fC, -, -, X', step⟩ := X.multianewarray2F hx hown (hKn.1.1 _ hw args) (over_moved (Vm.Alike.refl _) hKn.2.2) (hKn.1.1 _ i3 args) (g := F0 m pc ls (.int (nI b) :: .int (nI a) :: st)) rfl (by rw [hb]; exact hdg) (n := nI a) (k := nI b) (rest := st) rfl (hpos a ha.1) (hpos b ha.2) (by rw [hNa]; omega) (by rw [hNb]; show b * 8 ≤ _; omega) (by rw [hNb]; omega) rfl rfl (by rw [hNa]; have := hk.1; have := hR.1; omega) (by rw [hNa, hNb]; have := hk.2; have := hR.2; omega)
  rw [hNa, hNb] at X' step
  have ecA : cA = cx_tc G 3 := Option.some.inj (fA.symm.trans hKn.2.1.2.2.2)
  have ecC : comp = cx_tc G 2 := Option.some.inj (fC.symm.trans hKn.2.1.2.2.1)
  have hTh : (T.setVm vm₁).heap = H := hT
  obtain ⟨f1, f2, -, -⟩ := Jvm.Free.Multi.fill_facts (T.setVm vm₁) cA comp a b (defaultValue .long) a
  have f3 : ∀ q : Nat, q < H.size → (Jvm.Free.Multi.fill (T.setVm vm₁) cA comp a b (defaultValue .long) a).heap[q]? = H[q]? := fun q hq => by
    have := Jvm.Free.Multi.fill_old (T.setVm vm₁) cA comp a b (defaultValue .long) (a := q) (by rw [hTh]; exact hq) a
    rw [hTh] at this
    exact this
  have f4 : ∀ j : Nat, j < a → (Jvm.Free.Multi.fill (T.setVm vm₁) cA comp a b (defaultValue .long) a).heap[H.size + 1 + j]? = some (arrV comp b (fun _ => .long 0)) := fun j hj => by
    have := Jvm.Free.Multi.fill_inner (T.setVm vm₁) cA comp a b (defaultValue .long) a j hj
    rw [hTh] at this
    rw [this, ← arrV_new]
    rfl
  rw [hTh] at f1 f2
  have hsz : H.size = (cx_H0 G).size + cy_off ws.length := by rw [hz, hG.1]
  generalize hFl : Jvm.Free.Multi.fill (T.setVm vm₁) cA comp a b (defaultValue .long) a = U at X' step f1 f2 f3 f4
  have hPU : cx_P G (ws ++ [.inr (.inr (.inr (.inr (a, b, fun _ _ => 0))))]) U.heap := by
    refine cx_P.push hG hP hz hl.1 (by omega) f3 ⟨by rw [hG.2.2.1, hl.2.2]; exact Nat.le_refl _, ?_, fun i hi => ?_⟩ (fun q cell hq hc => ?_)
    · show U.heap[cx_ad G ws.length]? = _
      rw [← hz, f2, cy_outer, ecA]
      refine congrArg some (cy_arrV fun j hj => ?_)
      rw [if_pos hj, hG.2.1, hsz]
    · show U.heap[cx_rd G ws.length i]? = some (arrV _ b _)
      rw [hG.2.1, ← hsz, f4 i hi, ecC]
    · have hlt := (Array.getElem?_eq_some_iff.mp hc).1
      by_cases e0 : q = H.size
      · subst e0
        rw [f2] at hc
        cases hc
        exact (Jvm.Free.Multi.outerC_facts _ _ _ _).2.1
      · rw [show q = H.size + 1 + (q - H.size - 1) by omega, f4 (q - H.size - 1) (by omega)] at hc
        cases hc
        rfl
  obtain ⟨t, a1, b1⟩ := kk U.heap ⟨⟨hPU, hk, hL⟩, by rw [f1, hz, List.length_append, List.length_singleton, hG.1, hG.1, hl.2.1]; omega⟩ U rfl X'
  refine ⟨t, step t ?_, b1⟩
  rw [show (T.heap.size : Nat) = cx_ad G ws.length by rw [← hz]; exact congrArg Array.size hT]
  exact a1
end CYR
end
section
/-! The machine with steps of one's own at some places; constructors. -/
abbrev cz_Z : Type := cx_L → List cx_V → List cx_C → Nat → Nat → cx_K → Prop
def cz_get (Zs : List (Nat × cz_Z)) (pc : Nat) : Option cz_Z := match Zs with
  | [] => none
  | q :: r => (match Nat.beq q.1 pc with
    | true => some q.2
    | false => cz_get r pc)
theorem cz_get_spec {Zs : List (Nat × cz_Z)} {pc : Nat} {Z : cz_Z} (h : cz_get Zs pc = some Z) : (pc, Z) ∈ Zs := by
  induction Zs with
  | nil => cases h
  | cons q r ih =>
    unfold cz_get at h
    split at h
    · rename_i e
      cases h
      have := Nat.eq_of_beq_eq_true e
      subst this
      exact List.mem_cons_self
    · exact List.mem_cons_of_mem _ (ih h)
def cz_ax (T : List (Nat × cx_E)) (Zs : List (Nat × cz_Z)) (Sw : List (Nat × List Nat)) (mc ms : Nat) (P : List Nat) (R : cx_R) (K : cx_K) (n : Nat) (pc : Nat) (lv : cx_L) (st : List cx_V) (ws : List cx_C) (c s : Nat) : Prop := match n with
  | 0 => K pc lv st ws c s
  | n + 1 => match cz_get Zs pc with
    | some Z => Z lv st ws c s (fun pc lv st ws c s => match cx_stop P pc with
      | true => K pc lv st ws c s
      | false => cz_ax T Zs Sw mc ms P R K n pc lv st ws c s)
    | none => match cx_get T pc with
      | some en => cx_1 [] [] Sw mc ms en lv st ws c s (fun pc lv st ws c s => match cx_stop P pc with
        | true => K pc lv st ws c s
        | false => cz_ax T Zs Sw mc ms P R K n pc lv st ws c s) R
      | none => False
def cz_cl (T : List (Nat × cx_E)) (Zs : List (Nat × cz_Z)) (Sw : List (Nat × List Nat)) (mc ms : Nat) (Rq : cx_R) (V : cx_K) : Prop :=
  ∀ (P : List Nat) (n pc : Nat) (lv : cx_L) (st : List cx_V) (ws : List cx_C) (k i : Nat), cz_ax T Zs Sw mc ms P Rq V n pc lv st ws k i → V pc lv st ws k i
section CZS
variable {p : Program} {l : Launch} {e : Env} {R : Room} {s : State} {m : MethodId} {args : Array Value} {below : List Frame} {meth : Method} {c : Code} {Q : State → Prop} {G : cx_G} {nL mc ms : Nat} {cc : ByteArray} {Tb : List Cond} {Rq : cx_R}
/-- a step of one's own is right -/
def cz_ok (p : Program) (l : Launch) (e : Env) (R : Room) (s : State) (m : MethodId) (args : Array Value) (below : List Frame) (meth : Method) (c : Code) (G : cx_G) (nL : Nat) (F : cx_F) (Q : State → Prop) (q : Nat × cz_Z) : Prop :=
  ∀ (lv : cx_L) (st : List cx_V) (ws : List cx_C) (k n : Nat) (K : cx_K), q.2 lv st ws k n K → (∀ pc lv st ws k n, K pc lv st ws k n → cx_AW p l e R s m args below meth c G nL F Q pc lv st ws k n) → cx_AW p l e R s m args below meth c G nL F Q q.1 lv st ws k n
theorem cz_sound {wr : Bool} {F0c : cx_F} {own : String} {rt : Option FieldType} {F : List (Nat × Nat × Nat)} {FP : List (Nat × Nat × Nat × Int32)} {LC : List (Nat × Int64)} {T : List (Nat × cx_E)} {Zs : List (Nat × cz_Z)} {Sw : List (Nat × List Nat)} {free : Addr → Prop}
    (hx : p.tables.exec = Jvm.exec) (hb : c.code = cc) (hG : cx_okG G) (hKn : cx_Kn Tb G s) (hlocks : meth.locks = false) (hr : meth.sig.returnType = rt) (hown : s.vm.findClass own = some m.cls)
    (hFP : ∀ ws k n H locs, F0c ws k n H locs → cx_P G ws H ∧ (k ≤ mc ∧ n ≤ ms) ∧ ∀ q ∈ locs, (cx_H0 G).size ≤ q.base)
    (hfree : ∀ ws k n H locs, F0c ws k n H locs → ∀ q ∈ locs, free q.base) (hRet : ∀ ws k n H locs u t, F0c ws k n H locs → Rq (.inl u) ws → cx_end0 below args G s k n free H u t → Q t)
    (hFw : wr = true → ∀ (ws ws' : List cx_C) (k n : Nat) (H H' : Heap) (locs : List Loc) (a i : Nat), F0c ws k n H locs → cx_P G ws' H' → (cx_H0 G).size ≤ a → H'.size = H.size → ws'.length = ws.length → F0c ws' k n H' (locs ++ [⟨a, i⟩]))
    (okF : ∀ q ∈ F, cx_okget p l e R s m args below meth c cc G Q q.1 q.2.1 q.2.2)
    (okP : ∀ q ∈ FP, cx_okput p l e R s m args below meth c cc G Q q.1 q.2.1 q.2.2.1 q.2.2.2)
    (okL : ∀ q ∈ LC, (Jvm.Cond.constantLong own q.1 q.2).before args s = true)
    (okZ : ∀ q ∈ Zs, cz_ok p l e R s m args below meth c G nL F0c Q q)
    (hT : T.all (cx_dec wr cc rt nL F FP LC [] [] [] Sw) = true) {P : List Nat} {K : cx_K} (hK : ∀ pc lv st ws k n, K pc lv st ws k n → cx_AW p l e R s m args below meth c G nL F0c Q pc lv st ws k n) :
    ∀ (i : Nat) {pc : Nat} {lv : cx_L} {st : List cx_V} {ws : List cx_C} {k n : Nat}, cz_ax T Zs Sw mc ms P Rq K i pc lv st ws k n → cx_AW p l e R s m args below meth c G nL F0c Q pc lv st ws k n := by
  intro i
  induction i with
  | zero => intro pc lv st ws k n h; exact hK _ _ _ _ _ _ h
  | succ i ih =>
    intro pc lv st ws k n h
    unfold cz_ax at h
    split at h
    · rename_i Z hZ
      refine okZ _ (cz_get_spec hZ) lv st ws k n _ h (fun pc lv st ws k n q => ?_)
      split at q
      · exact hK _ _ _ _ _ _ q
      · exact ih q
    · split at h
      · rename_i en hen
        obtain ⟨d1, d3, d2⟩ := cx_dec_spec (List.all_eq_true.mp hT _ (cx_get_spec hen))
        refine cx_s1 (Ex := []) (Sp := []) (CV := []) (CS := []) (TH := []) hx hb hG hKn hlocks hr hown hFP hfree hRet hFw okF okP okL (fun q hq => by cases hq) (fun q hq => by cases hq) (fun q hq => by cases hq) d1 d3 d2 (fun pc lv st ws k n q => ?_) h
        split at q
        · exact hK _ _ _ _ _ _ q
        · exact ih q
      · exact h.elim
end CZS
/-! Constructors. -/
def cy_Q (below : List Frame) (G : cx_G) (s : State) (mc ms : Nat) (Rq : List cx_C → Prop) : State → Prop := fun t => ∃ ws : List cx_C, t.status = .running ∧ Ended t below (.returned none) ∧ Rq ws ∧ cx_P G ws t.heap ∧ t.heap.size = cx_ad G ws.length ∧ s.WarmedH t.vm ∧ ∃ L : List Loc, s.sameButNew ({ t with vm := s.vm } : State) L mc ms ∧ ∀ q ∈ L, (cx_H0 G).size ≤ q.base
abbrev cy_S : Type := Nat → List cx_C → (List cx_C → Prop) → Prop
def cy_M (l : Launch) (G : cx_G) (y : MethodName) (cc : ByteArray) (nL : Nat) (rm : Room) (f : cy_S) : Prop :=
  ∀ (j : Nat) (ws : List cx_C) (Rq : List cx_C → Prop), f j ws Rq → ∀ (p : Program) (e : Env) (s : State) (m : MethodId) (below : List Frame) (meth : Method) (c : Code), p.tables.exec = Jvm.exec → c.code = cc → c.maxLocals = nL → meth.sig.returnType = none → meth.name = "<init>" → meth.locks = false → c.exceptionTable.isEmpty = true → s.vm.findClass y.cls = some m.cls → cy_Kn G s → cx_P G ws s.heap → s.heap.size = cx_ad G ws.length →
    W p l e rm s m (([.inr (.inr (.inl j))] : List cx_V).map (cx_v G)).toArray below meth c s.heap [] 0 0 (cy_Q below G s rm.cells rm.slots Rq) (entryFrame m (([.inr (.inr (.inl j))] : List cx_V).map (cx_v G)).toArray nL)
abbrev cy_St (G : cx_G) (y : MethodName) (cc : ByteArray) (nL : Nat) (p : Program) (s : State) (m : MethodId) (meth : Method) (c : Code) : Prop :=
  p.tables.exec = Jvm.exec ∧ c.code = cc ∧ c.maxLocals = nL ∧ meth.locks = false ∧ meth.name = "<init>" ∧ s.vm.findClass y.cls = some m.cls ∧ cy_Kn G s
theorem cy_mk {l : Launch} {G : cx_G} (hG : cy_okG G) {y : MethodName} {cc : ByteArray} {nL : Nat} {rm : Room} {f : cy_S} {FP : List (Nat × Nat × Nat × Int32)} {T : List (Nat × cx_E)} {Zs : List (Nat × cz_Z)} (hnL : 1 ≤ nL)
    (hT : T.all (cx_dec true cc none nL [] FP [] [] [] [] []) = true)
    (okP : ∀ {p e s m args below meth c Q}, cy_St G y cc nL p s m meth c → ∀ q ∈ FP, cx_okput p l e rm s m args below meth c cc G Q q.1 q.2.1 q.2.2.1 q.2.2.2)
    (okZ : ∀ {p e s m args below meth c Q}, cy_St G y cc nL p s m meth c → ∀ q ∈ Zs, cz_ok p l e rm s m args below meth c G nL (cy_F G rm.cells rm.slots) Q q)
    (pure : ∀ j ws Rq, f j ws Rq → ∀ V, cz_cl T Zs [] rm.cells rm.slots (fun o ws => o = .inl none ∧ Rq ws) V → V 0 (cx_lv0 [.inr (.inr (.inl j))] nL) [] ws 0 0) : cy_M l G y cc nL rm f := by
  intro j ws Rq hf p e s m below meth c hx hb hml hr hnm hlocks hne hown hKn hP hz
  have S : cy_St G y cc nL p s m meth c := ⟨hx, hb, hml, hlocks, hnm, hown, hKn⟩
  refine cx_enter (lv := cx_lv0 [.inr (.inr (.inl j))] nL) (F := cy_F G rm.cells rm.slots) (by rw [cx_sl_len, cx_cats_eq]; exact hnL) (fun t u h => cx_lv0_get h) ⟨⟨hP, ⟨Nat.zero_le _, Nat.zero_le _⟩, fun q hq => by cases hq⟩, hz⟩ ?_
  refine pure j ws Rq hf (cx_AW p l e rm s m _ below meth c G nL (cy_F G rm.cells rm.slots) (cy_Q below G s rm.cells rm.slots Rq)) (fun P n pc lv st ws k i h => ?_)
  refine cz_sound (free := fun q => (cx_H0 G).size ≤ q) (wr := true) (F := []) (LC := []) hx hb hG.ok hKn.1 hlocks hr hown (fun ws k n H locs h => h.1) (fun ws k n H locs h => h.1.2.2) (fun ws k n H locs u t h1 h2 h3 => ?_)
    (fun _ ws ws' k n H H' locs a i h1 h2 h3 h4 h5 => ⟨⟨h2, h1.1.2.1, cx_locs h1.1.2.2 h3⟩, by rw [h4, h5]; exact h1.2⟩) (fun q hq => by cases hq) (okP S) (fun q hq => by cases hq) (okZ S) hT (fun pc lv st ws k i h => h) n h
  obtain ⟨h2a, h2b⟩ := h2
  cases h2a
  obtain ⟨o, q1, q2, ⟨q3, q4⟩, L, ⟨-, q5, q6⟩, q7⟩ := h3
  have q3' : o = .returned none := q3
  subst q3'
  exact ⟨ws, q1, q2, h2b, by rw [q4]; exact h1.1.1, by rw [q4]; exact h1.2, q5, L, q6.mono h1.1.2.1.1 h1.1.2.1.2, q7⟩
/-- the steps of one's own -/
def zNewa (nx b a mc ms : Nat) : cz_Z := fun lv st ws k n K => cx_i1 st (fun x r => (x = nI a ∧ (ws.length < 41 ∧ cy_off (ws.length + 1) = cy_off ws.length + 1) ∧ k + 1 ≤ mc ∧ n + a ≤ ms) ∧ cx_fo 42 (ws ++ [cy_zero b a]) (fun ws' => K nx lv (.inr (.inr (.inl ws.length)) :: r) ws' (k + 1) (n + a)))
def zGrid (nx a b mc ms : Nat) : cz_Z := fun lv st ws k n K => cx_ii st (fun x y r => ((x = nI a ∧ y = nI b) ∧ (ws.length < 41 ∧ cy_off (ws.length + 1) = cy_off ws.length + 1 + a ∧ cy_gl ws.length = a) ∧ k + 1 + a ≤ mc ∧ n + a + a * b ≤ ms) ∧ cx_fo 42 (ws ++ [.inr (.inr (.inr (.inr (a, b, fun _ _ => 0))))]) (fun ws' => K nx lv (.inr (.inr (.inl ws.length)) :: r) ws' (k + 1 + a) (n + a + a * b)))
def zNew (nx ci N0 : Nat) (d : List cx_V) (mc ms : Nat) : cz_Z := fun lv st ws k n K => ((ws.length < 41 ∧ cy_off (ws.length + 1) = cy_off ws.length + 1) ∧ k + 1 ≤ mc ∧ n + N0 ≤ ms) ∧ cx_fo 42 (ws ++ [.inl (ci, d)]) (fun ws' => K nx lv (.inr (.inr (.inl ws.length)) :: st) ws' (k + 1) (n + N0))
def zObj (nx : Nat) : cz_Z := fun lv st ws k n K => cx_p1 st (fun _ r => cx_cats r ≤ 8 ∧ K nx lv r ws k n)
def zCtor (nx : Nat) (f : cy_S) (kc ks mc ms : Nat) : cz_Z := fun lv st ws k n K => cx_p1 st (fun j r => (k + kc ≤ mc ∧ n + ks ≤ ms ∧ cx_cats r ≤ 8) ∧ f j ws (fun ws' => K nx lv r ws' (k + kc) (n + ks)))
section CYZ
variable {p : Program} {l : Launch} {e : Env} {R : Room} {s : State} {m : MethodId} {args : Array Value} {below : List Frame} {meth : Method} {c : Code} {Q : State → Prop} {G : cx_G} {nL mc ms : Nat} {cc : ByteArray}
theorem zNewa_ok (hG : cy_okG G) (hx : p.tables.exec = Jvm.exec) (hb : c.code = cc) (hKn : cy_Kn G s) {at0 : ArrayType} {b pc a : Nat} (hat : (at0 = .int ∧ b = 0) ∨ (at0 = .boolean ∧ b = 1) ∨ (at0 = .long ∧ b = 2)) (ha : a < 65536) (hdg : decode cc pc = .ok (.newarray at0, 2)) (hR : mc ≤ R.cells ∧ ms ≤ R.slots) :
    cz_ok p l e R s m args below meth c G nL (cy_F G mc ms) Q (pc, zNewa (pc + 2) b a mc ms) := by
  intro lv st ws k n K h hK H locs ls hF hl
  obtain ⟨x, r, rfl, h⟩ := cx_i1_spec h
  obtain ⟨⟨rfl, h1, h2⟩, h3⟩ := h
  rw [cx_fo_eq] at h3
  exact cy_newa hG hx hb hKn hat ha hdg hF h1 h2 hR (fun H' hF' => hK _ _ _ _ _ _ h3 H' locs ls hF' hl)
theorem zGrid_ok (hG : cy_okG G) (hx : p.tables.exec = Jvm.exec) (hb : c.code = cc) (hKn : cy_Kn G s) {own : String} (hown : s.vm.findClass own = some m.cls) {z pc a b : Nat} (hw : Jvm.Cond.classLink own z "[[J" ∈ cx_Tb) (ha : a < 65536 ∧ b < 65536) (hdg : decode cc pc = .ok (.multianewarray z 2, 4)) (hR : mc ≤ R.cells ∧ ms ≤ R.slots) :
    cz_ok p l e R s m args below meth c G nL (cy_F G mc ms) Q (pc, zGrid (pc + 4) a b mc ms) := by
  intro lv st ws k n K h hK H locs ls hF hl
  obtain ⟨x, y, r, rfl, h⟩ := cx_ii_spec h
  obtain ⟨⟨⟨rfl, rfl⟩, h1, h2⟩, h3⟩ := h
  rw [cx_fo_eq] at h3
  exact cy_grid hG hx hb hKn hown hw ha hdg hF h1 h2 hR (fun H' hF' => hK _ _ _ _ _ _ h3 H' locs ls hF' hl)
theorem zNew_ok (hG : cy_okG G) (hx : p.tables.exec = Jvm.exec) (hb : c.code = cc) (hKn : cx_Kn cx_Tb G s) {own C : String} {T0 : u_T} {N0 ci z pc : Nat} (hown : s.vm.findClass own = some m.cls) (hci : (cx_cl G)[ci]? = some (C, T0, N0)) (hin : ∀ w ∈ u_ws C T0 N0, w ∈ cx_Tb) (ty0 : Nat → FieldType) (hty : ∀ k, k < N0 → parseFieldDescriptor (T0 k).2.2.1 = some (ty0 k))
    (hw : Jvm.Cond.classLink own z C ∈ cx_Tb ∧ Jvm.Cond.instantiable C N0 ∈ cx_Tb ∧ Jvm.Cond.initialized C ∈ cx_Tb) {d : List cx_V} (hd : ∀ j, j < N0 → defaultValue (ty0 j) = vp_V (d.map (cx_v G)) j) (hdg : decode cc pc = .ok (.new z, 3)) (hR : mc ≤ R.cells ∧ ms ≤ R.slots) :
    cz_ok p l e R s m args below meth c G nL (cy_F G mc ms) Q (pc, zNew (pc + 3) ci N0 d mc ms) := by
  intro lv st ws k n K h hK H locs ls hF hl
  obtain ⟨⟨h1, h2⟩, h3⟩ := h
  rw [cx_fo_eq] at h3
  exact cy_new hG hx hb hKn hown hci hin ty0 hty hw hd hdg hF h1 h2 hR (fun H' hF' => hK _ _ _ _ _ _ h3 H' locs ls hF' hl)
theorem zObj_ok {F : cx_F} (hx : p.tables.exec = Jvm.exec) (hb : c.code = cc) (hml : c.maxLocals = nL) (hKn : cx_Kn cx_Tb G s) {own : String} (hown : s.vm.findClass own = some m.cls) {z pc : Nat} (hw : Jvm.Cond.methodLink own z Lib.objectInit ∈ cx_Tb) (hdg : decode cc pc = .ok (.invokespecial z, 3)) (hR : 1 ≤ R.frames ∧ 20 ≤ R.locals) :
    cz_ok p l e R s m args below meth c G nL F Q (pc, zObj (pc + 3)) := by
  intro lv st ws k n K h hK H locs ls hF hl
  obtain ⟨j, r, rfl, h0, h⟩ := cx_p1_spec h
  have i1 : Jvm.Cond.instanceMethod Lib.objectInit ∈ cx_Tb := cx_in 43 (by decide +kernel) (by decide +kernel)
  have i2 : Jvm.Cond.code Lib.objectInit ⟨#[0xb1]⟩ 1 none ∈ cx_Tb := cx_in 44 (by decide +kernel) (by decide +kernel)
  refine W.objInit hx hb hown (hKn.1 _ hw args) (hKn.1 _ i1 args) (hKn.1 _ i2 args) rfl (by rw [hml]; exact hl.1) (a := cx_ad G j) (rest := r.map (cx_v G)) rfl hdg hR.1 ?_ (hK _ _ _ _ _ _ h H locs ls hF hl)
  have := hR.2
  show 2 * 0 + ((r.map (cx_v G)).map fun v => v.category).sum + 12 ≤ _
  rw [cx_cats_eq]
  omega
/-- a constructor's call -/
def cy_w (own host : String) (z : Nat) (y : MethodName) (cc' : ByteArray) (nL' : Nat) : Prop :=
  (Jvm.Cond.methodLink own z y ∈ cx_Tb ∨ Jvm.Cond.methodLinkNest own z y host ∈ cx_Tb) ∧ (Jvm.Cond.instanceMethod y ∈ cx_Tb ∧ Jvm.Cond.code y cc' nL' none ∈ cx_Tb) ∧ plainName y.cls = true ∧ (y.cls ≠ "java/lang/invoke/MethodHandle" ∧ y.cls ≠ "java/lang/invoke/VarHandle") ∧ y.name = "<init>" ∧ (parseMethodDescriptor y.desc).map (fun d => d.parameters.length) = some 0
theorem zCtor_ok (hx : p.tables.exec = Jvm.exec) (hb : c.code = cc) (hml : c.maxLocals = nL) (hKn : cy_Kn G s) {own host : String} (hown : s.vm.findClass own = some m.cls) {z pc : Nat} {y : MethodName} {cc' : ByteArray} {nL' : Nat} {rm : Room} {f : cy_S} (hM : cy_M l G y cc' nL' rm f) (hw : cy_w own host z y cc' nL') (hdg : decode cc pc = .ok (.invokespecial z, 3)) (hR : cx_Rm rm R nL' mc ms) :
    cz_ok p l e R s m args below meth c G nL (cy_F G mc ms) Q (pc, zCtor (pc + 3) f rm.cells rm.slots mc ms) := by
  intro lv st ws k n K h hK H locs ls hF hl
  obtain ⟨j, r, rfl, ⟨hk, hn, hcats⟩, hf⟩ := cx_p1_spec h
  obtain ⟨⟨hP, -, hL⟩, hz⟩ := hF
  obtain ⟨hlink, ⟨hin, hcode⟩, hpl, hnot, hnm, hpar⟩ := hw
  intro T hT X
  subst hT
  have hmag : e.platform.magicAccessors = ({} : Platform).magicAccessors := by rw [X.admits.platform]
  have hlen : ∀ sig, parseMethodDescriptor y.desc = some sig → ([] : List Value).length = sig.parameters.length := fun sig hs => by
    rw [hs] at hpar
    exact (Option.some.inj hpar).symm
  have key : ∃ mk vm₁, s.methodNamed? y = some mk ∧ s.WarmedH vm₁ ∧ ∀ target, (∀ acts, Steps p.tables e below (doInvoke e ((T.setVm vm₁).setTop { F0 m pc ls (.ref (cx_ad G j) :: r.map (cx_v G)) with stack := r.map (cx_v G) }) acts mk (.ref (cx_ad G j) :: ([] : List Value)).toArray).1 target) → Steps p.tables e below (T.setTop (F0 m pc ls (.ref (cx_ad G j) :: r.map (cx_v G)))) target := by
    rcases hlink with hlink | hlink
    · obtain ⟨mk, _, _, _, vm₁, hnamed, -, -, -, -, -, -, -, hW₁, hstep₁⟩ := Steps.initColdArgs (e := e) X.here hx X.warmed hmag hown hnm hnot (hKn.1.1 _ hlink args) (hKn.1.1 _ hin args) (hKn.1.1 _ hcode args) (f := F0 m pc ls (.ref (cx_ad G j) :: r.map (cx_v G))) rfl (a := cx_ad G j) (argsL := []) (rest := r.map (cx_v G)) hlen rfl (by rw [hb]; exact hdg)
      exact ⟨mk, vm₁, hnamed, hW₁, hstep₁⟩
    · obtain ⟨mk, _, _, _, vm₁, hnamed, -, -, -, -, -, -, -, hW₁, hstep₁⟩ := Steps.initColdArgsNest (e := e) X.here hx X.warmed hmag hown hnm hnot (hKn.1.1 _ hlink args) (hKn.1.1 _ hin args) (hKn.1.1 _ hcode args) (f := F0 m pc ls (.ref (cx_ad G j) :: r.map (cx_v G))) rfl (a := cx_ad G j) (argsL := []) (rest := r.map (cx_v G)) hlen rfl (by rw [hb]; exact hdg)
      exact ⟨mk, vm₁, hnamed, hW₁, hstep₁⟩
  obtain ⟨mk, vm₁, hnamed, hW₁, hstep₁⟩ := key
  have X₁ := X.noted hW₁
  obtain ⟨methk, ck, hm, hck, hcc, hml', hrt, hlk, hne, -⟩ := Cond.code_spec hnamed (hKn.1.1 _ hcode args)
  have hmk : (T.setVm vm₁).vm.method? mk = some methk := by rw [X₁.warmed.alike.method?]; exact hm
  have hpk : (T.setVm vm₁).plainMethod mk := X₁.warmed.plainAt (fun kk hkk => by
    obtain ⟨k0, hk0, hn0⟩ := className_of_methodNamed hnamed
    cases hkk.symm.trans hk0
    rw [hn0]
    exact hpl)
  have hWt : 2 * (F0 m pc ls (r.map (cx_v G))).monitorRoom + ((F0 m pc ls (r.map (cx_v G))).stack.map fun v => v.category).sum ≤ 8 := lv_room (by rw [cx_cats_eq]; exact hcats)
  obtain ⟨X', st⟩ := X₁.into (g := F0 m pc ls (r.map (cx_v G))) rfl (by rw [hml]; exact hl.1) (by rw [hb]; exact hdg) #[.ref (cx_ad G j)] (R' := rm) hmk hck hlk hpk hR.1 (by rw [hml']; have := hR.2.1; omega) (Nat.le_trans hk hR.2.2.1) (Nat.le_trans hn hR.2.2.2)
  have hfc : (T.setVm vm₁).vm.findClass y.cls = some mk.cls := by
    rw [X₁.warmed.alike.findClass]
    exact findClass_of_methodNamed hnamed
  have hKn' : cy_Kn G ((T.setVm vm₁).calling (F0 m pc ls (r.map (cx_v G))) mk #[.ref (cx_ad G j)]) := hKn.warm (show s.WarmedH (T.setVm vm₁).vm from X₁.warmed)
  have w := hM j ws _ hf p e ((T.setVm vm₁).calling (F0 m pc ls (r.map (cx_v G))) mk #[.ref (cx_ad G j)]) mk (.java (F0 m pc ls (r.map (cx_v G))) :: below) methk ck hx hcc hml' hrt ((name_of_methodNamed hnamed hm).1.trans hnm) hlk hne hfc hKn' hP hz
  rw [← hml'] at w
  obtain ⟨t, a1, a2⟩ := w (((T.setVm vm₁).setTop (F0 m pc ls (r.map (cx_v G)))).pushFrame (.java (entryFrame mk #[.ref (cx_ad G j)] ck.maxLocals))) rfl X'
  obtain ⟨ws', c1, c2, c3, c5, c5z, c6, L, c7, c8⟩ := a2
  obtain ⟨T', X2, hW', hS', ht⟩ := X₁.outOf (g := F0 m pc ls (r.map (cx_v G))) rfl (by rw [hb]; exact hdg) c2 c6 c7
  have hh : t.heap = T'.heap := by rw [ht]; rfl
  rw [hh] at c5 c5z
  obtain ⟨t₂, b1, b2⟩ := hK _ _ _ _ _ _ c3 T'.heap (locs ++ L) ls ⟨⟨c5, ⟨hk, hn⟩, fun q hq => (List.mem_append.mp hq).elim (hL q) (c8 q)⟩, c5z⟩ hl T' rfl X2
  refine ⟨t₂, (hstep₁ t (fun acts => ?_)).trans ?_, b2⟩
  · rw [show (.ref (cx_ad G j) :: ([] : List Value)).toArray = #[.ref (cx_ad G j)] from rfl]
    rw [st acts]
    exact Steps.weaken (mid := [.java (F0 m pc ls (r.map (cx_v G)))]) a1
  · rw [ht]
    exact b1
/-- a final field of a reference -/
theorem cy_putR (hx : p.tables.exec = Jvm.exec) (hb : c.code = cc) (hnm0 : meth.name = "<init>") (hKn : cx_Kn cx_Tb G s) {own C : String} (hown : s.vm.findClass own = some m.cls) {z ci b : Nat} {T0 : u_T} {N0 : Nat} (hci : (cx_cl G)[ci]? = some (C, T0, N0)) (hin : ∀ w ∈ u_ws C T0 N0, w ∈ cx_Tb) (ty0 : Nat → FieldType) (hty : ∀ k, k < N0 → parseFieldDescriptor (T0 k).2.2.1 = some (ty0 k)) (hnm : ∀ a, a < N0 → ∀ b, b < N0 → a ≠ b → (T0 a).2.1 ≠ (T0 b).2.1) (hk : b < N0)
    (hlink : Jvm.Cond.fieldLink own z own (T0 b).2.1 (T0 b).2.2.1 ∈ cx_Tb) (href : (T0 b).1 = own) (hfin : (T0 b).2.2.2 = true) (hfl : (∃ x, ty0 b = .object x) ∨ ∃ x, ty0 b = .array x) : cx_okput p l e R s m args below meth c cc G Q z ci b 2 := by
  intro pc H locs k n ls rest a fs v hd hat hl htk kk
  have hts : ∀ w ∈ cx_Tb, w.before args s = true := fun w hw => hKn.1 w hw args
  have hap := va_apart (own := own) hts hin ty0 hty hnm hKn.2.1 hci
  obtain ⟨r, h1, cell, q1, q2, q3, q4⟩ := hat
  have hr : r = (C, T0, N0) := Option.some.inj (h1.symm.trans hci)
  subst hr
  obtain ⟨hS, hfc, kC, hkC, hkind⟩ := hKn.2.1.1 ci _ hci
  obtain ⟨cf, kf, fi, fd, hi, hsl⟩ := hS b hk
  have hlay := hts _ (hin _ (u_in_lay hk))
  unfold u_lay at hlay
  rw [if_pos hfin] at hlay
  have hst := (u_facts hfc hkC (u_lays hts hin hk) hi).1
  have hcf : m.cls = cf := by
    obtain ⟨_, _, c', _, _, _, -, -, hf', -, -, -, hown2, -⟩ := Cond.laysFinal_spec hlay
    have e1 : c' = cf := by have := hi.symm.trans hf'; simp at this; exact this.1.symm
    rw [href] at hown2
    rw [← e1]; exact Option.some.inj (hown.symm.trans hown2)
  obtain ⟨w, rfl⟩ : ∃ w, v = .ref w := by
    rcases htk with ⟨e1, -⟩ | ⟨e1, -⟩ | ⟨-, w, e2⟩
    · exact absurd e1 (by decide)
    · exact absurd e1 (by decide)
    · exact ⟨w, e2⟩
  have hnf : narrow (ty0 b) (.ref w) = .ref w ∧ fits (ty0 b) (.ref w) = true := by
    rcases hfl with ⟨x, e1⟩ | ⟨x, e1⟩ <;> rw [e1] <;> exact ⟨rfl, rfl⟩
  have h6 := u_fits hfc hkC hkind (Or.inr hlay) hi (hty b hk) hnf.1 hnf.2
  rw [href] at hi
  refine W.putFinK hx hb hown (hts _ hlink) hi hst hcf hnm0 (by rw [q2]; exact h6) q1 q3 (by rw [hsl]; exact k2_hasslot (q4 b hk)) rfl rfl hd fun H' e1 e2 e3 => ?_
  have e1' := e1
  rw [hsl] at e1'
  exact kk H' _ ⟨_, hci, t_OB.to (V := updV (vp_V fs) b (.ref w)) ⟨_, e1', q2, q3, t_set q4 hap hk (.ref w)⟩ (fun j _ => vp_updV_set hl (.ref w) j)⟩ e2 e3
end CYZ
end
section
/-! The constructors: by program (wip/whole/gen_ctor.py). -/
abbrev d_L : List cx_V := [.inr (.inr (.inr (.inr .null))), .inr (.inr (.inr (.inr .null))), .inr (.inr (.inr (.inr .null))), .inr (.inr (.inr (.inr .null))), .inl 0]
theorem d_L_ok {G : cx_G} : ∀ j, j < 5 → defaultValue (y_L j) = vp_V (d_L.map (cx_v G)) j := by
  intro j hj
  match j, hj with
  | 0, _ => rfl
  | 1, _ => rfl
  | 2, _ => rfl
  | 3, _ => rfl
  | 4, _ => rfl
  | k + 5, hk => exact absurd hk (by omega)
abbrev d_M : List cx_V := [.inr (.inr (.inr (.inr .null))), .inr (.inr (.inr (.inr .null))), .inr (.inr (.inr (.inr .null))), .inr (.inr (.inr (.inr .null))), .inr (.inr (.inr (.inr .null))), .inr (.inr (.inr (.inr .null))), .inr (.inr (.inr (.inr .null))), .inr (.inr (.inr (.inr .null))), .inr (.inr (.inr (.inr .null))), .inl 0, .inl 0]
theorem d_M_ok {G : cx_G} : ∀ j, j < 11 → defaultValue (y_M j) = vp_V (d_M.map (cx_v G)) j := by
  intro j hj
  match j, hj with
  | 0, _ => rfl
  | 1, _ => rfl
  | 2, _ => rfl
  | 3, _ => rfl
  | 4, _ => rfl
  | 5, _ => rfl
  | 6, _ => rfl
  | 7, _ => rfl
  | 8, _ => rfl
  | 9, _ => rfl
  | 10, _ => rfl
  | k + 11, hk => exact absurd hk (by omega)
abbrev d_N : List cx_V := [.inr (.inr (.inr (.inr .null))), .inr (.inr (.inr (.inr .null))), .inr (.inr (.inr (.inr .null))), .inr (.inr (.inr (.inr .null))), .inr (.inr (.inr (.inr .null))), .inr (.inr (.inr (.inr .null))), .inr (.inr (.inr (.inr .null))), .inr (.inr (.inr (.inr .null))), .inl 0, .inl 0, .inl 0, .inl 0]
theorem d_N_ok {G : cx_G} : ∀ j, j < 12 → defaultValue (y_N j) = vp_V (d_N.map (cx_v G)) j := by
  intro j hj
  match j, hj with
  | 0, _ => rfl
  | 1, _ => rfl
  | 2, _ => rfl
  | 3, _ => rfl
  | 4, _ => rfl
  | 5, _ => rfl
  | 6, _ => rfl
  | 7, _ => rfl
  | 8, _ => rfl
  | 9, _ => rfl
  | 10, _ => rfl
  | 11, _ => rfl
  | k + 12, hk => exact absurd hk (by omega)
abbrev d_C : List cx_V := [.inr (.inr (.inr (.inr .null))), .inr (.inr (.inr (.inr .null))), .inr (.inr (.inr (.inr .null))), .inl 0]
theorem d_C_ok {G : cx_G} : ∀ j, j < 4 → defaultValue (y_C j) = vp_V (d_C.map (cx_v G)) j := by
  intro j hj
  match j, hj with
  | 0, _ => rfl
  | 1, _ => rfl
  | 2, _ => rfl
  | 3, _ => rfl
  | k + 4, hk => exact absurd hk (by omega)
abbrev d_R : List cx_V := [.inl 0, .inl 0, .inl 0, .inl 0, .inl 0, .inr (.inr (.inr (.inr .null))), .inr (.inr (.inr (.inr .null))), .inr (.inr (.inr (.inr .null))), .inr (.inr (.inr (.inr .null))), .inr (.inr (.inr (.inr .null))), .inr (.inr (.inr (.inr .null))), .inr (.inr (.inr (.inr .null))), .inl 0, .inl 0, .inr (.inr (.inr (.inr .null))), .inr (.inr (.inr (.inr .null))), .inr (.inr (.inr (.inr .null))), .inr (.inr (.inr (.inr .null))), .inr (.inr (.inr (.inr .null))), .inr (.inr (.inr (.inr .null))), .inr (.inr (.inr (.inr .null)))]
theorem d_R_ok {G : cx_G} : ∀ j, j < 21 → defaultValue (y_R j) = vp_V (d_R.map (cx_v G)) j := by
  intro j hj
  match j, hj with
  | 0, _ => rfl
  | 1, _ => rfl
  | 2, _ => rfl
  | 3, _ => rfl
  | 4, _ => rfl
  | 5, _ => rfl
  | 6, _ => rfl
  | 7, _ => rfl
  | 8, _ => rfl
  | 9, _ => rfl
  | 10, _ => rfl
  | 11, _ => rfl
  | 12, _ => rfl
  | 13, _ => rfl
  | 14, _ => rfl
  | 15, _ => rfl
  | 16, _ => rfl
  | 17, _ => rfl
  | 18, _ => rfl
  | 19, _ => rfl
  | 20, _ => rfl
  | k + 21, hk => exact absurd hk (by omega)
abbrev m_N_init : MethodName := ⟨"CycleCutter$Net", "<init>", "()V"⟩
abbrev rm_N_init : Room := { frames := 1, cells := 248, slots := 3060, locals := 20 }
def sp_N_init : cy_S := fun j ws R => j = 1 ∧ ws = [.inl (3, [.inr (.inr (.inr (.inr .null))), .inr (.inr (.inr (.inr .null))), .inr (.inr (.inr (.inr .null))), .inl 0]), .inl (2, [.inr (.inr (.inr (.inr .null))), .inr (.inr (.inr (.inr .null))), .inr (.inr (.inr (.inr .null))), .inr (.inr (.inr (.inr .null))), .inr (.inr (.inr (.inr .null))), .inr (.inr (.inr (.inr .null))), .inr (.inr (.inr (.inr .null))), .inr (.inr (.inr (.inr .null))), .inl 0, .inl 0, .inl 0, .inl 0])] ∧ R [.inl (3, [.inr (.inr (.inr (.inr .null))), .inr (.inr (.inr (.inr .null))), .inr (.inr (.inr (.inr .null))), .inl 0]), .inl (2, [.inr (.inr (.inl 2)), .inr (.inr (.inl 3)), .inr (.inr (.inl 4)), .inr (.inr (.inl 5)), .inr (.inr (.inl 6)), .inr (.inr (.inl 7)), .inr (.inr (.inl 8)), .inr (.inr (.inl 9)), .inl 0, .inl 0, .inl 0, .inl 0]), .inr (.inl (120, fun _ => 0)), .inr (.inl (120, fun _ => 0)), .inr (.inl (120, fun _ => 0)), .inr (.inl (500, fun _ => 0)), .inr (.inr (.inl (500, fun _ => 0))), .inr (.inl (500, fun _ => 0)), .inr (.inr (.inr (.inr (120, 4, fun _ _ => 0)))), .inr (.inr (.inr (.inr (120, 4, fun _ _ => 0))))]
def t_N_init : List (Nat × cx_E) := [(0, .aload_n 0, 0, 0, 0, 0, 1),
  (4, .aload_n 0, 0, 0, 0, 0, 5),
  (5, .bipush 120, 120, 0, 0, 0, 7),
  (9, .putfield 9, 2, 0, 2, 0, 12),
  (12, .aload_n 0, 0, 0, 0, 0, 13),
  (13, .bipush 120, 120, 0, 0, 0, 15),
  (17, .putfield 15, 2, 0, 2, 1, 20),
  (20, .aload_n 0, 0, 0, 0, 0, 21),
  (21, .bipush 120, 120, 0, 0, 0, 23),
  (25, .putfield 18, 2, 0, 2, 2, 28),
  (28, .aload_n 0, 0, 0, 0, 0, 29),
  (29, .sipush 500, 500, 0, 0, 0, 32),
  (34, .putfield 21, 2, 0, 2, 3, 37),
  (37, .aload_n 0, 0, 0, 0, 0, 38),
  (38, .sipush 500, 500, 0, 0, 0, 41),
  (43, .putfield 24, 2, 0, 2, 4, 46),
  (46, .aload_n 0, 0, 0, 0, 0, 47),
  (47, .sipush 500, 500, 0, 0, 0, 50),
  (52, .putfield 28, 2, 0, 2, 5, 55),
  (55, .aload_n 0, 0, 0, 0, 0, 56),
  (56, .bipush 120, 120, 0, 0, 0, 58),
  (58, .iconst 4, 4, 0, 0, 0, 59),
  (63, .putfield 33, 2, 0, 2, 6, 66),
  (66, .aload_n 0, 0, 0, 0, 0, 67),
  (67, .bipush 120, 120, 0, 0, 0, 69),
  (69, .iconst 4, 4, 0, 0, 0, 70),
  (74, .putfield 36, 2, 0, 2, 7, 77),
  (77, .aload_n 0, 0, 0, 0, 0, 78),
  (78, .iconst 0, 0, 0, 0, 0, 79),
  (79, .putfield 39, 0, 0, 2, 8, 82),
  (82, .aload_n 0, 0, 0, 0, 0, 83),
  (83, .iconst 0, 0, 0, 0, 0, 84),
  (84, .putfield 43, 0, 0, 2, 9, 87),
  (87, .aload_n 0, 0, 0, 0, 0, 88),
  (88, .iconst 0, 0, 0, 0, 0, 89),
  (89, .putfield 46, 0, 0, 2, 10, 92),
  (92, .aload_n 0, 0, 0, 0, 0, 93),
  (93, .iconst 0, 0, 0, 0, 0, 94),
  (94, .putfield 49, 1, 0, 2, 11, 97),
  (97, .return_, 0, 0, 0, 0, 98)]
abbrev q_N_init : List (Nat × Nat × Nat × Int32) := [(9, 2, 0, 2), (15, 2, 1, 2), (18, 2, 2, 2), (21, 2, 3, 2), (24, 2, 4, 2), (28, 2, 5, 2), (33, 2, 6, 2), (36, 2, 7, 2), (39, 2, 8, 0), (43, 2, 9, 0), (46, 2, 10, 0), (49, 2, 11, 1)]
def z_N_init : List (Nat × cz_Z) := [(1, zObj 4),
  (7, zNewa 9 0 120 248 3060),
  (15, zNewa 17 0 120 248 3060),
  (23, zNewa 25 0 120 248 3060),
  (32, zNewa 34 0 500 248 3060),
  (41, zNewa 43 1 500 248 3060),
  (50, zNewa 52 0 500 248 3060),
  (59, zGrid 63 120 4 248 3060),
  (70, zGrid 74 120 4 248 3060)]
theorem k_N_init : t_N_init.all (cx_dec true prog_4_method_1_code none 1 [] q_N_init [] [] [] [] []) = true := by decide +kernel
set_option maxRecDepth 100000 in
set_option maxHeartbeats 4000000 in
theorem pu_N_init : ∀ j ws Rq, sp_N_init j ws Rq → ∀ V, cz_cl t_N_init z_N_init [] 248 3060 (fun o ws => o = .inl none ∧ Rq ws) V → V 0 (cx_lv0 [.inr (.inr (.inl j))] 1) [] ws 0 0 := by
  rintro j ws Rq ⟨rfl, rfl, h⟩ V hV
  refine hV [] 400 _ _ _ _ _ _ ?_
  conv => whnf
  refine ⟨by decide, ?_⟩
  conv => whnf
  refine ⟨⟨rfl, ⟨by decide, by decide⟩, by decide, by decide⟩, ?_⟩
  conv => whnf
  refine ⟨rfl, ?_⟩
  conv => whnf
  refine ⟨⟨rfl, ⟨by decide, by decide⟩, by decide, by decide⟩, ?_⟩
  conv => whnf
  refine ⟨rfl, ?_⟩
  conv => whnf
  refine ⟨⟨rfl, ⟨by decide, by decide⟩, by decide, by decide⟩, ?_⟩
  conv => whnf
  refine ⟨rfl, ?_⟩
  conv => whnf
  refine ⟨⟨rfl, ⟨by decide, by decide⟩, by decide, by decide⟩, ?_⟩
  conv => whnf
  refine ⟨rfl, ?_⟩
  conv => whnf
  refine ⟨⟨rfl, ⟨by decide, by decide⟩, by decide, by decide⟩, ?_⟩
  conv => whnf
  refine ⟨rfl, ?_⟩
  conv => whnf
  refine ⟨⟨rfl, ⟨by decide, by decide⟩, by decide, by decide⟩, ?_⟩
  conv => whnf
  refine ⟨rfl, ?_⟩
  conv => whnf
  refine ⟨⟨⟨rfl, rfl⟩, ⟨by decide, by decide, by decide⟩, by decide, by decide⟩, ?_⟩
  conv => whnf
  refine ⟨rfl, ?_⟩
  conv => whnf
  refine ⟨⟨⟨rfl, rfl⟩, ⟨by decide, by decide, by decide⟩, by decide, by decide⟩, ?_⟩
  conv => whnf
  refine ⟨rfl, ?_⟩
  conv => whnf
  refine ⟨Or.inl rfl, ?_⟩
  conv => whnf
  refine ⟨Or.inl rfl, ?_⟩
  conv => whnf
  refine ⟨Or.inl rfl, ?_⟩
  conv => whnf
  refine ⟨Or.inr ⟨rfl, Or.inl rfl⟩, ?_⟩
  conv => whnf
  exact ⟨rfl, h⟩
set_option maxRecDepth 100000 in
set_option maxHeartbeats 4000000 in
theorem c_N_init {l : Launch} {G : cx_G} (hG : cy_okG G) (hcl : cx_cl G = cx_cls) : cy_M l G m_N_init prog_4_method_1_code 1 rm_N_init sp_N_init := by
  refine cy_mk hG (Zs := z_N_init) (by decide) k_N_init (fun S => ?_) (fun S => ?_) pu_N_init
  · exact List.forall_mem_cons.mpr ⟨cy_putR (own := r_N) (C := r_N) (T0 := f_N) (N0 := 12) S.1 S.2.1 S.2.2.2.2.1 S.2.2.2.2.2.2.1 S.2.2.2.2.2.1 (by rw [hcl]; rfl) i_N y_N y_N_ok n_N (by decide) (cx_in 53 (by decide +kernel) (by decide +kernel)) rfl rfl (Or.inr ⟨_, rfl⟩),
      List.forall_mem_cons.mpr ⟨cy_putR (own := r_N) (C := r_N) (T0 := f_N) (N0 := 12) S.1 S.2.1 S.2.2.2.2.1 S.2.2.2.2.2.2.1 S.2.2.2.2.2.1 (by rw [hcl]; rfl) i_N y_N y_N_ok n_N (by decide) (cx_in 54 (by decide +kernel) (by decide +kernel)) rfl rfl (Or.inr ⟨_, rfl⟩),
      List.forall_mem_cons.mpr ⟨cy_putR (own := r_N) (C := r_N) (T0 := f_N) (N0 := 12) S.1 S.2.1 S.2.2.2.2.1 S.2.2.2.2.2.2.1 S.2.2.2.2.2.1 (by rw [hcl]; rfl) i_N y_N y_N_ok n_N (by decide) (cx_in 55 (by decide +kernel) (by decide +kernel)) rfl rfl (Or.inr ⟨_, rfl⟩),
      List.forall_mem_cons.mpr ⟨cy_putR (own := r_N) (C := r_N) (T0 := f_N) (N0 := 12) S.1 S.2.1 S.2.2.2.2.1 S.2.2.2.2.2.2.1 S.2.2.2.2.2.1 (by rw [hcl]; rfl) i_N y_N y_N_ok n_N (by decide) (cx_in 56 (by decide +kernel) (by decide +kernel)) rfl rfl (Or.inr ⟨_, rfl⟩),
      List.forall_mem_cons.mpr ⟨cy_putR (own := r_N) (C := r_N) (T0 := f_N) (N0 := 12) S.1 S.2.1 S.2.2.2.2.1 S.2.2.2.2.2.2.1 S.2.2.2.2.2.1 (by rw [hcl]; rfl) i_N y_N y_N_ok n_N (by decide) (cx_in 57 (by decide +kernel) (by decide +kernel)) rfl rfl (Or.inr ⟨_, rfl⟩),
      List.forall_mem_cons.mpr ⟨cy_putR (own := r_N) (C := r_N) (T0 := f_N) (N0 := 12) S.1 S.2.1 S.2.2.2.2.1 S.2.2.2.2.2.2.1 S.2.2.2.2.2.1 (by rw [hcl]; rfl) i_N y_N y_N_ok n_N (by decide) (cx_in 58 (by decide +kernel) (by decide +kernel)) rfl rfl (Or.inr ⟨_, rfl⟩),
      List.forall_mem_cons.mpr ⟨cy_putR (own := r_N) (C := r_N) (T0 := f_N) (N0 := 12) S.1 S.2.1 S.2.2.2.2.1 S.2.2.2.2.2.2.1 S.2.2.2.2.2.1 (by rw [hcl]; rfl) i_N y_N y_N_ok n_N (by decide) (cx_in 59 (by decide +kernel) (by decide +kernel)) rfl rfl (Or.inr ⟨_, rfl⟩),
      List.forall_mem_cons.mpr ⟨cy_putR (own := r_N) (C := r_N) (T0 := f_N) (N0 := 12) S.1 S.2.1 S.2.2.2.2.1 S.2.2.2.2.2.2.1 S.2.2.2.2.2.1 (by rw [hcl]; rfl) i_N y_N y_N_ok n_N (by decide) (cx_in 60 (by decide +kernel) (by decide +kernel)) rfl rfl (Or.inr ⟨_, rfl⟩),
      List.forall_mem_cons.mpr ⟨cx_putP (own := r_N) (C := r_N) (T0 := f_N) (N0 := 12) S.1 S.2.1 S.2.2.2.2.2.2.1 S.2.2.2.2.2.1 (by rw [hcl]; rfl) i_N y_N y_N_ok n_N (by decide) (cx_in 61 (by decide +kernel) (by decide +kernel)) rfl rfl (Or.inl ⟨rfl, rfl⟩),
      List.forall_mem_cons.mpr ⟨cx_putP (own := r_N) (C := r_N) (T0 := f_N) (N0 := 12) S.1 S.2.1 S.2.2.2.2.2.2.1 S.2.2.2.2.2.1 (by rw [hcl]; rfl) i_N y_N y_N_ok n_N (by decide) (cx_in 63 (by decide +kernel) (by decide +kernel)) rfl rfl (Or.inl ⟨rfl, rfl⟩),
      List.forall_mem_cons.mpr ⟨cx_putP (own := r_N) (C := r_N) (T0 := f_N) (N0 := 12) S.1 S.2.1 S.2.2.2.2.2.2.1 S.2.2.2.2.2.1 (by rw [hcl]; rfl) i_N y_N y_N_ok n_N (by decide) (cx_in 65 (by decide +kernel) (by decide +kernel)) rfl rfl (Or.inl ⟨rfl, rfl⟩),
      List.forall_mem_cons.mpr ⟨cx_putP (own := r_N) (C := r_N) (T0 := f_N) (N0 := 12) S.1 S.2.1 S.2.2.2.2.2.2.1 S.2.2.2.2.2.1 (by rw [hcl]; rfl) i_N y_N y_N_ok n_N (by decide) (cx_in 67 (by decide +kernel) (by decide +kernel)) rfl rfl (Or.inr ⟨rfl, rfl⟩),
      fun _ h => absurd h List.not_mem_nil⟩⟩⟩⟩⟩⟩⟩⟩⟩⟩⟩⟩
  · exact List.forall_mem_cons.mpr ⟨zObj_ok (z := 3) S.1 S.2.1 S.2.2.1 (S.2.2.2.2.2.2).1 S.2.2.2.2.2.1 (cx_in 50 (by decide +kernel) (by decide +kernel)) (by decide +kernel) (by decide),
      List.forall_mem_cons.mpr ⟨zNewa_ok (at0 := .int) hG S.1 S.2.1 S.2.2.2.2.2.2 (Or.inl ⟨rfl, rfl⟩) (by decide) (by decide +kernel) (by decide),
      List.forall_mem_cons.mpr ⟨zNewa_ok (at0 := .int) hG S.1 S.2.1 S.2.2.2.2.2.2 (Or.inl ⟨rfl, rfl⟩) (by decide) (by decide +kernel) (by decide),
      List.forall_mem_cons.mpr ⟨zNewa_ok (at0 := .int) hG S.1 S.2.1 S.2.2.2.2.2.2 (Or.inl ⟨rfl, rfl⟩) (by decide) (by decide +kernel) (by decide),
      List.forall_mem_cons.mpr ⟨zNewa_ok (at0 := .int) hG S.1 S.2.1 S.2.2.2.2.2.2 (Or.inl ⟨rfl, rfl⟩) (by decide) (by decide +kernel) (by decide),
      List.forall_mem_cons.mpr ⟨zNewa_ok (at0 := .boolean) hG S.1 S.2.1 S.2.2.2.2.2.2 (Or.inr (Or.inl ⟨rfl, rfl⟩)) (by decide) (by decide +kernel) (by decide),
      List.forall_mem_cons.mpr ⟨zNewa_ok (at0 := .int) hG S.1 S.2.1 S.2.2.2.2.2.2 (Or.inl ⟨rfl, rfl⟩) (by decide) (by decide +kernel) (by decide),
      List.forall_mem_cons.mpr ⟨zGrid_ok (z := 31) hG S.1 S.2.1 S.2.2.2.2.2.2 S.2.2.2.2.2.1 (cx_in 51 (by decide +kernel) (by decide +kernel)) (by decide) (by decide +kernel) (by decide),
      List.forall_mem_cons.mpr ⟨zGrid_ok (z := 31) hG S.1 S.2.1 S.2.2.2.2.2.2 S.2.2.2.2.2.1 (cx_in 51 (by decide +kernel) (by decide +kernel)) (by decide) (by decide +kernel) (by decide),
      fun _ h => absurd h List.not_mem_nil⟩⟩⟩⟩⟩⟩⟩⟩⟩
abbrev m_M_init : MethodName := ⟨"CycleCutter$Multiplexers", "<init>", "()V"⟩
abbrev rm_M_init : Room := { frames := 1, cells := 9, slots := 6396, locals := 20 }
def sp_M_init : cy_S := fun j ws R => j = 11 ∧ ws = [.inl (3, [.inr (.inr (.inl 1)), .inr (.inr (.inr (.inr .null))), .inr (.inr (.inr (.inr .null))), .inl 0]), .inl (2, [.inr (.inr (.inl 2)), .inr (.inr (.inl 3)), .inr (.inr (.inl 4)), .inr (.inr (.inl 5)), .inr (.inr (.inl 6)), .inr (.inr (.inl 7)), .inr (.inr (.inl 8)), .inr (.inr (.inl 9)), .inl 0, .inl 0, .inl 0, .inl 0]), .inr (.inl (120, fun _ => 0)), .inr (.inl (120, fun _ => 0)), .inr (.inl (120, fun _ => 0)), .inr (.inl (500, fun _ => 0)), .inr (.inr (.inl (500, fun _ => 0))), .inr (.inl (500, fun _ => 0)), .inr (.inr (.inr (.inr (120, 4, fun _ _ => 0)))), .inr (.inr (.inr (.inr (120, 4, fun _ _ => 0)))), .inl (0, [.inr (.inr (.inr (.inr .null))), .inr (.inr (.inr (.inr .null))), .inr (.inr (.inr (.inr .null))), .inr (.inr (.inr (.inr .null))), .inl 0]), .inl (1, [.inr (.inr (.inr (.inr .null))), .inr (.inr (.inr (.inr .null))), .inr (.inr (.inr (.inr .null))), .inr (.inr (.inr (.inr .null))), .inr (.inr (.inr (.inr .null))), .inr (.inr (.inr (.inr .null))), .inr (.inr (.inr (.inr .null))), .inr (.inr (.inr (.inr .null))), .inr (.inr (.inr (.inr .null))), .inl 0, .inl 0])] ∧ R [.inl (3, [.inr (.inr (.inl 1)), .inr (.inr (.inr (.inr .null))), .inr (.inr (.inr (.inr .null))), .inl 0]), .inl (2, [.inr (.inr (.inl 2)), .inr (.inr (.inl 3)), .inr (.inr (.inl 4)), .inr (.inr (.inl 5)), .inr (.inr (.inl 6)), .inr (.inr (.inl 7)), .inr (.inr (.inl 8)), .inr (.inr (.inl 9)), .inl 0, .inl 0, .inl 0, .inl 0]), .inr (.inl (120, fun _ => 0)), .inr (.inl (120, fun _ => 0)), .inr (.inl (120, fun _ => 0)), .inr (.inl (500, fun _ => 0)), .inr (.inr (.inl (500, fun _ => 0))), .inr (.inl (500, fun _ => 0)), .inr (.inr (.inr (.inr (120, 4, fun _ _ => 0)))), .inr (.inr (.inr (.inr (120, 4, fun _ _ => 0)))), .inl (0, [.inr (.inr (.inr (.inr .null))), .inr (.inr (.inr (.inr .null))), .inr (.inr (.inr (.inr .null))), .inr (.inr (.inr (.inr .null))), .inl 0]), .inl (1, [.inr (.inr (.inl 12)), .inr (.inr (.inl 13)), .inr (.inr (.inl 14)), .inr (.inr (.inl 15)), .inr (.inr (.inl 16)), .inr (.inr (.inl 17)), .inr (.inr (.inl 18)), .inr (.inr (.inl 19)), .inr (.inr (.inl 20)), .inl 2, .inl 0]), .inr (.inl (876, fun _ => 0)), .inr (.inl (876, fun _ => 0)), .inr (.inl (876, fun _ => 0)), .inr (.inl (876, fun _ => 0)), .inr (.inl (876, fun _ => 0)), .inr (.inl (876, fun _ => 0)), .inr (.inr (.inl (876, fun _ => 0))), .inr (.inl (256, fun _ => 0)), .inr (.inl (8, fun _ => 0))]
def t_M_init : List (Nat × cx_E) := [(0, .aload_n 0, 0, 0, 0, 0, 1),
  (4, .aload_n 0, 0, 0, 0, 0, 5),
  (5, .sipush 876, 876, 0, 0, 0, 8),
  (10, .putfield 11, 2, 0, 1, 0, 13),
  (13, .aload_n 0, 0, 0, 0, 0, 14),
  (14, .sipush 876, 876, 0, 0, 0, 17),
  (19, .putfield 15, 2, 0, 1, 1, 22),
  (22, .aload_n 0, 0, 0, 0, 0, 23),
  (23, .sipush 876, 876, 0, 0, 0, 26),
  (28, .putfield 18, 2, 0, 1, 2, 31),
  (31, .aload_n 0, 0, 0, 0, 0, 32),
  (32, .sipush 876, 876, 0, 0, 0, 35),
  (37, .putfield 21, 2, 0, 1, 3, 40),
  (40, .aload_n 0, 0, 0, 0, 0, 41),
  (41, .sipush 876, 876, 0, 0, 0, 44),
  (46, .putfield 24, 2, 0, 1, 4, 49),
  (49, .aload_n 0, 0, 0, 0, 0, 50),
  (50, .sipush 876, 876, 0, 0, 0, 53),
  (55, .putfield 27, 2, 0, 1, 5, 58),
  (58, .aload_n 0, 0, 0, 0, 0, 59),
  (59, .sipush 876, 876, 0, 0, 0, 62),
  (64, .putfield 30, 2, 0, 1, 6, 67),
  (67, .aload_n 0, 0, 0, 0, 0, 68),
  (68, .sipush 256, 256, 0, 0, 0, 71),
  (73, .putfield 34, 2, 0, 1, 7, 76),
  (76, .aload_n 0, 0, 0, 0, 0, 77),
  (77, .bipush 8, 8, 0, 0, 0, 79),
  (81, .putfield 37, 2, 0, 1, 8, 84),
  (84, .aload_n 0, 0, 0, 0, 0, 85),
  (85, .iconst 2, 2, 0, 0, 0, 86),
  (86, .putfield 40, 0, 0, 1, 9, 89),
  (89, .aload_n 0, 0, 0, 0, 0, 90),
  (90, .iconst 0, 0, 0, 0, 0, 91),
  (91, .putfield 44, 0, 0, 1, 10, 94),
  (94, .return_, 0, 0, 0, 0, 95)]
abbrev q_M_init : List (Nat × Nat × Nat × Int32) := [(11, 1, 0, 2), (15, 1, 1, 2), (18, 1, 2, 2), (21, 1, 3, 2), (24, 1, 4, 2), (27, 1, 5, 2), (30, 1, 6, 2), (34, 1, 7, 2), (37, 1, 8, 2), (40, 1, 9, 0), (44, 1, 10, 0)]
def z_M_init : List (Nat × cz_Z) := [(1, zObj 4),
  (8, zNewa 10 0 876 9 6396),
  (17, zNewa 19 0 876 9 6396),
  (26, zNewa 28 0 876 9 6396),
  (35, zNewa 37 0 876 9 6396),
  (44, zNewa 46 0 876 9 6396),
  (53, zNewa 55 0 876 9 6396),
  (62, zNewa 64 1 876 9 6396),
  (71, zNewa 73 0 256 9 6396),
  (79, zNewa 81 0 8 9 6396)]
theorem k_M_init : t_M_init.all (cx_dec true prog_3_method_1_code none 1 [] q_M_init [] [] [] [] []) = true := by decide +kernel
set_option maxRecDepth 100000 in
set_option maxHeartbeats 4000000 in
theorem pu_M_init : ∀ j ws Rq, sp_M_init j ws Rq → ∀ V, cz_cl t_M_init z_M_init [] 9 6396 (fun o ws => o = .inl none ∧ Rq ws) V → V 0 (cx_lv0 [.inr (.inr (.inl j))] 1) [] ws 0 0 := by
  rintro j ws Rq ⟨rfl, rfl, h⟩ V hV
  refine hV [] 400 _ _ _ _ _ _ ?_
  conv => whnf
  refine ⟨by decide, ?_⟩
  conv => whnf
  refine ⟨⟨rfl, ⟨by decide, by decide⟩, by decide, by decide⟩, ?_⟩
  conv => whnf
  refine ⟨rfl, ?_⟩
  conv => whnf
  refine ⟨⟨rfl, ⟨by decide, by decide⟩, by decide, by decide⟩, ?_⟩
  conv => whnf
  refine ⟨rfl, ?_⟩
  conv => whnf
  refine ⟨⟨rfl, ⟨by decide, by decide⟩, by decide, by decide⟩, ?_⟩
  conv => whnf
  refine ⟨rfl, ?_⟩
  conv => whnf
  refine ⟨⟨rfl, ⟨by decide, by decide⟩, by decide, by decide⟩, ?_⟩
  conv => whnf
  refine ⟨rfl, ?_⟩
  conv => whnf
  refine ⟨⟨rfl, ⟨by decide, by decide⟩, by decide, by decide⟩, ?_⟩
  conv => whnf
  refine ⟨rfl, ?_⟩
  conv => whnf
  refine ⟨⟨rfl, ⟨by decide, by decide⟩, by decide, by decide⟩, ?_⟩
  conv => whnf
  refine ⟨rfl, ?_⟩
  conv => whnf
  refine ⟨⟨rfl, ⟨by decide, by decide⟩, by decide, by decide⟩, ?_⟩
  conv => whnf
  refine ⟨rfl, ?_⟩
  conv => whnf
  refine ⟨⟨rfl, ⟨by decide, by decide⟩, by decide, by decide⟩, ?_⟩
  conv => whnf
  refine ⟨rfl, ?_⟩
  conv => whnf
  refine ⟨⟨rfl, ⟨by decide, by decide⟩, by decide, by decide⟩, ?_⟩
  conv => whnf
  refine ⟨rfl, ?_⟩
  conv => whnf
  refine ⟨Or.inl rfl, ?_⟩
  conv => whnf
  refine ⟨Or.inl rfl, ?_⟩
  conv => whnf
  exact ⟨rfl, h⟩
set_option maxRecDepth 100000 in
set_option maxHeartbeats 4000000 in
theorem c_M_init {l : Launch} {G : cx_G} (hG : cy_okG G) (hcl : cx_cl G = cx_cls) : cy_M l G m_M_init prog_3_method_1_code 1 rm_M_init sp_M_init := by
  refine cy_mk hG (Zs := z_M_init) (by decide) k_M_init (fun S => ?_) (fun S => ?_) pu_M_init
  · exact List.forall_mem_cons.mpr ⟨cy_putR (own := r_M) (C := r_M) (T0 := f_M) (N0 := 11) S.1 S.2.1 S.2.2.2.2.1 S.2.2.2.2.2.2.1 S.2.2.2.2.2.1 (by rw [hcl]; rfl) i_M y_M y_M_ok n_M (by decide) (cx_in 108 (by decide +kernel) (by decide +kernel)) rfl rfl (Or.inr ⟨_, rfl⟩),
      List.forall_mem_cons.mpr ⟨cy_putR (own := r_M) (C := r_M) (T0 := f_M) (N0 := 11) S.1 S.2.1 S.2.2.2.2.1 S.2.2.2.2.2.2.1 S.2.2.2.2.2.1 (by rw [hcl]; rfl) i_M y_M y_M_ok n_M (by decide) (cx_in 109 (by decide +kernel) (by decide +kernel)) rfl rfl (Or.inr ⟨_, rfl⟩),
      List.forall_mem_cons.mpr ⟨cy_putR (own := r_M) (C := r_M) (T0 := f_M) (N0 := 11) S.1 S.2.1 S.2.2.2.2.1 S.2.2.2.2.2.2.1 S.2.2.2.2.2.1 (by rw [hcl]; rfl) i_M y_M y_M_ok n_M (by decide) (cx_in 110 (by decide +kernel) (by decide +kernel)) rfl rfl (Or.inr ⟨_, rfl⟩),
      List.forall_mem_cons.mpr ⟨cy_putR (own := r_M) (C := r_M) (T0 := f_M) (N0 := 11) S.1 S.2.1 S.2.2.2.2.1 S.2.2.2.2.2.2.1 S.2.2.2.2.2.1 (by rw [hcl]; rfl) i_M y_M y_M_ok n_M (by decide) (cx_in 111 (by decide +kernel) (by decide +kernel)) rfl rfl (Or.inr ⟨_, rfl⟩),
      List.forall_mem_cons.mpr ⟨cy_putR (own := r_M) (C := r_M) (T0 := f_M) (N0 := 11) S.1 S.2.1 S.2.2.2.2.1 S.2.2.2.2.2.2.1 S.2.2.2.2.2.1 (by rw [hcl]; rfl) i_M y_M y_M_ok n_M (by decide) (cx_in 112 (by decide +kernel) (by decide +kernel)) rfl rfl (Or.inr ⟨_, rfl⟩),
      List.forall_mem_cons.mpr ⟨cy_putR (own := r_M) (C := r_M) (T0 := f_M) (N0 := 11) S.1 S.2.1 S.2.2.2.2.1 S.2.2.2.2.2.2.1 S.2.2.2.2.2.1 (by rw [hcl]; rfl) i_M y_M y_M_ok n_M (by decide) (cx_in 113 (by decide +kernel) (by decide +kernel)) rfl rfl (Or.inr ⟨_, rfl⟩),
      List.forall_mem_cons.mpr ⟨cy_putR (own := r_M) (C := r_M) (T0 := f_M) (N0 := 11) S.1 S.2.1 S.2.2.2.2.1 S.2.2.2.2.2.2.1 S.2.2.2.2.2.1 (by rw [hcl]; rfl) i_M y_M y_M_ok n_M (by decide) (cx_in 114 (by decide +kernel) (by decide +kernel)) rfl rfl (Or.inr ⟨_, rfl⟩),
      List.forall_mem_cons.mpr ⟨cy_putR (own := r_M) (C := r_M) (T0 := f_M) (N0 := 11) S.1 S.2.1 S.2.2.2.2.1 S.2.2.2.2.2.2.1 S.2.2.2.2.2.1 (by rw [hcl]; rfl) i_M y_M y_M_ok n_M (by decide) (cx_in 115 (by decide +kernel) (by decide +kernel)) rfl rfl (Or.inr ⟨_, rfl⟩),
      List.forall_mem_cons.mpr ⟨cy_putR (own := r_M) (C := r_M) (T0 := f_M) (N0 := 11) S.1 S.2.1 S.2.2.2.2.1 S.2.2.2.2.2.2.1 S.2.2.2.2.2.1 (by rw [hcl]; rfl) i_M y_M y_M_ok n_M (by decide) (cx_in 116 (by decide +kernel) (by decide +kernel)) rfl rfl (Or.inr ⟨_, rfl⟩),
      List.forall_mem_cons.mpr ⟨cx_putP (own := r_M) (C := r_M) (T0 := f_M) (N0 := 11) S.1 S.2.1 S.2.2.2.2.2.2.1 S.2.2.2.2.2.1 (by rw [hcl]; rfl) i_M y_M y_M_ok n_M (by decide) (cx_in 118 (by decide +kernel) (by decide +kernel)) rfl rfl (Or.inl ⟨rfl, rfl⟩),
      List.forall_mem_cons.mpr ⟨cx_putP (own := r_M) (C := r_M) (T0 := f_M) (N0 := 11) S.1 S.2.1 S.2.2.2.2.2.2.1 S.2.2.2.2.2.1 (by rw [hcl]; rfl) i_M y_M y_M_ok n_M (by decide) (cx_in 119 (by decide +kernel) (by decide +kernel)) rfl rfl (Or.inl ⟨rfl, rfl⟩),
      fun _ h => absurd h List.not_mem_nil⟩⟩⟩⟩⟩⟩⟩⟩⟩⟩⟩
  · exact List.forall_mem_cons.mpr ⟨zObj_ok (z := 5) S.1 S.2.1 S.2.2.1 (S.2.2.2.2.2.2).1 S.2.2.2.2.2.1 (cx_in 107 (by decide +kernel) (by decide +kernel)) (by decide +kernel) (by decide),
      List.forall_mem_cons.mpr ⟨zNewa_ok (at0 := .int) hG S.1 S.2.1 S.2.2.2.2.2.2 (Or.inl ⟨rfl, rfl⟩) (by decide) (by decide +kernel) (by decide),
      List.forall_mem_cons.mpr ⟨zNewa_ok (at0 := .int) hG S.1 S.2.1 S.2.2.2.2.2.2 (Or.inl ⟨rfl, rfl⟩) (by decide) (by decide +kernel) (by decide),
      List.forall_mem_cons.mpr ⟨zNewa_ok (at0 := .int) hG S.1 S.2.1 S.2.2.2.2.2.2 (Or.inl ⟨rfl, rfl⟩) (by decide) (by decide +kernel) (by decide),
      List.forall_mem_cons.mpr ⟨zNewa_ok (at0 := .int) hG S.1 S.2.1 S.2.2.2.2.2.2 (Or.inl ⟨rfl, rfl⟩) (by decide) (by decide +kernel) (by decide),
      List.forall_mem_cons.mpr ⟨zNewa_ok (at0 := .int) hG S.1 S.2.1 S.2.2.2.2.2.2 (Or.inl ⟨rfl, rfl⟩) (by decide) (by decide +kernel) (by decide),
      List.forall_mem_cons.mpr ⟨zNewa_ok (at0 := .int) hG S.1 S.2.1 S.2.2.2.2.2.2 (Or.inl ⟨rfl, rfl⟩) (by decide) (by decide +kernel) (by decide),
      List.forall_mem_cons.mpr ⟨zNewa_ok (at0 := .boolean) hG S.1 S.2.1 S.2.2.2.2.2.2 (Or.inr (Or.inl ⟨rfl, rfl⟩)) (by decide) (by decide +kernel) (by decide),
      List.forall_mem_cons.mpr ⟨zNewa_ok (at0 := .int) hG S.1 S.2.1 S.2.2.2.2.2.2 (Or.inl ⟨rfl, rfl⟩) (by decide) (by decide +kernel) (by decide),
      List.forall_mem_cons.mpr ⟨zNewa_ok (at0 := .int) hG S.1 S.2.1 S.2.2.2.2.2.2 (Or.inl ⟨rfl, rfl⟩) (by decide) (by decide +kernel) (by decide),
      fun _ h => absurd h List.not_mem_nil⟩⟩⟩⟩⟩⟩⟩⟩⟩⟩
abbrev m_L_init : MethodName := ⟨"CycleCutter$Layout", "<init>", "()V"⟩
abbrev rm_L_init : Room := { frames := 2, cells := 23, slots := 6477, locals := 40 }
def sp_L_init : cy_S := fun j ws R => j = 10 ∧ ws = [.inl (3, [.inr (.inr (.inl 1)), .inr (.inr (.inr (.inr .null))), .inr (.inr (.inr (.inr .null))), .inl 0]), .inl (2, [.inr (.inr (.inl 2)), .inr (.inr (.inl 3)), .inr (.inr (.inl 4)), .inr (.inr (.inl 5)), .inr (.inr (.inl 6)), .inr (.inr (.inl 7)), .inr (.inr (.inl 8)), .inr (.inr (.inl 9)), .inl 0, .inl 0, .inl 0, .inl 0]), .inr (.inl (120, fun _ => 0)), .inr (.inl (120, fun _ => 0)), .inr (.inl (120, fun _ => 0)), .inr (.inl (500, fun _ => 0)), .inr (.inr (.inl (500, fun _ => 0))), .inr (.inl (500, fun _ => 0)), .inr (.inr (.inr (.inr (120, 4, fun _ _ => 0)))), .inr (.inr (.inr (.inr (120, 4, fun _ _ => 0)))), .inl (0, [.inr (.inr (.inr (.inr .null))), .inr (.inr (.inr (.inr .null))), .inr (.inr (.inr (.inr .null))), .inr (.inr (.inr (.inr .null))), .inl 0])] ∧ R [.inl (3, [.inr (.inr (.inl 1)), .inr (.inr (.inr (.inr .null))), .inr (.inr (.inr (.inr .null))), .inl 0]), .inl (2, [.inr (.inr (.inl 2)), .inr (.inr (.inl 3)), .inr (.inr (.inl 4)), .inr (.inr (.inl 5)), .inr (.inr (.inl 6)), .inr (.inr (.inl 7)), .inr (.inr (.inl 8)), .inr (.inr (.inl 9)), .inl 0, .inl 0, .inl 0, .inl 0]), .inr (.inl (120, fun _ => 0)), .inr (.inl (120, fun _ => 0)), .inr (.inl (120, fun _ => 0)), .inr (.inl (500, fun _ => 0)), .inr (.inr (.inl (500, fun _ => 0))), .inr (.inl (500, fun _ => 0)), .inr (.inr (.inr (.inr (120, 4, fun _ _ => 0)))), .inr (.inr (.inr (.inr (120, 4, fun _ _ => 0)))), .inl (0, [.inr (.inr (.inl 11)), .inr (.inr (.inl 21)), .inr (.inr (.inl 22)), .inr (.inr (.inl 23)), .inl 0]), .inl (1, [.inr (.inr (.inl 12)), .inr (.inr (.inl 13)), .inr (.inr (.inl 14)), .inr (.inr (.inl 15)), .inr (.inr (.inl 16)), .inr (.inr (.inl 17)), .inr (.inr (.inl 18)), .inr (.inr (.inl 19)), .inr (.inr (.inl 20)), .inl 2, .inl 0]), .inr (.inl (876, fun _ => 0)), .inr (.inl (876, fun _ => 0)), .inr (.inl (876, fun _ => 0)), .inr (.inl (876, fun _ => 0)), .inr (.inl (876, fun _ => 0)), .inr (.inl (876, fun _ => 0)), .inr (.inr (.inl (876, fun _ => 0))), .inr (.inl (256, fun _ => 0)), .inr (.inl (8, fun _ => 0)), .inr (.inl (10, fun _ => 0)), .inr (.inl (10, fun _ => 0)), .inr (.inr (.inr (.inr (10, 4, fun _ _ => 0))))]
def t_L_init : List (Nat × cx_E) := [(0, .aload_n 0, 0, 0, 0, 0, 1),
  (4, .aload_n 0, 0, 0, 0, 0, 5),
  (8, .dup, 0, 0, 0, 0, 9),
  (12, .putfield 12, 2, 0, 0, 0, 15),
  (15, .aload_n 0, 0, 0, 0, 0, 16),
  (16, .bipush 10, 10, 0, 0, 0, 18),
  (20, .putfield 18, 2, 0, 0, 1, 23),
  (23, .aload_n 0, 0, 0, 0, 0, 24),
  (24, .bipush 10, 10, 0, 0, 0, 26),
  (28, .putfield 22, 2, 0, 0, 2, 31),
  (31, .aload_n 0, 0, 0, 0, 0, 32),
  (32, .bipush 10, 10, 0, 0, 0, 34),
  (34, .iconst 4, 4, 0, 0, 0, 35),
  (39, .putfield 27, 2, 0, 0, 3, 42),
  (42, .aload_n 0, 0, 0, 0, 0, 43),
  (43, .iconst 0, 0, 0, 0, 0, 44),
  (44, .putfield 30, 0, 0, 0, 4, 47),
  (47, .return_, 0, 0, 0, 0, 48)]
abbrev q_L_init : List (Nat × Nat × Nat × Int32) := [(12, 0, 0, 2), (18, 0, 1, 2), (22, 0, 2, 2), (27, 0, 3, 2), (30, 0, 4, 0)]
theorem cw_0 : cy_w "CycleCutter$Layout" "CycleCutter" 11 m_M_init prog_3_method_1_code 1 := ⟨Or.inr (cx_in 104 (by decide +kernel) (by decide +kernel)), ⟨cx_in 105 (by decide +kernel) (by decide +kernel), cx_in 106 (by decide +kernel) (by decide +kernel)⟩, by decide +kernel, ⟨by decide +kernel, by decide +kernel⟩, rfl, by decide +kernel⟩
def z_L_init : List (Nat × cz_Z) := [(1, zObj 4),
  (5, zNew 8 1 11 d_M 23 6477),
  (9, zCtor 12 sp_M_init 9 6396 23 6477),
  (18, zNewa 20 0 10 23 6477),
  (26, zNewa 28 0 10 23 6477),
  (35, zGrid 39 10 4 23 6477)]
theorem k_L_init : t_L_init.all (cx_dec true prog_2_method_1_code none 1 [] q_L_init [] [] [] [] []) = true := by decide +kernel
set_option maxRecDepth 100000 in
set_option maxHeartbeats 4000000 in
theorem pu_L_init : ∀ j ws Rq, sp_L_init j ws Rq → ∀ V, cz_cl t_L_init z_L_init [] 23 6477 (fun o ws => o = .inl none ∧ Rq ws) V → V 0 (cx_lv0 [.inr (.inr (.inl j))] 1) [] ws 0 0 := by
  rintro j ws Rq ⟨rfl, rfl, h⟩ V hV
  refine hV [] 400 _ _ _ _ _ _ ?_
  conv => whnf
  refine ⟨by decide, ?_⟩
  conv => whnf
  refine ⟨⟨⟨by decide, by decide⟩, by decide, by decide⟩, ?_⟩
  conv => whnf
  refine ⟨⟨by decide, by decide, by decide⟩, rfl, rfl, ?_⟩
  conv => whnf
  refine ⟨rfl, ?_⟩
  conv => whnf
  refine ⟨⟨rfl, ⟨by decide, by decide⟩, by decide, by decide⟩, ?_⟩
  conv => whnf
  refine ⟨rfl, ?_⟩
  conv => whnf
  refine ⟨⟨rfl, ⟨by decide, by decide⟩, by decide, by decide⟩, ?_⟩
  conv => whnf
  refine ⟨rfl, ?_⟩
  conv => whnf
  refine ⟨⟨⟨rfl, rfl⟩, ⟨by decide, by decide, by decide⟩, by decide, by decide⟩, ?_⟩
  conv => whnf
  refine ⟨rfl, ?_⟩
  conv => whnf
  refine ⟨Or.inl rfl, ?_⟩
  conv => whnf
  exact ⟨rfl, h⟩
set_option maxRecDepth 100000 in
set_option maxHeartbeats 4000000 in
theorem c_L_init {l : Launch} {G : cx_G} (hG : cy_okG G) (hcl : cx_cl G = cx_cls) : cy_M l G m_L_init prog_2_method_1_code 1 rm_L_init sp_L_init := by
  refine cy_mk hG (Zs := z_L_init) (by decide) k_L_init (fun S => ?_) (fun S => ?_) pu_L_init
  · exact List.forall_mem_cons.mpr ⟨cy_putR (own := r_L) (C := r_L) (T0 := f_L) (N0 := 5) S.1 S.2.1 S.2.2.2.2.1 S.2.2.2.2.2.2.1 S.2.2.2.2.2.1 (by rw [hcl]; rfl) i_L y_L y_L_ok n_L (by decide) (cx_in 145 (by decide +kernel) (by decide +kernel)) rfl rfl (Or.inl ⟨_, rfl⟩),
      List.forall_mem_cons.mpr ⟨cy_putR (own := r_L) (C := r_L) (T0 := f_L) (N0 := 5) S.1 S.2.1 S.2.2.2.2.1 S.2.2.2.2.2.2.1 S.2.2.2.2.2.1 (by rw [hcl]; rfl) i_L y_L y_L_ok n_L (by decide) (cx_in 147 (by decide +kernel) (by decide +kernel)) rfl rfl (Or.inr ⟨_, rfl⟩),
      List.forall_mem_cons.mpr ⟨cy_putR (own := r_L) (C := r_L) (T0 := f_L) (N0 := 5) S.1 S.2.1 S.2.2.2.2.1 S.2.2.2.2.2.2.1 S.2.2.2.2.2.1 (by rw [hcl]; rfl) i_L y_L y_L_ok n_L (by decide) (cx_in 149 (by decide +kernel) (by decide +kernel)) rfl rfl (Or.inr ⟨_, rfl⟩),
      List.forall_mem_cons.mpr ⟨cy_putR (own := r_L) (C := r_L) (T0 := f_L) (N0 := 5) S.1 S.2.1 S.2.2.2.2.1 S.2.2.2.2.2.2.1 S.2.2.2.2.2.1 (by rw [hcl]; rfl) i_L y_L y_L_ok n_L (by decide) (cx_in 151 (by decide +kernel) (by decide +kernel)) rfl rfl (Or.inr ⟨_, rfl⟩),
      List.forall_mem_cons.mpr ⟨cx_putP (own := r_L) (C := r_L) (T0 := f_L) (N0 := 5) S.1 S.2.1 S.2.2.2.2.2.2.1 S.2.2.2.2.2.1 (by rw [hcl]; rfl) i_L y_L y_L_ok n_L (by decide) (cx_in 152 (by decide +kernel) (by decide +kernel)) rfl rfl (Or.inl ⟨rfl, rfl⟩),
      fun _ h => absurd h List.not_mem_nil⟩⟩⟩⟩⟩
  · exact List.forall_mem_cons.mpr ⟨zObj_ok (z := 3) S.1 S.2.1 S.2.2.1 (S.2.2.2.2.2.2).1 S.2.2.2.2.2.1 (cx_in 101 (by decide +kernel) (by decide +kernel)) (by decide +kernel) (by decide),
      List.forall_mem_cons.mpr ⟨zNew_ok (C := r_M) (T0 := f_M) (z := 9) hG S.1 S.2.1 (S.2.2.2.2.2.2).1 S.2.2.2.2.2.1 (by rw [hcl]; rfl) i_M y_M y_M_ok ⟨cx_in 102 (by decide +kernel) (by decide +kernel), cx_in 103 (by decide +kernel) (by decide +kernel), cx_in 27 (by decide +kernel) (by decide +kernel)⟩ d_M_ok (by decide +kernel) (by decide),
      List.forall_mem_cons.mpr ⟨zCtor_ok (rm := rm_M_init) S.1 S.2.1 S.2.2.1 S.2.2.2.2.2.2 S.2.2.2.2.2.1 (c_M_init hG hcl) cw_0 (by decide +kernel) (by decide),
      List.forall_mem_cons.mpr ⟨zNewa_ok (at0 := .int) hG S.1 S.2.1 S.2.2.2.2.2.2 (Or.inl ⟨rfl, rfl⟩) (by decide) (by decide +kernel) (by decide),
      List.forall_mem_cons.mpr ⟨zNewa_ok (at0 := .int) hG S.1 S.2.1 S.2.2.2.2.2.2 (Or.inl ⟨rfl, rfl⟩) (by decide) (by decide +kernel) (by decide),
      List.forall_mem_cons.mpr ⟨zGrid_ok (z := 25) hG S.1 S.2.1 S.2.2.2.2.2.2 S.2.2.2.2.2.1 (cx_in 144 (by decide +kernel) (by decide +kernel)) (by decide) (by decide +kernel) (by decide),
      fun _ h => absurd h List.not_mem_nil⟩⟩⟩⟩⟩⟩
abbrev m_C_init : MethodName := ⟨"CycleCutter", "<init>", "()V"⟩
abbrev rm_C_init : Room := { frames := 3, cells := 274, slots := 9564, locals := 60 }
def sp_C_init : cy_S := fun j ws R => j = 0 ∧ ws = [.inl (3, [.inr (.inr (.inr (.inr .null))), .inr (.inr (.inr (.inr .null))), .inr (.inr (.inr (.inr .null))), .inl 0])] ∧ R [.inl (3, [.inr (.inr (.inl 1)), .inr (.inr (.inl 10)), .inr (.inr (.inl 24)), .inl 0]), .inl (2, [.inr (.inr (.inl 2)), .inr (.inr (.inl 3)), .inr (.inr (.inl 4)), .inr (.inr (.inl 5)), .inr (.inr (.inl 6)), .inr (.inr (.inl 7)), .inr (.inr (.inl 8)), .inr (.inr (.inl 9)), .inl 0, .inl 0, .inl 0, .inl 0]), .inr (.inl (120, fun _ => 0)), .inr (.inl (120, fun _ => 0)), .inr (.inl (120, fun _ => 0)), .inr (.inl (500, fun _ => 0)), .inr (.inr (.inl (500, fun _ => 0))), .inr (.inl (500, fun _ => 0)), .inr (.inr (.inr (.inr (120, 4, fun _ _ => 0)))), .inr (.inr (.inr (.inr (120, 4, fun _ _ => 0)))), .inl (0, [.inr (.inr (.inl 11)), .inr (.inr (.inl 21)), .inr (.inr (.inl 22)), .inr (.inr (.inl 23)), .inl 0]), .inl (1, [.inr (.inr (.inl 12)), .inr (.inr (.inl 13)), .inr (.inr (.inl 14)), .inr (.inr (.inl 15)), .inr (.inr (.inl 16)), .inr (.inr (.inl 17)), .inr (.inr (.inl 18)), .inr (.inr (.inl 19)), .inr (.inr (.inl 20)), .inl 2, .inl 0]), .inr (.inl (876, fun _ => 0)), .inr (.inl (876, fun _ => 0)), .inr (.inl (876, fun _ => 0)), .inr (.inl (876, fun _ => 0)), .inr (.inl (876, fun _ => 0)), .inr (.inl (876, fun _ => 0)), .inr (.inr (.inl (876, fun _ => 0))), .inr (.inl (256, fun _ => 0)), .inr (.inl (8, fun _ => 0)), .inr (.inl (10, fun _ => 0)), .inr (.inl (10, fun _ => 0)), .inr (.inr (.inr (.inr (10, 4, fun _ _ => 0)))), .inr (.inl (10, fun _ => 0))]
def t_C_init : List (Nat × cx_E) := [(0, .aload_n 0, 0, 0, 0, 0, 1),
  (4, .aload_n 0, 0, 0, 0, 0, 5),
  (8, .dup, 0, 0, 0, 0, 9),
  (12, .putfield 12, 2, 0, 3, 0, 15),
  (15, .aload_n 0, 0, 0, 0, 0, 16),
  (19, .dup, 0, 0, 0, 0, 20),
  (23, .putfield 19, 2, 0, 3, 1, 26),
  (26, .aload_n 0, 0, 0, 0, 0, 27),
  (27, .bipush 10, 10, 0, 0, 0, 29),
  (31, .putfield 23, 2, 0, 3, 2, 34),
  (34, .aload_n 0, 0, 0, 0, 0, 35),
  (35, .iconst 0, 0, 0, 0, 0, 36),
  (36, .putfield 27, 0, 0, 3, 3, 39),
  (39, .return_, 0, 0, 0, 0, 40)]
abbrev q_C_init : List (Nat × Nat × Nat × Int32) := [(12, 3, 0, 2), (19, 3, 1, 2), (23, 3, 2, 2), (27, 3, 3, 0)]
theorem cw_1 : cy_w "CycleCutter" "CycleCutter" 11 m_N_init prog_4_method_1_code 1 := ⟨Or.inr (cx_in 47 (by decide +kernel) (by decide +kernel)), ⟨cx_in 48 (by decide +kernel) (by decide +kernel), cx_in 49 (by decide +kernel) (by decide +kernel)⟩, by decide +kernel, ⟨by decide +kernel, by decide +kernel⟩, rfl, by decide +kernel⟩
theorem cw_2 : cy_w "CycleCutter" "CycleCutter" 18 m_L_init prog_2_method_1_code 1 := ⟨Or.inr (cx_in 98 (by decide +kernel) (by decide +kernel)), ⟨cx_in 99 (by decide +kernel) (by decide +kernel), cx_in 100 (by decide +kernel) (by decide +kernel)⟩, by decide +kernel, ⟨by decide +kernel, by decide +kernel⟩, rfl, by decide +kernel⟩
def z_C_init : List (Nat × cz_Z) := [(1, zObj 4),
  (5, zNew 8 2 12 d_N 274 9564),
  (9, zCtor 12 sp_N_init 248 3060 274 9564),
  (16, zNew 19 0 5 d_L 274 9564),
  (20, zCtor 23 sp_L_init 23 6477 274 9564),
  (29, zNewa 31 0 10 274 9564)]
theorem k_C_init : t_C_init.all (cx_dec true prog_1_method_1_code none 1 [] q_C_init [] [] [] [] []) = true := by decide +kernel
set_option maxRecDepth 100000 in
set_option maxHeartbeats 4000000 in
theorem pu_C_init : ∀ j ws Rq, sp_C_init j ws Rq → ∀ V, cz_cl t_C_init z_C_init [] 274 9564 (fun o ws => o = .inl none ∧ Rq ws) V → V 0 (cx_lv0 [.inr (.inr (.inl j))] 1) [] ws 0 0 := by
  rintro j ws Rq ⟨rfl, rfl, h⟩ V hV
  refine hV [] 400 _ _ _ _ _ _ ?_
  conv => whnf
  refine ⟨by decide, ?_⟩
  conv => whnf
  refine ⟨⟨⟨by decide, by decide⟩, by decide, by decide⟩, ?_⟩
  conv => whnf
  refine ⟨⟨by decide, by decide, by decide⟩, rfl, rfl, ?_⟩
  conv => whnf
  refine ⟨rfl, ?_⟩
  conv => whnf
  refine ⟨⟨⟨by decide, by decide⟩, by decide, by decide⟩, ?_⟩
  conv => whnf
  refine ⟨⟨by decide, by decide, by decide⟩, rfl, rfl, ?_⟩
  conv => whnf
  refine ⟨rfl, ?_⟩
  conv => whnf
  refine ⟨⟨rfl, ⟨by decide, by decide⟩, by decide, by decide⟩, ?_⟩
  conv => whnf
  refine ⟨rfl, ?_⟩
  conv => whnf
  refine ⟨Or.inl rfl, ?_⟩
  conv => whnf
  exact ⟨rfl, h⟩
set_option maxRecDepth 100000 in
set_option maxHeartbeats 4000000 in
theorem c_C_init {l : Launch} {G : cx_G} (hG : cy_okG G) (hcl : cx_cl G = cx_cls) : cy_M l G m_C_init prog_1_method_1_code 1 rm_C_init sp_C_init := by
  refine cy_mk hG (Zs := z_C_init) (by decide) k_C_init (fun S => ?_) (fun S => ?_) pu_C_init
  · exact List.forall_mem_cons.mpr ⟨cy_putR (own := r_C) (C := r_C) (T0 := f_C) (N0 := 4) S.1 S.2.1 S.2.2.2.2.1 S.2.2.2.2.2.2.1 S.2.2.2.2.2.1 (by rw [hcl]; rfl) i_C y_C y_C_ok n_C (by decide) (cx_in 165 (by decide +kernel) (by decide +kernel)) rfl rfl (Or.inl ⟨_, rfl⟩),
      List.forall_mem_cons.mpr ⟨cy_putR (own := r_C) (C := r_C) (T0 := f_C) (N0 := 4) S.1 S.2.1 S.2.2.2.2.1 S.2.2.2.2.2.2.1 S.2.2.2.2.2.1 (by rw [hcl]; rfl) i_C y_C y_C_ok n_C (by decide) (cx_in 166 (by decide +kernel) (by decide +kernel)) rfl rfl (Or.inl ⟨_, rfl⟩),
      List.forall_mem_cons.mpr ⟨cy_putR (own := r_C) (C := r_C) (T0 := f_C) (N0 := 4) S.1 S.2.1 S.2.2.2.2.1 S.2.2.2.2.2.2.1 S.2.2.2.2.2.1 (by rw [hcl]; rfl) i_C y_C y_C_ok n_C (by decide) (cx_in 167 (by decide +kernel) (by decide +kernel)) rfl rfl (Or.inr ⟨_, rfl⟩),
      List.forall_mem_cons.mpr ⟨cx_putP (own := r_C) (C := r_C) (T0 := f_C) (N0 := 4) S.1 S.2.1 S.2.2.2.2.2.2.1 S.2.2.2.2.2.1 (by rw [hcl]; rfl) i_C y_C y_C_ok n_C (by decide) (cx_in 168 (by decide +kernel) (by decide +kernel)) rfl rfl (Or.inl ⟨rfl, rfl⟩),
      fun _ h => absurd h List.not_mem_nil⟩⟩⟩⟩
  · exact List.forall_mem_cons.mpr ⟨zObj_ok (z := 3) S.1 S.2.1 S.2.2.1 (S.2.2.2.2.2.2).1 S.2.2.2.2.2.1 (cx_in 42 (by decide +kernel) (by decide +kernel)) (by decide +kernel) (by decide),
      List.forall_mem_cons.mpr ⟨zNew_ok (C := r_N) (T0 := f_N) (z := 9) hG S.1 S.2.1 (S.2.2.2.2.2.2).1 S.2.2.2.2.2.1 (by rw [hcl]; rfl) i_N y_N y_N_ok ⟨cx_in 45 (by decide +kernel) (by decide +kernel), cx_in 46 (by decide +kernel) (by decide +kernel), cx_in 25 (by decide +kernel) (by decide +kernel)⟩ d_N_ok (by decide +kernel) (by decide),
      List.forall_mem_cons.mpr ⟨zCtor_ok (rm := rm_N_init) S.1 S.2.1 S.2.2.1 S.2.2.2.2.2.2 S.2.2.2.2.2.1 (c_N_init hG hcl) cw_1 (by decide +kernel) (by decide),
      List.forall_mem_cons.mpr ⟨zNew_ok (C := r_L) (T0 := f_L) (z := 16) hG S.1 S.2.1 (S.2.2.2.2.2.2).1 S.2.2.2.2.2.1 (by rw [hcl]; rfl) i_L y_L y_L_ok ⟨cx_in 96 (by decide +kernel) (by decide +kernel), cx_in 97 (by decide +kernel) (by decide +kernel), cx_in 26 (by decide +kernel) (by decide +kernel)⟩ d_L_ok (by decide +kernel) (by decide),
      List.forall_mem_cons.mpr ⟨zCtor_ok (rm := rm_L_init) S.1 S.2.1 S.2.2.1 S.2.2.2.2.2.2 S.2.2.2.2.2.1 (c_L_init hG hcl) cw_2 (by decide +kernel) (by decide),
      List.forall_mem_cons.mpr ⟨zNewa_ok (at0 := .int) hG S.1 S.2.1 S.2.2.2.2.2.2 (Or.inl ⟨rfl, rfl⟩) (by decide) (by decide +kernel) (by decide),
      fun _ h => absurd h List.not_mem_nil⟩⟩⟩⟩⟩⟩
abbrev m_R_init : MethodName := ⟨"CycleCutterModel", "<init>", "()V"⟩
abbrev rm_R_init : Room := { frames := 1, cells := 14, slots := 19978, locals := 20 }
def sp_R_init : cy_S := fun j ws R => j = 25 ∧ ws = [.inl (3, [.inr (.inr (.inl 1)), .inr (.inr (.inl 10)), .inr (.inr (.inl 24)), .inl 0]), .inl (2, [.inr (.inr (.inl 2)), .inr (.inr (.inl 3)), .inr (.inr (.inl 4)), .inr (.inr (.inl 5)), .inr (.inr (.inl 6)), .inr (.inr (.inl 7)), .inr (.inr (.inl 8)), .inr (.inr (.inl 9)), .inl 0, .inl 0, .inl 0, .inl 0]), .inr (.inl (120, fun _ => 0)), .inr (.inl (120, fun _ => 0)), .inr (.inl (120, fun _ => 0)), .inr (.inl (500, fun _ => 0)), .inr (.inr (.inl (500, fun _ => 0))), .inr (.inl (500, fun _ => 0)), .inr (.inr (.inr (.inr (120, 4, fun _ _ => 0)))), .inr (.inr (.inr (.inr (120, 4, fun _ _ => 0)))), .inl (0, [.inr (.inr (.inl 11)), .inr (.inr (.inl 21)), .inr (.inr (.inl 22)), .inr (.inr (.inl 23)), .inl 0]), .inl (1, [.inr (.inr (.inl 12)), .inr (.inr (.inl 13)), .inr (.inr (.inl 14)), .inr (.inr (.inl 15)), .inr (.inr (.inl 16)), .inr (.inr (.inl 17)), .inr (.inr (.inl 18)), .inr (.inr (.inl 19)), .inr (.inr (.inl 20)), .inl 2, .inl 0]), .inr (.inl (876, fun _ => 0)), .inr (.inl (876, fun _ => 0)), .inr (.inl (876, fun _ => 0)), .inr (.inl (876, fun _ => 0)), .inr (.inl (876, fun _ => 0)), .inr (.inl (876, fun _ => 0)), .inr (.inr (.inl (876, fun _ => 0))), .inr (.inl (256, fun _ => 0)), .inr (.inl (8, fun _ => 0)), .inr (.inl (10, fun _ => 0)), .inr (.inl (10, fun _ => 0)), .inr (.inr (.inr (.inr (10, 4, fun _ _ => 0)))), .inr (.inl (10, fun _ => 0)), .inl (4, [.inl 0, .inl 0, .inl 0, .inl 0, .inl 0, .inr (.inr (.inr (.inr .null))), .inr (.inr (.inr (.inr .null))), .inr (.inr (.inr (.inr .null))), .inr (.inr (.inr (.inr .null))), .inr (.inr (.inr (.inr .null))), .inr (.inr (.inr (.inr .null))), .inr (.inr (.inr (.inr .null))), .inl 0, .inl 0, .inr (.inr (.inr (.inr .null))), .inr (.inr (.inr (.inr .null))), .inr (.inr (.inr (.inr .null))), .inr (.inr (.inr (.inr .null))), .inr (.inr (.inr (.inr .null))), .inr (.inr (.inr (.inr .null))), .inr (.inr (.inr (.inr .null)))])] ∧ R [.inl (3, [.inr (.inr (.inl 1)), .inr (.inr (.inl 10)), .inr (.inr (.inl 24)), .inl 0]), .inl (2, [.inr (.inr (.inl 2)), .inr (.inr (.inl 3)), .inr (.inr (.inl 4)), .inr (.inr (.inl 5)), .inr (.inr (.inl 6)), .inr (.inr (.inl 7)), .inr (.inr (.inl 8)), .inr (.inr (.inl 9)), .inl 0, .inl 0, .inl 0, .inl 0]), .inr (.inl (120, fun _ => 0)), .inr (.inl (120, fun _ => 0)), .inr (.inl (120, fun _ => 0)), .inr (.inl (500, fun _ => 0)), .inr (.inr (.inl (500, fun _ => 0))), .inr (.inl (500, fun _ => 0)), .inr (.inr (.inr (.inr (120, 4, fun _ _ => 0)))), .inr (.inr (.inr (.inr (120, 4, fun _ _ => 0)))), .inl (0, [.inr (.inr (.inl 11)), .inr (.inr (.inl 21)), .inr (.inr (.inl 22)), .inr (.inr (.inl 23)), .inl 0]), .inl (1, [.inr (.inr (.inl 12)), .inr (.inr (.inl 13)), .inr (.inr (.inl 14)), .inr (.inr (.inl 15)), .inr (.inr (.inl 16)), .inr (.inr (.inl 17)), .inr (.inr (.inl 18)), .inr (.inr (.inl 19)), .inr (.inr (.inl 20)), .inl 2, .inl 0]), .inr (.inl (876, fun _ => 0)), .inr (.inl (876, fun _ => 0)), .inr (.inl (876, fun _ => 0)), .inr (.inl (876, fun _ => 0)), .inr (.inl (876, fun _ => 0)), .inr (.inl (876, fun _ => 0)), .inr (.inr (.inl (876, fun _ => 0))), .inr (.inl (256, fun _ => 0)), .inr (.inl (8, fun _ => 0)), .inr (.inl (10, fun _ => 0)), .inr (.inl (10, fun _ => 0)), .inr (.inr (.inr (.inr (10, 4, fun _ _ => 0)))), .inr (.inl (10, fun _ => 0)), .inl (4, [.inl 0, .inl 0, .inl 0, .inl 0, .inl 0, .inr (.inr (.inl 26)), .inr (.inr (.inl 27)), .inr (.inr (.inl 28)), .inr (.inr (.inl 29)), .inr (.inr (.inl 30)), .inr (.inr (.inl 31)), .inr (.inr (.inl 32)), .inl 0, .inl 0, .inr (.inr (.inl 33)), .inr (.inr (.inl 34)), .inr (.inr (.inl 35)), .inr (.inr (.inl 36)), .inr (.inr (.inl 37)), .inr (.inr (.inl 38)), .inr (.inr (.inl 39))]), .inr (.inl (120, fun _ => 0)), .inr (.inl (120, fun _ => 0)), .inr (.inl (500, fun _ => 0)), .inr (.inl (500, fun _ => 0)), .inr (.inl (10, fun _ => 0)), .inr (.inr (.inl (500, fun _ => 0))), .inr (.inl (120, fun _ => 0)), .inr (.inr (.inr (.inl (8088, fun _ => 0)))), .inr (.inl (2000, fun _ => 0)), .inr (.inl (2000, fun _ => 0)), .inr (.inl (2000, fun _ => 0)), .inr (.inl (2000, fun _ => 0)), .inr (.inl (20, fun _ => 0)), .inr (.inr (.inl (2000, fun _ => 0)))]
def t_R_init : List (Nat × cx_E) := [(0, .aload_n 0, 0, 0, 0, 0, 1),
  (4, .aload_n 0, 0, 0, 0, 0, 5),
  (5, .bipush 120, 120, 0, 0, 0, 7),
  (9, .putfield 7, 2, 0, 4, 5, 12),
  (12, .aload_n 0, 0, 0, 0, 0, 13),
  (13, .bipush 120, 120, 0, 0, 0, 15),
  (17, .putfield 13, 2, 0, 4, 6, 20),
  (20, .aload_n 0, 0, 0, 0, 0, 21),
  (21, .sipush 500, 500, 0, 0, 0, 24),
  (26, .putfield 16, 2, 0, 4, 7, 29),
  (29, .aload_n 0, 0, 0, 0, 0, 30),
  (30, .sipush 500, 500, 0, 0, 0, 33),
  (35, .putfield 19, 2, 0, 4, 8, 38),
  (38, .aload_n 0, 0, 0, 0, 0, 39),
  (39, .bipush 10, 10, 0, 0, 0, 41),
  (43, .putfield 22, 2, 0, 4, 9, 46),
  (46, .aload_n 0, 0, 0, 0, 0, 47),
  (47, .sipush 500, 500, 0, 0, 0, 50),
  (52, .putfield 25, 2, 0, 4, 10, 55),
  (55, .aload_n 0, 0, 0, 0, 0, 56),
  (56, .bipush 120, 120, 0, 0, 0, 58),
  (60, .putfield 29, 2, 0, 4, 11, 63),
  (63, .aload_n 0, 0, 0, 0, 0, 64),
  (64, .sipush 8088, 8088, 0, 0, 0, 67),
  (69, .putfield 32, 2, 0, 4, 14, 72),
  (72, .aload_n 0, 0, 0, 0, 0, 73),
  (73, .sipush 2000, 2000, 0, 0, 0, 76),
  (78, .putfield 36, 2, 0, 4, 15, 81),
  (81, .aload_n 0, 0, 0, 0, 0, 82),
  (82, .sipush 2000, 2000, 0, 0, 0, 85),
  (87, .putfield 39, 2, 0, 4, 16, 90),
  (90, .aload_n 0, 0, 0, 0, 0, 91),
  (91, .sipush 2000, 2000, 0, 0, 0, 94),
  (96, .putfield 42, 2, 0, 4, 17, 99),
  (99, .aload_n 0, 0, 0, 0, 0, 100),
  (100, .sipush 2000, 2000, 0, 0, 0, 103),
  (105, .putfield 45, 2, 0, 4, 18, 108),
  (108, .aload_n 0, 0, 0, 0, 0, 109),
  (109, .bipush 20, 20, 0, 0, 0, 111),
  (113, .putfield 48, 2, 0, 4, 19, 116),
  (116, .aload_n 0, 0, 0, 0, 0, 117),
  (117, .sipush 2000, 2000, 0, 0, 0, 120),
  (122, .putfield 51, 2, 0, 4, 20, 125),
  (125, .return_, 0, 0, 0, 0, 126)]
abbrev q_R_init : List (Nat × Nat × Nat × Int32) := [(7, 4, 5, 2), (13, 4, 6, 2), (16, 4, 7, 2), (19, 4, 8, 2), (22, 4, 9, 2), (25, 4, 10, 2), (29, 4, 11, 2), (32, 4, 14, 2), (36, 4, 15, 2), (39, 4, 16, 2), (42, 4, 17, 2), (45, 4, 18, 2), (48, 4, 19, 2), (51, 4, 20, 2)]
def z_R_init : List (Nat × cz_Z) := [(1, zObj 4),
  (7, zNewa 9 0 120 14 19978),
  (15, zNewa 17 0 120 14 19978),
  (24, zNewa 26 0 500 14 19978),
  (33, zNewa 35 0 500 14 19978),
  (41, zNewa 43 0 10 14 19978),
  (50, zNewa 52 1 500 14 19978),
  (58, zNewa 60 0 120 14 19978),
  (67, zNewa 69 2 8088 14 19978),
  (76, zNewa 78 0 2000 14 19978),
  (85, zNewa 87 0 2000 14 19978),
  (94, zNewa 96 0 2000 14 19978),
  (103, zNewa 105 0 2000 14 19978),
  (111, zNewa 113 0 20 14 19978),
  (120, zNewa 122 1 2000 14 19978)]
theorem k_R_init : t_R_init.all (cx_dec true prog_6_method_1_code none 1 [] q_R_init [] [] [] [] []) = true := by decide +kernel
set_option maxRecDepth 100000 in
set_option maxHeartbeats 4000000 in
theorem pu_R_init : ∀ j ws Rq, sp_R_init j ws Rq → ∀ V, cz_cl t_R_init z_R_init [] 14 19978 (fun o ws => o = .inl none ∧ Rq ws) V → V 0 (cx_lv0 [.inr (.inr (.inl j))] 1) [] ws 0 0 := by
  rintro j ws Rq ⟨rfl, rfl, h⟩ V hV
  refine hV [] 400 _ _ _ _ _ _ ?_
  conv => whnf
  refine ⟨by decide, ?_⟩
  conv => whnf
  refine ⟨⟨rfl, ⟨by decide, by decide⟩, by decide, by decide⟩, ?_⟩
  conv => whnf
  refine ⟨rfl, ?_⟩
  conv => whnf
  refine ⟨⟨rfl, ⟨by decide, by decide⟩, by decide, by decide⟩, ?_⟩
  conv => whnf
  refine ⟨rfl, ?_⟩
  conv => whnf
  refine ⟨⟨rfl, ⟨by decide, by decide⟩, by decide, by decide⟩, ?_⟩
  conv => whnf
  refine ⟨rfl, ?_⟩
  conv => whnf
  refine ⟨⟨rfl, ⟨by decide, by decide⟩, by decide, by decide⟩, ?_⟩
  conv => whnf
  refine ⟨rfl, ?_⟩
  conv => whnf
  refine ⟨⟨rfl, ⟨by decide, by decide⟩, by decide, by decide⟩, ?_⟩
  conv => whnf
  refine ⟨rfl, ?_⟩
  conv => whnf
  refine ⟨⟨rfl, ⟨by decide, by decide⟩, by decide, by decide⟩, ?_⟩
  conv => whnf
  refine ⟨rfl, ?_⟩
  conv => whnf
  refine ⟨⟨rfl, ⟨by decide, by decide⟩, by decide, by decide⟩, ?_⟩
  conv => whnf
  refine ⟨rfl, ?_⟩
  conv => whnf
  refine ⟨⟨rfl, ⟨by decide, by decide⟩, by decide, by decide⟩, ?_⟩
  conv => whnf
  refine ⟨rfl, ?_⟩
  conv => whnf
  refine ⟨⟨rfl, ⟨by decide, by decide⟩, by decide, by decide⟩, ?_⟩
  conv => whnf
  refine ⟨rfl, ?_⟩
  conv => whnf
  refine ⟨⟨rfl, ⟨by decide, by decide⟩, by decide, by decide⟩, ?_⟩
  conv => whnf
  refine ⟨rfl, ?_⟩
  conv => whnf
  refine ⟨⟨rfl, ⟨by decide, by decide⟩, by decide, by decide⟩, ?_⟩
  conv => whnf
  refine ⟨rfl, ?_⟩
  conv => whnf
  refine ⟨⟨rfl, ⟨by decide, by decide⟩, by decide, by decide⟩, ?_⟩
  conv => whnf
  refine ⟨rfl, ?_⟩
  conv => whnf
  refine ⟨⟨rfl, ⟨by decide, by decide⟩, by decide, by decide⟩, ?_⟩
  conv => whnf
  refine ⟨rfl, ?_⟩
  conv => whnf
  refine ⟨⟨rfl, ⟨by decide, by decide⟩, by decide, by decide⟩, ?_⟩
  conv => whnf
  refine ⟨rfl, ?_⟩
  conv => whnf
  exact ⟨rfl, h⟩
set_option maxRecDepth 100000 in
set_option maxHeartbeats 4000000 in
theorem c_R_init {l : Launch} {G : cx_G} (hG : cy_okG G) (hcl : cx_cl G = cx_cls) : cy_M l G m_R_init prog_6_method_1_code 1 rm_R_init sp_R_init := by
  refine cy_mk hG (Zs := z_R_init) (by decide) k_R_init (fun S => ?_) (fun S => ?_) pu_R_init
  · exact List.forall_mem_cons.mpr ⟨cy_putR (own := r_R) (C := r_R) (T0 := f_R) (N0 := 21) S.1 S.2.1 S.2.2.2.2.1 S.2.2.2.2.2.2.1 S.2.2.2.2.2.1 (by rw [hcl]; rfl) i_R y_R y_R_ok n_R (by decide) (cx_in 512 (by decide +kernel) (by decide +kernel)) rfl rfl (Or.inr ⟨_, rfl⟩),
      List.forall_mem_cons.mpr ⟨cy_putR (own := r_R) (C := r_R) (T0 := f_R) (N0 := 21) S.1 S.2.1 S.2.2.2.2.1 S.2.2.2.2.2.2.1 S.2.2.2.2.2.1 (by rw [hcl]; rfl) i_R y_R y_R_ok n_R (by decide) (cx_in 513 (by decide +kernel) (by decide +kernel)) rfl rfl (Or.inr ⟨_, rfl⟩),
      List.forall_mem_cons.mpr ⟨cy_putR (own := r_R) (C := r_R) (T0 := f_R) (N0 := 21) S.1 S.2.1 S.2.2.2.2.1 S.2.2.2.2.2.2.1 S.2.2.2.2.2.1 (by rw [hcl]; rfl) i_R y_R y_R_ok n_R (by decide) (cx_in 514 (by decide +kernel) (by decide +kernel)) rfl rfl (Or.inr ⟨_, rfl⟩),
      List.forall_mem_cons.mpr ⟨cy_putR (own := r_R) (C := r_R) (T0 := f_R) (N0 := 21) S.1 S.2.1 S.2.2.2.2.1 S.2.2.2.2.2.2.1 S.2.2.2.2.2.1 (by rw [hcl]; rfl) i_R y_R y_R_ok n_R (by decide) (cx_in 515 (by decide +kernel) (by decide +kernel)) rfl rfl (Or.inr ⟨_, rfl⟩),
      List.forall_mem_cons.mpr ⟨cy_putR (own := r_R) (C := r_R) (T0 := f_R) (N0 := 21) S.1 S.2.1 S.2.2.2.2.1 S.2.2.2.2.2.2.1 S.2.2.2.2.2.1 (by rw [hcl]; rfl) i_R y_R y_R_ok n_R (by decide) (cx_in 516 (by decide +kernel) (by decide +kernel)) rfl rfl (Or.inr ⟨_, rfl⟩),
      List.forall_mem_cons.mpr ⟨cy_putR (own := r_R) (C := r_R) (T0 := f_R) (N0 := 21) S.1 S.2.1 S.2.2.2.2.1 S.2.2.2.2.2.2.1 S.2.2.2.2.2.1 (by rw [hcl]; rfl) i_R y_R y_R_ok n_R (by decide) (cx_in 517 (by decide +kernel) (by decide +kernel)) rfl rfl (Or.inr ⟨_, rfl⟩),
      List.forall_mem_cons.mpr ⟨cy_putR (own := r_R) (C := r_R) (T0 := f_R) (N0 := 21) S.1 S.2.1 S.2.2.2.2.1 S.2.2.2.2.2.2.1 S.2.2.2.2.2.1 (by rw [hcl]; rfl) i_R y_R y_R_ok n_R (by decide) (cx_in 518 (by decide +kernel) (by decide +kernel)) rfl rfl (Or.inr ⟨_, rfl⟩),
      List.forall_mem_cons.mpr ⟨cy_putR (own := r_R) (C := r_R) (T0 := f_R) (N0 := 21) S.1 S.2.1 S.2.2.2.2.1 S.2.2.2.2.2.2.1 S.2.2.2.2.2.1 (by rw [hcl]; rfl) i_R y_R y_R_ok n_R (by decide) (cx_in 521 (by decide +kernel) (by decide +kernel)) rfl rfl (Or.inr ⟨_, rfl⟩),
      List.forall_mem_cons.mpr ⟨cy_putR (own := r_R) (C := r_R) (T0 := f_R) (N0 := 21) S.1 S.2.1 S.2.2.2.2.1 S.2.2.2.2.2.2.1 S.2.2.2.2.2.1 (by rw [hcl]; rfl) i_R y_R y_R_ok n_R (by decide) (cx_in 522 (by decide +kernel) (by decide +kernel)) rfl rfl (Or.inr ⟨_, rfl⟩),
      List.forall_mem_cons.mpr ⟨cy_putR (own := r_R) (C := r_R) (T0 := f_R) (N0 := 21) S.1 S.2.1 S.2.2.2.2.1 S.2.2.2.2.2.2.1 S.2.2.2.2.2.1 (by rw [hcl]; rfl) i_R y_R y_R_ok n_R (by decide) (cx_in 523 (by decide +kernel) (by decide +kernel)) rfl rfl (Or.inr ⟨_, rfl⟩),
      List.forall_mem_cons.mpr ⟨cy_putR (own := r_R) (C := r_R) (T0 := f_R) (N0 := 21) S.1 S.2.1 S.2.2.2.2.1 S.2.2.2.2.2.2.1 S.2.2.2.2.2.1 (by rw [hcl]; rfl) i_R y_R y_R_ok n_R (by decide) (cx_in 524 (by decide +kernel) (by decide +kernel)) rfl rfl (Or.inr ⟨_, rfl⟩),
      List.forall_mem_cons.mpr ⟨cy_putR (own := r_R) (C := r_R) (T0 := f_R) (N0 := 21) S.1 S.2.1 S.2.2.2.2.1 S.2.2.2.2.2.2.1 S.2.2.2.2.2.1 (by rw [hcl]; rfl) i_R y_R y_R_ok n_R (by decide) (cx_in 525 (by decide +kernel) (by decide +kernel)) rfl rfl (Or.inr ⟨_, rfl⟩),
      List.forall_mem_cons.mpr ⟨cy_putR (own := r_R) (C := r_R) (T0 := f_R) (N0 := 21) S.1 S.2.1 S.2.2.2.2.1 S.2.2.2.2.2.2.1 S.2.2.2.2.2.1 (by rw [hcl]; rfl) i_R y_R y_R_ok n_R (by decide) (cx_in 526 (by decide +kernel) (by decide +kernel)) rfl rfl (Or.inr ⟨_, rfl⟩),
      List.forall_mem_cons.mpr ⟨cy_putR (own := r_R) (C := r_R) (T0 := f_R) (N0 := 21) S.1 S.2.1 S.2.2.2.2.1 S.2.2.2.2.2.2.1 S.2.2.2.2.2.1 (by rw [hcl]; rfl) i_R y_R y_R_ok n_R (by decide) (cx_in 527 (by decide +kernel) (by decide +kernel)) rfl rfl (Or.inr ⟨_, rfl⟩),
      fun _ h => absurd h List.not_mem_nil⟩⟩⟩⟩⟩⟩⟩⟩⟩⟩⟩⟩⟩⟩
  · exact List.forall_mem_cons.mpr ⟨zObj_ok (z := 1) S.1 S.2.1 S.2.2.1 (S.2.2.2.2.2.2).1 S.2.2.2.2.2.1 (cx_in 506 (by decide +kernel) (by decide +kernel)) (by decide +kernel) (by decide),
      List.forall_mem_cons.mpr ⟨zNewa_ok (at0 := .int) hG S.1 S.2.1 S.2.2.2.2.2.2 (Or.inl ⟨rfl, rfl⟩) (by decide) (by decide +kernel) (by decide),
      List.forall_mem_cons.mpr ⟨zNewa_ok (at0 := .int) hG S.1 S.2.1 S.2.2.2.2.2.2 (Or.inl ⟨rfl, rfl⟩) (by decide) (by decide +kernel) (by decide),
      List.forall_mem_cons.mpr ⟨zNewa_ok (at0 := .int) hG S.1 S.2.1 S.2.2.2.2.2.2 (Or.inl ⟨rfl, rfl⟩) (by decide) (by decide +kernel) (by decide),
      List.forall_mem_cons.mpr ⟨zNewa_ok (at0 := .int) hG S.1 S.2.1 S.2.2.2.2.2.2 (Or.inl ⟨rfl, rfl⟩) (by decide) (by decide +kernel) (by decide),
      List.forall_mem_cons.mpr ⟨zNewa_ok (at0 := .int) hG S.1 S.2.1 S.2.2.2.2.2.2 (Or.inl ⟨rfl, rfl⟩) (by decide) (by decide +kernel) (by decide),
      List.forall_mem_cons.mpr ⟨zNewa_ok (at0 := .boolean) hG S.1 S.2.1 S.2.2.2.2.2.2 (Or.inr (Or.inl ⟨rfl, rfl⟩)) (by decide) (by decide +kernel) (by decide),
      List.forall_mem_cons.mpr ⟨zNewa_ok (at0 := .int) hG S.1 S.2.1 S.2.2.2.2.2.2 (Or.inl ⟨rfl, rfl⟩) (by decide) (by decide +kernel) (by decide),
      List.forall_mem_cons.mpr ⟨zNewa_ok (at0 := .long) hG S.1 S.2.1 S.2.2.2.2.2.2 (Or.inr (Or.inr ⟨rfl, rfl⟩)) (by decide) (by decide +kernel) (by decide),
      List.forall_mem_cons.mpr ⟨zNewa_ok (at0 := .int) hG S.1 S.2.1 S.2.2.2.2.2.2 (Or.inl ⟨rfl, rfl⟩) (by decide) (by decide +kernel) (by decide),
      List.forall_mem_cons.mpr ⟨zNewa_ok (at0 := .int) hG S.1 S.2.1 S.2.2.2.2.2.2 (Or.inl ⟨rfl, rfl⟩) (by decide) (by decide +kernel) (by decide),
      List.forall_mem_cons.mpr ⟨zNewa_ok (at0 := .int) hG S.1 S.2.1 S.2.2.2.2.2.2 (Or.inl ⟨rfl, rfl⟩) (by decide) (by decide +kernel) (by decide),
      List.forall_mem_cons.mpr ⟨zNewa_ok (at0 := .int) hG S.1 S.2.1 S.2.2.2.2.2.2 (Or.inl ⟨rfl, rfl⟩) (by decide) (by decide +kernel) (by decide),
      List.forall_mem_cons.mpr ⟨zNewa_ok (at0 := .int) hG S.1 S.2.1 S.2.2.2.2.2.2 (Or.inl ⟨rfl, rfl⟩) (by decide) (by decide +kernel) (by decide),
      List.forall_mem_cons.mpr ⟨zNewa_ok (at0 := .boolean) hG S.1 S.2.1 S.2.2.2.2.2.2 (Or.inr (Or.inl ⟨rfl, rfl⟩)) (by decide) (by decide +kernel) (by decide),
      fun _ h => absurd h List.not_mem_nil⟩⟩⟩⟩⟩⟩⟩⟩⟩⟩⟩⟩⟩⟩⟩
abbrev w_0 : List cx_C := [.inl (3, [.inr (.inr (.inl 1)), .inr (.inr (.inl 10)), .inr (.inr (.inl 24)), .inl 0]), .inl (2, [.inr (.inr (.inl 2)), .inr (.inr (.inl 3)), .inr (.inr (.inl 4)), .inr (.inr (.inl 5)), .inr (.inr (.inl 6)), .inr (.inr (.inl 7)), .inr (.inr (.inl 8)), .inr (.inr (.inl 9)), .inl 0, .inl 0, .inl 0, .inl 0]), .inr (.inl (120, fun _ => 0)), .inr (.inl (120, fun _ => 0)), .inr (.inl (120, fun _ => 0)), .inr (.inl (500, fun _ => 0)), .inr (.inr (.inl (500, fun _ => 0))), .inr (.inl (500, fun _ => 0)), .inr (.inr (.inr (.inr (120, 4, fun _ _ => 0)))), .inr (.inr (.inr (.inr (120, 4, fun _ _ => 0)))), .inl (0, [.inr (.inr (.inl 11)), .inr (.inr (.inl 21)), .inr (.inr (.inl 22)), .inr (.inr (.inl 23)), .inl 0]), .inl (1, [.inr (.inr (.inl 12)), .inr (.inr (.inl 13)), .inr (.inr (.inl 14)), .inr (.inr (.inl 15)), .inr (.inr (.inl 16)), .inr (.inr (.inl 17)), .inr (.inr (.inl 18)), .inr (.inr (.inl 19)), .inr (.inr (.inl 20)), .inl 2, .inl 0]), .inr (.inl (876, fun _ => 0)), .inr (.inl (876, fun _ => 0)), .inr (.inl (876, fun _ => 0)), .inr (.inl (876, fun _ => 0)), .inr (.inl (876, fun _ => 0)), .inr (.inl (876, fun _ => 0)), .inr (.inr (.inl (876, fun _ => 0))), .inr (.inl (256, fun _ => 0)), .inr (.inl (8, fun _ => 0)), .inr (.inl (10, fun _ => 0)), .inr (.inl (10, fun _ => 0)), .inr (.inr (.inr (.inr (10, 4, fun _ _ => 0)))), .inr (.inl (10, fun _ => 0)), .inl (4, [.inl 0, .inl 0, .inl 0, .inl 0, .inl 0, .inr (.inr (.inl 26)), .inr (.inr (.inl 27)), .inr (.inr (.inl 28)), .inr (.inr (.inl 29)), .inr (.inr (.inl 30)), .inr (.inr (.inl 31)), .inr (.inr (.inl 32)), .inl 0, .inl 0, .inr (.inr (.inl 33)), .inr (.inr (.inl 34)), .inr (.inr (.inl 35)), .inr (.inr (.inl 36)), .inr (.inr (.inl 37)), .inr (.inr (.inl 38)), .inr (.inr (.inl 39))]), .inr (.inl (120, fun _ => 0)), .inr (.inl (120, fun _ => 0)), .inr (.inl (500, fun _ => 0)), .inr (.inl (500, fun _ => 0)), .inr (.inl (10, fun _ => 0)), .inr (.inr (.inl (500, fun _ => 0))), .inr (.inl (120, fun _ => 0)), .inr (.inr (.inr (.inl (8088, fun _ => 0)))), .inr (.inl (2000, fun _ => 0)), .inr (.inl (2000, fun _ => 0)), .inr (.inl (2000, fun _ => 0)), .inr (.inl (2000, fun _ => 0)), .inr (.inl (20, fun _ => 0)), .inr (.inr (.inl (2000, fun _ => 0))), .inr (.inr (.inr (.inl (1, fun _ => 0))))]
end
section
/-! Calls within try, and methods with handlers. -/
def cw_h (hs : List (String × Nat)) (x : String) (k : Nat → Prop) : Prop := match hs with
  | [] => False
  | q :: r => (x = q.1 ∧ k q.2) ∨ cw_h r x k
theorem cw_h_spec {hs : List (String × Nat)} {x : String} {k : Nat → Prop} (h : cw_h hs x k) : ∃ n, (x, n) ∈ hs ∧ k n := by
  induction hs with
  | nil => exact h.elim
  | cons q r ih =>
    rcases h with ⟨rfl, h⟩ | h
    · exact ⟨q.2, List.mem_cons_self, h⟩
    · obtain ⟨n, h1, h2⟩ := ih h
      exact ⟨n, List.mem_cons_of_mem _ h1, h2⟩
def cx_raw (v : Value) : cx_V := .inr (.inr (.inr (.inr v)))
def zTry (nx : Nat) (f : cx_S) (na kc ks mc ms : Nat) (hs : List (String × Nat)) : cz_Z := fun lv st ws k n K => (k + kc ≤ mc ∧ n + ks ≤ ms ∧ na ≤ st.length ∧ cx_cats (st.drop na) ≤ 8) ∧ f (st.take na).reverse ws (fun o ws' => match o with
  | .inl none => K nx lv (st.drop na) ws' (k + kc) (n + ks)
  | .inl (some u) => K nx lv (u :: st.drop na) ws' (k + kc) (n + ks)
  | .inr x => cw_h hs x (fun h => ∀ ad : Nat, K h lv [.inr (.inr (.inr (.inr (.ref ad))))] ws' (k + kc) (n + ks)))
def zAst (nx : Nat) : cz_Z := fun _ st ws k n K => match st with
  | [.inr (.inr (.inr (.inr (.ref _))))] => K nx [] [] ws k n
  | _ => False
def zCall (nx : Nat) (f : cx_S) (na kc ks mc ms : Nat) (Rq : cx_R) : cz_Z := fun lv st ws k n K => (k + kc ≤ mc ∧ n + ks ≤ ms ∧ na ≤ st.length ∧ cx_cats (st.drop na) ≤ 8) ∧ f (st.take na).reverse ws (cx_end nx lv (st.drop na) (k + kc) (n + ks) K Rq)
/-- what is known where something may be caught -/
def cw_Kn (G : cx_G) (U : State) : Prop := cx_Kn cx_Tb G U ∧ va_Nc "java/lang/IllegalStateException" "java/lang/IndexOutOfBoundsException" U
theorem cw_Kn.warm {G : cx_G} {u U : State} (hW : u.WarmedH U.vm) (h : cw_Kn G u) : cw_Kn G U := ⟨h.1.warm cx_TbAll hW, h.2.moved hW.alike⟩
/-- a method with handlers -/
def cw_M (hs : List (Nat × Nat × Nat × Nat)) (l : Launch) (G : cx_G) (y : MethodName) (cc : ByteArray) (nL : Nat) (rt : Option FieldType) (rm : Room) (f : cx_S) : Prop :=
  ∀ (as : List cx_V) (ws : List cx_C) (Rq : cx_R), f as ws Rq → ∀ (p : Program) (e : Env) (s : State) (m : MethodId) (below : List Frame) (meth : Method) (c : Code), p.tables.exec = Jvm.exec → c.code = cc → c.maxLocals = nL → meth.sig.returnType = rt → meth.locks = false → c.exceptionTable.toList.map (fun h => (h.startPc, h.endPc, h.handlerPc, h.catchType)) = hs → s.vm.findClass y.cls = some m.cls → cw_Kn G s → cx_P G ws s.heap →
    W p l e rm s m (as.map (cx_v G)).toArray below meth c s.heap [] 0 0 (cx_Q below G s rm.cells rm.slots Rq) (entryFrame m (as.map (cx_v G)).toArray nL)
section CWT
variable {p : Program} {l : Launch} {e : Env} {R : Room} {s : State} {m : MethodId} {args : Array Value} {below : List Frame} {meth : Method} {c : Code} {G : cx_G} {nL mc ms : Nat} {cc : ByteArray} {Rq : cx_R} {Q : State → Prop}
/-- the handlers' table catches X, thrown at pc, at h -/
def cw_ct (e : Env) (s : State) (m : MethodId) (c : Code) (pc : Nat) (X : String) (h : Nat) : Prop := ∀ cX, s.vm.findClass X = some cX → (∃ k, s.vm.classes[cX]? = some k) ∧ ∃ (pre : List ExceptionTableEntry) (x : ExceptionTableEntry) (rest : List ExceptionTableEntry), c.exceptionTable.toList = pre ++ x :: rest ∧ (∀ y ∈ pre, RowPassed e.platform s m.cls pc cX y) ∧ covers x pc = true ∧ x.handlerPc = h ∧ RowCatches e.platform s m.cls cX x
theorem zTry_ok (hx : p.tables.exec = Jvm.exec) (hb : c.code = cc) (hml : c.maxLocals = nL) (hKn : cx_Kn cx_Tb G s) {own C host : String} (hown : s.vm.findClass own = some m.cls) {z ci np pc : Nat} {T0 : u_T} {N0 : Nat} (hci : (cx_cl G)[ci]? = some (C, T0, N0)) {y : MethodName} {cc' : ByteArray} {nL' : Nat} {rt' : Option FieldType} {rm : Room} {f : Nat → List cx_V → List cx_C → cx_R → Prop} (hM : cx_M cx_Tb l G y cc' nL' rt' rm (cx_self ci f))
    (hw : cx_wV cx_Tb own C host z np y cc' nL' rt') (hR : cx_Rm rm R nL' mc ms) (hdg : decode cc pc = .ok (.invokevirtual z, 3)) {hs : List (String × Nat)} (hct : ∀ q ∈ hs, cw_ct e s m c pc q.1 q.2) :
    cz_ok p l e R s m args below meth c G nL (cx_F1 G mc ms) Q (pc, zTry (pc + 3) (cx_self ci f) (np + 1) rm.cells rm.slots mc ms hs) := by
  intro lv st ws k n K h hK H locs ls hF hl
  obtain ⟨⟨hk, hn, hlen, hcats⟩, hf⟩ := h
  generalize has : (st.take (np + 1)).reverse = as at hf
  generalize hrest : st.drop (np + 1) = rest at hf hcats
  have hst : st = as.reverse ++ rest := by rw [← has, ← hrest, List.reverse_reverse, List.take_append_drop]
  have hna : as.length = np + 1 := by rw [← has, List.length_reverse, List.length_take]; omega
  subst hst
  intro T hT X
  subst hT
  obtain ⟨vm₁, mk, t, X₁, hst, hQ⟩ := cx_resV cx_TbAll hx hb hml hKn hown hci hM hw.1 hw.2.1 hw.2.2 ⟨hR.1, hR.2.1⟩ hdg hna hcats (Nat.le_trans hk hR.2.2.1) (Nat.le_trans hn hR.2.2.2) hl.1 hf X hF.1
  obtain ⟨o, q, ws', c1, c2, c3, c4, c5, c6, L, c7, c8⟩ := hQ
  have hL' : ∀ q ∈ locs ++ L, (cx_H0 G).size ≤ q.base := fun q hq => (List.mem_append.mp hq).elim (hF.2.2 q) (c8 q)
  cases q with
  | inl u =>
    have ho : o = .returned (u.map (cx_v G)) := by
      cases u with
      | none => exact c4
      | some u => exact c4
    subst ho
    obtain ⟨T', X', hW', hS', ht⟩ := X₁.outOf (g := F0 m pc ls (rest.map (cx_v G))) rfl (by rw [hb]; exact hdg) c2 c6 c7
    have hh : t.heap = T'.heap := by rw [ht]; rfl
    rw [hh] at c5
    have hKu : K (pc + 3) lv (u.toList ++ rest) ws' (k + rm.cells) (n + rm.slots) := by
      cases u with
      | none => exact c3
      | some u => exact c3
    obtain ⟨t₂, a1, b1⟩ := hK _ _ _ _ _ _ hKu T'.heap (locs ++ L) ls ⟨c5, ⟨hk, hn⟩, hL'⟩ hl T' rfl X'
    refine ⟨t₂, hst.trans ?_, b1⟩
    rw [ht]
    have e1 : (u.map (cx_v G)).toList ++ rest.map (cx_v G) = (u.toList ++ rest).map (cx_v G) := by cases u <;> rfl
    show Steps p.tables e below (T'.setTop { F0 m pc ls (rest.map (cx_v G)) with pc := pc + 3, stack := (u.map (cx_v G)).toList ++ rest.map (cx_v G) }) t₂
    rw [e1]
    exact a1
  | inr x =>
    obtain ⟨ad, cell, rfl, d2, d3, d4⟩ := c4
    obtain ⟨hp, hp1, hp2⟩ := cw_h_spec c3
    obtain ⟨T', X', hW', hS', ht⟩ := X₁.outOfThrown (g := F0 m pc ls (rest.map (cx_v G))) rfl c2 c6 c7
    have hh : t.heap = T'.heap := by rw [ht]; rfl
    rw [hh] at c5 d2
    have d3' : s.vm.findClass x = some cell.cls := by
      have d3' : (T.setVm vm₁).vm.findClass x = some cell.cls := d3
      rw [X₁.warmed.alike.findClass] at d3'
      exact d3'
    obtain ⟨hk0, pre, xr, rr, g1, g2, g3, g4, g5⟩ := hct _ hp1 cell.cls d3'
    rw [ht] at hst
    obtain ⟨vm', XV, hst2⟩ := X'.thenCaughtThrough ad (g := F0 m pc ls (rest.map (cx_v G))) rfl hst d2 (by rw [d4]; rfl) hk0 pre xr rr g1 g2 g3 g5
    rw [g4] at hst2
    obtain ⟨t₂, a1, b1⟩ := hK _ _ _ _ _ _ (hp2 ad) T'.heap (locs ++ L) ls ⟨c5, ⟨hk, hn⟩, hL'⟩ hl (T'.setVm vm') rfl XV
    exact ⟨t₂, hst2.trans a1, b1⟩
theorem zAst_ok {F : cx_F} (hx : p.tables.exec = Jvm.exec) (hb : c.code = cc) {pc a : Nat} (ha : a < nL) (hdg : decode cc pc = .ok (.astore a, 2)) : cz_ok p l e R s m args below meth c G nL F Q (pc, zAst (pc + 2)) := by
  intro lv st ws k n K h hK H locs ls hF hl
  change zAst (pc + 2) lv st ws k n K at h
  unfold zAst at h
  split at h
  · exact lv_astore hx hb hdg hl.lv ha rfl (fun ls' h' => hK _ _ _ _ _ _ h H locs ls' hF ⟨h'.1, h'.2.1, fun i v hv => by simp at hv⟩)
  · exact h.elim
theorem zAstN_ok {F : cx_F} (hx : p.tables.exec = Jvm.exec) (hb : c.code = cc) {pc : Nat} {a : Fin 4} (ha : (a : Nat) < nL) (hdg : decode cc pc = .ok (.astore_n a, 1)) : cz_ok p l e R s m args below meth c G nL F Q (pc, zAst (pc + 1)) := by
  intro lv st ws k n K h hK H locs ls hF hl
  change zAst (pc + 1) lv st ws k n K at h
  unfold zAst at h
  split at h
  · exact lv_astore_n hx hb hdg rfl hl.lv ha rfl (fun ls' h' => hK _ _ _ _ _ _ h H locs ls' hF ⟨h'.1, h'.2.1, fun i v hv => by simp at hv⟩)
  · exact h.elim
theorem zCall_ok {F : cx_F} {i : Instr} {f : cx_S} {pc na kc ks : Nat} (hdg : decode cc pc = .ok (i, 3)) (h0 : cx_okcall p l e R s m args below meth c cc G nL mc ms F Q Rq i f na kc ks) : cz_ok p l e R s m args below meth c G nL F Q (pc, zCall (pc + 3) f na kc ks mc ms Rq) := by
  intro lv st ws k n K h hK H locs ls hF hl
  obtain ⟨⟨hk, hn, hlen, hcats⟩, hf⟩ := h
  have hst : ((st.take na).reverse.reverse ++ st.drop na) = st := by rw [List.reverse_reverse, List.take_append_drop]
  have w := h0 pc H locs k n ls (st.take na).reverse (st.drop na) ws _ hdg (by rw [List.length_reverse, List.length_take]; omega) hcats hk hn hF hl.1 hf (fun x ws' q => q) (fun u ws' H' locs' q1 q2 => by
    cases u with
    | none => exact hK _ _ _ _ _ _ q1 H' locs' ls q2 hl
    | some u => exact hK _ _ _ _ _ _ q1 H' locs' ls q2 hl)
  rw [hst] at w
  exact w
end CWT
abbrev cw_St (G : cx_G) (y : MethodName) (hs : List (Nat × Nat × Nat × Nat)) (cc : ByteArray) (nL : Nat) (p : Program) (s : State) (m : MethodId) (meth : Method) (c : Code) : Prop :=
  p.tables.exec = Jvm.exec ∧ c.code = cc ∧ c.maxLocals = nL ∧ meth.locks = false ∧ c.exceptionTable.toList.map (fun h => (h.startPc, h.endPc, h.handlerPc, h.catchType)) = hs ∧ s.vm.findClass y.cls = some m.cls ∧ cw_Kn G s
theorem cw_mk {l : Launch} {G : cx_G} (hG : cx_okG G) {y : MethodName} {hs : List (Nat × Nat × Nat × Nat)} {cc : ByteArray} {nL : Nat} {rt : Option FieldType} {rm : Room} {f : cx_S} {T : List (Nat × cx_E)} {Zs : List (Nat × cz_Z)}
    (hT : T.all (cx_dec true cc rt nL [] [] [] [] [] [] []) = true)
    (okZ : ∀ {p e s m args below meth c Q}, l.admits e → cw_St G y hs cc nL p s m meth c → ∀ q ∈ Zs, cz_ok p l e rm s m args below meth c G nL (cx_F1 G rm.cells rm.slots) Q q)
    (pure : ∀ as ws Rq, f as ws Rq → cx_cats as ≤ nL ∧ ∀ V, cz_cl T Zs [] rm.cells rm.slots Rq V → V 0 (cx_lv0 as nL) [] ws 0 0) : cw_M hs l G y cc nL rt rm f := by
  intro as ws Rq hf p e s m below meth c hx hb hml hr hlocks hne hown hKn hP
  obtain ⟨hc, hpure⟩ := pure as ws Rq hf
  have S : cw_St G y hs cc nL p s m meth c := ⟨hx, hb, hml, hlocks, hne, hown, hKn⟩
  intro T0 hT0 X0
  have had := X0.admits
  refine cx_enter (lv := cx_lv0 as nL) (F := cx_F1 G rm.cells rm.slots) (by rw [cx_sl_len, cx_cats_eq]; exact hc) (fun t u h => cx_lv0_get h) ⟨hP, ⟨Nat.zero_le _, Nat.zero_le _⟩, fun q hq => by cases hq⟩ ?_ T0 hT0 X0
  refine hpure (cx_AW p l e rm s m (as.map (cx_v G)).toArray below meth c G nL (cx_F1 G rm.cells rm.slots) (cx_Q below G s rm.cells rm.slots Rq)) (fun P n pc lv st ws k i h => ?_)
  exact cz_sound (free := fun q => (cx_H0 G).size ≤ q) (wr := true) (F := []) (FP := []) (LC := []) hx hb hG hKn.1 hlocks hr hown (fun ws k n H locs h => h) (fun ws k n H locs h => h.2.2) (fun ws k n H locs u t h1 h2 h3 => cx_ret1 h1 h2 h3)
    (fun _ ws ws' k n H H' locs a i h1 h2 h3 _ _ => ⟨h2, h1.2.1, cx_locs h1.2.2 h3⟩) (fun q hq => by cases hq) (fun q hq => by cases hq) (fun q hq => by cases hq) (okZ had S) hT (fun pc lv st ws k i h => h) n h
section CWC
variable {p : Program} {l : Launch} {e : Env} {R : Room} {s : State} {m : MethodId} {args : Array Value} {below : List Frame} {meth : Method} {c : Code} {G : cx_G} {nL mc ms : Nat} {cc : ByteArray} {Rq : cx_R}
def cw_w (own : String) (z np : Nat) (y : MethodName) (cc' : ByteArray) (nL' : Nat) (rt' : Option FieldType) (hs : List (Nat × Nat × Nat × Nat)) : Prop :=
  Jvm.Cond.methodLink own z y ∈ cx_Tb ∧ (Jvm.Cond.static y ∈ cx_Tb ∧ Jvm.Cond.initialized y.cls ∈ cx_Tb ∧ Jvm.Cond.codeWith y cc' nL' rt' hs ∈ cx_Tb) ∧ (plainName y.cls = true ∧ (y.cls ≠ "java/lang/invoke/MethodHandle" ∧ y.cls ≠ "java/lang/invoke/VarHandle") ∧ (parseMethodDescriptor y.desc).map (fun d => d.parameters.length) = some np)
/-- a call of such a static method -/
theorem cw_callS (hlocks : meth.locks = false) (hx : p.tables.exec = Jvm.exec) (hb : c.code = cc) (hml : c.maxLocals = nL) (hne : c.exceptionTable.isEmpty = true) (hKn : cw_Kn G s) {own : String} (hown : s.vm.findClass own = some m.cls) {z np : Nat} {y : MethodName} {cc' : ByteArray} {nL' : Nat} {rt' : Option FieldType} {hs : List (Nat × Nat × Nat × Nat)} {rm : Room} {f : cx_S} (hM : cw_M hs l G y cc' nL' rt' rm f)
    (hw : cw_w own z np y cc' nL' rt' hs) (hR : cx_Rm rm R nL' mc ms) : cx_okcall p l e R s m args below meth c cc G nL mc ms (cx_F1 G mc ms) (cx_Q below G s mc ms Rq) Rq (.invokestatic z) f np rm.cells rm.slots := by
  intro pc H locs k n ls as rest ws Rf hdg hna hcats hk hn hF hls hf hthr hret T hT X
  subst hT
  obtain ⟨hlink, ⟨hst0, hini, hcode⟩, hpl, hnot, hpar⟩ := hw
  obtain ⟨mk, methM, cM, hnamed, hmethM, hck, hcc, hml', htab, hrt, hlk, hsigM⟩ := Cond.codeWith_spec (hKn.1.1 _ hcode args)
  have hstatic : methM.isStatic = true := Cond.static_spec hnamed hmethM (hKn.1.1 _ hst0 args)
  obtain ⟨kP, hkP, -⟩ := className_of_methodNamed hnamed
  have hinitP : kP.init = .initialized := Cond.initialized_spec (findClass_of_methodNamed hnamed) hkP (hKn.1.1 _ hini args)
  have hlen : (as.map (cx_v G)).length = methM.sig.parameters.length := by
    rw [List.length_map]
    rw [hsigM] at hpar
    have h3 : methM.sig.parameters.length = np := Option.some.inj hpar
    omega
  have hstack : (F0 m pc ls ((as.reverse ++ rest).map (cx_v G))).stack = (as.map (cx_v G)).reverse ++ rest.map (cx_v G) := by
    show (as.reverse ++ rest).map (cx_v G) = _
    simp only [List.map_append, List.map_reverse]
  obtain ⟨vm₁, X₁, hstep₁⟩ := X.invokestatic hx hown (hKn.1.1 _ hlink args) hnamed hmethM hstatic hkP hinitP hnot (g := F0 m pc ls ((as.reverse ++ rest).map (cx_v G))) rfl (argsL := as.map (cx_v G)) (rest := rest.map (cx_v G)) hlen hstack (by rw [hb]; exact hdg)
  have hmk : (T.setVm vm₁).vm.method? mk = some methM := by rw [X₁.warmed.alike.method?]; exact hmethM
  have hpk : (T.setVm vm₁).plainMethod mk := X₁.warmed.plainAt (fun kk hkk => by
    obtain ⟨k0, hk0, hn0⟩ := className_of_methodNamed hnamed
    cases hkk.symm.trans hk0
    rw [hn0]
    exact hpl)
  have hWt : 2 * (F0 m pc ls (rest.map (cx_v G))).monitorRoom + ((F0 m pc ls (rest.map (cx_v G))).stack.map fun v => v.category).sum ≤ 8 := lv_room (by rw [cx_cats_eq]; exact hcats)
  obtain ⟨X', st⟩ := X₁.into (g := F0 m pc ls (rest.map (cx_v G))) rfl (by rw [hml]; exact hls) (by rw [hb]; exact hdg) (as.map (cx_v G)).toArray (R' := rm) hmk hck hlk hpk hR.1 (by rw [hml']; have := hR.2.1; omega) (Nat.le_trans hk hR.2.2.1) (Nat.le_trans hn hR.2.2.2)
  have hfc : (T.setVm vm₁).vm.findClass y.cls = some mk.cls := by
    rw [X₁.warmed.alike.findClass]
    exact findClass_of_methodNamed hnamed
  have hKn' : cw_Kn G ((T.setVm vm₁).calling (F0 m pc ls (rest.map (cx_v G))) mk (as.map (cx_v G)).toArray) := hKn.warm (show s.WarmedH (T.setVm vm₁).vm from X₁.warmed)
  have w := hM as ws Rf hf p e ((T.setVm vm₁).calling (F0 m pc ls (rest.map (cx_v G))) mk (as.map (cx_v G)).toArray) mk (.java (F0 m pc ls (rest.map (cx_v G))) :: below) methM cM hx hcc hml' hrt hlk htab hfc hKn' hF.1
  rw [← hml'] at w
  obtain ⟨t, a1, hQ⟩ := w (((T.setVm vm₁).setTop (F0 m pc ls (rest.map (cx_v G)))).pushFrame (.java (entryFrame mk (as.map (cx_v G)).toArray cM.maxLocals))) rfl X'
  have hst : Steps p.tables e below (T.setTop (F0 m pc ls ((as.reverse ++ rest).map (cx_v G)))) t := hstep₁ t (fun acts => by
    have e2 := st acts
    show Steps p.tables e below (doInvoke e ((T.setVm vm₁).setTop (F0 m pc ls (rest.map (cx_v G)))) acts mk (as.map (cx_v G)).toArray).1 t
    rw [e2]
    exact Steps.weaken (mid := [.java (F0 m pc ls (rest.map (cx_v G)))]) a1)
  exact cx_behind hlocks hne X₁ (by rw [hb]; exact hdg) hst hQ hk hn hF.2.2 hthr hret
end CWC
end
section
/-! The law's helpers: by program (wip/whole/gen_help.py). -/
abbrev oL (g : Nat → Int64) : cx_C := .inr (.inr (.inr (.inl (1, g))))
/-- a helper answers so -/
def ansH (o : rs) (t : wR) (R : cx_R) : Prop := ∀ x n l m g, rC o.2.2 x n l m → (o.1 = 0 → g 0 = o.2.1.toInt64) → R (.inl (some (.inl (nI o.1)))) (wd x n l m (wq t [oL g]))
section CWH
variable {e : Env} {l : Launch} {s : State} {m : MethodId} {c : Code} {G : cx_G}
theorem cw_rc (had : l.admits e) (hKn : cx_Kn cx_Tb G s) {own X : String} (hown : s.vm.findClass own = some m.cls) {x : ExceptionTableEntry} (h0 : x.catchType ≠ 0) (hlink : Jvm.Cond.classLink own x.catchType X ∈ cx_Tb) (hcast : Jvm.Cond.castable X X ∈ cx_Tb) {cX : ClassId} (hX : s.vm.findClass X = some cX) : (∃ k, s.vm.classes[cX]? = some k) ∧ RowCatches e.platform s m.cls cX x := by
  have hpl : e.platform.magicAccessors = ({} : Platform).magicAccessors := by rw [had.platform]
  obtain ⟨c', hc', hcl⟩ := Cond.classLink_spec hown (hKn.1 _ hlink #[]) e.platform hpl
  obtain ⟨c3, cT, hc3, hcT, hasg⟩ := Cond.castable_spec (hKn.1 _ hcast #[])
  cases hX.symm.trans hc'
  cases hX.symm.trans hc3
  cases hX.symm.trans hcT
  obtain ⟨k, hk, -⟩ := Vm.findClass_spec hX
  exact ⟨⟨k, hk⟩, Or.inr ⟨h0, cX, hcl, hasg⟩⟩
theorem cw_ct1 (had : l.admits e) (hKn : cx_Kn cx_Tb G s) {own X : String} (hown : s.vm.findClass own = some m.cls) {a b h ct pc : Nat} {r : List (Nat × Nat × Nat × Nat)} (htab : c.exceptionTable.toList.map (fun h => (h.startPc, h.endPc, h.handlerPc, h.catchType)) = (a, b, h, ct) :: r) (hcov : a ≤ pc ∧ pc < b) (h0 : ct ≠ 0) (hlink : Jvm.Cond.classLink own ct X ∈ cx_Tb) (hcast : Jvm.Cond.castable X X ∈ cx_Tb) : cw_ct e s m c pc X h := by
  intro cX hX
  cases hl : c.exceptionTable.toList with
  | nil => rw [hl] at htab; cases htab
  | cons x xs =>
    rw [hl, List.map_cons] at htab
    have h1 := (List.cons.inj htab).1
    have e1 : x.startPc = a := congrArg (fun q => q.1) h1
    have e2 : x.endPc = b := congrArg (fun q => q.2.1) h1
    have e3 : x.handlerPc = h := congrArg (fun q => q.2.2.1) h1
    have e4 : x.catchType = ct := congrArg (fun q => q.2.2.2) h1
    obtain ⟨g1, g2⟩ := cw_rc had hKn hown (x := x) (by rw [e4]; exact h0) (by rw [e4]; exact hlink) hcast hX
    exact ⟨g1, [], x, xs, rfl, fun y hy => (by cases hy), by simp [covers, e1, e2, hcov], e3, g2⟩
theorem cw_ct2 (had : l.admits e) (hKn : cx_Kn cx_Tb G s) {own X Y : String} (hown : s.vm.findClass own = some m.cls) (hno : va_Nc X Y s) {a b h ct a1 b1 h1 ct1 pc : Nat} (htab : c.exceptionTable.toList.map (fun h => (h.startPc, h.endPc, h.handlerPc, h.catchType)) = [(a1, b1, h1, ct1), (a, b, h, ct)]) (hcov : a ≤ pc ∧ pc < b) (h0 : ct ≠ 0 ∧ ct1 ≠ 0) (hlink1 : Jvm.Cond.classLink own ct1 Y ∈ cx_Tb) (hlink : Jvm.Cond.classLink own ct X ∈ cx_Tb) (hcast : Jvm.Cond.castable X X ∈ cx_Tb) : cw_ct e s m c pc X h := by
  intro cX hX
  cases hl : c.exceptionTable.toList with
  | nil => rw [hl] at htab; cases htab
  | cons x0 xs0 =>
    cases xs0 with
    | nil => rw [hl] at htab; simp at htab
    | cons x xs =>
      rw [hl, List.map_cons, List.map_cons] at htab
      have h1 := (List.cons.inj htab).1
      have h2 := (List.cons.inj (List.cons.inj htab).2).1
      have f4 : x0.catchType = ct1 := congrArg (fun q => q.2.2.2) h1
      have e1 : x.startPc = a := congrArg (fun q => q.1) h2
      have e2 : x.endPc = b := congrArg (fun q => q.2.1) h2
      have e3 : x.handlerPc = h := congrArg (fun q => q.2.2.1) h2
      have e4 : x.catchType = ct := congrArg (fun q => q.2.2.2) h2
      obtain ⟨g1, g2⟩ := cw_rc had hKn hown (x := x) (by rw [e4]; exact h0.1) (by rw [e4]; exact hlink) hcast hX
      refine ⟨g1, [x0], x, xs, rfl, fun y hy => ?_, by simp [covers, e1, e2, hcov], e3, g2⟩
      have ey : y = x0 := List.mem_singleton.mp hy
      subst ey
      have hpl : e.platform.magicAccessors = ({} : Platform).magicAccessors := by rw [had.platform]
      obtain ⟨c', hc', hcl⟩ := Cond.classLink_spec hown (hKn.1 _ hlink1 #[]) e.platform hpl
      obtain ⟨n1, n2, n3, n4, n5⟩ := hno
      cases hX.symm.trans n3
      cases hc'.symm.trans n4
      exact Or.inr ⟨by rw [f4]; exact h0.2, _, by rw [f4]; exact hcl, n5⟩
end CWH
theorem th_gate (A : aS) (p0 : Int32) (h : (gateS A p0).1 ≠ 0) : (gateS A p0).2.2 = A ∧ (gateS A p0).1 = 1 := by
  revert h
  unfold gateS
  repeat' split
  all_goals intro h
  all_goals first | exact absurd rfl h | exact ⟨rfl, rfl⟩ | exact ⟨rfl, Or.inl rfl⟩ | exact ⟨rfl, Or.inr rfl⟩
theorem th_feed (A : aS) (p0 : Int32) (p1 : Int32) (p2 : Bool) (h : (feedS A p0 p1 p2).1 ≠ 0) : (feedS A p0 p1 p2).2.2 = A ∧ ((feedS A p0 p1 p2).1 = 1 ∨ (feedS A p0 p1 p2).1 = 2) := by
  revert h
  unfold feedS
  repeat' split
  all_goals intro h
  all_goals first | exact absurd rfl h | exact ⟨rfl, rfl⟩ | exact ⟨rfl, Or.inl rfl⟩ | exact ⟨rfl, Or.inr rfl⟩
theorem th_output (A : aS) (p0 : Int32) (h : (outS A p0).1 ≠ 0) : (outS A p0).2.2 = A ∧ (outS A p0).1 = 1 := by
  revert h
  unfold outS
  repeat' split
  all_goals intro h
  all_goals first | exact absurd rfl h | exact ⟨rfl, rfl⟩ | exact ⟨rfl, Or.inl rfl⟩ | exact ⟨rfl, Or.inr rfl⟩
theorem th_run (A : aS) (p0 : Int32) (p1 : Int32) (h : (runS A p0 p1).1 ≠ 0) : (runS A p0 p1).2.2 = A ∧ (runS A p0 p1).1 = 1 := by
  revert h
  unfold runS
  repeat' split
  all_goals intro h
  all_goals first | exact absurd rfl h | exact ⟨rfl, rfl⟩ | exact ⟨rfl, Or.inl rfl⟩ | exact ⟨rfl, Or.inr rfl⟩
theorem th_way (A : aS) (p0 : Int32) (p1 : Int32) (h : (wayS A p0 p1).1 ≠ 0) : (wayS A p0 p1).2.2 = A ∧ (wayS A p0 p1).1 = 1 := by
  revert h
  unfold wayS
  repeat' split
  all_goals intro h
  all_goals first | exact absurd rfl h | exact ⟨rfl, rfl⟩ | exact ⟨rfl, Or.inl rfl⟩ | exact ⟨rfl, Or.inr rfl⟩
theorem th_size (A : aS) (p0 : Int32) (p1 : Bool) (h : (sizS A p0 p1).1 ≠ 0) : (sizS A p0 p1).2.2 = A ∧ (sizS A p0 p1).1 = 1 := by
  revert h
  unfold sizS
  repeat' split
  all_goals intro h
  all_goals first | exact absurd rfl h | exact ⟨rfl, rfl⟩ | exact ⟨rfl, Or.inl rfl⟩ | exact ⟨rfl, Or.inr rfl⟩
theorem th_known (A : aS) (p0 : Int32) (h : (knoS A p0).1 ≠ 0) : (knoS A p0).2.2 = A ∧ (knoS A p0).1 = 1 := by
  revert h
  unfold knoS
  repeat' split
  all_goals intro h
  all_goals first | exact absurd rfl h | exact ⟨rfl, rfl⟩ | exact ⟨rfl, Or.inl rfl⟩ | exact ⟨rfl, Or.inr rfl⟩
theorem th_doubt (A : aS) (p0 : Int32) (h : (douS A p0).1 ≠ 0) : (douS A p0).2.2 = A ∧ (douS A p0).1 = 1 := by
  revert h
  unfold douS
  repeat' split
  all_goals intro h
  all_goals first | exact absurd rfl h | exact ⟨rfl, rfl⟩ | exact ⟨rfl, Or.inl rfl⟩ | exact ⟨rfl, Or.inr rfl⟩
theorem th_value (A : aS) (p0 : Int32) (p1 : Int32) (h : (valS A p0 p1).1 ≠ 0) : (valS A p0 p1).2.2 = A ∧ (valS A p0 p1).1 = 1 := by
  revert h
  unfold valS
  repeat' split
  all_goals intro h
  all_goals first | exact absurd rfl h | exact ⟨rfl, rfl⟩ | exact ⟨rfl, Or.inl rfl⟩ | exact ⟨rfl, Or.inr rfl⟩
theorem wh_gate : cx_wV cx_Tb "CycleCutterLaw" r_C "" 7 1 m_C_gate prog_1_method_2_code 2 (some (.int)) := ⟨Or.inl (cx_in 265 (by decide +kernel) (by decide +kernel)), ⟨cx_in 266 (by decide +kernel) (by decide +kernel), cx_in 267 (by decide +kernel) (by decide +kernel), cx_in 268 (by decide +kernel) (by decide +kernel)⟩, ⟨by decide +kernel, ⟨by decide +kernel, by decide +kernel⟩, by decide +kernel⟩⟩
abbrev m_H_gate : MethodName := ⟨"CycleCutterLaw", "gate", "(LCycleCutter;I[J)I"⟩
abbrev rm_H_gate : Room := { frames := 7, cells := 1, slots := 6, locals := 103 }
def t_H_gate : List (Nat × cx_E) := [(0, .aload_n 2, 0, 0, 2, 0, 1), (1, .iconst 0, 0, 0, 0, 0, 2), (2, .aload_n 0, 0, 0, 0, 0, 3), (3, .iload_n 1, 0, 0, 1, 0, 4), (7, .i2l, 0, 0, 0, 0, 8), (8, .lastore, 0, 0, 0, 0, 9), (9, .goto 6, 0, 0, 15, 0, 12), (13, .iconst 1, 1, 0, 0, 0, 14), (14, .ireturn, 0, 0, 0, 0, 15), (15, .iconst 0, 0, 0, 0, 0, 16), (16, .ireturn, 0, 0, 0, 0, 17)]
def z_H_gate : List (Nat × cz_Z) := [(4, zTry 7 sp_C_gate 2 1 6 1 6 [("java/lang/IllegalArgumentException", 12)]), (12, zAst 13)]
theorem k_H_gate : t_H_gate.all (cx_dec true method_3_code (some .int) 4 [] [] [] [] [] [] []) = true := by decide +kernel
def sp_H_gate : cx_S := fun as ws R => ∃ x n l m t g A p0, as = [.inr (.inr (.inl 0)), .inl p0, .inr (.inr (.inl 40))] ∧ ws = wd x n l m (wq t [oL g]) ∧ rC A x n l m ∧ ansH (gateS A p0) t R
set_option maxRecDepth 100000 in
set_option maxHeartbeats 4000000 in
theorem pu_H_gate : ∀ as ws Rq, sp_H_gate as ws Rq → cx_cats as ≤ 4 ∧ ∀ V, cz_cl t_H_gate z_H_gate [] 1 6 Rq V → V 0 (cx_lv0 as 4) [] ws 0 0 := by
  rintro as ws Rq ⟨x, n, l, m, t, g, A, p0, rfl, rfl, hC, h⟩
  refine ⟨Nat.le_of_ble_eq_true rfl, fun V hV => hV [] 40 _ _ _ _ _ _ ?_⟩
  conv => whnf
  refine ⟨⟨by decide, by decide, Nat.le_of_ble_eq_true rfl, Nat.le_of_ble_eq_true rfl⟩, ?_⟩
  conv => whnf
  refine ⟨x, n, l, m, wq t [oL g], A, p0, rfl, rfl, rfl, hC, fun h0 x' n' l' m' hC' => ?_, fun h0 => ?_⟩
  · have h := h x' n' l' m' (vp_updL g 0 (gateS A p0).2.1.toInt64) hC' (fun _ => pk_uLs)
    rw [h0] at h
    conv => whnf
    refine ⟨pk_in 0 1 (by omega), ?_⟩
    conv => whnf
    exact ⟨fun e => absurd e (by decide), h⟩
  · obtain ⟨e1, e2⟩ := th_gate A p0 h0
    have h := h x n l m g (by rw [e1]; exact hC) (fun e => absurd e h0)
    rw [e2] at h
    conv => whnf
    refine Or.inl ⟨rfl, fun ad => ?_⟩
    conv => whnf
    exact ⟨fun e => absurd e (by decide), h⟩
theorem c_H_gate {l : Launch} {G : cx_G} (hG : cx_okG G) (hcl : cx_cl G = cx_cls) (hl : cx_nt l) : cw_M [(0, 9, 12, 13)] l G m_H_gate method_3_code 4 (some .int) rm_H_gate sp_H_gate :=
  cw_mk hG (Zs := z_H_gate) k_H_gate (fun had S => List.forall_mem_cons.mpr ⟨zTry_ok (rm := rm_C_gate) (C := r_C) (T0 := f_C) (N0 := 4) (np := 1) S.1 S.2.1 S.2.2.1 S.2.2.2.2.2.2.1 S.2.2.2.2.2.1 (by rw [hcl]; rfl) (c_C_gate hG hcl hl) wh_gate (by decide) (by decide +kernel) (List.forall_mem_cons.mpr ⟨cw_ct1 had S.2.2.2.2.2.2.1 S.2.2.2.2.2.1 S.2.2.2.2.1 (by decide) (by decide) (cx_in 264 (by decide +kernel) (by decide +kernel)) (cx_in 271 (by decide +kernel) (by decide +kernel)), fun _ h => absurd h List.not_mem_nil⟩),
    List.forall_mem_cons.mpr ⟨zAstN_ok (a := 3) S.1 S.2.1 (by decide) (by decide +kernel),
    fun _ h => absurd h List.not_mem_nil⟩⟩) pu_H_gate
theorem wh_feed : cx_wV cx_Tb "CycleCutterLaw" r_C "" 15 3 m_C_feed prog_1_method_3_code 4 (some (.int)) := ⟨Or.inl (cx_in 353 (by decide +kernel) (by decide +kernel)), ⟨cx_in 354 (by decide +kernel) (by decide +kernel), cx_in 355 (by decide +kernel) (by decide +kernel), cx_in 356 (by decide +kernel) (by decide +kernel)⟩, ⟨by decide +kernel, ⟨by decide +kernel, by decide +kernel⟩, by decide +kernel⟩⟩
abbrev m_H_feed : MethodName := ⟨"CycleCutterLaw", "feed", "(LCycleCutter;IIZ[J)I"⟩
abbrev rm_H_feed : Room := { frames := 7, cells := 1, slots := 6, locals := 105 }
def t_H_feed : List (Nat × cx_E) := [(0, .aload 4, 0, 0, 4, 0, 2), (2, .iconst 0, 0, 0, 0, 0, 3), (3, .aload_n 0, 0, 0, 0, 0, 4), (4, .iload_n 1, 0, 0, 1, 0, 5), (5, .iload_n 2, 0, 0, 2, 0, 6), (6, .iload_n 3, 0, 0, 3, 0, 7), (10, .i2l, 0, 0, 0, 0, 11), (11, .lastore, 0, 0, 0, 0, 12), (12, .goto 11, 0, 0, 23, 0, 15), (17, .iconst 1, 1, 0, 0, 0, 18), (18, .ireturn, 0, 0, 0, 0, 19), (21, .iconst 2, 2, 0, 0, 0, 22), (22, .ireturn, 0, 0, 0, 0, 23), (23, .iconst 0, 0, 0, 0, 0, 24), (24, .ireturn, 0, 0, 0, 0, 25)]
def z_H_feed : List (Nat × cz_Z) := [(7, zTry 10 sp_C_feed 4 1 6 1 6 [("java/lang/IndexOutOfBoundsException", 15), ("java/lang/IllegalStateException", 19)]), (15, zAst 17), (19, zAst 21)]
theorem k_H_feed : t_H_feed.all (cx_dec true method_4_code (some .int) 6 [] [] [] [] [] [] []) = true := by decide +kernel
def sp_H_feed : cx_S := fun as ws R => ∃ x n l m t g A p0 p1 p2, as = [.inr (.inr (.inl 0)), .inl p0, .inl p1, .inl (b2 p2), .inr (.inr (.inl 40))] ∧ ws = wd x n l m (wq t [oL g]) ∧ rC A x n l m ∧ ansH (feedS A p0 p1 p2) t R
set_option maxRecDepth 100000 in
set_option maxHeartbeats 4000000 in
theorem pu_H_feed : ∀ as ws Rq, sp_H_feed as ws Rq → cx_cats as ≤ 6 ∧ ∀ V, cz_cl t_H_feed z_H_feed [] 1 6 Rq V → V 0 (cx_lv0 as 6) [] ws 0 0 := by
  rintro as ws Rq ⟨x, n, l, m, t, g, A, p0, p1, p2, rfl, rfl, hC, h⟩
  refine ⟨Nat.le_of_ble_eq_true rfl, fun V hV => hV [] 40 _ _ _ _ _ _ ?_⟩
  conv => whnf
  refine ⟨⟨by decide, by decide, Nat.le_of_ble_eq_true rfl, Nat.le_of_ble_eq_true rfl⟩, ?_⟩
  conv => whnf
  refine ⟨x, n, l, m, wq t [oL g], A, p0, p1, p2, rfl, rfl, rfl, hC, fun h0 x' n' l' m' hC' => ?_, fun h0 => ?_⟩
  · have h := h x' n' l' m' (vp_updL g 0 (feedS A p0 p1 p2).2.1.toInt64) hC' (fun _ => pk_uLs)
    rw [h0] at h
    conv => whnf
    refine ⟨pk_in 0 1 (by omega), ?_⟩
    conv => whnf
    exact ⟨fun e => absurd e (by decide), h⟩
  · obtain ⟨e1, e2⟩ := th_feed A p0 p1 p2 h0
    have h := h x n l m g (by rw [e1]; exact hC) (fun e => absurd e h0)
    rcases e2 with e2 | e2
    · rw [e2] at h ⊢
      conv => whnf
      refine Or.inl ⟨rfl, fun ad => ?_⟩
      conv => whnf
      exact ⟨fun e => absurd e (by decide), h⟩
    · rw [e2] at h ⊢
      conv => whnf
      refine Or.inr (Or.inl ⟨rfl, fun ad => ?_⟩)
      conv => whnf
      exact ⟨fun e => absurd e (by decide), h⟩
theorem c_H_feed {l : Launch} {G : cx_G} (hG : cx_okG G) (hcl : cx_cl G = cx_cls) (hl : cx_nt l) : cw_M [(0, 12, 15, 19), (0, 12, 19, 21)] l G m_H_feed method_4_code 6 (some .int) rm_H_feed sp_H_feed :=
  cw_mk hG (Zs := z_H_feed) k_H_feed (fun had S => List.forall_mem_cons.mpr ⟨zTry_ok (rm := rm_C_feed) (C := r_C) (T0 := f_C) (N0 := 4) (np := 3) S.1 S.2.1 S.2.2.1 S.2.2.2.2.2.2.1 S.2.2.2.2.2.1 (by rw [hcl]; rfl) (c_C_feed hG hcl hl) wh_feed (by decide) (by decide +kernel) (List.forall_mem_cons.mpr ⟨cw_ct1 had S.2.2.2.2.2.2.1 S.2.2.2.2.2.1 S.2.2.2.2.1 (by decide) (by decide) (cx_in 351 (by decide +kernel) (by decide +kernel)) (cx_in 363 (by decide +kernel) (by decide +kernel)), List.forall_mem_cons.mpr ⟨cw_ct2 had S.2.2.2.2.2.2.1 S.2.2.2.2.2.1 S.2.2.2.2.2.2.2 S.2.2.2.2.1 (by decide) (by decide) (cx_in 351 (by decide +kernel) (by decide +kernel)) (cx_in 352 (by decide +kernel) (by decide +kernel)) (cx_in 380 (by decide +kernel) (by decide +kernel)), fun _ h => absurd h List.not_mem_nil⟩⟩),
    List.forall_mem_cons.mpr ⟨zAst_ok (a := 5) S.1 S.2.1 (by decide) (by decide +kernel),
    List.forall_mem_cons.mpr ⟨zAst_ok (a := 5) S.1 S.2.1 (by decide) (by decide +kernel),
    fun _ h => absurd h List.not_mem_nil⟩⟩⟩) pu_H_feed
theorem wh_output : cx_wV cx_Tb "CycleCutterLaw" r_C "" 23 1 m_C_output prog_1_method_4_code 3 (some (.int)) := ⟨Or.inl (cx_in 401 (by decide +kernel) (by decide +kernel)), ⟨cx_in 402 (by decide +kernel) (by decide +kernel), cx_in 403 (by decide +kernel) (by decide +kernel), cx_in 404 (by decide +kernel) (by decide +kernel)⟩, ⟨by decide +kernel, ⟨by decide +kernel, by decide +kernel⟩, by decide +kernel⟩⟩
abbrev m_H_output : MethodName := ⟨"CycleCutterLaw", "output", "(LCycleCutter;I[J)I"⟩
abbrev rm_H_output : Room := { frames := 7, cells := 1, slots := 6, locals := 104 }
def t_H_output : List (Nat × cx_E) := [(0, .aload_n 2, 0, 0, 2, 0, 1), (1, .iconst 0, 0, 0, 0, 0, 2), (2, .aload_n 0, 0, 0, 0, 0, 3), (3, .iload_n 1, 0, 0, 1, 0, 4), (7, .i2l, 0, 0, 0, 0, 8), (8, .lastore, 0, 0, 0, 0, 9), (9, .goto 6, 0, 0, 15, 0, 12), (13, .iconst 1, 1, 0, 0, 0, 14), (14, .ireturn, 0, 0, 0, 0, 15), (15, .iconst 0, 0, 0, 0, 0, 16), (16, .ireturn, 0, 0, 0, 0, 17)]
def z_H_output : List (Nat × cz_Z) := [(4, zTry 7 sp_C_output 2 1 6 1 6 [("java/lang/IndexOutOfBoundsException", 12)]), (12, zAst 13)]
theorem k_H_output : t_H_output.all (cx_dec true method_5_code (some .int) 4 [] [] [] [] [] [] []) = true := by decide +kernel
def sp_H_output : cx_S := fun as ws R => ∃ x n l m t g A p0, as = [.inr (.inr (.inl 0)), .inl p0, .inr (.inr (.inl 40))] ∧ ws = wd x n l m (wq t [oL g]) ∧ rC A x n l m ∧ ansH (outS A p0) t R
set_option maxRecDepth 100000 in
set_option maxHeartbeats 4000000 in
theorem pu_H_output : ∀ as ws Rq, sp_H_output as ws Rq → cx_cats as ≤ 4 ∧ ∀ V, cz_cl t_H_output z_H_output [] 1 6 Rq V → V 0 (cx_lv0 as 4) [] ws 0 0 := by
  rintro as ws Rq ⟨x, n, l, m, t, g, A, p0, rfl, rfl, hC, h⟩
  refine ⟨Nat.le_of_ble_eq_true rfl, fun V hV => hV [] 40 _ _ _ _ _ _ ?_⟩
  conv => whnf
  refine ⟨⟨by decide, by decide, Nat.le_of_ble_eq_true rfl, Nat.le_of_ble_eq_true rfl⟩, ?_⟩
  conv => whnf
  refine ⟨x, n, l, m, wq t [oL g], A, p0, rfl, rfl, rfl, hC, fun h0 x' n' l' m' hC' => ?_, fun h0 => ?_⟩
  · have h := h x' n' l' m' (vp_updL g 0 (outS A p0).2.1.toInt64) hC' (fun _ => pk_uLs)
    rw [h0] at h
    conv => whnf
    refine ⟨pk_in 0 1 (by omega), ?_⟩
    conv => whnf
    exact ⟨fun e => absurd e (by decide), h⟩
  · obtain ⟨e1, e2⟩ := th_output A p0 h0
    have h := h x n l m g (by rw [e1]; exact hC) (fun e => absurd e h0)
    rw [e2] at h
    conv => whnf
    refine Or.inl ⟨rfl, fun ad => ?_⟩
    conv => whnf
    exact ⟨fun e => absurd e (by decide), h⟩
theorem c_H_output {l : Launch} {G : cx_G} (hG : cx_okG G) (hcl : cx_cl G = cx_cls) (hl : cx_nt l) : cw_M [(0, 9, 12, 19)] l G m_H_output method_5_code 4 (some .int) rm_H_output sp_H_output :=
  cw_mk hG (Zs := z_H_output) k_H_output (fun had S => List.forall_mem_cons.mpr ⟨zTry_ok (rm := rm_C_output) (C := r_C) (T0 := f_C) (N0 := 4) (np := 1) S.1 S.2.1 S.2.2.1 S.2.2.2.2.2.2.1 S.2.2.2.2.2.1 (by rw [hcl]; rfl) (c_C_output hG hcl hl) wh_output (by decide) (by decide +kernel) (List.forall_mem_cons.mpr ⟨cw_ct1 had S.2.2.2.2.2.2.1 S.2.2.2.2.2.1 S.2.2.2.2.1 (by decide) (by decide) (cx_in 351 (by decide +kernel) (by decide +kernel)) (cx_in 363 (by decide +kernel) (by decide +kernel)), fun _ h => absurd h List.not_mem_nil⟩),
    List.forall_mem_cons.mpr ⟨zAstN_ok (a := 3) S.1 S.2.1 (by decide) (by decide +kernel),
    fun _ h => absurd h List.not_mem_nil⟩⟩) pu_H_output
theorem wh_run : cx_wV cx_Tb "CycleCutterLaw" r_C "" 26 2 m_C_run prog_1_method_7_code 3 (some (.int)) := ⟨Or.inl (cx_in 408 (by decide +kernel) (by decide +kernel)), ⟨cx_in 409 (by decide +kernel) (by decide +kernel), cx_in 410 (by decide +kernel) (by decide +kernel), cx_in 411 (by decide +kernel) (by decide +kernel)⟩, ⟨by decide +kernel, ⟨by decide +kernel, by decide +kernel⟩, by decide +kernel⟩⟩
abbrev m_H_run : MethodName := ⟨"CycleCutterLaw", "run", "(LCycleCutter;II[J)I"⟩
abbrev rm_H_run : Room := { frames := 8, cells := 2, slots := 12, locals := 125 }
def t_H_run : List (Nat × cx_E) := [(0, .aload_n 3, 0, 0, 3, 0, 1), (1, .iconst 0, 0, 0, 0, 0, 2), (2, .aload_n 0, 0, 0, 0, 0, 3), (3, .iload_n 1, 0, 0, 1, 0, 4), (4, .iload_n 2, 0, 0, 2, 0, 5), (8, .i2l, 0, 0, 0, 0, 9), (9, .lastore, 0, 0, 0, 0, 10), (10, .goto 7, 0, 0, 17, 0, 13), (15, .iconst 1, 1, 0, 0, 0, 16), (16, .ireturn, 0, 0, 0, 0, 17), (17, .iconst 0, 0, 0, 0, 0, 18), (18, .ireturn, 0, 0, 0, 0, 19)]
def z_H_run : List (Nat × cz_Z) := [(5, zTry 8 sp_C_run 3 2 12 2 12 [("java/lang/IndexOutOfBoundsException", 13)]), (13, zAst 15)]
theorem k_H_run : t_H_run.all (cx_dec true method_6_code (some .int) 5 [] [] [] [] [] [] []) = true := by decide +kernel
def sp_H_run : cx_S := fun as ws R => ∃ x n l m t g A p0 p1, as = [.inr (.inr (.inl 0)), .inl p0, .inl p1, .inr (.inr (.inl 40))] ∧ ws = wd x n l m (wq t [oL g]) ∧ rC A x n l m ∧ ansH (runS A p0 p1) t R
set_option maxRecDepth 100000 in
set_option maxHeartbeats 4000000 in
theorem pu_H_run : ∀ as ws Rq, sp_H_run as ws Rq → cx_cats as ≤ 5 ∧ ∀ V, cz_cl t_H_run z_H_run [] 2 12 Rq V → V 0 (cx_lv0 as 5) [] ws 0 0 := by
  rintro as ws Rq ⟨x, n, l, m, t, g, A, p0, p1, rfl, rfl, hC, h⟩
  refine ⟨Nat.le_of_ble_eq_true rfl, fun V hV => hV [] 40 _ _ _ _ _ _ ?_⟩
  conv => whnf
  refine ⟨⟨by decide, by decide, Nat.le_of_ble_eq_true rfl, Nat.le_of_ble_eq_true rfl⟩, ?_⟩
  conv => whnf
  refine ⟨x, n, l, m, wq t [oL g], A, p0, p1, rfl, rfl, rfl, hC, fun h0 x' n' l' m' hC' => ?_, fun h0 => ?_⟩
  · have h := h x' n' l' m' (vp_updL g 0 (runS A p0 p1).2.1.toInt64) hC' (fun _ => pk_uLs)
    rw [h0] at h
    conv => whnf
    refine ⟨pk_in 0 1 (by omega), ?_⟩
    conv => whnf
    exact ⟨fun e => absurd e (by decide), h⟩
  · obtain ⟨e1, e2⟩ := th_run A p0 p1 h0
    have h := h x n l m g (by rw [e1]; exact hC) (fun e => absurd e h0)
    rw [e2] at h
    conv => whnf
    refine Or.inl ⟨rfl, fun ad => ?_⟩
    conv => whnf
    exact ⟨fun e => absurd e (by decide), h⟩
theorem c_H_run {l : Launch} {G : cx_G} (hG : cx_okG G) (hcl : cx_cl G = cx_cls) (hl : cx_nt l) : cw_M [(0, 10, 13, 19)] l G m_H_run method_6_code 5 (some .int) rm_H_run sp_H_run :=
  cw_mk hG (Zs := z_H_run) k_H_run (fun had S => List.forall_mem_cons.mpr ⟨zTry_ok (rm := rm_C_run) (C := r_C) (T0 := f_C) (N0 := 4) (np := 2) S.1 S.2.1 S.2.2.1 S.2.2.2.2.2.2.1 S.2.2.2.2.2.1 (by rw [hcl]; rfl) (cx_M2.weak (c_C_run hG hcl hl)) wh_run (by decide) (by decide +kernel) (List.forall_mem_cons.mpr ⟨cw_ct1 had S.2.2.2.2.2.2.1 S.2.2.2.2.2.1 S.2.2.2.2.1 (by decide) (by decide) (cx_in 351 (by decide +kernel) (by decide +kernel)) (cx_in 363 (by decide +kernel) (by decide +kernel)), fun _ h => absurd h List.not_mem_nil⟩),
    List.forall_mem_cons.mpr ⟨zAst_ok (a := 4) S.1 S.2.1 (by decide) (by decide +kernel),
    fun _ h => absurd h List.not_mem_nil⟩⟩) pu_H_run
theorem wh_way : cx_wV cx_Tb "CycleCutterLaw" r_C "" 30 2 m_C_way prog_1_method_8_code 3 (some (.int)) := ⟨Or.inl (cx_in 437 (by decide +kernel) (by decide +kernel)), ⟨cx_in 438 (by decide +kernel) (by decide +kernel), cx_in 439 (by decide +kernel) (by decide +kernel), cx_in 440 (by decide +kernel) (by decide +kernel)⟩, ⟨by decide +kernel, ⟨by decide +kernel, by decide +kernel⟩, by decide +kernel⟩⟩
abbrev m_H_way : MethodName := ⟨"CycleCutterLaw", "way", "(LCycleCutter;II[J)I"⟩
abbrev rm_H_way : Room := { frames := 8, cells := 2, slots := 12, locals := 125 }
def t_H_way : List (Nat × cx_E) := [(0, .aload_n 3, 0, 0, 3, 0, 1), (1, .iconst 0, 0, 0, 0, 0, 2), (2, .aload_n 0, 0, 0, 0, 0, 3), (3, .iload_n 1, 0, 0, 1, 0, 4), (4, .iload_n 2, 0, 0, 2, 0, 5), (8, .i2l, 0, 0, 0, 0, 9), (9, .lastore, 0, 0, 0, 0, 10), (10, .goto 7, 0, 0, 17, 0, 13), (15, .iconst 1, 1, 0, 0, 0, 16), (16, .ireturn, 0, 0, 0, 0, 17), (17, .iconst 0, 0, 0, 0, 0, 18), (18, .ireturn, 0, 0, 0, 0, 19)]
def z_H_way : List (Nat × cz_Z) := [(5, zTry 8 sp_C_way 3 2 12 2 12 [("java/lang/IndexOutOfBoundsException", 13)]), (13, zAst 15)]
theorem k_H_way : t_H_way.all (cx_dec true method_7_code (some .int) 5 [] [] [] [] [] [] []) = true := by decide +kernel
def sp_H_way : cx_S := fun as ws R => ∃ x n l m t g A p0 p1, as = [.inr (.inr (.inl 0)), .inl p0, .inl p1, .inr (.inr (.inl 40))] ∧ ws = wd x n l m (wq t [oL g]) ∧ rC A x n l m ∧ ansH (wayS A p0 p1) t R
set_option maxRecDepth 100000 in
set_option maxHeartbeats 4000000 in
theorem pu_H_way : ∀ as ws Rq, sp_H_way as ws Rq → cx_cats as ≤ 5 ∧ ∀ V, cz_cl t_H_way z_H_way [] 2 12 Rq V → V 0 (cx_lv0 as 5) [] ws 0 0 := by
  rintro as ws Rq ⟨x, n, l, m, t, g, A, p0, p1, rfl, rfl, hC, h⟩
  refine ⟨Nat.le_of_ble_eq_true rfl, fun V hV => hV [] 40 _ _ _ _ _ _ ?_⟩
  conv => whnf
  refine ⟨⟨by decide, by decide, Nat.le_of_ble_eq_true rfl, Nat.le_of_ble_eq_true rfl⟩, ?_⟩
  conv => whnf
  refine ⟨x, n, l, m, wq t [oL g], A, p0, p1, rfl, rfl, rfl, hC, fun h0 x' n' l' m' hC' => ?_, fun h0 => ?_⟩
  · have h := h x' n' l' m' (vp_updL g 0 (wayS A p0 p1).2.1.toInt64) hC' (fun _ => pk_uLs)
    rw [h0] at h
    conv => whnf
    refine ⟨pk_in 0 1 (by omega), ?_⟩
    conv => whnf
    exact ⟨fun e => absurd e (by decide), h⟩
  · obtain ⟨e1, e2⟩ := th_way A p0 p1 h0
    have h := h x n l m g (by rw [e1]; exact hC) (fun e => absurd e h0)
    rw [e2] at h
    conv => whnf
    refine Or.inl ⟨rfl, fun ad => ?_⟩
    conv => whnf
    exact ⟨fun e => absurd e (by decide), h⟩
theorem c_H_way {l : Launch} {G : cx_G} (hG : cx_okG G) (hcl : cx_cl G = cx_cls) (hl : cx_nt l) : cw_M [(0, 10, 13, 19)] l G m_H_way method_7_code 5 (some .int) rm_H_way sp_H_way :=
  cw_mk hG (Zs := z_H_way) k_H_way (fun had S => List.forall_mem_cons.mpr ⟨zTry_ok (rm := rm_C_way) (C := r_C) (T0 := f_C) (N0 := 4) (np := 2) S.1 S.2.1 S.2.2.1 S.2.2.2.2.2.2.1 S.2.2.2.2.2.1 (by rw [hcl]; rfl) (cx_M2.weak (c_C_way hG hcl hl)) wh_way (by decide) (by decide +kernel) (List.forall_mem_cons.mpr ⟨cw_ct1 had S.2.2.2.2.2.2.1 S.2.2.2.2.2.1 S.2.2.2.2.1 (by decide) (by decide) (cx_in 351 (by decide +kernel) (by decide +kernel)) (cx_in 363 (by decide +kernel) (by decide +kernel)), fun _ h => absurd h List.not_mem_nil⟩),
    List.forall_mem_cons.mpr ⟨zAst_ok (a := 4) S.1 S.2.1 (by decide) (by decide +kernel),
    fun _ h => absurd h List.not_mem_nil⟩⟩) pu_H_way
theorem wh_size : cx_wV cx_Tb "CycleCutterLaw" r_C "" 33 2 m_C_size prog_1_method_10_code 4 (some (.int)) := ⟨Or.inl (cx_in 452 (by decide +kernel) (by decide +kernel)), ⟨cx_in 453 (by decide +kernel) (by decide +kernel), cx_in 454 (by decide +kernel) (by decide +kernel), cx_in 455 (by decide +kernel) (by decide +kernel)⟩, ⟨by decide +kernel, ⟨by decide +kernel, by decide +kernel⟩, by decide +kernel⟩⟩
abbrev m_H_size : MethodName := ⟨"CycleCutterLaw", "size", "(LCycleCutter;IZ[J)I"⟩
abbrev rm_H_size : Room := { frames := 8, cells := 1, slots := 6, locals := 126 }
def t_H_size : List (Nat × cx_E) := [(0, .aload_n 3, 0, 0, 3, 0, 1), (1, .iconst 0, 0, 0, 0, 0, 2), (2, .aload_n 0, 0, 0, 0, 0, 3), (3, .iload_n 1, 0, 0, 1, 0, 4), (4, .iload_n 2, 0, 0, 2, 0, 5), (8, .i2l, 0, 0, 0, 0, 9), (9, .lastore, 0, 0, 0, 0, 10), (10, .goto 7, 0, 0, 17, 0, 13), (15, .iconst 1, 1, 0, 0, 0, 16), (16, .ireturn, 0, 0, 0, 0, 17), (17, .iconst 0, 0, 0, 0, 0, 18), (18, .ireturn, 0, 0, 0, 0, 19)]
def z_H_size : List (Nat × cz_Z) := [(5, zTry 8 sp_C_size 3 1 6 1 6 [("java/lang/IndexOutOfBoundsException", 13)]), (13, zAst 15)]
theorem k_H_size : t_H_size.all (cx_dec true method_8_code (some .int) 5 [] [] [] [] [] [] []) = true := by decide +kernel
def sp_H_size : cx_S := fun as ws R => ∃ x n l m t g A p0 p1, as = [.inr (.inr (.inl 0)), .inl p0, .inl (b2 p1), .inr (.inr (.inl 40))] ∧ ws = wd x n l m (wq t [oL g]) ∧ rC A x n l m ∧ ansH (sizS A p0 p1) t R
set_option maxRecDepth 100000 in
set_option maxHeartbeats 4000000 in
theorem pu_H_size : ∀ as ws Rq, sp_H_size as ws Rq → cx_cats as ≤ 5 ∧ ∀ V, cz_cl t_H_size z_H_size [] 1 6 Rq V → V 0 (cx_lv0 as 5) [] ws 0 0 := by
  rintro as ws Rq ⟨x, n, l, m, t, g, A, p0, p1, rfl, rfl, hC, h⟩
  refine ⟨Nat.le_of_ble_eq_true rfl, fun V hV => hV [] 40 _ _ _ _ _ _ ?_⟩
  conv => whnf
  refine ⟨⟨by decide, by decide, Nat.le_of_ble_eq_true rfl, Nat.le_of_ble_eq_true rfl⟩, ?_⟩
  conv => whnf
  refine ⟨x, n, l, m, wq t [oL g], A, p0, p1, rfl, rfl, rfl, hC, fun h0 x' n' l' m' hC' => ?_, fun h0 => ?_⟩
  · have h := h x' n' l' m' (vp_updL g 0 (sizS A p0 p1).2.1.toInt64) hC' (fun _ => pk_uLs)
    rw [h0] at h
    conv => whnf
    refine ⟨pk_in 0 1 (by omega), ?_⟩
    conv => whnf
    exact ⟨fun e => absurd e (by decide), h⟩
  · obtain ⟨e1, e2⟩ := th_size A p0 p1 h0
    have h := h x n l m g (by rw [e1]; exact hC) (fun e => absurd e h0)
    rw [e2] at h
    conv => whnf
    refine Or.inl ⟨rfl, fun ad => ?_⟩
    conv => whnf
    exact ⟨fun e => absurd e (by decide), h⟩
theorem c_H_size {l : Launch} {G : cx_G} (hG : cx_okG G) (hcl : cx_cl G = cx_cls) (hl : cx_nt l) : cw_M [(0, 10, 13, 19)] l G m_H_size method_8_code 5 (some .int) rm_H_size sp_H_size :=
  cw_mk hG (Zs := z_H_size) k_H_size (fun had S => List.forall_mem_cons.mpr ⟨zTry_ok (rm := rm_C_size) (C := r_C) (T0 := f_C) (N0 := 4) (np := 2) S.1 S.2.1 S.2.2.1 S.2.2.2.2.2.2.1 S.2.2.2.2.2.1 (by rw [hcl]; rfl) (c_C_size hG hcl hl) wh_size (by decide) (by decide +kernel) (List.forall_mem_cons.mpr ⟨cw_ct1 had S.2.2.2.2.2.2.1 S.2.2.2.2.2.1 S.2.2.2.2.1 (by decide) (by decide) (cx_in 351 (by decide +kernel) (by decide +kernel)) (cx_in 363 (by decide +kernel) (by decide +kernel)), fun _ h => absurd h List.not_mem_nil⟩),
    List.forall_mem_cons.mpr ⟨zAst_ok (a := 4) S.1 S.2.1 (by decide) (by decide +kernel),
    fun _ h => absurd h List.not_mem_nil⟩⟩) pu_H_size
theorem wh_known : cx_wV cx_Tb "CycleCutterLaw" r_C "" 37 1 m_C_known prog_1_method_11_code 2 (some (.int)) := ⟨Or.inl (cx_in 463 (by decide +kernel) (by decide +kernel)), ⟨cx_in 464 (by decide +kernel) (by decide +kernel), cx_in 465 (by decide +kernel) (by decide +kernel), cx_in 466 (by decide +kernel) (by decide +kernel)⟩, ⟨by decide +kernel, ⟨by decide +kernel, by decide +kernel⟩, by decide +kernel⟩⟩
abbrev m_H_known : MethodName := ⟨"CycleCutterLaw", "known", "(LCycleCutter;I[J)I"⟩
abbrev rm_H_known : Room := { frames := 8, cells := 1, slots := 6, locals := 124 }
def t_H_known : List (Nat × cx_E) := [(0, .aload_n 2, 0, 0, 2, 0, 1), (1, .iconst 0, 0, 0, 0, 0, 2), (2, .aload_n 0, 0, 0, 0, 0, 3), (3, .iload_n 1, 0, 0, 1, 0, 4), (7, .i2l, 0, 0, 0, 0, 8), (8, .lastore, 0, 0, 0, 0, 9), (9, .goto 6, 0, 0, 15, 0, 12), (13, .iconst 1, 1, 0, 0, 0, 14), (14, .ireturn, 0, 0, 0, 0, 15), (15, .iconst 0, 0, 0, 0, 0, 16), (16, .ireturn, 0, 0, 0, 0, 17)]
def z_H_known : List (Nat × cz_Z) := [(4, zTry 7 sp_C_known 2 1 6 1 6 [("java/lang/IndexOutOfBoundsException", 12)]), (12, zAst 13)]
theorem k_H_known : t_H_known.all (cx_dec true method_9_code (some .int) 4 [] [] [] [] [] [] []) = true := by decide +kernel
def sp_H_known : cx_S := fun as ws R => ∃ x n l m t g A p0, as = [.inr (.inr (.inl 0)), .inl p0, .inr (.inr (.inl 40))] ∧ ws = wd x n l m (wq t [oL g]) ∧ rC A x n l m ∧ ansH (knoS A p0) t R
set_option maxRecDepth 100000 in
set_option maxHeartbeats 4000000 in
theorem pu_H_known : ∀ as ws Rq, sp_H_known as ws Rq → cx_cats as ≤ 4 ∧ ∀ V, cz_cl t_H_known z_H_known [] 1 6 Rq V → V 0 (cx_lv0 as 4) [] ws 0 0 := by
  rintro as ws Rq ⟨x, n, l, m, t, g, A, p0, rfl, rfl, hC, h⟩
  refine ⟨Nat.le_of_ble_eq_true rfl, fun V hV => hV [] 40 _ _ _ _ _ _ ?_⟩
  conv => whnf
  refine ⟨⟨by decide, by decide, Nat.le_of_ble_eq_true rfl, Nat.le_of_ble_eq_true rfl⟩, ?_⟩
  conv => whnf
  refine ⟨x, n, l, m, wq t [oL g], A, p0, rfl, rfl, rfl, hC, fun h0 x' n' l' m' hC' => ?_, fun h0 => ?_⟩
  · have h := h x' n' l' m' (vp_updL g 0 (knoS A p0).2.1.toInt64) hC' (fun _ => pk_uLs)
    rw [h0] at h
    conv => whnf
    refine ⟨pk_in 0 1 (by omega), ?_⟩
    conv => whnf
    exact ⟨fun e => absurd e (by decide), h⟩
  · obtain ⟨e1, e2⟩ := th_known A p0 h0
    have h := h x n l m g (by rw [e1]; exact hC) (fun e => absurd e h0)
    rw [e2] at h
    conv => whnf
    refine Or.inl ⟨rfl, fun ad => ?_⟩
    conv => whnf
    exact ⟨fun e => absurd e (by decide), h⟩
theorem c_H_known {l : Launch} {G : cx_G} (hG : cx_okG G) (hcl : cx_cl G = cx_cls) (hl : cx_nt l) : cw_M [(0, 9, 12, 19)] l G m_H_known method_9_code 4 (some .int) rm_H_known sp_H_known :=
  cw_mk hG (Zs := z_H_known) k_H_known (fun had S => List.forall_mem_cons.mpr ⟨zTry_ok (rm := rm_C_known) (C := r_C) (T0 := f_C) (N0 := 4) (np := 1) S.1 S.2.1 S.2.2.1 S.2.2.2.2.2.2.1 S.2.2.2.2.2.1 (by rw [hcl]; rfl) (cx_M2.weak (c_C_known hG hcl hl)) wh_known (by decide) (by decide +kernel) (List.forall_mem_cons.mpr ⟨cw_ct1 had S.2.2.2.2.2.2.1 S.2.2.2.2.2.1 S.2.2.2.2.1 (by decide) (by decide) (cx_in 351 (by decide +kernel) (by decide +kernel)) (cx_in 363 (by decide +kernel) (by decide +kernel)), fun _ h => absurd h List.not_mem_nil⟩),
    List.forall_mem_cons.mpr ⟨zAstN_ok (a := 3) S.1 S.2.1 (by decide) (by decide +kernel),
    fun _ h => absurd h List.not_mem_nil⟩⟩) pu_H_known
theorem wh_doubt : cx_wV cx_Tb "CycleCutterLaw" r_C "" 40 1 m_C_doubt prog_1_method_12_code 2 (some (.int)) := ⟨Or.inl (cx_in 480 (by decide +kernel) (by decide +kernel)), ⟨cx_in 481 (by decide +kernel) (by decide +kernel), cx_in 482 (by decide +kernel) (by decide +kernel), cx_in 483 (by decide +kernel) (by decide +kernel)⟩, ⟨by decide +kernel, ⟨by decide +kernel, by decide +kernel⟩, by decide +kernel⟩⟩
abbrev m_H_doubt : MethodName := ⟨"CycleCutterLaw", "doubt", "(LCycleCutter;I[J)I"⟩
abbrev rm_H_doubt : Room := { frames := 8, cells := 1, slots := 6, locals := 123 }
def t_H_doubt : List (Nat × cx_E) := [(0, .aload_n 2, 0, 0, 2, 0, 1), (1, .iconst 0, 0, 0, 0, 0, 2), (2, .aload_n 0, 0, 0, 0, 0, 3), (3, .iload_n 1, 0, 0, 1, 0, 4), (7, .i2l, 0, 0, 0, 0, 8), (8, .lastore, 0, 0, 0, 0, 9), (9, .goto 6, 0, 0, 15, 0, 12), (13, .iconst 1, 1, 0, 0, 0, 14), (14, .ireturn, 0, 0, 0, 0, 15), (15, .iconst 0, 0, 0, 0, 0, 16), (16, .ireturn, 0, 0, 0, 0, 17)]
def z_H_doubt : List (Nat × cz_Z) := [(4, zTry 7 sp_C_doubt 2 1 6 1 6 [("java/lang/IndexOutOfBoundsException", 12)]), (12, zAst 13)]
theorem k_H_doubt : t_H_doubt.all (cx_dec true method_10_code (some .int) 4 [] [] [] [] [] [] []) = true := by decide +kernel
def sp_H_doubt : cx_S := fun as ws R => ∃ x n l m t g A p0, as = [.inr (.inr (.inl 0)), .inl p0, .inr (.inr (.inl 40))] ∧ ws = wd x n l m (wq t [oL g]) ∧ rC A x n l m ∧ ansH (douS A p0) t R
set_option maxRecDepth 100000 in
set_option maxHeartbeats 4000000 in
theorem pu_H_doubt : ∀ as ws Rq, sp_H_doubt as ws Rq → cx_cats as ≤ 4 ∧ ∀ V, cz_cl t_H_doubt z_H_doubt [] 1 6 Rq V → V 0 (cx_lv0 as 4) [] ws 0 0 := by
  rintro as ws Rq ⟨x, n, l, m, t, g, A, p0, rfl, rfl, hC, h⟩
  refine ⟨Nat.le_of_ble_eq_true rfl, fun V hV => hV [] 40 _ _ _ _ _ _ ?_⟩
  conv => whnf
  refine ⟨⟨by decide, by decide, Nat.le_of_ble_eq_true rfl, Nat.le_of_ble_eq_true rfl⟩, ?_⟩
  conv => whnf
  refine ⟨x, n, l, m, wq t [oL g], A, p0, rfl, rfl, rfl, hC, fun h0 x' n' l' m' hC' => ?_, fun h0 => ?_⟩
  · have h := h x' n' l' m' (vp_updL g 0 (douS A p0).2.1.toInt64) hC' (fun _ => pk_uLs)
    rw [h0] at h
    conv => whnf
    refine ⟨pk_in 0 1 (by omega), ?_⟩
    conv => whnf
    exact ⟨fun e => absurd e (by decide), h⟩
  · obtain ⟨e1, e2⟩ := th_doubt A p0 h0
    have h := h x n l m g (by rw [e1]; exact hC) (fun e => absurd e h0)
    rw [e2] at h
    conv => whnf
    refine Or.inl ⟨rfl, fun ad => ?_⟩
    conv => whnf
    exact ⟨fun e => absurd e (by decide), h⟩
theorem c_H_doubt {l : Launch} {G : cx_G} (hG : cx_okG G) (hcl : cx_cl G = cx_cls) (hl : cx_nt l) : cw_M [(0, 9, 12, 19)] l G m_H_doubt method_10_code 4 (some .int) rm_H_doubt sp_H_doubt :=
  cw_mk hG (Zs := z_H_doubt) k_H_doubt (fun had S => List.forall_mem_cons.mpr ⟨zTry_ok (rm := rm_C_doubt) (C := r_C) (T0 := f_C) (N0 := 4) (np := 1) S.1 S.2.1 S.2.2.1 S.2.2.2.2.2.2.1 S.2.2.2.2.2.1 (by rw [hcl]; rfl) (cx_M2.weak (c_C_doubt hG hcl hl)) wh_doubt (by decide) (by decide +kernel) (List.forall_mem_cons.mpr ⟨cw_ct1 had S.2.2.2.2.2.2.1 S.2.2.2.2.2.1 S.2.2.2.2.1 (by decide) (by decide) (cx_in 351 (by decide +kernel) (by decide +kernel)) (cx_in 363 (by decide +kernel) (by decide +kernel)), fun _ h => absurd h List.not_mem_nil⟩),
    List.forall_mem_cons.mpr ⟨zAstN_ok (a := 3) S.1 S.2.1 (by decide) (by decide +kernel),
    fun _ h => absurd h List.not_mem_nil⟩⟩) pu_H_doubt
theorem wh_value : cx_wV cx_Tb "CycleCutterLaw" r_C "" 43 2 m_C_value prog_1_method_13_code 3 (some (.int)) := ⟨Or.inl (cx_in 492 (by decide +kernel) (by decide +kernel)), ⟨cx_in 493 (by decide +kernel) (by decide +kernel), cx_in 494 (by decide +kernel) (by decide +kernel), cx_in 495 (by decide +kernel) (by decide +kernel)⟩, ⟨by decide +kernel, ⟨by decide +kernel, by decide +kernel⟩, by decide +kernel⟩⟩
abbrev m_H_value : MethodName := ⟨"CycleCutterLaw", "value", "(LCycleCutter;II[J)I"⟩
abbrev rm_H_value : Room := { frames := 8, cells := 1, slots := 6, locals := 124 }
def t_H_value : List (Nat × cx_E) := [(0, .aload_n 3, 0, 0, 3, 0, 1), (1, .iconst 0, 0, 0, 0, 0, 2), (2, .aload_n 0, 0, 0, 0, 0, 3), (3, .iload_n 1, 0, 0, 1, 0, 4), (4, .iload_n 2, 0, 0, 2, 0, 5), (8, .i2l, 0, 0, 0, 0, 9), (9, .lastore, 0, 0, 0, 0, 10), (10, .goto 7, 0, 0, 17, 0, 13), (15, .iconst 1, 1, 0, 0, 0, 16), (16, .ireturn, 0, 0, 0, 0, 17), (17, .iconst 0, 0, 0, 0, 0, 18), (18, .ireturn, 0, 0, 0, 0, 19)]
def z_H_value : List (Nat × cz_Z) := [(5, zTry 8 sp_C_value 3 1 6 1 6 [("java/lang/IndexOutOfBoundsException", 13)]), (13, zAst 15)]
theorem k_H_value : t_H_value.all (cx_dec true method_11_code (some .int) 5 [] [] [] [] [] [] []) = true := by decide +kernel
def sp_H_value : cx_S := fun as ws R => ∃ x n l m t g A p0 p1, as = [.inr (.inr (.inl 0)), .inl p0, .inl p1, .inr (.inr (.inl 40))] ∧ ws = wd x n l m (wq t [oL g]) ∧ rC A x n l m ∧ ansH (valS A p0 p1) t R
set_option maxRecDepth 100000 in
set_option maxHeartbeats 4000000 in
theorem pu_H_value : ∀ as ws Rq, sp_H_value as ws Rq → cx_cats as ≤ 5 ∧ ∀ V, cz_cl t_H_value z_H_value [] 1 6 Rq V → V 0 (cx_lv0 as 5) [] ws 0 0 := by
  rintro as ws Rq ⟨x, n, l, m, t, g, A, p0, p1, rfl, rfl, hC, h⟩
  refine ⟨Nat.le_of_ble_eq_true rfl, fun V hV => hV [] 40 _ _ _ _ _ _ ?_⟩
  conv => whnf
  refine ⟨⟨by decide, by decide, Nat.le_of_ble_eq_true rfl, Nat.le_of_ble_eq_true rfl⟩, ?_⟩
  conv => whnf
  refine ⟨x, n, l, m, wq t [oL g], A, p0, p1, rfl, rfl, rfl, hC, fun h0 x' n' l' m' hC' => ?_, fun h0 => ?_⟩
  · have h := h x' n' l' m' (vp_updL g 0 (valS A p0 p1).2.1.toInt64) hC' (fun _ => pk_uLs)
    rw [h0] at h
    conv => whnf
    refine ⟨pk_in 0 1 (by omega), ?_⟩
    conv => whnf
    exact ⟨fun e => absurd e (by decide), h⟩
  · obtain ⟨e1, e2⟩ := th_value A p0 p1 h0
    have h := h x n l m g (by rw [e1]; exact hC) (fun e => absurd e h0)
    rw [e2] at h
    conv => whnf
    refine Or.inl ⟨rfl, fun ad => ?_⟩
    conv => whnf
    exact ⟨fun e => absurd e (by decide), h⟩
theorem c_H_value {l : Launch} {G : cx_G} (hG : cx_okG G) (hcl : cx_cl G = cx_cls) (hl : cx_nt l) : cw_M [(0, 10, 13, 19)] l G m_H_value method_11_code 5 (some .int) rm_H_value sp_H_value :=
  cw_mk hG (Zs := z_H_value) k_H_value (fun had S => List.forall_mem_cons.mpr ⟨zTry_ok (rm := rm_C_value) (C := r_C) (T0 := f_C) (N0 := 4) (np := 2) S.1 S.2.1 S.2.2.1 S.2.2.2.2.2.2.1 S.2.2.2.2.2.1 (by rw [hcl]; rfl) (c_C_value hG hcl hl) wh_value (by decide) (by decide +kernel) (List.forall_mem_cons.mpr ⟨cw_ct1 had S.2.2.2.2.2.2.1 S.2.2.2.2.2.1 S.2.2.2.2.1 (by decide) (by decide) (cx_in 351 (by decide +kernel) (by decide +kernel)) (cx_in 363 (by decide +kernel) (by decide +kernel)), fun _ h => absurd h List.not_mem_nil⟩),
    List.forall_mem_cons.mpr ⟨zAst_ok (a := 4) S.1 S.2.1 (by decide) (by decide +kernel),
    fun _ h => absurd h List.not_mem_nil⟩⟩) pu_H_value
end
