section
-- ===== PART A: goes FIRST, ahead of the names: the tables' words, and 'selects' of the private methods out of them =====
/-- a private method of a class that the tables say can be made, by its rows of tables_1 -/
def lw_okq (q : MethodName × Nat) : Prop := (q.1.cls ≠ "java/lang/invoke/MethodHandle" ∧ q.1.cls ≠ "java/lang/invoke/VarHandle") ∧ Cond.instantiable q.1.cls q.2 ∈ tables_1 ∧ Cond.privateMethod q.1 ∈ tables_1 ∧ Cond.instanceMethod q.1 ∈ tables_1
theorem lw_p0 : lw_okq (⟨"CycleCutter$Net", "settle", "()V"⟩, 12) := ⟨⟨by decide +kernel, by decide +kernel⟩, List.mem_of_getElem? (i := 23) (by decide +kernel), List.mem_of_getElem? (i := 180) (by decide +kernel), List.mem_of_getElem? (i := 181) (by decide +kernel)⟩
theorem lw_p1 : lw_okq (⟨"CycleCutter$Net", "forgetWord", "(I)V"⟩, 12) := ⟨⟨by decide +kernel, by decide +kernel⟩, List.mem_of_getElem? (i := 23) (by decide +kernel), List.mem_of_getElem? (i := 184) (by decide +kernel), List.mem_of_getElem? (i := 185) (by decide +kernel)⟩
theorem lw_p2 : lw_okq (⟨"CycleCutter$Net", "settleWord", "(I)V"⟩, 12) := ⟨⟨by decide +kernel, by decide +kernel⟩, List.mem_of_getElem? (i := 23) (by decide +kernel), List.mem_of_getElem? (i := 192) (by decide +kernel), List.mem_of_getElem? (i := 193) (by decide +kernel)⟩
theorem lw_p3 : lw_okq (⟨"CycleCutter$Net", "settleGate", "(II)Z"⟩, 12) := ⟨⟨by decide +kernel, by decide +kernel⟩, List.mem_of_getElem? (i := 23) (by decide +kernel), List.mem_of_getElem? (i := 196) (by decide +kernel), List.mem_of_getElem? (i := 197) (by decide +kernel)⟩
theorem lw_p4 : lw_okq (⟨"CycleCutter$Multiplexers", "join", "(III)I"⟩, 11) := ⟨⟨by decide +kernel, by decide +kernel⟩, List.mem_of_getElem? (i := 80) (by decide +kernel), List.mem_of_getElem? (i := 216) (by decide +kernel), List.mem_of_getElem? (i := 217) (by decide +kernel)⟩
theorem lw_p5 : lw_okq (⟨"CycleCutter$Multiplexers", "addMultiplexer", "(III)I"⟩, 11) := ⟨⟨by decide +kernel, by decide +kernel⟩, List.mem_of_getElem? (i := 80) (by decide +kernel), List.mem_of_getElem? (i := 220) (by decide +kernel), List.mem_of_getElem? (i := 221) (by decide +kernel)⟩
theorem lw_p6 : lw_okq (⟨"java/lang/Throwable", "fillInStackTrace", "(I)Ljava/lang/Throwable;"⟩, 6) := ⟨⟨by decide +kernel, by decide +kernel⟩, List.mem_of_getElem? (i := 285) (by decide +kernel), List.mem_of_getElem? (i := 283) (by decide +kernel), List.mem_of_getElem? (i := 284) (by decide +kernel)⟩
theorem lw_p7 : lw_okq (⟨"CycleCutter$Net", "fixInput", "(II)V"⟩, 12) := ⟨⟨by decide +kernel, by decide +kernel⟩, List.mem_of_getElem? (i := 23) (by decide +kernel), List.mem_of_getElem? (i := 319) (by decide +kernel), List.mem_of_getElem? (i := 320) (by decide +kernel)⟩
theorem lw_p8 : lw_okq (⟨"CycleCutter", "requireLaidOut", "(I)V"⟩, 4) := ⟨⟨by decide +kernel, by decide +kernel⟩, List.mem_of_getElem? (i := 15) (by decide +kernel), List.mem_of_getElem? (i := 390) (by decide +kernel), List.mem_of_getElem? (i := 391) (by decide +kernel)⟩
theorem lw_p9 : lw_okq (⟨"CycleCutter$Multiplexers", "follow", "(II)I"⟩, 11) := ⟨⟨by decide +kernel, by decide +kernel⟩, List.mem_of_getElem? (i := 80) (by decide +kernel), List.mem_of_getElem? (i := 407) (by decide +kernel), List.mem_of_getElem? (i := 408) (by decide +kernel)⟩
theorem lw_p10 : lw_okq (⟨"CycleCutterModel", "fails", "(ZZ)Z"⟩, 21) := ⟨⟨by decide +kernel, by decide +kernel⟩, List.mem_of_getElem? (i := 479) (by decide +kernel), List.mem_of_getElem? (i := 557) (by decide +kernel), List.mem_of_getElem? (i := 558) (by decide +kernel)⟩
theorem lw_p11 : lw_okq (⟨"CycleCutterModel", "isGate", "(I)Z"⟩, 21) := ⟨⟨by decide +kernel, by decide +kernel⟩, List.mem_of_getElem? (i := 479) (by decide +kernel), List.mem_of_getElem? (i := 565) (by decide +kernel), List.mem_of_getElem? (i := 566) (by decide +kernel)⟩
theorem lw_p12 : lw_okq (⟨"CycleCutterModel", "spread", "(I)V"⟩, 21) := ⟨⟨by decide +kernel, by decide +kernel⟩, List.mem_of_getElem? (i := 479) (by decide +kernel), List.mem_of_getElem? (i := 581) (by decide +kernel), List.mem_of_getElem? (i := 582) (by decide +kernel)⟩
theorem lw_p13 : lw_okq (⟨"CycleCutterModel", "made", "(I)I"⟩, 21) := ⟨⟨by decide +kernel, by decide +kernel⟩, List.mem_of_getElem? (i := 479) (by decide +kernel), List.mem_of_getElem? (i := 585) (by decide +kernel), List.mem_of_getElem? (i := 586) (by decide +kernel)⟩
theorem lw_p14 : lw_okq (⟨"CycleCutterModel", "empty", "(I)V"⟩, 21) := ⟨⟨by decide +kernel, by decide +kernel⟩, List.mem_of_getElem? (i := 479) (by decide +kernel), List.mem_of_getElem? (i := 593) (by decide +kernel), List.mem_of_getElem? (i := 594) (by decide +kernel)⟩
theorem lw_p15 : lw_okq (⟨"CycleCutterModel", "set", "(II)V"⟩, 21) := ⟨⟨by decide +kernel, by decide +kernel⟩, List.mem_of_getElem? (i := 479) (by decide +kernel), List.mem_of_getElem? (i := 597) (by decide +kernel), List.mem_of_getElem? (i := 598) (by decide +kernel)⟩
def lw_privs_1 : List (MethodName × Nat) := [(⟨"CycleCutter$Net", "settle", "()V"⟩, 12), (⟨"CycleCutter$Net", "forgetWord", "(I)V"⟩, 12), (⟨"CycleCutter$Net", "settleWord", "(I)V"⟩, 12), (⟨"CycleCutter$Net", "settleGate", "(II)Z"⟩, 12), (⟨"CycleCutter$Multiplexers", "join", "(III)I"⟩, 11), (⟨"CycleCutter$Multiplexers", "addMultiplexer", "(III)I"⟩, 11), (⟨"java/lang/Throwable", "fillInStackTrace", "(I)Ljava/lang/Throwable;"⟩, 6), (⟨"CycleCutter$Net", "fixInput", "(II)V"⟩, 12), (⟨"CycleCutter", "requireLaidOut", "(I)V"⟩, 4), (⟨"CycleCutter$Multiplexers", "follow", "(II)I"⟩, 11), (⟨"CycleCutterModel", "fails", "(ZZ)Z"⟩, 21), (⟨"CycleCutterModel", "isGate", "(I)Z"⟩, 21), (⟨"CycleCutterModel", "spread", "(I)V"⟩, 21), (⟨"CycleCutterModel", "made", "(I)I"⟩, 21), (⟨"CycleCutterModel", "empty", "(I)V"⟩, 21), (⟨"CycleCutterModel", "set", "(II)V"⟩, 21)]
theorem lw_r1 : ∀ q ∈ lw_privs_1, lw_okq q := List.forall_mem_cons.mpr ⟨lw_p0, List.forall_mem_cons.mpr ⟨lw_p1, List.forall_mem_cons.mpr ⟨lw_p2, List.forall_mem_cons.mpr ⟨lw_p3, List.forall_mem_cons.mpr ⟨lw_p4, List.forall_mem_cons.mpr ⟨lw_p5, List.forall_mem_cons.mpr ⟨lw_p6, List.forall_mem_cons.mpr ⟨lw_p7, List.forall_mem_cons.mpr ⟨lw_p8, List.forall_mem_cons.mpr ⟨lw_p9, List.forall_mem_cons.mpr ⟨lw_p10, List.forall_mem_cons.mpr ⟨lw_p11, List.forall_mem_cons.mpr ⟨lw_p12, List.forall_mem_cons.mpr ⟨lw_p13, List.forall_mem_cons.mpr ⟨lw_p14, List.forall_mem_cons.mpr ⟨lw_p15, fun _ h => absurd h List.not_mem_nil⟩⟩⟩⟩⟩⟩⟩⟩⟩⟩⟩⟩⟩⟩⟩⟩
theorem lw_p16 : lw_okq (⟨"CycleCutterModel", "number", "()I"⟩, 21) := ⟨⟨by decide +kernel, by decide +kernel⟩, List.mem_of_getElem? (i := 479) (by decide +kernel), List.mem_of_getElem? (i := 601) (by decide +kernel), List.mem_of_getElem? (i := 602) (by decide +kernel)⟩
theorem lw_p17 : lw_okq (⟨"CycleCutterModel", "depends", "(I)I"⟩, 21) := ⟨⟨by decide +kernel, by decide +kernel⟩, List.mem_of_getElem? (i := 479) (by decide +kernel), List.mem_of_getElem? (i := 605) (by decide +kernel), List.mem_of_getElem? (i := 606) (by decide +kernel)⟩
theorem lw_p18 : lw_okq (⟨"CycleCutterModel", "truth", "(II)Z"⟩, 21) := ⟨⟨by decide +kernel, by decide +kernel⟩, List.mem_of_getElem? (i := 479) (by decide +kernel), List.mem_of_getElem? (i := 609) (by decide +kernel), List.mem_of_getElem? (i := 610) (by decide +kernel)⟩
theorem lw_p19 : lw_okq (⟨"CycleCutterModel", "same", "(II)Z"⟩, 21) := ⟨⟨by decide +kernel, by decide +kernel⟩, List.mem_of_getElem? (i := 479) (by decide +kernel), List.mem_of_getElem? (i := 613) (by decide +kernel), List.mem_of_getElem? (i := 614) (by decide +kernel)⟩
theorem lw_p20 : lw_okq (⟨"CycleCutterModel", "fix", "(III)V"⟩, 21) := ⟨⟨by decide +kernel, by decide +kernel⟩, List.mem_of_getElem? (i := 479) (by decide +kernel), List.mem_of_getElem? (i := 617) (by decide +kernel), List.mem_of_getElem? (i := 618) (by decide +kernel)⟩
theorem lw_p21 : lw_okq (⟨"CycleCutterModel", "refuses", "(II)Z"⟩, 21) := ⟨⟨by decide +kernel, by decide +kernel⟩, List.mem_of_getElem? (i := 479) (by decide +kernel), List.mem_of_getElem? (i := 625) (by decide +kernel), List.mem_of_getElem? (i := 626) (by decide +kernel)⟩
theorem lw_p22 : lw_okq (⟨"CycleCutterModel", "reach", "(I)I"⟩, 21) := ⟨⟨by decide +kernel, by decide +kernel⟩, List.mem_of_getElem? (i := 479) (by decide +kernel), List.mem_of_getElem? (i := 641) (by decide +kernel), List.mem_of_getElem? (i := 642) (by decide +kernel)⟩
def lw_privs_2 : List (MethodName × Nat) := [(⟨"CycleCutterModel", "number", "()I"⟩, 21), (⟨"CycleCutterModel", "depends", "(I)I"⟩, 21), (⟨"CycleCutterModel", "truth", "(II)Z"⟩, 21), (⟨"CycleCutterModel", "same", "(II)Z"⟩, 21), (⟨"CycleCutterModel", "fix", "(III)V"⟩, 21), (⟨"CycleCutterModel", "refuses", "(II)Z"⟩, 21), (⟨"CycleCutterModel", "reach", "(I)I"⟩, 21)]
theorem lw_r2 : ∀ q ∈ lw_privs_2, lw_okq q := List.forall_mem_cons.mpr ⟨lw_p16, List.forall_mem_cons.mpr ⟨lw_p17, List.forall_mem_cons.mpr ⟨lw_p18, List.forall_mem_cons.mpr ⟨lw_p19, List.forall_mem_cons.mpr ⟨lw_p20, List.forall_mem_cons.mpr ⟨lw_p21, List.forall_mem_cons.mpr ⟨lw_p22, fun _ h => absurd h List.not_mem_nil⟩⟩⟩⟩⟩⟩⟩
def lw_privs : List (MethodName × Nat) := lw_privs_1 ++ (lw_privs_2)
def lw_tbl : List Cond := k2_sels lw_privs ++ tables_1
theorem lw_privs_ok : ∀ q ∈ lw_privs, lw_okq q := by
  show ∀ q ∈ lw_privs_1 ++ (lw_privs_2), lw_okq q
  exact List.forall_mem_append.mpr ⟨lw_r1, lw_r2⟩
end
section
/-! An abstract machine over a numbered world. A value: an int, a long, a cell's number, a row of a grid (its cell's number, the row), or a raw value. A cell: an object (its class's place, its fields), ints, booleans, longs, a grid of longs. -/
abbrev cx_V : Type := Int32 ⊕ (Int64 ⊕ (Nat ⊕ ((Nat × Nat) ⊕ Value)))
abbrev cx_C : Type := (Nat × List cx_V) ⊕ ((Nat × (Nat → Int32)) ⊕ ((Nat × (Nat → Int32)) ⊕ ((Nat × (Nat → Int64)) ⊕ (Nat × Nat × (Nat → Nat → Int64)))))
abbrev cx_L : Type := List (Option cx_V)
abbrev cx_K : Type := Nat → cx_L → List cx_V → List cx_C → Nat → Nat → Prop
abbrev cx_O : Type := Option cx_V ⊕ String
abbrev cx_R : Type := cx_O → List cx_C → Prop
abbrev cx_S : Type := List cx_V → List cx_C → cx_R → Prop
abbrev cx_E : Type := Instr × Int32 × Int64 × Nat × Nat
/-- two words -/
def cx_wd (v : cx_V) : Bool := match v with
  | .inl _ => false
  | .inr (.inl _) => true
  | .inr (.inr (.inl _)) => false
  | .inr (.inr (.inr (.inl _))) => false
  | .inr (.inr (.inr (.inr v))) => v.category == 2
def cx_clob (lv : cx_L) (i : Nat) : cx_L := match i with
  | 0 => lv
  | j + 1 => match lv[j]? with
    | some (some w) => (match cx_wd w with
      | true => lv.set j none
      | false => lv)
    | _ => lv
def cx_put1 (lv : cx_L) (i : Nat) (v : cx_V) : cx_L := (cx_clob lv i).set i (some v)
def cx_put2 (lv : cx_L) (i : Nat) (v : cx_V) : cx_L := ((cx_clob lv i).set i (some v)).set (i + 1) none
def cx_ldi (lv : cx_L) (a : Nat) (k : Int32 → Prop) : Prop := match lv[a]? with
  | some (some (.inl x)) => k x
  | _ => False
def cx_ldl (lv : cx_L) (a : Nat) (k : Int64 → Prop) : Prop := match lv[a]? with
  | some (some (.inr (.inl x))) => k x
  | _ => False
def cx_lda (lv : cx_L) (a : Nat) (k : cx_V → Prop) : Prop := match lv[a]? with
  | some (some (.inr (.inr (.inl j)))) => k (.inr (.inr (.inl j)))
  | some (some (.inr (.inr (.inr (.inl q))))) => k (.inr (.inr (.inr (.inl q))))
  | _ => False
def cx_i1 (st : List cx_V) (k : Int32 → List cx_V → Prop) : Prop := match st with
  | .inl x :: r => k x r
  | _ => False
def cx_l1 (st : List cx_V) (k : Int64 → List cx_V → Prop) : Prop := match st with
  | .inr (.inl x) :: r => k x r
  | _ => False
def cx_ii (st : List cx_V) (k : Int32 → Int32 → List cx_V → Prop) : Prop := match st with
  | .inl y :: .inl x :: r => k x y r
  | _ => False
def cx_ll (st : List cx_V) (k : Int64 → Int64 → List cx_V → Prop) : Prop := match st with
  | .inr (.inl y) :: .inr (.inl x) :: r => k x y r
  | _ => False
def cx_li (st : List cx_V) (k : Int64 → Int32 → List cx_V → Prop) : Prop := match st with
  | .inl y :: .inr (.inl x) :: r => k x y r
  | _ => False
def cx_a1 (st : List cx_V) (k : cx_V → List cx_V → Prop) : Prop := match st with
  | .inr (.inr (.inl j)) :: r => k (.inr (.inr (.inl j))) r
  | .inr (.inr (.inr (.inl q))) :: r => k (.inr (.inr (.inr (.inl q)))) r
  | _ => False
def cx_obj (ws : List cx_C) (j ci : Nat) (k : List cx_V → Prop) : Prop := match ws[j]? with
  | some (.inl o) => (match Nat.beq o.1 ci with
    | true => k o.2
    | false => False)
  | _ => False
def cx_fld (fs : List cx_V) (b : Nat) (k : cx_V → Prop) : Prop := match fs[b]? with
  | some u => k u
  | none => False
/-- what a field takes: v = 1: a boolean's 0 or 1; 2: a reference; else an int -/
def cx_fits (v : Int32) (u : cx_V) : Prop := match u with
  | .inl x => v = 0 ∨ (v = 1 ∧ (x = 0 ∨ x = 1))
  | .inr (.inr (.inl _)) => v = 2
  | _ => False
def cx_swl (x : Int32) (k : Nat) (ts : List Nat) (J : Nat → Prop) : Prop := match ts with
  | [] => True
  | t :: r => (x = nI k → J t) ∧ cx_swl x (k + 1) r J
def cx_cats (st : List cx_V) : Nat := match st with
  | [] => 0
  | v :: r => (match cx_wd v with
    | true => 2
    | false => 1) + cx_cats r
/-- a call's end -/
def cx_end (pc : Nat) (lv : cx_L) (r : List cx_V) (c s : Nat) (K : cx_K) (R : cx_R) : cx_R := fun o ws => match o with
  | .inl none => K (pc + 3) lv r ws c s
  | .inl (some u) => K (pc + 3) lv (u :: r) ws c s
  | .inr e => R (.inr e) ws
def cx_cmp0 (c : Jvm.ClassFile.Cond) (x : Int32) (A B : Prop) : Prop := match c with
  | .eq => (x = 0 → A) ∧ (¬ x = 0 → B)
  | .ne => (¬ x = 0 → A) ∧ (x = 0 → B)
  | .lt => (x < 0 → A) ∧ (¬ x < 0 → B)
  | .ge => (0 ≤ x → A) ∧ (¬ 0 ≤ x → B)
  | .gt => (0 < x → A) ∧ (¬ 0 < x → B)
  | .le => (x ≤ 0 → A) ∧ (¬ x ≤ 0 → B)
def cx_cmp2 (c : Jvm.ClassFile.Cond) (x y : Int32) (A B : Prop) : Prop := match c with
  | .eq => (x = y → A) ∧ (¬ x = y → B)
  | .ne => (¬ x = y → A) ∧ (x = y → B)
  | .lt => (x < y → A) ∧ (¬ x < y → B)
  | .ge => (y ≤ x → A) ∧ (¬ y ≤ x → B)
  | .gt => (y < x → A) ∧ (¬ y < x → B)
  | .le => (x ≤ y → A) ∧ (¬ x ≤ y → B)
def cx_p1 (st : List cx_V) (k : Nat → List cx_V → Prop) : Prop := match st with
  | .inr (.inr (.inl j)) :: r => k j r
  | _ => False
def cx_pu (st : List cx_V) (k : cx_V → Nat → List cx_V → Prop) : Prop := match st with
  | u :: .inr (.inr (.inl j)) :: r => k u j r
  | _ => False
def cx_pi (st : List cx_V) (k : Int32 → Nat → List cx_V → Prop) : Prop := match st with
  | .inl x :: .inr (.inr (.inl j)) :: r => k x j r
  | _ => False
def cx_pii (st : List cx_V) (k : Int32 → Int32 → Nat → List cx_V → Prop) : Prop := match st with
  | .inl y :: .inl x :: .inr (.inr (.inl j)) :: r => k y x j r
  | _ => False
def cx_pig (st : List cx_V) (k1 : Int32 → Nat → List cx_V → Prop) (k2 : Int32 → Nat → Nat → List cx_V → Prop) : Prop := match st with
  | .inl x :: .inr (.inr (.inl j)) :: r => k1 x j r
  | .inl x :: .inr (.inr (.inr (.inl q))) :: r => k2 x q.1 q.2 r
  | _ => False
def cx_ints (ws : List cx_C) (j : Nat) (k : Nat → (Nat → Int32) → Prop) : Prop := match ws[j]? with
  | some (.inr (.inl q)) => k q.1 q.2
  | _ => False
def cx_bools (ws : List cx_C) (j : Nat) (k : Nat → (Nat → Int32) → Prop) : Prop := match ws[j]? with
  | some (.inr (.inr (.inl q))) => k q.1 q.2
  | _ => False
def cx_longs (ws : List cx_C) (j : Nat) (k : Nat → (Nat → Int64) → Prop) : Prop := match ws[j]? with
  | some (.inr (.inr (.inr (.inl q)))) => k q.1 q.2
  | _ => False
def cx_grid (ws : List cx_C) (j : Nat) (k : Nat → Nat → (Nat → Nat → Int64) → Prop) : Prop := match ws[j]? with
  | some (.inr (.inr (.inr (.inr q)))) => k q.1 q.2.1 q.2.2
  | _ => False
def cx_u1 (st : List cx_V) (k : cx_V → List cx_V → Prop) : Prop := match st with
  | u :: r => (match cx_wd u with
    | true => False
    | false => k u r)
  | _ => False
def cx_sw (Sw : List (Nat × List Nat)) (a : Nat) (k : Nat → List Nat → Prop) : Prop := match Sw[a]? with
  | some q => k q.1 q.2
  | none => False
def cx_ir (st : List cx_V) (k : Int32 → Prop) : Prop := match st with
  | [.inl x] => k x
  | _ => False
def cx_ar (st : List cx_V) (k : cx_V → Prop) : Prop := match st with
  | [.inr (.inr (.inl j))] => k (.inr (.inr (.inl j)))
  | [.inr (.inr (.inr (.inl q)))] => k (.inr (.inr (.inr (.inl q))))
  | _ => False
def cx_vr (st : List cx_V) (k : Prop) : Prop := match st with
  | [] => k
  | _ => False
/-- what a call asks: its contract, its arguments there, room -/
def cx_go (Sp : List (cx_S × Nat × Nat × Nat)) (a mc ms : Nat) (st : List cx_V) (c s : Nat) (k : cx_S → Nat → Nat → Nat → Prop) : Prop := match Sp[a]? with
  | some q => (match Nat.ble (c + q.2.2.1) mc && (Nat.ble (s + q.2.2.2) ms && (Nat.ble q.2.1 st.length && Nat.ble (cx_cats (st.drop q.2.1)) 8)) with
    | true => k q.1 q.2.1 q.2.2.1 q.2.2.2
    | false => False)
  | none => False
def cx_thr (Ex : List String) (a mc ms c s : Nat) (k : String → Prop) : Prop := match Ex[a]? with
  | some x => (match Nat.ble (c + 1) mc && Nat.ble (s + 6) ms with
    | true => k x
    | false => False)
  | none => False
/-- one instruction. Sp: what is called (contract, how many arguments, cells, slots); Ex: what is thrown; Sw: the switches' targets (default, the others from 0 on); rc, rs: the room; mc, ms: what the method may have made at its end -/
def cx_1 (Sp : List (cx_S × Nat × Nat × Nat)) (Ex : List String) (Sw : List (Nat × List Nat)) (mc ms : Nat) (en : cx_E) (pc : Nat) (lv : cx_L) (st : List cx_V) (ws : List cx_C) (c s : Nat) (K : cx_K) (R : cx_R) : Prop :=
  match en with
  | (i, v, w, a, b) => match i with
    | .iconst _ => K (pc + 1) lv (.inl v :: st) ws c s
    | .bipush _ => K (pc + 2) lv (.inl v :: st) ws c s
    | .sipush _ => K (pc + 3) lv (.inl v :: st) ws c s
    | .lconst _ => K (pc + 1) lv (.inr (.inl w) :: st) ws c s
    | .ldc2_w _ => K (pc + 3) lv (.inr (.inl w) :: st) ws c s
    | .iload_n _ => cx_ldi lv a (fun x => K (pc + 1) lv (.inl x :: st) ws c s)
    | .iload _ => cx_ldi lv a (fun x => K (pc + 2) lv (.inl x :: st) ws c s)
    | .lload_n _ => cx_ldl lv a (fun x => K (pc + 1) lv (.inr (.inl x) :: st) ws c s)
    | .lload _ => cx_ldl lv a (fun x => K (pc + 2) lv (.inr (.inl x) :: st) ws c s)
    | .aload_n _ => cx_lda lv a (fun x => K (pc + 1) lv (x :: st) ws c s)
    | .aload _ => cx_lda lv a (fun x => K (pc + 2) lv (x :: st) ws c s)
    | .istore_n _ => cx_i1 st (fun x r => K (pc + 1) (cx_put1 lv a (.inl x)) r ws c s)
    | .istore _ => cx_i1 st (fun x r => K (pc + 2) (cx_put1 lv a (.inl x)) r ws c s)
    | .lstore_n _ => cx_l1 st (fun x r => K (pc + 1) (cx_put2 lv a (.inr (.inl x))) r ws c s)
    | .lstore _ => cx_l1 st (fun x r => K (pc + 2) (cx_put2 lv a (.inr (.inl x))) r ws c s)
    | .astore_n _ => cx_a1 st (fun x r => K (pc + 1) (cx_put1 lv a x) r ws c s)
    | .astore _ => cx_a1 st (fun x r => K (pc + 2) (cx_put1 lv a x) r ws c s)
    | .iinc _ _ => cx_ldi lv a (fun x => K (pc + 3) (cx_put1 lv a (.inl (x + v))) st ws c s)
    | .iadd => cx_ii st (fun x y r => K (pc + 1) lv (.inl (x + y) :: r) ws c s)
    | .isub => cx_ii st (fun x y r => K (pc + 1) lv (.inl (x - y) :: r) ws c s)
    | .imul => cx_ii st (fun x y r => K (pc + 1) lv (.inl (x * y) :: r) ws c s)
    | .iand => cx_ii st (fun x y r => K (pc + 1) lv (.inl (x &&& y) :: r) ws c s)
    | .ior => cx_ii st (fun x y r => K (pc + 1) lv (.inl (x ||| y) :: r) ws c s)
    | .ixor => cx_ii st (fun x y r => K (pc + 1) lv (.inl (x ^^^ y) :: r) ws c s)
    | .ishl => cx_ii st (fun x y r => K (pc + 1) lv (.inl (x <<< (y &&& 31)) :: r) ws c s)
    | .ishr => cx_ii st (fun x y r => K (pc + 1) lv (.inl (x >>> (y &&& 31)) :: r) ws c s)
    | .idiv => cx_ii st (fun x y r => ¬ y = 0 ∧ K (pc + 1) lv (.inl (x / y) :: r) ws c s)
    | .irem => cx_ii st (fun x y r => ¬ y = 0 ∧ K (pc + 1) lv (.inl (x - x / y * y) :: r) ws c s)
    | .land => cx_ll st (fun x y r => K (pc + 1) lv (.inr (.inl (x &&& y)) :: r) ws c s)
    | .lor => cx_ll st (fun x y r => K (pc + 1) lv (.inr (.inl (x ||| y)) :: r) ws c s)
    | .lxor => cx_ll st (fun x y r => K (pc + 1) lv (.inr (.inl (x ^^^ y)) :: r) ws c s)
    | .ladd => cx_ll st (fun x y r => K (pc + 1) lv (.inr (.inl (x + y)) :: r) ws c s)
    | .lsub => cx_ll st (fun x y r => K (pc + 1) lv (.inr (.inl (x - y)) :: r) ws c s)
    | .lcmp => cx_ll st (fun x y r => K (pc + 1) lv (.inl (lg_cmp x y) :: r) ws c s)
    | .lshl => cx_li st (fun x y r => K (pc + 1) lv (.inr (.inl (x <<< (y.toInt64 &&& 63))) :: r) ws c s)
    | .lushr => cx_li st (fun x y r => K (pc + 1) lv (.inr (.inl (x.toUInt64 >>> (y.toInt64.toUInt64 &&& Int64.toUInt64 63)).toInt64) :: r) ws c s)
    | .lshr => cx_li st (fun x y r => K (pc + 1) lv (.inr (.inl (x >>> (y.toInt64 &&& 63))) :: r) ws c s)
    | .i2l => cx_i1 st (fun x r => K (pc + 1) lv (.inr (.inl x.toInt64) :: r) ws c s)
    | .l2i => cx_l1 st (fun x r => K (pc + 1) lv (.inl x.toInt32 :: r) ws c s)
    | .dup => cx_u1 st (fun u r => K (pc + 1) lv (u :: u :: r) ws c s)
    | .pop => cx_u1 st (fun _ r => K (pc + 1) lv r ws c s)
    | .dup2 => cx_u1 st (fun u q => cx_u1 q (fun u2 r => K (pc + 1) lv (u :: u2 :: u :: u2 :: r) ws c s))
    | .ifCond q _ => cx_i1 st (fun x r => cx_cmp0 q x (K a lv r ws c s) (K (pc + 3) lv r ws c s))
    | .if_icmp q _ => cx_ii st (fun x y r => cx_cmp2 q x y (K a lv r ws c s) (K (pc + 3) lv r ws c s))
    | .goto _ => K a lv st ws c s
    | .getfield _ => cx_p1 st (fun j r => cx_obj ws j a (fun fs => cx_fld fs b (fun u => K (pc + 3) lv (u :: r) ws c s)))
    | .putfield _ => cx_pu st (fun u j r => cx_obj ws j a (fun fs => cx_fld fs b (fun _ => cx_fits v u ∧ K (pc + 3) lv r (ws.set j (.inl (a, fs.set b u))) c s)))
    | .iaload => cx_pi st (fun x j r => cx_ints ws j (fun n f => vp_in x n ∧ K (pc + 1) lv (.inl (f x.toNatClampNeg) :: r) ws c s))
    | .iastore => cx_pii st (fun y x j r => cx_ints ws j (fun n f => vp_in x n ∧ K (pc + 1) lv r (ws.set j (.inr (.inl (n, upd f x.toNatClampNeg y)))) c s))
    | .baload => cx_pi st (fun x j r => cx_bools ws j (fun n f => vp_in x n ∧ K (pc + 1) lv (.inl (f x.toNatClampNeg) :: r) ws c s))
    | .bastore => cx_pii st (fun y x j r => cx_bools ws j (fun n f => (vp_in x n ∧ (y = 0 ∨ y = 1)) ∧ K (pc + 1) lv r (ws.set j (.inr (.inr (.inl (n, upd f x.toNatClampNeg y))))) c s))
    | .laload => cx_pig st
        (fun x j r => cx_longs ws j (fun n f => vp_in x n ∧ K (pc + 1) lv (.inr (.inl (f x.toNatClampNeg)) :: r) ws c s))
        (fun x j g r => cx_grid ws j (fun n k f => (g < n ∧ vp_in x k) ∧ K (pc + 1) lv (.inr (.inl (f g x.toNatClampNeg)) :: r) ws c s))
    | .lastore => cx_l1 st (fun y q => cx_pig q
        (fun x j r => cx_longs ws j (fun n f => vp_in x n ∧ K (pc + 1) lv r (ws.set j (.inr (.inr (.inr (.inl (n, vp_updL f x.toNatClampNeg y)))))) c s))
        (fun x j g r => cx_grid ws j (fun n k f => (g < n ∧ vp_in x k) ∧ K (pc + 1) lv r (ws.set j (.inr (.inr (.inr (.inr (n, k, va_up f g (vp_updL (f g) x.toNatClampNeg y))))))) c s)))
    | .aaload => cx_pi st (fun x j r => cx_grid ws j (fun n _ _ => vp_in x n ∧ K (pc + 1) lv (.inr (.inr (.inr (.inl (j, x.toNatClampNeg)))) :: r) ws c s))
    | .tableswitch _ _ _ _ => cx_i1 st (fun x r => cx_sw Sw a (fun d ts => (x.toInt < 0 ∨ (ts.length : Int) ≤ x.toInt → K d lv r ws c s) ∧ cx_swl x 0 ts (fun t => K t lv r ws c s)))
    | .ireturn => cx_ir st (fun x => (v = 1 → x = 0 ∨ x = 1) ∧ R (.inl (some (.inl x))) ws)
    | .areturn => cx_ar st (fun u => R (.inl (some u)) ws)
    | .return_ => cx_vr st (R (.inl none) ws)
    | .invokevirtual _ => cx_go Sp a mc ms st c s (fun f n kc ks => f (st.take n).reverse ws (cx_end pc lv (st.drop n) (c + kc) (s + ks) K R))
    | .invokestatic _ => cx_go Sp a mc ms st c s (fun f n kc ks => f (st.take n).reverse ws (cx_end pc lv (st.drop n) (c + kc) (s + ks) K R))
    | .new _ => cx_thr Ex a mc ms c s (fun x => R (.inr x) ws)
    | _ => False
def cx_get (T : List (Nat × cx_E)) (pc : Nat) : Option cx_E := match T with
  | [] => none
  | q :: r => (match Nat.beq q.1 pc with
    | true => some q.2
    | false => cx_get r pc)
def cx_stop (P : List Nat) (pc : Nat) : Bool := match P with
  | [] => false
  | q :: r => (match Nat.beq q pc with
    | true => true
    | false => cx_stop r pc)
/-- n instructions, or till a pc among P is reached -/
def cx_ax (T : List (Nat × cx_E)) (Sp : List (cx_S × Nat × Nat × Nat)) (Ex : List String) (Sw : List (Nat × List Nat)) (mc ms : Nat) (P : List Nat) (R : cx_R) (K : cx_K) (n : Nat) (pc : Nat) (lv : cx_L) (st : List cx_V) (ws : List cx_C) (c s : Nat) : Prop := match n with
  | 0 => K pc lv st ws c s
  | n + 1 => match cx_get T pc with
    | some en => cx_1 Sp Ex Sw mc ms en pc lv st ws c s (fun pc lv st ws c s => match cx_stop P pc with
      | true => K pc lv st ws c s
      | false => cx_ax T Sp Ex Sw mc ms P R K n pc lv st ws c s) R
    | none => False
end
section
/-! What the abstract machine's worlds are on the heap. -/
abbrev cx_G : Type := va_G × List vw_C × (Nat → Nat) × (Nat → Nat → Nat) × (Nat → ClassId) × Nat × (Nat → Nat) × Heap
abbrev cx_D (G : cx_G) : va_G := G.1
abbrev cx_cl (G : cx_G) : List vw_C := G.2.1
abbrev cx_ad (G : cx_G) : Nat → Nat := G.2.2.1
abbrev cx_rd (G : cx_G) : Nat → Nat → Nat := G.2.2.2.1
abbrev cx_tc (G : cx_G) : Nat → ClassId := G.2.2.2.2.1
abbrev cx_N (G : cx_G) : Nat := G.2.2.2.2.2.1
abbrev cx_gl (G : cx_G) : Nat → Nat := G.2.2.2.2.2.2.1
abbrev cx_H0 (G : cx_G) : Heap := G.2.2.2.2.2.2.2
def cx_v (G : cx_G) (v : cx_V) : Value := match v with
  | .inl x => .int x
  | .inr (.inl x) => .long x
  | .inr (.inr (.inl k)) => .ref (cx_ad G k)
  | .inr (.inr (.inr (.inl q))) => .ref (cx_rd G q.1 q.2)
  | .inr (.inr (.inr (.inr v))) => v
theorem cx_v_cat (G : cx_G) (v : cx_V) : ((cx_v G v).category == 2) = cx_wd v := by
  rcases v with x | x | x | x | x <;> rfl
theorem cx_cat1 {G : cx_G} {u : cx_V} (h : cx_wd u = false) : (cx_v G u).category = 1 := by
  have h2 := cx_v_cat G u
  rw [h] at h2
  rcases lv_cat (cx_v G u) with q | q
  · exact q
  · rw [q] at h2
    cases h2
theorem cx_cats_eq (G : cx_G) (st : List cx_V) : ((st.map (cx_v G)).map fun v => v.category).sum = cx_cats st := by
  induction st with
  | nil => rfl
  | cons v r ih =>
    simp only [List.map_cons, List.sum_cons, ih, cx_cats]
    congr 1
    rcases v with x | x | x | x | x
    · rfl
    · rfl
    · rfl
    · rfl
    · show x.category = _
      rcases lv_cat x with h | h <;> simp [cx_wd, h]
def cx_okG (G : cx_G) : Prop :=
  (∀ i j, i < cx_N G → j < cx_N G → cx_ad G i = cx_ad G j → i = j) ∧
  (∀ i a j b, a < cx_gl G i → b < cx_gl G j → cx_rd G i a = cx_rd G j b → i = j ∧ a = b) ∧
  (∀ i j b, i < cx_N G → b < cx_gl G j → cx_ad G i ≠ cx_rd G j b) ∧
  (∀ i, i < cx_N G → (cx_H0 G).size ≤ cx_ad G i) ∧ (∀ j b, b < cx_gl G j → (cx_H0 G).size ≤ cx_rd G j b)
def cx_at (G : cx_G) (j : Nat) (c : cx_C) (H : Heap) : Prop := match c with
  | .inl o => va_at (cx_D G) (cx_cl G) (cx_ad G j, .inr (o.1, o.2.map (cx_v G))) H
  | .inr (.inl a) => H[cx_ad G j]? = some (arrV (cx_tc G 0) a.1 (fun i => .int (a.2 i)))
  | .inr (.inr (.inl a)) => H[cx_ad G j]? = some (arrV (cx_tc G 1) a.1 (fun i => .int (a.2 i)))
  | .inr (.inr (.inr (.inl a))) => H[cx_ad G j]? = some (arrV (cx_tc G 2) a.1 (fun i => .long (a.2 i)))
  | .inr (.inr (.inr (.inr a))) => a.1 ≤ cx_gl G j ∧ H[cx_ad G j]? = some (arrV (cx_tc G 3) a.1 (fun i => .ref (cx_rd G j i))) ∧ ∀ i, i < a.1 → H[cx_rd G j i]? = some (arrV (cx_tc G 2) a.2.1 (fun x => .long (a.2.2 i x)))
def cx_P (G : cx_G) (ws : List cx_C) (H : Heap) : Prop := (∀ j c, ws[j]? = some c → j < cx_N G ∧ cx_at G j c H) ∧ (cx_H0 G).size ≤ H.size ∧ (∀ q : Nat, q < (cx_H0 G).size → H[q]? = (cx_H0 G)[q]?) ∧ ∀ (q : Nat) (cell : Cell), (cx_H0 G).size ≤ q → H[q]? = some cell → cell.vm = .none
theorem cx_at.vm {G : cx_G} {j : Nat} {c : cx_C} {H : Heap} {cell : Cell} (h : cx_at G j c H) (hc : H[cx_ad G j]? = some cell) : cell.vm = .none := by
  rcases c with o | a | a | a | a
  · obtain ⟨r, h1, cell', q1, q2, q3, q4⟩ := h
    cases (show some cell' = some cell from q1.symm.trans hc)
    exact q3
  · cases (show some _ = some cell from Eq.trans (Eq.symm h) hc)
    rfl
  · cases (show some _ = some cell from Eq.trans (Eq.symm h) hc)
    rfl
  · cases (show some _ = some cell from Eq.trans (Eq.symm h) hc)
    rfl
  · cases (show some _ = some cell from Eq.trans (Eq.symm h.2.1) hc)
    rfl
theorem cx_at.kept {G : cx_G} {j : Nat} {c : cx_C} {H H' : Heap} (h : cx_at G j c H) (h1 : H'[cx_ad G j]? = H[cx_ad G j]?) (h2 : ∀ i, i < cx_gl G j → H'[cx_rd G j i]? = H[cx_rd G j i]?) : cx_at G j c H' := by
  rcases c with o | a | a | a | a
  · exact va_at.kept (D := cx_D G) (cl := cx_cl G) (q := (cx_ad G j, .inr (o.1, o.2.map (cx_v G)))) h h1
  · exact h1.trans h
  · exact h1.trans h
  · exact h1.trans h
  · obtain ⟨q1, q2, q3⟩ := h
    exact ⟨q1, h1.trans q2, fun i hi => (h2 i (Nat.lt_of_lt_of_le hi q1)).trans (q3 i hi)⟩
theorem cx_P.set {G : cx_G} {ws : List cx_C} {H H' : Heap} {j : Nat} {c0 c' : cx_C} (hG : cx_okG G) (hP : cx_P G ws H) (hj : ws[j]? = some c0) (h' : cx_at G j c' H') (hz : H'.size = H.size) (ho : ∀ q : Nat, q ≠ cx_ad G j → H'[q]? = H[q]?) : cx_P G (ws.set j c') H' := by
  obtain ⟨g1, g2, g3, g4, g5⟩ := hG
  obtain ⟨p1, p2, p3, p4⟩ := hP
  have hjN := (p1 j c0 hj).1
  refine ⟨fun i c hc => ?_, by rw [hz]; exact p2, fun q hq => ?_, fun q cell hq hc => ?_⟩
  · by_cases e : i = j
    · subst e
      have hlt : i < ws.length := (List.getElem?_eq_some_iff.mp hj).1
      rw [List.getElem?_set_self hlt] at hc
      cases hc
      exact ⟨hjN, h'⟩
    · rw [List.getElem?_set_ne (Ne.symm e)] at hc
      obtain ⟨q1, q2⟩ := p1 i c hc
      exact ⟨q1, q2.kept (ho _ (fun h => e (g1 i j q1 hjN h))) (fun b hb => ho _ (fun h => g3 j i b hjN hb h.symm))⟩
  · rw [ho q (fun h => by have := g4 j hjN; omega)]
    exact p3 q hq
  · by_cases e : q = cx_ad G j
    · subst e
      exact h'.vm hc
    · rw [ho q e] at hc
      exact p4 q cell hq hc
theorem cx_P.setRow {G : cx_G} {ws : List cx_C} {H H' : Heap} {j g n k : Nat} {f : Nat → Nat → Int64} {r : Nat → Int64} (hG : cx_okG G) (hP : cx_P G ws H) (hj : ws[j]? = some (.inr (.inr (.inr (.inr (n, k, f)))))) (hg : g < n) (h' : H'[cx_rd G j g]? = some (arrV (cx_tc G 2) k (fun x => .long (r x)))) (hz : H'.size = H.size) (ho : ∀ q : Nat, q ≠ cx_rd G j g → H'[q]? = H[q]?) : cx_P G (ws.set j (.inr (.inr (.inr (.inr (n, k, va_up f g r)))))) H' := by
  obtain ⟨g1, g2, g3, g4, g5⟩ := hG
  obtain ⟨p1, p2, p3, p4⟩ := hP
  obtain ⟨hjN, a1, a2, a3⟩ := p1 j _ hj
  have hgl : g < cx_gl G j := Nat.lt_of_lt_of_le hg a1
  refine ⟨fun i c hc => ?_, by rw [hz]; exact p2, fun q hq => ?_, fun q cell hq hc => ?_⟩
  · by_cases e : i = j
    · subst e
      have hlt : i < ws.length := (List.getElem?_eq_some_iff.mp hj).1
      rw [List.getElem?_set_self hlt] at hc
      cases hc
      refine ⟨hjN, a1, (ho _ (g3 i i g hjN hgl)).trans a2, fun b hb => ?_⟩
      show H'[cx_rd G i b]? = some (arrV _ k (fun x => .long (va_up f g r b x)))
      by_cases eb : b = g
      · subst eb
        rw [va_up_self]
        exact h'
      · rw [va_up_ne _ _ eb, ho _ (fun h => eb (g2 i b i g (Nat.lt_of_lt_of_le hb a1) hgl h).2)]
        exact a3 b hb
    · rw [List.getElem?_set_ne (Ne.symm e)] at hc
      obtain ⟨q1, q2⟩ := p1 i c hc
      exact ⟨q1, q2.kept (ho _ (g3 i j g q1 hgl)) (fun b hb => ho _ (fun h => e (g2 i b j g hb hgl h).1))⟩
  · rw [ho q (fun h => by have := g5 j g hgl; omega)]
    exact p3 q hq
  · by_cases e : q = cx_rd G j g
    · subst e
      cases (show some _ = some cell from Eq.trans (Eq.symm h') hc)
      rfl
    · rw [ho q e] at hc
      exact p4 q cell hq hc
/-- the locals -/
def cx_has (G : cx_G) (ls : Array Slot) (nL : Nat) (lv : cx_L) : Prop := ls.size = nL ∧ lv_wf ls ∧ ∀ (i : Nat) (v : cx_V), lv[i]? = some (some v) → ls[i]? = some (.val (cx_v G v))
def cx_pr (G : cx_G) (lv : cx_L) (i : Nat) : Option (Nat × Value) := match lv[i]? with
  | some (some v) => some (i, cx_v G v)
  | _ => none
def cx_prs (G : cx_G) (lv : cx_L) : List (Nat × Value) := (List.range lv.length).filterMap (cx_pr G lv)
theorem cx_pr_some {G : cx_G} {lv : cx_L} {i : Nat} {q : Nat × Value} (h : cx_pr G lv i = some q) : ∃ v, lv[i]? = some (some v) ∧ q = (i, cx_v G v) := by
  unfold cx_pr at h
  split at h
  · rename_i v hv
    cases h
    exact ⟨v, hv, rfl⟩
  · cases h
theorem cx_prs_in {G : cx_G} {lv : cx_L} {i : Nat} {v : cx_V} (h : lv[i]? = some (some v)) : (i, cx_v G v) ∈ cx_prs G lv := by
  refine List.mem_filterMap.mpr ⟨i, List.mem_range.mpr (List.getElem?_eq_some_iff.mp h).1, ?_⟩
  unfold cx_pr
  rw [h]
theorem cx_has.lv {G : cx_G} {ls : Array Slot} {nL : Nat} {lv : cx_L} (h : cx_has G ls nL lv) : lv_has ls nL (cx_prs G lv) := by
  refine ⟨h.1, h.2.1, fun q hq => ?_⟩
  obtain ⟨i, -, hi⟩ := List.mem_filterMap.mp hq
  obtain ⟨v, hv, rfl⟩ := cx_pr_some hi
  exact h.2.2 i v hv
theorem cx_clob_get {lv : cx_L} {i t : Nat} {u : cx_V} (h : (cx_clob lv i)[t]? = some (some u)) : lv[t]? = some (some u) ∧ ¬ (t + 1 = i ∧ cx_wd u = true) := by
  unfold cx_clob at h
  split at h
  · exact ⟨h, fun q => by omega⟩
  · rename_i j
    split at h
    · rename_i w hw
      split at h
      · rename_i hwd
        by_cases e : t = j
        · subst e
          rw [List.getElem?_set_self (List.getElem?_eq_some_iff.mp hw).1] at h
          cases h
        · rw [List.getElem?_set_ne (Ne.symm e)] at h
          exact ⟨h, fun q => e (by omega)⟩
      · rename_i hwd
        refine ⟨h, fun q => ?_⟩
        have e : t = j := by omega
        subst e
        rw [hw] at h
        cases h
        rw [hwd] at q
        exact Bool.noConfusion q.2
    · rename_i hn
      refine ⟨h, fun q => ?_⟩
      have e : t = j := by omega
      subst e
      exact hn u h
theorem cx_put1_get {lv : cx_L} {i t : Nat} {v u : cx_V} (h : (cx_put1 lv i v)[t]? = some (some u)) : (t = i ∧ u = v) ∨ (t ≠ i ∧ lv[t]? = some (some u) ∧ ¬ (t + 1 = i ∧ cx_wd u = true)) := by
  unfold cx_put1 at h
  by_cases e : t = i
  · subst e
    by_cases hl : t < (cx_clob lv t).length
    · rw [List.getElem?_set_self hl] at h
      cases h
      exact Or.inl ⟨rfl, rfl⟩
    · rw [List.getElem?_eq_none (by rw [List.length_set]; omega)] at h
      cases h
  · rw [List.getElem?_set_ne (Ne.symm e)] at h
    exact Or.inr ⟨e, cx_clob_get h⟩
theorem cx_put2_get {lv : cx_L} {i t : Nat} {v u : cx_V} (h : (cx_put2 lv i v)[t]? = some (some u)) : (t = i ∧ u = v) ∨ (t ≠ i ∧ t ≠ i + 1 ∧ lv[t]? = some (some u) ∧ ¬ (t + 1 = i ∧ cx_wd u = true)) := by
  unfold cx_put2 at h
  by_cases e1 : t = i + 1
  · subst e1
    by_cases hl : i + 1 < ((cx_clob lv i).set i (some v)).length
    · rw [List.getElem?_set_self hl] at h
      cases h
    · rw [List.getElem?_eq_none (by rw [List.length_set]; omega)] at h
      cases h
  · rw [List.getElem?_set_ne (Ne.symm e1)] at h
    rcases cx_put1_get (lv := lv) (i := i) (v := v) h with q | ⟨q1, q2⟩
    · exact Or.inl q
    · exact Or.inr ⟨q1, e1, q2⟩
theorem cx_has.st1 {G : cx_G} {ls' : Array Slot} {nL : Nat} {lv : cx_L} {i : Nat} {v : cx_V} {w : Value} (hw : cx_v G v = w) (h : lv_has ls' nL ((i, w) :: (cx_prs G lv).filter (fun q => !(q.1 == i) && !(q.1 + 1 == i && q.2.category == 2)))) : cx_has G ls' nL (cx_put1 lv i v) := by
  subst hw
  refine ⟨h.1, h.2.1, fun t u ht => ?_⟩
  rcases cx_put1_get ht with ⟨rfl, rfl⟩ | ⟨q1, q2, q3⟩
  · exact h.2.2 _ List.mem_cons_self
  · refine h.2.2 (t, cx_v G u) (List.mem_cons_of_mem _ (List.mem_filter.mpr ⟨cx_prs_in q2, ?_⟩))
    simp only [cx_v_cat]
    simp only [Bool.and_eq_true, Bool.not_eq_true', beq_eq_false_iff_ne, ne_eq, Bool.and_eq_false_iff]
    refine ⟨q1, ?_⟩
    by_cases e : t + 1 = i
    · right
      cases hc : cx_wd u with
      | false => rfl
      | true => exact absurd ⟨e, hc⟩ q3
    · left
      exact e
theorem cx_has.st2 {G : cx_G} {ls' : Array Slot} {nL : Nat} {lv : cx_L} {i : Nat} {v : cx_V} {w : Value} (hw : cx_v G v = w) (h : lv_has ls' nL ((i, w) :: (cx_prs G lv).filter (fun q => !(q.1 == i) && (!(q.1 == i + 1) && !(q.1 + 1 == i && q.2.category == 2))))) : cx_has G ls' nL (cx_put2 lv i v) := by
  subst hw
  refine ⟨h.1, h.2.1, fun t u ht => ?_⟩
  rcases cx_put2_get ht with ⟨rfl, rfl⟩ | ⟨q1, q0, q2, q3⟩
  · exact h.2.2 _ List.mem_cons_self
  · refine h.2.2 (t, cx_v G u) (List.mem_cons_of_mem _ (List.mem_filter.mpr ⟨cx_prs_in q2, ?_⟩))
    simp only [cx_v_cat]
    simp only [Bool.and_eq_true, Bool.not_eq_true', beq_eq_false_iff_ne, ne_eq, Bool.and_eq_false_iff]
    refine ⟨q1, q0, ?_⟩
    by_cases e : t + 1 = i
    · right
      cases hc : cx_wd u with
      | false => rfl
      | true => exact absurd ⟨e, hc⟩ q3
    · left
      exact e
/-- the tables' words, kept by all that a run does to the tables -/
def cx_stB (w : Cond) : Bool := (w.onTables && w.keeps) || (match w with
  | .arrayClass _ => true
  | .fieldLinkNest _ _ _ _ _ _ => true
  | .methodLinkNest _ _ _ _ => true
  | .declares _ => true
  | .castable _ _ => true
  | _ => false)
theorem cx_stB_spec {w : Cond} (h : cx_stB w = true) {s U : State} (hW : s.WarmedH U.vm) {a a' : Array Value} (hb : w.before a s = true) : w.before a' U = true := by
  unfold cx_stB at h
  rw [Bool.or_eq_true] at h
  rcases h with h | h
  · exact word_at hW (Or.inl h) hb
  · split at h
    · exact word_at hW (Or.inr ⟨_, rfl⟩) hb
    · exact va_Nw.use rfl (va_Nw.warmF hW (va_Nw.of rfl hb))
    · exact va_Nw.use rfl (va_Nw.warmM hW (va_Nw.of rfl hb))
    · exact va_Nw.use rfl (va_Nw.warmD hW (va_Nw.of rfl hb))
    · exact va_Nw.use rfl (va_Nw.warmC hW (va_Nw.of rfl hb))
    · cases h
/-- what is known of a state's tables -/
def cx_Kn (Tb : List Cond) (G : cx_G) (U : State) : Prop := (∀ w ∈ Tb, ∀ a : Array Value, w.before a U = true) ∧ va_K (cx_D G) (cx_cl G) [] U ∧ ArrOfT U (cx_tc G 0) .int ∧ ArrOfT U (cx_tc G 1) .boolean ∧ ArrOfT U (cx_tc G 2) .long ∧ ArrOfT U (cx_tc G 3) (.array .long)
theorem cx_Kn.warm {Tb : List Cond} {G : cx_G} {u U : State} (hTb : Tb.all cx_stB = true) (hW : u.WarmedH U.vm) (h : cx_Kn Tb G u) : cx_Kn Tb G U := by
  obtain ⟨h1, h2, h3, h4, h5, h6⟩ := h
  exact ⟨fun w hw a => cx_stB_spec (List.all_eq_true.mp hTb w hw) hW (h1 w hw a), va_K.moved hW.alike h2, arrOfT_moved hW.alike h3, arrOfT_moved hW.alike h4, arrOfT_moved hW.alike h5, arrOfT_moved hW.alike h6⟩
end
section
/-! The abstract machine is sound over the rows of the kit. -/
theorem cx_ldi_spec {lv : cx_L} {a : Nat} {k : Int32 → Prop} (h : cx_ldi lv a k) : ∃ x, lv[a]? = some (some (.inl x)) ∧ k x := by
  unfold cx_ldi at h
  split at h
  · rename_i x hx
    exact ⟨x, hx, h⟩
  · exact h.elim
theorem cx_ldl_spec {lv : cx_L} {a : Nat} {k : Int64 → Prop} (h : cx_ldl lv a k) : ∃ x, lv[a]? = some (some (.inr (.inl x))) ∧ k x := by
  unfold cx_ldl at h
  split at h
  · rename_i x hx
    exact ⟨x, hx, h⟩
  · exact h.elim
theorem cx_lda_spec {lv : cx_L} {a : Nat} {k : cx_V → Prop} (h : cx_lda lv a k) : ∃ u, lv[a]? = some (some u) ∧ k u ∧ ∀ G, ∃ y, cx_v G u = .ref y := by
  unfold cx_lda at h
  split at h
  · rename_i x hx
    exact ⟨_, hx, h, fun G => ⟨_, rfl⟩⟩
  · rename_i x hx
    exact ⟨_, hx, h, fun G => ⟨_, rfl⟩⟩
  · exact h.elim
theorem cx_i1_spec {st : List cx_V} {k : Int32 → List cx_V → Prop} (h : cx_i1 st k) : ∃ x r, st = .inl x :: r ∧ k x r := by
  unfold cx_i1 at h
  split at h
  · exact ⟨_, _, rfl, h⟩
  · exact h.elim
theorem cx_l1_spec {st : List cx_V} {k : Int64 → List cx_V → Prop} (h : cx_l1 st k) : ∃ x r, st = .inr (.inl x) :: r ∧ k x r := by
  unfold cx_l1 at h
  split at h
  · exact ⟨_, _, rfl, h⟩
  · exact h.elim
theorem cx_ii_spec {st : List cx_V} {k : Int32 → Int32 → List cx_V → Prop} (h : cx_ii st k) : ∃ x y r, st = .inl y :: .inl x :: r ∧ k x y r := by
  unfold cx_ii at h
  split at h
  · exact ⟨_, _, _, rfl, h⟩
  · exact h.elim
theorem cx_ll_spec {st : List cx_V} {k : Int64 → Int64 → List cx_V → Prop} (h : cx_ll st k) : ∃ x y r, st = .inr (.inl y) :: .inr (.inl x) :: r ∧ k x y r := by
  unfold cx_ll at h
  split at h
  · exact ⟨_, _, _, rfl, h⟩
  · exact h.elim
theorem cx_li_spec {st : List cx_V} {k : Int64 → Int32 → List cx_V → Prop} (h : cx_li st k) : ∃ x y r, st = .inl y :: .inr (.inl x) :: r ∧ k x y r := by
  unfold cx_li at h
  split at h
  · exact ⟨_, _, _, rfl, h⟩
  · exact h.elim
theorem cx_a1_spec {st : List cx_V} {k : cx_V → List cx_V → Prop} (h : cx_a1 st k) : ∃ u r, st = u :: r ∧ k u r ∧ ∀ G, ∃ y, cx_v G u = .ref y := by
  unfold cx_a1 at h
  split at h
  · exact ⟨_, _, rfl, h, fun G => ⟨_, rfl⟩⟩
  · exact ⟨_, _, rfl, h, fun G => ⟨_, rfl⟩⟩
  · exact h.elim
theorem cx_obj_spec {ws : List cx_C} {j ci : Nat} {k : List cx_V → Prop} (h : cx_obj ws j ci k) : ∃ fs, ws[j]? = some (.inl (ci, fs)) ∧ k fs := by
  unfold cx_obj at h
  split at h
  · rename_i o ho
    split at h
    · rename_i hb
      have e : o.1 = ci := Nat.eq_of_beq_eq_true hb
      refine ⟨o.2, ?_, h⟩
      rw [ho, ← e]
    · exact h.elim
  · exact h.elim
theorem cx_fld_spec {fs : List cx_V} {b : Nat} {k : cx_V → Prop} (h : cx_fld fs b k) : ∃ u, fs[b]? = some u ∧ k u := by
  unfold cx_fld at h
  split at h
  · rename_i u hu
    exact ⟨u, hu, h⟩
  · exact h.elim
theorem cx_p1_spec {st : List cx_V} {k : Nat → List cx_V → Prop} (h : cx_p1 st k) : ∃ j r, st = .inr (.inr (.inl j)) :: r ∧ k j r := by
  unfold cx_p1 at h
  split at h
  · exact ⟨_, _, rfl, h⟩
  · exact h.elim
theorem cx_pu_spec {st : List cx_V} {k : cx_V → Nat → List cx_V → Prop} (h : cx_pu st k) : ∃ u j r, st = u :: .inr (.inr (.inl j)) :: r ∧ k u j r := by
  unfold cx_pu at h
  split at h
  · exact ⟨_, _, _, rfl, h⟩
  · exact h.elim
theorem cx_pi_spec {st : List cx_V} {k : Int32 → Nat → List cx_V → Prop} (h : cx_pi st k) : ∃ x j r, st = .inl x :: .inr (.inr (.inl j)) :: r ∧ k x j r := by
  unfold cx_pi at h
  split at h
  · exact ⟨_, _, _, rfl, h⟩
  · exact h.elim
theorem cx_pii_spec {st : List cx_V} {k : Int32 → Int32 → Nat → List cx_V → Prop} (h : cx_pii st k) : ∃ y x j r, st = .inl y :: .inl x :: .inr (.inr (.inl j)) :: r ∧ k y x j r := by
  unfold cx_pii at h
  split at h
  · exact ⟨_, _, _, _, rfl, h⟩
  · exact h.elim
theorem cx_pig_spec {st : List cx_V} {k1 : Int32 → Nat → List cx_V → Prop} {k2 : Int32 → Nat → Nat → List cx_V → Prop} (h : cx_pig st k1 k2) : (∃ x j r, st = .inl x :: .inr (.inr (.inl j)) :: r ∧ k1 x j r) ∨ (∃ x j g r, st = .inl x :: .inr (.inr (.inr (.inl (j, g)))) :: r ∧ k2 x j g r) := by
  unfold cx_pig at h
  split at h
  · exact Or.inl ⟨_, _, _, rfl, h⟩
  · exact Or.inr ⟨_, _, _, _, rfl, h⟩
  · exact h.elim
theorem cx_ints_spec {ws : List cx_C} {j : Nat} {k : Nat → (Nat → Int32) → Prop} (h : cx_ints ws j k) : ∃ n f, ws[j]? = some (.inr (.inl (n, f))) ∧ k n f := by
  unfold cx_ints at h
  split at h
  · rename_i q hq
    exact ⟨q.1, q.2, hq, h⟩
  · exact h.elim
theorem cx_bools_spec {ws : List cx_C} {j : Nat} {k : Nat → (Nat → Int32) → Prop} (h : cx_bools ws j k) : ∃ n f, ws[j]? = some (.inr (.inr (.inl (n, f)))) ∧ k n f := by
  unfold cx_bools at h
  split at h
  · rename_i q hq
    exact ⟨q.1, q.2, hq, h⟩
  · exact h.elim
theorem cx_longs_spec {ws : List cx_C} {j : Nat} {k : Nat → (Nat → Int64) → Prop} (h : cx_longs ws j k) : ∃ n f, ws[j]? = some (.inr (.inr (.inr (.inl (n, f))))) ∧ k n f := by
  unfold cx_longs at h
  split at h
  · rename_i q hq
    exact ⟨q.1, q.2, hq, h⟩
  · exact h.elim
theorem cx_grid_spec {ws : List cx_C} {j : Nat} {k : Nat → Nat → (Nat → Nat → Int64) → Prop} (h : cx_grid ws j k) : ∃ n z f, ws[j]? = some (.inr (.inr (.inr (.inr (n, z, f))))) ∧ k n z f := by
  unfold cx_grid at h
  split at h
  · rename_i q hq
    exact ⟨q.1, q.2.1, q.2.2, hq, h⟩
  · exact h.elim
theorem cx_u1_spec {st : List cx_V} {k : cx_V → List cx_V → Prop} (h : cx_u1 st k) : ∃ u r, st = u :: r ∧ cx_wd u = false ∧ k u r := by
  unfold cx_u1 at h
  split at h
  · split at h
    · exact h.elim
    · rename_i hw
      exact ⟨_, _, rfl, hw, h⟩
  · exact h.elim
theorem cx_sw_spec {Sw : List (Nat × List Nat)} {a : Nat} {k : Nat → List Nat → Prop} (h : cx_sw Sw a k) : ∃ d ts, Sw[a]? = some (d, ts) ∧ k d ts := by
  unfold cx_sw at h
  split at h
  · rename_i q hq
    exact ⟨q.1, q.2, hq, h⟩
  · exact h.elim
theorem cx_ir_spec {st : List cx_V} {k : Int32 → Prop} (h : cx_ir st k) : ∃ x, st = [.inl x] ∧ k x := by
  unfold cx_ir at h
  split at h
  · exact ⟨_, rfl, h⟩
  · exact h.elim
theorem cx_ar_spec {st : List cx_V} {k : cx_V → Prop} (h : cx_ar st k) : ∃ u, st = [u] ∧ k u ∧ ∀ G, ∃ y, cx_v G u = .ref y := by
  unfold cx_ar at h
  split at h
  · exact ⟨_, rfl, h, fun G => ⟨_, rfl⟩⟩
  · exact ⟨_, rfl, h, fun G => ⟨_, rfl⟩⟩
  · exact h.elim
theorem cx_vr_spec {st : List cx_V} {k : Prop} (h : cx_vr st k) : st = [] ∧ k := by
  unfold cx_vr at h
  split at h
  · exact ⟨rfl, h⟩
  · exact h.elim
theorem cx_go_spec {Sp : List (cx_S × Nat × Nat × Nat)} {a mc ms : Nat} {st : List cx_V} {c s : Nat} {k : cx_S → Nat → Nat → Nat → Prop} (h : cx_go Sp a mc ms st c s k) : ∃ f n kc ks, Sp[a]? = some (f, n, kc, ks) ∧ c + kc ≤ mc ∧ s + ks ≤ ms ∧ n ≤ st.length ∧ cx_cats (st.drop n) ≤ 8 ∧ k f n kc ks := by
  unfold cx_go at h
  split at h
  · rename_i q hq
    split at h
    · rename_i hb
      simp only [Bool.and_eq_true] at hb
      exact ⟨q.1, q.2.1, q.2.2.1, q.2.2.2, hq, Nat.le_of_ble_eq_true hb.1, Nat.le_of_ble_eq_true hb.2.1, Nat.le_of_ble_eq_true hb.2.2.1, Nat.le_of_ble_eq_true hb.2.2.2, h⟩
    · exact h.elim
  · exact h.elim
theorem cx_thr_spec {Ex : List String} {a mc ms c s : Nat} {k : String → Prop} (h : cx_thr Ex a mc ms c s k) : ∃ x, Ex[a]? = some x ∧ c + 1 ≤ mc ∧ s + 6 ≤ ms ∧ k x := by
  unfold cx_thr at h
  split at h
  · rename_i x hx
    split at h
    · rename_i hb
      simp only [Bool.and_eq_true] at hb
      exact ⟨x, hx, Nat.le_of_ble_eq_true hb.1, Nat.le_of_ble_eq_true hb.2, h⟩
    · exact h.elim
  · exact h.elim
theorem cx_swl_spec {x : Int32} {J : Nat → Prop} : ∀ {ts : List Nat} {k : Nat}, cx_swl x k ts J → ∀ (i t : Nat), ts[i]? = some t → x = nI (k + i) → J t
  | [], _, _, i, t, ht, _ => by simp at ht
  | t0 :: r, k, h, i, t, ht, hx => by
    unfold cx_swl at h
    cases i with
    | zero =>
      simp at ht
      subst ht
      exact h.1 hx
    | succ i =>
      simp at ht
      exact cx_swl_spec h.2 i t ht (by rw [hx]; congr 1; omega)
def cx_len (en : cx_E) : Nat := match en with
  | (i, _, _, _, b) => match i with
    | .bipush _ => 2
    | .iload _ => 2
    | .lload _ => 2
    | .aload _ => 2
    | .istore _ => 2
    | .lstore _ => 2
    | .astore _ => 2
    | .sipush _ => 3
    | .ldc2_w _ => 3
    | .iinc _ _ => 3
    | .ifCond _ _ => 3
    | .if_icmp _ _ => 3
    | .goto _ => 3
    | .getfield _ => 3
    | .putfield _ => 3
    | .invokevirtual _ => 3
    | .invokestatic _ => 3
    | .new _ => 3
    | .tableswitch _ _ _ _ => b
    | _ => 1
/-- what a program checks of an entry -/
def cx_side (wr : Bool) (rt : Option FieldType) (nL : Nat) (F : List (Nat × Nat × Nat)) (FP : List (Nat × Nat × Nat × Int32)) (LC : List (Nat × Int64)) (CV CS : List (Nat × Nat)) (TH : List (Nat × Nat)) (Sw : List (Nat × List Nat)) (pc : Nat) (en : cx_E) : Bool := match en with
  | (i, v, w, a, b) => match i with
    | .iconst z => decide (Int32.ofInt z = v)
    | .bipush z => decide ((Int8.ofInt z).toInt32 = v)
    | .sipush z => decide ((Int16.ofInt z).toInt32 = v)
    | .lconst z => decide (Int64.ofNat z.val = w)
    | .ldc2_w z => decide ((z, w) ∈ LC)
    | .iload_n z => decide (z.val = a)
    | .iload z => decide (z = a)
    | .lload_n z => decide (z.val = a)
    | .lload z => decide (z = a)
    | .aload_n z => decide (z.val = a)
    | .aload z => decide (z = a)
    | .istore_n z => decide (z.val = a ∧ a < nL)
    | .istore z => decide (z = a ∧ a < nL)
    | .lstore_n z => decide (z.val = a ∧ a + 1 < nL)
    | .lstore z => decide (z = a ∧ a + 1 < nL)
    | .astore_n z => decide (z.val = a ∧ a < nL)
    | .astore z => decide (z = a ∧ a < nL)
    | .iinc z y => decide (z = a ∧ a < nL ∧ Int32.ofInt y = v)
    | .ifCond _ o => decide ((pc : Int) + o = (a : Int))
    | .if_icmp _ o => decide ((pc : Int) + o = (a : Int))
    | .goto o => decide ((pc : Int) + o = (a : Int))
    | .getfield z => decide ((z, a, b) ∈ F)
    | .putfield z => decide ((z, a, b, v) ∈ FP) && wr
    | .iastore => wr
    | .bastore => wr
    | .lastore => wr
    | .tableswitch d lo hi offs => (match Sw[a]? with
      | some (dt, ts) => decide (((pc : Int) + d = (dt : Int) ∧ lo = 0 ∧ hi + 1 = (ts.length : Int)) ∧ offs.toList.map (fun o => (pc : Int) + o) = ts.map (fun t : Nat => (t : Int)))
      | none => false)
    | .ireturn => decide (rt = some .int ∨ (rt = some .boolean ∧ v = 1))
    | .areturn => (match rt with
      | some (.array _) => true
      | some (.object _) => true
      | _ => false)
    | .return_ => decide (rt = none)
    | .invokevirtual z => decide ((z, a) ∈ CV)
    | .invokestatic z => decide ((z, a) ∈ CS)
    | .new _ => decide ((pc, a) ∈ TH)
    | _ => true
def cx_dec (wr : Bool) (cc : ByteArray) (rt : Option FieldType) (nL : Nat) (F : List (Nat × Nat × Nat)) (FP : List (Nat × Nat × Nat × Int32)) (LC : List (Nat × Int64)) (CV CS : List (Nat × Nat)) (TH : List (Nat × Nat)) (Sw : List (Nat × List Nat)) (q : Nat × cx_E) : Bool := match decode cc q.1 with
  | .ok x => decide (x.1 = q.2.1) && (decide (x.2 = cx_len q.2) && cx_side wr rt nL F FP LC CV CS TH Sw q.1 q.2)
  | _ => false
theorem cx_dec_spec {wr : Bool} {cc : ByteArray} {rt : Option FieldType} {nL : Nat} {F : List (Nat × Nat × Nat)} {FP : List (Nat × Nat × Nat × Int32)} {LC : List (Nat × Int64)} {CV CS : List (Nat × Nat)} {TH : List (Nat × Nat)} {Sw : List (Nat × List Nat)} {q : Nat × cx_E} (h : cx_dec wr cc rt nL F FP LC CV CS TH Sw q = true) : decode cc q.1 = .ok (q.2.1, cx_len q.2) ∧ cx_side wr rt nL F FP LC CV CS TH Sw q.1 q.2 = true := by
  unfold cx_dec at h
  split at h
  · rename_i x hx
    simp only [Bool.and_eq_true, decide_eq_true_eq] at h
    obtain ⟨x1, x2⟩ := x
    obtain ⟨h1, h2, h3⟩ := h
    dsimp only at h1 h2
    subst h1; subst h2
    exact ⟨hx, h3⟩
  · cases h
/-- a method's end -/
def cx_out (G : cx_G) (s : State) (q : cx_O) (o : Outcome) (t : State) : Prop := match q with
  | .inl none => o = .returned none
  | .inl (some u) => o = .returned (some (cx_v G u))
  | .inr x => ∃ (a : Addr) (cell : Cell), o = .threw a ∧ t.heap[a]? = some cell ∧ s.vm.findClass x = some cell.cls ∧ cell.vm = .none
def cx_Q (below : List Frame) (G : cx_G) (s : State) (mc ms : Nat) (Rq : cx_R) : State → Prop := fun t => ∃ (o : Outcome) (q : cx_O) (ws : List cx_C), t.status = .running ∧ Ended t below o ∧ Rq q ws ∧ cx_out G s q o t ∧ cx_P G ws t.heap ∧ s.WarmedH t.vm ∧ ∃ L : List Loc, s.sameButNew ({ t with vm := s.vm } : State) L mc ms ∧ ∀ q ∈ L, (cx_H0 G).size ≤ q.base
section CXS
variable {p : Program} {l : Launch} {e : Env} {R : Room} {s : State} {m : MethodId} {args : Array Value} {below : List Frame} {meth : Method} {c : Code} {Q : State → Prop} {G : cx_G} {nL mc ms : Nat} {cc : ByteArray} {Tb : List Cond} {Rq : cx_R}
/-- how a world stands on the heap during a walk: cells and slots made, the heap, the slots written -/
abbrev cx_F : Type := List cx_C → Nat → Nat → Heap → List Loc → Prop
/-- any walk -/
def cx_F1 (G : cx_G) (mc ms : Nat) : cx_F := fun ws k n H locs => cx_P G ws H ∧ (k ≤ mc ∧ n ≤ ms) ∧ ∀ q ∈ locs, (cx_H0 G).size ≤ q.base
/-- a walk that has changed nothing -/
def cx_F2 (G : cx_G) (mc ms : Nat) (s : State) : cx_F := fun ws k n H locs => cx_P G ws H ∧ (k = 0 ∧ n = 0) ∧ H = s.heap ∧ locs = []
def cx_AW (p : Program) (l : Launch) (e : Env) (R : Room) (s : State) (m : MethodId) (args : Array Value) (below : List Frame) (meth : Method) (c : Code) (G : cx_G) (nL : Nat) (F : cx_F) (Q : State → Prop) : cx_K := fun pc lv st ws k n =>
  ∀ (H : Heap) (locs : List Loc) (ls : Array Slot), F ws k n H locs → cx_has G ls nL lv → W p l e R s m args below meth c H locs k n Q (F0 m pc ls (st.map (cx_v G)))
theorem cx_mono {Q' : State → Prop} {H : Heap} {locs : List Loc} {k n : Nat} {g : JFrame} (h : ∀ t, Q t → Q' t) (w : W p l e R s m args below meth c H locs k n Q g) : W p l e R s m args below meth c H locs k n Q' g := fun T hT X => by
  obtain ⟨t, a, b⟩ := w T hT X
  exact ⟨t, a, h t b⟩
theorem cx_fin {H : Heap} {locs : List Loc} {ws : List cx_C} {u : Option cx_V} {t : State} (hP : cx_P G ws H) (hq : Rq (.inl u) ws)
    (h : MQ below (fun _ _ o t => o = .returned (u.map (cx_v G)) ∧ t.heap = H) args s mc ms (fun q => (cx_H0 G).size ≤ q) t) : cx_Q below G s mc ms Rq t := by
  obtain ⟨o, q1, q2, ⟨q3, q4⟩, L, ⟨-, q5, q6⟩, q7⟩ := h
  refine ⟨o, .inl u, ws, q1, q2, hq, ?_, by rw [q4]; exact hP, q5, L, q6, q7⟩
  cases u with
  | none => exact q3
  | some u => exact q3
/-- getfield, putfield by the place of the field -/
def cx_okget (p : Program) (l : Launch) (e : Env) (R : Room) (s : State) (m : MethodId) (args : Array Value) (below : List Frame) (meth : Method) (c : Code) (cc : ByteArray) (G : cx_G) (Q : State → Prop) (z ci b : Nat) : Prop :=
  ∀ (pc : Nat) (H : Heap) (locs : List Loc) (k n : Nat) (ls : Array Slot) (rest : List Value) (a : Nat) (fs : List Value) (v : Value), decode cc pc = .ok (.getfield z, 3) → va_at (cx_D G) (cx_cl G) (a, .inr (ci, fs)) H → fs[b]? = some v →
    W p l e R s m args below meth c H locs k n Q (F0 m (pc + 3) ls (v :: rest)) → W p l e R s m args below meth c H locs k n Q (F0 m pc ls (.ref a :: rest))
def cx_takes (fl : Int32) (v : Value) : Prop := (fl = 0 ∧ ∃ x, v = .int x) ∨ (fl = 1 ∧ ∃ x, v = .int x ∧ (x = 0 ∨ x = 1)) ∨ (fl = 2 ∧ ∃ y, v = .ref y)
def cx_okput (p : Program) (l : Launch) (e : Env) (R : Room) (s : State) (m : MethodId) (args : Array Value) (below : List Frame) (meth : Method) (c : Code) (cc : ByteArray) (G : cx_G) (Q : State → Prop) (z ci b : Nat) (fl : Int32) : Prop :=
  ∀ (pc : Nat) (H : Heap) (locs : List Loc) (k n : Nat) (ls : Array Slot) (rest : List Value) (a : Nat) (fs : List Value) (v : Value), decode cc pc = .ok (.putfield z, 3) → va_at (cx_D G) (cx_cl G) (a, .inr (ci, fs)) H → b < fs.length → cx_takes fl v →
    (∀ (H' : Heap) (i : Nat), va_at (cx_D G) (cx_cl G) (a, .inr (ci, fs.set b v)) H' → H'.size = H.size → (∀ q : Nat, q ≠ a → H'[q]? = H[q]?) → W p l e R s m args below meth c H' (locs ++ [⟨a, i⟩]) k n Q (F0 m (pc + 3) ls rest)) →
    W p l e R s m args below meth c H locs k n Q (F0 m pc ls (v :: .ref a :: rest))
/-- a call by its contract -/
def cx_okcall (p : Program) (l : Launch) (e : Env) (R : Room) (s : State) (m : MethodId) (args : Array Value) (below : List Frame) (meth : Method) (c : Code) (cc : ByteArray) (G : cx_G) (nL mc ms : Nat) (F : cx_F) (Rq : cx_R) (i : Instr) (f : cx_S) (na kc ks : Nat) : Prop :=
  ∀ (pc : Nat) (H : Heap) (locs : List Loc) (k n : Nat) (ls : Array Slot) (as rest : List cx_V) (ws : List cx_C) (Rf : cx_R), decode cc pc = .ok (i, 3) → as.length = na → cx_cats rest ≤ 8 → k + kc ≤ mc → n + ks ≤ ms → F ws k n H locs → ls.size = nL → f as ws Rf →
    (∀ (x : String) (ws' : List cx_C), Rf (.inr x) ws' → Rq (.inr x) ws') →
    (∀ (u : Option cx_V) (ws' : List cx_C) (H' : Heap) (locs' : List Loc), Rf (.inl u) ws' → F ws' (k + kc) (n + ks) H' locs' → W p l e R s m args below meth c H' locs' (k + kc) (n + ks) (cx_Q below G s mc ms Rq) (F0 m (pc + 3) ls (u.toList.map (cx_v G) ++ rest.map (cx_v G)))) →
    W p l e R s m args below meth c H locs k n (cx_Q below G s mc ms Rq) (F0 m pc ls ((as.reverse ++ rest).map (cx_v G)))
/-- new X; dup; ldc; invokespecial; athrow -/
def cx_okthr (p : Program) (l : Launch) (e : Env) (R : Room) (s : State) (m : MethodId) (args : Array Value) (below : List Frame) (meth : Method) (c : Code) (G : cx_G) (nL mc ms : Nat) (F : cx_F) (Rq : cx_R) (pc : Nat) (x : String) : Prop :=
  ∀ (H : Heap) (locs : List Loc) (k n : Nat) (ls : Array Slot) (st : List cx_V) (ws : List cx_C), k + 1 ≤ mc → n + 6 ≤ ms → F ws k n H locs → ls.size = nL → Rq (.inr x) ws →
    W p l e R s m args below meth c H locs k n (cx_Q below G s mc ms Rq) (F0 m pc ls (st.map (cx_v G)))
theorem cx_locs {locs : List Loc} {a i : Nat} {z : Nat} (h : ∀ q ∈ locs, z ≤ q.base) (ha : z ≤ a) : ∀ q ∈ locs ++ [⟨a, i⟩], z ≤ q.base := by
  intro q hq
  rcases List.mem_append.mp hq with h1 | h1
  · exact h q h1
  · rw [List.mem_singleton.mp h1]
    exact ha
theorem cx_fits_takes {fl : Int32} {u : cx_V} (h : cx_fits fl u) : cx_takes fl (cx_v G u) := by
  unfold cx_fits at h
  split at h
  · rename_i x
    rcases h with h | ⟨h1, h2⟩
    · exact Or.inl ⟨h, x, rfl⟩
    · exact Or.inr (Or.inl ⟨h1, x, rfl, h2⟩)
  · exact Or.inr (Or.inr ⟨h, _, rfl⟩)
  · exact h.elim
theorem cx_nar01 {y : Int32} (h : y = 0 ∨ y = 1) : narrow .boolean (.int y) = .int y := by
  rcases h with rfl | rfl <;> decide
theorem cx_arrI {cA : ClassId} {n : Nat} {f : Nat → Int32} {i : Nat} {y : Int32} : (arrV cA n (fun j => .int (f j))).setSlot i (.int y) = arrV cA n (fun j => .int (upd f i y j)) := by
  rw [arrV_store]
  congr 2
  funext q
  by_cases h : q = i <;> simp [updV, upd, h]
theorem cx_arrL {cA : ClassId} {n : Nat} {f : Nat → Int64} {i : Nat} {y : Int64} : (arrV cA n (fun j => .long (f j))).setSlot i (.long y) = arrV cA n (fun j => .long (vp_updL f i y j)) := by
  rw [arrV_store]
  congr 2
  funext q
  by_cases h : q = i <;> simp [updV, vp_updL, h]
theorem cx_inA {cA : ClassId} {n : Nat} {f : Nat → Value} {x : Int32} (h : vp_in x n) : ¬ (x < 0 ∨ (arrV cA n f).slots.size ≤ x.toNatClampNeg) := by
  rw [arrV_size]
  exact h
theorem cx_rdA {cA : ClassId} {n : Nat} {f : Nat → Value} {x : Int32} (h : vp_in x n) : (arrV cA n f).slots[x.toNatClampNeg]? = some (f x.toNatClampNeg) := arrV_read _ _ (Nat.not_le.mp fun q => h (Or.inr q))
end CXS
end
section
section CXT
variable {p : Program} {l : Launch} {e : Env} {R : Room} {s : State} {m : MethodId} {args : Array Value} {below : List Frame} {meth : Method} {c : Code} {G : cx_G} {nL mc ms : Nat} {cc : ByteArray} {Tb : List Cond} {Rq : cx_R}
set_option maxHeartbeats 4000000 in
set_option maxRecDepth 100000 in
theorem cx_s1 {wr : Bool} {F0c : cx_F} {own : String} {rt : Option FieldType} {F : List (Nat × Nat × Nat)} {FP : List (Nat × Nat × Nat × Int32)} {LC : List (Nat × Int64)} {CV CS : List (Nat × Nat)} {TH : List (Nat × Nat)} {Sp : List (cx_S × Nat × Nat × Nat)} {Ex : List String} {Sw : List (Nat × List Nat)}
    (hx : p.tables.exec = Jvm.exec) (hb : c.code = cc) (hG : cx_okG G) (hKn : cx_Kn Tb G s) (hlocks : meth.locks = false) (hr : meth.sig.returnType = rt) (hown : s.vm.findClass own = some m.cls)
    (hFP : ∀ ws k n H locs, F0c ws k n H locs → cx_P G ws H ∧ (k ≤ mc ∧ n ≤ ms) ∧ ∀ q ∈ locs, (cx_H0 G).size ≤ q.base)
    (hFw : wr = true → ∀ (ws ws' : List cx_C) (k n : Nat) (H H' : Heap) (locs : List Loc) (a i : Nat), F0c ws k n H locs → cx_P G ws' H' → (cx_H0 G).size ≤ a → F0c ws' k n H' (locs ++ [⟨a, i⟩]))
    (okF : ∀ q ∈ F, cx_okget p l e R s m args below meth c cc G (cx_Q below G s mc ms Rq) q.1 q.2.1 q.2.2)
    (okP : ∀ q ∈ FP, cx_okput p l e R s m args below meth c cc G (cx_Q below G s mc ms Rq) q.1 q.2.1 q.2.2.1 q.2.2.2)
    (okL : ∀ q ∈ LC, (Jvm.Cond.constantLong own q.1 q.2).before args s = true)
    (okV : ∀ q ∈ CV, ∀ f na kc ks, Sp[q.2]? = some (f, na, kc, ks) → cx_okcall p l e R s m args below meth c cc G nL mc ms F0c Rq (.invokevirtual q.1) f na kc ks)
    (okS : ∀ q ∈ CS, ∀ f na kc ks, Sp[q.2]? = some (f, na, kc, ks) → cx_okcall p l e R s m args below meth c cc G nL mc ms F0c Rq (.invokestatic q.1) f na kc ks)
    (okT : ∀ q ∈ TH, ∀ x, Ex[q.2]? = some x → cx_okthr p l e R s m args below meth c G nL mc ms F0c Rq q.1 x)
    {en : cx_E} {pc : Nat} {lv : cx_L} {st : List cx_V} {ws : List cx_C} {k n : Nat} {K : cx_K}
    (hd : decode cc pc = .ok (en.1, cx_len en)) (hs : cx_side wr rt nL F FP LC CV CS TH Sw pc en = true)
    (hK : ∀ pc lv st ws k n, K pc lv st ws k n → cx_AW p l e R s m args below meth c G nL F0c (cx_Q below G s mc ms Rq) pc lv st ws k n)
    (h : cx_1 Sp Ex Sw mc ms en pc lv st ws k n K Rq) : cx_AW p l e R s m args below meth c G nL F0c (cx_Q below G s mc ms Rq) pc lv st ws k n := by
  intro H locs ls hF hl
  obtain ⟨hP, ⟨hk, hn⟩, hL⟩ := hFP _ _ _ _ _ hF
  obtain ⟨i, v, w, a, b⟩ := en
  cases i with
  | iconst z =>
    dsimp only [cx_1] at h
    have hs : Int32.ofInt z = v := of_decide_eq_true hs
    exact lv_iconst hx hb hd hs (hK _ _ _ _ _ _ h H locs ls hF hl)
  | bipush z =>
    dsimp only [cx_1] at h
    have hs : (Int8.ofInt z).toInt32 = v := of_decide_eq_true hs
    exact lv_bipush hx hb hd hs (hK _ _ _ _ _ _ h H locs ls hF hl)
  | sipush z =>
    dsimp only [cx_1] at h
    have hs : (Int16.ofInt z).toInt32 = v := of_decide_eq_true hs
    exact lv_sipush hx hb hd hs (hK _ _ _ _ _ _ h H locs ls hF hl)
  | lconst z =>
    dsimp only [cx_1] at h
    have hs : Int64.ofNat z.val = w := of_decide_eq_true hs
    exact lv_lconst hx hb hd hs (hK _ _ _ _ _ _ h H locs ls hF hl)
  | ldc2_w z =>
    dsimp only [cx_1] at h
    have hs : (z, w) ∈ LC := of_decide_eq_true hs
    exact lv_ldc2 hx hb hown (okL _ hs) hd (hK _ _ _ _ _ _ h H locs ls hF hl)
  | iload_n z =>
    dsimp only [cx_1] at h
    have hs : z.val = a := of_decide_eq_true hs
    obtain ⟨x, h1, hz1⟩ := cx_ldi_spec h
    exact lv_iload_n hx hb hd hs (hl.2.2 _ _ h1) (hK _ _ _ _ _ _ hz1 H locs ls hF hl)
  | iload z =>
    dsimp only [cx_1] at h
    have hs : z = a := of_decide_eq_true hs
    subst hs
    obtain ⟨x, h1, hz1⟩ := cx_ldi_spec h
    exact lv_iload hx hb hd (hl.2.2 _ _ h1) (hK _ _ _ _ _ _ hz1 H locs ls hF hl)
  | lload_n z =>
    dsimp only [cx_1] at h
    have hs : z.val = a := of_decide_eq_true hs
    obtain ⟨x, h1, hz1⟩ := cx_ldl_spec h
    exact lv_lload_n hx hb hd hs (hl.2.2 _ _ h1) (hK _ _ _ _ _ _ hz1 H locs ls hF hl)
  | lload z =>
    dsimp only [cx_1] at h
    have hs : z = a := of_decide_eq_true hs
    subst hs
    obtain ⟨x, h1, hz1⟩ := cx_ldl_spec h
    exact lv_lload hx hb hd (hl.2.2 _ _ h1) (hK _ _ _ _ _ _ hz1 H locs ls hF hl)
  | aload_n z =>
    dsimp only [cx_1] at h
    have hs : z.val = a := of_decide_eq_true hs
    obtain ⟨u, h1, hz1, h2⟩ := cx_lda_spec h
    obtain ⟨y, hy⟩ := h2 G
    have h3 := hl.2.2 _ _ h1
    have h4 := hK _ _ _ _ _ _ hz1 H locs ls hF hl
    rw [List.map_cons, hy] at h4
    rw [hy] at h3
    exact lv_aload_n hx hb hd hs h3 h4
  | aload z =>
    dsimp only [cx_1] at h
    have hs : z = a := of_decide_eq_true hs
    subst hs
    obtain ⟨u, h1, hz1, h2⟩ := cx_lda_spec h
    obtain ⟨y, hy⟩ := h2 G
    have h3 := hl.2.2 _ _ h1
    have h4 := hK _ _ _ _ _ _ hz1 H locs ls hF hl
    rw [List.map_cons, hy] at h4
    rw [hy] at h3
    exact lv_aload hx hb hd h3 h4
  | istore_n z =>
    dsimp only [cx_1] at h
    have hs : z.val = a ∧ a < nL := of_decide_eq_true hs
    obtain ⟨x, r, rfl, hz1⟩ := cx_i1_spec h
    exact lv_istore_n hx hb hd hs.1 hl.lv hs.2 rfl (fun ls' h' => hK _ _ _ _ _ _ hz1 H locs ls' hF (cx_has.st1 rfl h'))
  | istore z =>
    dsimp only [cx_1] at h
    have hs : z = a ∧ a < nL := of_decide_eq_true hs
    obtain ⟨rfl, hs⟩ := hs
    obtain ⟨x, r, rfl, hz1⟩ := cx_i1_spec h
    exact lv_istore hx hb hd hl.lv hs rfl (fun ls' h' => hK _ _ _ _ _ _ hz1 H locs ls' hF (cx_has.st1 rfl h'))
  | lstore_n z =>
    dsimp only [cx_1] at h
    have hs : z.val = a ∧ a + 1 < nL := of_decide_eq_true hs
    obtain ⟨x, r, rfl, hz1⟩ := cx_l1_spec h
    exact lv_lstore_n hx hb hd hs.1 hl.lv hs.2 rfl (fun ls' h' => hK _ _ _ _ _ _ hz1 H locs ls' hF (cx_has.st2 rfl h'))
  | lstore z =>
    dsimp only [cx_1] at h
    have hs : z = a ∧ a + 1 < nL := of_decide_eq_true hs
    obtain ⟨rfl, hs⟩ := hs
    obtain ⟨x, r, rfl, hz1⟩ := cx_l1_spec h
    exact lv_lstore hx hb hd hl.lv hs rfl (fun ls' h' => hK _ _ _ _ _ _ hz1 H locs ls' hF (cx_has.st2 rfl h'))
  | astore_n z =>
    dsimp only [cx_1] at h
    have hs : z.val = a ∧ a < nL := of_decide_eq_true hs
    obtain ⟨u, r, rfl, hz1, h2⟩ := cx_a1_spec h
    obtain ⟨y, hy⟩ := h2 G
    rw [List.map_cons, hy]
    exact lv_astore_n hx hb hd hs.1 hl.lv hs.2 rfl (fun ls' h' => hK _ _ _ _ _ _ hz1 H locs ls' hF (cx_has.st1 hy h'))
  | astore z =>
    dsimp only [cx_1] at h
    have hs : z = a ∧ a < nL := of_decide_eq_true hs
    obtain ⟨rfl, hs⟩ := hs
    obtain ⟨u, r, rfl, hz1, h2⟩ := cx_a1_spec h
    obtain ⟨y, hy⟩ := h2 G
    rw [List.map_cons, hy]
    exact lv_astore hx hb hd hl.lv hs rfl (fun ls' h' => hK _ _ _ _ _ _ hz1 H locs ls' hF (cx_has.st1 hy h'))
  | iinc z y =>
    dsimp only [cx_1] at h
    have hs : z = a ∧ a < nL ∧ Int32.ofInt y = v := of_decide_eq_true hs
    obtain ⟨rfl, hs1, hs2⟩ := hs
    obtain ⟨x, h1, hz1⟩ := cx_ldi_spec h
    obtain ⟨q, hq⟩ := List.getElem?_of_mem (cx_prs_in (G := G) h1)
    exact lv_iinc (v := x + v) hx hb hd hl.lv hq (by rw [hs2]) hs1 rfl (fun ls' h' => hK _ _ _ _ _ _ hz1 H locs ls' hF (cx_has.st1 rfl h'))
  | iadd =>
    dsimp only [cx_1] at h
    obtain ⟨x, y, r, rfl, hz1⟩ := cx_ii_spec h
    exact lv_iadd hx hb hd (hK _ _ _ _ _ _ hz1 H locs ls hF hl)
  | isub =>
    dsimp only [cx_1] at h
    obtain ⟨x, y, r, rfl, hz1⟩ := cx_ii_spec h
    exact lv_isub hx hb hd (hK _ _ _ _ _ _ hz1 H locs ls hF hl)
  | imul =>
    dsimp only [cx_1] at h
    obtain ⟨x, y, r, rfl, hz1⟩ := cx_ii_spec h
    exact lv_imul hx hb hd (hK _ _ _ _ _ _ hz1 H locs ls hF hl)
  | iand =>
    dsimp only [cx_1] at h
    obtain ⟨x, y, r, rfl, hz1⟩ := cx_ii_spec h
    exact lv_iand hx hb hd (hK _ _ _ _ _ _ hz1 H locs ls hF hl)
  | ior =>
    dsimp only [cx_1] at h
    obtain ⟨x, y, r, rfl, hz1⟩ := cx_ii_spec h
    exact lv_ior hx hb hd (hK _ _ _ _ _ _ hz1 H locs ls hF hl)
  | ixor =>
    dsimp only [cx_1] at h
    obtain ⟨x, y, r, rfl, hz1⟩ := cx_ii_spec h
    exact lv_ixor hx hb hd (hK _ _ _ _ _ _ hz1 H locs ls hF hl)
  | ishl =>
    dsimp only [cx_1] at h
    obtain ⟨x, y, r, rfl, hz1⟩ := cx_ii_spec h
    exact lv_ishl hx hb hd (hK _ _ _ _ _ _ hz1 H locs ls hF hl)
  | ishr =>
    dsimp only [cx_1] at h
    obtain ⟨x, y, r, rfl, hz1⟩ := cx_ii_spec h
    exact lv_ishr hx hb hd (hK _ _ _ _ _ _ hz1 H locs ls hF hl)
  | idiv =>
    dsimp only [cx_1] at h
    obtain ⟨x, y, r, rfl, h0, hz1⟩ := cx_ii_spec h
    exact lv_idiv hx hb hd h0 (hK _ _ _ _ _ _ hz1 H locs ls hF hl)
  | irem =>
    dsimp only [cx_1] at h
    obtain ⟨x, y, r, rfl, h0, hz1⟩ := cx_ii_spec h
    exact lv_irem hx hb hd h0 (hK _ _ _ _ _ _ hz1 H locs ls hF hl)
  | land =>
    dsimp only [cx_1] at h
    obtain ⟨x, y, r, rfl, hz1⟩ := cx_ll_spec h
    exact lv_land hx hb hd (hK _ _ _ _ _ _ hz1 H locs ls hF hl)
  | lor =>
    dsimp only [cx_1] at h
    obtain ⟨x, y, r, rfl, hz1⟩ := cx_ll_spec h
    exact lv_lor hx hb hd (hK _ _ _ _ _ _ hz1 H locs ls hF hl)
  | lxor =>
    dsimp only [cx_1] at h
    obtain ⟨x, y, r, rfl, hz1⟩ := cx_ll_spec h
    exact lv_lxor hx hb hd (hK _ _ _ _ _ _ hz1 H locs ls hF hl)
  | ladd =>
    dsimp only [cx_1] at h
    obtain ⟨x, y, r, rfl, hz1⟩ := cx_ll_spec h
    exact lv_ladd hx hb hd (hK _ _ _ _ _ _ hz1 H locs ls hF hl)
  | lsub =>
    dsimp only [cx_1] at h
    obtain ⟨x, y, r, rfl, hz1⟩ := cx_ll_spec h
    exact lv_lsub hx hb hd (hK _ _ _ _ _ _ hz1 H locs ls hF hl)
  | lcmp =>
    dsimp only [cx_1] at h
    obtain ⟨x, y, r, rfl, hz1⟩ := cx_ll_spec h
    exact W.lcmp hx hb hd (hK _ _ _ _ _ _ hz1 H locs ls hF hl)
  | lshl =>
    dsimp only [cx_1] at h
    obtain ⟨x, y, r, rfl, hz1⟩ := cx_li_spec h
    exact lv_lshl hx hb hd rfl (hK _ _ _ _ _ _ hz1 H locs ls hF hl)
  | lushr =>
    dsimp only [cx_1] at h
    obtain ⟨x, y, r, rfl, hz1⟩ := cx_li_spec h
    exact lv_lushr hx hb hd rfl (hK _ _ _ _ _ _ hz1 H locs ls hF hl)
  | lshr =>
    dsimp only [cx_1] at h
    obtain ⟨x, y, r, rfl, hz1⟩ := cx_li_spec h
    exact lv_lshr hx hb hd rfl (hK _ _ _ _ _ _ hz1 H locs ls hF hl)
  | i2l =>
    dsimp only [cx_1] at h
    obtain ⟨x, r, rfl, hz1⟩ := cx_i1_spec h
    exact lv_i2l hx hb hd rfl (hK _ _ _ _ _ _ hz1 H locs ls hF hl)
  | l2i =>
    dsimp only [cx_1] at h
    obtain ⟨x, r, rfl, hz1⟩ := cx_l1_spec h
    exact lv_l2i hx hb hd rfl (hK _ _ _ _ _ _ hz1 H locs ls hF hl)
  | dup =>
    dsimp only [cx_1] at h
    obtain ⟨u, r, rfl, hw, hz1⟩ := cx_u1_spec h
    exact lv_dup hx hb hd (cx_cat1 hw) (hK _ _ _ _ _ _ hz1 H locs ls hF hl)
  | pop =>
    dsimp only [cx_1] at h
    obtain ⟨u, r, rfl, hw, hz1⟩ := cx_u1_spec h
    exact lv_pop hx hb hd (cx_cat1 hw) (hK _ _ _ _ _ _ hz1 H locs ls hF hl)
  | dup2 =>
    dsimp only [cx_1] at h
    obtain ⟨u, r, rfl, hw, hz1⟩ := cx_u1_spec h
    obtain ⟨u2, r, rfl, hw2, hz2⟩ := cx_u1_spec hz1
    exact lv_dup2_11 hx hb hd (cx_cat1 hw) (cx_cat1 hw2) (hK _ _ _ _ _ _ hz2 H locs ls hF hl)
  | ifCond q o =>
    dsimp only [cx_1] at h
    have ht : (pc : Int) + o = (a : Int) := of_decide_eq_true hs
    obtain ⟨x, r, rfl, hz1⟩ := cx_i1_spec h
    cases q with
    | eq =>
      dsimp only [cx_cmp0] at hz1
      exact lv_if_eq hx hb hd ht (fun q => hK _ _ _ _ _ _ (hz1.1 q) H locs ls hF hl) (fun q => hK _ _ _ _ _ _ (hz1.2 q) H locs ls hF hl)
    | ne =>
      dsimp only [cx_cmp0] at hz1
      exact lv_if_ne hx hb hd ht (fun q => hK _ _ _ _ _ _ (hz1.1 q) H locs ls hF hl) (fun q => hK _ _ _ _ _ _ (hz1.2 q) H locs ls hF hl)
    | lt =>
      dsimp only [cx_cmp0] at hz1
      exact lv_if_lt hx hb hd ht (fun q => hK _ _ _ _ _ _ (hz1.1 q) H locs ls hF hl) (fun q => hK _ _ _ _ _ _ (hz1.2 q) H locs ls hF hl)
    | ge =>
      dsimp only [cx_cmp0] at hz1
      exact lv_if_ge hx hb hd ht (fun q => hK _ _ _ _ _ _ (hz1.1 q) H locs ls hF hl) (fun q => hK _ _ _ _ _ _ (hz1.2 q) H locs ls hF hl)
    | gt =>
      dsimp only [cx_cmp0] at hz1
      exact lv_if_gt hx hb hd ht (fun q => hK _ _ _ _ _ _ (hz1.1 q) H locs ls hF hl) (fun q => hK _ _ _ _ _ _ (hz1.2 q) H locs ls hF hl)
    | le =>
      dsimp only [cx_cmp0] at hz1
      exact lv_if_le hx hb hd ht (fun q => hK _ _ _ _ _ _ (hz1.1 q) H locs ls hF hl) (fun q => hK _ _ _ _ _ _ (hz1.2 q) H locs ls hF hl)
  | if_icmp q o =>
    dsimp only [cx_1] at h
    have ht : (pc : Int) + o = (a : Int) := of_decide_eq_true hs
    obtain ⟨x, y, r, rfl, hz1⟩ := cx_ii_spec h
    cases q with
    | eq =>
      dsimp only [cx_cmp2] at hz1
      exact lv_icmp_eq hx hb hd ht (fun q => hK _ _ _ _ _ _ (hz1.1 q) H locs ls hF hl) (fun q => hK _ _ _ _ _ _ (hz1.2 q) H locs ls hF hl)
    | ne =>
      dsimp only [cx_cmp2] at hz1
      exact lv_icmp_ne hx hb hd ht (fun q => hK _ _ _ _ _ _ (hz1.1 q) H locs ls hF hl) (fun q => hK _ _ _ _ _ _ (hz1.2 q) H locs ls hF hl)
    | lt =>
      dsimp only [cx_cmp2] at hz1
      exact lv_icmp_lt hx hb hd ht (fun q => hK _ _ _ _ _ _ (hz1.1 q) H locs ls hF hl) (fun q => hK _ _ _ _ _ _ (hz1.2 q) H locs ls hF hl)
    | ge =>
      dsimp only [cx_cmp2] at hz1
      exact lv_icmp_ge hx hb hd ht (fun q => hK _ _ _ _ _ _ (hz1.1 q) H locs ls hF hl) (fun q => hK _ _ _ _ _ _ (hz1.2 q) H locs ls hF hl)
    | gt =>
      dsimp only [cx_cmp2] at hz1
      exact lv_icmp_gt hx hb hd ht (fun q => hK _ _ _ _ _ _ (hz1.1 q) H locs ls hF hl) (fun q => hK _ _ _ _ _ _ (hz1.2 q) H locs ls hF hl)
    | le =>
      dsimp only [cx_cmp2] at hz1
      exact lv_icmp_le hx hb hd ht (fun q => hK _ _ _ _ _ _ (hz1.1 q) H locs ls hF hl) (fun q => hK _ _ _ _ _ _ (hz1.2 q) H locs ls hF hl)
  | goto o =>
    dsimp only [cx_1] at h
    have hs : (pc : Int) + o = (a : Int) := of_decide_eq_true hs
    exact lv_goto hx hb hd hs (hK _ _ _ _ _ _ h H locs ls hF hl)
  | getfield z =>
    dsimp only [cx_1] at h
    have hs : (z, a, b) ∈ F := of_decide_eq_true hs
    obtain ⟨j, r, rfl, hz1⟩ := cx_p1_spec h
    obtain ⟨fs, hj, hz2⟩ := cx_obj_spec hz1
    obtain ⟨u, hu, hz3⟩ := cx_fld_spec hz2
    exact okF _ hs pc H locs k n ls _ _ (fs.map (cx_v G)) (cx_v G u) hd (hP.1 j _ hj).2 (by rw [List.getElem?_map, hu]; rfl) (hK _ _ _ _ _ _ hz3 H locs ls hF hl)
  | putfield z =>
    dsimp only [cx_1] at h
    have hs0 : (decide ((z, a, b, v) ∈ FP) && wr) = true := hs
    rw [Bool.and_eq_true] at hs0
    obtain ⟨hs1, hs⟩ := hs0
    have hs1 : (z, a, b, v) ∈ FP := of_decide_eq_true hs1
    obtain ⟨u, j, r, rfl, hz1⟩ := cx_pu_spec h
    obtain ⟨fs, hj, hz2⟩ := cx_obj_spec hz1
    obtain ⟨u0, hu, h1, hz3⟩ := cx_fld_spec hz2
    obtain ⟨hjN, hat⟩ := hP.1 j _ hj
    have hlen : b < fs.length := (List.getElem?_eq_some_iff.mp hu).1
    refine okP _ hs1 pc H locs k n ls _ _ (fs.map (cx_v G)) (cx_v G u) hd hat (by rw [List.length_map]; exact hlen) (cx_fits_takes h1) (fun H' i e1 e2 e3 => ?_)
    refine hK _ _ _ _ _ _ hz3 H' _ ls (hFw hs _ _ _ _ _ _ _ _ _ hF (hP.set hG hj ?_ e2 e3) (hG.2.2.2.1 j hjN)) hl
    show va_at _ _ (_, .inr (a, (fs.set b u).map (cx_v G))) H'
    rw [List.map_set]
    exact e1
  | iaload =>
    dsimp only [cx_1] at h
    obtain ⟨x, j, r, rfl, hz1⟩ := cx_pi_spec h
    obtain ⟨n1, f, hj, h0, hz2⟩ := cx_ints_spec hz1
    exact W.iald (v := .int (f x.toNatClampNeg)) hx hb (hP.1 j _ hj).2 (hKn.2.2.1 _ _) (fun q => by cases q) (cx_inA h0) (cx_rdA h0) rfl rfl hd (hK _ _ _ _ _ _ hz2 H locs ls hF hl)
  | iastore =>
    dsimp only [cx_1] at h
    have hs : wr = true := hs
    obtain ⟨y, x, j, r, rfl, hz1⟩ := cx_pii_spec h
    obtain ⟨n1, f, hj, h0, hz2⟩ := cx_ints_spec hz1
    obtain ⟨hjN, hat⟩ := hP.1 j _ hj
    refine W.iast hx hb hat (hKn.2.2.1 _ _) (fun q => by cases q) (cx_inA h0) rfl rfl hd (fun H' e1 e2 e3 => ?_)
    refine hK _ _ _ _ _ _ hz2 H' _ ls (hFw hs _ _ _ _ _ _ _ _ _ hF (hP.set hG hj ?_ e2 e3) (hG.2.2.2.1 j hjN)) hl
    rw [cx_arrI] at e1
    exact e1
  | baload =>
    dsimp only [cx_1] at h
    obtain ⟨x, j, r, rfl, hz1⟩ := cx_pi_spec h
    obtain ⟨n1, f, hj, h0, hz2⟩ := cx_bools_spec hz1
    exact W.zald (v := .int (f x.toNatClampNeg)) hx hb (hP.1 j _ hj).2 (hKn.2.2.2.1 _ _) (fun q => by cases q) (cx_inA h0) (cx_rdA h0) rfl rfl hd (hK _ _ _ _ _ _ hz2 H locs ls hF hl)
  | bastore =>
    dsimp only [cx_1] at h
    have hs : wr = true := hs
    obtain ⟨y, x, j, r, rfl, hz1⟩ := cx_pii_spec h
    obtain ⟨n1, f, hj, ⟨h0, hy⟩, hz2⟩ := cx_bools_spec hz1
    obtain ⟨hjN, hat⟩ := hP.1 j _ hj
    refine W.zast hx hb hat (hKn.2.2.2.1 _ _) (fun q => by cases q) (cx_inA h0) rfl rfl hd (fun H' e1 e2 e3 => ?_)
    refine hK _ _ _ _ _ _ hz2 H' _ ls (hFw hs _ _ _ _ _ _ _ _ _ hF (hP.set hG hj ?_ e2 e3) (hG.2.2.2.1 j hjN)) hl
    rw [cx_nar01 hy, cx_arrI] at e1
    exact e1
  | laload =>
    dsimp only [cx_1] at h
    rcases cx_pig_spec h with ⟨x, j, r, rfl, hz1⟩ | ⟨x, j, g, r, rfl, hz1⟩
    · skip
      obtain ⟨n1, f, hj, h0, hz2⟩ := cx_longs_spec hz1
      exact W.lald (v := .long (f x.toNatClampNeg)) hx hb (hP.1 j _ hj).2 (hKn.2.2.2.2.1 _ _) (fun q => by cases q) (cx_inA h0) (cx_rdA h0) rfl rfl hd (hK _ _ _ _ _ _ hz2 H locs ls hF hl)
    · skip
      obtain ⟨n1, n2, f, hj, ⟨h0, h1⟩, hz3⟩ := cx_grid_spec hz1
      exact W.lald (v := .long (f g x.toNatClampNeg)) hx hb ((hP.1 j _ hj).2.2.2 g h0) (hKn.2.2.2.2.1 _ _) (fun q => by cases q) (cx_inA h1) (cx_rdA h1) rfl rfl hd (hK _ _ _ _ _ _ hz3 H locs ls hF hl)
  | lastore =>
    dsimp only [cx_1] at h
    have hs : wr = true := hs
    obtain ⟨y, q, rfl, hz1⟩ := cx_l1_spec h
    rcases cx_pig_spec hz1 with ⟨x, j, r, rfl, hz2⟩ | ⟨x, j, g, r, rfl, hz2⟩
    · skip
      obtain ⟨n1, f, hj, h0, hz3⟩ := cx_longs_spec hz2
      obtain ⟨hjN, hat⟩ := hP.1 j _ hj
      refine W.last hx hb hat (hKn.2.2.2.2.1 _ _) (fun q => by cases q) (cx_inA h0) rfl rfl hd (fun H' e1 e2 e3 => ?_)
      refine hK _ _ _ _ _ _ hz3 H' _ ls (hFw hs _ _ _ _ _ _ _ _ _ hF (hP.set hG hj ?_ e2 e3) (hG.2.2.2.1 j hjN)) hl
      rw [cx_arrL] at e1
      exact e1
    · skip
      obtain ⟨n1, n2, f, hj, ⟨h0, h1⟩, hz4⟩ := cx_grid_spec hz2
      obtain ⟨hjN, ha1, ha2, ha3⟩ := hP.1 j _ hj
      refine W.last hx hb (ha3 g h0) (hKn.2.2.2.2.1 _ _) (fun q => by cases q) (cx_inA h1) rfl rfl hd (fun H' e1 e2 e3 => ?_)
      refine hK _ _ _ _ _ _ hz4 H' _ ls (hFw hs _ _ _ _ _ _ _ _ _ hF (hP.setRow hG hj h0 ?_ e2 e3) (hG.2.2.2.2 j g (Nat.lt_of_lt_of_le h0 ha1))) hl
      rw [cx_arrL] at e1
      exact e1
  | aaload =>
    dsimp only [cx_1] at h
    obtain ⟨x, j, r, rfl, hz1⟩ := cx_pi_spec h
    obtain ⟨n1, n2, f, hj, h0, hz2⟩ := cx_grid_spec hz1
    exact W.aald (v := .ref (cx_rd G j x.toNatClampNeg)) hx hb (hP.1 j _ hj).2.2.1 (hKn.2.2.2.2.2 _ _) rfl (fun q => by cases q) (cx_inA h0) (cx_rdA h0) rfl rfl hd (hK _ _ _ _ _ _ hz2 H locs ls hF hl)
  | tableswitch d lo hi offs =>
    dsimp only [cx_1] at h
    obtain ⟨x, r, rfl, hz1⟩ := cx_i1_spec h
    obtain ⟨dt, ts, hsw, h1, h2⟩ := cx_sw_spec hz1
    have hs : ((pc : Int) + d = (dt : Int) ∧ lo = 0 ∧ hi + 1 = (ts.length : Int)) ∧ offs.toList.map (fun o => (pc : Int) + o) = ts.map (fun t : Nat => (t : Int)) := by
      simp only [cx_side, hsw] at hs
      exact of_decide_eq_true hs
    obtain ⟨⟨hs1, rfl, hs3⟩, hs4⟩ := hs
    by_cases hc : x.toInt < 0 ∨ (ts.length : Int) ≤ x.toInt
    · exact lv_tableOut hx hb hd (by omega) hs1 (hK _ _ _ _ _ _ (h1 hc) H locs ls hF hl)
    · have hx0 : ¬ x.toInt < 0 := fun q => hc (Or.inl q)
      have hx1 : ¬ (ts.length : Int) ≤ x.toInt := fun q => hc (Or.inr q)
      obtain ⟨i, hi1, hi2⟩ : ∃ i : Nat, i < ts.length ∧ x.toInt = (i : Int) := ⟨x.toInt.toNat, by omega, by omega⟩
      have hxi : x = nI (0 + i) := by
        rw [Nat.zero_add]
        have hb2 : i < 2 ^ 31 := by
          have := Int32.toInt_lt x
          omega
        exact Int32.toInt_inj.mp (by rw [hi2, nI_toInt hb2])
      obtain ⟨t, ht⟩ : ∃ t, ts[i]? = some t := ⟨_, List.getElem?_eq_getElem hi1⟩
      have ho : (offs.toList.map (fun o => (pc : Int) + o))[i]? = some (t : Int) := by
        rw [hs4, List.getElem?_map, ht]
        rfl
      rw [List.getElem?_map] at ho
      obtain ⟨o, ho1, ho2⟩ := Option.map_eq_some_iff.mp ho
      refine lv_tableIn (off := o) (tgt := t) hx hb hd (by omega) (by omega) ?_ ho2 (hK _ _ _ _ _ _ (cx_swl_spec h2 i t ht hxi) H locs ls hF hl)
      rw [show (x.toInt - 0).toNat = i by omega, ← Array.getElem?_toList]
      exact ho1
  | ireturn =>
    dsimp only [cx_1] at h
    have hs : rt = some .int ∨ (rt = some .boolean ∧ v = 1) := of_decide_eq_true hs
    obtain ⟨x, rfl, h1, hz1⟩ := cx_ir_spec h
    refine W.widen hk hn ?_
    rcases hs with hs | ⟨hs, hv⟩
    · exact cx_mono (fun t ht => cx_fin (u := some (.inl x)) (args := args) (locs := locs) hP hz1 ht) (W.zret hx hb (hr.trans hs) rfl (fun t ht hW => ⟨rfl, ht⟩) hL hd hlocks)
    · exact cx_mono (fun t ht => cx_fin (u := some (.inl x)) (args := args) (locs := locs) hP hz1 ht) (W.zret hx hb (hr.trans hs) (cx_nar01 (h1 hv)) (fun t ht hW => ⟨rfl, ht⟩) hL hd hlocks)
  | areturn =>
    dsimp only [cx_1] at h
    obtain ⟨u, rfl, hz1, h2⟩ := cx_ar_spec h
    obtain ⟨y, hy⟩ := h2 G
    refine W.widen hk hn ?_
    have hrt : ∃ r, rt = some r ∧ ((∃ n, r = .object n) ∨ ∃ t, r = .array t) := by
      simp only [cx_side] at hs
      split at hs
      · exact ⟨_, rfl, Or.inr ⟨_, rfl⟩⟩
      · exact ⟨_, rfl, Or.inl ⟨_, rfl⟩⟩
      · cases hs
    obtain ⟨r, hr1, hr2⟩ := hrt
    exact cx_mono (fun t ht => cx_fin (u := some u) (args := args) (locs := locs) hP hz1 ht) (W.aret (v := cx_v G u) hx hb (hr.trans hr1) hr2 (Or.inr ⟨y, hy⟩) (fun t ht hW => ⟨rfl, ht⟩) hL hd hlocks)
  | return_ =>
    dsimp only [cx_1] at h
    have hs : rt = none := of_decide_eq_true hs
    obtain ⟨rfl, hz1⟩ := cx_vr_spec h
    refine W.widen hk hn ?_
    exact cx_mono (fun t ht => cx_fin (u := none) (args := args) (locs := locs) hP hz1 ht) (W.vret hx hb (hr.trans hs) (fun t ht hW => ⟨rfl, ht⟩) hL hd hlocks)
  | invokevirtual z =>
    dsimp only [cx_1] at h
    have hs : (z, a) ∈ CV := of_decide_eq_true hs
    obtain ⟨f, na, kc, ks, hf, h1, h2, h3, h4, hz1⟩ := cx_go_spec h
    have hst : st = (st.take na).reverse.reverse ++ st.drop na := by rw [List.reverse_reverse, List.take_append_drop]
    rw [hst]
    refine okV _ hs f na kc ks hf pc H locs k n ls _ _ ws _ hd (by rw [List.length_reverse, List.length_take]; omega) h4 h1 h2 hF hl.1 hz1 (fun x ws' q => q) (fun u ws' H' locs' q hF' => ?_)
    cases u with
    | none => exact hK _ _ _ _ _ _ q H' locs' ls hF' hl
    | some u => exact hK _ _ _ _ _ _ q H' locs' ls hF' hl
  | invokestatic z =>
    dsimp only [cx_1] at h
    have hs : (z, a) ∈ CS := of_decide_eq_true hs
    obtain ⟨f, na, kc, ks, hf, h1, h2, h3, h4, hz1⟩ := cx_go_spec h
    have hst : st = (st.take na).reverse.reverse ++ st.drop na := by rw [List.reverse_reverse, List.take_append_drop]
    rw [hst]
    refine okS _ hs f na kc ks hf pc H locs k n ls _ _ ws _ hd (by rw [List.length_reverse, List.length_take]; omega) h4 h1 h2 hF hl.1 hz1 (fun x ws' q => q) (fun u ws' H' locs' q hF' => ?_)
    cases u with
    | none => exact hK _ _ _ _ _ _ q H' locs' ls hF' hl
    | some u => exact hK _ _ _ _ _ _ q H' locs' ls hF' hl
  | new z =>
    dsimp only [cx_1] at h
    have hs : (pc, a) ∈ TH := of_decide_eq_true hs
    obtain ⟨x, hx1, h1, h2, hz1⟩ := cx_thr_spec h
    exact okT _ hs x hx1 H locs k n ls st ws h1 h2 hF hl.1 hz1
  | _ => exact False.elim h
theorem cx_get_spec : ∀ {T : List (Nat × cx_E)} {pc : Nat} {en : cx_E}, cx_get T pc = some en → (pc, en) ∈ T
  | [], _, _, h => by cases h
  | q :: r, pc, en, h => by
    unfold cx_get at h
    split at h
    · rename_i hb
      have e : q.1 = pc := Nat.eq_of_beq_eq_true hb
      cases h
      rw [← e]
      exact List.mem_cons_self
    · exact List.mem_cons_of_mem _ (cx_get_spec h)
theorem cx_sound {wr : Bool} {F0c : cx_F} {own : String} {rt : Option FieldType} {F : List (Nat × Nat × Nat)} {FP : List (Nat × Nat × Nat × Int32)} {LC : List (Nat × Int64)} {CV CS : List (Nat × Nat)} {TH : List (Nat × Nat)} {T : List (Nat × cx_E)} {Sp : List (cx_S × Nat × Nat × Nat)} {Ex : List String} {Sw : List (Nat × List Nat)}
    (hx : p.tables.exec = Jvm.exec) (hb : c.code = cc) (hG : cx_okG G) (hKn : cx_Kn Tb G s) (hlocks : meth.locks = false) (hr : meth.sig.returnType = rt) (hown : s.vm.findClass own = some m.cls)
    (hFP : ∀ ws k n H locs, F0c ws k n H locs → cx_P G ws H ∧ (k ≤ mc ∧ n ≤ ms) ∧ ∀ q ∈ locs, (cx_H0 G).size ≤ q.base)
    (hFw : wr = true → ∀ (ws ws' : List cx_C) (k n : Nat) (H H' : Heap) (locs : List Loc) (a i : Nat), F0c ws k n H locs → cx_P G ws' H' → (cx_H0 G).size ≤ a → F0c ws' k n H' (locs ++ [⟨a, i⟩]))
    (okF : ∀ q ∈ F, cx_okget p l e R s m args below meth c cc G (cx_Q below G s mc ms Rq) q.1 q.2.1 q.2.2)
    (okP : ∀ q ∈ FP, cx_okput p l e R s m args below meth c cc G (cx_Q below G s mc ms Rq) q.1 q.2.1 q.2.2.1 q.2.2.2)
    (okL : ∀ q ∈ LC, (Jvm.Cond.constantLong own q.1 q.2).before args s = true)
    (okV : ∀ q ∈ CV, ∀ f na kc ks, Sp[q.2]? = some (f, na, kc, ks) → cx_okcall p l e R s m args below meth c cc G nL mc ms F0c Rq (.invokevirtual q.1) f na kc ks)
    (okS : ∀ q ∈ CS, ∀ f na kc ks, Sp[q.2]? = some (f, na, kc, ks) → cx_okcall p l e R s m args below meth c cc G nL mc ms F0c Rq (.invokestatic q.1) f na kc ks)
    (okT : ∀ q ∈ TH, ∀ x, Ex[q.2]? = some x → cx_okthr p l e R s m args below meth c G nL mc ms F0c Rq q.1 x)
    (hT : T.all (cx_dec wr cc rt nL F FP LC CV CS TH Sw) = true) {P : List Nat} {K : cx_K} (hK : ∀ pc lv st ws k n, K pc lv st ws k n → cx_AW p l e R s m args below meth c G nL F0c (cx_Q below G s mc ms Rq) pc lv st ws k n) :
    ∀ (i : Nat) {pc : Nat} {lv : cx_L} {st : List cx_V} {ws : List cx_C} {k n : Nat}, cx_ax T Sp Ex Sw mc ms P Rq K i pc lv st ws k n → cx_AW p l e R s m args below meth c G nL F0c (cx_Q below G s mc ms Rq) pc lv st ws k n := by
  intro i
  induction i with
  | zero => intro pc lv st ws k n h; exact hK _ _ _ _ _ _ h
  | succ i ih =>
    intro pc lv st ws k n h
    unfold cx_ax at h
    split at h
    · rename_i en hen
      obtain ⟨d1, d2⟩ := cx_dec_spec (List.all_eq_true.mp hT _ (cx_get_spec hen))
      refine cx_s1 hx hb hG hKn hlocks hr hown hFP hFw okF okP okL okV okS okT d1 d2 (fun pc lv st ws k n q => ?_) h
      split at q
      · exact hK _ _ _ _ _ _ q
      · exact ih q
    · exact h.elim
end CXT
end
