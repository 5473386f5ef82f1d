/-! An abstract machine over a numbered world. A value: an int, a long, a cell's number, a row of a grid (its cell's number, the row), or a raw value. A cell: an object (its class's place, its fields), ints, booleans, longs, a grid of longs. -/
abbrev cx_V : Type := Int32 ⊕ (Int64 ⊕ (Nat ⊕ ((Nat × Nat) ⊕ Value)))
abbrev cx_C : Type := (Nat × List cx_V) ⊕ ((Nat × (Nat → Int32)) ⊕ ((Nat × (Nat → Int32)) ⊕ ((Nat × (Nat → Int64)) ⊕ (Nat × Nat × (Nat → Nat → Int64)))))
abbrev cx_L : Type := List (Option cx_V)
abbrev cx_K : Type := Nat → cx_L → List cx_V → List cx_C → Nat → Nat → Prop
abbrev cx_O : Type := Option cx_V ⊕ String
abbrev cx_R : Type := cx_O → List cx_C → Prop
abbrev cx_S : Type := List cx_V → List cx_C → cx_R → Prop
abbrev cx_E : Type := Instr × Int32 × Int64 × Nat × Nat × Nat
/-- two words -/
def cx_wd (v : cx_V) : Bool := match v with
  | .inl _ => false
  | .inr (.inl _) => true
  | .inr (.inr (.inl _)) => false
  | .inr (.inr (.inr (.inl _))) => false
  | .inr (.inr (.inr (.inr v))) => v.category == 2
def cx_clob (lv : cx_L) (i : Nat) : cx_L := match i with
  | 0 => lv
  | j + 1 => match lv[j]? with
    | some (some w) => (match cx_wd w with
      | true => lv.set j none
      | false => lv)
    | _ => lv
def cx_put1 (lv : cx_L) (i : Nat) (v : cx_V) : cx_L := (cx_clob lv i).set i (some v)
def cx_put2 (lv : cx_L) (i : Nat) (v : cx_V) : cx_L := ((cx_clob lv i).set i (some v)).set (i + 1) none
def cx_ldi (lv : cx_L) (a : Nat) (k : Int32 → Prop) : Prop := match lv[a]? with
  | some (some (.inl x)) => k x
  | _ => False
def cx_ldl (lv : cx_L) (a : Nat) (k : Int64 → Prop) : Prop := match lv[a]? with
  | some (some (.inr (.inl x))) => k x
  | _ => False
def cx_lda (lv : cx_L) (a : Nat) (k : cx_V → Prop) : Prop := match lv[a]? with
  | some (some (.inr (.inr (.inl j)))) => k (.inr (.inr (.inl j)))
  | some (some (.inr (.inr (.inr (.inl q))))) => k (.inr (.inr (.inr (.inl q))))
  | _ => False
def cx_i1 (st : List cx_V) (k : Int32 → List cx_V → Prop) : Prop := match st with
  | .inl x :: r => k x r
  | _ => False
def cx_l1 (st : List cx_V) (k : Int64 → List cx_V → Prop) : Prop := match st with
  | .inr (.inl x) :: r => k x r
  | _ => False
def cx_ii (st : List cx_V) (k : Int32 → Int32 → List cx_V → Prop) : Prop := match st with
  | .inl y :: .inl x :: r => k x y r
  | _ => False
def cx_ll (st : List cx_V) (k : Int64 → Int64 → List cx_V → Prop) : Prop := match st with
  | .inr (.inl y) :: .inr (.inl x) :: r => k x y r
  | _ => False
def cx_li (st : List cx_V) (k : Int64 → Int32 → List cx_V → Prop) : Prop := match st with
  | .inl y :: .inr (.inl x) :: r => k x y r
  | _ => False
def cx_a1 (st : List cx_V) (k : cx_V → List cx_V → Prop) : Prop := match st with
  | .inr (.inr (.inl j)) :: r => k (.inr (.inr (.inl j))) r
  | .inr (.inr (.inr (.inl q))) :: r => k (.inr (.inr (.inr (.inl q)))) r
  | _ => False
def cx_obj (ws : List cx_C) (j ci : Nat) (k : List cx_V → Prop) : Prop := match ws[j]? with
  | some (.inl o) => (match Nat.beq o.1 ci with
    | true => k o.2
    | false => False)
  | _ => False
def cx_fld (fs : List cx_V) (b : Nat) (k : cx_V → Prop) : Prop := match fs[b]? with
  | some u => k u
  | none => False
/-- what a field takes: v = 1: a boolean's 0 or 1; 2: a reference; else an int -/
def cx_fits (v : Int32) (u : cx_V) : Prop := match u with
  | .inl x => v = 0 ∨ (v = 1 ∧ (x = 0 ∨ x = 1))
  | .inr (.inr (.inl _)) => v = 2
  | _ => False
def cx_swl (x : Int32) (k : Nat) (ts : List Nat) (J : Nat → Prop) : Prop := match ts with
  | [] => True
  | t :: r => (x = nI k → J t) ∧ cx_swl x (k + 1) r J
def cx_cats (st : List cx_V) : Nat := match st with
  | [] => 0
  | v :: r => (match cx_wd v with
    | true => 2
    | false => 1) + cx_cats r
/-- a call's end -/
def cx_end (pc : Nat) (lv : cx_L) (r : List cx_V) (c s : Nat) (K : cx_K) (R : cx_R) : cx_R := fun o ws => match o with
  | .inl none => K pc lv r ws c s
  | .inl (some u) => K pc lv (u :: r) ws c s
  | .inr e => R (.inr e) ws
def cx_cmp0 (c : Jvm.ClassFile.Cond) (x : Int32) (A B : Prop) : Prop := match c with
  | .eq => (x = 0 → A) ∧ (¬ x = 0 → B)
  | .ne => (¬ x = 0 → A) ∧ (x = 0 → B)
  | .lt => (x < 0 → A) ∧ (¬ x < 0 → B)
  | .ge => (0 ≤ x → A) ∧ (¬ 0 ≤ x → B)
  | .gt => (0 < x → A) ∧ (¬ 0 < x → B)
  | .le => (x ≤ 0 → A) ∧ (¬ x ≤ 0 → B)
def cx_cmp2 (c : Jvm.ClassFile.Cond) (x y : Int32) (A B : Prop) : Prop := match c with
  | .eq => (x = y → A) ∧ (¬ x = y → B)
  | .ne => (¬ x = y → A) ∧ (x = y → B)
  | .lt => (x < y → A) ∧ (¬ x < y → B)
  | .ge => (y ≤ x → A) ∧ (¬ y ≤ x → B)
  | .gt => (y < x → A) ∧ (¬ y < x → B)
  | .le => (x ≤ y → A) ∧ (¬ x ≤ y → B)
def cx_p1 (st : List cx_V) (k : Nat → List cx_V → Prop) : Prop := match st with
  | .inr (.inr (.inl j)) :: r => k j r
  | _ => False
def cx_pu (st : List cx_V) (k : cx_V → Nat → List cx_V → Prop) : Prop := match st with
  | u :: .inr (.inr (.inl j)) :: r => k u j r
  | _ => False
def cx_pi (st : List cx_V) (k : Int32 → Nat → List cx_V → Prop) : Prop := match st with
  | .inl x :: .inr (.inr (.inl j)) :: r => k x j r
  | _ => False
def cx_pii (st : List cx_V) (k : Int32 → Int32 → Nat → List cx_V → Prop) : Prop := match st with
  | .inl y :: .inl x :: .inr (.inr (.inl j)) :: r => k y x j r
  | _ => False
def cx_pig (st : List cx_V) (k1 : Int32 → Nat → List cx_V → Prop) (k2 : Int32 → Nat → Nat → List cx_V → Prop) : Prop := match st with
  | .inl x :: .inr (.inr (.inl j)) :: r => k1 x j r
  | .inl x :: .inr (.inr (.inr (.inl q))) :: r => k2 x q.1 q.2 r
  | _ => False
def cx_ints (ws : List cx_C) (j : Nat) (k : Nat → (Nat → Int32) → Prop) : Prop := match ws[j]? with
  | some (.inr (.inl q)) => k q.1 q.2
  | _ => False
def cx_bools (ws : List cx_C) (j : Nat) (k : Nat → (Nat → Int32) → Prop) : Prop := match ws[j]? with
  | some (.inr (.inr (.inl q))) => k q.1 q.2
  | _ => False
def cx_longs (ws : List cx_C) (j : Nat) (k : Nat → (Nat → Int64) → Prop) : Prop := match ws[j]? with
  | some (.inr (.inr (.inr (.inl q)))) => k q.1 q.2
  | _ => False
def cx_grid (ws : List cx_C) (j : Nat) (k : Nat → Nat → (Nat → Nat → Int64) → Prop) : Prop := match ws[j]? with
  | some (.inr (.inr (.inr (.inr q)))) => k q.1 q.2.1 q.2.2
  | _ => False
def cx_u1 (st : List cx_V) (k : cx_V → List cx_V → Prop) : Prop := match st with
  | u :: r => (match cx_wd u with
    | true => False
    | false => k u r)
  | _ => False
def cx_sw (Sw : List (Nat × List Nat)) (a : Nat) (k : Nat → List Nat → Prop) : Prop := match Sw[a]? with
  | some q => k q.1 q.2
  | none => False
def cx_ir (st : List cx_V) (k : Int32 → Prop) : Prop := match st with
  | [.inl x] => k x
  | _ => False
def cx_ar (st : List cx_V) (k : cx_V → Prop) : Prop := match st with
  | [.inr (.inr (.inl j))] => k (.inr (.inr (.inl j)))
  | [.inr (.inr (.inr (.inl q)))] => k (.inr (.inr (.inr (.inl q))))
  | _ => False
def cx_vr (st : List cx_V) (k : Prop) : Prop := match st with
  | [] => k
  | _ => False
/-- the first n places of a list, worked out -/
def cx_fo {α : Type} (n : Nat) (l : List α) (k : List α → Prop) : Prop := match n with
  | 0 => k l
  | n + 1 => match l with
    | [] => k []
    | a :: r => cx_fo n r (fun r => k (a :: r))
/-- what a call asks: its contract, its arguments there, room -/
def cx_go (Sp : List (cx_S × Nat × Nat × Nat)) (a mc ms : Nat) (st : List cx_V) (c s : Nat) (k : cx_S → Nat → Nat → Nat → Prop) : Prop := match Sp[a]? with
  | some q => (match Nat.ble (c + q.2.2.1) mc && (Nat.ble (s + q.2.2.2) ms && (Nat.ble q.2.1 st.length && Nat.ble (cx_cats (st.drop q.2.1)) 8)) with
    | true => k q.1 q.2.1 q.2.2.1 q.2.2.2
    | false => False)
  | none => False
def cx_thr (Ex : List String) (a mc ms c s : Nat) (k : String → Prop) : Prop := match Ex[a]? with
  | some x => (match Nat.beq c 0 && (Nat.beq s 0 && (Nat.ble 1 mc && Nat.ble 6 ms)) with
    | true => k x
    | false => False)
  | none => False
/-- one instruction. Sp: what is called (contract, how many arguments, cells, slots); Ex: what is thrown; Sw: the switches' targets (default, the others from 0 on); rc, rs: the room; mc, ms: what the method may have made at its end -/
def cx_1 (Sp : List (cx_S × Nat × Nat × Nat)) (Ex : List String) (Sw : List (Nat × List Nat)) (mc ms : Nat) (en : cx_E) (lv : cx_L) (st : List cx_V) (ws : List cx_C) (c s : Nat) (K : cx_K) (R : cx_R) : Prop :=
  match en with
  | (i, v, w, a, b, nx) => match i with
    | .iconst _ => K nx lv (.inl v :: st) ws c s
    | .bipush _ => K nx lv (.inl v :: st) ws c s
    | .sipush _ => K nx lv (.inl v :: st) ws c s
    | .lconst _ => K nx lv (.inr (.inl w) :: st) ws c s
    | .ldc2_w _ => K nx lv (.inr (.inl w) :: st) ws c s
    | .iload_n _ => cx_ldi lv a (fun x => K nx lv (.inl x :: st) ws c s)
    | .iload _ => cx_ldi lv a (fun x => K nx lv (.inl x :: st) ws c s)
    | .lload_n _ => cx_ldl lv a (fun x => K nx lv (.inr (.inl x) :: st) ws c s)
    | .lload _ => cx_ldl lv a (fun x => K nx lv (.inr (.inl x) :: st) ws c s)
    | .aload_n _ => cx_lda lv a (fun x => K nx lv (x :: st) ws c s)
    | .aload _ => cx_lda lv a (fun x => K nx lv (x :: st) ws c s)
    | .istore_n _ => cx_i1 st (fun x r => cx_fo (a + 1) (cx_put1 lv a (.inl x)) (fun lv => K nx lv r ws c s))
    | .istore _ => cx_i1 st (fun x r => cx_fo (a + 1) (cx_put1 lv a (.inl x)) (fun lv => K nx lv r ws c s))
    | .lstore_n _ => cx_l1 st (fun x r => cx_fo (a + 2) (cx_put2 lv a (.inr (.inl x))) (fun lv => K nx lv r ws c s))
    | .lstore _ => cx_l1 st (fun x r => cx_fo (a + 2) (cx_put2 lv a (.inr (.inl x))) (fun lv => K nx lv r ws c s))
    | .astore_n _ => cx_a1 st (fun x r => cx_fo (a + 1) (cx_put1 lv a x) (fun lv => K nx lv r ws c s))
    | .astore _ => cx_a1 st (fun x r => cx_fo (a + 1) (cx_put1 lv a x) (fun lv => K nx lv r ws c s))
    | .iinc _ _ => cx_ldi lv a (fun x => cx_fo (a + 1) (cx_put1 lv a (.inl (x + v))) (fun lv => K nx lv st ws c s))
    | .iadd => cx_ii st (fun x y r => K nx lv (.inl (x + y) :: r) ws c s)
    | .isub => cx_ii st (fun x y r => K nx lv (.inl (x - y) :: r) ws c s)
    | .imul => cx_ii st (fun x y r => K nx lv (.inl (x * y) :: r) ws c s)
    | .iand => cx_ii st (fun x y r => K nx lv (.inl (x &&& y) :: r) ws c s)
    | .ior => cx_ii st (fun x y r => K nx lv (.inl (x ||| y) :: r) ws c s)
    | .ixor => cx_ii st (fun x y r => K nx lv (.inl (x ^^^ y) :: r) ws c s)
    | .ishl => cx_ii st (fun x y r => K nx lv (.inl (x <<< (y &&& 31)) :: r) ws c s)
    | .ishr => cx_ii st (fun x y r => K nx lv (.inl (x >>> (y &&& 31)) :: r) ws c s)
    | .idiv => cx_ii st (fun x y r => ¬ y = 0 ∧ K nx lv (.inl (x / y) :: r) ws c s)
    | .irem => cx_ii st (fun x y r => ¬ y = 0 ∧ K nx lv (.inl (x - x / y * y) :: r) ws c s)
    | .land => cx_ll st (fun x y r => K nx lv (.inr (.inl (x &&& y)) :: r) ws c s)
    | .lor => cx_ll st (fun x y r => K nx lv (.inr (.inl (x ||| y)) :: r) ws c s)
    | .lxor => cx_ll st (fun x y r => K nx lv (.inr (.inl (x ^^^ y)) :: r) ws c s)
    | .ladd => cx_ll st (fun x y r => K nx lv (.inr (.inl (x + y)) :: r) ws c s)
    | .lsub => cx_ll st (fun x y r => K nx lv (.inr (.inl (x - y)) :: r) ws c s)
    | .lcmp => cx_ll st (fun x y r => K nx lv (.inl (lg_cmp x y) :: r) ws c s)
    | .lshl => cx_li st (fun x y r => K nx lv (.inr (.inl (x <<< (y.toInt64 &&& 63))) :: r) ws c s)
    | .lushr => cx_li st (fun x y r => K nx lv (.inr (.inl (x.toUInt64 >>> (y.toInt64.toUInt64 &&& Int64.toUInt64 63)).toInt64) :: r) ws c s)
    | .lshr => cx_li st (fun x y r => K nx lv (.inr (.inl (x >>> (y.toInt64 &&& 63))) :: r) ws c s)
    | .i2l => cx_i1 st (fun x r => K nx lv (.inr (.inl x.toInt64) :: r) ws c s)
    | .l2i => cx_l1 st (fun x r => K nx lv (.inl x.toInt32 :: r) ws c s)
    | .dup => cx_u1 st (fun u r => K nx lv (u :: u :: r) ws c s)
    | .pop => cx_u1 st (fun _ r => K nx lv r ws c s)
    | .dup2 => cx_u1 st (fun u q => cx_u1 q (fun u2 r => K nx lv (u :: u2 :: u :: u2 :: r) ws c s))
    | .ifCond q _ => cx_i1 st (fun x r => cx_cmp0 q x (K a lv r ws c s) (K nx lv r ws c s))
    | .if_icmp q _ => cx_ii st (fun x y r => cx_cmp2 q x y (K a lv r ws c s) (K nx lv r ws c s))
    | .goto _ => K a lv st ws c s
    | .getfield _ => cx_p1 st (fun j r => cx_obj ws j a (fun fs => cx_fld fs b (fun u => K nx lv (u :: r) ws c s)))
    | .putfield _ => cx_pu st (fun u j r => cx_obj ws j a (fun fs => cx_fld fs b (fun _ => cx_fits v u ∧ cx_fo (b + 1) (fs.set b u) (fun fs => cx_fo (j + 1) (ws.set j (.inl (a, fs))) (fun ws => K nx lv r ws c s)))))
    | .iaload => cx_pi st (fun x j r => cx_ints ws j (fun n f => vp_in x n ∧ K nx lv (.inl (f x.toNatClampNeg) :: r) ws c s))
    | .iastore => cx_pii st (fun y x j r => cx_ints ws j (fun n f => vp_in x n ∧ cx_fo (j + 1) (ws.set j (.inr (.inl (n, upd f x.toNatClampNeg y)))) (fun ws => K nx lv r ws c s)))
    | .baload => cx_pi st (fun x j r => cx_bools ws j (fun n f => vp_in x n ∧ K nx lv (.inl (f x.toNatClampNeg) :: r) ws c s))
    | .bastore => cx_pii st (fun y x j r => cx_bools ws j (fun n f => (vp_in x n ∧ (y = 0 ∨ y = 1)) ∧ cx_fo (j + 1) (ws.set j (.inr (.inr (.inl (n, upd f x.toNatClampNeg y))))) (fun ws => K nx lv r ws c s)))
    | .laload => cx_pig st
        (fun x j r => cx_longs ws j (fun n f => vp_in x n ∧ K nx lv (.inr (.inl (f x.toNatClampNeg)) :: r) ws c s))
        (fun x j g r => cx_grid ws j (fun n k f => (g < n ∧ vp_in x k) ∧ K nx lv (.inr (.inl (f g x.toNatClampNeg)) :: r) ws c s))
    | .lastore => cx_l1 st (fun y q => cx_pig q
        (fun x j r => cx_longs ws j (fun n f => vp_in x n ∧ cx_fo (j + 1) (ws.set j (.inr (.inr (.inr (.inl (n, vp_updL f x.toNatClampNeg y)))))) (fun ws => K nx lv r ws c s)))
        (fun x j g r => cx_grid ws j (fun n k f => (g < n ∧ vp_in x k) ∧ cx_fo (j + 1) (ws.set j (.inr (.inr (.inr (.inr (n, k, va_up f g (vp_updL (f g) x.toNatClampNeg y))))))) (fun ws => K nx lv r ws c s))))
    | .aaload => cx_pi st (fun x j r => cx_grid ws j (fun n _ _ => vp_in x n ∧ K nx lv (.inr (.inr (.inr (.inl (j, x.toNatClampNeg)))) :: r) ws c s))
    | .tableswitch _ _ _ _ => cx_i1 st (fun x r => cx_sw Sw a (fun d ts => (x.toInt < 0 ∨ (ts.length : Int) ≤ x.toInt → K d lv r ws c s) ∧ cx_swl x 0 ts (fun t => K t lv r ws c s)))
    | .ireturn => cx_ir st (fun x => (v = 1 → x = 0 ∨ x = 1) ∧ R (.inl (some (.inl x))) ws)
    | .areturn => cx_ar st (fun u => R (.inl (some u)) ws)
    | .return_ => cx_vr st (R (.inl none) ws)
    | .invokevirtual _ => cx_go Sp a mc ms st c s (fun f n kc ks => f (st.take n).reverse ws (cx_end nx lv (st.drop n) (c + kc) (s + ks) K R))
    | .invokestatic _ => cx_go Sp a mc ms st c s (fun f n kc ks => f (st.take n).reverse ws (cx_end nx lv (st.drop n) (c + kc) (s + ks) K R))
    | .new _ => cx_vr st (cx_thr Ex a mc ms c s (fun x => R (.inr x) ws))
    | _ => False
def cx_get (T : List (Nat × cx_E)) (pc : Nat) : Option cx_E := match T with
  | [] => none
  | q :: r => (match Nat.beq q.1 pc with
    | true => some q.2
    | false => cx_get r pc)
def cx_stop (P : List Nat) (pc : Nat) : Bool := match P with
  | [] => false
  | q :: r => (match Nat.beq q pc with
    | true => true
    | false => cx_stop r pc)
/-- n instructions, or till a pc among P is reached -/
def cx_ax (T : List (Nat × cx_E)) (Sp : List (cx_S × Nat × Nat × Nat)) (Ex : List String) (Sw : List (Nat × List Nat)) (mc ms : Nat) (P : List Nat) (R : cx_R) (K : cx_K) (n : Nat) (pc : Nat) (lv : cx_L) (st : List cx_V) (ws : List cx_C) (c s : Nat) : Prop := match n with
  | 0 => K pc lv st ws c s
  | n + 1 => match cx_get T pc with
    | some en => cx_1 Sp Ex Sw mc ms en lv st ws c s (fun pc lv st ws c s => match cx_stop P pc with
      | true => K pc lv st ws c s
      | false => cx_ax T Sp Ex Sw mc ms P R K n pc lv st ws c s) R
    | none => False
