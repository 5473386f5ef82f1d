/-! Numbers and bits. -/
def lb (w : Int64) (i : Nat) : Bool := w.toBitVec.getLsbD i
theorem lb_ext {x y : Int64} (h : ∀ i, i < 64 → lb x i = lb y i) : x = y := Int64.toBitVec_inj.mp (BitVec.eq_of_getLsbD_eq h)
theorem lb_and (x y : Int64) (i : Nat) : lb (x &&& y) i = (lb x i && lb y i) := by simp [lb, Int64.toBitVec_and]
theorem lb_or (x y : Int64) (i : Nat) : lb (x ||| y) i = (lb x i || lb y i) := by simp [lb, Int64.toBitVec_or]
theorem lb_0 (i : Nat) : lb 0 i = false := by
  show (0#64).getLsbD i = false
  simp
theorem lb_m1 {i : Nat} (h : i < 64) : lb (-1) i = true := by
  have ha : (-1 : Int64).toBitVec = BitVec.allOnes 64 := by decide
  unfold lb
  rw [ha, BitVec.getLsbD_allOnes]
  simp [h]
theorem lb_not (x : Int64) {i : Nat} (h : i < 64) : lb (x ^^^ (-1)) i = !lb x i := by
  have ha : (-1 : Int64).toBitVec = BitVec.allOnes 64 := by decide
  simp [lb, Int64.toBitVec_xor, ha, h]
theorem wb_c : ∀ k, k < 64 → ((nI k).toInt64 &&& 63) = lN k := by decide +kernel
theorem wb_cu : ∀ k, k < 64 → ((nI k).toInt64.toUInt64 &&& Int64.toUInt64 63) = UInt64.ofNat k := by decide +kernel
theorem wb_sm : ∀ k, k < 64 → (lN k).toBitVec.smod 64 = BitVec.ofNat 64 k := by decide +kernel
theorem lb_1shl : ∀ k, k < 64 → ((1 : Int64) <<< lN k).toBitVec = BitVec.twoPow 64 k := by decide +kernel
theorem lb_shl1 {k i : Nat} (hk : k < 64) (hi : i < 64) : lb ((1 : Int64) <<< ((nI k).toInt64 &&& 63)) i = decide (i = k) := by
  rw [wb_c k hk]
  unfold lb
  rw [lb_1shl k hk, BitVec.getLsbD_twoPow]
  by_cases e : i = k
  · subst e; simp [hi]
  · simp [e, hi, Ne.symm e]
theorem lb_one (x : Int64) : (x &&& 1) = if lb x 0 then 1 else 0 := by
  apply lb_ext
  intro i hi
  rw [lb_and]
  have h1 : lb 1 i = decide (i = 0) := by
    show (1#64).getLsbD i = _
    by_cases e : i = 0 <;> simp [e, hi]
  rw [h1]
  by_cases e : i = 0
  · subst e
    cases h : lb x 0 <;> simp [lb_0, h1]
  · cases h : lb x 0 <;> simp [e, lb_0, h1]
theorem lb_ushr1 {w : Int64} {k : Nat} (hk : k < 64) : ((w.toUInt64 >>> ((nI k).toInt64.toUInt64 &&& Int64.toUInt64 63)).toInt64 &&& 1) = if lb w k then 1 else 0 := by
  rw [wb_cu k hk, lb_one]
  have e : (w.toUInt64 >>> UInt64.ofNat k).toInt64.toBitVec = w.toBitVec >>> k := by
    apply BitVec.eq_of_toNat_eq
    show (w.toUInt64 >>> UInt64.ofNat k).toNat = _
    rw [UInt64.toNat_shiftRight, UInt64.toNat_ofNat', Nat.mod_eq_of_lt (show k < 2 ^ 64 by omega), Nat.mod_eq_of_lt hk, BitVec.toNat_ushiftRight]
    rfl
  unfold lb
  rw [e]
  simp
theorem lb_sshr1 {w : Int64} {k : Nat} (hk : k < 64) : ((w >>> ((nI k).toInt64 &&& 63)) &&& 1) = if lb w k then 1 else 0 := by
  rw [wb_c k hk, lb_one]
  unfold lb
  rw [Int64.toBitVec_shiftRight, wb_sm k hk, BitVec.sshiftRight_eq']
  rw [BitVec.getLsbD_sshiftRight]
  have : (BitVec.ofNat 64 k).toNat = k := by simp; omega
  rw [this]
  simp [hk]
theorem nx_sm : ∀ k, k < 32 → ((nI k &&& 31).toBitVec.smod 32).toNat = k := by decide +kernel
theorem nx_shr {c k : Nat} (hc : c < 2 ^ 31) (hk : k < 32) : nI c >>> (nI k &&& 31) = nI (c / 2 ^ k) := pk_shrN hc _ k (nx_sm k hk)
theorem nx_shl {c k : Nat} (hk : k < 32) (h : c * 2 ^ k < 2 ^ 32) : nI c <<< (nI k &&& 31) = nI (c * 2 ^ k) := pk_shlN _ k (nx_sm k hk) h
theorem nx_and1 {c : Nat} (hc : c < 2 ^ 32) : nI c &&& 1 = nI (c % 2) := pk_andN hc 1 rfl
theorem nx_and63 {c : Nat} (hc : c < 2 ^ 32) : nI c &&& 63 = nI (c % 64) := pk_andN hc 6 rfl
theorem nx_c {c : Nat} (hc : c < 2 ^ 31) : (nI c).toNatClampNeg = c := nI_clamp hc
theorem nx_ne1 {c : Nat} : nI (c % 2) = 1 ↔ c % 2 = 1 := by
  rw [show (1 : Int32) = nI 1 from rfl, nI_eq (by omega) (by omega)]
/-- the value of input k on choice c -/
def cb (k c : Nat) : Bool := c / 2 ^ (7 - k) % 2 == 1
/-- a boolean as an int -/
def b2 (b : Bool) : Int32 := if b then 1 else 0
theorem b2_01 (b : Bool) : b2 b = 0 ∨ b2 b = 1 := by cases b <;> simp [b2]
theorem b2_t : b2 true = 1 := rfl
theorem b2_f : b2 false = 0 := rfl
theorem b2_ne0 {b : Bool} : ¬ b2 b = 0 ↔ b = true := by cases b <;> decide
theorem b2_eq0 {b : Bool} : b2 b = 0 ↔ b = false := by cases b <;> decide
theorem cb_val {k c : Nat} (hk : k < 8) (hc : c < 2 ^ 31) : (nI c >>> ((7 - nI k) &&& 31)) &&& 1 = nI (c / 2 ^ (7 - k) % 2) := by
  rw [show (7 : Int32) = nI 7 from rfl, pk_sub (by omega), nx_shr hc (by omega), nx_and1]
  exact Nat.lt_of_le_of_lt (Nat.div_le_self _ _) (by omega)
theorem cb_iff {k c : Nat} (hk : k < 8) (hc : c < 2 ^ 31) : (nI c >>> ((7 - nI k) &&& 31)) &&& 1 = 1 ↔ cb k c = true := by
  rw [cb_val hk hc, nx_ne1]
  simp [cb]
/-- lcmp with 1 of a bit -/
theorem lc_bit (b : Bool) : lg_cmp (if b then 1 else 0) 1 = if b then 0 else -1 := by cases b <;> decide
theorem lc_eq {x y : Int64} : lg_cmp x y = 0 ↔ x = y := by
  unfold lg_cmp
  split
  · rename_i h
    constructor
    · intro q; exact absurd q (by decide)
    · intro q; subst q; exact (Int64.lt_irrefl h).elim
  · split
    · rename_i h; simp [h]
    · rename_i h
      constructor
      · intro q; exact absurd q (by decide)
      · intro q; exact absurd q h
