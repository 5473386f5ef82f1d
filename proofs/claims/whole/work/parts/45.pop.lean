/-! Long.bitCount. -/
def pm (b : Nat) : Nat → Nat
  | 0 => 0
  | n + 1 => 256 * pm b n + b
theorem pm_s (b n : Nat) : pm b (n + 1) = 256 * pm b n + b := rfl
theorem and_split (p q r s : Nat) (hq : q < 256) (hs : s < 256) : (256 * p + q) &&& (256 * r + s) = 256 * (p &&& r) + (q &&& s) := by
  have h1 : ((256 * p + q) &&& (256 * r + s)) / 2 ^ 8 = p &&& r := by
    rw [Nat.and_div_two_pow, show (256 * p + q) / 2 ^ 8 = p by omega, show (256 * r + s) / 2 ^ 8 = r by omega]
  have h2 : ((256 * p + q) &&& (256 * r + s)) % 2 ^ 8 = q &&& s := by
    rw [Nat.and_mod_two_pow, show (256 * p + q) % 2 ^ 8 = q by omega, show (256 * r + s) % 2 ^ 8 = s by omega]
  omega
def pA (n x : Nat) : Nat := x - (x / 2 &&& pm 85 n)
def pB (n y : Nat) : Nat := (y &&& pm 51 n) + (y / 4 &&& pm 51 n)
def pC (n z : Nat) : Nat := (z + z / 16) &&& pm 15 n
def bA (a : Nat) : Nat := a - (a / 2 &&& 85)
def bB (a : Nat) : Nat := (a &&& 51) + (a / 4 &&& 51)
theorem and85 : ∀ a, a < 256 → ∀ h, h < 2 → (128 * h + a / 2) &&& 85 = a / 2 &&& 85 := by decide +kernel
theorem and51 : ∀ a, a < 256 → ∀ h, h < 4 → (64 * h + a / 4) &&& 51 = a / 4 &&& 51 := by decide +kernel
theorem and15 : ∀ a, a < 256 → ∀ h, h < 5 → a % 16 ≤ 4 → a / 16 ≤ 4 → (16 * h + a + a / 16) &&& 15 = a % 16 + a / 16 := by decide +kernel
theorem bA_lt : ∀ a, a < 256 → bA a < 256 := by decide +kernel
theorem bB_ok : ∀ a, a < 256 → bB (bA a) % 16 ≤ 4 ∧ bB (bA a) / 16 ≤ 4 ∧ bB (bA a) ≤ 68 := by decide +kernel
theorem pop8 : ∀ a, a < 256 → bB (bA a) % 16 + bB (bA a) / 16 = ctB a.testBit 8 := by decide +kernel
theorem pA_s (n x : Nat) : pA (n + 1) x = 256 * pA n (x / 256) + bA (x % 256) := by
  unfold pA bA
  rw [pm_s]
  have hm := Nat.mod_lt x (show 0 < 256 by decide)
  have e : x / 2 &&& (256 * pm 85 n + 85) = 256 * (x / 256 / 2 &&& pm 85 n) + (x % 256 / 2 &&& 85) := by
    have e1 : x / 2 = 256 * (x / 256 / 2) + (128 * (x / 256 % 2) + x % 256 / 2) := by omega
    rw [e1, and_split _ _ _ _ (by omega) (by decide), and85 _ hm _ (by omega)]
  rw [e]
  have h1 : (x / 256 / 2 &&& pm 85 n) ≤ x / 256 / 2 := Nat.and_le_left
  have h2 : (x % 256 / 2 &&& 85) ≤ x % 256 / 2 := Nat.and_le_left
  omega
theorem pB_s (n y : Nat) : pB (n + 1) y = 256 * pB n (y / 256) + bB (y % 256) := by
  unfold pB bB
  rw [pm_s]
  have hm := Nat.mod_lt y (show 0 < 256 by decide)
  have e : y / 4 &&& (256 * pm 51 n + 51) = 256 * (y / 256 / 4 &&& pm 51 n) + (y % 256 / 4 &&& 51) := by
    have e1 : y / 4 = 256 * (y / 256 / 4) + (64 * (y / 256 % 4) + y % 256 / 4) := by omega
    rw [e1, and_split _ _ _ _ (by omega) (by decide), and51 _ hm _ (by omega)]
  have e2 : y &&& (256 * pm 51 n + 51) = 256 * (y / 256 &&& pm 51 n) + (y % 256 &&& 51) := by
    have e1 : y = 256 * (y / 256) + y % 256 := by omega
    exact (congrArg (fun t => t &&& (256 * pm 51 n + 51)) e1).trans (and_split _ _ _ _ hm (by decide))
  rw [e, e2]
  omega
theorem pC_s (n h c : Nat) (hh : h % 16 ≤ 4) (h1 : c % 16 ≤ 4) (h2 : c / 16 ≤ 4) : pC (n + 1) (256 * h + c) = 256 * pC n h + (c % 16 + c / 16) := by
  unfold pC
  rw [pm_s]
  have hc : c < 256 := by omega
  have e1 : 256 * h + c + (256 * h + c) / 16 = 256 * (h + h / 16) + (16 * (h % 16) + c + c / 16) := by omega
  rw [e1, and_split _ _ _ _ (by omega) (by decide), and15 c hc _ (by omega) h1 h2]
def pU : Nat → Nat → Nat
  | 0, _ => 0
  | n + 1, x => 256 * pU n (x / 256) + ctB (x % 256).testBit 8
theorem pZ_s (n x : Nat) : pB (n + 1) (pA (n + 1) x) = 256 * pB n (pA n (x / 256)) + bB (bA (x % 256)) := by
  have := bA_lt (x % 256) (Nat.mod_lt _ (by decide))
  rw [pB_s, pA_s, show (256 * pA n (x / 256) + bA (x % 256)) / 256 = pA n (x / 256) by omega, show (256 * pA n (x / 256) + bA (x % 256)) % 256 = bA (x % 256) by omega]
theorem pZ_ok : ∀ n x, x < 256 ^ n → pB n (pA n x) % 16 ≤ 4 ∧ 3 * pB n (pA n x) < 256 ^ n ∧ pC n (pB n (pA n x)) = pU n x
  | 0, x, h => by
    have : x = 0 := by rw [Nat.pow_zero] at h; omega
    subst this
    decide
  | n + 1, x, h => by
    rw [Nat.pow_succ] at h ⊢
    obtain ⟨h1, h2, h3⟩ := pZ_ok n (x / 256) (by omega)
    have hm := Nat.mod_lt x (show 0 < 256 by decide)
    obtain ⟨b1, b2, b3⟩ := bB_ok _ hm
    rw [pZ_s]
    refine ⟨by omega, by omega, ?_⟩
    rw [pC_s n _ _ h1 b1 b2, h3, pop8 _ hm]
    rfl
theorem pd1 {a b c r s : Nat} (ha : a ≤ 16) (hb : b ≤ 16) (h : c = a + 256 * b + 65536 * (r + s)) : c / 65536 = r + s := by omega
theorem pd2 {a b c d w r : Nat} (ha : a ≤ 32) (hb : b ≤ 32) (hc : c ≤ 32) (hd : d ≤ 32) (h : w = a + 256 * b + 65536 * c + 16777216 * d + 4294967296 * r) : w / 4294967296 = r := by omega
theorem pd3 {t s q : Nat} (hs : s ≤ 64) (h : t = s + 256 * q) (ht : t < 2 ^ 64) : t % 2 ^ 64 % 2 ^ 32 % 128 = s := by omega
theorem pdig {c0 c1 c2 c3 c4 c5 c6 c7 u v w : Nat} (a0 : c0 ≤ 8) (a1 : c1 ≤ 8) (a2 : c2 ≤ 8) (a3 : c3 ≤ 8) (a4 : c4 ≤ 8) (a5 : c5 ≤ 8) (a6 : c6 ≤ 8) (a7 : c7 ≤ 8)
    (hu : u = 256 * (256 * (256 * (256 * (256 * (256 * (256 * (256 * 0 + c7) + c6) + c5) + c4) + c3) + c2) + c1) + c0) (hv : v = (u + u / 256) % 2 ^ 64) (hw : w = (v + v / 65536) % 2 ^ 64) : (w + w / 4294967296) % 2 ^ 64 % 2 ^ 32 % 128 = c0 + c1 + c2 + c3 + c4 + c5 + c6 + c7 := by
  generalize h7 : 256 * 0 + c7 = r7 at hu
  generalize h6 : 256 * r7 + c6 = r6 at hu
  generalize h5 : 256 * r6 + c5 = r5 at hu
  generalize h4 : 256 * r5 + c4 = r4 at hu
  generalize h3 : 256 * r4 + c3 = r3 at hu
  generalize h2 : 256 * r3 + c2 = r2 at hu
  generalize h1 : 256 * r2 + c1 = r1 at hu
  have b7 : r7 ≤ 8 := by omega
  have b6 : r6 ≤ 2056 := by omega
  have b5 : r5 ≤ 526344 := by omega
  have b4 : r4 ≤ 134744072 := by omega
  have b3 : r3 ≤ 34494482440 := by omega
  have b2 : r2 ≤ 8830587504648 := by omega
  have b1 : r1 ≤ 2260630401189896 := by omega
  have b0 : u ≤ 578721382704613384 := by omega
  have e0 : u = c0 + 256 * r1 := by omega
  clear hu
  have d1 : u / 256 = r1 := by
    clear h1 h2 h3 h4 h5 h6 h7 hv hw
    omega
  have ev : v = u + r1 := by
    rw [hv, d1]
    exact Nat.mod_eq_of_lt (by omega)
  clear hv
  have d2 : v / 65536 = r2 + r3 := by
    refine pd1 (a := c0 + c1) (b := c1 + c2) (by omega) (by omega) ?_
    clear h3 h4 h5 h6 h7 d1 hw
    omega
  have ew : w = u + r1 + r2 + r3 := by
    rw [hw, d2, ev, Nat.mod_eq_of_lt (by omega)]
    omega
  clear hw
  have d3 : w / 4294967296 = r4 + r5 + r6 + r7 := by
    refine pd2 (a := c0 + c1 + c2 + c3) (b := c1 + c2 + c3 + c4) (c := c2 + c3 + c4 + c5) (d := c3 + c4 + c5 + c6) (by omega) (by omega) (by omega) (by omega) ?_
    clear d1 d2 ev
    omega
  rw [d3]
  refine pd3 (q := r1 + r2 + r3 + r4 + r5 + r6 + r7 + 0) (by omega) ?_ (by omega)
  clear d1 d2 d3 ev
  omega
theorem popN {x : Nat} (hx : x < 2 ^ 64) : ∃ u, u = pC 8 (pB 8 (pA 8 x)) ∧ pB 8 (pA 8 x) + pB 8 (pA 8 x) / 16 < 2 ^ 64 ∧ (let v := (u + u / 256) % 2 ^ 64; let w := (v + v / 65536) % 2 ^ 64; ((w + w / 4294967296) % 2 ^ 64) % 2 ^ 32 % 128 = ctB x.testBit 64) := by
  obtain ⟨h1, h2, h3⟩ := pZ_ok 8 x (by rw [show 256 ^ 8 = 2 ^ 64 from rfl]; exact hx)
  refine ⟨_, rfl, by rw [show 256 ^ 8 = 2 ^ 64 from rfl] at h2; omega, ?_⟩
  rw [h3]
  have key : ctB x.testBit 64 = ctB (x % 256).testBit 8 + ctB (x / 256 % 256).testBit 8 + ctB (x / 256 / 256 % 256).testBit 8 + ctB (x / 256 / 256 / 256 % 256).testBit 8 + ctB (x / 256 / 256 / 256 / 256 % 256).testBit 8 + ctB (x / 256 / 256 / 256 / 256 / 256 % 256).testBit 8 + ctB (x / 256 / 256 / 256 / 256 / 256 / 256 % 256).testBit 8 + ctB (x / 256 / 256 / 256 / 256 / 256 / 256 / 256 % 256).testBit 8 := by
    have st : ∀ (y n : Nat), ctB y.testBit (8 + n) = ctB (y % 256).testBit 8 + ctB (y / 256).testBit n := by
      intro y n
      rw [ctB_add]
      congr 1
      · exact ctB_congr 8 (fun i hi => by rw [show (256 : Nat) = 2 ^ 8 from rfl, Nat.testBit_mod_two_pow]; simp [hi])
      · exact ctB_congr n (fun i hi => by rw [show (256 : Nat) = 2 ^ 8 from rfl, Nat.testBit_div_two_pow, Nat.add_comm])
    rw [show 64 = 8 + 56 from rfl, st, show 56 = 8 + 48 from rfl, st, show 48 = 8 + 40 from rfl, st, show 40 = 8 + 32 from rfl, st, show 32 = 8 + 24 from rfl, st, show 24 = 8 + 16 from rfl, st, show 16 = 8 + 8 from rfl, st, show ctB (x / 256 / 256 / 256 / 256 / 256 / 256 / 256).testBit 8 = ctB (x / 256 / 256 / 256 / 256 / 256 / 256 / 256 % 256).testBit 8 from ctB_congr 8 (fun i hi => by rw [show (256 : Nat) = 2 ^ 8 from rfl, Nat.testBit_mod_two_pow]; simp [hi])]
    omega
  rw [key]
  simp only [pU]
  have a0 := ctB_le (x % 256).testBit 8
  have a1 := ctB_le (x / 256 % 256).testBit 8
  have a2 := ctB_le (x / 256 / 256 % 256).testBit 8
  have a3 := ctB_le (x / 256 / 256 / 256 % 256).testBit 8
  have a4 := ctB_le (x / 256 / 256 / 256 / 256 % 256).testBit 8
  have a5 := ctB_le (x / 256 / 256 / 256 / 256 / 256 % 256).testBit 8
  have a6 := ctB_le (x / 256 / 256 / 256 / 256 / 256 / 256 % 256).testBit 8
  have a7 := ctB_le (x / 256 / 256 / 256 / 256 / 256 / 256 / 256 % 256).testBit 8
  generalize ctB (x % 256).testBit 8 = c0 at *
  generalize ctB (x / 256 % 256).testBit 8 = c1 at *
  generalize ctB (x / 256 / 256 % 256).testBit 8 = c2 at *
  generalize ctB (x / 256 / 256 / 256 % 256).testBit 8 = c3 at *
  generalize ctB (x / 256 / 256 / 256 / 256 % 256).testBit 8 = c4 at *
  generalize ctB (x / 256 / 256 / 256 / 256 / 256 % 256).testBit 8 = c5 at *
  generalize ctB (x / 256 / 256 / 256 / 256 / 256 / 256 % 256).testBit 8 = c6 at *
  generalize ctB (x / 256 / 256 / 256 / 256 / 256 / 256 / 256 % 256).testBit 8 = c7 at *
  clear h1 h2 h3 key hx
  exact pdig a0 a1 a2 a3 a4 a5 a6 a7 rfl rfl rfl
def uN (x : Int64) : Nat := x.toBitVec.toNat
theorem uN_lt (x : Int64) : uN x < 2 ^ 64 := x.toBitVec.isLt
theorem uN_and (x y : Int64) : uN (x &&& y) = uN x &&& uN y := by
  unfold uN
  rw [Int64.toBitVec_and, BitVec.toNat_and]
theorem uN_add (x y : Int64) : uN (x + y) = (uN x + uN y) % 2 ^ 64 := by
  unfold uN
  rw [Int64.toBitVec_add, BitVec.toNat_add]
theorem uN_sub {x y : Int64} (h : uN y ≤ uN x) : uN (x - y) = uN x - uN y := by
  have hx := uN_lt x
  unfold uN at *
  rw [Int64.toBitVec_sub, BitVec.toNat_sub]
  omega
theorem uN_shr {x : Int64} {k : Nat} (hk : k < 64) : uN (x.toUInt64 >>> ((nI k).toInt64.toUInt64 &&& Int64.toUInt64 63)).toInt64 = uN x / 2 ^ k := by
  rw [wb_cu k hk]
  show (x.toUInt64 >>> UInt64.ofNat k).toNat = _
  rw [UInt64.toNat_shiftRight, UInt64.toNat_ofNat', Nat.mod_eq_of_lt (show k < 2 ^ 64 by omega), Nat.mod_eq_of_lt hk, Nat.shiftRight_eq_div_pow]
  rfl
theorem lb_uN (x : Int64) (i : Nat) : lb x i = (uN x).testBit i := by
  unfold lb uN
  rw [BitVec.testBit_toNat]
theorem pu_J_bitCount : ∀ as ws Rq, sp_J_bitCount as ws Rq → cx_cats as ≤ 2 ∧ ∀ V, cx_cl1 t_J_bitCount [] [] [] 0 0 Rq V → V 0 (cx_lv0 as 2) [] ws 0 0 := by
  rintro as ws Rq ⟨w, rfl, h⟩
  refine ⟨Nat.le_of_ble_eq_true rfl, fun V hV => hV [] 80 _ _ _ _ _ _ ?_⟩
  conv => whnf
  refine ⟨fun e => absurd e (by decide), ?_⟩
  obtain ⟨u, hu, hz, hv⟩ := popN (uN_lt w)
  have s1 : uN (w - ((w.toUInt64 >>> ((nI 1).toInt64.toUInt64 &&& Int64.toUInt64 63)).toInt64 &&& 6148914691236517205)) = pA 8 (uN w) := by
    have e : uN ((w.toUInt64 >>> ((nI 1).toInt64.toUInt64 &&& Int64.toUInt64 63)).toInt64 &&& 6148914691236517205) = uN w / 2 &&& pm 85 8 := by
      rw [uN_and, uN_shr (by decide)]
      rfl
    have hle : uN w / 2 &&& pm 85 8 ≤ uN w := Nat.le_trans Nat.and_le_left (Nat.div_le_self _ _)
    rw [uN_sub (by rw [e]; exact hle), e]
    rfl
  generalize hx1 : w - ((w.toUInt64 >>> ((nI 1).toInt64.toUInt64 &&& Int64.toUInt64 63)).toInt64 &&& 6148914691236517205) = x1 at s1
  have s2 : uN ((x1 &&& 3689348814741910323) + ((x1.toUInt64 >>> ((nI 2).toInt64.toUInt64 &&& Int64.toUInt64 63)).toInt64 &&& 3689348814741910323)) = pB 8 (pA 8 (uN w)) := by
    rw [uN_add, uN_and, uN_and, uN_shr (by decide), s1]
    exact Nat.mod_eq_of_lt (Nat.lt_of_le_of_lt (Nat.le_add_right _ _) hz)
  generalize hx2 : (x1 &&& 3689348814741910323) + ((x1.toUInt64 >>> ((nI 2).toInt64.toUInt64 &&& Int64.toUInt64 63)).toInt64 &&& 3689348814741910323) = x2 at s2
  have s3 : uN ((x2 + (x2.toUInt64 >>> ((nI 4).toInt64.toUInt64 &&& Int64.toUInt64 63)).toInt64) &&& 1085102592571150095) = u := by
    rw [uN_and, uN_add, uN_shr (by decide), s2, hu, Nat.mod_eq_of_lt hz]
    rfl
  generalize hx3 : (x2 + (x2.toUInt64 >>> ((nI 4).toInt64.toUInt64 &&& Int64.toUInt64 63)).toInt64) &&& 1085102592571150095 = x3 at s3
  have s4 : uN (x3 + (x3.toUInt64 >>> ((nI 8).toInt64.toUInt64 &&& Int64.toUInt64 63)).toInt64) = (u + u / 256) % 2 ^ 64 := by
    rw [uN_add, uN_shr (by decide), s3]
  generalize hx4 : x3 + (x3.toUInt64 >>> ((nI 8).toInt64.toUInt64 &&& Int64.toUInt64 63)).toInt64 = x4 at s4
  have s5 : uN (x4 + (x4.toUInt64 >>> ((nI 16).toInt64.toUInt64 &&& Int64.toUInt64 63)).toInt64) = ((u + u / 256) % 2 ^ 64 + (u + u / 256) % 2 ^ 64 / 65536) % 2 ^ 64 := by
    rw [uN_add, uN_shr (by decide), s4]
  generalize hx5 : x4 + (x4.toUInt64 >>> ((nI 16).toInt64.toUInt64 &&& Int64.toUInt64 63)).toInt64 = x5 at s5
  have fin : (x5 + (x5.toUInt64 >>> ((nI 32).toInt64.toUInt64 &&& Int64.toUInt64 63)).toInt64).toInt32 &&& 127 = nI (ctB (lb w) 64) := by
    rw [pk_and _ (m := 127) 7 (by decide)]
    have e : (x5 + (x5.toUInt64 >>> ((nI 32).toInt64.toUInt64 &&& Int64.toUInt64 63)).toInt64).toInt32.toBitVec.toNat = uN (x5 + (x5.toUInt64 >>> ((nI 32).toInt64.toUInt64 &&& Int64.toUInt64 63)).toInt64) % 2 ^ 32 := by
      rw [Int64.toBitVec_toInt32, BitVec.toNat_signExtend, show (2 ^ 32 - 2 ^ 64 : Nat) = 0 from rfl, ite_self, Nat.add_zero, BitVec.toNat_setWidth]
      rfl
    rw [e, uN_add, uN_shr (by decide), s5]
    have e2 : ctB (lb w) 64 = ctB (uN w).testBit 64 := ctB_congr 64 (fun i hi => lb_uN w i)
    rw [e2]
    exact congrArg nI hv
  rw [← fin] at h
  subst hx5 hx4 hx3 hx2 hx1
  exact h
