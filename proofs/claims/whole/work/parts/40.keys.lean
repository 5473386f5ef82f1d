/-! Truth functions of 256 choices, and what is left of one when its first inputs are fixed. -/
abbrev Ky : Type := Nat → Bool
def sub (f : Ky) (k i : Nat) : Ky := fun c => decide (c < 256) && f (i * 2 ^ (8 - k) + c % 2 ^ (8 - k))
def kF : Ky := fun _ => false
def kT : Ky := fun c => decide (c < 256)
def nf (f : Ky) : Prop := ∀ c, 256 ≤ c → f c = false
/-- f takes no notice of the inputs below k -/
def dk (f : Ky) (k : Nat) : Prop := ∀ c, c < 256 → f c = f (c % 2 ^ (8 - k))
def dkB (f : Ky) (k : Nat) : Bool := (List.range 256).all (fun c => f c == f (c % 2 ^ (8 - k)))
theorem dkB_iff {f : Ky} {k : Nat} : dkB f k = true ↔ dk f k := by
  unfold dkB dk
  rw [List.all_eq_true]
  constructor
  · intro h c hc
    have := h c (List.mem_range.mpr hc)
    simpa using this
  · intro h c hc
    have := h c (List.mem_range.mp hc)
    simpa using this
def fdn (f : Ky) : Nat → Nat
  | 0 => 0
  | k + 1 => if dkB f (k + 1) = true then k + 1 else fdn f k
/-- the first input that f depends on, or 8 -/
def fd (f : Ky) : Nat := fdn f 8
theorem nf_ext {f g : Ky} (hf : nf f) (hg : nf g) (h : ∀ c, c < 256 → f c = g c) : f = g := by
  funext c
  by_cases e : c < 256
  · exact h c e
  · rw [hf c (by omega), hg c (by omega)]
theorem nf_sub (f : Ky) (k i : Nat) : nf (sub f k i) := fun c hc => by simp [sub, show ¬ c < 256 by omega]
theorem nf_kF : nf kF := fun c _ => rfl
theorem nf_kT : nf kT := fun c hc => by simp [kT, show ¬ c < 256 by omega]
theorem pw_le {k : Nat} : 2 ^ (8 - k) ≤ 256 := Nat.pow_le_pow_right (by omega) (show 8 - k ≤ 8 by omega)
theorem pw_pos (k : Nat) : 0 < 2 ^ k := Nat.two_pow_pos k
theorem pw_lt {k c : Nat} : c % 2 ^ (8 - k) < 256 := Nat.lt_of_lt_of_le (Nat.mod_lt _ (pw_pos _)) pw_le
theorem pw_split {j k : Nat} (h : j ≤ k) (hk : k ≤ 8) : 2 ^ (8 - j) = 2 ^ (k - j) * 2 ^ (8 - k) := by rw [← Nat.pow_add]; congr 1; omega
theorem sub_in {f : Ky} {k i c : Nat} (hc : c < 256) : sub f k i c = f (i * 2 ^ (8 - k) + c % 2 ^ (8 - k)) := by simp [sub, hc]
theorem dk_0 (f : Ky) : dk f 0 := fun c hc => by rw [Nat.mod_eq_of_lt (show c < 2 ^ (8 - 0) from hc)]
theorem dk_anti {f : Ky} {j k : Nat} (h : dk f k) (hj : j ≤ k) (hk : k ≤ 8) : dk f j := fun c hc => by
  rw [h c hc, h (c % 2 ^ (8 - j)) pw_lt]
  congr 1
  rw [Nat.mod_mod_of_dvd]
  exact ⟨2 ^ (k - j), by rw [pw_split hj hk, Nat.mul_comm]⟩
theorem fdn_le (f : Ky) : ∀ k, fdn f k ≤ k
  | 0 => Nat.le_refl _
  | k + 1 => by
    unfold fdn
    split
    · exact Nat.le_refl _
    · exact Nat.le_succ_of_le (fdn_le f k)
theorem fdn_dk (f : Ky) : ∀ k, dk f (fdn f k)
  | 0 => dk_0 f
  | k + 1 => by
    unfold fdn
    split
    · rename_i h
      exact dkB_iff.mp h
    · exact fdn_dk f k
theorem fdn_max {f : Ky} {j : Nat} (h : dk f j) : ∀ k, j ≤ k → j ≤ fdn f k
  | 0, hj => hj
  | k + 1, hj => by
    unfold fdn
    split
    · exact hj
    · rename_i hn
      refine fdn_max h k ?_
      rcases Nat.lt_or_ge j (k + 1) with q | q
      · omega
      · have : j = k + 1 := by omega
        subst this
        exact absurd (dkB_iff.mpr h) hn
theorem fd_le (f : Ky) : fd f ≤ 8 := fdn_le f 8
theorem fd_dk (f : Ky) : dk f (fd f) := fdn_dk f 8
theorem fd_max {f : Ky} {k : Nat} (h : dk f k) (hk : k ≤ 8) : k ≤ fd f := fdn_max h 8 hk
theorem sub_dk {f : Ky} {k i : Nat} : dk (sub f k i) k := fun c hc => by
  rw [sub_in hc, sub_in pw_lt, Nat.mod_mod]
theorem fd_sub_ge {f : Ky} {k i : Nat} (hk : k ≤ 8) : k ≤ fd (sub f k i) := fd_max sub_dk hk
theorem sub_self {f : Ky} {k : Nat} (hf : nf f) (h : dk f k) : sub f k 0 = f := nf_ext (nf_sub _ _ _) hf (fun c hc => by rw [sub_in hc, Nat.zero_mul, Nat.zero_add, ← h c hc])
theorem sub_sub {f : Ky} {k k' i i' : Nat} (h : k ≤ k') (hk : k' ≤ 8) (hi : i' < 2 ^ (k' - k)) : sub (sub f k i) k' i' = sub f k' (i * 2 ^ (k' - k) + i') := nf_ext (nf_sub _ _ _) (nf_sub _ _ _) (fun c hc => by
  have e1 := pw_split h hk
  have hlt : i' * 2 ^ (8 - k') + c % 2 ^ (8 - k') < 2 ^ (8 - k) := by
    have h1 := Nat.mod_lt c (pw_pos (8 - k'))
    have h2 : (i' + 1) * 2 ^ (8 - k') ≤ 2 ^ (k' - k) * 2 ^ (8 - k') := Nat.mul_le_mul_right _ hi
    rw [Nat.add_mul] at h2
    omega
  rw [sub_in hc, sub_in (Nat.lt_of_lt_of_le hlt pw_le), sub_in hc, Nat.mod_eq_of_lt hlt]
  congr 1
  rw [e1, Nat.add_mul, Nat.mul_assoc]
  omega)
theorem sub_b {f : Ky} {k i b : Nat} (hk : k < 8) (hb : b < 2) : sub (sub f k i) (k + 1) b = sub f (k + 1) (2 * i + b) := by
  rw [sub_sub (by omega) (by omega) (by rw [show k + 1 - k = 1 by omega]; exact hb), show k + 1 - k = 1 by omega, Nat.pow_one, Nat.mul_comm]
theorem sub_0 {f : Ky} {k k' i : Nat} (h : k ≤ k') (hk : k' ≤ 8) : sub (sub f k i) k' 0 = sub f k' (i * 2 ^ (k' - k)) := by
  rw [sub_sub h hk (pw_pos _), Nat.add_zero]
theorem mod_split (c k : Nat) (hk : k < 8) : c % 2 ^ (8 - k) = c / 2 ^ (7 - k) % 2 * 2 ^ (7 - k) + c % 2 ^ (7 - k) := by
  rw [show 8 - k = 7 - k + 1 by omega, Nat.pow_succ, Nat.mod_mul, Nat.mul_comm, Nat.add_comm]
def bn (b : Bool) : Nat := if b then 1 else 0
theorem bn_lt (b : Bool) : bn b < 2 := by cases b <;> decide
theorem cb_bn (k c : Nat) : bn (cb k c) = c / 2 ^ (7 - k) % 2 := by
  unfold cb bn
  rcases Nat.mod_two_eq_zero_or_one (c / 2 ^ (7 - k)) with h | h <;> simp [h]
theorem sub_bit {g : Ky} {k c : Nat} (hk : k < 8) (h : dk g k) (hc : c < 256) : g c = sub g (k + 1) (bn (cb k c)) c := by
  rw [sub_in hc, cb_bn, h c hc, mod_split c k hk, show 8 - (k + 1) = 7 - k by omega]
theorem key_ext {g h : Ky} {k : Nat} (hk : k < 8) (hg : dk g k) (hh : dk h k) (ng : nf g) (nh : nf h) (h0 : sub g (k + 1) 0 = sub h (k + 1) 0) (h1 : sub g (k + 1) 1 = sub h (k + 1) 1) : g = h := nf_ext ng nh (fun c hc => by
  rw [sub_bit hk hg hc, sub_bit hk hh hc]
  cases cb k c
  · exact congrFun h0 c
  · exact congrFun h1 c)
theorem key_same {g : Ky} {k : Nat} (hk : k < 8) (hg : dk g k) (ng : nf g) (h : sub g (k + 1) 0 = sub g (k + 1) 1) : g = sub g (k + 1) 0 := nf_ext ng (nf_sub _ _ _) (fun c hc => by
  rw [sub_bit hk hg hc]
  cases cb k c
  · rfl
  · exact (congrFun h c).symm)
theorem fd_ne {g : Ky} (h : fd g < 8) (ng : nf g) : sub g (fd g + 1) 0 ≠ sub g (fd g + 1) 1 := fun e => by
  have e2 := key_same h (fd_dk g) ng e
  have h3 : dk g (fd g + 1) := by
    have := sub_dk (f := g) (k := fd g + 1) (i := 0)
    rw [← e2] at this
    exact this
  have := fd_max h3 (by omega)
  omega
theorem dk_sub1 {g : Ky} {k i : Nat} (hg : dk g k) (hi : i < 2 ^ k) (hk : k ≤ 8) : sub g k i = sub g k 0 := nf_ext (nf_sub _ _ _) (nf_sub _ _ _) (fun c hc => by
  have hm := Nat.mod_lt c (pw_pos (8 - k))
  have h2 : (i + 1) * 2 ^ (8 - k) ≤ 2 ^ k * 2 ^ (8 - k) := Nat.mul_le_mul_right _ hi
  rw [← Nat.pow_add, show k + (8 - k) = 8 by omega, Nat.add_mul] at h2
  rw [sub_in hc, sub_in hc, hg _ (by omega), Nat.zero_mul, Nat.zero_add, Nat.add_comm, Nat.add_mul_mod_self_right]
  rw [Nat.mod_mod])
theorem fd_is {g : Ky} {k : Nat} (hk : k < 8) (hg : dk g k) (h : sub g (k + 1) 0 ≠ sub g (k + 1) 1) : fd g = k := by
  have h1 := fd_max hg (by omega)
  rcases Nat.lt_or_ge (fd g) (k + 1) with q | q
  · omega
  · exfalso
    apply h
    have h2 := dk_anti (fd_dk g) q (fd_le g)
    exact (dk_sub1 h2 (show 1 < 2 ^ (k + 1) by rw [Nat.pow_succ]; have := pw_pos k; omega) (by omega)).symm
theorem key_const {g : Ky} (ng : nf g) (h : fd g = 8) : g = kF ∨ g = kT := by
  have h1 := fd_dk g
  rw [h] at h1
  cases e : g 0 with
  | false =>
    refine Or.inl (nf_ext ng nf_kF (fun c hc => ?_))
    rw [h1 c hc, Nat.mod_one, e]
    rfl
  | true =>
    refine Or.inr (nf_ext ng nf_kT (fun c hc => ?_))
    rw [h1 c hc, Nat.mod_one, e]
    simp [kT, hc]
theorem fd_kF : fd kF = 8 := Nat.le_antisymm (fd_le _) (fd_max (fun c hc => rfl) (Nat.le_refl _))
theorem fd_kT : fd kT = 8 := Nat.le_antisymm (fd_le _) (fd_max (fun c hc => by simp [kT, hc, Nat.mod_one]) (Nat.le_refl _))
theorem kFT : kF ≠ kT := fun e => by
  have := congrFun e 0
  simp [kF, kT] at this
/-- how deep a function's multiplexers go -/
def dp : Nat → Ky → Nat
  | 0, _ => 0
  | n + 1, f => if fd f = 8 then 0 else 1 + max (dp n (sub f (fd f + 1) 0)) (dp n (sub f (fd f + 1) 1))
theorem dp_fuel : ∀ n f, 8 ≤ fd f + n → dp (n + 1) f = dp n f
  | 0, f, h => by
    have : fd f = 8 := by have := fd_le f; omega
    simp [dp, this]
  | n + 1, f, h => by
    by_cases e : fd f = 8
    · simp [dp, e]
    · have h8 : fd f < 8 := by have := fd_le f; omega
      have a0 := fd_sub_ge (f := f) (i := 0) (show fd f + 1 ≤ 8 by omega)
      have a1 := fd_sub_ge (f := f) (i := 1) (show fd f + 1 ≤ 8 by omega)
      show (if fd f = 8 then 0 else 1 + max (dp (n + 1) (sub f (fd f + 1) 0)) (dp (n + 1) (sub f (fd f + 1) 1))) = (if fd f = 8 then 0 else 1 + max (dp n (sub f (fd f + 1) 0)) (dp n (sub f (fd f + 1) 1)))
      rw [if_neg e, if_neg e, dp_fuel n _ (by omega), dp_fuel n _ (by omega)]
theorem dp_up : ∀ d n f, 8 ≤ fd f + n → dp (n + d) f = dp n f
  | 0, _, _, _ => rfl
  | d + 1, n, f, h => by
    rw [show n + (d + 1) = n + d + 1 by omega, dp_fuel (n + d) f (by omega)]
    exact dp_up d n f h
theorem dp_step {f : Ky} (h : fd f < 8) : dp 8 f = 1 + max (dp 8 (sub f (fd f + 1) 0)) (dp 8 (sub f (fd f + 1) 1)) := by
  have a0 := fd_sub_ge (f := f) (i := 0) (show fd f + 1 ≤ 8 by omega)
  have a1 := fd_sub_ge (f := f) (i := 1) (show fd f + 1 ≤ 8 by omega)
  show (if fd f = 8 then 0 else 1 + max (dp 7 (sub f (fd f + 1) 0)) (dp 7 (sub f (fd f + 1) 1))) = _
  rw [if_neg (by omega), dp_fuel 7 _ (by omega), dp_fuel 7 _ (by omega)]
theorem dp_const {f : Ky} (h : fd f = 8) : dp 8 f = 0 := by simp [dp, h]
theorem dp_le : ∀ n f, dp n f ≤ n
  | 0, _ => Nat.le_refl _
  | n + 1, f => by
    unfold dp
    have h0 := dp_le n (sub f (fd f + 1) 0)
    have h1 := dp_le n (sub f (fd f + 1) 1)
    split <;> omega
/-- how many multiplexers a choice goes through -/
def wl : Nat → Ky → Nat → Nat
  | 0, _, _ => 0
  | n + 1, f, c => if fd f = 8 then 0 else 1 + wl n (sub f (fd f + 1) (bn (cb (fd f) c))) c
theorem wl_le : ∀ n f c, wl n f c ≤ n
  | 0, _, _ => Nat.le_refl _
  | n + 1, f, c => by
    unfold wl
    have h0 := wl_le n (sub f (fd f + 1) (bn (cb (fd f) c))) c
    split <;> omega
/-- is g what is left of one of the first J functions -/
def memK (J : Nat) (fs : Nat → Ky) (g : Ky) : Prop := ∃ j k i, j < J ∧ k ≤ 8 ∧ i < 2 ^ k ∧ g = sub (fs j) k i
theorem mem_fd {J : Nat} {fs : Nat → Ky} {g : Ky} (h : memK J fs g) : ∃ j i, j < J ∧ i < 2 ^ fd g ∧ g = sub (fs j) (fd g) i := by
  obtain ⟨j, k, i, hj, hk, hi, e⟩ := h
  have h1 : k ≤ fd g := by
    rw [e]
    exact fd_sub_ge hk
  refine ⟨j, i * 2 ^ (fd g - k), hj, ?_, ?_⟩
  · have : 2 ^ fd g = 2 ^ k * 2 ^ (fd g - k) := by rw [← Nat.pow_add]; congr 1; omega
    rw [this]
    exact (Nat.mul_lt_mul_right (pw_pos _)).mpr hi
  · have h2 : sub g (fd g) 0 = g := sub_self (by rw [e]; exact nf_sub _ _ _) (fd_dk g)
    rw [← sub_0 h1 (fd_le g), ← e, h2]
theorem mem_child {J : Nat} {fs : Nat → Ky} {g : Ky} {b : Nat} (h : memK J fs g) (hf : fd g < 8) (hb : b < 2) : memK J fs (sub g (fd g + 1) b) := by
  obtain ⟨j, i, hj, hi, e⟩ := mem_fd h
  refine ⟨j, fd g + 1, 2 * i + b, hj, by omega, ?_, ?_⟩
  · rw [Nat.pow_succ]; omega
  · have e2 := sub_b (f := fs j) (i := i) hf hb
    rw [← e] at e2
    exact e2
theorem mem_nf {J : Nat} {fs : Nat → Ky} {g : Ky} (h : memK J fs g) : nf g := by
  obtain ⟨j, k, i, -, -, -, e⟩ := h
  rw [e]
  exact nf_sub _ _ _
theorem mem_mono {J J' : Nat} {fs : Nat → Ky} {g : Ky} (h : memK J fs g) (hJ : J ≤ J') : memK J' fs g := by
  obtain ⟨j, k, i, h1, h2⟩ := h
  exact ⟨j, k, i, by omega, h2⟩
theorem mem_congr {J : Nat} {fs fs' : Nat → Ky} {g : Ky} (h : memK J fs g) (e : ∀ j, j < J → fs j = fs' j) : memK J fs' g := by
  obtain ⟨j, k, i, h1, h2, h3, h4⟩ := h
  exact ⟨j, k, i, h1, h2, h3, by rw [← e j h1]; exact h4⟩
theorem mem_root {J : Nat} {fs : Nat → Ky} {j : Nat} (hj : j < J) (hn : nf (fs j)) : memK J fs (fs j) := ⟨j, 0, 0, hj, by omega, by decide, (sub_self hn (dk_0 _)).symm⟩
/-- pigeons -/
theorem pigeon : ∀ (m n : Nat) (f : Nat → Nat), (∀ i, i < n → f i < m) → (∀ i, i < n → ∀ j, j < n → f i = f j → i = j) → n ≤ m
  | 0, n, f, h1, h2 => by
    rcases Nat.eq_zero_or_pos n with h | h
    · omega
    · exact absurd (h1 0 h) (Nat.not_lt_zero _)
  | m + 1, 0, f, h1, h2 => Nat.zero_le _
  | m + 1, n + 1, f, h1, h2 => by
    refine Nat.succ_le_succ (pigeon m n (fun j => if f j = m then f n else f j) (fun j hj => ?_) (fun i hi j hj e => ?_))
    · show (if f j = m then f n else f j) < m
      split
      · rename_i e
        have a1 := h1 n (by omega)
        have a2 : f n ≠ m := fun e2 => by
          have := h2 j (by omega) n (by omega) (e.trans e2.symm)
          omega
        omega
      · have := h1 j (by omega)
        omega
    · have e' : (if f i = m then f n else f i) = (if f j = m then f n else f j) := e
      split at e'
      · rename_i ei
        split at e'
        · rename_i ej
          exact h2 i (by omega) j (by omega) (ei.trans ej.symm)
        · have := h2 n (by omega) j (by omega) e'
          omega
      · split at e'
        · have := h2 i (by omega) n (by omega) e'
          omega
        · exact h2 i (by omega) j (by omega) e'
def pat (g : Ky) : Nat := bn (g 0) + 2 * bn (g 1) + 4 * bn (g 2) + 8 * bn (g 3) + 16 * bn (g 4) + 32 * bn (g 5) + 64 * bn (g 6) + 128 * bn (g 7)
theorem bn_inj {a b : Bool} (h : bn a = bn b) : a = b := by cases a <;> cases b <;> first | rfl | (simp [bn] at h)
theorem pat_lt (g : Ky) : pat g < 256 := by
  unfold pat
  have := bn_lt (g 0); have := bn_lt (g 1); have := bn_lt (g 2); have := bn_lt (g 3)
  have := bn_lt (g 4); have := bn_lt (g 5); have := bn_lt (g 6); have := bn_lt (g 7)
  omega
theorem pat_inj {g h : Ky} (ng : nf g) (nh : nf h) (dg : dk g 5) (dh : dk h 5) (e : pat g = pat h) : g = h := by
  unfold pat at e
  have := bn_lt (g 0); have := bn_lt (g 1); have := bn_lt (g 2); have := bn_lt (g 3)
  have := bn_lt (g 4); have := bn_lt (g 5); have := bn_lt (g 6); have := bn_lt (g 7)
  have := bn_lt (h 0); have := bn_lt (h 1); have := bn_lt (h 2); have := bn_lt (h 3)
  have := bn_lt (h 4); have := bn_lt (h 5); have := bn_lt (h 6); have := bn_lt (h 7)
  have e0 : bn (g 0) = bn (h 0) := by omega
  have e1 : bn (g 1) = bn (h 1) := by omega
  have e2 : bn (g 2) = bn (h 2) := by omega
  have e3 : bn (g 3) = bn (h 3) := by omega
  have e4 : bn (g 4) = bn (h 4) := by omega
  have e5 : bn (g 5) = bn (h 5) := by omega
  have e6 : bn (g 6) = bn (h 6) := by omega
  have e7 : bn (g 7) = bn (h 7) := by omega
  refine nf_ext ng nh (fun c hc => ?_)
  rw [dg c hc, dh c hc]
  have hm : c % 2 ^ (8 - 5) < 8 := Nat.mod_lt _ (by decide)
  generalize c % 2 ^ (8 - 5) = r at hm
  have : r = 0 ∨ r = 1 ∨ r = 2 ∨ r = 3 ∨ r = 4 ∨ r = 5 ∨ r = 6 ∨ r = 7 := by omega
  rcases this with rfl | rfl | rfl | rfl | rfl | rfl | rfl | rfl
  · exact bn_inj e0
  · exact bn_inj e1
  · exact bn_inj e2
  · exact bn_inj e3
  · exact bn_inj e4
  · exact bn_inj e5
  · exact bn_inj e6
  · exact bn_inj e7
/-- there are not more than 876 such functions, the constants included -/
theorem key_bound {J N : Nat} {fs : Nat → Ky} {ks : Nat → Ky} (hJ : J ≤ 20) (hm : ∀ n, n < N → memK J fs (ks n) ∨ (fd (ks n) = 8 ∧ nf (ks n))) (hi : ∀ i, i < N → ∀ j, j < N → ks i = ks j → i = j) : N ≤ 876 := by
  have hc : ∀ n, ∃ q : Nat, n < N → q < 876 ∧ ((5 ≤ fd (ks n) ∧ q = pat (ks n)) ∨ (fd (ks n) < 5 ∧ ∃ j i, j < 20 ∧ i < 2 ^ fd (ks n) ∧ ks n = sub (fs j) (fd (ks n)) i ∧ q = 256 + 20 * (2 ^ fd (ks n) - 1) + j * 2 ^ fd (ks n) + i)) := by
    intro n
    by_cases hn : n < N
    · by_cases h5 : fd (ks n) < 5
      · have hmm : memK J fs (ks n) := (hm n hn).elim id (fun h => by omega)
        obtain ⟨j, i, hj, hi2, e⟩ := mem_fd hmm
        refine ⟨256 + 20 * (2 ^ fd (ks n) - 1) + j * 2 ^ fd (ks n) + i, fun _ => ⟨?_, Or.inr ⟨h5, j, i, by omega, hi2, e, rfl⟩⟩⟩
        generalize fd (ks n) = k at h5 hi2
        have : k = 0 ∨ k = 1 ∨ k = 2 ∨ k = 3 ∨ k = 4 := by omega
        rcases this with rfl | rfl | rfl | rfl | rfl <;> simp at hi2 ⊢ <;> omega
      · exact ⟨pat (ks n), fun _ => ⟨Nat.lt_of_lt_of_le (pat_lt _) (by decide), Or.inl ⟨by omega, rfl⟩⟩⟩
    · exact ⟨0, fun h => absurd h hn⟩
  refine pigeon 876 N (fun n => Classical.choose (hc n)) (fun n hn => (Classical.choose_spec (hc n) hn).1) (fun a ha b hb e => hi a ha b hb ?_)
  have sa := (Classical.choose_spec (hc a) ha).2
  have sb := (Classical.choose_spec (hc b) hb).2
  have e' : Classical.choose (hc a) = Classical.choose (hc b) := e
  rw [← e'] at sb
  generalize Classical.choose (hc a) = q at sa sb
  have nfA : ∀ n, n < N → nf (ks n) := fun n hn => (hm n hn).elim mem_nf (fun h => h.2)
  rcases sa with ⟨a1, a2⟩ | ⟨a1, ja, ia, a2, a3, a4, a5⟩
  · rcases sb with ⟨b1, b2⟩ | ⟨b1, jb, ib, b2, b3, b4, b5⟩
    · exact pat_inj (nfA a ha) (nfA b hb) (dk_anti (fd_dk _) a1 (fd_le _)) (dk_anti (fd_dk _) b1 (fd_le _)) (a2.symm.trans b2)
    · have := pat_lt (ks a)
      omega
  · rcases sb with ⟨b1, b2⟩ | ⟨b1, jb, ib, b2, b3, b4, b5⟩
    · have := pat_lt (ks b)
      omega
    · rw [a4, b4]
      generalize fd (ks a) = k at a1 a3 a5
      generalize fd (ks b) = l at b1 b3 b5
      have hk : k = 0 ∨ k = 1 ∨ k = 2 ∨ k = 3 ∨ k = 4 := by omega
      have hl : l = 0 ∨ l = 1 ∨ l = 2 ∨ l = 3 ∨ l = 4 := by omega
      have : k = l ∧ ja = jb ∧ ia = ib := by
        rcases hk with rfl | rfl | rfl | rfl | rfl <;> rcases hl with rfl | rfl | rfl | rfl | rfl <;> simp at a3 b3 a5 b5 <;> omega
      obtain ⟨rfl, rfl, rfl⟩ := this
      rfl
def cnP (ks : Nat → Ky) (p : Ky → Bool) : Nat → Nat
  | 0 => 0
  | n + 1 => cnP ks p n + bn (p (ks n))
theorem cnP_congr {ks ks' : Nat → Ky} {p p' : Ky → Bool} : ∀ n, (∀ i, i < n → p (ks i) = p' (ks' i)) → cnP ks p n = cnP ks' p' n
  | 0, _ => rfl
  | n + 1, h => by
    unfold cnP
    rw [cnP_congr n (fun i hi => h i (by omega)), h n (by omega)]
theorem cnP_less {ks : Nat → Ky} {p p' : Ky → Bool} (hp : ∀ g, p' g = true → p g = true) : ∀ n, cnP ks p' n ≤ cnP ks p n
  | 0 => Nat.le_refl _
  | n + 1 => by
    unfold cnP
    have h1 := cnP_less (ks := ks) hp n
    have h2 : bn (p' (ks n)) ≤ bn (p (ks n)) := by
      cases e : p' (ks n) with
      | false => simp [bn]
      | true => rw [hp _ e]; exact Nat.le_refl _
    omega
theorem cnP_drop {ks : Nat → Ky} {p p' : Ky → Bool} (hp : ∀ g, p' g = true → p g = true) : ∀ n i, i < n → p (ks i) = true → p' (ks i) = false → cnP ks p' n + 1 ≤ cnP ks p n
  | 0, i, hi, _, _ => absurd hi (Nat.not_lt_zero _)
  | n + 1, i, hi, h1, h2 => by
    unfold cnP
    by_cases e : i = n
    · subst e
      rw [h1, h2]
      have := cnP_less (ks := ks) hp i
      simp [bn]
      omega
    · have h3 := cnP_drop (ks := ks) hp n i (by omega) h1 h2
      have h4 : bn (p' (ks n)) ≤ bn (p (ks n)) := by
        cases e : p' (ks n) with
        | false => simp [bn]
        | true => rw [hp _ e]; exact Nat.le_refl _
      omega
theorem cnP_le {ks' : Nat → Ky} {N' : Nat} {ks : Nat → Ky} : ∀ (N : Nat) (p : Ky → Bool), (∀ i, i < N → ∀ j, j < N → ks i = ks j → i = j) → (∀ i, i < N → p (ks i) = true → ∃ i', i' < N' ∧ ks' i' = ks i) → cnP ks p N ≤ cnP ks' p N'
  | 0, p, _, _ => Nat.zero_le _
  | n + 1, p, hi, hm => by
    show cnP ks p n + bn (p (ks n)) ≤ cnP ks' p N'
    cases e : p (ks n) with
    | false =>
      have := cnP_le n p (fun i h1 j h2 => hi i (by omega) j (by omega)) (fun i h1 => hm i (by omega))
      simp [bn]
      exact this
    | true =>
      obtain ⟨i', h1, h2⟩ := hm n (by omega) e
      classical
      let p' : Ky → Bool := fun g => p g && decide (g ≠ ks n)
      have hp : ∀ g, p' g = true → p g = true := fun g hg => by
        have : (p g && decide (g ≠ ks n)) = true := hg
        simp at this
        exact this.1
      have q1 : cnP ks p n = cnP ks p' n := cnP_congr n (fun i h => by
        show p (ks i) = (p (ks i) && decide (ks i ≠ ks n))
        have : ks i ≠ ks n := fun e2 => by
          have := hi i (by omega) n (by omega) e2
          omega
        simp [this])
      have q2 := cnP_drop (ks := ks') hp N' i' h1 (by rw [h2]; exact e) (by
        show (p (ks' i') && decide (ks' i' ≠ ks n)) = false
        simp [h2])
      have q3 := cnP_le n p' (fun i h1 j h2 => hi i (by omega) j (by omega)) (fun i h1 h2 => hm i (by omega) (hp _ h2))
      rw [q1]
      simp [bn]
      omega
/-- the deepest -/
def mxP (ks : Nat → Ky) : Nat → Nat
  | 0 => 0
  | n + 1 => max (mxP ks n) (dp 8 (ks n))
theorem mxP_ge {ks : Nat → Ky} : ∀ n i, i < n → dp 8 (ks i) ≤ mxP ks n
  | 0, i, hi => absurd hi (Nat.not_lt_zero _)
  | n + 1, i, hi => by
    unfold mxP
    by_cases e : i = n
    · subst e; omega
    · have := mxP_ge (ks := ks) n i (by omega)
      omega
theorem mxP_le {ks : Nat → Ky} {B : Nat} : ∀ n, (∀ i, i < n → dp 8 (ks i) ≤ B) → mxP ks n ≤ B
  | 0, _ => Nat.zero_le _
  | n + 1, h => by
    unfold mxP
    have h1 := mxP_le (ks := ks) n (fun i hi => h i (by omega))
    have h2 := h n (by omega)
    omega
theorem mxP_8 (ks : Nat → Ky) (n : Nat) : mxP ks n ≤ 8 := mxP_le n (fun i _ => dp_le 8 _)
theorem cnP_n (ks : Nat → Ky) (p : Ky → Bool) : ∀ n, cnP ks p n ≤ n
  | 0 => Nat.le_refl _
  | n + 1 => by
    unfold cnP
    have := cnP_n ks p n
    have := bn_lt (p (ks n))
    omega
