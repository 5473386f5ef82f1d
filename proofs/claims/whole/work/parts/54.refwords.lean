/-! The reference: tables of words. -/
theorem ru_w_self (t : wR) : ru_w t (rt_w t) = t := rfl
theorem ru_va_self (t : wR) : ru_va t (rt_va t) = t := rfl
theorem ru_it_self (t : wR) : ru_tb (ru_in t (rt_in t)) (rt_tb t) = t := rfl
def tw (w : Nat → Int64) (T : Nat) : Ky := tt (fun k => w (4 * T + k))
theorem tw_in {w : Nat → Int64} {T c : Nat} (hc : c < 256) : tw w T c = lb (w (4 * T + c / 64)) (c % 64) := lb_tt hc
theorem nf_tw (w : Nat → Int64) (T : Nat) : nf (tw w T) := nf_tt _
theorem tw_other {w w' : Nat → Int64} {T : Nat} (h : ∀ k, k / 4 ≠ T → w' k = w k) {T' : Nat} (hT : T' ≠ T) : tw w' T' = tw w T' := nf_ext (nf_tw _ _) (nf_tw _ _) (fun c hc => by
  rw [tw_in hc, tw_in hc, h _ (by omega)])
theorem tw_ext {w : Nat → Int64} {a b : Nat} : tw w a = tw w b ↔ ∀ k, k < 4 → w (4 * a + k) = w (4 * b + k) := by
  constructor
  · intro h k hk
    refine lb_ext (fun i hi => ?_)
    have := congrFun h (64 * k + i)
    rw [tw_in (by omega), tw_in (by omega), show (64 * k + i) / 64 = k by omega, show (64 * k + i) % 64 = i by omega] at this
    exact this
  · intro h
    refine nf_ext (nf_tw _ _) (nf_tw _ _) (fun c hc => ?_)
    rw [tw_in hc, tw_in hc, h (c / 64) (by omega)]
theorem ix4 {T c : Nat} (hT : T < 2022) (hc : c < 256) : ((4 : Int32) * nI T + (nI c >>> ((6 : Int32) &&& 31))) = nI (4 * T + c / 64) := by
  rw [show (4 : Int32) = nI 4 from rfl, pk_mul, show (6 : Int32) = nI 6 from rfl, nx_shr (by omega) (by omega), nI_add]
def sp_R_truth : cx_S := cx_self 4 (fun j r ws R => ∃ x n l m t q T c, ws = wd x n l m (wq t q) ∧ j = 25 ∧ r = [.inl (nI T), .inl (nI c)] ∧ T < 2022 ∧ c < 256 ∧ R (.inl (some (.inl (b2 (tw (rt_w t) T c))))) ws)
theorem pu_R_truth : ∀ as ws Rq, sp_R_truth as ws Rq → cx_cats as ≤ 3 ∧ ∀ V, cx_cl1 t_R_truth [] [] [] 0 0 Rq V → V 0 (cx_lv0 as 3) [] ws 0 0 := by
  intro as ws Rq h0
  obtain ⟨j, r, fs0, rfl, hj, x, n, l, m, t, q, T, c, rfl, rfl, rfl, hT, hc, h⟩ := cx_self_spec h0
  refine ⟨Nat.le_of_ble_eq_true rfl, fun V hV => hV [] 40 _ _ _ _ _ _ ?_⟩
  have e1 := ix4 hT hc
  conv => whnf
  refine ⟨pk_in (4 * T + c / 64) 8088 (by omega) e1, ?_⟩
  conv => whnf
  rw [e1, nx_c (show 4 * T + c / 64 < 2 ^ 31 by omega), nx_and63 (by omega), lb_sshr1 (Nat.mod_lt _ (by decide)), lc_bit]
  rw [tw_in hc] at h
  dsimp only
  cases hb : lb (rt_w t (4 * T + c / 64)) (c % 64) with
  | true =>
    rw [hb] at h
    refine ⟨fun e => absurd rfl e, fun _ => ?_⟩
    conv => whnf
    exact ⟨fun _ => Or.inr rfl, h⟩
  | false =>
    rw [hb] at h
    refine ⟨fun _ => ?_, fun e => absurd e (by decide)⟩
    conv => whnf
    exact ⟨fun _ => Or.inl rfl, h⟩
def sp_R_set : cx_S := cx_self 4 (fun j r ws R => ∃ x n l m t q T c, ws = wd x n l m (wq t q) ∧ j = 25 ∧ r = [.inl (nI T), .inl (nI c)] ∧ T < 2022 ∧ c < 256 ∧ ∀ w, (∀ k, k / 4 ≠ T → w k = rt_w t k) → (∀ d, d < 256 → tw w T d = (tw (rt_w t) T d || decide (d = c))) → R (.inl none) (wd x n l m (wq (ru_w t w) q)))
set_option maxRecDepth 100000 in
theorem pu_R_set : ∀ as ws Rq, sp_R_set as ws Rq → cx_cats as ≤ 3 ∧ ∀ V, cx_cl1 t_R_set [] [] [] 0 0 Rq V → V 0 (cx_lv0 as 3) [] ws 0 0 := by
  intro as ws Rq h0
  obtain ⟨j, r, fs0, rfl, hj, x, n, l, m, t, q, T, c, rfl, rfl, rfl, hT, hc, h⟩ := cx_self_spec h0
  refine ⟨Nat.le_of_ble_eq_true rfl, fun V hV => hV [] 40 _ _ _ _ _ _ ?_⟩
  have e1 := ix4 hT hc
  have hin : vp_in ((4 : Int32) * nI T + (nI c >>> ((6 : Int32) &&& 31))) 8088 := pk_in (4 * T + c / 64) 8088 (by omega) e1
  conv => whnf
  refine ⟨hin, ?_⟩
  conv => whnf
  refine ⟨hin, ?_⟩
  conv => whnf
  rw [e1, nx_c (show 4 * T + c / 64 < 2 ^ 31 by omega), nx_and63 (by omega)]
  refine h (vp_updL (rt_w t) (4 * T + c / 64) _) (fun k hk => pk_uLn (by omega)) (fun d hd => ?_)
  rw [tw_in hd, tw_in hd]
  by_cases e : d / 64 = c / 64
  · rw [e, pk_uLs, lb_or, lb_shl1 (Nat.mod_lt _ (by decide)) (Nat.mod_lt _ (by decide))]
    congr 1
    by_cases e2 : d = c
    · simp [e2]
    · have : ¬ d % 64 = c % 64 := by omega
      simp [e2, this]
  · have e2 : d ≠ c := fun q => e (by rw [q])
    rw [pk_uLn (by omega)]
    simp [e2]
def sp_R_empty : cx_S := cx_self 4 (fun j r ws R => ∃ x n l m t q T, ws = wd x n l m (wq t q) ∧ j = 25 ∧ r = [.inl (nI T)] ∧ T < 2022 ∧ ∀ w, (∀ k, k / 4 ≠ T → w k = rt_w t k) → (∀ d, d < 256 → tw w T d = false) → R (.inl none) (wd x n l m (wq (ru_w t w) q)))
set_option maxRecDepth 100000 in
theorem pu_R_empty : ∀ as ws Rq, sp_R_empty as ws Rq → cx_cats as ≤ 3 ∧ ∀ V, cx_cl1 t_R_empty [] [] [] 0 0 Rq V → V 0 (cx_lv0 as 3) [] ws 0 0 := by
  intro as ws Rq h0
  obtain ⟨j, r, fs0, rfl, hj, x, n, l, m, t, q, T, rfl, rfl, rfl, hT, h⟩ := cx_self_spec h0
  refine ⟨Nat.le_of_ble_eq_true rfl, fun V hV => ?_⟩
  have loop : ∀ (d k : Nat) (w : Nat → Int64), k + d = 4 → (∀ i, i / 4 ≠ T → w i = rt_w t i) → (∀ i, i < k → w (4 * T + i) = 0) → V 2 [some (.inr (.inr (.inl 25))), some (.inl (nI T)), some (.inl (nI k))] [] (wd x n l m (wq (ru_w t w) q)) 0 0 := by
    intro d
    induction d with
    | zero =>
      intro k w hd h1 h2
      refine hV [] 40 _ _ _ _ _ _ ?_
      conv => whnf
      refine pk_le 4 k (fun _ => ?_) (fun _ => by omega)
      conv => whnf
      refine h w h1 (fun d hd => ?_)
      rw [tw_in hd, h2 _ (by omega), lb_0]
    | succ d ih =>
      intro k w hd h1 h2
      have e1 : ((4 : Int32) * nI T + nI k) = nI (4 * T + k) := by rw [show (4 : Int32) = nI 4 from rfl, pk_mul, nI_add]
      refine hV [2] 40 _ _ _ _ _ _ ?_
      conv => whnf
      refine pk_le 4 k (fun _ => by omega) (fun _ => ?_)
      conv => whnf
      refine ⟨pk_in (4 * T + k) 8088 (by omega) e1, ?_⟩
      conv => whnf
      rw [e1, nx_c (show 4 * T + k < 2 ^ 31 by omega), nI_1]
      dsimp only [ru_w]
      generalize hw' : vp_updL w (4 * T + k) 0 = w'
      refine ih (k + 1) w' (by omega) (fun i hi => ?_) (fun i hi => ?_)
      · rw [← hw', pk_uLn (by omega)]; exact h1 i hi
      · rw [← hw']
        by_cases e : i = k
        · subst e; exact pk_uLs
        · rw [pk_uLn (by omega)]; exact h2 i (by omega)
  refine hV [2] 40 _ _ _ _ _ _ ?_
  conv => whnf
  rw [← nI_0]
  have := loop 4 0 (rt_w t) (by omega) (fun i hi => rfl) (fun i hi => by omega)
  rw [ru_w_self] at this
  exact this
def fl (k c : Nat) : Nat := if c / 2 ^ (7 - k) % 2 = 0 then c + 2 ^ (7 - k) else c - 2 ^ (7 - k)
theorem flI : ∀ k, k < 8 → ∀ c, c < 256 → nI c ^^^ ((128 : Int32) >>> (nI k &&& 31)) = nI (fl k c) := by decide +kernel
theorem fl_lt : ∀ k, k < 8 → ∀ c, c < 256 → fl k c < 256 ∧ fl k c % 2 ^ (7 - k) = c % 2 ^ (7 - k) ∧ (c % 2 ^ (8 - k) = c % 2 ^ (7 - k) ∨ fl k (c % 2 ^ (8 - k)) = c % 2 ^ (7 - k)) := by decide +kernel
theorem dk_fl {f : Ky} {k : Nat} (hk : k < 8) (hd : dk f k) (h : ∀ c, c < 256 → f c = f (fl k c)) : dk f (k + 1) := fun c hc => by
  rw [show 8 - (k + 1) = 7 - k by omega, hd c hc]
  rcases (fl_lt k hk c hc).2.2 with e | e
  · rw [e]
  · rw [h _ pw_lt, e]
theorem fl_dk {f : Ky} {k : Nat} (hk : k < 8) (hd : dk f (k + 1)) {c : Nat} (hc : c < 256) : f c = f (fl k c) := by
  rw [hd c hc, hd _ (fl_lt k hk c hc).1, show 8 - (k + 1) = 7 - k by omega, (fl_lt k hk c hc).2.1]
def sp_R_depends : cx_S := cx_self 4 (fun j r ws R => ∃ x n l m t q T, ws = wd x n l m (wq t q) ∧ j = 25 ∧ r = [.inl (nI T)] ∧ T < 2022 ∧ R (.inl (some (.inl (nI (fd (tw (rt_w t) T)))))) ws)
theorem pu_R_depends : ∀ as ws Rq, sp_R_depends as ws Rq → cx_cats as ≤ 4 ∧ ∀ V, cx_cl1 t_R_depends [(sp_R_truth, 3, 0, 0)] [] [] 0 0 Rq V → V 0 (cx_lv0 as 4) [] ws 0 0 := by
  intro as ws Rq h0
  obtain ⟨j, r, fs0, rfl, hj, x, n, l, m, t, q, T, rfl, rfl, rfl, hT, h⟩ := cx_self_spec h0
  refine ⟨Nat.le_of_ble_eq_true rfl, fun V hV => ?_⟩
  have inner : ∀ (d c k : Nat), c + d = 256 → k < 8 → dk (tw (rt_w t) T) k → (∀ i, i < c → tw (rt_w t) T i = tw (rt_w t) T (fl k i)) → (∀ s3, dk (tw (rt_w t) T) (k + 1) → V 46 [some (.inr (.inr (.inl 25))), some (.inl (nI T)), some (.inl (nI k)), s3] [] (wd x n l m (wq t q)) 0 0) →
      V 10 [some (.inr (.inr (.inl 25))), some (.inl (nI T)), some (.inl (nI k)), some (.inl (nI c))] [] (wd x n l m (wq t q)) 0 0 := by
    intro d
    induction d with
    | zero =>
      intro c k hd hk h1 h2 hK
      refine hV [46] 40 _ _ _ _ _ _ ?_
      conv => whnf
      refine pk_le 256 c (fun _ => ?_) (fun _ => by omega)
      exact hK _ (dk_fl hk h1 (fun i hi => h2 i (by omega)))
    | succ d ih =>
      intro c k hd hk h1 h2 hK
      refine hV [10, 46] 40 _ _ _ _ _ _ ?_
      conv => whnf
      refine pk_le 256 c (fun _ => by omega) (fun _ => ?_)
      conv => whnf
      refine ⟨x, n, l, m, t, q, T, c, rfl, rfl, rfl, hT, by omega, ?_⟩
      conv => whnf
      rw [flI k hk c (by omega)]
      refine ⟨x, n, l, m, t, q, T, fl k c, rfl, rfl, rfl, hT, (fl_lt k hk c (by omega)).1, ?_⟩
      conv => whnf
      refine ⟨fun e => ?_, fun e => ?_⟩
      · have e2 : tw (rt_w t) T c = tw (rt_w t) T (fl k c) := by
          cases h3 : tw (rt_w t) T c <;> cases h4 : tw (rt_w t) T (fl k c)
          · rfl
          · rw [h3, h4] at e; exact absurd e (by decide)
          · rw [h3, h4] at e; exact absurd e (by decide)
          · rfl
        conv => whnf
        rw [nI_1]
        refine ih (c + 1) k (by omega) hk h1 (fun i hi => ?_) hK
        by_cases ei : i = c
        · subst ei; exact e2
        · exact h2 i (by omega)
      · conv => whnf
        refine ⟨fun e => absurd e (by decide), ?_⟩
        have e3 : fd (tw (rt_w t) T) = k := by
          have g1 := fd_max h1 (by omega)
          rcases Nat.lt_or_ge (fd (tw (rt_w t) T)) (k + 1) with g | g
          · omega
          · exfalso
            have g2 := fl_dk hk (dk_anti (fd_dk _) g (fd_le _)) (c := c) (by omega)
            exact e (by rw [← g2])
        rw [e3] at h
        exact h
  have outer : ∀ (d k : Nat) (s3 : Option cx_V), k + d = 8 → dk (tw (rt_w t) T) k → V 2 [some (.inr (.inr (.inl 25))), some (.inl (nI T)), some (.inl (nI k)), s3] [] (wd x n l m (wq t q)) 0 0 := by
    intro d
    induction d with
    | zero =>
      intro k s3 hd h1
      have : k = 8 := by omega
      subst this
      refine hV [] 40 _ _ _ _ _ _ ?_
      conv => whnf
      refine ⟨fun _ => ?_, fun e => absurd (by decide) e⟩
      conv => whnf
      refine ⟨fun e => absurd e (by decide), ?_⟩
      have e3 : fd (tw (rt_w t) T) = 8 := Nat.le_antisymm (fd_le _) (fd_max h1 (Nat.le_refl _))
      rw [e3] at h
      exact h
    | succ d ih =>
      intro k s3 hd h1
      refine hV [10] 40 _ _ _ _ _ _ ?_
      conv => whnf
      refine pk_le 8 k (fun _ => by omega) (fun _ => ?_)
      conv => whnf
      rw [← nI_0]
      refine inner 256 0 k (by omega) (by omega) h1 (fun i hi => by omega) (fun s3 h2 => ?_)
      refine hV [2] 40 _ _ _ _ _ _ ?_
      conv => whnf
      rw [nI_1]
      exact ih (k + 1) s3 (by omega) h2
  refine hV [2] 40 _ _ _ _ _ _ ?_
  conv => whnf
  rw [← nI_0]
  exact outer 8 0 none (by omega) (dk_0 _)
def sp_R_same : cx_S := cx_self 4 (fun j r ws R => ∃ x n l m t q a b, ws = wd x n l m (wq t q) ∧ j = 25 ∧ r = [.inl (nI a), .inl (nI b)] ∧ a < 2022 ∧ b < 2022 ∧ ∀ e : Bool, (e = true ↔ tw (rt_w t) a = tw (rt_w t) b) → R (.inl (some (.inl (b2 e)))) ws)
theorem pu_R_same : ∀ as ws Rq, sp_R_same as ws Rq → cx_cats as ≤ 5 ∧ ∀ V, cx_cl1 t_R_same [] [] [] 0 0 Rq V → V 0 (cx_lv0 as 5) [] ws 0 0 := by
  intro as ws Rq h0
  obtain ⟨j, r, fs0, rfl, hj, x, n, l, m, t, q, a, b, rfl, rfl, rfl, ha, hb, h⟩ := cx_self_spec h0
  refine ⟨Nat.le_of_ble_eq_true rfl, fun V hV => ?_⟩
  have loop : ∀ (d k : Nat) (e : Bool), k + d = 4 → (e = true ↔ ∀ i, i < k → rt_w t (4 * a + i) = rt_w t (4 * b + i)) → V 5 [some (.inr (.inr (.inl 25))), some (.inl (nI a)), some (.inl (nI b)), some (.inl (b2 e)), some (.inl (nI k))] [] (wd x n l m (wq t q)) 0 0 := by
    intro d
    induction d with
    | zero =>
      intro k e hd he
      refine hV [] 40 _ _ _ _ _ _ ?_
      conv => whnf
      refine pk_le 4 k (fun _ => ?_) (fun _ => by omega)
      conv => whnf
      refine ⟨fun _ => b2_01 e, h e (he.trans ?_)⟩
      rw [tw_ext, show k = 4 by omega]
    | succ d ih =>
      intro k e hd he
      have ea : ((4 : Int32) * nI a + nI k) = nI (4 * a + k) := by rw [show (4 : Int32) = nI 4 from rfl, pk_mul, nI_add]
      have eb : ((4 : Int32) * nI b + nI k) = nI (4 * b + k) := by rw [show (4 : Int32) = nI 4 from rfl, pk_mul, nI_add]
      refine hV [5] 40 _ _ _ _ _ _ ?_
      conv => whnf
      refine pk_le 4 k (fun _ => by omega) (fun _ => ?_)
      conv => whnf
      cases e with
      | false =>
        refine ⟨fun _ => ?_, fun e => absurd rfl e⟩
        conv => whnf
        rw [nI_1]
        refine ih (k + 1) false (by omega) ⟨fun q => (by cases q), fun q => he.mpr (fun i hi => q i (by omega))⟩
      | true =>
        refine ⟨fun e => absurd e (by decide), fun _ => ?_⟩
        conv => whnf
        refine ⟨pk_in (4 * a + k) 8088 (by omega) ea, ?_⟩
        conv => whnf
        refine ⟨pk_in (4 * b + k) 8088 (by omega) eb, ?_⟩
        conv => whnf
        rw [ea, eb, nx_c (show 4 * a + k < 2 ^ 31 by omega), nx_c (show 4 * b + k < 2 ^ 31 by omega)]
        refine ⟨fun e2 => ?_, fun e2 => ?_⟩
        · have e3 : rt_w t (4 * a + k) ≠ rt_w t (4 * b + k) := fun q => e2 (lc_eq.mpr q)
          conv => whnf
          rw [nI_1]
          exact ih (k + 1) false (by omega) ⟨fun q => (by cases q), fun q => absurd (q k (by omega)) e3⟩
        · have e3 : rt_w t (4 * a + k) = rt_w t (4 * b + k) := lc_eq.mp e2
          conv => whnf
          rw [nI_1]
          refine ih (k + 1) true (by omega) ⟨fun _ i hi => ?_, fun _ => rfl⟩
          by_cases ei : i = k
          · subst ei; exact e3
          · exact he.mp rfl i (by omega)
  refine hV [5] 40 _ _ _ _ _ _ ?_
  conv => whnf
  rw [← nI_0]
  exact loop 4 0 true (by omega) ⟨fun _ i hi => by omega, fun _ => rfl⟩
def fxx (k b c : Nat) : Nat := c / 2 ^ (8 - k) * 2 ^ (8 - k) + b * 2 ^ (7 - k) + c % 2 ^ (7 - k)
theorem fxI1 : ∀ k, k < 8 → ∀ c, c < 256 → nI c ||| ((128 : Int32) >>> (nI k &&& 31)) = nI (fxx k 1 c) := by decide +kernel
theorem fxI0 : ∀ k, k < 8 → ∀ c, c < 256 → nI c &&& (((128 : Int32) >>> (nI k &&& 31)) ^^^ (-1)) = nI (fxx k 0 c) := by decide +kernel
theorem fxx_lt : ∀ k, k < 8 → ∀ b, b < 2 → ∀ c, c < 256 → fxx k b c < 256 ∧ fxx k b c % 2 ^ (8 - k) = b * 2 ^ (7 - k) + c % 2 ^ (7 - k) := by decide +kernel
theorem fxx_sub {f : Ky} {k b : Nat} (hk : k < 8) (hb : b < 2) (hd : dk f k) {c : Nat} (hc : c < 256) : f (fxx k b c) = sub f (k + 1) b c := by
  obtain ⟨h1, h2⟩ := fxx_lt k hk b hb c hc
  rw [hd _ h1, h2, sub_in hc, show 8 - (k + 1) = 7 - k by omega]
def sp_R_fix : cx_S := cx_self 4 (fun j r ws R => ∃ x n l m t q T k b N, ws = wd x n l m (wq t q) ∧ j = 25 ∧ r = [.inl (nI T), .inl (nI k), .inl (nI b)] ∧ T < 2022 ∧ k < 8 ∧ b < 2 ∧ rt_tb t = nI N ∧ N ≤ 874 ∧ T ≠ 20 + N ∧ ∀ w, (∀ i, i / 4 ≠ 20 + N → w i = rt_w t i) → (∀ d, d < 256 → tw w (20 + N) d = tw (rt_w t) T (fxx k b d)) → R (.inl none) (wd x n l m (wq (ru_w t w) q)))
set_option maxRecDepth 100000 in
theorem pu_R_fix : ∀ as ws Rq, sp_R_fix as ws Rq → cx_cats as ≤ 6 ∧ ∀ V, cx_cl1 t_R_fix [(sp_R_empty, 2, 0, 0), (sp_R_truth, 3, 0, 0), (sp_R_set, 3, 0, 0)] [] [] 0 0 Rq V → V 0 (cx_lv0 as 6) [] ws 0 0 := by
  intro as ws Rq h0
  obtain ⟨j, r, fs0, rfl, hj, x, n, l, m, t, q, T, k, b, N, rfl, rfl, rfl, hT, hk, hb, htb, hN, hTN, h⟩ := cx_self_spec h0
  refine ⟨Nat.le_of_ble_eq_true rfl, fun V hV => ?_⟩
  have e20 : ((20 : Int32) + t.2.2.1.2.2.1) = nI (20 + N) := by
    rw [show t.2.2.1.2.2.1 = nI N from htb, show (20 : Int32) = nI 20 from rfl, nI_add]
  have loop : ∀ (d c : Nat) (w : Nat → Int64) (s5 : Option cx_V), c + d = 256 → (∀ i, i / 4 ≠ 20 + N → w i = rt_w t i) → (∀ i, i < 256 → tw w (20 + N) i = (decide (i < c) && tw (rt_w t) T (fxx k b i))) → V 14 [some (.inr (.inr (.inl 25))), some (.inl (nI T)), some (.inl (nI k)), some (.inl (nI b)), some (.inl (nI c)), s5] [] (wd x n l m (wq (ru_w t w) q)) 0 0 := by
    intro d
    induction d with
    | zero =>
      intro c w s5 hd h1 h2
      refine hV [] 60 _ _ _ _ _ _ ?_
      conv => whnf
      refine pk_le 256 c (fun _ => ?_) (fun _ => by omega)
      conv => whnf
      refine h w h1 (fun d hd => ?_)
      rw [h2 d hd]
      simp [show d < c by omega]
    | succ d ih =>
      intro c w s5 hd h1 h2
      have hx := (fxx_lt k hk b hb c (by omega)).1
      have at48 : V 48 [some (.inr (.inr (.inl 25))), some (.inl (nI T)), some (.inl (nI k)), some (.inl (nI b)), some (.inl (nI c)), s5] [.inl (nI (fxx k b c))] (wd x n l m (wq (ru_w t w) q)) 0 0 := by
        refine hV [14] 60 _ _ _ _ _ _ ?_
        conv => whnf
        refine ⟨x, n, l, m, ru_w t w, q, T, fxx k b c, rfl, rfl, rfl, hT, hx, ?_⟩
        conv => whnf
        rw [show tw (rt_w (ru_w t w)) T = tw (rt_w t) T from tw_other h1 hTN]
        cases hv : tw (rt_w t) T (fxx k b c) with
        | false =>
          refine ⟨fun _ => ?_, fun e => absurd rfl e⟩
          conv => whnf
          rw [nI_1]
          refine ih (c + 1) w _ (by omega) h1 (fun i hi => ?_)
          rw [h2 i hi]
          by_cases e : i = c
          · subst e; simp [hv]
          · have : decide (i < c + 1) = decide (i < c) := by simp; omega
            rw [this]
        | true =>
          refine ⟨fun e => absurd e (by decide), fun _ => ?_⟩
          conv => whnf
          rw [show ((20 : Int32) + (ru_w t w).2.2.1.2.2.1) = nI (20 + N) from e20]
          refine ⟨x, n, l, m, ru_w t w, q, 20 + N, c, rfl, rfl, rfl, by omega, by omega, fun w' k1 k2 => ?_⟩
          conv => whnf
          rw [nI_1]
          refine ih (c + 1) w' _ (by omega) (fun i hi => (k1 i hi).trans (h1 i hi)) (fun i hi => ?_)
          rw [k2 i hi, show tw (rt_w (ru_w t w)) (20 + N) i = tw w (20 + N) i from rfl, h2 i hi]
          by_cases e : i = c
          · subst e; simp [hv]
          · have : decide (i < c + 1) = decide (i < c) := by simp; omega
            rw [this]
            simp [e]
      have hb' : b = 0 ∨ b = 1 := by omega
      refine hV [48] 60 _ _ _ _ _ _ ?_
      conv => whnf
      refine pk_le 256 c (fun _ => by omega) (fun _ => ?_)
      conv => whnf
      rcases hb' with rfl | rfl
      · refine ⟨fun _ => ?_, fun e => absurd e (by decide)⟩
        conv => whnf
        rw [fxI0 k hk c (by omega)]
        exact at48
      · refine ⟨fun e => absurd (by decide) e, fun _ => ?_⟩
        conv => whnf
        rw [fxI1 k hk c (by omega)]
        exact at48
  refine hV [14] 60 _ _ _ _ _ _ ?_
  conv => whnf
  rw [e20]
  refine ⟨x, n, l, m, t, q, 20 + N, rfl, rfl, rfl, by omega, fun w k1 k2 => ?_⟩
  conv => whnf
  rw [← nI_0]
  exact loop 256 0 w none (by omega) k1 (fun i hi => by rw [k2 i hi]; simp)
theorem tab_bound {J : Nat} {fs : Nat → Ky} {T : Nat} {ks : Nat → Ky} (hJ : J ≤ 20) (hinj : ∀ i, i < T → ∀ j, j < T → ks i = ks j → i = j) (hm : ∀ i, i < T → fd (ks i) < 8 ∧ memK J fs (ks i)) : T ≤ 874 := by
  have := key_bound (J := J) (N := T + 2) (fs := fs) (ks := fun n => if n = T then kF else if n = T + 1 then kT else ks n) hJ (fun n hn => ?_) (fun i hi j hj e => ?_)
  · omega
  · by_cases e1 : n = T
    · simp only [e1, if_true]; exact Or.inr ⟨fd_kF, nf_kF⟩
    · by_cases e2 : n = T + 1
      · simp only [e2, if_true]
        rw [if_neg (by omega)]
        exact Or.inr ⟨fd_kT, nf_kT⟩
      · simp only [e1, e2, if_false]
        exact Or.inl (hm n (by omega)).2
  · have fdc : ∀ n, n < T → ks n ≠ kF ∧ ks n ≠ kT := fun n hn => ⟨fun q => by have := (hm n hn).1; rw [q, fd_kF] at this; omega, fun q => by have := (hm n hn).1; rw [q, fd_kT] at this; omega⟩
    have ev : ∀ n, n < T + 2 → (n < T ∧ (if n = T then kF else if n = T + 1 then kT else ks n) = ks n) ∨ (n = T ∧ (if n = T then kF else if n = T + 1 then kT else ks n) = kF) ∨ (n = T + 1 ∧ (if n = T then kF else if n = T + 1 then kT else ks n) = kT) := fun n hn => by
      by_cases e1 : n = T
      · exact Or.inr (Or.inl ⟨e1, if_pos e1⟩)
      · by_cases e2 : n = T + 1
        · exact Or.inr (Or.inr ⟨e2, by rw [if_neg e1, if_pos e2]⟩)
        · exact Or.inl ⟨by omega, by rw [if_neg e1, if_neg e2]⟩
    have e' : (if i = T then kF else if i = T + 1 then kT else ks i) = (if j = T then kF else if j = T + 1 then kT else ks j) := e
    rcases ev i hi with ⟨i1, i2⟩ | ⟨i1, i2⟩ | ⟨i1, i2⟩ <;> rcases ev j hj with ⟨j1, j2⟩ | ⟨j1, j2⟩ | ⟨j1, j2⟩ <;> rw [i2, j2] at e'
    · exact hinj i i1 j j1 e'
    · exact absurd e' (fdc i i1).1
    · exact absurd e' (fdc i i1).2
    · exact absurd e'.symm (fdc j j1).1
    · omega
    · exact absurd e' kFT
    · exact absurd e'.symm (fdc j j1).2
    · exact absurd e'.symm kFT
    · omega
def sp_R_number : cx_S := cx_self 4 (fun j r ws R => ∃ x n l m t q J fs T ks, ws = wd x n l m (wq t q) ∧ j = 25 ∧ r = [] ∧ J ≤ 20 ∧ tabR J fs T ks t ∧ (∀ i, i < T → tw (rt_w t) (20 + i) = ks i) ∧ memK J fs (tw (rt_w t) (20 + T)) ∧
  ∀ T' ks' in' tb' v, tabR J fs T' ks' (ru_tb (ru_in t in') tb') → T ≤ T' → (∀ i, i < T → ks' i = ks i) → (∀ i, i < T' → tw (rt_w t) (20 + i) = ks' i) → ixT T' ks' (tw (rt_w t) (20 + T)) v → R (.inl (some (.inl v))) (wd x n l m (wq (ru_tb (ru_in t in') tb') q)))
set_option maxRecDepth 100000 in
theorem pu_R_number : ∀ as ws Rq, sp_R_number as ws Rq → cx_cats as ≤ 4 ∧ ∀ V, cx_cl1 t_R_number [(sp_R_depends, 2, 0, 0), (sp_R_same, 3, 0, 0)] [] [] 0 0 Rq V → V 0 (cx_lv0 as 4) [] ws 0 0 := by
  intro as ws Rq h0
  obtain ⟨j, r, fs0, rfl, hj, x, n, l, m, t, q, J, fs, T, ks, rfl, rfl, rfl, hJ, hTab, hw, hg, h⟩ := cx_self_spec h0
  refine ⟨Nat.le_of_ble_eq_true rfl, fun V hV => ?_⟩
  have hTab2 := hTab
  obtain ⟨t1, t2, t3, t4⟩ := hTab2
  have htb : t.2.2.1.2.2.1 = nI T := t2
  have e20 : ((20 : Int32) + t.2.2.1.2.2.1) = nI (20 + T) := by
    rw [htb, show (20 : Int32) = nI 20 from rfl, nI_add]
  have loop : ∀ (d i : Nat), i + d = T → fd (tw (rt_w t) (20 + T)) < 8 → (∀ p, p < i → ks p ≠ tw (rt_w t) (20 + T)) → V 24 [some (.inr (.inr (.inl 25))), some (.inl (nI (20 + T))), some (.inl (nI (fd (tw (rt_w t) (20 + T))))), some (.inl (nI i))] [] (wd x n l m (wq t q)) 0 0 := by
    intro d
    induction d with
    | zero =>
      intro i hd h8 hno
      have : i = T := by omega
      subst this
      have hT' : i + 1 ≤ 874 := by
        refine tab_bound (J := J) (fs := fs) (ks := nK ks i (tw (rt_w t) (20 + i))) hJ (fun a ha b hb e => ?_) (fun a ha => ?_)
        · by_cases ea : a = i
          · by_cases eb : b = i
            · omega
            · rw [ea, nK_N, nK_ne eb] at e
              exact absurd e.symm (hno b (by omega))
          · by_cases eb : b = i
            · rw [eb, nK_N, nK_ne ea] at e
              exact absurd e (hno a (by omega))
            · rw [nK_ne ea, nK_ne eb] at e
              exact t3 a (by omega) b (by omega) e
        · by_cases ea : a = i
          · rw [ea, nK_N]; exact ⟨h8, hg⟩
          · rw [nK_ne ea]; exact ⟨(t4 a (by omega)).1, (t4 a (by omega)).2.1⟩
      refine hV [] 60 _ _ _ _ _ _ ?_
      conv => whnf
      refine pk_le i i (fun _ => ?_) (fun e => absurd e (Nat.lt_irrefl _)) htb
      conv => whnf
      refine ⟨pk_in i 2000 (by omega) htb, ?_⟩
      conv => whnf
      refine ⟨Or.inl rfl, ?_⟩
      conv => whnf
      refine ⟨fun e => absurd e (by decide), ?_⟩
      rw [htb, nx_c (show i < 2 ^ 31 by omega), nI_1, nI_pred]
      refine h (i + 1) (nK ks i (tw (rt_w t) (20 + i))) (upd (rt_in t) i (nI (fd (tw (rt_w t) (20 + i))))) (nI (i + 1)) (nI i) ⟨hT', rfl, fun a ha b hb e => ?_, fun a ha => ?_⟩ (by omega) (fun a ha => nK_ne (by omega)) (fun a ha => ?_) (Or.inr ⟨i, by omega, nK_N, rfl⟩)
      · by_cases ea : a = i
        · by_cases eb : b = i
          · omega
          · rw [ea, nK_N, nK_ne eb] at e
            exact absurd e.symm (hno b (by omega))
        · by_cases eb : b = i
          · rw [eb, nK_N, nK_ne ea] at e
            exact absurd e (hno a (by omega))
          · rw [nK_ne ea, nK_ne eb] at e
            exact t3 a (by omega) b (by omega) e
      · show fd (nK ks i (tw (rt_w t) (20 + i)) a) < 8 ∧ memK J fs (nK ks i (tw (rt_w t) (20 + i)) a) ∧ upd (rt_in t) i (nI (fd (tw (rt_w t) (20 + i)))) a = _
        by_cases ea : a = i
        · rw [ea, nK_N]; exact ⟨h8, hg, pk_us⟩
        · rw [nK_ne ea, pk_un ea]; exact t4 a (by omega)
      · by_cases ea : a = i
        · rw [ea, nK_N]
        · rw [nK_ne ea]; exact hw a (by omega)
    | succ d ih =>
      intro i hd h8 hno
      refine hV [24] 60 _ _ _ _ _ _ ?_
      conv => whnf
      refine pk_le T i (fun _ => by omega) (fun _ => ?_) htb
      conv => whnf
      rw [show ((20 : Int32) + nI i) = nI (20 + i) by rw [show (20 : Int32) = nI 20 from rfl, nI_add]]
      refine ⟨x, n, l, m, t, q, 20 + i, 20 + T, rfl, rfl, rfl, by omega, by omega, fun e he => ?_⟩
      rw [hw i (by omega)] at he
      conv => whnf
      cases e with
      | true =>
        refine ⟨fun e => absurd e (by decide), fun _ => ?_⟩
        conv => whnf
        refine ⟨fun e => absurd e (by decide), ?_⟩
        exact h T ks (rt_in t) (rt_tb t) (nI i) hTab (Nat.le_refl _) (fun a ha => rfl) hw (Or.inr ⟨i, by omega, he.mp rfl, rfl⟩)
      | false =>
        refine ⟨fun _ => ?_, fun e => absurd rfl e⟩
        conv => whnf
        rw [nI_1]
        refine ih (i + 1) (by omega) h8 (fun p hp => ?_)
        by_cases ep : p = i
        · subst ep
          intro e2
          have := he.mpr e2
          cases this
        · exact hno p (by omega)
  refine hV [24] 60 _ _ _ _ _ _ ?_
  conv => whnf
  rw [e20]
  refine ⟨x, n, l, m, t, q, 20 + T, rfl, rfl, rfl, by omega, ?_⟩
  conv => whnf
  have h8 := fd_le (tw (rt_w t) (20 + T))
  refine ⟨fun e => ?_, fun e => ?_⟩
  · have e2 : fd (tw (rt_w t) (20 + T)) ≠ 8 := fun q => e (by rw [q]; rfl)
    conv => whnf
    rw [← nI_0]
    exact loop T 0 (by omega) (by omega) (fun p hp => by omega)
  · have e2 : fd (tw (rt_w t) (20 + T)) = 8 := by
      rw [show (8 : Int32) = nI 8 from rfl, nI_eq (by omega) (by omega)] at e
      exact e
    conv => whnf
    refine ⟨fun e => absurd e (by decide), ?_⟩
    exact h T ks (rt_in t) (rt_tb t) (-1) hTab (Nat.le_refl _) (fun a ha => rfl) hw (Or.inl ⟨e2, rfl⟩)
