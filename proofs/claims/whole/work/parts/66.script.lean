/-! The law reads its script. -/
def cx_scr (lv : cx_L) (k : Nat → Prop) : Prop := match lv[(0 : Nat)]? with
  | some (some (.inr (.inr (.inr (.inr (.ref b)))))) => k b
  | _ => False
theorem cx_scr_spec {lv : cx_L} {k : Nat → Prop} (h : cx_scr lv k) : ∃ b : Nat, lv[(0 : Nat)]? = some (some (.inr (.inr (.inr (.inr (.ref b)))))) ∧ k b := by
  unfold cx_scr at h
  split at h
  · rename_i b hb
    exact ⟨b, hb, h⟩
  · exact h.elim
def zScr (nx : Nat) : cz_Z := fun lv st ws k n K => cx_scr lv (fun b => K nx lv (.inr (.inr (.inr (.inr (.ref b)))) :: st) ws k n)
def zLen (nx b L : Nat) : cz_Z := fun lv st ws k n K => match st with
  | .inr (.inr (.inr (.inr (.ref b')))) :: r => b' = b ∧ K nx lv (.inl (nI L) :: r) ws k n
  | _ => False
def zLd (nx b L : Nat) (xs : Nat → Int32) : cz_Z := fun lv st ws k n K => match st with
  | .inl x :: .inr (.inr (.inr (.inr (.ref b')))) :: r => (b' = b ∧ vp_in x L) ∧ K nx lv (.inl (xs x.toNatClampNeg) :: r) ws k n
  | _ => False
section CWS
variable {p : Program} {l : Launch} {e : Env} {R : Room} {s : State} {m : MethodId} {args : Array Value} {below : List Frame} {meth : Method} {c : Code} {G : cx_G} {nL mc ms : Nat} {cc : ByteArray} {Q : State → Prop}
theorem zScr_ok {F : cx_F} (hx : p.tables.exec = Jvm.exec) (hb : c.code = cc) {pc : Nat} (hdg : decode cc pc = .ok (.aload_n 0, 1)) : cz_ok p l e R s m args below meth c G nL F Q (pc, zScr (pc + 1)) := by
  intro lv st ws k n K h hK H locs ls hF hl
  obtain ⟨b, hb0, h⟩ := cx_scr_spec h
  exact lv_aload_n hx hb hdg rfl (hl.2.2 0 _ hb0) (hK _ _ _ _ _ _ h H locs ls hF hl)
theorem cx_F1.scr {ws : List cx_C} {k n : Nat} {H : Heap} {locs : List Loc} (hF : cx_F1 G mc ms ws k n H locs) : va_S (fun q => (cx_H0 G).size ≤ q) (cx_H0 G) H locs := ⟨hF.1.2.1, fun q hq _ => hF.1.2.2.1 q hq, hF.2.2⟩
theorem zLen_ok (hx : p.tables.exec = Jvm.exec) (hb : c.code = cc) {pc b L : Nat} {xs : Nat → Int32} (hX : va_X b L xs s (cx_H0 G)) (hbl : b < (cx_H0 G).size) (hdg : decode cc pc = .ok (.arraylength, 1)) : cz_ok p l e R s m args below meth c G nL (cx_F1 G mc ms) Q (pc, zLen (pc + 1) b L) := by
  intro lv st ws k n K h hK H locs ls hF hl
  change zLen (pc + 1) b L lv st ws k n K at h
  unfold zLen at h
  split at h
  · obtain ⟨rfl, h⟩ := h
    exact va_slen hx hb hX hbl (Nat.not_le.mpr hbl) hF.scr hdg (hK _ _ _ _ _ _ h H locs ls hF hl)
  · exact h.elim
theorem zLd_ok (hx : p.tables.exec = Jvm.exec) (hb : c.code = cc) {pc b L : Nat} {xs : Nat → Int32} (hX : va_X b L xs s (cx_H0 G)) (hbl : b < (cx_H0 G).size) (hdg : decode cc pc = .ok (.iaload, 1)) : cz_ok p l e R s m args below meth c G nL (cx_F1 G mc ms) Q (pc, zLd (pc + 1) b L xs) := by
  intro lv st ws k n K h hK H locs ls hF hl
  change zLd (pc + 1) b L xs lv st ws k n K at h
  unfold zLd at h
  split at h
  · obtain ⟨⟨rfl, hin⟩, h⟩ := h
    exact va_sld hx hb hX hbl (Nat.not_le.mpr hbl) hF.scr hin hdg (hK _ _ _ _ _ _ h H locs ls hF hl)
  · exact h.elim
end CWS
theorem lg_self (x : Int64) : lg_cmp x x = 0 := by
  unfold lg_cmp
  rw [if_neg (fun h : x > x => Int64.lt_irrefl h), if_pos rfl]
theorem lw_cmp {i L : Nat} (hL : L ≤ 2048) (hi : i < 2 ^ 31) (h : ¬ nI L - 4 < nI i) : i + 4 ≤ L := by
  by_cases h4 : 4 ≤ L
  · rw [show (4 : Int32) = nI 4 from rfl, pk_sub h4] at h
    have := mt (nI_ltI (by omega) hi).mpr h
    omega
  · exfalso
    have h0 : 0 ≤ nI i := Int32.not_lt.mp (nI_pos hi)
    have : L = 0 ∨ L = 1 ∨ L = 2 ∨ L = 3 := by omega
    rcases this with rfl | rfl | rfl | rfl
    · exact h (Int32.lt_of_lt_of_le (by decide) h0)
    · exact h (Int32.lt_of_lt_of_le (by decide) h0)
    · exact h (Int32.lt_of_lt_of_le (by decide) h0)
    · exact h (Int32.lt_of_lt_of_le (by decide) h0)
/-- the law ends with true -/
def lw_rq : cx_R := fun o _ => o = .inl (some (.inl 1))
abbrev lw_lv (b it : Nat) (s5 s6 : Option cx_V) : cx_L := [some (.inr (.inr (.inr (.inr (.ref b))))), some (.inr (.inr (.inl 0))), some (.inr (.inr (.inl 25))), some (.inr (.inr (.inl 40))), some (.inl (nI (4 * it))), s5, s6]
/-- the next call may begin -/
def lw_nx (V : cx_K) (b it : Nat) : Prop := ∀ (A : aS) (x : wX) (n : wN) (l : wL) (m : wM) (t : wR) (g : Nat → Int64) (s5 s6 : Option cx_V) (k i : Nat), rC A x n l m → rR A t → k ≤ 291 + 2 * (it + 1) → i ≤ 29568 + 12 * (it + 1) → V 788 (lw_lv b it s5 s6) [] (wd x n l m (wq t [oL g])) k i
theorem lw_i {it L j : Nat} (hi : 4 * it + 4 ≤ L) (hL : L ≤ 2048) (hj : j < 4) : vp_in (nI (4 * it) + nI j) L := by
  rw [nI_add]
  exact pk_in (4 * it + j) L (by omega)
