section CXT
variable {p : Program} {l : Launch} {e : Env} {R : Room} {s : State} {m : MethodId} {args : Array Value} {below : List Frame} {meth : Method} {c : Code} {G : cx_G} {nL mc ms : Nat} {cc : ByteArray} {Tb : List Cond} {Rq : cx_R} {Q : State → Prop} {free : Addr → Prop}
set_option maxHeartbeats 4000000 in
set_option maxRecDepth 100000 in
theorem cx_s1 {wr : Bool} {F0c : cx_F} {own : String} {rt : Option FieldType} {F : List (Nat × Nat × Nat)} {FP : List (Nat × Nat × Nat × Int32)} {LC : List (Nat × Int64)} {CV CS : List (Nat × Nat)} {TH : List (Nat × Nat)} {Sp : List (cx_S × Nat × Nat × Nat)} {Ex : List String} {Sw : List (Nat × List Nat)}
    (hx : p.tables.exec = Jvm.exec) (hb : c.code = cc) (hG : cx_okG G) (hKn : cx_Kn Tb G s) (hlocks : meth.locks = false) (hr : meth.sig.returnType = rt) (hown : s.vm.findClass own = some m.cls)
    (hFP : ∀ ws k n H locs, F0c ws k n H locs → cx_P G ws H ∧ (k ≤ mc ∧ n ≤ ms) ∧ ∀ q ∈ locs, (cx_H0 G).size ≤ q.base)
    (hfree : ∀ ws k n H locs, F0c ws k n H locs → ∀ q ∈ locs, free q.base) (hRet : ∀ ws k n H locs u t, F0c ws k n H locs → Rq (.inl u) ws → cx_end0 below args G s k n free H u t → Q t)
    (hFw : wr = true → ∀ (ws ws' : List cx_C) (k n : Nat) (H H' : Heap) (locs : List Loc) (a i : Nat), F0c ws k n H locs → cx_P G ws' H' → (cx_H0 G).size ≤ a → H'.size = H.size → ws'.length = ws.length → F0c ws' k n H' (locs ++ [⟨a, i⟩]))
    (okF : ∀ q ∈ F, cx_okget p l e R s m args below meth c cc G Q q.1 q.2.1 q.2.2)
    (okP : ∀ q ∈ FP, cx_okput p l e R s m args below meth c cc G Q q.1 q.2.1 q.2.2.1 q.2.2.2)
    (okL : ∀ q ∈ LC, (Jvm.Cond.constantLong own q.1 q.2).before args s = true)
    (okV : ∀ q ∈ CV, ∀ f na kc ks, Sp[q.2]? = some (f, na, kc, ks) → cx_okcall p l e R s m args below meth c cc G nL mc ms F0c Q Rq (.invokevirtual q.1) f na kc ks)
    (okS : ∀ q ∈ CS, ∀ f na kc ks, Sp[q.2]? = some (f, na, kc, ks) → cx_okcall p l e R s m args below meth c cc G nL mc ms F0c Q Rq (.invokestatic q.1) f na kc ks)
    (okT : ∀ q ∈ TH, ∀ x, Ex[q.2]? = some x → cx_okthr p l e R s m args below meth c G nL mc ms F0c Q Rq q.1 x)
    {en : cx_E} {pc : Nat} {lv : cx_L} {st : List cx_V} {ws : List cx_C} {k n : Nat} {K : cx_K}
    (hd : decode cc pc = .ok (en.1, cx_len en.1 en.2.2.2.2.1)) (hnx : en.2.2.2.2.2 = pc + cx_len en.1 en.2.2.2.2.1) (hs : cx_side wr rt nL F FP LC CV CS TH Sw pc en = true)
    (hK : ∀ pc lv st ws k n, K pc lv st ws k n → cx_AW p l e R s m args below meth c G nL F0c Q pc lv st ws k n)
    (h : cx_1 Sp Ex Sw mc ms en lv st ws k n K Rq) : cx_AW p l e R s m args below meth c G nL F0c Q pc lv st ws k n := by
  intro H locs ls hF hl
  obtain ⟨hP, ⟨hk, hn⟩, hL⟩ := hFP _ _ _ _ _ hF
  obtain ⟨i, v, w, a, b, nx⟩ := en
  dsimp only at hnx
  subst hnx
  cases i with
  | iconst z =>
    dsimp only [cx_1] at h
    have hs : Int32.ofInt z = v := of_decide_eq_true hs
    exact lv_iconst hx hb hd hs (hK _ _ _ _ _ _ h H locs ls hF hl)
  | bipush z =>
    dsimp only [cx_1] at h
    have hs : (Int8.ofInt z).toInt32 = v := of_decide_eq_true hs
    exact lv_bipush hx hb hd hs (hK _ _ _ _ _ _ h H locs ls hF hl)
  | sipush z =>
    dsimp only [cx_1] at h
    have hs : (Int16.ofInt z).toInt32 = v := of_decide_eq_true hs
    exact lv_sipush hx hb hd hs (hK _ _ _ _ _ _ h H locs ls hF hl)
  | lconst z =>
    dsimp only [cx_1] at h
    have hs : Int64.ofNat z.val = w := of_decide_eq_true hs
    exact lv_lconst hx hb hd hs (hK _ _ _ _ _ _ h H locs ls hF hl)
  | ldc2_w z =>
    dsimp only [cx_1] at h
    have hs : (z, w) ∈ LC := of_decide_eq_true hs
    exact lv_ldc2 hx hb hown (okL _ hs) hd (hK _ _ _ _ _ _ h H locs ls hF hl)
  | iload_n z =>
    dsimp only [cx_1] at h
    have hs : z.val = a := of_decide_eq_true hs
    obtain ⟨x, h1, hz1⟩ := cx_ldi_spec h
    exact lv_iload_n hx hb hd hs (hl.2.2 _ _ h1) (hK _ _ _ _ _ _ hz1 H locs ls hF hl)
  | iload z =>
    dsimp only [cx_1] at h
    have hs : z = a := of_decide_eq_true hs
    subst hs
    obtain ⟨x, h1, hz1⟩ := cx_ldi_spec h
    exact lv_iload hx hb hd (hl.2.2 _ _ h1) (hK _ _ _ _ _ _ hz1 H locs ls hF hl)
  | lload_n z =>
    dsimp only [cx_1] at h
    have hs : z.val = a := of_decide_eq_true hs
    obtain ⟨x, h1, hz1⟩ := cx_ldl_spec h
    exact lv_lload_n hx hb hd hs (hl.2.2 _ _ h1) (hK _ _ _ _ _ _ hz1 H locs ls hF hl)
  | lload z =>
    dsimp only [cx_1] at h
    have hs : z = a := of_decide_eq_true hs
    subst hs
    obtain ⟨x, h1, hz1⟩ := cx_ldl_spec h
    exact lv_lload hx hb hd (hl.2.2 _ _ h1) (hK _ _ _ _ _ _ hz1 H locs ls hF hl)
  | aload_n z =>
    dsimp only [cx_1] at h
    have hs : z.val = a := of_decide_eq_true hs
    obtain ⟨u, h1, hz1, h2⟩ := cx_lda_spec h
    obtain ⟨y, hy⟩ := h2 G
    have h3 := hl.2.2 _ _ h1
    have h4 := hK _ _ _ _ _ _ hz1 H locs ls hF hl
    rw [List.map_cons, hy] at h4
    rw [hy] at h3
    exact lv_aload_n hx hb hd hs h3 h4
  | aload z =>
    dsimp only [cx_1] at h
    have hs : z = a := of_decide_eq_true hs
    subst hs
    obtain ⟨u, h1, hz1, h2⟩ := cx_lda_spec h
    obtain ⟨y, hy⟩ := h2 G
    have h3 := hl.2.2 _ _ h1
    have h4 := hK _ _ _ _ _ _ hz1 H locs ls hF hl
    rw [List.map_cons, hy] at h4
    rw [hy] at h3
    exact lv_aload hx hb hd h3 h4
  | istore_n z =>
    dsimp only [cx_1] at h
    have hs : z.val = a ∧ a < nL := of_decide_eq_true hs
    obtain ⟨x, r, rfl, hz1⟩ := cx_i1_spec h
    rw [cx_fo_eq] at hz1
    exact lv_istore_n hx hb hd hs.1 hl.lv hs.2 rfl (fun ls' h' => hK _ _ _ _ _ _ hz1 H locs ls' hF (cx_has.st1 rfl h'))
  | istore z =>
    dsimp only [cx_1] at h
    have hs : z = a ∧ a < nL := of_decide_eq_true hs
    obtain ⟨rfl, hs⟩ := hs
    obtain ⟨x, r, rfl, hz1⟩ := cx_i1_spec h
    rw [cx_fo_eq] at hz1
    exact lv_istore hx hb hd hl.lv hs rfl (fun ls' h' => hK _ _ _ _ _ _ hz1 H locs ls' hF (cx_has.st1 rfl h'))
  | lstore_n z =>
    dsimp only [cx_1] at h
    have hs : z.val = a ∧ a + 1 < nL := of_decide_eq_true hs
    obtain ⟨x, r, rfl, hz1⟩ := cx_l1_spec h
    rw [cx_fo_eq] at hz1
    exact lv_lstore_n hx hb hd hs.1 hl.lv hs.2 rfl (fun ls' h' => hK _ _ _ _ _ _ hz1 H locs ls' hF (cx_has.st2 rfl h'))
  | lstore z =>
    dsimp only [cx_1] at h
    have hs : z = a ∧ a + 1 < nL := of_decide_eq_true hs
    obtain ⟨rfl, hs⟩ := hs
    obtain ⟨x, r, rfl, hz1⟩ := cx_l1_spec h
    rw [cx_fo_eq] at hz1
    exact lv_lstore hx hb hd hl.lv hs rfl (fun ls' h' => hK _ _ _ _ _ _ hz1 H locs ls' hF (cx_has.st2 rfl h'))
  | astore_n z =>
    dsimp only [cx_1] at h
    have hs : z.val = a ∧ a < nL := of_decide_eq_true hs
    obtain ⟨u, r, rfl, hz1, h2⟩ := cx_a1_spec h
    obtain ⟨y, hy⟩ := h2 G
    rw [List.map_cons, hy]
    rw [cx_fo_eq] at hz1
    exact lv_astore_n hx hb hd hs.1 hl.lv hs.2 rfl (fun ls' h' => hK _ _ _ _ _ _ hz1 H locs ls' hF (cx_has.st1 hy h'))
  | astore z =>
    dsimp only [cx_1] at h
    have hs : z = a ∧ a < nL := of_decide_eq_true hs
    obtain ⟨rfl, hs⟩ := hs
    obtain ⟨u, r, rfl, hz1, h2⟩ := cx_a1_spec h
    obtain ⟨y, hy⟩ := h2 G
    rw [List.map_cons, hy]
    rw [cx_fo_eq] at hz1
    exact lv_astore hx hb hd hl.lv hs rfl (fun ls' h' => hK _ _ _ _ _ _ hz1 H locs ls' hF (cx_has.st1 hy h'))
  | iinc z y =>
    dsimp only [cx_1] at h
    have hs : z = a ∧ a < nL ∧ Int32.ofInt y = v := of_decide_eq_true hs
    obtain ⟨rfl, hs1, hs2⟩ := hs
    obtain ⟨x, h1, hz1⟩ := cx_ldi_spec h
    obtain ⟨q, hq⟩ := List.getElem?_of_mem (cx_prs_in (G := G) h1)
    rw [cx_fo_eq] at hz1
    exact lv_iinc (v := x + v) hx hb hd hl.lv hq (by rw [hs2]) hs1 rfl (fun ls' h' => hK _ _ _ _ _ _ hz1 H locs ls' hF (cx_has.st1 rfl h'))
  | iadd =>
    dsimp only [cx_1] at h
    obtain ⟨x, y, r, rfl, hz1⟩ := cx_ii_spec h
    exact lv_iadd hx hb hd (hK _ _ _ _ _ _ hz1 H locs ls hF hl)
  | isub =>
    dsimp only [cx_1] at h
    obtain ⟨x, y, r, rfl, hz1⟩ := cx_ii_spec h
    exact lv_isub hx hb hd (hK _ _ _ _ _ _ hz1 H locs ls hF hl)
  | imul =>
    dsimp only [cx_1] at h
    obtain ⟨x, y, r, rfl, hz1⟩ := cx_ii_spec h
    exact lv_imul hx hb hd (hK _ _ _ _ _ _ hz1 H locs ls hF hl)
  | iand =>
    dsimp only [cx_1] at h
    obtain ⟨x, y, r, rfl, hz1⟩ := cx_ii_spec h
    exact lv_iand hx hb hd (hK _ _ _ _ _ _ hz1 H locs ls hF hl)
  | ior =>
    dsimp only [cx_1] at h
    obtain ⟨x, y, r, rfl, hz1⟩ := cx_ii_spec h
    exact lv_ior hx hb hd (hK _ _ _ _ _ _ hz1 H locs ls hF hl)
  | ixor =>
    dsimp only [cx_1] at h
    obtain ⟨x, y, r, rfl, hz1⟩ := cx_ii_spec h
    exact lv_ixor hx hb hd (hK _ _ _ _ _ _ hz1 H locs ls hF hl)
  | ishl =>
    dsimp only [cx_1] at h
    obtain ⟨x, y, r, rfl, hz1⟩ := cx_ii_spec h
    exact lv_ishl hx hb hd (hK _ _ _ _ _ _ hz1 H locs ls hF hl)
  | ishr =>
    dsimp only [cx_1] at h
    obtain ⟨x, y, r, rfl, hz1⟩ := cx_ii_spec h
    exact lv_ishr hx hb hd (hK _ _ _ _ _ _ hz1 H locs ls hF hl)
  | idiv =>
    dsimp only [cx_1] at h
    obtain ⟨x, y, r, rfl, h0, hz1⟩ := cx_ii_spec h
    exact lv_idiv hx hb hd h0 (hK _ _ _ _ _ _ hz1 H locs ls hF hl)
  | irem =>
    dsimp only [cx_1] at h
    obtain ⟨x, y, r, rfl, h0, hz1⟩ := cx_ii_spec h
    exact lv_irem hx hb hd h0 (hK _ _ _ _ _ _ hz1 H locs ls hF hl)
  | land =>
    dsimp only [cx_1] at h
    obtain ⟨x, y, r, rfl, hz1⟩ := cx_ll_spec h
    exact lv_land hx hb hd (hK _ _ _ _ _ _ hz1 H locs ls hF hl)
  | lor =>
    dsimp only [cx_1] at h
    obtain ⟨x, y, r, rfl, hz1⟩ := cx_ll_spec h
    exact lv_lor hx hb hd (hK _ _ _ _ _ _ hz1 H locs ls hF hl)
  | lxor =>
    dsimp only [cx_1] at h
    obtain ⟨x, y, r, rfl, hz1⟩ := cx_ll_spec h
    exact lv_lxor hx hb hd (hK _ _ _ _ _ _ hz1 H locs ls hF hl)
  | ladd =>
    dsimp only [cx_1] at h
    obtain ⟨x, y, r, rfl, hz1⟩ := cx_ll_spec h
    exact lv_ladd hx hb hd (hK _ _ _ _ _ _ hz1 H locs ls hF hl)
  | lsub =>
    dsimp only [cx_1] at h
    obtain ⟨x, y, r, rfl, hz1⟩ := cx_ll_spec h
    exact lv_lsub hx hb hd (hK _ _ _ _ _ _ hz1 H locs ls hF hl)
  | lcmp =>
    dsimp only [cx_1] at h
    obtain ⟨x, y, r, rfl, hz1⟩ := cx_ll_spec h
    exact W.lcmp hx hb hd (hK _ _ _ _ _ _ hz1 H locs ls hF hl)
  | lshl =>
    dsimp only [cx_1] at h
    obtain ⟨x, y, r, rfl, hz1⟩ := cx_li_spec h
    exact lv_lshl hx hb hd rfl (hK _ _ _ _ _ _ hz1 H locs ls hF hl)
  | lushr =>
    dsimp only [cx_1] at h
    obtain ⟨x, y, r, rfl, hz1⟩ := cx_li_spec h
    exact lv_lushr hx hb hd rfl (hK _ _ _ _ _ _ hz1 H locs ls hF hl)
  | lshr =>
    dsimp only [cx_1] at h
    obtain ⟨x, y, r, rfl, hz1⟩ := cx_li_spec h
    exact lv_lshr hx hb hd rfl (hK _ _ _ _ _ _ hz1 H locs ls hF hl)
  | i2l =>
    dsimp only [cx_1] at h
    obtain ⟨x, r, rfl, hz1⟩ := cx_i1_spec h
    exact lv_i2l hx hb hd rfl (hK _ _ _ _ _ _ hz1 H locs ls hF hl)
  | l2i =>
    dsimp only [cx_1] at h
    obtain ⟨x, r, rfl, hz1⟩ := cx_l1_spec h
    exact lv_l2i hx hb hd rfl (hK _ _ _ _ _ _ hz1 H locs ls hF hl)
  | dup =>
    dsimp only [cx_1] at h
    obtain ⟨u, r, rfl, hw, hz1⟩ := cx_u1_spec h
    exact lv_dup hx hb hd (cx_cat1 hw) (hK _ _ _ _ _ _ hz1 H locs ls hF hl)
  | pop =>
    dsimp only [cx_1] at h
    obtain ⟨u, r, rfl, hw, hz1⟩ := cx_u1_spec h
    exact lv_pop hx hb hd (cx_cat1 hw) (hK _ _ _ _ _ _ hz1 H locs ls hF hl)
  | dup2 =>
    dsimp only [cx_1] at h
    obtain ⟨u, r, rfl, hw, hz1⟩ := cx_u1_spec h
    obtain ⟨u2, r, rfl, hw2, hz2⟩ := cx_u1_spec hz1
    exact lv_dup2_11 hx hb hd (cx_cat1 hw) (cx_cat1 hw2) (hK _ _ _ _ _ _ hz2 H locs ls hF hl)
  | ifCond q o =>
    dsimp only [cx_1] at h
    have ht : (pc : Int) + o = (a : Int) := of_decide_eq_true hs
    obtain ⟨x, r, rfl, hz1⟩ := cx_i1_spec h
    cases q with
    | eq =>
      dsimp only [cx_cmp0] at hz1
      exact lv_if_eq hx hb hd ht (fun q => hK _ _ _ _ _ _ (hz1.1 q) H locs ls hF hl) (fun q => hK _ _ _ _ _ _ (hz1.2 q) H locs ls hF hl)
    | ne =>
      dsimp only [cx_cmp0] at hz1
      exact lv_if_ne hx hb hd ht (fun q => hK _ _ _ _ _ _ (hz1.1 q) H locs ls hF hl) (fun q => hK _ _ _ _ _ _ (hz1.2 q) H locs ls hF hl)
    | lt =>
      dsimp only [cx_cmp0] at hz1
      exact lv_if_lt hx hb hd ht (fun q => hK _ _ _ _ _ _ (hz1.1 q) H locs ls hF hl) (fun q => hK _ _ _ _ _ _ (hz1.2 q) H locs ls hF hl)
    | ge =>
      dsimp only [cx_cmp0] at hz1
      exact lv_if_ge hx hb hd ht (fun q => hK _ _ _ _ _ _ (hz1.1 q) H locs ls hF hl) (fun q => hK _ _ _ _ _ _ (hz1.2 q) H locs ls hF hl)
    | gt =>
      dsimp only [cx_cmp0] at hz1
      exact lv_if_gt hx hb hd ht (fun q => hK _ _ _ _ _ _ (hz1.1 q) H locs ls hF hl) (fun q => hK _ _ _ _ _ _ (hz1.2 q) H locs ls hF hl)
    | le =>
      dsimp only [cx_cmp0] at hz1
      exact lv_if_le hx hb hd ht (fun q => hK _ _ _ _ _ _ (hz1.1 q) H locs ls hF hl) (fun q => hK _ _ _ _ _ _ (hz1.2 q) H locs ls hF hl)
  | if_icmp q o =>
    dsimp only [cx_1] at h
    have ht : (pc : Int) + o = (a : Int) := of_decide_eq_true hs
    obtain ⟨x, y, r, rfl, hz1⟩ := cx_ii_spec h
    cases q with
    | eq =>
      dsimp only [cx_cmp2] at hz1
      exact lv_icmp_eq hx hb hd ht (fun q => hK _ _ _ _ _ _ (hz1.1 q) H locs ls hF hl) (fun q => hK _ _ _ _ _ _ (hz1.2 q) H locs ls hF hl)
    | ne =>
      dsimp only [cx_cmp2] at hz1
      exact lv_icmp_ne hx hb hd ht (fun q => hK _ _ _ _ _ _ (hz1.1 q) H locs ls hF hl) (fun q => hK _ _ _ _ _ _ (hz1.2 q) H locs ls hF hl)
    | lt =>
      dsimp only [cx_cmp2] at hz1
      exact lv_icmp_lt hx hb hd ht (fun q => hK _ _ _ _ _ _ (hz1.1 q) H locs ls hF hl) (fun q => hK _ _ _ _ _ _ (hz1.2 q) H locs ls hF hl)
    | ge =>
      dsimp only [cx_cmp2] at hz1
      exact lv_icmp_ge hx hb hd ht (fun q => hK _ _ _ _ _ _ (hz1.1 q) H locs ls hF hl) (fun q => hK _ _ _ _ _ _ (hz1.2 q) H locs ls hF hl)
    | gt =>
      dsimp only [cx_cmp2] at hz1
      exact lv_icmp_gt hx hb hd ht (fun q => hK _ _ _ _ _ _ (hz1.1 q) H locs ls hF hl) (fun q => hK _ _ _ _ _ _ (hz1.2 q) H locs ls hF hl)
    | le =>
      dsimp only [cx_cmp2] at hz1
      exact lv_icmp_le hx hb hd ht (fun q => hK _ _ _ _ _ _ (hz1.1 q) H locs ls hF hl) (fun q => hK _ _ _ _ _ _ (hz1.2 q) H locs ls hF hl)
  | goto o =>
    dsimp only [cx_1] at h
    have hs : (pc : Int) + o = (a : Int) := of_decide_eq_true hs
    exact lv_goto hx hb hd hs (hK _ _ _ _ _ _ h H locs ls hF hl)
  | getfield z =>
    dsimp only [cx_1] at h
    have hs : (z, a, b) ∈ F := of_decide_eq_true hs
    obtain ⟨j, r, rfl, hz1⟩ := cx_p1_spec h
    obtain ⟨fs, hj, hz2⟩ := cx_obj_spec hz1
    obtain ⟨u, hu, hz3⟩ := cx_fld_spec hz2
    exact okF _ hs pc H locs k n ls _ _ (fs.map (cx_v G)) (cx_v G u) hd (hP.1 j _ hj).2 (by rw [List.getElem?_map, hu]; rfl) (hK _ _ _ _ _ _ hz3 H locs ls hF hl)
  | putfield z =>
    dsimp only [cx_1] at h
    have hs0 : (decide ((z, a, b, v) ∈ FP) && wr) = true := hs
    rw [Bool.and_eq_true] at hs0
    obtain ⟨hs1, hs⟩ := hs0
    have hs1 : (z, a, b, v) ∈ FP := of_decide_eq_true hs1
    obtain ⟨u, j, r, rfl, hz1⟩ := cx_pu_spec h
    obtain ⟨fs, hj, hz2⟩ := cx_obj_spec hz1
    obtain ⟨u0, hu, h1, hz3⟩ := cx_fld_spec hz2
    obtain ⟨hjN, hat⟩ := hP.1 j _ hj
    have hlen : b < fs.length := (List.getElem?_eq_some_iff.mp hu).1
    refine okP _ hs1 pc H locs k n ls _ _ (fs.map (cx_v G)) (cx_v G u) hd hat (by rw [List.length_map]; exact hlen) (cx_fits_takes h1) (fun H' i e1 e2 e3 => ?_)
    rw [cx_fo_eq, cx_fo_eq] at hz3
    refine hK _ _ _ _ _ _ hz3 H' _ ls (hFw hs _ _ _ _ _ _ _ _ _ hF (hP.set hG hj ?_ e2 e3) (hG.2.2.2.1 j hjN) e2 List.length_set) hl
    show va_at _ _ (_, .inr (a, (fs.set b u).map (cx_v G))) H'
    rw [List.map_set]
    exact e1
  | iaload =>
    dsimp only [cx_1] at h
    obtain ⟨x, j, r, rfl, hz1⟩ := cx_pi_spec h
    obtain ⟨n1, f, hj, h0, hz2⟩ := cx_ints_spec hz1
    exact W.iald (v := .int (f x.toNatClampNeg)) hx hb (hP.1 j _ hj).2 (hKn.2.2.1 _ _) (fun q => by cases q) (cx_inA h0) (cx_rdA h0) rfl rfl hd (hK _ _ _ _ _ _ hz2 H locs ls hF hl)
  | iastore =>
    dsimp only [cx_1] at h
    have hs : wr = true := hs
    obtain ⟨y, x, j, r, rfl, hz1⟩ := cx_pii_spec h
    obtain ⟨n1, f, hj, h0, hz2⟩ := cx_ints_spec hz1
    obtain ⟨hjN, hat⟩ := hP.1 j _ hj
    refine W.iast hx hb hat (hKn.2.2.1 _ _) (fun q => by cases q) (cx_inA h0) rfl rfl hd (fun H' e1 e2 e3 => ?_)
    rw [cx_fo_eq] at hz2
    refine hK _ _ _ _ _ _ hz2 H' _ ls (hFw hs _ _ _ _ _ _ _ _ _ hF (hP.set hG hj ?_ e2 e3) (hG.2.2.2.1 j hjN) e2 List.length_set) hl
    rw [cx_arrI] at e1
    exact e1
  | baload =>
    dsimp only [cx_1] at h
    obtain ⟨x, j, r, rfl, hz1⟩ := cx_pi_spec h
    obtain ⟨n1, f, hj, h0, hz2⟩ := cx_bools_spec hz1
    exact W.zald (v := .int (f x.toNatClampNeg)) hx hb (hP.1 j _ hj).2 (hKn.2.2.2.1 _ _) (fun q => by cases q) (cx_inA h0) (cx_rdA h0) rfl rfl hd (hK _ _ _ _ _ _ hz2 H locs ls hF hl)
  | bastore =>
    dsimp only [cx_1] at h
    have hs : wr = true := hs
    obtain ⟨y, x, j, r, rfl, hz1⟩ := cx_pii_spec h
    obtain ⟨n1, f, hj, ⟨h0, hy⟩, hz2⟩ := cx_bools_spec hz1
    obtain ⟨hjN, hat⟩ := hP.1 j _ hj
    refine W.zast hx hb hat (hKn.2.2.2.1 _ _) (fun q => by cases q) (cx_inA h0) rfl rfl hd (fun H' e1 e2 e3 => ?_)
    rw [cx_fo_eq] at hz2
    refine hK _ _ _ _ _ _ hz2 H' _ ls (hFw hs _ _ _ _ _ _ _ _ _ hF (hP.set hG hj ?_ e2 e3) (hG.2.2.2.1 j hjN) e2 List.length_set) hl
    rw [cx_nar01 hy, cx_arrI] at e1
    exact e1
  | laload =>
    dsimp only [cx_1] at h
    rcases cx_pig_spec h with ⟨x, j, r, rfl, hz1⟩ | ⟨x, j, g, r, rfl, hz1⟩
    · skip
      obtain ⟨n1, f, hj, h0, hz2⟩ := cx_longs_spec hz1
      exact W.lald (v := .long (f x.toNatClampNeg)) hx hb (hP.1 j _ hj).2 (hKn.2.2.2.2.1 _ _) (fun q => by cases q) (cx_inA h0) (cx_rdA h0) rfl rfl hd (hK _ _ _ _ _ _ hz2 H locs ls hF hl)
    · skip
      obtain ⟨n1, n2, f, hj, ⟨h0, h1⟩, hz3⟩ := cx_grid_spec hz1
      exact W.lald (v := .long (f g x.toNatClampNeg)) hx hb ((hP.1 j _ hj).2.2.2 g h0) (hKn.2.2.2.2.1 _ _) (fun q => by cases q) (cx_inA h1) (cx_rdA h1) rfl rfl hd (hK _ _ _ _ _ _ hz3 H locs ls hF hl)
  | lastore =>
    dsimp only [cx_1] at h
    have hs : wr = true := hs
    obtain ⟨y, q, rfl, hz1⟩ := cx_l1_spec h
    rcases cx_pig_spec hz1 with ⟨x, j, r, rfl, hz2⟩ | ⟨x, j, g, r, rfl, hz2⟩
    · skip
      obtain ⟨n1, f, hj, h0, hz3⟩ := cx_longs_spec hz2
      obtain ⟨hjN, hat⟩ := hP.1 j _ hj
      refine W.last hx hb hat (hKn.2.2.2.2.1 _ _) (fun q => by cases q) (cx_inA h0) rfl rfl hd (fun H' e1 e2 e3 => ?_)
      rw [cx_fo_eq] at hz3
      refine hK _ _ _ _ _ _ hz3 H' _ ls (hFw hs _ _ _ _ _ _ _ _ _ hF (hP.set hG hj ?_ e2 e3) (hG.2.2.2.1 j hjN) e2 List.length_set) hl
      rw [cx_arrL] at e1
      exact e1
    · skip
      obtain ⟨n1, n2, f, hj, ⟨h0, h1⟩, hz4⟩ := cx_grid_spec hz2
      obtain ⟨hjN, ha1, ha2, ha3⟩ := hP.1 j _ hj
      refine W.last hx hb (ha3 g h0) (hKn.2.2.2.2.1 _ _) (fun q => by cases q) (cx_inA h1) rfl rfl hd (fun H' e1 e2 e3 => ?_)
      rw [cx_fo_eq] at hz4
      refine hK _ _ _ _ _ _ hz4 H' _ ls (hFw hs _ _ _ _ _ _ _ _ _ hF (hP.setRow hG hj h0 ?_ e2 e3) (hG.2.2.2.2 j g (Nat.lt_of_lt_of_le h0 ha1)) e2 List.length_set) hl
      rw [cx_arrL] at e1
      exact e1
  | aaload =>
    dsimp only [cx_1] at h
    obtain ⟨x, j, r, rfl, hz1⟩ := cx_pi_spec h
    obtain ⟨n1, n2, f, hj, h0, hz2⟩ := cx_grid_spec hz1
    exact W.aald (v := .ref (cx_rd G j x.toNatClampNeg)) hx hb (hP.1 j _ hj).2.2.1 (hKn.2.2.2.2.2.1 _ _) rfl (fun q => by cases q) (cx_inA h0) (cx_rdA h0) rfl rfl hd (hK _ _ _ _ _ _ hz2 H locs ls hF hl)
  | tableswitch d lo hi offs =>
    dsimp only [cx_1] at h
    obtain ⟨x, r, rfl, hz1⟩ := cx_i1_spec h
    obtain ⟨dt, ts, hsw, h1, h2⟩ := cx_sw_spec hz1
    have hs : ((pc : Int) + d = (dt : Int) ∧ lo = 0 ∧ hi + 1 = (ts.length : Int)) ∧ offs.toList.map (fun o => (pc : Int) + o) = ts.map (fun t : Nat => (t : Int)) := by
      simp only [cx_side, hsw] at hs
      exact of_decide_eq_true hs
    obtain ⟨⟨hs1, rfl, hs3⟩, hs4⟩ := hs
    by_cases hc : x.toInt < 0 ∨ (ts.length : Int) ≤ x.toInt
    · exact lv_tableOut hx hb hd (by omega) hs1 (hK _ _ _ _ _ _ (h1 hc) H locs ls hF hl)
    · have hx0 : ¬ x.toInt < 0 := fun q => hc (Or.inl q)
      have hx1 : ¬ (ts.length : Int) ≤ x.toInt := fun q => hc (Or.inr q)
      obtain ⟨i, hi1, hi2⟩ : ∃ i : Nat, i < ts.length ∧ x.toInt = (i : Int) := ⟨x.toInt.toNat, by omega, by omega⟩
      have hxi : x = nI (0 + i) := by
        rw [Nat.zero_add]
        have hb2 : i < 2 ^ 31 := by
          have := Int32.toInt_lt x
          omega
        exact Int32.toInt_inj.mp (by rw [hi2, nI_toInt hb2])
      obtain ⟨t, ht⟩ : ∃ t, ts[i]? = some t := ⟨_, List.getElem?_eq_getElem hi1⟩
      have ho : (offs.toList.map (fun o => (pc : Int) + o))[i]? = some (t : Int) := by
        rw [hs4, List.getElem?_map, ht]
        rfl
      rw [List.getElem?_map] at ho
      obtain ⟨o, ho1, ho2⟩ := Option.map_eq_some_iff.mp ho
      refine lv_tableIn (off := o) (tgt := t) hx hb hd (by omega) (by omega) ?_ ho2 (hK _ _ _ _ _ _ (cx_swl_spec h2 i t ht hxi) H locs ls hF hl)
      rw [show (x.toInt - 0).toNat = i by omega, ← Array.getElem?_toList]
      exact ho1
  | ireturn =>
    dsimp only [cx_1] at h
    have hs : rt = some .int ∨ (rt = some .boolean ∧ v = 1) := of_decide_eq_true hs
    obtain ⟨x, rfl, h1, hz1⟩ := cx_ir_spec h
    rcases hs with hs | ⟨hs, hv⟩
    · exact cx_mono (fun t ht => hRet ws k n H locs (some (.inl x)) t hF hz1 ht) (W.zret hx hb (hr.trans hs) rfl (fun t ht hW => ⟨rfl, ht⟩) (hfree _ _ _ _ _ hF) hd hlocks)
    · exact cx_mono (fun t ht => hRet ws k n H locs (some (.inl x)) t hF hz1 ht) (W.zret hx hb (hr.trans hs) (cx_nar01 (h1 hv)) (fun t ht hW => ⟨rfl, ht⟩) (hfree _ _ _ _ _ hF) hd hlocks)
  | areturn =>
    dsimp only [cx_1] at h
    obtain ⟨u, rfl, hz1, h2⟩ := cx_ar_spec h
    obtain ⟨y, hy⟩ := h2 G
    have hrt : ∃ r, rt = some r ∧ ((∃ n, r = .object n) ∨ ∃ t, r = .array t) := by
      simp only [cx_side] at hs
      split at hs
      · exact ⟨_, rfl, Or.inr ⟨_, rfl⟩⟩
      · exact ⟨_, rfl, Or.inl ⟨_, rfl⟩⟩
      · cases hs
    obtain ⟨r, hr1, hr2⟩ := hrt
    exact cx_mono (fun t ht => hRet ws k n H locs (some u) t hF hz1 ht) (W.aret (v := cx_v G u) hx hb (hr.trans hr1) hr2 (Or.inr ⟨y, hy⟩) (fun t ht hW => ⟨rfl, ht⟩) (hfree _ _ _ _ _ hF) hd hlocks)
  | return_ =>
    dsimp only [cx_1] at h
    have hs : rt = none := of_decide_eq_true hs
    obtain ⟨rfl, hz1⟩ := cx_vr_spec h
    exact cx_mono (fun t ht => hRet ws k n H locs (none) t hF hz1 ht) (W.vret hx hb (hr.trans hs) (fun t ht hW => ⟨rfl, ht⟩) (hfree _ _ _ _ _ hF) hd hlocks)
  | invokevirtual z =>
    dsimp only [cx_1] at h
    have hs : (z, a) ∈ CV := of_decide_eq_true hs
    obtain ⟨f, na, kc, ks, hf, h1, h2, h3, h4, hz1⟩ := cx_go_spec h
    have hst : st = (st.take na).reverse.reverse ++ st.drop na := by rw [List.reverse_reverse, List.take_append_drop]
    rw [hst]
    refine okV _ hs f na kc ks hf pc H locs k n ls _ _ ws _ hd (by rw [List.length_reverse, List.length_take]; omega) h4 h1 h2 hF hl.1 hz1 (fun x ws' q => q) (fun u ws' H' locs' q hF' => ?_)
    cases u with
    | none => exact hK _ _ _ _ _ _ q H' locs' ls hF' hl
    | some u => exact hK _ _ _ _ _ _ q H' locs' ls hF' hl
  | invokestatic z =>
    dsimp only [cx_1] at h
    have hs : (z, a) ∈ CS := of_decide_eq_true hs
    obtain ⟨f, na, kc, ks, hf, h1, h2, h3, h4, hz1⟩ := cx_go_spec h
    have hst : st = (st.take na).reverse.reverse ++ st.drop na := by rw [List.reverse_reverse, List.take_append_drop]
    rw [hst]
    refine okS _ hs f na kc ks hf pc H locs k n ls _ _ ws _ hd (by rw [List.length_reverse, List.length_take]; omega) h4 h1 h2 hF hl.1 hz1 (fun x ws' q => q) (fun u ws' H' locs' q hF' => ?_)
    cases u with
    | none => exact hK _ _ _ _ _ _ q H' locs' ls hF' hl
    | some u => exact hK _ _ _ _ _ _ q H' locs' ls hF' hl
  | new z =>
    dsimp only [cx_1] at h
    have hs : (pc, a) ∈ TH := of_decide_eq_true hs
    obtain ⟨rfl, hz1⟩ := cx_vr_spec h
    obtain ⟨x, hx1, rfl, rfl, h1, h2, hz2⟩ := cx_thr_spec hz1
    exact okT _ hs x hx1 H locs ls ws h1 h2 hF hl.1 hz2
  | _ => exact False.elim h
theorem cx_get_spec : ∀ {T : List (Nat × cx_E)} {pc : Nat} {en : cx_E}, cx_get T pc = some en → (pc, en) ∈ T
  | [], _, _, h => by cases h
  | q :: r, pc, en, h => by
    unfold cx_get at h
    split at h
    · rename_i hb
      have e : q.1 = pc := Nat.eq_of_beq_eq_true hb
      cases h
      rw [← e]
      exact List.mem_cons_self
    · exact List.mem_cons_of_mem _ (cx_get_spec h)
theorem cx_sound {wr : Bool} {F0c : cx_F} {own : String} {rt : Option FieldType} {F : List (Nat × Nat × Nat)} {FP : List (Nat × Nat × Nat × Int32)} {LC : List (Nat × Int64)} {CV CS : List (Nat × Nat)} {TH : List (Nat × Nat)} {T : List (Nat × cx_E)} {Sp : List (cx_S × Nat × Nat × Nat)} {Ex : List String} {Sw : List (Nat × List Nat)}
    (hx : p.tables.exec = Jvm.exec) (hb : c.code = cc) (hG : cx_okG G) (hKn : cx_Kn Tb G s) (hlocks : meth.locks = false) (hr : meth.sig.returnType = rt) (hown : s.vm.findClass own = some m.cls)
    (hFP : ∀ ws k n H locs, F0c ws k n H locs → cx_P G ws H ∧ (k ≤ mc ∧ n ≤ ms) ∧ ∀ q ∈ locs, (cx_H0 G).size ≤ q.base)
    (hfree : ∀ ws k n H locs, F0c ws k n H locs → ∀ q ∈ locs, free q.base) (hRet : ∀ ws k n H locs u t, F0c ws k n H locs → Rq (.inl u) ws → cx_end0 below args G s k n free H u t → Q t)
    (hFw : wr = true → ∀ (ws ws' : List cx_C) (k n : Nat) (H H' : Heap) (locs : List Loc) (a i : Nat), F0c ws k n H locs → cx_P G ws' H' → (cx_H0 G).size ≤ a → H'.size = H.size → ws'.length = ws.length → F0c ws' k n H' (locs ++ [⟨a, i⟩]))
    (okF : ∀ q ∈ F, cx_okget p l e R s m args below meth c cc G Q q.1 q.2.1 q.2.2)
    (okP : ∀ q ∈ FP, cx_okput p l e R s m args below meth c cc G Q q.1 q.2.1 q.2.2.1 q.2.2.2)
    (okL : ∀ q ∈ LC, (Jvm.Cond.constantLong own q.1 q.2).before args s = true)
    (okV : ∀ q ∈ CV, ∀ f na kc ks, Sp[q.2]? = some (f, na, kc, ks) → cx_okcall p l e R s m args below meth c cc G nL mc ms F0c Q Rq (.invokevirtual q.1) f na kc ks)
    (okS : ∀ q ∈ CS, ∀ f na kc ks, Sp[q.2]? = some (f, na, kc, ks) → cx_okcall p l e R s m args below meth c cc G nL mc ms F0c Q Rq (.invokestatic q.1) f na kc ks)
    (okT : ∀ q ∈ TH, ∀ x, Ex[q.2]? = some x → cx_okthr p l e R s m args below meth c G nL mc ms F0c Q Rq q.1 x)
    (hT : T.all (cx_dec wr cc rt nL F FP LC CV CS TH Sw) = true) {P : List Nat} {K : cx_K} (hK : ∀ pc lv st ws k n, K pc lv st ws k n → cx_AW p l e R s m args below meth c G nL F0c Q pc lv st ws k n) :
    ∀ (i : Nat) {pc : Nat} {lv : cx_L} {st : List cx_V} {ws : List cx_C} {k n : Nat}, cx_ax T Sp Ex Sw mc ms P Rq K i pc lv st ws k n → cx_AW p l e R s m args below meth c G nL F0c Q pc lv st ws k n := by
  intro i
  induction i with
  | zero => intro pc lv st ws k n h; exact hK _ _ _ _ _ _ h
  | succ i ih =>
    intro pc lv st ws k n h
    unfold cx_ax at h
    split at h
    · rename_i en hen
      obtain ⟨d1, d3, d2⟩ := cx_dec_spec (List.all_eq_true.mp hT _ (cx_get_spec hen))
      refine cx_s1 hx hb hG hKn hlocks hr hown hFP hfree hRet hFw okF okP okL okV okS okT d1 d3 d2 (fun pc lv st ws k n q => ?_) h
      split at q
      · exact hK _ _ _ _ _ _ q
      · exact ih q
    · exact h.elim
end CXT
