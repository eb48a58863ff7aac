/-! ===== one step ===== -/
section ZST
variable {p : Program} {l : Launch} {e : Env} {R : Room} {s : State} {m : MethodId} {args : Array Value} {below : List Frame} {meth : Method} {c : Code} {H : Heap} {locs : List Loc} {Q : State → Prop}
theorem zm_ldcwS {T : State} {locs : List Loc} {cells slots : Nat} (X : Stand p l e R s m args below meth c T locs cells slots) (hexec : p.tables.exec = Jvm.exec) {own text : String} {index : Nat} {a : Addr} (hown : s.vm.findClass own = some m.cls)
    (hconst : (Cond.stringRef own index text).before args s = true) (hev : (Term.string own index).eval args s none [] s = some (.ref a)) {g : JFrame} (hg : g.method = m) (hdg : decode c.code g.pc = .ok (.ldc_w index, 3)) :
    ∀ target, Steps p.tables e below (T.setTop { g with pc := g.pc + 3, stack := .ref a :: g.stack }) target → Steps p.tables e below (T.setTop g) target := by
  obtain ⟨k, cf, i, a', hk, hcf, hcp, -, hr, hev'⟩ := Cond.stringRef_spec hown hconst
  cases hev.symm.trans hev'
  obtain ⟨k', hk', he⟩ := X.warmed.alike.2.2 _ _ hk
  have hr' : k'.resolved[index]? = some (some (.string a)) := by
    rcases X.warmed.entry hk hk' index with h | ⟨h, -⟩
    · rw [h]; exact hr
    · rw [hr] at h; cases h
  intro target hrest
  subst hg
  jvm_step X.here [hexec, hdg, ldc_w.wp_string (e := e) (s := T) (f := g) X.here.top hk' (by rw [he]; exact hcf) hcp hr']
  exact hrest
theorem zm_lldcw {cells slots pc q index : Nat} {ls : Array Slot} {rest : List Value} {cc : ByteArray} {own tx : String} (hexec : p.tables.exec = Jvm.exec) (hb : c.code = cc) (hown : s.vm.findClass own = some m.cls) (hZ : vk_R own index tx q s) (hdg : decode cc pc = .ok (.ldc_w index, 3))
    (k : W p l e R s m args below meth c H locs cells slots Q (F0 m (pc + 3) ls (.ref q :: rest))) : W p l e R s m args below meth c H locs cells slots Q (F0 m pc ls rest) := by
  intro T hT X
  obtain ⟨t, a1, b1⟩ := k T hT X
  exact ⟨t, zm_ldcwS X hexec hown (text := tx) (a := q) hZ.1 hZ.2 (g := F0 m pc ls rest) rfl (by rw [hb]; exact hdg) t a1, b1⟩
theorem zm_c_adn {ad : Nat → Nat} {n q : Nat} : zm_c (zm_adn ad n q) (.ref n) = .ref q := by simp [zm_c, zm_adn_eq]
set_option maxRecDepth 100000 in
set_option maxHeartbeats 8000000 in
theorem zm_step {x : zm_X} {D : va_G} {dA : Nat → ClassId} {adV : Nat → Nat} {N0 : Nat} {ad : Nat → Nat} {mi k0 z0 : Nat} (F : zm_Fx p s m args meth c mi) (C : zm_Cx x D dA adV N0 ad s s.heap) (hN : N0 ≤ s.heap.size)
    {pc : Nat} {ls : zm_L} {st : List Value} {h : zm_H} {la : Array Slot} {q : zm_I} {t : zm_T} (hq : zm_lk mi pc = some q) (hs : zm_S x q pc ls st h = some t)
    (hP : va_P D vwCl (zm_ws ad dA h) H) (hD : va_D (zm_A N0) (zm_ws ad dA h)) (hS : va_S (zm_A N0) s.heap H locs) (hL : zm_Ls ad ls (zm_ml mi) la)
    (hw : zm_hw h) (hwl : zm_lw1 h.1.length ls) (hwst : zm_sw1 h.1.length st) (hk0 : k0 ≤ h.1.length) (hz0 : z0 ≤ zm_sz h) (hRc : t.2.2.2.1.length - k0 ≤ R.cells) (hRs : zm_sz t.2.2.2 - z0 ≤ R.slots)
    (kk : ∀ (ad' : Nat → Nat) (H1 : Heap) (locs1 : List Loc) (la1 : Array Slot), zm_ae h.1.length ad ad' → va_P D vwCl (zm_ws ad' dA t.2.2.2) H1 → va_D (zm_A N0) (zm_ws ad' dA t.2.2.2) → va_S (zm_A N0) s.heap H1 locs1 → zm_Ls ad' t.2.1 (zm_ml mi) la1 → W p l e R s m args below meth c H1 locs1 (t.2.2.2.1.length - k0) (zm_sz t.2.2.2 - z0) Q (F0 m t.1 la1 (t.2.2.1.map (zm_c ad')))) :
    W p l e R s m args below meth c H locs (h.1.length - k0) (zm_sz h - z0) Q (F0 m pc la (st.map (zm_c ad))) := by
  obtain ⟨hx, hb, hml, hown, hts, hini⟩ := F
  obtain ⟨hK, hnest, hZw, hXw, hXs, hSt, -, -, hAO, -⟩ := C
  obtain ⟨hd, hi⟩ := zm_ok hq
  have hgw : ∀ w, w ∈ lw_tbl → goodWord w = true → w.before args s = true := fun w h1 h2 => hts w (zm_GW_in h1 h2)
  have hnw : ∀ w, w ∈ lw_tbl → zm_isN w = true → w.onTables = true → w.before args s = true := fun w h1 h2 h3 => va_Nw.use h3 (hnest w h1 h2)
  obtain ⟨len, ins, a, b, v⟩ := q
  dsimp only at hd
  cases ins with
  | iconst n =>
    obtain ⟨hl, hv⟩ := zm_and (show (len == 1 && decide (Int32.ofInt n = v)) = true from hi)
    have hl := zm_beq hl
    subst hl
    have hs : some (pc + 1, ls, Value.int v :: st, h) = some t := hs
    cases hs
    exact lv_iconst hx hb hd (of_decide_eq_true hv) (kk ad H locs la zm_ae.rfl hP hD hS hL)
  | bipush n =>
    obtain ⟨hl, hv⟩ := zm_and (show (len == 2 && decide ((Int8.ofInt n).toInt32 = v)) = true from hi)
    have hl := zm_beq hl
    subst hl
    have hs : some (pc + 2, ls, Value.int v :: st, h) = some t := hs
    cases hs
    exact lv_bipush hx hb hd (of_decide_eq_true hv) (kk ad H locs la zm_ae.rfl hP hD hS hL)
  | sipush n =>
    obtain ⟨hl, hv⟩ := zm_and (show (len == 3 && decide ((Int16.ofInt n).toInt32 = v)) = true from hi)
    have hl := zm_beq hl
    subst hl
    have hs : some (pc + 3, ls, Value.int v :: st, h) = some t := hs
    cases hs
    exact lv_sipush hx hb hd (of_decide_eq_true hv) (kk ad H locs la zm_ae.rfl hP hD hS hL)
  | lconst n =>
    obtain ⟨hl, hv⟩ := zm_and (show (len == 1 && decide (Int64.ofNat (n : Nat) = v.toInt64)) = true from hi)
    have hl := zm_beq hl
    subst hl
    have hs : some (pc + 1, ls, Value.long v.toInt64 :: st, h) = some t := hs
    cases hs
    exact lv_lconst hx hb hd (of_decide_eq_true hv) (kk ad H locs la zm_ae.rfl hP hD hS hL)
  | ldc i =>
    obtain ⟨hl, hv⟩ := zm_and (show (len == 2 && zm_ick (zm_oc mi) a b v i) = true from hi)
    have hl := zm_beq hl
    subst hl
    obtain ⟨r, hr, hrr⟩ := zm_any hv
    obtain ⟨h1, h2⟩ := zm_and hrr
    have h1 := zm_beq h1
    obtain ⟨hw1, hw2⟩ := zm_kp_ok _ r hr
    by_cases hb0 : b = 0
    · rw [if_pos hb0] at h2
      obtain ⟨h3, h4⟩ := zm_and h2
      have h3 := zm_beq h3
      have h4 := of_decide_eq_true h4
      have hs : (if b = 0 then some (pc + 2, ls, Value.int v :: st, h) else some (pc + 2, ls, Value.ref (2000000 + a) :: st, h)) = some t := hs
      rw [if_pos hb0] at hs
      cases hs
      have hword : zm_kw (zm_oc mi) r = .constant (zm_cn (zm_oc mi)) i v := by simp [zm_kw, h3, h1, h4]
      have hc := hgw _ (zm_tb_at hw1) (hw2 (by omega))
      rw [hword] at hc
      exact lv_ldc hx hb hown hc hd (kk ad H locs la zm_ae.rfl hP hD hS hL)
    · rw [if_neg hb0] at h2
      obtain ⟨h3, h4⟩ := zm_and h2
      obtain ⟨h4, h5⟩ := zm_and h4
      have h4 := zm_beq h4
      have h5 := of_decide_eq_true h5
      have hs : (if b = 0 then some (pc + 2, ls, Value.int v :: st, h) else some (pc + 2, ls, Value.ref (2000000 + a) :: st, h)) = some t := hs
      rw [if_neg hb0] at hs
      cases hs
      have hZ := hSt (zm_oc mi) r hr h4
      rw [h1, h5] at hZ
      exact va_ldcS hx hb hown hZ hd (kk ad H locs la zm_ae.rfl hP hD hS hL)
  | ldc_w i =>
    obtain ⟨hl, hv⟩ := zm_and (show (len == 3 && zm_ick (zm_oc mi) a b v i) = true from hi)
    have hl := zm_beq hl
    subst hl
    obtain ⟨r, hr, hrr⟩ := zm_any hv
    obtain ⟨h1, h2⟩ := zm_and hrr
    have h1 := zm_beq h1
    obtain ⟨hw1, hw2⟩ := zm_kp_ok _ r hr
    by_cases hb0 : b = 0
    · rw [if_pos hb0] at h2
      obtain ⟨h3, h4⟩ := zm_and h2
      have h3 := zm_beq h3
      have h4 := of_decide_eq_true h4
      have hs : (if b = 0 then some (pc + 3, ls, Value.int v :: st, h) else some (pc + 3, ls, Value.ref (2000000 + a) :: st, h)) = some t := hs
      rw [if_pos hb0] at hs
      cases hs
      have hword : zm_kw (zm_oc mi) r = .constant (zm_cn (zm_oc mi)) i v := by simp [zm_kw, h3, h1, h4]
      have hc := hgw _ (zm_tb_at hw1) (hw2 (by omega))
      rw [hword] at hc
      exact lv_ldcw hx hb hown hc hd (kk ad H locs la zm_ae.rfl hP hD hS hL)
    · rw [if_neg hb0] at h2
      obtain ⟨h3, h4⟩ := zm_and h2
      obtain ⟨h4, h5⟩ := zm_and h4
      have h4 := zm_beq h4
      have h5 := of_decide_eq_true h5
      have hs : (if b = 0 then some (pc + 3, ls, Value.int v :: st, h) else some (pc + 3, ls, Value.ref (2000000 + a) :: st, h)) = some t := hs
      rw [if_neg hb0] at hs
      cases hs
      have hZ := hSt (zm_oc mi) r hr h4
      rw [h1, h5] at hZ
      exact zm_lldcw hx hb hown hZ hd (kk ad H locs la zm_ae.rfl hP hD hS hL)
  | ldc2_w i =>
    obtain ⟨hl, hv⟩ := zm_and (show (len == 3 && (zm_kp (zm_oc mi)).any (fun r => r.1 == i && (r.2.1 == 2 && decide (r.2.2.1 = v)))) = true from hi)
    have hl := zm_beq hl
    subst hl
    obtain ⟨r, hr, hrr⟩ := zm_any hv
    obtain ⟨h1, h2⟩ := zm_and hrr
    have h1 := zm_beq h1
    obtain ⟨hw1, hw2⟩ := zm_kp_ok _ r hr
    obtain ⟨h3, h4⟩ := zm_and h2
    have h3 := zm_beq h3
    have h4 := of_decide_eq_true h4
    have hs : some (pc + 3, ls, Value.long v.toInt64 :: st, h) = some t := hs
    cases hs
    have hword : zm_kw (zm_oc mi) r = .constantLong (zm_cn (zm_oc mi)) i v.toInt64 := by simp [zm_kw, h3, h1, h4]
    have hc := hgw _ (zm_tb_at hw1) (hw2 (by omega))
    rw [hword] at hc
    exact lv_ldc2 hx hb hown hc hd (kk ad H locs la zm_ae.rfl hP hD hS hL)
  | iload_n k =>
    have hl : len = 1 := zm_beq hi
    subst hl
    obtain ⟨y, hy, ht⟩ := zm_ld1_inv hs
    subst ht
    exact lv_iload_n hx hb hd rfl (hL.ld hy) (kk ad H locs la zm_ae.rfl hP hD hS hL)
  | lload_n k =>
    have hl : len = 1 := zm_beq hi
    subst hl
    obtain ⟨y, hy, ht⟩ := zm_ldl_inv hs
    subst ht
    exact lv_lload_n hx hb hd rfl (hL.ld hy) (kk ad H locs la zm_ae.rfl hP hD hS hL)
  | aload_n k =>
    have hl : len = 1 := zm_beq hi
    subst hl
    obtain ⟨y, hy, ht⟩ := zm_lda_inv hs
    subst ht
    exact lv_aload_n hx hb hd rfl (hL.ld hy) (kk ad H locs la zm_ae.rfl hP hD hS hL)
  | iload k =>
    have hl : len = 2 := zm_beq hi
    subst hl
    obtain ⟨y, hy, ht⟩ := zm_ld1_inv hs
    subst ht
    exact lv_iload hx hb hd (hL.ld hy) (kk ad H locs la zm_ae.rfl hP hD hS hL)
  | istore_n k =>
    have hl : len = 1 := zm_beq hi
    subst hl
    obtain ⟨y, r, l', hst, hso, ht⟩ := zm_st1_inv hs
    subst hst
    subst ht
    exact lv_istore_n hx hb hd rfl hL.has (Nat.lt_of_lt_of_le (zm_so_spec hso).1 hL.2.2.1) rfl (fun la' hla' => kk ad H locs la' zm_ae.rfl hP hD hS (hL.so hso hla'))
  | astore_n k =>
    have hl : len = 1 := zm_beq hi
    subst hl
    obtain ⟨y, r, l', hst, hso, ht⟩ := zm_sta_inv hs
    subst hst
    subst ht
    exact lv_astore_n hx hb hd rfl hL.has (Nat.lt_of_lt_of_le (zm_so_spec hso).1 hL.2.2.1) rfl (fun la' hla' => kk ad H locs la' zm_ae.rfl hP hD hS (hL.so hso hla'))
  | istore k =>
    have hl : len = 2 := zm_beq hi
    subst hl
    obtain ⟨y, r, l', hst, hso, ht⟩ := zm_st1_inv hs
    subst hst
    subst ht
    exact lv_istore hx hb hd hL.has (Nat.lt_of_lt_of_le (zm_so_spec hso).1 hL.2.2.1) rfl (fun la' hla' => kk ad H locs la' zm_ae.rfl hP hD hS (hL.so hso hla'))
  | iinc k n =>
    obtain ⟨hl, hv⟩ := zm_and (show (len == 3 && decide (Int32.ofInt n = v)) = true from hi)
    have hl := zm_beq hl
    subst hl
    obtain ⟨y, l', hy, hso, ht⟩ := zm_iin_inv hs
    subst ht
    obtain ⟨kx, hkx⟩ := List.getElem?_of_mem (zm_lv_mem.mpr ⟨.int y, zm_ld_at hy, rfl⟩ : (k, Value.int y) ∈ zm_lv ad ls)
    exact lv_iinc (k := kx) hx hb hd hL.has hkx (by rw [of_decide_eq_true hv]) (Nat.lt_of_lt_of_le (zm_so_spec hso).1 hL.2.2.1) rfl (fun la' hla' => kk ad H locs la' zm_ae.rfl hP hD hS (hL.so hso hla'))
  | iadd =>
    have hl : len = 1 := zm_beq hi
    subst hl
    obtain ⟨y, z, r, hst, ht⟩ := zm_b2_inv hs
    subst hst
    subst ht
    exact lv_iadd hx hb hd (kk ad H locs la zm_ae.rfl hP hD hS hL)
  | isub =>
    have hl : len = 1 := zm_beq hi
    subst hl
    obtain ⟨y, z, r, hst, ht⟩ := zm_b2_inv hs
    subst hst
    subst ht
    exact lv_isub hx hb hd (kk ad H locs la zm_ae.rfl hP hD hS hL)
  | imul =>
    have hl : len = 1 := zm_beq hi
    subst hl
    obtain ⟨y, z, r, hst, ht⟩ := zm_b2_inv hs
    subst hst
    subst ht
    exact lv_imul hx hb hd (kk ad H locs la zm_ae.rfl hP hD hS hL)
  | iand =>
    have hl : len = 1 := zm_beq hi
    subst hl
    obtain ⟨y, z, r, hst, ht⟩ := zm_b2_inv hs
    subst hst
    subst ht
    exact lv_iand hx hb hd (kk ad H locs la zm_ae.rfl hP hD hS hL)
  | ior =>
    have hl : len = 1 := zm_beq hi
    subst hl
    obtain ⟨y, z, r, hst, ht⟩ := zm_b2_inv hs
    subst hst
    subst ht
    exact lv_ior hx hb hd (kk ad H locs la zm_ae.rfl hP hD hS hL)
  | ixor =>
    have hl : len = 1 := zm_beq hi
    subst hl
    obtain ⟨y, z, r, hst, ht⟩ := zm_b2_inv hs
    subst hst
    subst ht
    exact lv_ixor hx hb hd (kk ad H locs la zm_ae.rfl hP hD hS hL)
  | ishl =>
    have hl : len = 1 := zm_beq hi
    subst hl
    obtain ⟨y, z, r, hst, ht⟩ := zm_b2_inv hs
    subst hst
    subst ht
    exact lv_ishl hx hb hd (kk ad H locs la zm_ae.rfl hP hD hS hL)
  | ishr =>
    have hl : len = 1 := zm_beq hi
    subst hl
    obtain ⟨y, z, r, hst, ht⟩ := zm_b2_inv hs
    subst hst
    subst ht
    exact lv_ishr hx hb hd (kk ad H locs la zm_ae.rfl hP hD hS hL)
  | iushr =>
    have hl : len = 1 := zm_beq hi
    subst hl
    obtain ⟨y, z, r, hst, ht⟩ := zm_b2_inv hs
    subst hst
    subst ht
    exact lv_iushr hx hb hd rfl (kk ad H locs la zm_ae.rfl hP hD hS hL)
  | idiv =>
    have hl : len = 1 := zm_beq hi
    subst hl
    obtain ⟨y, z, r, hst, hne, ht⟩ := zm_d2_inv hs
    subst hst
    subst ht
    exact lv_idiv hx hb hd hne (kk ad H locs la zm_ae.rfl hP hD hS hL)
  | irem =>
    have hl : len = 1 := zm_beq hi
    subst hl
    obtain ⟨y, z, r, hst, hne, ht⟩ := zm_d2_inv hs
    subst hst
    subst ht
    exact lv_irem hx hb hd hne (kk ad H locs la zm_ae.rfl hP hD hS hL)
  | ineg =>
    have hl : len = 1 := zm_beq hi
    subst hl
    obtain ⟨y, r, hst, ht⟩ := zm_m1_inv hs
    subst hst
    subst ht
    exact lv_ineg hx hb hd (kk ad H locs la zm_ae.rfl hP hD hS hL)
  | i2b =>
    have hl : len = 1 := zm_beq hi
    subst hl
    obtain ⟨y, r, hst, ht⟩ := zm_m1_inv hs
    subst hst
    subst ht
    exact lv_i2b hx hb hd rfl (kk ad H locs la zm_ae.rfl hP hD hS hL)
  | i2c =>
    have hl : len = 1 := zm_beq hi
    subst hl
    obtain ⟨y, r, hst, ht⟩ := zm_m1_inv hs
    subst hst
    subst ht
    exact lv_i2c hx hb hd rfl (kk ad H locs la zm_ae.rfl hP hD hS hL)
  | ladd =>
    have hl : len = 1 := zm_beq hi
    subst hl
    obtain ⟨y, z, r, hst, ht⟩ := zm_l2_inv hs
    subst hst
    subst ht
    exact lv_ladd hx hb hd (kk ad H locs la zm_ae.rfl hP hD hS hL)
  | lsub =>
    have hl : len = 1 := zm_beq hi
    subst hl
    obtain ⟨y, z, r, hst, ht⟩ := zm_l2_inv hs
    subst hst
    subst ht
    exact lv_lsub hx hb hd (kk ad H locs la zm_ae.rfl hP hD hS hL)
  | lmul =>
    have hl : len = 1 := zm_beq hi
    subst hl
    obtain ⟨y, z, r, hst, ht⟩ := zm_l2_inv hs
    subst hst
    subst ht
    exact lv_lmul hx hb hd (kk ad H locs la zm_ae.rfl hP hD hS hL)
  | lcmp =>
    have hl : len = 1 := zm_beq hi
    subst hl
    (match st, hs with
    | .long z :: .long y :: r, hs =>
      have hs : some (pc + 1, ls, Value.int (lg_cmp y z) :: r, h) = some t := hs
      cases hs
      exact W.lcmp hx hb hd (kk ad H locs la zm_ae.rfl hP hD hS hL))
  | i2l =>
    have hl : len = 1 := zm_beq hi
    subst hl
    (match st, hs with
    | .int y :: r, hs =>
      have hs : some (pc + 1, ls, Value.long y.toInt64 :: r, h) = some t := hs
      cases hs
      exact lv_i2l hx hb hd rfl (kk ad H locs la zm_ae.rfl hP hD hS hL))
  | l2i =>
    have hl : len = 1 := zm_beq hi
    subst hl
    (match st, hs with
    | .long y :: r, hs =>
      have hs : some (pc + 1, ls, Value.int y.toInt32 :: r, h) = some t := hs
      cases hs
      exact lv_l2i hx hb hd rfl (kk ad H locs la zm_ae.rfl hP hD hS hL))
  | pop =>
    have hl : len = 1 := zm_beq hi
    subst hl
    (match st, hs with
    | .int y :: r, hs =>
      have hs : some (pc + 1, ls, r, h) = some t := hs
      cases hs
      exact lv_pop hx hb hd rfl (kk ad H locs la zm_ae.rfl hP hD hS hL))
  | dup =>
    have hl : len = 1 := zm_beq hi
    subst hl
    (match st, hs with
    | .int y :: r, hs =>
      have hs : some (pc + 1, ls, Value.int y :: Value.int y :: r, h) = some t := hs
      cases hs
      exact lv_dup hx hb hd rfl (kk ad H locs la zm_ae.rfl hP hD hS hL)
    | .ref y :: r, hs =>
      have hs : some (pc + 1, ls, Value.ref y :: Value.ref y :: r, h) = some t := hs
      cases hs
      exact lv_dup hx hb hd rfl (kk ad H locs la zm_ae.rfl hP hD hS hL))
  | dup2 =>
    have hl : len = 1 := zm_beq hi
    subst hl
    (match st, hs with
    | .int y :: .ref z :: r, hs =>
      have hs : some (pc + 1, ls, Value.int y :: Value.ref z :: Value.int y :: Value.ref z :: r, h) = some t := hs
      cases hs
      exact lv_dup2_11 hx hb hd rfl rfl (kk ad H locs la zm_ae.rfl hP hD hS hL))
  | ifCond cd off =>
    obtain ⟨hl, hv⟩ := zm_and (show (len == 3 && decide ((pc : Int) + off = (a : Int))) = true from hi)
    have hl := zm_beq hl
    subst hl
    have ht := of_decide_eq_true hv
    obtain ⟨y, r, hst, ht'⟩ := zm_if1_inv hs
    subst hst
    subst ht'
    dsimp only at kk
    (cases cd with
    | eq =>
      refine lv_if_eq hx hb hd ht (fun hc => ?_) (fun hc => ?_)
      · have e1 : zm_c1 .eq y = true := decide_eq_true hc
        rw [if_pos e1] at kk
        exact (kk ad H locs la zm_ae.rfl hP hD hS hL)
      · have e1 : ¬ zm_c1 .eq y = true := fun z => hc (of_decide_eq_true z)
        rw [if_neg e1] at kk
        exact (kk ad H locs la zm_ae.rfl hP hD hS hL)
    | ne =>
      refine lv_if_ne hx hb hd ht (fun hc => ?_) (fun hc => ?_)
      · have e1 : zm_c1 .ne y = true := decide_eq_true hc
        rw [if_pos e1] at kk
        exact (kk ad H locs la zm_ae.rfl hP hD hS hL)
      · have e1 : ¬ zm_c1 .ne y = true := fun z => of_decide_eq_true z hc
        rw [if_neg e1] at kk
        exact (kk ad H locs la zm_ae.rfl hP hD hS hL)
    | lt =>
      refine lv_if_lt hx hb hd ht (fun hc => ?_) (fun hc => ?_)
      · have e1 : zm_c1 .lt y = true := decide_eq_true hc
        rw [if_pos e1] at kk
        exact (kk ad H locs la zm_ae.rfl hP hD hS hL)
      · have e1 : ¬ zm_c1 .lt y = true := fun z => hc (of_decide_eq_true z)
        rw [if_neg e1] at kk
        exact (kk ad H locs la zm_ae.rfl hP hD hS hL)
    | ge =>
      refine lv_if_ge hx hb hd ht (fun hc => ?_) (fun hc => ?_)
      · have e1 : zm_c1 .ge y = true := decide_eq_true hc
        rw [if_pos e1] at kk
        exact (kk ad H locs la zm_ae.rfl hP hD hS hL)
      · have e1 : ¬ zm_c1 .ge y = true := fun z => hc (of_decide_eq_true z)
        rw [if_neg e1] at kk
        exact (kk ad H locs la zm_ae.rfl hP hD hS hL)
    | gt =>
      refine lv_if_gt hx hb hd ht (fun hc => ?_) (fun hc => ?_)
      · have e1 : zm_c1 .gt y = true := decide_eq_true hc
        rw [if_pos e1] at kk
        exact (kk ad H locs la zm_ae.rfl hP hD hS hL)
      · have e1 : ¬ zm_c1 .gt y = true := fun z => hc (of_decide_eq_true z)
        rw [if_neg e1] at kk
        exact (kk ad H locs la zm_ae.rfl hP hD hS hL)
    | le =>
      refine lv_if_le hx hb hd ht (fun hc => ?_) (fun hc => ?_)
      · have e1 : zm_c1 .le y = true := decide_eq_true hc
        rw [if_pos e1] at kk
        exact (kk ad H locs la zm_ae.rfl hP hD hS hL)
      · have e1 : ¬ zm_c1 .le y = true := fun z => hc (of_decide_eq_true z)
        rw [if_neg e1] at kk
        exact (kk ad H locs la zm_ae.rfl hP hD hS hL))
  | if_icmp cd off =>
    obtain ⟨hl, hv⟩ := zm_and (show (len == 3 && decide ((pc : Int) + off = (a : Int))) = true from hi)
    have hl := zm_beq hl
    subst hl
    have ht := of_decide_eq_true hv
    obtain ⟨y, z, r, hst, ht'⟩ := zm_if2_inv hs
    subst hst
    subst ht'
    dsimp only at kk
    (cases cd with
    | eq =>
      refine lv_icmp_eq hx hb hd ht (fun hc => ?_) (fun hc => ?_)
      · have e1 : zm_c2 .eq y z = true := decide_eq_true hc
        rw [if_pos e1] at kk
        exact (kk ad H locs la zm_ae.rfl hP hD hS hL)
      · have e1 : ¬ zm_c2 .eq y z = true := fun z => hc (of_decide_eq_true z)
        rw [if_neg e1] at kk
        exact (kk ad H locs la zm_ae.rfl hP hD hS hL)
    | ne =>
      refine lv_icmp_ne hx hb hd ht (fun hc => ?_) (fun hc => ?_)
      · have e1 : zm_c2 .ne y z = true := decide_eq_true hc
        rw [if_pos e1] at kk
        exact (kk ad H locs la zm_ae.rfl hP hD hS hL)
      · have e1 : ¬ zm_c2 .ne y z = true := fun z => of_decide_eq_true z hc
        rw [if_neg e1] at kk
        exact (kk ad H locs la zm_ae.rfl hP hD hS hL)
    | lt =>
      refine lv_icmp_lt hx hb hd ht (fun hc => ?_) (fun hc => ?_)
      · have e1 : zm_c2 .lt y z = true := decide_eq_true hc
        rw [if_pos e1] at kk
        exact (kk ad H locs la zm_ae.rfl hP hD hS hL)
      · have e1 : ¬ zm_c2 .lt y z = true := fun z => hc (of_decide_eq_true z)
        rw [if_neg e1] at kk
        exact (kk ad H locs la zm_ae.rfl hP hD hS hL)
    | ge =>
      refine lv_icmp_ge hx hb hd ht (fun hc => ?_) (fun hc => ?_)
      · have e1 : zm_c2 .ge y z = true := decide_eq_true hc
        rw [if_pos e1] at kk
        exact (kk ad H locs la zm_ae.rfl hP hD hS hL)
      · have e1 : ¬ zm_c2 .ge y z = true := fun z => hc (of_decide_eq_true z)
        rw [if_neg e1] at kk
        exact (kk ad H locs la zm_ae.rfl hP hD hS hL)
    | gt =>
      refine lv_icmp_gt hx hb hd ht (fun hc => ?_) (fun hc => ?_)
      · have e1 : zm_c2 .gt y z = true := decide_eq_true hc
        rw [if_pos e1] at kk
        exact (kk ad H locs la zm_ae.rfl hP hD hS hL)
      · have e1 : ¬ zm_c2 .gt y z = true := fun z => hc (of_decide_eq_true z)
        rw [if_neg e1] at kk
        exact (kk ad H locs la zm_ae.rfl hP hD hS hL)
    | le =>
      refine lv_icmp_le hx hb hd ht (fun hc => ?_) (fun hc => ?_)
      · have e1 : zm_c2 .le y z = true := decide_eq_true hc
        rw [if_pos e1] at kk
        exact (kk ad H locs la zm_ae.rfl hP hD hS hL)
      · have e1 : ¬ zm_c2 .le y z = true := fun z => hc (of_decide_eq_true z)
        rw [if_neg e1] at kk
        exact (kk ad H locs la zm_ae.rfl hP hD hS hL))
  | goto off =>
    obtain ⟨hl, hv⟩ := zm_and (show (len == 3 && decide ((pc : Int) + off = (a : Int))) = true from hi)
    have hl := zm_beq hl
    subst hl
    have ht := of_decide_eq_true hv
    have hs : some (a, ls, st, h) = some t := hs
    cases hs
    exact lv_goto hx hb hd ht (kk ad H locs la zm_ae.rfl hP hD hS hL)
  | ifnonnull off =>
    obtain ⟨hl, hv⟩ := zm_and (show (len == 3 && decide ((pc : Int) + off = (a : Int))) = true from hi)
    have hl := zm_beq hl
    subst hl
    have ht := of_decide_eq_true hv
    (match st, hs with
    | .ref y :: r, hs =>
      have hs : some (a, ls, r, h) = some t := hs
      cases hs
      exact lv_ifnonnull hx hb hd ht (kk ad H locs la zm_ae.rfl hP hD hS hL)
    | .null :: r, hs =>
      have hs : some (pc + 3, ls, r, h) = some t := hs
      cases hs
      exact lv_ifnonnullN hx hb hd (kk ad H locs la zm_ae.rfl hP hD hS hL))
  | arraylength =>
    have hl : len = 1 := zm_beq hi
    subst hl
    (match st, hs with
    | .ref i :: r, hs =>
      have hs : (match zm_al x h i with | some n => some (pc + 1, ls, Value.int (Int32.ofNat n) :: r, h) | none => none) = some t := hs
      cases hal : zm_al x h i with
      | none => rw [hal] at hs; cases hs
      | some n =>
        rw [hal] at hs
        cases hs
        unfold zm_al at hal
        split at hal
        · next ty n' hk =>
          cases hal
          exact zm_alen_ok hx hb hK hP hk (hw.2.2 _ _ _ hk) hd (kk ad H locs la zm_ae.rfl hP hD hS hL)
        · cases hal
        · obtain ⟨z, hz, hz'⟩ := zm_omap hal
          subst hz'
          exact va_tlen hx hb (zm_ro_ok hXw hXs hz) hS rfl hd (kk ad H locs la zm_ae.rfl hP hD hS hL))
  | iaload =>
    have hl : len = 1 := zm_beq hi
    subst hl
    obtain ⟨j, i, n, f, r, hst, hia, hin, ht⟩ := zm_ial_inv hs
    subst hst
    subst ht
    unfold zm_ia at hia
    split at hia
    · next ty n' hk =>
      obtain ⟨h0, h1⟩ := zm_ifs hia
      subst h0
      cases h1
      exact va_iald hx hb hK hP i 0 (by rw [zm_ws_arr hk, zm_arr_i (by decide) (by decide)]) rfl hin hd (kk ad H locs la zm_ae.rfl hP hD hS hL)
    · cases hia
    · exact va_ti hx hb (zm_ro_ok hXw hXs hia) hS hin rfl hd (kk ad H locs la zm_ae.rfl hP hD hS hL)
  | baload =>
    have hl : len = 1 := zm_beq hi
    subst hl
    obtain ⟨j, i, ty, n, r, hst, hk, hty, hin, ht⟩ := zm_bal_inv hs
    subst hst
    subst ht
    rcases hty with h0 | h0
    · subst h0
      exact va_bald hx hb hK hP i 1 (by rw [zm_ws_arr hk, zm_arr_i (by decide) (by decide)]) rfl hin hd (kk ad H locs la zm_ae.rfl hP hD hS hL)
    · subst h0
      exact va_zald hx hb hK hP i 2 (by rw [zm_ws_arr hk, zm_arr_i (by decide) (by decide)]) rfl hin hd (kk ad H locs la zm_ae.rfl hP hD hS hL)
  | laload =>
    have hl : len = 1 := zm_beq hi
    subst hl
    obtain ⟨j, i, n, r, hst, hk, hin, ht⟩ := zm_lal_inv hs
    subst hst
    subst ht
    exact va_lald hx hb hK hP i 3 (by rw [zm_ws_arr hk, zm_arr_l]) rfl hin hd (kk ad H locs la zm_ae.rfl hP hD hS hL)
  | aaload =>
    have hl : len = 1 := zm_beq hi
    subst hl
    obtain ⟨j, i, n, r, hst, hk, hin, ht⟩ := zm_aal_inv hs
    subst hst
    subst ht
    refine zm_aald_ok hx hb hK hP hk hin hd ?_
    have k9 := kk ad H locs la zm_ae.rfl hP hD hS hL
    dsimp only at k9
    rw [List.map_cons, zm_rvc] at k9
    exact k9
  | iastore =>
    have hl : len = 1 := zm_beq hi
    subst hl
    obtain ⟨y, j, i, n, r, hst, hk, hin, ht⟩ := zm_ias_inv hs
    subst hst
    subst ht
    exact va_iast hx hb hK hP hD hS i 0 (by rw [zm_ws_arr hk, zm_arr_i (by decide) (by decide)]) rfl hin hd (fun H1 locs1 hP1 hD1 hS1 => kk ad H1 locs1 la zm_ae.rfl (by dsimp only; rw [zm_si_ws hk (by decide) (by decide)]; exact hP1) (by dsimp only; rw [zm_si_ws hk (by decide) (by decide)]; exact hD1) hS1 hL)
  | bastore =>
    have hl : len = 1 := zm_beq hi
    subst hl
    obtain ⟨y, j, i, ty, n, r, hst, hk, hty, hin, ht⟩ := zm_bas_inv hs
    subst hst
    subst ht
    rcases hty with h0 | h0
    · subst h0
      exact va_bast hx hb hK hP hD hS i 1 (by rw [zm_ws_arr hk, zm_arr_i (by decide) (by decide)]) rfl hin hd (fun H1 locs1 hP1 hD1 hS1 => kk ad H1 locs1 la zm_ae.rfl (by dsimp only; rw [zm_si_ws hk (by decide) (by decide)]; exact hP1) (by dsimp only; rw [zm_si_ws hk (by decide) (by decide)]; exact hD1) hS1 hL)
    · subst h0
      exact va_zast hx hb hK hP hD hS i 2 (by rw [zm_ws_arr hk, zm_arr_i (by decide) (by decide)]) rfl hin hd (fun H1 locs1 hP1 hD1 hS1 => kk ad H1 locs1 la zm_ae.rfl (by dsimp only; rw [zm_si_ws hk (by decide) (by decide)]; exact hP1) (by dsimp only; rw [zm_si_ws hk (by decide) (by decide)]; exact hD1) hS1 hL)
  | lastore =>
    have hl : len = 1 := zm_beq hi
    subst hl
    obtain ⟨y, j, i, n, r, hst, hk, hin, ht⟩ := zm_las_inv hs
    subst hst
    subst ht
    exact va_last hx hb hK hP hD hS i 3 (by rw [zm_ws_arr hk, zm_arr_l]) rfl hin hd (fun H1 locs1 hP1 hD1 hS1 => kk ad H1 locs1 la zm_ae.rfl (by dsimp only; rw [zm_sl_ws hk]; exact hP1) (by dsimp only; rw [zm_sl_ws hk]; exact hD1) hS1 hL)
  | aastore =>
    have hl : len = 1 := zm_beq hi
    subst hl
    obtain ⟨y, j, i, n, nb, r, hst, hk, hky, hin, ht⟩ := zm_aas_inv hs
    subst hst
    subst ht
    exact zm_aast_ok hx hb hAO hK hP hD hS hk hky hin hd (fun H1 locs1 hP1 hD1 hS1 => kk ad H1 locs1 la zm_ae.rfl (by dsimp only; rw [zm_sr_ws hk]; exact hP1) (by dsimp only; rw [zm_sr_ws hk]; exact hD1) hS1 hL)
  | getfield i =>
    obtain ⟨hl, hv⟩ := zm_and (show (len == 3 && (zm_fp (zm_oc mi)).any (fun r => r.1 == i && (r.2.1 == a && r.2.2.1 == b))) = true from hi)
    have hl := zm_beq hl
    subst hl
    obtain ⟨r, hr, hrr⟩ := zm_any hv
    obtain ⟨h1, h2⟩ := zm_and hrr
    obtain ⟨h2a, h3a⟩ := zm_and h2
    have h1' := zm_beq h1
    have h2' := zm_beq h2a
    have h3' := zm_beq h3a
    obtain ⟨hw1, hw2, hw3, hw4, hw5⟩ := zm_fp_ok _ r hr
    obtain ⟨ri, rc, rk, rz, rt, ru⟩ := r
    dsimp only at h1' h2' h3' hw1 hw2 hw3 hw4 hw5
    clear hrr h1 h2 h2a h3a
    subst h1'
    subst h2'
    subst h3'
    obtain ⟨y, r', hst, hk, ht⟩ := zm_gf_inv hs
    subst hst
    subst ht
    obtain ⟨g1, g2, g3, g4⟩ := zm_cls hw5
    have k9 := kk ad H locs la zm_ae.rfl hP hD hS hL
    dsimp only at k9
    rw [List.map_cons, zm_gfc] at k9
    by_cases hz : rz = 0
    · have hword : (Cond.fieldLink (zm_cn (zm_oc mi)) ri (zm_fd rc rk).1 (zm_fd rc rk).2.1 (zm_fd rc rk).2.2.1).before args s = true := by
        have := hgw _ (zm_tb_at hw1) (hw2 hz)
        simpa only [zm_fw, hz, if_true] using this
      exact va_get (ref := (zm_fd rc rk).1) hx hb hts (zm_uw hw5) hown hK hP y (zm_ws_obj hk) g1 rk (by rw [g2]; exact hw4) hword (fun _ z => z) (zm_fs_at hw4) hd k9
    · have hword : (Cond.fieldLinkNest (zm_cn (zm_oc mi)) ri (zm_fd rc rk).1 (zm_fd rc rk).2.1 (zm_fd rc rk).2.2.1 "NoddingRafts").before args s = true := by
        have e9 : zm_fw (zm_oc mi) ri rc rk rz = (Cond.fieldLinkNest (zm_cn (zm_oc mi)) ri (zm_fd rc rk).1 (zm_fd rc rk).2.1 (zm_fd rc rk).2.2.1 "NoddingRafts") := by simp only [zm_fw, hz, if_false]
        rw [e9] at hw1
        exact hnw _ (zm_tb_at hw1) rfl rfl
      exact va_getN (ref := (zm_fd rc rk).1) hx hb hts (zm_uw hw5) hown hK hP y (zm_ws_obj hk) g1 rk (by rw [g2]; exact hw4) hword (fun _ z => z) (zm_fs_at hw4) hd k9
  | putfield i =>
    obtain ⟨hl, hv⟩ := zm_and (show (len == 3 && (zm_fp (zm_oc mi)).any (fun r => r.1 == i && (r.2.1 == a && (r.2.2.1 == b && (if (zm_fd a b).2.2.2 = true then r.2.2.2.1 == 0 && ((zm_mw mi).2.2.2.2.1 == 1 && zm_oc mi == a) else true))))) = true from hi)
    have hl := zm_beq hl
    subst hl
    obtain ⟨r, hr, hrr⟩ := zm_any hv
    obtain ⟨h1, h2⟩ := zm_and hrr
    obtain ⟨h2a, h3a⟩ := zm_and h2
    obtain ⟨h3b, h4⟩ := zm_and h3a
    have h1' := zm_beq h1
    have h2' := zm_beq h2a
    have h3' := zm_beq h3b
    obtain ⟨hw1, hw2, hw3, hw4, hw5⟩ := zm_fp_ok _ r hr
    obtain ⟨ri, rc, rk, rz, rt, ru⟩ := r
    dsimp only at h1' h2' h3' h4 hw1 hw2 hw3 hw4 hw5
    clear hrr h1 h2 h2a h3a h3b
    subst h1'
    subst h2'
    subst h3'
    obtain ⟨g1, g2, g3, g4⟩ := zm_cls hw5
    obtain ⟨y, r', hk, hcase⟩ := zm_pf_inv hs
    have fin : ∀ (val : Value), narrow (zm_tyc rc rk) val = val → fits (zm_tyc rc rk) val = true → (∀ (H1 : Heap) (locs1 : List Loc), va_P D vwCl ((zm_ws ad dA h).set y (ad y, .inr (rc, (zm_fs ad h rc y).set rk val))) H1 → va_D (zm_A N0) ((zm_ws ad dA h).set y (ad y, .inr (rc, (zm_fs ad h rc y).set rk val))) → va_S (zm_A N0) s.heap H1 locs1 → W p l e R s m args below meth c H1 locs1 (h.1.length - k0) (zm_sz h - z0) Q (F0 m (pc + 3) la (r'.map (zm_c ad)))) → W p l e R s m args below meth c H locs (h.1.length - k0) (zm_sz h - z0) Q (F0 m pc la (val :: .ref (ad y) :: r'.map (zm_c ad))) := by
      intro val hn hf k9
      by_cases hfin : (zm_fd rc rk).2.2.2 = true
      · rw [if_pos hfin] at h4
        obtain ⟨h5, h6⟩ := zm_and h4
        obtain ⟨h6, h7⟩ := zm_and h6
        have h5 := zm_beq h5
        have h6 := zm_beq h6
        have h7 := zm_beq h7
        have hword : (Cond.fieldLink (zm_cn (zm_oc mi)) ri (zm_fd rc rk).1 (zm_fd rc rk).2.1 (zm_fd rc rk).2.2.1).before args s = true := by
          have := hgw _ (zm_tb_at hw1) (hw2 h5)
          simpa only [zm_fw, h5, if_true] using this
        have e7 : (zm_ct rc).1 = zm_cn rc := zm_cn_ct hw5
        exact va_putF (ref := (zm_fd rc rk).1) hx hb hts (zm_uw hw5) (zm_tyc rc) g3 g4 hown hK hP hD hS y (zm_ws_obj hk) g1 rk (by rw [g2]; exact hw4) hword (fun _ z => z) hfin (hini h6) (by rw [h7, ← e7]; exact hw3) (g3 rk (by rw [g2]; exact hw4)) hn hf (by rw [zm_fs_len]; exact hw4) hd k9
      · have hfin' : (zm_fd rc rk).2.2.2 = false := by simpa using hfin
        by_cases hz : rz = 0
        · have hword : (Cond.fieldLink (zm_cn (zm_oc mi)) ri (zm_fd rc rk).1 (zm_fd rc rk).2.1 (zm_fd rc rk).2.2.1).before args s = true := by
            have := hgw _ (zm_tb_at hw1) (hw2 hz)
            simpa only [zm_fw, hz, if_true] using this
          exact va_put (ref := (zm_fd rc rk).1) hx hb hts (zm_uw hw5) (zm_tyc rc) g3 g4 hown hK hP hD hS y (zm_ws_obj hk) g1 rk (by rw [g2]; exact hw4) hword (fun _ z => z) hfin' (g3 rk (by rw [g2]; exact hw4)) hn hf (by rw [zm_fs_len]; exact hw4) hd k9
        · have hword : (Cond.fieldLinkNest (zm_cn (zm_oc mi)) ri (zm_fd rc rk).1 (zm_fd rc rk).2.1 (zm_fd rc rk).2.2.1 "NoddingRafts").before args s = true := by
            have e9 : zm_fw (zm_oc mi) ri rc rk rz = (Cond.fieldLinkNest (zm_cn (zm_oc mi)) ri (zm_fd rc rk).1 (zm_fd rc rk).2.1 (zm_fd rc rk).2.2.1 "NoddingRafts") := by simp only [zm_fw, hz, if_false]
            rw [e9] at hw1
            exact hnw _ (zm_tb_at hw1) rfl rfl
          exact va_putN (ref := (zm_fd rc rk).1) hx hb hts (zm_uw hw5) (zm_tyc rc) g3 g4 hown hK hP hD hS y (zm_ws_obj hk) g1 rk (by rw [g2]; exact hw4) hword (fun _ z => z) hfin' (g3 rk (by rw [g2]; exact hw4)) hn hf (by rw [zm_fs_len]; exact hw4) hd k9
    have hty := zm_tyks hw5 hw4
    rcases hcase with ⟨val, hst, h0, ht⟩ | ⟨val, hst, h0, ht⟩
    · subst hst
      subst ht
      rcases hty with ⟨-, e1⟩ | ⟨e0, -⟩
      · exact fin (.int val) (by rw [e1]; rfl) (by rw [e1]; rfl) (fun H1 locs1 hP1 hD1 hS1 => kk ad H1 locs1 la zm_ae.rfl (by dsimp only; rw [zm_pi_ws hk hw4 h0]; exact hP1) (by dsimp only; rw [zm_pi_ws hk hw4 h0]; exact hD1) hS1 hL)
      · rw [h0] at e0; cases e0
    · subst hst
      subst ht
      rcases hty with ⟨e0, -⟩ | ⟨-, e1⟩
      · rw [h0] at e0; cases e0
      · exact fin (.ref (ad val)) (by rcases e1 with ⟨z, e1⟩ | ⟨z, e1⟩ <;> rw [e1] <;> rfl) (by rcases e1 with ⟨z, e1⟩ | ⟨z, e1⟩ <;> rw [e1] <;> rfl) (fun H1 locs1 hP1 hD1 hS1 => kk ad H1 locs1 la zm_ae.rfl (by dsimp only; rw [zm_pr_ws hk hw4 h0]; exact hP1) (by dsimp only; rw [zm_pr_ws hk hw4 h0]; exact hD1) hS1 hL)
  | getstatic i =>
    obtain ⟨hl, hv⟩ := zm_and (show (len == 3 && (zm_oc mi == 1 && i == 220)) = true from hi)
    have hl := zm_beq hl
    subst hl
    obtain ⟨h1, h2⟩ := zm_and hv
    have h1 := zm_beq h1
    have h2 := zm_beq h2
    subst h2
    have hs : some (pc + 3, ls, Value.ref 1000000 :: st, h) = some t := hs
    cases hs
    rw [h1] at hown
    exact va_gets (ref := "NoddingRafts$Course") hx hb hZw hS hown (hgw _ zm_w220 rfl) (fun _ z => z) hd (kk ad H locs la zm_ae.rfl hP hD hS hL)
  | new i =>
    obtain ⟨hl, hv⟩ := zm_and (show (len == 3 && (decide (a < 12) && (zm_np (zm_oc mi)).any (fun r => r.1 == i && r.2.1 == a))) = true from hi)
    have hl := zm_beq hl
    subst hl
    obtain ⟨h1, h2⟩ := zm_and hv
    have h1 := of_decide_eq_true h1
    obtain ⟨r, hr, hrr⟩ := zm_any h2
    obtain ⟨h3, h4⟩ := zm_and hrr
    have h3 := zm_beq h3
    have h4 := zm_beq h4
    obtain ⟨hw1, hw2⟩ := zm_np_ok _ r hr
    obtain ⟨hlt, ht⟩ := zm_new_inv hs
    subst ht
    obtain ⟨g1, g2, g3, g4⟩ := zm_cls h1
    have hword : (Cond.classLink (zm_cn (zm_oc mi)) i (zm_ct a).1).before args s = true := by
      have := hgw _ (zm_tb_at hw1) hw2
      have e9 : zm_nw (zm_oc mi) r = Cond.classLink (zm_cn (zm_oc mi)) i (zm_ct a).1 := by
        rw [zm_cn_ct h1]
        simp only [zm_nw, h3, h4]
        rw [if_neg (by omega)]
      rw [e9] at this
      exact this
    have hsz : zm_sz (zm_nx h (.inr a)) = zm_sz h + zm_nf a := zm_sz_nx h _
    have hln : (zm_nx h (.inr a)).1.length = h.1.length + 1 := zm_len_nx h _
    dsimp only at hRc hRs
    rw [hln] at hRc
    rw [hsz] at hRs
    refine va_new (fs := zm_fs ad (zm_nx h (.inr a)) a h.1.length) hx hb hts (zm_uw h1) (zm_tyc a) g3 hown hword (hgw _ (zm_inst h1).1 (zm_inst h1).2) (hgw _ (zm_init h1).1 (zm_init h1).2) hK hP hD hS (fun q hq => Nat.le_trans hN hq) g1 ?_ (by omega) (by rw [g2]; omega) hd (fun q H1 hP1 hD1 hS1 => ?_)
    · intro j hj
      rw [g2] at hj
      have e1 : vp_V (zm_fs ad (zm_nx h (.inr a)) a h.1.length) j = zm_fv ad (zm_nx h (.inr a)) a h.1.length j := by
        simp [vp_V, List.getD_eq_getElem?_getD, zm_fs_at hj]
      rw [e1]
      rcases zm_tyks h1 hj with ⟨e2, e3⟩ | ⟨e2, e3⟩
      · rw [e3]; simp [zm_fv, e2, zm_nx, zm_w_eq, defaultValue]
      · rcases e3 with ⟨z, e3⟩ | ⟨z, e3⟩ <;> rw [e3] <;> simp [zm_fv, e2, zm_nx, zm_w_eq, defaultValue, va_rf]
    · have hae := zm_ae_new ad q hlt
      have e1 : zm_ws (zm_adn ad h.1.length q) dA (zm_nx h (.inr a)) = zm_ws ad dA h ++ [(q, .inr (a, zm_fs ad (zm_nx h (.inr a)) a h.1.length))] := by
        rw [zm_ws_push hw hae]
        congr 2
        have e2 : (zm_nx h (.inr a)).1[h.1.length]? = some (.inr a) := by simp [zm_nx]
        simp only [zm_E, e2, zm_adn_eq]
        congr 3
        unfold zm_fs
        apply List.map_congr_left
        intro k _
        simp [zm_fv, zm_nx, zm_w_eq]
      have k9 := kk (zm_adn ad h.1.length q) H1 locs la hae (by rw [e1]; exact hP1) (by rw [e1]; exact hD1) hS1 (hL.ae hae hwl)
      dsimp only at k9
      rw [List.map_cons, zm_map_ae hae hwst, zm_c_adn, hln, hsz] at k9
      rw [g2, show h.1.length - k0 + 1 = h.1.length + 1 - k0 by omega, show zm_sz h - z0 + zm_nf a = zm_sz h + zm_nf a - z0 by omega]
      exact k9
  | newarray aty =>
    have hl : len = 2 := zm_beq hi
    subst hl
    have hs : (match zm_ta aty with | some ty => zm_nwa ty (pc + 2) ls st h | none => none) = some t := hs
    (cases hta : zm_ta aty with
    | none => rw [hta] at hs; cases hs
    | some ty =>
      rw [hta] at hs
      obtain ⟨n, r, hst, hlt, hn0, hn1, ht⟩ := zm_nwa_inv hs
      subst hst
      subst ht
      have hsz : zm_sz (zm_nx h (.inl (ty, n.toNatClampNeg))) = zm_sz h + n.toNatClampNeg := zm_sz_nx h _
      have hln : (zm_nx h (.inl (ty, n.toNatClampNeg))).1.length = h.1.length + 1 := zm_len_nx h _
      dsimp only at hRc hRs
      rw [hln] at hRc
      rw [hsz] at hRs
      obtain ⟨a1, a2, a3, a4, a5⟩ := zm_ta_ok hta
      have hnn : n.toNatClampNeg ≤ 10000 := zm_n1e4 hn0 hn1
      refine va_newa (a0 := zm_ar ad (zm_nx h (.inl (ty, n.toNatClampNeg))) ty n.toNatClampNeg h.1.length) hx hb (hgw _ a1 rfl) a2 hK hP hD hS (fun q hq => Nat.le_trans hN hq) ?_ (Int32.not_lt.mpr hn0) rfl (Nat.le_trans (Nat.mul_le_mul hnn a4) (by decide)) (by omega) (by omega) hd (fun q cA H1 hK1 hP1 hD1 hS1 => ?_)
      · intro cA
        exact a5 ad h n.toNatClampNeg cA
      · have hae := zm_ae_new ad q hlt
        have hcA : cA = dA ty := zm_dA_eq a3 hK hK1
        subst hcA
        have e1 : zm_ws (zm_adn ad h.1.length q) dA (zm_nx h (.inl (ty, n.toNatClampNeg))) = zm_ws ad dA h ++ [(q, .inl (dA ty, zm_ar ad (zm_nx h (.inl (ty, n.toNatClampNeg))) ty n.toNatClampNeg h.1.length))] := by
          rw [zm_ws_push hw hae]
          congr 2
          have e2 : (zm_nx h (.inl (ty, n.toNatClampNeg))).1[h.1.length]? = some (.inl (ty, n.toNatClampNeg)) := by simp [zm_nx]
          simp only [zm_E, e2, zm_adn_eq]
          congr 3
          simp [zm_ar, zm_nx, zm_w_eq]
        have k9 := kk (zm_adn ad h.1.length q) H1 locs la hae (by rw [e1]; exact hP1) (by rw [e1]; exact hD1) hS1 (hL.ae hae hwl)
        dsimp only at k9
        rw [List.map_cons, zm_map_ae hae (fun w hw' => hwst w (List.mem_cons_of_mem _ hw')), zm_c_adn, hln, hsz] at k9
        rw [show h.1.length - k0 + 1 = h.1.length + 1 - k0 by omega, show zm_sz h - z0 + n.toNatClampNeg = zm_sz h + n.toNatClampNeg - z0 by omega]
        exact k9)
  | anewarray i =>
    obtain ⟨hl, hv⟩ := zm_and (show (len == 3 && (zm_np (zm_oc mi)).any (fun r => r.1 == i && r.2.1 == 100)) = true from hi)
    have hl := zm_beq hl
    subst hl
    obtain ⟨r, hr, hrr⟩ := zm_any hv
    obtain ⟨h3, h4⟩ := zm_and hrr
    have h3 := zm_beq h3
    have h4 := zm_beq h4
    obtain ⟨hw1, hw2⟩ := zm_np_ok _ r hr
    have hword : (Cond.classLink (zm_cn (zm_oc mi)) i (FieldType.array .int).toString).before args s = true := by
      have := hgw _ (zm_tb_at hw1) hw2
      have e9 : zm_nw (zm_oc mi) r = Cond.classLink (zm_cn (zm_oc mi)) i (FieldType.array .int).toString := by
        simp only [zm_nw, h3, h4]
        rfl
      rw [e9] at this
      exact this
    obtain ⟨n, r', hst, hlt, hn0, hn1, ht⟩ := zm_nwa_inv (show zm_nwa 4 (pc + 3) ls st h = some t from hs)
    subst hst
    subst ht
    have hsz : zm_sz (zm_nx h (.inl (4, n.toNatClampNeg))) = zm_sz h + n.toNatClampNeg := zm_sz_nx h _
    have hln : (zm_nx h (.inl (4, n.toNatClampNeg))).1.length = h.1.length + 1 := zm_len_nx h _
    dsimp only at hRc hRs
    rw [hln] at hRc
    rw [hsz] at hRs
    have hnn : n.toNatClampNeg ≤ 10000 := zm_n1e4 hn0 hn1
    refine zm_newA_ok hx hb hown hword hAO hK hP hD hS (fun q hq => Nat.le_trans hN hq) (Int32.not_lt.mpr hn0) (by omega) (by omega) (by omega) hd (fun q H1 hP1 hD1 hS1 => ?_)
    have hae := zm_ae_new ad q hlt
    have e1 : zm_ws (zm_adn ad h.1.length q) dA (zm_nx h (.inl (4, n.toNatClampNeg))) = zm_ws ad dA h ++ [(q, .inl (dA 4, n.toNatClampNeg, .inr (.inr (.inr (.inr (fun _ => none))))))] := by
      rw [zm_ws_push hw hae]
      congr 2
      have e2 : (zm_nx h (.inl (4, n.toNatClampNeg))).1[h.1.length]? = some (.inl (4, n.toNatClampNeg)) := by simp [zm_nx]
      simp only [zm_E, e2, zm_adn_eq]
      congr 3
      rw [zm_arr_r]
      simp [zm_nx, zm_w_eq]
    have k9 := kk (zm_adn ad h.1.length q) H1 locs la hae (by rw [e1]; exact hP1) (by rw [e1]; exact hD1) hS1 (hL.ae hae hwl)
    dsimp only at k9
    rw [List.map_cons, zm_map_ae hae (fun w hw' => hwst w (List.mem_cons_of_mem _ hw')), zm_c_adn, hln, hsz] at k9
    rw [show h.1.length - k0 + 1 = h.1.length + 1 - k0 by omega, show zm_sz h - z0 + n.toNatClampNeg = zm_sz h + n.toNatClampNeg - z0 by omega]
    exact k9
  | tableswitch dflt lo hi' offs =>
    (match st, hs with
    | .int y :: r, hs =>
      have hs : some (if y.toInt < lo ∨ hi' < y.toInt then ((pc : Int) + dflt).toNat else ((pc : Int) + (offs.toList.getD (y.toInt - lo).toNat dflt)).toNat, ls, r, h) = some t := hs
      cases hs
      obtain ⟨h1, h2⟩ := zm_and (show (decide (0 ≤ (pc : Int) + dflt) && (offs.toList.all (fun o => decide (0 ≤ (pc : Int) + o)) && decide ((offs.toList.length : Int) = hi' - lo + 1))) = true from hi)
      have h1 := of_decide_eq_true h1
      obtain ⟨h2, h3⟩ := zm_and h2
      have h3 := of_decide_eq_true h3
      by_cases hc : y.toInt < lo ∨ hi' < y.toInt
      · dsimp only at kk
        rw [if_pos hc] at kk
        exact lv_tableOut hx hb hd hc (by omega) (kk ad H locs la zm_ae.rfl hP hD hS hL)
      · dsimp only at kk
        rw [if_neg hc] at kk
        have hlt : (y.toInt - lo).toNat < offs.toList.length := by omega
        have hget : offs.toList[(y.toInt - lo).toNat]? = some (offs.toList.getD (y.toInt - lo).toNat dflt) := by
          rw [List.getD_eq_getElem?_getD, List.getElem?_eq_getElem hlt]; rfl
        have hmem := List.mem_of_getElem? hget
        have h4 := of_decide_eq_true (List.all_eq_true.mp h2 _ hmem)
        exact lv_tableIn hx hb hd (fun z => hc (Or.inl z)) (fun z => hc (Or.inr z)) (by rw [← Array.getElem?_toList]; exact hget) (by omega) (kk ad H locs la zm_ae.rfl hP hD hS hL))
  | lookupswitch dflt ps =>
    (match st, hs with
    | .int y :: r, hs =>
      have hs : some (((pc : Int) + Op.lookupswitch.offset ps.toList dflt y.toInt).toNat, ls, r, h) = some t := hs
      cases hs
      obtain ⟨h1, h2⟩ := zm_and (show (decide (0 ≤ (pc : Int) + dflt) && (ps.toList.all (fun o => decide (0 ≤ (pc : Int) + o.2)) && (ps.toList.zip (ps.toList.drop 1)).all (fun z => decide (z.1.1 < z.2.1)))) = true from hi)
      have h1 := of_decide_eq_true h1
      obtain ⟨h2, h3⟩ := zm_and h2
      have h4 : 0 ≤ (pc : Int) + Op.lookupswitch.offset ps.toList dflt y.toInt := zm_offs h1 ps.toList (fun o ho => of_decide_eq_true (List.all_eq_true.mp h2 o ho))
      exact lv_lookup hx hb hd h3 rfl (by omega) (kk ad H locs la zm_ae.rfl hP hD hS hL))
  | _ => exact absurd hs (by intro z; cases z)
end ZST
