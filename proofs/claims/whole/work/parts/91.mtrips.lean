/-! ===== a boat COMES BACK: the model ===== -/
theorem kp_M {h : zm_H} {nt : Nat} (hn : nt < 200) (e : zf h 92 41 = nI nt) (t km r wh s : Int32) : f_M_keeps_ok t km r wh s h ∧ zWr [118, 119, 120, 121, 122] [(92, 41)] h (f_M_keeps t km r wh s h) ∧ zf (f_M_keeps t km r wh s h) 92 41 = nI (nt + 1) ∧ (f_M_keeps t km r wh s h).2.1 118 = upd (h.2.1 118) nt t ∧ (f_M_keeps t km r wh s h).2.1 119 = upd (h.2.1 119) nt km ∧ (f_M_keeps t km r wh s h).2.1 120 = upd (h.2.1 120) nt r ∧ (f_M_keeps t km r wh s h).2.1 121 = upd (h.2.1 121) nt wh ∧ (f_M_keeps t km r wh s h).2.1 122 = upd (h.2.1 122) nt s := by
  have i : vp_in (nI nt) 200 := vp_in_nI hn (by omega)
  unfold f_M_keeps_ok f_M_keeps
  rw [e, zs_n _ 118 _ (by omega), zs_n _ 119 _ (by omega), zs_n _ 120 _ (by omega), zs_n _ 121 _ (by omega), zs_n _ 122 _ (by omega), ← nI_succ]
  refine ⟨⟨i, i, i, i, i⟩, zWr_p (by decide) (zWr_si (by decide) (zWr_si (by decide) (zWr_si (by decide) (zWr_si (by decide) (zWr_si (by decide) (zWr.refl _ _)))))), zm_in _ _ _ _, ?_, ?_, ?_, ?_, ?_⟩
  all_goals
    show (zm_si _ 92 41 _).2.1 _ = _
    simp only [za_si]
    simp
theorem dn_c (U : Nat → Nat → Int32) (b : Nat) : dn (zm_u U 2 b (-1)) b = zm_u (dn U b) 2 b (-1) := by
  have e4 : zm_u U 2 b (-1) 4 b = U 4 b := by simp [zm_u]
  have e6 : zm_u U 2 b (-1) 6 b = U 6 b := by simp [zm_u]
  have e1 : ∀ k, zm_u U 2 b (-1) 1 k = U 1 k := fun k => by simp [zm_u]
  unfold dn
  rw [e4, e6, e1]
  by_cases c : prt (U 4 b) = 2
  · rw [if_pos c, if_pos c]
    funext x y
    unfold zm_u
    by_cases x6 : x = 6 <;> by_cases x2 : x = 2 <;> simp_all
  · rw [if_neg c, if_neg c]
    funext x y
    unfold zm_u
    by_cases x6 : x = 6 <;> by_cases x2 : x = 2 <;> by_cases x1 : x = 1 <;> simp_all
theorem cb_M {nr nt : Nat} (hnr : nr ≤ 10) {h : zm_H} (hnt : nt ≤ 200) (en : zf h 92 41 = nI nt) (e33 : zf h 92 33 = nI nr) {t : Int32} (et : zf h 92 23 = t) (B : mB h) {b r j : Nat} (hb : b < 3) (hr : r < nr) (hj : j ≤ 4) (er : uM h 3 b = nI r) (ej : uM h 4 b = nI j) :
    f_M_comesBack_ok (nI b) h ∧ zWr [118, 119, 120, 121, 122, 123, 124, 125, 128, 129, 130, 138, 139, 144, 145] [(92, 41)] h (f_M_comesBack (nI b) h) ∧ mB (f_M_comesBack (nI b) h) ∧ vM 1 (f_M_comesBack (nI b) h) = vM 1 h ∧
    (if nt < 200 ∧ dbl (vM 0 h) (nI j) r (-1) = true then
      vM 0 (f_M_comesBack (nI b) h) = dot (vM 0 h) (nI j) r (-1) (uM h 5 b) ∧ zf (f_M_comesBack (nI b) h) 92 41 = nI (nt + 1) ∧ (∃ km, kdR km (nI j) (nI j) (-1) ∧ (f_M_comesBack (nI b) h).2.1 118 = upd (h.2.1 118) nt (t + 1) ∧ (f_M_comesBack (nI b) h).2.1 119 = upd (h.2.1 119) nt km ∧ (f_M_comesBack (nI b) h).2.1 120 = upd (h.2.1 120) nt (nI r) ∧ (f_M_comesBack (nI b) h).2.1 121 = upd (h.2.1 121) nt (nI j) ∧ (f_M_comesBack (nI b) h).2.1 122 = upd (h.2.1 122) nt (uM h 5 b)) ∧ uM (f_M_comesBack (nI b) h) = zm_u (dn (uM h) b) 2 b (-1)
    else (vM 0 (f_M_comesBack (nI b) h) = vM 0 h ∧ zf (f_M_comesBack (nI b) h) 92 41 = nI nt ∧ (∀ i, i ∈ [118, 119, 120, 121, 122] → (f_M_comesBack (nI b) h).2.1 i = h.2.1 i) ∧ uM (f_M_comesBack (nI b) h) = zm_u (zm_u (uM h) 7 b (uM h 7 b + 1)) 2 b (-1))) := by
  have ib : vp_in (nI b) 3 := vp_in_nI hb (by omega)
  have z140 : zr h 140 (nI b) = nI r := by rw [zr_n h 140 (by omega), ← er, uM_at h (i := 3) (by omega) (by omega)]; rfl
  have z141 : zr h 141 (nI b) = nI j := by rw [zr_n h 141 (by omega), ← ej, uM_at h (i := 4) (by omega) (by omega)]; rfl
  have z143 : zr h 143 (nI b) = uM h 5 b := by rw [zr_n h 143 (by omega), uM_at h (i := 5) (by omega) (by omega)]; rfl
  obtain ⟨s, es⟩ : ∃ s, s = uM h 5 b := ⟨_, rfl⟩
  rw [← es] at z143
  rw [← es]
  obtain ⟨km, ekm⟩ : ∃ km : Int32, km = (if (3 ≤ nI j) then ((if (nI j = 3) then (2 : Int32) else 3) : Int32) else 1) := ⟨_, rfl⟩
  have hkd : kdR km (nI j) (nI j) (-1) := by
    rw [ekm]
    rcases (show j = 0 ∨ j = 1 ∨ j = 2 ∨ j = 3 ∨ j = 4 by omega) with z | z | z | z | z <;> subst z
    · exact Or.inr (Or.inr (Or.inr ⟨by decide, rfl, 0, by omega, rfl⟩))
    · exact Or.inr (Or.inr (Or.inr ⟨by decide, rfl, 1, by omega, rfl⟩))
    · exact Or.inr (Or.inr (Or.inr ⟨by decide, rfl, 2, by omega, rfl⟩))
    · exact Or.inr (Or.inr (Or.inl ⟨by decide, rfl⟩))
    · exact Or.inr (Or.inl ⟨by decide, rfl⟩)
  have nj5 : ¬ nI j = 5 := by
    rw [i_eq, i_nI (by omega)]
    have : (5 : Int32).toInt = 5 := rfl
    omega
  unfold f_M_comesBack_ok f_M_comesBack
  rw [en, z140, z141, z143, nb0, zs_n _ 139 _ (by omega), ← ekm]
  obtain ⟨h1, eh1⟩ : ∃ h1, h1 = zm_si h 139 b 0 := ⟨_, rfl⟩
  rw [← eh1]
  have w1 : zWr [139] [] h h1 := by rw [eh1]; exact zWr_si (by decide) (zWr.refl _ _)
  have u1 : uM h1 = zm_u (uM h) 2 b (-1) := by rw [eh1]; exact uM_in hb
  have B1 : mB h1 := by rw [eh1]; exact mB_in B
  have v1 : ∀ L, vM L h1 = vM L h := fun L => by rw [eh1]; exact vM_o (by omega)
  have fail : ∀ h2, uM h2 = uM h1 → mB h2 → zWr [139, 123, 124, 125, 128, 129, 130] [] h h2 → (∀ L, L < 2 → vM L h2 = vM L h) → f_M_comesBack_k66_ok (nI b) h2 ∧ zWr [118, 119, 120, 121, 122, 123, 124, 125, 128, 129, 130, 138, 139, 144, 145] [(92, 41)] h (f_M_comesBack_k66 (nI b) h2) ∧ mB (f_M_comesBack_k66 (nI b) h2) ∧ vM 1 (f_M_comesBack_k66 (nI b) h2) = vM 1 h ∧ vM 0 (f_M_comesBack_k66 (nI b) h2) = vM 0 h ∧ zf (f_M_comesBack_k66 (nI b) h2) 92 41 = nI nt ∧ (∀ i, i ∈ [118, 119, 120, 121, 122] → (f_M_comesBack_k66 (nI b) h2).2.1 i = h.2.1 i) ∧ uM (f_M_comesBack_k66 (nI b) h2) = zm_u (zm_u (uM h) 7 b (uM h 7 b + 1)) 2 b (-1) := by
    intro h2 u2 B2 w2 v2
    have z145 : zr h2 145 (nI b) = uM h 7 b := by
      rw [zr_n h2 145 (by omega)]
      have : uM h2 7 b = uM h 7 b := by rw [u2, u1]; simp [zm_u]
      rw [← this, uM_at h2 (i := 7) (by omega) (by omega)]; rfl
    unfold f_M_comesBack_k66_ok f_M_comesBack_k66
    rw [z145, zs_n _ 145 _ (by omega)]
    have w3 : zWr [139, 123, 124, 125, 128, 129, 130, 145] [] h (zm_si h2 145 b (uM h 7 b + 1)) := zWr_si (by decide) (zWr_tr w2 (by decide) (by decide) (zWr.refl _ _))
    refine ⟨⟨ib, ib⟩, zWr_tr w3 (by decide) (by decide) (zWr.refl _ _), mB_eq (h := h2) (fun i hi => by rw [za_si, if_neg (by simp at hi; omega)]) B2, by rw [vM_o (by omega), v2 1 (by omega)], by rw [vM_o (by omega), v2 0 (by omega)], (w3.fld 92 41 (by decide) (by decide)).trans en, fun i hi => w3.arr i (by simp at hi ⊢; omega) (by simp), ?_⟩
    rw [uM_u (i := 7) (j := 145) rfl (by omega) (by omega), u2, u1]
    funext x y
    unfold zm_u
    by_cases x7 : x = 7 <;> by_cases x2 : x = 2 <;> simp_all
  by_cases c : nt < 200
  · have g : ¬ (nI nt = 200) := by
      rw [i_eq, i_nI (by omega)]
      have : (200 : Int32).toInt = 200 := rfl
      omega
    rw [if_neg g]
    obtain ⟨d1, d2, d3, d4⟩ := ds_M (h := h1) (L := 0) hnr ((w1.fld 92 33 (by decide) (by decide)).trans e33) (by omega) (show r < 10 by omega) (s := s) hkd (fun z => absurd z nj5)
    have dw := f_M_does_w 0 km (nI r) (nI j) s h1
    have d1 : f_M_does_ok 0 km (nI r) (nI j) s h1 := d1
    have d2 : (f_M_does 0 km (nI r) (nI j) s h1).1 = if dbl (vM 0 h1) (nI j) r (-1) = true then 1 else 0 := d2
    have d3 : vM 0 (f_M_does 0 km (nI r) (nI j) s h1).2 = if dbl (vM 0 h1) (nI j) r (-1) = true then dot (vM 0 h1) (nI j) r (-1) s else vM 0 h1 := d3
    have d4 : vM 1 (f_M_does 0 km (nI r) (nI j) s h1).2 = vM 1 h1 := d4 1 (by omega) (by omega)
    rw [v1] at d2 d3 d4
    generalize f_M_does 0 km (nI r) (nI j) s h1 = q at d2 d3 d4 dw
    obtain ⟨v, h2⟩ := q
    dsimp only at d2 d3 d4 dw ⊢
    have u2 : uM h2 = uM h1 := uM_eq (fun i hi => dw.arr i (by simp at hi ⊢; omega) (by simp))
    have B2 : mB h2 := mB_eq (fun i hi => dw.arr i (by simp at hi ⊢; omega) (by simp)) B1
    have w2 : zWr [139, 123, 124, 125, 128, 129, 130] [] h h2 := zWr_tr dw (by decide) (by decide) (zWr_tr w1 (by decide) (by decide) (zWr.refl _ _))
    unfold f_M_comesBack_k63_ok f_M_comesBack_k63
    by_cases d : dbl (vM 0 h) (nI j) r (-1) = true
    · rw [if_pos d] at d2 d3
      have nv : ¬ v = 0 := by rw [d2]; decide
      have f23 : zf h2 92 23 = t := (w2.fld 92 23 (by decide) (by decide)).trans et
      have y140 : zr h2 140 (nI b) = nI r := by rw [← z140, zr_n h2 140 (by omega), zr_n h 140 (by omega)]; exact congrFun (w2.arr 140 (by decide) (by decide)) b
      have y143 : zr h2 143 (nI b) = s := by rw [← z143, zr_n h2 143 (by omega), zr_n h 143 (by omega)]; exact congrFun (w2.arr 143 (by decide) (by decide)) b
      rw [if_neg nv, if_pos ⟨c, d⟩, f23, y140, y143]
      obtain ⟨k1, k2, k3, k4, k5, k6, k7, k8⟩ := kp_M (h := h2) c ((w2.fld 92 41 (by decide) (by decide)).trans en) (t + 1) km (nI r) (nI j) s
      generalize f_M_keeps (t + 1) km (nI r) (nI j) s h2 = h3 at k2 k3 k4 k5 k6 k7 k8
      rw [w2.arr 118 (by decide) (by decide)] at k4
      rw [w2.arr 119 (by decide) (by decide)] at k5
      rw [w2.arr 120 (by decide) (by decide)] at k6
      rw [w2.arr 121 (by decide) (by decide)] at k7
      rw [w2.arr 122 (by decide) (by decide)] at k8
      have u3 : uM h3 = zm_u (uM h) 2 b (-1) := by rw [uM_eq (fun i hi => k2.arr i (by simp at hi ⊢; omega) (by simp at hi ⊢; omega)), u2, u1]
      have B3 : mB h3 := mB_eq (fun i hi => k2.arr i (by simp at hi ⊢; omega) (by simp at hi ⊢; omega)) B2
      have v3 : ∀ L, vM L h3 = vM L h2 := fun L => vM_eq (fun i hi => k2.arr i (by simp at hi ⊢; omega) (by simp at hi ⊢; omega)) (k2.2 127 (by decide)).2.1
      have w3 : zWr [118, 119, 120, 121, 122, 123, 124, 125, 128, 129, 130, 138, 139, 144, 145] [(92, 41)] h h3 := zWr_tr k2 (by decide) (by decide) (zWr_tr w2 (by decide) (by decide) (zWr.refl _ _))
      have y144 : zr h3 144 (nI b) = uM h 6 b := by
        rw [zr_n h3 144 (by omega)]
        have : uM h3 6 b = uM h 6 b := by rw [u3]; simp [zm_u]
        rw [← this, uM_at h3 (i := 6) (by omega) (by omega)]; rfl
      obtain ⟨p1, p2, p3, p4, p5⟩ := prt_j hj
      have i9 : vp_in (nI (3 * b + prt (nI j))) 9 := vp_in_nI (by omega) (by omega)
      have fin : ∀ h4, zWr [138, 144] [] h3 h4 → zWr [118, 119, 120, 121, 122, 123, 124, 125, 128, 129, 130, 138, 139, 144, 145] [(92, 41)] h h4 ∧ mB h4 ∧ vM 1 h4 = vM 1 h ∧ vM 0 h4 = dot (vM 0 h) (nI j) r (-1) s ∧ zf h4 92 41 = nI (nt + 1) ∧ (∃ km, kdR km (nI j) (nI j) (-1) ∧ h4.2.1 118 = upd (h.2.1 118) nt (t + 1) ∧ h4.2.1 119 = upd (h.2.1 119) nt km ∧ h4.2.1 120 = upd (h.2.1 120) nt (nI r) ∧ h4.2.1 121 = upd (h.2.1 121) nt (nI j) ∧ h4.2.1 122 = upd (h.2.1 122) nt s) := fun h4 w4 => by
        have v4 : ∀ L, vM L h4 = vM L h3 := fun L => vM_eq (fun i hi => w4.arr i (by simp at hi ⊢; omega) (by simp)) (w4.2 127 (by decide)).2.1
        refine ⟨zWr_tr w4 (by decide) (by decide) w3, mB_eq (fun i hi => w4.arr i (by simp at hi ⊢; omega) (by simp)) B3, by rw [v4, v3, d4], by rw [v4, v3, d3], (w4.fld 92 41 (by decide) (by decide)).trans k3, km, hkd, ?_, ?_, ?_, ?_, ?_⟩
        · rw [w4.arr 118 (by decide) (by decide), k4]
        · rw [w4.arr 119 (by decide) (by decide), k5]
        · rw [w4.arr 120 (by decide) (by decide), k6]
        · rw [w4.arr 121 (by decide) (by decide), k7]
        · rw [w4.arr 122 (by decide) (by decide), k8]
      unfold f_M_comesBack_k101_ok f_M_comesBack_k101
      rw [← dn_c, ← u3]
      unfold dn
      have e6 : uM h3 6 b = uM h 6 b := by rw [u3]; simp [zm_u]
      have e4 : uM h3 4 b = nI j := by rw [u3, ← ej]; simp [zm_u]
      rw [e4, e6, y144, zs_n _ 144 _ (by omega)]
      by_cases y : j = 4
      · have g4 : (4 : Int32) ≤ nI j := by subst y; decide
        rw [if_pos g4, if_pos (p3.mpr y)]
        obtain ⟨f1, f2, f3, f4⟩ := fin (zm_si h3 144 b (uM h 6 b + 1)) (zWr_si (by decide) (zWr.refl _ _))
        exact ⟨⟨ib, ib, fun z => absurd z g, fun _ => ⟨ib, ib, d1, fun z => absurd z nv, fun _ => ⟨ib, ib, k1, ib, ib, fun _ => trivial, fun z => absurd g4 z⟩⟩⟩, f1, f2, f3, f4.1, f4.2.1, f4.2.2, uM_u (i := 6) (j := 144) rfl (by omega) (by omega)⟩
      · have g4 : ¬ (4 : Int32) ≤ nI j := by rw [show (4 : Int32) = nI 4 from rfl, nx_le (by omega) (by omega)]; omega
        have x1 : 3 * nI b + (if (3 ≤ nI j) then ((nI j - 2) : Int32) else 0) = nI (3 * b + prt (nI j)) := by
          rw [show (3 : Int32) = nI 3 from rfl, pk_mul, ← nI_add]
          congr 1
          rcases (show j = 0 ∨ j = 1 ∨ j = 2 ∨ j = 3 by omega) with z | z | z | z <;> subst z <;> decide
        rw [x1]
        have y138 : zr (zm_si h3 144 b (uM h 6 b + 1)) 138 (nI (3 * b + prt (nI j))) = uM h3 1 (3 * b + prt (nI j)) := by
          rw [zr_n _ 138 (by omega), zf, za_si, if_neg (by decide), uM_at h3 (i := 1) (by omega) (by omega)]; rfl
        have y138' : zr h3 138 (nI (3 * b + prt (nI j))) = uM h3 1 (3 * b + prt (nI j)) := by
          rw [zr_n _ 138 (by omega), uM_at h3 (i := 1) (by omega) (by omega)]; rfl
        rw [if_neg g4, if_neg (fun z => y (p3.mp z)), y138', zs_n _ 138 _ (by omega)]
        obtain ⟨f1, f2, f3, f4⟩ := fin (zm_si (zm_si h3 144 b (uM h 6 b + 1)) 138 (3 * b + prt (nI j)) (uM h3 1 (3 * b + prt (nI j)) - 1)) (zWr_si (by decide) (zWr_si (by decide) (zWr.refl _ _)))
        exact ⟨⟨ib, ib, fun z => absurd z g, fun _ => ⟨ib, ib, d1, fun z => absurd z nv, fun _ => ⟨ib, ib, k1, ib, ib, fun z => absurd z g4, fun _ => ⟨i9, i9⟩⟩⟩⟩, f1, f2, f3, f4.1, f4.2.1, f4.2.2, by rw [uM_u (i := 1) (j := 138) rfl (by omega) (by omega), uM_u (i := 6) (j := 144) rfl (by omega) (by omega)]⟩
    · rw [if_neg d] at d2 d3
      rw [if_pos d2, if_neg (show ¬ (nt < 200 ∧ dbl (vM 0 h) (nI j) r (-1) = true) from fun z => d z.2)]
      obtain ⟨f1, f2, f3, f4, f5⟩ := fail h2 u2 B2 w2 (fun L hL => by
        rcases (show L = 0 ∨ L = 1 by omega) with z | z <;> subst z
        · exact d3
        · exact d4)
      exact ⟨⟨ib, ib, fun z => absurd z g, fun _ => ⟨ib, ib, d1, fun _ => f1, fun z => absurd d2 z⟩⟩, f2, f3, f4, f5⟩
  · have g : nI nt = 200 := by rw [show nt = 200 by omega]; rfl
    rw [if_pos g, if_neg (show ¬ (nt < 200 ∧ dbl (vM 0 h) (nI j) r (-1) = true) from fun z => c z.1)]
    obtain ⟨f1, f2, f3, f4, f5⟩ := fail h1 rfl B1 (zWr_tr w1 (by decide) (by decide) (zWr.refl _ _)) (fun L _ => v1 L)
    exact ⟨⟨ib, ib, fun _ => f1, fun z => absurd g z⟩, f2, f3, f4, f5⟩
