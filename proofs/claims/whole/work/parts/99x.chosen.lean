/-! ===== a PLAN: the class has chosen ===== -/
/-- all of j have the earliest window that leads to X and Y -/
def fstP (J m : Nat) (L V S : Nat → Nat) (X Y : Nat) (a : Nat → Nat) (j : Nat) : Prop := Rc J m L V S X Y a j ∧ ∀ i, i < j → ∀ w, w < a i → ¬ Rc J m L V S X Y (asg a i w) (i + 1)
theorem fstP_s {J m : Nat} {L V S : Nat → Nat} {X Y : Nat} {a : Nat → Nat} {j b : Nat} (h : fstP J m L V S X Y a j) (r : Rc J m L V S X Y (asg a j b) (j + 1)) (no : ∀ w, w < b → ¬ Rc J m L V S X Y (asg a j w) (j + 1)) : fstP J m L V S X Y (asg a j b) (j + 1) := by
  refine ⟨r, fun i hi w hw z => ?_⟩
  by_cases e : i = j
  · subst e
    rw [show asg a i b i = b from if_pos rfl] at hw
    refine no w hw (Rc_ext (fun u hu => ?_) z)
    by_cases eu : u = i
    · rw [show asg (asg a i b) i w u = w from if_pos eu, show asg a i w u = w from if_pos eu]
    · rw [show asg (asg a i b) i w u = asg a i b u from if_neg eu, show asg a i b u = a u from if_neg eu, show asg a i w u = a u from if_neg eu]
  · rw [show asg a j b i = a i from if_neg e] at hw
    refine h.2 i (by omega) w hw (Rc_ext (fun u hu => ?_) z)
    by_cases eu : u = i
    · rw [show asg (asg a j b) i w u = w from if_pos eu, show asg a i w u = w from if_pos eu]
    · rw [show asg (asg a j b) i w u = asg a j b u from if_neg eu, show asg a j b u = a u from if_neg (by omega), show asg a i w u = a u from if_neg eu]
theorem cho_l {J m : Nat} (hJ : J ≤ 6) (hm : m ≤ 40) {L V S : Nat → Nat} (hL : ∀ j, j < J → L j ≤ 16) (hV : ∀ j, j < J → V j ≤ 999) (hS : ∀ w, w < m → S w < 1000) {h : zm_H} (eJ : zf h 72 2 = nI J) (em : zf h 72 5 = nI m) (e73 : ∀ j, j < J → h.2.1 73 j = nI (L j)) (e74 : ∀ j, j < J → h.2.1 74 j = nI (V j)) (e77 : ∀ w, w < m → h.2.1 77 w = nI (S w)) (e78 : ∀ s, s < 2 ^ J → h.2.1 78 s = nI (sm L s.testBit J)) (e79 : ∀ s, s < 2 ^ J → h.2.1 79 s = nI (sm V s.testBit J)) {X Y : Nat} (eX : zf h 72 12 = nI X) (eY : zf h 72 13 = nI Y) (hX : X ≤ 5994) (hY : Y ≤ 96) (R0 : Rc J m L V S X Y (fun _ => 0) 0) : f_Planner_choose_k25_ok h ∧ zWr [77, 80, 81] [] h (f_Planner_choose_k25 h) ∧ ∃ a : Nat → Nat, (∀ i, i < J → a i ≤ m) ∧ (∀ i, i < J → (f_Planner_choose_k25 h).2.1 81 i = (if a i = m then -1 else nI (a i))) ∧ fstP J m L V S X Y a J := by
  unfold f_Planner_choose_k25_ok f_Planner_choose_k25 f_Planner_choose_a37 f_Planner_choose_k126
  rw [eX, eY]
  obtain ⟨F, eF, -⟩ := zF_ex
  rw [← eF]
  have key := zlpF eF (b := fun t => f_Planner_choose_l37_b t.1 t.2.1 t.2.2.1 t.2.2.2) (o := fun t => f_Planner_choose_l37_b_ok t.1 t.2.1 t.2.2.1 t.2.2.2) J (by omega)
    (fun j t => ∃ (a : Nat → Nat) (X' Y' : Nat) (Q : Nat → Nat), t.1 = nI X' ∧ t.2.1 = nI Y' ∧ t.2.2.1 = nI j ∧ zWr [77, 80, 81] [] h t.2.2.2 ∧ (∀ i, i < j → a i ≤ m) ∧ (∀ w, w < m → t.2.2.2.2.1 77 w = nI (Q w)) ∧ (∀ w, w < m → Q w + sm L (fun i => eqb (a i) w) j = S w) ∧ X' + wv j m V a = X ∧ Y' + wv j m L a = Y ∧ (∀ i, i < j → t.2.2.2.2.1 81 i = (if a i = m then -1 else nI (a i))) ∧ fstP J m L V S X Y a j)
    (fun r => zWr [77, 80, 81] [] h r.2.2.2.2 ∧ ∃ a : Nat → Nat, (∀ i, i < J → a i ≤ m) ∧ (∀ i, i < J → r.2.2.2.2.2.1 81 i = (if a i = m then -1 else nI (a i))) ∧ fstP J m L V S X Y a J) (nI X, nI Y, 0, h)
    ⟨fun _ => 0, X, Y, S, rfl, rfl, rfl, zWr.refl _ _, fun i hi => by omega, e77, fun w hw => rfl, rfl, rfl, fun i hi => by omega, R0, fun i hi => by omega⟩
    (by
      rintro j ⟨v1, v2, v3, x⟩ hj ⟨a, X', Y', Q, q1, q2, q3, p1, p2, p3, p4, p5, p6, p7, p8⟩
      dsimp only at q1 q2 q3 p1 p3 p7
      subst q1 q2 q3
      have xJ : zf x 72 2 = nI J := (p1.fld 72 2 (by decide) (by decide)).trans eJ
      have xm : zf x 72 5 = nI m := (p1.fld 72 5 (by decide) (by decide)).trans em
      have g0 : ¬ (zf x 72 2 ≤ nI j) := by rw [xJ, nx_le (by omega) (by omega)]; omega
      have ij : vp_in (nI j) 6 := vp_in_nI (by omega) (by omega)
      have x73 : ∀ i, i < J → x.2.1 73 i = nI (L i) := fun i hi => by rw [p1.arr 73 (by decide) (by decide)]; exact e73 i hi
      have r73 : zr x 73 (nI j) = nI (L j) := by rw [zr_n x 73 (by omega)]; exact x73 j hj
      have r74 : zr x 74 (nI j) = nI (V j) := by rw [zr_n x 74 (by omega), zf, p1.arr 74 (by decide) (by decide)]; exact e74 j hj
      have hQ : ∀ w, w < m → Q w < 1000 := fun w hw => by have := p4 w hw; have := hS w hw; omega
      obtain ⟨w1, w2, w3, b, w4, w5, w6, w7⟩ := wf_N (V := V) hJ hm hj hL hQ xJ xm x73 p3 (fun s hs => by rw [p1.arr 78 (by decide) (by decide)]; exact e78 s hs) (fun s hs => by rw [p1.arr 79 (by decide) (by decide)]; exact e79 s hs) (nI X' - nI (V j)) (nI Y' - nI (L j))
      have ld := fun {w : Nat} (hw : w < m) => lds_iff (Q := Q) (R := S) (X := X) (Y := Y) (X' := X') (Y' := Y') (a := a) hJ hj hL hV (by omega) (by omega) p2 p4 p5 p6 hw
      obtain ⟨r, er⟩ : ∃ r, r = f_Planner_windowFor (nI j) (nI X' - nI (V j)) (nI Y' - nI (L j)) x := ⟨_, rfl⟩
      rw [← er] at w2 w3 w5
      have noR : ∀ w, w < b → ¬ Rc J m L V S X Y (asg a j w) (j + 1) := fun w hw z => w7 w hw ((ld (by omega)).mpr z)
      have isR : Rc J m L V S X Y (asg a j b) (j + 1) := by
        by_cases c : b < m
        · exact (ld c).mp (w6 c)
        · obtain ⟨u, hu, ru⟩ := (Rc_next hj).mp p8.1
          by_cases d : u < b
          · exact absurd ru (noR u d)
          · have : u = b := by omega
            rw [← this]; exact ru
      have fs := fstP_s p8 isR noR
      obtain ⟨l1, l2, l3⟩ := Rc_low (by omega) isR
      rw [wv_asg] at l1 l2
      have wr : zWr [77, 80, 81] [] h r.2 := zWr_tr w2 (by decide) (by decide) p1
      have a' : ∀ i, i < j + 1 → asg a j b i ≤ m := fun i hi => by
        by_cases e : i = j
        · rw [show asg a j b i = b from if_pos e]; omega
        · rw [show asg a j b i = a i from if_neg e]; exact p2 i (by omega)
      obtain ⟨y, ey⟩ : ∃ y, y = zm_si r.2 81 j r.1 := ⟨_, rfl⟩
      have wy : zWr [77, 80, 81] [] h y := by rw [ey]; exact zWr_si (by decide) wr
      have ry : zr y 81 (nI j) = r.1 := by rw [zr_n y 81 (by omega), ey]; exact zm_in _ _ _ _
      have y81 : ∀ i, i < j + 1 → y.2.1 81 i = (if asg a j b i = m then -1 else nI (asg a j b i)) := fun i hi => by
        rw [ey, zf_si, if_pos rfl]
        by_cases e : i = j
        · rw [if_pos e, show asg a j b i = b from if_pos e]; exact w5
        · rw [if_neg e, show asg a j b i = a i from if_neg e, w2.arr 81 (by decide) (by decide)]; exact p7 i (by omega)
      have y77 : ∀ w, w < m → y.2.1 77 w = nI (Q w) := fun w hw => by rw [ey, zf_si, if_neg (by decide)]; exact w3 w hw
      show f_Planner_choose_l37_b_ok (nI X') (nI Y') (nI j) x ∧ _
      unfold f_Planner_choose_l37_b f_Planner_choose_l37_b_ok
      dsimp only
      rw [if_neg g0, r73, r74, ← er]
      unfold f_Planner_choose_l37_k71 f_Planner_choose_l37_k71_ok
      rw [zs_n r.2 81 _ (show j < 2147483648 by omega), ← ey, ry]
      have s73 : zr r.2 73 (nI j) = nI (L j) := by rw [zr_n r.2 73 (by omega), zf, w2.arr 73 (by decide) (by decide)]; exact x73 j hj
      have s74 : zr r.2 74 (nI j) = nI (V j) := by rw [zr_n r.2 74 (by omega), zf, wr.arr 74 (by decide) (by decide)]; exact e74 j hj
      by_cases c : b = m
      · rw [if_pos c] at w5
        rw [if_neg (show ¬ b < m by omega)] at l1 l2
        rw [w5, if_pos rfl, if_pos rfl, if_pos rfl]
        refine ⟨⟨fun z => absurd z g0, fun _ => ⟨ij, ij, w1, ij, ij, fun _ => trivial, fun z => absurd rfl z⟩⟩, Or.inl ⟨rfl, asg a j b, X', Y', Q, rfl, rfl, (nI_succ j).symm, wy, a', y77, fun w hw => ?_, ?_, ?_, y81, fs⟩⟩
        · rw [ld_asg, if_neg (by omega)]; exact p4 w hw
        · rw [wv_asg, if_neg (by omega)]; exact p5
        · rw [wv_asg, if_neg (by omega)]; exact p6
      · have c' : b < m := by omega
        rw [if_neg c] at w5
        rw [if_pos c'] at l1 l2
        have hl := (w6 c').1
        have nb : ¬ (nI b = -1) := by rw [i_eq, i_nI (by omega), i_m1]; omega
        have ib : vp_in (nI b) 40 := vp_in_nI (by omega) (by omega)
        have t77 : zr r.2 77 (nI b) = nI (Q b) := by rw [zr_n r.2 77 (by omega)]; exact w3 b c'
        have w1' : f_Planner_windowFor_ok (nI j) (nI (X' - V j)) (nI (Y' - L j)) x := by rw [← nI_s0 X' (V j) (by omega), ← nI_s0 Y' (L j) (by omega)]; exact w1
        rw [w5, if_neg nb, if_neg nb, if_neg nb, s73, s74, t77, nI_s0 _ _ hl, nI_s0 X' (V j) (by omega), nI_s0 Y' (L j) (by omega), zs_n y 77 _ (by omega)]
        refine ⟨⟨fun z => absurd z g0, fun _ => ⟨ij, ij, w1', ij, ij, fun z => absurd z nb, fun _ => ⟨ij, ib, ij, ib, ij, ij⟩⟩⟩, Or.inl ⟨rfl, asg a j b, X' - V j, Y' - L j, rdu Q b (L j), rfl, rfl, (nI_succ j).symm, zWr_si (by decide) wy, a', fun w hw => ?_, fun w hw => ?_, ?_, ?_, fun i hi => ?_, fs⟩⟩
        · dsimp only
          rw [zf_si, if_pos rfl]
          unfold rdu
          by_cases e : w = b
          · rw [if_pos e, if_pos e, e]
          · rw [if_neg e, if_neg e]; exact y77 w hw
        · rw [ld_asg]
          have := p4 w hw
          unfold rdu
          by_cases e : w = b
          · rw [if_pos e, if_pos e.symm]; subst e; omega
          · rw [if_neg e, if_neg (fun z => e z.symm)]; omega
        · rw [wv_asg, if_pos c']; omega
        · rw [wv_asg, if_pos c']; omega
        · dsimp only
          rw [zf_si, if_neg (by decide)]; exact y81 i hi)
    (by
      rintro ⟨v1, v2, v3, x⟩ ⟨a, X', Y', Q, q1, q2, q3, p1, p2, p3, p4, p5, p6, p7, p8⟩
      dsimp only at q1 q2 q3 p1 p3 p7
      subst q1 q2 q3
      have xJ : zf x 72 2 = nI J := (p1.fld 72 2 (by decide) (by decide)).trans eJ
      have g0 : zf x 72 2 ≤ nI J := by rw [xJ]; exact i_le_r _
      show f_Planner_choose_l37_b_ok (nI X') (nI Y') (nI J) x ∧ _
      unfold f_Planner_choose_l37_b f_Planner_choose_l37_b_ok
      dsimp only
      rw [if_pos g0]
      exact ⟨⟨fun _ => trivial, fun z => absurd g0 z⟩, by simp, p1, a, p2, p7, p8⟩)
  obtain ⟨k1, k2, k3⟩ := key
  exact ⟨⟨k1, trivial⟩, k2, k3⟩
theorem Rc_0 {J m : Nat} {L V S : Nat → Nat} {X Y : Nat} {a : Nat → Nat} : Rc J m L V S X Y a 0 ↔ ∃ s, s < 2 ^ J ∧ fzT J L S m s ∧ sm V s.testBit J = X ∧ sm L s.testBit J = Y := by
  rw [Rc_left (a := a) (m := m) (L := L) (V := V) (R := S) (X := X) (Y := Y) (Q := S) (X' := X) (Y' := Y) (Nat.zero_le J) (fun i hi => by omega) (fun w hw => rfl) rfl rfl]
  constructor
  · rintro ⟨s, s1, -, s3, s4, s5⟩; exact ⟨s, s1, s3, s4, s5⟩
  · rintro ⟨s, s1, s3, s4, s5⟩; exact ⟨s, s1, fun i hi => by omega, s3, s4, s5⟩
theorem ch_N {J m : Nat} (hJ : J ≤ 6) (hm : m ≤ 40) {L V S : Nat → Nat} (hL : ∀ j, j < J → L j ≤ 16) (hV : ∀ j, j < J → V j ≤ 999) (hS : ∀ w, w < m → S w < 1000) {h : zm_H} (eJ : zf h 72 2 = nI J) (em : zf h 72 5 = nI m) (e73 : ∀ j, j < J → h.2.1 73 j = nI (L j)) (e74 : ∀ j, j < J → h.2.1 74 j = nI (V j)) (e76 : ∀ w, w < m → h.2.1 76 w = nI (S w)) (z78 : h.2.1 78 0 = 0) (z79 : h.2.1 79 0 = 0) : f_Planner_choose_ok h ∧ zWr [77, 78, 79, 80, 81] [(72, 12), (72, 13)] h (f_Planner_choose h) ∧ (f_Planner_choose h).2.1 78 0 = 0 ∧ (f_Planner_choose h).2.1 79 0 = 0 ∧ ∃ (X Y : Nat) (a : Nat → Nat), zf (f_Planner_choose h) 72 12 = nI X ∧ bXY J m L V S X Y ∧ (∀ i, i < J → a i ≤ m) ∧ (∀ i, i < J → (f_Planner_choose h).2.1 81 i = (if a i = m then -1 else nI (a i))) ∧ fstP J m L V S X Y a J := by
  have h0 : 0 < 2 ^ J := Nat.pow_pos (by omega)
  have hsL : ∀ s : Nat, sm L s.testBit J ≤ 96 := fun s => by have := sm_le (P := s.testBit) J hL; omega
  have hsV : ∀ s : Nat, sm V s.testBit J ≤ 5994 := fun s => by have := sm_le (P := s.testBit) J hV; omega
  unfold f_Planner_choose_ok f_Planner_choose f_Planner_choose_k21_ok f_Planner_choose_k21
  rw [em]
  have cm : (nI m).toNatClampNeg = m := nI_c (by omega)
  have c0 : (0 : Int32).toNatClampNeg = 0 := rfl
  obtain ⟨x, ex⟩ : ∃ x, x = zcp h 76 0 77 0 (nI m) := ⟨_, rfl⟩
  rw [← ex]
  have wx : zWr [77] [] h x := by rw [ex]; exact zWr_cp (by decide) (zWr.refl _ _)
  have x77 : ∀ w, w < m → x.2.1 77 w = nI (S w) := fun w hw => by
    rw [ex]
    unfold zcp
    show zm_w h.2.1 77 (va_cpy (h.2.1 76) (h.2.1 77) (0 : Int32).toNatClampNeg (0 : Int32).toNatClampNeg (nI m).toNatClampNeg) 77 w = _
    rw [cm, c0]
    unfold zm_w va_cpy
    rw [if_pos rfl, if_pos (by omega)]
    rw [Nat.zero_add, Nat.sub_zero]
    exact e76 w hw
  have xJ : zf x 72 2 = nI J := (wx.fld 72 2 (by decide) (by decide)).trans eJ
  obtain ⟨a1, a2, a3⟩ := ms_N (L := L) (V := V) hJ xJ (fun j hj => by rw [wx.arr 73 (by decide) (by decide)]; exact e73 j hj) (fun j hj => by rw [wx.arr 74 (by decide) (by decide)]; exact e74 j hj) (by rw [wx.arr 78 (by decide) (by decide)]; exact z78) (by rw [wx.arr 79 (by decide) (by decide)]; exact z79)
  generalize f_Planner_measureSets x = y at a2 a3
  have wy : zWr [77, 78, 79] [] h y := zWr_tr a2 (by decide) (by decide) (zWr_tr wx (by decide) (by decide) (zWr.refl _ _))
  have yJ : zf y 72 2 = nI J := (wy.fld 72 2 (by decide) (by decide)).trans eJ
  have ym : zf y 72 5 = nI m := (wy.fld 72 5 (by decide) (by decide)).trans em
  have y77 : ∀ w, w < m → y.2.1 77 w = nI (S w) := fun w hw => by rw [a2.arr 77 (by decide) (by decide)]; exact x77 w hw
  obtain ⟨b1, b2, X, Y, b3, b4, b5⟩ := fb_N (V := V) hJ hm hL hV hS yJ ym y77 (fun s hs => (a3 s hs).1) (fun s hs => (a3 s hs).2)
  generalize f_Planner_findBest y = z at b2 b3 b4
  have wz : zWr [77, 78, 79, 80] [(72, 12), (72, 13)] h z := zWr_tr b2 (by decide) (by decide) (zWr_tr wy (by decide) (by decide) (zWr.refl _ _))
  obtain ⟨s0, t1, t2, t3, t4⟩ := b5.1
  obtain ⟨d1, d2, a, d3, d4, d5⟩ := cho_l (L := L) (V := V) (S := S) hJ hm hL hV hS (h := z) ((wz.fld 72 2 (by decide) (by decide)).trans eJ) ((wz.fld 72 5 (by decide) (by decide)).trans em) (fun j hj => by rw [wz.arr 73 (by decide) (by decide)]; exact e73 j hj) (fun j hj => by rw [wz.arr 74 (by decide) (by decide)]; exact e74 j hj) (fun w hw => by rw [b2.arr 77 (by decide) (by decide)]; exact y77 w hw) (fun s hs => by rw [b2.arr 78 (by decide) (by decide)]; exact (a3 s hs).1) (fun s hs => by rw [b2.arr 79 (by decide) (by decide)]; exact (a3 s hs).2) b3 b4 (by rw [← t3]; exact hsV s0) (by rw [← t4]; exact hsL s0) (Rc_0.mpr b5.1)
  refine ⟨⟨⟨by decide, by decide, ?_, ?_, ?_⟩, a1, b1, d1⟩, zWr_tr d2 (by decide) (by decide) (zWr_tr wz (by decide) (by decide) (zWr.refl _ _)), ?_, ?_, X, Y, a, ?_, b5, d3, d4, d5⟩
  · rw [i_lt, i_nI (by omega), i_0]; omega
  · rw [cm, c0]; omega
  · rw [cm, c0]; omega
  · rw [d2.arr 78 (by decide) (by decide), b2.arr 78 (by decide) (by decide), (a3 0 h0).1, sm_z]; rfl
  · rw [d2.arr 79 (by decide) (by decide), b2.arr 79 (by decide) (by decide), (a3 0 h0).2, sm_z]; rfl
  · exact (d2.fld 72 12 (by decide) (by decide)).trans b3
