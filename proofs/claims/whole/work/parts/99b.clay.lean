/-! ===== lay: both together ===== -/
theorem vOK_5 {nr w : Nat} (hnr : nr ≤ 10) {g : GS} (G : gOK nr w w g) {r P : Nat} (hr : r < nr) (hP : P < 100 ∧ P % 10 < 5) {s : Int32} (hs : 10 ≤ s.toInt ∧ s.toInt ≤ 5000) (D : dbl g.1 5 r (nI P) = true) : vOK nr w (dot g.1 5 r (nI P) s) := vOK_dot hnr G.1 ⟨hr, Or.inl ⟨rfl, ⟨P, hP.1, hP.2, rfl⟩, hs⟩⟩ D
theorem pl_c (p : Int32) : (¬ (p < 0) ∧ (¬ (100 ≤ p) ∧ (¬ (5 ≤ (zm_rm p 10))))) ↔ (¬ (p < 0) ∧ (¬ (10 ≤ (p / 10)) ∧ (¬ (5 ≤ (zm_rm p 10))))) := by
  by_cases c : p < 0
  · exact ⟨fun z => absurd c z.1, fun z => absurd c z.1⟩
  · have e10 : (10 : Int32).toInt = 10 := rfl
    have e100 : (100 : Int32).toInt = 100 := rfl
    rw [i_lt, i_0] at c
    have dv : (p / 10).toInt = p.toInt / 10 := by rw [i_div (by omega) (by decide), e10]
    rw [i_lt, i_le, i_le, i_le, dv, e10, e100, i_0]
    omega
theorem c_lay {ns nf nr w n d nl : Nat} {h : zm_H} (W : I_now w h) (R : I_rf w nr h) (Q : I_ln nl h) {g : GS} (B : I_bk nr w g h) (p1 p2 p3 : Int32) : f_N_lay_ok p1 p2 p3 h ∧ f_M_lay_ok p1 p2 p3 (f_N_lay p1 p2 p3 h).2 ∧ (f_N_lay p1 p2 p3 h).1 = (f_M_lay p1 p2 p3 (f_N_lay p1 p2 p3 h).2).1 ∧ ∃ g', I_bk nr w g' (f_M_lay p1 p2 p3 (f_N_lay p1 p2 p3 h).2).2 ∧ vM 1 (f_M_lay p1 p2 p3 (f_N_lay p1 p2 p3 h).2).2 = vM 1 h := by
  obtain ⟨w1, w2, w3⟩ := W
  obtain ⟨G, LN, LM, e3, e47, e48, e49⟩ := id B
  have hnr := R.1.1
  have e4 : zf h 23 4 = nI g.2.2.1 := LN.2.2.2.2.2.1
  have e41 : zf h 92 41 = nI g.2.2.1 := LM.2.2.2.1
  have hnt := G.2.2
  have bw : (nI nr).toInt = nr := i_nI (by omega)
  have bw1 : (nI nr - 1).toInt = nr - 1 := by rw [i_sub (by rw [bw, i_1]; omega) (by rw [bw, i_1]; omega), bw, i_1]
  have q : (¬ (p1 < 0) ∧ (¬ (nI nr ≤ p1))) ↔ (¬ (p1 < 0) ∧ (¬ (nI nr - 1 < p1))) := by rw [i_lt, i_lt, i_le, bw, bw1]; omega
  by_cases c1 : ¬ (p1 < 0) ∧ (¬ (nI nr ≤ p1))
  · by_cases c2 : ¬ (p2 < 0) ∧ (¬ (100 ≤ p2) ∧ (¬ (5 ≤ (zm_rm p2 10))))
    · have c1' := c1
      rw [i_lt, i_le, i_0, bw] at c1'
      obtain ⟨r, hr, rfl⟩ := i_ex (a := p1) (N := nr) (by omega) (by omega)
      have c2' := c2
      have e10 : (10 : Int32).toInt = 10 := rfl
      have e100 : (100 : Int32).toInt = 100 := rfl
      have e5 : (5 : Int32).toInt = 5 := rfl
      rw [i_lt, i_le, i_0, e100] at c2'
      obtain ⟨P, hP0, rfl⟩ := i_ex (a := p2) (N := 100) (by omega) (by omega)
      have hP : P < 100 ∧ P % 10 < 5 := by
        have := c2'.2.2
        rw [i_le, i_rm (by omega) (by decide), e10, e5, i_nI (by omega)] at this
        omega
      obtain ⟨sn1, sn2⟩ := sh_N Q (nI P / 10) (nI w / 8)
      obtain ⟨db1, db2⟩ := db_37 (h := h) (show r < 10 by omega) 5 (nI P)
      rw [LN.1] at db2
      have g480 : (480 : Int32) ≤ nI w ↔ w = 480 := by rw [show (480 : Int32) = nI 480 from rfl, nx_le (by omega) (by omega)]; omega
      have h480 : nI w = 480 ↔ w = 480 := by
        rw [i_eq, i_nI (by omega)]
        have : (480 : Int32).toInt = 480 := rfl
        omega
      have g200 : (200 : Int32) ≤ nI g.2.2.1 ↔ g.2.2.1 = 200 := by rw [show (200 : Int32) = nI 200 from rfl, nx_le (by omega) (by omega)]; omega
      have h200 : nI g.2.2.1 = 200 ↔ g.2.2.1 = 200 := by
        rw [i_eq, i_nI (by omega)]
        have : (200 : Int32).toInt = 200 := rfl
        omega
      have st : (¬ (p3 < 10) ∧ (¬ (5000 < p3))) ↔ (10 ≤ p3.toInt ∧ p3.toInt ≤ 5000) := by
        have e5k : (5000 : Int32).toInt = 5000 := rfl
        rw [i_lt, i_lt, e10, e5k]; omega
      -- the class alone
      have oN : f_N_lay_ok (nI r) (nI P) p3 h := by
        unfold f_N_lay_ok
        rw [R.1.2.1, w2, e4, db2]
        refine ⟨fun _ => ⟨fun _ => ⟨fun s => ⟨fun _ => trivial, fun _ => ⟨fun n2 => ⟨db1, fun _ => trivial, fun dd => ⟨sn1, fun _ => ?_, fun _ => trivial⟩⟩, fun _ => trivial⟩⟩, fun _ => trivial⟩, fun _ => trivial⟩, fun _ => trivial⟩
        have D : dbl g.1 5 r (nI P) = true := by
          by_cases z : dbl g.1 5 r (nI P) = true
          · exact z
          · rw [if_neg z] at dd; exact absurd rfl dd
        obtain ⟨a1, a2, -⟩ := ly_N hnr w2 G LN rfl (by have n3 : ¬ g.2.2.1 = 200 := fun z => n2 (g200.mpr z); omega) hr hP (st.mp s) D
        rw [w2] at a1
        exact ⟨a1, a2⟩
      have oM : ∀ h', zWr [27, 28, 29, 30, 31, 38, 39, 40, 43, 44, 45] [(23, 4), (37, 4)] h h' → f_M_lay_ok (nI r) (nI P) p3 h' ∧ ((((¬ sht (h.2.1 115) (h.2.1 116) (h.2.1 117) nl (nI P / 10) (nI w / 8)) ∧ (10 ≤ p3.toInt ∧ p3.toInt ≤ 5000) ∧ ¬ g.2.2.1 = 200 ∧ ¬ w = 480) → f_M_lay (nI r) (nI P) p3 h' = f_M_lay_k59 (nI r) (nI P) p3 (f_M_does 0 0 (nI r) (nI P) p3 h').1 (f_M_does 0 0 (nI r) (nI P) p3 h').2) ∧ (¬ ((¬ sht (h.2.1 115) (h.2.1 116) (h.2.1 117) nl (nI P / 10) (nI w / 8)) ∧ (10 ≤ p3.toInt ∧ p3.toInt ≤ 5000) ∧ ¬ g.2.2.1 = 200 ∧ ¬ w = 480) → f_M_lay (nI r) (nI P) p3 h' = (-1, h'))) := by
        intro h' wz
        have Q' : I_ln nl h' := ⟨⟨Q.1.1, (wz.fld 82 3 (by decide) (by decide)).trans Q.1.2.1, (wz.fld 92 37 (by decide) (by decide)).trans Q.1.2.2⟩, by rw [wz.arr 83 (by decide) (by decide), wz.arr 115 (by decide) (by decide)]; exact Q.2.1, by rw [wz.arr 84 (by decide) (by decide), wz.arr 116 (by decide) (by decide)]; exact Q.2.2.1, by rw [wz.arr 85 (by decide) (by decide), wz.arr 117 (by decide) (by decide)]; exact Q.2.2.2⟩
        have t' : zf h' 92 23 = nI w := (wz.fld 92 23 (by decide) (by decide)).trans w3
        have f33 : zf h' 92 33 = nI nr := (wz.fld 92 33 (by decide) (by decide)).trans R.1.2.2
        have f41 : zf h' 92 41 = nI g.2.2.1 := (wz.fld 92 41 (by decide) (by decide)).trans e41
        obtain ⟨LM', -⟩ := rlM_w wz (by decide) LM
        obtain ⟨sm1, sm2⟩ := sh_M Q' (nI P)
        rw [t', wz.arr 115 (by decide) (by decide), wz.arr 116 (by decide) (by decide), wz.arr 117 (by decide) (by decide)] at sm2
        unfold f_M_lay_ok f_M_lay
        rw [f33, f41, t', if_pos (q.mp c1), if_pos ((pl_c _).mp c2)]
        refine ⟨⟨fun _ => ⟨fun _ => ⟨sm1, fun _ => ⟨fun s => ⟨fun _ => trivial, fun n2 => ⟨fun _ => trivial, fun _ => ?_⟩⟩, fun _ => trivial⟩, fun _ => trivial⟩, fun _ => trivial⟩, fun _ => trivial⟩, ?_⟩
        · obtain ⟨a1, a2, -⟩ := ly_M (s := p3) hnr t' f33 G LM' rfl (by have n3 : ¬ g.2.2.1 = 200 := fun z => n2 (h200.mpr z); omega) hr hP
          exact ⟨a1, a2⟩
        · by_cases x1 : f_M_isShut (nI P) h' = 0
          · rw [if_pos x1]
            by_cases x2 : ¬ (p3 < 10) ∧ (¬ (5000 < p3))
            · rw [if_pos x2]
              by_cases x3 : g.2.2.1 = 200
              · rw [if_pos (h200.mpr x3)]; exact ⟨fun z => absurd x3 z.2.2.1, fun _ => rfl⟩
              · rw [if_neg (fun z => x3 (h200.mp z))]
                by_cases x4 : w = 480
                · rw [if_pos (h480.mpr x4)]; exact ⟨fun z => absurd x4 z.2.2.2, fun _ => rfl⟩
                · rw [if_neg (fun z => x4 (h480.mp z))]; exact ⟨fun _ => rfl, fun z => absurd ⟨sm2.mp x1, st.mp x2, x3, x4⟩ z⟩
            · rw [if_neg x2]; exact ⟨fun z => absurd (st.mpr z.2.1) x2, fun _ => rfl⟩
          · rw [if_neg x1]; exact ⟨fun z => absurd (sm2.mpr z.1) x1, fun _ => rfl⟩
      have eN : ((((¬ sht (h.2.1 115) (h.2.1 116) (h.2.1 117) nl (nI P / 10) (nI w / 8)) ∧ (10 ≤ p3.toInt ∧ p3.toInt ≤ 5000) ∧ ¬ g.2.2.1 = 200 ∧ ¬ w = 480) ∧ dbl g.1 5 r (nI P) = true) → f_N_lay (nI r) (nI P) p3 h = f_N_lay_k97 (f_Log_addThing (nI w) 5 (nI r) (nI P) p3 h)) ∧ (¬ (((¬ sht (h.2.1 115) (h.2.1 116) (h.2.1 117) nl (nI P / 10) (nI w / 8)) ∧ (10 ≤ p3.toInt ∧ p3.toInt ≤ 5000) ∧ ¬ g.2.2.1 = 200 ∧ ¬ w = 480) ∧ dbl g.1 5 r (nI P) = true) → f_N_lay (nI r) (nI P) p3 h = (-1, h)) := by
        unfold f_N_lay
        rw [R.1.2.1, w2, e4, db2, if_pos c1, if_pos c2]
        by_cases x2 : ¬ (p3 < 10) ∧ (¬ (5000 < p3))
        · rw [if_pos x2]
          by_cases x4 : w = 480
          · rw [if_pos (g480.mpr x4)]; exact ⟨fun z => absurd x4 z.1.2.2.2, fun _ => rfl⟩
          · rw [if_neg (fun z => x4 (g480.mp z))]
            by_cases x3 : g.2.2.1 = 200
            · rw [if_neg (show ¬ ¬ (200 : Int32) ≤ nI g.2.2.1 from fun z => z (g200.mpr x3))]; exact ⟨fun z => absurd x3 z.1.2.2.1, fun _ => rfl⟩
            · rw [if_pos (show ¬ (200 : Int32) ≤ nI g.2.2.1 from fun z => x3 (g200.mp z))]
              by_cases D : dbl g.1 5 r (nI P) = true
              · rw [if_pos D, if_neg (by decide)]
                by_cases x1 : f_Ground_isShut (nI P / 10) (nI w / 8) h = 0
                · rw [if_pos x1]; exact ⟨fun _ => rfl, fun z => absurd ⟨⟨sn2.mp x1, st.mp x2, x3, x4⟩, D⟩ z⟩
                · rw [if_neg x1]; exact ⟨fun z => absurd (sn2.mpr z.1.1) x1, fun _ => rfl⟩
              · rw [if_neg D, if_pos rfl]; exact ⟨fun z => absurd z.2 D, fun _ => rfl⟩
        · rw [if_neg x2]; exact ⟨fun z => absurd (st.mpr z.1.2.1) x2, fun _ => rfl⟩
      by_cases A : (¬ sht (h.2.1 115) (h.2.1 116) (h.2.1 117) nl (nI P / 10) (nI w / 8)) ∧ (10 ≤ p3.toInt ∧ p3.toInt ≤ 5000) ∧ ¬ g.2.2.1 = 200 ∧ ¬ w = 480
      · by_cases D : dbl g.1 5 r (nI P) = true
        · have eN := eN.1 ⟨A, D⟩
          obtain ⟨-, -, h1, a1, a2, a3⟩ := ly_N hnr w2 G LN rfl (by omega) hr hP A.2.1 D
          rw [a1] at eN
          rw [eN]
          dsimp only
          obtain ⟨m1, m2⟩ := oM h1 a2
          obtain ⟨LM1, v1⟩ := rlM_w a2 (by decide) LM
          obtain ⟨-, -, m3⟩ := ly_M (s := p3) hnr ((a2.fld 92 23 (by decide) (by decide)).trans w3) ((a2.fld 92 33 (by decide) (by decide)).trans R.1.2.2) G LM1 rfl (by omega) hr hP
          have m2 := m2.1 A
          rcases m3 with ⟨-, h2, b1, b2, b3, b4⟩ | ⟨z, -⟩
          · rw [b1] at m2
            rw [m2]
            refine ⟨oN, m1, rfl, (dot g.1 5 r (nI P) p3, g.2.1, g.2.2.1 + 1, tad g.2.2.2 g.2.2.1 (nI w) 5 (nI r) (nI P) p3), ⟨⟨vOK_5 hnr G hr hP A.2.1 D, G.2.1, by dsimp only; omega⟩, rlN_w b2 (by decide) a3, b4, ?_, ?_, ?_, ?_⟩, by rw [b3, v1]⟩
            · exact (b2.fld 37 3 (by decide) (by decide)).trans ((a2.fld 37 3 (by decide) (by decide)).trans e3)
            · rw [b2.arr 47 (by decide) (by decide), a2.arr 47 (by decide) (by decide), b2.arr 131 (by decide) (by decide), a2.arr 131 (by decide) (by decide)]; exact e47
            · rw [b2.arr 48 (by decide) (by decide), a2.arr 48 (by decide) (by decide), b2.arr 132 (by decide) (by decide), a2.arr 132 (by decide) (by decide)]; exact e48
            · rw [b2.arr 49 (by decide) (by decide), a2.arr 49 (by decide) (by decide), b2.arr 133 (by decide) (by decide), a2.arr 133 (by decide) (by decide)]; exact e49
          · exact absurd D z
        · have eN := eN.2 (fun z => D z.2)
          rw [eN]
          dsimp only
          obtain ⟨m1, m2⟩ := oM h (zWr.refl _ _)
          obtain ⟨-, -, m3⟩ := ly_M (s := p3) hnr w3 R.1.2.2 G LM rfl (by omega) hr hP
          have m2 := m2.1 A
          rcases m3 with ⟨z, -⟩ | ⟨-, h2, b1, b2, b3, b4⟩
          · exact absurd z D
          · rw [b1] at m2
            rw [m2]
            refine ⟨oN, m1, rfl, g, ⟨G, rlN_w b2 (by decide) LN, b4, ?_, ?_, ?_, ?_⟩, b3⟩
            · exact (b2.fld 37 3 (by decide) (by decide)).trans e3
            · rw [b2.arr 47 (by decide) (by decide), b2.arr 131 (by decide) (by decide)]; exact e47
            · rw [b2.arr 48 (by decide) (by decide), b2.arr 132 (by decide) (by decide)]; exact e48
            · rw [b2.arr 49 (by decide) (by decide), b2.arr 133 (by decide) (by decide)]; exact e49
      · have eN := eN.2 (fun z => A z.1)
        rw [eN]
        dsimp only
        obtain ⟨m1, m2⟩ := oM h (zWr.refl _ _)
        have m2 := m2.2 A
        rw [m2]
        exact ⟨oN, m1, rfl, g, B, rfl⟩
    · have eN : f_N_lay p1 p2 p3 h = (-1, h) := by unfold f_N_lay; rw [R.1.2.1, if_pos c1, if_neg c2]
      have c2' : ¬ (¬ (p2 < 0) ∧ (¬ (10 ≤ (p2 / 10)) ∧ (¬ (5 ≤ (zm_rm p2 10))))) := fun z => c2 ((pl_c _).mpr z)
      have eM : f_M_lay p1 p2 p3 h = (-1, h) := by unfold f_M_lay; rw [R.1.2.2, if_pos (q.mp c1), if_neg c2']
      rw [eN]
      dsimp only
      rw [eM]
      refine ⟨?_, ?_, rfl, g, B, rfl⟩
      · unfold f_N_lay_ok
        exact ⟨fun _ => ⟨fun z => absurd z c2, fun _ => trivial⟩, fun _ => trivial⟩
      · unfold f_M_lay_ok
        exact ⟨fun _ => ⟨fun z => absurd z c2', fun _ => trivial⟩, fun _ => trivial⟩
  · have eN : f_N_lay p1 p2 p3 h = (-1, h) := by unfold f_N_lay; rw [R.1.2.1, if_neg c1]
    have c1' : ¬ (¬ (p1 < 0) ∧ (¬ (nI nr - 1 < p1))) := fun z => c1 (q.mpr z)
    have eM : f_M_lay p1 p2 p3 h = (-1, h) := by unfold f_M_lay; rw [R.1.2.2, if_neg c1']
    rw [eN]
    dsimp only
    rw [eM]
    refine ⟨?_, ?_, rfl, g, B, rfl⟩
    · unfold f_N_lay_ok
      rw [R.1.2.1]
      exact ⟨fun z => absurd z c1, fun _ => trivial⟩
    · unfold f_M_lay_ok
      rw [R.1.2.2]
      exact ⟨fun z => absurd z c1', fun _ => trivial⟩
