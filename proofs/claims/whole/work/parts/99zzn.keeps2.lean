/-! ===== more of it: things told later, readings, forces, rafts ===== -/
def gLt (w : Nat) (g g' : GS) : Prop := g.2.2.1 ≤ g'.2.2.1 ∧ (∀ i k, k < g.2.2.1 → g'.2.2.2 i k = g.2.2.2 i k) ∧ ∀ k, g.2.2.1 ≤ k → k < g'.2.2.1 → ∃ t, w ≤ t ∧ t ≤ 480 ∧ g'.2.2.2 0 k = nI t
theorem gLt_rf (w : Nat) (g : GS) : gLt w g g := ⟨Nat.le_refl _, fun _ _ _ => rfl, fun k h1 h2 => by omega⟩
theorem gLt_tr {w w' : Nat} (hw : w ≤ w') {g g1 g2 : GS} (a : gLt w g g1) (b : gLt w' g1 g2) : gLt w g g2 := by
  refine ⟨Nat.le_trans a.1 b.1, fun i k hk => by rw [b.2.1 i k (by have := a.1; omega), a.2.1 i k hk], fun k h1 h2 => ?_⟩
  by_cases c : k < g1.2.2.1
  · obtain ⟨t, t1, t2, t3⟩ := a.2.2 k h1 c
    exact ⟨t, t1, t2, by rw [b.2.1 0 k c]; exact t3⟩
  · obtain ⟨t, t1, t2, t3⟩ := b.2.2 k (by omega) h2
    exact ⟨t, by omega, t2, t3⟩
theorem gLt_trp {w t : Nat} (h1 : w ≤ t + 1) (h2 : t < 480) (b : Nat) (g : GS) : gLt w g (trp t b g) := by
  unfold trp
  split
  · split
    · refine ⟨Nat.le_succ _, fun i k hk => ?_, fun k k1 k2 => ⟨t + 1, h1, by omega, ?_⟩⟩
      · dsimp only; rw [tad_at, if_neg (by omega)]
      · dsimp only at k2 ⊢; rw [tad_at, if_pos (by omega)]; rfl
    · exact gLt_rf w _
  · exact gLt_rf w g
theorem gLt_fld {w t : Nat} (h1 : w ≤ t + 1) (h2 : t < 480) (g : GS) : ∀ n, gLt w g (fld (trp t) n g) := by
  intro n
  induction n with
  | zero => exact gLt_rf w g
  | succ n ih => rw [fld]; exact gLt_tr (Nat.le_refl _) ih (gLt_trp h1 h2 n _)
theorem gLt_spl {w t : Nat} (h1 : w ≤ t + 1) (h2 : t < 480) (E : Nat → (Nat → Int32) → Int32) (sz su : Nat → Int32) (sea : Int32) (nr : Nat) (g : GS) : gLt w g (spl E sz su sea t nr g) := by
  have a : gLt w g (pS3 E sz su sea (nI t) nr g.1, rcl E sea (nI t) g.2.1, g.2.2.1, g.2.2.2) := ⟨Nat.le_refl _, fun _ _ _ => rfl, fun k k1 k2 => absurd k2 (by dsimp only; omega)⟩
  unfold spl
  exact gLt_tr (Nat.le_refl _) a (gLt_fld h1 h2 _ 3)
theorem gLt_gos (nf n d nr : Nat) (h : zm_H) (w : Nat) (g : GS) : ∀ k, w + k ≤ 480 → gLt w g (gos nf n d nr h w k g) := by
  intro k
  induction k with
  | zero => intro _; exact gLt_rf w g
  | succ k ih =>
    intro hk
    rw [gos]
    exact gLt_tr (Nat.le_refl _) (ih (by omega)) (gLt_spl (by omega) (by omega) _ _ _ _ _ _)
theorem c_go2 {ns nf nr w n d : Nat} {h : zm_H} (W : I_now w h) (H : I_rl ns nf h) (R : I_rf w nr h) (S : I_sw w n d h) {g : GS} (B : I_bk nr w g h) (p1 : Int32) : f_N_go_ok p1 h ∧ f_M_go_ok p1 (f_N_go p1 h).2 ∧ (f_N_go p1 h).1 = (f_M_go p1 (f_N_go p1 h).2).1 ∧ ∃ w' g', gLt w g g' ∧ w ≤ w' ∧ I_now w' (f_M_go p1 (f_N_go p1 h).2).2 ∧ I_bk nr w' g' (f_M_go p1 (f_N_go p1 h).2).2 ∧ vM 1 (f_M_go p1 (f_N_go p1 h).2).2 = vM 1 h := by
  obtain ⟨w1, w2, w3⟩ := W
  obtain ⟨G, LN, LM, e3, e47, e48, e49⟩ := id B
  have i80 : (80 : Int32).toInt = 80 := rfl
  by_cases c : 0 ≤ p1.toInt ∧ p1.toInt ≤ 80
  · obtain ⟨p, hp, rfl⟩ := i_ex (N := 81) c.1 (by omega)
    have g1 : ¬ (nI p < 0) := by rw [i_lt, i_0]; omega
    have g2 : nI p ≤ 80 := by rw [i_le, i80]; omega
    have g3 : ¬ (nI p < 0) ∧ (¬ (80 < nI p)) := ⟨g1, by rw [i_lt, i80]; omega⟩
    obtain ⟨m, em⟩ : ∃ m, m = min p (480 - w) := ⟨_, rfl⟩
    obtain ⟨a1, h1, a2, a3, a4, a5, a6, a7, a8, a9⟩ := go_N w1 H R S w2 e3 G LN (show p ≤ 80 by omega) em
    have eN : f_N_go (nI p) h = (nI (w + m), h1) := by
      unfold f_N_go f_N_go_a14 f_N_go_k39
      rw [if_neg g1, if_pos g2, a2, a4]
    have oN : f_N_go_ok (nI p) h := by
      unfold f_N_go_ok
      exact ⟨fun z => absurd z g1, fun _ => ⟨fun _ => ⟨a1, trivial⟩, fun z => absurd g2 z⟩⟩
    rw [eN]
    dsimp only
    have hF2 : wfR [21, 22, 27, 28, 29, 30, 31, 32, 33, 34, 35, 36, 38, 39, 40, 41, 42, 43, 44, 45, 46, 47, 48, 49, 65, 66, 70, 71] [(0, 0), (15, 9), (23, 4), (37, 3), (37, 4)] = true := by decide
    obtain ⟨LM1, v1⟩ := rlM_w a3 (by decide) LM
    obtain ⟨b1, h2, b2, b3, b4, b5, b6, b7, b8, b9⟩ := go_M (ns := ns) (nf := nf) (n := n) (d := d) w1 (I_rl_w hF2 a3 H) (I_rf_w a3 (by decide) R) (I_sw_z (a3.eq (by decide) (by decide)) S) ((a3.fld 92 23 (by decide) (by decide)).trans w3) G LM1 (show p ≤ 80 by omega) em
    obtain ⟨q1, q2⟩ := gos_w (nf := nf) (n := n) (d := d) (nr := nr) (by decide) a3 w g m
    rw [q1] at b5
    rw [(q2 _).1, a3.arr 131 (by decide) (by decide)] at b7
    rw [(q2 _).2.1, a3.arr 132 (by decide) (by decide)] at b8
    rw [(q2 _).2.2, a3.arr 133 (by decide) (by decide)] at b9
    have eM : f_M_go (nI p) h1 = (nI (w + m), h2) := by
      unfold f_M_go f_M_go_a14 f_M_go_k39
      rw [if_pos g3, b2, b4]
    have oM : f_M_go_ok (nI p) h1 := by
      unfold f_M_go_ok
      exact ⟨fun _ => ⟨b1, trivial⟩, fun z => absurd g3 z⟩
    rw [eM]
    refine ⟨oN, oM, rfl, w + m, gos nf n d nr h w m g, gLt_gos nf n d nr h w g m (by omega), by omega, ⟨by omega, (b3.fld 0 0 (by decide) (by decide)).trans a4, b4⟩, ⟨gos_ok R S G m (by omega), rlN_w b3 (by decide) a6, b5, (b3.fld 37 3 (by decide) (by decide)).trans a5, ?_, ?_, ?_⟩, by rw [b6, v1]⟩
    · rw [b3.arr 47 (by decide) (by decide), a7, b7, e47]
    · rw [b3.arr 48 (by decide) (by decide), a8, b8, e48]
    · rw [b3.arr 49 (by decide) (by decide), a9, b9, e49]
  · have eN : f_N_go p1 h = (-1, h) := by
      unfold f_N_go
      by_cases d : p1 < 0
      · rw [if_pos d]
      · rw [if_neg d, if_neg (by rw [i_le, i80]; rw [i_lt, i_0] at d; omega)]
    have g3 : ¬ (¬ (p1 < 0) ∧ (¬ (80 < p1))) := by
      rw [i_lt, i_lt, i_0, i80]; omega
    have eM : f_M_go p1 h = (-1, h) := by unfold f_M_go; rw [if_neg g3]
    rw [eN]
    dsimp only
    rw [eM]
    refine ⟨?_, ?_, rfl, w, g, gLt_rf w g, Nat.le_refl _, ⟨w1, w2, w3⟩, B, rfl⟩
    · unfold f_N_go_ok
      refine ⟨fun _ => trivial, fun z => ⟨fun y => ?_, fun _ => trivial⟩⟩
      rw [i_lt, i_0] at z
      rw [i_le, i80] at y
      exact absurd ⟨by omega, by omega⟩ c
    · unfold f_M_go_ok
      exact ⟨fun z => absurd z g3, fun _ => trivial⟩
theorem c_lay2 {ns nf nr w n d nl : Nat} {h : zm_H} (W : I_now w h) (R : I_rf w nr h) (Q : I_ln nl h) {g : GS} (B : I_bk nr w g h) (p1 p2 p3 : Int32) : f_N_lay_ok p1 p2 p3 h ∧ f_M_lay_ok p1 p2 p3 (f_N_lay p1 p2 p3 h).2 ∧ (f_N_lay p1 p2 p3 h).1 = (f_M_lay p1 p2 p3 (f_N_lay p1 p2 p3 h).2).1 ∧ ∃ g', gLt w g g' ∧ I_bk nr w g' (f_M_lay p1 p2 p3 (f_N_lay p1 p2 p3 h).2).2 ∧ vM 1 (f_M_lay p1 p2 p3 (f_N_lay p1 p2 p3 h).2).2 = vM 1 h := by
  obtain ⟨w1, w2, w3⟩ := W
  obtain ⟨G, LN, LM, e3, e47, e48, e49⟩ := id B
  have hnr := R.1.1
  have e4 : zf h 23 4 = nI g.2.2.1 := LN.2.2.2.2.2.1
  have e41 : zf h 92 41 = nI g.2.2.1 := LM.2.2.2.1
  have hnt := G.2.2
  have bw : (nI nr).toInt = nr := i_nI (by omega)
  have bw1 : (nI nr - 1).toInt = nr - 1 := by rw [i_sub (by rw [bw, i_1]; omega) (by rw [bw, i_1]; omega), bw, i_1]
  have q : (¬ (p1 < 0) ∧ (¬ (nI nr ≤ p1))) ↔ (¬ (p1 < 0) ∧ (¬ (nI nr - 1 < p1))) := by rw [i_lt, i_lt, i_le, bw, bw1]; omega
  by_cases c1 : ¬ (p1 < 0) ∧ (¬ (nI nr ≤ p1))
  · by_cases c2 : ¬ (p2 < 0) ∧ (¬ (100 ≤ p2) ∧ (¬ (5 ≤ (zm_rm p2 10))))
    · have c1' := c1
      rw [i_lt, i_le, i_0, bw] at c1'
      obtain ⟨r, hr, rfl⟩ := i_ex (a := p1) (N := nr) (by omega) (by omega)
      have c2' := c2
      have e10 : (10 : Int32).toInt = 10 := rfl
      have e100 : (100 : Int32).toInt = 100 := rfl
      have e5 : (5 : Int32).toInt = 5 := rfl
      rw [i_lt, i_le, i_0, e100] at c2'
      obtain ⟨P, hP0, rfl⟩ := i_ex (a := p2) (N := 100) (by omega) (by omega)
      have hP : P < 100 ∧ P % 10 < 5 := by
        have := c2'.2.2
        rw [i_le, i_rm (by omega) (by decide), e10, e5, i_nI (by omega)] at this
        omega
      obtain ⟨sn1, sn2⟩ := sh_N Q (nI P / 10) (nI w / 8)
      obtain ⟨db1, db2⟩ := db_37 (h := h) (show r < 10 by omega) 5 (nI P)
      rw [LN.1] at db2
      have g480 : (480 : Int32) ≤ nI w ↔ w = 480 := by rw [show (480 : Int32) = nI 480 from rfl, nx_le (by omega) (by omega)]; omega
      have h480 : nI w = 480 ↔ w = 480 := by
        rw [i_eq, i_nI (by omega)]
        have : (480 : Int32).toInt = 480 := rfl
        omega
      have g200 : (200 : Int32) ≤ nI g.2.2.1 ↔ g.2.2.1 = 200 := by rw [show (200 : Int32) = nI 200 from rfl, nx_le (by omega) (by omega)]; omega
      have h200 : nI g.2.2.1 = 200 ↔ g.2.2.1 = 200 := by
        rw [i_eq, i_nI (by omega)]
        have : (200 : Int32).toInt = 200 := rfl
        omega
      have st : (¬ (p3 < 10) ∧ (¬ (5000 < p3))) ↔ (10 ≤ p3.toInt ∧ p3.toInt ≤ 5000) := by
        have e5k : (5000 : Int32).toInt = 5000 := rfl
        rw [i_lt, i_lt, e10, e5k]; omega
      -- the class alone
      have oN : f_N_lay_ok (nI r) (nI P) p3 h := by
        unfold f_N_lay_ok
        rw [R.1.2.1, w2, e4, db2]
        refine ⟨fun _ => ⟨fun _ => ⟨fun s => ⟨fun _ => trivial, fun _ => ⟨fun n2 => ⟨db1, fun _ => trivial, fun dd => ⟨sn1, fun _ => ?_, fun _ => trivial⟩⟩, fun _ => trivial⟩⟩, fun _ => trivial⟩, fun _ => trivial⟩, fun _ => trivial⟩
        have D : dbl g.1 5 r (nI P) = true := by
          by_cases z : dbl g.1 5 r (nI P) = true
          · exact z
          · rw [if_neg z] at dd; exact absurd rfl dd
        obtain ⟨a1, a2, -⟩ := ly_N hnr w2 G LN rfl (by have n3 : ¬ g.2.2.1 = 200 := fun z => n2 (g200.mpr z); omega) hr hP (st.mp s) D
        rw [w2] at a1
        exact ⟨a1, a2⟩
      have oM : ∀ h', zWr [27, 28, 29, 30, 31, 38, 39, 40, 43, 44, 45] [(23, 4), (37, 4)] h h' → f_M_lay_ok (nI r) (nI P) p3 h' ∧ ((((¬ sht (h.2.1 115) (h.2.1 116) (h.2.1 117) nl (nI P / 10) (nI w / 8)) ∧ (10 ≤ p3.toInt ∧ p3.toInt ≤ 5000) ∧ ¬ g.2.2.1 = 200 ∧ ¬ w = 480) → f_M_lay (nI r) (nI P) p3 h' = f_M_lay_k59 (nI r) (nI P) p3 (f_M_does 0 0 (nI r) (nI P) p3 h').1 (f_M_does 0 0 (nI r) (nI P) p3 h').2) ∧ (¬ ((¬ sht (h.2.1 115) (h.2.1 116) (h.2.1 117) nl (nI P / 10) (nI w / 8)) ∧ (10 ≤ p3.toInt ∧ p3.toInt ≤ 5000) ∧ ¬ g.2.2.1 = 200 ∧ ¬ w = 480) → f_M_lay (nI r) (nI P) p3 h' = (-1, h'))) := by
        intro h' wz
        have Q' : I_ln nl h' := ⟨⟨Q.1.1, (wz.fld 82 3 (by decide) (by decide)).trans Q.1.2.1, (wz.fld 92 37 (by decide) (by decide)).trans Q.1.2.2⟩, by rw [wz.arr 83 (by decide) (by decide), wz.arr 115 (by decide) (by decide)]; exact Q.2.1, by rw [wz.arr 84 (by decide) (by decide), wz.arr 116 (by decide) (by decide)]; exact Q.2.2.1, by rw [wz.arr 85 (by decide) (by decide), wz.arr 117 (by decide) (by decide)]; exact Q.2.2.2⟩
        have t' : zf h' 92 23 = nI w := (wz.fld 92 23 (by decide) (by decide)).trans w3
        have f33 : zf h' 92 33 = nI nr := (wz.fld 92 33 (by decide) (by decide)).trans R.1.2.2
        have f41 : zf h' 92 41 = nI g.2.2.1 := (wz.fld 92 41 (by decide) (by decide)).trans e41
        obtain ⟨LM', -⟩ := rlM_w wz (by decide) LM
        obtain ⟨sm1, sm2⟩ := sh_M Q' (nI P)
        rw [t', wz.arr 115 (by decide) (by decide), wz.arr 116 (by decide) (by decide), wz.arr 117 (by decide) (by decide)] at sm2
        unfold f_M_lay_ok f_M_lay
        rw [f33, f41, t', if_pos (q.mp c1), if_pos ((pl_c _).mp c2)]
        refine ⟨⟨fun _ => ⟨fun _ => ⟨sm1, fun _ => ⟨fun s => ⟨fun _ => trivial, fun n2 => ⟨fun _ => trivial, fun _ => ?_⟩⟩, fun _ => trivial⟩, fun _ => trivial⟩, fun _ => trivial⟩, fun _ => trivial⟩, ?_⟩
        · obtain ⟨a1, a2, -⟩ := ly_M (s := p3) hnr t' f33 G LM' rfl (by have n3 : ¬ g.2.2.1 = 200 := fun z => n2 (h200.mpr z); omega) hr hP
          exact ⟨a1, a2⟩
        · by_cases x1 : f_M_isShut (nI P) h' = 0
          · rw [if_pos x1]
            by_cases x2 : ¬ (p3 < 10) ∧ (¬ (5000 < p3))
            · rw [if_pos x2]
              by_cases x3 : g.2.2.1 = 200
              · rw [if_pos (h200.mpr x3)]; exact ⟨fun z => absurd x3 z.2.2.1, fun _ => rfl⟩
              · rw [if_neg (fun z => x3 (h200.mp z))]
                by_cases x4 : w = 480
                · rw [if_pos (h480.mpr x4)]; exact ⟨fun z => absurd x4 z.2.2.2, fun _ => rfl⟩
                · rw [if_neg (fun z => x4 (h480.mp z))]; exact ⟨fun _ => rfl, fun z => absurd ⟨sm2.mp x1, st.mp x2, x3, x4⟩ z⟩
            · rw [if_neg x2]; exact ⟨fun z => absurd (st.mpr z.2.1) x2, fun _ => rfl⟩
          · rw [if_neg x1]; exact ⟨fun z => absurd (sm2.mpr z.1) x1, fun _ => rfl⟩
      have eN : ((((¬ sht (h.2.1 115) (h.2.1 116) (h.2.1 117) nl (nI P / 10) (nI w / 8)) ∧ (10 ≤ p3.toInt ∧ p3.toInt ≤ 5000) ∧ ¬ g.2.2.1 = 200 ∧ ¬ w = 480) ∧ dbl g.1 5 r (nI P) = true) → f_N_lay (nI r) (nI P) p3 h = f_N_lay_k97 (f_Log_addThing (nI w) 5 (nI r) (nI P) p3 h)) ∧ (¬ (((¬ sht (h.2.1 115) (h.2.1 116) (h.2.1 117) nl (nI P / 10) (nI w / 8)) ∧ (10 ≤ p3.toInt ∧ p3.toInt ≤ 5000) ∧ ¬ g.2.2.1 = 200 ∧ ¬ w = 480) ∧ dbl g.1 5 r (nI P) = true) → f_N_lay (nI r) (nI P) p3 h = (-1, h)) := by
        unfold f_N_lay
        rw [R.1.2.1, w2, e4, db2, if_pos c1, if_pos c2]
        by_cases x2 : ¬ (p3 < 10) ∧ (¬ (5000 < p3))
        · rw [if_pos x2]
          by_cases x4 : w = 480
          · rw [if_pos (g480.mpr x4)]; exact ⟨fun z => absurd x4 z.1.2.2.2, fun _ => rfl⟩
          · rw [if_neg (fun z => x4 (g480.mp z))]
            by_cases x3 : g.2.2.1 = 200
            · rw [if_neg (show ¬ ¬ (200 : Int32) ≤ nI g.2.2.1 from fun z => z (g200.mpr x3))]; exact ⟨fun z => absurd x3 z.1.2.2.1, fun _ => rfl⟩
            · rw [if_pos (show ¬ (200 : Int32) ≤ nI g.2.2.1 from fun z => x3 (g200.mp z))]
              by_cases D : dbl g.1 5 r (nI P) = true
              · rw [if_pos D, if_neg (by decide)]
                by_cases x1 : f_Ground_isShut (nI P / 10) (nI w / 8) h = 0
                · rw [if_pos x1]; exact ⟨fun _ => rfl, fun z => absurd ⟨⟨sn2.mp x1, st.mp x2, x3, x4⟩, D⟩ z⟩
                · rw [if_neg x1]; exact ⟨fun z => absurd (sn2.mpr z.1.1) x1, fun _ => rfl⟩
              · rw [if_neg D, if_pos rfl]; exact ⟨fun z => absurd z.2 D, fun _ => rfl⟩
        · rw [if_neg x2]; exact ⟨fun z => absurd (st.mpr z.1.2.1) x2, fun _ => rfl⟩
      by_cases A : (¬ sht (h.2.1 115) (h.2.1 116) (h.2.1 117) nl (nI P / 10) (nI w / 8)) ∧ (10 ≤ p3.toInt ∧ p3.toInt ≤ 5000) ∧ ¬ g.2.2.1 = 200 ∧ ¬ w = 480
      · by_cases D : dbl g.1 5 r (nI P) = true
        · have eN := eN.1 ⟨A, D⟩
          obtain ⟨-, -, h1, a1, a2, a3⟩ := ly_N hnr w2 G LN rfl (by omega) hr hP A.2.1 D
          rw [a1] at eN
          rw [eN]
          dsimp only
          obtain ⟨m1, m2⟩ := oM h1 a2
          obtain ⟨LM1, v1⟩ := rlM_w a2 (by decide) LM
          obtain ⟨-, -, m3⟩ := ly_M (s := p3) hnr ((a2.fld 92 23 (by decide) (by decide)).trans w3) ((a2.fld 92 33 (by decide) (by decide)).trans R.1.2.2) G LM1 rfl (by omega) hr hP
          have m2 := m2.1 A
          rcases m3 with ⟨-, h2, b1, b2, b3, b4⟩ | ⟨z, -⟩
          · rw [b1] at m2
            rw [m2]
            refine ⟨oN, m1, rfl, (dot g.1 5 r (nI P) p3, g.2.1, g.2.2.1 + 1, tad g.2.2.2 g.2.2.1 (nI w) 5 (nI r) (nI P) p3), ⟨Nat.le_succ _, fun i k hk => by dsimp only; rw [tad_at, if_neg (by omega)], fun k k1 k2 => ⟨w, Nat.le_refl _, by omega, by dsimp only at k2 ⊢; rw [tad_at, if_pos (by omega)]; rfl⟩⟩, ⟨⟨vOK_5 hnr G hr hP A.2.1 D, G.2.1, by dsimp only; omega⟩, rlN_w b2 (by decide) a3, b4, ?_, ?_, ?_, ?_⟩, by rw [b3, v1]⟩
            · exact (b2.fld 37 3 (by decide) (by decide)).trans ((a2.fld 37 3 (by decide) (by decide)).trans e3)
            · rw [b2.arr 47 (by decide) (by decide), a2.arr 47 (by decide) (by decide), b2.arr 131 (by decide) (by decide), a2.arr 131 (by decide) (by decide)]; exact e47
            · rw [b2.arr 48 (by decide) (by decide), a2.arr 48 (by decide) (by decide), b2.arr 132 (by decide) (by decide), a2.arr 132 (by decide) (by decide)]; exact e48
            · rw [b2.arr 49 (by decide) (by decide), a2.arr 49 (by decide) (by decide), b2.arr 133 (by decide) (by decide), a2.arr 133 (by decide) (by decide)]; exact e49
          · exact absurd D z
        · have eN := eN.2 (fun z => D z.2)
          rw [eN]
          dsimp only
          obtain ⟨m1, m2⟩ := oM h (zWr.refl _ _)
          obtain ⟨-, -, m3⟩ := ly_M (s := p3) hnr w3 R.1.2.2 G LM rfl (by omega) hr hP
          have m2 := m2.1 A
          rcases m3 with ⟨z, -⟩ | ⟨-, h2, b1, b2, b3, b4⟩
          · exact absurd z D
          · rw [b1] at m2
            rw [m2]
            refine ⟨oN, m1, rfl, g, gLt_rf w g, ⟨G, rlN_w b2 (by decide) LN, b4, ?_, ?_, ?_, ?_⟩, b3⟩
            · exact (b2.fld 37 3 (by decide) (by decide)).trans e3
            · rw [b2.arr 47 (by decide) (by decide), b2.arr 131 (by decide) (by decide)]; exact e47
            · rw [b2.arr 48 (by decide) (by decide), b2.arr 132 (by decide) (by decide)]; exact e48
            · rw [b2.arr 49 (by decide) (by decide), b2.arr 133 (by decide) (by decide)]; exact e49
      · have eN := eN.2 (fun z => A z.1)
        rw [eN]
        dsimp only
        obtain ⟨m1, m2⟩ := oM h (zWr.refl _ _)
        have m2 := m2.2 A
        rw [m2]
        exact ⟨oN, m1, rfl, g, gLt_rf w g, B, rfl⟩
    · have eN : f_N_lay p1 p2 p3 h = (-1, h) := by unfold f_N_lay; rw [R.1.2.1, if_pos c1, if_neg c2]
      have c2' : ¬ (¬ (p2 < 0) ∧ (¬ (10 ≤ (p2 / 10)) ∧ (¬ (5 ≤ (zm_rm p2 10))))) := fun z => c2 ((pl_c _).mpr z)
      have eM : f_M_lay p1 p2 p3 h = (-1, h) := by unfold f_M_lay; rw [R.1.2.2, if_pos (q.mp c1), if_neg c2']
      rw [eN]
      dsimp only
      rw [eM]
      refine ⟨?_, ?_, rfl, g, gLt_rf w g, B, rfl⟩
      · unfold f_N_lay_ok
        exact ⟨fun _ => ⟨fun z => absurd z c2, fun _ => trivial⟩, fun _ => trivial⟩
      · unfold f_M_lay_ok
        exact ⟨fun _ => ⟨fun z => absurd z c2', fun _ => trivial⟩, fun _ => trivial⟩
  · have eN : f_N_lay p1 p2 p3 h = (-1, h) := by unfold f_N_lay; rw [R.1.2.1, if_neg c1]
    have c1' : ¬ (¬ (p1 < 0) ∧ (¬ (nI nr - 1 < p1))) := fun z => c1 (q.mpr z)
    have eM : f_M_lay p1 p2 p3 h = (-1, h) := by unfold f_M_lay; rw [R.1.2.2, if_neg c1']
    rw [eN]
    dsimp only
    rw [eM]
    refine ⟨?_, ?_, rfl, g, gLt_rf w g, B, rfl⟩
    · unfold f_N_lay_ok
      rw [R.1.2.1]
      exact ⟨fun z => absurd z c1, fun _ => trivial⟩
    · unfold f_M_lay_ok
      rw [R.1.2.2]
      exact ⟨fun z => absurd z c1', fun _ => trivial⟩
theorem c_reading2 {w n d : Nat} {h : zm_H} (W : I_now w h) (H : I_sw w n d h) (p1 p2 : Int32) : f_N_reading_ok p1 p2 h ∧ f_M_reading_ok p1 p2 (f_N_reading p1 p2 h).2 ∧ (f_N_reading p1 p2 h).1 = (f_M_reading p1 p2 (f_N_reading p1 p2 h).2).1 ∧ ∃ n', n ≤ n' ∧ (∀ k, k < n → (f_M_reading p1 p2 (f_N_reading p1 p2 h).2).2.2.1 105 k = h.2.1 105 k ∧ (f_M_reading p1 p2 (f_N_reading p1 p2 h).2).2.2.1 106 k = h.2.1 106 k) ∧ I_sw w n' d (f_M_reading p1 p2 (f_N_reading p1 p2 h).2).2 := by
  obtain ⟨w1, w2, w3⟩ := W
  obtain ⟨⟨hn, hd, en, en', ed, ed'⟩, hR, hL, hD, hm, hm2⟩ := id H
  have wN := f_N_reading_w p1 p2 h
  have f24 : zf (f_N_reading p1 p2 h).2 92 24 = nI n := (wN.fld 92 24 (by decide) (by decide)).trans en'
  have f23 : zf (f_N_reading p1 p2 h).2 92 23 = nI w := (wN.fld 92 23 (by decide) (by decide)).trans w3
  have e23 : zf h 92 23 = nI w := w3
  by_cases V : ((0 ≤ p1.toInt ∧ p1.toInt < 480) ∧ rdOK p2) ∧ w < 480 ∧ n < 400
  · obtain ⟨⟨⟨v1, v2⟩, v3⟩, v4, v5⟩ := V
    obtain ⟨sp, hsp, rfl⟩ := i_ex (N := 480) v1 v2
    have i1 : vp_in (nI n) 400 := vp_in_nI v5 (by omega)
    have i2 : vp_in (nI sp) 480 := vp_in_nI hsp (by omega)
    have c1 : ¬ (nI sp < 0) ∧ (¬ (480 ≤ nI sp)) := by simp only [i_lt, i_le, Int32.reduceToInt, i_nI (show sp < 2147483648 by omega)]; omega
    have c1' : ¬ (nI sp < 0) ∧ (¬ (479 < nI sp)) := by simp only [i_lt, i_le, Int32.reduceToInt, i_nI (show sp < 2147483648 by omega)]; omega
    have c2 := (rd_c p2).mpr v3
    have c3 : zf h 0 0 < 480 := by rw [w2, i_lt, i_nI (by omega)]; simp only [Int32.reduceToInt]; omega
    have c4 : zf h 1 0 < 400 := by rw [en, i_lt, i_nI (by omega)]; simp only [Int32.reduceToInt]; omega
    have okN : f_N_reading_ok (nI sp) p2 h := by
      unfold f_N_reading_ok f_Swell_tellReading_ok
      rw [en]
      exact ⟨fun _ => ⟨fun _ => ⟨fun _ => ⟨fun _ => ⟨i1, i1, i2, i1, i2⟩, fun _ => trivial⟩, fun _ => trivial⟩, fun _ => trivial⟩, fun _ => trivial⟩
    have eN : f_N_reading (nI sp) p2 h = (nI (n + 1), zm_si (zm_si (zm_si (zm_si (zm_si h 4 n p2) 5 n (nI w)) 3 n (zf h 2 sp)) 2 sp (nI n)) 1 0 (nI (n + 1))) := by
      unfold f_N_reading f_Swell_tellReading
      rw [if_pos c1, if_pos c2, if_pos c3, if_pos c4, en, w2, zr_n h 2 (by omega), zs_n _ 4 _ (by omega), zs_n _ 5 _ (by omega), zs_n _ 3 _ (by omega), zs_n _ 2 _ (by omega), nI_succ]
    refine ⟨okN, ?_⟩
    rw [eN] at wN f24 f23 ⊢
    dsimp only at wN f24 f23 ⊢
    generalize hG : zm_si (zm_si (zm_si (zm_si (zm_si h 4 n p2) 5 n (nI w)) 3 n (zf h 2 sp)) 2 sp (nI n)) 1 0 (nI (n + 1)) = G at wN f24 f23
    obtain ⟨r1, r2, r3⟩ := rd_m v3.1
    obtain ⟨s1, s2, s3, s4, s5⟩ := v3
    have b1 : (nI sp).toInt = sp := i_nI (by omega)
    have b2 : (nI n).toInt = n := i_nI (by omega)
    have b3 : (nI w).toInt = w := i_nI (by omega)
    have eM : f_M_reading (nI sp) p2 G = (nI (n + 1), zm_si (zm_si (zm_si (zm_si G 105 n (nI sp)) 106 n p2) 107 n (nI w)) 92 24 (nI (n + 1))) := by
      unfold f_M_reading
      simp only [f24, f23, i_lt, i_le, i_eq, Int32.reduceToInt, r1, r2, r3, b1, b2, b3]
      repeat' split
      all_goals first | (exfalso; omega) | skip
      rw [zs_n _ 105 _ (by omega), zs_n _ 106 _ (by omega), zs_n _ 107 _ (by omega), nI_succ]
    have okM : f_M_reading_ok (nI sp) p2 G := by
      unfold f_M_reading_ok
      rw [f24]
      simp only [i1, and_true, implies_true]
    refine ⟨okM, ?_⟩
    rw [eM]
    refine ⟨rfl, n + 1, by omega, ?_⟩
    dsimp only
    obtain ⟨X, eX⟩ : ∃ X, X = zm_si (zm_si (zm_si (zm_si G 105 n (nI sp)) 106 n p2) 107 n (nI w)) 92 24 (nI (n + 1)) := ⟨_, rfl⟩
    rw [← eX]
    rw [← hG] at eX
    have x2 : X.2.1 2 = upd (h.2.1 2) sp (nI n) := by rw [eX]; simp [za_si]
    have x3 : X.2.1 3 = upd (h.2.1 3) n (zf h 2 sp) := by rw [eX]; simp [za_si]
    have x4 : X.2.1 4 = upd (h.2.1 4) n p2 := by rw [eX]; simp [za_si]
    have x5 : X.2.1 5 = upd (h.2.1 5) n (nI w) := by rw [eX]; simp [za_si]
    have x105 : X.2.1 105 = upd (h.2.1 105) n (nI sp) := by rw [eX]; simp [za_si]
    have x106 : X.2.1 106 = upd (h.2.1 106) n p2 := by rw [eX]; simp [za_si]
    have x107 : X.2.1 107 = upd (h.2.1 107) n (nI w) := by rw [eX]; simp [za_si]
    have xr : ∀ i, i ∈ [6, 7, 8, 9, 108, 109, 110, 111] → X.2.1 i = h.2.1 i := by
      intro i hi
      rw [eX]
      simp only [List.mem_cons, List.not_mem_nil, or_false] at hi
      rcases hi with rfl | rfl | rfl | rfl | rfl | rfl | rfl | rfl <;> simp [za_si]
    have y1 : X.2.1 1 0 = nI (n + 1) := by rw [eX]; simp [zf_si]
    have y2 : X.2.1 92 24 = nI (n + 1) := by rw [eX]; simp [zf_si]
    have y3 : X.2.1 1 1 = h.2.1 1 1 := by rw [eX]; simp [zf_si]
    have y4 : X.2.1 92 28 = h.2.1 92 28 := by rw [eX]; simp [zf_si]
    have g105 : ∀ k, k < n → upd (h.2.1 105) n (nI sp) k = h.2.1 105 k := fun k hk => pk_un (by omega)
    refine ⟨fun k hk => ⟨by rw [x105]; exact pk_un (by omega), by rw [x106]; exact pk_un (by omega)⟩, ?_⟩
    clear eX hG
    unfold I_sw zf
    rw [y1, y2, y3, y4, x2, x3, x4, x5, x105, x106, x107, xr 6 (by decide), xr 7 (by decide), xr 8 (by decide), xr 9 (by decide), xr 108 (by decide), xr 109 (by decide), xr 110 (by decide), xr 111 (by decide)]
    refine ⟨⟨by omega, hd, rfl, rfl, ed, ed'⟩, ?_, ?_, hD, ?_, hm2⟩
    · intro k hk
      by_cases hkn : k = n
      · subst hkn
        rw [pk_us, pk_us, pk_us, pk_us, pk_us, pk_us, lst_ext g105]
        exact ⟨rfl, rfl, ⟨sp, hsp, rfl⟩, ⟨s1, s2, s3, s4, s5⟩, ⟨w, by omega, v4, rfl⟩, hL sp hsp⟩
      · rw [pk_un hkn, pk_un hkn, pk_un hkn, pk_un hkn, pk_un hkn, pk_un hkn, lst_ext (fun j hj => g105 j (by omega))]
        exact hR k (by omega)
    · intro s hs
      rw [lst, pk_us, lst_ext g105]
      by_cases hss : s = sp
      · subst hss
        rw [if_pos rfl, pk_us]
      · rw [if_neg (fun z => hss (nI_inj (by omega) (by omega) z).symm), pk_un hss]
        exact hL s hs
    · intro j k hj hk
      by_cases hkn : k = n
      · subst hkn
        by_cases hjn : j = k
        · subst hjn; exact i_le.mpr (Int.le_refl _)
        · rw [pk_us, pk_un hjn]
          obtain ⟨t, t1, t2, t3⟩ := (hR j (by omega)).2.2.2.2.1
          rw [show h.2.1 107 j = nI t from t3, i_le, i_nI (by omega), i_nI (by omega)]
          omega
      · rw [pk_un hkn, pk_un (by omega)]
        exact hm j k hj (by omega)
  · have b2 : (nI n).toInt = n := i_nI (by omega)
    have b3 : (nI w).toInt = w := i_nI (by omega)
    have eN : f_N_reading p1 p2 h = (-1, h) := by
      unfold f_N_reading f_Swell_tellReading
      clear hR hL hD hm hm2 f24 f23 wN
      repeat' split
      all_goals first | rfl | (exfalso; refine V ⟨⟨?_, (rd_c p2).mp (by assumption)⟩, ?_, ?_⟩ <;> simp only [en, w2, i_lt, i_le, i_eq, Int32.reduceToInt, b2, b3] at * <;> omega)
    have okN : f_N_reading_ok p1 p2 h := by
      unfold f_N_reading_ok f_Swell_tellReading_ok
      simp only [rd_c]
      simp only [en, w2, i_lt, i_le, i_eq, Int32.reduceToInt, b2, b3, implies_true, and_true]
      intro q1 q2 q3 q4
      exact absurd ⟨⟨⟨by omega, by omega⟩, q2⟩, by omega, by omega⟩ V
    refine ⟨okN, ?_⟩
    rw [eN]
    dsimp only
    have eM : f_M_reading p1 p2 h = (-1, h) := by
      by_cases h0 : 0 ≤ p2.toInt
      · obtain ⟨r1, r2, r3⟩ := rd_m h0
        unfold f_M_reading
        unfold rdOK at V
        simp only [en', e23, i_lt, i_le, i_eq, Int32.reduceToInt, r1, r2, r3, b2, b3]
        repeat' split
        all_goals first | rfl | (exfalso; omega)
      · unfold f_M_reading
        simp only [en', e23, i_lt, i_le, i_eq, Int32.reduceToInt, b2, b3]
        repeat' split
        all_goals first | rfl | (exfalso; omega)
    have okM : f_M_reading_ok p1 p2 h := by
      unfold f_M_reading_ok
      rw [en']
      simp only [implies_true, and_true, true_and]
      intro _ _ _ _ _ q _
      have i1 : vp_in (nI n) 400 := vp_in_nI (by rw [i_eq, b2] at q; simp only [Int32.reduceToInt] at q; omega) (by omega)
      exact ⟨i1, i1, i1⟩
    refine ⟨okM, ?_⟩
    rw [eM]
    exact ⟨rfl, n, Nat.le_refl _, fun _ _ => ⟨rfl, rfl⟩, H⟩
theorem fnd_x {f f' : Nat → Int32} {q : Nat} (e : ∀ k, k < q → f' k = f k) : ∀ m t, fnd f' q m t = fnd f q m t := by
  intro m
  induction m with
  | zero => intro t; rfl
  | succ m ih => intro t; rw [fnd, fnd, lst_ext e, ih]
theorem seaP_x {h h' : zm_H} {q d : Nat} (hq : q < 2147483648) (e : ∀ k, k < q → h'.2.1 105 k = h.2.1 105 k ∧ h'.2.1 106 k = h.2.1 106 k) (f : ∀ k, k < d → h'.2.1 108 k = h.2.1 108 k ∧ h'.2.1 109 k = h.2.1 109 k ∧ h'.2.1 110 k = h.2.1 110 k) (t : Nat) : seaP h' q d t = seaP h q d t := by
  unfold seaP
  rw [fnd_x (fun k hk => (e k hk).1)]
  rcases (fnd_rng (h.2.1 105) q 9 t).2 with a | ⟨k, k1, k2⟩
  · rw [if_pos (by rw [a]; decide), if_pos (by rw [a]; decide)]
  · have z : zr h' 106 (fnd (h.2.1 105) q 9 t).2 = zr h 106 (fnd (h.2.1 105) q 9 t).2 := by
      rw [k2]
      show h'.2.1 106 (nI k).toNatClampNeg = h.2.1 106 (nI k).toNatClampNeg
      rw [nI_c (by omega)]
      exact (e k k1).2
    rw [z, dsm_ext f]
/-- a DRIFT more -/
theorem sw_drift {w n e : Nat} {h : zm_H} (H : I_sw w n e h) (he : e < 30) (hw : w < 480) {p1 p2 p3 : Int32} (c1 : -30 ≤ p3.toInt) (c2 : p3.toInt ≤ 30) : I_sw w n (e + 1) (zm_si (zm_si (zm_si (zm_si (zm_si (zm_si (zm_si (zm_si (zm_si (zm_si h 6 e p1) 7 e p2) 8 e p3) 9 e (nI w)) 1 1 (nI (e + 1))) 108 e p1) 109 e p2) 110 e p3) 111 e (nI w)) 92 28 (nI (e + 1))) := by
  obtain ⟨⟨hn, hd, en, en', ed, ed'⟩, hR, hL, hD, hm, hm2⟩ := H
  obtain ⟨X, eX⟩ : ∃ X, X = zm_si (zm_si (zm_si (zm_si (zm_si (zm_si (zm_si (zm_si (zm_si (zm_si h 6 e p1) 7 e p2) 8 e p3) 9 e (nI w)) 1 1 (nI (e + 1))) 108 e p1) 109 e p2) 110 e p3) 111 e (nI w)) 92 28 (nI (e + 1)) := ⟨_, rfl⟩
  rw [← eX]
  have x6 : X.2.1 6 = upd (h.2.1 6) e p1 := by rw [eX]; simp [za_si]
  have x7 : X.2.1 7 = upd (h.2.1 7) e p2 := by rw [eX]; simp [za_si]
  have x8 : X.2.1 8 = upd (h.2.1 8) e p3 := by rw [eX]; simp [za_si]
  have x9 : X.2.1 9 = upd (h.2.1 9) e (nI w) := by rw [eX]; simp [za_si]
  have x108 : X.2.1 108 = upd (h.2.1 108) e p1 := by rw [eX]; simp [za_si]
  have x109 : X.2.1 109 = upd (h.2.1 109) e p2 := by rw [eX]; simp [za_si]
  have x110 : X.2.1 110 = upd (h.2.1 110) e p3 := by rw [eX]; simp [za_si]
  have x111 : X.2.1 111 = upd (h.2.1 111) e (nI w) := by rw [eX]; simp [za_si]
  have xr : ∀ i, i ∈ [2, 3, 4, 5, 105, 106, 107] → X.2.1 i = h.2.1 i := by
    intro i hi
    rw [eX]
    simp only [List.mem_cons, List.not_mem_nil, or_false] at hi
    rcases hi with rfl | rfl | rfl | rfl | rfl | rfl | rfl <;> simp [za_si]
  have y1 : X.2.1 1 1 = nI (e + 1) := by rw [eX]; simp [zf_si]
  have y2 : X.2.1 92 28 = nI (e + 1) := by rw [eX]; simp [zf_si]
  have y3 : X.2.1 1 0 = h.2.1 1 0 := by rw [eX]; simp [zf_si]
  have y4 : X.2.1 92 24 = h.2.1 92 24 := by rw [eX]; simp [zf_si]
  clear eX
  unfold I_sw zf
  rw [y1, y2, y3, y4, x6, x7, x8, x9, x108, x109, x110, x111, xr 2 (by decide), xr 3 (by decide), xr 4 (by decide), xr 5 (by decide), xr 105 (by decide), xr 106 (by decide), xr 107 (by decide)]
  refine ⟨⟨hn, by omega, en, en', rfl, rfl⟩, hR, hL, ?_, hm, ?_⟩
  · intro k hk
    by_cases hkn : k = e
    · subst hkn
      rw [pk_us, pk_us, pk_us, pk_us, pk_us, pk_us, pk_us, pk_us]
      exact ⟨rfl, rfl, rfl, rfl, ⟨w, Nat.le_refl _, hw, rfl⟩, c1, c2⟩
    · rw [pk_un hkn, pk_un hkn, pk_un hkn, pk_un hkn, pk_un hkn, pk_un hkn, pk_un hkn, pk_un hkn]
      exact hD k (by omega)
  · intro j k hj hk
    by_cases hkn : k = e
    · subst hkn
      by_cases hjn : j = k
      · subst hjn; exact i_le.mpr (Int.le_refl _)
      · rw [pk_us, pk_un hjn]
        obtain ⟨t, t1, t2, t3⟩ := (hD j (by omega)).2.2.2.2.1
        rw [show h.2.1 111 j = nI t from t3, i_le, i_nI (by omega), i_nI (by omega)]
        omega
    · rw [pk_un hkn, pk_un (by omega)]
      exact hm2 j k hj (by omega)
theorem sLt_of {nf nr nt q d nf' nt' G : Nat} {W : List Nat} {F : List (Nat × Nat)} {h h' : zm_H} (z : zWr W F h h') (c : ([112, 113, 114].all (fun i => !(W.contains i) && F.all (fun p => p.1 != i))) = true) (hE : ∀ t, t < G → ∀ c nm, c < 4 → Ev nf' h' c (nI t) nm = Ev nf h c (nI t) nm) (hS : ∀ t, t < G → seaP h' q d t = seaP h q d t) (hT : ∀ i k, k < nt → tB h' i k = tB h i k) (hn : nt ≤ nt') (hl : ∀ t, t < G → ∀ k, nt ≤ k → k < nt' → ¬ (tB h' 0 k ≤ nI t)) : sLt nf nr nt q d nf' nt' G h h' := by
  have e := z.eq (S := [112, 113, 114]) (G := []) c rfl
  exact ⟨hE, hS, fun r _ => ⟨by rw [e.a 112 (by simp)], by rw [e.a 113 (by simp)], by rw [e.a 114 (by simp)]⟩, hT, hn, hl⟩
/-- what is told of a SPELL that comes later changes none that is over -/
theorem Ev_more {ns nf w : Nat} {h : zm_H} (H : I_fc ns nf h) {p1 p2 : Int32} (c2 : (w : Int) ≤ p2.toInt) {h' : zm_H} (e103 : h'.2.1 103 = upd (h.2.1 103) nf p1) (e104 : h'.2.1 104 = upd (h.2.1 104) nf p2) (er : ∀ i, i ∈ [99, 100, 101, 102] → h'.2.1 i = h.2.1 i) {t : Nat} (ht : t < w) (hw : w ≤ 480) (c : Nat) (nm : Nat → Int32) : Ev (nf + 1) h' c (nI t) nm = Ev nf h c (nI t) nm := by
  have hi : inf (h'.2.1 103) (h'.2.1 104) (h'.2.1 101) c (nI t) (nf + 1) = inf (h.2.1 103) (h.2.1 104) (h.2.1 101) c (nI t) nf := by
    rw [inf, if_pos (by rw [e104, pk_us, i_lt, i_nI (by omega)]; omega)]
    refine inf_x nf (fun i hi => ⟨by rw [e103]; exact pk_un (by omega), by rw [e104]; exact pk_un (by omega), by rw [er 101 (by simp)]⟩)
  unfold Ev
  rw [hi]
  unfold evC
  rw [er 99 (by simp), er 100 (by simp), er 101 (by simp), er 102 (by simp)]
theorem rl_more {ns nf : Nat} {h : zm_H} (H : I_rl ns nf h) {p1 p2 : Int32} (c1 : 0 ≤ p1.toInt) (c2 : p1.toInt < ns) (c3 : 0 ≤ p2.toInt) (c4 : p2.toInt < 480) (hn : nf < 15) : I_rl ns (nf + 1) (zm_si (zm_si (zm_si (zm_si (zm_si (zm_si h 19 nf p1) 20 nf p2) 15 4 (nI (nf + 1))) 103 nf p1) 104 nf p2) 92 20 (nI (nf + 1))) := by
  obtain ⟨⟨⟨s1, s2, s3⟩, ⟨n1, n2, n3⟩, ⟨a1, a2, a3⟩, b⟩, L⟩ := H
  obtain ⟨X, eX⟩ : ∃ X, X = zm_si (zm_si (zm_si (zm_si (zm_si (zm_si h 19 nf p1) 20 nf p2) 15 4 (nI (nf + 1))) 103 nf p1) 104 nf p2) 92 20 (nI (nf + 1)) := ⟨_, rfl⟩
  rw [← eX]
  have x19 : X.2.1 19 = upd (h.2.1 19) nf p1 := by rw [eX]; simp [za_si]
  have x20 : X.2.1 20 = upd (h.2.1 20) nf p2 := by rw [eX]; simp [za_si]
  have x103 : X.2.1 103 = upd (h.2.1 103) nf p1 := by rw [eX]; simp [za_si]
  have x104 : X.2.1 104 = upd (h.2.1 104) nf p2 := by rw [eX]; simp [za_si]
  have xr : ∀ i, ¬ i ∈ [15, 19, 20, 92, 103, 104] → X.2.1 i = h.2.1 i := by
    intro i hi
    simp only [List.mem_cons, List.not_mem_nil, or_false, not_or] at hi
    rw [eX, za_si, za_si, za_si, za_si, za_si, za_si, if_neg (by omega), if_neg (by omega), if_neg (by omega), if_neg (by omega), if_neg (by omega), if_neg (by omega)]
  have y1 : X.2.1 15 4 = nI (nf + 1) := by rw [eX]; simp [zf_si]
  have y2 : X.2.1 92 20 = nI (nf + 1) := by rw [eX]; simp [zf_si]
  have y3 : X.2.1 15 0 = h.2.1 15 0 := by rw [eX]; simp [zf_si]
  have y4 : X.2.1 92 15 = h.2.1 92 15 := by rw [eX]; simp [zf_si]
  have k1 : X.1 = h.1 := by rw [eX]; rfl
  have k2 : X.2.2.2 = h.2.2.2 := by rw [eX]; rfl
  clear eX
  refine ⟨⟨⟨s1, y3.trans s2, y4.trans s3⟩, ⟨by omega, y1, y2⟩, ⟨by rw [x19, x103, a1], by rw [x20, x104, a2], by rw [xr 17 (by decide), xr 101 (by decide)]; exact a3⟩, fun k hk => ?_⟩, fun s c hs hc => ?_⟩
  · rw [x103, x104]
    by_cases e : k = nf
    · subst e
      rw [pk_us, pk_us]
      obtain ⟨s, hs, es⟩ := i_ex (a := p1) (N := ns) c1 c2
      obtain ⟨t, ht, et⟩ := i_ex (a := p2) (N := 480) c3 c4
      exact ⟨⟨s, hs, es⟩, t, ht, et⟩
    · rw [pk_un e, pk_un e]; exact b k (by omega)
  · have := L s c hs hc
    unfold I_cl at this ⊢
    rw [xr 101 (by decide), xr 102 (by decide), xr 18 (by decide), xr 99 (by decide), xr 100 (by decide), k1, k2]
    intro z
    obtain ⟨b, e, z1, z2, z3, z4, z5, r, L', z6, z7, z8, z9, z10, z11⟩ := this z
    have hr15 : ¬ r ∈ [15, 19, 20, 92, 103, 104] := fun y => by simp at y; omega
    exact ⟨b, e, z1, z2, z3, z4, z5, r, L', z6, z7, z8, z9, z10, by rw [xr r hr15]; exact z11⟩
theorem vOK_n {nr g : Nat} {S : Nat → Nat → Int32} (V : vOK nr g S) : vOK (nr + 1) g S := ⟨V.1, V.2.1, V.2.2.1, fun r h1 h2 => V.2.2.2.1 r (by omega) h2, V.2.2.2.2⟩
theorem hbOK_n {nr w : Nat} {U : Nat → Nat → Int32} (H : hbOK nr w U) : hbOK (nr + 1) w U := by
  refine ⟨H.1, H.2.1, fun b hb => ?_⟩
  rcases H.2.2 b hb with y | ⟨t, r, j, y1, y2, y3, y4, y5⟩
  · exact Or.inl y
  · exact Or.inr ⟨t, r, j, y1, ⟨y2.1, by have := y2.2; omega⟩, y3, y4, y5⟩
theorem I_bk_n {nr w : Nat} {g : GS} {h : zm_H} (B : I_bk nr w g h) : I_bk (nr + 1) w g h := by
  obtain ⟨⟨b1, b2, b3⟩, ⟨n1, n2, n3, n4, J⟩, m, r⟩ := B
  refine ⟨⟨vOK_n b1, hbOK_n b2, b3⟩, ⟨n1, n2, n3, n4, J.1, J.2.1, fun k hk => ?_⟩, m, r⟩
  obtain ⟨r, e, t1, t2⟩ := J.2.2 k hk
  exact ⟨r, e, by omega, t2⟩
/-- what stays booked where a trial of the model writes over it -/
theorem I_bk_v {nr w : Nat} {g : GS} {W : List Nat} {F : List (Nat × Nat)} {h h' : zm_H} (z : zWr W F h h') (c1 : bkN W F = true) (c2 : ([118, 119, 120, 121, 122, 137, 138, 139, 140, 141, 142, 143, 144, 145, 47, 48, 49, 131, 132, 133].all (fun i => !(W.contains i) && F.all (fun p => p.1 != i))) = true) (c3 : ([(37, 3), (92, 41)].all (fun p => !(W.contains p.1) && !(F.contains p))) = true) (v : vM 0 h' = vM 0 h) (B : I_bk nr w g h) : I_bk nr w g h' := by
  obtain ⟨b1, b2, ⟨m1, m2, m3, m4, ⟨m5, m6, m7⟩, m8⟩, b4, b5, b6, b7⟩ := B
  have e := z.eq c2 c3
  refine ⟨b1, rlN_w z c1 b2, ⟨v.trans m1, ?_, ?_, (e.f 92 41 (by simp)).trans m4, ⟨(e.a 118 (by simp)).trans m5, (e.a 120 (by simp)).trans m6, (e.a 122 (by simp)).trans m7⟩, ?_⟩, (e.f 37 3 (by simp)).trans b4, ?_, ?_, ?_⟩
  · exact (uM_eq (fun i hi => e.a i (by simp at hi ⊢; omega))).trans m2
  · exact mB_eq (fun i hi => e.a i (by simp at hi ⊢; omega)) m3
  · rw [e.a 119 (by simp), e.a 121 (by simp)]; exact m8
  · rw [e.a 47 (by simp), e.a 131 (by simp)]; exact b5
  · rw [e.a 48 (by simp), e.a 132 (by simp)]; exact b6
  · rw [e.a 49 (by simp), e.a 133 (by simp)]; exact b7
theorem i8_rng (x : Int32) : -128 ≤ (x.toInt8.toInt32).toInt ∧ (x.toInt8.toInt32).toInt ≤ 127 := by
  rw [Int8.toInt_toInt32]
  have h1 := Int8.le_toInt x.toInt8
  have h2 := Int8.toInt_lt x.toInt8
  omega
theorem byt_rng (v : Int32) (k : Nat) : -128 ≤ (byt v k).toInt ∧ (byt v k).toInt ≤ 127 := by
  have e : byt v k = (v >>> ((24 - 8 * nI k) &&& 31)).toInt8.toInt32.toInt8.toInt32 := rfl
  rw [e]
  exact i8_rng _
theorem byR_apb (v : Int32) {f : Nat → Int32} {N : Nat} (H : byR f N) (n : Nat) : ∀ k, byR (apb v f n k) N := by
  intro k
  induction k with
  | zero => exact H
  | succ k ih =>
    intro i hi
    rw [apb]
    by_cases c : i = n + k
    · subst c; rw [pk_us]; exact byt_rng v k
    · rw [pk_un c]; exact ih i hi
theorem feed_by {n : Nat} (hn : n ≤ 400) {h : zm_H} (e1 : zf h 10 1 = nI n) (b : byR (h.2.1 11) 400) (v1 v2 v3 v4 v5 : Int32) : byR ((f_N_feed v1 v2 v3 v4 v5 h).2.2.1 11) 400 := by
  have s : (nI n + 20) = nI (n + 20) := by rw [show (20 : Int32) = nI 20 from rfl, nI_add]
  have i400 : (400 : Int32).toInt = 400 := rfl
  by_cases c : n + 20 ≤ 400
  · have g1 : ¬ ((400 : Int32) < nI (n + 20)) := by rw [i_lt, i_nI (by omega), i400]; omega
    unfold f_N_feed f_N_feed_k22 f_N_feed_k30 f_N_feed_k38 f_N_feed_k47
    rw [e1, s, if_pos g1]
    obtain ⟨a1, a2, a3, a4⟩ := adn_N (h := h) (by omega) e1 v1
    generalize f_Text_addNumber v1 h = h1 at a2 a3 a4
    obtain ⟨b1, b2, b3, b4⟩ := adn_N (h := h1) (by omega) a3 v2
    generalize f_Text_addNumber v2 h1 = h2 at b2 b3 b4
    obtain ⟨c1, c2, c3, c4⟩ := adn_N (h := h2) (by omega) b3 v3
    generalize f_Text_addNumber v3 h2 = h3 at c2 c3 c4
    obtain ⟨d1, d2, d3, d4⟩ := adn_N (h := h3) (by omega) c3 v4
    generalize f_Text_addNumber v4 h3 = h4 at d2 d3 d4
    obtain ⟨f1, f2, f3, f4⟩ := adn_N (h := h4) (by omega) d3 v5
    generalize f_Text_addNumber v5 h4 = h5 at f2 f3 f4
    dsimp only
    rw [f4, d4, c4, b4, a4]
    exact byR_apb _ (byR_apb _ (byR_apb _ (byR_apb _ (byR_apb _ b _ 4) _ 4) _ 4) _ 4) _ 4
  · have g1 : (400 : Int32) < nI (n + 20) := by rw [i_lt, i_nI (by omega), i400]; omega
    have eN : f_N_feed v1 v2 v3 v4 v5 h = (-1, h) := by unfold f_N_feed; rw [e1, s, if_neg (show ¬ ¬ (400 : Int32) < nI (n + 20) from fun z => z g1)]
    rw [eN]
    exact b
