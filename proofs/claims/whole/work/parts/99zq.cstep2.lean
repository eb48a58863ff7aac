/-! ===== TOKENS: the class's step ===== -/
theorem sn_N {n s : Nat} {h : zm_H} (hn : n ≤ 400) (hs : s ≤ n) (e1 : zf h 10 1 = nI n) (e3 : zf h 10 3 = nI s) : f_Text_stepNumber_ok h ∧ zf (f_Text_stepNumber h) 10 3 = nI (scn isD (h.2.1 11) n 400 s) ∧ zf (f_Text_stepNumber h) 10 4 = 256 ∧ zf (f_Text_stepNumber h) 10 6 = nI (nvC (h.2.1 11) s (scn isD (h.2.1 11) n 400 s - s)) ∧ zWr [] [(10, 3), (10, 4), (10, 6)] h (f_Text_stepNumber h) := by
  obtain ⟨B, eB⟩ : ∃ B, B = h.2.1 11 := ⟨_, rfl⟩
  rw [← eB]
  unfold f_Text_stepNumber_ok f_Text_stepNumber
  obtain ⟨F, eF, -⟩ := zF_ex
  rw [← eF]
  obtain ⟨h0, eh0⟩ : ∃ h0, h0 = zp h 10 6 0 := ⟨_, rfl⟩
  rw [← eh0]
  have w0 : zWr [] [(10, 3), (10, 6)] h h0 := by rw [eh0]; exact zWr_p (by decide) (zWr.refl _ _)
  have z3 : zf h0 10 3 = nI s := by
    rw [eh0]; show (zm_si h 10 6 0).2.1 10 3 = _
    rw [zf_si, if_pos rfl, if_neg (by decide)]; exact e3
  have z6 : zf h0 10 6 = 0 := by rw [eh0]; exact zm_in _ _ _ _
  have le : ∀ k, nvC B s k ≤ 100000 := by
    intro k
    induction k with
    | zero => show (0 : Nat) ≤ 100000; omega
    | succ k ih => rw [nvC]; split <;> omega
  obtain ⟨k1, k2⟩ := scn_loop eF (b := fun t => f_Text_stepNumber_l5_b t) (o := fun t => f_Text_stepNumber_l5_b_ok t) (q := isD) (B := B) hs hn (fun e x => zWr [] [(10, 3), (10, 6)] h x ∧ zf x 10 3 = nI e ∧ zf x 10 6 = nI (nvC B s (e - s))) h0 ⟨w0, z3, by rw [Nat.sub_self]; exact z6⟩
    (by
      rintro e x he1 he2 ⟨r1, r2, r3⟩ hq
      have x1 : zf x 10 1 = nI n := (r1.fld 10 1 (by decide) (by decide)).trans e1
      have g0 : ¬ (nI n ≤ nI e) := by rw [nx_le (by omega) (by omega)]; omega
      have xB : zr x 11 (nI e) = B e := by rw [zr_n x 11 (by omega), zf, r1.arr 11 (by decide) (by decide), eB]
      obtain ⟨d1, d2⟩ := dg_n hq
      have hq' := hq
      unfold isD at hq'
      rw [decide_eq_true_eq] at hq'
      have l1 := le (e - s)
      obtain ⟨v, ev⟩ : ∃ v, v = nvC B s (e - s) := ⟨_, rfl⟩
      rw [← ev] at r3 l1
      have nx : nI v * 10 + B e - 48 = nI (v * 10 + dgN (B e)) := by
        rw [d2, show (10 : Int32) = nI 10 from rfl, show (48 : Int32) = nI 48 from rfl, pk_mul, nI_add, pk_sub (by omega)]
        rw [← d2]
        congr 1
      have sv : nvC B s (e + 1 - s) = if 100000 < v * 10 + dgN (B e) then 100000 else v * 10 + dgN (B e) := by
        rw [show e + 1 - s = (e - s) + 1 by omega, nvC, ← ev, show s + (e - s) = e by omega]
      have mn : (if (100000 : Int32) < nI (v * 10 + dgN (B e)) then (100000 : Int32) else nI (v * 10 + dgN (B e))) = nI (nvC B s (e + 1 - s)) := by
        rw [sv]
        have : (100000 : Int32) < nI (v * 10 + dgN (B e)) ↔ 100000 < v * 10 + dgN (B e) := by
          rw [show (100000 : Int32) = nI 100000 from rfl, i_lt, i_nI (by omega), i_nI (by omega)]; omega
        by_cases c : 100000 < v * 10 + dgN (B e)
        · rw [if_pos c, if_pos (this.mpr c)]; rfl
        · rw [if_neg c, if_neg (fun z => c (this.mp z))]
      show f_Text_stepNumber_l5_b_ok x ∧ _
      unfold f_Text_stepNumber_l5_b f_Text_stepNumber_l5_b_ok
      rw [x1, r2, if_neg g0, xB, if_pos hq', r3, nx, mn, ← nI_succ]
      refine ⟨⟨fun z => absurd z g0, fun _ => ⟨vp_in_nI (by omega) (by omega), fun _ => vp_in_nI (by omega) (by omega), fun _ => trivial⟩⟩, rfl, zWr_p (by decide) (zWr_p (by decide) r1), zm_in _ _ _ _, ?_⟩
      show (zm_si (zm_si x 10 6 _) 10 3 _).2.1 10 6 = _
      rw [zf_si, if_pos rfl, if_neg (by decide)]; exact zm_in _ _ _ _)
    (by
      rintro e x he1 he2 ⟨r1, r2, r3⟩ hq
      have x1 : zf x 10 1 = nI n := (r1.fld 10 1 (by decide) (by decide)).trans e1
      show f_Text_stepNumber_l5_b_ok x ∧ _
      unfold f_Text_stepNumber_l5_b f_Text_stepNumber_l5_b_ok
      rw [x1, r2]
      by_cases c : nI n ≤ nI e
      · rw [if_pos c]; exact ⟨⟨fun _ => trivial, fun z => absurd c z⟩, by simp, rfl⟩
      · have c' : e < n := by rw [nx_le (by omega) (by omega)] at c; omega
        have xB : zr x 11 (nI e) = B e := by rw [zr_n x 11 (by omega), zf, r1.arr 11 (by decide) (by decide), eB]
        have hq' : isD (B e) = false := by rcases hq with z | z; omega; exact z
        unfold isD at hq'
        rw [decide_eq_false_iff_not] at hq'
        rw [if_neg c, xB, if_neg hq']
        exact ⟨⟨fun _ => trivial, fun _ => ⟨vp_in_nI (by omega) (by omega), fun z => absurd z hq', fun _ => trivial⟩⟩, by simp, rfl⟩)
  obtain ⟨r, er⟩ : ∃ r, r = f_Text_stepNumber_l5 F h0 := ⟨_, rfl⟩
  have k2 : zWr [] [(10, 3), (10, 6)] h r.2 ∧ zf r.2 10 3 = nI (scn isD B n 400 s) ∧ zf r.2 10 6 = nI (nvC B s (scn isD B n 400 s - s)) := by rw [er]; exact k2
  rw [← er]
  obtain ⟨a1, a2, a3⟩ := k2
  unfold f_Text_stepNumber_a5 f_Text_stepNumber_k73
  refine ⟨⟨k1, trivial⟩, ?_, zm_in _ _ _ _, ?_, zWr_p (by decide) (zWr_tr a1 (by decide) (by decide) (zWr.refl _ _))⟩
  · show (zm_si r.2 10 4 256).2.1 10 3 = _
    rw [zf_si, if_pos rfl, if_neg (by decide)]; exact a2
  · show (zm_si r.2 10 4 256).2.1 10 6 = _
    rw [zf_si, if_pos rfl, if_neg (by decide)]; exact a3
theorem st_T {n p : Nat} {h : zm_H} (hn : n ≤ 400) (hp : p ≤ n) (by0 : byR (h.2.1 11) n) (e1 : zf h 10 1 = nI n) (e2 : zf h 10 2 = -1) (e3 : zf h 10 3 = nI p) : f_Text_step_ok h ∧ zf (f_Text_step h) 10 3 = nI (lxE (h.2.1 11) n p) ∧ zf (f_Text_step h) 10 4 = nI (tq (h.2.1 11) n p) ∧ zf (f_Text_step h) 10 5 = nI (lxS (h.2.1 11) n p) ∧ (tq (h.2.1 11) n p = 256 → zf (f_Text_step h) 10 6 = nI (tv (h.2.1 11) n p)) := by
  obtain ⟨B, eB⟩ : ∃ B, B = h.2.1 11 := ⟨_, rfl⟩
  rw [← eB] at by0 ⊢
  unfold f_Text_step_ok f_Text_step
  obtain ⟨F, eF, -⟩ := zF_ex
  rw [if_pos e2, ← eF]
  obtain ⟨k1, k2⟩ := scn_loop eF (b := fun t => f_Text_step_l9_b t) (o := fun t => f_Text_step_l9_b_ok t) (q := isB) (B := B) hp hn (fun e x => zWr [] [(10, 3)] h x ∧ zf x 10 3 = nI e) h ⟨zWr.refl _ _, e3⟩
    (by
      rintro e x he1 he2 ⟨r1, r2⟩ hq
      have x1 : zf x 10 1 = nI n := (r1.fld 10 1 (by decide) (by decide)).trans e1
      have g0 : ¬ (nI n ≤ nI e) := by rw [nx_le (by omega) (by omega)]; omega
      have xB : zr x 11 (nI e) = B e := by rw [zr_n x 11 (by omega), zf, r1.arr 11 (by decide) (by decide), eB]
      have hq' := hq
      unfold isB at hq'
      rw [decide_eq_true_eq] at hq'
      show f_Text_step_l9_b_ok x ∧ _
      unfold f_Text_step_l9_b f_Text_step_l9_b_ok
      rw [x1, r2, if_neg g0, xB, if_pos hq', ← nI_succ]
      exact ⟨⟨fun z => absurd z g0, fun _ => vp_in_nI (by omega) (by omega)⟩, rfl, zWr_p (by decide) r1, zm_in _ _ _ _⟩)
    (by
      rintro e x he1 he2 ⟨r1, r2⟩ hq
      have x1 : zf x 10 1 = nI n := (r1.fld 10 1 (by decide) (by decide)).trans e1
      show f_Text_step_l9_b_ok x ∧ _
      unfold f_Text_step_l9_b f_Text_step_l9_b_ok
      rw [x1, r2]
      by_cases c : nI n ≤ nI e
      · rw [if_pos c]; exact ⟨⟨fun _ => trivial, fun z => absurd c z⟩, by simp, rfl⟩
      · have c' : e < n := by rw [nx_le (by omega) (by omega)] at c; omega
        have xB : zr x 11 (nI e) = B e := by rw [zr_n x 11 (by omega), zf, r1.arr 11 (by decide) (by decide), eB]
        have hq' : isB (B e) = false := by rcases hq with z | z; omega; exact z
        unfold isB at hq'
        rw [decide_eq_false_iff_not] at hq'
        rw [if_neg c, xB, if_neg hq']
        exact ⟨⟨fun _ => trivial, fun _ => vp_in_nI (by omega) (by omega)⟩, by simp, rfl⟩)
  obtain ⟨r, er⟩ : ∃ r, r = f_Text_step_l9 F h := ⟨_, rfl⟩
  have k2 : zWr [] [(10, 3)] h r.2 ∧ zf r.2 10 3 = nI (lxS B n p) := by rw [er]; exact k2
  rw [← er]
  obtain ⟨s1, s2, -, -⟩ := scn_p (q := isB) (B := B) 400 p hp (by omega)
  have s1 : p ≤ lxS B n p := s1
  have s2 : lxS B n p ≤ n := s2
  obtain ⟨s, es⟩ : ∃ s, s = lxS B n p := ⟨_, rfl⟩
  obtain ⟨x, ex⟩ : ∃ x, x = r.2 := ⟨_, rfl⟩
  unfold f_Text_step_a9_ok f_Text_step_a9
  rw [← ex] at k2 ⊢
  rw [← es] at k2 s1 s2
  obtain ⟨w1, x3⟩ := k2
  have x1 : zf x 10 1 = nI n := (w1.fld 10 1 (by decide) (by decide)).trans e1
  have g0 : nI s < nI n ↔ s < n := by rw [i_lt, i_nI (by omega), i_nI (by omega)]; omega
  -- the word, number or sign begins at s
  obtain ⟨y, ey⟩ : ∃ y, y = zp x 10 5 (nI s) := ⟨_, rfl⟩
  have wy : zWr [] [(10, 3), (10, 5)] h y := by rw [ey]; exact zWr_p (by decide) (zWr_tr w1 (by decide) (by decide) (zWr.refl _ _))
  have y5 : zf y 10 5 = nI s := by rw [ey]; exact zm_in _ _ _ _
  have y3 : zf y 10 3 = nI s := by
    rw [ey]; show (zm_si x 10 5 _).2.1 10 3 = _
    rw [zf_si, if_pos rfl, if_neg (by decide)]; exact x3
  have y1 : zf y 10 1 = nI n := (wy.fld 10 1 (by decide) (by decide)).trans e1
  have yB : y.2.1 11 = B := by rw [wy.arr 11 (by decide) (by decide), eB]
  unfold f_Text_step_k47_ok f_Text_step_k47
  rw [x3, x1, ← ey]
  by_cases c1 : nI s < nI n
  · have c1' := g0.mp c1
    have n1 : ¬ n ≤ s := by omega
    rw [if_pos c1]
    have xB : zr x 11 (nI s) = B s := by rw [zr_n x 11 (by omega), zf, w1.arr 11 (by decide) (by decide), eB]
    rw [xB]
    have is : vp_in (nI s) 400 := vp_in_nI (by omega) (by omega)
    by_cases c2 : ¬ (B s < 97) ∧ (¬ (122 < B s))
    · rw [if_pos c2]
      have l2 : isL (B s) = true := by unfold isL; rw [decide_eq_true_eq]; exact c2
      obtain ⟨a1, a2, a3⟩ := sw_N hn s2 y1 y3 y5
      rw [yB] at a2 a3
      have eE : lxE B n p = scn isL B n 400 s := by unfold lxE; rw [← es, if_neg n1, if_pos l2]
      have eQ : tq B n p = 300 + wI B s (scn isL B n 400 s) := by
        unfold tq; rw [← es, if_neg n1, if_pos l2, eE]
      have a5 := f_Text_stepWord_w y
      rw [eE, eQ, ← es]
      have w16 := wI_le B s (scn isL B n 400 s)
      refine ⟨⟨fun _ => ⟨k1, fun _ => ⟨is, fun _ => a1, fun z => absurd c2 z⟩, fun z => absurd c1 z⟩, fun z => absurd e2 z⟩, a2, a3, (a5.fld 10 5 (by decide) (by decide)).trans y5, fun z => by omega⟩
    · rw [if_neg c2]
      have l2 : ¬ isL (B s) = true := by unfold isL; rw [decide_eq_true_eq]; exact c2
      by_cases c3 : ¬ (B s < 48) ∧ (¬ (57 < B s))
      · rw [if_pos c3]
        have l3 : isD (B s) = true := by unfold isD; rw [decide_eq_true_eq]; exact c3
        obtain ⟨a1, a2, a3, a4, a5⟩ := sn_N hn s2 y1 y3
        rw [yB] at a2 a4
        have eE : lxE B n p = scn isD B n 400 s := by unfold lxE; rw [← es, if_neg n1, if_neg l2, if_pos l3]
        have eQ : tq B n p = 256 := by unfold tq; rw [← es, if_neg n1, if_neg l2, if_pos l3]
        unfold tv
        rw [eE, eQ, ← es]
        exact ⟨⟨fun _ => ⟨k1, fun _ => ⟨is, fun z => absurd z c2, fun _ => ⟨is, fun _ => a1, fun z => absurd c3 z⟩⟩, fun z => absurd c1 z⟩, fun z => absurd e2 z⟩, a2, a3, (a5.fld 10 5 (by decide) (by decide)).trans y5, fun _ => a4⟩
      · rw [if_neg c3]
        have l3 : ¬ isD (B s) = true := by unfold isD; rw [decide_eq_true_eq]; exact c3
        obtain ⟨b1, b2⟩ := by0 s c1'
        rw [sg_b b1 b2, ← nI_succ]
        have eE : lxE B n p = s + 1 := by unfold lxE; rw [← es, if_neg n1, if_neg l2, if_neg l3]
        have eQ : tq B n p = if isS (B s) = true then (B s).toNatClampNeg else 258 := by unfold tq; rw [← es, if_neg n1, if_neg l2, if_neg l3]
        rw [eE, ← eQ, ← es]
        refine ⟨⟨fun _ => ⟨k1, fun _ => ⟨is, fun z => absurd z c2, fun _ => ⟨is, fun z => absurd z c3, fun _ => is⟩⟩, fun z => absurd c1 z⟩, fun z => absurd e2 z⟩, zm_in _ _ _ _, ?_, ?_, fun z => ?_⟩
        · show (zm_si (zm_si y 10 4 _) 10 3 _).2.1 10 4 = _
          rw [zf_si, if_pos rfl, if_neg (by decide)]; exact zm_in _ _ _ _
        · show (zm_si (zm_si y 10 4 _) 10 3 _).2.1 10 5 = _
          rw [zf_si, if_pos rfl, if_neg (by decide), zf_si, if_pos rfl, if_neg (by decide)]; exact y5
        · exfalso
          rw [eQ] at z
          by_cases c4 : isS (B s) = true
          · rw [if_pos c4] at z
            have := i_cl (a := B s)
            rcases (show 0 ≤ (B s).toInt ∨ (B s).toInt < 0 by omega) with q | q
            · have := i_cl q; omega
            · have e0 : (B s).toNatClampNeg = 0 := by
                show (B s).toInt.toNat = 0
                omega
              omega
          · rw [if_neg c4] at z; omega
  · have c1' : n ≤ s := by
      have : ¬ s < n := fun z => c1 (g0.mpr z)
      omega
    rw [if_neg c1]
    have eE : lxE B n p = s := by unfold lxE; rw [← es, if_pos c1']
    have eQ : tq B n p = 257 := by unfold tq; rw [← es, if_pos c1']
    rw [eE, eQ, ← es]
    refine ⟨⟨fun _ => ⟨k1, fun z => absurd z c1, fun _ => trivial⟩, fun z => absurd e2 z⟩, ?_, zm_in _ _ _ _, ?_, fun z => by omega⟩
    · show (zm_si y 10 4 _).2.1 10 3 = _
      rw [zf_si, if_pos rfl, if_neg (by decide)]; exact y3
    · show (zm_si y 10 4 _).2.1 10 5 = _
      rw [zf_si, if_pos rfl, if_neg (by decide)]; exact y5
