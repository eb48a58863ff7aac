/-! ===== TOKENS: the model's step ===== -/
theorem sg_m (b : Int32) : (if b = 43 then (3 : Int32) else (if b = 45 then (3 : Int32) else (if b = 42 then (3 : Int32) else (if b = 47 then (3 : Int32) else (if b = 40 then (3 : Int32) else (if b = 41 then (3 : Int32) else (if b = 91 then (3 : Int32) else (if b = 93 then (3 : Int32) else (if b = 60 then (3 : Int32) else (if b = 62 then (3 : Int32) else (if b = 61 then (3 : Int32) else (if b = 59 then (3 : Int32) else 4)))))))))))) = if isS b = true then 3 else 4 := by
  by_cases c : isS b = true
  · rw [if_pos c]
    unfold isS at c
    simp only [Bool.or_eq_true, beq_iff_eq] at c
    rcases c with (((((((((((c | c) | c) | c) | c) | c) | c) | c) | c) | c) | c) | c) <;> rw [c] <;> rfl
  · rw [if_neg c]
    unfold isS at c
    simp only [Bool.or_eq_true, beq_iff_eq, not_or] at c
    obtain ⟨⟨⟨⟨⟨⟨⟨⟨⟨⟨⟨a1, a2⟩, a3⟩, a4⟩, a5⟩, a6⟩, a7⟩, a8⟩, a9⟩, a10⟩, a11⟩, a12⟩ := c
    rw [if_neg a1, if_neg a2, if_neg a3, if_neg a4, if_neg a5, if_neg a6, if_neg a7, if_neg a8, if_neg a9, if_neg a10, if_neg a11, if_neg a12]
theorem isS_n {b : Int32} (c : isS b = true) : b = nI b.toNatClampNeg ∧ b.toNatClampNeg < 256 := by
  unfold isS at c
  simp only [Bool.or_eq_true, beq_iff_eq] at c
  rcases c with (((((((((((c | c) | c) | c) | c) | c) | c) | c) | c) | c) | c) | c) <;> rw [c] <;> decide
theorem fo_M {n p : Nat} {h : zm_H} (hn : n ≤ 400) (hp : p ≤ n) (e1 : zf h 92 1 = nI n) (e2 : zf h 92 2 = nI p) : f_M_follows_ok h ∧ zf (f_M_follows h) 92 2 = nI (lxE (h.2.1 93) n p) ∧ zf (f_M_follows h) 92 4 = nI (lxS (h.2.1 93) n p) ∧ mTV (tq (h.2.1 93) n p) (tv (h.2.1 93) n p) (zf (f_M_follows h) 92 3) (zf (f_M_follows h) 92 5) := by
  obtain ⟨B, eB⟩ : ∃ B, B = h.2.1 93 := ⟨_, rfl⟩
  rw [← eB]
  unfold f_M_follows_ok f_M_follows
  obtain ⟨F, eF, -⟩ := zF_ex
  rw [← eF]
  obtain ⟨k1, k2⟩ := scn_loop eF (b := fun t => f_M_follows_l0_b t) (o := fun t => f_M_follows_l0_b_ok t) (q := isB) (B := B) hp hn (fun e x => zWr [] [(92, 2)] h x ∧ zf x 92 2 = nI e) h ⟨zWr.refl _ _, e2⟩
    (by
      rintro e x he1 he2 ⟨r1, r2⟩ hq
      have x1 : zf x 92 1 = nI n := (r1.fld 92 1 (by decide) (by decide)).trans e1
      have g0 : ¬ (nI n ≤ nI e) := by rw [nx_le (by omega) (by omega)]; omega
      have xB : zr x 93 (nI e) = B e := by rw [zr_n x 93 (by omega), zf, r1.arr 93 (by decide) (by decide), eB]
      have hq' := hq
      unfold isB at hq'
      rw [decide_eq_true_eq] at hq'
      show f_M_follows_l0_b_ok x ∧ _
      unfold f_M_follows_l0_b f_M_follows_l0_b_ok
      rw [x1, r2, if_neg g0, xB, if_pos hq', ← nI_succ]
      exact ⟨⟨fun z => absurd z g0, fun _ => vp_in_nI (by omega) (by omega)⟩, rfl, zWr_p (by decide) r1, zm_in _ _ _ _⟩)
    (by
      rintro e x he1 he2 ⟨r1, r2⟩ hq
      have x1 : zf x 92 1 = nI n := (r1.fld 92 1 (by decide) (by decide)).trans e1
      show f_M_follows_l0_b_ok x ∧ _
      unfold f_M_follows_l0_b f_M_follows_l0_b_ok
      rw [x1, r2]
      by_cases c : nI n ≤ nI e
      · rw [if_pos c]; exact ⟨⟨fun _ => trivial, fun z => absurd c z⟩, by simp, rfl⟩
      · have c' : e < n := by rw [nx_le (by omega) (by omega)] at c; omega
        have xB : zr x 93 (nI e) = B e := by rw [zr_n x 93 (by omega), zf, r1.arr 93 (by decide) (by decide), eB]
        have hq' : isB (B e) = false := by rcases hq with z | z; omega; exact z
        unfold isB at hq'
        rw [decide_eq_false_iff_not] at hq'
        rw [if_neg c, xB, if_neg hq']
        exact ⟨⟨fun _ => trivial, fun _ => vp_in_nI (by omega) (by omega)⟩, by simp, rfl⟩)
  obtain ⟨r, er⟩ : ∃ r, r = f_M_follows_l0 F h := ⟨_, rfl⟩
  have k2 : zWr [] [(92, 2)] h r.2 ∧ zf r.2 92 2 = nI (lxS B n p) := by rw [er]; exact k2
  rw [← er]
  obtain ⟨s1, s2, -, -⟩ := scn_p (q := isB) (B := B) 400 p hp (by omega)
  have s1 : p ≤ lxS B n p := s1
  have s2 : lxS B n p ≤ n := s2
  obtain ⟨s, es⟩ : ∃ s, s = lxS B n p := ⟨_, rfl⟩
  obtain ⟨x, ex⟩ : ∃ x, x = r.2 := ⟨_, rfl⟩
  unfold f_M_follows_a0_ok f_M_follows_a0
  rw [← ex] at k2 ⊢
  rw [← es] at k2 s1 s2
  obtain ⟨w1, x2⟩ := k2
  have x1 : zf x 92 1 = nI n := (w1.fld 92 1 (by decide) (by decide)).trans e1
  have g0 : nI s = nI n ↔ s = n := ⟨fun z => nI_inj (by omega) (by omega) z, fun z => by rw [z]⟩
  obtain ⟨y, ey⟩ : ∃ y, y = zp (zp (zp x 92 4 (nI s)) 92 5 0) 92 3 0 := ⟨_, rfl⟩
  have wy : zWr [] [(92, 2), (92, 3), (92, 4), (92, 5)] h y := by rw [ey]; exact zWr_p (by decide) (zWr_p (by decide) (zWr_p (by decide) (zWr_tr w1 (by decide) (by decide) (zWr.refl _ _))))
  have y3 : zf y 92 3 = 0 := by rw [ey]; exact zm_in _ _ _ _
  have y4 : zf y 92 4 = nI s := by
    rw [ey]; show (zm_si (zm_si (zm_si x 92 4 _) 92 5 0) 92 3 0).2.1 92 4 = _
    rw [zf_si, if_pos rfl, if_neg (by decide), zf_si, if_pos rfl, if_neg (by decide)]; exact zm_in _ _ _ _
  have y5 : zf y 92 5 = 0 := by
    rw [ey]; show (zm_si (zm_si (zm_si x 92 4 _) 92 5 0) 92 3 0).2.1 92 5 = _
    rw [zf_si, if_pos rfl, if_neg (by decide)]; exact zm_in _ _ _ _
  have y2 : zf y 92 2 = nI s := by
    rw [ey]; show (zm_si (zm_si (zm_si x 92 4 _) 92 5 0) 92 3 0).2.1 92 2 = _
    rw [zf_si, if_pos rfl, if_neg (by decide), zf_si, if_pos rfl, if_neg (by decide), zf_si, if_pos rfl, if_neg (by decide)]; exact x2
  have y1 : zf y 92 1 = nI n := (wy.fld 92 1 (by decide) (by decide)).trans e1
  have yB : y.2.1 93 = B := by rw [wy.arr 93 (by decide) (by decide), eB]
  unfold f_M_follows_k38_ok f_M_follows_k38
  rw [x2, x1, ← ey, sg_m, ← eF]
  by_cases c1 : nI s = nI n
  · have c1' := g0.mp c1
    rw [if_pos c1]
    have eE : lxE B n p = s := by unfold lxE; rw [← es, if_pos (by omega)]
    have eQ : tq B n p = 257 := by unfold tq; rw [← es, if_pos (by omega)]
    rw [eE, eQ, ← es]
    exact ⟨⟨k1, fun _ => trivial, fun z => absurd c1 z⟩, y2, y4, fun _ => y3, fun z => by omega, fun z => by omega, fun z => by omega, fun z => by omega, fun z => by omega, by omega, by omega⟩
  · have c1' : s < n := by
      have : ¬ s = n := fun z => c1 (g0.mpr z)
      omega
    have n1 : ¬ n ≤ s := by omega
    rw [if_neg c1]
    have xB : zr x 93 (nI s) = B s := by rw [zr_n x 93 (by omega), zf, w1.arr 93 (by decide) (by decide), eB]
    rw [xB]
    have is : vp_in (nI s) 400 := vp_in_nI (by omega) (by omega)
    by_cases c2 : ¬ (B s < 97) ∧ (¬ (122 < B s))
    · rw [if_pos c2]
      have l2 : isL (B s) = true := by unfold isL; rw [decide_eq_true_eq]; exact c2
      obtain ⟨m1, m2⟩ := scn_loop eF (b := fun t => f_M_follows_l85_b t) (o := fun t => f_M_follows_l85_b_ok t) (q := isL) (B := B) s2 hn (fun e x => zWr [] [(92, 2)] y x ∧ zf x 92 2 = nI e) y ⟨zWr.refl _ _, y2⟩
        (by
          rintro e x he1 he2 ⟨r1, r2⟩ hq
          have x1 : zf x 92 1 = nI n := (r1.fld 92 1 (by decide) (by decide)).trans y1
          have g0 : ¬ (nI n ≤ nI e) := by rw [nx_le (by omega) (by omega)]; omega
          have xB : zr x 93 (nI e) = B e := by rw [zr_n x 93 (by omega), zf, r1.arr 93 (by decide) (by decide), yB]
          have hq' := hq
          unfold isL at hq'
          rw [decide_eq_true_eq] at hq'
          show f_M_follows_l85_b_ok x ∧ _
          unfold f_M_follows_l85_b f_M_follows_l85_b_ok
          rw [x1, r2, if_neg g0, xB, if_pos hq', ← nI_succ]
          exact ⟨⟨fun z => absurd z g0, fun _ => vp_in_nI (by omega) (by omega)⟩, rfl, zWr_p (by decide) r1, zm_in _ _ _ _⟩)
        (by
          rintro e x he1 he2 ⟨r1, r2⟩ hq
          have x1 : zf x 92 1 = nI n := (r1.fld 92 1 (by decide) (by decide)).trans y1
          show f_M_follows_l85_b_ok x ∧ _
          unfold f_M_follows_l85_b f_M_follows_l85_b_ok
          rw [x1, r2]
          by_cases c : nI n ≤ nI e
          · rw [if_pos c]; exact ⟨⟨fun _ => trivial, fun z => absurd c z⟩, by simp, rfl⟩
          · have c' : e < n := by rw [nx_le (by omega) (by omega)] at c; omega
            have xB : zr x 93 (nI e) = B e := by rw [zr_n x 93 (by omega), zf, r1.arr 93 (by decide) (by decide), yB]
            have hq' : isL (B e) = false := by rcases hq with z | z; omega; exact z
            unfold isL at hq'
            rw [decide_eq_false_iff_not] at hq'
            rw [if_neg c, xB, if_neg hq']
            exact ⟨⟨fun _ => trivial, fun _ => vp_in_nI (by omega) (by omega)⟩, by simp, rfl⟩)
      obtain ⟨q, eq⟩ : ∃ q, q = f_M_follows_l85 F y := ⟨_, rfl⟩
      have m2 : zWr [] [(92, 2)] y q.2 ∧ zf q.2 92 2 = nI (scn isL B n 400 s) := by rw [eq]; exact m2
      rw [← eq]
      obtain ⟨t1, t2, -, -⟩ := scn_p (q := isL) (B := B) 400 s s2 (by omega)
      have eE : lxE B n p = scn isL B n 400 s := by unfold lxE; rw [← es, if_neg n1, if_pos l2]
      obtain ⟨e, ee⟩ : ∃ e, e = scn isL B n 400 s := ⟨_, rfl⟩
      rw [← ee] at m2 eE t1 t2
      have eQ : tq B n p = 300 + wI B s e := by unfold tq; rw [← es, if_neg n1, if_pos l2, eE]
      obtain ⟨m2, m3⟩ := m2
      unfold f_M_follows_a85_ok f_M_follows_a85 f_M_follows_k124_ok f_M_follows_k124
      obtain ⟨z, ez⟩ : ∃ z, z = q.2 := ⟨_, rfl⟩
      rw [← ez] at m2 m3 ⊢
      have z4 : zf z 92 4 = nI s := (m2.fld 92 4 (by decide) (by decide)).trans y4
      rw [z4, m3]
      obtain ⟨z0, ez0⟩ : ∃ z0, z0 = zp z 92 3 2 := ⟨_, rfl⟩
      have z0B : z0.2.1 93 = B := by
        rw [ez0]; show (zm_si z 92 3 2).2.1 93 = _
        rw [za_si, if_neg (by decide), m2.arr 93 (by decide) (by decide), yB]
      obtain ⟨v1, v2⟩ := wa_M (x := z0) (s := s) (e := e) (by omega) t1
      rw [z0B] at v2
      rw [← ez0, eE, eQ, ← es]
      have w16 := wI_le B s e
      refine ⟨⟨k1, fun z => absurd z c1, fun _ => ⟨is, fun _ => ⟨m1, v1⟩, fun z => absurd c2 z⟩⟩, ?_, ?_, ?_⟩
      · show (zm_si z0 92 5 _).2.1 92 2 = _
        rw [zf_si, if_pos rfl, if_neg (by decide), ez0]
        show (zm_si z 92 3 2).2.1 92 2 = _
        rw [zf_si, if_pos rfl, if_neg (by decide)]; exact m3
      · show (zm_si z0 92 5 _).2.1 92 4 = _
        rw [zf_si, if_pos rfl, if_neg (by decide), ez0]
        show (zm_si z 92 3 2).2.1 92 4 = _
        rw [zf_si, if_pos rfl, if_neg (by decide)]; exact z4
      · have T2 : zf (zp z0 92 5 (f_M_wordAt (nI s) (nI e) z0)) 92 3 = 2 := by
          show (zm_si z0 92 5 _).2.1 92 3 = _
          rw [zf_si, if_pos rfl, if_neg (by decide), ez0]; exact zm_in _ _ _ _
        have T5 : zf (zp z0 92 5 (f_M_wordAt (nI s) (nI e) z0)) 92 5 = f_M_wordAt (nI s) (nI e) z0 := zm_in _ _ _ _
        rw [T2, T5]
        refine ⟨fun z => by omega, fun z => by omega, fun _ z => ⟨rfl, ?_⟩, fun z => ⟨rfl, ?_⟩, fun z => by omega, fun z => by omega, by omega, by omega⟩
        · rcases v2 with ⟨a, b⟩ | ⟨a, b⟩
          · rw [b, show 300 + wI B s e - 300 = wI B s e by omega]
          · omega
        · rcases v2 with ⟨a, b⟩ | ⟨a, b⟩
          · omega
          · exact b
    · rw [if_neg c2]
      have l2 : ¬ isL (B s) = true := by unfold isL; rw [decide_eq_true_eq]; exact c2
      by_cases c3 : ¬ (B s < 48) ∧ (¬ (57 < B s))
      · rw [if_pos c3]
        have l3 : isD (B s) = true := by unfold isD; rw [decide_eq_true_eq]; exact c3
        obtain ⟨m1, m2⟩ := scn_loop eF (b := fun t => f_M_follows_l155_b t) (o := fun t => f_M_follows_l155_b_ok t) (q := isD) (B := B) s2 hn (fun e x => (∀ i, i < e - s → isD (B (s + i)) = true) ∧ zWr [] [(92, 2), (92, 5)] y x ∧ zf x 92 2 = nI e ∧ zf x 92 5 = nI (nvM B s (e - s))) y ⟨fun i hi => by omega, zWr.refl _ _, y2, by rw [Nat.sub_self]; exact y5⟩
          (by
            rintro e x he1 he2 ⟨r0, r1, r2, r3⟩ hq
            have x1 : zf x 92 1 = nI n := (r1.fld 92 1 (by decide) (by decide)).trans y1
            have g0 : ¬ (nI n ≤ nI e) := by rw [nx_le (by omega) (by omega)]; omega
            have xB : zr x 93 (nI e) = B e := by rw [zr_n x 93 (by omega), zf, r1.arr 93 (by decide) (by decide), yB]
            obtain ⟨d1, d2⟩ := dg_n hq
            have hq' := hq
            unfold isD at hq'
            rw [decide_eq_true_eq] at hq'
            have l1 : nvM B s (e - s) ≤ 10000009 := by
              rcases nv_rel (e - s) r0 with ⟨a, b⟩ | ⟨-, -, a⟩
              · omega
              · exact a
            obtain ⟨v, ev⟩ : ∃ v, v = nvM B s (e - s) := ⟨_, rfl⟩
            rw [← ev] at r3 l1
            have nx : 10 * nI v + B e - 48 = nI (10 * v + dgN (B e)) := by
              rw [d2, show (10 : Int32) = nI 10 from rfl, show (48 : Int32) = nI 48 from rfl, pk_mul, nI_add, pk_sub (by omega)]
              rw [← d2]
              congr 1
            have sv : nvM B s (e + 1 - s) = if v ≤ 1000000 then 10 * v + dgN (B e) else v := by
              rw [show e + 1 - s = (e - s) + 1 by omega, nvM, ← ev, show s + (e - s) = e by omega]
            have mn : (if nI v ≤ (1000000 : Int32) then (nI (10 * v + dgN (B e)) : Int32) else nI v) = nI (nvM B s (e + 1 - s)) := by
              rw [sv]
              have : nI v ≤ (1000000 : Int32) ↔ v ≤ 1000000 := by
                rw [show (1000000 : Int32) = nI 1000000 from rfl, nx_le (by omega) (by omega)]
              by_cases c : v ≤ 1000000
              · rw [if_pos c, if_pos (this.mpr c)]
              · rw [if_neg c, if_neg (fun z => c (this.mp z))]
            show f_M_follows_l155_b_ok x ∧ _
            unfold f_M_follows_l155_b f_M_follows_l155_b_ok
            rw [x1, r2, if_neg g0, xB, if_pos hq', r3, nx, mn, ← nI_succ]
            refine ⟨⟨fun z => absurd z g0, fun _ => ⟨vp_in_nI (by omega) (by omega), fun _ => ⟨fun _ => vp_in_nI (by omega) (by omega), fun _ => trivial⟩, fun _ => trivial⟩⟩, rfl, fun i hi => ?_, zWr_p (by decide) (zWr_p (by decide) r1), zm_in _ _ _ _, ?_⟩
            · by_cases z : i = e - s
              · rw [z, show s + (e - s) = e by omega]; exact hq
              · exact r0 i (by omega)
            · show (zm_si (zm_si x 92 5 _) 92 2 _).2.1 92 5 = _
              rw [zf_si, if_pos rfl, if_neg (by decide)]; exact zm_in _ _ _ _)
          (by
            rintro e x he1 he2 ⟨r0, r1, r2, r3⟩ hq
            have x1 : zf x 92 1 = nI n := (r1.fld 92 1 (by decide) (by decide)).trans y1
            show f_M_follows_l155_b_ok x ∧ _
            unfold f_M_follows_l155_b f_M_follows_l155_b_ok
            rw [x1, r2]
            by_cases c : nI n ≤ nI e
            · rw [if_pos c]; exact ⟨⟨fun _ => trivial, fun z => absurd c z⟩, by simp, rfl⟩
            · have c' : e < n := by rw [nx_le (by omega) (by omega)] at c; omega
              have xB : zr x 93 (nI e) = B e := by rw [zr_n x 93 (by omega), zf, r1.arr 93 (by decide) (by decide), yB]
              have hq' : isD (B e) = false := by rcases hq with z | z; omega; exact z
              unfold isD at hq'
              rw [decide_eq_false_iff_not] at hq'
              rw [if_neg c, xB, if_neg hq']
              exact ⟨⟨fun _ => trivial, fun _ => ⟨vp_in_nI (by omega) (by omega), fun z => absurd z hq', fun _ => trivial⟩⟩, by simp, rfl⟩)
        obtain ⟨q, eq⟩ : ∃ q, q = f_M_follows_l155 F y := ⟨_, rfl⟩
        have m2 : (∀ i, i < scn isD B n 400 s - s → isD (B (s + i)) = true) ∧ zWr [] [(92, 2), (92, 5)] y q.2 ∧ zf q.2 92 2 = nI (scn isD B n 400 s) ∧ zf q.2 92 5 = nI (nvM B s (scn isD B n 400 s - s)) := by rw [eq]; exact m2
        rw [← eq]
        have eE : lxE B n p = scn isD B n 400 s := by unfold lxE; rw [← es, if_neg n1, if_neg l2, if_pos l3]
        have eQ : tq B n p = 256 := by unfold tq; rw [← es, if_neg n1, if_neg l2, if_pos l3]
        rw [← eE] at m2
        obtain ⟨m0, m2, m3, m4⟩ := m2
        unfold f_M_follows_a155_ok f_M_follows_a155 f_M_follows_k234
        rw [eQ]
        refine ⟨⟨k1, fun z => absurd z c1, fun _ => ⟨is, fun z => absurd z c2, fun _ => ⟨fun _ => ⟨m1, trivial⟩, fun z => absurd c3 z⟩⟩⟩, ?_, ?_, ?_⟩
        · show (zm_si q.2 92 3 1).2.1 92 2 = _
          rw [zf_si, if_pos rfl, if_neg (by decide)]; exact m3
        · show (zm_si q.2 92 3 1).2.1 92 4 = _
          rw [zf_si, if_pos rfl, if_neg (by decide), ← es]; exact (m2.fld 92 4 (by decide) (by decide)).trans y4
        · have T3 : zf (zp q.2 92 3 1) 92 3 = 1 := zm_in _ _ _ _
          have T5 : zf (zp q.2 92 3 1) 92 5 = nI (nvM B s (lxE B n p - s)) := by
            show (zm_si q.2 92 3 1).2.1 92 5 = _
            rw [zf_si, if_pos rfl, if_neg (by decide)]; exact m4
          rw [T3, T5]
          refine ⟨fun z => by omega, fun _ => ⟨rfl, ?_⟩, fun z => by omega, fun z => by omega, fun z => by omega, fun z => by omega, by omega, by omega⟩
          unfold tv
          rw [← es]
          rcases nv_rel _ m0 with ⟨a, b⟩ | ⟨a, b, c⟩
          · exact Or.inl ⟨b, by rw [a]⟩
          · refine Or.inr ⟨a, ?_⟩
            rw [show (99999 : Int32) = nI 99999 from rfl, nx_le (by omega) (by omega)]; omega
      · rw [if_neg c3]
        have l3 : ¬ isD (B s) = true := by unfold isD; rw [decide_eq_true_eq]; exact c3
        rw [← nI_succ]
        have eE : lxE B n p = s + 1 := by unfold lxE; rw [← es, if_neg n1, if_neg l2, if_neg l3]
        have eQ : tq B n p = if isS (B s) = true then (B s).toNatClampNeg else 258 := by unfold tq; rw [← es, if_neg n1, if_neg l2, if_neg l3]
        rw [eE, ← es]
        obtain ⟨u, eu⟩ : ∃ u : Int32, u = if isS (B s) = true then 3 else 4 := ⟨_, rfl⟩
        rw [← eu]
        refine ⟨⟨k1, fun z => absurd z c1, fun _ => ⟨is, fun z => absurd z c2, fun _ => ⟨fun z => absurd z c3, fun _ => trivial⟩⟩⟩, zm_in _ _ _ _, ?_, ?_⟩
        · show (zm_si (zm_si (zm_si y 92 3 _) 92 5 _) 92 2 _).2.1 92 4 = _
          rw [zf_si, if_pos rfl, if_neg (by decide), zf_si, if_pos rfl, if_neg (by decide), zf_si, if_pos rfl, if_neg (by decide)]; exact y4
        · have T3 : zf (zp (zp (zp y 92 3 u) 92 5 (B s)) 92 2 (nI (s + 1))) 92 3 = u := by
            show (zm_si (zm_si (zm_si y 92 3 _) 92 5 _) 92 2 _).2.1 92 3 = _
            rw [zf_si, if_pos rfl, if_neg (by decide), zf_si, if_pos rfl, if_neg (by decide)]; exact zm_in _ _ _ _
          have T5 : zf (zp (zp (zp y 92 3 u) 92 5 (B s)) 92 2 (nI (s + 1))) 92 5 = B s := by
            show (zm_si (zm_si (zm_si y 92 3 _) 92 5 _) 92 2 _).2.1 92 5 = _
            rw [zf_si, if_pos rfl, if_neg (by decide)]; exact zm_in _ _ _ _
          rw [T3, T5, eQ, eu]
          by_cases c4 : isS (B s) = true
          · rw [if_pos c4, if_pos c4]
            obtain ⟨i1, i2⟩ := isS_n c4
            exact ⟨fun z => by omega, fun z => by omega, fun z => by omega, fun z => by omega, fun _ => ⟨rfl, i1⟩, fun z => by omega, by omega, by omega⟩
          · rw [if_neg c4, if_neg c4]
            exact ⟨fun z => by omega, fun z => by omega, fun z => by omega, fun z => by omega, fun z => by omega, fun _ => rfl, by omega, by omega⟩
