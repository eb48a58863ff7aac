/-! ===== WAVES, the class ===== -/
theorem fl_33 (v : Int32) (h : zm_H) : f_Arrays_fill_33_ok v h ∧ zWr [33] [] h (f_Arrays_fill_33 v h) ∧ ∀ k, k < 100 → (f_Arrays_fill_33 v h).2.1 33 k = v := by
  unfold f_Arrays_fill_33_ok f_Arrays_fill_33 f_Arrays_fill_33_a5 f_Arrays_fill_33_k20
  obtain ⟨k1, h1, k2, k3, k4⟩ := zfill rfl (b := fun s => f_Arrays_fill_33_l5_b v s.1 (Int32.ofNat 100) s.2) (o := fun s => f_Arrays_fill_33_l5_b_ok v s.1 (Int32.ofNat 100) s.2) 33 100 (by omega) (fun _ => v) h
    (fun k g hk _ => by
      have g0 : ¬ (Int32.ofNat 100 ≤ nI k) := by rw [show Int32.ofNat 100 = nI 100 from rfl, nx_le (by omega) (by omega)]; omega
      refine ⟨⟨fun z => absurd z g0, fun _ => vp_in_nI hk (by omega)⟩, ?_⟩
      dsimp only
      unfold f_Arrays_fill_33_l5_b
      rw [if_neg g0, zs_n _ 33 _ (by omega), ← nI_succ])
    (fun g _ => by
      have g0 : Int32.ofNat 100 ≤ nI 100 := i_le_r _
      refine ⟨⟨fun _ => trivial, fun z => absurd g0 z⟩, ?_⟩
      dsimp only
      unfold f_Arrays_fill_33_l5_b
      rw [if_pos g0])
  have k2 : f_Arrays_fill_33_l5 v (Int32.ofNat 100) zF (0, h) = (1, nI 100, h1) := k2
  rw [k2]
  exact ⟨⟨k1, trivial⟩, k3, fun k hk => by rw [k4 k, if_pos hk]⟩
theorem fl_34 (v : Int32) (h : zm_H) : f_Arrays_fill_34_ok v h ∧ zWr [34] [] h (f_Arrays_fill_34 v h) ∧ ∀ k, k < 10 → (f_Arrays_fill_34 v h).2.1 34 k = v := by
  unfold f_Arrays_fill_34_ok f_Arrays_fill_34 f_Arrays_fill_34_a5 f_Arrays_fill_34_k20
  obtain ⟨k1, h1, k2, k3, k4⟩ := zfill rfl (b := fun s => f_Arrays_fill_34_l5_b v s.1 (Int32.ofNat 10) s.2) (o := fun s => f_Arrays_fill_34_l5_b_ok v s.1 (Int32.ofNat 10) s.2) 34 10 (by omega) (fun _ => v) h
    (fun k g hk _ => by
      have g0 : ¬ (Int32.ofNat 10 ≤ nI k) := by rw [show Int32.ofNat 10 = nI 10 from rfl, nx_le (by omega) (by omega)]; omega
      refine ⟨⟨fun z => absurd z g0, fun _ => vp_in_nI hk (by omega)⟩, ?_⟩
      dsimp only
      unfold f_Arrays_fill_34_l5_b
      rw [if_neg g0, zs_n _ 34 _ (by omega), ← nI_succ])
    (fun g _ => by
      have g0 : Int32.ofNat 10 ≤ nI 10 := i_le_r _
      refine ⟨⟨fun _ => trivial, fun z => absurd g0 z⟩, ?_⟩
      dsimp only
      unfold f_Arrays_fill_34_l5_b
      rw [if_pos g0])
  have k2 : f_Arrays_fill_34_l5 v (Int32.ofNat 10) zF (0, h) = (1, nI 10, h1) := k2
  rw [k2]
  exact ⟨⟨k1, trivial⟩, k3, fun k hk => by rw [k4 k, if_pos hk]⟩
theorem fl_35 (v : Int32) (h : zm_H) : f_Arrays_fill_35_ok v h ∧ zWr [35] [] h (f_Arrays_fill_35 v h) ∧ ∀ k, k < 10 → (f_Arrays_fill_35 v h).2.1 35 k = v := by
  unfold f_Arrays_fill_35_ok f_Arrays_fill_35 f_Arrays_fill_35_a5 f_Arrays_fill_35_k20
  obtain ⟨k1, h1, k2, k3, k4⟩ := zfill rfl (b := fun s => f_Arrays_fill_35_l5_b v s.1 (Int32.ofNat 10) s.2) (o := fun s => f_Arrays_fill_35_l5_b_ok v s.1 (Int32.ofNat 10) s.2) 35 10 (by omega) (fun _ => v) h
    (fun k g hk _ => by
      have g0 : ¬ (Int32.ofNat 10 ≤ nI k) := by rw [show Int32.ofNat 10 = nI 10 from rfl, nx_le (by omega) (by omega)]; omega
      refine ⟨⟨fun z => absurd z g0, fun _ => vp_in_nI hk (by omega)⟩, ?_⟩
      dsimp only
      unfold f_Arrays_fill_35_l5_b
      rw [if_neg g0, zs_n _ 35 _ (by omega), ← nI_succ])
    (fun g _ => by
      have g0 : Int32.ofNat 10 ≤ nI 10 := i_le_r _
      refine ⟨⟨fun _ => trivial, fun z => absurd g0 z⟩, ?_⟩
      dsimp only
      unfold f_Arrays_fill_35_l5_b
      rw [if_pos g0])
  have k2 : f_Arrays_fill_35_l5 v (Int32.ofNat 10) zF (0, h) = (1, nI 10, h1) := k2
  rw [k2]
  exact ⟨⟨k1, trivial⟩, k3, fun k hk => by rw [k4 k, if_pos hk]⟩
theorem as_C {way op : Int32} {h : zm_H} : f_Waves_goAside_ok way op h ∧ zWr [32, 36] [] h (f_Waves_goAside way op h) ∧ ∀ c, c < 10 → (f_Waves_goAside way op h).2.1 36 c = shf way op (h.2.1 35) c := by
  unfold f_Waves_goAside_ok f_Waves_goAside f_Waves_goAside_a2 f_Waves_goAside_k44
  have g10' : (10 : Int32) ≤ nI 10 := by decide
  obtain ⟨k1, h1, k2, k3, k4⟩ := zfill rfl (b := fun s => f_Waves_goAside_l2_b way op s.1 s.2) (o := fun s => f_Waves_goAside_l2_b_ok way op s.1 s.2) 36 10 (by omega) (shf way op (h.2.1 35)) h
    (fun k q hk wq => by
      have qa : q.2.1 35 = h.2.1 35 := wq.arr 35 (by decide) (by decide)
      dsimp only
      unfold f_Waves_goAside_l2_b_ok f_Waves_goAside_l2_b
      rw [if_neg (g10 hk)]
      refine ⟨⟨fun z => absurd z (g10 hk), fun _ => ⟨⟨fun z => sh_ok z, fun _ => trivial⟩, vp_in_nI hk (by omega)⟩⟩, ?_⟩
      rw [zs_n _ 36 _ (by omega), ← nI_succ]
      unfold shf
      by_cases c : ¬ ((nI k - way) < 0) ∧ (¬ (10 ≤ (nI k - way)))
      · rw [if_pos c, if_pos c]
        show (0, nI (k + 1), zm_si q 36 k (q.2.1 35 (nI k - way).toNatClampNeg)) = _
        rw [qa]
      · rw [if_neg c, if_neg c])
    (fun q _ => ⟨⟨fun _ => trivial, fun z => absurd g10' z⟩, by
      dsimp only
      unfold f_Waves_goAside_l2_b
      rw [if_pos g10']⟩)
  have k2 : f_Waves_goAside_l2 way op zF (0, h) = (1, nI 10, h1) := k2
  rw [k2]
  refine ⟨⟨k1, trivial⟩, zWr_sr (by decide) (zWr_sr (by decide) (zWr_tr k3 (by decide) (by decide) (zWr.refl _ _))), fun c hc => ?_⟩
  show h1.2.1 36 c = _
  rw [k4 c, if_pos hc]
theorem as_s_C {way op : Int32} {h : zm_H} : f_Waves_goAside_s_ok way op h ∧ zWr [32, 35] [] h (f_Waves_goAside_s way op h) ∧ ∀ c, c < 10 → (f_Waves_goAside_s way op h).2.1 35 c = shf way op (h.2.1 36) c := by
  unfold f_Waves_goAside_s_ok f_Waves_goAside_s f_Waves_goAside_s_a2 f_Waves_goAside_s_k44
  have g10' : (10 : Int32) ≤ nI 10 := by decide
  obtain ⟨k1, h1, k2, k3, k4⟩ := zfill rfl (b := fun s => f_Waves_goAside_s_l2_b way op s.1 s.2) (o := fun s => f_Waves_goAside_s_l2_b_ok way op s.1 s.2) 35 10 (by omega) (shf way op (h.2.1 36)) h
    (fun k q hk wq => by
      have qa : q.2.1 36 = h.2.1 36 := wq.arr 36 (by decide) (by decide)
      dsimp only
      unfold f_Waves_goAside_s_l2_b_ok f_Waves_goAside_s_l2_b
      rw [if_neg (g10 hk)]
      refine ⟨⟨fun z => absurd z (g10 hk), fun _ => ⟨⟨fun z => sh_ok z, fun _ => trivial⟩, vp_in_nI hk (by omega)⟩⟩, ?_⟩
      rw [zs_n _ 35 _ (by omega), ← nI_succ]
      unfold shf
      by_cases c : ¬ ((nI k - way) < 0) ∧ (¬ (10 ≤ (nI k - way)))
      · rw [if_pos c, if_pos c]
        show (0, nI (k + 1), zm_si q 35 k (q.2.1 36 (nI k - way).toNatClampNeg)) = _
        rw [qa]
      · rw [if_neg c, if_neg c])
    (fun q _ => ⟨⟨fun _ => trivial, fun z => absurd g10' z⟩, by
      dsimp only
      unfold f_Waves_goAside_s_l2_b
      rw [if_pos g10']⟩)
  have k2 : f_Waves_goAside_s_l2 way op zF (0, h) = (1, nI 10, h1) := k2
  rw [k2]
  refine ⟨⟨k1, trivial⟩, zWr_sr (by decide) (zWr_sr (by decide) (zWr_tr k3 (by decide) (by decide) (zWr.refl _ _))), fun c hc => ?_⟩
  show h1.2.1 35 c = _
  rw [k4 c, if_pos hc]
theorem run_C {S : Nat → Nat → Int32} {nr : Nat} (hnr : nr ≤ 10) {h : zm_H} (hw : wOK nr S) (hat : ∀ p, p < 100 → h.2.1 33 p = rat S (nI p) nr) (hz : ∀ r, r < nr → (1 ≤ (h.2.1 24 r).toInt ∧ (h.2.1 24 r).toInt ≤ 20) ∧ (2 ≤ (h.2.1 25 r).toInt ∧ (h.2.1 25 r).toInt ≤ 20)) (sea : Int32) : f_Waves_run_ok sea h ∧ zWr [32, 34, 35, 36] [] h (f_Waves_run sea h) ∧ (∀ c, c < 10 → (f_Waves_run sea h).2.1 35 c = wvF S nr (h.2.1 24) (h.2.1 25) sea c) ∧ (∀ r, r < 10 → (f_Waves_run sea h).2.1 34 r = wvT S nr (h.2.1 24) (h.2.1 25) sea r) := by
  obtain ⟨op, eo⟩ : ∃ op, op = (sea / 1000) * (sea / 1000) * (zm_rm sea 1000 / 10) := ⟨_, rfl⟩
  obtain ⟨sz, esz⟩ : ∃ sz, sz = h.2.1 24 := ⟨_, rfl⟩
  obtain ⟨su, esu⟩ : ∃ su, su = h.2.1 25 := ⟨_, rfl⟩
  rw [← esz, ← esu] at hz ⊢
  unfold f_Waves_run_ok f_Waves_run f_Waves_run_k13_ok f_Waves_run_k13 f_Waves_run_k21_ok f_Waves_run_k21
  rw [← eo]
  obtain ⟨o1, w1, a1⟩ := fl_34 0 h
  generalize f_Arrays_fill_34 0 h = h1 at w1 a1
  obtain ⟨o2, w2, a2⟩ := fl_35 op h1
  generalize f_Arrays_fill_35 op h1 = h2 at w2 a2
  have W2 : zWr [32, 34, 35, 36] [] h h2 := zWr_tr w2 (by decide) (by decide) (zWr_tr w1 (by decide) (by decide) (zWr.refl _ _))
  have T2 : ∀ r, r < 10 → h2.2.1 34 r = (wvs S nr sz su sea 0).2 r := fun r hr => by rw [w2.arr 34 (by decide) (by decide), a1 r hr]; rfl
  have A2 : ∀ c, c < 10 → h2.2.1 35 c = (wvs S nr sz su sea 0).1 c := fun c hc => by rw [a2 c hc, eo]; rfl
  have G : ∀ g, zWr [32, 34, 35, 36] [] h g → (∀ p, p < 100 → g.2.1 33 p = rat S (nI p) nr) ∧ g.2.1 24 = sz ∧ g.2.1 25 = su := fun g w => ⟨fun p hp => by rw [w.arr 33 (by decide) (by decide)]; exact hat p hp, by rw [esz]; exact w.arr 24 (by decide) (by decide), by rw [esu]; exact w.arr 25 (by decide) (by decide)⟩
  unfold f_Waves_run_k41 f_Waves_run_k41_ok f_Waves_run_a44 f_Waves_run_a44_ok f_Waves_run_k88 f_Waves_run_k88_ok
  obtain ⟨b01, b02, b03⟩ := G h2 W2
  obtain ⟨o0, g0, e0, w0', f0, t0⟩ := row_C hnr hw b01 (by rw [b02, b03]; exact hz) sea op (h := h2)
  rw [b02, b03] at f0 t0
  rw [e0]
  dsimp only
  have W0' : zWr [32, 34, 35, 36] [] h g0 := zWr_tr w0' (by decide) (by decide) W2
  have F0 : ∀ c, c < 10 → g0.2.1 35 c = rwF S nr sz su (zm_rm sea 1000 / 10) 0 (wvs S nr sz su sea 0).1 c := fun c hc => (f0 c hc).trans (rwF_ext A2 c hc)
  have T0' : ∀ r, r < 10 → g0.2.1 34 r = rwT S nr sz su (zm_rm sea 1000 / 10) 0 (wvs S nr sz su sea 0).1 (wvs S nr sz su sea 0).2 r := fun r hr => (t0 r hr).trans (rwT_ext hw A2 T2 r hr)
  obtain ⟨p01, p02, p03⟩ := as_C (way := zm_rm sea 10 - 1) (op := op) (h := g0)
  generalize f_Waves_goAside (zm_rm sea 10 - 1) op g0 = h3 at p02 p03
  have W3 : zWr [32, 34, 35, 36] [] h h3 := zWr_tr p02 (by decide) (by decide) W0'
  have T3 : ∀ r, r < 10 → h3.2.1 34 r = (wvs S nr sz su sea 1).2 r := fun r hr => by rw [p02.arr 34 (by decide) (by decide), T0' r hr]; rfl
  have A3 : ∀ c, c < 10 → h3.2.1 36 c = (wvs S nr sz su sea 1).1 c := fun c hc => by
    rw [p03 c hc, shf_ext F0 c, eo]; rfl
  unfold f_Waves_run_k41b f_Waves_run_k41b_ok f_Waves_run_a44_1 f_Waves_run_a44_1_ok f_Waves_run_k88b f_Waves_run_k88b_ok
  obtain ⟨b11, b12, b13⟩ := G h3 W3
  obtain ⟨o1', g1, e1, w1', f1, t1⟩ := rowb_C hnr hw b11 (by rw [b12, b13]; exact hz) sea op (h := h3)
  rw [b12, b13] at f1 t1
  rw [e1]
  dsimp only
  have W1' : zWr [32, 34, 35, 36] [] h g1 := zWr_tr w1' (by decide) (by decide) W3
  have F1 : ∀ c, c < 10 → g1.2.1 36 c = rwF S nr sz su (zm_rm sea 1000 / 10) 1 (wvs S nr sz su sea 1).1 c := fun c hc => (f1 c hc).trans (rwF_ext A3 c hc)
  have T1' : ∀ r, r < 10 → g1.2.1 34 r = rwT S nr sz su (zm_rm sea 1000 / 10) 1 (wvs S nr sz su sea 1).1 (wvs S nr sz su sea 1).2 r := fun r hr => (t1 r hr).trans (rwT_ext hw A3 T3 r hr)
  obtain ⟨p11, p12, p13⟩ := as_s_C (way := zm_rm sea 10 - 1) (op := op) (h := g1)
  generalize f_Waves_goAside_s (zm_rm sea 10 - 1) op g1 = h4 at p12 p13
  have W4 : zWr [32, 34, 35, 36] [] h h4 := zWr_tr p12 (by decide) (by decide) W1'
  have T4 : ∀ r, r < 10 → h4.2.1 34 r = (wvs S nr sz su sea 2).2 r := fun r hr => by rw [p12.arr 34 (by decide) (by decide), T1' r hr]; rfl
  have A4 : ∀ c, c < 10 → h4.2.1 35 c = (wvs S nr sz su sea 2).1 c := fun c hc => by
    rw [p13 c hc, shf_ext F1 c, eo]; rfl
  unfold f_Waves_run_k41c f_Waves_run_k41c_ok f_Waves_run_a44_2 f_Waves_run_a44_2_ok f_Waves_run_k88c f_Waves_run_k88c_ok
  obtain ⟨b21, b22, b23⟩ := G h4 W4
  obtain ⟨o2', g2, e2, w2', f2, t2⟩ := rowc_C hnr hw b21 (by rw [b22, b23]; exact hz) sea op (h := h4)
  rw [b22, b23] at f2 t2
  rw [e2]
  dsimp only
  have W2' : zWr [32, 34, 35, 36] [] h g2 := zWr_tr w2' (by decide) (by decide) W4
  have F2 : ∀ c, c < 10 → g2.2.1 35 c = rwF S nr sz su (zm_rm sea 1000 / 10) 2 (wvs S nr sz su sea 2).1 c := fun c hc => (f2 c hc).trans (rwF_ext A4 c hc)
  have T2' : ∀ r, r < 10 → g2.2.1 34 r = rwT S nr sz su (zm_rm sea 1000 / 10) 2 (wvs S nr sz su sea 2).1 (wvs S nr sz su sea 2).2 r := fun r hr => (t2 r hr).trans (rwT_ext hw A4 T4 r hr)
  obtain ⟨p21, p22, p23⟩ := as_C (way := zm_rm sea 10 - 1) (op := op) (h := g2)
  generalize f_Waves_goAside (zm_rm sea 10 - 1) op g2 = h5 at p22 p23
  have W5 : zWr [32, 34, 35, 36] [] h h5 := zWr_tr p22 (by decide) (by decide) W2'
  have T5 : ∀ r, r < 10 → h5.2.1 34 r = (wvs S nr sz su sea 3).2 r := fun r hr => by rw [p22.arr 34 (by decide) (by decide), T2' r hr]; rfl
  have A5 : ∀ c, c < 10 → h5.2.1 36 c = (wvs S nr sz su sea 3).1 c := fun c hc => by
    rw [p23 c hc, shf_ext F2 c, eo]; rfl
  unfold f_Waves_run_k41d f_Waves_run_k41d_ok f_Waves_run_a44_3 f_Waves_run_a44_3_ok f_Waves_run_k88d f_Waves_run_k88d_ok
  obtain ⟨b31, b32, b33⟩ := G h5 W5
  obtain ⟨o3, g3, e3, w3', f3, t3⟩ := rowd_C hnr hw b31 (by rw [b32, b33]; exact hz) sea op (h := h5)
  rw [b32, b33] at f3 t3
  rw [e3]
  dsimp only
  have W3' : zWr [32, 34, 35, 36] [] h g3 := zWr_tr w3' (by decide) (by decide) W5
  have F3 : ∀ c, c < 10 → g3.2.1 36 c = rwF S nr sz su (zm_rm sea 1000 / 10) 3 (wvs S nr sz su sea 3).1 c := fun c hc => (f3 c hc).trans (rwF_ext A5 c hc)
  have T3' : ∀ r, r < 10 → g3.2.1 34 r = rwT S nr sz su (zm_rm sea 1000 / 10) 3 (wvs S nr sz su sea 3).1 (wvs S nr sz su sea 3).2 r := fun r hr => (t3 r hr).trans (rwT_ext hw A5 T5 r hr)
  obtain ⟨p31, p32, p33⟩ := as_s_C (way := zm_rm sea 10 - 1) (op := op) (h := g3)
  generalize f_Waves_goAside_s (zm_rm sea 10 - 1) op g3 = h6 at p32 p33
  have W6 : zWr [32, 34, 35, 36] [] h h6 := zWr_tr p32 (by decide) (by decide) W3'
  have T6 : ∀ r, r < 10 → h6.2.1 34 r = (wvs S nr sz su sea 4).2 r := fun r hr => by rw [p32.arr 34 (by decide) (by decide), T3' r hr]; rfl
  have A6 : ∀ c, c < 10 → h6.2.1 35 c = (wvs S nr sz su sea 4).1 c := fun c hc => by
    rw [p33 c hc, shf_ext F3 c, eo]; rfl
  unfold f_Waves_run_k41e f_Waves_run_k41e_ok f_Waves_run_a44_4 f_Waves_run_a44_4_ok f_Waves_run_k88e
  obtain ⟨b41, b42, b43⟩ := G h6 W6
  obtain ⟨o4, g4, e4, w4', f4, t4⟩ := rowe_C hnr hw b41 (by rw [b42, b43]; exact hz) sea op (h := h6)
  rw [b42, b43] at f4 t4
  rw [e4]
  dsimp only
  have W4' : zWr [32, 34, 35, 36] [] h g4 := zWr_tr w4' (by decide) (by decide) W6
  have F4 : ∀ c, c < 10 → g4.2.1 35 c = rwF S nr sz su (zm_rm sea 1000 / 10) 4 (wvs S nr sz su sea 4).1 c := fun c hc => (f4 c hc).trans (rwF_ext A6 c hc)
  have T4' : ∀ r, r < 10 → g4.2.1 34 r = rwT S nr sz su (zm_rm sea 1000 / 10) 4 (wvs S nr sz su sea 4).1 (wvs S nr sz su sea 4).2 r := fun r hr => (t4 r hr).trans (rwT_ext hw A6 T6 r hr)
  exact ⟨⟨o1, o2, o0, p01, o1', p11, o2', p21, o3, p31, o4, trivial⟩, W4', F4, T4'⟩
theorem put_37 {nr g : Nat} (hnr : nr ≤ 10) {h : zm_H} (e23 : zf h 23 0 = nI nr) (V : vOK nr g (vC 38 h)) : f_Course_putInto_37_ok h ∧ zWr [33] [] h (f_Course_putInto_37 h) ∧ ∀ p, p < 100 → (f_Course_putInto_37 h).2.1 33 p = rat (vC 38 h) (nI p) nr := by
  unfold f_Course_putInto_37_ok f_Course_putInto_37 f_Waves_takeAllOut_ok f_Waves_takeAllOut f_Course_putInto_37_k4_ok f_Course_putInto_37_k4 f_Course_putInto_37_a6 f_Course_putInto_37_k44
  obtain ⟨o1, w1, a1⟩ := fl_33 (-1) h
  generalize f_Arrays_fill_33 (-1) h = h1 at w1 a1
  have hw := V.w hnr
  have key := zlp_k rfl (b := fun s => f_Course_putInto_37_l6_b s.1 s.2) (o := fun s => f_Course_putInto_37_l6_b_ok s.1 s.2) nr (by omega) 0
    (fun j g => zWr [33] [] h g ∧ ∀ p, p < 100 → g.2.1 33 p = rat (vC 38 h) (nI p) j) h1 ⟨w1, fun p hp => a1 p hp⟩
    (by
      rintro j q hj ⟨p1, p2⟩
      rw [Nat.zero_add]
      have hj10 : j < 10 := by omega
      have f23 : zf q 23 0 = nI nr := (p1.fld 23 0 (by decide) (by decide)).trans e23
      have g0 : ¬ (zf q 23 0 ≤ nI j) := by rw [f23, nx_le (by omega) (by omega)]; omega
      have a0 : zr q 38 (nI j) = vC 38 h 0 j := by rw [zr_n q 38 (by omega), zf, p1.arr 38 (by decide) (by decide), vC_at (b := 38) (i := 0) (by omega) (show j < zsz 0 from hj10)]
      have a1 : zr q 39 (nI j) = vC 38 h 1 j := by rw [zr_n q 39 (by omega), zf, p1.arr 39 (by decide) (by decide), vC_at (b := 38) (i := 1) (by omega) (show j < zsz 1 from hj10)]
      have i10 : vp_in (nI j) 10 := vp_in_nI hj10 (by omega)
      dsimp only
      unfold f_Course_putInto_37_l6_b f_Course_putInto_37_l6_b_ok f_Course_putInto_37_l6_k38
      rw [if_neg g0, a0, a1, ← nI_succ]
      by_cases c : vC 38 h 0 j = 1
      · obtain ⟨p, hp, hp5, ep⟩ := hw.1 j hj c
        obtain ⟨m1, -⟩ := pl_n hp
        have cd : ¬ (nI p < 0) ∧ (¬ (100 ≤ nI p) ∧ (¬ (5 ≤ (zm_rm (nI p) 10)))) := by
          rw [m1]
          simp only [i_lt, i_le, Int32.reduceToInt, i_nI (show p < 2147483648 by omega), i_nI (show p % 10 < 2147483648 by omega)]
          omega
        rw [if_pos c, ep]
        unfold f_Waves_putIn f_Waves_putIn_ok
        rw [if_pos cd, zs_n _ 33 _ (by omega)]
        refine ⟨⟨fun z => absurd z g0, fun _ => ⟨i10, fun _ => ⟨i10, fun _ => vp_in_nI hp (by omega), fun _ => trivial⟩, fun _ => trivial⟩⟩, _, rfl, zWr_si (by decide) p1, fun x hx => ?_⟩
        rw [za_si, if_pos rfl, rat]
        by_cases ex : x = p
        · subst ex; rw [pk_us, if_pos ⟨c, ep⟩]
        · rw [pk_un ex, if_neg (fun z => ex (nI_inj (by omega) (by omega) (z.2.symm.trans ep)))]; exact p2 x hx
      · rw [if_neg c]
        refine ⟨⟨fun z => absurd z g0, fun _ => ⟨i10, fun z => absurd z c, fun _ => trivial⟩⟩, _, rfl, p1, fun x hx => ?_⟩
        rw [rat, if_neg (fun z => c z.1)]; exact p2 x hx)
    (by
      rintro q ⟨p1, p2⟩
      rw [Nat.zero_add]
      have f23 : zf q 23 0 = nI nr := (p1.fld 23 0 (by decide) (by decide)).trans e23
      have g0 : zf q 23 0 ≤ nI nr := by rw [f23]; exact i_le_r _
      dsimp only
      unfold f_Course_putInto_37_l6_b f_Course_putInto_37_l6_b_ok
      rw [if_pos g0]
      exact ⟨⟨fun _ => trivial, fun z => absurd g0 z⟩, rfl⟩)
  rw [Nat.zero_add] at key
  obtain ⟨k1, h', k2, k3, k4⟩ := key
  have k2 : f_Course_putInto_37_l6 zF (0, h1) = (1, nI nr, h') := k2
  rw [k2]
  exact ⟨⟨o1, k1, trivial⟩, k3, k4⟩
theorem put_50 {nr g : Nat} (hnr : nr ≤ 10) {h : zm_H} (e23 : zf h 23 0 = nI nr) (V : vOK nr g (vC 51 h)) : f_Course_putInto_50_ok h ∧ zWr [33] [] h (f_Course_putInto_50 h) ∧ ∀ p, p < 100 → (f_Course_putInto_50 h).2.1 33 p = rat (vC 51 h) (nI p) nr := by
  unfold f_Course_putInto_50_ok f_Course_putInto_50 f_Waves_takeAllOut_ok f_Waves_takeAllOut f_Course_putInto_50_k4_ok f_Course_putInto_50_k4 f_Course_putInto_50_a6 f_Course_putInto_50_k44
  obtain ⟨o1, w1, a1⟩ := fl_33 (-1) h
  generalize f_Arrays_fill_33 (-1) h = h1 at w1 a1
  have hw := V.w hnr
  have key := zlp_k rfl (b := fun s => f_Course_putInto_50_l6_b s.1 s.2) (o := fun s => f_Course_putInto_50_l6_b_ok s.1 s.2) nr (by omega) 0
    (fun j g => zWr [33] [] h g ∧ ∀ p, p < 100 → g.2.1 33 p = rat (vC 51 h) (nI p) j) h1 ⟨w1, fun p hp => a1 p hp⟩
    (by
      rintro j q hj ⟨p1, p2⟩
      rw [Nat.zero_add]
      have hj10 : j < 10 := by omega
      have f23 : zf q 23 0 = nI nr := (p1.fld 23 0 (by decide) (by decide)).trans e23
      have g0 : ¬ (zf q 23 0 ≤ nI j) := by rw [f23, nx_le (by omega) (by omega)]; omega
      have a0 : zr q 51 (nI j) = vC 51 h 0 j := by rw [zr_n q 51 (by omega), zf, p1.arr 51 (by decide) (by decide), vC_at (b := 51) (i := 0) (by omega) (show j < zsz 0 from hj10)]
      have a1 : zr q 52 (nI j) = vC 51 h 1 j := by rw [zr_n q 52 (by omega), zf, p1.arr 52 (by decide) (by decide), vC_at (b := 51) (i := 1) (by omega) (show j < zsz 1 from hj10)]
      have i10 : vp_in (nI j) 10 := vp_in_nI hj10 (by omega)
      dsimp only
      unfold f_Course_putInto_50_l6_b f_Course_putInto_50_l6_b_ok f_Course_putInto_50_l6_k38
      rw [if_neg g0, a0, a1, ← nI_succ]
      by_cases c : vC 51 h 0 j = 1
      · obtain ⟨p, hp, hp5, ep⟩ := hw.1 j hj c
        obtain ⟨m1, -⟩ := pl_n hp
        have cd : ¬ (nI p < 0) ∧ (¬ (100 ≤ nI p) ∧ (¬ (5 ≤ (zm_rm (nI p) 10)))) := by
          rw [m1]
          simp only [i_lt, i_le, Int32.reduceToInt, i_nI (show p < 2147483648 by omega), i_nI (show p % 10 < 2147483648 by omega)]
          omega
        rw [if_pos c, ep]
        unfold f_Waves_putIn f_Waves_putIn_ok
        rw [if_pos cd, zs_n _ 33 _ (by omega)]
        refine ⟨⟨fun z => absurd z g0, fun _ => ⟨i10, fun _ => ⟨i10, fun _ => vp_in_nI hp (by omega), fun _ => trivial⟩, fun _ => trivial⟩⟩, _, rfl, zWr_si (by decide) p1, fun x hx => ?_⟩
        rw [za_si, if_pos rfl, rat]
        by_cases ex : x = p
        · subst ex; rw [pk_us, if_pos ⟨c, ep⟩]
        · rw [pk_un ex, if_neg (fun z => ex (nI_inj (by omega) (by omega) (z.2.symm.trans ep)))]; exact p2 x hx
      · rw [if_neg c]
        refine ⟨⟨fun z => absurd z g0, fun _ => ⟨i10, fun z => absurd z c, fun _ => trivial⟩⟩, _, rfl, p1, fun x hx => ?_⟩
        rw [rat, if_neg (fun z => c z.1)]; exact p2 x hx)
    (by
      rintro q ⟨p1, p2⟩
      rw [Nat.zero_add]
      have f23 : zf q 23 0 = nI nr := (p1.fld 23 0 (by decide) (by decide)).trans e23
      have g0 : zf q 23 0 ≤ nI nr := by rw [f23]; exact i_le_r _
      dsimp only
      unfold f_Course_putInto_50_l6_b f_Course_putInto_50_l6_b_ok
      rw [if_pos g0]
      exact ⟨⟨fun _ => trivial, fun z => absurd g0 z⟩, rfl⟩)
  rw [Nat.zero_add] at key
  obtain ⟨k1, h', k2, k3, k4⟩ := key
  have k2 : f_Course_putInto_50_l6 zF (0, h1) = (1, nI nr, h') := k2
  rw [k2]
  exact ⟨⟨o1, k1, trivial⟩, k3, k4⟩
