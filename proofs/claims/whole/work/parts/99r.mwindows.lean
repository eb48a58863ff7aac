/-! ===== WINDOWS of the model; window ===== -/
theorem wi_M {ns nf n e w w0 : Nat} (hw : w ≤ 480) (hw0 : w0 = w) {h : zm_H} (H : I_rl ns nf h) (S : I_sw w0 n e h) (et : zf h 92 23 = nI w) {p m : Nat} (hp1 : 1 ≤ p) (hp : p ≤ 40) (em : m = min p (480 - w)) {s : WS} (es : s = wnd (ouT nf n e h) w m) : f_M_windows_ok (nI p) h ∧ zWr [149, 150, 154, 155] [(92, 79), (92, 80), (92, 81)] h (f_M_windows (nI p) h).2 ∧ (f_M_windows (nI p) h).1 = nI s.1 ∧ rlW 154 155 s (f_M_windows (nI p) h).2 := by
  subst hw0
  have i40 : (40 : Int32).toInt = 40 := rfl
  have gp : ¬ (nI p < 1) ∧ (¬ (40 < nI p)) := by rw [i_lt, i_lt, i_1, i40, i_nI (by omega)]; omega
  unfold f_M_windows_ok f_M_windows f_M_windows_a22 f_M_windows_k129
  rw [if_pos gp, et]
  obtain ⟨b, eb⟩ : ∃ b, b = if w0 = 480 then 479 else w0 := ⟨_, rfl⟩
  obtain ⟨f1, f2, hb⟩ := ft_now hw S eb
  obtain ⟨F, eF, -⟩ := zF_ex
  rw [← eF]
  obtain ⟨o, eo⟩ : ∃ o, o = ouT nf n e h := ⟨_, rfl⟩
  rw [← eo] at es
  have hF2 : wfR [149, 150, 154, 155] [(92, 79), (92, 80), (92, 81)] = true := by decide
  have ewp : nI w0 + nI p = nI (w0 + p) := nI_add _ _
  have key := zlpF eF (b := fun s => f_M_windows_l22_b (nI p) s.1 s.2.1 s.2.2.1 s.2.2.2) (o := fun s => f_M_windows_l22_b_ok (nI p) s.1 s.2.1 s.2.2.1 s.2.2.2) m (by omega)
    (fun k t => t.1 = nI (wnd o w0 k).1 ∧ (t.2.1 = 0 ↔ ¬ (wnd o w0 k).2.1 = true) ∧ t.2.2.1 = nI (w0 + k) ∧ zWr [149, 150, 154, 155] [(92, 79), (92, 80), (92, 81)] h t.2.2.2 ∧ rlW 154 155 (wnd o w0 k) t.2.2.2)
    (fun r => zWr [149, 150, 154, 155] [(92, 79), (92, 80), (92, 81)] h r.2.2.2.2 ∧ r.2.1 = nI s.1 ∧ rlW 154 155 s r.2.2.2.2) (0, 0, nI w0, h)
    ⟨rfl, ⟨fun _ => show ¬ false = true by decide, fun _ => rfl⟩, rfl, zWr.refl _ _, fun j hj => absurd hj (by show ¬ j < 0; omega)⟩
    (by
      rintro k ⟨v2, v3, v4, x⟩ hk ⟨p3, p0, p1, p2, p4⟩
      dsimp only at p0 p1 p2 p3 p4
      subst p1 p3
      obtain ⟨k1, k2, -⟩ := wnd_ok o w0 k
      have ht : w0 + k < 480 := by omega
      have ex : zf x 92 23 = nI w0 := (p2.fld 92 23 (by decide) (by decide)).trans et
      have g1 : ¬ (nI w0 + nI p ≤ nI (w0 + k)) := by rw [ewp, nx_le (by omega) (by omega)]; omega
      have g2 : ¬ ((480 : Int32) ≤ nI (w0 + k)) := by rw [show (480 : Int32) = nI 480 from rfl, nx_le (by omega) (by omega)]; omega
      have Sx := I_sw_z (p2.eq (by decide) (by decide)) S
      obtain ⟨l1, l2⟩ := lk_all Sx (a := b) ht
      rw [p2.arr 107 (by decide) (by decide), p2.arr 111 (by decide) (by decide), f1, f2] at l2
      have eS : seaP x n e (w0 + k) = seaP h n e (w0 + k) := seaP_eq (fun i hi => p2.arr i (by simp at hi ⊢; omega) (by simp at hi ⊢; omega)) n e (w0 + k)
      rw [eS] at l2
      have hs : rdOK (seaP h n e (w0 + k)) := sea_ok S (Nat.le_refl n)
      obtain ⟨sea, esea⟩ : ∃ sea, sea = seaP h n e (w0 + k) := ⟨_, rfl⟩
      rw [← esea] at l2 hs
      have lw := f_M_looks_w (nI (w0 + k)) (nI b) x
      obtain ⟨x1, ex1⟩ : ∃ x1, x1 = f_M_looks (nI (w0 + k)) (nI b) x := ⟨_, rfl⟩
      rw [← ex1] at l2 lw
      obtain ⟨a1, a2, a3⟩ := ask_Z (t := w0 + k) l2
      obtain ⟨x2, ex2⟩ : ∃ x2, x2 = f_M_asks 0 (-1) (nI (w0 + k)) x1 := ⟨_, rfl⟩
      rw [← ex2] at a2 a3
      have q2 : zWr [149, 150, 154, 155] [(92, 79), (92, 80), (92, 81)] h x2 := zWr_tr a2 (by decide) (by decide) (zWr_tr lw (by decide) (by decide) p2)
      have H2 := I_rl_w hF2 q2 H
      obtain ⟨t1, t2, t3⟩ := te_M H2 (nmOK_ext a3 (nmZ_ok hs ht)) (c := 2) (by omega) (nI (w0 + k))
      rw [Ev_ext H2 (by omega) (nI (w0 + k)) a3, Ev_w hF2 q2] at t2
      have t1 : f_M_tells_ok 2 (nI (w0 + k)) x2 := t1
      have t2 : (f_M_tells 2 (nI (w0 + k)) x2).1 = Ev nf h 2 (nI (w0 + k)) (nmZ sea (nI (w0 + k))) := t2
      have t3 : zWr [150] [] x2 (f_M_tells 2 (nI (w0 + k)) x2).2 := t3
      have b2 : (f_M_tells 2 (nI (w0 + k)) x2).1 = 0 ↔ ¬ o (w0 + k) = true := by
        rw [t2, eo, esea]
        unfold ouT
        rw [decide_eq_true_eq]
        exact ⟨fun z y => y z, fun z => Decidable.byContradiction z⟩
      obtain ⟨br, ebr⟩ : ∃ br, br = f_M_tells 2 (nI (w0 + k)) x2 := ⟨_, rfl⟩
      rw [← ebr] at b2 t3
      obtain ⟨y, ey⟩ : ∃ y, y = br.2 := ⟨_, rfl⟩
      rw [← ey] at t3
      have w2 : zWr [149, 150, 154, 155] [(92, 79), (92, 80), (92, 81)] h y := zWr_tr t3 (by decide) (by decide) q2
      have ya : y.2.1 154 = x.2.1 154 := by rw [t3.arr 154 (by decide) (by decide), a2.arr 154 (by decide) (by decide), lw.arr 154 (by decide) (by decide)]
      have yb : y.2.1 155 = x.2.1 155 := by rw [t3.arr 155 (by decide) (by decide), a2.arr 155 (by decide) (by decide), lw.arr 155 (by decide) (by decide)]
      have y4 : rlW 154 155 (wnd o w0 k) y := fun j hj => by rw [ya, yb]; exact p4 j hj
      obtain ⟨M, eM⟩ : ∃ M, M = (wnd o w0 k).1 := ⟨_, rfl⟩
      have hm40 : (wnd o w0 k).1 < 40 := by omega
      rw [← eM] at hm40 k1 k2
      rw [← eM]
      have ebb : f_M_windows_l22_b (nI p) (nI M) v3 (nI (w0 + k)) x = f_M_windows_l22_k66 (nI p) (nI M) v3 (nI (w0 + k)) br.1 y := by
        unfold f_M_windows_l22_b f_M_windows_l22_k51 f_M_windows_l22_k59
        rw [ex, if_neg g1, if_neg g2, lkn hw eb, ← ex1, ← ex2, ← ebr, ← ey]
      have ok : f_M_windows_l22_k66_ok (nI p) (nI M) v3 (nI (w0 + k)) br.1 y → f_M_windows_l22_b_ok (nI p) (nI M) v3 (nI (w0 + k)) x := by
        intro z
        unfold f_M_windows_l22_b_ok f_M_windows_l22_k51_ok f_M_windows_l22_k59_ok
        rw [ex, lkn hw eb, ← ex1, ← ex2, ← ebr, ← ey]
        exact ⟨fun y => absurd y g1, fun _ => ⟨fun y => absurd y g2, fun _ => ⟨l1, a1, t1, z⟩⟩⟩
      have im : vp_in (nI M) 41 := vp_in_nI (by omega) (by omega)
      dsimp only
      rw [ebb]
      have goal : f_M_windows_l22_k66_ok (nI p) (nI M) v3 (nI (w0 + k)) br.1 y ∧ (f_M_windows_l22_k66 (nI p) (nI M) v3 (nI (w0 + k)) br.1 y).1 = 0 ∧ (f_M_windows_l22_k66 (nI p) (nI M) v3 (nI (w0 + k)) br.1 y).2.1 = nI (wnd o w0 (k + 1)).1 ∧ ((f_M_windows_l22_k66 (nI p) (nI M) v3 (nI (w0 + k)) br.1 y).2.2.1 = 0 ↔ ¬ (wnd o w0 (k + 1)).2.1 = true) ∧ (f_M_windows_l22_k66 (nI p) (nI M) v3 (nI (w0 + k)) br.1 y).2.2.2.1 = nI (w0 + (k + 1)) ∧ zWr [149, 150, 154, 155] [(92, 79), (92, 80), (92, 81)] h (f_M_windows_l22_k66 (nI p) (nI M) v3 (nI (w0 + k)) br.1 y).2.2.2.2 ∧ rlW 154 155 (wnd o w0 (k + 1)) (f_M_windows_l22_k66 (nI p) (nI M) v3 (nI (w0 + k)) br.1 y).2.2.2.2 := by
        rw [wnd]
        unfold f_M_windows_l22_k66 f_M_windows_l22_k66_ok
        rw [show w0 + (k + 1) = w0 + k + 1 by omega, nI_succ]
        by_cases ho : o (w0 + k) = true
        · have hb : ¬ br.1 = 0 := fun z => (b2.mp z) ho
          simp only [if_pos hb]
          rw [ho]
          by_cases hr : (wnd o w0 k).2.1 = true
          · have hv : ¬ v3 = 0 := fun z => (p0.mp z) hr
            have h1 := k2 hr
            simp only [if_neg hv]
            have e1 : nI M - 1 = nI (M - 1) := by rw [show (1 : Int32) = nI 1 from rfl, nI_s0 _ _ (by omega)]
            have i1 : vp_in (nI (M - 1)) 41 := vp_in_nI (by omega) (by omega)
            rw [e1, zs_n _ _ _ (by omega), zr_n _ _ (by omega)]
            refine ⟨⟨⟨fun _ => ⟨fun z => absurd z hv, fun _ => trivial⟩, fun _ => trivial⟩, fun _ => ⟨i1, i1⟩, fun _ => trivial⟩, trivial, ?_, ?_, trivial, zWr_si (by decide) w2, ?_⟩
            · unfold wst
              rw [if_pos rfl, if_pos hr, eM]
            · unfold wst
              rw [if_pos rfl, if_pos hr]
              exact ⟨fun z => absurd z (by decide), fun z => absurd rfl z⟩
            · refine rlW_more y4 hr (by omega) ?_ ?_
              · rw [za_si, if_neg (by decide)]
              · rw [za_si, if_pos rfl, ← eM]
          · have hv : v3 = 0 := p0.mpr hr
            simp only [if_pos hv]
            have e1 : nI M + 1 - 1 = nI M := by rw [← nI_succ, show (1 : Int32) = nI 1 from rfl, nI_s0 _ _ (by omega)]; rfl
            rw [e1]
            obtain ⟨z, ez⟩ : ∃ z, z = zs (zs y 154 (nI M) (nI (w0 + k))) 155 (nI M) 0 := ⟨_, rfl⟩
            rw [← ez]
            have ez2 : z = zm_si (zm_si y 154 M (nI (w0 + k))) 155 M 0 := by rw [ez, zs_n _ _ _ (by omega), zs_n _ _ _ (by omega)]
            rw [zs_n _ _ _ (by omega), zr_n _ _ (by omega)]
            have zb : zf z 155 M = 0 := by rw [ez2]; exact zm_in _ _ _ _
            have wz : zWr [149, 150, 154, 155] [(92, 79), (92, 80), (92, 81)] h z := by rw [ez2]; exact zWr_si (by decide) (zWr_si (by decide) w2)
            refine ⟨⟨⟨fun _ => ⟨fun _ => ⟨im, im⟩, fun _ => trivial⟩, fun _ => trivial⟩, fun _ => ⟨im, im⟩, fun _ => trivial⟩, trivial, ?_, ?_, trivial, zWr_si (by decide) wz, ?_⟩
            · unfold wst
              rw [if_pos rfl, if_neg hr, ← eM, nI_succ]
            · unfold wst
              rw [if_pos rfl, if_neg hr]
              exact ⟨fun z => absurd z (by decide), fun z => absurd rfl z⟩
            · rw [zb]
              refine rlW_new y4 hr ?_ ?_
              · rw [za_si, if_neg (by decide), ez2, za_si, if_neg (by decide), za_si, if_pos rfl, ← eM]
              · rw [za_si, if_pos rfl, ez2, za_si, if_pos rfl, za_si, if_neg (by decide), ← eM]
                funext j
                unfold upd
                by_cases c : j = M
                · rw [if_pos c, if_pos c]; rfl
                · rw [if_neg c, if_neg c, if_neg c]
        · have hb : ¬ ¬ br.1 = 0 := fun z => z (b2.mpr ho)
          have ho2 : o (w0 + k) = false := by cases hh : o (w0 + k) with
            | true => exact absurd hh ho
            | false => rfl
          simp only [if_neg hb]
          rw [ho2]
          refine ⟨⟨⟨fun z => absurd z hb, fun _ => trivial⟩, fun z => absurd z hb, fun _ => trivial⟩, trivial, ?_, ?_, trivial, w2, rlW_no y4 rfl rfl⟩
          · unfold wst
            rw [if_neg (by decide), eM]
          · unfold wst
            rw [if_neg (by decide)]
            exact ⟨fun _ => show ¬ false = true by decide, fun _ => trivial⟩
      obtain ⟨r1, r2, r3, r4, r5, r6, r7⟩ := goal
      exact ⟨ok r1, Or.inl ⟨r2, r3, r4, r5, r6, r7⟩⟩)
    (by
      rintro ⟨v2, v3, v4, x⟩ ⟨p3, p0, p1, p2, p4⟩
      dsimp only at p0 p1 p2 p3 p4
      subst p1 p3
      have ex : zf x 92 23 = nI w0 := (p2.fld 92 23 (by decide) (by decide)).trans et
      dsimp only
      unfold f_M_windows_l22_b f_M_windows_l22_b_ok
      rw [← es] at p4
      rw [← es, ex]
      by_cases c : nI w0 + nI p ≤ nI (w0 + m)
      · rw [if_pos c]; exact ⟨⟨fun _ => trivial, fun z => absurd c z⟩, by simp, p2, rfl, p4⟩
      · have c2 : (480 : Int32) ≤ nI (w0 + m) := by
          rw [ewp, nx_le (by omega) (by omega)] at c
          rw [show (480 : Int32) = nI 480 from rfl, nx_le (by omega) (by omega)]; omega
        rw [if_neg c, if_pos c2]
        exact ⟨⟨fun z => absurd z c, fun _ => ⟨fun _ => trivial, fun z => absurd c2 z⟩⟩, by simp, p2, rfl, p4⟩)
  exact ⟨⟨fun _ => ⟨key.1, trivial⟩, fun z => absurd gp z⟩, key.2⟩
theorem c_window {ns nf n e w : Nat} {h : zm_H} (W : I_now w h) (H : I_rl ns nf h) (S : I_sw w n e h) (p1 p2 p3 : Int32) : f_N_window_ok p1 p2 p3 h ∧ f_M_window_ok p1 p2 p3 (f_N_window p1 p2 p3 h).2 ∧ (f_N_window p1 p2 p3 h).1 = (f_M_window p1 p2 p3 (f_N_window p1 p2 p3 h).2).1 := by
  obtain ⟨w1, w2, w3⟩ := W
  have i40 : (40 : Int32).toInt = 40 := rfl
  have wN := f_N_window_w p1 p2 p3 h
  by_cases c : 1 ≤ p1.toInt ∧ p1.toInt ≤ 40
  · obtain ⟨p, hp, rfl⟩ := i_ex (a := p1) (N := 41) (by omega) (by omega)
    have ip : (nI p).toInt = p := i_nI (by omega)
    have g1 : ¬ (nI p < 1) := by rw [i_lt, i_1]; omega
    have g2 : nI p ≤ 40 := by rw [i_le, i40]; omega
    obtain ⟨m, em⟩ : ∃ m, m = min p (480 - w) := ⟨_, rfl⟩
    obtain ⟨s, es⟩ : ∃ s, s = wnd (ouT nf n e h) w m := ⟨_, rfl⟩
    obtain ⟨a1, a2, a3, a4⟩ := fw_N w1 H S (show p ≤ 40 by omega) em es
    obtain ⟨x, ex⟩ : ∃ x, x = f_Planner_findWindows (nI w) (nI p) h := ⟨_, rfl⟩
    rw [← ex] at a2 a3 a4
    have hs : s.1 ≤ m := by rw [es]; exact (wnd_ok _ _ _).1
    have eN : f_N_window (nI p) p2 p3 h = (f_Planner_ofWindow p2 p3 x, x) := by
      unfold f_N_window f_N_window_k25
      rw [if_neg g1, if_pos g2, w2, ← ex]
    have eo : ouT nf n e x = ouT nf n e h := by
      funext t
      unfold ouT
      rw [Ev_w (by decide) a2, seaP_eq (fun i hi => a2.arr i (by simp at hi ⊢; omega) (by simp at hi ⊢; omega)) n e t]
    obtain ⟨b1, b2, b3, b4⟩ := wi_M w1 rfl (I_rl_w (by decide) a2 H) (I_sw_z (a2.eq (by decide) (by decide)) S) ((a2.fld 92 23 (by decide) (by decide)).trans w3) (show 1 ≤ p by omega) (show p ≤ 40 by omega) em (show s = wnd (ouT nf n e x) w m by rw [eo]; exact es)
    rw [eN]
    dsimp only
    unfold f_N_window_ok f_N_window_k25_ok f_M_window_ok f_M_window f_M_window_k7
    rw [w2, ← ex, b3]
    generalize (f_M_windows (nI p) x).2 = y at b2 b4
    unfold f_Planner_ofWindow f_Planner_ofWindow_ok f_M_window_k7_ok
    rw [a3]
    have is : (nI s.1).toInt = s.1 := i_nI (by omega)
    have is1 : (nI s.1 - 1).toInt = s.1 - 1 := by rw [i_sub (by rw [is, i_1]; omega) (by rw [is, i_1]; omega), is, i_1]
    by_cases q : 0 ≤ p2.toInt ∧ p2.toInt < s.1
    · obtain ⟨k, hk, rfl⟩ := i_ex (a := p2) (N := s.1) q.1 q.2
      have ik : (nI k).toInt = k := i_nI (by omega)
      have q1 : ¬ (nI k < 0) := by rw [i_lt, i_0]; omega
      have q2 : nI k < nI s.1 := by rw [i_lt, ik, is]; omega
      have q3 : ¬ (nI k < 0) ∧ (¬ (nI s.1 - 1 < nI k)) := ⟨q1, by rw [i_lt, is1, ik]; omega⟩
      have v40 : vp_in (nI k) 40 := vp_in_nI (by omega) (by omega)
      have v41 : vp_in (nI k) 41 := vp_in_nI (by omega) (by omega)
      obtain ⟨r1, r2⟩ := a4 k hk
      obtain ⟨r3, r4⟩ := b4 k hk
      rw [if_neg q1, if_pos q2, if_pos q3, zr_n x 75 (by omega), zr_n x 76 (by omega), zr_n y 154 (by omega), zr_n y 155 (by omega), zf, zf, zf, zf, r1, r2, r3, r4]
      refine ⟨⟨fun z => absurd z g1, fun _ => ⟨fun _ => ⟨a1, fun z => absurd z q1, fun _ => ⟨fun _ => ⟨fun _ => v40, fun _ => ⟨fun _ => v40, fun _ => trivial⟩⟩, fun z => absurd q2 z⟩⟩, fun z => absurd g2 z⟩⟩, ⟨b1, fun _ => ⟨fun _ => ⟨fun _ => v41, fun _ => v41⟩, fun _ => trivial⟩, fun z => absurd q3 z⟩, ?_⟩
      by_cases c0 : p3 = 0
      · subst c0
        rw [if_pos rfl, if_pos (by decide), if_pos rfl]
      · rw [if_neg c0]
        by_cases c1 : p3 = 1
        · subst c1
          rw [if_pos rfl, if_pos (by decide), if_neg (by decide)]
        · rw [if_neg c1, if_neg]
          rw [i_eq, i_0] at c0
          rw [i_eq, i_1] at c1
          rw [i_lt, i_lt, i_0, i_1]
          omega
    · have q3 : ¬ (¬ (p2 < 0) ∧ (¬ (nI s.1 - 1 < p2))) := by rw [i_lt, i_lt, i_0, is1]; omega
      rw [if_neg q3]
      refine ⟨⟨fun z => absurd z g1, fun _ => ⟨fun _ => ⟨a1, fun _ => trivial, fun z1 => ⟨fun z2 => ?_, fun _ => trivial⟩⟩, fun z => absurd g2 z⟩⟩, ⟨b1, fun z => absurd z q3, fun _ => trivial⟩, ?_⟩
      · exfalso
        apply q
        rw [i_lt, i_0] at z1
        rw [i_lt, is] at z2
        omega
      · by_cases z1 : p2 < 0
        · rw [if_pos z1]
        · rw [if_neg z1, if_neg]
          intro z2
          apply q
          rw [i_lt, i_0] at z1
          rw [i_lt, is] at z2
          omega
  · have eN : f_N_window p1 p2 p3 h = (-1, h) := by
      unfold f_N_window
      by_cases d : p1 < 1
      · rw [if_pos d]
      · rw [if_neg d, if_neg]
        rw [i_lt, i_1] at d
        rw [i_le, i40]
        omega
    have oN : f_N_window_ok p1 p2 p3 h := by
      unfold f_N_window_ok
      refine ⟨fun _ => trivial, fun z1 => ⟨fun z2 => ?_, fun _ => trivial⟩⟩
      rw [i_lt, i_1] at z1
      rw [i_le, i40] at z2
      exact absurd ⟨by omega, by omega⟩ c
    have g : ¬ (¬ (p1 < 1) ∧ (¬ (40 < p1))) := by rw [i_lt, i_lt, i_1, i40]; omega
    have eW : f_M_windows p1 h = (-1, h) := by unfold f_M_windows; rw [if_neg g]
    have oW : f_M_windows_ok p1 h := by unfold f_M_windows_ok; exact ⟨fun z => absurd z g, fun _ => trivial⟩
    rw [eN]
    dsimp only
    have q3 : ¬ (¬ (p2 < 0) ∧ (¬ ((-1 : Int32) - 1 < p2))) := by
      have : ((-1 : Int32) - 1).toInt = -2 := rfl
      rw [i_lt, i_lt, i_0, this]; omega
    unfold f_M_window_ok f_M_window f_M_window_k7 f_M_window_k7_ok
    rw [eW]
    dsimp only
    rw [if_neg q3]
    exact ⟨oN, ⟨oW, fun z => absurd z q3, fun _ => trivial⟩, rfl⟩
