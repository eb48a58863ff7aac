/-! ===== plan ===== -/
theorem I_jb_w {J : Nat} {L V : Nat → Nat} {h h' : zm_H} {W : List Nat} {F : List (Nat × Nat)} (w : zWr W F h h') (c : ([73, 74, 146, 147].all (fun i => !(W.contains i) && F.all (fun p => p.1 != i))) = true) (c2 : ([(72, 2), (92, 72)].all (fun p => !(W.contains p.1) && !(F.contains p))) = true) (z78 : h'.2.1 78 0 = h.2.1 78 0) (z79 : h'.2.1 79 0 = h.2.1 79 0) (H : I_jb J L V h) : I_jb J L V h' := by
  obtain ⟨a, b, c0, d, e, f⟩ := H
  have q := w.eq c c2
  refine ⟨a, ?_, ?_, fun j hj => ?_, z78.trans e, z79.trans f⟩
  · exact (q.f 72 2 (by decide)).trans b
  · exact (q.f 92 72 (by decide)).trans c0
  · obtain ⟨d1, d2, d3, d4, d5, d6, d7⟩ := d j hj
    rw [q.a 73 (by decide), q.a 74 (by decide), q.a 146 (by decide), q.a 147 (by decide)]
    exact ⟨d1, d2, d3, d4, d5, d6, d7⟩
theorem c_plan {ns nf n e w J : Nat} {L V : Nat → Nat} {h : zm_H} (W : I_now w h) (H : I_rl ns nf h) (S : I_sw w n e h) (K : I_jb J L V h) (p1 p2 : Int32) : f_N_plan_ok p1 p2 h ∧ f_M_plan_ok p1 p2 (f_N_plan p1 p2 h).2 ∧ (f_N_plan p1 p2 h).1 = (f_M_plan p1 p2 (f_N_plan p1 p2 h).2).1 ∧ I_jb J L V (f_M_plan p1 p2 (f_N_plan p1 p2 h).2).2 := by
  obtain ⟨w1, w2, w3⟩ := W
  have i40 : (40 : Int32).toInt = 40 := rfl
  have K0 := K
  obtain ⟨hJ, K1, K2, K3, K4, K5⟩ := K
  have hL : ∀ j, j < J → L j ≤ 16 := fun j hj => (K3 j hj).1
  have hV : ∀ j, j < J → 1 ≤ V j ∧ V j ≤ 999 := fun j hj => ⟨(K3 j hj).2.1, (K3 j hj).2.2.1⟩
  have bJ : (nI J).toInt = J := i_nI (by omega)
  have bJ1 : (nI J - 1).toInt = J - 1 := by rw [i_sub (by rw [bJ, i_1]; omega) (by rw [bJ, i_1]; omega), bJ, i_1]
  by_cases c : 1 ≤ p1.toInt ∧ p1.toInt ≤ 40
  · obtain ⟨p, hp, rfl⟩ := i_ex (a := p1) (N := 41) (by omega) (by omega)
    have ip : (nI p).toInt = p := i_nI (by omega)
    have g1 : ¬ (nI p < 1) := by rw [i_lt, i_1]; omega
    have g2 : ¬ (40 < nI p) := by rw [i_lt, i40]; omega
    have gM : ¬ (nI p < 1) ∧ (¬ (40 < nI p)) := ⟨g1, g2⟩
    obtain ⟨m, em⟩ : ∃ m, m = min p (480 - w) := ⟨_, rfl⟩
    obtain ⟨s, es⟩ : ∃ s, s = wnd (ouT nf n e h) w m := ⟨_, rfl⟩
    have hs0 := wnd_ok (ouT nf n e h) w m
    rw [← es] at hs0
    have hs : s.1 ≤ 40 := by have := hs0.1; omega
    have iM : (nI s.1).toInt = s.1 := i_nI (by omega)
    have nM : ¬ (nI s.1 = -1) := by rw [i_eq, iM, i_m1]; omega
    by_cases d : p2 = -1 ∨ ∃ j, j < J ∧ p2 = nI j
    · have d1 : ¬ (p2 < -1) := by
        rcases d with d | ⟨j, hj, d⟩
        · rw [d]; decide
        · rw [d, i_lt, i_nI (by omega), i_m1]; omega
      have d2 : p2 < nI J := by
        rcases d with d | ⟨j, hj, d⟩
        · rw [d, i_lt, i_m1, bJ]; omega
        · rw [d, i_lt, i_nI (by omega), bJ]; omega
      obtain ⟨a1, a2, a3, a4⟩ := fw_N w1 H S (show p ≤ 40 by omega) em es
      obtain ⟨x, ex⟩ : ∃ x, x = f_Planner_findWindows (nI w) (nI p) h := ⟨_, rfl⟩
      rw [← ex] at a2 a3 a4
      obtain ⟨b1, b2, b3, b4, X, Y, a, b5, b6, b7, b8, b9⟩ := ch_N (L := L) (V := V) (S := s.2.2.2) hJ hs hL (fun j hj => (hV j hj).2) (fun v hv => by have := hs0.2.2 v hv; omega) (h := x) ((a2.fld 72 2 (by decide) (by decide)).trans K1) a3 (fun j hj => by rw [a2.arr 73 (by decide) (by decide)]; exact (K3 j hj).2.2.2.1) (fun j hj => by rw [a2.arr 74 (by decide) (by decide)]; exact (K3 j hj).2.2.2.2.1) (fun v hv => (a4 v hv).2) (by rw [a2.arr 78 (by decide) (by decide)]; exact K4) (by rw [a2.arr 79 (by decide) (by decide)]; exact K5)
      obtain ⟨y, ey⟩ : ∃ y, y = f_Planner_choose x := ⟨_, rfl⟩
      rw [← ey] at b2 b3 b4 b5 b8
      have eN : f_N_plan (nI p) p2 h = ((if p2 = -1 then zf y 72 12 else zr y 81 p2), y) := by
        unfold f_N_plan f_N_plan_k41 f_N_plan_k48
        rw [if_neg g1, if_neg g2, if_neg d1, K1, if_pos d2, w2, ← ex, ← ey]
      have wy : zWr [21, 22, 75, 76, 77, 78, 79, 80, 81] [(15, 9), (72, 5), (72, 12), (72, 13)] h y := zWr_tr b2 (by decide) (by decide) (zWr_tr a2 (by decide) (by decide) (zWr.refl _ _))
      have oN : f_N_plan_ok (nI p) p2 h := by
        unfold f_N_plan_ok f_N_plan_k41_ok f_N_plan_k48_ok
        rw [K1, w2, ← ex]
        refine ⟨fun z => absurd z g1, fun _ => ⟨fun z => absurd z g2, fun _ => ⟨fun z => absurd z d1, fun _ => ⟨fun _ => ⟨a1, b1, fun _ => trivial, fun z => ?_⟩, fun z => absurd d2 z⟩⟩⟩⟩
        rcases d with d | ⟨j, hj, d⟩
        · exact absurd d z
        · rw [d]; exact vp_in_nI (by omega) (by omega)
      have eo : ouT nf n e y = ouT nf n e h := by
        funext t
        unfold ouT
        rw [Ev_w (by decide) wy, seaP_eq (fun i hi => wy.arr i (by simp at hi ⊢; omega) (by simp at hi ⊢; omega)) n e t]
      obtain ⟨r1, r2, r3, r4⟩ := wi_M w1 rfl (I_rl_w (by decide) wy H) (I_sw_z (wy.eq (by decide) (by decide)) S) ((wy.fld 92 23 (by decide) (by decide)).trans w3) (show 1 ≤ p by omega) (show p ≤ 40 by omega) em (show s = wnd (ouT nf n e y) w m by rw [eo]; exact es)
      rw [eN]
      dsimp only
      have Kz : I_jb J L V (f_M_plan (nI p) p2 y).2 := by
        have wm := f_M_plan_w (nI p) p2 y
        refine I_jb_w wm (by decide) (by decide) (by rw [wm.arr 78 (by decide) (by decide)]) (by rw [wm.arr 79 (by decide) (by decide)]) ?_
        exact I_jb_w wy (by decide) (by decide) (b3.trans K4.symm) (b4.trans K5.symm) K0
      suffices q : f_M_plan_ok (nI p) p2 y ∧ (if p2 = -1 then zf y 72 12 else zr y 81 p2) = (f_M_plan (nI p) p2 y).1 from ⟨oN, q.1, q.2, Kz⟩
      clear Kz
      unfold f_M_plan_ok f_M_plan f_M_plan_k5_ok f_M_plan_k5
      rw [r3]
      generalize (f_M_windows (nI p) y).2 = z at r2 r4
      have zJ : zf z 92 72 = nI J := (r2.fld 92 72 (by decide) (by decide)).trans ((wy.fld 92 72 (by decide) (by decide)).trans K2)
      have pk := pl_k hJ hs hL hV (S := s.2.2.2) (fun v hv => by have := hs0.2.2 v hv; omega) zJ (fun j hj => by rw [r2.arr 146 (by decide) (by decide), r2.arr 147 (by decide) (by decide), wy.arr 146 (by decide) (by decide), wy.arr 147 (by decide) (by decide)]; exact (K3 j hj).2.2.2.2.2) (fun v hv => (r4 v hv).2) b6 b7 b9 p2 d
      refine ⟨⟨r1, fun q => absurd q nM, fun _ => ⟨fun _ => pk.1, fun _ => ⟨fun _ => pk.1, fun _ => trivial⟩⟩⟩, ?_⟩
      · rw [if_neg nM]
        by_cases q : p2 = -1
        · rw [if_pos q, if_pos q, pk.2.1 q]; exact b5
        · rcases d with d | ⟨j, hj, d⟩
          · exact absurd d q
          · have q2 : ¬ (p2 < 0) ∧ (¬ ((zf z 92 72) - 1 < p2)) := by
              rw [zJ, i_lt, i_lt, bJ1, d, i_nI (by omega), i_0]; omega
            rw [if_neg q, if_neg q, if_pos q2, pk.2.2 j hj d, d, zr_n y 81 (by omega)]
            exact b8 j hj
    · have eN : f_N_plan (nI p) p2 h = (-1, h) := by
        unfold f_N_plan
        rw [if_neg g1, if_neg g2]
        by_cases d1 : p2 < -1
        · rw [if_pos d1]
        · rw [if_neg d1, K1, if_neg]
          intro d2
          apply d
          rw [i_lt, i_m1] at d1
          rw [i_lt, bJ] at d2
          by_cases q : p2 = -1
          · exact Or.inl q
          · rw [i_eq, i_m1] at q
            obtain ⟨j, hj, ej⟩ := i_ex (a := p2) (N := J) (by omega) d2
            exact Or.inr ⟨j, hj, ej⟩
      have oN : f_N_plan_ok (nI p) p2 h := by
        unfold f_N_plan_ok
        rw [K1]
        refine ⟨fun z => absurd z g1, fun _ => ⟨fun z => absurd z g2, fun _ => ⟨fun _ => trivial, fun d1 => ⟨fun d2 => ?_, fun _ => trivial⟩⟩⟩⟩
        exfalso
        apply d
        rw [i_lt, i_m1] at d1
        rw [i_lt, bJ] at d2
        by_cases q : p2 = -1
        · exact Or.inl q
        · rw [i_eq, i_m1] at q
          obtain ⟨j, hj, ej⟩ := i_ex (a := p2) (N := J) (by omega) d2
          exact Or.inr ⟨j, hj, ej⟩
      obtain ⟨r1, r2, r3, r4⟩ := wi_M w1 rfl H S w3 (show 1 ≤ p by omega) (show p ≤ 40 by omega) em es
      rw [eN]
      dsimp only
      have wm := f_M_plan_w (nI p) p2 h
      have Kz : I_jb J L V (f_M_plan (nI p) p2 h).2 := I_jb_w wm (by decide) (by decide) (by rw [wm.arr 78 (by decide) (by decide)]) (by rw [wm.arr 79 (by decide) (by decide)]) K0
      have q1 : ¬ p2 = -1 := fun z => d (Or.inl z)
      suffices q : f_M_plan_ok (nI p) p2 h ∧ -1 = (f_M_plan (nI p) p2 h).1 from ⟨oN, q.1, q.2, Kz⟩
      clear Kz wm
      unfold f_M_plan_ok f_M_plan f_M_plan_k5_ok f_M_plan_k5
      rw [r3]
      generalize (f_M_windows (nI p) h).2 = z at r2 r4
      have zJ : zf z 92 72 = nI J := (r2.fld 92 72 (by decide) (by decide)).trans K2
      have q2 : ¬ (¬ (p2 < 0) ∧ (¬ ((zf z 92 72) - 1 < p2))) := by
        intro q
        rw [zJ, i_lt, i_lt, bJ1, i_0] at q
        obtain ⟨j, hj, ej⟩ := i_ex (a := p2) (N := J) (by omega) (by omega)
        exact d (Or.inr ⟨j, hj, ej⟩)
      refine ⟨⟨r1, fun q => absurd q nM, fun _ => ⟨fun q => absurd q q1, fun _ => ⟨fun q => absurd q q2, fun _ => trivial⟩⟩⟩, ?_⟩
      · rw [if_neg nM, if_neg q1, if_neg q2]
  · have eN : f_N_plan p1 p2 h = (-1, h) := by
      unfold f_N_plan
      by_cases d : p1 < 1
      · rw [if_pos d]
      · rw [if_neg d, if_pos]
        rw [i_lt, i_1] at d
        rw [i_lt, i40]
        omega
    have oN : f_N_plan_ok p1 p2 h := by
      unfold f_N_plan_ok
      refine ⟨fun _ => trivial, fun z1 => ⟨fun _ => trivial, fun z2 => ?_⟩⟩
      rw [i_lt, i_1] at z1
      rw [i_lt, i40] at z2
      exact absurd ⟨by omega, by omega⟩ c
    have g : ¬ (¬ (p1 < 1) ∧ (¬ (40 < p1))) := by rw [i_lt, i_lt, i_1, i40]; omega
    have eW : f_M_windows p1 h = (-1, h) := by unfold f_M_windows; rw [if_neg g]
    have oW : f_M_windows_ok p1 h := by unfold f_M_windows_ok; exact ⟨fun z => absurd z g, fun _ => trivial⟩
    have eM : f_M_plan p1 p2 h = (-1, h) := by
      unfold f_M_plan f_M_plan_k5
      rw [eW]
      exact if_pos rfl
    rw [eN]
    dsimp only
    rw [eM]
    unfold f_M_plan_ok f_M_plan_k5_ok
    rw [eW]
    exact ⟨oN, ⟨oW, fun _ => trivial, fun z => absurd rfl z⟩, rfl, K0⟩
