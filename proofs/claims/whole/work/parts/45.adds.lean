/-! ===== calls that add one: both sides add the same ===== -/
theorem a_drift {h : zm_H} {n w : Nat} (hn : n ≤ 30) (e1 : h.2.1 1 1 = nI n) (e2 : h.2.1 92 28 = nI n) (w0 : w ≤ 480) (w1 : h.2.1 0 0 = nI w) (w2 : h.2.1 92 23 = nI w) (p1 p2 p3 : Int32) : f_N_drift_ok p1 p2 p3 h ∧ f_M_drift_ok p1 p2 p3 (f_N_drift p1 p2 p3 h).2 ∧ (f_N_drift p1 p2 p3 h).1 = (f_M_drift p1 p2 p3 (f_N_drift p1 p2 p3 h).2).1 ∧ (((0 ≤ p1.toInt ∧ p1.toInt ≤ p2.toInt ∧ p2.toInt < 480 ∧ -30 ≤ p3.toInt ∧ p3.toInt ≤ 30 ∧ w < 480) ∧ n < 30 ∧ (f_M_drift p1 p2 p3 (f_N_drift p1 p2 p3 h).2).2 = (zm_si (zm_si (zm_si (zm_si (zm_si (zm_si (zm_si (zm_si (zm_si (zm_si h 6 n (p1)) 7 n (p2)) 8 n (p3)) 9 n (nI w)) 1 1 (nI (n + 1))) 108 n (p1)) 109 n (p2)) 110 n (p3)) 111 n (nI w)) 92 28 (nI (n + 1)))) ∨ (f_M_drift p1 p2 p3 (f_N_drift p1 p2 p3 h).2).2 = h) := by
  have b0 : (nI n).toInt = n := i_nI (by omega)
  have c0 : (nI n).toNatClampNeg = n := nI_c (by omega)
  have b_w : (nI w).toInt = w := i_nI (by omega)
  by_cases V : (0 ≤ p1.toInt ∧ p1.toInt ≤ p2.toInt ∧ p2.toInt < 480 ∧ -30 ≤ p3.toInt ∧ p3.toInt ≤ 30 ∧ w < 480) ∧ n < 30
  · have i1 : vp_in (nI n) 30 := vp_in_nI V.2 (by omega)
    have i2 : vp_in (nI n) 8 ∨ True := Or.inr trivial
    have okN : f_N_drift_ok p1 p2 p3 h := by
      unfold f_N_drift_ok f_Swell_tellDrift_ok
      simp only [zf, zr, zs, zp, e1, e2, w1, w2, i1, i2, implies_true, and_true, true_and]
    have eN : f_N_drift p1 p2 p3 h = (nI (n + 1), (zm_si (zm_si (zm_si (zm_si (zm_si h 6 n (p1)) 7 n (p2)) 8 n (p3)) 9 n (nI w)) 1 1 (nI (n + 1)))) := by
      unfold f_N_drift f_Swell_tellDrift
      simp only [zf, zr, zs, zp, e1, e2, w1, w2, c0]
      repeat' split
      all_goals first | (exfalso; simp only [i_lt, i_le, i_eq, i_m1, i_m30, Int32.reduceToInt, b0, b_w] at *; omega) | rw [nI_succ]
    refine ⟨okN, ?_⟩
    rw [eN]
    dsimp only
    obtain ⟨G, eG⟩ : ∃ G, G = (zm_si (zm_si (zm_si (zm_si (zm_si h 6 n (p1)) 7 n (p2)) 8 n (p3)) 9 n (nI w)) 1 1 (nI (n + 1))) := ⟨_, rfl⟩
    rw [← eG]
    have g_e2 : G.2.1 92 28 = nI n := by rw [eG]; simp only [zf_si]; simpa using e2
    have g_w2 : G.2.1 92 23 = nI w := by rw [eG]; simp only [zf_si]; simpa using w2
    have okM : f_M_drift_ok p1 p2 p3 G := by
      unfold f_M_drift_ok
      simp only [zf, zr, zs, zp, g_e2, g_w2, i1, i2, implies_true, and_true, true_and]
    have eM : f_M_drift p1 p2 p3 G = (nI (n + 1), (zm_si (zm_si (zm_si (zm_si (zm_si G 108 n (p1)) 109 n (p2)) 110 n (p3)) 111 n (nI w)) 92 28 (nI (n + 1)))) := by
      unfold f_M_drift
      simp only [zf, zr, zs, zp, g_e2, g_w2, c0]
      clear eG eN
      repeat' split
      all_goals first | (exfalso; simp only [i_lt, i_le, i_eq, i_m1, i_m30, Int32.reduceToInt, b0, b_w] at *; omega) | rw [nI_succ]
    refine ⟨okM, ?_⟩
    rw [eM]
    exact ⟨rfl, Or.inl ⟨V.1, V.2, by rw [eG]⟩⟩
  · have eN : f_N_drift p1 p2 p3 h = (-1, h) := by
      unfold f_N_drift f_Swell_tellDrift
      repeat' split
      all_goals first | rfl | (exfalso; simp only [zf, zr, e1, e2, w1, w2] at *; simp only [i_lt, i_le, i_eq, i_m1, i_m30, Int32.reduceToInt, b0, b_w] at *; omega)
    have okN : f_N_drift_ok p1 p2 p3 h := by
      unfold f_N_drift_ok f_Swell_tellDrift_ok
      simp only [zf, zr, zs, zp, e1, e2, w1, w2, implies_true, and_true, true_and]
      intros
      exfalso
      simp only [i_lt, i_le, i_eq, i_m1, i_m30, Int32.reduceToInt, b0, b_w] at *
      omega
    refine ⟨okN, ?_⟩
    rw [eN]
    dsimp only
    have eM : f_M_drift p1 p2 p3 h = (-1, h) := by
      unfold f_M_drift
      repeat' split
      all_goals first | rfl | (exfalso; simp only [zf, zr, e1, e2, w1, w2] at *; simp only [i_lt, i_le, i_eq, i_m1, i_m30, Int32.reduceToInt, b0, b_w] at *; omega)
    have okM : f_M_drift_ok p1 p2 p3 h := by
      unfold f_M_drift_ok
      simp only [zf, zr, zs, zp, e1, e2, w1, w2, implies_true, and_true, true_and]
      intros
      exfalso
      simp only [i_lt, i_le, i_eq, i_m1, i_m30, Int32.reduceToInt, b0, b_w] at *
      omega
    refine ⟨okM, ?_⟩
    rw [eM]
    exact ⟨rfl, Or.inr rfl⟩
theorem a_force {h : zm_H} {n w s : Nat} (hn : n ≤ 15) (e1 : h.2.1 15 4 = nI n) (e2 : h.2.1 92 20 = nI n) (s0 : s ≤ 10) (s1 : h.2.1 15 0 = nI s) (s2 : h.2.1 92 15 = nI s) (w0 : w ≤ 480) (w1 : h.2.1 0 0 = nI w) (w2 : h.2.1 92 23 = nI w) (sm : (nI s - 1).toInt = s - 1) (p1 p2 : Int32) : f_N_force_ok p1 p2 h ∧ f_M_force_ok p1 p2 (f_N_force p1 p2 h).2 ∧ (f_N_force p1 p2 h).1 = (f_M_force p1 p2 (f_N_force p1 p2 h).2).1 ∧ (((0 ≤ p1.toInt ∧ p1.toInt < s ∧ (w : Int) ≤ p2.toInt ∧ p2.toInt < 480) ∧ n < 15 ∧ (f_M_force p1 p2 (f_N_force p1 p2 h).2).2 = (zm_si (zm_si (zm_si (zm_si (zm_si (zm_si h 19 n (p1)) 20 n (p2)) 15 4 (nI (n + 1))) 103 n (p1)) 104 n (p2)) 92 20 (nI (n + 1)))) ∨ (f_M_force p1 p2 (f_N_force p1 p2 h).2).2 = h) := by
  have b0 : (nI n).toInt = n := i_nI (by omega)
  have c0 : (nI n).toNatClampNeg = n := nI_c (by omega)
  have b_w : (nI w).toInt = w := i_nI (by omega)
  have b_s : (nI s).toInt = s := i_nI (by omega)
  by_cases V : (0 ≤ p1.toInt ∧ p1.toInt < s ∧ (w : Int) ≤ p2.toInt ∧ p2.toInt < 480) ∧ n < 15
  · have i1 : vp_in (nI n) 15 := vp_in_nI V.2 (by omega)
    have i2 : vp_in (nI n) 8 ∨ True := Or.inr trivial
    have okN : f_N_force_ok p1 p2 h := by
      unfold f_N_force_ok f_Rules_putInForce_ok
      simp only [zf, zr, zs, zp, e1, e2, s1, s2, w1, w2, i1, i2, implies_true, and_true, true_and]
    have eN : f_N_force p1 p2 h = (nI (n + 1), (zm_si (zm_si (zm_si h 19 n (p1)) 20 n (p2)) 15 4 (nI (n + 1)))) := by
      unfold f_N_force f_Rules_putInForce
      simp only [zf, zr, zs, zp, e1, e2, s1, s2, w1, w2, c0]
      repeat' split
      all_goals first | (exfalso; simp only [i_lt, i_le, i_eq, i_m1, i_m30, Int32.reduceToInt, b0, b_w, b_s, sm] at *; omega) | rw [nI_succ]
    refine ⟨okN, ?_⟩
    rw [eN]
    dsimp only
    obtain ⟨G, eG⟩ : ∃ G, G = (zm_si (zm_si (zm_si h 19 n (p1)) 20 n (p2)) 15 4 (nI (n + 1))) := ⟨_, rfl⟩
    rw [← eG]
    have g_e2 : G.2.1 92 20 = nI n := by rw [eG]; simp only [zf_si]; simpa using e2
    have g_s2 : G.2.1 92 15 = nI s := by rw [eG]; simp only [zf_si]; simpa using s2
    have g_w2 : G.2.1 92 23 = nI w := by rw [eG]; simp only [zf_si]; simpa using w2
    have okM : f_M_force_ok p1 p2 G := by
      unfold f_M_force_ok
      simp only [zf, zr, zs, zp, g_e2, g_s2, g_w2, i1, i2, implies_true, and_true, true_and]
    have eM : f_M_force p1 p2 G = (nI (n + 1), (zm_si (zm_si (zm_si G 103 n (p1)) 104 n (p2)) 92 20 (nI (n + 1)))) := by
      unfold f_M_force
      simp only [zf, zr, zs, zp, g_e2, g_s2, g_w2, c0]
      clear eG eN
      repeat' split
      all_goals first | (exfalso; simp only [i_lt, i_le, i_eq, i_m1, i_m30, Int32.reduceToInt, b0, b_w, b_s, sm] at *; omega) | rw [nI_succ]
    refine ⟨okM, ?_⟩
    rw [eM]
    exact ⟨rfl, Or.inl ⟨V.1, V.2, by rw [eG]⟩⟩
  · have eN : f_N_force p1 p2 h = (-1, h) := by
      unfold f_N_force f_Rules_putInForce
      repeat' split
      all_goals first | rfl | (exfalso; simp only [zf, zr, e1, e2, s1, s2, w1, w2] at *; simp only [i_lt, i_le, i_eq, i_m1, i_m30, Int32.reduceToInt, b0, b_w, b_s, sm] at *; omega)
    have okN : f_N_force_ok p1 p2 h := by
      unfold f_N_force_ok f_Rules_putInForce_ok
      simp only [zf, zr, zs, zp, e1, e2, s1, s2, w1, w2, implies_true, and_true, true_and]
      intros
      exfalso
      simp only [i_lt, i_le, i_eq, i_m1, i_m30, Int32.reduceToInt, b0, b_w, b_s, sm] at *
      omega
    refine ⟨okN, ?_⟩
    rw [eN]
    dsimp only
    have eM : f_M_force p1 p2 h = (-1, h) := by
      unfold f_M_force
      repeat' split
      all_goals first | rfl | (exfalso; simp only [zf, zr, e1, e2, s1, s2, w1, w2] at *; simp only [i_lt, i_le, i_eq, i_m1, i_m30, Int32.reduceToInt, b0, b_w, b_s, sm] at *; omega)
    have okM : f_M_force_ok p1 p2 h := by
      unfold f_M_force_ok
      simp only [zf, zr, zs, zp, e1, e2, s1, s2, w1, w2, implies_true, and_true, true_and]
      intros
      exfalso
      simp only [i_lt, i_le, i_eq, i_m1, i_m30, Int32.reduceToInt, b0, b_w, b_s, sm] at *
      omega
    refine ⟨okM, ?_⟩
    rw [eM]
    exact ⟨rfl, Or.inr rfl⟩
theorem a_raft {h : zm_H} {n w : Nat} (hn : n ≤ 10) (e1 : h.2.1 23 0 = nI n) (e2 : h.2.1 92 33 = nI n) (w0 : w ≤ 480) (w1 : h.2.1 0 0 = nI w) (w2 : h.2.1 92 23 = nI w) (p1 p2 : Int32) : f_N_raft_ok p1 p2 h ∧ f_M_raft_ok p1 p2 (f_N_raft p1 p2 h).2 ∧ (f_N_raft p1 p2 h).1 = (f_M_raft p1 p2 (f_N_raft p1 p2 h).2).1 ∧ (((1 ≤ p1.toInt ∧ p1.toInt ≤ 20 ∧ 2 ≤ p2.toInt ∧ p2.toInt ≤ 20) ∧ n < 10 ∧ (f_M_raft p1 p2 (f_N_raft p1 p2 h).2).2 = (zm_si (zm_si (zm_si (zm_si (zm_si (zm_si (zm_si (zm_si h 24 n (p1)) 25 n (p2)) 26 n (nI w)) 23 0 (nI (n + 1))) 112 n (p1)) 113 n (p2)) 114 n (nI w)) 92 33 (nI (n + 1)))) ∨ (f_M_raft p1 p2 (f_N_raft p1 p2 h).2).2 = h) := by
  have b0 : (nI n).toInt = n := i_nI (by omega)
  have c0 : (nI n).toNatClampNeg = n := nI_c (by omega)
  have b_w : (nI w).toInt = w := i_nI (by omega)
  by_cases V : (1 ≤ p1.toInt ∧ p1.toInt ≤ 20 ∧ 2 ≤ p2.toInt ∧ p2.toInt ≤ 20) ∧ n < 10
  · have i1 : vp_in (nI n) 10 := vp_in_nI V.2 (by omega)
    have i2 : vp_in (nI n) 8 ∨ True := Or.inr trivial
    have okN : f_N_raft_ok p1 p2 h := by
      unfold f_N_raft_ok f_Log_addRaft_ok
      simp only [zf, zr, zs, zp, e1, e2, w1, w2, i1, i2, implies_true, and_true, true_and]
    have eN : f_N_raft p1 p2 h = (nI n, (zm_si (zm_si (zm_si (zm_si h 24 n (p1)) 25 n (p2)) 26 n (nI w)) 23 0 (nI (n + 1)))) := by
      unfold f_N_raft f_Log_addRaft
      simp only [zf, zr, zs, zp, e1, e2, w1, w2, c0]
      repeat' split
      all_goals first | (exfalso; simp only [i_lt, i_le, i_eq, i_m1, i_m30, Int32.reduceToInt, b0, b_w] at *; omega) | rw [nI_1, nI_pred]
    refine ⟨okN, ?_⟩
    rw [eN]
    dsimp only
    obtain ⟨G, eG⟩ : ∃ G, G = (zm_si (zm_si (zm_si (zm_si h 24 n (p1)) 25 n (p2)) 26 n (nI w)) 23 0 (nI (n + 1))) := ⟨_, rfl⟩
    rw [← eG]
    have g_e2 : G.2.1 92 33 = nI n := by rw [eG]; simp only [zf_si]; simpa using e2
    have g_w2 : G.2.1 92 23 = nI w := by rw [eG]; simp only [zf_si]; simpa using w2
    have okM : f_M_raft_ok p1 p2 G := by
      unfold f_M_raft_ok
      simp only [zf, zr, zs, zp, g_e2, g_w2, i1, i2, implies_true, and_true, true_and]
    have eM : f_M_raft p1 p2 G = (nI n, (zm_si (zm_si (zm_si (zm_si G 112 n (p1)) 113 n (p2)) 114 n (nI w)) 92 33 (nI (n + 1)))) := by
      unfold f_M_raft
      simp only [zf, zr, zs, zp, g_e2, g_w2, c0]
      clear eG eN
      repeat' split
      all_goals first | (exfalso; simp only [i_lt, i_le, i_eq, i_m1, i_m30, Int32.reduceToInt, b0, b_w] at *; omega) | rw [nI_1, nI_pred]
    refine ⟨okM, ?_⟩
    rw [eM]
    exact ⟨rfl, Or.inl ⟨V.1, V.2, by rw [eG]⟩⟩
  · have eN : f_N_raft p1 p2 h = (-1, h) := by
      unfold f_N_raft f_Log_addRaft
      repeat' split
      all_goals first | rfl | (exfalso; simp only [zf, zr, e1, e2, w1, w2] at *; simp only [i_lt, i_le, i_eq, i_m1, i_m30, Int32.reduceToInt, b0, b_w] at *; omega)
    have okN : f_N_raft_ok p1 p2 h := by
      unfold f_N_raft_ok f_Log_addRaft_ok
      simp only [zf, zr, zs, zp, e1, e2, w1, w2, implies_true, and_true, true_and]
      intros
      exfalso
      simp only [i_lt, i_le, i_eq, i_m1, i_m30, Int32.reduceToInt, b0, b_w] at *
      omega
    refine ⟨okN, ?_⟩
    rw [eN]
    dsimp only
    have eM : f_M_raft p1 p2 h = (-1, h) := by
      unfold f_M_raft
      repeat' split
      all_goals first | rfl | (exfalso; simp only [zf, zr, e1, e2, w1, w2] at *; simp only [i_lt, i_le, i_eq, i_m1, i_m30, Int32.reduceToInt, b0, b_w] at *; omega)
    have okM : f_M_raft_ok p1 p2 h := by
      unfold f_M_raft_ok
      simp only [zf, zr, zs, zp, e1, e2, w1, w2, implies_true, and_true, true_and]
      intros
      exfalso
      simp only [i_lt, i_le, i_eq, i_m1, i_m30, Int32.reduceToInt, b0, b_w] at *
      omega
    refine ⟨okM, ?_⟩
    rw [eM]
    exact ⟨rfl, Or.inr rfl⟩
theorem a_lane {h : zm_H} {n : Nat} (hn : n ≤ 10) (e1 : h.2.1 82 3 = nI n) (e2 : h.2.1 92 37 = nI n) (p1 p2 p3 : Int32) : f_N_lane_ok p1 p2 p3 h ∧ f_M_lane_ok p1 p2 p3 (f_N_lane p1 p2 p3 h).2 ∧ (f_N_lane p1 p2 p3 h).1 = (f_M_lane p1 p2 p3 (f_N_lane p1 p2 p3 h).2).1 ∧ (((0 ≤ p1.toInt ∧ p1.toInt < 10 ∧ 0 ≤ p2.toInt ∧ p2.toInt ≤ p3.toInt ∧ p3.toInt < 60) ∧ n < 10 ∧ (f_M_lane p1 p2 p3 (f_N_lane p1 p2 p3 h).2).2 = (zm_si (zm_si (zm_si (zm_si (zm_si (zm_si (zm_si (zm_si h 83 n (p1)) 84 n (p2)) 85 n (p3)) 82 3 (nI (n + 1))) 115 n (p1)) 116 n (p2)) 117 n (p3)) 92 37 (nI (n + 1)))) ∨ (f_M_lane p1 p2 p3 (f_N_lane p1 p2 p3 h).2).2 = h) := by
  have b0 : (nI n).toInt = n := i_nI (by omega)
  have c0 : (nI n).toNatClampNeg = n := nI_c (by omega)
  by_cases V : (0 ≤ p1.toInt ∧ p1.toInt < 10 ∧ 0 ≤ p2.toInt ∧ p2.toInt ≤ p3.toInt ∧ p3.toInt < 60) ∧ n < 10
  · have i1 : vp_in (nI n) 10 := vp_in_nI V.2 (by omega)
    have i2 : vp_in (nI n) 8 ∨ True := Or.inr trivial
    have okN : f_N_lane_ok p1 p2 p3 h := by
      unfold f_N_lane_ok f_Ground_shut_ok
      simp only [zf, zr, zs, zp, e1, e2, i1, i2, implies_true, and_true, true_and]
    have eN : f_N_lane p1 p2 p3 h = (nI (n + 1), (zm_si (zm_si (zm_si (zm_si h 83 n (p1)) 84 n (p2)) 85 n (p3)) 82 3 (nI (n + 1)))) := by
      unfold f_N_lane f_Ground_shut
      simp only [zf, zr, zs, zp, e1, e2, c0]
      repeat' split
      all_goals first | (exfalso; simp only [i_lt, i_le, i_eq, i_m1, i_m30, Int32.reduceToInt, b0] at *; omega) | rw [nI_succ]
    refine ⟨okN, ?_⟩
    rw [eN]
    dsimp only
    obtain ⟨G, eG⟩ : ∃ G, G = (zm_si (zm_si (zm_si (zm_si h 83 n (p1)) 84 n (p2)) 85 n (p3)) 82 3 (nI (n + 1))) := ⟨_, rfl⟩
    rw [← eG]
    have g_e2 : G.2.1 92 37 = nI n := by rw [eG]; simp only [zf_si]; simpa using e2
    have okM : f_M_lane_ok p1 p2 p3 G := by
      unfold f_M_lane_ok
      simp only [zf, zr, zs, zp, g_e2, i1, i2, implies_true, and_true, true_and]
    have eM : f_M_lane p1 p2 p3 G = (nI (n + 1), (zm_si (zm_si (zm_si (zm_si G 115 n (p1)) 116 n (p2)) 117 n (p3)) 92 37 (nI (n + 1)))) := by
      unfold f_M_lane
      simp only [zf, zr, zs, zp, g_e2, c0]
      clear eG eN
      repeat' split
      all_goals first | (exfalso; simp only [i_lt, i_le, i_eq, i_m1, i_m30, Int32.reduceToInt, b0] at *; omega) | rw [nI_succ]
    refine ⟨okM, ?_⟩
    rw [eM]
    exact ⟨rfl, Or.inl ⟨V.1, V.2, by rw [eG]⟩⟩
  · have eN : f_N_lane p1 p2 p3 h = (-1, h) := by
      unfold f_N_lane f_Ground_shut
      repeat' split
      all_goals first | rfl | (exfalso; simp only [zf, zr, e1, e2] at *; simp only [i_lt, i_le, i_eq, i_m1, i_m30, Int32.reduceToInt, b0] at *; omega)
    have okN : f_N_lane_ok p1 p2 p3 h := by
      unfold f_N_lane_ok f_Ground_shut_ok
      simp only [zf, zr, zs, zp, e1, e2, implies_true, and_true, true_and]
      intros
      exfalso
      simp only [i_lt, i_le, i_eq, i_m1, i_m30, Int32.reduceToInt, b0] at *
      omega
    refine ⟨okN, ?_⟩
    rw [eN]
    dsimp only
    have eM : f_M_lane p1 p2 p3 h = (-1, h) := by
      unfold f_M_lane
      repeat' split
      all_goals first | rfl | (exfalso; simp only [zf, zr, e1, e2] at *; simp only [i_lt, i_le, i_eq, i_m1, i_m30, Int32.reduceToInt, b0] at *; omega)
    have okM : f_M_lane_ok p1 p2 p3 h := by
      unfold f_M_lane_ok
      simp only [zf, zr, zs, zp, e1, e2, implies_true, and_true, true_and]
      intros
      exfalso
      simp only [i_lt, i_le, i_eq, i_m1, i_m30, Int32.reduceToInt, b0] at *
      omega
    refine ⟨okM, ?_⟩
    rw [eM]
    exact ⟨rfl, Or.inr rfl⟩
theorem a_want {h : zm_H} {n : Nat} (hn : n ≤ 6) (e1 : h.2.1 72 2 = nI n) (e2 : h.2.1 92 72 = nI n) (p1 p2 : Int32) : f_N_want_ok p1 p2 h ∧ f_M_want_ok p1 p2 (f_N_want p1 p2 h).2 ∧ (f_N_want p1 p2 h).1 = (f_M_want p1 p2 (f_N_want p1 p2 h).2).1 ∧ (((1 ≤ p1.toInt ∧ p1.toInt ≤ 16 ∧ 1 ≤ p2.toInt ∧ p2.toInt ≤ 999) ∧ n < 6 ∧ (f_M_want p1 p2 (f_N_want p1 p2 h).2).2 = (zm_si (zm_si (zm_si (zm_si (zm_si (zm_si h 73 n (p1)) 74 n (p2)) 72 2 (nI (n + 1))) 146 n (p1)) 147 n (p2)) 92 72 (nI (n + 1)))) ∨ (f_M_want p1 p2 (f_N_want p1 p2 h).2).2 = h) := by
  have b0 : (nI n).toInt = n := i_nI (by omega)
  have c0 : (nI n).toNatClampNeg = n := nI_c (by omega)
  by_cases V : (1 ≤ p1.toInt ∧ p1.toInt ≤ 16 ∧ 1 ≤ p2.toInt ∧ p2.toInt ≤ 999) ∧ n < 6
  · have i1 : vp_in (nI n) 6 := vp_in_nI V.2 (by omega)
    have i2 : vp_in (nI n) 8 ∨ True := Or.inr trivial
    have i2 : vp_in (nI n) 8 := vp_in_nI (by omega) (by omega)
    have okN : f_N_want_ok p1 p2 h := by
      unfold f_N_want_ok f_Planner_addJob_ok
      simp only [zf, zr, zs, zp, e1, e2, i1, i2, implies_true, and_true, true_and]
    have eN : f_N_want p1 p2 h = (nI (n + 1), (zm_si (zm_si (zm_si h 73 n (p1)) 74 n (p2)) 72 2 (nI (n + 1)))) := by
      unfold f_N_want f_Planner_addJob
      simp only [zf, zr, zs, zp, e1, e2, c0]
      repeat' split
      all_goals first | (exfalso; simp only [i_lt, i_le, i_eq, i_m1, i_m30, Int32.reduceToInt, b0] at *; omega) | rw [nI_succ]
    refine ⟨okN, ?_⟩
    rw [eN]
    dsimp only
    obtain ⟨G, eG⟩ : ∃ G, G = (zm_si (zm_si (zm_si h 73 n (p1)) 74 n (p2)) 72 2 (nI (n + 1))) := ⟨_, rfl⟩
    rw [← eG]
    have g_e2 : G.2.1 92 72 = nI n := by rw [eG]; simp only [zf_si]; simpa using e2
    have okM : f_M_want_ok p1 p2 G := by
      unfold f_M_want_ok
      simp only [zf, zr, zs, zp, g_e2, i1, i2, implies_true, and_true, true_and]
    have eM : f_M_want p1 p2 G = (nI (n + 1), (zm_si (zm_si (zm_si G 146 n (p1)) 147 n (p2)) 92 72 (nI (n + 1)))) := by
      unfold f_M_want
      simp only [zf, zr, zs, zp, g_e2, c0]
      clear eG eN
      repeat' split
      all_goals first | (exfalso; simp only [i_lt, i_le, i_eq, i_m1, i_m30, Int32.reduceToInt, b0] at *; omega) | rw [nI_succ]
    refine ⟨okM, ?_⟩
    rw [eM]
    exact ⟨rfl, Or.inl ⟨V.1, V.2, by rw [eG]⟩⟩
  · have eN : f_N_want p1 p2 h = (-1, h) := by
      unfold f_N_want f_Planner_addJob
      repeat' split
      all_goals first | rfl | (exfalso; simp only [zf, zr, e1, e2] at *; simp only [i_lt, i_le, i_eq, i_m1, i_m30, Int32.reduceToInt, b0] at *; omega)
    have okN : f_N_want_ok p1 p2 h := by
      unfold f_N_want_ok f_Planner_addJob_ok
      simp only [zf, zr, zs, zp, e1, e2, implies_true, and_true, true_and]
      intros
      exfalso
      simp only [i_lt, i_le, i_eq, i_m1, i_m30, Int32.reduceToInt, b0] at *
      omega
    refine ⟨okN, ?_⟩
    rw [eN]
    dsimp only
    have eM : f_M_want p1 p2 h = (-1, h) := by
      unfold f_M_want
      repeat' split
      all_goals first | rfl | (exfalso; simp only [zf, zr, e1, e2] at *; simp only [i_lt, i_le, i_eq, i_m1, i_m30, Int32.reduceToInt, b0] at *; omega)
    have okM : f_M_want_ok p1 p2 h := by
      unfold f_M_want_ok
      simp only [zf, zr, zs, zp, e1, e2, implies_true, and_true, true_and]
      intros
      exfalso
      simp only [i_lt, i_le, i_eq, i_m1, i_m30, Int32.reduceToInt, b0] at *
      omega
    refine ⟨okM, ?_⟩
    rw [eM]
    exact ⟨rfl, Or.inr rfl⟩
