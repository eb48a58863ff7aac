/-! ===== what is BOOKED, on both sides; GO keeps it ===== -/
def I_bk (nr w : Nat) (g : GS) (h : zm_H) : Prop := gOK nr w w g ∧ rlN nr g h ∧ rlM g h ∧ zf h 37 3 = nI w ∧ h.2.1 47 = h.2.1 131 ∧ h.2.1 48 = h.2.1 132 ∧ h.2.1 49 = h.2.1 133
theorem c_go {ns nf nr w n d : Nat} {h : zm_H} (W : I_now w h) (H : I_rl ns nf h) (R : I_rf w nr h) (S : I_sw w n d h) {g : GS} (B : I_bk nr w g h) (p1 : Int32) : f_N_go_ok p1 h ∧ f_M_go_ok p1 (f_N_go p1 h).2 ∧ (f_N_go p1 h).1 = (f_M_go p1 (f_N_go p1 h).2).1 ∧ ∃ w' g', w ≤ w' ∧ I_now w' (f_M_go p1 (f_N_go p1 h).2).2 ∧ I_bk nr w' g' (f_M_go p1 (f_N_go p1 h).2).2 ∧ vM 1 (f_M_go p1 (f_N_go p1 h).2).2 = vM 1 h := by
  obtain ⟨w1, w2, w3⟩ := W
  obtain ⟨G, LN, LM, e3, e47, e48, e49⟩ := id B
  have i80 : (80 : Int32).toInt = 80 := rfl
  by_cases c : 0 ≤ p1.toInt ∧ p1.toInt ≤ 80
  · obtain ⟨p, hp, rfl⟩ := i_ex (N := 81) c.1 (by omega)
    have g1 : ¬ (nI p < 0) := by rw [i_lt, i_0]; omega
    have g2 : nI p ≤ 80 := by rw [i_le, i80]; omega
    have g3 : ¬ (nI p < 0) ∧ (¬ (80 < nI p)) := ⟨g1, by rw [i_lt, i80]; omega⟩
    obtain ⟨m, em⟩ : ∃ m, m = min p (480 - w) := ⟨_, rfl⟩
    obtain ⟨a1, h1, a2, a3, a4, a5, a6, a7, a8, a9⟩ := go_N w1 H R S w2 e3 G LN (show p ≤ 80 by omega) em
    have eN : f_N_go (nI p) h = (nI (w + m), h1) := by
      unfold f_N_go f_N_go_a14 f_N_go_k39
      rw [if_neg g1, if_pos g2, a2, a4]
    have oN : f_N_go_ok (nI p) h := by
      unfold f_N_go_ok
      exact ⟨fun z => absurd z g1, fun _ => ⟨fun _ => ⟨a1, trivial⟩, fun z => absurd g2 z⟩⟩
    rw [eN]
    dsimp only
    have hF2 : wfR [21, 22, 27, 28, 29, 30, 31, 32, 33, 34, 35, 36, 38, 39, 40, 41, 42, 43, 44, 45, 46, 47, 48, 49, 65, 66, 70, 71] [(0, 0), (15, 9), (23, 4), (37, 3), (37, 4)] = true := by decide
    obtain ⟨LM1, v1⟩ := rlM_w a3 (by decide) LM
    obtain ⟨b1, h2, b2, b3, b4, b5, b6, b7, b8, b9⟩ := go_M (ns := ns) (nf := nf) (n := n) (d := d) w1 (I_rl_w hF2 a3 H) (I_rf_w a3 (by decide) R) (I_sw_z (a3.eq (by decide) (by decide)) S) ((a3.fld 92 23 (by decide) (by decide)).trans w3) G LM1 (show p ≤ 80 by omega) em
    obtain ⟨q1, q2⟩ := gos_w (nf := nf) (n := n) (d := d) (nr := nr) (by decide) a3 w g m
    rw [q1] at b5
    rw [(q2 _).1, a3.arr 131 (by decide) (by decide)] at b7
    rw [(q2 _).2.1, a3.arr 132 (by decide) (by decide)] at b8
    rw [(q2 _).2.2, a3.arr 133 (by decide) (by decide)] at b9
    have eM : f_M_go (nI p) h1 = (nI (w + m), h2) := by
      unfold f_M_go f_M_go_a14 f_M_go_k39
      rw [if_pos g3, b2, b4]
    have oM : f_M_go_ok (nI p) h1 := by
      unfold f_M_go_ok
      exact ⟨fun _ => ⟨b1, trivial⟩, fun z => absurd g3 z⟩
    rw [eM]
    refine ⟨oN, oM, rfl, w + m, gos nf n d nr h w m g, by omega, ⟨by omega, (b3.fld 0 0 (by decide) (by decide)).trans a4, b4⟩, ⟨gos_ok R S G m (by omega), rlN_w b3 (by decide) a6, b5, (b3.fld 37 3 (by decide) (by decide)).trans a5, ?_, ?_, ?_⟩, by rw [b6, v1]⟩
    · rw [b3.arr 47 (by decide) (by decide), a7, b7, e47]
    · rw [b3.arr 48 (by decide) (by decide), a8, b8, e48]
    · rw [b3.arr 49 (by decide) (by decide), a9, b9, e49]
  · have eN : f_N_go p1 h = (-1, h) := by
      unfold f_N_go
      by_cases d : p1 < 0
      · rw [if_pos d]
      · rw [if_neg d, if_neg (by rw [i_le, i80]; rw [i_lt, i_0] at d; omega)]
    have g3 : ¬ (¬ (p1 < 0) ∧ (¬ (80 < p1))) := by
      rw [i_lt, i_lt, i_0, i80]; omega
    have eM : f_M_go p1 h = (-1, h) := by unfold f_M_go; rw [if_neg g3]
    rw [eN]
    dsimp only
    rw [eM]
    refine ⟨?_, ?_, rfl, w, g, Nat.le_refl _, ⟨w1, w2, w3⟩, B, rfl⟩
    · unfold f_N_go_ok
      refine ⟨fun _ => trivial, fun z => ⟨fun y => ?_, fun _ => trivial⟩⟩
      rw [i_lt, i_0] at z
      rw [i_le, i80] at y
      exact absurd ⟨by omega, by omega⟩ c
    · unfold f_M_go_ok
      exact ⟨fun z => absurd z g3, fun _ => trivial⟩
