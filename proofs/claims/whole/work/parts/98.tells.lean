/-! ===== why, booked ===== -/
theorem c_why {ns nf : Nat} {h : zm_H} (H : I_rl ns nf h) (p1 p2 : Int32) : f_N_why_ok p1 p2 h ∧ f_M_why_ok p1 p2 h ∧ f_N_why p1 p2 h = f_M_why p1 p2 h := by
  have i4 : (4 : Int32).toInt = 4 := rfl
  have i3 : (3 : Int32).toInt = 3 := rfl
  have i480 : (480 : Int32).toInt = 480 := rfl
  have i479 : (479 : Int32).toInt = 479 := rfl
  have q : (¬ (p2 < 0) ∧ (¬ (480 ≤ p2))) ↔ (¬ (p2 < 0) ∧ (¬ (479 < p2))) := by rw [i_lt, i_lt, i_le, i480, i479]; omega
  unfold f_N_why_ok f_M_why_ok f_N_why f_M_why
  by_cases c : ¬ (p1 < 0) ∧ (¬ (3 < p1))
  · have c' := c
    rw [i_lt, i_lt, i_0, i3] at c'
    obtain ⟨k, hk, rfl⟩ := i_ex (a := p1) (N := 4) (by omega) (by omega)
    obtain ⟨n1, n2⟩ := fc_N H.1 hk p2
    obtain ⟨m1, m2⟩ := fc_M H.1 hk p2
    have g : ¬ (4 ≤ nI k) := by rw [i_le, i4]; omega
    rw [if_pos c, if_neg c.1, if_neg g, n2, m2]
    refine ⟨⟨fun _ => trivial, fun _ => ⟨fun _ => trivial, fun _ => ⟨fun _ => n1, fun _ => trivial⟩⟩⟩, ⟨fun _ => ⟨fun _ => m1, fun _ => trivial⟩, fun _ => trivial⟩, ?_⟩
    by_cases d : ¬ (p2 < 0) ∧ (¬ (480 ≤ p2))
    · rw [if_pos d, if_pos (q.mp d)]
    · rw [if_neg d, if_neg (fun z => d (q.mpr z))]
  · have c' := c
    rw [i_lt, i_lt, i_0, i3] at c'
    rw [if_neg c]
    refine ⟨⟨fun _ => trivial, fun z => ⟨fun _ => trivial, fun y => ?_⟩⟩, ⟨fun z => absurd z c, fun _ => trivial⟩, ?_⟩
    · rw [i_lt, i_0] at z
      rw [i_le, i4] at y
      exact absurd (by omega) c'
    · by_cases d : p1 < 0
      · rw [if_pos d]
      · rw [if_neg d, if_pos (by rw [i_le, i4]; rw [i_lt, i_0] at d; omega)]
theorem c_booked {nr w : Nat} {h : zm_H} (W : I_now w h) {g : GS} (B : I_bk nr w g h) (p1 p2 : Int32) : f_N_booked_ok p1 p2 h ∧ f_M_booked_ok p1 p2 h ∧ f_N_booked p1 p2 h = f_M_booked p1 p2 h := by
  obtain ⟨w1, w2, w3⟩ := W
  obtain ⟨-, -, -, -, e47, e48, e49⟩ := B
  have bw : (nI w).toInt = w := i_nI (by omega)
  have bw1 : (nI w - 1).toInt = w - 1 := by rw [i_sub (by rw [bw, i_1]; omega) (by rw [bw, i_1]; omega), bw, i_1]
  have q : (¬ (p1 < 0) ∧ (¬ (nI w ≤ p1))) ↔ (¬ (p1 < 0) ∧ (¬ (nI w - 1 < p1))) := by rw [i_lt, i_lt, i_le, bw, bw1]; omega
  unfold f_N_booked_ok f_M_booked_ok f_N_booked f_M_booked f_Course_ofSpell_37_ok f_Course_ofSpell_37
  rw [w2, w3]
  by_cases c : ¬ (p1 < 0) ∧ (¬ (nI w ≤ p1))
  · have c' := c
    rw [i_lt, i_le, i_0, bw] at c'
    obtain ⟨k, hk, rfl⟩ := i_ex (a := p1) (N := w) (by omega) (by omega)
    have ik : vp_in (nI k) 480 := vp_in_nI (by omega) (by omega)
    rw [if_pos c, if_pos (q.mp c)]
    have a47 : zr h 47 (nI k) = zr h 131 (nI k) := by rw [zr_n h 47 (by omega), zr_n h 131 (by omega), zf, zf, e47]
    have a48 : zr h 48 (nI k) = zr h 132 (nI k) := by rw [zr_n h 48 (by omega), zr_n h 132 (by omega), zf, zf, e48]
    have i10 : (10 : Int32).toInt = 10 := rfl
    have i19 : (19 : Int32).toInt = 19 := rfl
    have i20 : (20 : Int32).toInt = 20 := rfl
    by_cases y : ¬ (p2 < 10) ∧ ¬ (20 ≤ p2)
    · have y' := y
      rw [i_lt, i_le, i10, i20] at y'
      obtain ⟨x, hx, rfl⟩ := i_ex (a := p2) (N := 20) (by omega) (by omega)
      have ix : (nI x).toInt = x := i_nI (by omega)
      have n0 : ¬ nI x = 0 := by rw [i_eq, ix, i_0]; omega
      have n1 : ¬ nI x = 1 := by rw [i_eq, ix, i_1]; omega
      have x1 : nI k * 10 + nI x - 10 = nI (10 * k + x - 10) := by
        rw [show (10 : Int32) = nI 10 from rfl, pk_mul, nI_add, nI_s0 _ _ (by omega), Nat.mul_comm]
      have x2 : 10 * nI k + nI x - 10 = nI (10 * k + x - 10) := by
        rw [show (10 : Int32) = nI 10 from rfl, pk_mul, nI_add, nI_s0 _ _ (by omega)]
      have i48 : vp_in (nI (10 * k + x - 10)) 4800 := vp_in_nI (by omega) (by omega)
      have a49 : zr h 49 (nI (10 * k + x - 10)) = zr h 133 (nI (10 * k + x - 10)) := by rw [zr_n h 49 (by omega), zr_n h 133 (by omega), zf, zf, e49]
      have g : (¬ (nI x < 0) ∧ (¬ (1 < nI x))) ∨ (¬ (nI x < 10) ∧ (¬ (19 < nI x))) := Or.inr ⟨y.1, by rw [i_lt, i19]; omega⟩
      rw [x1, x2, if_neg n0, if_neg n1, if_neg y.1, if_neg y.2, if_pos g, if_neg n0, if_neg n1, a49]
      exact ⟨⟨fun _ => ⟨fun _ => ik, fun _ => ⟨fun _ => ik, fun _ => ⟨fun _ => trivial, fun _ => ⟨fun _ => trivial, fun _ => i48⟩⟩⟩⟩, fun _ => trivial⟩, ⟨fun _ => ⟨fun _ => ⟨fun _ => ik, fun _ => ⟨fun _ => ik, fun _ => i48⟩⟩, fun _ => trivial⟩, fun _ => trivial⟩, rfl⟩
    · rw [i_lt, i_le, i10, i20] at y
      by_cases n0 : p2 = 0
      · subst n0
        rw [if_pos rfl, if_pos (by decide), if_pos rfl, a47]
        exact ⟨⟨fun _ => ⟨fun _ => ik, fun z => absurd rfl z⟩, fun _ => trivial⟩, ⟨fun _ => ⟨fun _ => ⟨fun _ => ik, fun z => absurd rfl z⟩, fun _ => trivial⟩, fun _ => trivial⟩, rfl⟩
      · by_cases n1 : p2 = 1
        · subst n1
          rw [if_neg (by decide), if_pos rfl, if_pos (by decide), if_neg (by decide), if_pos rfl, a48]
          exact ⟨⟨fun _ => ⟨fun _ => ik, fun _ => ⟨fun _ => ik, fun z => absurd rfl z⟩⟩, fun _ => trivial⟩, ⟨fun _ => ⟨fun _ => ⟨fun _ => ik, fun _ => ⟨fun _ => ik, fun z => absurd rfl z⟩⟩, fun _ => trivial⟩, fun _ => trivial⟩, rfl⟩
        · have m0 := n0
          have m1 := n1
          rw [i_eq, i_0] at m0
          rw [i_eq, i_1] at m1
          have g : ¬ ((¬ (p2 < 0) ∧ (¬ (1 < p2))) ∨ (¬ (p2 < 10) ∧ (¬ (19 < p2)))) := by
            rw [i_lt, i_lt, i_lt, i_lt, i_0, i_1, i10, i19]; omega
          rw [if_neg n0, if_neg n1, if_neg g]
          refine ⟨⟨fun _ => ⟨fun z => absurd z n0, fun _ => ⟨fun z => absurd z n1, fun _ => ⟨fun _ => trivial, fun z => ⟨fun _ => trivial, fun x => ?_⟩⟩⟩⟩, fun _ => trivial⟩, ⟨fun _ => ⟨fun z => absurd z g, fun _ => trivial⟩, fun _ => trivial⟩, ?_⟩
          · rw [i_lt, i10] at z
            rw [i_le, i20] at x
            exact absurd ⟨z, x⟩ y
          · by_cases z : p2 < 10
            · rw [if_pos z]
            · rw [if_neg z, if_pos (by rw [i_lt, i10] at z; rw [i_le, i20]; omega)]
  · rw [if_neg c, if_neg (fun z => c (q.mpr z))]
    exact ⟨⟨fun z => absurd z c, fun _ => trivial⟩, ⟨fun z => absurd (q.mpr z) c, fun _ => trivial⟩, rfl⟩
