/-! ===== HOLD, the class: course 37 ===== -/
theorem ho_37 {h : zm_H} {i : Nat} (hi : i < 30) : f_Course_holds_37_ok (nI i) h ∧ f_Course_holds_37 (nI i) h = (if hld (vC 38 h) i then 1 else 0) ∧ f_Course_hold_37_ok (nI i) h ∧ f_Course_hold_37 (nI i) h = hd (vC 38 h) i := by
  have i1 : vp_in (nI i) 30 := vp_in_nI hi (by omega)
  have z5 : zsz 5 = 30 := rfl
  have z6 : zsz 6 = 30 := rfl
  have z7 : zsz 7 = 30 := rfl
  unfold f_Course_holds_37_ok f_Course_holds_37 f_Course_hold_37_ok f_Course_hold_37 hd hld
  rw [zr_n h 43 (by omega), zr_n h 44 (by omega), zr_n h 45 (by omega), vC_at (b := 38) (i := 5) (by omega) (by omega), vC_at (b := 38) (i := 6) (by omega) (by omega), vC_at (b := 38) (i := 7) (by omega) (by omega)]
  exact ⟨⟨i1, fun _ => trivial, fun _ => i1⟩, rfl, ⟨i1, i1⟩, rfl⟩
theorem lh_37 {h : zm_H} {r : Nat} (hr : r < 10) : f_Course_leastHold_37_ok (nI r) h ∧ f_Course_leastHold_37 (nI r) h = lh (vC 38 h) r := by
  unfold f_Course_leastHold_37_ok f_Course_leastHold_37 f_Course_leastHold_37_a6 f_Course_leastHold_37_k49
  obtain ⟨F, eF, -⟩ := zF_ex
  rw [← eF]
  have e3 : nI r * 3 = nI (3 * r) := by rw [show (3 : Int32) = nI 3 from rfl, pk_mul, Nat.mul_comm]
  have e33 : nI r * 3 + 3 = nI (3 * r + 3) := by rw [e3, show (3 : Int32) = nI 3 from rfl, nI_add]
  have key := zlpF eF (b := fun t => f_Course_leastHold_37_l6_b (nI r) t.1 t.2 h) (o := fun t => f_Course_leastHold_37_l6_b_ok (nI r) t.1 t.2 h) 3 (by omega)
    (fun k s => s = (lhI (vC 38 h) r k, nI (3 * r + k))) (fun q => q.2.1 = lhI (vC 38 h) r 3) (-1, nI r * 3) (by rw [e3]; rfl)
    (by
      rintro k s hk rfl
      obtain ⟨c1, c2, c3, c4⟩ := ho_37 (h := h) (show 3 * r + k < 30 by omega)
      have g0 : ¬ (nI (3 * r + 3) ≤ nI (3 * r + k)) := by rw [nx_le (by omega) (by omega)]; omega
      refine ⟨?_, Or.inl ?_⟩
      · dsimp only
        unfold f_Course_leastHold_37_l6_b_ok
        rw [e33]
        exact ⟨fun z => absurd z g0, fun _ => ⟨c1, fun _ => trivial, fun _ => ⟨fun _ => c3, fun _ => ⟨c3, fun _ => trivial, fun _ => c3⟩⟩⟩⟩
      · dsimp only
        unfold f_Course_leastHold_37_l6_b
        rw [e33, if_neg g0, c2, c4]
        dsimp only
        refine ⟨rfl, ?_⟩
        rw [lhI, ← nI_succ, Nat.add_assoc]
        by_cases c : hld (vC 38 h) (3 * r + k)
        · simp only [if_pos c, if_neg (show ¬ (1 : Int32) = 0 by decide)]
        · simp only [if_neg c, if_true])
    (by
      rintro s rfl
      have g0 : nI (3 * r + 3) ≤ nI (3 * r + 3) := i_le_r _
      dsimp only
      unfold f_Course_leastHold_37_l6_b f_Course_leastHold_37_l6_b_ok
      rw [e33, if_pos g0]
      exact ⟨⟨fun _ => trivial, fun z => absurd g0 z⟩, by simp, rfl⟩)
  obtain ⟨k1, k2⟩ := key
  have k2 : (f_Course_leastHold_37_l6 (nI r) h F (-1, nI r * 3)).2.1 = lhI (vC 38 h) r 3 := k2
  rw [k2]
  exact ⟨⟨k1, trivial⟩, rfl⟩
/-! ===== HOLD, the class: course 50 ===== -/
theorem ho_50 {h : zm_H} {i : Nat} (hi : i < 30) : f_Course_holds_50_ok (nI i) h ∧ f_Course_holds_50 (nI i) h = (if hld (vC 51 h) i then 1 else 0) ∧ f_Course_hold_50_ok (nI i) h ∧ f_Course_hold_50 (nI i) h = hd (vC 51 h) i := by
  have i1 : vp_in (nI i) 30 := vp_in_nI hi (by omega)
  have z5 : zsz 5 = 30 := rfl
  have z6 : zsz 6 = 30 := rfl
  have z7 : zsz 7 = 30 := rfl
  unfold f_Course_holds_50_ok f_Course_holds_50 f_Course_hold_50_ok f_Course_hold_50 hd hld
  rw [zr_n h 56 (by omega), zr_n h 57 (by omega), zr_n h 58 (by omega), vC_at (b := 51) (i := 5) (by omega) (by omega), vC_at (b := 51) (i := 6) (by omega) (by omega), vC_at (b := 51) (i := 7) (by omega) (by omega)]
  exact ⟨⟨i1, fun _ => trivial, fun _ => i1⟩, rfl, ⟨i1, i1⟩, rfl⟩
theorem lh_50 {h : zm_H} {r : Nat} (hr : r < 10) : f_Course_leastHold_50_ok (nI r) h ∧ f_Course_leastHold_50 (nI r) h = lh (vC 51 h) r := by
  unfold f_Course_leastHold_50_ok f_Course_leastHold_50 f_Course_leastHold_50_a6 f_Course_leastHold_50_k49
  obtain ⟨F, eF, -⟩ := zF_ex
  rw [← eF]
  have e3 : nI r * 3 = nI (3 * r) := by rw [show (3 : Int32) = nI 3 from rfl, pk_mul, Nat.mul_comm]
  have e33 : nI r * 3 + 3 = nI (3 * r + 3) := by rw [e3, show (3 : Int32) = nI 3 from rfl, nI_add]
  have key := zlpF eF (b := fun t => f_Course_leastHold_50_l6_b (nI r) t.1 t.2 h) (o := fun t => f_Course_leastHold_50_l6_b_ok (nI r) t.1 t.2 h) 3 (by omega)
    (fun k s => s = (lhI (vC 51 h) r k, nI (3 * r + k))) (fun q => q.2.1 = lhI (vC 51 h) r 3) (-1, nI r * 3) (by rw [e3]; rfl)
    (by
      rintro k s hk rfl
      obtain ⟨c1, c2, c3, c4⟩ := ho_50 (h := h) (show 3 * r + k < 30 by omega)
      have g0 : ¬ (nI (3 * r + 3) ≤ nI (3 * r + k)) := by rw [nx_le (by omega) (by omega)]; omega
      refine ⟨?_, Or.inl ?_⟩
      · dsimp only
        unfold f_Course_leastHold_50_l6_b_ok
        rw [e33]
        exact ⟨fun z => absurd z g0, fun _ => ⟨c1, fun _ => trivial, fun _ => ⟨fun _ => c3, fun _ => ⟨c3, fun _ => trivial, fun _ => c3⟩⟩⟩⟩
      · dsimp only
        unfold f_Course_leastHold_50_l6_b
        rw [e33, if_neg g0, c2, c4]
        dsimp only
        refine ⟨rfl, ?_⟩
        rw [lhI, ← nI_succ, Nat.add_assoc]
        by_cases c : hld (vC 51 h) (3 * r + k)
        · simp only [if_pos c, if_neg (show ¬ (1 : Int32) = 0 by decide)]
        · simp only [if_neg c, if_true])
    (by
      rintro s rfl
      have g0 : nI (3 * r + 3) ≤ nI (3 * r + 3) := i_le_r _
      dsimp only
      unfold f_Course_leastHold_50_l6_b f_Course_leastHold_50_l6_b_ok
      rw [e33, if_pos g0]
      exact ⟨⟨fun _ => trivial, fun z => absurd g0 z⟩, by simp, rfl⟩)
  obtain ⟨k1, k2⟩ := key
  have k2 : (f_Course_leastHold_50_l6 (nI r) h F (-1, nI r * 3)).2.1 = lhI (vC 51 h) r 3 := k2
  rw [k2]
  exact ⟨⟨k1, trivial⟩, rfl⟩
