/-! ===== blame ===== -/
theorem ft_now {w n d : Nat} {h : zm_H} (hw : w ≤ 480) (S : I_sw w n d h) {a : Nat} (ea : a = if w = 480 then 479 else w) : ft (h.2.1 107) (nI a) n = n ∧ ft (h.2.1 111) (nI a) d = d ∧ a < 480 := by
  have ha : a < 480 ∧ ∀ t, t ≤ w → t < 480 → t ≤ a := by
    rw [ea]
    split
    · exact ⟨by omega, fun t _ _ => by omega⟩
    · exact ⟨by omega, fun t _ _ => by omega⟩
  refine ⟨ft_all S.2.2.2.2.1 (fun k hk => ?_), ft_all S.2.2.2.2.2 (fun k hk => ?_), ha.1⟩
  · obtain ⟨t, x, y, c⟩ := (S.2.1 k hk).2.2.2.2.1
    have c : h.2.1 107 k = nI t := c
    have := ha.2 t x y
    rw [c, nx_le (by omega) (by omega)]; omega
  · obtain ⟨t, x, y, c⟩ := (S.2.2.2.1 k hk).2.2.2.2.1
    have c : h.2.1 111 k = nI t := c
    have := ha.2 t x y
    rw [c, nx_le (by omega) (by omega)]; omega
theorem c_blame {nr w n d : Nat} {h : zm_H} (W : I_now w h) (R : I_rf w nr h) (S : I_sw w n d h) {g : GS} (B : I_bk nr w g h) (er : zf h 0 2 = zf h 92 48) (p1 p2 : Int32) : f_N_blame_ok p1 p2 h ∧ f_M_blame_ok p1 p2 h ∧ f_N_blame p1 p2 h = (f_M_blame p1 p2 h).1 := by
  have hnr := R.1.1
  have bw : (nI nr).toInt = nr := i_nI (by omega)
  have bw1 : (nI nr - 1).toInt = nr - 1 := by rw [i_sub (by rw [bw, i_1]; omega) (by rw [bw, i_1]; omega), bw, i_1]
  have i3 : (3 : Int32).toInt = 3 := rfl
  have i2 : (2 : Int32).toInt = 2 := rfl
  have q : (¬ (p1 < 0) ∧ (¬ (nI nr ≤ p1))) ↔ (¬ (p1 < 0) ∧ (¬ (nI nr - 1 < p1))) := by rw [i_lt, i_lt, i_le, bw, bw1]; omega
  unfold f_N_blame_ok f_M_blame_ok f_N_blame f_M_blame f_M_blame_k55
  rw [R.1.2.1, R.1.2.2]
  by_cases c : ¬ (p1 < 0) ∧ (¬ (nI nr ≤ p1))
  · have c' := c
    rw [i_lt, i_le, i_0, bw] at c'
    obtain ⟨r, hr, rfl⟩ := i_ex (a := p1) (N := nr) (by omega) (by omega)
    rw [if_pos c, if_pos (q.mp c)]
    by_cases e : ¬ (p2 < 0) ∧ (¬ (2 < p2))
    · have e' := e
      rw [i_lt, i_lt, i_0, i2] at e'
      obtain ⟨x, hx, rfl⟩ := i_ex (a := p2) (N := 3) (by omega) (by omega)
      have l3 : nI x < 3 := by rw [i_lt, i3]; omega
      have xm : 3 * (10 * 0 + nI r) + nI x = nI (3 * r + x) := by
        have := x30 (L := 0) (r := r) (c := x)
        rw [show nI 0 = (0 : Int32) from rfl] at this
        rw [this]; congr 1; omega
      have i30 : vp_in (nI (3 * r + x)) 30 := vp_in_nI (by omega) (by omega)
      have i60 : vp_in (nI (3 * r + x)) 60 := vp_in_nI (by omega) (by omega)
      have cb : ∀ i, 5 ≤ i → i < 8 → zr h (38 + i) (nI (3 * r + x)) = g.1 i (3 * r + x) := fun i h5 hi => by rw [zr_n h (38 + i) (by omega), ← B.2.1.1, vC_at (b := 38) hi (show 3 * r + x < zsz i by unfold zsz; rw [if_neg (by omega)]; omega)]
      have a5 : zr h 43 (nI (3 * r + x)) = g.1 5 (3 * r + x) := cb 5 (by omega) (by omega)
      have a6 : zr h 44 (nI (3 * r + x)) = g.1 6 (3 * r + x) := cb 6 (by omega) (by omega)
      have a7 : zr h 45 (nI (3 * r + x)) = g.1 7 (3 * r + x) := cb 7 (by omega) (by omega)
      have b7 : zr h 130 (nI (3 * r + x)) = g.1 7 (3 * r + x) := by
        rw [zr_n h 130 (by omega), ← B.2.2.1.1, vM_at7 (L := 0) (show 3 * r + x < 30 by omega), Nat.mul_zero, Nat.zero_add]
      rw [if_neg e.1, if_pos l3, if_pos e, x3, xm, a5, a6, a7, b7]
      rcases (B.1.1.2.2.2.2.2.2 (3 * r + x) (by omega)).2.2.2 with z | ⟨t, ht, z⟩
      · rw [z, if_neg (show ¬ (¬ ((-1 : Int32) < 0) ∧ (¬ (480 ≤ (-1 : Int32)))) by decide), if_pos rfl]
        refine ⟨⟨fun _ => ⟨fun _ => trivial, fun _ => ⟨fun _ => ⟨i30, ?_⟩, fun _ => trivial⟩⟩, fun _ => trivial⟩, ⟨fun _ => ⟨fun _ => ⟨i60, fun _ => trivial, fun z => absurd rfl z⟩, fun _ => trivial⟩, fun _ => trivial⟩, rfl⟩
        exact ⟨fun z => absurd z (by decide), fun _ => trivial⟩
      · obtain ⟨a, ea⟩ : ∃ a, a = if w = 480 then 479 else w := ⟨_, rfl⟩
        obtain ⟨f1, f2, ha⟩ := ft_now W.1 S ea
        have ia : (if (480 ≤ nI w) then (479 : Int32) else nI w) = nI a := by
          have hw := W.1
          rw [ea]
          by_cases y : w = 480
          · rw [if_pos y, if_pos (by rw [y]; decide)]; rfl
          · rw [if_neg y, if_neg (by rw [show (480 : Int32) = nI 480 from rfl, nx_le (by omega) (by omega)]; omega)]
        obtain ⟨l1, l2⟩ := sw_lk S ht (Nat.le_refl n) (Nat.le_refl d)
        obtain ⟨m1, m2⟩ := lk_all S (a := a) ht
        rw [f1, f2] at m2
        have gt : ¬ (nI t < 0) ∧ (¬ (480 ≤ nI t)) := ⟨by rw [i_lt, i_nI (by omega), i_0]; omega, by rw [show (480 : Int32) = nI 480 from rfl, nx_le (by omega) (by omega)]; omega⟩
        have nm : ¬ nI t = -1 := nI_nm1 (by omega)
        have lw := f_M_looks_w (nI t) (nI a) h
        have eS : f_Swell_lookNow (nI t) h = seaP h n d t := by
          unfold f_Swell_lookNow
          rw [S.1.2.2.1, S.1.2.2.2.2.1, l2]
        have oS : f_Swell_lookNow_ok (nI t) h := by
          unfold f_Swell_lookNow_ok
          rw [S.1.2.2.1, S.1.2.2.2.2.1]
          exact l1
        have b5 : zr (f_M_looks (nI t) (nI a) h) 128 (nI (3 * r + x)) = g.1 5 (3 * r + x) := by
          rw [zr_n _ 128 (by omega), zf, lw.arr 128 (by decide) (by decide), ← B.2.2.1.1, vM_at5 (L := 0) (show 3 * r + x < 30 by omega), Nat.mul_zero, Nat.zero_add]
        have b6 : zr (f_M_looks (nI t) (nI a) h) 129 (nI (3 * r + x)) = g.1 6 (3 * r + x) := by
          rw [zr_n _ 129 (by omega), zf, lw.arr 129 (by decide) (by decide), ← B.2.2.1.1, vM_at6 (L := 0) (show 3 * r + x < 30 by omega), Nat.mul_zero, Nat.zero_add]
        have b48 : zf (f_M_looks (nI t) (nI a) h) 92 48 = zf h 92 48 := lw.fld 92 48 (by decide) (by decide)
        rw [z, W.2.2, ia, if_pos gt, if_neg nm, eS, b5, b6, b48, m2.1, er]
        refine ⟨⟨fun _ => ⟨fun _ => trivial, fun _ => ⟨fun _ => ?_, fun _ => trivial⟩⟩, fun _ => trivial⟩, ⟨fun _ => ⟨fun _ => ?_, fun _ => trivial⟩, fun _ => trivial⟩, rfl⟩
        · simp only [i30, oS, implies_true, and_true, true_and]
        · unfold f_M_blame_k55_ok
          simp only [i60, m1, implies_true, and_true, true_and]
    · have e' := e
      rw [i_lt, i_lt, i_0, i2] at e'
      rw [if_neg e]
      refine ⟨⟨fun _ => ⟨fun _ => trivial, fun z => ⟨fun y => ?_, fun _ => trivial⟩⟩, fun _ => trivial⟩, ⟨fun _ => ⟨fun z => absurd z e, fun _ => trivial⟩, fun _ => trivial⟩, ?_⟩
      · rw [i_lt, i_0] at z
        rw [i_lt, i3] at y
        exact absurd (by omega) e'
      · by_cases z : p2 < 0
        · rw [if_pos z]
        · rw [if_neg z, if_neg (by rw [i_lt, i_0] at z; rw [i_lt, i3]; omega)]
  · rw [if_neg c, if_neg (fun z => c (q.mpr z))]
    exact ⟨⟨fun z => absurd z c, fun _ => trivial⟩, ⟨fun z => absurd (q.mpr z) c, fun _ => trivial⟩, rfl⟩
