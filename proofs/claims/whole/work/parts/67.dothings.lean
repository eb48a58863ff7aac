/-! ===== THINGS up to a SPELL, the class: course 37 ===== -/
theorem dths_37 {nr nt g : Nat} (hnr : nr ≤ 10) {h : zm_H} (H : I_th nr nt h) (V : vOK nr g (vC 38 h)) {k : Nat} (hk : k ≤ nt) (ek : zf h 37 4 = nI k) (t : Int32) : f_Course_doThings_37_ok t h ∧ zWr [38, 39, 40, 43, 44, 45] [(37, 4)] h (f_Course_doThings_37 t h) ∧ zf (f_Course_doThings_37 t h) 37 4 = nI (k + thn (tT h) nt t k 201) ∧ vC 38 (f_Course_doThings_37 t h) = thI (tT h) k (thn (tT h) nt t k 201) (vC 38 h) := by
  obtain ⟨⟨hnt, e4, -⟩, -, hT⟩ := id H
  unfold f_Course_doThings_37_ok f_Course_doThings_37 f_Course_doThings_37_a0 f_Course_doThings_37_k122
  obtain ⟨F, eF, -⟩ := zF_ex
  rw [← eF]
  obtain ⟨n1, n2, n3⟩ := thn_spec (tT h) nt t 201 k (by omega) hk
  obtain ⟨m, em⟩ : ∃ m, m = thn (tT h) nt t k 201 := ⟨_, rfl⟩
  rw [← em] at n1 n2 n3 ⊢
  have key := zlpF eF (b := fun s => f_Course_doThings_37_l0_b t s) (o := fun s => f_Course_doThings_37_l0_b_ok t s) m (by omega)
    (fun j h1 => zWr [38, 39, 40, 43, 44, 45] [(37, 4)] h h1 ∧ zf h1 37 4 = nI (k + j) ∧ vC 38 h1 = thI (tT h) k j (vC 38 h))
    (fun r => zWr [38, 39, 40, 43, 44, 45] [(37, 4)] h r.2 ∧ zf r.2 37 4 = nI (k + m) ∧ vC 38 r.2 = thI (tT h) k m (vC 38 h)) h ⟨zWr.refl _ _, ek, rfl⟩
    (by
      rintro j h1 hj ⟨p1, p2, p3⟩
      obtain ⟨q1, q2⟩ := n1 j hj
      obtain ⟨⟨r, r1, r2⟩, r3⟩ := hT (k + j) q1
      have hr : r < nr := r2.1
      have f4 : zf h1 23 4 = nI nt := (p1.fld 23 4 (by decide) (by decide)).trans e4
      have a : ∀ i, i ∉ [38, 39, 40, 43, 44, 45] → ¬ i = 37 → zr h1 i (nI (k + j)) = h.2.1 i (k + j) := fun i hi hi2 => by
        rw [zr_n h1 i (by omega)]
        exact congrFun (p1.arr i hi (by simpa using fun z => hi2 z.symm)) _
      have b27 : zr h1 27 (nI (k + j)) = h.2.1 27 (k + j) := a 27 (by decide) (by decide)
      have b28 : zr h1 28 (nI (k + j)) = h.2.1 28 (k + j) := a 28 (by decide) (by decide)
      have b29 : zr h1 29 (nI (k + j)) = nI r := by rw [a 29 (by decide) (by decide)]; exact r1
      have b30 : zr h1 30 (nI (k + j)) = h.2.1 30 (k + j) := a 30 (by decide) (by decide)
      have b31 : zr h1 31 (nI (k + j)) = h.2.1 31 (k + j) := a 31 (by decide) (by decide)
      have g1 : ¬ (zf h1 23 4 ≤ zf h1 37 4) := by rw [f4, p2, nx_le (by omega) (by omega)]; omega
      have g2 : ¬ (t < h.2.1 27 (k + j)) := by
        have q2 : h.2.1 27 (k + j) ≤ t := q2
        rw [i_lt]; rw [i_le] at q2; omega
      obtain ⟨d1, d2⟩ := db_37 (h := h1) (show r < 10 by omega) (h.2.1 28 (k + j)) (h.2.1 30 (k + j))
      obtain ⟨d3, d4⟩ := dt_37 (h := h1) (show r < 10 by omega) (kd4 r2) (h.2.1 30 (k + j)) (h.2.1 31 (k + j))
      have i200 : vp_in (nI (k + j)) 200 := vp_in_nI (by omega) (by omega)
      have er : (tT h 2 (k + j)).toNatClampNeg = r := by
        show (h.2.1 29 (k + j)).toNatClampNeg = r
        rw [r1, nI_c (by omega)]
      refine ⟨?_, Or.inl ?_⟩
      · unfold f_Course_doThings_37_l0_b_ok
        rw [p2, b27, b28, b29, b30, b31]
        rw [p2] at g1
        exact ⟨fun z => absurd z g1, fun _ => ⟨i200, fun z => absurd z g2, fun _ => ⟨i200, i200, i200, d1, fun _ => trivial, fun _ => ⟨i200, i200, i200, i200, d3⟩⟩⟩⟩
      · unfold f_Course_doThings_37_l0_b f_Course_doThings_37_l0_k109
        rw [if_neg g1, p2, b27, b28, b29, b30, b31, if_neg g2, d2]
        have eS : thI (tT h) k (j + 1) (vC 38 h) = if dbl (vC 38 h1) (h.2.1 28 (k + j)) r (h.2.1 30 (k + j)) = true then dot (vC 38 h1) (h.2.1 28 (k + j)) r (h.2.1 30 (k + j)) (h.2.1 31 (k + j)) else vC 38 h1 := by
          rw [thI_s, ← p3]
          unfold thS
          rw [er]
          rfl
        by_cases c : dbl (vC 38 h1) (h.2.1 28 (k + j)) r (h.2.1 30 (k + j)) = true
        · rw [if_pos c] at eS
          rw [if_pos c, if_neg (show ¬ (1 : Int32) = 0 by decide)]
          have w := f_Course_doThing_37_w (h.2.1 28 (k + j)) (nI r) (h.2.1 30 (k + j)) (h.2.1 31 (k + j)) h1
          generalize f_Course_doThing_37 (h.2.1 28 (k + j)) (nI r) (h.2.1 30 (k + j)) (h.2.1 31 (k + j)) h1 = h2 at w d4
          have f2 : zf h2 37 4 = nI (k + j) := (w.fld 37 4 (by decide) (by decide)).trans p2
          refine ⟨rfl, zWr_p (by decide) (zWr_tr w (by decide) (by decide) p1), ?_, ?_⟩
          · dsimp only
            rw [show k + (j + 1) = k + j + 1 by omega, nI_succ, ← f2]
            exact zm_in _ _ _ _
          · dsimp only
            rw [vC_o (by omega), d4, eS]
        · rw [if_neg c] at eS
          rw [if_neg c, if_pos rfl]
          refine ⟨rfl, zWr_p (by decide) p1, ?_, ?_⟩
          · dsimp only
            rw [show k + (j + 1) = k + j + 1 by omega, nI_succ, ← p2]
            exact zm_in _ _ _ _
          · dsimp only
            rw [vC_o (by omega), eS])
    (by
      rintro h1 ⟨p1, p2, p3⟩
      have f4 : zf h1 23 4 = nI nt := (p1.fld 23 4 (by decide) (by decide)).trans e4
      unfold f_Course_doThings_37_l0_b f_Course_doThings_37_l0_b_ok
      by_cases c1 : zf h1 23 4 ≤ zf h1 37 4
      · rw [if_pos c1]; exact ⟨⟨fun _ => trivial, fun z => absurd c1 z⟩, by simp, p1, p2, p3⟩
      · have hkm : k + m < nt := by rw [f4, p2, nx_le (by omega) (by omega)] at c1; omega
        have b27 : zr h1 27 (zf h1 37 4) = h.2.1 27 (k + m) := by
          rw [p2, zr_n h1 27 (by omega), zf, p1.arr 27 (by decide) (by decide)]
        have c2 : t < zr h1 27 (zf h1 37 4) := by
          rw [b27]
          have this : ¬ h.2.1 27 (k + m) ≤ t := fun z => n2 ⟨hkm, z⟩
          rw [i_lt]; rw [i_le] at this; omega
        rw [if_neg c1, if_pos c2]
        exact ⟨⟨fun z => absurd z c1, fun _ => ⟨by rw [p2]; exact vp_in_nI (by omega) (by omega), fun _ => trivial, fun z => absurd c2 z⟩⟩, by simp, p1, p2, p3⟩)
  exact ⟨⟨key.1, trivial⟩, key.2.1, key.2.2.1, key.2.2.2⟩
/-! ===== THINGS up to a SPELL, the class: course 50 ===== -/
theorem dths_50 {nr nt g : Nat} (hnr : nr ≤ 10) {h : zm_H} (H : I_th nr nt h) (V : vOK nr g (vC 51 h)) {k : Nat} (hk : k ≤ nt) (ek : zf h 50 4 = nI k) (t : Int32) : f_Course_doThings_50_ok t h ∧ zWr [51, 52, 53, 56, 57, 58] [(50, 4)] h (f_Course_doThings_50 t h) ∧ zf (f_Course_doThings_50 t h) 50 4 = nI (k + thn (tT h) nt t k 201) ∧ vC 51 (f_Course_doThings_50 t h) = thI (tT h) k (thn (tT h) nt t k 201) (vC 51 h) := by
  obtain ⟨⟨hnt, e4, -⟩, -, hT⟩ := id H
  unfold f_Course_doThings_50_ok f_Course_doThings_50 f_Course_doThings_50_a0 f_Course_doThings_50_k122
  obtain ⟨F, eF, -⟩ := zF_ex
  rw [← eF]
  obtain ⟨n1, n2, n3⟩ := thn_spec (tT h) nt t 201 k (by omega) hk
  obtain ⟨m, em⟩ : ∃ m, m = thn (tT h) nt t k 201 := ⟨_, rfl⟩
  rw [← em] at n1 n2 n3 ⊢
  have key := zlpF eF (b := fun s => f_Course_doThings_50_l0_b t s) (o := fun s => f_Course_doThings_50_l0_b_ok t s) m (by omega)
    (fun j h1 => zWr [51, 52, 53, 56, 57, 58] [(50, 4)] h h1 ∧ zf h1 50 4 = nI (k + j) ∧ vC 51 h1 = thI (tT h) k j (vC 51 h))
    (fun r => zWr [51, 52, 53, 56, 57, 58] [(50, 4)] h r.2 ∧ zf r.2 50 4 = nI (k + m) ∧ vC 51 r.2 = thI (tT h) k m (vC 51 h)) h ⟨zWr.refl _ _, ek, rfl⟩
    (by
      rintro j h1 hj ⟨p1, p2, p3⟩
      obtain ⟨q1, q2⟩ := n1 j hj
      obtain ⟨⟨r, r1, r2⟩, r3⟩ := hT (k + j) q1
      have hr : r < nr := r2.1
      have f4 : zf h1 23 4 = nI nt := (p1.fld 23 4 (by decide) (by decide)).trans e4
      have a : ∀ i, i ∉ [51, 52, 53, 56, 57, 58] → ¬ i = 50 → zr h1 i (nI (k + j)) = h.2.1 i (k + j) := fun i hi hi2 => by
        rw [zr_n h1 i (by omega)]
        exact congrFun (p1.arr i hi (by simpa using fun z => hi2 z.symm)) _
      have b27 : zr h1 27 (nI (k + j)) = h.2.1 27 (k + j) := a 27 (by decide) (by decide)
      have b28 : zr h1 28 (nI (k + j)) = h.2.1 28 (k + j) := a 28 (by decide) (by decide)
      have b29 : zr h1 29 (nI (k + j)) = nI r := by rw [a 29 (by decide) (by decide)]; exact r1
      have b30 : zr h1 30 (nI (k + j)) = h.2.1 30 (k + j) := a 30 (by decide) (by decide)
      have b31 : zr h1 31 (nI (k + j)) = h.2.1 31 (k + j) := a 31 (by decide) (by decide)
      have g1 : ¬ (zf h1 23 4 ≤ zf h1 50 4) := by rw [f4, p2, nx_le (by omega) (by omega)]; omega
      have g2 : ¬ (t < h.2.1 27 (k + j)) := by
        have q2 : h.2.1 27 (k + j) ≤ t := q2
        rw [i_lt]; rw [i_le] at q2; omega
      obtain ⟨d1, d2⟩ := db_50 (h := h1) (show r < 10 by omega) (h.2.1 28 (k + j)) (h.2.1 30 (k + j))
      obtain ⟨d3, d4⟩ := dt_50 (h := h1) (show r < 10 by omega) (kd4 r2) (h.2.1 30 (k + j)) (h.2.1 31 (k + j))
      have i200 : vp_in (nI (k + j)) 200 := vp_in_nI (by omega) (by omega)
      have er : (tT h 2 (k + j)).toNatClampNeg = r := by
        show (h.2.1 29 (k + j)).toNatClampNeg = r
        rw [r1, nI_c (by omega)]
      refine ⟨?_, Or.inl ?_⟩
      · unfold f_Course_doThings_50_l0_b_ok
        rw [p2, b27, b28, b29, b30, b31]
        rw [p2] at g1
        exact ⟨fun z => absurd z g1, fun _ => ⟨i200, fun z => absurd z g2, fun _ => ⟨i200, i200, i200, d1, fun _ => trivial, fun _ => ⟨i200, i200, i200, i200, d3⟩⟩⟩⟩
      · unfold f_Course_doThings_50_l0_b f_Course_doThings_50_l0_k109
        rw [if_neg g1, p2, b27, b28, b29, b30, b31, if_neg g2, d2]
        have eS : thI (tT h) k (j + 1) (vC 51 h) = if dbl (vC 51 h1) (h.2.1 28 (k + j)) r (h.2.1 30 (k + j)) = true then dot (vC 51 h1) (h.2.1 28 (k + j)) r (h.2.1 30 (k + j)) (h.2.1 31 (k + j)) else vC 51 h1 := by
          rw [thI_s, ← p3]
          unfold thS
          rw [er]
          rfl
        by_cases c : dbl (vC 51 h1) (h.2.1 28 (k + j)) r (h.2.1 30 (k + j)) = true
        · rw [if_pos c] at eS
          rw [if_pos c, if_neg (show ¬ (1 : Int32) = 0 by decide)]
          have w := f_Course_doThing_50_w (h.2.1 28 (k + j)) (nI r) (h.2.1 30 (k + j)) (h.2.1 31 (k + j)) h1
          generalize f_Course_doThing_50 (h.2.1 28 (k + j)) (nI r) (h.2.1 30 (k + j)) (h.2.1 31 (k + j)) h1 = h2 at w d4
          have f2 : zf h2 50 4 = nI (k + j) := (w.fld 50 4 (by decide) (by decide)).trans p2
          refine ⟨rfl, zWr_p (by decide) (zWr_tr w (by decide) (by decide) p1), ?_, ?_⟩
          · dsimp only
            rw [show k + (j + 1) = k + j + 1 by omega, nI_succ, ← f2]
            exact zm_in _ _ _ _
          · dsimp only
            rw [vC_o (by omega), d4, eS]
        · rw [if_neg c] at eS
          rw [if_neg c, if_pos rfl]
          refine ⟨rfl, zWr_p (by decide) p1, ?_, ?_⟩
          · dsimp only
            rw [show k + (j + 1) = k + j + 1 by omega, nI_succ, ← p2]
            exact zm_in _ _ _ _
          · dsimp only
            rw [vC_o (by omega), eS])
    (by
      rintro h1 ⟨p1, p2, p3⟩
      have f4 : zf h1 23 4 = nI nt := (p1.fld 23 4 (by decide) (by decide)).trans e4
      unfold f_Course_doThings_50_l0_b f_Course_doThings_50_l0_b_ok
      by_cases c1 : zf h1 23 4 ≤ zf h1 50 4
      · rw [if_pos c1]; exact ⟨⟨fun _ => trivial, fun z => absurd c1 z⟩, by simp, p1, p2, p3⟩
      · have hkm : k + m < nt := by rw [f4, p2, nx_le (by omega) (by omega)] at c1; omega
        have b27 : zr h1 27 (zf h1 50 4) = h.2.1 27 (k + m) := by
          rw [p2, zr_n h1 27 (by omega), zf, p1.arr 27 (by decide) (by decide)]
        have c2 : t < zr h1 27 (zf h1 50 4) := by
          rw [b27]
          have this : ¬ h.2.1 27 (k + m) ≤ t := fun z => n2 ⟨hkm, z⟩
          rw [i_lt]; rw [i_le] at this; omega
        rw [if_neg c1, if_pos c2]
        exact ⟨⟨fun z => absurd z c1, fun _ => ⟨by rw [p2]; exact vp_in_nI (by omega) (by omega), fun _ => trivial, fun z => absurd c2 z⟩⟩, by simp, p1, p2, p3⟩)
  exact ⟨⟨key.1, trivial⟩, key.2.1, key.2.2.1, key.2.2.2⟩
