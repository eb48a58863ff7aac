/-! ===== small calls ===== -/
theorem a_end {h : zm_H} {n : Nat} (hn : n ≤ 400) (e1 : h.2.1 10 1 = nI n) (e2 : h.2.1 92 1 = nI n) (p1 : Int32) : f_N_end_ok p1 h ∧ f_M_end_ok p1 (f_N_end p1 h).2 ∧ (f_N_end p1 h).1 = (f_M_end p1 (f_N_end p1 h).2).1 ∧ ((0 ≤ p1.toInt ∧ p1.toInt ≤ n ∧ (f_M_end p1 (f_N_end p1 h).2).2 = zm_si (zm_si h 10 1 p1) 92 1 p1) ∨ (f_M_end p1 (f_N_end p1 h).2).2 = h) := by
  have b0 : (nI n).toInt = n := i_nI (by omega)
  refine ⟨?_, ?_, ?_⟩
  · unfold f_N_end_ok; simp
  · unfold f_M_end_ok; simp
  by_cases V : 0 ≤ p1.toInt ∧ p1.toInt ≤ n
  · have eN : f_N_end p1 h = (1, zm_si h 10 1 p1) := by
      unfold f_N_end
      simp only [zf, zp, e1]
      repeat' split
      all_goals first | rfl | (exfalso; simp only [i_lt, i_le, Int32.reduceToInt, b0] at *; omega)
    rw [eN]
    dsimp only
    have g : (zm_si h 10 1 p1).2.1 92 1 = nI n := by simpa [zf_si] using e2
    have eM : f_M_end p1 (zm_si h 10 1 p1) = (1, zm_si (zm_si h 10 1 p1) 92 1 p1) := by
      unfold f_M_end
      simp only [zf, zp, g]
      repeat' split
      all_goals first | rfl | (exfalso; simp only [i_lt, i_le, Int32.reduceToInt, b0] at *; omega)
    rw [eM]
    exact ⟨rfl, Or.inl ⟨V.1, V.2, rfl⟩⟩
  · have eN : f_N_end p1 h = (0, h) := by
      unfold f_N_end
      simp only [zf, zp, e1]
      repeat' split
      all_goals first | rfl | (exfalso; simp only [i_lt, i_le, Int32.reduceToInt, b0] at *; omega)
    rw [eN]
    dsimp only
    have eM : f_M_end p1 h = (0, h) := by
      unfold f_M_end
      simp only [zf, zp, e2]
      repeat' split
      all_goals first | rfl | (exfalso; simp only [i_lt, i_le, Int32.reduceToInt, b0] at *; omega)
    rw [eM]
    exact ⟨rfl, Or.inr rfl⟩
theorem a_base {h : zm_H} (p1 : Int32) : f_N_base_ok p1 h ∧ f_M_base_ok p1 (f_N_base p1 h).2 ∧ (f_N_base p1 h).1 = (f_M_base p1 (f_N_base p1 h).2).1 ∧ ((0 ≤ p1.toInt ∧ p1.toInt ≤ 288000 ∧ (f_M_base p1 (f_N_base p1 h).2).2 = zm_si (zm_si h 0 1 p1) 92 47 p1) ∨ (f_M_base p1 (f_N_base p1 h).2).2 = h) := by
  refine ⟨by unfold f_N_base_ok; simp, by unfold f_M_base_ok; simp, ?_⟩
  unfold f_N_base f_M_base
  repeat' split
  all_goals first | (refine ⟨rfl, Or.inr rfl⟩; done) | (refine ⟨rfl, Or.inl ⟨?_, ?_, rfl⟩⟩ <;> simp only [i_lt, i_le, Int32.reduceToInt] at * <;> omega) | (exfalso; simp only [i_lt, i_le, Int32.reduceToInt] at *; omega)
theorem a_rated {h : zm_H} (p1 : Int32) : f_N_rated_ok p1 h ∧ f_M_rated_ok p1 (f_N_rated p1 h).2 ∧ (f_N_rated p1 h).1 = (f_M_rated p1 (f_N_rated p1 h).2).1 ∧ ((0 ≤ p1.toInt ∧ p1.toInt ≤ 120 ∧ (f_M_rated p1 (f_N_rated p1 h).2).2 = zm_si (zm_si h 0 2 p1) 92 48 p1) ∨ (f_M_rated p1 (f_N_rated p1 h).2).2 = h) := by
  refine ⟨by unfold f_N_rated_ok; simp, by unfold f_M_rated_ok; simp, ?_⟩
  unfold f_N_rated f_M_rated
  repeat' split
  all_goals first | (refine ⟨rfl, Or.inr rfl⟩; done) | (refine ⟨rfl, Or.inl ⟨?_, ?_, rfl⟩⟩ <;> simp only [i_lt, i_le, Int32.reduceToInt] at * <;> omega) | (exfalso; simp only [i_lt, i_le, Int32.reduceToInt] at *; omega)
theorem a_forget {h : zm_H} {n : Nat} (e1 : h.2.1 72 2 = nI n) (e2 : h.2.1 92 72 = nI n) : f_N_forget_ok h ∧ f_M_forget_ok (f_N_forget h).2 ∧ (f_N_forget h).1 = (f_M_forget (f_N_forget h).2).1 ∧ (f_M_forget (f_N_forget h).2).2 = zm_si (zm_si h 72 2 0) 92 72 0 := by
  refine ⟨trivial, trivial, ?_, rfl⟩
  unfold f_N_forget f_M_forget
  show h.2.1 72 2 = (zm_si h 72 2 0).2.1 92 72
  rw [zf_si, if_neg (by decide), e1, e2]
theorem a_clear {h : zm_H} {n : Nat} (e1 : h.2.1 82 7 = nI n) (e2 : h.2.1 92 75 = nI n) : f_N_clear_ok h ∧ f_M_clear_ok (f_N_clear h).2 ∧ (f_N_clear h).1 = (f_M_clear (f_N_clear h).2).1 ∧ (f_M_clear (f_N_clear h).2).2 = zm_si (zm_si h 82 7 0) 92 75 0 := by
  refine ⟨trivial, trivial, ?_, rfl⟩
  unfold f_N_clear f_M_clear
  show h.2.1 82 7 = (zm_si h 82 7 0).2.1 92 75
  rw [zf_si, if_neg (by decide), e1, e2]
/-- PARTS on shore -/
theorem a_parts {h : zm_H} (e : h.2.1 64 = h.2.1 137) (hb : ∀ k, k < 3 → 0 ≤ (h.2.1 137 k).toInt ∧ (h.2.1 137 k).toInt ≤ 99) (p1 p2 : Int32) : f_N_parts_ok p1 p2 h ∧ f_M_parts_ok p1 p2 (f_N_parts p1 p2 h).2 ∧ (f_N_parts p1 p2 h).1 = (f_M_parts p1 p2 (f_N_parts p1 p2 h).2).1 ∧ ((∃ k v, k < 3 ∧ 0 ≤ v.toInt ∧ v.toInt ≤ 99 ∧ (f_M_parts p1 p2 (f_N_parts p1 p2 h).2).2 = zm_si (zm_si h 64 k v) 137 k v) ∨ (f_M_parts p1 p2 (f_N_parts p1 p2 h).2).2 = h) := by
  by_cases R : (0 ≤ p1.toInt ∧ p1.toInt < 3) ∧ 1 ≤ p2.toInt ∧ p2.toInt ≤ 20
  · obtain ⟨⟨r1, r2⟩, r3, r4⟩ := R
    obtain ⟨k, hk, rfl⟩ := i_ex (N := 3) r1 r2
    have b0 : (nI k).toInt = k := i_nI (by omega)
    have c0 : (nI k).toNatClampNeg = k := nI_c (by omega)
    have i1 : vp_in (nI k) 3 := vp_in_nI hk (by omega)
    obtain ⟨q1, q2⟩ := hb k hk
    have ea : (h.2.1 137 k + p2).toInt = (h.2.1 137 k).toInt + p2.toInt := i_add (by omega) (by omega)
    have okN : f_N_parts_ok (nI k) p2 h := by
      unfold f_N_parts_ok f_Harbour_bring_ok
      simp only [i1, implies_true, and_true, true_and]
    refine ⟨okN, ?_⟩
    by_cases V : (h.2.1 137 k).toInt + p2.toInt ≤ 99
    · have eN : f_N_parts (nI k) p2 h = (h.2.1 137 k + p2, zm_si h 64 k (h.2.1 137 k + p2)) := by
        unfold f_N_parts f_Harbour_bring
        simp only [zf, zr, zs, zp, e, c0, zm_in]
        repeat' split
        all_goals first | rfl | (exfalso; simp only [i_lt, i_le, Int32.reduceToInt, b0, ea] at *; omega)
      rw [eN]
      dsimp only
      have g : (zm_si h 64 k (h.2.1 137 k + p2)).2.1 137 = h.2.1 137 := by rw [za_si, if_neg (by decide)]
      have eM : f_M_parts (nI k) p2 (zm_si h 64 k (h.2.1 137 k + p2)) = (h.2.1 137 k + p2, zm_si (zm_si h 64 k (h.2.1 137 k + p2)) 137 k (h.2.1 137 k + p2)) := by
        unfold f_M_parts
        simp only [zf, zr, zs, zp, g, c0, zm_in]
        repeat' split
        all_goals first | rfl | (exfalso; simp only [i_lt, i_le, Int32.reduceToInt, b0, ea] at *; omega)
      rw [eM]
      refine ⟨?_, rfl, Or.inl ⟨k, _, hk, by rw [ea]; omega, by rw [ea]; exact V, rfl⟩⟩
      unfold f_M_parts_ok
      simp only [i1, implies_true, and_true, true_and]
    · have eN : f_N_parts (nI k) p2 h = (-1, h) := by
        unfold f_N_parts f_Harbour_bring
        simp only [zf, zr, zs, zp, e, c0, zm_in]
        repeat' split
        all_goals first | rfl | (exfalso; simp only [i_lt, i_le, Int32.reduceToInt, b0, ea] at *; omega)
      rw [eN]
      dsimp only
      have eM : f_M_parts (nI k) p2 h = (-1, h) := by
        unfold f_M_parts
        simp only [zf, zr, zs, zp, c0, zm_in]
        repeat' split
        all_goals first | rfl | (exfalso; simp only [i_lt, i_le, Int32.reduceToInt, b0, ea] at *; omega)
      rw [eM]
      refine ⟨?_, rfl, Or.inr rfl⟩
      unfold f_M_parts_ok
      simp only [i1, implies_true, and_true, true_and]
  · have eN : f_N_parts p1 p2 h = (-1, h) := by
      unfold f_N_parts
      repeat' split
      all_goals first | rfl | (exfalso; simp only [i_lt, i_le, Int32.reduceToInt] at *; omega)
    have okN : f_N_parts_ok p1 p2 h := by
      unfold f_N_parts_ok
      simp only [implies_true, and_true, true_and]
      intros
      exfalso
      simp only [i_lt, i_le, Int32.reduceToInt] at *
      omega
    refine ⟨okN, ?_⟩
    rw [eN]
    dsimp only
    have eM : f_M_parts p1 p2 h = (-1, h) := by
      unfold f_M_parts
      repeat' split
      all_goals first | rfl | (exfalso; simp only [i_lt, i_le, Int32.reduceToInt] at *; omega)
    rw [eM]
    refine ⟨?_, rfl, Or.inr rfl⟩
    unfold f_M_parts_ok
    simp only [implies_true, and_true, true_and]
    intros
    exfalso
    simp only [i_lt, i_le, Int32.reduceToInt] at *
    omega
