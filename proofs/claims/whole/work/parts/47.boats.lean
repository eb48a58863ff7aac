/-! ===== load, send, boat ===== -/
theorem i_neg {a : Int32} (h : -2147483647 ≤ a.toInt) : (-a).toInt = -a.toInt := by
  rw [Int32.toInt_neg]
  have := i_hi a
  exact i_bm (by omega) (by omega)
theorem a_load {h : zm_H} (e64 : h.2.1 64 = h.2.1 137) (hb : ∀ k, k < 3 → 0 ≤ (h.2.1 137 k).toInt ∧ (h.2.1 137 k).toInt ≤ 99) (e65 : h.2.1 65 = h.2.1 138) (hc : ∀ k, k < 9 → 0 ≤ (h.2.1 138 k).toInt ∧ (h.2.1 138 k).toInt ≤ 9) (hp : ∀ b, b < 3 → (h.2.1 66 b = -1 ↔ h.2.1 139 b = 0)) (p1 p2 p3 : Int32) : f_N_load_ok p1 p2 p3 h ∧ f_M_load_ok p1 p2 p3 (f_N_load p1 p2 p3 h).2 ∧ (f_N_load p1 p2 p3 h).1 = (f_M_load p1 p2 p3 (f_N_load p1 p2 p3 h).2).1 ∧ ((∃ b k va vs, b < 3 ∧ k < 3 ∧ h.2.1 66 b = -1 ∧ 0 ≤ va.toInt ∧ va.toInt ≤ 9 ∧ 0 ≤ vs.toInt ∧ vs.toInt ≤ 99 ∧ (f_M_load p1 p2 p3 (f_N_load p1 p2 p3 h).2).2 = zm_si (zm_si (zm_si (zm_si h 65 (3 * b + k) va) 64 k vs) 138 (3 * b + k) va) 137 k vs) ∨ (f_M_load p1 p2 p3 (f_N_load p1 p2 p3 h).2).2 = h) := by
  by_cases R : (0 ≤ p1.toInt ∧ p1.toInt < 3) ∧ 0 ≤ p2.toInt ∧ p2.toInt < 3
  · obtain ⟨⟨r1, r2⟩, r3, r4⟩ := R
    obtain ⟨b, hb3, rfl⟩ := i_ex (N := 3) r1 r2
    obtain ⟨k, hk, rfl⟩ := i_ex (N := 3) r3 r4
    have b0 : (nI b).toInt = b := i_nI (by omega)
    have b1 : (nI k).toInt = k := i_nI (by omega)
    have c0 : (nI b).toNatClampNeg = b := nI_c (by omega)
    have c1 : (nI k).toNatClampNeg = k := nI_c (by omega)
    have x1 : nI b * 3 + nI k = nI (3 * b + k) := by
      rw [show (3 : Int32) = nI 3 from rfl, pk_mul, nI_add, Nat.mul_comm]
    have x2 : 3 * nI b + nI k = nI (3 * b + k) := by
      rw [show (3 : Int32) = nI 3 from rfl, pk_mul, nI_add]
    have c2 : (nI (3 * b + k)).toNatClampNeg = 3 * b + k := nI_c (by omega)
    have i0 : vp_in (nI b) 3 := vp_in_nI hb3 (by omega)
    have i1 : vp_in (nI k) 3 := vp_in_nI hk (by omega)
    have i2 : vp_in (nI (3 * b + k)) 9 := vp_in_nI (by omega) (by omega)
    obtain ⟨q1, q2⟩ := hb k hk
    obtain ⟨q3, q4⟩ := hc (3 * b + k) (by omega)
    have hpb := hp b hb3
    have okN : f_N_load_ok (nI b) (nI k) p3 h := by
      unfold f_N_load_ok f_Harbour_shift_ok
      rw [x1]
      simp only [i0, i1, i2, implies_true, and_true, true_and]
    refine ⟨okN, ?_⟩
    have okM : ∀ G, f_M_load_ok (nI b) (nI k) p3 G := by
      intro G
      unfold f_M_load_ok
      rw [x2]
      simp only [i0, i1, i2, implies_true, and_true, true_and]
    refine ⟨okM _, ?_⟩
    obtain ⟨A, eA⟩ : ∃ A, A = h.2.1 138 (3 * b + k) := ⟨_, rfl⟩
    obtain ⟨S, eS⟩ : ∃ S, S = h.2.1 137 k := ⟨_, rfl⟩
    rw [← eA] at q3 q4
    rw [← eS] at q1 q2
    have n1 : (-A).toInt = -A.toInt := i_neg (by omega)
    have n2 : (9 - A).toInt = 9 - A.toInt := by
      have e9 : (9 : Int32).toInt = 9 := rfl
      rw [i_sub (by rw [e9]; omega) (by rw [e9]; omega), e9]
    have n3 : (S - 99).toInt = S.toInt - 99 := by
      have e9 : (99 : Int32).toInt = 99 := rfl
      rw [i_sub (by rw [e9]; omega) (by rw [e9]; omega), e9]
    by_cases V : h.2.1 66 b = -1 ∧ (0 ≤ A.toInt + p3.toInt ∧ A.toInt + p3.toInt ≤ 9) ∧ 0 ≤ S.toInt - p3.toInt ∧ S.toInt - p3.toInt ≤ 99
    · obtain ⟨v0, ⟨v1, v2⟩, v3, v4⟩ := V
      have n4 : (A + p3).toInt = A.toInt + p3.toInt := i_add (by omega) (by omega)
      have n5 : (S - p3).toInt = S.toInt - p3.toInt := i_sub (by omega) (by omega)
      have v5 := hpb.mp v0
      have eN : f_N_load (nI b) (nI k) p3 h = (A + p3, zm_si (zm_si h 65 (3 * b + k) (A + p3)) 64 k (S - p3)) := by
        unfold f_N_load f_Harbour_shift
        simp only [x1, zf, zr, zs, zp, e64, e65, c0, c1, c2, ← eA, ← eS, v0, if_true]
        repeat' split
        all_goals first | rfl | (exfalso; simp only [i_lt, i_le, Int32.reduceToInt, b0, b1, n1, n2, n3] at *; omega)
      rw [eN]
      dsimp only
      obtain ⟨G, eG⟩ : ∃ G, G = zm_si (zm_si h 65 (3 * b + k) (A + p3)) 64 k (S - p3) := ⟨_, rfl⟩
      rw [← eG]
      have g1 : G.2.1 137 = h.2.1 137 := by rw [eG]; simp [za_si]
      have g2 : G.2.1 138 = h.2.1 138 := by rw [eG]; simp [za_si]
      have g3 : G.2.1 139 = h.2.1 139 := by rw [eG]; simp [za_si]
      have eM : f_M_load (nI b) (nI k) p3 G = (A + p3, zm_si (zm_si G 138 (3 * b + k) (A + p3)) 137 k (S - p3)) := by
        unfold f_M_load
        simp only [x2, zf, zr, zs, zp, g1, g2, g3, c0, c1, c2, ← eA, ← eS, v5, if_true, zm_in]
        clear eG eN
        repeat' split
        all_goals first | rfl | (exfalso; simp only [i_lt, i_le, Int32.reduceToInt, b0, b1, n4, n5, i_m99] at *; omega)
      rw [eM]
      exact ⟨rfl, Or.inl ⟨b, k, _, _, hb3, hk, v0, by rw [n4]; exact v1, by rw [n4]; exact v2, by rw [n5]; exact v3, by rw [n5]; exact v4, by rw [eG]⟩⟩
    · have eN : f_N_load (nI b) (nI k) p3 h = (-1, h) := by
        unfold f_N_load f_Harbour_shift
        simp only [x1, zf, zr, zs, zp, e64, e65, c0, c1, c2, ← eA, ← eS]
        repeat' split
        all_goals first | rfl | (exfalso; refine V ⟨by assumption, ?_⟩; simp only [i_lt, i_le, Int32.reduceToInt, b0, b1, n1, n2, n3] at *; omega)
      rw [eN]
      dsimp only
      have eM : f_M_load (nI b) (nI k) p3 h = (-1, h) := by
        unfold f_M_load
        simp only [x2, zf, zr, zs, zp, c0, c1, c2, ← eA, ← eS]
        repeat' split
        rename_i d1 d2 d3 d4 d5 d6
        · exfalso
          refine V ⟨hpb.mpr d2, ?_⟩
          simp only [i_lt, i_le, Int32.reduceToInt, i_m99] at d4
          have n4 : (A + p3).toInt = A.toInt + p3.toInt := i_add (by omega) (by omega)
          have n5 : (S - p3).toInt = S.toInt - p3.toInt := i_sub (by omega) (by omega)
          simp only [i_lt, i_le, Int32.reduceToInt, n4, n5] at d5 d6
          omega
        all_goals rfl
      rw [eM]
      exact ⟨rfl, Or.inr rfl⟩
  · have eN : f_N_load p1 p2 p3 h = (-1, h) := by
      unfold f_N_load
      repeat' split
      all_goals first | rfl | (exfalso; simp only [i_lt, i_le, Int32.reduceToInt] at *; omega)
    have okN : f_N_load_ok p1 p2 p3 h := by
      unfold f_N_load_ok
      simp only [implies_true, and_true, true_and]
      intros
      exfalso
      simp only [i_lt, i_le, Int32.reduceToInt] at *
      omega
    refine ⟨okN, ?_⟩
    rw [eN]
    dsimp only
    have eM : f_M_load p1 p2 p3 h = (-1, h) := by
      unfold f_M_load
      repeat' split
      all_goals first | rfl | (exfalso; simp only [i_lt, i_le, Int32.reduceToInt] at *; omega)
    rw [eM]
    refine ⟨?_, rfl, Or.inr rfl⟩
    unfold f_M_load_ok
    simp only [implies_true, and_true, true_and]
    intro q
    refine ⟨?_, ?_⟩
    · rw [vp_in_iff]; simp only [i_lt, i_le, Int32.reduceToInt] at *; omega
    · intros
      exfalso
      simp only [i_lt, i_le, Int32.reduceToInt] at *
      omega
