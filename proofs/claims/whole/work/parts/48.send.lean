/-! ===== send, boat ===== -/
theorem nb1 : zm_nb 2 1 = 1 := rfl
theorem nb0 : zm_nb 2 0 = 0 := rfl
set_option maxHeartbeats 8000000 in
theorem a_send {h : zm_H} {w nr : Nat} (w0 : w ≤ 480) (w1 : h.2.1 0 0 = nI w) (w2 : h.2.1 92 23 = nI w) (r0 : nr ≤ 10) (e1 : h.2.1 23 0 = nI nr) (e2 : h.2.1 92 33 = nI nr) (e65 : h.2.1 65 = h.2.1 138) (hp : ∀ b, b < 3 → (h.2.1 66 b = -1 ↔ h.2.1 139 b = 0)) (p1 p2 p3 p4 p5 : Int32) : f_N_send_ok p1 p2 p3 p4 p5 h ∧ f_M_send_ok p1 p2 p3 p4 p5 (f_N_send p1 p2 p3 p4 p5 h).2 ∧ (f_N_send p1 p2 p3 p4 p5 h).1 = (f_M_send p1 p2 p3 p4 p5 (f_N_send p1 p2 p3 p4 p5 h).2).1 ∧ ((∃ b r j t, b < 3 ∧ r < nr ∧ j ≤ 4 ∧ w ≤ t ∧ t < 480 ∧ (j < 3 → 10 ≤ p5.toInt ∧ p5.toInt ≤ 5000) ∧ h.2.1 66 b = -1 ∧ ¬ h.2.1 138 (3 * b + (if j < 3 then 0 else j - 2)) = 0 ∧ (f_M_send p1 p2 p3 p4 p5 (f_N_send p1 p2 p3 p4 p5 h).2).2 = zm_si (zm_si (zm_si (zm_si (zm_si (zm_si (zm_si (zm_si (zm_si h 66 b (nI t)) 67 b (nI r)) 68 b (nI j)) 69 b p5) 139 b 1) 140 b (nI r)) 141 b (nI j)) 143 b p5) 142 b (nI t)) ∨ (f_M_send p1 p2 p3 p4 p5 (f_N_send p1 p2 p3 p4 p5 h).2).2 = h) := by
  have bw : (nI w).toInt = w := i_nI (by omega)
  have br : (nI nr).toInt = nr := i_nI (by omega)
  have br1 : (nI nr - 1).toInt = nr - 1 := by rw [i_sub (by rw [br, i_1]; omega) (by rw [br, i_1]; omega), br, i_1]
  by_cases R : (0 ≤ p1.toInt ∧ p1.toInt < 3) ∧ (0 ≤ p2.toInt ∧ p2.toInt < nr) ∧ (0 ≤ p3.toInt ∧ p3.toInt < 5)
  · obtain ⟨⟨r1, r2⟩, ⟨r3, r4⟩, r5, r6⟩ := R
    obtain ⟨b, hb, rfl⟩ := i_ex (N := 3) r1 r2
    obtain ⟨r, hr, rfl⟩ := i_ex (N := nr) r3 r4
    obtain ⟨j, hj, rfl⟩ := i_ex (N := 5) r5 r6
    have b0 : (nI b).toInt = b := i_nI (by omega)
    have b1 : (nI r).toInt = r := i_nI (by omega)
    have b2 : (nI j).toInt = j := i_nI (by omega)
    have c0 : (nI b).toNatClampNeg = b := nI_c (by omega)
    obtain ⟨P, eP⟩ : ∃ P, P = if j < 3 then 0 else j - 2 := ⟨_, rfl⟩
    have hP : P < 3 := by rw [eP]; split <;> omega
    have x1 : nI b * 3 + (if (3 ≤ nI j) then ((if (nI j = 3) then (1 : Int32) else 2) : Int32) else 0) = nI (3 * b + P) := by
      rw [show (3 : Int32) = nI 3 from rfl, pk_mul, Nat.mul_comm, ← nI_add]
      congr 1
      rw [eP]
      rcases (show j = 0 ∨ j = 1 ∨ j = 2 ∨ j = 3 ∨ j = 4 by omega) with h | h | h | h | h <;> subst h <;> rfl
    have x2 : 3 * nI b + (if (3 ≤ nI j) then ((nI j - 2) : Int32) else 0) = nI (3 * b + P) := by
      rw [show (3 : Int32) = nI 3 from rfl, pk_mul, ← nI_add]
      congr 1
      rw [eP]
      rcases (show j = 0 ∨ j = 1 ∨ j = 2 ∨ j = 3 ∨ j = 4 by omega) with h | h | h | h | h <;> subst h <;> rfl
    have c2 : (nI (3 * b + P)).toNatClampNeg = 3 * b + P := nI_c (by omega)
    have i0 : vp_in (nI b) 3 := vp_in_nI hb (by omega)
    have i2 : vp_in (nI (3 * b + P)) 9 := vp_in_nI (by omega) (by omega)
    have hpb := hp b hb
    have okN : f_N_send_ok (nI b) (nI r) (nI j) p4 p5 h := by
      unfold f_N_send_ok f_N_send_k77_ok f_Harbour_goOut_ok
      rw [x1]
      simp only [i0, i2, implies_true, and_true, true_and]
    refine ⟨okN, ?_⟩
    have okM : ∀ G, f_M_send_ok (nI b) (nI r) (nI j) p4 p5 G := by
      intro G
      unfold f_M_send_ok f_M_send_k98_ok
      rw [x2]
      simp only [i0, i2, implies_true, and_true, true_and]
    refine ⟨okM _, ?_⟩
    obtain ⟨A, eA⟩ : ∃ A, A = h.2.1 138 (3 * b + P) := ⟨_, rfl⟩
    have dj : (3 : Int32) ≤ nI j ↔ 3 ≤ j := by rw [i_le, b2]; simp only [Int32.reduceToInt]; omega
    by_cases T : 1 ≤ p4.toInt ∧ p4.toInt ≤ 8
    · have n4 : (nI w + p4).toInt = w + p4.toInt := by rw [i_add (by omega) (by omega), bw]
      have n5 : (nI w + p4 - 1).toInt = w + p4.toInt - 1 := by rw [i_sub (by rw [n4, i_1]; omega) (by rw [n4, i_1]; omega), n4, i_1]
      by_cases V : w + p4.toInt ≤ 480 ∧ (3 ≤ j → p5.toInt = 0) ∧ (j < 3 → 10 ≤ p5.toInt ∧ p5.toInt ≤ 5000) ∧ h.2.1 66 b = -1 ∧ ¬ A = 0
      · obtain ⟨v1, v2, v3, v4, v5⟩ := V
        obtain ⟨t, ht, et⟩ : ∃ t, t < 480 ∧ nI w + p4 - 1 = nI t := i_ex (by omega) (by omega)
        have htw : w ≤ t := by
          rw [et, i_nI (by omega)] at n5
          omega
        have v6 := hpb.mp v4
        have eN : f_N_send (nI b) (nI r) (nI j) p4 p5 h = (nI t, zm_si (zm_si (zm_si (zm_si h 66 b (nI t)) 67 b (nI r)) 68 b (nI j)) 69 b p5) := by
          unfold f_N_send f_N_send_k77 f_Harbour_goOut
          simp only [x1, zf, zr, zs, zp, w1, e1, e65, c0, c2, ← eA, v4, if_true, et, if_neg v5]
          repeat' split
          all_goals first | rfl | (exfalso; simp only [dj, i_lt, i_le, i_eq, Int32.reduceToInt, b0, b1, b2, br, n4] at *; omega)
        rw [eN]
        dsimp only
        obtain ⟨G, eG⟩ : ∃ G, G = zm_si (zm_si (zm_si (zm_si h 66 b (nI t)) 67 b (nI r)) 68 b (nI j)) 69 b p5 := ⟨_, rfl⟩
        rw [← eG]
        have g1 : G.2.1 92 33 = nI nr := by rw [eG]; simpa [za_si] using e2
        have g2 : G.2.1 138 = h.2.1 138 := by rw [eG]; simp [za_si]
        have g3 : G.2.1 139 = h.2.1 139 := by rw [eG]; simp [za_si]
        have g4 : G.2.1 92 23 = nI w := by rw [eG]; simpa [za_si] using w2
        have eM : f_M_send (nI b) (nI r) (nI j) p4 p5 G = (nI t, zm_si (zm_si (zm_si (zm_si (zm_si G 139 b 1) 140 b (nI r)) 141 b (nI j)) 143 b p5) 142 b (nI t)) := by
          unfold f_M_send f_M_send_k98
          simp only [x2, zf, zr, zs, zp, g1, g2, g3, g4, c0, c2, ← eA, v6, if_true, zm_in, et, nb1, if_neg v5]
          clear eG eN
          repeat' split
          all_goals first | rfl | (exfalso; simp only [dj, i_lt, i_le, i_eq, Int32.reduceToInt, b0, b1, b2, br1, n4] at *; omega)
        rw [eM]
        refine ⟨rfl, Or.inl ⟨b, r, j, t, hb, hr, by omega, htw, ht, v3, v4, ?_, by rw [eG]⟩⟩
        rw [← eP, ← eA]; exact v5
      · have eN : f_N_send (nI b) (nI r) (nI j) p4 p5 h = (-1, h) := by
          have K : f_N_send_k77 (nI b) (nI r) (nI j) p4 p5 h = (-1, h) ∨ (h.2.1 66 b = -1 ∧ ¬ A = 0) := by
            unfold f_N_send_k77 f_Harbour_goOut
            simp only [x1, zf, zr, zs, zp, w1, e1, e65, c0, c2, ← eA]
            by_cases k1 : h.2.1 66 b = -1
            · rw [if_pos k1]
              by_cases k2 : A = 0
              · rw [if_pos k2]; exact Or.inl rfl
              · exact Or.inr ⟨k1, k2⟩
            · rw [if_neg k1]; exact Or.inl rfl
          unfold f_N_send
          simp only [zf, w1, e1]
          rcases K with K | K
          · rw [K]
            repeat' split
            all_goals rfl
          · have V' : ¬ (w + p4.toInt ≤ 480 ∧ (3 ≤ j → p5.toInt = 0) ∧ (j < 3 → 10 ≤ p5.toInt ∧ p5.toInt ≤ 5000)) := fun z => V ⟨z.1, z.2.1, z.2.2, K.1, K.2⟩
            clear V okN okM x1 x2 eA hp hpb e65 K
            repeat' split
            all_goals first | rfl | (exfalso; simp only [dj, i_lt, i_le, i_eq, Int32.reduceToInt, b0, b1, b2, br, n4] at *; omega)
        rw [eN]
        dsimp only
        have eM : f_M_send (nI b) (nI r) (nI j) p4 p5 h = (-1, h) := by
          unfold f_M_send
          simp only [x2, zf, zr, zs, zp, w2, e2, c0, c2, ← eA]
          by_cases K : h.2.1 66 b = -1 ∧ ¬ A = 0
          · have V' : ¬ (w + p4.toInt ≤ 480 ∧ (3 ≤ j → p5.toInt = 0) ∧ (j < 3 → 10 ≤ p5.toInt ∧ p5.toInt ≤ 5000)) := fun z => V ⟨z.1, z.2.1, z.2.2, K.1, K.2⟩
            rw [if_pos (hpb.mp K.1), if_neg K.2]
            clear V okN okM x1 x2 eA hp hpb e65 K eN
            repeat' split
            all_goals first | rfl | (exfalso; simp only [dj, i_lt, i_le, i_eq, Int32.reduceToInt, b0, b1, b2, br1, n4] at *; omega)
          · by_cases k1 : h.2.1 139 b = 0
            · have k2 : A = 0 := Decidable.byContradiction (fun z => K ⟨hpb.mpr k1, z⟩)
              rw [if_pos k1, if_pos k2]
              repeat' split
              all_goals rfl
            · rw [if_neg k1]
              repeat' split
              all_goals rfl
        rw [eM]
        exact ⟨rfl, Or.inr rfl⟩
    · have gT : ¬ (¬ (p4 < 1) ∧ (¬ (8 < p4))) := by simp only [i_lt, Int32.reduceToInt]; omega
      have eN : f_N_send (nI b) (nI r) (nI j) p4 p5 h = (-1, h) := by
        unfold f_N_send
        by_cases k1 : p4 < 1
        · simp only [if_pos k1, ite_self]
        · have k2 : 8 < p4 := Decidable.byContradiction (fun z => gT ⟨k1, z⟩)
          simp only [if_neg k1, if_pos k2, ite_self]
      rw [eN]
      dsimp only
      have eM : f_M_send (nI b) (nI r) (nI j) p4 p5 h = (-1, h) := by
        unfold f_M_send
        simp only [if_neg gT, ite_self]
      rw [eM]
      exact ⟨rfl, Or.inr rfl⟩
  · have eN : f_N_send p1 p2 p3 p4 p5 h = (-1, h) := by
      unfold f_N_send
      simp only [zf, e1]
      repeat' split
      all_goals first | rfl | (exfalso; simp only [i_lt, i_le, i_eq, Int32.reduceToInt, br] at *; omega)
    have okN : f_N_send_ok p1 p2 p3 p4 p5 h := by
      unfold f_N_send_ok
      simp only [zf, e1, implies_true, and_true, true_and]
      intros
      exfalso
      simp only [i_lt, i_le, Int32.reduceToInt, br] at *
      omega
    refine ⟨okN, ?_⟩
    rw [eN]
    dsimp only
    have eM : f_M_send p1 p2 p3 p4 p5 h = (-1, h) := by
      unfold f_M_send
      simp only [zf, e2]
      repeat' split
      all_goals first | rfl | (exfalso; simp only [i_lt, i_le, i_eq, Int32.reduceToInt, br1] at *; omega)
    rw [eM]
    refine ⟨?_, rfl, Or.inr rfl⟩
    unfold f_M_send_ok
    simp only [zf, e2, implies_true, and_true, true_and]
    intro q
    refine ⟨?_, ?_⟩
    · rw [vp_in_iff]; simp only [i_lt, i_le, Int32.reduceToInt] at *; omega
    · intros
      exfalso
      simp only [i_lt, i_le, Int32.reduceToInt, br1] at *
      omega
theorem a_boat {h : zm_H} (e65 : h.2.1 65 = h.2.1 138) (e70 : h.2.1 70 = h.2.1 144) (e71 : h.2.1 71 = h.2.1 145) (hp : ∀ b, b < 3 → (h.2.1 66 b = -1 ↔ h.2.1 139 b = 0)) (p1 p2 : Int32) : f_N_boat_ok p1 p2 h ∧ f_M_boat_ok p1 p2 h ∧ f_N_boat p1 p2 h = f_M_boat p1 p2 h := by
  by_cases R : 0 ≤ p1.toInt ∧ p1.toInt < 3
  · obtain ⟨b, hb, rfl⟩ := i_ex (N := 3) R.1 R.2
    have b0 : (nI b).toInt = b := i_nI (by omega)
    have c0 : (nI b).toNatClampNeg = b := nI_c (by omega)
    have i0 : vp_in (nI b) 3 := vp_in_nI hb (by omega)
    have g1 : ¬ (nI b < 0) ∧ (¬ (3 ≤ nI b)) := by simp only [i_lt, i_le, Int32.reduceToInt, b0]; omega
    have g2 : ¬ (nI b < 0) ∧ (¬ (2 < nI b)) := by simp only [i_lt, i_le, Int32.reduceToInt, b0]; omega
    have hpb := hp b hb
    have comm : nI b * 3 = 3 * nI b := Int32.mul_comm _ _
    have ix : ∀ q : Nat, 1 ≤ q → q ≤ 3 → vp_in (3 * nI b + nI q - 1) 9 := by
      intro q h1 h2
      rw [show (3 : Int32) = nI 3 from rfl, pk_mul, nI_add, show 3 * b + q = (3 * b + q - 1) + 1 by omega, nI_pred]
      exact vp_in_nI (by omega) (by omega)
    refine ⟨?_, ?_, ?_⟩
    · unfold f_N_boat_ok f_Harbour_ofBoat_ok
      have j1 := ix 1 (by omega) (by omega)
      have j2 := ix 2 (by omega) (by omega)
      have j3 := ix 3 (by omega) (by omega)
      rw [comm]
      refine ⟨fun _ => ?_, fun z => absurd g1 z⟩
      refine ⟨fun _ => i0, fun _ => ⟨fun e => by rw [e]; exact j1, fun _ => ⟨fun e => by rw [e]; exact j2, fun _ => ⟨fun e => by rw [e]; exact j3, fun _ => ⟨fun _ => i0, fun _ => ⟨fun _ => i0, fun _ => trivial⟩⟩⟩⟩⟩⟩
    · unfold f_M_boat_ok
      simp only [i0, implies_true, and_true, true_and]
      intro _
      intro q
      obtain ⟨k, hk, e⟩ : ∃ k, k < 4 ∧ p2 = nI k := i_ex (by simp only [i_lt, Int32.reduceToInt] at q; omega) (by simp only [i_lt, Int32.reduceToInt] at q; omega)
      subst e
      refine ix k ?_ (by omega)
      simp only [i_lt, Int32.reduceToInt, i_nI (show k < 2147483648 by omega)] at q
      omega
    · unfold f_N_boat f_M_boat f_Harbour_ofBoat
      rw [if_pos g1, if_pos g2, comm]
      simp only [zr, c0, e65, e70, e71]
      have e0 : (if h.2.1 66 b = -1 then (1 : Int32) else 0) = if h.2.1 139 b = 0 then (1 : Int32) else 0 := by
        by_cases z : h.2.1 66 b = -1
        · rw [if_pos z, if_pos (hpb.mp z)]
        · rw [if_neg z, if_neg (fun y => z (hpb.mpr y))]
      rw [e0]
      repeat' split
      all_goals first | rfl | (exfalso; simp only [i_lt, i_le, i_eq, Int32.reduceToInt] at *; omega)
  · have g1 : ¬ (¬ (p1 < 0) ∧ (¬ (3 ≤ p1))) := by simp only [i_lt, i_le, Int32.reduceToInt]; omega
    have g2 : ¬ (¬ (p1 < 0) ∧ (¬ (2 < p1))) := by simp only [i_lt, i_le, Int32.reduceToInt]; omega
    refine ⟨⟨fun z => absurd z g1, fun _ => trivial⟩, ⟨fun z => absurd z g2, fun _ => trivial⟩, ?_⟩
    unfold f_N_boat f_M_boat
    rw [if_neg g1, if_neg g2]
