/-! ===== known ===== -/
theorem fto_5 {h : zm_H} (a : Int32) {n : Nat} (hn : n ≤ 400) : f_Swell_firstTold_5_ok (nI n) a h ∧ f_Swell_firstTold_5 (nI n) a h = nI (ft (h.2.1 5) a n) := by
  unfold f_Swell_firstTold_5_ok f_Swell_firstTold_5 f_Swell_firstTold_5_a2 f_Swell_firstTold_5_k21
  obtain ⟨F, eF, -⟩ := zF_ex
  rw [← eF]
  have key := zlpF eF (b := fun s => f_Swell_firstTold_5_l2_b a s h) (o := fun s => f_Swell_firstTold_5_l2_b_ok a s h) n (by omega)
    (fun k s => s = nI (n - k) ∧ ft (h.2.1 5) a n = ft (h.2.1 5) a (n - k)) (fun q => q.2 = nI (ft (h.2.1 5) a n)) (nI n) ⟨rfl, rfl⟩
    (by
      rintro k s hk ⟨rfl, h2⟩
      obtain ⟨m, em⟩ : ∃ m, n - k = m + 1 := ⟨n - k - 1, by omega⟩
      have e2 : n - (k + 1) = m := by omega
      rw [em] at h2
      rw [e2, em]
      have g0 : ¬ (nI (m + 1) ≤ 0) := by rw [i_le, i_nI (by omega), i_0]; omega
      have x1 : nI (m + 1) - 1 = nI m := by rw [show (1 : Int32) = nI 1 from rfl, nI_s0 _ _ (by omega), Nat.add_sub_cancel]
      have x2 : nI (m + 1) + (-1) = nI m := by rw [← x1]; rw [Int32.sub_eq_add_neg]
      have z : zr h 5 (nI m) = h.2.1 5 m := zr_n h 5 (by omega)
      unfold f_Swell_firstTold_5_l2_b f_Swell_firstTold_5_l2_b_ok
      rw [if_neg g0, x1, x2, z]
      refine ⟨⟨fun z => absurd z g0, fun _ => vp_in_nI (by omega) (by omega)⟩, ?_⟩
      rw [ft] at h2
      by_cases c : h.2.1 5 m ≤ a
      · rw [if_pos c]
        rw [if_neg (by rw [i_le] at c; rw [i_lt]; omega)] at h2
        exact Or.inr ⟨by simp, by dsimp only; rw [h2]⟩
      · rw [if_neg c]
        rw [if_pos (by rw [i_le] at c; rw [i_lt]; omega)] at h2
        exact Or.inl ⟨rfl, rfl, h2⟩)
    (by
      rintro s ⟨rfl, h2⟩
      rw [Nat.sub_self] at h2 ⊢
      unfold f_Swell_firstTold_5_l2_b f_Swell_firstTold_5_l2_b_ok
      rw [if_pos (by decide)]
      refine ⟨⟨fun _ => trivial, fun z => absurd (by decide : nI 0 ≤ 0) z⟩, by simp, ?_⟩
      dsimp only
      rw [h2, ft])
  exact ⟨⟨key.1, trivial⟩, key.2⟩
theorem fto_9 {h : zm_H} (a : Int32) {n : Nat} (hn : n ≤ 30) : f_Swell_firstTold_9_ok (nI n) a h ∧ f_Swell_firstTold_9 (nI n) a h = nI (ft (h.2.1 9) a n) := by
  unfold f_Swell_firstTold_9_ok f_Swell_firstTold_9 f_Swell_firstTold_9_a2 f_Swell_firstTold_9_k21
  obtain ⟨F, eF, -⟩ := zF_ex
  rw [← eF]
  have key := zlpF eF (b := fun s => f_Swell_firstTold_9_l2_b a s h) (o := fun s => f_Swell_firstTold_9_l2_b_ok a s h) n (by omega)
    (fun k s => s = nI (n - k) ∧ ft (h.2.1 9) a n = ft (h.2.1 9) a (n - k)) (fun q => q.2 = nI (ft (h.2.1 9) a n)) (nI n) ⟨rfl, rfl⟩
    (by
      rintro k s hk ⟨rfl, h2⟩
      obtain ⟨m, em⟩ : ∃ m, n - k = m + 1 := ⟨n - k - 1, by omega⟩
      have e2 : n - (k + 1) = m := by omega
      rw [em] at h2
      rw [e2, em]
      have g0 : ¬ (nI (m + 1) ≤ 0) := by rw [i_le, i_nI (by omega), i_0]; omega
      have x1 : nI (m + 1) - 1 = nI m := by rw [show (1 : Int32) = nI 1 from rfl, nI_s0 _ _ (by omega), Nat.add_sub_cancel]
      have x2 : nI (m + 1) + (-1) = nI m := by rw [← x1]; rw [Int32.sub_eq_add_neg]
      have z : zr h 9 (nI m) = h.2.1 9 m := zr_n h 9 (by omega)
      unfold f_Swell_firstTold_9_l2_b f_Swell_firstTold_9_l2_b_ok
      rw [if_neg g0, x1, x2, z]
      refine ⟨⟨fun z => absurd z g0, fun _ => vp_in_nI (by omega) (by omega)⟩, ?_⟩
      rw [ft] at h2
      by_cases c : h.2.1 9 m ≤ a
      · rw [if_pos c]
        rw [if_neg (by rw [i_le] at c; rw [i_lt]; omega)] at h2
        exact Or.inr ⟨by simp, by dsimp only; rw [h2]⟩
      · rw [if_neg c]
        rw [if_pos (by rw [i_le] at c; rw [i_lt]; omega)] at h2
        exact Or.inl ⟨rfl, rfl, h2⟩)
    (by
      rintro s ⟨rfl, h2⟩
      rw [Nat.sub_self] at h2 ⊢
      unfold f_Swell_firstTold_9_l2_b f_Swell_firstTold_9_l2_b_ok
      rw [if_pos (by decide)]
      refine ⟨⟨fun _ => trivial, fun z => absurd (by decide : nI 0 ≤ 0) z⟩, by simp, ?_⟩
      dsimp only
      rw [h2, ft])
  exact ⟨⟨key.1, trivial⟩, key.2⟩
theorem upto_N {w n d : Nat} {h : zm_H} (S : I_sw w n d h) (a : Int32) : f_Swell_readingsUpTo_ok a h ∧ f_Swell_driftsUpTo_ok a h ∧ f_Swell_readingsUpTo a h = nI (ft (h.2.1 107) a n) ∧ f_Swell_driftsUpTo a h = nI (ft (h.2.1 111) a d) := by
  unfold f_Swell_readingsUpTo_ok f_Swell_driftsUpTo_ok f_Swell_readingsUpTo f_Swell_driftsUpTo
  rw [S.1.2.2.1, S.1.2.2.2.2.1]
  obtain ⟨a1, a2⟩ := fto_5 (h := h) a S.1.1
  obtain ⟨b1, b2⟩ := fto_9 (h := h) a S.1.2.1
  refine ⟨a1, b1, ?_, ?_⟩
  · rw [a2, ft_ext (g := h.2.1 107) (fun k hk => (S.2.1 k hk).2.1)]
  · rw [b2, ft_ext (g := h.2.1 111) (fun k hk => (S.2.2.2.1 k hk).2.2.2.1)]
theorem c_known {w n d : Nat} {h : zm_H} (S : I_sw w n d h) (p1 p2 p3 : Int32) : f_N_known_ok p1 p2 p3 h ∧ f_M_known_ok p1 p2 p3 h ∧ f_N_known p1 p2 p3 h = (f_M_known p1 p2 p3 h).1 := by
  have i480 : (480 : Int32).toInt = 480 := rfl
  have i479 : (479 : Int32).toInt = 479 := rfl
  have i2 : (2 : Int32).toInt = 2 := rfl
  have q : ∀ p : Int32, (¬ (p < 0) ∧ (¬ (480 ≤ p))) ↔ (¬ (p < 0) ∧ (¬ (479 < p))) := fun p => by rw [i_lt, i_lt, i_le, i480, i479]; omega
  unfold f_N_known_ok f_M_known_ok f_N_known f_M_known f_M_known_k33
  by_cases c1 : ¬ (p1 < 0) ∧ (¬ (480 ≤ p1))
  · by_cases c2 : ¬ (p2 < 0) ∧ (¬ (480 ≤ p2))
    · have c1' := c1
      have c2' := c2
      rw [i_lt, i_le, i_0, i480] at c1' c2'
      obtain ⟨t, ht, rfl⟩ := i_ex (a := p1) (N := 480) (by omega) (by omega)
      obtain ⟨a, ha, rfl⟩ := i_ex (a := p2) (N := 480) (by omega) (by omega)
      obtain ⟨u1, u2, u3, u4⟩ := upto_N S (nI a)
      obtain ⟨k1, k2⟩ := sw_lk S ht (ft_le (h.2.1 107) (nI a) n) (ft_le (h.2.1 111) (nI a) d)
      obtain ⟨m1, m2⟩ := lk_all S (a := a) ht
      rw [if_pos c1, if_pos c2, if_pos ((q _).mp c1), if_pos ((q _).mp c2), u3, u4, k2]
      refine ⟨⟨fun _ => ⟨fun _ => ⟨u1, u2, k1⟩, fun _ => trivial⟩, fun _ => trivial⟩, ⟨fun _ => ⟨fun _ => ⟨fun _ => m1, fun _ => trivial⟩, fun _ => trivial⟩, fun _ => trivial⟩, ?_⟩
      obtain ⟨s1, s2, s3⟩ := m2
      by_cases z0 : p3 = 0
      · subst z0
        rw [if_pos rfl, if_pos (by decide), if_pos rfl, s1]
      · by_cases z1 : p3 = 1
        · subst z1
          rw [if_neg (by decide), if_pos rfl, if_pos (by decide), if_neg (by decide), if_pos rfl, s2]
        · by_cases z2 : p3 = 2
          · subst z2
            rw [if_neg (by decide), if_neg (by decide), if_pos rfl, if_pos (by decide), if_neg (by decide), if_neg (by decide), s3]
          · rw [if_neg z0, if_neg z1, if_neg z2]
            rw [i_eq, i_0] at z0
            rw [i_eq, i_1] at z1
            rw [i_eq, i2] at z2
            rw [if_neg (show ¬ (¬ (p3 < 0) ∧ (¬ (2 < p3))) by rw [i_lt, i_lt, i_0, i2]; omega)]
    · rw [if_pos c1, if_neg c2, if_pos ((q _).mp c1), if_neg (fun z => c2 ((q _).mpr z))]
      exact ⟨⟨fun _ => ⟨fun z => absurd z c2, fun _ => trivial⟩, fun _ => trivial⟩, ⟨fun _ => ⟨fun z => absurd ((q _).mpr z) c2, fun _ => trivial⟩, fun _ => trivial⟩, rfl⟩
  · rw [if_neg c1, if_neg (fun z => c1 ((q _).mpr z))]
    exact ⟨⟨fun z => absurd z c1, fun _ => trivial⟩, ⟨fun z => absurd ((q _).mpr z) c1, fun _ => trivial⟩, rfl⟩
