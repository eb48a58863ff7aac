/-! ===== the class reads or and and ===== -/
theorem cl_readEither {B : Nat → Int32} {n : Nat} (hn : n ≤ 400) (by0 : byR B n) {R : Nat → Int32 → zm_H → zm_H} {O : Nat → Int32 → zm_H → Prop} {d : Nat} (hR : ∀ h s, rpN B n h s → s.2.1 = d → s.2.2.1 ≤ s.1 → O 107 (nI d) h ∧ okO B n 8 s (R 107 (nI d) h)) (hJ : ∀ h s0, jnk h s0 → O 107 (nI d) h ∧ jnk (R 107 (nI d) h) s0) {h : zm_H} {s : PSt} (H : rpN B n h s) (hd : s.2.1 = d) (hc : s.2.2.1 ≤ s.1) : f_Text_readEither_ok R O (nI d) h ∧ okO B n 6 s (f_Text_readEither R (nI d) h) := by
  unfold f_Text_readEither_ok f_Text_readEither f_Text_readEither_k5_ok f_Text_readEither_k5 f_Text_readEither_a7_ok f_Text_readEither_a7 f_Text_readEither_k45
  obtain ⟨F, eF, -⟩ := zF_ex
  rw [← eF]
  obtain ⟨a1, a2⟩ := hR h s H hd hc
  obtain ⟨x, ex⟩ : ∃ x, x = R 107 (nI d) h := ⟨_, rfl⟩
  rw [← ex] at a2 ⊢
  have s1 : ∀ r, stp B n (6 :: r, s) = some (8 :: 7 :: r, s) := fun r => rfl
  have key := zlpF eF (b := fun t => f_Text_readEither_l7_b R (nI d) t.1 t.2) (o := fun t => f_Text_readEither_l7_b_ok R O (nI d) t.1 t.2) 400 (by omega)
    (fun k t => t.1 = nI k ∧ ((∃ u, rpN B n t.2 u ∧ (u.2.1 = s.2.1 ∧ u.2.2.2.2.2 = s.2.2.2.2.2) ∧ s.1 ≤ u.1 ∧ u.2.2.1 + s.1 ≤ s.2.2.1 + u.1 ∧ k ≤ u.1 ∧ ∀ r, rch B n (6 :: r, s) (7 :: r, u)) ∨ ∃ s0, jnk t.2 s0 ∧ ∀ r, pfl B n (6 :: r, s) s0))
    (fun r => okO B n 6 s r.2.2) (0, x)
    ⟨rfl, by
      rcases a2 with ⟨t, b1, b2, b3, b4, b5⟩ | ⟨s0, b1, b2⟩
      · exact Or.inl ⟨t, b1, b2, b3, b4, Nat.zero_le _, fun r => rch_s (s1 r) (b5 (7 :: r))⟩
      · exact Or.inr ⟨s0, b1, fun r => pfl_r (rch_s (s1 r) (rch_r _ _ _)) (b2 (7 :: r))⟩⟩
    (by
      rintro k ⟨v2, y⟩ hk ⟨q1, q2⟩
      dsimp only at q1 q2
      subst q1
      have g0 : ¬ ((400 : Int32) ≤ nI k) := by rw [show (400 : Int32) = nI 400 from rfl, nx_le (by omega) (by omega)]; omega
      rcases q2 with ⟨u, u1, ⟨u2, u3⟩, u4, u5, u6, u7⟩ | ⟨s0, j1, j2⟩
      · have e4 : zf y 10 8 = nI (tq B n u.1) := u1.2.1.2.1
        have stl : ∀ r, stp B n (7 :: r, u) = (if tq B n u.1 = 313 then some (8 :: 1010 :: 7 :: r, padv B n u) else some (r, u)) := fun r => rfl
        have k1 := tq_i (B := B) (n := n) (p := u.1) (x := 313) (by omega)
        show f_Text_readEither_l7_b_ok R O (nI d) (nI k) y ∧ _
        unfold f_Text_readEither_l7_b_ok f_Text_readEither_l7_b
        dsimp only
        rw [if_neg g0, e4]
        by_cases c0 : nI (tq B n u.1) = 313
        · rw [if_pos c0]
          have c0' := k1.mp c0
          have st : ∀ r, stp B n (7 :: r, u) = some (8 :: 1010 :: 7 :: r, padv B n u) := fun r => by rw [stl, if_pos c0']
          obtain ⟨c1, c2, c3, c4⟩ := st_O hn by0 u1 (by omega)
          obtain ⟨t1, t2⟩ := hR _ _ c2 (show u.2.1 = d by rw [u2]; exact hd) (show u.2.2.1 ≤ lxE B n u.1 by omega)
          unfold f_Text_readEither_l7_k28_ok f_Text_readEither_l7_k28 f_Text_readEither_l7_k33_ok f_Text_readEither_l7_k33 f_Text_readEither_l7_k39
          obtain ⟨z, ez⟩ : ∃ z, z = R 107 (nI d) (f_Text_step y) := ⟨_, rfl⟩
          rw [← ez] at t2 ⊢
          rw [show (100313 : Int32) = enC (nI (1010 - 1000)) 0 by decide, ← nI_succ]
          have sd : ∀ (r : List Nat) (t : PSt), stp B n (1010 :: r, t) = some (r, pemt t (nI (1010 - 1000)) 0) := fun r t => rfl
          rcases t2 with ⟨t, b1, ⟨b2, b3⟩, b4, b5, b6⟩ | ⟨s0, b1, b2⟩
          · have b4 : lxE B n u.1 ≤ t.1 := b4
            have b5 : t.2.2.1 + lxE B n u.1 ≤ u.2.2.1 + t.1 := b5
            have hp := b1.2.2.1
            obtain ⟨m1, m2⟩ := em_O (w := nI (1010 - 1000)) (v := 0) b1 (by omega)
            refine ⟨⟨fun z => absurd z g0, fun _ => ⟨fun _ => ⟨c1, t1, m1⟩, fun z => absurd c0 z⟩⟩, Or.inl ⟨rfl, rfl, Or.inl ⟨_, m2, ⟨b2.trans u2, b3.trans u3⟩, by show s.1 ≤ t.1; omega, by show t.2.2.1 + 1 + s.1 ≤ s.2.2.1 + t.1; omega, by show k + 1 ≤ t.1; omega, fun r => rch_t (u7 r) (rch_s (st r) (rch_t (b6 _) (rch_s (sd _ _) (rch_r _ _ _))))⟩⟩⟩
          · obtain ⟨m1, m2⟩ := jn_em b1 (enC (nI (1010 - 1000)) 0)
            exact ⟨⟨fun z => absurd z g0, fun _ => ⟨fun _ => ⟨c1, t1, m1⟩, fun z => absurd c0 z⟩⟩, Or.inl ⟨rfl, rfl, Or.inr ⟨s0, m2, fun r => pfl_r (rch_t (u7 r) (rch_s (st r) (rch_r _ _ _))) (b2 _)⟩⟩⟩
        · rw [if_neg c0]
          have c0' : ¬ tq B n u.1 = 313 := fun z => c0 (k1.mpr z)
          exact ⟨⟨fun z => absurd z g0, fun _ => ⟨fun z => absurd z c0, fun _ => trivial⟩⟩, Or.inr ⟨by simp, Or.inl ⟨u, u1, ⟨u2, u3⟩, u4, u5, fun r => rch_t (u7 r) (rch_s (by rw [stl, if_neg c0']) (rch_r _ _ _))⟩⟩⟩
      · show f_Text_readEither_l7_b_ok R O (nI d) (nI k) y ∧ _
        unfold f_Text_readEither_l7_b_ok f_Text_readEither_l7_b
        dsimp only
        rw [if_neg g0, j1.2.2.1, if_neg (by decide)]
        exact ⟨⟨fun z => absurd z g0, fun _ => ⟨fun z => absurd z (by decide), fun _ => trivial⟩⟩, Or.inr ⟨by simp, Or.inr ⟨s0, j1, j2⟩⟩⟩)
    (by
      rintro ⟨v2, y⟩ ⟨q1, q2⟩
      dsimp only at q1 q2
      subst q1
      have g0 : (400 : Int32) ≤ nI 400 := by decide
      show f_Text_readEither_l7_b_ok R O (nI d) (nI 400) y ∧ _
      unfold f_Text_readEither_l7_b_ok f_Text_readEither_l7_b
      dsimp only
      rw [if_pos g0]
      refine ⟨⟨fun _ => trivial, fun z => absurd g0 z⟩, by simp, ?_⟩
      rcases q2 with ⟨u, u1, ⟨u2, u3⟩, u4, u5, u6, u7⟩ | ⟨s0, j1, j2⟩
      · have t257 := tq_end (B := B) hn u1.2.2.1 (by omega)
        have stl : ∀ r, stp B n (7 :: r, u) = (if tq B n u.1 = 313 then some (8 :: 1010 :: 7 :: r, padv B n u) else some (r, u)) := fun r => rfl
        exact Or.inl ⟨u, u1, ⟨u2, u3⟩, u4, u5, fun r => rch_t (u7 r) (rch_s (by rw [stl, if_neg (by omega)]) (rch_r _ _ _))⟩
      · exact Or.inr ⟨s0, j1, j2⟩)
  exact ⟨⟨a1, key.1, trivial⟩, key.2⟩
theorem cj_readEither {R : Nat → Int32 → zm_H → zm_H} {O : Nat → Int32 → zm_H → Prop} {p : Int32} (hJ : ∀ h s0, jnk h s0 → O 107 p h ∧ jnk (R 107 p h) s0) {h : zm_H} {s0 : Nat} (J : jnk h s0) : f_Text_readEither_ok R O p h ∧ jnk (f_Text_readEither R p h) s0 := by
  unfold f_Text_readEither_ok f_Text_readEither f_Text_readEither_k5_ok f_Text_readEither_k5 f_Text_readEither_a7_ok f_Text_readEither_a7 f_Text_readEither_k45
  obtain ⟨F, eF, -⟩ := zF_ex
  rw [← eF]
  obtain ⟨a1, a2⟩ := hJ h s0 J
  obtain ⟨x, ex⟩ : ∃ x, x = R 107 p h := ⟨_, rfl⟩
  rw [← ex] at a2 ⊢
  have key := zlpF eF (b := fun t => f_Text_readEither_l7_b R p t.1 t.2) (o := fun t => f_Text_readEither_l7_b_ok R O p t.1 t.2) 0 (by omega)
    (fun _ t => t = (0, x)) (fun r => jnk r.2.2 s0) (0, x) rfl
    (by intro k t hk; omega)
    (by
      rintro t rfl
      have g0 : ¬ ((400 : Int32) ≤ 0) := by decide
      show f_Text_readEither_l7_b_ok R O p 0 x ∧ _
      unfold f_Text_readEither_l7_b_ok f_Text_readEither_l7_b
      dsimp only
      rw [if_neg g0, a2.2.2.1, if_neg (by decide)]
      exact ⟨⟨fun z => absurd z g0, fun _ => ⟨fun z => absurd z (by decide), fun _ => trivial⟩⟩, by simp, a2⟩)
  exact ⟨⟨a1, key.1, trivial⟩, key.2⟩
theorem cl_readBoth {B : Nat → Int32} {n : Nat} (hn : n ≤ 400) (by0 : byR B n) {R : Nat → Int32 → zm_H → zm_H} {O : Nat → Int32 → zm_H → Prop} {d : Nat} (hR : ∀ h s, rpN B n h s → s.2.1 = d → s.2.2.1 ≤ s.1 → O 108 (nI d) h ∧ okO B n 10 s (R 108 (nI d) h)) (hJ : ∀ h s0, jnk h s0 → O 108 (nI d) h ∧ jnk (R 108 (nI d) h) s0) {h : zm_H} {s : PSt} (H : rpN B n h s) (hd : s.2.1 = d) (hc : s.2.2.1 ≤ s.1) : f_Text_readBoth_ok R O (nI d) h ∧ okO B n 8 s (f_Text_readBoth R (nI d) h) := by
  unfold f_Text_readBoth_ok f_Text_readBoth f_Text_readBoth_k5_ok f_Text_readBoth_k5 f_Text_readBoth_a7_ok f_Text_readBoth_a7 f_Text_readBoth_k45
  obtain ⟨F, eF, -⟩ := zF_ex
  rw [← eF]
  obtain ⟨a1, a2⟩ := hR h s H hd hc
  obtain ⟨x, ex⟩ : ∃ x, x = R 108 (nI d) h := ⟨_, rfl⟩
  rw [← ex] at a2 ⊢
  have s1 : ∀ r, stp B n (8 :: r, s) = some (10 :: 9 :: r, s) := fun r => rfl
  have key := zlpF eF (b := fun t => f_Text_readBoth_l7_b R (nI d) t.1 t.2) (o := fun t => f_Text_readBoth_l7_b_ok R O (nI d) t.1 t.2) 400 (by omega)
    (fun k t => t.1 = nI k ∧ ((∃ u, rpN B n t.2 u ∧ (u.2.1 = s.2.1 ∧ u.2.2.2.2.2 = s.2.2.2.2.2) ∧ s.1 ≤ u.1 ∧ u.2.2.1 + s.1 ≤ s.2.2.1 + u.1 ∧ k ≤ u.1 ∧ ∀ r, rch B n (8 :: r, s) (9 :: r, u)) ∨ ∃ s0, jnk t.2 s0 ∧ ∀ r, pfl B n (8 :: r, s) s0))
    (fun r => okO B n 8 s r.2.2) (0, x)
    ⟨rfl, by
      rcases a2 with ⟨t, b1, b2, b3, b4, b5⟩ | ⟨s0, b1, b2⟩
      · exact Or.inl ⟨t, b1, b2, b3, b4, Nat.zero_le _, fun r => rch_s (s1 r) (b5 (9 :: r))⟩
      · exact Or.inr ⟨s0, b1, fun r => pfl_r (rch_s (s1 r) (rch_r _ _ _)) (b2 (9 :: r))⟩⟩
    (by
      rintro k ⟨v2, y⟩ hk ⟨q1, q2⟩
      dsimp only at q1 q2
      subst q1
      have g0 : ¬ ((400 : Int32) ≤ nI k) := by rw [show (400 : Int32) = nI 400 from rfl, nx_le (by omega) (by omega)]; omega
      rcases q2 with ⟨u, u1, ⟨u2, u3⟩, u4, u5, u6, u7⟩ | ⟨s0, j1, j2⟩
      · have e4 : zf y 10 8 = nI (tq B n u.1) := u1.2.1.2.1
        have stl : ∀ r, stp B n (9 :: r, u) = (if tq B n u.1 = 314 then some (10 :: 1009 :: 9 :: r, padv B n u) else some (r, u)) := fun r => rfl
        have k1 := tq_i (B := B) (n := n) (p := u.1) (x := 314) (by omega)
        show f_Text_readBoth_l7_b_ok R O (nI d) (nI k) y ∧ _
        unfold f_Text_readBoth_l7_b_ok f_Text_readBoth_l7_b
        dsimp only
        rw [if_neg g0, e4]
        by_cases c0 : nI (tq B n u.1) = 314
        · rw [if_pos c0]
          have c0' := k1.mp c0
          have st : ∀ r, stp B n (9 :: r, u) = some (10 :: 1009 :: 9 :: r, padv B n u) := fun r => by rw [stl, if_pos c0']
          obtain ⟨c1, c2, c3, c4⟩ := st_O hn by0 u1 (by omega)
          obtain ⟨t1, t2⟩ := hR _ _ c2 (show u.2.1 = d by rw [u2]; exact hd) (show u.2.2.1 ≤ lxE B n u.1 by omega)
          unfold f_Text_readBoth_l7_k28_ok f_Text_readBoth_l7_k28 f_Text_readBoth_l7_k33_ok f_Text_readBoth_l7_k33 f_Text_readBoth_l7_k39
          obtain ⟨z, ez⟩ : ∃ z, z = R 108 (nI d) (f_Text_step y) := ⟨_, rfl⟩
          rw [← ez] at t2 ⊢
          rw [show (100314 : Int32) = enC (nI (1009 - 1000)) 0 by decide, ← nI_succ]
          have sd : ∀ (r : List Nat) (t : PSt), stp B n (1009 :: r, t) = some (r, pemt t (nI (1009 - 1000)) 0) := fun r t => rfl
          rcases t2 with ⟨t, b1, ⟨b2, b3⟩, b4, b5, b6⟩ | ⟨s0, b1, b2⟩
          · have b4 : lxE B n u.1 ≤ t.1 := b4
            have b5 : t.2.2.1 + lxE B n u.1 ≤ u.2.2.1 + t.1 := b5
            have hp := b1.2.2.1
            obtain ⟨m1, m2⟩ := em_O (w := nI (1009 - 1000)) (v := 0) b1 (by omega)
            refine ⟨⟨fun z => absurd z g0, fun _ => ⟨fun _ => ⟨c1, t1, m1⟩, fun z => absurd c0 z⟩⟩, Or.inl ⟨rfl, rfl, Or.inl ⟨_, m2, ⟨b2.trans u2, b3.trans u3⟩, by show s.1 ≤ t.1; omega, by show t.2.2.1 + 1 + s.1 ≤ s.2.2.1 + t.1; omega, by show k + 1 ≤ t.1; omega, fun r => rch_t (u7 r) (rch_s (st r) (rch_t (b6 _) (rch_s (sd _ _) (rch_r _ _ _))))⟩⟩⟩
          · obtain ⟨m1, m2⟩ := jn_em b1 (enC (nI (1009 - 1000)) 0)
            exact ⟨⟨fun z => absurd z g0, fun _ => ⟨fun _ => ⟨c1, t1, m1⟩, fun z => absurd c0 z⟩⟩, Or.inl ⟨rfl, rfl, Or.inr ⟨s0, m2, fun r => pfl_r (rch_t (u7 r) (rch_s (st r) (rch_r _ _ _))) (b2 _)⟩⟩⟩
        · rw [if_neg c0]
          have c0' : ¬ tq B n u.1 = 314 := fun z => c0 (k1.mpr z)
          exact ⟨⟨fun z => absurd z g0, fun _ => ⟨fun z => absurd z c0, fun _ => trivial⟩⟩, Or.inr ⟨by simp, Or.inl ⟨u, u1, ⟨u2, u3⟩, u4, u5, fun r => rch_t (u7 r) (rch_s (by rw [stl, if_neg c0']) (rch_r _ _ _))⟩⟩⟩
      · show f_Text_readBoth_l7_b_ok R O (nI d) (nI k) y ∧ _
        unfold f_Text_readBoth_l7_b_ok f_Text_readBoth_l7_b
        dsimp only
        rw [if_neg g0, j1.2.2.1, if_neg (by decide)]
        exact ⟨⟨fun z => absurd z g0, fun _ => ⟨fun z => absurd z (by decide), fun _ => trivial⟩⟩, Or.inr ⟨by simp, Or.inr ⟨s0, j1, j2⟩⟩⟩)
    (by
      rintro ⟨v2, y⟩ ⟨q1, q2⟩
      dsimp only at q1 q2
      subst q1
      have g0 : (400 : Int32) ≤ nI 400 := by decide
      show f_Text_readBoth_l7_b_ok R O (nI d) (nI 400) y ∧ _
      unfold f_Text_readBoth_l7_b_ok f_Text_readBoth_l7_b
      dsimp only
      rw [if_pos g0]
      refine ⟨⟨fun _ => trivial, fun z => absurd g0 z⟩, by simp, ?_⟩
      rcases q2 with ⟨u, u1, ⟨u2, u3⟩, u4, u5, u6, u7⟩ | ⟨s0, j1, j2⟩
      · have t257 := tq_end (B := B) hn u1.2.2.1 (by omega)
        have stl : ∀ r, stp B n (9 :: r, u) = (if tq B n u.1 = 314 then some (10 :: 1009 :: 9 :: r, padv B n u) else some (r, u)) := fun r => rfl
        exact Or.inl ⟨u, u1, ⟨u2, u3⟩, u4, u5, fun r => rch_t (u7 r) (rch_s (by rw [stl, if_neg (by omega)]) (rch_r _ _ _))⟩
      · exact Or.inr ⟨s0, j1, j2⟩)
  exact ⟨⟨a1, key.1, trivial⟩, key.2⟩
theorem cj_readBoth {R : Nat → Int32 → zm_H → zm_H} {O : Nat → Int32 → zm_H → Prop} {p : Int32} (hJ : ∀ h s0, jnk h s0 → O 108 p h ∧ jnk (R 108 p h) s0) {h : zm_H} {s0 : Nat} (J : jnk h s0) : f_Text_readBoth_ok R O p h ∧ jnk (f_Text_readBoth R p h) s0 := by
  unfold f_Text_readBoth_ok f_Text_readBoth f_Text_readBoth_k5_ok f_Text_readBoth_k5 f_Text_readBoth_a7_ok f_Text_readBoth_a7 f_Text_readBoth_k45
  obtain ⟨F, eF, -⟩ := zF_ex
  rw [← eF]
  obtain ⟨a1, a2⟩ := hJ h s0 J
  obtain ⟨x, ex⟩ : ∃ x, x = R 108 p h := ⟨_, rfl⟩
  rw [← ex] at a2 ⊢
  have key := zlpF eF (b := fun t => f_Text_readBoth_l7_b R p t.1 t.2) (o := fun t => f_Text_readBoth_l7_b_ok R O p t.1 t.2) 0 (by omega)
    (fun _ t => t = (0, x)) (fun r => jnk r.2.2 s0) (0, x) rfl
    (by intro k t hk; omega)
    (by
      rintro t rfl
      have g0 : ¬ ((400 : Int32) ≤ 0) := by decide
      show f_Text_readBoth_l7_b_ok R O p 0 x ∧ _
      unfold f_Text_readBoth_l7_b_ok f_Text_readBoth_l7_b
      dsimp only
      rw [if_neg g0, a2.2.2.1, if_neg (by decide)]
      exact ⟨⟨fun z => absurd z g0, fun _ => ⟨fun z => absurd z (by decide), fun _ => trivial⟩⟩, by simp, a2⟩)
  exact ⟨⟨a1, key.1, trivial⟩, key.2⟩
