/-! ===== the class reads sums and products ===== -/
theorem tq_lt (B : Nat → Int32) (n p : Nat) : tq B n p < 2147483648 := by
  unfold tq
  have := wI_le B (lxS B n p) (lxE B n p)
  repeat' split
  all_goals first | omega | (have := Int32.toNatClampNeg_lt (B (lxS B n p)); omega)
theorem tq_i {B : Nat → Int32} {n p x : Nat} (hx : x < 2147483648) : nI (tq B n p) = nI x ↔ tq B n p = x := ⟨fun z => nI_inj (tq_lt B n p) hx z, fun z => by rw [z]⟩
theorem tq_end {B : Nat → Int32} {n p : Nat} (hn : n ≤ 400) (hp : p ≤ n) (h : n ≤ p) : tq B n p = 257 := by
  obtain ⟨b1, b2, b3, b4, b5⟩ := lx_b (B := B) hn hp
  exact b5.mp (by omega)
theorem cl_readSum {B : Nat → Int32} {n : Nat} (hn : n ≤ 400) (by0 : byR B n) {R : Nat → Int32 → zm_H → zm_H} {O : Nat → Int32 → zm_H → Prop} {d : Nat} (hR : ∀ h s, rpN B n h s → s.2.1 = d → s.2.2.1 ≤ s.1 → O 102 (nI d) h ∧ okO B n 3 s (R 102 (nI d) h)) (hJ : ∀ h s0, jnk h s0 → O 102 (nI d) h ∧ jnk (R 102 (nI d) h) s0) {h : zm_H} {s : PSt} (H : rpN B n h s) (hd : s.2.1 = d) (hc : s.2.2.1 ≤ s.1) : f_Text_readSum_ok R O (nI d) h ∧ okO B n 1 s (f_Text_readSum R (nI d) h) := by
  unfold f_Text_readSum_ok f_Text_readSum f_Text_readSum_k5_ok f_Text_readSum_k5 f_Text_readSum_a7_ok f_Text_readSum_a7 f_Text_readSum_k60
  obtain ⟨F, eF, -⟩ := zF_ex
  rw [← eF]
  obtain ⟨a1, a2⟩ := hR h s H hd hc
  obtain ⟨x, ex⟩ : ∃ x, x = R 102 (nI d) h := ⟨_, rfl⟩
  rw [← ex] at a2 ⊢
  have s1 : ∀ r, stp B n (1 :: r, s) = some (3 :: 2 :: r, s) := fun r => rfl
  have key := zlpF eF (b := fun t => f_Text_readSum_l7_b R (nI d) t.1 t.2) (o := fun t => f_Text_readSum_l7_b_ok R O (nI d) t.1 t.2) 400 (by omega)
    (fun k t => t.1 = nI k ∧ ((∃ u, rpN B n t.2 u ∧ (u.2.1 = s.2.1 ∧ u.2.2.2.2.2 = s.2.2.2.2.2) ∧ s.1 ≤ u.1 ∧ u.2.2.1 + s.1 ≤ s.2.2.1 + u.1 ∧ k ≤ u.1 ∧ ∀ r, rch B n (1 :: r, s) (2 :: r, u)) ∨ ∃ s0, jnk t.2 s0 ∧ ∀ r, pfl B n (1 :: r, s) s0))
    (fun r => okO B n 1 s r.2.2) (0, x)
    ⟨rfl, by
      rcases a2 with ⟨t, b1, b2, b3, b4, b5⟩ | ⟨s0, b1, b2⟩
      · exact Or.inl ⟨t, b1, b2, b3, b4, Nat.zero_le _, fun r => rch_s (s1 r) (b5 (2 :: r))⟩
      · exact Or.inr ⟨s0, b1, fun r => pfl_r (rch_s (s1 r) (rch_r _ _ _)) (b2 (2 :: r))⟩⟩
    (by
      rintro k ⟨v2, y⟩ hk ⟨q1, q2⟩
      dsimp only at q1 q2
      subst q1
      have g0 : ¬ ((400 : Int32) ≤ nI k) := by rw [show (400 : Int32) = nI 400 from rfl, nx_le (by omega) (by omega)]; omega
      rcases q2 with ⟨u, u1, ⟨u2, u3⟩, u4, u5, u6, u7⟩ | ⟨s0, j1, j2⟩
      · have e4 : zf y 10 8 = nI (tq B n u.1) := u1.2.1.2.1
        have go : ∀ w : Nat, w < 100 → (∀ r, stp B n (2 :: r, u) = some (3 :: (1000 + w) :: 2 :: r, padv B n u)) → (100000 + nI (tq B n u.1) = enC (nI w) 0) → ¬ tq B n u.1 = 257 → f_Text_readSum_l7_k32_ok R O (nI d) (nI k) y ∧ (f_Text_readSum_l7_k32 R (nI d) (nI k) y).1 = 0 ∧ (f_Text_readSum_l7_k32 R (nI d) (nI k) y).2.1 = nI (k + 1) ∧ ((∃ u', rpN B n (f_Text_readSum_l7_k32 R (nI d) (nI k) y).2.2 u' ∧ (u'.2.1 = s.2.1 ∧ u'.2.2.2.2.2 = s.2.2.2.2.2) ∧ s.1 ≤ u'.1 ∧ u'.2.2.1 + s.1 ≤ s.2.2.1 + u'.1 ∧ k + 1 ≤ u'.1 ∧ ∀ r, rch B n (1 :: r, s) (2 :: r, u')) ∨ ∃ s0, jnk (f_Text_readSum_l7_k32 R (nI d) (nI k) y).2.2 s0 ∧ ∀ r, pfl B n (1 :: r, s) s0) := by
          intro w hw st ev nq
          obtain ⟨c1, c2, c3, c4⟩ := st_O hn by0 u1 nq
          obtain ⟨t1, t2⟩ := hR _ _ c2 (show u.2.1 = d by rw [u2]; exact hd) (show u.2.2.1 ≤ lxE B n u.1 by omega)
          unfold f_Text_readSum_l7_k32_ok f_Text_readSum_l7_k32 f_Text_readSum_l7_k41_ok f_Text_readSum_l7_k41 f_Text_readSum_l7_k46_ok f_Text_readSum_l7_k46 f_Text_readSum_l7_k54
          obtain ⟨z, ez⟩ : ∃ z, z = R 102 (nI d) (f_Text_step y) := ⟨_, rfl⟩
          rw [← ez] at t2 ⊢
          rw [e4, ev, ← nI_succ]
          have sd : ∀ (r : List Nat) (t : PSt), stp B n ((1000 + w) :: r, t) = some (r, pemt t (nI w) 0) := fun r t => by
            unfold stp
            dsimp only
            rw [if_pos (by omega), show 1000 + w - 1000 = w by omega]
          rcases t2 with ⟨t, b1, ⟨b2, b3⟩, b4, b5, b6⟩ | ⟨s0, b1, b2⟩
          · have b4 : lxE B n u.1 ≤ t.1 := b4
            have b5 : t.2.2.1 + lxE B n u.1 ≤ u.2.2.1 + t.1 := b5
            have hp := b1.2.2.1
            obtain ⟨m1, m2⟩ := em_O (w := nI w) (v := 0) b1 (by omega)
            refine ⟨⟨c1, t1, m1⟩, rfl, rfl, Or.inl ⟨_, m2, ⟨b2.trans u2, b3.trans u3⟩, by show s.1 ≤ t.1; omega, by show t.2.2.1 + 1 + s.1 ≤ s.2.2.1 + t.1; omega, by show k + 1 ≤ t.1; omega, fun r => rch_t (u7 r) (rch_s (st r) (rch_t (b6 _) (rch_s (sd _ _) (rch_r _ _ _))))⟩⟩
          · obtain ⟨m1, m2⟩ := jn_em b1 (enC (nI w) 0)
            exact ⟨⟨c1, t1, m1⟩, rfl, rfl, Or.inr ⟨s0, m2, fun r => pfl_r (rch_t (u7 r) (rch_s (st r) (rch_r _ _ _))) (b2 _)⟩⟩
        have stl : ∀ r, stp B n (2 :: r, u) = (if tq B n u.1 = 43 then some (3 :: 1002 :: 2 :: r, padv B n u) else if tq B n u.1 = 45 then some (3 :: 1003 :: 2 :: r, padv B n u) else some (r, u)) := fun r => rfl
        have k1 := tq_i (B := B) (n := n) (p := u.1) (x := 43) (by omega)
        have k2 := tq_i (B := B) (n := n) (p := u.1) (x := 45) (by omega)
        show f_Text_readSum_l7_b_ok R O (nI d) (nI k) y ∧ _
        unfold f_Text_readSum_l7_b_ok f_Text_readSum_l7_b
        dsimp only
        rw [if_neg g0, e4]
        by_cases c1 : nI (tq B n u.1) = 43
        · rw [if_pos c1]
          have c1' := k1.mp c1
          obtain ⟨o1, o2, o3, o4⟩ := go (1002 - 1000) (by omega) (fun r => by rw [stl, if_pos c1']) (by rw [c1]; decide) (by omega)
          exact ⟨⟨fun z => absurd z g0, fun _ => ⟨fun _ => o1, fun z => absurd c1 z⟩⟩, Or.inl ⟨o2, o3, o4⟩⟩
        · rw [if_neg c1]
          have c1' : ¬ tq B n u.1 = 43 := fun z => c1 (k1.mpr z)
          by_cases c2 : nI (tq B n u.1) = 45
          · rw [if_pos c2]
            have c2' := k2.mp c2
            obtain ⟨o1, o2, o3, o4⟩ := go (1003 - 1000) (by omega) (fun r => by rw [stl, if_neg c1', if_pos c2']) (by rw [c2]; decide) (by omega)
            exact ⟨⟨fun z => absurd z g0, fun _ => ⟨fun z => absurd z c1, fun _ => ⟨fun _ => o1, fun z => absurd c2 z⟩⟩⟩, Or.inl ⟨o2, o3, o4⟩⟩
          · rw [if_neg c2]
            have c2' : ¬ tq B n u.1 = 45 := fun z => c2 (k2.mpr z)
            exact ⟨⟨fun z => absurd z g0, fun _ => ⟨fun z => absurd z c1, fun _ => ⟨fun z => absurd z c2, fun _ => trivial⟩⟩⟩, Or.inr ⟨by simp, Or.inl ⟨u, u1, ⟨u2, u3⟩, u4, u5, fun r => rch_t (u7 r) (rch_s (by rw [stl, if_neg c1', if_neg c2']) (rch_r _ _ _))⟩⟩⟩
      · show f_Text_readSum_l7_b_ok R O (nI d) (nI k) y ∧ _
        unfold f_Text_readSum_l7_b_ok f_Text_readSum_l7_b
        dsimp only
        rw [if_neg g0, j1.2.2.1, if_neg (by decide), if_neg (by decide)]
        exact ⟨⟨fun z => absurd z g0, fun _ => ⟨fun z => absurd z (by decide), fun _ => ⟨fun z => absurd z (by decide), fun _ => trivial⟩⟩⟩, Or.inr ⟨by simp, Or.inr ⟨s0, j1, j2⟩⟩⟩)
    (by
      rintro ⟨v2, y⟩ ⟨q1, q2⟩
      dsimp only at q1 q2
      subst q1
      have g0 : (400 : Int32) ≤ nI 400 := by decide
      show f_Text_readSum_l7_b_ok R O (nI d) (nI 400) y ∧ _
      unfold f_Text_readSum_l7_b_ok f_Text_readSum_l7_b
      dsimp only
      rw [if_pos g0]
      refine ⟨⟨fun _ => trivial, fun z => absurd g0 z⟩, by simp, ?_⟩
      rcases q2 with ⟨u, u1, ⟨u2, u3⟩, u4, u5, u6, u7⟩ | ⟨s0, j1, j2⟩
      · have t257 := tq_end (B := B) hn u1.2.2.1 (by omega)
        have stl : ∀ r, stp B n (2 :: r, u) = (if tq B n u.1 = 43 then some (3 :: 1002 :: 2 :: r, padv B n u) else if tq B n u.1 = 45 then some (3 :: 1003 :: 2 :: r, padv B n u) else some (r, u)) := fun r => rfl
        exact Or.inl ⟨u, u1, ⟨u2, u3⟩, u4, u5, fun r => rch_t (u7 r) (rch_s (by rw [stl, if_neg (by omega), if_neg (by omega)]) (rch_r _ _ _))⟩
      · exact Or.inr ⟨s0, j1, j2⟩)
  exact ⟨⟨a1, key.1, trivial⟩, key.2⟩
theorem cj_readSum {R : Nat → Int32 → zm_H → zm_H} {O : Nat → Int32 → zm_H → Prop} {p : Int32} (hJ : ∀ h s0, jnk h s0 → O 102 p h ∧ jnk (R 102 p h) s0) {h : zm_H} {s0 : Nat} (J : jnk h s0) : f_Text_readSum_ok R O p h ∧ jnk (f_Text_readSum R p h) s0 := by
  unfold f_Text_readSum_ok f_Text_readSum f_Text_readSum_k5_ok f_Text_readSum_k5 f_Text_readSum_a7_ok f_Text_readSum_a7 f_Text_readSum_k60
  obtain ⟨F, eF, -⟩ := zF_ex
  rw [← eF]
  obtain ⟨a1, a2⟩ := hJ h s0 J
  obtain ⟨x, ex⟩ : ∃ x, x = R 102 p h := ⟨_, rfl⟩
  rw [← ex] at a2 ⊢
  have key := zlpF eF (b := fun t => f_Text_readSum_l7_b R p t.1 t.2) (o := fun t => f_Text_readSum_l7_b_ok R O p t.1 t.2) 0 (by omega)
    (fun _ t => t = (0, x)) (fun r => jnk r.2.2 s0) (0, x) rfl
    (by intro k t hk; omega)
    (by
      rintro t rfl
      have g0 : ¬ ((400 : Int32) ≤ 0) := by decide
      show f_Text_readSum_l7_b_ok R O p 0 x ∧ _
      unfold f_Text_readSum_l7_b_ok f_Text_readSum_l7_b
      dsimp only
      rw [if_neg g0, a2.2.2.1, if_neg (by decide), if_neg (by decide)]
      exact ⟨⟨fun z => absurd z g0, fun _ => ⟨fun z => absurd z (by decide), fun _ => ⟨fun z => absurd z (by decide), fun _ => trivial⟩⟩⟩, by simp, a2⟩)
  exact ⟨⟨a1, key.1, trivial⟩, key.2⟩
theorem cl_readProduct {B : Nat → Int32} {n : Nat} (hn : n ≤ 400) (by0 : byR B n) {R : Nat → Int32 → zm_H → zm_H} {O : Nat → Int32 → zm_H → Prop} {d : Nat} (hR : ∀ h s, rpN B n h s → s.2.1 = d → s.2.2.1 ≤ s.1 → O 103 (nI d) h ∧ okO B n 5 s (R 103 (nI d) h)) (hJ : ∀ h s0, jnk h s0 → O 103 (nI d) h ∧ jnk (R 103 (nI d) h) s0) {h : zm_H} {s : PSt} (H : rpN B n h s) (hd : s.2.1 = d) (hc : s.2.2.1 ≤ s.1) : f_Text_readProduct_ok R O (nI d) h ∧ okO B n 3 s (f_Text_readProduct R (nI d) h) := by
  unfold f_Text_readProduct_ok f_Text_readProduct f_Text_readProduct_k5_ok f_Text_readProduct_k5 f_Text_readProduct_a7_ok f_Text_readProduct_a7 f_Text_readProduct_k60
  obtain ⟨F, eF, -⟩ := zF_ex
  rw [← eF]
  obtain ⟨a1, a2⟩ := hR h s H hd hc
  obtain ⟨x, ex⟩ : ∃ x, x = R 103 (nI d) h := ⟨_, rfl⟩
  rw [← ex] at a2 ⊢
  have s1 : ∀ r, stp B n (3 :: r, s) = some (5 :: 4 :: r, s) := fun r => rfl
  have key := zlpF eF (b := fun t => f_Text_readProduct_l7_b R (nI d) t.1 t.2) (o := fun t => f_Text_readProduct_l7_b_ok R O (nI d) t.1 t.2) 400 (by omega)
    (fun k t => t.1 = nI k ∧ ((∃ u, rpN B n t.2 u ∧ (u.2.1 = s.2.1 ∧ u.2.2.2.2.2 = s.2.2.2.2.2) ∧ s.1 ≤ u.1 ∧ u.2.2.1 + s.1 ≤ s.2.2.1 + u.1 ∧ k ≤ u.1 ∧ ∀ r, rch B n (3 :: r, s) (4 :: r, u)) ∨ ∃ s0, jnk t.2 s0 ∧ ∀ r, pfl B n (3 :: r, s) s0))
    (fun r => okO B n 3 s r.2.2) (0, x)
    ⟨rfl, by
      rcases a2 with ⟨t, b1, b2, b3, b4, b5⟩ | ⟨s0, b1, b2⟩
      · exact Or.inl ⟨t, b1, b2, b3, b4, Nat.zero_le _, fun r => rch_s (s1 r) (b5 (4 :: r))⟩
      · exact Or.inr ⟨s0, b1, fun r => pfl_r (rch_s (s1 r) (rch_r _ _ _)) (b2 (4 :: r))⟩⟩
    (by
      rintro k ⟨v2, y⟩ hk ⟨q1, q2⟩
      dsimp only at q1 q2
      subst q1
      have g0 : ¬ ((400 : Int32) ≤ nI k) := by rw [show (400 : Int32) = nI 400 from rfl, nx_le (by omega) (by omega)]; omega
      rcases q2 with ⟨u, u1, ⟨u2, u3⟩, u4, u5, u6, u7⟩ | ⟨s0, j1, j2⟩
      · have e4 : zf y 10 8 = nI (tq B n u.1) := u1.2.1.2.1
        have go : ∀ w : Nat, w < 100 → (∀ r, stp B n (4 :: r, u) = some (5 :: (1000 + w) :: 4 :: r, padv B n u)) → (100000 + nI (tq B n u.1) = enC (nI w) 0) → ¬ tq B n u.1 = 257 → f_Text_readProduct_l7_k32_ok R O (nI d) (nI k) y ∧ (f_Text_readProduct_l7_k32 R (nI d) (nI k) y).1 = 0 ∧ (f_Text_readProduct_l7_k32 R (nI d) (nI k) y).2.1 = nI (k + 1) ∧ ((∃ u', rpN B n (f_Text_readProduct_l7_k32 R (nI d) (nI k) y).2.2 u' ∧ (u'.2.1 = s.2.1 ∧ u'.2.2.2.2.2 = s.2.2.2.2.2) ∧ s.1 ≤ u'.1 ∧ u'.2.2.1 + s.1 ≤ s.2.2.1 + u'.1 ∧ k + 1 ≤ u'.1 ∧ ∀ r, rch B n (3 :: r, s) (4 :: r, u')) ∨ ∃ s0, jnk (f_Text_readProduct_l7_k32 R (nI d) (nI k) y).2.2 s0 ∧ ∀ r, pfl B n (3 :: r, s) s0) := by
          intro w hw st ev nq
          obtain ⟨c1, c2, c3, c4⟩ := st_O hn by0 u1 nq
          obtain ⟨t1, t2⟩ := hR _ _ c2 (show u.2.1 = d by rw [u2]; exact hd) (show u.2.2.1 ≤ lxE B n u.1 by omega)
          unfold f_Text_readProduct_l7_k32_ok f_Text_readProduct_l7_k32 f_Text_readProduct_l7_k41_ok f_Text_readProduct_l7_k41 f_Text_readProduct_l7_k46_ok f_Text_readProduct_l7_k46 f_Text_readProduct_l7_k54
          obtain ⟨z, ez⟩ : ∃ z, z = R 103 (nI d) (f_Text_step y) := ⟨_, rfl⟩
          rw [← ez] at t2 ⊢
          rw [e4, ev, ← nI_succ]
          have sd : ∀ (r : List Nat) (t : PSt), stp B n ((1000 + w) :: r, t) = some (r, pemt t (nI w) 0) := fun r t => by
            unfold stp
            dsimp only
            rw [if_pos (by omega), show 1000 + w - 1000 = w by omega]
          rcases t2 with ⟨t, b1, ⟨b2, b3⟩, b4, b5, b6⟩ | ⟨s0, b1, b2⟩
          · have b4 : lxE B n u.1 ≤ t.1 := b4
            have b5 : t.2.2.1 + lxE B n u.1 ≤ u.2.2.1 + t.1 := b5
            have hp := b1.2.2.1
            obtain ⟨m1, m2⟩ := em_O (w := nI w) (v := 0) b1 (by omega)
            refine ⟨⟨c1, t1, m1⟩, rfl, rfl, Or.inl ⟨_, m2, ⟨b2.trans u2, b3.trans u3⟩, by show s.1 ≤ t.1; omega, by show t.2.2.1 + 1 + s.1 ≤ s.2.2.1 + t.1; omega, by show k + 1 ≤ t.1; omega, fun r => rch_t (u7 r) (rch_s (st r) (rch_t (b6 _) (rch_s (sd _ _) (rch_r _ _ _))))⟩⟩
          · obtain ⟨m1, m2⟩ := jn_em b1 (enC (nI w) 0)
            exact ⟨⟨c1, t1, m1⟩, rfl, rfl, Or.inr ⟨s0, m2, fun r => pfl_r (rch_t (u7 r) (rch_s (st r) (rch_r _ _ _))) (b2 _)⟩⟩
        have stl : ∀ r, stp B n (4 :: r, u) = (if tq B n u.1 = 42 then some (5 :: 1004 :: 4 :: r, padv B n u) else if tq B n u.1 = 47 then some (5 :: 1005 :: 4 :: r, padv B n u) else some (r, u)) := fun r => rfl
        have k1 := tq_i (B := B) (n := n) (p := u.1) (x := 42) (by omega)
        have k2 := tq_i (B := B) (n := n) (p := u.1) (x := 47) (by omega)
        show f_Text_readProduct_l7_b_ok R O (nI d) (nI k) y ∧ _
        unfold f_Text_readProduct_l7_b_ok f_Text_readProduct_l7_b
        dsimp only
        rw [if_neg g0, e4]
        by_cases c1 : nI (tq B n u.1) = 42
        · rw [if_pos c1]
          have c1' := k1.mp c1
          obtain ⟨o1, o2, o3, o4⟩ := go (1004 - 1000) (by omega) (fun r => by rw [stl, if_pos c1']) (by rw [c1]; decide) (by omega)
          exact ⟨⟨fun z => absurd z g0, fun _ => ⟨fun _ => o1, fun z => absurd c1 z⟩⟩, Or.inl ⟨o2, o3, o4⟩⟩
        · rw [if_neg c1]
          have c1' : ¬ tq B n u.1 = 42 := fun z => c1 (k1.mpr z)
          by_cases c2 : nI (tq B n u.1) = 47
          · rw [if_pos c2]
            have c2' := k2.mp c2
            obtain ⟨o1, o2, o3, o4⟩ := go (1005 - 1000) (by omega) (fun r => by rw [stl, if_neg c1', if_pos c2']) (by rw [c2]; decide) (by omega)
            exact ⟨⟨fun z => absurd z g0, fun _ => ⟨fun z => absurd z c1, fun _ => ⟨fun _ => o1, fun z => absurd c2 z⟩⟩⟩, Or.inl ⟨o2, o3, o4⟩⟩
          · rw [if_neg c2]
            have c2' : ¬ tq B n u.1 = 47 := fun z => c2 (k2.mpr z)
            exact ⟨⟨fun z => absurd z g0, fun _ => ⟨fun z => absurd z c1, fun _ => ⟨fun z => absurd z c2, fun _ => trivial⟩⟩⟩, Or.inr ⟨by simp, Or.inl ⟨u, u1, ⟨u2, u3⟩, u4, u5, fun r => rch_t (u7 r) (rch_s (by rw [stl, if_neg c1', if_neg c2']) (rch_r _ _ _))⟩⟩⟩
      · show f_Text_readProduct_l7_b_ok R O (nI d) (nI k) y ∧ _
        unfold f_Text_readProduct_l7_b_ok f_Text_readProduct_l7_b
        dsimp only
        rw [if_neg g0, j1.2.2.1, if_neg (by decide), if_neg (by decide)]
        exact ⟨⟨fun z => absurd z g0, fun _ => ⟨fun z => absurd z (by decide), fun _ => ⟨fun z => absurd z (by decide), fun _ => trivial⟩⟩⟩, Or.inr ⟨by simp, Or.inr ⟨s0, j1, j2⟩⟩⟩)
    (by
      rintro ⟨v2, y⟩ ⟨q1, q2⟩
      dsimp only at q1 q2
      subst q1
      have g0 : (400 : Int32) ≤ nI 400 := by decide
      show f_Text_readProduct_l7_b_ok R O (nI d) (nI 400) y ∧ _
      unfold f_Text_readProduct_l7_b_ok f_Text_readProduct_l7_b
      dsimp only
      rw [if_pos g0]
      refine ⟨⟨fun _ => trivial, fun z => absurd g0 z⟩, by simp, ?_⟩
      rcases q2 with ⟨u, u1, ⟨u2, u3⟩, u4, u5, u6, u7⟩ | ⟨s0, j1, j2⟩
      · have t257 := tq_end (B := B) hn u1.2.2.1 (by omega)
        have stl : ∀ r, stp B n (4 :: r, u) = (if tq B n u.1 = 42 then some (5 :: 1004 :: 4 :: r, padv B n u) else if tq B n u.1 = 47 then some (5 :: 1005 :: 4 :: r, padv B n u) else some (r, u)) := fun r => rfl
        exact Or.inl ⟨u, u1, ⟨u2, u3⟩, u4, u5, fun r => rch_t (u7 r) (rch_s (by rw [stl, if_neg (by omega), if_neg (by omega)]) (rch_r _ _ _))⟩
      · exact Or.inr ⟨s0, j1, j2⟩)
  exact ⟨⟨a1, key.1, trivial⟩, key.2⟩
theorem cj_readProduct {R : Nat → Int32 → zm_H → zm_H} {O : Nat → Int32 → zm_H → Prop} {p : Int32} (hJ : ∀ h s0, jnk h s0 → O 103 p h ∧ jnk (R 103 p h) s0) {h : zm_H} {s0 : Nat} (J : jnk h s0) : f_Text_readProduct_ok R O p h ∧ jnk (f_Text_readProduct R p h) s0 := by
  unfold f_Text_readProduct_ok f_Text_readProduct f_Text_readProduct_k5_ok f_Text_readProduct_k5 f_Text_readProduct_a7_ok f_Text_readProduct_a7 f_Text_readProduct_k60
  obtain ⟨F, eF, -⟩ := zF_ex
  rw [← eF]
  obtain ⟨a1, a2⟩ := hJ h s0 J
  obtain ⟨x, ex⟩ : ∃ x, x = R 103 p h := ⟨_, rfl⟩
  rw [← ex] at a2 ⊢
  have key := zlpF eF (b := fun t => f_Text_readProduct_l7_b R p t.1 t.2) (o := fun t => f_Text_readProduct_l7_b_ok R O p t.1 t.2) 0 (by omega)
    (fun _ t => t = (0, x)) (fun r => jnk r.2.2 s0) (0, x) rfl
    (by intro k t hk; omega)
    (by
      rintro t rfl
      have g0 : ¬ ((400 : Int32) ≤ 0) := by decide
      show f_Text_readProduct_l7_b_ok R O p 0 x ∧ _
      unfold f_Text_readProduct_l7_b_ok f_Text_readProduct_l7_b
      dsimp only
      rw [if_neg g0, a2.2.2.1, if_neg (by decide), if_neg (by decide)]
      exact ⟨⟨fun z => absurd z g0, fun _ => ⟨fun z => absurd z (by decide), fun _ => ⟨fun z => absurd z (by decide), fun _ => trivial⟩⟩⟩, by simp, a2⟩)
  exact ⟨⟨a1, key.1, trivial⟩, key.2⟩
