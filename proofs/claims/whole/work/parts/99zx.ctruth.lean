/-! ===== the class reads a comparison, a truth ===== -/
def okC (B : Nat → Int32) (n : Nat) (s : PSt) (h : zm_H) : Prop := (∃ t, rpN B n h t ∧ (t.2.1 = s.2.1 ∧ t.2.2.2.2.2 = s.2.2.2.2.2) ∧ s.1 ≤ t.1 ∧ t.2.2.1 + s.1 ≤ s.2.2.1 + t.1 ∧ ∀ r, rch B n (1 :: 11 :: r, s) (r, t)) ∨ ∃ s0, jnk h s0 ∧ ∀ r, pfl B n (1 :: 11 :: r, s) s0
theorem cl_K {B : Nat → Int32} {n : Nat} (hn : n ≤ 400) (by0 : byR B n) {R : Nat → Int32 → zm_H → zm_H} {O : Nat → Int32 → zm_H → Prop} {d : Nat} (hR : ∀ h s, rpN B n h s → s.2.1 = d → s.2.2.1 ≤ s.1 → O 101 (nI d) h ∧ okO B n 1 s (R 101 (nI d) h)) (hJ : ∀ h s0, jnk h s0 → O 101 (nI d) h ∧ jnk (R 101 (nI d) h) s0) {h : zm_H} {s : PSt} (H : rpN B n h s) (hd : s.2.1 = d) (hc : s.2.2.1 ≤ s.1) : f_Text_readTruth_k71_ok R O (nI d) h ∧ okC B n s (f_Text_readTruth_k71 R (nI d) h) := by
  unfold f_Text_readTruth_k71_ok f_Text_readTruth_k71
  obtain ⟨a1, a2⟩ := hR h s H hd hc
  obtain ⟨x, ex⟩ : ∃ x, x = R 101 (nI d) h := ⟨_, rfl⟩
  rw [← ex] at a2 ⊢
  unfold f_Text_readTruth_k76_ok f_Text_readTruth_k76
  rcases a2 with ⟨u, u1, ⟨u2, u3⟩, u4, u5, u6⟩ | ⟨s0, j1, j2⟩
  · have e4 : zf x 10 8 = nI (tq B n u.1) := u1.2.1.2.1
    have stl : ∀ r, stp B n (11 :: r, u) = (if tq B n u.1 = 60 then some (1 :: 1006 :: r, padv B n u) else if tq B n u.1 = 62 then some (1 :: 1007 :: r, padv B n u) else if tq B n u.1 = 61 then some (1 :: 1008 :: r, padv B n u) else none) := fun r => rfl
    have go : ∀ w : Nat, w < 100 → (∀ r, stp B n (11 :: r, u) = some (1 :: (1000 + w) :: r, padv B n u)) → (100000 + nI (tq B n u.1) = enC (nI w) 0) → ¬ tq B n u.1 = 257 → f_Text_readTruth_k99_ok R O (nI d) (nI (tq B n u.1)) x ∧ okC B n s (f_Text_readTruth_k99 R (nI d) (nI (tq B n u.1)) x) := by
      intro w hw st ev nq
      obtain ⟨c1, c2, c3, c4⟩ := st_O hn by0 u1 nq
      obtain ⟨t1, t2⟩ := hR _ _ c2 (show u.2.1 = d by rw [u2]; exact hd) (show u.2.2.1 ≤ lxE B n u.1 by omega)
      unfold f_Text_readTruth_k99_ok f_Text_readTruth_k99 f_Text_readTruth_k103_ok f_Text_readTruth_k103 f_Text_readTruth_k108_ok f_Text_readTruth_k108
      obtain ⟨z, ez⟩ : ∃ z, z = R 101 (nI d) (f_Text_step x) := ⟨_, rfl⟩
      rw [← ez] at t2 ⊢
      rw [ev]
      have sd : ∀ (r : List Nat) (t : PSt), stp B n ((1000 + w) :: r, t) = some (r, pemt t (nI w) 0) := fun r t => by
        unfold stp
        dsimp only
        rw [if_pos (by omega), show 1000 + w - 1000 = w by omega]
      rcases t2 with ⟨t, b1, ⟨b2, b3⟩, b4, b5, b6⟩ | ⟨s0, b1, b2⟩
      · have b4 : lxE B n u.1 ≤ t.1 := b4
        have b5 : t.2.2.1 + lxE B n u.1 ≤ u.2.2.1 + t.1 := b5
        have hp := b1.2.2.1
        obtain ⟨m1, m2⟩ := em_O (w := nI w) (v := 0) b1 (by omega)
        refine ⟨⟨c1, t1, m1⟩, Or.inl ⟨_, m2, ⟨b2.trans u2, b3.trans u3⟩, by show s.1 ≤ t.1; omega, by show t.2.2.1 + 1 + s.1 ≤ s.2.2.1 + t.1; omega, fun r => rch_t (u6 _) (rch_s (st r) (rch_t (b6 _) (rch_s (sd _ _) (rch_r _ _ _))))⟩⟩
      · obtain ⟨m1, m2⟩ := jn_em b1 (enC (nI w) 0)
        exact ⟨⟨c1, t1, m1⟩, Or.inr ⟨s0, m2, fun r => pfl_r (rch_t (u6 _) (rch_s (st r) (rch_r _ _ _))) (b2 _)⟩⟩
    have k1 := tq_i (B := B) (n := n) (p := u.1) (x := 60) (by omega)
    have k2 := tq_i (B := B) (n := n) (p := u.1) (x := 62) (by omega)
    have k3 := tq_i (B := B) (n := n) (p := u.1) (x := 61) (by omega)
    rw [e4]
    by_cases c1 : nI (tq B n u.1) = 60
    · rw [if_pos c1]
      have c1' := k1.mp c1
      obtain ⟨o1, o2⟩ := go 6 (by omega) (fun r => by rw [stl, if_pos c1']) (by rw [c1]; decide) (by omega)
      exact ⟨⟨a1, fun _ => o1, fun z => absurd c1 z⟩, o2⟩
    · rw [if_neg c1]
      have c1' : ¬ tq B n u.1 = 60 := fun z => c1 (k1.mpr z)
      by_cases c2 : nI (tq B n u.1) = 62
      · rw [if_pos c2]
        have c2' := k2.mp c2
        obtain ⟨o1, o2⟩ := go 7 (by omega) (fun r => by rw [stl, if_neg c1', if_pos c2']) (by rw [c2]; decide) (by omega)
        exact ⟨⟨a1, fun z => absurd z c1, fun _ => ⟨fun _ => o1, fun z => absurd c2 z⟩⟩, o2⟩
      · rw [if_neg c2]
        have c2' : ¬ tq B n u.1 = 62 := fun z => c2 (k2.mpr z)
        by_cases c3 : nI (tq B n u.1) = 61
        · rw [if_pos c3]
          have c3' := k3.mp c3
          obtain ⟨o1, o2⟩ := go 8 (by omega) (fun r => by rw [stl, if_neg c1', if_neg c2', if_pos c3']) (by rw [c3]; decide) (by omega)
          exact ⟨⟨a1, fun z => absurd z c1, fun _ => ⟨fun z => absurd z c2, fun _ => ⟨fun _ => o1, fun z => absurd c3 z⟩⟩⟩, o2⟩
        · rw [if_neg c3]
          have c3' : ¬ tq B n u.1 = 61 := fun z => c3 (k3.mpr z)
          exact ⟨⟨a1, fun z => absurd z c1, fun _ => ⟨fun z => absurd z c2, fun _ => ⟨fun z => absurd z c3, fun _ => ro_O u1⟩⟩⟩, Or.inr ⟨_, rf_O hn u1, fun r => pfl_r (u6 _) (pfl_0 (by rw [stl, if_neg c1', if_neg c2', if_neg c3']))⟩⟩
  · rw [j1.2.2.1, if_neg (by decide), if_neg (by decide), if_neg (by decide)]
    exact ⟨⟨a1, fun z => absurd z (by decide), fun _ => ⟨fun z => absurd z (by decide), fun _ => ⟨fun z => absurd z (by decide), fun _ => jn_ro j1⟩⟩⟩, Or.inr ⟨s0, jn_rf j1, fun r => j2 _⟩⟩
theorem cj_K {R : Nat → Int32 → zm_H → zm_H} {O : Nat → Int32 → zm_H → Prop} {p : Int32} (hJ : ∀ h s0, jnk h s0 → O 101 p h ∧ jnk (R 101 p h) s0) {h : zm_H} {s0 : Nat} (J : jnk h s0) : f_Text_readTruth_k71_ok R O p h ∧ jnk (f_Text_readTruth_k71 R p h) s0 := by
  unfold f_Text_readTruth_k71_ok f_Text_readTruth_k71 f_Text_readTruth_k76_ok f_Text_readTruth_k76
  obtain ⟨a1, a2⟩ := hJ h s0 J
  rw [a2.2.2.1, if_neg (by decide), if_neg (by decide), if_neg (by decide)]
  exact ⟨⟨a1, fun z => absurd z (by decide), fun _ => ⟨fun z => absurd z (by decide), fun _ => ⟨fun z => absurd z (by decide), fun _ => jn_ro a2⟩⟩⟩, jn_rf a2⟩
/-- what opens too deep can't begin a comparison -/
theorem bad8 {B : Nat → Int32} {n : Nat} {s : PSt} (h : tq B n s.1 = 315 ∨ tq B n s.1 = 91) (r : List Nat) : pfl B n (1 :: 11 :: r, s) (lxS B n s.1) := by
  have s5 : ∀ r, stp B n (5 :: r, s) = (if tq B n s.1 = 256 then (if tv B n s.1 ≤ 99999 then some (r, padv B n (pemt s 0 (nI (tv B n s.1)))) else none) else if 304 ≤ tq B n s.1 ∧ tq B n s.1 ≤ 312 then some (r, padv B n (pemt s 1 (nI (tq B n s.1 - 304)))) else if tq B n s.1 = 40 ∧ s.2.1 < 8 then some (1 :: 141 :: 12 :: r, padv B n (pdep s (s.2.1 + 1))) else none) := fun r => rfl
  refine pfl_r (rch_s (show stp B n (1 :: 11 :: r, s) = some (3 :: 2 :: 11 :: r, s) from rfl) (rch_s (show stp B n (3 :: 2 :: 11 :: r, s) = some (5 :: 4 :: 2 :: 11 :: r, s) from rfl) (rch_r _ _ _))) (pfl_0 ?_)
  rw [s5, if_neg (by omega), if_neg (by omega), if_neg (by omega)]
theorem cl_B {B : Nat → Int32} {n : Nat} (hn : n ≤ 400) (by0 : byR B n) {R : Nat → Int32 → zm_H → zm_H} {O : Nat → Int32 → zm_H → Prop} {d : Nat} (hd8 : d ≤ 8) (hK : ∀ h s, rpN B n h s → s.2.1 = d → s.2.2.1 ≤ s.1 → f_Text_readTruth_k71_ok R O (nI d) h ∧ okC B n s (f_Text_readTruth_k71 R (nI d) h)) (hT : d < 8 → ∀ h s, rpN B n h s → s.2.1 = d + 1 → s.2.2.1 ≤ s.1 → O 108 (nI (d + 1)) h ∧ okO B n 10 s (R 108 (nI (d + 1)) h)) (hE : d < 8 → ∀ h s, rpN B n h s → s.2.1 = d + 1 → s.2.2.1 ≤ s.1 → O 106 (nI (d + 1)) h ∧ okO B n 6 s (R 106 (nI (d + 1)) h)) {h : zm_H} {s : PSt} (H : rpN B n h s) (hd : s.2.1 = d) (hc : s.2.2.1 ≤ s.1) : f_Text_readTruth_ok R O (nI d) h ∧ okO B n 10 s (f_Text_readTruth R (nI d) h) := by
  have e4 : zf h 10 8 = nI (tq B n s.1) := H.2.1.2.1
  have stl : ∀ r, stp B n (10 :: r, s) = (if tq B n s.1 = 315 then (if s.2.1 < 8 then some (10 :: 1011 :: 12 :: r, padv B n (pdep s (s.2.1 + 1))) else none) else if tq B n s.1 = 91 then (if s.2.1 < 8 then some (6 :: 193 :: 12 :: r, padv B n (pdep s (s.2.1 + 1))) else none) else some (1 :: 11 :: r, s)) := fun r => rfl
  have i315 := tq_i (B := B) (n := n) (p := s.1) (x := 315) (by omega)
  have i91 := tq_i (B := B) (n := n) (p := s.1) (x := 91) (by omega)
  obtain ⟨kk1, kk2⟩ := hK h s H hd hc
  -- a comparison
  have cmp : ¬ tq B n s.1 = 315 → ¬ tq B n s.1 = 91 → okO B n 10 s (f_Text_readTruth_k71 R (nI d) h) := by
    intro n1 n2
    have st : ∀ r, stp B n (10 :: r, s) = some (1 :: 11 :: r, s) := fun r => by rw [stl, if_neg n1, if_neg n2]
    rcases kk2 with ⟨t, b1, b2, b3, b4, b5⟩ | ⟨s0, b1, b2⟩
    · exact Or.inl ⟨t, b1, b2, b3, b4, fun r => rch_s (st r) (b5 r)⟩
    · exact Or.inr ⟨s0, b1, fun r => pfl_r (rch_s (st r) (rch_r _ _ _)) (b2 r)⟩
  -- too deep
  have deep : (tq B n s.1 = 315 ∨ tq B n s.1 = 91) → 8 ≤ d → okO B n 10 s (f_Text_readTruth_k71 R (nI d) h) := by
    intro n1 n2
    have st : ∀ r, stp B n (10 :: r, s) = none := fun r => by
      rw [stl]
      rcases n1 with z | z
      · rw [if_pos z, if_neg (by omega)]
      · rw [if_neg (by omega), if_pos z, if_neg (by omega)]
    rcases kk2 with ⟨t, b1, b2, b3, b4, b5⟩ | ⟨s0, b1, b2⟩
    · exact (pfl_no (bad8 n1 []) (b5 [])).elim
    · have := pfl_u (b2 []) (bad8 n1 [])
      rw [this] at b1
      exact Or.inr ⟨_, b1, fun r => pfl_0 (st r)⟩
  have k36 : (tq B n s.1 = 315 → 8 ≤ d) → f_Text_readTruth_k36_ok R O (nI d) h ∧ okO B n 10 s (f_Text_readTruth_k36 R (nI d) h) := by
    intro n1
    unfold f_Text_readTruth_k36_ok f_Text_readTruth_k36
    rw [e4]
    by_cases c : nI (tq B n s.1) = 91
    · have c' := i91.mp c
      rw [if_pos c]
      by_cases c8 : (8 : Int32) ≤ nI d
      · rw [if_pos c8]
        exact ⟨⟨fun _ => ⟨fun _ => kk1, fun z => absurd c8 z⟩, fun z => absurd c z⟩, deep (Or.inr c') ((d8_i hd8).mp c8)⟩
      · rw [if_neg c8]
        have l8 : d < 8 := by
          have : ¬ 8 ≤ d := fun z => c8 ((d8_i hd8).mpr z)
          omega
        have st : ∀ r, stp B n (10 :: r, s) = some (6 :: 193 :: 12 :: r, padv B n (pdep s (s.2.1 + 1))) := fun r => by
          rw [stl, if_neg (by omega), if_pos c', if_pos (by omega)]
        obtain ⟨c1, c2, c3, c4⟩ := st_O hn by0 (s := pdep s (s.2.1 + 1)) (show rpN B n h (pdep s (s.2.1 + 1)) from H) (by show ¬ tq B n s.1 = 257; omega)
        have c3 : s.1 + 1 ≤ lxE B n s.1 := c3
        obtain ⟨t1, t2⟩ := hE l8 _ _ c2 (show s.2.1 + 1 = d + 1 by omega) (show s.2.2.1 ≤ lxE B n s.1 by omega)
        unfold f_Text_readTruth_k55_ok f_Text_readTruth_k55 f_Text_readTruth_k62_ok f_Text_readTruth_k62
        rw [← nI_succ]
        obtain ⟨z, ez⟩ : ∃ z, z = R 106 (nI (d + 1)) (f_Text_step h) := ⟨_, rfl⟩
        rw [← ez] at t2 ⊢
        rcases t2 with ⟨t, b1, ⟨b2, b3⟩, b4, b5, b6⟩ | ⟨s0, b1, b2⟩
        · have b2 : t.2.1 = s.2.1 + 1 := b2
          have b3 : t.2.2.2.2.2 = s.2.2.2.2.2 := b3
          have b4 : lxE B n s.1 ≤ t.1 := b4
          have b5 : t.2.2.1 + lxE B n s.1 ≤ s.2.2.1 + t.1 := b5
          obtain ⟨o1, o2⟩ := nd_O hn by0 b1 (x := 93) (by omega)
          rw [show nI 93 = (93 : Int32) from rfl] at o1 o2
          have s193 : ∀ r, stp B n (193 :: r, t) = (if tq B n t.1 = 93 then some (r, padv B n t) else none) := fun r => rfl
          refine ⟨⟨fun _ => ⟨fun z => absurd z c8, fun _ => ⟨c1, t1, o1⟩⟩, fun z => absurd c z⟩, ?_⟩
          rcases o2 with ⟨p1, p2, p3, p4⟩ | ⟨p1, p2⟩
          · refine Or.inl ⟨pdep (padv B n t) (t.2.1 - 1), p2, ⟨by show t.2.1 - 1 = s.2.1; omega, b3⟩, by show s.1 ≤ lxE B n t.1; omega, by show t.2.2.1 + s.1 ≤ s.2.2.1 + lxE B n t.1; omega, fun r => rch_s (st r) (rch_t (b6 _) (rch_s (by rw [s193, if_pos p1]) (rch_s rfl (rch_r _ _ _))))⟩
          · exact Or.inr ⟨_, p2, fun r => pfl_r (rch_s (st r) (b6 _)) (pfl_0 (by rw [s193, if_neg p1]))⟩
        · obtain ⟨o1, o2⟩ := jn_nd b1 (x := 93) (by decide)
          exact ⟨⟨fun _ => ⟨fun z => absurd z c8, fun _ => ⟨c1, t1, o1⟩⟩, fun z => absurd c z⟩, Or.inr ⟨s0, o2, fun r => pfl_r (rch_s (st r) (rch_r _ _ _)) (b2 _)⟩⟩
    · rw [if_neg c]
      have c' : ¬ tq B n s.1 = 91 := fun z => c (i91.mpr z)
      refine ⟨⟨fun z => absurd z c, fun _ => kk1⟩, ?_⟩
      by_cases z : tq B n s.1 = 315
      · exact deep (Or.inl z) (n1 z)
      · exact cmp z c'
  unfold f_Text_readTruth_ok f_Text_readTruth
  rw [e4]
  by_cases c : nI (tq B n s.1) = 315
  · have c' := i315.mp c
    rw [if_pos c]
    by_cases c8 : (8 : Int32) ≤ nI d
    · rw [if_pos c8]
      obtain ⟨o1, o2⟩ := k36 (fun _ => (d8_i hd8).mp c8)
      exact ⟨⟨fun _ => ⟨fun _ => o1, fun z => absurd c8 z⟩, fun z => absurd c z⟩, o2⟩
    · rw [if_neg c8]
      have l8 : d < 8 := by
        have : ¬ 8 ≤ d := fun z => c8 ((d8_i hd8).mpr z)
        omega
      have st : ∀ r, stp B n (10 :: r, s) = some (10 :: 1011 :: 12 :: r, padv B n (pdep s (s.2.1 + 1))) := fun r => by
        rw [stl, if_pos c', if_pos (by omega)]
      obtain ⟨c1, c2, c3, c4⟩ := st_O hn by0 (s := pdep s (s.2.1 + 1)) (show rpN B n h (pdep s (s.2.1 + 1)) from H) (by show ¬ tq B n s.1 = 257; omega)
      have c3 : s.1 + 1 ≤ lxE B n s.1 := c3
      obtain ⟨t1, t2⟩ := hT l8 _ _ c2 (show s.2.1 + 1 = d + 1 by omega) (show s.2.2.1 ≤ lxE B n s.1 by omega)
      unfold f_Text_readTruth_k20_ok f_Text_readTruth_k20 f_Text_readTruth_k27_ok f_Text_readTruth_k27
      rw [← nI_succ]
      obtain ⟨z, ez⟩ : ∃ z, z = R 108 (nI (d + 1)) (f_Text_step h) := ⟨_, rfl⟩
      rw [← ez] at t2 ⊢
      rw [show (100315 : Int32) = enC (nI (1011 - 1000)) 0 by decide]
      have sd : ∀ (r : List Nat) (t : PSt), stp B n (1011 :: r, t) = some (r, pemt t (nI (1011 - 1000)) 0) := fun r t => rfl
      rcases t2 with ⟨t, b1, ⟨b2, b3⟩, b4, b5, b6⟩ | ⟨s0, b1, b2⟩
      · have b2 : t.2.1 = s.2.1 + 1 := b2
        have b3 : t.2.2.2.2.2 = s.2.2.2.2.2 := b3
        have b4 : lxE B n s.1 ≤ t.1 := b4
        have b5 : t.2.2.1 + lxE B n s.1 ≤ s.2.2.1 + t.1 := b5
        have hp := b1.2.2.1
        obtain ⟨m1, m2⟩ := em_O (w := nI (1011 - 1000)) (v := 0) b1 (by omega)
        refine ⟨⟨fun _ => ⟨fun z => absurd z c8, fun _ => ⟨c1, t1, m1⟩⟩, fun z => absurd c z⟩, Or.inl ⟨pdep (pemt t (nI (1011 - 1000)) 0) (t.2.1 - 1), m2, ⟨by show t.2.1 - 1 = s.2.1; omega, b3⟩, by show s.1 ≤ t.1; omega, by show t.2.2.1 + 1 + s.1 ≤ s.2.2.1 + t.1; omega, fun r => rch_s (st r) (rch_t (b6 _) (rch_s (sd _ _) (rch_s rfl (rch_r _ _ _))))⟩⟩
      · obtain ⟨m1, m2⟩ := jn_em b1 (enC (nI (1011 - 1000)) 0)
        exact ⟨⟨fun _ => ⟨fun z => absurd z c8, fun _ => ⟨c1, t1, m1⟩⟩, fun z => absurd c z⟩, Or.inr ⟨s0, m2, fun r => pfl_r (rch_s (st r) (rch_r _ _ _)) (b2 _)⟩⟩
  · rw [if_neg c]
    have c' : ¬ tq B n s.1 = 315 := fun z => c (i315.mpr z)
    obtain ⟨o1, o2⟩ := k36 (fun z => absurd z c')
    exact ⟨⟨fun z => absurd z c, fun _ => o1⟩, o2⟩
theorem cj_B {R : Nat → Int32 → zm_H → zm_H} {O : Nat → Int32 → zm_H → Prop} {p : Int32} (hJ : ∀ h s0, jnk h s0 → O 101 p h ∧ jnk (R 101 p h) s0) {h : zm_H} {s0 : Nat} (J : jnk h s0) : f_Text_readTruth_ok R O p h ∧ jnk (f_Text_readTruth R p h) s0 := by
  unfold f_Text_readTruth_ok f_Text_readTruth f_Text_readTruth_k36_ok f_Text_readTruth_k36
  rw [J.2.2.1, if_neg (by decide), if_neg (by decide)]
  obtain ⟨a1, a2⟩ := cj_K hJ J
  exact ⟨⟨fun z => absurd z (by decide), fun _ => ⟨fun z => absurd z (by decide), fun _ => a1⟩⟩, a2⟩
/-! the recursion -/
theorem f_rec_s (N m : Nat) (p : Int32) (h : zm_H) : f_rec (N + 1) m p h = if m = 101 then f_Text_readSum (f_rec N) p h else if m = 102 then f_Text_readProduct (f_rec N) p h else if m = 103 then f_Text_readFactor (f_rec N) p h else if m = 106 then f_Text_readEither (f_rec N) p h else if m = 107 then f_Text_readBoth (f_rec N) p h else if m = 108 then f_Text_readTruth (f_rec N) p h else h := rfl
theorem j_3 (N : Nat) (p : Int32) {h : zm_H} {s0 : Nat} (J : jnk h s0) : f_rec_ok (N + 1) 103 p h ∧ jnk (f_rec (N + 1) 103 p h) s0 := by
  rw [f_rec_s, if_neg (by decide), if_neg (by decide), if_pos rfl, f_rec_ok]
  obtain ⟨a, b⟩ := cj_F (R := f_rec N) (O := f_rec_ok N) p J
  exact ⟨Or.inr (Or.inr (Or.inl ⟨rfl, a⟩)), b⟩
theorem j_2 (N : Nat) (p : Int32) {h : zm_H} {s0 : Nat} (J : jnk h s0) : f_rec_ok (N + 2) 102 p h ∧ jnk (f_rec (N + 2) 102 p h) s0 := by
  rw [f_rec_s, if_neg (by decide), if_pos rfl, f_rec_ok]
  obtain ⟨a, b⟩ := cj_readProduct (R := f_rec (N + 1)) (O := f_rec_ok (N + 1)) (p := p) (fun h s0 J => j_3 N p J) J
  exact ⟨Or.inr (Or.inl ⟨rfl, a⟩), b⟩
theorem j_1 (N : Nat) (p : Int32) {h : zm_H} {s0 : Nat} (J : jnk h s0) : f_rec_ok (N + 3) 101 p h ∧ jnk (f_rec (N + 3) 101 p h) s0 := by
  rw [f_rec_s, if_pos rfl, f_rec_ok]
  obtain ⟨a, b⟩ := cj_readSum (R := f_rec (N + 2)) (O := f_rec_ok (N + 2)) (p := p) (fun h s0 J => j_2 N p J) J
  exact ⟨Or.inl ⟨rfl, a⟩, b⟩
theorem j_8 (N : Nat) (p : Int32) {h : zm_H} {s0 : Nat} (J : jnk h s0) : f_rec_ok (N + 5) 108 p h ∧ jnk (f_rec (N + 5) 108 p h) s0 := by
  rw [f_rec_s, if_neg (by decide), if_neg (by decide), if_neg (by decide), if_neg (by decide), if_neg (by decide), if_pos rfl, f_rec_ok]
  obtain ⟨a, b⟩ := cj_B (R := f_rec (N + 4)) (O := f_rec_ok (N + 4)) (p := p) (fun h s0 J => j_1 (N + 1) p J) J
  exact ⟨Or.inr (Or.inr (Or.inr (Or.inr (Or.inr ⟨rfl, a⟩)))), b⟩
theorem j_7 (N : Nat) (p : Int32) {h : zm_H} {s0 : Nat} (J : jnk h s0) : f_rec_ok (N + 6) 107 p h ∧ jnk (f_rec (N + 6) 107 p h) s0 := by
  rw [f_rec_s, if_neg (by decide), if_neg (by decide), if_neg (by decide), if_neg (by decide), if_pos rfl, f_rec_ok]
  obtain ⟨a, b⟩ := cj_readBoth (R := f_rec (N + 5)) (O := f_rec_ok (N + 5)) (p := p) (fun h s0 J => j_8 N p J) J
  exact ⟨Or.inr (Or.inr (Or.inr (Or.inr (Or.inl ⟨rfl, a⟩)))), b⟩
theorem j_6 (N : Nat) (p : Int32) {h : zm_H} {s0 : Nat} (J : jnk h s0) : f_rec_ok (N + 7) 106 p h ∧ jnk (f_rec (N + 7) 106 p h) s0 := by
  rw [f_rec_s, if_neg (by decide), if_neg (by decide), if_neg (by decide), if_pos rfl, f_rec_ok]
  obtain ⟨a, b⟩ := cj_readEither (R := f_rec (N + 6)) (O := f_rec_ok (N + 6)) (p := p) (fun h s0 J => j_7 N p J) J
  exact ⟨Or.inr (Or.inr (Or.inr (Or.inl ⟨rfl, a⟩))), b⟩
/-- sums at depth d: k is what is left of it -/
theorem cl_1 {B : Nat → Int32} {n : Nat} (hn : n ≤ 400) (by0 : byR B n) : ∀ k N d, d + k = 8 → ∀ h s, rpN B n h s → s.2.1 = d → s.2.2.1 ≤ s.1 → f_rec_ok (N + 3 * k + 3) 101 (nI d) h ∧ okO B n 1 s (f_rec (N + 3 * k + 3) 101 (nI d) h) := by
  intro k
  induction k with
  | zero =>
    intro N d hd h s H h1 h2
    rw [show N + 3 * 0 + 3 = (N + 2) + 1 by omega]
    rw [f_rec_s, if_pos rfl, f_rec_ok]
    have key := cl_readSum (R := f_rec (N + 2)) (O := f_rec_ok (N + 2)) (d := d) hn by0
      (fun h s H h1 h2 => by
        rw [f_rec_s, if_neg (by decide), if_pos rfl, f_rec_ok]
        obtain ⟨a, b⟩ := cl_readProduct (R := f_rec (N + 1)) (O := f_rec_ok (N + 1)) (d := d) hn by0
          (fun h s H h1 h2 => by
            rw [f_rec_s, if_neg (by decide), if_neg (by decide), if_pos rfl, f_rec_ok]
            obtain ⟨a, b⟩ := cl_F (R := f_rec N) (O := f_rec_ok N) (d := d) hn by0 (by omega) (fun z => by omega) H h1 h2
            exact ⟨Or.inr (Or.inr (Or.inl ⟨rfl, a⟩)), b⟩)
          (fun h s0 J => j_3 N _ J) H h1 h2
        exact ⟨Or.inr (Or.inl ⟨rfl, a⟩), b⟩)
      (fun h s0 J => j_2 N _ J) H h1 h2
    exact ⟨Or.inl ⟨rfl, key.1⟩, key.2⟩
  | succ k ih =>
    intro N d hd h s H h1 h2
    rw [show N + 3 * (k + 1) + 3 = (N + 3 * k + 3) + 2 + 1 by omega]
    obtain ⟨M, eM⟩ : ∃ M, M = N + 3 * k + 3 := ⟨_, rfl⟩
    have ih' := ih N (d + 1) (by omega)
    rw [← eM] at ih' ⊢
    rw [f_rec_s, if_pos rfl, f_rec_ok]
    have key := cl_readSum (R := f_rec (M + 2)) (O := f_rec_ok (M + 2)) (d := d) hn by0
      (fun h s H h1 h2 => by
        rw [f_rec_s, if_neg (by decide), if_pos rfl, f_rec_ok]
        obtain ⟨a, b⟩ := cl_readProduct (R := f_rec (M + 1)) (O := f_rec_ok (M + 1)) (d := d) hn by0
          (fun h s H h1 h2 => by
            rw [f_rec_s, if_neg (by decide), if_neg (by decide), if_pos rfl, f_rec_ok]
            obtain ⟨a, b⟩ := cl_F (R := f_rec M) (O := f_rec_ok M) (d := d) hn by0 (by omega) (fun _ => ih') H h1 h2
            exact ⟨Or.inr (Or.inr (Or.inl ⟨rfl, a⟩)), b⟩)
          (fun h s0 J => j_3 M _ J) H h1 h2
        exact ⟨Or.inr (Or.inl ⟨rfl, a⟩), b⟩)
      (fun h s0 J => j_2 M _ J) H h1 h2
    exact ⟨Or.inl ⟨rfl, key.1⟩, key.2⟩
/-- truths at depth d -/
theorem cl_8 {B : Nat → Int32} {n : Nat} (hn : n ≤ 400) (by0 : byR B n) : ∀ k N d, d + k = 8 → (∀ h s, rpN B n h s → s.2.1 = d → s.2.2.1 ≤ s.1 → f_rec_ok (N + 3 * k + 5) 108 (nI d) h ∧ okO B n 10 s (f_rec (N + 3 * k + 5) 108 (nI d) h)) ∧ (∀ h s, rpN B n h s → s.2.1 = d → s.2.2.1 ≤ s.1 → f_rec_ok (N + 3 * k + 7) 106 (nI d) h ∧ okO B n 6 s (f_rec (N + 3 * k + 7) 106 (nI d) h)) := by
  have cmp : ∀ k N d, d + k = 8 → ∀ h s, rpN B n h s → s.2.1 = d → s.2.2.1 ≤ s.1 → f_Text_readTruth_k71_ok (f_rec (N + 3 * k + 3 + 1)) (f_rec_ok (N + 3 * k + 3 + 1)) (nI d) h ∧ okC B n s (f_Text_readTruth_k71 (f_rec (N + 3 * k + 3 + 1)) (nI d) h) := by
    intro k N d hd h s H h1 h2
    have c1 := cl_1 hn by0 k (N + 1) d hd
    rw [show N + 1 + 3 * k + 3 = N + 3 * k + 3 + 1 by omega] at c1
    exact cl_K (R := f_rec (N + 3 * k + 3 + 1)) (O := f_rec_ok (N + 3 * k + 3 + 1)) (d := d) hn by0 c1 (fun h s0 J => j_1 (N + 3 * k + 1) _ J) H h1 h2
  have up : ∀ M d, (∀ h s, rpN B n h s → s.2.1 = d → s.2.2.1 ≤ s.1 → f_rec_ok (M + 5) 108 (nI d) h ∧ okO B n 10 s (f_rec (M + 5) 108 (nI d) h)) → ∀ h s, rpN B n h s → s.2.1 = d → s.2.2.1 ≤ s.1 → f_rec_ok (M + 7) 106 (nI d) h ∧ okO B n 6 s (f_rec (M + 7) 106 (nI d) h) := by
    intro M d hT h s H h1 h2
    rw [show M + 7 = (M + 6) + 1 by omega]
    rw [f_rec_s, if_neg (by decide), if_neg (by decide), if_neg (by decide), if_pos rfl, f_rec_ok]
    have key := cl_readEither (R := f_rec (M + 6)) (O := f_rec_ok (M + 6)) (d := d) hn by0
      (fun h s H h1 h2 => by
        rw [f_rec_s, if_neg (by decide), if_neg (by decide), if_neg (by decide), if_neg (by decide), if_pos rfl, f_rec_ok]
        obtain ⟨a, b⟩ := cl_readBoth (R := f_rec (M + 5)) (O := f_rec_ok (M + 5)) (d := d) hn by0 hT (fun h s0 J => j_8 M _ J) H h1 h2
        exact ⟨Or.inr (Or.inr (Or.inr (Or.inr (Or.inl ⟨rfl, a⟩)))), b⟩)
      (fun h s0 J => j_7 M _ J) H h1 h2
    exact ⟨Or.inr (Or.inr (Or.inr (Or.inl ⟨rfl, key.1⟩))), key.2⟩
  intro k
  induction k with
  | zero =>
    intro N d hd
    have hT : ∀ h s, rpN B n h s → s.2.1 = d → s.2.2.1 ≤ s.1 → f_rec_ok (N + 3 * 0 + 5) 108 (nI d) h ∧ okO B n 10 s (f_rec (N + 3 * 0 + 5) 108 (nI d) h) := by
      intro h s H h1 h2
      rw [show N + 3 * 0 + 5 = (N + 3 * 0 + 3 + 1) + 1 by omega]
      rw [f_rec_s, if_neg (by decide), if_neg (by decide), if_neg (by decide), if_neg (by decide), if_neg (by decide), if_pos rfl, f_rec_ok]
      obtain ⟨a, b⟩ := cl_B (R := f_rec (N + 3 * 0 + 3 + 1)) (O := f_rec_ok (N + 3 * 0 + 3 + 1)) (d := d) hn by0 (by omega) (cmp 0 N d hd) (fun z => by omega) (fun z => by omega) H h1 h2
      exact ⟨Or.inr (Or.inr (Or.inr (Or.inr (Or.inr ⟨rfl, a⟩)))), b⟩
    exact ⟨hT, up (N + 3 * 0) d hT⟩
  | succ k ih =>
    intro N d hd
    obtain ⟨i1, -⟩ := ih (N + 2) (d + 1) (by omega)
    obtain ⟨-, i2⟩ := ih N (d + 1) (by omega)
    rw [show N + 2 + 3 * k + 5 = N + 3 * (k + 1) + 3 + 1 by omega] at i1
    rw [show N + 3 * k + 7 = N + 3 * (k + 1) + 3 + 1 by omega] at i2
    have hT : ∀ h s, rpN B n h s → s.2.1 = d → s.2.2.1 ≤ s.1 → f_rec_ok (N + 3 * (k + 1) + 5) 108 (nI d) h ∧ okO B n 10 s (f_rec (N + 3 * (k + 1) + 5) 108 (nI d) h) := by
      intro h s H h1 h2
      rw [show N + 3 * (k + 1) + 5 = (N + 3 * (k + 1) + 3 + 1) + 1 by omega]
      rw [f_rec_s, if_neg (by decide), if_neg (by decide), if_neg (by decide), if_neg (by decide), if_neg (by decide), if_pos rfl, f_rec_ok]
      obtain ⟨a, b⟩ := cl_B (R := f_rec (N + 3 * (k + 1) + 3 + 1)) (O := f_rec_ok (N + 3 * (k + 1) + 3 + 1)) (d := d) hn by0 (by omega) (cmp (k + 1) N d hd) (fun _ => i1) (fun _ => i2) H h1 h2
      exact ⟨Or.inr (Or.inr (Or.inr (Or.inr (Or.inr ⟨rfl, a⟩)))), b⟩
    exact ⟨hT, up (N + 3 * (k + 1)) d hT⟩
