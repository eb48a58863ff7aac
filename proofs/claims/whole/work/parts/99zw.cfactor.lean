/-! ===== the class reads a factor, a comparison, a truth ===== -/
theorem tv_le (B : Nat → Int32) (n p : Nat) : tv B n p ≤ 100000 := by
  unfold tv
  generalize lxE B n p - lxS B n p = k
  induction k with
  | zero => show (0 : Nat) ≤ 100000; omega
  | succ k ih => rw [nvC]; split <;> omega
theorem pfl_u {B : Nat → Int32} {n : Nat} {a : PCf} {x y : Nat} (h1 : pfl B n a x) (h2 : pfl B n a y) : x = y := by
  obtain ⟨b, b1, b2, b3⟩ := h1
  obtain ⟨c, c1, c2, c3⟩ := h2
  rw [← b3, ← c3, hlt_u b1 c1]
theorem pfl_no {B : Nat → Int32} {n : Nat} {a : PCf} {x : Nat} {t : PSt} (h1 : pfl B n a x) (h2 : rch B n a ([], t)) : False := by
  obtain ⟨b, b1, b2, b3⟩ := h1
  have := hlt_u b1 ⟨h2, rfl⟩
  rw [this] at b2
  exact b2 rfl
theorem d8_i {d : Nat} (hd : d ≤ 8) : (8 : Int32) ≤ nI d ↔ 8 ≤ d := by rw [show (8 : Int32) = nI 8 from rfl, nx_le (by omega) (by omega)]
theorem cl_F {B : Nat → Int32} {n : Nat} (hn : n ≤ 400) (by0 : byR B n) {R : Nat → Int32 → zm_H → zm_H} {O : Nat → Int32 → zm_H → Prop} {d : Nat} (hd8 : d ≤ 8) (hR : d < 8 → ∀ h s, rpN B n h s → s.2.1 = d + 1 → s.2.2.1 ≤ s.1 → O 101 (nI (d + 1)) h ∧ okO B n 1 s (R 101 (nI (d + 1)) h)) {h : zm_H} {s : PSt} (H : rpN B n h s) (hd : s.2.1 = d) (hc : s.2.2.1 ≤ s.1) : f_Text_readFactor_ok R O (nI d) h ∧ okO B n 5 s (f_Text_readFactor R (nI d) h) := by
  have e4 : zf h 10 8 = nI (tq B n s.1) := H.2.1.2.1
  have qlt := tq_lt B n s.1
  have stl : ∀ r, stp B n (5 :: r, s) = (if tq B n s.1 = 256 then (if tv B n s.1 ≤ 99999 then some (r, padv B n (pemt s 0 (nI (tv B n s.1)))) else none) else if 304 ≤ tq B n s.1 ∧ tq B n s.1 ≤ 312 then some (r, padv B n (pemt s 1 (nI (tq B n s.1 - 304)))) else if tq B n s.1 = 40 ∧ s.2.1 < 8 then some (1 :: 141 :: 12 :: r, padv B n (pdep s (s.2.1 + 1))) else none) := fun r => rfl
  obtain ⟨q, eq⟩ : ∃ q, q = tq B n s.1 := ⟨_, rfl⟩
  -- a number or a NAME
  have put : ∀ w v : Int32, ¬ q = 257 → (∀ r, stp B n (5 :: r, s) = some (r, padv B n (pemt s w v))) → f_Text_emit_ok (enC w v) h ∧ f_Text_step_ok (f_Text_emit (enC w v) h) ∧ okO B n 5 s (f_Text_step (f_Text_emit (enC w v) h)) := by
    intro w v nq st
    rw [eq] at nq
    obtain ⟨b1, b2, b3, b4, -⟩ := lx_b (B := B) hn H.2.2.1
    have := b4 nq
    obtain ⟨m1, m2⟩ := em_O (w := w) (v := v) H (by omega)
    obtain ⟨c1, c2, c3, c4⟩ := st_O hn by0 m2 nq
    have c3 : s.1 + 1 ≤ lxE B n s.1 := c3
    exact ⟨m1, c1, Or.inl ⟨_, c2, ⟨rfl, rfl⟩, by show s.1 ≤ lxE B n s.1; omega, by show s.2.2.1 + 1 + s.1 ≤ s.2.2.1 + lxE B n s.1; omega, fun r => rch_s (st r) (rch_r _ _ _)⟩⟩
  -- what can't stand there
  have bad : (∀ r, stp B n (5 :: r, s) = none) → okO B n 5 s (f_Text_refuse h) := fun st => Or.inr ⟨_, rf_O hn H, fun r => pfl_0 (st r)⟩
  rw [← eq] at stl e4 qlt
  -- behind numbers and NAMES
  have k72 : ¬ q = 256 ∨ ¬ tv B n s.1 ≤ 99999 → ¬ (304 ≤ q ∧ q ≤ 312) → f_Text_readFactor_k82_ok R O (nI d) h ∧ okO B n 5 s (f_Text_readFactor_k82 R (nI d) h) := by
    intro n1 n2
    unfold f_Text_readFactor_k82_ok f_Text_readFactor_k82 f_Text_readFactor_k117_ok f_Text_readFactor_k117
    rw [e4]
    have i40 : nI q = 40 ↔ q = 40 := by rw [eq]; exact tq_i (x := 40) (by omega)
    by_cases c : nI q = 40
    · have c' := i40.mp c
      rw [if_pos c]
      by_cases c8 : (8 : Int32) ≤ nI d
      · rw [if_pos c8]
        have := (d8_i hd8).mp c8
        refine ⟨⟨fun _ => ⟨fun _ => ro_O H, fun z => absurd c8 z⟩, fun z => absurd c z⟩, bad (fun r => ?_)⟩
        rw [stl, if_neg (by omega), if_neg n2, if_neg (by omega)]
      · rw [if_neg c8]
        have l8 : d < 8 := by
          have : ¬ 8 ≤ d := fun z => c8 ((d8_i hd8).mpr z)
          omega
        have st : ∀ r, stp B n (5 :: r, s) = some (1 :: 141 :: 12 :: r, padv B n (pdep s (s.2.1 + 1))) := fun r => by
          rw [stl, if_neg (by omega), if_neg n2, if_pos ⟨c', by omega⟩]
        obtain ⟨c1, c2, c3, c4⟩ := st_O hn by0 (s := pdep s (s.2.1 + 1)) (show rpN B n h (pdep s (s.2.1 + 1)) from H) (by show ¬ tq B n s.1 = 257; omega)
        have c3 : s.1 + 1 ≤ lxE B n s.1 := c3
        obtain ⟨t1, t2⟩ := hR l8 _ _ c2 (show s.2.1 + 1 = d + 1 by omega) (show s.2.2.1 ≤ lxE B n s.1 by omega)
        unfold f_Text_readFactor_k101_ok f_Text_readFactor_k101 f_Text_readFactor_k108_ok f_Text_readFactor_k108
        rw [← nI_succ]
        obtain ⟨z, ez⟩ : ∃ z, z = R 101 (nI (d + 1)) (f_Text_step h) := ⟨_, rfl⟩
        rw [← ez] at t2 ⊢
        rcases t2 with ⟨t, b1, ⟨b2, b3⟩, b4, b5, b6⟩ | ⟨s0, b1, b2⟩
        · have b2 : t.2.1 = s.2.1 + 1 := b2
          have b3 : t.2.2.2.2.2 = s.2.2.2.2.2 := b3
          have b4 : lxE B n s.1 ≤ t.1 := b4
          have b5 : t.2.2.1 + lxE B n s.1 ≤ s.2.2.1 + t.1 := b5
          obtain ⟨o1, o2⟩ := nd_O hn by0 b1 (x := 41) (by omega)
          rw [show nI 41 = (41 : Int32) from rfl] at o1 o2
          have s141 : ∀ r, stp B n (141 :: r, t) = (if tq B n t.1 = 41 then some (r, padv B n t) else none) := fun r => rfl
          refine ⟨⟨fun _ => ⟨fun z => absurd z c8, fun _ => ⟨c1, t1, o1⟩⟩, fun z => absurd c z⟩, ?_⟩
          rcases o2 with ⟨p1, p2, p3, p4⟩ | ⟨p1, p2⟩
          · refine Or.inl ⟨pdep (padv B n t) (t.2.1 - 1), p2, ⟨by show t.2.1 - 1 = s.2.1; omega, b3⟩, by show s.1 ≤ lxE B n t.1; omega, by show t.2.2.1 + s.1 ≤ s.2.2.1 + lxE B n t.1; omega, fun r => rch_s (st r) (rch_t (b6 _) (rch_s (by rw [s141, if_pos p1]) (rch_s rfl (rch_r _ _ _))))⟩
          · exact Or.inr ⟨_, p2, fun r => pfl_r (rch_s (st r) (b6 _)) (pfl_0 (by rw [s141, if_neg p1]))⟩
        · obtain ⟨o1, o2⟩ := jn_nd b1 (x := 41) (by decide)
          exact ⟨⟨fun _ => ⟨fun z => absurd z c8, fun _ => ⟨c1, t1, o1⟩⟩, fun z => absurd c z⟩, Or.inr ⟨s0, o2, fun r => pfl_r (rch_s (st r) (rch_r _ _ _)) (b2 _)⟩⟩
    · rw [if_neg c]
      have c' : ¬ q = 40 := fun z => c (i40.mpr z)
      refine ⟨⟨fun z => absurd z c, fun _ => ro_O H⟩, bad (fun r => ?_)⟩
      rw [stl]
      rcases n1 with n1 | n1
      · rw [if_neg n1, if_neg n2, if_neg (fun z => c' z.1)]
      · by_cases z : q = 256
        · rw [if_pos z, if_neg n1]
        · rw [if_neg z, if_neg n2, if_neg (fun z => c' z.1)]
  have k34 : ¬ q = 256 ∨ ¬ tv B n s.1 ≤ 99999 → f_Text_readFactor_k44_ok R O (nI d) h ∧ okO B n 5 s (f_Text_readFactor_k44 R (nI d) h) := by
    intro n1
    unfold f_Text_readFactor_k44_ok f_Text_readFactor_k44
    rw [e4]
    have a1 : nI q < 304 ↔ q < 304 := by rw [show (304 : Int32) = nI 304 from rfl, i_lt, i_nI (by omega), i_nI (by omega)]; omega
    have a2 : (312 : Int32) < nI q ↔ 312 < q := by rw [show (312 : Int32) = nI 312 from rfl, i_lt, i_nI (by omega), i_nI (by omega)]; omega
    by_cases c1 : nI q < 304
    · rw [if_pos c1]
      have := a1.mp c1
      obtain ⟨o1, o2⟩ := k72 n1 (by omega)
      exact ⟨⟨fun _ => o1, fun z => absurd c1 z⟩, o2⟩
    · rw [if_neg c1]
      have c1' : ¬ q < 304 := fun z => c1 (a1.mpr z)
      by_cases c2 : (312 : Int32) < nI q
      · rw [if_pos c2]
        have := a2.mp c2
        obtain ⟨o1, o2⟩ := k72 n1 (by omega)
        exact ⟨⟨fun z => absurd z c1, fun _ => ⟨fun _ => o1, fun z => absurd c2 z⟩⟩, o2⟩
      · rw [if_neg c2]
        have c2' : ¬ 312 < q := fun z => c2 (a2.mpr z)
        have ev : (100000 : Int32) + nI q = enC 1 (nI (q - 304)) := by
          unfold enC
          rw [if_neg (by decide), if_pos rfl, show (100000 : Int32) = nI 100000 from rfl, show (100304 : Int32) = nI 100304 from rfl, nI_add, nI_add, show 100000 + q = 100304 + (q - 304) by omega]
        unfold f_Text_readFactor_k75_ok f_Text_readFactor_k75
        rw [ev]
        obtain ⟨o1, o2, o3⟩ := put 1 (nI (q - 304)) (by omega) (fun r => by rw [stl, if_neg (by omega), if_pos (by omega)])
        exact ⟨⟨fun z => absurd z c1, fun _ => ⟨fun z => absurd z c2, fun _ => ⟨o1, o2⟩⟩⟩, o3⟩
  unfold f_Text_readFactor_ok f_Text_readFactor
  rw [e4]
  have i256 : nI q = 256 ↔ q = 256 := by rw [eq]; exact tq_i (x := 256) (by omega)
  by_cases c : nI q = 256
  · have c' := i256.mp c
    obtain ⟨i7, -, e6⟩ := tkR_i H.2.1.1
    have e6 : zr h 164 (zf h 10 7) = nI (tv B n s.1) := e6 (by rw [← eq]; exact c')
    have tl := tv_le B n s.1
    rw [if_pos c, e6]
    have a1 : (99999 : Int32) < nI (tv B n s.1) ↔ 99999 < tv B n s.1 := by rw [show (99999 : Int32) = nI 99999 from rfl, i_lt, i_nI (by omega), i_nI (by omega)]; omega
    by_cases c1 : (99999 : Int32) < nI (tv B n s.1)
    · rw [if_pos c1]
      have := a1.mp c1
      obtain ⟨o1, o2⟩ := k34 (Or.inr (by omega))
      exact ⟨⟨fun _ => ⟨i7, fun _ => o1, fun z => absurd c1 z⟩, fun z => absurd c z⟩, o2⟩
    · rw [if_neg c1]
      have c1' : ¬ 99999 < tv B n s.1 := fun z => c1 (a1.mpr z)
      have ev : nI (tv B n s.1) = enC 0 (nI (tv B n s.1)) := by unfold enC; rw [if_pos rfl]
      unfold f_Text_readFactor_k37_ok f_Text_readFactor_k37
      rw [ev]
      obtain ⟨o1, o2, o3⟩ := put 0 (nI (tv B n s.1)) (by omega) (fun r => by rw [stl, if_pos c', if_pos (by omega)])
      refine ⟨⟨fun _ => ⟨i7, fun z => ?_, fun _ => ⟨i7, o1, o2⟩⟩, fun z => absurd c z⟩, o3⟩
      rw [← ev] at z
      exact absurd z c1
  · rw [if_neg c]
    have c' : ¬ q = 256 := fun z => c (i256.mpr z)
    obtain ⟨o1, o2⟩ := k34 (Or.inl c')
    exact ⟨⟨fun z => absurd z c, fun _ => o1⟩, o2⟩
theorem cj_F {R : Nat → Int32 → zm_H → zm_H} {O : Nat → Int32 → zm_H → Prop} (p : Int32) {h : zm_H} {s0 : Nat} (J : jnk h s0) : f_Text_readFactor_ok R O p h ∧ jnk (f_Text_readFactor R p h) s0 := by
  unfold f_Text_readFactor_ok f_Text_readFactor f_Text_readFactor_k44_ok f_Text_readFactor_k44 f_Text_readFactor_k82_ok f_Text_readFactor_k82 f_Text_readFactor_k117_ok f_Text_readFactor_k117
  rw [J.2.2.1, if_neg (by decide), if_pos (by decide), if_neg (by decide)]
  exact ⟨⟨fun z => absurd z (by decide), fun _ => ⟨fun _ => ⟨fun z => absurd z (by decide), fun _ => jn_ro J⟩, fun z => absurd (by decide) z⟩⟩, jn_rf J⟩
