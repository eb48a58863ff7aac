/-! ===== sink and rise, the class: course 37 ===== -/
theorem snk_37 {ns nf nr g w : Nat} {h : zm_H} (H : I_rl ns nf h) (R : I_rf w nr h) (V : vOK nr g (vC 38 h)) {t : Nat} {sea : Int32} (hs : rdOK sea) (ht : t < 480) (hN : sN (h.2.1 21) sea (nI t)) : f_Course_sinkAndRise_37_ok (nI t) h ∧ zWr [21, 22, 38] [(15, 9)] h (f_Course_sinkAndRise_37 (nI t) h) ∧ sN ((f_Course_sinkAndRise_37 (nI t) h).2.1 21) sea (nI t) ∧ vC 38 (f_Course_sinkAndRise_37 (nI t) h) = fld (snk (fun c nm => Ev nf h c (nI t) nm) (h.2.1 112) sea (nI t)) nr (vC 38 h) := by
  obtain ⟨⟨hnr, e23, -⟩, ⟨a24, -, -⟩, hR⟩ := R
  obtain ⟨r0, q0⟩ := fc_N H.1 (c := 0) (by omega) (nI t)
  obtain ⟨r1, q1⟩ := fc_N H.1 (c := 1) (by omega) (nI t)
  have r0 : f_Rules_ruling_ok 0 (nI t) h := r0
  have r1 : f_Rules_ruling_ok 1 (nI t) h := r1
  obtain ⟨A, eA⟩ : ∃ A, A = f_Rules_ruling 0 (nI t) h := ⟨_, rfl⟩
  obtain ⟨B, eB⟩ : ∃ B, B = f_Rules_ruling 1 (nI t) h := ⟨_, rfl⟩
  have q0 : A = (inf (h.2.1 103) (h.2.1 104) (h.2.1 101) 0 (nI t) nf).1 := by rw [eA]; exact q0
  have q1 : B = (inf (h.2.1 103) (h.2.1 104) (h.2.1 101) 1 (nI t) nf).1 := by rw [eB]; exact q1
  unfold f_Course_sinkAndRise_37_ok f_Course_sinkAndRise_37 f_Course_sinkAndRise_37_a23 f_Course_sinkAndRise_37_k112
  rw [← eA, ← eB]
  obtain ⟨F, eF, -⟩ := zF_ex
  rw [← eF]
  have key := zlp_k eF (b := fun s => f_Course_sinkAndRise_37_l23_b A B s.1 s.2) (o := fun s => f_Course_sinkAndRise_37_l23_b_ok A B s.1 s.2) nr (by omega) 0
    (fun j h1 => zWr [21, 22, 38] [(15, 9)] h h1 ∧ sN (h1.2.1 21) sea (nI t) ∧ vC 38 h1 = fld (snk (fun c nm => Ev nf h c (nI t) nm) (h.2.1 112) sea (nI t)) j (vC 38 h)) h ⟨zWr.refl _ _, hN, rfl⟩
    (by
      rintro j h1 hj ⟨p1, p2, p3⟩
      rw [Nat.zero_add]
      have hj10 : j < 10 := by omega
      have f23 : zf h1 23 0 = nI nr := (p1.fld 23 0 (by decide) (by decide)).trans e23
      have g0 : ¬ (zf h1 23 0 ≤ nI j) := by rw [f23, nx_le (by omega) (by omega)]; omega
      have V1 : vOK nr g (vC 38 h1) := by rw [p3]; exact vOK_snks V _ _ _ _ j (by omega)
      have hw : wfR [21, 22, 38] [(15, 9)] = true := by decide
      have H1 : I_rl ns nf h1 := I_rl_w hw p1 H
      have e24 : h1.2.1 24 = h.2.1 112 := (p1.arr 24 (by decide) (by decide)).trans a24
      have a0 : zr h1 38 (nI j) = vC 38 h1 0 j := by rw [zr_n h1 38 (by omega), vC_at (b := 38) (i := 0) (by omega) (show j < zsz 0 from hj10)]
      have i10 : vp_in (nI j) 10 := vp_in_nI hj10 (by omega)
      have hz : 0 ≤ (h1.2.1 24 j).toInt ∧ (h1.2.1 24 j).toInt ≤ 20 := by rw [e24]; have := (hR j hj).1; omega
      obtain ⟨k1, k2, k3, k4⟩ := say_37 (c := 0) (q := A) H1 V1 hs ht hj10 hz p2 (by omega) (by omega) (by rw [q0, inf_w hw p1])
      obtain ⟨m1, m2, m3, m4⟩ := say_37 (c := 1) (q := B) H1 V1 hs ht hj10 hz p2 (by omega) (by omega) (by rw [q1, inf_w hw p1])
      rw [Ev_w hw p1, e24] at k2 m2
      have k1 : f_Course_says_37_ok A 0 (nI j) h1 := k1
      have k2 : (f_Course_says_37 A 0 (nI j) h1).1 = _ := k2
      have k3 : zWr [21, 22] [(15, 9)] h1 (f_Course_says_37 A 0 (nI j) h1).2 := k3
      have k4 : sN ((f_Course_says_37 A 0 (nI j) h1).2.2.1 21) sea (nI t) := k4
      have m1 : f_Course_says_37_ok B 1 (nI j) h1 := m1
      have m2 : (f_Course_says_37 B 1 (nI j) h1).1 = _ := m2
      have m3 : zWr [21, 22] [(15, 9)] h1 (f_Course_says_37 B 1 (nI j) h1).2 := m3
      have m4 : sN ((f_Course_says_37 B 1 (nI j) h1).2.2.1 21) sea (nI t) := m4
      have eS : fld (snk (fun c nm => Ev nf h c (nI t) nm) (h.2.1 112) sea (nI t)) (j + 1) (vC 38 h) = snk (fun c nm => Ev nf h c (nI t) nm) (h.2.1 112) sea (nI t) j (vC 38 h1) := by rw [p3]; rfl
      have fin : ∀ (h3 : zm_H) (v : Int32), zWr [21, 22] [(15, 9)] h1 h3 → sN (h3.2.1 21) sea (nI t) → zWr [21, 22, 38] [(15, 9)] h (zs h3 38 (nI j) v) ∧ sN ((zs h3 38 (nI j) v).2.1 21) sea (nI t) ∧ vC 38 (zs h3 38 (nI j) v) = zm_u (vC 38 h1) 0 j v := by
        intro h3 v w3 n3
        rw [zs_n _ 38 _ (by omega)]
        refine ⟨zWr_si (by decide) (zWr_tr w3 (by decide) (by decide) p1), ?_, ?_⟩
        · rw [za_si, if_neg (by decide)]; exact n3
        · rw [vC_u (b := 38) (i := 0) (j := 38) rfl (by omega) (show j < zsz 0 from hj10), vC_eq (fun i hi => w3.arr (38 + i) (by simp; omega) (by simp; omega))]
      refine ⟨?_, ?_⟩
      · dsimp only
        unfold f_Course_sinkAndRise_37_l23_b_ok f_Course_sinkAndRise_37_l23_k60_ok f_Course_sinkAndRise_37_l23_k97_ok
        exact ⟨fun z => absurd z g0, fun _ => ⟨i10, fun _ => ⟨k1, i10⟩, fun _ => ⟨i10, fun _ => ⟨m1, i10⟩, fun _ => trivial⟩⟩⟩
      · dsimp only
        unfold f_Course_sinkAndRise_37_l23_b f_Course_sinkAndRise_37_l23_k60 f_Course_sinkAndRise_37_l23_k97 f_Course_sinkAndRise_37_l23_k106
        rw [if_neg g0, a0, k2, m2, ← nI_succ, eS]
        unfold snk
        by_cases c1 : vC 38 h1 0 j = 1
        · simp only [if_pos c1]
          exact ⟨_, rfl, fin _ _ k3 k4⟩
        · simp only [if_neg c1]
          by_cases c2 : vC 38 h1 0 j = 2
          · simp only [if_pos c2]
            exact ⟨_, rfl, fin _ _ m3 m4⟩
          · simp only [if_neg c2]
            exact ⟨_, rfl, p1, p2, rfl⟩)
    (by
      rintro h1 ⟨p1, p2, p3⟩
      rw [Nat.zero_add]
      have f23 : zf h1 23 0 = nI nr := (p1.fld 23 0 (by decide) (by decide)).trans e23
      have g0 : zf h1 23 0 ≤ nI nr := by rw [f23]; exact i_le_r _
      dsimp only
      unfold f_Course_sinkAndRise_37_l23_b f_Course_sinkAndRise_37_l23_b_ok
      rw [if_pos g0]
      exact ⟨⟨fun _ => trivial, fun z => absurd g0 z⟩, rfl⟩)
  rw [Nat.zero_add] at key
  obtain ⟨k1, h', k2, k3, k4, k5⟩ := key
  have k2 : f_Course_sinkAndRise_37_l23 A B F (0, h) = (1, nI nr, h') := k2
  rw [k2]
  exact ⟨⟨r0, r1, k1, trivial⟩, k3, k4, k5⟩
/-! ===== sink and rise, the class: course 50 ===== -/
theorem snk_50 {ns nf nr g w : Nat} {h : zm_H} (H : I_rl ns nf h) (R : I_rf w nr h) (V : vOK nr g (vC 51 h)) {t : Nat} {sea : Int32} (hs : rdOK sea) (ht : t < 480) (hN : sN (h.2.1 21) sea (nI t)) : f_Course_sinkAndRise_50_ok (nI t) h ∧ zWr [21, 22, 51] [(15, 9)] h (f_Course_sinkAndRise_50 (nI t) h) ∧ sN ((f_Course_sinkAndRise_50 (nI t) h).2.1 21) sea (nI t) ∧ vC 51 (f_Course_sinkAndRise_50 (nI t) h) = fld (snk (fun c nm => Ev nf h c (nI t) nm) (h.2.1 112) sea (nI t)) nr (vC 51 h) := by
  obtain ⟨⟨hnr, e23, -⟩, ⟨a24, -, -⟩, hR⟩ := R
  obtain ⟨r0, q0⟩ := fc_N H.1 (c := 0) (by omega) (nI t)
  obtain ⟨r1, q1⟩ := fc_N H.1 (c := 1) (by omega) (nI t)
  have r0 : f_Rules_ruling_ok 0 (nI t) h := r0
  have r1 : f_Rules_ruling_ok 1 (nI t) h := r1
  obtain ⟨A, eA⟩ : ∃ A, A = f_Rules_ruling 0 (nI t) h := ⟨_, rfl⟩
  obtain ⟨B, eB⟩ : ∃ B, B = f_Rules_ruling 1 (nI t) h := ⟨_, rfl⟩
  have q0 : A = (inf (h.2.1 103) (h.2.1 104) (h.2.1 101) 0 (nI t) nf).1 := by rw [eA]; exact q0
  have q1 : B = (inf (h.2.1 103) (h.2.1 104) (h.2.1 101) 1 (nI t) nf).1 := by rw [eB]; exact q1
  unfold f_Course_sinkAndRise_50_ok f_Course_sinkAndRise_50 f_Course_sinkAndRise_50_a23 f_Course_sinkAndRise_50_k112
  rw [← eA, ← eB]
  obtain ⟨F, eF, -⟩ := zF_ex
  rw [← eF]
  have key := zlp_k eF (b := fun s => f_Course_sinkAndRise_50_l23_b A B s.1 s.2) (o := fun s => f_Course_sinkAndRise_50_l23_b_ok A B s.1 s.2) nr (by omega) 0
    (fun j h1 => zWr [21, 22, 51] [(15, 9)] h h1 ∧ sN (h1.2.1 21) sea (nI t) ∧ vC 51 h1 = fld (snk (fun c nm => Ev nf h c (nI t) nm) (h.2.1 112) sea (nI t)) j (vC 51 h)) h ⟨zWr.refl _ _, hN, rfl⟩
    (by
      rintro j h1 hj ⟨p1, p2, p3⟩
      rw [Nat.zero_add]
      have hj10 : j < 10 := by omega
      have f23 : zf h1 23 0 = nI nr := (p1.fld 23 0 (by decide) (by decide)).trans e23
      have g0 : ¬ (zf h1 23 0 ≤ nI j) := by rw [f23, nx_le (by omega) (by omega)]; omega
      have V1 : vOK nr g (vC 51 h1) := by rw [p3]; exact vOK_snks V _ _ _ _ j (by omega)
      have hw : wfR [21, 22, 51] [(15, 9)] = true := by decide
      have H1 : I_rl ns nf h1 := I_rl_w hw p1 H
      have e24 : h1.2.1 24 = h.2.1 112 := (p1.arr 24 (by decide) (by decide)).trans a24
      have a0 : zr h1 51 (nI j) = vC 51 h1 0 j := by rw [zr_n h1 51 (by omega), vC_at (b := 51) (i := 0) (by omega) (show j < zsz 0 from hj10)]
      have i10 : vp_in (nI j) 10 := vp_in_nI hj10 (by omega)
      have hz : 0 ≤ (h1.2.1 24 j).toInt ∧ (h1.2.1 24 j).toInt ≤ 20 := by rw [e24]; have := (hR j hj).1; omega
      obtain ⟨k1, k2, k3, k4⟩ := say_50 (c := 0) (q := A) H1 V1 hs ht hj10 hz p2 (by omega) (by omega) (by rw [q0, inf_w hw p1])
      obtain ⟨m1, m2, m3, m4⟩ := say_50 (c := 1) (q := B) H1 V1 hs ht hj10 hz p2 (by omega) (by omega) (by rw [q1, inf_w hw p1])
      rw [Ev_w hw p1, e24] at k2 m2
      have k1 : f_Course_says_50_ok A 0 (nI j) h1 := k1
      have k2 : (f_Course_says_50 A 0 (nI j) h1).1 = _ := k2
      have k3 : zWr [21, 22] [(15, 9)] h1 (f_Course_says_50 A 0 (nI j) h1).2 := k3
      have k4 : sN ((f_Course_says_50 A 0 (nI j) h1).2.2.1 21) sea (nI t) := k4
      have m1 : f_Course_says_50_ok B 1 (nI j) h1 := m1
      have m2 : (f_Course_says_50 B 1 (nI j) h1).1 = _ := m2
      have m3 : zWr [21, 22] [(15, 9)] h1 (f_Course_says_50 B 1 (nI j) h1).2 := m3
      have m4 : sN ((f_Course_says_50 B 1 (nI j) h1).2.2.1 21) sea (nI t) := m4
      have eS : fld (snk (fun c nm => Ev nf h c (nI t) nm) (h.2.1 112) sea (nI t)) (j + 1) (vC 51 h) = snk (fun c nm => Ev nf h c (nI t) nm) (h.2.1 112) sea (nI t) j (vC 51 h1) := by rw [p3]; rfl
      have fin : ∀ (h3 : zm_H) (v : Int32), zWr [21, 22] [(15, 9)] h1 h3 → sN (h3.2.1 21) sea (nI t) → zWr [21, 22, 51] [(15, 9)] h (zs h3 51 (nI j) v) ∧ sN ((zs h3 51 (nI j) v).2.1 21) sea (nI t) ∧ vC 51 (zs h3 51 (nI j) v) = zm_u (vC 51 h1) 0 j v := by
        intro h3 v w3 n3
        rw [zs_n _ 51 _ (by omega)]
        refine ⟨zWr_si (by decide) (zWr_tr w3 (by decide) (by decide) p1), ?_, ?_⟩
        · rw [za_si, if_neg (by decide)]; exact n3
        · rw [vC_u (b := 51) (i := 0) (j := 51) rfl (by omega) (show j < zsz 0 from hj10), vC_eq (fun i hi => w3.arr (51 + i) (by simp; omega) (by simp; omega))]
      refine ⟨?_, ?_⟩
      · dsimp only
        unfold f_Course_sinkAndRise_50_l23_b_ok f_Course_sinkAndRise_50_l23_k60_ok f_Course_sinkAndRise_50_l23_k97_ok
        exact ⟨fun z => absurd z g0, fun _ => ⟨i10, fun _ => ⟨k1, i10⟩, fun _ => ⟨i10, fun _ => ⟨m1, i10⟩, fun _ => trivial⟩⟩⟩
      · dsimp only
        unfold f_Course_sinkAndRise_50_l23_b f_Course_sinkAndRise_50_l23_k60 f_Course_sinkAndRise_50_l23_k97 f_Course_sinkAndRise_50_l23_k106
        rw [if_neg g0, a0, k2, m2, ← nI_succ, eS]
        unfold snk
        by_cases c1 : vC 51 h1 0 j = 1
        · simp only [if_pos c1]
          exact ⟨_, rfl, fin _ _ k3 k4⟩
        · simp only [if_neg c1]
          by_cases c2 : vC 51 h1 0 j = 2
          · simp only [if_pos c2]
            exact ⟨_, rfl, fin _ _ m3 m4⟩
          · simp only [if_neg c2]
            exact ⟨_, rfl, p1, p2, rfl⟩)
    (by
      rintro h1 ⟨p1, p2, p3⟩
      rw [Nat.zero_add]
      have f23 : zf h1 23 0 = nI nr := (p1.fld 23 0 (by decide) (by decide)).trans e23
      have g0 : zf h1 23 0 ≤ nI nr := by rw [f23]; exact i_le_r _
      dsimp only
      unfold f_Course_sinkAndRise_50_l23_b f_Course_sinkAndRise_50_l23_b_ok
      rw [if_pos g0]
      exact ⟨⟨fun _ => trivial, fun z => absurd g0 z⟩, rfl⟩)
  rw [Nat.zero_add] at key
  obtain ⟨k1, h', k2, k3, k4, k5⟩ := key
  have k2 : f_Course_sinkAndRise_50_l23 A B F (0, h) = (1, nI nr, h') := k2
  rw [k2]
  exact ⟨⟨r0, r1, k1, trivial⟩, k3, k4, k5⟩
