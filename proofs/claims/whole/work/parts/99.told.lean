/-! ===== told ===== -/
def tOf (S : Nat → Nat → Int32) (sz su : Nat → Int32) (r : Nat) (q : Int32) : Int32 :=
  if q < 10 then (if q = 0 then S 0 r else (if q = 1 then S 1 r else (if q = 2 then sz r else (if q = 3 then su r else (if q = 4 then lek (S 2 r) else (if q = 5 then S 3 r else (if q = 6 then hbI_37 S r 3 else (if q = 7 then S 4 r else (-1)))))))))
  else (if zm_rm q 10 < 3 then (if q / 10 = 1 then S 5 (3 * r + (zm_rm q 10).toNatClampNeg) else (if q / 10 = 2 then S 6 (3 * r + (zm_rm q 10).toNatClampNeg) else (if q / 10 = 3 then S 7 (3 * r + (zm_rm q 10).toNatClampNeg) else (-1)))) else (-1))
theorem hbb_M {h : zm_H} {L r : Nat} (hL : L < 2) (hr : r < 10) (v4 v6 : Int32) : f_M_toldOf_l184_ok (nI L) (nI r) v4 v6 h zF (0, 0) ∧ (f_M_toldOf_l184 (nI L) (nI r) v4 v6 h zF (0, 0)).2.1 = hbI_37 (vM L h) r 3 := by
  obtain ⟨F, eF, -⟩ := zF_ex
  rw [← eF]
  have key := zlpF eF (b := fun s => f_M_toldOf_l184_b (nI L) (nI r) v4 s.1 v6 s.2 h) (o := fun s => f_M_toldOf_l184_b_ok (nI L) (nI r) v4 s.1 v6 s.2 h) 3 (by omega)
    (fun k s => s = (hbI_37 (vM L h) r k, nI k)) (fun q => q.2.1 = hbI_37 (vM L h) r 3) (0, 0) rfl
    (by
      rintro k s hk rfl
      obtain ⟨c1, c2⟩ := ch_M (h := h) hL (show 3 * r + k < 30 by omega)
      dsimp only
      unfold f_M_toldOf_l184_b f_M_toldOf_l184_b_ok
      rw [if_neg (g3 hk), x30, c2]
      refine ⟨⟨fun z => absurd z (g3 hk), fun _ => c1⟩, Or.inl ⟨rfl, ?_⟩⟩
      dsimp only
      rw [hbI_37, ← nI_succ]
      by_cases c : hld (vM L h) (3 * r + k)
      · simp only [if_pos c, if_neg (show ¬ (1 : Int32) = 0 by decide)]
      · simp only [if_neg c, if_true])
    (by
      rintro s rfl
      dsimp only
      unfold f_M_toldOf_l184_b f_M_toldOf_l184_b_ok
      rw [if_pos (by decide)]
      exact ⟨⟨fun _ => trivial, fun z => absurd (by decide : (3 : Int32) ≤ nI 3) z⟩, by simp, rfl⟩)
  exact key
theorem tof_M {h : zm_H} {L r : Nat} (hL : L < 2) (hr : r < 10) (q : Int32) : f_M_toldOf_ok (nI L) (nI r) q h ∧ f_M_toldOf (nI L) (nI r) q h = tOf (vM L h) (h.2.1 112) (h.2.1 113) r q := by
  have i20 : vp_in (nI (10 * L + r)) 20 := vp_in_nI (by omega) (by omega)
  have i10 : vp_in (nI r) 10 := vp_in_nI hr (by omega)
  have a0 : zr h 123 (nI (10 * L + r)) = vM L h 0 r := by rw [zr_n h 123 (by omega), vM_at0 hr]
  have a1 : zr h 124 (nI (10 * L + r)) = vM L h 1 r := by rw [zr_n h 124 (by omega), vM_at1 hr]
  have a3 : zr h 126 (nI (10 * L + r)) = vM L h 3 r := by rw [zr_n h 126 (by omega), vM_at3 hr]
  have a4 : (zrl h 127 (nI (10 * L + r))).toInt32 = vM L h 4 r := by
    show (h.2.2.1 127 (nI (10 * L + r)).toNatClampNeg).toInt32 = _
    rw [nI_c (by omega)]
    unfold vM
    rw [if_pos ⟨by omega, hr⟩]
    rfl
  have b2 : zr h 112 (nI r) = h.2.1 112 r := zr_n h 112 (by omega)
  have b3 : zr h 113 (nI r) = h.2.1 113 r := zr_n h 113 (by omega)
  obtain ⟨l1, l2⟩ := lek_M (h := h) hL hr
  have e10 : (10 : Int32).toInt = 10 := rfl
  have e39 : (39 : Int32).toInt = 39 := rfl
  have e3 : (3 : Int32).toInt = 3 := rfl
  have e20 : (20 : Int32).toInt = 20 := rfl
  have e30 : (30 : Int32).toInt = 30 := rfl
  have k89o : ∀ v6, f_M_toldOf_k89_ok (nI L) (nI r) q (nI (10 * L + r)) 0 v6 h := fun v6 => by
    unfold f_M_toldOf_k89_ok
    exact ⟨fun _ => i20, fun _ => ⟨fun _ => i20, fun _ => ⟨fun _ => i10, fun _ => ⟨fun _ => i10, fun _ => ⟨fun _ => l1, fun _ => ⟨fun _ => i20, fun _ => ⟨fun _ => ⟨(hbb_M hL hr _ v6).1, trivial⟩, fun _ => ⟨fun _ => i20, fun _ => trivial⟩⟩⟩⟩⟩⟩⟩⟩
  have k89 : ∀ v6, f_M_toldOf_k89 (nI L) (nI r) q (nI (10 * L + r)) 0 v6 h = (if q = 0 then vM L h 0 r else (if q = 1 then vM L h 1 r else (if q = 2 then h.2.1 112 r else (if q = 3 then h.2.1 113 r else (if q = 4 then lek (vM L h 2 r) else (if q = 5 then vM L h 3 r else (if q = 6 then hbI_37 (vM L h) r 3 else (if q = 7 then vM L h 4 r else (-1))))))))) := fun v6 => by
    unfold f_M_toldOf_k89 f_M_toldOf_a184 f_M_toldOf_k223
    rw [a0, a1, a3, a4, b2, b3, l2, (hbb_M hL hr _ v6).2]
  have big : 10 ≤ q.toInt → ∀ v6, f_M_toldOf_k89 (nI L) (nI r) q (nI (10 * L + r)) 0 v6 h = -1 := fun hq v6 => by
    rw [k89]
    have n : ∀ y : Int32, y.toInt < 10 → ¬ q = y := fun y hy z => by rw [z] at hq; omega
    rw [if_neg (n 0 (by decide)), if_neg (n 1 (by decide)), if_neg (n 2 (by decide)), if_neg (n 3 (by decide)), if_neg (n 4 (by decide)), if_neg (n 5 (by decide)), if_neg (n 6 (by decide)), if_neg (n 7 (by decide))]
  unfold f_M_toldOf_ok f_M_toldOf tOf
  rw [x10]
  by_cases c : q < 10
  · have g : ¬ (¬ (q < 10) ∧ (¬ (39 < q))) := fun z => z.1 c
    rw [if_neg g, if_pos c, k89]
    exact ⟨⟨fun z => absurd z g, fun _ => k89o _⟩, rfl⟩
  · have c' := c
    rw [i_lt, e10] at c'
    have m : (zm_rm q 10).toInt = q.toInt % 10 := by rw [i_rm (by omega) (by decide), e10]
    have dv : (q / 10).toInt = q.toInt / 10 := by rw [i_div (by omega) (by decide), e10]
    have e1 : (1 : Int32).toInt = 1 := rfl
    have e2 : (2 : Int32).toInt = 2 := rfl
    rw [if_neg c]
    by_cases d : 39 < q
    · have g : ¬ (¬ (q < 10) ∧ (¬ (39 < q))) := fun z => z.2 d
      rw [i_lt, e39] at d
      rw [if_neg g, big (by omega), if_neg (show ¬ q / 10 = 1 by rw [i_eq, dv, e1]; omega), if_neg (show ¬ q / 10 = 2 by rw [i_eq, dv, e2]; omega), if_neg (show ¬ q / 10 = 3 by rw [i_eq, dv, e3]; omega)]
      exact ⟨⟨fun z => absurd z g, fun _ => k89o _⟩, by split <;> rfl⟩
    · have g : ¬ (q < 10) ∧ (¬ (39 < q)) := ⟨c, d⟩
      rw [i_lt, e39] at d
      obtain ⟨x, hx, ex⟩ := i_ex (a := zm_rm q 10) (N := 10) (by omega) (by omega)
      rw [ex, i_nI (by omega)] at m
      rw [if_pos g, ex, nI_c (by omega)]
      by_cases y : nI x < 3
      · have y' := y
        rw [i_lt, i_nI (by omega), e3] at y'
        have ny : ¬ (3 ≤ nI x) := by rw [i_le, e3, i_nI (by omega)]; omega
        have i60 : vp_in (nI (30 * L + (3 * r + x))) 60 := vp_in_nI (by omega) (by omega)
        have a5 : zr h 128 (nI (30 * L + (3 * r + x))) = vM L h 5 (3 * r + x) := by rw [zr_n h 128 (by omega), vM_at5 (by omega)]
        have a6 : zr h 129 (nI (30 * L + (3 * r + x))) = vM L h 6 (3 * r + x) := by rw [zr_n h 129 (by omega), vM_at6 (by omega)]
        have a7 : zr h 130 (nI (30 * L + (3 * r + x))) = vM L h 7 (3 * r + x) := by rw [zr_n h 130 (by omega), vM_at7 (by omega)]
        have x3' : 3 * nI (10 * L + r) + nI x = nI (30 * L + (3 * r + x)) := by rw [← x10, x30]
        rw [if_neg ny, if_pos y, x3', a5, a6, a7]
        refine ⟨⟨fun _ => ⟨fun z => absurd z ny, fun _ => ⟨fun _ => ⟨fun _ => i60, fun _ => i60⟩, fun _ => i60⟩⟩, fun z => absurd g z⟩, ?_⟩
        by_cases f2 : 20 ≤ q
        · rw [if_pos f2]
          rw [i_le, e20] at f2
          rw [if_neg (show ¬ q / 10 = 1 by rw [i_eq, dv, e1]; omega)]
          by_cases f3 : 30 ≤ q
          · rw [if_pos f3]
            rw [i_le, e30] at f3
            rw [if_neg (show ¬ q / 10 = 2 by rw [i_eq, dv, e2]; omega), if_pos (show q / 10 = 3 by rw [i_eq, dv, e3]; omega)]
          · rw [if_neg f3]
            rw [i_le, e30] at f3
            rw [if_pos (show q / 10 = 2 by rw [i_eq, dv, e2]; omega)]
        · rw [if_neg f2]
          rw [i_le, e20] at f2
          rw [if_pos (show q / 10 = 1 by rw [i_eq, dv, e1]; omega)]
      · have ny : 3 ≤ nI x := by
          rw [i_lt, e3] at y
          rw [i_le, e3]; omega
        rw [if_pos ny, if_neg y, big (by omega)]
        exact ⟨⟨fun _ => ⟨fun _ => k89o _, fun z => absurd ny z⟩, fun z => absurd g z⟩, rfl⟩
/-! ===== told: course 37 ===== -/
theorem tof_37 {w nr : Nat} {h : zm_H} (R : I_rf w nr h) {r : Nat} (hr : r < 10) (q : Int32) : ((q < 10) → f_Course_ofRaft_37_ok (nI r) q h) ∧ (¬ (q < 10) → f_Course_ofChain_37_ok (nI r) (q / 10) (zm_rm q 10) h) ∧ (if (q < 10) then ((f_Course_ofRaft_37 (nI r) q h) : Int32) else (f_Course_ofChain_37 (nI r) (q / 10) (zm_rm q 10) h)) = tOf (vC 38 h) (h.2.1 112) (h.2.1 113) r q := by
  have i10 : vp_in (nI r) 10 := vp_in_nI hr (by omega)
  have ca : ∀ i, i < 5 → zr h (38 + i) (nI r) = vC 38 h i r := fun i hi => by rw [zr_n h (38 + i) (by omega), vC_at (b := 38) (by omega) (show r < zsz i by unfold zsz; rw [if_pos hi]; exact hr)]
  have a0 : zr h 38 (nI r) = vC 38 h 0 r := ca 0 (by omega)
  have a1 : zr h 39 (nI r) = vC 38 h 1 r := ca 1 (by omega)
  have a2 : zr h 40 (nI r) = vC 38 h 2 r := ca 2 (by omega)
  have a3 : zr h 41 (nI r) = vC 38 h 3 r := ca 3 (by omega)
  have a4 : zr h 42 (nI r) = vC 38 h 4 r := ca 4 (by omega)
  have b2 : zr h 24 (nI r) = h.2.1 112 r := by rw [zr_n h 24 (by omega), zf, R.2.1.1]
  have b3 : zr h 25 (nI r) = h.2.1 113 r := by rw [zr_n h 25 (by omega), zf, R.2.1.2.1]
  obtain ⟨k1, k2⟩ := hb_37 (h := h) hr
  have hbe : hbI_37 (vC 38 h) r 3 = hbI_37 (vC 38 h) r 3 := rfl
  have e10 : (10 : Int32).toInt = 10 := rfl
  unfold tOf
  by_cases c : q < 10
  · rw [if_pos c, if_pos c]
    refine ⟨fun _ => ?_, fun z => absurd c z, ?_⟩
    · unfold f_Course_ofRaft_37_ok f_Course_leak_37_ok
      exact ⟨fun _ => i10, fun _ => ⟨fun _ => i10, fun _ => ⟨fun _ => i10, fun _ => ⟨fun _ => i10, fun _ => ⟨fun _ => i10, fun _ => ⟨fun _ => i10, fun _ => ⟨fun _ => k1, fun _ => ⟨fun _ => i10, fun _ => trivial⟩⟩⟩⟩⟩⟩⟩⟩
    · unfold f_Course_ofRaft_37 f_Course_leak_37 lek
      rw [a0, a1, a2, a3, a4, b2, b3, k2, hbe]
  · have c' := c
    rw [i_lt, e10] at c'
    rw [if_neg c, if_neg c]
    have m : (zm_rm q 10).toInt = q.toInt % 10 := by rw [i_rm (by omega) (by decide), e10]
    obtain ⟨x, hx, ex⟩ := i_ex (a := zm_rm q 10) (N := 10) (by omega) (by omega)
    rw [ex, nI_c (by omega)]
    unfold f_Course_ofChain_37_ok f_Course_ofChain_37
    rw [x3]
    by_cases d : nI x < 3
    · have d' := d
      rw [i_lt, i_nI (by omega), show (3 : Int32).toInt = 3 from rfl] at d'
      have i30 : vp_in (nI (3 * r + x)) 30 := vp_in_nI (by omega) (by omega)
      have cb : ∀ i, 5 ≤ i → i < 8 → zr h (38 + i) (nI (3 * r + x)) = vC 38 h i (3 * r + x) := fun i h5 hi => by rw [zr_n h (38 + i) (by omega), vC_at (b := 38) hi (show 3 * r + x < zsz i by unfold zsz; rw [if_neg (by omega)]; omega)]
      have a5 : zr h 43 (nI (3 * r + x)) = vC 38 h 5 (3 * r + x) := cb 5 (by omega) (by omega)
      have a6 : zr h 44 (nI (3 * r + x)) = vC 38 h 6 (3 * r + x) := cb 6 (by omega) (by omega)
      have a7 : zr h 45 (nI (3 * r + x)) = vC 38 h 7 (3 * r + x) := cb 7 (by omega) (by omega)
      rw [if_pos d, if_pos d, a5, a6, a7]
      exact ⟨fun z => absurd z c, fun _ => ⟨fun _ => ⟨fun _ => i30, fun _ => ⟨fun _ => i30, fun _ => ⟨fun _ => i30, fun _ => trivial⟩⟩⟩, fun z => absurd d z⟩, rfl⟩
    · rw [if_neg d, if_neg d]
      exact ⟨fun z => absurd z c, fun _ => ⟨fun z => absurd z d, fun _ => trivial⟩, rfl⟩
theorem c_told {nr w : Nat} {h : zm_H} (R : I_rf w nr h) {g : GS} (B : I_bk nr w g h) (p1 p2 : Int32) : f_N_told_ok p1 p2 h ∧ f_M_told_ok p1 p2 h ∧ f_N_told p1 p2 h = f_M_told p1 p2 h := by
  have hnr := R.1.1
  have bw : (nI nr).toInt = nr := i_nI (by omega)
  have bw1 : (nI nr - 1).toInt = nr - 1 := by rw [i_sub (by rw [bw, i_1]; omega) (by rw [bw, i_1]; omega), bw, i_1]
  have q : (¬ (p1 < 0) ∧ (¬ (nI nr ≤ p1))) ↔ (¬ (p1 < 0) ∧ (¬ (nI nr - 1 < p1))) := by rw [i_lt, i_lt, i_le, bw, bw1]; omega
  unfold f_N_told_ok f_M_told_ok f_N_told f_M_told
  rw [R.1.2.1, R.1.2.2]
  by_cases c : ¬ (p1 < 0) ∧ (¬ (nI nr ≤ p1))
  · have c' := c
    rw [i_lt, i_le, i_0, bw] at c'
    obtain ⟨r, hr, rfl⟩ := i_ex (a := p1) (N := nr) (by omega) (by omega)
    obtain ⟨n1, n2, n3⟩ := tof_37 R (show r < 10 by omega) p2
    obtain ⟨m1, m2⟩ := tof_M (h := h) (L := 0) (by omega) (show r < 10 by omega) p2
    rw [show nI 0 = (0 : Int32) from rfl] at m1 m2
    rw [if_pos c, if_pos (q.mp c), n3, m2, B.2.1.1, B.2.2.1.1]
    exact ⟨⟨fun _ => ⟨n1, n2⟩, fun _ => trivial⟩, ⟨fun _ => m1, fun _ => trivial⟩, rfl⟩
  · rw [if_neg c, if_neg (fun z => c (q.mpr z))]
    exact ⟨⟨fun z => absurd z c, fun _ => trivial⟩, ⟨fun z => absurd (q.mpr z) c, fun _ => trivial⟩, rfl⟩
