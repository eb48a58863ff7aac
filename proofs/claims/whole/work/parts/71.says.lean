/-! ===== what a CLAUSE says of a raft, the class: course 37 ===== -/
theorem say_37 {ns nf nr g : Nat} {h : zm_H} (H : I_rl ns nf h) (V : vOK nr g (vC 38 h)) {t r : Nat} {sea : Int32} (hs : rdOK sea) (ht : t < 480) (hr : r < 10) (hz : 0 ≤ (h.2.1 24 r).toInt ∧ (h.2.1 24 r).toInt ≤ 20) (hN : sN (h.2.1 21) sea (nI t)) {c : Nat} (hc : c < 4) (hc2 : ¬ c = 2) {q : Int32} (hq : q = (inf (h.2.1 103) (h.2.1 104) (h.2.1 101) c (nI t) nf).1) : f_Course_says_37_ok q (nI c) (nI r) h ∧ (f_Course_says_37 q (nI c) (nI r) h).1 = Ev nf h c (nI t) (nmR (vC 38 h) (h.2.1 24) sea (nI t) r) ∧ zWr [21, 22] [(15, 9)] h (f_Course_says_37 q (nI c) (nI r) h).2 ∧ sN ((f_Course_says_37 q (nI c) (nI r) h).2.2.1 21) sea (nI t) := by
  have i10 : vp_in (nI r) 10 := vp_in_nI hr (by omega)
  obtain ⟨l1, l2⟩ := lh_37 (h := h) hr
  obtain ⟨r1, r2⟩ := rd_37 (h := h) hr
  have e41 : zr h 41 (nI r) = vC 38 h 3 r := by rw [zr_n h 41 (by omega), vC_at (b := 38) (i := 3) (by omega) (show r < zsz 3 from hr)]
  have e24 : zr h 24 (nI r) = h.2.1 24 r := zr_n h 24 (by omega)
  unfold f_Course_says_37_ok f_Course_says_37
  by_cases z : q = -1
  · rw [if_pos z]
    refine ⟨⟨fun _ => trivial, fun y => absurd z y⟩, ?_, zWr.refl _ _, hN⟩
    unfold Ev
    rw [← hq, if_pos z, if_neg hc2]
  · rw [if_neg z, l2, r2, e41, e24]
    have er : (if ¬ (if (vC 38 h 0 r = 1 ∨ vC 38 h 0 r = 2) then (1 : Int32) else 0) = 0 then (1 : Int32) else 0) = if (vC 38 h 0 r = 1 ∨ vC 38 h 0 r = 2) then (1 : Int32) else 0 := by
      by_cases y : vC 38 h 0 r = 1 ∨ vC 38 h 0 r = 2
      · rw [if_pos y]; rfl
      · rw [if_neg y]; rfl
    rw [er]
    obtain ⟨h2, eh2⟩ : ∃ h2, h2 = f_Rules_nameRaft (vC 38 h 3 r) (lh (vC 38 h) r) (h.2.1 24 r) (if (vC 38 h 0 r = 1 ∨ vC 38 h 0 r = 2) then (1 : Int32) else 0) h := ⟨_, rfl⟩
    have w2 : zWr [21] [] h h2 := by rw [eh2]; exact f_Rules_nameRaft_w _ _ _ _ _
    rw [← eh2]
    have a21 : h2.2.1 21 = upd (upd (upd (upd (h.2.1 21) 3 (vC 38 h 3 r)) 4 (lh (vC 38 h) r)) 5 (h.2.1 24 r)) 8 (if (vC 38 h 0 r = 1 ∨ vC 38 h 0 r = 2) then (1 : Int32) else 0) := by
      rw [eh2]
      unfold f_Rules_nameRaft
      simp only [zs, za_si, if_true]
      rfl
    have nm : ∀ j, j < 9 → h2.2.1 21 j = nmR (vC 38 h) (h.2.1 24) sea (nI t) r j := by
      intro j hj
      obtain ⟨n0, n1, n2, n6, n7⟩ := hN
      rw [a21]
      rcases (show j = 0 ∨ j = 1 ∨ j = 2 ∨ j = 3 ∨ j = 4 ∨ j = 5 ∨ j = 6 ∨ j = 7 ∨ j = 8 by omega) with e | e | e | e | e | e | e | e | e <;> subst e <;> simp [upd, nmR, n0, n1, n2, n6, n7]
    have hw : wfR [21] [] = true := by decide
    have H2 : I_rl ns nf h2 := I_rl_w hw w2 H
    have eq2 : f_Rules_ruling (nI c) (nI t) h2 = q := by rw [(fc_N H2.1 hc (nI t)).2, inf_w hw w2, hq]
    obtain ⟨-, t2⟩ := te_N H2 (nmOK_ext nm (nmR_ok V hs ht hr hz)) hc (nI t)
    rw [eq2] at t2
    obtain ⟨-, t3, t4, t5⟩ := t2.resolve_left (fun y => z y.1)
    have hsn : ∀ h3, zWr [22] [(15, 9)] h2 h3 → sN (h3.2.1 21) sea (nI t) := by
      intro h3 w3
      rw [w3.arr 21 (by decide) (by decide), a21]
      obtain ⟨n0, n1, n2, n6, n7⟩ := hN
      refine ⟨?_, ?_, ?_, ?_, ?_⟩ <;> simp [upd, n0, n1, n2, n6, n7]
    refine ⟨⟨fun y => absurd y z, fun _ => ⟨i10, l1, i10, r1, t3⟩⟩, ?_, ?_, hsn _ t5⟩
    · unfold f_Course_says_37_k47
      rw [t4, Ev_ext H2 hc (nI t) nm, Ev_w hw w2]
    · exact zWr_tr t5 (by decide) (by decide) (zWr_tr w2 (by decide) (by decide) (zWr.refl _ _))
/-! ===== what a CLAUSE says of a raft, the class: course 50 ===== -/
theorem say_50 {ns nf nr g : Nat} {h : zm_H} (H : I_rl ns nf h) (V : vOK nr g (vC 51 h)) {t r : Nat} {sea : Int32} (hs : rdOK sea) (ht : t < 480) (hr : r < 10) (hz : 0 ≤ (h.2.1 24 r).toInt ∧ (h.2.1 24 r).toInt ≤ 20) (hN : sN (h.2.1 21) sea (nI t)) {c : Nat} (hc : c < 4) (hc2 : ¬ c = 2) {q : Int32} (hq : q = (inf (h.2.1 103) (h.2.1 104) (h.2.1 101) c (nI t) nf).1) : f_Course_says_50_ok q (nI c) (nI r) h ∧ (f_Course_says_50 q (nI c) (nI r) h).1 = Ev nf h c (nI t) (nmR (vC 51 h) (h.2.1 24) sea (nI t) r) ∧ zWr [21, 22] [(15, 9)] h (f_Course_says_50 q (nI c) (nI r) h).2 ∧ sN ((f_Course_says_50 q (nI c) (nI r) h).2.2.1 21) sea (nI t) := by
  have i10 : vp_in (nI r) 10 := vp_in_nI hr (by omega)
  obtain ⟨l1, l2⟩ := lh_50 (h := h) hr
  obtain ⟨r1, r2⟩ := rd_50 (h := h) hr
  have e41 : zr h 54 (nI r) = vC 51 h 3 r := by rw [zr_n h 54 (by omega), vC_at (b := 51) (i := 3) (by omega) (show r < zsz 3 from hr)]
  have e24 : zr h 24 (nI r) = h.2.1 24 r := zr_n h 24 (by omega)
  unfold f_Course_says_50_ok f_Course_says_50
  by_cases z : q = -1
  · rw [if_pos z]
    refine ⟨⟨fun _ => trivial, fun y => absurd z y⟩, ?_, zWr.refl _ _, hN⟩
    unfold Ev
    rw [← hq, if_pos z, if_neg hc2]
  · rw [if_neg z, l2, r2, e41, e24]
    have er : (if ¬ (if (vC 51 h 0 r = 1 ∨ vC 51 h 0 r = 2) then (1 : Int32) else 0) = 0 then (1 : Int32) else 0) = if (vC 51 h 0 r = 1 ∨ vC 51 h 0 r = 2) then (1 : Int32) else 0 := by
      by_cases y : vC 51 h 0 r = 1 ∨ vC 51 h 0 r = 2
      · rw [if_pos y]; rfl
      · rw [if_neg y]; rfl
    rw [er]
    obtain ⟨h2, eh2⟩ : ∃ h2, h2 = f_Rules_nameRaft (vC 51 h 3 r) (lh (vC 51 h) r) (h.2.1 24 r) (if (vC 51 h 0 r = 1 ∨ vC 51 h 0 r = 2) then (1 : Int32) else 0) h := ⟨_, rfl⟩
    have w2 : zWr [21] [] h h2 := by rw [eh2]; exact f_Rules_nameRaft_w _ _ _ _ _
    rw [← eh2]
    have a21 : h2.2.1 21 = upd (upd (upd (upd (h.2.1 21) 3 (vC 51 h 3 r)) 4 (lh (vC 51 h) r)) 5 (h.2.1 24 r)) 8 (if (vC 51 h 0 r = 1 ∨ vC 51 h 0 r = 2) then (1 : Int32) else 0) := by
      rw [eh2]
      unfold f_Rules_nameRaft
      simp only [zs, za_si, if_true]
      rfl
    have nm : ∀ j, j < 9 → h2.2.1 21 j = nmR (vC 51 h) (h.2.1 24) sea (nI t) r j := by
      intro j hj
      obtain ⟨n0, n1, n2, n6, n7⟩ := hN
      rw [a21]
      rcases (show j = 0 ∨ j = 1 ∨ j = 2 ∨ j = 3 ∨ j = 4 ∨ j = 5 ∨ j = 6 ∨ j = 7 ∨ j = 8 by omega) with e | e | e | e | e | e | e | e | e <;> subst e <;> simp [upd, nmR, n0, n1, n2, n6, n7]
    have hw : wfR [21] [] = true := by decide
    have H2 : I_rl ns nf h2 := I_rl_w hw w2 H
    have eq2 : f_Rules_ruling (nI c) (nI t) h2 = q := by rw [(fc_N H2.1 hc (nI t)).2, inf_w hw w2, hq]
    obtain ⟨-, t2⟩ := te_N H2 (nmOK_ext nm (nmR_ok V hs ht hr hz)) hc (nI t)
    rw [eq2] at t2
    obtain ⟨-, t3, t4, t5⟩ := t2.resolve_left (fun y => z y.1)
    have hsn : ∀ h3, zWr [22] [(15, 9)] h2 h3 → sN (h3.2.1 21) sea (nI t) := by
      intro h3 w3
      rw [w3.arr 21 (by decide) (by decide), a21]
      obtain ⟨n0, n1, n2, n6, n7⟩ := hN
      refine ⟨?_, ?_, ?_, ?_, ?_⟩ <;> simp [upd, n0, n1, n2, n6, n7]
    refine ⟨⟨fun y => absurd y z, fun _ => ⟨i10, l1, i10, r1, t3⟩⟩, ?_, ?_, hsn _ t5⟩
    · unfold f_Course_says_50_k47
      rw [t4, Ev_ext H2 hc (nI t) nm, Ev_w hw w2]
    · exact zWr_tr t5 (by decide) (by decide) (zWr_tr w2 (by decide) (by decide) (zWr.refl _ _))
/-! ===== asks of the model ===== -/
theorem ask_M {h : zm_H} {nr g L : Nat} (hL : L < 2) (V : vOK nr g (vM L h)) {t r : Nat} {sea : Int32} (hS : isSea h sea) (hr : r < 10) : f_M_asks_ok (nI L) (nI r) (nI t) h ∧ zWr [149] [] h (f_M_asks (nI L) (nI r) (nI t) h) ∧ (∀ j, j < 9 → (f_M_asks (nI L) (nI r) (nI t) h).2.1 149 j = nmR (vM L h) (h.2.1 112) sea (nI t) r j) := by
  have i10 : vp_in (nI r) 10 := vp_in_nI hr (by omega)
  have i20 : vp_in (nI (10 * L + r)) 20 := vp_in_nI (by omega) (by omega)
  have g : ¬ (nI r = -1) := nI_nm1 (by omega)
  have a0 : zr h 123 (nI (10 * L + r)) = vM L h 0 r := by rw [zr_n h 123 (by omega), vM_at0 hr]
  have a3 : zr h 126 (nI (10 * L + r)) = vM L h 3 r := by rw [zr_n h 126 (by omega), vM_at3 hr]
  have e112 : zr h 112 (nI r) = h.2.1 112 r := zr_n h 112 (by omega)
  obtain ⟨s1, s2, s3⟩ := hS
  obtain ⟨h6, e6⟩ : ∃ h6, h6 = zs (zs (zs (zs (zs (zs h 149 0 (zf h 92 79)) 149 1 (zf h 92 80)) 149 2 ((zf h 92 81) + 1)) 149 6 (nI t / 8)) 149 7 (zm_rm (nI t) 8)) 149 3 (vM L h 3 r) := ⟨_, rfl⟩
  have w6 : zWr [149] [] h h6 := by rw [e6]; exact zWr_si (by decide) (zWr_si (by decide) (zWr_si (by decide) (zWr_si (by decide) (zWr_si (by decide) (zWr_si (by decide) (zWr.refl _ _))))))
  have v6 : vM L h6 = vM L h := vM_eq (fun i hi => w6.arr i (by simp at hi ⊢; omega) (by simp)) (w6.2 127 (by decide)).2.1
  obtain ⟨l1, l2⟩ := lh_M (h := h6) hL hr (by rw [v6]; exact V)
  rw [v6] at l2
  unfold f_M_asks_ok f_M_asks
  rw [if_neg g, if_neg g, if_neg g, x10, a0, a3, ← e6, l2, e112]
  refine ⟨⟨⟨fun z => absurd z g, fun _ => i20⟩, ⟨fun z => absurd z g, fun _ => l1⟩, ⟨fun z => absurd z g, fun _ => i10⟩, fun z => absurd z g, fun _ => ⟨i20, fun _ => trivial, fun _ => i20⟩⟩, ?_, ?_⟩
  · exact zWr_si (by decide) (zWr_si (by decide) (zWr_si (by decide) w6))
  · intro j hj
    have eb : (if ¬ nI r = -1 ∧ (vM L h 0 r = 1 ∨ vM L h 0 r = 2) then (1 : Int32) else 0) = if (vM L h 0 r = 1 ∨ vM L h 0 r = 2) then 1 else 0 := by
      by_cases y : vM L h 0 r = 1 ∨ vM L h 0 r = 2
      · rw [if_pos ⟨g, y⟩, if_pos y]
      · rw [if_neg (fun z => y z.2), if_neg y]
    rw [eb, e6]
    simp only [zs, za_si, if_true, s1, s2, s3]
    rcases (show j = 0 ∨ j = 1 ∨ j = 2 ∨ j = 3 ∨ j = 4 ∨ j = 5 ∨ j = 6 ∨ j = 7 ∨ j = 8 by omega) with e | e | e | e | e | e | e | e | e <;> subst e <;> simp [upd, nmR, zf, s1, s2, s3] <;> first | rfl | (intro z; exact absurd z (by decide)) | skip
theorem ask_Z {h : zm_H} {t : Nat} {sea : Int32} (hS : isSea h sea) : f_M_asks_ok 0 (-1) (nI t) h ∧ zWr [149] [] h (f_M_asks 0 (-1) (nI t) h) ∧ (∀ j, j < 9 → (f_M_asks 0 (-1) (nI t) h).2.1 149 j = nmZ sea (nI t) j) := by
  obtain ⟨s1, s2, s3⟩ := hS
  unfold f_M_asks_ok f_M_asks
  have e : (-1 : Int32) = -1 := rfl
  rw [if_pos e, if_pos e, if_pos e, if_neg (fun z => z.1 e)]
  refine ⟨⟨⟨fun _ => trivial, fun z => absurd e z⟩, ⟨fun _ => trivial, fun z => absurd e z⟩, ⟨fun _ => trivial, fun z => absurd e z⟩, fun _ => trivial, fun z => absurd e z⟩, ?_, ?_⟩
  · exact zWr_si (by decide) (zWr_si (by decide) (zWr_si (by decide) (zWr_si (by decide) (zWr_si (by decide) (zWr_si (by decide) (zWr_si (by decide) (zWr_si (by decide) (zWr_si (by decide) (zWr.refl _ _)))))))))
  · intro j hj
    simp only [zs, za_si, if_true, s1, s2, s3]
    rcases (show j = 0 ∨ j = 1 ∨ j = 2 ∨ j = 3 ∨ j = 4 ∨ j = 5 ∨ j = 6 ∨ j = 7 ∨ j = 8 by omega) with e | e | e | e | e | e | e | e | e <;> subst e <;> simp [upd, nmZ, zf, s1, s2, s3]
