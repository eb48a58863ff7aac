/-! ===== the model reads: one step, all steps ===== -/
def mF (B : Nat → Int32) (n y : Nat) (r : List Nat) (s : PSt) (q : Int32 × zm_H) : Prop := (∃ x t, stp B n (y :: r, s) = some (x, t) ∧ q.1 = 1 ∧ rq B n q.2 x t ∧ (x = [] ∨ x = [0] ∨ zf q.2 92 9 = nI t.2.2.2.2.2.2.2)) ∨ (stp B n (y :: r, s) = none ∧ q.1 = 0 ∧ zf q.2 92 4 = nI (lxS B n s.1))
theorem mF_o {B : Nat → Int32} {n y : Nat} {r : List Nat} {s : PSt} {q : Int32 × zm_H} (h : mO B n y r s (nI s.2.2.2.2.2.2.2) q) : mF B n y r s q := by
  rcases h with ⟨x, t, a, b, c, d, e⟩ | z
  · exact Or.inl ⟨x, t, a, b, c, Or.inr (Or.inr (by rw [d, e]))⟩
  · exact Or.inr z
theorem m_cls {B : Nat → Int32} {n : Nat} (hn : n ≤ 400) {h : zm_H} {s : PSt} (H : rq B n h [] s) (hp : s.1 ≤ n) (hc : s.2.2.1 ≤ 400) : f_M_clauses_ok h ∧ vp_nar .boolean (f_M_clauses h).1 = (f_M_clauses h).1 ∧ mF B n 0 [] s (f_M_clauses h) := by
  have T := H.1.2.2.2.2
  have e4 := H.1.2.2.2.1
  have st : stp B n ([0], s) = (if tq B n s.1 = 257 then some ([], s) else if (300 ≤ tq B n s.1 ∧ tq B n s.1 ≤ 303) ∧ s.2.2.2.2.2.1 (tq B n s.1 - 300) = -1 then some ((if tq B n s.1 = 303 then 1 else 6) :: 159 :: 13 :: 0 :: [], padv B n (pcls s (tq B n s.1 - 300))) else none) := rfl
  unfold f_M_clauses_ok f_M_clauses
  have fail : ¬ tq B n s.1 = 257 → ¬ (300 ≤ tq B n s.1 ∧ tq B n s.1 ≤ 303) → mF B n 0 [] s (0, h) := fun n1 n2 => Or.inr ⟨by rw [st, if_neg n1, if_neg (fun z => n2 z.1)], rfl, e4⟩
  rcases mTV_c T with ⟨a, b, d⟩ | ⟨a, b, d⟩ | ⟨a, b⟩ | ⟨a, b⟩ | ⟨a, b, d⟩ | ⟨a, b, d⟩
  · rw [b, if_neg (by decide), if_neg (by decide)]
    exact ⟨⟨fun z => absurd z (by decide), fun _ => ⟨fun z => absurd z (by decide), fun _ => trivial⟩⟩, vb0, fail (by omega) (by omega)⟩
  · rw [b, if_neg (by decide), if_neg (by decide)]
    exact ⟨⟨fun z => absurd z (by decide), fun _ => ⟨fun z => absurd z (by decide), fun _ => trivial⟩⟩, vb0, fail (by omega) (by omega)⟩
  · rw [b, if_pos rfl]
    exact ⟨⟨fun _ => trivial, fun z => absurd rfl z⟩, vb1, Or.inl ⟨[], s, by rw [st, if_pos a], rfl, H, Or.inl rfl⟩⟩
  · rw [b, if_neg (by decide), if_neg (by decide)]
    exact ⟨⟨fun z => absurd z (by decide), fun _ => ⟨fun z => absurd z (by decide), fun _ => trivial⟩⟩, vb0, fail (by omega) (by omega)⟩
  · rw [b, if_neg (by decide), if_pos rfl, d]
    obtain ⟨k, ek⟩ : ∃ k, k = tq B n s.1 - 300 := ⟨_, rfl⟩
    rw [← ek]
    have i1 : (¬ (nI k < 0) ∧ (¬ (3 < nI k))) ↔ k ≤ 3 := by
      have e3 : (3 : Int32).toInt = 3 := rfl
      rw [i_lt, i_lt, i_nI (by omega), e3, i_0]; omega
    by_cases c : ¬ (nI k < 0) ∧ (¬ (3 < nI k))
    · have c' := i1.mp c
      rw [if_pos c, zr_n h 97 (by omega)]
      have ik : vp_in (nI k) 4 := vp_in_nI (by omega) (by omega)
      have z97 : zf h 97 k = s.2.2.2.2.2.1 k := by show h.2.1 97 k = _; rw [H.2.2.2.2.2.2.1]
      rw [z97]
      by_cases c2 : s.2.2.2.2.2.1 k = -1
      · rw [if_pos c2, H.2.2.2.1, zs_n _ 97 _ (by omega)]
        obtain ⟨z, ez⟩ : ∃ z, z = zm_si (zp h 92 9 (nI k)) 97 k (nI s.2.2.1) := ⟨_, rfl⟩
        have wz : zWr [97] [(92, 9)] h z := by rw [ez]; exact zWr_si (by decide) (zWr_p (by decide) (zWr.refl _ _))
        have z9 : zf z 92 9 = nI k := by
          rw [ez]; show (zm_si (zm_si h 92 9 (nI k)) 97 k _).2.1 92 9 = _
          rw [zf_si, if_neg (by decide)]; exact zm_in _ _ _ _
        rw [← ez]
        obtain ⟨HT, HM, r1, r2, r3, r4, r5, r6⟩ := H
        have Hz : rq B n z [] (pcls s k) := by
          refine ⟨mtk_z (p := s.1) (wz.eq (by decide) (by decide)) HT, mst_z (wz.eq (by decide) (by decide)) HM, (wz.fld 92 8 (by decide) (by decide)).trans r1, (wz.fld 92 12 (by decide) (by decide)).trans r2, (wz.arr 95 (by decide) (by decide)).trans r3, (wz.arr 96 (by decide) (by decide)).trans r4, ?_, (wz.arr 98 (by decide) (by decide)).trans r6⟩
          rw [ez]; show (zm_si (zm_si h 92 9 (nI k)) 97 k _).2.1 97 = upd s.2.2.2.2.2.1 k (nI s.2.2.1)
          rw [za_si, if_pos rfl, za_si, if_neg (by decide), r5]
        obtain ⟨p1, p2, p3⟩ := pu_q Hz (by show (0 : Nat) < 800; omega) 0
        obtain ⟨q1, q2, q3⟩ := pu_q p2 (by show (1 : Nat) < 800; omega) 13
        obtain ⟨u1, u2, u3⟩ := pu_q q2 (by show (2 : Nat) < 800; omega) 159
        unfold f_M_clauses_k70_ok f_M_clauses_k70 f_M_clauses_k76_ok f_M_clauses_k76 f_M_clauses_k83_ok f_M_clauses_k83 f_M_clauses_k101_ok f_M_clauses_k101 f_M_takes_ok f_M_takes
        have y9 : zf (f_M_push (nI 159) (f_M_push (nI 13) (f_M_push (nI 0) z))) 92 9 = nI k := u3.trans (q3.trans (p3.trans z9))
        rw [show (159 : Int32) = nI 159 from rfl, show (13 : Int32) = nI 13 from rfl, show (0 : Int32) = nI 0 from rfl]
        have sy : (if (zf (f_M_push (nI 159) (f_M_push (nI 13) (f_M_push (nI 0) z))) 92 9 = 3) then (1 : Int32) else 6) = nI (if tq B n s.1 = 303 then 1 else 6) := by
          rw [y9]
          have : nI k = 3 ↔ tq B n s.1 = 303 := ⟨fun z => by have := nI_inj (by omega) (by omega) (z.trans (show (3 : Int32) = nI 3 from rfl)); omega, fun z => by rw [show k = 3 by omega]; rfl⟩
          by_cases v : tq B n s.1 = 303
          · rw [if_pos v, if_pos (this.mpr v)]; rfl
          · rw [if_neg v, if_neg (fun z => v (this.mp z))]; rfl
        rw [sy]
        obtain ⟨v1, v2, v3⟩ := pu_q u2 (by show (3 : Nat) < 800; omega) (if tq B n s.1 = 303 then 1 else 6)
        obtain ⟨f1, f2, f3⟩ := fo_q hn v2 hp
        rw [show nI 0 = (0 : Int32) from rfl] at *
        refine ⟨⟨fun z => absurd z (by decide), fun _ => ⟨fun _ => ⟨fun _ => ⟨ik, fun _ => ⟨ik, p1, q1, u1, v1, f1, vb1⟩, fun z => absurd c2 z⟩, fun z => absurd c z⟩, fun z => absurd rfl z⟩⟩, vb1, Or.inl ⟨_, _, by rw [st, if_neg (by omega), ← ek, if_pos ⟨by omega, c2⟩], rfl, f2, Or.inr (Or.inr (f3.trans (v3.trans y9)))⟩⟩
      · rw [if_neg c2]
        exact ⟨⟨fun z => absurd z (by decide), fun _ => ⟨fun _ => ⟨fun _ => ⟨ik, fun z => absurd z c2, fun _ => trivial⟩, fun z => absurd c z⟩, fun z => absurd rfl z⟩⟩, vb0, Or.inr ⟨by rw [st, if_neg (by omega), ← ek, if_neg (fun z => c2 z.2)], rfl, e4⟩⟩
    · rw [if_neg c]
      have c' : ¬ k ≤ 3 := fun z => c (i1.mpr z)
      exact ⟨⟨fun z => absurd z (by decide), fun _ => ⟨fun _ => ⟨fun z => absurd z c, fun _ => trivial⟩, fun z => absurd rfl z⟩⟩, vb0, fail (by omega) (by omega)⟩
  · rw [b, if_neg (by decide), if_pos rfl, d]
    have c : ¬ (¬ ((-1 : Int32) < 0) ∧ (¬ (3 < (-1 : Int32)))) := by decide
    rw [if_neg c]
    exact ⟨⟨fun z => absurd z (by decide), fun _ => ⟨fun _ => ⟨fun z => absurd z c, fun _ => trivial⟩, fun z => absurd rfl z⟩⟩, vb0, fail (by omega) (by omega)⟩
theorem sp_m {B : Nat → Int32} {n : Nat} (hn : n ≤ 400) {h : zm_H} {y : Nat} {r : List Nat} {s : PSt} (I : pIv n (y :: r, s)) (H : rq B n h r s) (h9 : y :: r = [0] ∨ zf h 92 9 = nI s.2.2.2.2.2.2.2) : f_M_steps_ok (nI y) h ∧ mF B n y r s (f_M_steps (nI y) h) := by
  obtain ⟨⟨hp, hd, hc⟩, K⟩ := I
  dsimp only at hp hd hc K
  have hc0 : s.2.2.1 ≤ s.1 := by omega
  by_cases cl : y :: r = [0]
  · cases cl
    obtain ⟨a1, a2, a3⟩ := m_cls hn H hp (by omega)
    unfold f_M_steps_ok f_M_steps
    rw [if_pos (show nI 0 < 1000 by decide), if_pos (show nI 0 < 100 by decide), if_pos (show nI 0 = 0 from rfl)]
    exact ⟨⟨fun _ => ⟨fun _ => ⟨fun _ => ⟨a1, a2⟩, fun z => absurd rfl z⟩, fun z => absurd (by decide) z⟩, fun z => absurd (by decide) z⟩, a3⟩
  have K9 : zf h 92 9 = nI s.2.2.2.2.2.2.2 := by
    rcases h9 with z | z
    · exact absurd z cl
    · exact z
  rcases K with ⟨z | z, -⟩ | ⟨ts, hop, hch, -⟩
  · cases z
  · exact absurd z cl
  have hcl4 := hop.1
  generalize et : decide (s.2.2.2.2.2.2.2 ≠ 3) = t at hch
  have mk : ∀ q, mO B n y r s (zf h 92 9) q → mF B n y r s q := fun q z => mF_o (by rw [← K9]; exact z)
  unfold chk at hch
  by_cases e13 : y = 13
  · rw [if_pos e13] at hch
    subst e13
    obtain ⟨T, M, r1, r2, r3, r4, r5, r6⟩ := H
    have i4 : vp_in (nI s.2.2.2.2.2.2.2) 4 := vp_in_nI hcl4 (by omega)
    unfold f_M_steps_ok f_M_steps
    rw [if_pos (show nI 13 < 1000 by decide), if_pos (show nI 13 < 100 by decide), if_neg (show ¬ nI 13 = 0 by decide), if_neg (show ¬ nI 13 = 1 by decide), if_neg (show ¬ nI 13 = 2 by decide), if_neg (show ¬ nI 13 = 3 by decide), if_neg (show ¬ nI 13 = 4 by decide), if_neg (show ¬ nI 13 = 5 by decide), if_neg (show ¬ nI 13 = 6 by decide), if_neg (show ¬ nI 13 = 7 by decide), if_neg (show ¬ nI 13 = 8 by decide), if_neg (show ¬ nI 13 = 9 by decide), if_neg (show ¬ nI 13 = 10 by decide), if_neg (show ¬ nI 13 = 11 by decide), if_neg (show ¬ nI 13 = 12 by decide)]
    rw [K9, zs_n _ 98 _ (by omega), show zf h 92 12 = nI s.2.2.1 from r2]
    obtain ⟨z, ez⟩ : ∃ z, z = zm_si h 98 s.2.2.2.2.2.2.2 (nI s.2.2.1) := ⟨_, rfl⟩
    have wz : zWr [98] [] h z := by rw [ez]; exact zWr_si (by decide) (zWr.refl _ _)
    rw [← ez]
    refine ⟨⟨fun _ => ⟨fun _ => ⟨fun z => absurd z (by decide), fun _ => ⟨fun z => absurd z (by decide), fun _ => ⟨fun z => absurd z (by decide), fun _ => ⟨fun z => absurd z (by decide), fun _ => ⟨fun z => absurd z (by decide), fun _ => ⟨fun z => absurd z (by decide), fun _ => ⟨fun z => absurd z (by decide), fun _ => ⟨fun z => absurd z (by decide), fun _ => ⟨fun z => absurd z (by decide), fun _ => ⟨fun z => absurd z (by decide), fun _ => ⟨fun z => absurd z (by decide), fun _ => ⟨fun z => absurd z (by decide), fun _ => ⟨fun z => absurd z (by decide), fun _ => i4⟩⟩⟩⟩⟩⟩⟩⟩⟩⟩⟩⟩⟩, fun z => absurd (by decide) z⟩, fun z => absurd (by decide) z⟩, Or.inl ⟨r, pend s, rfl, rfl, ⟨mtk_z (p := s.1) (wz.eq (by decide) (by decide)) T, mst_z (wz.eq (by decide) (by decide)) M, (wz.fld 92 8 (by decide) (by decide)).trans r1, (wz.fld 92 12 (by decide) (by decide)).trans r2, (wz.arr 95 (by decide) (by decide)).trans r3, (wz.arr 96 (by decide) (by decide)).trans r4, (wz.arr 97 (by decide) (by decide)).trans r5, ?_⟩, Or.inr (Or.inl hch.2)⟩⟩
    rw [ez, za_si, if_pos rfl, r6]
    rfl
  rw [if_neg e13] at hch
  by_cases e1 : y = 1
  · rw [if_pos e1] at hch
    subst e1
    obtain ⟨a, b⟩ := m_both (y := 1) (a := 2) (b := 3) H (by have := hch.1.2; omega) rfl
    unfold f_M_steps_ok f_M_steps
    rw [if_pos (show nI 1 < 1000 by decide), if_pos (show nI 1 < 100 by decide), if_neg (show ¬ nI 1 = 0 by decide), if_pos (show nI 1 = 1 from rfl)]
    exact ⟨⟨fun _ => ⟨fun _ => ⟨fun z => absurd z (by decide), fun _ => ⟨fun _ => ⟨a, mO_b b⟩, fun z => absurd rfl z⟩⟩, fun z => absurd (by decide) z⟩, fun z => absurd (by decide) z⟩, mk _ b⟩
  rw [if_neg e1] at hch
  by_cases e2 : y = 2
  · rw [if_pos e2] at hch
    subst e2
    obtain ⟨a, b⟩ := m_more (y := 2) (a := 2) (b := 3) (c1 := 43) (c2 := 45) (d1 := 2) (d2 := 3) hn H hp (by have := hch.2.1.2; omega) (by omega) rfl
    unfold f_M_steps_ok f_M_steps
    rw [if_pos (show nI 2 < 1000 by decide), if_pos (show nI 2 < 100 by decide), if_neg (show ¬ nI 2 = 0 by decide), if_neg (show ¬ nI 2 = 1 by decide), if_pos (show nI 2 = 2 from rfl)]
    exact ⟨⟨fun _ => ⟨fun _ => ⟨fun z => absurd z (by decide), fun _ => ⟨fun z => absurd z (by decide), fun _ => ⟨fun _ => ⟨a, mO_b b⟩, fun z => absurd rfl z⟩⟩⟩, fun z => absurd (by decide) z⟩, fun z => absurd (by decide) z⟩, mk _ b⟩
  rw [if_neg e2] at hch
  by_cases e3 : y = 3
  · rw [if_pos e3] at hch
    subst e3
    obtain ⟨a, b⟩ := m_both (y := 3) (a := 4) (b := 5) H (by have := hch.1.2; omega) rfl
    unfold f_M_steps_ok f_M_steps
    rw [if_pos (show nI 3 < 1000 by decide), if_pos (show nI 3 < 100 by decide), if_neg (show ¬ nI 3 = 0 by decide), if_neg (show ¬ nI 3 = 1 by decide), if_neg (show ¬ nI 3 = 2 by decide), if_pos (show nI 3 = 3 from rfl)]
    exact ⟨⟨fun _ => ⟨fun _ => ⟨fun z => absurd z (by decide), fun _ => ⟨fun z => absurd z (by decide), fun _ => ⟨fun z => absurd z (by decide), fun _ => ⟨fun _ => ⟨a, mO_b b⟩, fun z => absurd rfl z⟩⟩⟩⟩, fun z => absurd (by decide) z⟩, fun z => absurd (by decide) z⟩, mk _ b⟩
  rw [if_neg e3] at hch
  by_cases e4 : y = 4
  · rw [if_pos e4] at hch
    subst e4
    obtain ⟨a, b⟩ := m_more (y := 4) (a := 4) (b := 5) (c1 := 42) (c2 := 47) (d1 := 4) (d2 := 5) hn H hp (by have := hch.2.1.2; omega) (by omega) rfl
    unfold f_M_steps_ok f_M_steps
    rw [if_pos (show nI 4 < 1000 by decide), if_pos (show nI 4 < 100 by decide), if_neg (show ¬ nI 4 = 0 by decide), if_neg (show ¬ nI 4 = 1 by decide), if_neg (show ¬ nI 4 = 2 by decide), if_neg (show ¬ nI 4 = 3 by decide), if_pos (show nI 4 = 4 from rfl)]
    exact ⟨⟨fun _ => ⟨fun _ => ⟨fun z => absurd z (by decide), fun _ => ⟨fun z => absurd z (by decide), fun _ => ⟨fun z => absurd z (by decide), fun _ => ⟨fun z => absurd z (by decide), fun _ => ⟨fun _ => ⟨a, mO_b b⟩, fun z => absurd rfl z⟩⟩⟩⟩⟩, fun z => absurd (by decide) z⟩, fun z => absurd (by decide) z⟩, mk _ b⟩
  rw [if_neg e4] at hch
  by_cases e5 : y = 5
  · rw [if_pos e5] at hch
    subst e5
    obtain ⟨a, b⟩ := m_fac hn H hp hd (fun z => by have := hch.1.2; omega) hc0
    unfold f_M_steps_ok f_M_steps
    rw [if_pos (show nI 5 < 1000 by decide), if_pos (show nI 5 < 100 by decide), if_neg (show ¬ nI 5 = 0 by decide), if_neg (show ¬ nI 5 = 1 by decide), if_neg (show ¬ nI 5 = 2 by decide), if_neg (show ¬ nI 5 = 3 by decide), if_neg (show ¬ nI 5 = 4 by decide), if_pos (show nI 5 = 5 from rfl)]
    exact ⟨⟨fun _ => ⟨fun _ => ⟨fun z => absurd z (by decide), fun _ => ⟨fun z => absurd z (by decide), fun _ => ⟨fun z => absurd z (by decide), fun _ => ⟨fun z => absurd z (by decide), fun _ => ⟨fun z => absurd z (by decide), fun _ => ⟨fun _ => ⟨a, mO_b b⟩, fun z => absurd rfl z⟩⟩⟩⟩⟩⟩, fun z => absurd (by decide) z⟩, fun z => absurd (by decide) z⟩, mk _ b⟩
  rw [if_neg e5] at hch
  by_cases e6 : y = 6
  · rw [if_pos e6] at hch
    subst e6
    obtain ⟨a, b⟩ := m_both (y := 6) (a := 7) (b := 8) H (by have := hch.1.2; omega) rfl
    unfold f_M_steps_ok f_M_steps
    rw [if_pos (show nI 6 < 1000 by decide), if_pos (show nI 6 < 100 by decide), if_neg (show ¬ nI 6 = 0 by decide), if_neg (show ¬ nI 6 = 1 by decide), if_neg (show ¬ nI 6 = 2 by decide), if_neg (show ¬ nI 6 = 3 by decide), if_neg (show ¬ nI 6 = 4 by decide), if_neg (show ¬ nI 6 = 5 by decide), if_pos (show nI 6 = 6 from rfl)]
    exact ⟨⟨fun _ => ⟨fun _ => ⟨fun z => absurd z (by decide), fun _ => ⟨fun z => absurd z (by decide), fun _ => ⟨fun z => absurd z (by decide), fun _ => ⟨fun z => absurd z (by decide), fun _ => ⟨fun z => absurd z (by decide), fun _ => ⟨fun z => absurd z (by decide), fun _ => ⟨fun _ => ⟨a, mO_b b⟩, fun z => absurd rfl z⟩⟩⟩⟩⟩⟩⟩, fun z => absurd (by decide) z⟩, fun z => absurd (by decide) z⟩, mk _ b⟩
  rw [if_neg e6] at hch
  by_cases e7 : y = 7
  · rw [if_pos e7] at hch
    subst e7
    obtain ⟨a, b⟩ := m_mw (y := 7) (a := 7) (b := 8) (w := 13) (d := 10) hn H hp (by have := hch.2.1.2; omega) (by omega) rfl
    unfold f_M_steps_ok f_M_steps
    rw [if_pos (show nI 7 < 1000 by decide), if_pos (show nI 7 < 100 by decide), if_neg (show ¬ nI 7 = 0 by decide), if_neg (show ¬ nI 7 = 1 by decide), if_neg (show ¬ nI 7 = 2 by decide), if_neg (show ¬ nI 7 = 3 by decide), if_neg (show ¬ nI 7 = 4 by decide), if_neg (show ¬ nI 7 = 5 by decide), if_neg (show ¬ nI 7 = 6 by decide), if_pos (show nI 7 = 7 from rfl)]
    exact ⟨⟨fun _ => ⟨fun _ => ⟨fun z => absurd z (by decide), fun _ => ⟨fun z => absurd z (by decide), fun _ => ⟨fun z => absurd z (by decide), fun _ => ⟨fun z => absurd z (by decide), fun _ => ⟨fun z => absurd z (by decide), fun _ => ⟨fun z => absurd z (by decide), fun _ => ⟨fun z => absurd z (by decide), fun _ => ⟨fun _ => ⟨a, mO_b b⟩, fun z => absurd rfl z⟩⟩⟩⟩⟩⟩⟩⟩, fun z => absurd (by decide) z⟩, fun z => absurd (by decide) z⟩, mk _ b⟩
  rw [if_neg e7] at hch
  by_cases e8 : y = 8
  · rw [if_pos e8] at hch
    subst e8
    obtain ⟨a, b⟩ := m_both (y := 8) (a := 9) (b := 10) H (by have := hch.1.2; omega) rfl
    unfold f_M_steps_ok f_M_steps
    rw [if_pos (show nI 8 < 1000 by decide), if_pos (show nI 8 < 100 by decide), if_neg (show ¬ nI 8 = 0 by decide), if_neg (show ¬ nI 8 = 1 by decide), if_neg (show ¬ nI 8 = 2 by decide), if_neg (show ¬ nI 8 = 3 by decide), if_neg (show ¬ nI 8 = 4 by decide), if_neg (show ¬ nI 8 = 5 by decide), if_neg (show ¬ nI 8 = 6 by decide), if_neg (show ¬ nI 8 = 7 by decide), if_pos (show nI 8 = 8 from rfl)]
    exact ⟨⟨fun _ => ⟨fun _ => ⟨fun z => absurd z (by decide), fun _ => ⟨fun z => absurd z (by decide), fun _ => ⟨fun z => absurd z (by decide), fun _ => ⟨fun z => absurd z (by decide), fun _ => ⟨fun z => absurd z (by decide), fun _ => ⟨fun z => absurd z (by decide), fun _ => ⟨fun z => absurd z (by decide), fun _ => ⟨fun z => absurd z (by decide), fun _ => ⟨fun _ => ⟨a, mO_b b⟩, fun z => absurd rfl z⟩⟩⟩⟩⟩⟩⟩⟩⟩, fun z => absurd (by decide) z⟩, fun z => absurd (by decide) z⟩, mk _ b⟩
  rw [if_neg e8] at hch
  by_cases e9 : y = 9
  · rw [if_pos e9] at hch
    subst e9
    obtain ⟨a, b⟩ := m_mw (y := 9) (a := 9) (b := 10) (w := 14) (d := 9) hn H hp (by have := hch.2.1.2; omega) (by omega) rfl
    unfold f_M_steps_ok f_M_steps
    rw [if_pos (show nI 9 < 1000 by decide), if_pos (show nI 9 < 100 by decide), if_neg (show ¬ nI 9 = 0 by decide), if_neg (show ¬ nI 9 = 1 by decide), if_neg (show ¬ nI 9 = 2 by decide), if_neg (show ¬ nI 9 = 3 by decide), if_neg (show ¬ nI 9 = 4 by decide), if_neg (show ¬ nI 9 = 5 by decide), if_neg (show ¬ nI 9 = 6 by decide), if_neg (show ¬ nI 9 = 7 by decide), if_neg (show ¬ nI 9 = 8 by decide), if_pos (show nI 9 = 9 from rfl)]
    exact ⟨⟨fun _ => ⟨fun _ => ⟨fun z => absurd z (by decide), fun _ => ⟨fun z => absurd z (by decide), fun _ => ⟨fun z => absurd z (by decide), fun _ => ⟨fun z => absurd z (by decide), fun _ => ⟨fun z => absurd z (by decide), fun _ => ⟨fun z => absurd z (by decide), fun _ => ⟨fun z => absurd z (by decide), fun _ => ⟨fun z => absurd z (by decide), fun _ => ⟨fun z => absurd z (by decide), fun _ => ⟨fun _ => ⟨a, mO_b b⟩, fun z => absurd rfl z⟩⟩⟩⟩⟩⟩⟩⟩⟩⟩, fun z => absurd (by decide) z⟩, fun z => absurd (by decide) z⟩, mk _ b⟩
  rw [if_neg e9] at hch
  by_cases e10 : y = 10
  · rw [if_pos e10] at hch
    subst e10
    obtain ⟨a, b⟩ := m_hol hn H hp hd (by have := hch.1.2; omega)
    unfold f_M_steps_ok f_M_steps
    rw [if_pos (show nI 10 < 1000 by decide), if_pos (show nI 10 < 100 by decide), if_neg (show ¬ nI 10 = 0 by decide), if_neg (show ¬ nI 10 = 1 by decide), if_neg (show ¬ nI 10 = 2 by decide), if_neg (show ¬ nI 10 = 3 by decide), if_neg (show ¬ nI 10 = 4 by decide), if_neg (show ¬ nI 10 = 5 by decide), if_neg (show ¬ nI 10 = 6 by decide), if_neg (show ¬ nI 10 = 7 by decide), if_neg (show ¬ nI 10 = 8 by decide), if_neg (show ¬ nI 10 = 9 by decide), if_pos (show nI 10 = 10 from rfl)]
    exact ⟨⟨fun _ => ⟨fun _ => ⟨fun z => absurd z (by decide), fun _ => ⟨fun z => absurd z (by decide), fun _ => ⟨fun z => absurd z (by decide), fun _ => ⟨fun z => absurd z (by decide), fun _ => ⟨fun z => absurd z (by decide), fun _ => ⟨fun z => absurd z (by decide), fun _ => ⟨fun z => absurd z (by decide), fun _ => ⟨fun z => absurd z (by decide), fun _ => ⟨fun z => absurd z (by decide), fun _ => ⟨fun z => absurd z (by decide), fun _ => ⟨fun _ => ⟨a, mO_b b⟩, fun z => absurd rfl z⟩⟩⟩⟩⟩⟩⟩⟩⟩⟩⟩, fun z => absurd (by decide) z⟩, fun z => absurd (by decide) z⟩, mk _ b⟩
  rw [if_neg e10] at hch
  by_cases e11 : y = 11
  · rw [if_pos e11] at hch
    subst e11
    obtain ⟨us, -, ⟨-, g2⟩, -⟩ := hch
    obtain ⟨a, b⟩ := m_cmp hn H hp (by omega)
    unfold f_M_steps_ok f_M_steps
    rw [if_pos (show nI 11 < 1000 by decide), if_pos (show nI 11 < 100 by decide), if_neg (show ¬ nI 11 = 0 by decide), if_neg (show ¬ nI 11 = 1 by decide), if_neg (show ¬ nI 11 = 2 by decide), if_neg (show ¬ nI 11 = 3 by decide), if_neg (show ¬ nI 11 = 4 by decide), if_neg (show ¬ nI 11 = 5 by decide), if_neg (show ¬ nI 11 = 6 by decide), if_neg (show ¬ nI 11 = 7 by decide), if_neg (show ¬ nI 11 = 8 by decide), if_neg (show ¬ nI 11 = 9 by decide), if_neg (show ¬ nI 11 = 10 by decide), if_pos (show nI 11 = 11 from rfl)]
    exact ⟨⟨fun _ => ⟨fun _ => ⟨fun z => absurd z (by decide), fun _ => ⟨fun z => absurd z (by decide), fun _ => ⟨fun z => absurd z (by decide), fun _ => ⟨fun z => absurd z (by decide), fun _ => ⟨fun z => absurd z (by decide), fun _ => ⟨fun z => absurd z (by decide), fun _ => ⟨fun z => absurd z (by decide), fun _ => ⟨fun z => absurd z (by decide), fun _ => ⟨fun z => absurd z (by decide), fun _ => ⟨fun z => absurd z (by decide), fun _ => ⟨fun z => absurd z (by decide), fun _ => ⟨fun _ => ⟨a, mO_b b⟩, fun z => absurd rfl z⟩⟩⟩⟩⟩⟩⟩⟩⟩⟩⟩⟩, fun z => absurd (by decide) z⟩, fun z => absurd (by decide) z⟩, mk _ b⟩
  rw [if_neg e11] at hch
  by_cases e12 : y = 12
  · rw [if_pos e12] at hch
    subst e12
    obtain ⟨T, M, r1, r2, r3, r4, r5, r6⟩ := H
    obtain ⟨⟨d', ed⟩, -, -⟩ := hch
    unfold f_M_steps_ok f_M_steps
    rw [if_pos (show nI 12 < 1000 by decide), if_pos (show nI 12 < 100 by decide), if_neg (show ¬ nI 12 = 0 by decide), if_neg (show ¬ nI 12 = 1 by decide), if_neg (show ¬ nI 12 = 2 by decide), if_neg (show ¬ nI 12 = 3 by decide), if_neg (show ¬ nI 12 = 4 by decide), if_neg (show ¬ nI 12 = 5 by decide), if_neg (show ¬ nI 12 = 6 by decide), if_neg (show ¬ nI 12 = 7 by decide), if_neg (show ¬ nI 12 = 8 by decide), if_neg (show ¬ nI 12 = 9 by decide), if_neg (show ¬ nI 12 = 10 by decide), if_neg (show ¬ nI 12 = 11 by decide), if_pos (show nI 12 = 12 from rfl)]
    have ev : nI s.2.1 - 1 = nI (s.2.1 - 1) := by rw [show (1 : Int32) = nI 1 from rfl, pk_sub (by omega)]
    rw [show zf h 92 8 = nI s.2.1 from r1, ev]
    obtain ⟨z, ez⟩ : ∃ z, z = zp h 92 8 (nI (s.2.1 - 1)) := ⟨_, rfl⟩
    have wz : zWr [] [(92, 8)] h z := by rw [ez]; exact zWr_p (by decide) (zWr.refl _ _)
    rw [← ez]
    exact ⟨⟨fun _ => ⟨fun _ => ⟨fun z => absurd z (by decide), fun _ => ⟨fun z => absurd z (by decide), fun _ => ⟨fun z => absurd z (by decide), fun _ => ⟨fun z => absurd z (by decide), fun _ => ⟨fun z => absurd z (by decide), fun _ => ⟨fun z => absurd z (by decide), fun _ => ⟨fun z => absurd z (by decide), fun _ => ⟨fun z => absurd z (by decide), fun _ => ⟨fun z => absurd z (by decide), fun _ => ⟨fun z => absurd z (by decide), fun _ => ⟨fun z => absurd z (by decide), fun _ => ⟨fun z => absurd z (by decide), fun _ => ⟨fun _ => trivial, fun z => absurd rfl z⟩⟩⟩⟩⟩⟩⟩⟩⟩⟩⟩⟩⟩, fun z => absurd (by decide) z⟩, fun z => absurd (by decide) z⟩, Or.inl ⟨r, pdep s (s.2.1 - 1), rfl, rfl, ⟨mtk_z (p := s.1) (wz.eq (by decide) (by decide)) T, mst_z (wz.eq (by decide) (by decide)) M, by rw [ez]; exact zm_in _ _ _ _, (wz.fld 92 12 (by decide) (by decide)).trans r2, (wz.arr 95 (by decide) (by decide)).trans r3, (wz.arr 96 (by decide) (by decide)).trans r4, (wz.arr 97 (by decide) (by decide)).trans r5, (wz.arr 98 (by decide) (by decide)).trans r6⟩, Or.inr (Or.inr ((wz.fld 92 9 (by decide) (by decide)).trans K9))⟩⟩
  rw [if_neg e12] at hch
  by_cases e14 : 1000 ≤ y
  · rw [if_pos e14] at hch
    obtain ⟨g1, g2, g3, us, g4, g5⟩ := hch
    rw [cD_g r e14] at hc
    have n1 : ¬ (nI y < 1000) := by rw [show (1000 : Int32) = nI 1000 from rfl, i_lt, i_nI (by omega), i_nI (by omega)]; omega
    unfold f_M_steps_ok f_M_steps
    rw [if_neg n1, show (1000 : Int32) = nI 1000 from rfl, pk_sub e14]
    rw [show (1000 : Int32) = nI 1000 from rfl] at n1
    obtain ⟨o1, o2, o3⟩ := em_q H (by omega) (nI (y - 1000)) 0
    have st : stp B n (y :: r, s) = some (r, pemt s (nI (y - 1000)) 0) := by
      unfold stp
      dsimp only
      rw [if_pos e14]
    exact ⟨⟨fun z => absurd z n1, fun _ => o1⟩, Or.inl ⟨_, _, st, rfl, o2, Or.inr (Or.inr (o3.trans K9))⟩⟩
  rw [if_neg e14] at hch
  by_cases e15 : 100 ≤ y
  · rw [if_pos e15] at hch
    have n1 : nI y < 1000 := by rw [show (1000 : Int32) = nI 1000 from rfl, i_lt, i_nI (by omega), i_nI (by omega)]; omega
    have n2 : ¬ (nI y < 100) := by rw [show (100 : Int32) = nI 100 from rfl, i_lt, i_nI (by omega), i_nI (by omega)]; omega
    unfold f_M_steps_ok f_M_steps f_M_steps_k40 f_M_takes_ok f_M_takes
    rw [if_pos n1, if_neg n2, show (100 : Int32) = nI 100 from rfl, pk_sub e15]
    rw [show (100 : Int32) = nI 100 from rfl] at n2
    have i1 := mT_s H.1.2.2.2.2 (c := y - 100) (by have := hch.1; omega)
    have st : stp B n (y :: r, s) = (if tq B n s.1 = y - 100 then some (r, padv B n s) else none) := by
      unfold stp
      dsimp only
      rw [if_neg e14, if_pos e15]
    by_cases c : zf h 92 3 = 3 ∧ zf h 92 5 = nI (y - 100)
    · rw [if_pos c]
      dsimp only
      rw [if_pos (by decide)]
      obtain ⟨f1, f2, f3⟩ := fo_q hn H hp
      exact ⟨⟨fun _ => ⟨fun z => absurd z n2, fun _ => ⟨fun _ => f1, fun z => absurd c z⟩⟩, fun z => absurd n1 z⟩, Or.inl ⟨_, _, by rw [st, if_pos (i1.mp c)], rfl, f2, Or.inr (Or.inr (f3.trans K9))⟩⟩
    · rw [if_neg c]
      exact ⟨⟨fun _ => ⟨fun z => absurd z n2, fun _ => ⟨fun z => absurd z c, fun _ => trivial⟩⟩, fun z => absurd n1 z⟩, Or.inr ⟨by rw [st, if_neg (fun z => c (i1.mpr z))], rfl, H.1.2.2.2.1⟩⟩
  rw [if_neg e15] at hch
  exact hch.elim
