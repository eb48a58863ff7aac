/-! ===== what the heavier calls keep: rows for it ===== -/
theorem bk_hb {nr w : Nat} {g : GS} {h : zm_H} (B : I_bk nr w g h) : h.2.1 64 = h.2.1 137 ∧ h.2.1 65 = h.2.1 138 ∧ h.2.1 70 = h.2.1 144 ∧ h.2.1 71 = h.2.1 145 ∧ (∀ k, k < 3 → 0 ≤ (h.2.1 137 k).toInt ∧ (h.2.1 137 k).toInt ≤ 99) ∧ (∀ k, k < 9 → 0 ≤ (h.2.1 138 k).toInt ∧ (h.2.1 138 k).toInt ≤ 9) ∧ ∀ b, b < 3 → (h.2.1 66 b = -1 ↔ h.2.1 139 b = 0) := by
  obtain ⟨⟨-, ⟨g1, g2, -⟩, -⟩, ⟨-, n2, -⟩, ⟨-, m2, m3, -⟩, -⟩ := B
  have e : ∀ i k, uN h i k = uM h i k := fun i k => by rw [n2, m2]
  have a : ∀ i, i < 8 → ¬ i = 2 → h.2.1 (64 + i) = h.2.1 (uMi i) := fun i hi h2 => by
    funext k
    have := e i k
    rwa [uN_at h hi, uM_at h hi h2] at this
  have a0 : h.2.1 137 = g.2.1 0 := by rw [← m2]; funext k; exact (uM_at h (i := 0) (by omega) (by omega) k).symm
  have a1 : h.2.1 138 = g.2.1 1 := by rw [← m2]; funext k; exact (uM_at h (i := 1) (by omega) (by omega) k).symm
  refine ⟨a 0 (by omega) (by omega), a 1 (by omega) (by omega), a 6 (by omega) (by omega), a 7 (by omega) (by omega), ?_, ?_, fun b hb => ?_⟩
  · rw [a0]; exact g1
  · rw [a1]; exact g2
  · have t : h.2.1 66 b = uM h 2 b := by rw [← e 2 b]; exact (uN_at h (i := 2) (by omega) b).symm
    rw [t]; exact (uM_2 m3 hb).symm
theorem I_bk_hb {nr w : Nat} {g : GS} {W : List Nat} {h h' : zm_H} (z : zWr W [] h h') (hW : (W.all (fun i => (decide (64 ≤ i) && decide (i < 72)) || (decide (137 ≤ i) && decide (i < 146)))) = true) {U : Nat → Nat → Int32} (G : hbOK nr w U) (eN : uN h' = U) (eM : uM h' = U) (m : mB h') (B : I_bk nr w g h) : I_bk nr w (g.1, U, g.2.2.1, g.2.2.2) h' := by
  obtain ⟨⟨b1, b2, b3⟩, ⟨n1, n2, n3, n4, J⟩, ⟨m1, m2, m3, m4, ⟨m5, m6, m7⟩, m8⟩, b4, b5, b6, b7⟩ := B
  rw [List.all_eq_true] at hW
  have a : ∀ i, (i < 64 ∨ (71 < i ∧ i < 137) ∨ 145 < i) → h'.2.1 i = h.2.1 i ∧ h'.2.2.1 i = h.2.2.1 i := fun i hi => by
    have hn : i ∉ W := fun y => by
      have := hW i y
      simp at this
      omega
    exact ⟨z.arr i hn (fun p hp => by cases hp), (z.2 i hn).2.1⟩
  have f : ∀ i k, (i < 64 ∨ (71 < i ∧ i < 137) ∨ 145 < i) → zf h' i k = zf h i k := fun i k hi => by
    show h'.2.1 i k = h.2.1 i k
    rw [(a i hi).1]
  refine ⟨⟨b1, G, b3⟩, ⟨?_, eN, ?_, ?_, ?_⟩, ⟨?_, eM, m, ?_, ?_, ?_⟩, ?_, ?_, ?_, ?_⟩
  · exact (vC_eq (fun i hi => (a (38 + i) (by omega)).1)).trans n1
  · exact (f 37 4 (by omega)).trans n3
  · exact (tB_eq (fun i hi => (a (27 + i) (by omega)).1)).trans n4
  · refine ⟨J.1, (f 23 4 (by omega)).trans J.2.1, ?_⟩
    rw [(a 28 (by omega)).1, (a 29 (by omega)).1, (a 30 (by omega)).1, (a 31 (by omega)).1]
    exact J.2.2
  · exact (vM_eq (fun i hi => (a i (by simp at hi; omega)).1) (a 127 (by omega)).2).trans m1
  · exact (f 92 41 (by omega)).trans m4
  · exact ⟨(a 118 (by omega)).1.trans m5, (a 120 (by omega)).1.trans m6, (a 122 (by omega)).1.trans m7⟩
  · rw [(a 119 (by omega)).1, (a 121 (by omega)).1]; exact m8
  · exact (f 37 3 (by omega)).trans b4
  · rw [(a 47 (by omega)).1, (a 131 (by omega)).1]; exact b5
  · rw [(a 48 (by omega)).1, (a 132 (by omega)).1]; exact b6
  · rw [(a 49 (by omega)).1, (a 133 (by omega)).1]; exact b7
/-- parts come on shore -/
theorem bk_parts {nr w : Nat} {g : GS} {h : zm_H} (B : I_bk nr w g h) {k : Nat} {v : Int32} (hk : k < 3) (v1 : 0 ≤ v.toInt) (v2 : v.toInt ≤ 99) : I_bk nr w (g.1, zm_u g.2.1 0 k v, g.2.2.1, g.2.2.2) (zm_si (zm_si h 64 k v) 137 k v) := by
  obtain ⟨⟨-, ⟨g1, g2, g3⟩, -⟩, ⟨-, n2, -⟩, ⟨-, m2, m3, -⟩, -⟩ := id B
  have z : zWr [64, 137] [] h (zm_si (zm_si h 64 k v) 137 k v) := zWr_si (by decide) (zWr_si (by decide) (zWr.refl _ _))
  refine I_bk_hb z (by decide) ⟨fun j hj => ?_, fun j hj => ?_, fun b hb => ?_⟩ ?_ ?_ ?_ B
  · rw [zuu_at]
    split
    · exact ⟨v1, v2⟩
    · exact g1 j hj
  · rw [zuu_at, if_neg (fun y => absurd y.1 (by omega))]; exact g2 j hj
  · have q : ∀ i j, ¬ i = 0 → zm_u g.2.1 0 k v i j = g.2.1 i j := fun i j hi => by rw [zuu_at, if_neg (fun y => hi y.1)]
    rw [q 2 b (by omega), q 3 b (by omega), q 4 b (by omega), q 5 b (by omega)]
    rcases g3 b hb with y | ⟨t, r, j, y1, y2, y3, y4, y5⟩
    · exact Or.inl y
    · exact Or.inr ⟨t, r, j, y1, y2, y3, y4, by rw [q 1 _ (by omega)]; exact y5⟩
  · rw [uN_o (by omega), uN_u (i := 0) rfl (by omega), n2]
  · rw [uM_u (i := 0) (j := 137) rfl (by omega) (by omega), uM_o (by omega), m2]
  · exact mB_eq (fun i hi => by simp at hi; rw [za_si, za_si, if_neg (by omega), if_neg (by omega)]) m3
theorem prt_lt (j : Int32) : prt j < 3 := by
  unfold prt
  split
  · split <;> omega
  · omega
/-- a part goes to a boat in port, or back -/
theorem bk_load {nr w : Nat} {g : GS} {h : zm_H} (B : I_bk nr w g h) {b k : Nat} {va vs : Int32} (hb : b < 3) (hk : k < 3) (h66 : h.2.1 66 b = -1) (a1 : 0 ≤ va.toInt) (a2 : va.toInt ≤ 9) (s1 : 0 ≤ vs.toInt) (s2 : vs.toInt ≤ 99) : I_bk nr w (g.1, zm_u (zm_u g.2.1 1 (3 * b + k) va) 0 k vs, g.2.2.1, g.2.2.2) (zm_si (zm_si (zm_si (zm_si h 65 (3 * b + k) va) 64 k vs) 138 (3 * b + k) va) 137 k vs) := by
  obtain ⟨⟨-, ⟨g1, g2, g3⟩, -⟩, ⟨-, n2, -⟩, ⟨-, m2, m3, -⟩, -⟩ := id B
  have z : zWr [64, 65, 137, 138] [] h (zm_si (zm_si (zm_si (zm_si h 65 (3 * b + k) va) 64 k vs) 138 (3 * b + k) va) 137 k vs) := zWr_si (by decide) (zWr_si (by decide) (zWr_si (by decide) (zWr_si (by decide) (zWr.refl _ _))))
  have u2 : g.2.1 2 b = -1 := by rw [← n2, uN_at h (i := 2) (by omega)]; exact h66
  refine I_bk_hb z (by decide) ⟨fun j hj => ?_, fun j hj => ?_, fun b' hb' => ?_⟩ ?_ ?_ ?_ B
  · rw [zuu_at]
    split
    · exact ⟨s1, s2⟩
    · rw [zuu_at, if_neg (fun y => absurd y.1 (by omega))]; exact g1 j hj
  · rw [zuu_at, if_neg (fun y => absurd y.1 (by omega)), zuu_at]
    split
    · exact ⟨a1, a2⟩
    · exact g2 j hj
  · have q : ∀ i j, ¬ i = 0 → ¬ i = 1 → zm_u (zm_u g.2.1 1 (3 * b + k) va) 0 k vs i j = g.2.1 i j := fun i j hi hi1 => by rw [zuu_at, if_neg (fun y => hi y.1), zuu_at, if_neg (fun y => hi1 y.1)]
    rw [q 2 b' (by omega) (by omega), q 3 b' (by omega) (by omega), q 4 b' (by omega) (by omega), q 5 b' (by omega) (by omega)]
    rcases g3 b' hb' with y | ⟨t, r, j, y1, y2, y3, y4, y5⟩
    · exact Or.inl y
    · refine Or.inr ⟨t, r, j, y1, y2, y3, y4, ?_⟩
      have hne : ¬ b' = b := by
        intro e
        rw [e, u2] at y1
        have := congrArg Int32.toInt y1.1
        rw [i_nI (by omega)] at this
        have i1 : (-1 : Int32).toInt = -1 := rfl
        omega
      have := prt_lt (nI j)
      rw [zuu_at, if_neg (fun y => absurd y.1 (by omega)), zuu_at, if_neg (fun y => by have := y.2; omega)]
      exact y5
  · rw [uN_o (by omega), uN_o (by omega), uN_u (i := 0) rfl (by omega), uN_u (i := 1) rfl (by omega), n2]
  · rw [uM_u (i := 0) (j := 137) rfl (by omega) (by omega), uM_u (i := 1) (j := 138) rfl (by omega) (by omega), uM_o (by omega), uM_o (by omega), m2]
  · exact mB_eq (fun i hi => by simp at hi; rw [za_si, za_si, za_si, za_si, if_neg (by omega), if_neg (by omega), if_neg (by omega), if_neg (by omega)]) m3
/-- a boat goes out -/
theorem bk_send {nr w : Nat} {g : GS} {h : zm_H} (B : I_bk nr w g h) {b r j t : Nat} {s : Int32} (hb : b < 3) (hr : r < nr) (hj : j ≤ 4) (t1 : w ≤ t) (t2 : t < 480) (hs : j < 3 → 10 ≤ s.toInt ∧ s.toInt ≤ 5000) (h138 : ¬ h.2.1 138 (3 * b + (if j < 3 then 0 else j - 2)) = 0) : ∃ U, I_bk nr w (g.1, U, g.2.2.1, g.2.2.2) (zm_si (zm_si (zm_si (zm_si (zm_si (zm_si (zm_si (zm_si (zm_si h 66 b (nI t)) 67 b (nI r)) 68 b (nI j)) 69 b s) 139 b 1) 140 b (nI r)) 141 b (nI j)) 143 b s) 142 b (nI t)) := by
  obtain ⟨⟨-, ⟨g1, g2, g3⟩, -⟩, ⟨-, n2, -⟩, ⟨-, m2, m3, -⟩, -⟩ := id B
  have z : zWr [66, 67, 68, 69, 139, 140, 141, 142, 143] [] h (zm_si (zm_si (zm_si (zm_si (zm_si (zm_si (zm_si (zm_si (zm_si h 66 b (nI t)) 67 b (nI r)) 68 b (nI j)) 69 b s) 139 b 1) 140 b (nI r)) 141 b (nI j)) 143 b s) 142 b (nI t)) := zWr_si (by decide) (zWr_si (by decide) (zWr_si (by decide) (zWr_si (by decide) (zWr_si (by decide) (zWr_si (by decide) (zWr_si (by decide) (zWr_si (by decide) (zWr_si (by decide) (zWr.refl _ _)))))))))
  have hp : prt (nI j) = if j < 3 then 0 else j - 2 := by
    rcases (show j = 0 ∨ j = 1 ∨ j = 2 ∨ j = 3 ∨ j = 4 by omega) with y | y | y | y | y <;> subst y <;> decide
  have e138 : h.2.1 138 = g.2.1 1 := by rw [← m2]; funext k; exact (uM_at h (i := 1) (by omega) (by omega) k).symm
  refine ⟨zm_u (zm_u (zm_u (zm_u g.2.1 2 b (nI t)) 3 b (nI r)) 4 b (nI j)) 5 b s, I_bk_hb z (by decide) ⟨fun k hk => ?_, fun k hk => ?_, fun b' hb' => ?_⟩ ?_ ?_ ?_ B⟩
  · rw [zuu_at, if_neg (fun y => absurd y.1 (by omega)), zuu_at, if_neg (fun y => absurd y.1 (by omega)), zuu_at, if_neg (fun y => absurd y.1 (by omega)), zuu_at, if_neg (fun y => absurd y.1 (by omega))]; exact g1 k hk
  · rw [zuu_at, if_neg (fun y => absurd y.1 (by omega)), zuu_at, if_neg (fun y => absurd y.1 (by omega)), zuu_at, if_neg (fun y => absurd y.1 (by omega)), zuu_at, if_neg (fun y => absurd y.1 (by omega))]; exact g2 k hk
  · have q1 : ∀ x, zm_u (zm_u (zm_u (zm_u g.2.1 2 b (nI t)) 3 b (nI r)) 4 b (nI j)) 5 b s 1 x = g.2.1 1 x := fun x => by rw [zuu_at, if_neg (fun y => absurd y.1 (by omega)), zuu_at, if_neg (fun y => absurd y.1 (by omega)), zuu_at, if_neg (fun y => absurd y.1 (by omega)), zuu_at, if_neg (fun y => absurd y.1 (by omega))]
    have q2 : ∀ x, zm_u (zm_u (zm_u (zm_u g.2.1 2 b (nI t)) 3 b (nI r)) 4 b (nI j)) 5 b s 2 x = if x = b then nI t else g.2.1 2 x := fun x => by
      rw [zuu_at, if_neg (fun y => absurd y.1 (by omega)), zuu_at, if_neg (fun y => absurd y.1 (by omega)), zuu_at, if_neg (fun y => absurd y.1 (by omega)), zuu_at]; simp
    have q3 : ∀ x, zm_u (zm_u (zm_u (zm_u g.2.1 2 b (nI t)) 3 b (nI r)) 4 b (nI j)) 5 b s 3 x = if x = b then nI r else g.2.1 3 x := fun x => by
      rw [zuu_at, if_neg (fun y => absurd y.1 (by omega)), zuu_at, if_neg (fun y => absurd y.1 (by omega)), zuu_at, zuu_at, if_neg (c := (3 = 2 ∧ x = b)) (fun y => absurd y.1 (by omega))]; simp
    have q4 : ∀ x, zm_u (zm_u (zm_u (zm_u g.2.1 2 b (nI t)) 3 b (nI r)) 4 b (nI j)) 5 b s 4 x = if x = b then nI j else g.2.1 4 x := fun x => by
      rw [zuu_at, if_neg (fun y => absurd y.1 (by omega)), zuu_at, zuu_at, if_neg (c := (4 = 3 ∧ x = b)) (fun y => absurd y.1 (by omega)), zuu_at, if_neg (c := (4 = 2 ∧ x = b)) (fun y => absurd y.1 (by omega))]; simp
    have q5 : ∀ x, zm_u (zm_u (zm_u (zm_u g.2.1 2 b (nI t)) 3 b (nI r)) 4 b (nI j)) 5 b s 5 x = if x = b then s else g.2.1 5 x := fun x => by
      rw [zuu_at, zuu_at, if_neg (c := (5 = 4 ∧ x = b)) (fun y => absurd y.1 (by omega)), zuu_at, if_neg (c := (5 = 3 ∧ x = b)) (fun y => absurd y.1 (by omega)), zuu_at, if_neg (c := (5 = 2 ∧ x = b)) (fun y => absurd y.1 (by omega))]; simp
    rw [q2 b', q3 b', q4 b', q5 b']
    by_cases e : b' = b
    · subst e
      refine Or.inr ⟨t, r, j, ⟨if_pos rfl, t1, t2⟩, ⟨if_pos rfl, hr⟩, ⟨if_pos rfl, hj⟩, fun y => ?_, ?_⟩
      · rw [if_pos rfl]; exact hs y
      · rw [q1, hp, ← e138]; exact h138
    · rw [if_neg e, if_neg e, if_neg e, if_neg e]
      rcases g3 b' hb' with y | ⟨t', r', j', y1, y2, y3, y4, y5⟩
      · exact Or.inl y
      · exact Or.inr ⟨t', r', j', y1, y2, y3, y4, by rw [q1]; exact y5⟩
  · rw [uN_o (by omega), uN_o (by omega), uN_o (by omega), uN_o (by omega), uN_o (by omega), uN_u (i := 5) rfl (by omega), uN_u (i := 4) rfl (by omega), uN_u (i := 3) rfl (by omega), uN_u (i := 2) rfl (by omega), n2]
  · rw [← m2]
    funext x y
    rw [zuu_at, zuu_at, zuu_at, zuu_at]
    by_cases x8 : x < 8
    · unfold uM uMi
      rcases (show x = 0 ∨ x = 1 ∨ x = 2 ∨ x = 3 ∨ x = 4 ∨ x = 5 ∨ x = 6 ∨ x = 7 by omega) with e | e | e | e | e | e | e | e <;> subst e <;> by_cases d : y = b <;> simp [zf_si, d]
    · have : ∀ H, uM H x y = 0 := fun H => by unfold uM; rw [if_neg x8]
      rw [this, this, if_neg (by omega), if_neg (by omega), if_neg (by omega), if_neg (by omega)]
  · intro b' hb'
    by_cases d : b' = b
    · subst d
      intro _ y
      simp [zf_si] at y
      have := congrArg Int32.toInt y
      rw [i_nI (by omega)] at this
      have i1 : (-1 : Int32).toInt = -1 := rfl
      omega
    · have := m3 b' hb'
      simp [zf_si, d]
      exact this
