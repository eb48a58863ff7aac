/-! ===== RIGHT of the model ===== -/
def hm2 (r : Nat) (S : Nat → Nat → Int32) : Nat → Nat → Int32 := rnw3 (zm_u (zm_u (zm_u (zm_u (zm_u S 0 r 0) 1 r (-1)) 2 r 0) 3 r 0) 4 r 0) r 0
theorem hm2_at (r : Nat) (S : Nat → Nat → Int32) (i k : Nat) : hm2 r S i k = if i = 0 ∧ k = r then 0 else if i = 1 ∧ k = r then -1 else if i = 2 ∧ k = r then 0 else if i = 3 ∧ k = r then 0 else if i = 4 ∧ k = r then 0 else if i = 5 ∧ k / 3 = r then 0 else if i = 6 ∧ k / 3 = r then 0 else if i = 7 ∧ k / 3 = r then -1 else S i k := by
  unfold hm2
  rw [rnw3_at]
  simp only [zu_at]
  by_cases e0 : i = 0
  · subst e0
    simp
  by_cases e1 : i = 1
  · subst e1
    simp
  by_cases e2 : i = 2
  · subst e2
    simp
  by_cases e3 : i = 3
  · subst e3
    simp
  by_cases e4 : i = 4
  · subst e4
    simp
  by_cases e5 : i = 5
  · subst e5
    simp
  by_cases e6 : i = 6
  · subst e6
    simp
  by_cases e7 : i = 7
  · subst e7
    simp
  simp [e0, e1, e2, e3, e4, e5, e6, e7]
theorem hm2s_at (S : Nat → Nat → Int32) : ∀ n i k, fld hm2 n S i k = if i = 0 ∧ k < n then 0 else if i = 1 ∧ k < n then -1 else if i = 2 ∧ k < n then 0 else if i = 3 ∧ k < n then 0 else if i = 4 ∧ k < n then 0 else if i = 5 ∧ k / 3 < n then 0 else if i = 6 ∧ k / 3 < n then 0 else if i = 7 ∧ k / 3 < n then -1 else S i k := by
  intro n
  induction n with
  | zero =>
    intro i k
    simp only [fld]
    rw [if_neg (by omega), if_neg (by omega), if_neg (by omega), if_neg (by omega), if_neg (by omega), if_neg (by omega), if_neg (by omega), if_neg (by omega)]
  | succ n ih =>
    intro i k
    rw [fld, hm2_at, ih]
    have a1 : k < n + 1 ↔ (k = n ∨ k < n) := by omega
    have a2 : k / 3 < n + 1 ↔ (k / 3 = n ∨ k / 3 < n) := by omega
    simp only [a1, a2]
    have key : ∀ (P Q : Prop) [Decidable P] [Decidable Q] (x y : Int32), (if P then x else if Q then x else y) = if P ∨ Q then x else y := by
      intro P Q _ _ x y
      by_cases p : P <;> by_cases q : Q <;> simp [p, q]
    by_cases e0 : i = 0
    · subst e0
      simp [key]
    by_cases e1 : i = 1
    · subst e1
      simp [key]
    by_cases e2 : i = 2
    · subst e2
      simp [key]
    by_cases e3 : i = 3
    · subst e3
      simp [key]
    by_cases e4 : i = 4
    · subst e4
      simp [key]
    by_cases e5 : i = 5
    · subst e5
      simp [key]
    by_cases e6 : i = 6
    · subst e6
      simp [key]
    by_cases e7 : i = 7
    · subst e7
      simp [key]
    simp [e0, e1, e2, e3, e4, e5, e6, e7]
theorem an0_of2 {S : Nat → Nat → Int32} (ho : ∀ i k, ¬ (i < 8 ∧ k < zsz i) → S i k = 0) : fld hm2 10 S = an0 := by
  funext i k
  rw [hm2s_at]
  unfold an0
  by_cases c : i < 8 ∧ k < zsz i
  · rw [if_pos c]
    obtain ⟨c1, c2⟩ := c
    rcases (show i = 0 ∨ i = 1 ∨ i = 2 ∨ i = 3 ∨ i = 4 ∨ i = 5 ∨ i = 6 ∨ i = 7 by omega) with e | e | e | e | e | e | e | e <;> subst e
    · have : k < 10 := c2
      simp [this]
    · have : k < 10 := c2
      simp [this]
    · have : k < 10 := c2
      simp [this]
    · have : k < 10 := c2
      simp [this]
    · have : k < 10 := c2
      simp [this]
    · have : k < 30 := c2
      have : k / 3 < 10 := by omega
      simp [this]
    · have : k < 30 := c2
      have : k / 3 < 10 := by omega
      simp [this]
    · have : k < 30 := c2
      have : k / 3 < 10 := by omega
      simp [this]
  · rw [if_neg c]
    have q : ∀ j, (j < 5 → zsz j = 10) ∧ (¬ j < 5 → zsz j = 30) := fun j => ⟨fun z => by unfold zsz; rw [if_pos z], fun z => by unfold zsz; rw [if_neg z]⟩
    obtain ⟨q1, q2⟩ := q i
    have hk : i < 8 → zsz i ≤ k := fun z => by omega
    rw [if_neg (by rintro ⟨y, z⟩; have := q1 (by omega); have := hk (by omega); omega), if_neg (by rintro ⟨y, z⟩; have := q1 (by omega); have := hk (by omega); omega), if_neg (by rintro ⟨y, z⟩; have := q1 (by omega); have := hk (by omega); omega), if_neg (by rintro ⟨y, z⟩; have := q1 (by omega); have := hk (by omega); omega), if_neg (by rintro ⟨y, z⟩; have := q1 (by omega); have := hk (by omega); omega), if_neg (by rintro ⟨y, z⟩; have := q2 (by omega); have := hk (by omega); omega), if_neg (by rintro ⟨y, z⟩; have := q2 (by omega); have := hk (by omega); omega), if_neg (by rintro ⟨y, z⟩; have := q2 (by omega); have := hk (by omega); omega), ho i k c]
theorem zsl_n (h : zm_H) (i : Nat) {k : Nat} (v : Int64) (hk : k < 2147483648) : zsl h i (nI k) v = zm_sl h i k v := by
  show zm_sl h i (nI k).toNatClampNeg v = _
  rw [nI_c hk]
theorem l2_M (h : zm_H) (v1 v2 : Int32) : f_M_anew_l2_ok v1 v2 zF (0, h) ∧ ∃ h', f_M_anew_l2 v1 v2 zF (0, h) = (1, nI 10, h') ∧ zWr [123, 124, 125, 126, 127, 128, 129, 130] [] h h' ∧ vM 1 h' = an0 ∧ vM 0 h' = vM 0 h := by
  obtain ⟨F, eF, -⟩ := zF_ex
  rw [← eF]
  have key := zlp_k eF (b := fun s => f_M_anew_l2_b v1 v2 s.1 s.2) (o := fun s => f_M_anew_l2_b_ok v1 v2 s.1 s.2) 10 (by omega) 0
    (fun j x => zWr [123, 124, 125, 126, 127, 128, 129, 130] [] h x ∧ vM 1 x = fld hm2 j (vM 1 h) ∧ vM 0 x = vM 0 h) h ⟨zWr.refl _ _, rfl, rfl⟩
    (by
      rintro j x hj ⟨p1, p2, p3⟩
      rw [Nat.zero_add]
      have g := g10 hj
      have i20 : vp_in (nI (10 + j)) 20 := vp_in_nI (by omega) (by omega)
      have ej : 10 + nI j = nI (10 + j) := by rw [show (10 : Int32) = nI 10 from rfl, nI_add]
      have bw := f_M_anew_l2_b_w v1 v2 (nI j) x
      obtain ⟨y, ey⟩ : ∃ y, y = zsl (zs (zs (zs (zs x 123 (10 + nI j) 0) 124 (10 + nI j) (-1)) 125 (10 + nI j) 0) 126 (10 + nI j) 0) 127 (10 + nI j) (0 : Int32).toInt64 := ⟨_, rfl⟩
      have y1 : vM 1 y = zm_u (zm_u (zm_u (zm_u (zm_u (vM 1 x) 0 j 0) 1 j (-1)) 2 j 0) 3 j 0) 4 j 0 := by
        rw [ey, ej, zsl_n _ _ _ (by omega), zs_n _ _ _ (by omega), zs_n _ _ _ (by omega), zs_n _ _ _ (by omega), zs_n _ _ _ (by omega)]
        have r := vM_l (L := 1) (h := zm_si (zm_si (zm_si (zm_si x 123 (10 + j) 0) 124 (10 + j) (-1)) 125 (10 + j) 0) 126 (10 + j) 0) hj (v := (0 : Int32).toInt64)
        have r3 := vM_u10 (L := 1) (h := zm_si (zm_si (zm_si x 123 (10 + j) 0) 124 (10 + j) (-1)) 125 (10 + j) 0) (i := 3) (j := 126) (v := 0) rfl (by omega) hj
        have r2 := vM_u10 (L := 1) (h := zm_si (zm_si x 123 (10 + j) 0) 124 (10 + j) (-1)) (i := 2) (j := 125) (v := 0) rfl (by omega) hj
        have r1 := vM_u10 (L := 1) (h := zm_si x 123 (10 + j) 0) (i := 1) (j := 124) (v := -1) rfl (by omega) hj
        have r0 := vM_u10 (L := 1) (h := x) (i := 0) (j := 123) (v := 0) rfl (by omega) hj
        rw [show 10 * 1 + j = 10 + j by omega] at r r3 r2 r1 r0
        rw [r, r3, r2, r1, r0]
        rfl
      have y0 : vM 0 y = vM 0 x := by
        rw [ey, ej, zsl_n _ _ _ (by omega), zs_n _ _ _ (by omega), zs_n _ _ _ (by omega), zs_n _ _ _ (by omega), zs_n _ _ _ (by omega)]
        have n10 : ¬ (1 = 0) := by omega
        have r := vM_lx (L := 1) (L' := 0) n10 (h := zm_si (zm_si (zm_si (zm_si x 123 (10 + j) 0) 124 (10 + j) (-1)) 125 (10 + j) 0) 126 (10 + j) 0) hj (v := (0 : Int32).toInt64)
        have r3 := vM_x10 (L := 1) (L' := 0) n10 (h := zm_si (zm_si (zm_si x 123 (10 + j) 0) 124 (10 + j) (-1)) 125 (10 + j) 0) (i := 3) (j := 126) (v := 0) rfl (by omega) hj
        have r2 := vM_x10 (L := 1) (L' := 0) n10 (h := zm_si (zm_si x 123 (10 + j) 0) 124 (10 + j) (-1)) (i := 2) (j := 125) (v := 0) rfl (by omega) hj
        have r1 := vM_x10 (L := 1) (L' := 0) n10 (h := zm_si x 123 (10 + j) 0) (i := 1) (j := 124) (v := -1) rfl (by omega) hj
        have r0 := vM_x10 (L := 1) (L' := 0) n10 (h := x) (i := 0) (j := 123) (v := 0) rfl (by omega) hj
        rw [show 10 * 1 + j = 10 + j by omega] at r r3 r2 r1 r0
        rw [r, r3, r2, r1, r0]
      have l3 := zlf eF (b := fun s => f_M_anew_l2_l57_b v1 v2 (nI j) (10 + nI j) s.1 s.2) (o := fun s => f_M_anew_l2_l57_b_ok v1 v2 (nI j) (10 + nI j) s.1 s.2) 3 (by omega) (fun k z => f_M_newChain 1 (nI j) (nI k) 0 z) (fun _ _ => True) y trivial
        (by
          intro k z hk _
          have g := g3 hk
          dsimp only
          unfold f_M_anew_l2_l57_b f_M_anew_l2_l57_b_ok f_M_anew_l2_l57_k72
          rw [if_neg g, ← nI_succ]
          exact ⟨⟨fun z => absurd z g, fun _ => (nc_M (h := z) (L := 1) (by omega) hj hk 0).1⟩, rfl, trivial⟩)
        (by
          intro z _
          dsimp only
          unfold f_M_anew_l2_l57_b f_M_anew_l2_l57_b_ok
          rw [if_pos (by decide)]
          exact ⟨⟨fun _ => trivial, fun z => absurd (by decide) z⟩, rfl⟩)
      obtain ⟨l4, l5, -⟩ := l3
      have l5 : f_M_anew_l2_l57 v1 v2 (nI j) (10 + nI j) F (0, y) = (1, nI 3, fld (fun k z => f_M_newChain 1 (nI j) (nI k) 0 z) 3 y) := l5
      obtain ⟨n1, n2⟩ := nc3_M (h := y) (L := 1) (r := j) (by omega) hj 0 (f := fun k z => f_M_newChain 1 (nI j) (nI k) 0 z) (fun _ _ _ => rfl)
      generalize fld (fun k z => f_M_newChain 1 (nI j) (nI k) 0 z) 3 y = z at n1 n2 l5
      have eb : f_M_anew_l2_b v1 v2 (nI j) x = (0, nI (j + 1), z) := by
        unfold f_M_anew_l2_b f_M_anew_l2_a57 f_M_anew_l2_k78
        rw [if_neg g, ← ey, ← eF, l5, ← nI_succ]
      dsimp only
      rw [eb] at bw ⊢
      dsimp only at bw
      refine ⟨?_, z, rfl, zWr_tr bw (by decide) (by decide) p1, ?_, ?_⟩
      · unfold f_M_anew_l2_b_ok
        rw [← ey, ← eF, ej]
        rw [ej] at l4
        exact ⟨fun z => absurd z g, fun _ => ⟨i20, i20, i20, i20, i20, l4, trivial⟩⟩
      · rw [n1, y1, p2, fld]; rfl
      · rw [n2 0 (by omega) (by omega), y0, p3])
    (by
      rintro x ⟨p1, p2, p3⟩
      dsimp only
      unfold f_M_anew_l2_b f_M_anew_l2_b_ok
      rw [if_pos (by decide)]
      exact ⟨⟨fun _ => trivial, fun z => absurd (by decide) z⟩, rfl⟩)
  obtain ⟨k1, h', k2, k3, k4, k5⟩ := key
  refine ⟨k1, h', k2, k3, ?_, k5⟩
  rw [k4]
  exact an0_of2 (fun i k c => vM_out c)
/-- what PASSES is kept -/
theorem l189_M (h : zm_H) (v1 v2 v3 : Int32) {t : Nat} (ht : t < 480) : f_M_anew_l89_l189_ok v1 v2 v3 (nI t) zF (0, h) ∧ ∃ h', f_M_anew_l89_l189 v1 v2 v3 (nI t) zF (0, h) = (1, nI 10, h') ∧ zWr [136] [] h h' ∧ ∀ j, h'.2.1 136 j = if 10 * t ≤ j ∧ j < 10 * t + 10 then h.2.1 151 (j - 10 * t) else h.2.1 136 j := by
  obtain ⟨F, eF, -⟩ := zF_ex
  rw [← eF]
  have key := zlp_k eF (b := fun s => f_M_anew_l89_l189_b v1 v2 v3 (nI t) s.1 s.2) (o := fun s => f_M_anew_l89_l189_b_ok v1 v2 v3 (nI t) s.1 s.2) 10 (by omega) 0
    (fun c x => zWr [136] [] h x ∧ ∀ j, x.2.1 136 j = if 10 * t ≤ j ∧ j < 10 * t + c then h.2.1 151 (j - 10 * t) else h.2.1 136 j) h ⟨zWr.refl _ _, fun j => by rw [if_neg (by omega)]⟩
    (by
      rintro c x hc ⟨p1, p2⟩
      rw [Nat.zero_add]
      have g := g10 hc
      have ej : 10 * nI t + nI c = nI (10 * t + c) := by rw [show (10 : Int32) = nI 10 from rfl, pk_mul, nI_add]
      dsimp only
      unfold f_M_anew_l89_l189_b f_M_anew_l89_l189_b_ok
      rw [if_neg g, ej, ← nI_succ, zs_n _ _ _ (by omega), zr_n _ _ (by omega)]
      refine ⟨⟨fun z => absurd z g, fun _ => ⟨vp_in_nI hc (by omega), vp_in_nI (by omega) (by omega)⟩⟩, _, rfl, zWr_si (by decide) p1, fun j => ?_⟩
      rw [zf_si, if_pos rfl]
      by_cases e : j = 10 * t + c
      · rw [if_pos e, if_pos ⟨by omega, by omega⟩, show j - 10 * t = c by omega, zf, p1.arr 151 (by decide) (by decide)]
      · rw [if_neg e, p2]
        by_cases y : 10 * t ≤ j ∧ j < 10 * t + c
        · rw [if_pos y, if_pos ⟨by omega, by omega⟩]
        · rw [if_neg y, if_neg (by omega)])
    (by
      rintro x ⟨p1, p2⟩
      dsimp only
      unfold f_M_anew_l89_l189_b f_M_anew_l89_l189_b_ok
      rw [if_pos (by decide)]
      exact ⟨⟨fun _ => trivial, fun z => absurd (by decide) z⟩, rfl⟩)
  exact key
