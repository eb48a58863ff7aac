/-! ===== lanes: shut or not; lay ===== -/
def I_ln (nl : Nat) (h : zm_H) : Prop := (nl ≤ 10 ∧ zf h 82 3 = nI nl ∧ zf h 92 37 = nI nl) ∧ h.2.1 83 = h.2.1 115 ∧ h.2.1 84 = h.2.1 116 ∧ h.2.1 85 = h.2.1 117
def sht (a b c : Nat → Int32) (n : Nat) (col day : Int32) : Prop := ∃ k, k < n ∧ a k = col ∧ ¬ day < b k ∧ ¬ c k < day
theorem sh_N {nl : Nat} {h : zm_H} (H : I_ln nl h) (col day : Int32) : f_Ground_isShut_ok col day h ∧ (f_Ground_isShut col day h = 0 ↔ ¬ sht (h.2.1 115) (h.2.1 116) (h.2.1 117) nl col day) := by
  obtain ⟨⟨hn, e1, e2⟩, a1, a2, a3⟩ := H
  rw [← a1, ← a2, ← a3]
  unfold f_Ground_isShut_ok f_Ground_isShut
  obtain ⟨F, eF, -⟩ := zF_ex
  rw [← eF]
  have key := zlpF eF (b := fun t => f_Ground_isShut_l2_b col day t h) (o := fun t => f_Ground_isShut_l2_b_ok col day t h) nl (by omega)
    (fun k s => s = nI k ∧ ¬ sht (h.2.1 83) (h.2.1 84) (h.2.1 85) k col day) (fun r => (r.1 = 1 ∧ sht (h.2.1 83) (h.2.1 84) (h.2.1 85) nl col day) ∨ (r.1 = 2 ∧ ¬ sht (h.2.1 83) (h.2.1 84) (h.2.1 85) nl col day)) 0 ⟨rfl, fun ⟨q, hq, _⟩ => by omega⟩
    (by
      rintro k s hk ⟨rfl, h2⟩
      have g0 : ¬ (zf h 82 3 ≤ nI k) := by rw [e1, nx_le (by omega) (by omega)]; omega
      have i10 : vp_in (nI k) 10 := vp_in_nI (by omega) (by omega)
      have next : ¬ (h.2.1 83 k = col ∧ ¬ day < h.2.1 84 k ∧ ¬ h.2.1 85 k < day) → ¬ sht (h.2.1 83) (h.2.1 84) (h.2.1 85) (k + 1) col day := fun nn ⟨q, q1, q2⟩ => by
        rcases (show q < k ∨ q = k by omega) with z | z
        · exact h2 ⟨q, z, q2⟩
        · subst z; exact nn q2
      refine ⟨⟨fun z => absurd z g0, fun _ => ⟨i10, fun _ => ⟨i10, fun _ => trivial, fun _ => i10⟩, fun _ => trivial⟩⟩, ?_⟩
      unfold f_Ground_isShut_l2_b f_Ground_isShut_l2_k42
      rw [if_neg g0, zr_n h 83 (by omega), zr_n h 84 (by omega), zr_n h 85 (by omega), ← nI_succ]
      by_cases c : zf h 83 k = col
      · rw [if_pos c]
        by_cases d : day < zf h 84 k
        · rw [if_pos d]; exact Or.inl ⟨rfl, rfl, next (fun z => z.2.1 d)⟩
        · rw [if_neg d]
          by_cases e : zf h 85 k < day
          · rw [if_pos e]; exact Or.inl ⟨rfl, rfl, next (fun z => z.2.2 e)⟩
          · rw [if_neg e]; exact Or.inr ⟨by simp, Or.inl ⟨rfl, k, hk, c, d, e⟩⟩
      · rw [if_neg c]; exact Or.inl ⟨rfl, rfl, next (fun z => c z.1)⟩)
    (by
      rintro s ⟨rfl, h2⟩
      have g0 : zf h 82 3 ≤ nI nl := by rw [e1]; exact i_le_r _
      refine ⟨⟨fun _ => trivial, fun z => absurd g0 z⟩, ?_⟩
      unfold f_Ground_isShut_l2_b
      rw [if_pos g0]
      exact ⟨by simp, Or.inr ⟨rfl, h2⟩⟩)
  obtain ⟨k1, k2⟩ := key
  have k1 : f_Ground_isShut_l2_ok col day h F 0 := k1
  have k2 : ((f_Ground_isShut_l2 col day h F 0).1 = 1 ∧ sht (h.2.1 83) (h.2.1 84) (h.2.1 85) nl col day) ∨ ((f_Ground_isShut_l2 col day h F 0).1 = 2 ∧ ¬ sht (h.2.1 83) (h.2.1 84) (h.2.1 85) nl col day) := k2
  generalize f_Ground_isShut_l2 col day h F 0 = R at k2
  refine ⟨⟨k1, fun _ => trivial, fun _ => trivial⟩, ?_⟩
  unfold f_Ground_isShut_a2 f_Ground_isShut_k40 f_Ground_isShut_k48
  rcases k2 with ⟨a, b⟩ | ⟨a, b⟩
  · rw [if_pos a]; exact ⟨fun z => absurd z (by decide), fun z => absurd b z⟩
  · rw [if_neg (by rw [a]; decide)]; exact ⟨fun _ => b, fun _ => rfl⟩
theorem sh_M {nl : Nat} {h : zm_H} (H : I_ln nl h) (p : Int32) : f_M_isShut_ok p h ∧ (f_M_isShut p h = 0 ↔ ¬ sht (h.2.1 115) (h.2.1 116) (h.2.1 117) nl (p / 10) (zf h 92 23 / 8)) := by
  obtain ⟨⟨hn, e1, e2⟩, a1, a2, a3⟩ := H
  unfold f_M_isShut_ok f_M_isShut
  obtain ⟨F, eF, -⟩ := zF_ex
  rw [← eF]
  have key := zlpF eF (b := fun t => f_M_isShut_l2_b p t h) (o := fun t => f_M_isShut_l2_b_ok p t h) nl (by omega)
    (fun k s => s = nI k ∧ ¬ sht (h.2.1 115) (h.2.1 116) (h.2.1 117) k (p / 10) (zf h 92 23 / 8)) (fun r => (r.1 = 1 ∧ sht (h.2.1 115) (h.2.1 116) (h.2.1 117) nl (p / 10) (zf h 92 23 / 8)) ∨ (r.1 = 2 ∧ ¬ sht (h.2.1 115) (h.2.1 116) (h.2.1 117) nl (p / 10) (zf h 92 23 / 8))) 0 ⟨rfl, fun ⟨q, hq, _⟩ => by omega⟩
    (by
      rintro k s hk ⟨rfl, h2⟩
      have g0 : ¬ (zf h 92 37 ≤ nI k) := by rw [e2, nx_le (by omega) (by omega)]; omega
      have i10 : vp_in (nI k) 10 := vp_in_nI (by omega) (by omega)
      have next : ¬ (h.2.1 115 k = p / 10 ∧ ¬ zf h 92 23 / 8 < h.2.1 116 k ∧ ¬ h.2.1 117 k < zf h 92 23 / 8) → ¬ sht (h.2.1 115) (h.2.1 116) (h.2.1 117) (k + 1) (p / 10) (zf h 92 23 / 8) := fun nn ⟨q, q1, q2⟩ => by
        rcases (show q < k ∨ q = k by omega) with z | z
        · exact h2 ⟨q, z, q2⟩
        · subst z; exact nn q2
      refine ⟨⟨fun z => absurd z g0, fun _ => ⟨i10, fun _ => ⟨i10, i10⟩, fun _ => trivial⟩⟩, ?_⟩
      unfold f_M_isShut_l2_b f_M_isShut_l2_k50
      rw [if_neg g0, zr_n h 115 (by omega), zr_n h 116 (by omega), zr_n h 117 (by omega), ← nI_succ]
      by_cases c : zf h 115 k = p / 10
      · rw [if_pos c]
        by_cases d : ¬ zf h 92 23 / 8 < zf h 116 k ∧ ¬ zf h 117 k < zf h 92 23 / 8
        · rw [if_pos d]; exact Or.inr ⟨by simp, Or.inl ⟨rfl, k, hk, c, d.1, d.2⟩⟩
        · rw [if_neg d]; exact Or.inl ⟨rfl, rfl, next (fun z => d z.2)⟩
      · rw [if_neg c]; exact Or.inl ⟨rfl, rfl, next (fun z => c z.1)⟩)
    (by
      rintro s ⟨rfl, h2⟩
      have g0 : zf h 92 37 ≤ nI nl := by rw [e2]; exact i_le_r _
      refine ⟨⟨fun _ => trivial, fun z => absurd g0 z⟩, ?_⟩
      unfold f_M_isShut_l2_b
      rw [if_pos g0]
      exact ⟨by simp, Or.inr ⟨rfl, h2⟩⟩)
  obtain ⟨k1, k2⟩ := key
  have k1 : f_M_isShut_l2_ok p h F 0 := k1
  have k2 : ((f_M_isShut_l2 p h F 0).1 = 1 ∧ sht (h.2.1 115) (h.2.1 116) (h.2.1 117) nl (p / 10) (zf h 92 23 / 8)) ∨ ((f_M_isShut_l2 p h F 0).1 = 2 ∧ ¬ sht (h.2.1 115) (h.2.1 116) (h.2.1 117) nl (p / 10) (zf h 92 23 / 8)) := k2
  generalize f_M_isShut_l2 p h F 0 = R at k2
  refine ⟨⟨k1, fun _ => trivial, fun _ => trivial⟩, ?_⟩
  unfold f_M_isShut_a2 f_M_isShut_k48 f_M_isShut_k56
  rcases k2 with ⟨a, b⟩ | ⟨a, b⟩
  · rw [if_pos a]; exact ⟨fun z => absurd z (by decide), fun z => absurd b z⟩
  · rw [if_neg (by rw [a]; decide)]; exact ⟨fun _ => b, fun _ => rfl⟩
/-- the class LAYS -/
theorem ly_N {nr nt w : Nat} (hnr : nr ≤ 10) {h : zm_H} (et : zf h 0 0 = nI w) {g : GS} (G : gOK nr w w g) (L : rlN nr g h) (ent : nt = g.2.2.1) (hn : nt < 200) {r P : Nat} (hr : r < nr) (hP : P < 100 ∧ P % 10 < 5) {s : Int32} (hs : 10 ≤ s.toInt ∧ s.toInt ≤ 5000) (D : dbl g.1 5 r (nI P) = true) : f_Log_addThing_ok (zf h 0 0) 5 (nI r) (nI P) s h ∧ f_N_lay_k97_ok (f_Log_addThing (nI w) 5 (nI r) (nI P) s h) ∧ ∃ h', f_N_lay_k97 (f_Log_addThing (nI w) 5 (nI r) (nI P) s h) = (nI (nt + 1), h') ∧ zWr [27, 28, 29, 30, 31, 38, 39, 40, 43, 44, 45] [(23, 4), (37, 4)] h h' ∧ rlN nr (dot g.1 5 r (nI P) s, g.2.1, nt + 1, tad g.2.2.2 nt (nI w) 5 (nI r) (nI P) s) h' := by
  obtain ⟨X, U, nt', T⟩ := g
  dsimp only at ent D
  subst ent
  obtain ⟨r1, r2, r3, r4, r5⟩ := L
  dsimp only at r1 r2 r3 r4 r5
  have ok : thOK nr 5 r (nI P) s := ⟨hr, Or.inl ⟨rfl, ⟨P, hP.1, hP.2, rfl⟩, hs⟩⟩
  obtain ⟨a1, a2, a3, a4⟩ := adt_N (h := h) hn r5.2.1 (nI w) 5 (nI r) (nI P) s
  have J1 := J_ad hn r5 a3 a4 ok
  rw [et]
  unfold f_N_lay_k97_ok f_N_lay_k97
  generalize f_Log_addThing (nI w) 5 (nI r) (nI P) s h = h1 at a2 a3 a4 J1
  have t1 : zf h1 0 0 = nI w := (a2.fld 0 0 (by decide) (by decide)).trans et
  rw [t1]
  have v1 : vC 38 h1 = X := by rw [← r1]; exact vC_eq (fun i hi => a2.arr (38 + i) (by simp; omega) (by simp; omega))
  have k1 : zf h1 37 4 = nI nt := (a2.fld 37 4 (by decide) (by decide)).trans r3
  obtain ⟨b1, b2, b3, b4⟩ := dthJ_37 hnr J1 (by rw [v1]; exact G.1) (k := nt) (by omega) k1 (nI w)
  have row : ∀ i, i < 5 → tT h1 i nt = tad (tB h) nt (nI w) 5 (nI r) (nI P) s i nt := fun i hi => by
    rw [← a4]; unfold tB tT; rw [if_pos hi]
  have e0 : tT h1 0 nt = nI w := by rw [row 0 (by omega), tad_at]; simp
  have e1 : tT h1 1 nt = 5 := by rw [row 1 (by omega), tad_at]; simp
  have e2 : tT h1 2 nt = nI r := by rw [row 2 (by omega), tad_at]; simp
  have e3 : tT h1 3 nt = nI P := by rw [row 3 (by omega), tad_at]; simp
  have e4 : tT h1 4 nt = s := by rw [row 4 (by omega), tad_at]; simp
  rw [thn_one (by rw [e0]; exact i_le_r _)] at b3 b4
  have b4 : vC 38 (f_Course_doThings_37 (nI w) h1) = thS (tT h1) nt (vC 38 h1) := b4
  unfold thS at b4
  rw [e1, e2, e3, e4, v1, nI_c (by omega), if_pos D] at b4
  generalize f_Course_doThings_37 (nI w) h1 = h2 at b2 b3 b4
  have f4 : zf h2 23 4 = nI (nt + 1) := (b2.fld 23 4 (by decide) (by decide)).trans a3
  refine ⟨a1, b1, h2, by rw [f4], zWr_tr b2 (by decide) (by decide) (zWr_tr a2 (by decide) (by decide) (zWr.refl _ _)), b4, ?_, b3, ?_, J1.1, f4, fun k hk => ?_⟩
  · dsimp only
    rw [uN_eq (fun i hi => b2.arr (64 + i) (by simp; omega) (by simp; omega)), uN_eq (fun i hi => a2.arr (64 + i) (by simp; omega) (by simp; omega)), r2]
  · dsimp only
    rw [tB_eq (fun i hi => b2.arr (27 + i) (by simp; omega) (by simp; omega)), a4, r4]
  · rw [b2.arr 28 (by decide) (by decide), b2.arr 29 (by decide) (by decide), b2.arr 30 (by decide) (by decide), b2.arr 31 (by decide) (by decide)]
    exact J1.2.2 k hk
/-- the model LAYS -/
theorem ly_M {nr nt w : Nat} (hnr : nr ≤ 10) {h : zm_H} (et : zf h 92 23 = nI w) (e33 : zf h 92 33 = nI nr) {g : GS} (G : gOK nr w w g) (L : rlM g h) (ent : nt = g.2.2.1) (hn : nt < 200) {r P : Nat} (hr : r < nr) (hP : P < 100 ∧ P % 10 < 5) {s : Int32} : f_M_does_ok 0 0 (nI r) (nI P) s h ∧ f_M_lay_k59_ok (nI r) (nI P) s (f_M_does 0 0 (nI r) (nI P) s h).1 (f_M_does 0 0 (nI r) (nI P) s h).2 ∧ ((dbl g.1 5 r (nI P) = true ∧ ∃ h', f_M_lay_k59 (nI r) (nI P) s (f_M_does 0 0 (nI r) (nI P) s h).1 (f_M_does 0 0 (nI r) (nI P) s h).2 = (nI (nt + 1), h') ∧ zWr [118, 119, 120, 121, 122, 123, 124, 125, 128, 129, 130] [(92, 41)] h h' ∧ vM 1 h' = vM 1 h ∧ rlM (dot g.1 5 r (nI P) s, g.2.1, nt + 1, tad g.2.2.2 nt (nI w) 5 (nI r) (nI P) s) h') ∨ (¬ dbl g.1 5 r (nI P) = true ∧ ∃ h', f_M_lay_k59 (nI r) (nI P) s (f_M_does 0 0 (nI r) (nI P) s h).1 (f_M_does 0 0 (nI r) (nI P) s h).2 = (-1, h') ∧ zWr [123, 124, 125, 128, 129, 130] [] h h' ∧ vM 1 h' = vM 1 h ∧ rlM g h')) := by
  obtain ⟨X, U, nt', T⟩ := g
  dsimp only at ent ⊢
  subst ent
  obtain ⟨r1, r2, r3, r4, r5, r6⟩ := id L
  dsimp only at r1 r2 r3 r4 r5 r6
  have hkd : kdR 0 5 (nI P) (nI P) := Or.inl ⟨rfl, rfl, rfl⟩
  obtain ⟨d1, d2, d3, d4⟩ := ds_M (h := h) (L := 0) hnr e33 (by omega) (show r < 10 by omega) (s := s) hkd (fun _ => by rw [r1]; exact vOK_tk G.1 hP.1 hnr)
  have dw := f_M_does_w 0 0 (nI r) (nI P) s h
  rw [show nI 0 = (0 : Int32) from rfl] at d1 d2 d3 d4
  have d4 := d4 1 (by omega) (by omega)
  rw [r1] at d2 d3
  generalize f_M_does 0 0 (nI r) (nI P) s h = q at d2 d3 d4 dw
  obtain ⟨v, h2⟩ := q
  dsimp only at d2 d3 d4 dw ⊢
  have t2 : zf h2 92 23 = nI w := (dw.fld 92 23 (by decide) (by decide)).trans et
  obtain ⟨k1, k2, k3, k4, k5, k6, k7, k8⟩ := kp_M (h := h2) hn ((dw.fld 92 41 (by decide) (by decide)).trans r4) (nI w) 0 (nI r) (nI P) s
  unfold f_M_lay_k59_ok f_M_lay_k59
  rw [t2]
  refine ⟨d1, ⟨fun _ => trivial, fun _ => k1⟩, ?_⟩
  by_cases D : dbl X 5 r (nI P) = true
  · rw [if_pos D] at d2 d3
    have nv : ¬ v = 0 := by rw [d2]; decide
    rw [if_neg nv]
    generalize f_M_keeps (nI w) 0 (nI r) (nI P) s h2 = h3 at k2 k3 k4 k5 k6 k7 k8
    have vs : ∀ Q, vM Q h3 = vM Q h2 := fun Q => vM_eq (fun i hi => k2.arr i (by simp at hi ⊢; omega) (by simp at hi ⊢; omega)) (k2.2 127 (by decide)).2.1
    have w3 : zWr [118, 119, 120, 121, 122, 123, 124, 125, 128, 129, 130] [(92, 41)] h h3 := zWr_tr k2 (by decide) (by decide) (zWr_tr dw (by decide) (by decide) (zWr.refl _ _))
    obtain ⟨x0, x1, x2, x3, x4⟩ := tad_r T nt (nI w) 5 (nI r) (nI P) s
    refine Or.inl ⟨D, h3, by rw [k3], w3, by rw [vs, d4], by rw [vs]; exact d3, ?_, ?_, k3, ?_, ?_⟩
    · dsimp only
      rw [uM_eq (fun i hi => w3.arr i (by simp at hi ⊢; omega) (by simp at hi ⊢; omega)), r2]
    · exact mB_eq (fun i hi => w3.arr i (by simp at hi ⊢; omega) (by simp at hi ⊢; omega)) r3
    · dsimp only
      rw [x0, x2, x4, k4, k6, k8, dw.arr 118 (by decide) (by decide), dw.arr 120 (by decide) (by decide), dw.arr 122 (by decide) (by decide), r5.1, r5.2.1, r5.2.2]
      exact ⟨rfl, rfl, rfl⟩
    · intro k hk
      dsimp only at hk ⊢
      rw [x1, x3, k5, k7, dw.arr 119 (by decide) (by decide), dw.arr 121 (by decide) (by decide)]
      unfold upd
      by_cases y : k = nt
      · rw [if_pos y, if_pos y, if_pos y, if_pos y]; exact hkd
      · rw [if_neg y, if_neg y, if_neg y, if_neg y]; exact r6 k (by omega)
  · rw [if_neg D] at d2 d3
    rw [if_pos d2]
    refine Or.inr ⟨D, h2, rfl, zWr_tr dw (by decide) (by decide) (zWr.refl _ _), d4, d3, ?_, ?_, (dw.fld 92 41 (by decide) (by decide)).trans r4, ?_, ?_⟩
    · dsimp only
      rw [uM_eq (fun i hi => dw.arr i (by simp at hi ⊢; omega) (by simp)), r2]
    · exact mB_eq (fun i hi => dw.arr i (by simp at hi ⊢; omega) (by simp)) r3
    · dsimp only
      rw [dw.arr 118 (by decide) (by decide), dw.arr 120 (by decide) (by decide), dw.arr 122 (by decide) (by decide)]
      exact r5
    · intro k hk
      dsimp only at hk ⊢
      rw [dw.arr 119 (by decide) (by decide), dw.arr 121 (by decide) (by decide)]
      exact r6 k hk
