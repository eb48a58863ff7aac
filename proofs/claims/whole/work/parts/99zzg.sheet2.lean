/-! ===== sheet: the model adds one; both ===== -/
theorem cp_M {ns n : Nat} {B : Nat → Int32} {x : zm_H} {t : PSt} (hns : ns < 10) (e15 : zf x 92 15 = nI ns) (hc : t.2.2.1 ≤ 400) (Q : rq B n x [] t) : f_M_sheet_l21_ok zF (0, x) ∧ f_M_sheet_a21_ok (f_M_sheet_l21 zF (0, x)) ∧ ∃ x', f_M_sheet_a21 (f_M_sheet_l21 zF (0, x)) = (nI ns, x') ∧ zWr [99, 100, 101, 102] [(92, 1), (92, 15)] x x' ∧ zf x' 92 1 = 0 ∧ zf x' 92 15 = nI (ns + 1) ∧ (∀ k, x'.2.1 99 k = if 400 * ns ≤ k ∧ k < 400 * ns + t.2.2.1 then t.2.2.2.1 (k - 400 * ns) else x.2.1 99 k) ∧ (∀ k, x'.2.1 100 k = if 400 * ns ≤ k ∧ k < 400 * ns + t.2.2.1 then t.2.2.2.2.1 (k - 400 * ns) else x.2.1 100 k) ∧ (∀ k, x'.2.1 101 k = if 4 * ns ≤ k ∧ k < 4 * ns + 4 then t.2.2.2.2.2.1 (k - 4 * ns) else x.2.1 101 k) ∧ ∀ k, x'.2.1 102 k = if 4 * ns ≤ k ∧ k < 4 * ns + 4 then t.2.2.2.2.2.2.1 (k - 4 * ns) else x.2.1 102 k := by
  obtain ⟨-, -, -, q2, q3, q4, q5, q6⟩ := Q
  obtain ⟨c, ec⟩ : ∃ c, c = t.2.2.1 := ⟨_, rfl⟩
  rw [← ec] at q2 hc ⊢
  obtain ⟨F, eF, -⟩ := zF_ex
  rw [← eF]
  have key := zlp_k eF (b := fun q => f_M_sheet_l21_b q.1 q.2) (o := fun q => f_M_sheet_l21_b_ok q.1 q.2) c (by omega) 0
    (fun j y => zWr [99, 100] [] x y ∧ (∀ k, y.2.1 99 k = if 400 * ns ≤ k ∧ k < 400 * ns + j then t.2.2.2.1 (k - 400 * ns) else x.2.1 99 k) ∧ ∀ k, y.2.1 100 k = if 400 * ns ≤ k ∧ k < 400 * ns + j then t.2.2.2.2.1 (k - 400 * ns) else x.2.1 100 k) x
    ⟨zWr.refl _ _, fun k => by rw [if_neg (by omega)], fun k => by rw [if_neg (by omega)]⟩
    (by
      rintro j y hj ⟨r1, r2, r3⟩
      rw [Nat.zero_add]
      have y12 : zf y 92 12 = nI c := (r1.fld 92 12 (by decide) (by decide)).trans q2
      have g0 : ¬ (nI c ≤ nI j) := by rw [nx_le (by omega) (by omega)]; omega
      have y15 : zf y 92 15 = nI ns := (r1.fld 92 15 (by decide) (by decide)).trans e15
      have ix : 400 * nI ns + nI j = nI (400 * ns + j) := by rw [show (400 : Int32) = nI 400 from rfl, pk_mul, nI_add]
      have i4 : vp_in (nI j) 400 := vp_in_nI (by omega) (by omega)
      have i40 : vp_in (nI (400 * ns + j)) 4000 := vp_in_nI (by omega) (by omega)
      have y95 : zr y 95 (nI j) = t.2.2.2.1 j := by rw [zr_n y 95 (by omega), zf, r1.arr 95 (by decide) (by decide), q3]
      have y96 : zr y 96 (nI j) = t.2.2.2.2.1 j := by rw [zr_n y 96 (by omega), zf, r1.arr 96 (by decide) (by decide), q4]
      dsimp only
      unfold f_M_sheet_l21_b f_M_sheet_l21_b_ok
      rw [y12, if_neg g0, y15, ix, y95, y96, zs_n _ 99 _ (by omega), zs_n _ 100 _ (by omega), ← nI_succ]
      refine ⟨⟨fun z => absurd z g0, fun _ => ⟨i4, i40, i4, i40⟩⟩, _, rfl, zWr_si (by decide) (zWr_si (by decide) r1), fun i => ?_, fun i => ?_⟩
      · by_cases z : i = 400 * ns + j
        · rw [zf_si, if_neg (by decide), zf_si, if_pos rfl, if_pos z, if_pos (by omega), z, show 400 * ns + j - 400 * ns = j by omega]
        · rw [zf_si, if_neg (by decide), zf_si, if_pos rfl, if_neg z, r2]
          by_cases z2 : 400 * ns ≤ i ∧ i < 400 * ns + j
          · rw [if_pos z2, if_pos (by omega)]
          · rw [if_neg z2, if_neg (by omega)]
      · by_cases z : i = 400 * ns + j
        · rw [zf_si, if_pos rfl, if_pos z, if_pos (by omega), z, show 400 * ns + j - 400 * ns = j by omega]
        · rw [zf_si, if_pos rfl, if_neg z, zf_si, if_neg (by decide), r3]
          by_cases z2 : 400 * ns ≤ i ∧ i < 400 * ns + j
          · rw [if_pos z2, if_pos (by omega)]
          · rw [if_neg z2, if_neg (by omega)])
    (by
      rintro y ⟨r1, r2, r3⟩
      rw [Nat.zero_add]
      have y12 : zf y 92 12 = nI c := (r1.fld 92 12 (by decide) (by decide)).trans q2
      have g0 : nI c ≤ nI c := i_le_r _
      dsimp only
      unfold f_M_sheet_l21_b f_M_sheet_l21_b_ok
      rw [y12, if_pos g0]
      exact ⟨⟨fun _ => trivial, fun z => absurd g0 z⟩, rfl⟩)
  obtain ⟨k1, y, k2, k3, k4, k5⟩ := key
  have k2 : f_M_sheet_l21 F (0, x) = (1, nI (0 + c), y) := k2
  rw [k2]
  unfold f_M_sheet_a21_ok f_M_sheet_a21 f_M_sheet_k77_ok f_M_sheet_k77
  dsimp only
  rw [← eF]
  have key := zlp_k eF (b := fun q => f_M_sheet_l79_b q.1 q.2) (o := fun q => f_M_sheet_l79_b_ok q.1 q.2) 4 (by omega) 0
    (fun j z => zWr [101, 102] [] y z ∧ (∀ k, z.2.1 101 k = if 4 * ns ≤ k ∧ k < 4 * ns + j then t.2.2.2.2.2.1 (k - 4 * ns) else x.2.1 101 k) ∧ ∀ k, z.2.1 102 k = if 4 * ns ≤ k ∧ k < 4 * ns + j then t.2.2.2.2.2.2.1 (k - 4 * ns) else x.2.1 102 k) y
    ⟨zWr.refl _ _, fun k => by rw [if_neg (by omega), k3.arr 101 (by decide) (by decide)], fun k => by rw [if_neg (by omega), k3.arr 102 (by decide) (by decide)]⟩
    (by
      rintro j z hj ⟨r1, r2, r3⟩
      rw [Nat.zero_add]
      have g0 : ¬ ((4 : Int32) ≤ nI j) := by rw [show (4 : Int32) = nI 4 from rfl, nx_le (by omega) (by omega)]; omega
      have y15 : zf z 92 15 = nI ns := (r1.fld 92 15 (by decide) (by decide)).trans ((k3.fld 92 15 (by decide) (by decide)).trans e15)
      have ix : 4 * nI ns + nI j = nI (4 * ns + j) := by rw [show (4 : Int32) = nI 4 from rfl, pk_mul, nI_add]
      have i4 : vp_in (nI j) 4 := vp_in_nI (by omega) (by omega)
      have i40 : vp_in (nI (4 * ns + j)) 40 := vp_in_nI (by omega) (by omega)
      have y97 : zr z 97 (nI j) = t.2.2.2.2.2.1 j := by rw [zr_n z 97 (by omega), zf, r1.arr 97 (by decide) (by decide), k3.arr 97 (by decide) (by decide), q5]
      have y98 : zr z 98 (nI j) = t.2.2.2.2.2.2.1 j := by rw [zr_n z 98 (by omega), zf, r1.arr 98 (by decide) (by decide), k3.arr 98 (by decide) (by decide), q6]
      dsimp only
      unfold f_M_sheet_l79_b f_M_sheet_l79_b_ok
      rw [if_neg g0, y15, ix, y97, y98, zs_n _ 101 _ (by omega), zs_n _ 102 _ (by omega), ← nI_succ]
      refine ⟨⟨fun z => absurd z g0, fun _ => ⟨i4, i40, i4, i40⟩⟩, _, rfl, zWr_si (by decide) (zWr_si (by decide) r1), fun i => ?_, fun i => ?_⟩
      · by_cases v : i = 4 * ns + j
        · rw [zf_si, if_neg (by decide), zf_si, if_pos rfl, if_pos v, if_pos (by omega), v, show 4 * ns + j - 4 * ns = j by omega]
        · rw [zf_si, if_neg (by decide), zf_si, if_pos rfl, if_neg v, r2]
          by_cases z2 : 4 * ns ≤ i ∧ i < 4 * ns + j
          · rw [if_pos z2, if_pos (by omega)]
          · rw [if_neg z2, if_neg (by omega)]
      · by_cases v : i = 4 * ns + j
        · rw [zf_si, if_pos rfl, if_pos v, if_pos (by omega), v, show 4 * ns + j - 4 * ns = j by omega]
        · rw [zf_si, if_pos rfl, if_neg v, zf_si, if_neg (by decide), r3]
          by_cases z2 : 4 * ns ≤ i ∧ i < 4 * ns + j
          · rw [if_pos z2, if_pos (by omega)]
          · rw [if_neg z2, if_neg (by omega)])
    (by
      rintro z ⟨r1, r2, r3⟩
      rw [Nat.zero_add]
      have g0 : (4 : Int32) ≤ nI 4 := i_le_r _
      dsimp only
      unfold f_M_sheet_l79_b f_M_sheet_l79_b_ok
      rw [if_pos g0]
      exact ⟨⟨fun _ => trivial, fun z => absurd g0 z⟩, rfl⟩)
  obtain ⟨m1, z, m2, m3, m4, m5⟩ := key
  have m2 : f_M_sheet_l79 F (0, y) = (1, nI (0 + 4), z) := m2
  rw [m2]
  unfold f_M_sheet_a79 f_M_sheet_k128
  dsimp only
  have z15 : zf z 92 15 = nI ns := (m3.fld 92 15 (by decide) (by decide)).trans ((k3.fld 92 15 (by decide) (by decide)).trans e15)
  have e1 : nI ns + 1 - 1 = nI ns := by rw [← nI_succ, show (1 : Int32) = nI 1 from rfl, pk_sub (by omega), show ns + 1 - 1 = ns by omega]
  rw [z15, e1, ← nI_succ]
  obtain ⟨x', ex'⟩ : ∃ x', x' = zp (zp z 92 1 0) 92 15 (nI (ns + 1)) := ⟨_, rfl⟩
  have wx : zWr [] [(92, 1), (92, 15)] z x' := by rw [ex']; exact zWr_p (by decide) (zWr_p (by decide) (zWr.refl _ _))
  rw [← ex']
  refine ⟨k1, ⟨m1, trivial⟩, x', rfl, zWr_tr wx (by decide) (by decide) (zWr_tr m3 (by decide) (by decide) (zWr_tr k3 (by decide) (by decide) (zWr.refl _ _))), ?_, by rw [ex']; exact zm_in _ _ _ _, fun k => ?_, fun k => ?_, fun k => ?_, fun k => ?_⟩
  · rw [ex']; show (zm_si (zm_si z 92 1 0) 92 15 _).2.1 92 1 = _
    rw [zf_si, if_pos rfl, if_neg (by decide)]; exact zm_in _ _ _ _
  · rw [wx.arr 99 (by decide) (by decide), m3.arr 99 (by decide) (by decide)]; exact k4 k
  · rw [wx.arr 100 (by decide) (by decide), m3.arr 100 (by decide) (by decide)]; exact k5 k
  · rw [wx.arr 101 (by decide) (by decide)]; exact m4 k
  · rw [wx.arr 102 (by decide) (by decide)]; exact m5 k
theorem stk_x {W V W' V' nm : Nat → Int32} {b : Nat} : ∀ j, (∀ i, i < b + j → W' i = W i ∧ V' i = V i) → stk W' V' nm b j = stk W V nm b j := by
  intro j
  induction j with
  | zero => intro _; rfl
  | succ j ih =>
    intro h
    rw [stk, stk, ih (fun i hi => h i (by omega)), (h (b + j) (by omega)).1, (h (b + j) (by omega)).2]
theorem inf_x {fs ff sb fs' ff' sb' : Nat → Int32} {c : Nat} {t : Int32} : ∀ k, (∀ i, i < k → fs' i = fs i ∧ ff' i = ff i ∧ sb' (4 * (fs i).toNatClampNeg + c) = sb (4 * (fs i).toNatClampNeg + c)) → inf fs' ff' sb' c t k = inf fs ff sb c t k := by
  intro k
  induction k with
  | zero => intro _; rfl
  | succ k ih =>
    intro h
    rw [inf, inf, ih (fun i hi => h i (by omega)), (h k (by omega)).1, (h k (by omega)).2.1, (h k (by omega)).2.2]
/-- SHEETS that were there say what they said -/
theorem Ev_x {ns nf : Nat} {h h' : zm_H} (H : I_rl ns nf h) (e103 : h'.2.1 103 = h.2.1 103) (e104 : h'.2.1 104 = h.2.1 104) (e1 : ∀ i, i < 4 * ns → h'.2.1 101 i = h.2.1 101 i ∧ h'.2.1 102 i = h.2.1 102 i) (e2 : ∀ i, i < 400 * ns → h'.2.1 99 i = h.2.1 99 i ∧ h'.2.1 100 i = h.2.1 100 i) {c : Nat} (hc : c < 4) (t : Int32) (nm : Nat → Int32) : Ev nf h' c t nm = Ev nf h c t nm := by
  have hf := H.1.2.2.2
  have ei : inf (h'.2.1 103) (h'.2.1 104) (h'.2.1 101) c t nf = inf (h.2.1 103) (h.2.1 104) (h.2.1 101) c t nf := by
    refine inf_x nf (fun i hi => ⟨by rw [e103], by rw [e104], ?_⟩)
    obtain ⟨⟨s, s1, s2⟩, -⟩ := hf i hi
    rw [s2, nI_c (by have := H.1.1.1; omega)]
    exact (e1 _ (by omega)).1
  unfold Ev
  rw [ei]
  rcases inf_rng H.1 c t nf (Nat.le_refl _) with z | ⟨s, u, s1, -, z, z2⟩
  · rw [z, if_pos rfl, if_pos rfl]
  · have n10 := H.1.1.1
    rw [z]
    dsimp only
    rw [if_neg (nI_nm1 (by omega)), if_neg (nI_nm1 (by omega)), nI_c (by omega)]
    unfold evC evv
    obtain ⟨b, e, q1, q2, q3, -⟩ := H.2 s c s1 hc z2
    rw [(e1 (4 * s + c) (by omega)).1, (e1 (4 * s + c) (by omega)).2, q2, q3]
    rw [nI_c (show e < 2147483648 by omega)]
    have hb : (nI b).toNatClampNeg + (e - (nI b).toNatClampNeg) ≤ e ∨ e < (nI b).toNatClampNeg := by omega
    rcases hb with hb | hb
    · rw [stk_x _ (fun i hi => e2 (400 * s + i) (by omega))]
    · rw [show e - (nI b).toNatClampNeg = 0 by omega]
      rfl
def I_kd (ns : Nat) (h : zm_H) : Prop := 165 ≤ h.1.length ∧ h.1.length ≤ 165 + ns
/-- what a SHEET leaves as it was -/
def zSk (h h' : zm_H) : Prop := (∀ i, i < 162 → ¬ i ∈ [10, 12, 13, 14, 15, 17, 18, 92, 94, 95, 96, 97, 98, 99, 100, 101, 102] → h'.2.1 i = h.2.1 i) ∧ (∀ i, i < 162 → ¬ i ∈ [12, 13, 14, 17, 18, 94, 95, 96, 97, 98, 99, 100, 101, 102] → h'.2.2.1 i = h.2.2.1 i) ∧ ∀ k, ¬ k ∈ [1, 2, 3, 4, 5, 7, 8, 9, 12, 15] → h'.2.1 92 k = h.2.1 92 k
