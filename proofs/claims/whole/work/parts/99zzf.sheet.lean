/-! ===== sheet: the class adds one ===== -/
theorem zmw_o {α : Type} {f : Nat → Nat → α} {i : Nat} {g : Nat → α} {a : Nat} (h : ¬ a = i) : zm_w f i g a = f a := by unfold zm_w; rw [if_neg h]
theorem zmw_i {α : Type} {f : Nat → Nat → α} {i : Nat} {g : Nat → α} : zm_w f i g i = g := by unfold zm_w; rw [if_pos rfl]
theorem ad_N {ns n : Nat} {B : Nat → Int32} {h : zm_H} {t : PSt} (hns : ns < 10) (e0 : zf h 15 0 = nI ns) (hn : n ≤ 400) (C : rpC B n h t) (hk : 165 ≤ h.1.length ∧ h.1.length < 1000000) :
    f_Rules_addSheet_ok h ∧ (f_Rules_addSheet h).1 = nI ns ∧ ∃ y, y = (f_Rules_addSheet h).2 ∧ y.1 = h.1 ++ [.inl (0, t.2.2.1)] ∧ (∀ i, i < h.1.length → ¬ i = 15 → ¬ i = 17 → ¬ i = 18 → y.2.1 i = h.2.1 i) ∧ (∀ i, i < h.1.length → ¬ i = 17 → ¬ i = 18 → y.2.2.1 i = h.2.2.1 i ∧ (¬ i = 16 → y.2.2.2 i = h.2.2.2 i)) ∧ (zf y 15 0 = nI (ns + 1) ∧ ∀ k, ¬ k = 0 → y.2.1 15 k = h.2.1 15 k) ∧ (∀ k, y.2.2.2 16 k = if k = ns then some h.1.length else h.2.2.2 16 k) ∧ (∀ k, y.2.1 17 k = if 4 * ns ≤ k ∧ k < 4 * ns + 4 then h.2.1 13 (k - 4 * ns) else h.2.1 17 k) ∧ (∀ k, y.2.1 18 k = if 4 * ns ≤ k ∧ k < 4 * ns + 4 then h.2.1 14 (k - 4 * ns) else h.2.1 18 k) ∧ ∀ k, k < t.2.2.1 → y.2.1 h.1.length k = h.2.1 12 k := by
  obtain ⟨R, ⟨-, hc⟩, -, -⟩ := C
  have hc4 : t.2.2.1 < 400 := by have := R.2.2.1; omega
  obtain ⟨c, ec⟩ : ∃ c, c = t.2.2.1 := ⟨_, rfl⟩
  have e8 : zf h 10 10 = nI c := by rw [ec]; exact R.2.2.2.2.1
  rw [← ec] at hc4 ⊢
  obtain ⟨r0, er0⟩ : ∃ r0, r0 = h.1.length := ⟨_, rfl⟩
  rw [← er0] at hk ⊢
  have n400 : ¬ nI c = Int32.ofNat 400 := fun z => by
    have := nI_inj (by omega) (by omega) (z.trans (show Int32.ofNat 400 = nI 400 from rfl)); omega
  have lt : nI c < Int32.ofNat 400 := by rw [show Int32.ofNat 400 = nI 400 from rfl, i_lt, i_nI (by omega), i_nI (by omega)]; omega
  obtain ⟨y0, ey0⟩ : ∃ y0, y0 = znw h (nI c) := ⟨_, rfl⟩
  have y0k : y0.1 = h.1 ++ [.inl (0, c)] := by rw [ey0]; unfold znw zm_nx; rw [nI_c (by omega)]
  have y0r : y0.1[r0]? = some (.inl (0, c)) := by rw [y0k, er0]; simp
  obtain ⟨y1, ey1⟩ : ∃ y1, y1 = zcp y0 12 0 r0 0 (nI c) := ⟨_, rfl⟩
  have y1k : y1.1 = h.1 ++ [.inl (0, c)] := by rw [ey1]; exact y0k
  have y1a : ∀ i, ¬ i = r0 → y1.2.1 i = h.2.1 i := fun i hi => by
    rw [ey1]
    show zm_w y0.2.1 r0 _ i = _
    rw [zmw_o hi, ey0]
    show zm_w h.2.1 h.1.length _ i = _
    rw [zmw_o (by omega)]
  have y1l : ∀ i, ¬ i = r0 → y1.2.2.1 i = h.2.2.1 i ∧ y1.2.2.2 i = h.2.2.2 i := fun i hi => by
    rw [ey1]
    show y0.2.2.1 i = _ ∧ y0.2.2.2 i = _
    rw [ey0]
    show zm_w h.2.2.1 h.1.length _ i = _ ∧ zm_w h.2.2.2 h.1.length _ i = _
    rw [zmw_o (by omega), zmw_o (by omega)]
    exact ⟨rfl, rfl⟩
  have y1c : ∀ k, k < c → y1.2.1 r0 k = h.2.1 12 k := fun k hk' => by
    rw [ey1]
    show zm_w y0.2.1 r0 (va_cpy (y0.2.1 12) (y0.2.1 r0) (0 : Int32).toNatClampNeg (0 : Int32).toNatClampNeg (nI c).toNatClampNeg) r0 k = _
    rw [zmw_i, nI_c (by omega)]
    unfold va_cpy
    rw [show (0 : Int32).toNatClampNeg = 0 from rfl, if_pos (by omega), ey0]
    show zm_w h.2.1 h.1.length _ 12 (0 + (k - 0)) = _
    rw [zmw_o (by omega), show 0 + (k - 0) = k by omega]
  obtain ⟨y2, ey2⟩ : ∃ y2, y2 = zsr y1 16 (nI ns) r0 := ⟨_, rfl⟩
  have y2k : y2.1 = h.1 ++ [.inl (0, c)] := by rw [ey2]; exact y1k
  have y2a : y2.2.1 = y1.2.1 := by rw [ey2]; rfl
  have y2l : y2.2.2.1 = y1.2.2.1 := by rw [ey2]; rfl
  have y2r : y2.2.2.2 = zm_u y1.2.2.2 16 ns (some r0) := by
    rw [ey2]; show zm_u y1.2.2.2 16 (nI ns).toNatClampNeg (some r0) = _
    rw [nI_c (by omega)]
  have y15 : zf y2 15 0 = nI ns := by show y2.2.1 15 0 = _; rw [y2a, y1a 15 (by omega)]; exact e0
  have h13 : y2.2.1 13 = h.2.1 13 := by rw [y2a, y1a 13 (by omega)]
  have h14 : y2.2.1 14 = h.2.1 14 := by rw [y2a, y1a 14 (by omega)]
  unfold f_Rules_addSheet_ok f_Rules_addSheet f_Arrays_copyOf_12_ok f_Arrays_copyOf_12
  rw [e8, if_neg n400, e0, if_pos lt, ← er0, ← ey0, ← ey1]
  dsimp only
  unfold f_Rules_addSheet_k19_ok f_Rules_addSheet_k19
  rw [← ey2]
  obtain ⟨F, eF, -⟩ := zF_ex
  rw [← eF]
  have key := zlp_k eF (b := fun q => f_Rules_addSheet_l22_b q.1 q.2) (o := fun q => f_Rules_addSheet_l22_b_ok q.1 q.2) 4 (by omega) 0
    (fun k x => zWr [17, 18] [] y2 x ∧ (∀ i, x.2.1 17 i = if 4 * ns ≤ i ∧ i < 4 * ns + k then h.2.1 13 (i - 4 * ns) else h.2.1 17 i) ∧ ∀ i, x.2.1 18 i = if 4 * ns ≤ i ∧ i < 4 * ns + k then h.2.1 14 (i - 4 * ns) else h.2.1 18 i) y2
    ⟨zWr.refl _ _, fun i => by rw [if_neg (by omega), y2a, y1a 17 (by omega)], fun i => by rw [if_neg (by omega), y2a, y1a 18 (by omega)]⟩
    (by
      rintro k x hk' ⟨r1, r2, r3⟩
      rw [Nat.zero_add]
      have g0 : ¬ ((4 : Int32) ≤ nI k) := by rw [show (4 : Int32) = nI 4 from rfl, nx_le (by omega) (by omega)]; omega
      have x15 : zf x 15 0 = nI ns := (r1.fld 15 0 (by decide) (by decide)).trans y15
      have ix : nI ns * 4 + nI k = nI (4 * ns + k) := by rw [show (4 : Int32) = nI 4 from rfl, pk_mul, nI_add, Nat.mul_comm]
      have i4 : vp_in (nI k) 4 := vp_in_nI hk' (by omega)
      have i40 : vp_in (nI (4 * ns + k)) 40 := vp_in_nI (by omega) (by omega)
      have x13 : zr x 13 (nI k) = h.2.1 13 k := by rw [zr_n x 13 (by omega), zf, r1.arr 13 (by decide) (by decide), h13]
      have x14 : zr x 14 (nI k) = h.2.1 14 k := by rw [zr_n x 14 (by omega), zf, r1.arr 14 (by decide) (by decide), h14]
      dsimp only
      unfold f_Rules_addSheet_l22_b f_Rules_addSheet_l22_b_ok
      rw [if_neg g0, x15, ix, x13, x14, zs_n _ 17 _ (by omega), zs_n _ 18 _ (by omega), ← nI_succ]
      refine ⟨⟨fun z => absurd z g0, fun _ => ⟨i4, i40, i4, i40⟩⟩, _, rfl, zWr_si (by decide) (zWr_si (by decide) r1), fun i => ?_, fun i => ?_⟩
      · rw [zf_si, if_neg (by decide), zf_si, if_pos rfl, r2]
        by_cases z : i = 4 * ns + k
        · rw [if_pos z, if_pos (by omega), z, show 4 * ns + k - 4 * ns = k by omega]
        · rw [if_neg z]
          by_cases z2 : 4 * ns ≤ i ∧ i < 4 * ns + k
          · rw [if_pos z2, if_pos (by omega)]
          · rw [if_neg z2, if_neg (by omega)]
      · by_cases z : i = 4 * ns + k
        · rw [zf_si, if_pos rfl, if_pos z, if_pos (by omega), z, show 4 * ns + k - 4 * ns = k by omega]
        · rw [zf_si, if_pos rfl, if_neg z, zf_si, if_neg (by decide), r3]
          by_cases z2 : 4 * ns ≤ i ∧ i < 4 * ns + k
          · rw [if_pos z2, if_pos (by omega)]
          · rw [if_neg z2, if_neg (by omega)])
    (by
      rintro x ⟨r1, r2, r3⟩
      rw [Nat.zero_add]
      have g0 : (4 : Int32) ≤ nI 4 := by decide
      dsimp only
      unfold f_Rules_addSheet_l22_b f_Rules_addSheet_l22_b_ok
      rw [if_pos g0]
      exact ⟨⟨fun _ => trivial, fun z => absurd g0 z⟩, rfl⟩)
  obtain ⟨k1, x, k2, k3, k4, k5⟩ := key
  have k2 : f_Rules_addSheet_l22 F (0, y2) = (1, nI (0 + 4), x) := k2
  rw [k2]
  unfold f_Rules_addSheet_a22 f_Rules_addSheet_k71
  dsimp only
  have x15 : zf x 15 0 = nI ns := (k3.fld 15 0 (by decide) (by decide)).trans y15
  rw [x15]
  have e1 : nI ns + 1 - 1 = nI ns := by rw [← nI_succ, show (1 : Int32) = nI 1 from rfl, pk_sub (by omega), show ns + 1 - 1 = ns by omega]
  rw [e1, ← nI_succ]
  have zl : zln y0 r0 = c := by unfold zln; rw [y0r]
  have w3 : zWr [17, 18] [(15, 0)] y2 (zp x 15 0 (nI (ns + 1))) := zWr_p (by decide) (zWr_tr k3 (by decide) (by decide) (zWr.refl _ _))
  refine ⟨⟨⟨fun z => absurd z n400, fun _ => ⟨⟨by omega, ?_, ?_⟩, ?_, by decide, by decide, ?_, ?_, ?_⟩⟩, ⟨vp_in_nI hns (by omega), ?_⟩, k1, trivial⟩, rfl, _, rfl, ?_, fun i h1 h2 h3 h4 => ?_, fun i h1 h3 h4 => ⟨?_, fun h2 => ?_⟩, ⟨zm_in _ _ _ _, fun k hk0 => ?_⟩, fun k => ?_, fun k => ?_, fun k => ?_, fun k hk' => ?_⟩
  · rw [i_le, i_nI (by omega), i_0]; omega
  · rw [show (10000 : Int32) = nI 10000 from rfl, nx_le (by omega) (by omega)]; omega
  · unfold zia; rw [zl]; exact y0r
  · rw [i_lt, i_nI (by omega), i_0]; omega
  · rw [show Int32.toNatClampNeg 0 = 0 from rfl, nI_c (by omega)]; omega
  · rw [show Int32.toNatClampNeg 0 = 0 from rfl, nI_c (by omega), zl]; omega
  · unfold zm_isA
    rw [y1k, er0]
    simp
  · exact (w3.1).trans y2k
  · rw [w3.arr i (by simp; omega) (by simp; omega), y2a, y1a i (by omega)]
  · rw [(w3.2 i (by simp; omega)).2.1, y2l]; exact (y1l i (by omega)).1
  · rw [(w3.2 i (by simp; omega)).2.2, y2r]
    have : zm_u y1.2.2.2 16 ns (some r0) i = y1.2.2.2 i := by unfold zm_u; rw [if_neg h2]
    rw [this]; exact (y1l i (by omega)).2
  · rw [w3.fld 15 k (by decide) (by simp; exact hk0), y2a, y1a 15 (by omega)]
  · rw [(w3.2 16 (by decide)).2.2, y2r, zu_at, if_pos rfl, (y1l 16 (by omega)).2]
  · show (zm_si x 15 0 _).2.1 17 k = _
    rw [zf_si, if_neg (by decide), k4]
  · show (zm_si x 15 0 _).2.1 18 k = _
    rw [zf_si, if_neg (by decide), k5]
  · rw [w3.arr r0 (by simp; omega) (by simp; omega), y2a]; exact y1c k hk'
