/-! ===== KNOWN, the model's side ===== -/
theorem zm_in (h : zm_H) (i k : Nat) (v : Int32) : (zm_si h i k v).2.1 i k = v := by rw [zf_si, if_pos rfl, if_pos rfl]
theorem lk_in {w n d : Nat} {h : zm_H} (H : I_sw w n d h) (v1 : Int32) {a sp : Nat} : f_M_looks_l18_l38_ok v1 (nI a) (nI sp) h zF (nI n - 1) ∧ (f_M_looks_l18_l38 v1 (nI a) (nI sp) h zF (nI n - 1)).2 = lst (h.2.1 105) (nI sp) (ft (h.2.1 107) (nI a) n) := by
  obtain ⟨⟨hn, -⟩, hR, -, -, hm, -⟩ := H
  have hm' : ∀ j k, j ≤ k → k < n → h.2.1 107 j ≤ h.2.1 107 k := hm
  have hft := ft_le (h.2.1 107) (nI a) n
  have key := zlp (b := fun t => f_M_looks_l18_l38_b v1 (nI a) (nI sp) t h) (o := fun t => f_M_looks_l18_l38_b_ok v1 (nI a) (nI sp) t h) n (by omega)
    (fun k s => k ≤ n ∧ s = nI (n - k) - 1 ∧ lst (h.2.1 105) (nI sp) (ft (h.2.1 107) (nI a) n) = lst (h.2.1 105) (nI sp) (min (ft (h.2.1 107) (nI a) n) (n - k)))
    (fun r => r.2 = lst (h.2.1 105) (nI sp) (ft (h.2.1 107) (nI a) n)) (nI n - 1) ⟨by omega, rfl, by rw [show min (ft (h.2.1 107) (nI a) n) (n - 0) = ft (h.2.1 107) (nI a) n by omega]⟩
    (by
      rintro k s hk ⟨-, h1, h2⟩
      obtain ⟨i, hi⟩ : ∃ i, n - k = i + 1 := ⟨n - k - 1, by omega⟩
      rw [hi] at h1 h2
      rw [nI_pred] at h1
      subst h1
      have g0 : ¬ (nI i < 0) := by rw [i_lt, i_nI (by omega)]; show ¬ (i : Int) < 0; omega
      have hin : vp_in (nI i) 400 := vp_in_nI (by omega) (by omega)
      refine ⟨⟨fun z => absurd z g0, fun _ => ⟨hin, fun _ => hin, fun _ => trivial⟩⟩, ?_⟩
      have nx : n - (k + 1) = i := by omega
      have go : nI i + (-1) = nI i - 1 := by rw [i_eq, i_add (by rw [i_nI (by omega), i_m1]; omega) (by rw [i_nI (by omega), i_m1]; omega), i_sub (by rw [i_nI (by omega), i_1]; omega) (by rw [i_nI (by omega), i_1]; omega), i_m1, i_1]; omega
      unfold f_M_looks_l18_l38_b f_M_looks_l18_l38_k65
      rw [if_neg g0]
      rw [zr_n h 105 (by omega), zr_n h 107 (by omega)]
      have hit := ft_iff (a := nI a) hm' (show i < n by omega)
      by_cases c1 : zf h 105 i = nI sp
      · rw [if_pos c1]
        by_cases c2 : zf h 107 i ≤ nI a
        · right
          rw [if_pos c2]
          refine ⟨by simp, ?_⟩
          have := hit.mp c2
          rw [h2, show min (ft (h.2.1 107) (nI a) n) (i + 1) = i + 1 by omega, lst, if_pos (show h.2.1 105 i = nI sp from c1)]
        · left
          rw [if_neg c2]
          have : ¬ i < ft (h.2.1 107) (nI a) n := fun z => c2 (hit.mpr z)
          refine ⟨rfl, by omega, ?_, ?_⟩
          · rw [nx]; dsimp only; exact go
          · rw [h2, nx, show min (ft (h.2.1 107) (nI a) n) (i + 1) = min (ft (h.2.1 107) (nI a) n) i by omega]
      · left
        rw [if_neg c1]
        refine ⟨rfl, by omega, ?_, ?_⟩
        · rw [nx]; dsimp only; exact go
        · rw [h2, nx]
          by_cases c3 : i + 1 ≤ ft (h.2.1 107) (nI a) n
          · rw [show min (ft (h.2.1 107) (nI a) n) (i + 1) = i + 1 by omega, lst, if_neg (show ¬ h.2.1 105 i = nI sp from c1), show min (ft (h.2.1 107) (nI a) n) i = i by omega]
          · rw [show min (ft (h.2.1 107) (nI a) n) (i + 1) = min (ft (h.2.1 107) (nI a) n) i by omega])
    (by
      rintro s ⟨-, h1, h2⟩
      rw [show n - n = 0 by omega] at h1 h2
      have e : s = -1 := by rw [h1]; rfl
      subst e
      refine ⟨⟨fun _ => trivial, fun z => absurd (by decide) z⟩, ?_⟩
      unfold f_M_looks_l18_l38_b
      rw [if_pos (by decide)]
      refine ⟨by simp, ?_⟩
      rw [h2, show min (ft (h.2.1 107) (nI a) n) 0 = 0 by omega]
      rfl)
  exact ⟨key.1, key.2⟩
/-- the three numbers of the sea that stand in the model -/
def isSea (h : zm_H) (s : Int32) : Prop := zf h 92 79 = s / 1000 ∧ zf h 92 80 = zm_rm s 1000 / 10 ∧ zf h 92 81 = zm_rm s 10 - 1
theorem I_sw_fr {w n d : Nat} {h h' : zm_H} (H : I_sw w n d h) (e1 : zf h' 1 0 = zf h 1 0) (e2 : zf h' 92 24 = zf h 92 24) (e3 : zf h' 1 1 = zf h 1 1) (e4 : zf h' 92 28 = zf h 92 28) (ea : ∀ i, i ∈ [2, 3, 4, 5, 6, 7, 8, 9, 105, 106, 107, 108, 109, 110, 111] → h'.2.1 i = h.2.1 i) : I_sw w n d h' := by
  unfold I_sw zf at *
  rw [e1, e2, e3, e4, ea 2 (by decide), ea 3 (by decide), ea 4 (by decide), ea 5 (by decide), ea 6 (by decide), ea 7 (by decide), ea 8 (by decide), ea 9 (by decide), ea 105 (by decide), ea 106 (by decide), ea 107 (by decide), ea 108 (by decide), ea 109 (by decide), ea 110 (by decide), ea 111 (by decide)]
  exact H
theorem dsm_skip {a b c g : Nat → Int32} {s x as : Int32} {d e : Nat} (he : e ≤ d) (hg : ∀ k, k < d → (g k ≤ as ↔ k < e)) : ∀ m, m ≤ d → (∀ k, k < d → c k + 0 = c k) → dsm (fun k => a k) b (fun k => c k) s x (min m e) = dsm a b c s x (min m e) := fun _ _ _ => rfl
theorem lk_dr {w n d : Nat} {h : zm_H} (H : I_sw w n d h) {a sp : Nat} (hsp : sp < 480) (v4 x : Int32) : f_M_looks_l97_ok (nI a) (nI sp) v4 zF (0, zp h 92 79 x) ∧ zf (f_M_looks_l97 (nI a) (nI sp) v4 zF (0, zp h 92 79 x)).2.2 92 79 = dsm (h.2.1 108) (h.2.1 109) (h.2.1 110) (nI sp) x (ft (h.2.1 111) (nI a) d) ∧ zWr [] [(92, 79)] h (f_M_looks_l97 (nI a) (nI sp) v4 zF (0, zp h 92 79 x)).2.2 := by
  obtain ⟨⟨-, hd, -, -, -, e28⟩, -, -, hD, -, hm⟩ := H
  have hm' : ∀ j k, j ≤ k → k < d → h.2.1 111 j ≤ h.2.1 111 k := hm
  have hft := ft_le (h.2.1 111) (nI a) d
  have key := zlp (b := fun t => f_M_looks_l97_b (nI a) (nI sp) v4 t.1 t.2) (o := fun t => f_M_looks_l97_b_ok (nI a) (nI sp) v4 t.1 t.2) d (by omega)
    (fun k s => s.1 = nI k ∧ zWr [] [(92, 79)] h s.2 ∧ zf s.2 92 79 = dsm (h.2.1 108) (h.2.1 109) (h.2.1 110) (nI sp) x (min (ft (h.2.1 111) (nI a) d) k))
    (fun r => zf r.2.2 92 79 = dsm (h.2.1 108) (h.2.1 109) (h.2.1 110) (nI sp) x (ft (h.2.1 111) (nI a) d) ∧ zWr [] [(92, 79)] h r.2.2) (0, zp h 92 79 x)
    ⟨rfl, zWr_p (by decide) (zWr.refl _ _), by rw [show min (ft (h.2.1 111) (nI a) d) 0 = 0 by omega]; exact zm_in _ _ _ _⟩
    (by
      rintro k ⟨v5, h1⟩ hk ⟨p1, p2, p3⟩
      dsimp only at p1 p2 p3
      subst p1
      have f28 : zf h1 92 28 = nI d := (p2.fld 92 28 (by decide) (by decide)).trans e28
      have g0 : ¬ (zf h1 92 28 ≤ nI k) := by rw [f28, i_le, i_nI (by omega), i_nI (by omega)]; omega
      have hin : vp_in (nI k) 30 := vp_in_nI (by omega) (by omega)
      have a1 : ∀ i, i ≠ 92 → h1.2.1 i = h.2.1 i := fun i hi => p2.arr i (by simp) (by simpa using fun z => hi z.symm)
      refine ⟨⟨fun z => absurd z g0, fun _ => ⟨hin, fun _ => trivial, fun _ => ⟨hin, hin, fun _ => hin, fun _ => trivial⟩⟩⟩, Or.inl ?_⟩
      dsimp only
      unfold f_M_looks_l97_b
      rw [if_neg g0]
      refine ⟨rfl, (nI_succ k).symm, zWr_p (by decide) p2, ?_⟩
      dsimp only
      have ez : zf (zp h1 92 79 (zf h1 92 79 + if nI a < zr h1 111 (nI k) then (0 : Int32) else if ¬ nI sp < zr h1 108 (nI k) ∧ ¬ zr h1 109 (nI k) < nI sp then zr h1 110 (nI k) else 0)) 92 79 = zf h1 92 79 + if nI a < zr h1 111 (nI k) then (0 : Int32) else if ¬ nI sp < zr h1 108 (nI k) ∧ ¬ zr h1 109 (nI k) < nI sp then zr h1 110 (nI k) else 0 := zm_in _ _ _ _
      rw [ez, p3]
      show _ + (if nI a < h1.2.1 111 (nI k).toNatClampNeg then (0 : Int32) else if ¬ nI sp < h1.2.1 108 (nI k).toNatClampNeg ∧ ¬ h1.2.1 109 (nI k).toNatClampNeg < nI sp then h1.2.1 110 (nI k).toNatClampNeg else 0) = _
      rw [nI_c (by omega), a1 111 (by decide), a1 108 (by decide), a1 109 (by decide), a1 110 (by decide)]
      have hit := ft_iff (a := nI a) hm' (show k < d by omega)
      by_cases c1 : nI a < h.2.1 111 k
      · rw [if_pos c1]
        have : ¬ k < ft (h.2.1 111) (nI a) d := fun z => by have := hit.mpr z; rw [i_le] at this; rw [i_lt] at c1; omega
        rw [show min (ft (h.2.1 111) (nI a) d) (k + 1) = min (ft (h.2.1 111) (nI a) d) k by omega, Int32.add_zero]
      · rw [if_neg c1]
        have : k < ft (h.2.1 111) (nI a) d := hit.mp (by rw [i_le]; rw [i_lt] at c1; omega)
        rw [show min (ft (h.2.1 111) (nI a) d) (k + 1) = k + 1 by omega, show min (ft (h.2.1 111) (nI a) d) k = k by omega, dsm]
        by_cases c2 : nI sp < h.2.1 108 k
        · rw [if_neg (fun z => z.1 c2), if_pos c2, Int32.add_zero]
        · rw [if_neg c2]
          by_cases c3 : h.2.1 109 k < nI sp
          · rw [if_neg (fun z => z.2 c3), if_pos c3, Int32.add_zero]
          · rw [if_pos ⟨c2, c3⟩, if_neg c3])
    (by
      rintro ⟨v5, h1⟩ ⟨p1, p2, p3⟩
      dsimp only at p1 p2 p3
      subst p1
      have f28 : zf h1 92 28 = nI d := (p2.fld 92 28 (by decide) (by decide)).trans e28
      have g0 : zf h1 92 28 ≤ nI d := by rw [f28]; exact i_le.mpr (Int.le_refl _)
      refine ⟨⟨fun _ => trivial, fun z => absurd g0 z⟩, ?_⟩
      dsimp only
      unfold f_M_looks_l97_b
      rw [if_pos g0]
      refine ⟨by simp, ?_, p2⟩
      dsimp only
      rw [p3, show min (ft (h.2.1 111) (nI a) d) d = ft (h.2.1 111) (nI a) d by omega])
  exact ⟨key.1, key.2.1, key.2.2⟩
theorem clp_rng (x : Int32) : 0 ≤ (clp x).toInt ∧ (clp x).toInt ≤ 120 := by
  unfold clp
  have e120 : (120 : Int32).toInt = 120 := rfl
  by_cases h1 : x < 0
  · rw [if_pos h1, i_0]; omega
  · rw [if_neg h1]
    by_cases h2 : 120 < x
    · rw [if_pos h2, e120]; omega
    · rw [if_neg h2]
      rw [i_lt, i_0] at h1
      rw [i_lt, e120] at h2
      omega
theorem i_10 : (10 : Int32).toInt = 10 := rfl
theorem i_100 : (100 : Int32).toInt = 100 := rfl
theorem i_1000 : (1000 : Int32).toInt = 1000 := rfl
theorem sea_num {c x : Int32} (h1 : 0 ≤ c.toInt) (h2 : c.toInt ≤ 120) (hx : 0 ≤ x.toInt) : (c * 1000 + zm_rm x 1000) / 1000 = c ∧ zm_rm (c * 1000 + zm_rm x 1000) 1000 / 10 = zm_rm (x / 10) 100 ∧ zm_rm (c * 1000 + zm_rm x 1000) 10 = zm_rm x 10 ∧ (c * 1000 + zm_rm x 1000).toInt = c.toInt * 1000 + x.toInt % 1000 := by
  have a1 : (zm_rm x 1000).toInt = x.toInt % 1000 := by rw [i_rm hx (by rw [i_1000]; omega), i_1000]
  have a2 : (c * 1000).toInt = c.toInt * 1000 := by rw [i_mul (by rw [i_1000]; omega) (by rw [i_1000]; omega), i_1000]
  have a3 : (c * 1000 + zm_rm x 1000).toInt = c.toInt * 1000 + x.toInt % 1000 := by rw [i_add (by rw [a1, a2]; omega) (by rw [a1, a2]; omega), a1, a2]
  have a4 : 0 ≤ (c * 1000 + zm_rm x 1000).toInt := by rw [a3]; omega
  refine ⟨?_, ?_, ?_, a3⟩
  · rw [i_eq, i_div a4 (by rw [i_1000]; omega), a3, i_1000]; omega
  · have b1 : (zm_rm (c * 1000 + zm_rm x 1000) 1000).toInt = (c.toInt * 1000 + x.toInt % 1000) % 1000 := by rw [i_rm a4 (by rw [i_1000]; omega), a3, i_1000]
    have b2 : (x / 10).toInt = x.toInt / 10 := by rw [i_div hx (by rw [i_10]; omega), i_10]
    rw [i_eq, i_div (by rw [b1]; omega) (by rw [i_10]; omega), b1, i_rm (by rw [b2]; omega) (by rw [i_100]; omega), b2, i_10, i_100]
    omega
  · rw [i_eq, i_rm a4 (by rw [i_10]; omega), i_rm hx (by rw [i_10]; omega), a3, i_10]
    omega
theorem sea_ok {w n d : Nat} {h : zm_H} (H : I_sw w n d h) {q e t : Nat} (hq : q ≤ n) : rdOK (seaP h q e t) := by
  unfold seaP
  by_cases hc : (fnd (h.2.1 105) q 9 t).2 < 0
  · rw [if_pos hc]; exact ⟨by decide, by decide, by decide, by decide, by decide⟩
  · rw [if_neg hc]
    rcases (fnd_rng (h.2.1 105) q 9 t).2 with h1 | ⟨k, h1, h2⟩
    · exact absurd (by rw [h1]; decide) hc
    · have hn := H.1.1
      have hR := (H.2.1 k (by omega)).2.2.2.1
      have e1 : zr h 106 (fnd (h.2.1 105) q 9 t).2 = zf h 106 k := by
        show h.2.1 106 (fnd (h.2.1 105) q 9 t).2.toNatClampNeg = _
        rw [h2, nI_c (by omega)]
      rw [e1]
      obtain ⟨r1, r2, r3, r4, r5⟩ := hR
      generalize dsm (h.2.1 108) (h.2.1 109) (h.2.1 110) (nI (fnd (h.2.1 105) q 9 t).1) (zf h 106 k / 1000) e = D
      obtain ⟨c1, c2⟩ := clp_rng D
      have := (sea_num c1 c2 r1).2.2.2
      unfold rdOK
      rw [this]
      refine ⟨?_, ?_, ?_, ?_, ?_⟩ <;> omega
theorem lk_all {w n d : Nat} {h : zm_H} (H : I_sw w n d h) {t a : Nat} (ht : t < 480) : f_M_looks_ok (nI t) (nI a) h ∧ isSea (f_M_looks (nI t) (nI a) h) (seaP h (ft (h.2.1 107) (nI a) n) (ft (h.2.1 111) (nI a) d) t) := by
  have hn : n ≤ 400 := H.1.1
  obtain ⟨h3, e3⟩ : ∃ h3, h3 = zp (zp (zp h 92 79 0) 92 80 8) 92 81 0 := ⟨_, rfl⟩
  have w3 : zWr [] [(92, 79), (92, 80), (92, 81)] h h3 := by rw [e3]; exact zWr_p (by decide) (zWr_p (by decide) (zWr_p (by decide) (zWr.refl _ _)))
  have a3 : ∀ i, i ≠ 92 → h3.2.1 i = h.2.1 i := fun i hi => w3.arr i (by simp) (by simpa using fun z => hi z.symm)
  have H3 : I_sw w n d h3 := I_sw_fr H (w3.fld 1 0 (by decide) (by decide)) (w3.fld 92 24 (by decide) (by decide)) (w3.fld 1 1 (by decide) (by decide)) (w3.fld 92 28 (by decide) (by decide)) (fun i hi => a3 i (fun z => by subst z; revert hi; decide))
  have hq := ft_le (h.2.1 107) (nI a) n
  have f79 : isSea h3 81 := by
    refine ⟨?_, ?_, ?_⟩
    · rw [e3]; show zf (zp (zp (zp h 92 79 0) 92 80 8) 92 81 0) 92 79 = _
      rw [zf, zf_si, if_pos rfl, if_neg (by decide), zf_si, if_pos rfl, if_neg (by decide), zf_si, if_pos rfl, if_pos rfl]; rfl
    · rw [e3]; show zf (zp (zp (zp h 92 79 0) 92 80 8) 92 81 0) 92 80 = _
      rw [zf, zf_si, if_pos rfl, if_neg (by decide), zf_si, if_pos rfl, if_pos rfl]; rfl
    · rw [e3]; show zf (zp (zp (zp h 92 79 0) 92 80 8) 92 81 0) 92 81 = _
      rw [zf, zf_si, if_pos rfl, if_pos rfl]; rfl
  have eR : zf h3 92 24 = nI n := H3.1.2.2.2.1
  obtain ⟨q, eq⟩ : ∃ q, q = ft (h.2.1 107) (nI a) n := ⟨_, rfl⟩
  have e105 : h3.2.1 105 = h.2.1 105 := a3 105 (by decide)
  have e107 : h3.2.1 107 = h.2.1 107 := a3 107 (by decide)
  have e111 : h3.2.1 111 = h.2.1 111 := a3 111 (by decide)
  rw [← eq] at hq ⊢
  obtain ⟨F, eF⟩ : ∃ F, F = fnd (h.2.1 105) q 9 t := ⟨_, rfl⟩
  have key := zlp (b := fun s => f_M_looks_l18_b (nI t) (nI a) s.1 s.2 h3) (o := fun s => f_M_looks_l18_b_ok (nI t) (nI a) s.1 s.2 h3) (min 9 (t + 1)) (by omega)
    (fun k s => k ≤ t + 1 ∧ (k ≤ t → s.1 = nI (t - k) ∧ F = fnd (h.2.1 105) q (9 - k) (t - k)) ∧ (k = t + 1 → s.1 = -1 ∧ (F).2 = -1))
    (fun r => (r.1 = 1 ∧ ∃ sp j, sp ≤ t ∧ j < q ∧ r.2.1 = nI sp ∧ r.2.2 = nI j ∧ F = (sp, nI j)) ∨ (r.1 = 2 ∧ (F).2 = -1)) (nI t, 0)
    ⟨by omega, fun _ => ⟨rfl, eF⟩, fun z => by omega⟩
    (by
      rintro k ⟨v3, v4⟩ hk ⟨-, h20, -⟩
      have hk9 : k < 9 := by omega
      have hkt : k ≤ t := by omega
      obtain ⟨h1, h2⟩ := h20 hkt
      clear h20
      dsimp only at h1
      subst h1
      have e8 : (8 : Int32).toInt = 8 := rfl
      have g1 : ¬ (nI (t - k) < 0) := by rw [i_lt, i_nI (by omega), i_0]; omega
      have g2 : ¬ (nI (t - k) < nI t - 8) := by
        rw [i_lt, i_nI (by omega), i_sub (by rw [i_nI (by omega), e8]; omega) (by rw [i_nI (by omega), e8]; omega), i_nI (by omega), e8]; omega
      obtain ⟨r1, r2⟩ := lk_in H3 (nI t) (a := a) (sp := t - k)
      rw [e105, e107, ← eq] at r2
      refine ⟨⟨fun z => absurd z g1, fun _ => ⟨fun z => absurd z g2, fun _ => ⟨by rw [eR]; exact r1, trivial⟩⟩⟩, ?_⟩
      dsimp only
      unfold f_M_looks_l18_b f_M_looks_l18_a38 f_M_looks_l18_k71
      rw [if_neg g1, if_neg g2, eR, r2]
      rw [show 9 - k = (8 - k) + 1 by omega, fnd] at h2
      rcases lst_rng (h.2.1 105) (nI (t - k)) q with hx | ⟨j, h6, h7, h8⟩
      · left
        rw [hx, if_neg (by decide)] at h2
        rw [hx, if_neg (by decide)]
        refine ⟨rfl, by omega, fun z => ⟨?_, ?_⟩, fun z => ⟨?_, ?_⟩⟩
        · dsimp only
          rw [show t - k = (t - (k + 1)) + 1 by omega]; exact pk_m1 _
        · rw [if_neg (by omega)] at h2
          rw [h2, show 9 - (k + 1) = 8 - k by omega, show t - (k + 1) = t - k - 1 by omega]
        · dsimp only
          rw [show t - k = 0 by omega]; rfl
        · rw [if_pos (by omega)] at h2
          rw [h2]
      · right
        have g4 : 0 ≤ nI j := by rw [i_le, i_nI (by omega), i_0]; omega
        rw [h7, if_pos g4] at h2
        rw [h7, if_pos g4]
        exact ⟨by simp, Or.inl ⟨rfl, t - k, j, by omega, h6, rfl, rfl, h2⟩⟩)
    (by
      rintro ⟨v3, v4⟩ ⟨-, h20, h40⟩
      by_cases h9 : 9 ≤ t
      · have e9 : min 9 (t + 1) = 9 := by omega
        rw [e9] at h20 h40
        obtain ⟨h1, h2⟩ := h20 h9
        clear h20 h40
        dsimp only at h1
        subst h1
        have e8 : (8 : Int32).toInt = 8 := rfl
        have g1 : ¬ (nI (t - 9) < 0) := by rw [i_lt, i_nI (by omega), i_0]; omega
        have g2 : nI (t - 9) < nI t - 8 := by
          rw [i_lt, i_nI (by omega), i_sub (by rw [i_nI (by omega), e8]; omega) (by rw [i_nI (by omega), e8]; omega), i_nI (by omega), e8]; omega
        refine ⟨⟨fun _ => trivial, fun _ => ⟨fun _ => trivial, fun z => absurd g2 z⟩⟩, ?_⟩
        dsimp only
        unfold f_M_looks_l18_b
        rw [if_neg g1, if_pos g2]
        refine ⟨by simp, Or.inr ⟨rfl, ?_⟩⟩
        rw [h2]; rfl
      · have e9 : min 9 (t + 1) = t + 1 := by omega
        rw [e9] at h20 h40
        obtain ⟨h1, h2⟩ := h40 rfl
        clear h20 h40
        dsimp only at h1
        subst h1
        refine ⟨⟨fun _ => trivial, fun z => absurd (show (-1 : Int32) < 0 by decide) z⟩, ?_⟩
        dsimp only
        unfold f_M_looks_l18_b
        rw [if_pos (by decide)]
        exact ⟨by simp, Or.inr ⟨rfl, h2⟩⟩)
  rw [eF] at key
  obtain ⟨k1, k2⟩ := key
  obtain ⟨r, er⟩ : ∃ r, r = f_M_looks_l18 (nI t) (nI a) h3 zF (nI t, 0) := ⟨_, rfl⟩
  have k2 : (r.1 = 1 ∧ ∃ sp j, sp ≤ t ∧ j < q ∧ r.2.1 = nI sp ∧ r.2.2 = nI j ∧ fnd (h.2.1 105) q 9 t = (sp, nI j)) ∨ (r.1 = 2 ∧ (fnd (h.2.1 105) q 9 t).2 = -1) := by rw [er]; exact k2
  unfold f_M_looks_ok f_M_looks
  rw [← e3, ← er]
  unfold f_M_looks_a18 f_M_looks_a18_ok seaP
  rcases k2 with ⟨a1, sp, j, a2, a4, a5, a6, a7⟩ | ⟨a1, a2⟩
  · have g3 : ¬ (nI j < 0) := by rw [i_lt, i_nI (by omega), i_0]; omega
    have hin : vp_in (nI j) 400 := vp_in_nI (by omega) (by omega)
    rw [if_pos a1, a7, a5, a6]
    dsimp only
    rw [if_neg g3]
    have e4 : zr h3 106 (nI j) = zr h 106 (nI j) := by
      show h3.2.1 106 _ = h.2.1 106 _
      rw [a3 106 (by decide)]
    obtain ⟨d1, d2, d3⟩ := lk_dr H3 (a := a) (sp := sp) (by omega) (nI j) (zr h3 106 (nI j) / 1000)
    rw [a3 108 (by decide), a3 109 (by decide), a3 110 (by decide), e111] at d2
    refine ⟨⟨k1, fun _ => ⟨hin, d1, hin, hin⟩, fun z => absurd a1 z⟩, ?_⟩
    unfold f_M_looks_k79 f_M_looks_a97 f_M_looks_k164
    generalize hh : (f_M_looks_l97 (nI a) (nI sp) (nI j) zF (0, zp h3 92 79 (zr h3 106 (nI j) / 1000))).2.2 = h4 at d2 d3
    have e5 : zr h4 106 (nI j) = zr h 106 (nI j) := by
      show h4.2.1 106 _ = h.2.1 106 _
      rw [d3.arr 106 (by decide) (by decide), a3 106 (by decide)]
    obtain ⟨x, ex⟩ : ∃ x, x = zr h 106 (nI j) := ⟨_, rfl⟩
    have hx : rdOK x := by
      have := (H.2.1 j (by omega)).2.2.2.1
      rw [ex]
      show rdOK (h.2.1 106 (nI j).toNatClampNeg)
      rw [nI_c (by omega)]
      exact this
    rw [d2, e5, e4, ← ex]
    generalize dsm (h.2.1 108) (h.2.1 109) (h.2.1 110) (nI sp) (x / 1000) (ft (h.2.1 111) (nI a) d) = D
    obtain ⟨c1, c2⟩ := clp_rng D
    obtain ⟨n1, n2, n3, -⟩ := sea_num c1 c2 hx.1
    have eD : (if 0 ≤ D then (if D ≤ 120 then D else 120) else 0) = clp D := by
      unfold clp
      have e120 : (120 : Int32).toInt = 120 := rfl
      by_cases q1 : D < 0
      · rw [if_neg (by rw [i_le]; rw [i_lt] at q1; omega), if_pos q1]
      · rw [if_pos (by rw [i_le]; rw [i_lt] at q1; omega), if_neg q1]
        by_cases q2 : 120 < D
        · rw [if_neg (by rw [i_le]; rw [i_lt] at q2; omega), if_pos q2]
        · rw [if_pos (by rw [i_le]; rw [i_lt] at q2; omega), if_neg q2]
    rw [eD]
    unfold isSea
    rw [n1, n2, n3]
    refine ⟨?_, ?_, ?_⟩
    · rw [zf, zf_si, if_pos rfl, if_neg (by decide), zf_si, if_pos rfl, if_neg (by decide), zf_si, if_pos rfl, if_pos rfl]
    · rw [zf, zf_si, if_pos rfl, if_neg (by decide), zf_si, if_pos rfl, if_pos rfl]
    · rw [zf, zf_si, if_pos rfl, if_pos rfl]
  · have a4 : ¬ r.1 = 1 := by rw [a1]; decide
    rw [if_neg a4, a2, if_pos (by decide)]
    exact ⟨⟨k1, fun z => absurd z a4, fun _ => trivial⟩, f79⟩
