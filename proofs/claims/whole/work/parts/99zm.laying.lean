/-! ===== laying: both together ===== -/
theorem cs_N {w n d f to : Nat} {h : zm_H} (S : I_sw w n d h) (hf : f ≤ to) (ht : to < 480) : f_Ground_chooseSpells_ok (nI f) (nI to) h ∧ (to - f + 1 ≤ 24 → ¬ (f_Ground_chooseSpells (nI f) (nI to) h).1 = 0 ∧ zf (f_Ground_chooseSpells (nI f) (nI to) h).2 82 11 = nI (to - f + 1) ∧ ∀ i, i < to - f + 1 → (f_Ground_chooseSpells (nI f) (nI to) h).2.2.1 88 i = seaP h n d (f + i)) ∧ (¬ to - f + 1 ≤ 24 → (f_Ground_chooseSpells (nI f) (nI to) h).1 = 0) := by
  obtain ⟨ns, ens⟩ : ∃ ns, ns = to - f + 1 := ⟨_, rfl⟩
  have ev : nI to - nI f + 1 = nI ns := by rw [pk_sub hf, ← nI_succ, ← ens]
  unfold f_Ground_chooseSpells_ok f_Ground_chooseSpells
  rw [ev, ← ens]
  have g24 : nI ns ≤ 24 ↔ ns ≤ 24 := by rw [show (24 : Int32) = nI 24 from rfl, nx_le (by omega) (by omega)]
  by_cases c : nI ns ≤ 24
  · have c' := g24.mp c
    rw [if_pos c]
    obtain ⟨h0, eh0⟩ : ∃ h0, h0 = zp h 82 11 (nI ns) := ⟨_, rfl⟩
    have w0 : zWr [88] [(82, 11)] h h0 := by rw [eh0]; exact zWr_p (by decide) (zWr.refl _ _)
    have z11 : zf h0 82 11 = nI ns := by rw [eh0]; exact zm_in _ _ _ _
    rw [← eh0]
    obtain ⟨F, eF, -⟩ := zF_ex
    rw [← eF]
    have key := zlp_k eF (b := fun t => f_Ground_chooseSpells_l22_b (nI f) t.1 t.2) (o := fun t => f_Ground_chooseSpells_l22_b_ok (nI f) t.1 t.2) ns (by omega) 0
      (fun k x => zWr [88] [(82, 11)] h x ∧ zf x 82 11 = nI ns ∧ ∀ i, i < k → x.2.1 88 i = seaP h n d (f + i)) h0
      ⟨w0, z11, fun i hi => by omega⟩
      (by
        rintro k x hk ⟨r1, r2, r3⟩
        rw [Nat.zero_add]
        have g0 : ¬ (zf x 82 11 ≤ nI k) := by rw [r2, nx_le (by omega) (by omega)]; omega
        have ht2 : f + k < 480 := by omega
        have Sx := I_sw_z (r1.eq (by decide) (by decide)) S
        obtain ⟨l1, l2⟩ := sw_lk Sx ht2 (Nat.le_refl n) (Nat.le_refl d)
        have eS : seaP x n d (f + k) = seaP h n d (f + k) := seaP_eq (fun i hi => r1.arr i (by simp at hi ⊢; omega) (by simp at hi ⊢; omega)) n d (f + k)
        rw [eS] at l2
        have eL : f_Swell_lookNow (nI (f + k)) x = seaP h n d (f + k) := by
          unfold f_Swell_lookNow
          rw [Sx.1.2.2.1, Sx.1.2.2.2.2.1, l2]
        have oL : f_Swell_lookNow_ok (nI (f + k)) x := by
          unfold f_Swell_lookNow_ok
          rw [Sx.1.2.2.1, Sx.1.2.2.2.2.1]
          exact l1
        dsimp only
        unfold f_Ground_chooseSpells_l22_b f_Ground_chooseSpells_l22_b_ok
        rw [if_neg g0, nI_add, eL, zs_n _ 88 _ (by omega), ← nI_succ]
        refine ⟨⟨fun z => absurd z g0, fun _ => ⟨oL, vp_in_nI (by omega) (by omega)⟩⟩, _, rfl, zWr_si (by decide) r1, ?_, fun i hi => ?_⟩
        · show (zm_si x 88 k (seaP h n d (f + k))).2.1 82 11 = nI ns
          rw [zf_si, if_neg (by decide)]; exact r2
        · rw [zf_si, if_pos rfl]
          by_cases e : i = k
          · rw [if_pos e, e]
          · rw [if_neg e]; exact r3 i (by omega))
      (by
        rintro x ⟨r1, r2, r3⟩
        rw [Nat.zero_add]
        have g0 : zf x 82 11 ≤ nI ns := by rw [r2]; exact i_le_r _
        dsimp only
        unfold f_Ground_chooseSpells_l22_b f_Ground_chooseSpells_l22_b_ok
        rw [if_pos g0]
        exact ⟨⟨fun _ => trivial, fun z => absurd g0 z⟩, rfl⟩)
    obtain ⟨k1, x, k2, k3, k4, k5⟩ := key
    have k2 : f_Ground_chooseSpells_l22 (nI f) F (0, h0) = (1, nI (0 + ns), x) := k2
    rw [k2]
    unfold f_Ground_chooseSpells_a22 f_Ground_chooseSpells_k52
    refine ⟨⟨fun _ => ⟨k1, trivial⟩, fun z => absurd c z⟩, fun _ => ⟨(by decide : ¬ (1 : Int32) = 0), k4, k5⟩, fun z => absurd c' z⟩
  · rw [if_neg c]
    exact ⟨⟨fun z => absurd z c, fun _ => trivial⟩, fun z => absurd (g24.mpr z) c, fun _ => rfl⟩
