/-! ===== TOKENS: the class ===== -/
def byR (B : Nat → Int32) (n : Nat) : Prop := ∀ i, i < n → -128 ≤ (B i).toInt ∧ (B i).toInt ≤ 127
theorem sg_all : ∀ k, k < 256 → (if (zm_ixf (zm_cb ((nI k - 128) &&& 255)) (zm_sx 1) 0) < 0 then (258 : Int32) else (zm_cb ((nI k - 128) &&& 255))) = nI (if isS (nI k - 128) = true then (nI k - 128).toNatClampNeg else 258) := by decide +kernel
theorem sg_b {b : Int32} (h1 : -128 ≤ b.toInt) (h2 : b.toInt ≤ 127) : (if (zm_ixf (zm_cb (b &&& 255)) (zm_sx 1) 0) < 0 then (258 : Int32) else (zm_cb (b &&& 255))) = nI (if isS b = true then b.toNatClampNeg else 258) := by
  have e128 : (128 : Int32).toInt = 128 := rfl
  obtain ⟨k, hk, ek⟩ := i_ex (a := b + 128) (N := 256) (by rw [i_add (by rw [e128]; omega) (by rw [e128]; omega), e128]; omega) (by rw [i_add (by rw [e128]; omega) (by rw [e128]; omega), e128]; omega)
  have e : b = nI k - 128 := by
    rw [← ek]
    apply i_eq.mpr
    have a := i_add (a := b) (b := 128) (by rw [e128]; omega) (by rw [e128]; omega)
    rw [i_sub (by rw [a, e128]; omega) (by rw [a, e128]; omega), a, e128]
    omega
  rw [e]
  exact sg_all k hk
theorem isL_n {b : Int32} (h : isL b = true) : ¬ b = 32 := by
  intro z; rw [z] at h; exact absurd h (by decide)
theorem iw_N {n s e w : Nat} {x : zm_H} (hw : w < 16) (he : e ≤ 400) (hs : s ≤ e) (e3 : zf x 10 3 = nI e) (e5 : zf x 10 5 = nI s) (hL : ∀ i, s ≤ i → i < e → isL (x.2.1 11 i) = true) : f_Text_isWord_ok (nI w) x ∧ (f_Text_isWord (nI w) x = 0 ↔ ¬ mw (x.2.1 11) s e w) := by
  obtain ⟨B, eB⟩ : ∃ B, B = x.2.1 11 := ⟨_, rfl⟩
  rw [← eB] at hL ⊢
  have d6 := wd6 w hw
  unfold f_Text_isWord_ok f_Text_isWord
  rw [e3, e5, pk_sub hs]
  have g6 : nI (e - s) ≤ 6 ↔ e - s ≤ 6 := by rw [show (6 : Int32) = nI 6 from rfl, nx_le (by omega) (by omega)]
  by_cases c : nI (e - s) ≤ 6
  · have c' := g6.mp c
    rw [if_pos c]
    obtain ⟨F, eF, -⟩ := zF_ex
    rw [← eF]
    obtain ⟨G, eG⟩ : ∃ G : Nat → Prop, G = fun i => wch w i = if e ≤ s + i then (32 : Int32) else B (s + i) := ⟨_, rfl⟩
    have key := zlpF eF (b := fun t => f_Text_isWord_l18_b (nI w) t x) (o := fun t => f_Text_isWord_l18_b_ok (nI w) t x) 6 (by omega)
      (fun k t => t = nI k ∧ ∀ i, i < k → G i) (fun r => (r.1 = 1 ∧ ¬ ∀ i, i < 6 → G i) ∨ (¬ r.1 = 1 ∧ ∀ i, i < 6 → G i)) 0 ⟨rfl, fun i hi => by omega⟩
      (by
        rintro k t hk ⟨rfl, q⟩
        have g0 : ¬ ((6 : Int32) ≤ nI k) := by rw [show (6 : Int32) = nI 6 from rfl, nx_le (by omega) (by omega)]; omega
        have ix : nI w * 6 + nI k = nI (6 * w + k) := by rw [show (6 : Int32) = nI 6 from rfl, pk_mul, nI_add, Nat.mul_comm]
        have g1 : nI e ≤ nI (s + k) ↔ e ≤ s + k := nx_le (by omega) (by omega)
        have xk : (if nI e ≤ nI (s + k) then (32 : Int32) else zr x 11 (nI (s + k))) = if e ≤ s + k then (32 : Int32) else B (s + k) := by
          by_cases z : e ≤ s + k
          · rw [if_pos (g1.mpr z), if_pos z]
          · rw [if_neg (fun y => z (g1.mp y)), if_neg z, zr_n x 11 (by omega), eB]
        show f_Text_isWord_l18_b_ok (nI w) (nI k) x ∧ _
        unfold f_Text_isWord_l18_b f_Text_isWord_l18_b_ok
        rw [if_neg g0, e3, e5, nI_add, xk, ix, nI_c (by omega), ← nI_succ]
        have gk : G k ↔ (zm_sx 0).getD (6 * w + k) 0 = if e ≤ s + k then (32 : Int32) else B (s + k) := by rw [eG]; exact Iff.rfl
        refine ⟨⟨fun z => absurd z g0, fun _ => ⟨⟨fun _ => trivial, fun z => ?_⟩, ?_, by omega⟩⟩, ?_⟩
        · exact vp_in_nI (by have : ¬ e ≤ s + k := fun y => z (g1.mpr y); omega) (by omega)
        · rw [i_le, i_nI (by omega), i_0]; omega
        · by_cases z : (zm_sx 0).getD (6 * w + k) 0 = if e ≤ s + k then (32 : Int32) else B (s + k)
          · rw [if_pos z]
            refine Or.inl ⟨rfl, rfl, fun i hi => ?_⟩
            by_cases y : i = k
            · rw [y]; exact gk.mpr z
            · exact q i (by omega)
          · rw [if_neg z]
            exact Or.inr ⟨by simp, Or.inl ⟨rfl, fun y => z (gk.mp (y k hk))⟩⟩)
      (by
        rintro t ⟨rfl, q⟩
        have g0 : (6 : Int32) ≤ nI 6 := by decide
        show f_Text_isWord_l18_b_ok (nI w) (nI 6) x ∧ _
        unfold f_Text_isWord_l18_b f_Text_isWord_l18_b_ok
        rw [if_pos g0]
        exact ⟨⟨fun _ => trivial, fun z => absurd g0 z⟩, by simp, Or.inr ⟨by simp, q⟩⟩)
    obtain ⟨k1, k2⟩ := key
    obtain ⟨r, er⟩ : ∃ r, r = f_Text_isWord_l18 (nI w) x F 0 := ⟨_, rfl⟩
    have k2 : (r.1 = 1 ∧ ¬ ∀ i, i < 6 → G i) ∨ (¬ r.1 = 1 ∧ ∀ i, i < 6 → G i) := by rw [er]; exact k2
    rw [← er]
    have all : (∀ i, i < 6 → G i) ↔ mw B s e w := by
      rw [eG]
      dsimp only
      constructor
      · intro g
        have l1 : e - s = wln w := by
          rcases (show e - s = wln w ∨ e - s < wln w ∨ wln w < e - s by omega) with z | z | z
          · exact z
          · have := g (e - s) (by omega)
            rw [if_pos (by omega), wd1 w hw _ (by omega)] at this
            omega
          · have := g (wln w) (by omega)
            rw [if_neg (by omega), (wd1 w hw _ (by omega)).mpr (Nat.le_refl _)] at this
            exact absurd this.symm (isL_n (hL _ (by omega) (by omega)))
        refine ⟨l1, fun j hj => ?_⟩
        have := g j (by omega)
        rw [if_neg (by omega)] at this
        exact this.symm
      · rintro ⟨l1, l2⟩ i hi
        by_cases z : e ≤ s + i
        · rw [if_pos z]; exact (wd1 w hw i hi).mpr (by omega)
        · rw [if_neg z]; exact (l2 i (by omega)).symm
    rw [← all]
    unfold f_Text_isWord_a18 f_Text_isWord_a18_ok f_Text_isWord_k69 f_Text_isWord_k77
    refine ⟨⟨fun _ => ⟨k1, fun _ => trivial, fun _ => trivial⟩, fun z => absurd c z⟩, ?_⟩
    rcases k2 with ⟨z1, z2⟩ | ⟨z1, z2⟩
    · rw [if_pos z1]; exact ⟨fun _ => z2, fun _ => rfl⟩
    · rw [if_neg z1]; exact ⟨fun z => absurd z (by decide), fun z => absurd z2 z⟩
  · rw [if_neg c]
    refine ⟨⟨fun z => absurd z c, fun _ => trivial⟩, fun _ z => ?_, fun _ => rfl⟩
    have := z.1
    exact c (g6.mpr (by omega))
theorem sw_N {n s : Nat} {h : zm_H} (hn : n ≤ 400) (hs : s ≤ n) (e1 : zf h 10 1 = nI n) (e3 : zf h 10 3 = nI s) (e5 : zf h 10 5 = nI s) : f_Text_stepWord_ok h ∧ zf (f_Text_stepWord h) 10 3 = nI (scn isL (h.2.1 11) n 400 s) ∧ zf (f_Text_stepWord h) 10 4 = nI (300 + wI (h.2.1 11) s (scn isL (h.2.1 11) n 400 s)) := by
  obtain ⟨B, eB⟩ : ∃ B, B = h.2.1 11 := ⟨_, rfl⟩
  rw [← eB]
  unfold f_Text_stepWord_ok f_Text_stepWord
  obtain ⟨F, eF, -⟩ := zF_ex
  rw [← eF]
  obtain ⟨k1, k2⟩ := scn_loop eF (b := fun t => f_Text_stepWord_l0_b t) (o := fun t => f_Text_stepWord_l0_b_ok t) (q := isL) (B := B) hs hn (fun e x => zWr [] [(10, 3)] h x ∧ zf x 10 3 = nI e) h ⟨zWr.refl _ _, e3⟩
    (by
      rintro e x he1 he2 ⟨r1, r2⟩ hq
      have x1 : zf x 10 1 = nI n := (r1.fld 10 1 (by decide) (by decide)).trans e1
      have g0 : ¬ (zf x 10 1 ≤ zf x 10 3) := by rw [x1, r2, nx_le (by omega) (by omega)]; omega
      have xB : zr x 11 (nI e) = B e := by rw [zr_n x 11 (by omega), zf, r1.arr 11 (by decide) (by decide), eB]
      have hq' := hq
      unfold isL at hq'
      rw [decide_eq_true_eq] at hq'
      show f_Text_stepWord_l0_b_ok x ∧ _
      unfold f_Text_stepWord_l0_b f_Text_stepWord_l0_b_ok
      rw [if_neg g0, r2, xB, if_pos hq', ← nI_succ]
      exact ⟨⟨fun z => by rw [r2] at g0; exact absurd z g0, fun _ => vp_in_nI (by omega) (by omega)⟩, rfl, zWr_p (by decide) r1, zm_in _ _ _ _⟩)
    (by
      rintro e x he1 he2 ⟨r1, r2⟩ hq
      have x1 : zf x 10 1 = nI n := (r1.fld 10 1 (by decide) (by decide)).trans e1
      show f_Text_stepWord_l0_b_ok x ∧ _
      unfold f_Text_stepWord_l0_b f_Text_stepWord_l0_b_ok
      rw [x1, r2]
      by_cases c : nI n ≤ nI e
      · rw [if_pos c]; exact ⟨⟨fun _ => trivial, fun z => absurd c z⟩, by simp, rfl⟩
      · have c' : e < n := by rw [nx_le (by omega) (by omega)] at c; omega
        have xB : zr x 11 (nI e) = B e := by rw [zr_n x 11 (by omega), zf, r1.arr 11 (by decide) (by decide), eB]
        have hq' : isL (B e) = false := by rcases hq with z | z; omega; exact z
        unfold isL at hq'
        rw [decide_eq_false_iff_not] at hq'
        rw [if_neg c, xB, if_neg hq']
        exact ⟨⟨fun _ => trivial, fun _ => vp_in_nI (by omega) (by omega)⟩, by simp, rfl⟩)
  obtain ⟨r, er⟩ : ∃ r, r = f_Text_stepWord_l0 F h := ⟨_, rfl⟩
  have k2 : zWr [] [(10, 3)] h r.2 ∧ zf r.2 10 3 = nI (scn isL B n 400 s) := by rw [er]; exact k2
  rw [← er]
  obtain ⟨t1, t2, t3, -⟩ := scn_p (q := isL) (B := B) 400 s hs (by omega)
  obtain ⟨e, ee⟩ : ∃ e, e = scn isL B n 400 s := ⟨_, rfl⟩
  rw [← ee] at k2 t1 t2 t3 ⊢
  obtain ⟨y, ey⟩ : ∃ y, y = r.2 := ⟨_, rfl⟩
  obtain ⟨k2, k3⟩ := k2
  rw [← ey] at k2 k3
  unfold f_Text_stepWord_a0 f_Text_stepWord_a0_ok f_Text_stepWord_k39 f_Text_stepWord_k39_ok f_Text_stepWord_a48 f_Text_stepWord_k77
  rw [← ey, ← eF]
  obtain ⟨y0, ey0⟩ : ∃ y0, y0 = zp y 10 4 316 := ⟨_, rfl⟩
  have wy : zWr [] [(10, 3), (10, 4)] h y0 := by rw [ey0]; exact zWr_p (by decide) (zWr_tr k2 (by decide) (by decide) (zWr.refl _ _))
  have y4 : zf y0 10 4 = 316 := by rw [ey0]; exact zm_in _ _ _ _
  have y3 : zf y0 10 3 = nI e := by
    rw [ey0]; show (zm_si y 10 4 316).2.1 10 3 = _
    rw [zf_si, if_pos rfl, if_neg (by decide)]; exact k3
  rw [← ey0]
  have key := zlp_k eF (b := fun t => f_Text_stepWord_l48_b t.1 t.2) (o := fun t => f_Text_stepWord_l48_b_ok t.1 t.2) 16 (by omega) 0
    (fun k x => zWr [] [(10, 3), (10, 4)] h x ∧ zf x 10 3 = nI e ∧ ((∃ w, w < k ∧ mw B s e w ∧ zf x 10 4 = nI (300 + w)) ∨ ((∀ w, w < k → ¬ mw B s e w) ∧ zf x 10 4 = nI (300 + 16)))) y0
    ⟨wy, y3, Or.inr ⟨fun w hw => by omega, y4⟩⟩
    (by
      rintro k x hk ⟨r1, r2, r3⟩
      rw [Nat.zero_add]
      have g0 : ¬ ((16 : Int32) ≤ nI k) := by rw [show (16 : Int32) = nI 16 from rfl, nx_le (by omega) (by omega)]; omega
      have xB : x.2.1 11 = B := by rw [r1.arr 11 (by decide) (by decide), eB]
      have x5 : zf x 10 5 = nI s := (r1.fld 10 5 (by decide) (by decide)).trans e5
      obtain ⟨o1, o2⟩ := iw_N (n := n) (w := k) hk (by omega) t1 r2 x5 (by rw [xB]; exact t3)
      rw [xB] at o2
      dsimp only
      unfold f_Text_stepWord_l48_b f_Text_stepWord_l48_b_ok
      rw [if_neg g0, ← nI_succ]
      by_cases c : f_Text_isWord (nI k) x = 0
      · rw [if_pos c]
        have nm := o2.mp c
        refine ⟨⟨fun z => absurd z g0, fun _ => o1⟩, _, rfl, r1, r2, ?_⟩
        rcases r3 with ⟨w, a1, a2, a3⟩ | ⟨a1, a2⟩
        · exact Or.inl ⟨w, by omega, a2, a3⟩
        · refine Or.inr ⟨fun w hw => ?_, a2⟩
          by_cases z : w = k
          · rw [z]; exact nm
          · exact a1 w (by omega)
      · rw [if_neg c]
        have ym : mw B s e k := Classical.byContradiction (fun z => c (o2.mpr z))
        refine ⟨⟨fun z => absurd z g0, fun _ => o1⟩, _, rfl, zWr_p (by decide) r1, ?_, Or.inl ⟨k, by omega, ym, ?_⟩⟩
        · show (zm_si x 10 4 (300 + nI k)).2.1 10 3 = _
          rw [zf_si, if_pos rfl, if_neg (by decide)]; exact r2
        · show (zm_si x 10 4 (300 + nI k)).2.1 10 4 = _
          rw [zm_in, show (300 : Int32) = nI 300 from rfl, nI_add])
    (by
      rintro x ⟨r1, r2, r3⟩
      rw [Nat.zero_add]
      have g0 : (16 : Int32) ≤ nI 16 := by decide
      dsimp only
      unfold f_Text_stepWord_l48_b f_Text_stepWord_l48_b_ok
      rw [if_pos g0]
      exact ⟨⟨fun _ => trivial, fun z => absurd g0 z⟩, rfl⟩)
  obtain ⟨m1, x, m2, m3, m4, m5⟩ := key
  have m2 : f_Text_stepWord_l48 F (0, y0) = (1, nI (0 + 16), x) := m2
  rw [m2]
  refine ⟨⟨k1, m1, trivial⟩, m4, ?_⟩
  rcases m5 with ⟨w, a1, a2, a3⟩ | ⟨a1, a2⟩
  · rw [isWI_u (wI_s B s e) (Or.inl ⟨a1, a2⟩)]; exact a3
  · rw [isWI_u (wI_s B s e) (Or.inr ⟨rfl, a1⟩)]; exact a2
