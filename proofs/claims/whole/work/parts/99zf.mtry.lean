/-! ===== a LAYING: a trial of the model ===== -/
theorem wo_M {nr g many n d w f to ns : Nat} (hnr : nr ≤ 10) (hw : w ≤ 480) {h : zm_H} (e33 : zf h 92 33 = nI nr) (V : vOK nr g (vM 0 h)) (hz : ∀ r, r < nr → (1 ≤ (h.2.1 112 r).toInt ∧ (h.2.1 112 r).toInt ≤ 20) ∧ (2 ≤ (h.2.1 113 r).toInt ∧ (h.2.1 113 r).toInt ≤ 20)) {rf pl : Nat → Nat} (T : trOK nr (vM 0 h) many rf pl) (e159 : ∀ i, i < many → h.2.1 159 i = nI (rf i)) (e160 : ∀ i, i < many → h.2.1 160 i = nI (pl i)) (S : I_sw w n d h) (et : zf h 92 23 = nI w) {v2 : Int32} (ef : v2 / 1000 = nI f) (eto : zm_rm v2 1000 = nI to) (hto : to < 480) (ens : f + ns = to + 1) {seas : Nat → Int32} (es : ∀ i, i < ns → seas i = seaP h n d (f + i)) (floor : Int32) : f_M_worth_ok (nI many) v2 floor h ∧ tvl (tgood (trS (vM 0 h) rf pl many) nr (h.2.1 112) (h.2.1 113) seas floor ns) (tsum (trS (vM 0 h) rf pl many) (vM 0 h) nr (h.2.1 112) (h.2.1 113) seas ns) (f_M_worth (nI many) v2 floor h).1 ∧ vM 0 (f_M_worth (nI many) v2 floor h).2 = vM 0 h := by
  have hm3 : many ≤ 3 := T.1
  obtain ⟨D, eD⟩ : ∃ D, D = vM 0 h := ⟨_, rfl⟩
  rw [← eD] at V T ⊢
  unfold f_M_worth_ok f_M_worth f_M_worth_a3_ok f_M_worth_a3
  obtain ⟨F, eF, -⟩ := zF_ex
  rw [← eF]
  have key := zlp_k eF (b := fun t => f_M_worth_l3_b (nI many) v2 floor t.1 t.2) (o := fun t => f_M_worth_l3_b_ok (nI many) v2 floor t.1 t.2) 10 (by omega) 0
    (fun k x => zWr [123, 124] [] h x ∧ vM 0 x = D ∧ ∀ r, r < k → vM 1 x 0 r = trS D rf pl 0 0 r ∧ vM 1 x 1 r = trS D rf pl 0 1 r) h
    ⟨zWr.refl _ _, eD.symm, fun r hr => by omega⟩
    (by
      rintro k x hk ⟨r1, r2, r3⟩
      rw [Nat.zero_add]
      have g0 : ¬ ((10 : Int32) ≤ nI k) := by rw [show (10 : Int32) = nI 10 from rfl, nx_le (by omega) (by omega)]; omega
      have i1 : vp_in (nI k) 20 := vp_in_nI (by omega) (by omega)
      have i2 : vp_in (nI (10 + k)) 20 := vp_in_nI (by omega) (by omega)
      have ea : (10 : Int32) + nI k = nI (10 + k) := by rw [show (10 : Int32) = nI 10 from rfl, nI_add]
      have x3 : zr x 123 (nI k) = D 0 k := by rw [zr_n x 123 (by omega), ← r2, vM_at0 hk]; rw [show 10 * 0 + k = k by omega]
      have x4 : zr x 124 (nI k) = D 1 k := by rw [zr_n x 124 (by omega), ← r2, vM_at1 hk]; rw [show 10 * 0 + k = k by omega]
      dsimp only
      unfold f_M_worth_l3_b f_M_worth_l3_b_ok
      rw [if_neg g0, ea, x3, x4, zs_n _ 123 _ (by omega), zs_n _ 124 _ (by omega), ← nI_succ]
      have e10 : 10 + k = 10 * 1 + k := by omega
      refine ⟨⟨fun z => absurd z g0, fun _ => ⟨i1, i2, i1, i2⟩⟩, _, rfl, zWr_si (by decide) (zWr_si (by decide) r1), ?_, fun r hr => ?_⟩
      · rw [e10, vM_x10 (L := 1) (L' := 0) (by decide) (i := 1) rfl (by omega) hk, vM_x10 (L := 1) (L' := 0) (by decide) (i := 0) rfl (by omega) hk]; exact r2
      · rw [e10, vM_u10 (L := 1) (i := 1) rfl (by omega) hk, vM_u10 (L := 1) (i := 0) rfl (by omega) hk, zu_at, zu_at, zu_at, zu_at]
        rw [if_neg (show ¬ (0 : Nat) = 1 by decide), if_pos (show (0 : Nat) = 0 from rfl), if_pos (show (1 : Nat) = 1 from rfl), if_neg (show ¬ (1 : Nat) = 0 by decide)]
        by_cases c : r = k
        · rw [if_pos c, if_pos c, c]; exact ⟨rfl, rfl⟩
        · rw [if_neg c, if_neg c]; exact r3 r (by omega))
    (by
      rintro x ⟨r1, r2, r3⟩
      rw [Nat.zero_add]
      have g0 : (10 : Int32) ≤ nI 10 := by decide
      dsimp only
      unfold f_M_worth_l3_b f_M_worth_l3_b_ok
      rw [if_pos g0]
      exact ⟨⟨fun _ => trivial, fun z => absurd g0 z⟩, rfl⟩)
  obtain ⟨k1, x0, k2, k3, k4, k5⟩ := key
  have k1 : f_M_worth_l3_ok (nI many) v2 floor F (0, h) := k1
  have k2 : f_M_worth_l3 (nI many) v2 floor F (0, h) = (1, nI (0 + 10), x0) := k2
  rw [k2]
  dsimp only
  unfold f_M_worth_k59_ok f_M_worth_k59 f_M_worth_a62_ok f_M_worth_a62
  rw [← eF]
  have key2 := zlp_k eF (b := fun t => f_M_worth_l62_b (nI many) v2 floor t.1 t.2) (o := fun t => f_M_worth_l62_b_ok (nI many) v2 floor t.1 t.2) many (by omega) 0
    (fun m x => zWr [123, 124] [] h x ∧ vM 0 x = D ∧ ∀ r, r < 10 → vM 1 x 0 r = trS D rf pl m 0 r ∧ vM 1 x 1 r = trS D rf pl m 1 r) x0
    ⟨k3, k4, k5⟩
    (by
      rintro m x hm ⟨r1, r2, r3⟩
      rw [Nat.zero_add]
      have hr10 : rf m < 10 := by have := (T.2.1 m hm).1; omega
      have g0 : ¬ (nI many ≤ nI m) := by rw [nx_le (by omega) (by omega)]; omega
      have i1 : vp_in (nI m) 3 := vp_in_nI (by omega) (by omega)
      have i2 : vp_in (nI (10 + rf m)) 20 := vp_in_nI (by omega) (by omega)
      have ea : (10 : Int32) + nI (rf m) = nI (10 + rf m) := by rw [show (10 : Int32) = nI 10 from rfl, nI_add]
      have x9 : zr x 159 (nI m) = nI (rf m) := by rw [zr_n x 159 (by omega), zf, r1.arr 159 (by decide) (by decide)]; exact e159 m hm
      have x0' : zr x 160 (nI m) = nI (pl m) := by rw [zr_n x 160 (by omega), zf, r1.arr 160 (by decide) (by decide)]; exact e160 m hm
      dsimp only
      unfold f_M_worth_l62_b f_M_worth_l62_b_ok
      rw [if_neg g0, x9, x0', ea, zs_n _ 123 _ (by omega), zs_n _ 124 _ (by omega), ← nI_succ]
      have e10 : 10 + rf m = 10 * 1 + rf m := by omega
      refine ⟨⟨fun z => absurd z g0, fun _ => ⟨i1, i2, i1, i1, i2⟩⟩, _, rfl, zWr_si (by decide) (zWr_si (by decide) r1), ?_, fun r hr => ?_⟩
      · rw [e10, vM_x10 (L := 1) (L' := 0) (by decide) (i := 1) rfl (by omega) hr10, vM_x10 (L := 1) (L' := 0) (by decide) (i := 0) rfl (by omega) hr10]; exact r2
      · rw [e10, vM_u10 (L := 1) (i := 1) rfl (by omega) hr10, vM_u10 (L := 1) (i := 0) rfl (by omega) hr10, zu_at, zu_at, zu_at, zu_at, (trS_s D rf pl m r).1, (trS_s D rf pl m r).2]
        rw [if_neg (show ¬ (0 : Nat) = 1 by decide), if_pos (show (0 : Nat) = 0 from rfl), if_pos (show (1 : Nat) = 1 from rfl), if_neg (show ¬ (1 : Nat) = 0 by decide), (r3 r hr).1, (r3 r hr).2]
        exact ⟨rfl, rfl⟩)
    (by
      rintro x ⟨r1, r2, r3⟩
      rw [Nat.zero_add]
      have g0 : nI many ≤ nI many := i_le_r _
      dsimp only
      unfold f_M_worth_l62_b f_M_worth_l62_b_ok
      rw [if_pos g0]
      exact ⟨⟨fun _ => trivial, fun z => absurd g0 z⟩, rfl⟩)
  obtain ⟨l1, x, l2, l3, l4, l5⟩ := key2
  have l1 : f_M_worth_l62_ok (nI many) v2 floor F (0, x0) := l1
  have l2 : f_M_worth_l62 (nI many) v2 floor F (0, x0) = (1, nI (0 + many), x) := l2
  rw [l2]
  dsimp only
  unfold f_M_worth_k112_ok f_M_worth_k112
  rw [← eF, ef]
  obtain ⟨X, eX⟩ : ∃ X, X = trS D rf pl many := ⟨_, rfl⟩
  rw [← eX] at l5 ⊢
  have wX : wOK nr X := by rw [eX]; exact tr_ok hnr V T (Nat.le_refl _)
  obtain ⟨sz, esz⟩ : ∃ sz, sz = h.2.1 112 := ⟨_, rfl⟩
  obtain ⟨su, esu⟩ : ∃ su, su = h.2.1 113 := ⟨_, rfl⟩
  rw [← esz, ← esu]
  have fx : fEq nr (vM 1 x) X := fun r hr => by
    rw [(l5 r (by omega)).1, (l5 r (by omega)).2]; exact ⟨Iff.rfl, fun _ => rfl⟩
  have wx1 : wOK nr (vM 1 x) := by
    refine ⟨fun r hr h1 => ?_, fun r q hr hq h1 h2 e => ?_⟩
    · rw [(l5 r (by omega)).1] at h1
      rw [(l5 r (by omega)).2]; exact wX.1 r hr h1
    · rw [(l5 r (by omega)).1] at h1
      rw [(l5 q (by omega)).1] at h2
      rw [(l5 r (by omega)).2, (l5 q (by omega)).2] at e
      exact wX.2 r q hr hq h1 h2 e
  obtain ⟨b, eb⟩ : ∃ b, b = if w = 480 then 479 else w := ⟨_, rfl⟩
  obtain ⟨f1, f2, hb⟩ := ft_now hw S eb
  have key3 := zlpF eF (b := fun t => f_M_worth_l122_b v2 floor t.1 t.2.1 t.2.2) (o := fun t => f_M_worth_l122_b_ok v2 floor t.1 t.2.1 t.2.2) ns (by omega)
    (fun k t => t.1 = tsum X D nr sz su seas k ∧ t.2.1 = nI (f + k) ∧ zWr [123, 124, 151, 152, 153] [(92, 79), (92, 80), (92, 81)] h t.2.2 ∧ vM 0 t.2.2 = D ∧ vM 1 t.2.2 = vM 1 x ∧ tgood X nr sz su seas floor k)
    (fun r => tvl (tgood X nr sz su seas floor ns) (tsum X D nr sz su seas ns) (if r.1 = 1 then -1 else r.2.1) ∧ vM 0 r.2.2.2 = D) (0, nI f, x)
    ⟨rfl, rfl, zWr_tr l3 (by decide) (by decide) (zWr.refl _ _), l4, rfl, fun i hi => by omega⟩
    (by
      rintro k ⟨v4, v5, y⟩ hk ⟨q1, q2, q3, q4, q5, q6⟩
      dsimp only at q1 q2 q3 q4 q5
      subst q1 q2
      have ht : f + k < 480 := by omega
      have g0 : ¬ (zm_rm v2 1000 < nI (f + k)) := by rw [eto, i_lt, i_nI (by omega), i_nI (by omega)]; omega
      have ey : zf y 92 23 = nI w := (q3.fld 92 23 (by decide) (by decide)).trans et
      have Sy := I_sw_z (q3.eq (by decide) (by decide)) S
      obtain ⟨s1, s2⟩ := lk_all Sy (a := b) ht
      rw [q3.arr 107 (by decide) (by decide), q3.arr 111 (by decide) (by decide), f1, f2] at s2
      have eS : seaP y n d (f + k) = seaP h n d (f + k) := seaP_eq (fun i hi => q3.arr i (by simp at hi ⊢; omega) (by simp at hi ⊢; omega)) n d (f + k)
      rw [eS, ← es k hk] at s2
      have hs : rdOK (seas k) := by rw [es k hk]; exact sea_ok S (Nat.le_refl n)
      have lw := f_M_looks_w (nI (f + k)) (nI b) y
      obtain ⟨y1, ey1⟩ : ∃ y1, y1 = f_M_looks (nI (f + k)) (nI b) y := ⟨_, rfl⟩
      rw [← ey1] at s2 lw
      have w1 : zWr [123, 124, 151, 152, 153] [(92, 79), (92, 80), (92, 81)] h y1 := zWr_tr lw (by decide) (by decide) q3
      have v1e : vM 1 y1 = vM 1 x := by
        rw [← q5]
        exact vM_eq (fun i hi => lw.arr i (by simp) (by simp at hi ⊢; omega)) (lw.2 127 (by simp)).2.1
      have v0e : vM 0 y1 = D := by
        rw [← q4]
        exact vM_eq (fun i hi => lw.arr i (by simp) (by simp at hi ⊢; omega)) (lw.2 127 (by simp)).2.1
      have y112 : y1.2.1 112 = sz := by rw [w1.arr 112 (by decide) (by decide)]; exact esz.symm
      have y113 : y1.2.1 113 = su := by rw [w1.arr 113 (by decide) (by decide)]; exact esu.symm
      obtain ⟨d1, d2, d3, d4⟩ := wv_M (L := 1) hnr (by omega) (h := y1) ((w1.fld 92 33 (by decide) (by decide)).trans e33) (by rw [v1e]; exact wx1) (fun r hr => by rw [y112, y113, esz, esu]; exact hz r hr) hs s2
      rw [v1e, y112, y113, (fEq_wv fx sz su (seas k)).1] at d3
      rw [v1e, y112, y113, (fEq_wv fx sz su (seas k)).2] at d4
      rw [show nI 1 = (1 : Int32) from rfl] at d1 d2 d3 d4
      obtain ⟨z, ez⟩ : ∃ z, z = f_M_waves 1 y1 := ⟨_, rfl⟩
      rw [← ez] at d2 d3 d4
      have wz : zWr [123, 124, 151, 152, 153] [(92, 79), (92, 80), (92, 81)] h z := zWr_tr d2 (by decide) (by decide) w1
      have z1e : vM 1 z = vM 1 x := by
        rw [← v1e]
        exact vM_eq (fun i hi => d2.arr i (by simp at hi ⊢; omega) (by simp)) (d2.2 127 (by simp)).2.1
      have z0e : vM 0 z = D := by
        rw [← v0e]
        exact vM_eq (fun i hi => d2.arr i (by simp at hi ⊢; omega) (by simp)) (d2.2 127 (by simp)).2.1
      have opz : zf z 92 79 * zf z 92 79 * zf z 92 80 = opS (seas k) := by
        rw [show zf z 92 79 = zf y1 92 79 from d2.fld 92 79 (by decide) (by decide), show zf z 92 80 = zf y1 92 80 from d2.fld 92 80 (by decide) (by decide), s2.1, s2.2.1]
      have z33 : zf z 92 33 = nI nr := (wz.fld 92 33 (by decide) (by decide)).trans e33
      show f_M_worth_l122_b_ok v2 floor (tsum X D nr sz su seas k) (nI (f + k)) y ∧ _
      unfold f_M_worth_l122_b f_M_worth_l122_b_ok f_M_worth_l122_k142 f_M_worth_l122_k142_ok f_M_worth_l122_k147 f_M_worth_l122_k147_ok
      dsimp only
      rw [if_neg g0, ey, lkn hw eb, ← ey1, ← ez, opz, ← eF]
      have keyB := zlpF eF (b := fun t => f_M_worth_l122_l166_b v2 floor (tsum X D nr sz su seas k) (nI (f + k)) (opS (seas k)) t z) (o := fun t => f_M_worth_l122_l166_b_ok v2 floor (tsum X D nr sz su seas k) (nI (f + k)) (opS (seas k)) t z) 10 (by omega)
        (fun c t => t = nI c ∧ ∀ u, u < c → floor * opS (seas k) ≤ 100 * z.2.1 151 u)
        (fun r => (r.1 = 1 ∧ ¬ kbP (z.2.1 151) floor (opS (seas k))) ∨ (¬ r.1 = 1 ∧ kbP (z.2.1 151) floor (opS (seas k)))) 0
        ⟨rfl, fun c hc => by omega⟩
        (by
          rintro c t hc ⟨rfl, q⟩
          have g1 : ¬ ((10 : Int32) ≤ nI c) := by rw [show (10 : Int32) = nI 10 from rfl, nx_le (by omega) (by omega)]; omega
          have ic : vp_in (nI c) 10 := vp_in_nI hc (by omega)
          show f_M_worth_l122_l166_b_ok v2 floor (tsum X D nr sz su seas k) (nI (f + k)) (opS (seas k)) (nI c) z ∧ _
          unfold f_M_worth_l122_l166_b f_M_worth_l122_l166_b_ok
          rw [if_neg g1, zr_n z 151 (by omega), ← nI_succ]
          refine ⟨⟨fun z => absurd z g1, fun _ => ic⟩, ?_⟩
          by_cases e : floor * opS (seas k) ≤ 100 * zf z 151 c
          · rw [if_pos e]
            refine Or.inl ⟨rfl, rfl, fun u hu => ?_⟩
            by_cases eu : u = c
            · rw [eu]; exact e
            · exact q u (by omega)
          · rw [if_neg e]
            exact Or.inr ⟨by simp, Or.inl ⟨rfl, fun v => e (v c hc)⟩⟩)
        (by
          rintro t ⟨rfl, q⟩
          have g1 : (10 : Int32) ≤ nI 10 := by decide
          show f_M_worth_l122_l166_b_ok v2 floor (tsum X D nr sz su seas k) (nI (f + k)) (opS (seas k)) (nI 10) z ∧ _
          unfold f_M_worth_l122_l166_b f_M_worth_l122_l166_b_ok
          rw [if_pos g1]
          exact ⟨⟨fun _ => trivial, fun z => absurd g1 z⟩, by simp, Or.inr ⟨by simp, q⟩⟩)
      obtain ⟨b1, b2⟩ := keyB
      obtain ⟨rb, erb⟩ : ∃ rb, rb = f_M_worth_l122_l166 v2 floor (tsum X D nr sz su seas k) (nI (f + k)) (opS (seas k)) z F 0 := ⟨_, rfl⟩
      have b2 : (rb.1 = 1 ∧ ¬ kbP (z.2.1 151) floor (opS (seas k))) ∨ (¬ rb.1 = 1 ∧ kbP (z.2.1 151) floor (opS (seas k))) := by rw [erb]; exact b2
      rw [kbP_ext d3] at b2
      rw [← erb]
      unfold f_M_worth_l122_a166 f_M_worth_l122_a166_ok f_M_worth_l122_k198 f_M_worth_l122_k198_ok
      rw [← eF]
      rcases b2 with ⟨c, no⟩ | ⟨c, good⟩
      · rw [if_pos c]
        refine ⟨⟨fun v => absurd v g0, fun _ => ⟨s1, d1, b1, fun _ => trivial, fun v => absurd c v⟩⟩, Or.inr ⟨by simp, ?_, z0e⟩⟩
        dsimp only
        rw [if_pos rfl]
        exact Or.inr ⟨fun v => no (v k hk), rfl⟩
      · rw [if_neg c]
        have keyC := zlpF eF (b := fun t => f_M_worth_l122_l201_b v2 floor t.1 (nI (f + k)) (opS (seas k)) t.2 z) (o := fun t => f_M_worth_l122_l201_b_ok v2 floor t.1 (nI (f + k)) (opS (seas k)) t.2 z) nr (by omega)
          (fun r t => t = (pwS D (wvT X nr sz su (seas k)) r (tsum X D nr sz su seas k), nI r))
          (fun r => r.2.1 = pwS D (wvT X nr sz su (seas k)) nr (tsum X D nr sz su seas k)) (tsum X D nr sz su seas k, 0)
          rfl
          (by
            rintro r t hr rfl
            have g2 : ¬ (zf z 92 33 ≤ nI r) := by rw [z33, nx_le (by omega) (by omega)]; omega
            have ir : vp_in (nI r) 10 := vp_in_nI (by omega) (by omega)
            have z53 : zr z 153 (nI r) = wvT X nr sz su (seas k) r := by rw [zr_n z 153 (by omega)]; exact d4 r (by omega)
            obtain ⟨m1, m2⟩ := lek_M (h := z) (L := 0) (r := r) (by omega) (by omega)
            rw [show 10 * 0 + r = r by omega] at m1 m2
            rw [z0e] at m2
            show f_M_worth_l122_l201_b_ok v2 floor _ (nI (f + k)) (opS (seas k)) (nI r) z ∧ _
            unfold f_M_worth_l122_l201_b f_M_worth_l122_l201_b_ok
            dsimp only
            rw [if_neg g2, z53, m2, ← nI_succ]
            exact ⟨⟨fun v => absurd v g2, fun _ => ⟨ir, m1⟩⟩, Or.inl ⟨rfl, rfl⟩⟩)
          (by
            rintro t rfl
            have g2 : zf z 92 33 ≤ nI nr := by rw [z33]; exact i_le_r _
            show f_M_worth_l122_l201_b_ok v2 floor _ (nI (f + k)) (opS (seas k)) (nI nr) z ∧ _
            unfold f_M_worth_l122_l201_b f_M_worth_l122_l201_b_ok
            dsimp only
            rw [if_pos g2]
            exact ⟨⟨fun _ => trivial, fun v => absurd g2 v⟩, by simp, rfl⟩)
        obtain ⟨m1, m2⟩ := keyC
        obtain ⟨r, er⟩ : ∃ r, r = f_M_worth_l122_l201 v2 floor (nI (f + k)) (opS (seas k)) z F (tsum X D nr sz su seas k, 0) := ⟨_, rfl⟩
        have m2 : r.2.1 = pwS D (wvT X nr sz su (seas k)) nr (tsum X D nr sz su seas k) := by rw [er]; exact m2
        unfold f_M_worth_l122_a201 f_M_worth_l122_k241
        rw [← er, m2, ← nI_succ]
        refine ⟨⟨fun v => absurd v g0, fun _ => ⟨s1, d1, b1, fun v => absurd v c, fun _ => ⟨m1, trivial⟩⟩⟩, Or.inl ⟨rfl, rfl, rfl, wz, z0e, z1e, fun i hi => ?_⟩⟩
        by_cases e : i = k
        · rw [e]; exact good
        · exact q6 i (by omega))
    (by
      rintro ⟨v4, v5, y⟩ ⟨q1, q2, q3, q4, q5, q6⟩
      dsimp only at q1 q2 q3 q4 q5
      subst q1 q2
      have g0 : zm_rm v2 1000 < nI (f + ns) := by rw [eto, i_lt, i_nI (by omega), i_nI (by omega)]; omega
      show f_M_worth_l122_b_ok v2 floor _ (nI (f + ns)) y ∧ _
      unfold f_M_worth_l122_b f_M_worth_l122_b_ok
      dsimp only
      rw [if_pos g0]
      refine ⟨⟨fun _ => trivial, fun v => absurd g0 v⟩, by simp, ?_, q4⟩
      dsimp only
      rw [if_neg (by decide)]
      exact Or.inl ⟨q6, rfl⟩)
  obtain ⟨m1, m2, m3⟩ := key3
  obtain ⟨r, er⟩ : ∃ r, r = f_M_worth_l122 v2 floor F (0, nI f, x) := ⟨_, rfl⟩
  have m2 : tvl (tgood X nr sz su seas floor ns) (tsum X D nr sz su seas ns) (if r.1 = 1 then -1 else r.2.1) := by rw [er]; exact m2
  have m3 : vM 0 r.2.2.2 = D := by rw [er]; exact m3
  rw [← er]
  unfold f_M_worth_a122 f_M_worth_a122_ok f_M_worth_k190 f_M_worth_k247
  refine ⟨⟨k1, l1, m1, fun _ => trivial, fun _ => trivial⟩, ?_⟩
  by_cases c : r.1 = 1
  · rw [if_pos c] at m2 ⊢; exact ⟨m2, m3⟩
  · rw [if_neg c] at m2 ⊢; exact ⟨m2, m3⟩
