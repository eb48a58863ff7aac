/-! ===== a PLAN: the model's best, all WINDOWS ===== -/
theorem bo_w {J m : Nat} (hJ : J ≤ 6) (hm : m ≤ 40) {L V S : Nat → Nat} {mu : Nat → Int32} (hL : ∀ j, j < J → L j ≤ 16) (hV : ∀ j, j < J → 1 ≤ V j ∧ V j ≤ 999) (hS : ∀ w, w < m → S w < 1000) {x : zm_H} (H : I_mj J m L V S mu x) {k : Nat} (hk : k < m) (p0 : ∀ u, u < 2 ^ J → gsP (fzM J L S mu k u) (sm (gvl L V) u.testBit J) (x.2.1 157 u)) {F : Nat} (eF : F = zF) (v1 : Int32) (g1 : ¬ (v1 ≤ nI k)) : f_M_bestOf_l37_b_ok v1 (nI (2 ^ J)) (nI k) x ∧ ∃ y, f_M_bestOf_l37_b v1 (nI (2 ^ J)) (nI k) x = (0, nI (k + 1), y) ∧ zWr [157, 158] [] x y ∧ ∀ u, u < 2 ^ J → gsP (fzM J L S mu (k + 1) u) (sm (gvl L V) u.testBit J) (y.2.1 157 u) := by
  have h64 := p2_le hJ
  unfold f_M_bestOf_l37_b_ok f_M_bestOf_l37_b f_M_bestOf_l37_a45_ok f_M_bestOf_l37_a45
  rw [if_neg g1, ← eF]
  obtain ⟨a1, h1, a2, a3, a4⟩ := zfill eF (b := fun t => f_M_bestOf_l37_l45_b v1 (nI (2 ^ J)) (nI k) t.1 t.2) (o := fun t => f_M_bestOf_l37_l45_b_ok v1 (nI (2 ^ J)) (nI k) t.1 t.2) 158 (2 ^ J) (by omega) (fun s => x.2.1 157 s) x
    (fun s g hs wg => by
      have g0 : ¬ (nI (2 ^ J) ≤ nI s) := by rw [nx_le (by omega) (by omega)]; omega
      have is : vp_in (nI s) 64 := vp_in_nI (by omega) (by omega)
      refine ⟨⟨fun z => absurd z g0, fun _ => ⟨is, is⟩⟩, ?_⟩
      dsimp only
      unfold f_M_bestOf_l37_l45_b
      rw [if_neg g0, zs_n _ 158 _ (by omega), zr_n g 157 (by omega), zf, wg.arr 157 (by decide) (by decide), ← nI_succ])
    (fun g _ => by
      have g0 : nI (2 ^ J) ≤ nI (2 ^ J) := i_le_r _
      refine ⟨⟨fun _ => trivial, fun z => absurd g0 z⟩, ?_⟩
      dsimp only
      unfold f_M_bestOf_l37_l45_b
      rw [if_pos g0])
  have a1 : f_M_bestOf_l37_l45_ok v1 (nI (2 ^ J)) (nI k) F (0, x) := a1
  have a2 : f_M_bestOf_l37_l45 v1 (nI (2 ^ J)) (nI k) F (0, x) = (1, nI (2 ^ J), h1) := a2
  rw [a2]
  dsimp only
  unfold f_M_bestOf_l37_k71_ok f_M_bestOf_l37_k71 f_M_bestOf_l37_a74_ok f_M_bestOf_l37_a74
  rw [← eF]
  have key := zlp_k eF (b := fun t => f_M_bestOf_l37_l74_b v1 (nI (2 ^ J)) (nI k) t.1 t.2) (o := fun t => f_M_bestOf_l37_l74_b_ok v1 (nI (2 ^ J)) (nI k) t.1 t.2) (2 ^ J) (by omega) 0
    (fun s y => zWr [158] [] x y ∧ ∀ u, u < 2 ^ J → gsP (dpM J L S mu k s 1 u) (sm (gvl L V) u.testBit J) (y.2.1 158 u)) h1
    ⟨a3, fun u hu => by
      rw [a4 u, if_pos hu]
      exact gsP_iff dpM_0 (p0 u hu)⟩
    (by
      rintro s y hs ⟨r1, r2⟩
      rw [Nat.zero_add]
      have g0 : ¬ (nI (2 ^ J) ≤ nI s) := by rw [nx_le (by omega) (by omega)]; omega
      have is : vp_in (nI s) 64 := vp_in_nI (by omega) (by omega)
      have y7 : y.2.1 157 s = x.2.1 157 s := by rw [r1.arr 157 (by decide) (by decide)]
      have gl1 := gv_le (L := L) hJ hV s
      dsimp only
      unfold f_M_bestOf_l37_l74_b f_M_bestOf_l37_l74_b_ok f_M_bestOf_l37_l74_a96 f_M_bestOf_l37_l74_k173
      rw [if_neg g0, zr_n y 157 (by omega), zf, y7, ← eF]
      rcases p0 s hs with ⟨c, e⟩ | ⟨c, e⟩
      · have g2 : (0 : Int32) ≤ x.2.1 157 s := by rw [e, i_le, i_nI (by omega), i_0]; omega
        obtain ⟨d1, z, d2, d3, d4⟩ := bo_h hJ hm hL hV hS (I_mj_w (zWr_tr r1 (by decide) (by decide) (zWr.refl _ _)) H) hk hs c (y7.trans e) r2 eF v1
        rw [if_pos g2, d2, ← nI_succ]
        exact ⟨⟨fun z => absurd z g0, fun _ => ⟨is, fun _ => ⟨d1, trivial⟩, fun z => absurd g2 z⟩⟩, _, rfl, zWr_tr d3 (by decide) (by decide) r1, d4⟩
      · have g2 : ¬ ((0 : Int32) ≤ x.2.1 157 s) := by rw [e]; decide
        rw [if_neg g2, ← nI_succ]
        exact ⟨⟨fun z => absurd z g0, fun _ => ⟨is, fun z => absurd z g2, fun _ => trivial⟩⟩, _, rfl, r1, fun u hu => gsP_iff (dpM_k c) (r2 u hu)⟩)
    (by
      rintro y ⟨r1, r2⟩
      rw [Nat.zero_add]
      have g0 : nI (2 ^ J) ≤ nI (2 ^ J) := i_le_r _
      dsimp only
      unfold f_M_bestOf_l37_l74_b f_M_bestOf_l37_l74_b_ok
      rw [if_pos g0]
      exact ⟨⟨fun _ => trivial, fun z => absurd g0 z⟩, rfl⟩)
  obtain ⟨k1, h2, k2, k3, k4⟩ := key
  have k1 : f_M_bestOf_l37_l74_ok v1 (nI (2 ^ J)) (nI k) F (0, h1) := k1
  have k2 : f_M_bestOf_l37_l74 v1 (nI (2 ^ J)) (nI k) F (0, h1) = (1, nI (0 + 2 ^ J), h2) := k2
  rw [k2]
  dsimp only
  unfold f_M_bestOf_l37_k179_ok f_M_bestOf_l37_k179 f_M_bestOf_l37_a182 f_M_bestOf_l37_k208
  rw [← eF]
  obtain ⟨b1, h3, b2, b3, b4⟩ := zfill eF (b := fun t => f_M_bestOf_l37_l182_b v1 (nI (2 ^ J)) (nI k) t.1 t.2) (o := fun t => f_M_bestOf_l37_l182_b_ok v1 (nI (2 ^ J)) (nI k) t.1 t.2) 157 (2 ^ J) (by omega) (fun s => h2.2.1 158 s) h2
    (fun s g hs wg => by
      have g0 : ¬ (nI (2 ^ J) ≤ nI s) := by rw [nx_le (by omega) (by omega)]; omega
      have is : vp_in (nI s) 64 := vp_in_nI (by omega) (by omega)
      refine ⟨⟨fun z => absurd z g0, fun _ => ⟨is, is⟩⟩, ?_⟩
      dsimp only
      unfold f_M_bestOf_l37_l182_b
      rw [if_neg g0, zs_n _ 157 _ (by omega), zr_n g 158 (by omega), zf, wg.arr 158 (by decide) (by decide), ← nI_succ])
    (fun g _ => by
      have g0 : nI (2 ^ J) ≤ nI (2 ^ J) := i_le_r _
      refine ⟨⟨fun _ => trivial, fun z => absurd g0 z⟩, ?_⟩
      dsimp only
      unfold f_M_bestOf_l37_l182_b
      rw [if_pos g0])
  have b1 : f_M_bestOf_l37_l182_ok v1 (nI (2 ^ J)) (nI k) F (0, h2) := b1
  have b2 : f_M_bestOf_l37_l182 v1 (nI (2 ^ J)) (nI k) F (0, h2) = (1, nI (2 ^ J), h3) := b2
  rw [b2, ← nI_succ]
  refine ⟨⟨fun z => absurd z g1, fun _ => ⟨a1, k1, b1, trivial⟩⟩, _, rfl, zWr_tr b3 (by decide) (by decide) (zWr_tr k3 (by decide) (by decide) (zWr.refl _ _)), fun u hu => ?_⟩
  rw [b4 u, if_pos hu]
  exact gsP_iff (dpM_e hJ hu) (k4 u hu)
def okb (m : Nat) (mu : Nat → Int32) (s i : Nat) : Prop := mu i = -1 ∨ (mu i = nI m ↔ s.testBit i = false)
def inF (J m : Nat) (L S : Nat → Nat) (mu : Nat → Int32) (s : Nat) : Prop := fzM J L S mu m s ∧ ∀ i, i < J → okb m mu s i
def bstP (J m : Nat) (L V S : Nat → Nat) (mu : Nat → Int32) (N : Nat) (B : Int32) : Prop := (B = -1 ∧ ∀ s, s < N → ¬ inF J m L S mu s) ∨ ∃ s, s < N ∧ inF J m L S mu s ∧ B = nI (sm (gvl L V) s.testBit J) ∧ ∀ t, t < N → inF J m L S mu t → sm (gvl L V) t.testBit J ≤ sm (gvl L V) s.testBit J
/-- may a set stand -/
theorem bo_i {J m : Nat} (hJ : J ≤ 6) {L V S : Nat → Nat} {mu : Nat → Int32} {x : zm_H} (H : I_mj J m L V S mu x) {s : Nat} (hs : s < 2 ^ J) {F : Nat} (eF : F = zF) (v2 v3 : Int32) (v : Int32) (h01 : v = 0 ∨ v = 1) : f_M_bestOf_l219_l245_ok (nI m) v2 v3 (nI s) x F (v, 0) ∧ ((f_M_bestOf_l219_l245 (nI m) v2 v3 (nI s) x F (v, 0)).2.1 = 0 ↔ ¬ (v = 1 ∧ ∀ i, i < J → okb m mu s i)) := by
  obtain ⟨eJ, eA, eW, eM⟩ := H
  have h64 := p2_le hJ
  have key := zlpF eF (b := fun t => f_M_bestOf_l219_l245_b (nI m) v2 v3 (nI s) t.1 t.2 x) (o := fun t => f_M_bestOf_l219_l245_b_ok (nI m) v2 v3 (nI s) t.1 t.2 x) J (by omega)
    (fun k t => t.2 = nI k ∧ (t.1 = 0 ↔ ¬ (v = 1 ∧ ∀ i, i < k → okb m mu s i)))
    (fun r => r.2.1 = 0 ↔ ¬ (v = 1 ∧ ∀ i, i < J → okb m mu s i)) (v, 0)
    ⟨rfl, by
      rcases h01 with e | e
      · subst e; exact ⟨fun _ z => absurd z.1 (by decide), fun _ => rfl⟩
      · subst e; exact ⟨fun z => absurd z (by decide), fun z => absurd ⟨rfl, fun i hi => by omega⟩ z⟩⟩
    (by
      rintro k ⟨t1, t2⟩ hk ⟨rfl, q⟩
      dsimp only at q
      have g0 : ¬ (zf x 92 72 ≤ nI k) := by rw [eJ, nx_le (by omega) (by omega)]; omega
      have ik : vp_in (nI k) 6 := vp_in_nI (by omega) (by omega)
      have e6 : zr x 156 (nI k) = mu k := by rw [zr_n x 156 (by omega)]; exact eM k hk
      have bb := b_bit s (by omega) k (by omega)
      show f_M_bestOf_l219_l245_b_ok (nI m) v2 v3 (nI s) t1 (nI k) x ∧ _
      unfold f_M_bestOf_l219_l245_b f_M_bestOf_l219_l245_b_ok
      dsimp only
      rw [if_neg g0, e6, ← nI_succ]
      refine ⟨⟨fun z => absurd z g0, fun _ => ⟨fun _ => trivial, fun _ => ⟨ik, fun _ => trivial, fun _ => ik⟩⟩⟩, Or.inl ⟨rfl, rfl, ?_⟩⟩
      have ee : ((if mu k = nI m then (1 : Int32) else 0) = (if ((nI s >>> (nI k &&& 31)) &&& 1) = 0 then (1 : Int32) else 0)) ↔ (mu k = nI m ↔ s.testBit k = false) := by
        by_cases c1 : mu k = nI m
        · by_cases c2 : (nI s >>> (nI k &&& 31)) &&& 1 = 0
          · rw [if_pos c1, if_pos c2]; exact ⟨fun _ => ⟨fun _ => bb.mp c2, fun _ => c1⟩, fun _ => rfl⟩
          · rw [if_pos c1, if_neg c2]; exact ⟨fun z => absurd z (by decide), fun z => absurd (bb.mpr (z.mp c1)) c2⟩
        · by_cases c2 : (nI s >>> (nI k &&& 31)) &&& 1 = 0
          · rw [if_neg c1, if_pos c2]; exact ⟨fun z => absurd z (by decide), fun z => absurd (z.mpr (bb.mp c2)) c1⟩
          · rw [if_neg c1, if_neg c2]; exact ⟨fun _ => ⟨fun z => absurd z c1, fun z => absurd (bb.mpr z) c2⟩, fun _ => rfl⟩
      have cc : (¬ t1 = 0 ∧ (mu k = -1 ∨ (if mu k = nI m then (1 : Int32) else 0) = (if ((nI s >>> (nI k &&& 31)) &&& 1) = 0 then (1 : Int32) else 0))) ↔ (¬ t1 = 0 ∧ okb m mu s k) := by
        unfold okb
        rw [ee]
      have suc : (v = 1 ∧ ∀ i, i < k + 1 → okb m mu s i) ↔ ((v = 1 ∧ ∀ i, i < k → okb m mu s i) ∧ okb m mu s k) := by
        constructor
        · rintro ⟨z1, z2⟩; exact ⟨⟨z1, fun i hi => z2 i (by omega)⟩, z2 k (by omega)⟩
        · rintro ⟨⟨z1, z2⟩, z3⟩
          refine ⟨z1, fun i hi => ?_⟩
          by_cases e : i = k
          · rw [e]; exact z3
          · exact z2 i (by omega)
      rw [suc]
      by_cases c0 : (¬ t1 = 0 ∧ (mu k = -1 ∨ (if mu k = nI m then (1 : Int32) else 0) = (if ((nI s >>> (nI k &&& 31)) &&& 1) = 0 then (1 : Int32) else 0)))
      · rw [if_pos c0]
        have c := cc.mp c0
        refine ⟨fun z => absurd (show (1 : Int32) = 0 from z) (by decide), fun z => ?_⟩
        exact absurd ⟨Classical.byContradiction (fun y => c.1 (q.mpr y)), c.2⟩ z
      · rw [if_neg c0]
        have c : ¬ (¬ t1 = 0 ∧ okb m mu s k) := fun z => c0 (cc.mpr z)
        exact ⟨fun _ z => c ⟨fun y => (q.mp y) z.1, z.2⟩, fun _ => rfl⟩)
    (by
      rintro ⟨t1, t2⟩ ⟨rfl, q⟩
      dsimp only at q
      have g0 : zf x 92 72 ≤ nI J := by rw [eJ]; exact i_le_r _
      show f_M_bestOf_l219_l245_b_ok (nI m) v2 v3 (nI s) t1 (nI J) x ∧ _
      unfold f_M_bestOf_l219_l245_b f_M_bestOf_l219_l245_b_ok
      dsimp only
      rw [if_pos g0]
      exact ⟨⟨fun _ => trivial, fun z => absurd g0 z⟩, by simp, q⟩)
  exact key
theorem bo_M {J m : Nat} (hJ : J ≤ 6) (hm : m ≤ 40) {L V S : Nat → Nat} {mu : Nat → Int32} (hL : ∀ j, j < J → L j ≤ 16) (hV : ∀ j, j < J → 1 ≤ V j ∧ V j ≤ 999) (hS : ∀ w, w < m → S w < 1000) {h : zm_H} (H : I_mj J m L V S mu h) : f_M_bestOf_ok (nI m) h ∧ zWr [157, 158] [] h (f_M_bestOf (nI m) h).2 ∧ bstP J m L V S mu (2 ^ J) (f_M_bestOf (nI m) h).1 := by
  have h64 := p2_le hJ
  have h0 : 0 < 2 ^ J := Nat.pow_pos (by omega)
  unfold f_M_bestOf_ok f_M_bestOf f_M_bestOf_a9_ok f_M_bestOf_a9
  rw [H.1, b_shl J (by omega)]
  obtain ⟨F, eF, -⟩ := zF_ex
  rw [← eF]
  obtain ⟨a1, h1, a2, a3, a4⟩ := zfill eF (b := fun t => f_M_bestOf_l9_b (nI m) (nI (2 ^ J)) t.1 t.2) (o := fun t => f_M_bestOf_l9_b_ok (nI m) (nI (2 ^ J)) t.1 t.2) 157 (2 ^ J) (by omega) (fun s => if s = 0 then 0 else -1) h
    (fun s g hs wg => by
      have g0 : ¬ (nI (2 ^ J) ≤ nI s) := by rw [nx_le (by omega) (by omega)]; omega
      have is : vp_in (nI s) 64 := vp_in_nI (by omega) (by omega)
      have e0 : nI s = 0 ↔ s = 0 := by rw [i_eq, i_nI (by omega), i_0]; omega
      refine ⟨⟨fun z => absurd z g0, fun _ => is⟩, ?_⟩
      dsimp only
      unfold f_M_bestOf_l9_b
      rw [if_neg g0, zs_n _ 157 _ (by omega), ← nI_succ]
      by_cases c : s = 0
      · rw [if_pos c, if_pos (e0.mpr c)]
      · rw [if_neg c, if_neg (fun z => c (e0.mp z))])
    (fun g _ => by
      have g0 : nI (2 ^ J) ≤ nI (2 ^ J) := i_le_r _
      refine ⟨⟨fun _ => trivial, fun z => absurd g0 z⟩, ?_⟩
      dsimp only
      unfold f_M_bestOf_l9_b
      rw [if_pos g0])
  have a1 : f_M_bestOf_l9_ok (nI m) (nI (2 ^ J)) F (0, h) := a1
  have a2 : f_M_bestOf_l9 (nI m) (nI (2 ^ J)) F (0, h) = (1, nI (2 ^ J), h1) := a2
  rw [a2]
  dsimp only
  unfold f_M_bestOf_k35_ok f_M_bestOf_k35 f_M_bestOf_a37_ok f_M_bestOf_a37
  rw [← eF]
  have key := zlp_k eF (b := fun t => f_M_bestOf_l37_b (nI m) (nI (2 ^ J)) t.1 t.2) (o := fun t => f_M_bestOf_l37_b_ok (nI m) (nI (2 ^ J)) t.1 t.2) m (by omega) 0
    (fun k x => zWr [157, 158] [] h x ∧ ∀ u, u < 2 ^ J → gsP (fzM J L S mu k u) (sm (gvl L V) u.testBit J) (x.2.1 157 u)) h1
    ⟨zWr_tr a3 (by decide) (by decide) (zWr.refl _ _), fun u hu => by
      rw [a4 u, if_pos hu]
      by_cases c : u = 0
      · rw [if_pos c]
        exact Or.inl ⟨(fz_z hu).mpr c, by rw [c, sm_z]; rfl⟩
      · rw [if_neg c]
        exact Or.inr ⟨fun z => c ((fz_z hu).mp z), rfl⟩⟩
    (by
      rintro k x hk ⟨r1, r2⟩
      rw [Nat.zero_add]
      have g1 : ¬ (nI m ≤ nI k) := by rw [nx_le (by omega) (by omega)]; omega
      obtain ⟨d1, y, d2, d3, d4⟩ := bo_w hJ hm hL hV hS (I_mj_w r1 H) hk r2 eF (nI m) g1
      exact ⟨d1, y, d2, zWr_tr d3 (by decide) (by decide) r1, d4⟩)
    (by
      rintro x ⟨r1, r2⟩
      rw [Nat.zero_add]
      have g0 : nI m ≤ nI m := i_le_r _
      dsimp only
      unfold f_M_bestOf_l37_b f_M_bestOf_l37_b_ok
      rw [if_pos g0]
      exact ⟨⟨fun _ => trivial, fun z => absurd g0 z⟩, rfl⟩)
  obtain ⟨k1, x, k2, k3, k4⟩ := key
  have k1 : f_M_bestOf_l37_ok (nI m) (nI (2 ^ J)) F (0, h1) := k1
  have k2 : f_M_bestOf_l37 (nI m) (nI (2 ^ J)) F (0, h1) = (1, nI (0 + m), x) := k2
  rw [k2]
  dsimp only
  unfold f_M_bestOf_k214_ok f_M_bestOf_k214 f_M_bestOf_a219 f_M_bestOf_k347
  rw [← eF]
  have Hx := I_mj_w k3 H
  have key2 := zlpF eF (b := fun t => f_M_bestOf_l219_b (nI m) (nI (2 ^ J)) t.1 t.2 x) (o := fun t => f_M_bestOf_l219_b_ok (nI m) (nI (2 ^ J)) t.1 t.2 x) (2 ^ J) (by omega)
    (fun s t => t.2 = nI s ∧ bstP J m L V S mu s t.1) (fun r => bstP J m L V S mu (2 ^ J) r.2.1) (-1, 0)
    ⟨rfl, Or.inl ⟨rfl, fun s hs => by omega⟩⟩
    (by
      rintro s ⟨t1, t2⟩ hs ⟨rfl, q⟩
      dsimp only at q
      have g0 : ¬ (nI (2 ^ J) ≤ nI s) := by rw [nx_le (by omega) (by omega)]; omega
      have is : vp_in (nI s) 64 := vp_in_nI (by omega) (by omega)
      have gl1 := gv_le (L := L) hJ hV s
      obtain ⟨v, ev⟩ : ∃ v, v = if ¬ (zr x 157 (nI s) < 0) then (1 : Int32) else 0 := ⟨_, rfl⟩
      have v01 : v = 0 ∨ v = 1 := by rw [ev]; split <;> simp
      have v1 : v = 1 ↔ fzM J L S mu m s := by
        rw [ev, zr_n x 157 (by omega), zf]
        rcases k4 s hs with ⟨c, e⟩ | ⟨c, e⟩
        · rw [e, if_pos (by rw [i_lt, i_nI (by omega), i_0]; omega)]; exact ⟨fun _ => c, fun _ => rfl⟩
        · rw [e, if_neg (by decide)]; exact ⟨fun z => absurd z (by decide), fun z => absurd z c⟩
      obtain ⟨d1, d2⟩ := bo_i hJ Hx hs eF (nI (2 ^ J)) t1 v v01
      obtain ⟨r, er⟩ : ∃ r, r = f_M_bestOf_l219_l245 (nI m) (nI (2 ^ J)) t1 (nI s) x F (v, 0) := ⟨_, rfl⟩
      rw [← er] at d2
      have d2 : r.2.1 = 0 ↔ ¬ inF J m L S mu s := by rw [d2, v1]; exact Iff.rfl
      show f_M_bestOf_l219_b_ok (nI m) (nI (2 ^ J)) t1 (nI s) x ∧ _
      unfold f_M_bestOf_l219_b f_M_bestOf_l219_b_ok f_M_bestOf_l219_a245 f_M_bestOf_l219_a245_ok
      dsimp only
      rw [if_neg g0, ← eF, ← ev, ← er]
      unfold f_M_bestOf_l219_k317 f_M_bestOf_l219_k317_ok
      rw [zr_n x 157 (by omega), ← nI_succ]
      refine ⟨⟨fun z => absurd z g0, fun _ => ⟨is, d1, fun _ => trivial, fun _ => ⟨is, fun _ => trivial, fun _ => is⟩⟩⟩, Or.inl ⟨rfl, rfl, ?_⟩⟩
      dsimp only
      by_cases c : r.2.1 = 0
      · rw [if_pos c]
        have no := d2.mp c
        rcases q with ⟨q1, q2⟩ | ⟨s0, q1, q2, q3, q4⟩
        · refine Or.inl ⟨q1, fun u hu => ?_⟩
          by_cases e : u = s
          · rw [e]; exact no
          · exact q2 u (by omega)
        · refine Or.inr ⟨s0, by omega, q2, q3, fun u hu hf => ?_⟩
          by_cases e : u = s
          · rw [e] at hf; exact absurd hf no
          · exact q4 u (by omega) hf
      · rw [if_neg c]
        have yes : inF J m L S mu s := Classical.byContradiction (fun z => c (d2.mpr z))
        have es : zf x 157 s = nI (sm (gvl L V) s.testBit J) := by
          rcases k4 s hs with ⟨-, e⟩ | ⟨w, -⟩
          · exact e
          · exact absurd yes.1 w
        rw [es]
        rcases q with ⟨q1, q2⟩ | ⟨s0, q1, q2, q3, q4⟩
        · rw [q1, if_neg (by rw [i_le, i_nI (by omega), i_m1]; omega)]
          refine Or.inr ⟨s, by omega, yes, rfl, fun u hu hf => ?_⟩
          by_cases e : u = s
          · rw [e]; exact Nat.le_refl _
          · exact absurd hf (q2 u (by omega))
        · have gl0 := gv_le (L := L) hJ hV s0
          have gi : nI (sm (gvl L V) s.testBit J) ≤ t1 ↔ sm (gvl L V) s.testBit J ≤ sm (gvl L V) s0.testBit J := by rw [q3, nx_le (by omega) (by omega)]
          by_cases l : nI (sm (gvl L V) s.testBit J) ≤ t1
          · rw [if_pos l]
            refine Or.inr ⟨s0, by omega, q2, q3, fun u hu hf => ?_⟩
            by_cases e : u = s
            · rw [e]; exact gi.mp l
            · exact q4 u (by omega) hf
          · rw [if_neg l]
            have l' : ¬ sm (gvl L V) s.testBit J ≤ sm (gvl L V) s0.testBit J := fun z => l (gi.mpr z)
            refine Or.inr ⟨s, by omega, yes, rfl, fun u hu hf => ?_⟩
            by_cases e : u = s
            · rw [e]; exact Nat.le_refl _
            · have := q4 u (by omega) hf
              omega)
    (by
      rintro ⟨t1, t2⟩ ⟨rfl, q⟩
      dsimp only at q
      have g0 : nI (2 ^ J) ≤ nI (2 ^ J) := i_le_r _
      show f_M_bestOf_l219_b_ok (nI m) (nI (2 ^ J)) t1 (nI (2 ^ J)) x ∧ _
      unfold f_M_bestOf_l219_b f_M_bestOf_l219_b_ok
      dsimp only
      rw [if_pos g0]
      exact ⟨⟨fun _ => trivial, fun z => absurd g0 z⟩, by simp, q⟩)
  exact ⟨⟨a1, k1, key2.1, trivial⟩, k3, key2.2⟩
