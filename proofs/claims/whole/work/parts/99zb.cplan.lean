/-! ===== a PLAN: both ===== -/
def I_jb (J : Nat) (L V : Nat → Nat) (h : zm_H) : Prop := J ≤ 6 ∧ zf h 72 2 = nI J ∧ zf h 92 72 = nI J ∧ (∀ j, j < J → L j ≤ 16 ∧ 1 ≤ V j ∧ V j ≤ 999 ∧ h.2.1 73 j = nI (L j) ∧ h.2.1 74 j = nI (V j) ∧ h.2.1 146 j = nI (L j) ∧ h.2.1 147 j = nI (V j)) ∧ h.2.1 78 0 = 0 ∧ h.2.1 79 0 = 0
theorem fz_A {J : Nat} {L : Nat → Nat} {A B : Nat → Nat → Prop} {R : Nat → Nat} {k : Nat} {T : Nat → Bool} (e : ∀ i, i < J → ∀ w, w < k → A i w → B i w) (h : fz J L A R k T) : fz J L B R k T := by
  obtain ⟨f, h1, h2⟩ := h
  exact ⟨f, fun i hi ht => ⟨(h1 i hi ht).1, e i hi _ (h1 i hi ht).1 (h1 i hi ht).2⟩, h2⟩
theorem vl_eq {J : Nat} {L V : Nat → Nat} (hJ : J ≤ 6) (hL : ∀ j, j < J → L j ≤ 16) (hV : ∀ j, j < J → 1 ≤ V j ∧ V j ≤ 999) (s : Nat) : sm (gvl L V) s.testBit J + sm L s.testBit J = 1000 * sm V s.testBit J ∧ sm L s.testBit J ≤ 96 := by
  refine ⟨sm_g J (fun i hi => by have := hL i hi; have := hV i hi; omega), ?_⟩
  have := sm_le (P := s.testBit) J hL
  omega
theorem bst_must {J m k t : Nat} (hJ : J ≤ 6) (hm : m ≤ 40) (hk : k < J) (ht : t ≤ m) {L V S : Nat → Nat} (hL : ∀ j, j < J → L j ≤ 16) (hV : ∀ j, j < J → 1 ≤ V j ∧ V j ≤ 999) {X Y : Nat} (bx : bXY J m L V S X Y) {a : Nat → Nat} (ha : ∀ i, i < k → a i ≤ m) {mu : Nat → Int32} (emu : ∀ i, i < J → mu i = if i < k then nI (a i) else if i = k then nI t else -1) {B : Int32} (hB : bstP J m L V S mu (2 ^ J) B) : B = nI (1000 * X - Y) ↔ Rc J m L V S X Y (asg a k t) (k + 1) := by
  have ha' : ∀ i, i < k + 1 → asg a k t i ≤ m := fun i hi => by
    by_cases e : i = k
    · rw [show asg a k t i = t from if_pos e]; omega
    · rw [show asg a k t i = a i from if_neg e]; exact ha i (by omega)
  obtain ⟨⟨s0, c1, c2, c3, c4⟩, c5⟩ := bx
  have v0 := vl_eq hJ hL hV s0
  have mu1 : ∀ i, i < k + 1 → mu i = nI (asg a k t i) := fun i hi => by
    rw [emu i (by omega)]
    by_cases e : i = k
    · rw [if_neg (by omega), if_pos e, show asg a k t i = t from if_pos e]
    · rw [if_pos (by omega), show asg a k t i = a i from if_neg e]
  have mu2 : ∀ i, i < J → k + 1 ≤ i → mu i = -1 := fun i hi h2 => by rw [emu i hi, if_neg (by omega), if_neg (by omega)]
  have nm : ∀ i, i < k + 1 → ¬ mu i = -1 := fun i hi => by
    have := ha' i hi
    rw [mu1 i hi, i_eq, i_nI (by omega), i_m1]; omega
  have nq : ∀ i, i < k + 1 → ∀ w, w ≤ m → (mu i = nI w ↔ asg a k t i = w) := fun i hi w hw => by
    have := ha' i hi
    rw [mu1 i hi]
    exact ⟨fun z => nI_inj (by omega) (by omega) z, fun z => by rw [z]⟩
  have iF : ∀ s, inF J m L S mu s ↔ (fz J L (fun i w => k + 1 ≤ i ∨ asg a k t i = w) S m s.testBit ∧ ∀ i, i < k + 1 → (asg a k t i = m ↔ s.testBit i = false)) := by
    intro s
    constructor
    · rintro ⟨z1, z2⟩
      refine ⟨fz_A (fun i hi w hw z => ?_) z1, fun i hi => ?_⟩
      · by_cases d : k + 1 ≤ i
        · exact Or.inl d
        · rcases z with z | z
          · exact absurd z (nm i (by omega))
          · exact Or.inr ((nq i (by omega) w (by omega)).mp z)
      · rcases z2 i (by omega) with z | z
        · exact absurd z (nm i hi)
        · rw [← nq i hi m (Nat.le_refl m)]; exact z
    · rintro ⟨z1, z2⟩
      refine ⟨fz_A (fun i hi w hw z => ?_) z1, fun i hi => ?_⟩
      · by_cases d : k + 1 ≤ i
        · exact Or.inl (mu2 i hi d)
        · rcases z with z | z
          · exact absurd z d
          · exact Or.inr ((nq i (by omega) w (by omega)).mpr z)
      · by_cases d : k + 1 ≤ i
        · exact Or.inl (mu2 i hi d)
        · refine Or.inr ?_
          rw [nq i (by omega) m (Nat.le_refl m)]; exact z2 i (by omega)
  rw [Rc_must (by omega) ha']
  constructor
  · intro e
    rcases hB with ⟨z, -⟩ | ⟨s, s1, s2, s3, -⟩
    · exfalso
      rw [e, i_eq, i_nI ?_, i_m1] at z
      · omega
      · have := gv_le (L := L) hJ hV s0; omega
    · have vs := vl_eq hJ hL hV s
      have g1 := gv_le (L := L) hJ hV s
      have g0 := gv_le (L := L) hJ hV s0
      rw [e] at s3
      have := nI_inj (by omega) (by omega) s3
      exact ⟨s, s1, ((iF s).mp s2).1, ((iF s).mp s2).2, by omega, by omega⟩
  · rintro ⟨s, s1, s2, s3, s4, s5⟩
    have is := (iF s).mpr ⟨s2, s3⟩
    rcases hB with ⟨-, z⟩ | ⟨u, u1, u2, u3, u4⟩
    · exact absurd is (z s s1)
    · have vs := vl_eq hJ hL hV s
      have vu := vl_eq hJ hL hV u
      have l1 := u4 s s1 is
      have l2 := c5 u u1 (fz_A (fun _ _ _ _ _ => trivial) u2.1)
      rw [u3]
      congr 1
      omega
theorem bst_free {J m : Nat} (hJ : J ≤ 6) {L V S : Nat → Nat} (hL : ∀ j, j < J → L j ≤ 16) (hV : ∀ j, j < J → 1 ≤ V j ∧ V j ≤ 999) {X Y : Nat} (bx : bXY J m L V S X Y) {mu : Nat → Int32} (emu : ∀ i, i < J → mu i = -1) {B : Int32} (hB : bstP J m L V S mu (2 ^ J) B) : B = nI (1000 * X - Y) ∧ Y ≤ 1000 * X ∧ X ≤ 5994 ∧ Y ≤ 96 := by
  obtain ⟨⟨s0, c1, c2, c3, c4⟩, c5⟩ := bx
  have v0 := vl_eq hJ hL hV s0
  have hX : X ≤ 5994 := by
    have := sm_le (P := s0.testBit) J (fun j hj => (hV j hj).2)
    omega
  have i0 : inF J m L S mu s0 := ⟨fz_A (fun i hi _ _ _ => Or.inl (emu i hi)) c2, fun i hi => Or.inl (emu i hi)⟩
  refine ⟨?_, by omega, hX, by omega⟩
  rcases hB with ⟨-, z⟩ | ⟨u, u1, u2, u3, u4⟩
  · exact absurd i0 (z s0 c1)
  · have vu := vl_eq hJ hL hV u
    have l1 := u4 s0 c1 i0
    have l2 := c5 u u1 (fz_A (fun _ _ _ _ _ => trivial) u2.1)
    rw [u3]
    congr 1
    omega
theorem pl_k {J m : Nat} (hJ : J ≤ 6) (hm : m ≤ 40) {L V S : Nat → Nat} (hL : ∀ j, j < J → L j ≤ 16) (hV : ∀ j, j < J → 1 ≤ V j ∧ V j ≤ 999) (hS : ∀ w, w < m → S w < 1000) {y : zm_H} (eJ : zf y 92 72 = nI J) (eA : ∀ j, j < J → y.2.1 146 j = nI (L j) ∧ y.2.1 147 j = nI (V j)) (eW : ∀ w, w < m → y.2.1 155 w = nI (S w)) {X Y : Nat} {a : Nat → Nat} (bx : bXY J m L V S X Y) (ha : ∀ i, i < J → a i ≤ m) (fs : fstP J m L V S X Y a J) (v2 : Int32) (hv : v2 = -1 ∨ ∃ j, j < J ∧ v2 = nI j) : f_M_plan_k32_ok v2 (nI m) y ∧ (v2 = -1 → (f_M_plan_k32 v2 (nI m) y).1 = nI X) ∧ ∀ j, j < J → v2 = nI j → (f_M_plan_k32 v2 (nI m) y).1 = if a j = m then -1 else nI (a j) := by
  unfold f_M_plan_k32_ok f_M_plan_k32 f_M_plan_a35_ok f_M_plan_a35
  obtain ⟨F, eF, -⟩ := zF_ex
  rw [← eF]
  obtain ⟨a1, h1, a2, a3, a4⟩ := zfill eF (b := fun t => f_M_plan_l35_b v2 (nI m) t.1 t.2) (o := fun t => f_M_plan_l35_b_ok v2 (nI m) t.1 t.2) 156 J (by omega) (fun _ => -1) y
    (fun s g hs wg => by
      have g0 : ¬ (zf g 92 72 ≤ nI s) := by rw [show zf g 92 72 = nI J from (wg.fld 92 72 (by decide) (by decide)).trans eJ, nx_le (by omega) (by omega)]; omega
      refine ⟨⟨fun z => absurd z g0, fun _ => vp_in_nI (by omega) (by omega)⟩, ?_⟩
      dsimp only
      unfold f_M_plan_l35_b
      rw [if_neg g0, zs_n _ 156 _ (by omega), ← nI_succ])
    (fun g wg => by
      have g0 : zf g 92 72 ≤ nI J := by rw [show zf g 92 72 = nI J from (wg.fld 92 72 (by decide) (by decide)).trans eJ]; exact i_le_r _
      refine ⟨⟨fun _ => trivial, fun z => absurd g0 z⟩, ?_⟩
      dsimp only
      unfold f_M_plan_l35_b
      rw [if_pos g0])
  have a1 : f_M_plan_l35_ok v2 (nI m) F (0, y) := a1
  have a2 : f_M_plan_l35 v2 (nI m) F (0, y) = (1, nI J, h1) := a2
  rw [a2]
  dsimp only
  unfold f_M_plan_k58_ok f_M_plan_k58
  -- the heap stays what bestOf needs
  have mk : ∀ (x : zm_H) (mu : Nat → Int32), zWr [156, 157, 158] [] y x → (∀ i, i < J → x.2.1 156 i = mu i) → I_mj J m L V S mu x := by
    intro x mu wx e6
    refine ⟨(wx.fld 92 72 (by decide) (by decide)).trans eJ, fun j hj => ?_, fun w hw => ?_, e6⟩
    · rw [wx.arr 146 (by decide) (by decide), wx.arr 147 (by decide) (by decide)]; exact eA j hj
    · rw [wx.arr 155 (by decide) (by decide)]; exact eW w hw
  have w1 : zWr [156, 157, 158] [] y h1 := zWr_tr a3 (by decide) (by decide) (zWr.refl _ _)
  obtain ⟨b1, b2, b3⟩ := bo_M hJ hm hL hV hS (mk h1 (fun _ => -1) w1 (fun i hi => by rw [a4 i, if_pos hi]))
  obtain ⟨f1, f2, f3, f4⟩ := bst_free hJ hL hV bx (fun _ _ => rfl) b3
  rw [f1]
  generalize (f_M_bestOf (nI m) h1).2 = h2 at b2
  have w2 : zWr [156, 157, 158] [] y h2 := zWr_tr b2 (by decide) (by decide) w1
  have h26 : ∀ i, i < J → h2.2.1 156 i = -1 := fun i hi => by rw [b2.arr 156 (by decide) (by decide), a4 i, if_pos hi]
  unfold f_M_plan_k63_ok f_M_plan_k63
  rw [← eF]
  rcases hv with hv | ⟨j, hj, hv⟩
  · rw [if_pos hv]
    refine ⟨⟨a1, b1, fun _ => trivial, fun z => absurd hv z⟩, fun _ => ?_, fun j hj e => ?_⟩
    · show (nI (1000 * X - Y) + 999) / 1000 = nI X
      rw [show (999 : Int32) = nI 999 from rfl, nI_add]
      have n1 : (nI (1000 * X - Y + 999)).toInt = ((1000 * X - Y + 999 : Nat) : Int) := i_nI (by omega)
      have k1 : (1000 : Int32).toInt = 1000 := rfl
      apply i_mk
      rw [i_div (by rw [n1]; omega) (by rw [k1]; omega), n1, k1]
      omega
    · rw [hv, i_eq, i_nI (by omega), i_m1] at e; omega
  · subst hv
    have nj : ¬ (nI j = -1) := by rw [i_eq, i_nI (by omega), i_m1]; omega
    rw [if_neg nj]
    have key := zlp_k eF (b := fun t => f_M_plan_l84_b (nI j) (nI m) (nI (1000 * X - Y)) t.1 t.2) (o := fun t => f_M_plan_l84_b_ok (nI j) (nI m) (nI (1000 * X - Y)) t.1 t.2) (j + 1) (by omega) 0
      (fun k x => zWr [156, 157, 158] [] y x ∧ ∀ i, i < J → x.2.1 156 i = if i < k then nI (a i) else -1) h2
      ⟨w2, fun i hi => by rw [if_neg (by omega)]; exact h26 i hi⟩
      (by
        rintro k x hk ⟨r1, r2⟩
        rw [Nat.zero_add]
        have g0 : ¬ (nI j < nI k) := by rw [i_lt, i_nI (by omega), i_nI (by omega)]; omega
        have ik : vp_in (nI k) 6 := vp_in_nI (by omega) (by omega)
        have hak := ha k (by omega)
        have fsk : Rc J m L V S X Y (asg a k (a k)) (k + 1) := by
          obtain ⟨f, q1, q2⟩ := fs.1
          refine ⟨f, fun i hi => ?_, q2⟩
          rw [q1 i (by omega)]
          by_cases e : i = k
          · rw [show asg a k (a k) i = a k from if_pos e, e]
          · rw [show asg a k (a k) i = a i from if_neg e]
        have key2 := zlpF eF (b := fun t => f_M_plan_l84_l98_b (nI j) (nI m) (nI (1000 * X - Y)) (nI k) t) (o := fun t => f_M_plan_l84_l98_b_ok (nI j) (nI m) (nI (1000 * X - Y)) (nI k) t) (a k) (by omega)
          (fun t z => zWr [156, 157, 158] [] y z ∧ ∀ i, i < J → z.2.1 156 i = if i < k then nI (a i) else if i = k then nI t else -1)
          (fun r => zWr [156, 157, 158] [] y r.2 ∧ ∀ i, i < J → r.2.2.1 156 i = if i < k + 1 then nI (a i) else -1) (zm_si x 156 k 0)
          ⟨zWr_si (by decide) r1, fun i hi => by
            rw [zf_si, if_pos rfl]
            by_cases e : i = k
            · rw [if_pos e, if_neg (by omega), if_pos e]; rfl
            · rw [if_neg e, r2 i hi, if_neg e]⟩
          (by
            rintro t z ht ⟨s1, s2⟩
            obtain ⟨d1, d2, d3⟩ := bo_M hJ hm hL hV hS (mk z _ s1 s2)
            have ne := bst_must hJ hm (show k < J by omega) (show t ≤ m by omega) hL hV bx (fun i hi => ha i (by omega)) (fun i hi => rfl) d3
            have no : ¬ (f_M_bestOf (nI m) z).1 = nI (1000 * X - Y) := fun e => fs.2 k (by omega) t ht (ne.mp e)
            unfold f_M_plan_l84_l98_b f_M_plan_l84_l98_b_ok f_M_plan_l84_l98_k103 f_M_plan_l84_l98_k103_ok
            generalize (f_M_bestOf (nI m) z).2 = z1 at d2 ⊢
            have e6 : zr z1 156 (nI k) = nI t := by rw [zr_n z1 156 (by omega), zf, d2.arr 156 (by decide) (by decide), s2 k (by omega), if_neg (by omega), if_pos rfl]
            have sz : zWr [156, 157, 158] [] y z1 := zWr_tr d2 (by decide) (by decide) s1
            rw [if_neg no, e6, zs_n _ 156 _ (by omega), ← nI_succ]
            refine ⟨⟨d1, fun z => absurd z no, fun _ => ⟨ik, ik⟩⟩, Or.inl ⟨rfl, zWr_si (by decide) sz, fun i hi => ?_⟩⟩
            rw [zf_si, if_pos rfl]
            by_cases e : i = k
            · rw [if_pos e, if_neg (by omega), if_pos e]
            · rw [if_neg e, d2.arr 156 (by decide) (by decide), s2 i hi, if_neg e, if_neg e])
          (by
            rintro z ⟨s1, s2⟩
            obtain ⟨d1, d2, d3⟩ := bo_M hJ hm hL hV hS (mk z _ s1 s2)
            have ne := bst_must hJ hm (show k < J by omega) hak hL hV bx (fun i hi => ha i (by omega)) (fun i hi => rfl) d3
            have yes := ne.mpr fsk
            unfold f_M_plan_l84_l98_b f_M_plan_l84_l98_b_ok f_M_plan_l84_l98_k103 f_M_plan_l84_l98_k103_ok
            generalize (f_M_bestOf (nI m) z).2 = z1 at d2 ⊢
            have sz : zWr [156, 157, 158] [] y z1 := zWr_tr d2 (by decide) (by decide) s1
            rw [if_pos yes]
            refine ⟨⟨d1, fun _ => trivial, fun z => absurd yes z⟩, by simp, sz, fun i hi => ?_⟩
            dsimp only
            rw [d2.arr 156 (by decide) (by decide), s2 i hi]
            by_cases e : i = k
            · rw [if_neg (by omega), if_pos e, if_pos (by omega), e]
            · by_cases l : i < k
              · rw [if_pos l, if_pos (by omega)]
              · rw [if_neg l, if_neg e, if_neg (by omega)])
        obtain ⟨k1, k2, k3⟩ := key2
        dsimp only
        unfold f_M_plan_l84_b f_M_plan_l84_b_ok f_M_plan_l84_a98 f_M_plan_l84_k122
        rw [if_neg g0, ← eF, zs_n x 156 _ (show k < 2147483648 by omega), ← nI_succ]
        exact ⟨⟨fun z => absurd z g0, fun _ => ⟨ik, k1, trivial⟩⟩, _, rfl, k2, k3⟩)
      (by
        rintro x ⟨r1, r2⟩
        rw [Nat.zero_add]
        have g0 : nI j < nI (j + 1) := by rw [i_lt, i_nI (by omega), i_nI (by omega)]; omega
        dsimp only
        unfold f_M_plan_l84_b f_M_plan_l84_b_ok
        rw [if_pos g0]
        exact ⟨⟨fun _ => trivial, fun z => absurd g0 z⟩, rfl⟩)
    obtain ⟨k1, x, k2, k3, k4⟩ := key
    have k1 : f_M_plan_l84_ok (nI j) (nI m) (nI (1000 * X - Y)) F (0, h2) := k1
    have k2 : f_M_plan_l84 (nI j) (nI m) (nI (1000 * X - Y)) F (0, h2) = (1, nI (0 + (j + 1)), x) := k2
    rw [k2]
    unfold f_M_plan_a84_ok f_M_plan_a84 f_M_plan_k128_ok f_M_plan_k128
    dsimp only
    have ij : vp_in (nI j) 6 := vp_in_nI (by omega) (by omega)
    have haj := ha j hj
    have e6 : zr x 156 (nI j) = nI (a j) := by rw [zr_n x 156 (by omega), zf, k4 j hj, if_pos (by omega)]
    rw [e6]
    refine ⟨⟨a1, b1, fun z => absurd z nj, fun _ => ⟨k1, ij, fun _ => trivial, fun _ => ij⟩⟩, fun z => absurd z nj, fun i hi e => ?_⟩
    have := nI_inj (by omega) (by omega) e
    subst this
    by_cases c : a j = m
    · rw [if_pos c, if_pos (by rw [c])]
    · rw [if_neg c, if_neg (fun z => c (nI_inj (by omega) (by omega) z))]
