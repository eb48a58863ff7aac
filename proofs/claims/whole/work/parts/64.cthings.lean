/-! ===== THINGS, the class: course 37 ===== -/
theorem rd_37 {h : zm_H} {r : Nat} (hr : r < 10) : f_Course_isReady_37_ok (nI r) h ∧ f_Course_isReady_37 (nI r) h = if (vC 38 h 0 r = 1 ∨ vC 38 h 0 r = 2) then 1 else 0 := by
  have i1 : vp_in (nI r) 10 := vp_in_nI hr (by omega)
  have a0 : zr h 38 (nI r) = vC 38 h 0 r := by rw [zr_n h 38 (by omega), vC_at (by omega) (show r < zsz 0 from hr)]
  unfold f_Course_isReady_37_ok f_Course_isReady_37
  rw [a0]
  exact ⟨⟨i1, fun _ => trivial, fun _ => i1⟩, rfl⟩
theorem fr_37 {h : zm_H} (p : Int32) : f_Course_isFree_37_ok p h ∧ f_Course_isFree_37 p h = if tkn (vC 38 h) p 10 = true then 0 else 1 := by
  unfold f_Course_isFree_37_ok f_Course_isFree_37
  obtain ⟨F, eF, -⟩ := zF_ex
  rw [← eF]
  have at1 : ∀ k, k < 10 → vC 38 h 1 k = h.2.1 39 k := fun k hk => vC_at (by omega) (show k < zsz 1 from hk)
  have key := zlpF eF (b := fun t => f_Course_isFree_37_l2_b p t h) (o := fun t => f_Course_isFree_37_l2_b_ok p t h) 10 (by omega)
    (fun k s => s = nI k ∧ ∀ q, q < k → ¬ vC 38 h 1 q = p) (fun r => (r.1 = 1 ∧ ∃ q, q < 10 ∧ vC 38 h 1 q = p) ∨ (r.1 = 2 ∧ ∀ q, q < 10 → ¬ vC 38 h 1 q = p)) 0 ⟨rfl, fun q hq => by omega⟩
    (by
      rintro k s hk ⟨rfl, h2⟩
      have g0 := g10 hk
      refine ⟨⟨fun z => absurd z g0, fun _ => vp_in_nI hk (by omega)⟩, ?_⟩
      unfold f_Course_isFree_37_l2_b
      rw [if_neg g0, zr_n h 39 (by omega)]
      by_cases c : zf h 39 k = p
      · rw [if_pos c]
        exact Or.inr ⟨by simp, Or.inl ⟨rfl, k, hk, by rw [at1 k hk]; exact c⟩⟩
      · rw [if_neg c]
        refine Or.inl ⟨rfl, (nI_succ k).symm, fun q hq => ?_⟩
        rcases (show q < k ∨ q = k by omega) with z | z
        · exact h2 q z
        · subst z; rw [at1 q (by omega)]; exact c)
    (by
      rintro s ⟨rfl, h2⟩
      have g0 : (10 : Int32) ≤ nI 10 := by decide
      refine ⟨⟨fun _ => trivial, fun z => absurd g0 z⟩, ?_⟩
      unfold f_Course_isFree_37_l2_b
      rw [if_pos g0]
      exact ⟨by simp, Or.inr ⟨rfl, h2⟩⟩)
  obtain ⟨k1, k2⟩ := key
  have k1 : f_Course_isFree_37_l2_ok p h F 0 := k1
  have k2 : ((f_Course_isFree_37_l2 p h F 0).1 = 1 ∧ ∃ q, q < 10 ∧ vC 38 h 1 q = p) ∨ ((f_Course_isFree_37_l2 p h F 0).1 = 2 ∧ ∀ q, q < 10 → ¬ vC 38 h 1 q = p) := k2
  generalize f_Course_isFree_37_l2 p h F 0 = R at k2
  refine ⟨⟨k1, fun _ => trivial, fun _ => trivial⟩, ?_⟩
  unfold f_Course_isFree_37_a2 f_Course_isFree_37_k18 f_Course_isFree_37_k26
  rcases k2 with ⟨a, b⟩ | ⟨a, b⟩
  · rw [if_pos a, if_pos ((tkn_iff _ _ _).mpr b)]
  · rw [if_neg (by rw [a]; decide), if_neg (fun z => by obtain ⟨q, q1, q2⟩ := (tkn_iff _ _ _).mp z; exact b q q1 q2)]
theorem db_37 {h : zm_H} {r : Nat} (hr : r < 10) (kd p : Int32) : f_Course_isDoable_37_ok kd (nI r) p h ∧ f_Course_isDoable_37 kd (nI r) p h = if dbl (vC 38 h) kd r p = true then 1 else 0 := by
  have i1 : vp_in (nI r) 10 := vp_in_nI hr (by omega)
  have a0 : zr h 38 (nI r) = vC 38 h 0 r := by rw [zr_n h 38 (by omega), vC_at (by omega) (show r < zsz 0 from hr)]
  obtain ⟨f1, f2⟩ := fr_37 (h := h) p
  obtain ⟨r1, r2⟩ := rd_37 (h := h) hr
  have n01 : ∀ (c : Prop) [Decidable c], vp_nar .boolean (if c then (1 : Int32) else 0) = if c then (1 : Int32) else 0 := fun c _ => zm_nb01
  constructor
  · unfold f_Course_isDoable_37_ok
    rw [a0, r2]
    refine ⟨fun _ => ⟨i1, fun _ => f1, fun _ => trivial⟩, fun _ => ⟨⟨fun _ => i1, fun _ => r1⟩, ?_⟩⟩
    by_cases c : kd = 4
    · rw [if_pos c]; exact n01 _
    · rw [if_neg c]; exact n01 _
  · unfold f_Course_isDoable_37 dbl
    rw [a0, r2, f2]
    by_cases c5 : kd = 5
    · rw [if_pos c5, if_pos c5]
      cases tkn (vC 38 h) p 10 with
      | true => simp
      | false => by_cases z : vC 38 h 0 r = 0 <;> simp [z]
    · rw [if_neg c5, if_neg c5]
      by_cases c4 : kd = 4
      · rw [if_pos c4, if_pos c4]
        by_cases z : vC 38 h 0 r = 0 <;> simp [z]
      · rw [if_neg c4, if_neg c4]
        by_cases z : vC 38 h 0 r = 1 ∨ vC 38 h 0 r = 2
        · rw [if_pos z, decide_eq_true z]; rfl
        · rw [if_neg z, decide_eq_false z]; rfl
theorem rn_37 {h : zm_H} {r c : Nat} (hr : r < 10) (hc : c < 3) (s : Int32) : f_Course_renewChain_37_ok (nI r) (nI c) s h ∧ vC 38 (f_Course_renewChain_37 (nI r) (nI c) s h) = rnw (vC 38 h) r c s := by
  have i1 : vp_in (nI (3 * r + c)) 30 := vp_in_nI (by omega) (by omega)
  have z5 : zsz 5 = 30 := rfl
  have z6 : zsz 6 = 30 := rfl
  have z7 : zsz 7 = 30 := rfl
  unfold f_Course_renewChain_37_ok f_Course_renewChain_37
  rw [x3]
  refine ⟨⟨i1, i1, i1⟩, ?_⟩
  rw [zs_n _ 45 _ (by omega), zs_n _ 44 _ (by omega), zs_n _ 43 _ (by omega), vC_u (b := 38) (i := 7) (j := 45) rfl (by omega) (by omega), vC_u (b := 38) (i := 6) (j := 44) rfl (by omega) (by omega), vC_u (b := 38) (i := 5) (j := 43) rfl (by omega) (by omega)]
  rfl
theorem lp3_37 {r : Nat} (hr : r < 10) (s : Int32) (b : Int32 × zm_H → Nat × Int32 × zm_H) (o : Int32 × zm_H → Prop) (h0 : zm_H) (q1 : ∀ k g, k < 3 → o (nI k, g) ∧ b (nI k, g) = (0, nI (k + 1), f_Course_renewChain_37 (nI r) (nI k) s g)) (q2 : ∀ g, o (nI 3, g) ∧ b (nI 3, g) = (1, nI 3, g)) : zwo b o zF (0, h0) ∧ vC 38 (zwh b zF (0, h0)).2.2 = rnw3 (vC 38 h0) r s := by
  obtain ⟨k1, k2, -⟩ := zlf rfl (b := b) (o := o) 3 (by omega) (fun k g => f_Course_renewChain_37 (nI r) (nI k) s g) (fun _ _ => True) h0 trivial (fun k g hk _ => ⟨(q1 k g hk).1, (q1 k g hk).2, trivial⟩) (fun g _ => q2 g)
  rw [k2]
  refine ⟨k1, ?_⟩
  show vC 38 (f_Course_renewChain_37 (nI r) (nI 2) s (f_Course_renewChain_37 (nI r) (nI 1) s (f_Course_renewChain_37 (nI r) (nI 0) s h0))) = _
  rw [(rn_37 hr (c := 2) (by omega) s).2, (rn_37 hr (c := 1) (by omega) s).2, (rn_37 hr (c := 0) (by omega) s).2]
  rfl
theorem bh_37 {h : zm_H} {r : Nat} (hr : r < 10) : f_Course_bringHome_37_ok (nI r) h ∧ vC 38 (f_Course_bringHome_37 (nI r) h) = rnw3 (zm_u (zm_u (vC 38 h) 0 r 0) 1 r (-1)) r 0 := by
  have i1 : vp_in (nI r) 10 := vp_in_nI hr (by omega)
  obtain ⟨l1, l2⟩ := lp3_37 hr 0 (fun t => f_Course_bringHome_37_l16_b (nI r) t.1 t.2) (fun t => f_Course_bringHome_37_l16_b_ok (nI r) t.1 t.2) (zs (zs h 38 (nI r) 0) 39 (nI r) (-1))
    (fun k g hk => ⟨⟨fun z => absurd z (g3 hk), fun _ => (rn_37 hr hk 0).1⟩, by
      dsimp only
      unfold f_Course_bringHome_37_l16_b f_Course_bringHome_37_l16_k28
      rw [if_neg (g3 hk), ← nI_succ]⟩)
    (fun g => ⟨⟨fun _ => trivial, fun z => absurd (by decide : (3 : Int32) ≤ nI 3) z⟩, by
      dsimp only
      unfold f_Course_bringHome_37_l16_b
      rw [if_pos (by decide)]⟩)
  refine ⟨⟨i1, i1, l1, trivial⟩, Eq.trans l2 ?_⟩
  rw [zs_n _ 39 _ (by omega), zs_n _ 38 _ (by omega), vC_u (b := 38) (i := 1) (j := 39) rfl (by omega) (show r < zsz 1 from hr), vC_u (b := 38) (i := 0) (j := 38) rfl (by omega) (show r < zsz 0 from hr)]
theorem dt_37 {h : zm_H} {r : Nat} (hr : r < 10) {kd : Int32} (hk : kd = 5 ∨ kd = 4 ∨ kd = 3 ∨ ∃ c, c < 3 ∧ kd = nI c) (p s : Int32) : f_Course_doThing_37_ok kd (nI r) p s h ∧ vC 38 (f_Course_doThing_37 kd (nI r) p s h) = dot (vC 38 h) kd r p s := by
  have i1 : vp_in (nI r) 10 := vp_in_nI hr (by omega)
  obtain ⟨b1, b2⟩ := bh_37 (h := h) hr
  obtain ⟨l1, l2⟩ := lp3_37 hr s (fun t => f_Course_doThing_37_l22_b (nI r) s t.1 t.2) (fun t => f_Course_doThing_37_l22_b_ok (nI r) s t.1 t.2) (zs (zs h 38 (nI r) 1) 39 (nI r) p)
    (fun k g hk => ⟨⟨fun z => absurd z (g3 hk), fun _ => (rn_37 hr hk s).1⟩, by
      dsimp only
      unfold f_Course_doThing_37_l22_b f_Course_doThing_37_l22_k37
      rw [if_neg (g3 hk), ← nI_succ]⟩)
    (fun g => ⟨⟨fun _ => trivial, fun z => absurd (by decide : (3 : Int32) ≤ nI 3) z⟩, by
      dsimp only
      unfold f_Course_doThing_37_l22_b
      rw [if_pos (by decide)]⟩)
  unfold f_Course_doThing_37_ok f_Course_doThing_37 dot
  by_cases c5 : kd = 5
  · rw [if_pos c5, if_pos c5]
    refine ⟨⟨fun _ => ⟨i1, i1, l1, trivial⟩, fun z => absurd c5 z⟩, Eq.trans l2 ?_⟩
    rw [zs_n _ 39 _ (by omega), zs_n _ 38 _ (by omega), vC_u (b := 38) (i := 1) (j := 39) rfl (by omega) (show r < zsz 1 from hr), vC_u (b := 38) (i := 0) (j := 38) rfl (by omega) (show r < zsz 0 from hr)]
  rw [if_neg c5, if_neg c5]
  by_cases c4 : kd = 4
  · rw [if_pos c4, if_pos c4]
    exact ⟨⟨fun z => absurd z c5, fun _ => ⟨fun _ => b1, fun z => absurd c4 z⟩⟩, b2⟩
  rw [if_neg c4, if_neg c4]
  by_cases c3 : kd = 3
  · rw [if_pos c3, if_pos c3]
    refine ⟨⟨fun z => absurd z c5, fun _ => ⟨fun z => absurd z c4, fun _ => ⟨fun _ => i1, fun z => absurd c3 z⟩⟩⟩, ?_⟩
    rw [zs_n _ 40 _ (by omega), vC_u (b := 38) (i := 2) (j := 40) rfl (by omega) (show r < zsz 2 from hr)]
  rw [if_neg c3, if_neg c3]
  obtain ⟨c, hc, rfl⟩ := ((hk.resolve_left c5).resolve_left c4).resolve_left c3
  obtain ⟨n1, n2⟩ := rn_37 (h := h) hr hc s
  rw [nI_c (by omega)]
  exact ⟨⟨fun z => absurd z c5, fun _ => ⟨fun z => absurd z c4, fun _ => ⟨fun z => absurd z c3, fun _ => n1⟩⟩⟩, n2⟩
/-! ===== THINGS, the class: course 50 ===== -/
theorem rd_50 {h : zm_H} {r : Nat} (hr : r < 10) : f_Course_isReady_50_ok (nI r) h ∧ f_Course_isReady_50 (nI r) h = if (vC 51 h 0 r = 1 ∨ vC 51 h 0 r = 2) then 1 else 0 := by
  have i1 : vp_in (nI r) 10 := vp_in_nI hr (by omega)
  have a0 : zr h 51 (nI r) = vC 51 h 0 r := by rw [zr_n h 51 (by omega), vC_at (by omega) (show r < zsz 0 from hr)]
  unfold f_Course_isReady_50_ok f_Course_isReady_50
  rw [a0]
  exact ⟨⟨i1, fun _ => trivial, fun _ => i1⟩, rfl⟩
theorem fr_50 {h : zm_H} (p : Int32) : f_Course_isFree_50_ok p h ∧ f_Course_isFree_50 p h = if tkn (vC 51 h) p 10 = true then 0 else 1 := by
  unfold f_Course_isFree_50_ok f_Course_isFree_50
  obtain ⟨F, eF, -⟩ := zF_ex
  rw [← eF]
  have at1 : ∀ k, k < 10 → vC 51 h 1 k = h.2.1 52 k := fun k hk => vC_at (by omega) (show k < zsz 1 from hk)
  have key := zlpF eF (b := fun t => f_Course_isFree_50_l2_b p t h) (o := fun t => f_Course_isFree_50_l2_b_ok p t h) 10 (by omega)
    (fun k s => s = nI k ∧ ∀ q, q < k → ¬ vC 51 h 1 q = p) (fun r => (r.1 = 1 ∧ ∃ q, q < 10 ∧ vC 51 h 1 q = p) ∨ (r.1 = 2 ∧ ∀ q, q < 10 → ¬ vC 51 h 1 q = p)) 0 ⟨rfl, fun q hq => by omega⟩
    (by
      rintro k s hk ⟨rfl, h2⟩
      have g0 := g10 hk
      refine ⟨⟨fun z => absurd z g0, fun _ => vp_in_nI hk (by omega)⟩, ?_⟩
      unfold f_Course_isFree_50_l2_b
      rw [if_neg g0, zr_n h 52 (by omega)]
      by_cases c : zf h 52 k = p
      · rw [if_pos c]
        exact Or.inr ⟨by simp, Or.inl ⟨rfl, k, hk, by rw [at1 k hk]; exact c⟩⟩
      · rw [if_neg c]
        refine Or.inl ⟨rfl, (nI_succ k).symm, fun q hq => ?_⟩
        rcases (show q < k ∨ q = k by omega) with z | z
        · exact h2 q z
        · subst z; rw [at1 q (by omega)]; exact c)
    (by
      rintro s ⟨rfl, h2⟩
      have g0 : (10 : Int32) ≤ nI 10 := by decide
      refine ⟨⟨fun _ => trivial, fun z => absurd g0 z⟩, ?_⟩
      unfold f_Course_isFree_50_l2_b
      rw [if_pos g0]
      exact ⟨by simp, Or.inr ⟨rfl, h2⟩⟩)
  obtain ⟨k1, k2⟩ := key
  have k1 : f_Course_isFree_50_l2_ok p h F 0 := k1
  have k2 : ((f_Course_isFree_50_l2 p h F 0).1 = 1 ∧ ∃ q, q < 10 ∧ vC 51 h 1 q = p) ∨ ((f_Course_isFree_50_l2 p h F 0).1 = 2 ∧ ∀ q, q < 10 → ¬ vC 51 h 1 q = p) := k2
  generalize f_Course_isFree_50_l2 p h F 0 = R at k2
  refine ⟨⟨k1, fun _ => trivial, fun _ => trivial⟩, ?_⟩
  unfold f_Course_isFree_50_a2 f_Course_isFree_50_k18 f_Course_isFree_50_k26
  rcases k2 with ⟨a, b⟩ | ⟨a, b⟩
  · rw [if_pos a, if_pos ((tkn_iff _ _ _).mpr b)]
  · rw [if_neg (by rw [a]; decide), if_neg (fun z => by obtain ⟨q, q1, q2⟩ := (tkn_iff _ _ _).mp z; exact b q q1 q2)]
theorem db_50 {h : zm_H} {r : Nat} (hr : r < 10) (kd p : Int32) : f_Course_isDoable_50_ok kd (nI r) p h ∧ f_Course_isDoable_50 kd (nI r) p h = if dbl (vC 51 h) kd r p = true then 1 else 0 := by
  have i1 : vp_in (nI r) 10 := vp_in_nI hr (by omega)
  have a0 : zr h 51 (nI r) = vC 51 h 0 r := by rw [zr_n h 51 (by omega), vC_at (by omega) (show r < zsz 0 from hr)]
  obtain ⟨f1, f2⟩ := fr_50 (h := h) p
  obtain ⟨r1, r2⟩ := rd_50 (h := h) hr
  have n01 : ∀ (c : Prop) [Decidable c], vp_nar .boolean (if c then (1 : Int32) else 0) = if c then (1 : Int32) else 0 := fun c _ => zm_nb01
  constructor
  · unfold f_Course_isDoable_50_ok
    rw [a0, r2]
    refine ⟨fun _ => ⟨i1, fun _ => f1, fun _ => trivial⟩, fun _ => ⟨⟨fun _ => i1, fun _ => r1⟩, ?_⟩⟩
    by_cases c : kd = 4
    · rw [if_pos c]; exact n01 _
    · rw [if_neg c]; exact n01 _
  · unfold f_Course_isDoable_50 dbl
    rw [a0, r2, f2]
    by_cases c5 : kd = 5
    · rw [if_pos c5, if_pos c5]
      cases tkn (vC 51 h) p 10 with
      | true => simp
      | false => by_cases z : vC 51 h 0 r = 0 <;> simp [z]
    · rw [if_neg c5, if_neg c5]
      by_cases c4 : kd = 4
      · rw [if_pos c4, if_pos c4]
        by_cases z : vC 51 h 0 r = 0 <;> simp [z]
      · rw [if_neg c4, if_neg c4]
        by_cases z : vC 51 h 0 r = 1 ∨ vC 51 h 0 r = 2
        · rw [if_pos z, decide_eq_true z]; rfl
        · rw [if_neg z, decide_eq_false z]; rfl
theorem rn_50 {h : zm_H} {r c : Nat} (hr : r < 10) (hc : c < 3) (s : Int32) : f_Course_renewChain_50_ok (nI r) (nI c) s h ∧ vC 51 (f_Course_renewChain_50 (nI r) (nI c) s h) = rnw (vC 51 h) r c s := by
  have i1 : vp_in (nI (3 * r + c)) 30 := vp_in_nI (by omega) (by omega)
  have z5 : zsz 5 = 30 := rfl
  have z6 : zsz 6 = 30 := rfl
  have z7 : zsz 7 = 30 := rfl
  unfold f_Course_renewChain_50_ok f_Course_renewChain_50
  rw [x3]
  refine ⟨⟨i1, i1, i1⟩, ?_⟩
  rw [zs_n _ 58 _ (by omega), zs_n _ 57 _ (by omega), zs_n _ 56 _ (by omega), vC_u (b := 51) (i := 7) (j := 58) rfl (by omega) (by omega), vC_u (b := 51) (i := 6) (j := 57) rfl (by omega) (by omega), vC_u (b := 51) (i := 5) (j := 56) rfl (by omega) (by omega)]
  rfl
theorem lp3_50 {r : Nat} (hr : r < 10) (s : Int32) (b : Int32 × zm_H → Nat × Int32 × zm_H) (o : Int32 × zm_H → Prop) (h0 : zm_H) (q1 : ∀ k g, k < 3 → o (nI k, g) ∧ b (nI k, g) = (0, nI (k + 1), f_Course_renewChain_50 (nI r) (nI k) s g)) (q2 : ∀ g, o (nI 3, g) ∧ b (nI 3, g) = (1, nI 3, g)) : zwo b o zF (0, h0) ∧ vC 51 (zwh b zF (0, h0)).2.2 = rnw3 (vC 51 h0) r s := by
  obtain ⟨k1, k2, -⟩ := zlf rfl (b := b) (o := o) 3 (by omega) (fun k g => f_Course_renewChain_50 (nI r) (nI k) s g) (fun _ _ => True) h0 trivial (fun k g hk _ => ⟨(q1 k g hk).1, (q1 k g hk).2, trivial⟩) (fun g _ => q2 g)
  rw [k2]
  refine ⟨k1, ?_⟩
  show vC 51 (f_Course_renewChain_50 (nI r) (nI 2) s (f_Course_renewChain_50 (nI r) (nI 1) s (f_Course_renewChain_50 (nI r) (nI 0) s h0))) = _
  rw [(rn_50 hr (c := 2) (by omega) s).2, (rn_50 hr (c := 1) (by omega) s).2, (rn_50 hr (c := 0) (by omega) s).2]
  rfl
theorem bh_50 {h : zm_H} {r : Nat} (hr : r < 10) : f_Course_bringHome_50_ok (nI r) h ∧ vC 51 (f_Course_bringHome_50 (nI r) h) = rnw3 (zm_u (zm_u (vC 51 h) 0 r 0) 1 r (-1)) r 0 := by
  have i1 : vp_in (nI r) 10 := vp_in_nI hr (by omega)
  obtain ⟨l1, l2⟩ := lp3_50 hr 0 (fun t => f_Course_bringHome_50_l16_b (nI r) t.1 t.2) (fun t => f_Course_bringHome_50_l16_b_ok (nI r) t.1 t.2) (zs (zs h 51 (nI r) 0) 52 (nI r) (-1))
    (fun k g hk => ⟨⟨fun z => absurd z (g3 hk), fun _ => (rn_50 hr hk 0).1⟩, by
      dsimp only
      unfold f_Course_bringHome_50_l16_b f_Course_bringHome_50_l16_k28
      rw [if_neg (g3 hk), ← nI_succ]⟩)
    (fun g => ⟨⟨fun _ => trivial, fun z => absurd (by decide : (3 : Int32) ≤ nI 3) z⟩, by
      dsimp only
      unfold f_Course_bringHome_50_l16_b
      rw [if_pos (by decide)]⟩)
  refine ⟨⟨i1, i1, l1, trivial⟩, Eq.trans l2 ?_⟩
  rw [zs_n _ 52 _ (by omega), zs_n _ 51 _ (by omega), vC_u (b := 51) (i := 1) (j := 52) rfl (by omega) (show r < zsz 1 from hr), vC_u (b := 51) (i := 0) (j := 51) rfl (by omega) (show r < zsz 0 from hr)]
theorem dt_50 {h : zm_H} {r : Nat} (hr : r < 10) {kd : Int32} (hk : kd = 5 ∨ kd = 4 ∨ kd = 3 ∨ ∃ c, c < 3 ∧ kd = nI c) (p s : Int32) : f_Course_doThing_50_ok kd (nI r) p s h ∧ vC 51 (f_Course_doThing_50 kd (nI r) p s h) = dot (vC 51 h) kd r p s := by
  have i1 : vp_in (nI r) 10 := vp_in_nI hr (by omega)
  obtain ⟨b1, b2⟩ := bh_50 (h := h) hr
  obtain ⟨l1, l2⟩ := lp3_50 hr s (fun t => f_Course_doThing_50_l22_b (nI r) s t.1 t.2) (fun t => f_Course_doThing_50_l22_b_ok (nI r) s t.1 t.2) (zs (zs h 51 (nI r) 1) 52 (nI r) p)
    (fun k g hk => ⟨⟨fun z => absurd z (g3 hk), fun _ => (rn_50 hr hk s).1⟩, by
      dsimp only
      unfold f_Course_doThing_50_l22_b f_Course_doThing_50_l22_k37
      rw [if_neg (g3 hk), ← nI_succ]⟩)
    (fun g => ⟨⟨fun _ => trivial, fun z => absurd (by decide : (3 : Int32) ≤ nI 3) z⟩, by
      dsimp only
      unfold f_Course_doThing_50_l22_b
      rw [if_pos (by decide)]⟩)
  unfold f_Course_doThing_50_ok f_Course_doThing_50 dot
  by_cases c5 : kd = 5
  · rw [if_pos c5, if_pos c5]
    refine ⟨⟨fun _ => ⟨i1, i1, l1, trivial⟩, fun z => absurd c5 z⟩, Eq.trans l2 ?_⟩
    rw [zs_n _ 52 _ (by omega), zs_n _ 51 _ (by omega), vC_u (b := 51) (i := 1) (j := 52) rfl (by omega) (show r < zsz 1 from hr), vC_u (b := 51) (i := 0) (j := 51) rfl (by omega) (show r < zsz 0 from hr)]
  rw [if_neg c5, if_neg c5]
  by_cases c4 : kd = 4
  · rw [if_pos c4, if_pos c4]
    exact ⟨⟨fun z => absurd z c5, fun _ => ⟨fun _ => b1, fun z => absurd c4 z⟩⟩, b2⟩
  rw [if_neg c4, if_neg c4]
  by_cases c3 : kd = 3
  · rw [if_pos c3, if_pos c3]
    refine ⟨⟨fun z => absurd z c5, fun _ => ⟨fun z => absurd z c4, fun _ => ⟨fun _ => i1, fun z => absurd c3 z⟩⟩⟩, ?_⟩
    rw [zs_n _ 53 _ (by omega), vC_u (b := 51) (i := 2) (j := 53) rfl (by omega) (show r < zsz 2 from hr)]
  rw [if_neg c3, if_neg c3]
  obtain ⟨c, hc, rfl⟩ := ((hk.resolve_left c5).resolve_left c4).resolve_left c3
  obtain ⟨n1, n2⟩ := rn_50 (h := h) hr hc s
  rw [nI_c (by omega)]
  exact ⟨⟨fun z => absurd z c5, fun _ => ⟨fun z => absurd z c4, fun _ => ⟨fun z => absurd z c3, fun _ => n1⟩⟩⟩, n2⟩
