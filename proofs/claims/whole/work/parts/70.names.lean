/-! ===== NAMES ===== -/
theorem est_ext {nm nm' : Nat → Int32} (e : ∀ j, j < 9 → nm j = nm' j) {w v : Int32} {ts us : List Bool} (ht : tst w v ts = some us) (st : List Int32) : est nm w v st = est nm' w v st := by
  unfold est
  by_cases c1 : w ≤ 1
  · rw [if_pos c1, if_pos c1]
    by_cases c0 : w = 0
    · rw [if_pos c0, if_pos c0]
    · rw [if_neg c0, if_neg c0]
      unfold tst at ht
      rw [if_neg c0] at ht
      by_cases w1 : w = 1
      · rw [if_pos w1] at ht
        by_cases q : 0 ≤ v.toInt ∧ v.toInt < 9
        · have := i_cl q.1
          rw [e _ (by omega)]
        · rw [if_neg q] at ht; cases ht
      · exfalso
        have n11 : ¬ w = 11 := fun z => by rw [z] at c1; exact absurd c1 (by decide)
        have b1 : (1 : Int32).toInt = 1 := rfl
        rw [i_le, b1] at c1
        rw [if_neg w1, if_neg n11, if_neg (by omega), if_neg (by omega), if_neg (by omega)] at ht
        cases ht
  · rw [if_neg c1, if_neg c1]
theorem stk_ext {W V nm nm' : Nat → Int32} {b e : Nat} {t : Bool} (H : WT W V b e t) (he : ∀ j, j < 9 → nm j = nm' j) : ∀ j, j ≤ e - b → stk W V nm b j = stk W V nm' b j := by
  intro j
  induction j with
  | zero => intro _; rfl
  | succ j ih =>
    intro hj
    obtain ⟨ts, us, -, -, h3, -⟩ := H.at (show j < e - b by omega)
    rw [stk, stk, ih (by omega)]
    exact est_ext he h3 _
theorem Ev_ext {ns nf : Nat} {h : zm_H} (H : I_rl ns nf h) {c : Nat} (hc : c < 4) (t : Int32) {nm nm' : Nat → Int32} (he : ∀ j, j < 9 → nm j = nm' j) : Ev nf h c t nm = Ev nf h c t nm' := by
  unfold Ev
  have hns := H.1.1.1
  rcases inf_rng H.1 c t nf (Nat.le_refl _) with z | ⟨s, u, hs, hu, z, hn⟩
  · rw [z]; rfl
  · rw [z]
    dsimp only
    have g : ¬ (nI s = -1) := nI_nm1 (by omega)
    rw [if_neg g, if_neg g, nI_c (by omega)]
    obtain ⟨b, e, h1, eb, ee, -, hW, -⟩ := H.2 s c hs hc hn
    have hbe := hW.1
    unfold evC evv
    rw [eb, ee, nI_c (by omega), nI_c (by omega), stk_ext hW he _ (Nat.le_refl _)]
abbrev S_rl : List Nat := [16, 17, 18, 19, 20, 99, 100, 101, 102, 103, 104]
abbrev F_rl : List (Nat × Nat) := [(15, 0), (92, 15), (15, 4), (92, 20)]
def wfR (W : List Nat) (F : List (Nat × Nat)) : Bool := W.all (fun i => decide (i < 165) && !(S_rl.contains i) && i != 15 && i != 92) && F.all (fun p => decide (p.1 < 165) && !(S_rl.contains p.1) && !(F_rl.contains p))
theorem wfR_a {W : List Nat} {F : List (Nat × Nat)} (hw : wfR W F = true) {h h' : zm_H} (w : zWr W F h h') {i : Nat} (hi : i ∈ S_rl ∨ 165 ≤ i) : h'.2.1 i = h.2.1 i ∧ h'.2.2.2 i = h.2.2.2 i := by
  unfold wfR at hw
  rw [Bool.and_eq_true, List.all_eq_true, List.all_eq_true] at hw
  have n1 : i ∉ W := fun z => by
    have := hw.1 i z
    simp only [Bool.and_eq_true, decide_eq_true_eq] at this
    rcases hi with q | q
    · have := this.1.1.2
      rw [List.contains_iff_mem.mpr q] at this
      cases this
    · omega
  refine ⟨w.arr i n1 (fun p hp z => ?_), (w.2 i n1).2.2⟩
  have := hw.2 p hp
  simp only [Bool.and_eq_true, decide_eq_true_eq] at this
  rw [z] at this
  rcases hi with q | q
  · have := this.1.2
    rw [List.contains_iff_mem.mpr q] at this
    cases this
  · omega
theorem wfR_f {W : List Nat} {F : List (Nat × Nat)} (hw : wfR W F = true) {h h' : zm_H} (w : zWr W F h h') {i k : Nat} (hi : (i, k) ∈ F_rl) : h'.2.1 i k = h.2.1 i k := by
  unfold wfR at hw
  rw [Bool.and_eq_true, List.all_eq_true, List.all_eq_true] at hw
  have hi15 : i = 15 ∨ i = 92 := by
    simp [F_rl] at hi
    omega
  refine w.fld i k (fun z => ?_) (fun z => ?_)
  · have := hw.1 i z
    simp only [Bool.and_eq_true, bne_iff_ne] at this
    rcases hi15 with q | q
    · exact this.1.2 q
    · exact this.2 q
  · have := hw.2 _ z
    simp only [Bool.and_eq_true] at this
    have := this.2
    rw [List.contains_iff_mem.mpr hi] at this
    cases this
theorem Ev_w {nf : Nat} {W : List Nat} {F : List (Nat × Nat)} (hw : wfR W F = true) {h h' : zm_H} (w : zWr W F h h') (c : Nat) (t : Int32) (nm : Nat → Int32) : Ev nf h' c t nm = Ev nf h c t nm := by
  unfold Ev evC
  rw [(wfR_a hw w (i := 99) (Or.inl (by decide))).1, (wfR_a hw w (i := 100) (Or.inl (by decide))).1, (wfR_a hw w (i := 101) (Or.inl (by decide))).1, (wfR_a hw w (i := 102) (Or.inl (by decide))).1, (wfR_a hw w (i := 103) (Or.inl (by decide))).1, (wfR_a hw w (i := 104) (Or.inl (by decide))).1]
theorem I_rl_w {ns nf : Nat} {W : List Nat} {F : List (Nat × Nat)} (hw : wfR W F = true) {h h' : zm_H} (w : zWr W F h h') (H : I_rl ns nf h) : I_rl ns nf h' := by
  have a : ∀ i, i ∈ S_rl → h'.2.1 i = h.2.1 i := fun i hi => (wfR_a hw w (Or.inl hi)).1
  obtain ⟨⟨⟨a1, a2, a3⟩, ⟨b1, b2, b3⟩, c, d⟩, e⟩ := H
  refine ⟨⟨⟨a1, (wfR_f hw w (by decide)).trans a2, (wfR_f hw w (by decide)).trans a3⟩, ⟨b1, (wfR_f hw w (by decide)).trans b2, (wfR_f hw w (by decide)).trans b3⟩, ?_, ?_⟩, ?_⟩
  · rw [a 19 (by decide), a 20 (by decide), a 17 (by decide), a 103 (by decide), a 104 (by decide), a 101 (by decide)]; exact c
  · rw [a 103 (by decide), a 104 (by decide)]; exact d
  · intro s c hs hc
    have := e s c hs hc
    unfold I_cl at this ⊢
    rw [a 101 (by decide), a 102 (by decide), a 18 (by decide), a 99 (by decide), a 100 (by decide), (wfR_a hw w (i := 16) (Or.inl (by decide))).2, w.1]
    intro hn
    obtain ⟨b, e, q1, q2, q3, q4, q5, r, L, q6, q7, q8, q9, q10, q11⟩ := this hn
    exact ⟨b, e, q1, q2, q3, q4, q5, r, L, q6, q7, q8, q9, q10, by rw [(wfR_a hw w (i := r) (Or.inr q7)).1]; exact q11⟩
theorem inf_w {nf : Nat} {W : List Nat} {F : List (Nat × Nat)} (hw : wfR W F = true) {h h' : zm_H} (w : zWr W F h h') (c : Nat) (t : Int32) : inf (h'.2.1 103) (h'.2.1 104) (h'.2.1 101) c t nf = inf (h.2.1 103) (h.2.1 104) (h.2.1 101) c t nf := by
  rw [(wfR_a hw w (i := 101) (Or.inl (by decide))).1, (wfR_a hw w (i := 103) (Or.inl (by decide))).1, (wfR_a hw w (i := 104) (Or.inl (by decide))).1]
/-- the NAMES of a raft -/
def nmR (S : Nat → Nat → Int32) (sz : Nat → Int32) (sea t : Int32) (r : Nat) : Nat → Int32 := fun j => if j = 0 then sea / 1000 else if j = 1 then zm_rm sea 1000 / 10 else if j = 2 then zm_rm sea 10 - 1 + 1 else if j = 3 then S 3 r else if j = 4 then lh S r else if j = 5 then sz r else if j = 6 then t / 8 else if j = 7 then zm_rm t 8 else if S 0 r = 1 ∨ S 0 r = 2 then 1 else 0
/-- the NAMES of none -/
def nmZ (sea t : Int32) : Nat → Int32 := fun j => if j = 0 then sea / 1000 else if j = 1 then zm_rm sea 1000 / 10 else if j = 2 then zm_rm sea 10 - 1 + 1 else if j = 6 then t / 8 else if j = 7 then zm_rm t 8 else 0
def sN (f : Nat → Int32) (sea t : Int32) : Prop := f 0 = sea / 1000 ∧ f 1 = zm_rm sea 1000 / 10 ∧ f 2 = zm_rm sea 10 - 1 + 1 ∧ f 6 = t / 8 ∧ f 7 = zm_rm t 8
theorem sea_rng {sea : Int32} (h : rdOK sea) : (sea / 1000).toInt = sea.toInt / 1000 ∧ (zm_rm sea 1000 / 10).toInt = sea.toInt % 1000 / 10 ∧ (zm_rm sea 10 - 1 + 1).toInt = sea.toInt % 10 ∧ (zm_rm sea 10 - 1).toInt = sea.toInt % 10 - 1 := by
  obtain ⟨h1, h2, h3, h4, h5⟩ := h
  have a2 : (zm_rm sea 1000).toInt = sea.toInt % 1000 := by rw [i_rm h1 (by decide), i_1000]
  have a3 : (zm_rm sea 10).toInt = sea.toInt % 10 := by rw [i_rm h1 (by decide), i_10]
  have a4 : (zm_rm sea 10 - 1).toInt = sea.toInt % 10 - 1 := by rw [i_sub (by rw [a3, i_1]; omega) (by rw [a3, i_1]; omega), a3, i_1]
  refine ⟨by rw [i_div h1 (by decide), i_1000], by rw [i_div (by rw [a2]; omega) (by decide), a2, i_10], ?_, a4⟩
  rw [i_add (by rw [a4, i_1]; omega) (by rw [a4, i_1]; omega), a4, i_1]
  omega
theorem t_rng {t : Nat} (ht : t < 480) : (nI t / 8).toInt = (t / 8 : Nat) ∧ (zm_rm (nI t) 8).toInt = (t % 8 : Nat) := by
  have e8 : (8 : Int32).toInt = 8 := rfl
  have b : (nI t).toInt = t := i_nI (by omega)
  refine ⟨?_, ?_⟩
  · rw [i_div (by omega) (by decide), b, e8]; omega
  · rw [i_rm (by omega) (by decide), b, e8]; omega
theorem nmR_ok {nr g : Nat} {S : Nat → Nat → Int32} (V : vOK nr g S) {sz : Nat → Int32} {sea : Int32} (hs : rdOK sea) {t r : Nat} (ht : t < 480) (hr : r < 10) (hz : 0 ≤ (sz r).toInt ∧ (sz r).toInt ≤ 20) : nmOK (nmR S sz sea (nI t) r) := by
  obtain ⟨s1, s2, s3, -⟩ := sea_rng hs
  obtain ⟨t1, t2⟩ := t_rng ht
  have hl := lh_n V hr
  have v6 := V.2.2.2.2.2.1 r hr
  obtain ⟨h1, h2, h3, h4, h5⟩ := hs
  intro j hj
  unfold nmR
  repeat' split
  all_goals first | (rw [s1]; omega) | (rw [s2]; omega) | (rw [s3]; omega) | omega | (rw [t1]; omega) | (rw [t2]; omega) | decide
theorem nmZ_ok {sea : Int32} (hs : rdOK sea) {t : Nat} (ht : t < 480) : nmOK (nmZ sea (nI t)) := by
  obtain ⟨s1, s2, s3, -⟩ := sea_rng hs
  obtain ⟨t1, t2⟩ := t_rng ht
  obtain ⟨h1, h2, h3, h4, h5⟩ := hs
  intro j hj
  unfold nmZ
  repeat' split
  all_goals first | (rw [s1]; omega) | (rw [s2]; omega) | (rw [s3]; omega) | omega | (rw [t1]; omega) | (rw [t2]; omega) | decide
theorem nmOK_ext {f g : Nat → Int32} (e : ∀ j, j < 9 → f j = g j) (H : nmOK g) : nmOK f := fun j hj => by rw [e j hj]; exact H j hj
