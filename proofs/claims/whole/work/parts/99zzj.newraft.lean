/-! ===== a raft that came later changes no SPELL that was gone through ===== -/
theorem dot_3 (S : Nat → Nat → Int32) (kd : Int32) (r : Nat) (p s : Int32) (k : Nat) : dot S kd r p s 3 k = S 3 k := by
  unfold dot
  by_cases c5 : kd = 5
  · rw [if_pos c5, rnw3_at]; simp [zu_at]
  rw [if_neg c5]
  by_cases c4 : kd = 4
  · rw [if_pos c4, rnw3_at]; simp [zu_at]
  rw [if_neg c4]
  by_cases c3 : kd = 3
  · rw [if_pos c3]; simp [zu_at]
  rw [if_neg c3, rnw_at]
  simp
theorem thI_3 (T : Nat → Nat → Int32) (k : Nat) (j : Nat) : ∀ m S, thI T k m S 3 j = S 3 j := by
  intro m
  induction m with
  | zero => intro S; rfl
  | succ m ih =>
    intro S
    show thS T (k + m) (thI T k m S) 3 j = _
    unfold thS
    by_cases c : dbl (thI T k m S) (T 1 (k + m)) (T 2 (k + m)).toNatClampNeg (T 3 (k + m)) = true
    · rw [if_pos c, dot_3]; exact ih S
    · rw [if_neg c]; exact ih S
theorem snk_3 (E : Nat → (Nat → Int32) → Int32) (sz : Nat → Int32) (sea t : Int32) (j : Nat) : ∀ n S, fld (snk E sz sea t) n S 3 j = S 3 j := by
  intro n
  induction n with
  | zero => intro S; rfl
  | succ n ih =>
    intro S
    rw [fld, ← ih S]
    generalize fld (snk E sz sea t) n S = X
    unfold snk
    repeat' split
    all_goals simp [zu_at]
theorem pwr_3 (tk : Nat → Int32) (j : Nat) : ∀ n, n ≤ j → ∀ S, fld (pwr tk) n S 3 j = S 3 j := by
  intro n
  induction n with
  | zero => intro _ S; rfl
  | succ n ih =>
    intro hn S
    rw [fld, ← ih (by omega) S]
    generalize fld (pwr tk) n S = X
    unfold pwr
    rw [zu_at, if_neg (by decide), zu_at, if_neg (by decide), zu_at, if_pos rfl, if_neg (by omega)]
theorem st3_3 (S : Nat → Nat → Int32) (r : Nat) (load way t : Int32) (j : Nat) : ∀ k, st3 S r load way t k 3 j = S 3 j := by
  intro k
  induction k with
  | zero => rfl
  | succ k ih =>
    rw [st3, ← ih]
    generalize st3 S r load way t k = X
    unfold stn
    repeat' split
    all_goals simp [zu_at]
theorem chn_3 (sz : Nat → Int32) (sea t : Int32) (j : Nat) : ∀ n S, fld (chn sz sea t) n S 3 j = S 3 j := by
  intro n
  induction n with
  | zero => intro S; rfl
  | succ n ih =>
    intro S
    rw [fld, ← ih S]
    generalize fld (chn sz sea t) n S = X
    unfold chn
    by_cases c : X 0 n = 1
    · rw [if_pos c]
      split
      · exact st3_3 _ _ _ _ _ _ _
      · rw [zu_at, if_neg (by decide), zu_at, if_neg (by decide)]; exact st3_3 _ _ _ _ _ _ _
    · rw [if_neg c]
theorem pS3_3 (E : Nat → (Nat → Int32) → Int32) (sz su : Nat → Int32) (sea t : Int32) (nr : Nat) (S : Nat → Nat → Int32) {j : Nat} (hj : nr ≤ j) : pS3 E sz su sea t nr S 3 j = S 3 j := by
  unfold pS3
  rw [chn_3]
  unfold pS2
  rw [pwr_3 _ _ _ hj]
  unfold pS1
  rw [snk_3]
theorem anH_3 (nf nr nt q d : Nat) (h : zm_H) {j : Nat} (hj : nr ≤ j) : ∀ t, (anH nf nr nt q d h t).1 3 j = 0 ∧ bnH nf nr nt q d h t 3 j = 0 := by
  have b : ∀ t, bnH nf nr nt q d h t 3 j = (anH nf nr nt q d h t).1 3 j := fun t => by unfold bnH; exact thI_3 _ _ _ _ _
  intro t
  induction t with
  | zero =>
    have a : (anH nf nr nt q d h 0).1 3 j = 0 := by
      show an0 3 j = 0
      unfold an0
      by_cases c : 3 < 8 ∧ j < zsz 3
      · rw [if_pos c, if_neg (by omega)]
      · rw [if_neg c]
    exact ⟨a, (b 0).trans a⟩
  | succ t ih =>
    have a : (anH nf nr nt q d h (t + 1)).1 3 j = 0 := by rw [anH_s]; exact (pS3_3 _ _ _ _ _ _ _ hj).trans ih.2
    exact ⟨a, (b _).trans a⟩
theorem rat_n {S : Nat → Nat → Int32} {nr : Nat} (h0 : ¬ S 0 nr = 1) (p : Int32) : rat S p (nr + 1) = rat S p nr := by rw [rat, if_neg (fun z => h0 z.1)]
theorem rwF_n {S : Nat → Nat → Int32} {nr : Nat} (h0 : ¬ S 0 nr = 1) (sz su : Nat → Int32) (per : Int32) (y : Nat) (fl : Nat → Int32) : rwF S (nr + 1) sz su per y fl = rwF S nr sz su per y fl := by
  funext c
  unfold rwF
  rw [rat_n h0]
theorem rwT_n {S : Nat → Nat → Int32} {nr : Nat} (h0 : ¬ S 0 nr = 1) (sz su : Nat → Int32) (per : Int32) (y : Nat) (fl tk : Nat → Int32) : rwT S (nr + 1) sz su per y fl tk = rwT S nr sz su per y fl tk := by
  funext r
  unfold rwT
  by_cases c : r < nr ∧ S 0 r = 1 ∧ zm_rm (S 1 r) 10 = nI y
  · rw [if_pos c, if_pos ⟨by omega, c.2⟩]
  · rw [if_neg c, if_neg]
    rintro ⟨a, b, e⟩
    by_cases z : r = nr
    · rw [z] at b; exact h0 b
    · exact c ⟨by omega, b, e⟩
theorem wvs_n {S : Nat → Nat → Int32} {nr : Nat} (h0 : ¬ S 0 nr = 1) (sz su : Nat → Int32) (sea : Int32) : ∀ y, wvs S (nr + 1) sz su sea y = wvs S nr sz su sea y ∧ (wvs S nr sz su sea y).2 nr = 0 := by
  intro y
  induction y with
  | zero => exact ⟨rfl, rfl⟩
  | succ y ih =>
    refine ⟨by rw [wvs, wvs, ih.1, rwF_n h0, rwT_n h0], ?_⟩
    rw [wvs]
    dsimp only
    unfold rwT
    rw [if_neg (fun z => by omega)]
    exact ih.2
theorem wv_n1 {S : Nat → Nat → Int32} {nr : Nat} (h0 : ¬ S 0 nr = 1) (sz su : Nat → Int32) (sea : Int32) : wvF S (nr + 1) sz su sea = wvF S nr sz su sea ∧ wvT S (nr + 1) sz su sea = wvT S nr sz su sea ∧ wvT S nr sz su sea nr = 0 := by
  refine ⟨?_, ?_, ?_⟩
  · unfold wvF; rw [(wvs_n h0 sz su sea 4).1, rwF_n h0]
  · unfold wvT; rw [(wvs_n h0 sz su sea 4).1, rwT_n h0]
  · unfold wvT rwT
    rw [if_neg (fun z => by omega)]
    exact (wvs_n h0 sz su sea 4).2
theorem pwv_0 {S : Nat → Nat → Int32} {tk : Nat → Int32} {r : Nat} (h : tk r = 0) : pwv S tk r = 0 := by
  unfold pwv
  rw [h, Int32.zero_mul]
  rfl
theorem pwr_0 {S : Nat → Nat → Int32} {tk : Nat → Int32} {r : Nat} (h : tk r = 0) (h3 : S 3 r = 0) : pwr tk r S = S := by
  unfold pwr
  rw [pwv_0 h, h, if_neg (by decide), Int32.add_zero, Int32.add_zero, zu_self h3, zu_self rfl, zu_self rfl]
/-- one raft more, which has not come by then -/
theorem p_n {E : Nat → (Nat → Int32) → Int32} {nr g : Nat} (hnr : nr < 10) (hg : g < 480) {S : Nat → Nat → Int32} (V : vOK nr g S) (h3 : S 3 nr = 0) {sz su cm : Nat → Int32} (hz : szOK nr sz su) {sea : Int32} (hs : rdOK sea) {t : Nat} (ht : t < 480) (hcm : ¬ (cm nr ≤ nI t)) : pS3 E sz su sea (nI t) (nr + 1) S = pS3 E sz su sea (nI t) nr S ∧ pTot E sz su sea (nI t) (nr + 1) S = pTot E sz su sea (nI t) nr S ∧ pPay E sz su cm sea (nI t) (nr + 1) S = pPay E sz su cm sea (nI t) nr S ∧ pFl E sz su sea (nI t) (nr + 1) S = pFl E sz su sea (nI t) nr S := by
  obtain ⟨v1, v2, v3, v4⟩ := vOK_p (by omega) hg V hz hs ht E
  have z1 : pS1 E sz sea (nI t) nr S 0 nr = 0 := v1.2.2.2.1 nr (Nat.le_refl _) hnr
  have n1 : ¬ pS1 E sz sea (nI t) nr S 0 nr = 1 := by rw [z1]; decide
  have n2 : ¬ pS1 E sz sea (nI t) nr S 0 nr = 2 := by rw [z1]; decide
  have s1 : pS1 E sz sea (nI t) (nr + 1) S = pS1 E sz sea (nI t) nr S := by
    unfold pS1
    rw [fld]
    show snk E sz sea (nI t) nr (pS1 E sz sea (nI t) nr S) = pS1 E sz sea (nI t) nr S
    unfold snk
    rw [if_neg n1, if_neg n2]
  obtain ⟨w1, w2, w3⟩ := wv_n1 n1 sz su sea
  have tk : pTk E sz su sea (nI t) (nr + 1) S = pTk E sz su sea (nI t) nr S := by unfold pTk; rw [s1, w2]
  have tk0 : pTk E sz su sea (nI t) nr S nr = 0 := w3
  have s2 : pS2 E sz su sea (nI t) (nr + 1) S = pS2 E sz su sea (nI t) nr S := by
    unfold pS2
    rw [s1, tk, fld]
    refine pwr_0 tk0 ?_
    rw [pwr_3 _ _ _ (Nat.le_refl _)]
    unfold pS1
    rw [snk_3]; exact h3
  have s3 : pS3 E sz su sea (nI t) (nr + 1) S = pS3 E sz su sea (nI t) nr S := by
    unfold pS3
    rw [s2, fld]
    have z3 : pS3 E sz su sea (nI t) nr S 0 nr = 0 := v4.2.2.2.1 nr (Nat.le_refl _) hnr
    unfold pS3 at z3
    generalize fld (chn sz sea (nI t)) nr (pS2 E sz su sea (nI t) nr S) = X at z3
    unfold chn
    rw [if_neg (by rw [z3]; decide)]
  refine ⟨s3, ?_, ?_, ?_⟩
  · unfold pTot
    rw [s1, tk, tot, pwv_0 tk0, Int32.add_zero]
  · unfold pPay
    rw [s3, pys, if_neg hcm]
  · unfold pFl
    rw [s1, w1]
theorem an_n {nf nr nt q d G : Nat} (hnr : nr < 10) (hG : G ≤ 480) {h : zm_H} (V : ∀ t, t < G → vOK nr t (bnH nf nr nt q d h t)) (hz : szOK nr (h.2.1 112) (h.2.1 113)) (hs : ∀ t, t < G → rdOK (seaP h q d t)) (hcm : ∀ t, t < G → ¬ (h.2.1 114 nr ≤ nI t)) : ∀ t, t ≤ G → anH nf (nr + 1) nt q d h t = anH nf nr nt q d h t ∧ (t < G → bnH nf (nr + 1) nt q d h t = bnH nf nr nt q d h t ∧ oT nf (nr + 1) nt q d h t = oT nf nr nt q d h t ∧ oP nf (nr + 1) nt q d h t = oP nf nr nt q d h t ∧ oF nf (nr + 1) nt q d h t = oF nf nr nt q d h t) := by
  have one : ∀ t, t < G → anH nf (nr + 1) nt q d h t = anH nf nr nt q d h t → (bnH nf (nr + 1) nt q d h t = bnH nf nr nt q d h t ∧ oT nf (nr + 1) nt q d h t = oT nf nr nt q d h t ∧ oP nf (nr + 1) nt q d h t = oP nf nr nt q d h t ∧ oF nf (nr + 1) nt q d h t = oF nf nr nt q d h t) ∧ pS3 (fun c nm => Ev nf h c (nI t) nm) (h.2.1 112) (h.2.1 113) (seaP h q d t) (nI t) (nr + 1) (bnH nf nr nt q d h t) = pS3 (fun c nm => Ev nf h c (nI t) nm) (h.2.1 112) (h.2.1 113) (seaP h q d t) (nI t) nr (bnH nf nr nt q d h t) := by
    intro t ht e
    have eb : bnH nf (nr + 1) nt q d h t = bnH nf nr nt q d h t := by unfold bnH; rw [e]
    obtain ⟨x1, x2, x3, x4⟩ := p_n (E := fun c nm => Ev nf h c (nI t) nm) (cm := h.2.1 114) hnr (by omega) (V t ht) (anH_3 nf nr nt q d h (Nat.le_refl _) t).2 hz (hs t ht) (show t < 480 by omega) (hcm t ht)
    refine ⟨⟨eb, ?_, ?_, ?_⟩, x1⟩
    · unfold oT; rw [eb, x2]
    · unfold oP; rw [eb, x3]
    · unfold oF; rw [eb, x4]
  intro t
  induction t with
  | zero => intro _; exact ⟨rfl, fun z => (one 0 z rfl).1⟩
  | succ t ih =>
    intro ht
    obtain ⟨i2, -⟩ := ih (by omega)
    obtain ⟨o1, o2⟩ := one t (by omega) i2
    have e : anH nf (nr + 1) nt q d h (t + 1) = anH nf nr nt q d h (t + 1) := by rw [anH_s, anH_s, o1.1, i2, o2]
    exact ⟨e, fun z => (one (t + 1) z e).1⟩
theorem rA_n {nf nr nt q d G : Nat} (hnr : nr < 10) (hG : G ≤ 480) {h x : zm_H} (V : ∀ t, t < G → vOK nr t (bnH nf nr nt q d h t)) (hz : szOK nr (h.2.1 112) (h.2.1 113)) (hs : ∀ t, t < G → rdOK (seaP h q d t)) (hcm : ∀ t, t < G → ¬ (h.2.1 114 nr ≤ nI t)) (A : rA nf nr nt q d G h x) : rA nf (nr + 1) nt q d G h x := by
  obtain ⟨a1, a2, a3, a4⟩ := A
  have X := an_n hnr hG V hz hs hcm
  refine ⟨a1, ?_, ?_, fun t ht => ?_⟩
  · rw [(X G (Nat.le_refl _)).1]; exact a2
  · rw [(X G (Nat.le_refl _)).1]; exact a3
  · obtain ⟨-, y⟩ := X t (by omega)
    obtain ⟨-, y2, y3, y4⟩ := y ht
    rw [y2, y3, y4]; exact a4 t ht
