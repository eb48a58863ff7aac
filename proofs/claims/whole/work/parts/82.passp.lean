/-! ===== a SPELL, as one function ===== -/
theorem op_n {sea : Int32} (h : rdOK sea) : 0 ≤ ((sea / 1000) * (sea / 1000) * (zm_rm sea 1000 / 10)).toInt ∧ ((sea / 1000) * (sea / 1000) * (zm_rm sea 1000 / 10)).toInt ≤ 288000 := by
  obtain ⟨q1, q2, -⟩ := sea_rng h
  obtain ⟨h1, h2, h3, h4, h5⟩ := h
  obtain ⟨a, ea⟩ : ∃ a, a = (sea / 1000).toInt := ⟨_, rfl⟩
  obtain ⟨b, eb⟩ : ∃ b, b = (zm_rm sea 1000 / 10).toInt := ⟨_, rfl⟩
  have ha : 0 ≤ a ∧ a ≤ 120 := by omega
  have hb : 2 ≤ b ∧ b ≤ 20 := by omega
  have m1 : 0 ≤ a * a := Int.mul_nonneg ha.1 ha.1
  have m2 : a * a ≤ 120 * 120 := Int.mul_le_mul ha.2 ha.2 ha.1 (by omega)
  have e1 : ((sea / 1000) * (sea / 1000)).toInt = a * a := by rw [i_mul (by rw [← ea]; omega) (by rw [← ea]; omega), ← ea]
  have m3 : 0 ≤ a * a * b := Int.mul_nonneg m1 (by omega)
  have m4 : a * a * b ≤ (120 * 120) * 20 := Int.mul_le_mul m2 hb.2 (by omega) (by omega)
  rw [i_mul (by rw [e1, ← eb]; omega) (by rw [e1, ← eb]; omega), e1, ← eb]
  omega
def flOK (f : Nat → Int32) : Prop := ∀ c, c < 10 → 0 ≤ (f c).toInt ∧ (f c).toInt ≤ 288000
def szOK (nr : Nat) (sz su : Nat → Int32) : Prop := ∀ r, r < nr → (1 ≤ (sz r).toInt ∧ (sz r).toInt ≤ 20) ∧ (2 ≤ (su r).toInt ∧ (su r).toInt ≤ 20)
theorem rw_n {S : Nat → Nat → Int32} {nr : Nat} (hnr : nr ≤ 10) (hw : wOK nr S) {sz su : Nat → Int32} (hz : szOK nr sz su) {per : Int32} (p1 : 2 ≤ per.toInt) (p2 : per.toInt ≤ 20) {y : Nat} {fl tk : Nat → Int32} (hf : flOK fl) (ht : flOK tk) : flOK (rwF S nr sz su per y fl) ∧ flOK (rwT S nr sz su per y fl tk) := by
  refine ⟨fun c hc => ?_, fun r hr => ?_⟩
  · unfold rwF
    obtain ⟨f1, f2⟩ := hf c hc
    rcases rat_c S (nI (10 * c + y)) nr with ⟨a, -⟩ | ⟨q, hq, a, -, -⟩
    · rw [a, if_pos (by decide)]; exact hf c hc
    · rw [a, if_neg (by rw [i_lt, i_nI (by omega), i_0]; omega), nI_c (by omega)]
      obtain ⟨⟨s1, s2⟩, s3, s4⟩ := hz q hq
      obtain ⟨-, k1, k2⟩ := fit_n p1 p2 s3 s4
      obtain ⟨t1, t2, -⟩ := tk_n f1 f2 k1 k2 s1 s2
      rw [i_sub (by omega) (by omega)]
      omega
  · unfold rwT
    by_cases c : r < nr ∧ S 0 r = 1 ∧ zm_rm (S 1 r) 10 = nI y
    · rw [if_pos c]
      obtain ⟨p, hp, -, ep⟩ := hw.1 r c.1 c.2.1
      rw [ep, (pl_n hp).2, nI_c (by omega)]
      obtain ⟨f1, f2⟩ := hf (p / 10) (by omega)
      obtain ⟨⟨s1, s2⟩, s3, s4⟩ := hz r c.1
      obtain ⟨-, k1, k2⟩ := fit_n p1 p2 s3 s4
      obtain ⟨t1, t2, -⟩ := tk_n f1 f2 k1 k2 s1 s2
      omega
    · rw [if_neg c]; exact ht r hr
theorem wv_n {S : Nat → Nat → Int32} {nr : Nat} (hnr : nr ≤ 10) (hw : wOK nr S) {sz su : Nat → Int32} (hz : szOK nr sz su) {sea : Int32} (hs : rdOK sea) : ∀ y, flOK (wvs S nr sz su sea y).1 ∧ flOK (wvs S nr sz su sea y).2 := by
  obtain ⟨o1, o2⟩ := op_n hs
  obtain ⟨q1, q2, -⟩ := sea_rng hs
  obtain ⟨h1, h2, h3, h4, h5⟩ := hs
  intro y
  induction y with
  | zero => exact ⟨fun c _ => ⟨o1, o2⟩, fun c _ => ⟨by show 0 ≤ (0 : Int32).toInt; decide, by show (0 : Int32).toInt ≤ 288000; decide⟩⟩
  | succ y ih =>
    obtain ⟨a, b⟩ := rw_n hnr hw hz (per := zm_rm sea 1000 / 10) (by rw [q2]; omega) (by rw [q2]; omega) (y := y) ih.1 ih.2
    refine ⟨fun c hc => ?_, b⟩
    rw [wvs]
    dsimp only
    unfold shf
    by_cases q : ¬ ((nI c - (zm_rm sea 10 - 1)) < 0) ∧ (¬ (10 ≤ (nI c - (zm_rm sea 10 - 1))))
    · rw [if_pos q]
      have e10 : (10 : Int32).toInt = 10 := rfl
      rw [i_lt, i_le, i_0, e10] at q
      have := i_cl (show 0 ≤ (nI c - (zm_rm sea 10 - 1)).toInt by omega)
      exact a _ (by omega)
    · rw [if_neg q]; exact ⟨o1, o2⟩
theorem wvT_n {S : Nat → Nat → Int32} {nr : Nat} (hnr : nr ≤ 10) (hw : wOK nr S) {sz su : Nat → Int32} (hz : szOK nr sz su) {sea : Int32} (hs : rdOK sea) : flOK (wvT S nr sz su sea) ∧ flOK (wvF S nr sz su sea) := by
  obtain ⟨a, b⟩ := wv_n hnr hw hz hs 4
  obtain ⟨q1, q2, -⟩ := sea_rng hs
  obtain ⟨h1, h2, h3, h4, h5⟩ := hs
  obtain ⟨c, d⟩ := rw_n hnr hw hz (per := zm_rm sea 1000 / 10) (by rw [q2]; omega) (by rw [q2]; omega) (y := 4) a b
  exact ⟨d, c⟩
def tot (S : Nat → Nat → Int32) (tk : Nat → Int32) : Nat → Int32
  | 0 => 0
  | k + 1 => tot S tk k + pwv S tk k
def clq (v : Int32) : Int32 := if (-100000) ≤ v then (if v ≤ 100000 then v else 100000) else -100000
def pys (E : Nat → (Nat → Int32) → Int32) (S : Nat → Nat → Int32) (sz cm : Nat → Int32) (sea t : Int32) : Nat → Int32
  | 0 => 0
  | k + 1 => if cm k ≤ t then pys E S sz cm sea t k + clq (E 3 (nmR S sz sea t k)) else pys E S sz cm sea t k
def pS1 (E : Nat → (Nat → Int32) → Int32) (sz : Nat → Int32) (sea t : Int32) (nr : Nat) (S : Nat → Nat → Int32) : Nat → Nat → Int32 := fld (snk E sz sea t) nr S
def pTk (E : Nat → (Nat → Int32) → Int32) (sz su : Nat → Int32) (sea t : Int32) (nr : Nat) (S : Nat → Nat → Int32) : Nat → Int32 := wvT (pS1 E sz sea t nr S) nr sz su sea
def pS2 (E : Nat → (Nat → Int32) → Int32) (sz su : Nat → Int32) (sea t : Int32) (nr : Nat) (S : Nat → Nat → Int32) : Nat → Nat → Int32 := fld (pwr (pTk E sz su sea t nr S)) nr (pS1 E sz sea t nr S)
def pS3 (E : Nat → (Nat → Int32) → Int32) (sz su : Nat → Int32) (sea t : Int32) (nr : Nat) (S : Nat → Nat → Int32) : Nat → Nat → Int32 := fld (chn sz sea t) nr (pS2 E sz su sea t nr S)
def pTot (E : Nat → (Nat → Int32) → Int32) (sz su : Nat → Int32) (sea t : Int32) (nr : Nat) (S : Nat → Nat → Int32) : Int32 := tot (pS1 E sz sea t nr S) (pTk E sz su sea t nr S) nr
def pPay (E : Nat → (Nat → Int32) → Int32) (sz su cm : Nat → Int32) (sea t : Int32) (nr : Nat) (S : Nat → Nat → Int32) : Int32 := pys E (pS3 E sz su sea t nr S) sz cm sea t nr
def pFl (E : Nat → (Nat → Int32) → Int32) (sz su : Nat → Int32) (sea t : Int32) (nr : Nat) (S : Nat → Nat → Int32) : Nat → Int32 := wvF (pS1 E sz sea t nr S) nr sz su sea
theorem vOK_up {nr g : Nat} {S : Nat → Nat → Int32} (V : vOK nr g S) : vOK nr (g + 1) S := by
  obtain ⟨v1, v2, v3, v4, v5, v6, v7⟩ := V
  exact ⟨v1, v2, v3, v4, v5, fun r hr => by have := v6 r hr; omega, v7⟩
theorem vOK_pwrs {nr g : Nat} (hg : g < 480) {S : Nat → Nat → Int32} (V : vOK nr g S) {tk : Nat → Int32} (ht : flOK tk) : ∀ n, n ≤ 10 → vOK nr (g + 1) (fld (pwr tk) n S) ∧ ∀ r, n ≤ r → r < 10 → (fld (pwr tk) n S 2 r).toInt ≤ g := by
  intro n
  induction n with
  | zero => intro _; exact ⟨vOK_up V, fun r _ hr => by have := V.2.2.2.2.2.1 r hr; simp only [fld]; omega⟩
  | succ n ih =>
    intro hn
    obtain ⟨a, b⟩ := ih (by omega)
    obtain ⟨t1, t2⟩ := ht n (by omega)
    rw [fld]
    exact vOK_pwr hg a b (by omega) t1 t2
theorem vOK_chns {nr g : Nat} (hnr : nr ≤ 10) {S : Nat → Nat → Int32} (V : vOK nr g S) {sz su : Nat → Int32} (hz : szOK nr sz su) {sea : Int32} (hs : rdOK sea) {t : Nat} (ht : t < 480) : ∀ n, n ≤ nr → vOK nr g (fld (chn sz sea (nI t)) n S) := by
  intro n
  induction n with
  | zero => intro _; simp only [fld]; exact V
  | succ n ih =>
    intro hn
    rw [fld]
    exact vOK_chn (ih (by omega)) hs ht (by omega) (hz n (by omega)).1.1 (hz n (by omega)).1.2
/-- what holds of the rafts holds behind the SPELL -/
theorem vOK_p {nr g : Nat} (hnr : nr ≤ 10) (hg : g < 480) {S : Nat → Nat → Int32} (V : vOK nr g S) {sz su : Nat → Int32} (hz : szOK nr sz su) {sea : Int32} (hs : rdOK sea) {t : Nat} (ht : t < 480) (E : Nat → (Nat → Int32) → Int32) : vOK nr g (pS1 E sz sea (nI t) nr S) ∧ flOK (pTk E sz su sea (nI t) nr S) ∧ vOK nr (g + 1) (pS2 E sz su sea (nI t) nr S) ∧ vOK nr (g + 1) (pS3 E sz su sea (nI t) nr S) := by
  have a : vOK nr g (pS1 E sz sea (nI t) nr S) := vOK_snks V _ _ _ _ nr hnr
  have b : flOK (pTk E sz su sea (nI t) nr S) := (wvT_n hnr (a.w hnr) hz hs).1
  have c : vOK nr (g + 1) (pS2 E sz su sea (nI t) nr S) := (vOK_pwrs hg a b nr hnr).1
  exact ⟨a, b, c, vOK_chns hnr c hz hs ht nr (Nat.le_refl _)⟩
