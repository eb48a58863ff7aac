/-! ===== THINGS of the class alone ===== -/
def J_th (nr nt : Nat) (h : zm_H) : Prop := nt ≤ 200 ∧ zf h 23 4 = nI nt ∧ ∀ k, k < nt → ∃ r, h.2.1 29 k = nI r ∧ thOK nr (h.2.1 28 k) r (h.2.1 30 k) (h.2.1 31 k)
theorem J_of {nr nt : Nat} {h : zm_H} (H : I_th nr nt h) : J_th nr nt h := ⟨H.1.1, H.1.2.1, fun k hk => (H.2.2 k hk).1⟩
theorem vOK_thJ {nr nt g : Nat} (hnr : nr ≤ 10) {h : zm_H} (H : J_th nr nt h) {S : Nat → Nat → Int32} (V : vOK nr g S) {k : Nat} : ∀ m, k + m ≤ nt → vOK nr g (thI (tT h) k m S) := by
  intro m
  induction m with
  | zero => intro _; exact V
  | succ m ih =>
    intro hm
    rw [thI_s]
    obtain ⟨r, e1, e2⟩ := H.2.2 (k + m) (by omega)
    have hr : r < nr := e2.1
    unfold thS
    have er : (tT h 2 (k + m)).toNatClampNeg = r := by
      show (h.2.1 29 (k + m)).toNatClampNeg = r
      rw [e1, nI_c (by omega)]
    rw [er]
    by_cases c : dbl (thI (tT h) k m S) (tT h 1 (k + m)) r (tT h 3 (k + m)) = true
    · rw [if_pos c]; exact vOK_dot hnr (ih (by omega)) e2 c
    · rw [if_neg c]; exact ih (by omega)
/-! ===== THINGS up to a SPELL, the class: course 37 ===== -/
theorem dthJ_37 {nr nt g : Nat} (hnr : nr ≤ 10) {h : zm_H} (H : J_th nr nt h) (V : vOK nr g (vC 38 h)) {k : Nat} (hk : k ≤ nt) (ek : zf h 37 4 = nI k) (t : Int32) : f_Course_doThings_37_ok t h ∧ zWr [38, 39, 40, 43, 44, 45] [(37, 4)] h (f_Course_doThings_37 t h) ∧ zf (f_Course_doThings_37 t h) 37 4 = nI (k + thn (tT h) nt t k 201) ∧ vC 38 (f_Course_doThings_37 t h) = thI (tT h) k (thn (tT h) nt t k 201) (vC 38 h) := by
  obtain ⟨hnt, e4, hT⟩ := id H
  unfold f_Course_doThings_37_ok f_Course_doThings_37 f_Course_doThings_37_a0 f_Course_doThings_37_k122
  obtain ⟨F, eF, -⟩ := zF_ex
  rw [← eF]
  obtain ⟨n1, n2, n3⟩ := thn_spec (tT h) nt t 201 k (by omega) hk
  obtain ⟨m, em⟩ : ∃ m, m = thn (tT h) nt t k 201 := ⟨_, rfl⟩
  rw [← em] at n1 n2 n3 ⊢
  have key := zlpF eF (b := fun s => f_Course_doThings_37_l0_b t s) (o := fun s => f_Course_doThings_37_l0_b_ok t s) m (by omega)
    (fun j h1 => zWr [38, 39, 40, 43, 44, 45] [(37, 4)] h h1 ∧ zf h1 37 4 = nI (k + j) ∧ vC 38 h1 = thI (tT h) k j (vC 38 h))
    (fun r => zWr [38, 39, 40, 43, 44, 45] [(37, 4)] h r.2 ∧ zf r.2 37 4 = nI (k + m) ∧ vC 38 r.2 = thI (tT h) k m (vC 38 h)) h ⟨zWr.refl _ _, ek, rfl⟩
    (by
      rintro j h1 hj ⟨p1, p2, p3⟩
      obtain ⟨q1, q2⟩ := n1 j hj
      obtain ⟨r, r1, r2⟩ := hT (k + j) q1
      have hr : r < nr := r2.1
      have f4 : zf h1 23 4 = nI nt := (p1.fld 23 4 (by decide) (by decide)).trans e4
      have a : ∀ i, i ∉ [38, 39, 40, 43, 44, 45] → ¬ i = 37 → zr h1 i (nI (k + j)) = h.2.1 i (k + j) := fun i hi hi2 => by
        rw [zr_n h1 i (by omega)]
        exact congrFun (p1.arr i hi (by simpa using fun z => hi2 z.symm)) _
      have b27 : zr h1 27 (nI (k + j)) = h.2.1 27 (k + j) := a 27 (by decide) (by decide)
      have b28 : zr h1 28 (nI (k + j)) = h.2.1 28 (k + j) := a 28 (by decide) (by decide)
      have b29 : zr h1 29 (nI (k + j)) = nI r := by rw [a 29 (by decide) (by decide)]; exact r1
      have b30 : zr h1 30 (nI (k + j)) = h.2.1 30 (k + j) := a 30 (by decide) (by decide)
      have b31 : zr h1 31 (nI (k + j)) = h.2.1 31 (k + j) := a 31 (by decide) (by decide)
      have g1 : ¬ (zf h1 23 4 ≤ zf h1 37 4) := by rw [f4, p2, nx_le (by omega) (by omega)]; omega
      have g2 : ¬ (t < h.2.1 27 (k + j)) := by
        have q2 : h.2.1 27 (k + j) ≤ t := q2
        rw [i_lt]; rw [i_le] at q2; omega
      obtain ⟨d1, d2⟩ := db_37 (h := h1) (show r < 10 by omega) (h.2.1 28 (k + j)) (h.2.1 30 (k + j))
      obtain ⟨d3, d4⟩ := dt_37 (h := h1) (show r < 10 by omega) (kd4 r2) (h.2.1 30 (k + j)) (h.2.1 31 (k + j))
      have i200 : vp_in (nI (k + j)) 200 := vp_in_nI (by omega) (by omega)
      have er : (tT h 2 (k + j)).toNatClampNeg = r := by
        show (h.2.1 29 (k + j)).toNatClampNeg = r
        rw [r1, nI_c (by omega)]
      refine ⟨?_, Or.inl ?_⟩
      · unfold f_Course_doThings_37_l0_b_ok
        rw [p2, b27, b28, b29, b30, b31]
        rw [p2] at g1
        exact ⟨fun z => absurd z g1, fun _ => ⟨i200, fun z => absurd z g2, fun _ => ⟨i200, i200, i200, d1, fun _ => trivial, fun _ => ⟨i200, i200, i200, i200, d3⟩⟩⟩⟩
      · unfold f_Course_doThings_37_l0_b f_Course_doThings_37_l0_k109
        rw [if_neg g1, p2, b27, b28, b29, b30, b31, if_neg g2, d2]
        have eS : thI (tT h) k (j + 1) (vC 38 h) = if dbl (vC 38 h1) (h.2.1 28 (k + j)) r (h.2.1 30 (k + j)) = true then dot (vC 38 h1) (h.2.1 28 (k + j)) r (h.2.1 30 (k + j)) (h.2.1 31 (k + j)) else vC 38 h1 := by
          rw [thI_s, ← p3]
          unfold thS
          rw [er]
          rfl
        by_cases c : dbl (vC 38 h1) (h.2.1 28 (k + j)) r (h.2.1 30 (k + j)) = true
        · rw [if_pos c] at eS
          rw [if_pos c, if_neg (show ¬ (1 : Int32) = 0 by decide)]
          have w := f_Course_doThing_37_w (h.2.1 28 (k + j)) (nI r) (h.2.1 30 (k + j)) (h.2.1 31 (k + j)) h1
          generalize f_Course_doThing_37 (h.2.1 28 (k + j)) (nI r) (h.2.1 30 (k + j)) (h.2.1 31 (k + j)) h1 = h2 at w d4
          have f2 : zf h2 37 4 = nI (k + j) := (w.fld 37 4 (by decide) (by decide)).trans p2
          refine ⟨rfl, zWr_p (by decide) (zWr_tr w (by decide) (by decide) p1), ?_, ?_⟩
          · dsimp only
            rw [show k + (j + 1) = k + j + 1 by omega, nI_succ, ← f2]
            exact zm_in _ _ _ _
          · dsimp only
            rw [vC_o (by omega), d4, eS]
        · rw [if_neg c] at eS
          rw [if_neg c, if_pos rfl]
          refine ⟨rfl, zWr_p (by decide) p1, ?_, ?_⟩
          · dsimp only
            rw [show k + (j + 1) = k + j + 1 by omega, nI_succ, ← p2]
            exact zm_in _ _ _ _
          · dsimp only
            rw [vC_o (by omega), eS])
    (by
      rintro h1 ⟨p1, p2, p3⟩
      have f4 : zf h1 23 4 = nI nt := (p1.fld 23 4 (by decide) (by decide)).trans e4
      unfold f_Course_doThings_37_l0_b f_Course_doThings_37_l0_b_ok
      by_cases c1 : zf h1 23 4 ≤ zf h1 37 4
      · rw [if_pos c1]; exact ⟨⟨fun _ => trivial, fun z => absurd c1 z⟩, by simp, p1, p2, p3⟩
      · have hkm : k + m < nt := by rw [f4, p2, nx_le (by omega) (by omega)] at c1; omega
        have b27 : zr h1 27 (zf h1 37 4) = h.2.1 27 (k + m) := by
          rw [p2, zr_n h1 27 (by omega), zf, p1.arr 27 (by decide) (by decide)]
        have c2 : t < zr h1 27 (zf h1 37 4) := by
          rw [b27]
          have this : ¬ h.2.1 27 (k + m) ≤ t := fun z => n2 ⟨hkm, z⟩
          rw [i_lt]; rw [i_le] at this; omega
        rw [if_neg c1, if_pos c2]
        exact ⟨⟨fun z => absurd z c1, fun _ => ⟨by rw [p2]; exact vp_in_nI (by omega) (by omega), fun _ => trivial, fun z => absurd c2 z⟩⟩, by simp, p1, p2, p3⟩)
  exact ⟨⟨key.1, trivial⟩, key.2.1, key.2.2.1, key.2.2.2⟩
/-- the whole SPELL of the class's course -/
theorem pasJ_37 {ns nf nr nt g w : Nat} {h : zm_H} (hg : g < 480) (H : I_rl ns nf h) (R : I_rf w nr h) (T : J_th nr nt h) (V : vOK nr g (vC 38 h)) {t : Nat} {sea : Int32} (hs : rdOK sea) (ht : t < 480) {k : Nat} (hk : k ≤ nt) (ek : zf h 37 4 = nI k) :
    f_Course_pass_37_ok (nI t) sea h ∧ zWr [21, 22, 32, 33, 34, 35, 36, 38, 39, 40, 41, 42, 43, 44, 45, 46, 47, 48, 49] [(15, 9), (37, 3), (37, 4)] h (f_Course_pass_37 (nI t) sea h) ∧ zf (f_Course_pass_37 (nI t) sea h) 37 3 = nI (t + 1) ∧ zf (f_Course_pass_37 (nI t) sea h) 37 4 = nI (k + thn (tT h) nt (nI t) k 201) ∧
    vC 38 (f_Course_pass_37 (nI t) sea h) = pS3 (fun c nm => Ev nf h c (nI t) nm) (h.2.1 112) (h.2.1 113) sea (nI t) nr (thI (tT h) k (thn (tT h) nt (nI t) k 201) (vC 38 h)) ∧
    (f_Course_pass_37 (nI t) sea h).2.1 47 = upd (h.2.1 47) t (pTot (fun c nm => Ev nf h c (nI t) nm) (h.2.1 112) (h.2.1 113) sea (nI t) nr (thI (tT h) k (thn (tT h) nt (nI t) k 201) (vC 38 h))) ∧
    (f_Course_pass_37 (nI t) sea h).2.1 48 = upd (h.2.1 48) t (pPay (fun c nm => Ev nf h c (nI t) nm) (h.2.1 112) (h.2.1 113) (h.2.1 114) sea (nI t) nr (thI (tT h) k (thn (tT h) nt (nI t) k 201) (vC 38 h))) ∧
    ∀ j, (f_Course_pass_37 (nI t) sea h).2.1 49 j = if 10 * t ≤ j ∧ j < 10 * t + 10 then pFl (fun c nm => Ev nf h c (nI t) nm) (h.2.1 112) (h.2.1 113) sea (nI t) nr (thI (tT h) k (thn (tT h) nt (nI t) k 201) (vC 38 h)) (j - 10 * t) else h.2.1 49 j := by
  have hnr := R.1.1
  have hz := szOK_of R
  obtain ⟨a1, a2, a3, a4⟩ := dthJ_37 hnr T V hk ek (nI t)
  have V1 := vOK_thJ hnr T V (k := k) (thn (tT h) nt (nI t) k 201) (thn_spec (tT h) nt (nI t) 201 k (by have := T.1; omega) hk).2.2
  unfold f_Course_pass_37_ok f_Course_pass_37 f_Course_pass_37_k5_ok f_Course_pass_37_k5 f_Course_pass_37_k14_ok f_Course_pass_37_k14 f_Course_pass_37_k19_ok f_Course_pass_37_k19 f_Course_pass_37_k25_ok f_Course_pass_37_k25 f_Course_pass_37_k31_ok f_Course_pass_37_k31
  generalize thn (tT h) nt (nI t) k 201 = m at a3 a4 V1
  generalize f_Course_doThings_37 (nI t) h = h1 at a2 a3 a4
  obtain ⟨b2, b3⟩ := nms_37 h1 sea (nI t)
  generalize f_Rules_nameSea (nI t) sea h1 = h2 at b2 b3
  have w2 : zWr [21, 22, 32, 33, 34, 35, 36, 38, 39, 40, 41, 42, 43, 44, 45, 46, 47, 48, 49] [(15, 9), (37, 3), (37, 4)] h h2 := zWr_tr b2 (by decide) (by decide) (zWr_tr a2 (by decide) (by decide) (zWr.refl _ _))
  have hw : wfR [21, 22, 32, 33, 34, 35, 36, 38, 39, 40, 41, 42, 43, 44, 45, 46, 47, 48, 49] [(15, 9), (37, 3), (37, 4)] = true := by decide
  have hf : (([21, 22, 32, 33, 34, 35, 36, 38, 39, 40, 41, 42, 43, 44, 45, 46, 47, 48, 49] : List Nat).all (fun i => ![23, 24, 25, 26, 92, 112, 113, 114].contains i) && ([(15, 9), (37, 3), (37, 4)] : List (Nat × Nat)).all (fun p => ![24, 25, 26, 112, 113, 114].contains p.1 && p != (23, 0) && p != (92, 33))) = true := by decide
  have v2 : vC 38 h2 = thI (tT h) k m (vC 38 h) := by rw [← a4]; exact vC_eq (fun i hi => b2.arr (38 + i) (by simp; omega) (by simp))
  obtain ⟨S, eS⟩ : ∃ S, S = thI (tT h) k m (vC 38 h) := ⟨_, rfl⟩
  rw [← eS] at v2 V1
  rw [← eS]
  have evE : ∀ x, zWr [21, 22, 32, 33, 34, 35, 36, 38, 39, 40, 41, 42, 43, 44, 45, 46, 47, 48, 49] [(15, 9), (37, 3), (37, 4)] h x → (fun c nm => Ev nf x c (nI t) nm) = (fun c nm => Ev nf h c (nI t) nm) := fun x wx => by funext c nm; exact Ev_w hw wx c (nI t) nm
  obtain ⟨E, eE⟩ : ∃ E, E = (fun c nm => Ev nf h c (nI t) nm) := ⟨_, rfl⟩
  rw [← eE] at evE
  rw [← eE]
  have rest : ∀ x, zWr [21, 22, 32, 33, 34, 35, 36, 38, 39, 40, 41, 42, 43, 44, 45, 46, 47, 48, 49] [(15, 9), (37, 3), (37, 4)] h x → x.2.1 112 = h.2.1 112 ∧ x.2.1 113 = h.2.1 113 ∧ x.2.1 114 = h.2.1 114 := fun x wx => ⟨wx.arr 112 (by decide) (by decide), wx.arr 113 (by decide) (by decide), wx.arr 114 (by decide) (by decide)⟩
  obtain ⟨c1, c2, c3, c4⟩ := snk_37 (I_rl_w hw w2 H) (I_rf_w w2 hf R) (by rw [v2]; exact V1) hs ht b3
  rw [evE h2 w2, (rest h2 w2).1, v2] at c4
  generalize f_Course_sinkAndRise_37 (nI t) h2 = h3 at c2 c3 c4
  have w3 := zWr_tr c2 (by decide) (by decide) w2
  have c4 : vC 38 h3 = pS1 E (h.2.1 112) sea (nI t) nr S := c4
  obtain ⟨P1, P2, P3, P4⟩ := vOK_p hnr hg V1 hz hs ht E
  obtain ⟨d1, d2, d3, d4, d5⟩ := tkw_37 (ns := ns) (nf := nf) hg (I_rf_w w3 hf R) (by rw [c4]; exact P1) hs ht
  rw [(rest h3 w3).1, (rest h3 w3).2.1, c4] at d3 d4 d5
  generalize f_Course_takeWaves_37 (nI t) sea h3 = h4 at d2 d3 d4 d5
  have w4 := zWr_tr d2 (by decide) (by decide) w3
  have d3 : vC 38 h4 = pS2 E (h.2.1 112) (h.2.1 113) sea (nI t) nr S := d3
  obtain ⟨e1, e2, e3⟩ := chs_37 (I_rf_w w4 hf R) (by rw [d3]; exact P3) hs ht
  rw [(rest h4 w4).1, d3] at e3
  generalize f_Course_strainChains_37 (nI t) sea h4 = h5 at e2 e3
  have w5 := zWr_tr e2 (by decide) (by decide) w4
  have e3 : vC 38 h5 = pS3 E (h.2.1 112) (h.2.1 113) sea (nI t) nr S := e3
  have n5 : sN (h5.2.1 21) sea (nI t) := by rw [e2.arr 21 (by decide) (by decide), d2.arr 21 (by decide) (by decide)]; exact c3
  obtain ⟨g1, g2, g3⟩ := bpy_37 (I_rl_w hw w5 H) (I_rf_w w5 hf R) (by rw [e3]; exact P4) hs ht n5
  rw [evE h5 w5, (rest h5 w5).1, (rest h5 w5).2.2, e3] at g3
  generalize f_Course_bookPay_37 (nI t) h5 = h6 at g2 g3
  have w6 := zWr_tr g2 (by decide) (by decide) w5
  have ar : ∀ i, ¬ i = 37 → (zp h6 37 3 (nI t + 1)).2.1 i = h6.2.1 i := fun i hi => by
    show (zm_si h6 37 3 (nI t + 1)).2.1 i = h6.2.1 i
    rw [za_si, if_neg hi]
  refine ⟨⟨a1, c1, d1, e1, g1⟩, zWr_p (by decide) w6, ?_, ?_, ?_, ?_, ?_, ?_⟩
  · rw [nI_succ]; exact zm_in _ _ _ _
  · have k6 : zf h6 37 4 = nI (k + m) := by
      rw [← a3]
      exact (g2.fld 37 4 (by decide) (by decide)).trans ((e2.fld 37 4 (by decide) (by decide)).trans ((d2.fld 37 4 (by decide) (by decide)).trans ((c2.fld 37 4 (by decide) (by decide)).trans (b2.fld 37 4 (by decide) (by decide)))))
    rw [← k6]
    show (zm_si h6 37 3 (nI t + 1)).2.1 37 4 = h6.2.1 37 4
    rw [za_si, if_pos rfl]
    unfold upd
    rw [if_neg (by decide)]
  · rw [← e3]
    apply vC_eq
    intro i hi
    rw [ar _ (by omega), g2.arr (38 + i) (by simp; omega) (by simp; omega)]
  · rw [ar _ (by decide), g2.arr 47 (by decide) (by decide), e2.arr 47 (by decide) (by decide), d4, c2.arr 47 (by decide) (by decide), b2.arr 47 (by decide) (by decide), a2.arr 47 (by decide) (by decide)]
    rfl
  · rw [ar _ (by decide), g3, e2.arr 48 (by decide) (by decide), d2.arr 48 (by decide) (by decide), c2.arr 48 (by decide) (by decide), b2.arr 48 (by decide) (by decide), a2.arr 48 (by decide) (by decide)]
    rfl
  · intro j
    rw [ar _ (by decide), g2.arr 49 (by decide) (by decide), e2.arr 49 (by decide) (by decide), d5, c2.arr 49 (by decide) (by decide), b2.arr 49 (by decide) (by decide), a2.arr 49 (by decide) (by decide)]
    rfl
/-! ===== THINGS up to a SPELL, the class: course 50 ===== -/
theorem dthJ_50 {nr nt g : Nat} (hnr : nr ≤ 10) {h : zm_H} (H : J_th nr nt h) (V : vOK nr g (vC 51 h)) {k : Nat} (hk : k ≤ nt) (ek : zf h 50 4 = nI k) (t : Int32) : f_Course_doThings_50_ok t h ∧ zWr [51, 52, 53, 56, 57, 58] [(50, 4)] h (f_Course_doThings_50 t h) ∧ zf (f_Course_doThings_50 t h) 50 4 = nI (k + thn (tT h) nt t k 201) ∧ vC 51 (f_Course_doThings_50 t h) = thI (tT h) k (thn (tT h) nt t k 201) (vC 51 h) := by
  obtain ⟨hnt, e4, hT⟩ := id H
  unfold f_Course_doThings_50_ok f_Course_doThings_50 f_Course_doThings_50_a0 f_Course_doThings_50_k122
  obtain ⟨F, eF, -⟩ := zF_ex
  rw [← eF]
  obtain ⟨n1, n2, n3⟩ := thn_spec (tT h) nt t 201 k (by omega) hk
  obtain ⟨m, em⟩ : ∃ m, m = thn (tT h) nt t k 201 := ⟨_, rfl⟩
  rw [← em] at n1 n2 n3 ⊢
  have key := zlpF eF (b := fun s => f_Course_doThings_50_l0_b t s) (o := fun s => f_Course_doThings_50_l0_b_ok t s) m (by omega)
    (fun j h1 => zWr [51, 52, 53, 56, 57, 58] [(50, 4)] h h1 ∧ zf h1 50 4 = nI (k + j) ∧ vC 51 h1 = thI (tT h) k j (vC 51 h))
    (fun r => zWr [51, 52, 53, 56, 57, 58] [(50, 4)] h r.2 ∧ zf r.2 50 4 = nI (k + m) ∧ vC 51 r.2 = thI (tT h) k m (vC 51 h)) h ⟨zWr.refl _ _, ek, rfl⟩
    (by
      rintro j h1 hj ⟨p1, p2, p3⟩
      obtain ⟨q1, q2⟩ := n1 j hj
      obtain ⟨r, r1, r2⟩ := hT (k + j) q1
      have hr : r < nr := r2.1
      have f4 : zf h1 23 4 = nI nt := (p1.fld 23 4 (by decide) (by decide)).trans e4
      have a : ∀ i, i ∉ [51, 52, 53, 56, 57, 58] → ¬ i = 50 → zr h1 i (nI (k + j)) = h.2.1 i (k + j) := fun i hi hi2 => by
        rw [zr_n h1 i (by omega)]
        exact congrFun (p1.arr i hi (by simpa using fun z => hi2 z.symm)) _
      have b27 : zr h1 27 (nI (k + j)) = h.2.1 27 (k + j) := a 27 (by decide) (by decide)
      have b28 : zr h1 28 (nI (k + j)) = h.2.1 28 (k + j) := a 28 (by decide) (by decide)
      have b29 : zr h1 29 (nI (k + j)) = nI r := by rw [a 29 (by decide) (by decide)]; exact r1
      have b30 : zr h1 30 (nI (k + j)) = h.2.1 30 (k + j) := a 30 (by decide) (by decide)
      have b31 : zr h1 31 (nI (k + j)) = h.2.1 31 (k + j) := a 31 (by decide) (by decide)
      have g1 : ¬ (zf h1 23 4 ≤ zf h1 50 4) := by rw [f4, p2, nx_le (by omega) (by omega)]; omega
      have g2 : ¬ (t < h.2.1 27 (k + j)) := by
        have q2 : h.2.1 27 (k + j) ≤ t := q2
        rw [i_lt]; rw [i_le] at q2; omega
      obtain ⟨d1, d2⟩ := db_50 (h := h1) (show r < 10 by omega) (h.2.1 28 (k + j)) (h.2.1 30 (k + j))
      obtain ⟨d3, d4⟩ := dt_50 (h := h1) (show r < 10 by omega) (kd4 r2) (h.2.1 30 (k + j)) (h.2.1 31 (k + j))
      have i200 : vp_in (nI (k + j)) 200 := vp_in_nI (by omega) (by omega)
      have er : (tT h 2 (k + j)).toNatClampNeg = r := by
        show (h.2.1 29 (k + j)).toNatClampNeg = r
        rw [r1, nI_c (by omega)]
      refine ⟨?_, Or.inl ?_⟩
      · unfold f_Course_doThings_50_l0_b_ok
        rw [p2, b27, b28, b29, b30, b31]
        rw [p2] at g1
        exact ⟨fun z => absurd z g1, fun _ => ⟨i200, fun z => absurd z g2, fun _ => ⟨i200, i200, i200, d1, fun _ => trivial, fun _ => ⟨i200, i200, i200, i200, d3⟩⟩⟩⟩
      · unfold f_Course_doThings_50_l0_b f_Course_doThings_50_l0_k109
        rw [if_neg g1, p2, b27, b28, b29, b30, b31, if_neg g2, d2]
        have eS : thI (tT h) k (j + 1) (vC 51 h) = if dbl (vC 51 h1) (h.2.1 28 (k + j)) r (h.2.1 30 (k + j)) = true then dot (vC 51 h1) (h.2.1 28 (k + j)) r (h.2.1 30 (k + j)) (h.2.1 31 (k + j)) else vC 51 h1 := by
          rw [thI_s, ← p3]
          unfold thS
          rw [er]
          rfl
        by_cases c : dbl (vC 51 h1) (h.2.1 28 (k + j)) r (h.2.1 30 (k + j)) = true
        · rw [if_pos c] at eS
          rw [if_pos c, if_neg (show ¬ (1 : Int32) = 0 by decide)]
          have w := f_Course_doThing_50_w (h.2.1 28 (k + j)) (nI r) (h.2.1 30 (k + j)) (h.2.1 31 (k + j)) h1
          generalize f_Course_doThing_50 (h.2.1 28 (k + j)) (nI r) (h.2.1 30 (k + j)) (h.2.1 31 (k + j)) h1 = h2 at w d4
          have f2 : zf h2 50 4 = nI (k + j) := (w.fld 50 4 (by decide) (by decide)).trans p2
          refine ⟨rfl, zWr_p (by decide) (zWr_tr w (by decide) (by decide) p1), ?_, ?_⟩
          · dsimp only
            rw [show k + (j + 1) = k + j + 1 by omega, nI_succ, ← f2]
            exact zm_in _ _ _ _
          · dsimp only
            rw [vC_o (by omega), d4, eS]
        · rw [if_neg c] at eS
          rw [if_neg c, if_pos rfl]
          refine ⟨rfl, zWr_p (by decide) p1, ?_, ?_⟩
          · dsimp only
            rw [show k + (j + 1) = k + j + 1 by omega, nI_succ, ← p2]
            exact zm_in _ _ _ _
          · dsimp only
            rw [vC_o (by omega), eS])
    (by
      rintro h1 ⟨p1, p2, p3⟩
      have f4 : zf h1 23 4 = nI nt := (p1.fld 23 4 (by decide) (by decide)).trans e4
      unfold f_Course_doThings_50_l0_b f_Course_doThings_50_l0_b_ok
      by_cases c1 : zf h1 23 4 ≤ zf h1 50 4
      · rw [if_pos c1]; exact ⟨⟨fun _ => trivial, fun z => absurd c1 z⟩, by simp, p1, p2, p3⟩
      · have hkm : k + m < nt := by rw [f4, p2, nx_le (by omega) (by omega)] at c1; omega
        have b27 : zr h1 27 (zf h1 50 4) = h.2.1 27 (k + m) := by
          rw [p2, zr_n h1 27 (by omega), zf, p1.arr 27 (by decide) (by decide)]
        have c2 : t < zr h1 27 (zf h1 50 4) := by
          rw [b27]
          have this : ¬ h.2.1 27 (k + m) ≤ t := fun z => n2 ⟨hkm, z⟩
          rw [i_lt]; rw [i_le] at this; omega
        rw [if_neg c1, if_pos c2]
        exact ⟨⟨fun z => absurd z c1, fun _ => ⟨by rw [p2]; exact vp_in_nI (by omega) (by omega), fun _ => trivial, fun z => absurd c2 z⟩⟩, by simp, p1, p2, p3⟩)
  exact ⟨⟨key.1, trivial⟩, key.2.1, key.2.2.1, key.2.2.2⟩
/-- the whole SPELL of the class's course -/
theorem pasJ_50 {ns nf nr nt g w : Nat} {h : zm_H} (hg : g < 480) (H : I_rl ns nf h) (R : I_rf w nr h) (T : J_th nr nt h) (V : vOK nr g (vC 51 h)) {t : Nat} {sea : Int32} (hs : rdOK sea) (ht : t < 480) {k : Nat} (hk : k ≤ nt) (ek : zf h 50 4 = nI k) :
    f_Course_pass_50_ok (nI t) sea h ∧ zWr [21, 22, 32, 33, 34, 35, 36, 51, 52, 53, 54, 55, 56, 57, 58, 59, 60, 61, 62] [(15, 9), (50, 3), (50, 4)] h (f_Course_pass_50 (nI t) sea h) ∧ zf (f_Course_pass_50 (nI t) sea h) 50 3 = nI (t + 1) ∧ zf (f_Course_pass_50 (nI t) sea h) 50 4 = nI (k + thn (tT h) nt (nI t) k 201) ∧
    vC 51 (f_Course_pass_50 (nI t) sea h) = pS3 (fun c nm => Ev nf h c (nI t) nm) (h.2.1 112) (h.2.1 113) sea (nI t) nr (thI (tT h) k (thn (tT h) nt (nI t) k 201) (vC 51 h)) ∧
    (f_Course_pass_50 (nI t) sea h).2.1 60 = upd (h.2.1 60) t (pTot (fun c nm => Ev nf h c (nI t) nm) (h.2.1 112) (h.2.1 113) sea (nI t) nr (thI (tT h) k (thn (tT h) nt (nI t) k 201) (vC 51 h))) ∧
    (f_Course_pass_50 (nI t) sea h).2.1 61 = upd (h.2.1 61) t (pPay (fun c nm => Ev nf h c (nI t) nm) (h.2.1 112) (h.2.1 113) (h.2.1 114) sea (nI t) nr (thI (tT h) k (thn (tT h) nt (nI t) k 201) (vC 51 h))) ∧
    ∀ j, (f_Course_pass_50 (nI t) sea h).2.1 62 j = if 10 * t ≤ j ∧ j < 10 * t + 10 then pFl (fun c nm => Ev nf h c (nI t) nm) (h.2.1 112) (h.2.1 113) sea (nI t) nr (thI (tT h) k (thn (tT h) nt (nI t) k 201) (vC 51 h)) (j - 10 * t) else h.2.1 62 j := by
  have hnr := R.1.1
  have hz := szOK_of R
  obtain ⟨a1, a2, a3, a4⟩ := dthJ_50 hnr T V hk ek (nI t)
  have V1 := vOK_thJ hnr T V (k := k) (thn (tT h) nt (nI t) k 201) (thn_spec (tT h) nt (nI t) 201 k (by have := T.1; omega) hk).2.2
  unfold f_Course_pass_50_ok f_Course_pass_50 f_Course_pass_50_k5_ok f_Course_pass_50_k5 f_Course_pass_50_k14_ok f_Course_pass_50_k14 f_Course_pass_50_k19_ok f_Course_pass_50_k19 f_Course_pass_50_k25_ok f_Course_pass_50_k25 f_Course_pass_50_k31_ok f_Course_pass_50_k31
  generalize thn (tT h) nt (nI t) k 201 = m at a3 a4 V1
  generalize f_Course_doThings_50 (nI t) h = h1 at a2 a3 a4
  obtain ⟨b2, b3⟩ := nms_50 h1 sea (nI t)
  generalize f_Rules_nameSea (nI t) sea h1 = h2 at b2 b3
  have w2 : zWr [21, 22, 32, 33, 34, 35, 36, 51, 52, 53, 54, 55, 56, 57, 58, 59, 60, 61, 62] [(15, 9), (50, 3), (50, 4)] h h2 := zWr_tr b2 (by decide) (by decide) (zWr_tr a2 (by decide) (by decide) (zWr.refl _ _))
  have hw : wfR [21, 22, 32, 33, 34, 35, 36, 51, 52, 53, 54, 55, 56, 57, 58, 59, 60, 61, 62] [(15, 9), (50, 3), (50, 4)] = true := by decide
  have hf : (([21, 22, 32, 33, 34, 35, 36, 51, 52, 53, 54, 55, 56, 57, 58, 59, 60, 61, 62] : List Nat).all (fun i => ![23, 24, 25, 26, 92, 112, 113, 114].contains i) && ([(15, 9), (50, 3), (50, 4)] : List (Nat × Nat)).all (fun p => ![24, 25, 26, 112, 113, 114].contains p.1 && p != (23, 0) && p != (92, 33))) = true := by decide
  have v2 : vC 51 h2 = thI (tT h) k m (vC 51 h) := by rw [← a4]; exact vC_eq (fun i hi => b2.arr (51 + i) (by simp; omega) (by simp))
  obtain ⟨S, eS⟩ : ∃ S, S = thI (tT h) k m (vC 51 h) := ⟨_, rfl⟩
  rw [← eS] at v2 V1
  rw [← eS]
  have evE : ∀ x, zWr [21, 22, 32, 33, 34, 35, 36, 51, 52, 53, 54, 55, 56, 57, 58, 59, 60, 61, 62] [(15, 9), (50, 3), (50, 4)] h x → (fun c nm => Ev nf x c (nI t) nm) = (fun c nm => Ev nf h c (nI t) nm) := fun x wx => by funext c nm; exact Ev_w hw wx c (nI t) nm
  obtain ⟨E, eE⟩ : ∃ E, E = (fun c nm => Ev nf h c (nI t) nm) := ⟨_, rfl⟩
  rw [← eE] at evE
  rw [← eE]
  have rest : ∀ x, zWr [21, 22, 32, 33, 34, 35, 36, 51, 52, 53, 54, 55, 56, 57, 58, 59, 60, 61, 62] [(15, 9), (50, 3), (50, 4)] h x → x.2.1 112 = h.2.1 112 ∧ x.2.1 113 = h.2.1 113 ∧ x.2.1 114 = h.2.1 114 := fun x wx => ⟨wx.arr 112 (by decide) (by decide), wx.arr 113 (by decide) (by decide), wx.arr 114 (by decide) (by decide)⟩
  obtain ⟨c1, c2, c3, c4⟩ := snk_50 (I_rl_w hw w2 H) (I_rf_w w2 hf R) (by rw [v2]; exact V1) hs ht b3
  rw [evE h2 w2, (rest h2 w2).1, v2] at c4
  generalize f_Course_sinkAndRise_50 (nI t) h2 = h3 at c2 c3 c4
  have w3 := zWr_tr c2 (by decide) (by decide) w2
  have c4 : vC 51 h3 = pS1 E (h.2.1 112) sea (nI t) nr S := c4
  obtain ⟨P1, P2, P3, P4⟩ := vOK_p hnr hg V1 hz hs ht E
  obtain ⟨d1, d2, d3, d4, d5⟩ := tkw_50 (ns := ns) (nf := nf) hg (I_rf_w w3 hf R) (by rw [c4]; exact P1) hs ht
  rw [(rest h3 w3).1, (rest h3 w3).2.1, c4] at d3 d4 d5
  generalize f_Course_takeWaves_50 (nI t) sea h3 = h4 at d2 d3 d4 d5
  have w4 := zWr_tr d2 (by decide) (by decide) w3
  have d3 : vC 51 h4 = pS2 E (h.2.1 112) (h.2.1 113) sea (nI t) nr S := d3
  obtain ⟨e1, e2, e3⟩ := chs_50 (I_rf_w w4 hf R) (by rw [d3]; exact P3) hs ht
  rw [(rest h4 w4).1, d3] at e3
  generalize f_Course_strainChains_50 (nI t) sea h4 = h5 at e2 e3
  have w5 := zWr_tr e2 (by decide) (by decide) w4
  have e3 : vC 51 h5 = pS3 E (h.2.1 112) (h.2.1 113) sea (nI t) nr S := e3
  have n5 : sN (h5.2.1 21) sea (nI t) := by rw [e2.arr 21 (by decide) (by decide), d2.arr 21 (by decide) (by decide)]; exact c3
  obtain ⟨g1, g2, g3⟩ := bpy_50 (I_rl_w hw w5 H) (I_rf_w w5 hf R) (by rw [e3]; exact P4) hs ht n5
  rw [evE h5 w5, (rest h5 w5).1, (rest h5 w5).2.2, e3] at g3
  generalize f_Course_bookPay_50 (nI t) h5 = h6 at g2 g3
  have w6 := zWr_tr g2 (by decide) (by decide) w5
  have ar : ∀ i, ¬ i = 50 → (zp h6 50 3 (nI t + 1)).2.1 i = h6.2.1 i := fun i hi => by
    show (zm_si h6 50 3 (nI t + 1)).2.1 i = h6.2.1 i
    rw [za_si, if_neg hi]
  refine ⟨⟨a1, c1, d1, e1, g1⟩, zWr_p (by decide) w6, ?_, ?_, ?_, ?_, ?_, ?_⟩
  · rw [nI_succ]; exact zm_in _ _ _ _
  · have k6 : zf h6 50 4 = nI (k + m) := by
      rw [← a3]
      exact (g2.fld 50 4 (by decide) (by decide)).trans ((e2.fld 50 4 (by decide) (by decide)).trans ((d2.fld 50 4 (by decide) (by decide)).trans ((c2.fld 50 4 (by decide) (by decide)).trans (b2.fld 50 4 (by decide) (by decide)))))
    rw [← k6]
    show (zm_si h6 50 3 (nI t + 1)).2.1 50 4 = h6.2.1 50 4
    rw [za_si, if_pos rfl]
    unfold upd
    rw [if_neg (by decide)]
  · rw [← e3]
    apply vC_eq
    intro i hi
    rw [ar _ (by omega), g2.arr (51 + i) (by simp; omega) (by simp; omega)]
  · rw [ar _ (by decide), g2.arr 60 (by decide) (by decide), e2.arr 60 (by decide) (by decide), d4, c2.arr 60 (by decide) (by decide), b2.arr 60 (by decide) (by decide), a2.arr 60 (by decide) (by decide)]
    rfl
  · rw [ar _ (by decide), g3, e2.arr 61 (by decide) (by decide), d2.arr 61 (by decide) (by decide), c2.arr 61 (by decide) (by decide), b2.arr 61 (by decide) (by decide), a2.arr 61 (by decide) (by decide)]
    rfl
  · intro j
    rw [ar _ (by decide), g2.arr 62 (by decide) (by decide), e2.arr 62 (by decide) (by decide), d5, c2.arr 62 (by decide) (by decide), b2.arr 62 (by decide) (by decide), a2.arr 62 (by decide) (by decide)]
    rfl
