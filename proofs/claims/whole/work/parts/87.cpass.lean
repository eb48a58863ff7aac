/-! ===== a SPELL of the class: course 37 ===== -/
theorem clq_37 (v : Int32) : (if (-100000 : Int32) < (if 100000 < v then 100000 else v) then (if 100000 < v then 100000 else v) else (-100000 : Int32)) = clq v := by
  have e1 : (100000 : Int32).toInt = 100000 := rfl
  have e2 : (-100000 : Int32).toInt = -100000 := rfl
  unfold clq
  by_cases a : 100000 < v
  · have a' := a
    rw [i_lt, e1] at a'
    rw [if_pos a, if_pos (by decide), if_pos (by rw [i_le, e2]; omega), if_neg (by rw [i_le, e1]; omega)]
  · have a' := a
    rw [i_lt, e1] at a'
    rw [if_neg a]
    by_cases b : -100000 < v
    · have b' := b
      rw [i_lt, e2] at b'
      rw [if_pos b, if_pos (by rw [i_le, e2]; omega), if_pos (by rw [i_le, e1]; omega)]
    · have b' := b
      rw [i_lt, e2] at b'
      rw [if_neg b]
      by_cases c : -100000 ≤ v
      · have c' := c
        rw [i_le, e2] at c'
        rw [if_pos c, if_pos (by rw [i_le, e1]; omega)]
        exact Int32.toInt_inj.mp (by rw [e2]; omega)
      · rw [if_neg c]
theorem bpy_37 {ns nf nr g w : Nat} {h : zm_H} (H : I_rl ns nf h) (R : I_rf w nr h) (V : vOK nr g (vC 38 h)) {t : Nat} {sea : Int32} (hs : rdOK sea) (ht : t < 480) (hN : sN (h.2.1 21) sea (nI t)) : f_Course_bookPay_37_ok (nI t) h ∧ zWr [21, 22, 48] [(15, 9)] h (f_Course_bookPay_37 (nI t) h) ∧ (f_Course_bookPay_37 (nI t) h).2.1 48 = upd (h.2.1 48) t (pys (fun c nm => Ev nf h c (nI t) nm) (vC 38 h) (h.2.1 112) (h.2.1 114) sea (nI t) nr) := by
  obtain ⟨⟨hnr, e23, -⟩, ⟨a24, -, a26⟩, hR⟩ := R
  obtain ⟨r0, q0⟩ := fc_N H.1 (c := 3) (by omega) (nI t)
  have r0 : f_Rules_ruling_ok 3 (nI t) h := r0
  obtain ⟨A, eA⟩ : ∃ A, A = f_Rules_ruling 3 (nI t) h := ⟨_, rfl⟩
  have q0 : A = (inf (h.2.1 103) (h.2.1 104) (h.2.1 101) 3 (nI t) nf).1 := by rw [eA]; exact q0
  have it : vp_in (nI t) 480 := vp_in_nI ht (by omega)
  unfold f_Course_bookPay_37_ok f_Course_bookPay_37 f_Course_bookPay_37_a19 f_Course_bookPay_37_k72
  rw [← eA, zs_n _ 48 _ (by omega)]
  obtain ⟨F, eF, -⟩ := zF_ex
  rw [← eF]
  have key := zlp_k eF (b := fun s => f_Course_bookPay_37_l19_b (nI t) A s.1 s.2) (o := fun s => f_Course_bookPay_37_l19_b_ok (nI t) A s.1 s.2) nr (by omega) 0
    (fun j h1 => zWr [21, 22, 48] [(15, 9)] h h1 ∧ sN (h1.2.1 21) sea (nI t) ∧ h1.2.1 48 = upd (h.2.1 48) t (pys (fun c nm => Ev nf h c (nI t) nm) (vC 38 h) (h.2.1 112) (h.2.1 114) sea (nI t) j)) (zm_si h 48 t 0)
    ⟨zWr_si (by decide) (zWr.refl _ _), by rw [za_si, if_neg (by decide)]; exact hN, by rw [za_si, if_pos rfl, pys]⟩
    (by
      rintro j h1 hj ⟨p1, p2, p3⟩
      rw [Nat.zero_add]
      have hj10 : j < 10 := by omega
      have f23 : zf h1 23 0 = nI nr := (p1.fld 23 0 (by decide) (by decide)).trans e23
      have g0 : ¬ (zf h1 23 0 ≤ nI j) := by rw [f23, nx_le (by omega) (by omega)]; omega
      have ev : vC 38 h1 = vC 38 h := vC_eq (fun i hi => p1.arr (38 + i) (by simp; omega) (by simp; omega))
      have V1 : vOK nr g (vC 38 h1) := by rw [ev]; exact V
      have hw : wfR [21, 22, 48] [(15, 9)] = true := by decide
      have H1 : I_rl ns nf h1 := I_rl_w hw p1 H
      have e24 : h1.2.1 24 = h.2.1 112 := (p1.arr 24 (by decide) (by decide)).trans a24
      have e26 : zr h1 26 (nI j) = h.2.1 114 j := by rw [zr_n h1 26 (by omega), zf, p1.arr 26 (by decide) (by decide), a26]
      have e48 : zr h1 48 (nI t) = pys (fun c nm => Ev nf h c (nI t) nm) (vC 38 h) (h.2.1 112) (h.2.1 114) sea (nI t) j := by
        rw [zr_n h1 48 (by omega), zf, p3]; unfold upd; rw [if_pos rfl]
      have i10 : vp_in (nI j) 10 := vp_in_nI hj10 (by omega)
      have hz : 0 ≤ (h1.2.1 24 j).toInt ∧ (h1.2.1 24 j).toInt ≤ 20 := by rw [e24]; have := (hR j hj).1; omega
      obtain ⟨k1, k2, k3, k4⟩ := say_37 (c := 3) (q := A) H1 V1 hs ht hj10 hz p2 (by omega) (by omega) (by rw [q0, inf_w hw p1])
      rw [Ev_w hw p1, e24, ev] at k2
      have k1 : f_Course_says_37_ok A 3 (nI j) h1 := k1
      have k2 : (f_Course_says_37 A 3 (nI j) h1).1 = _ := k2
      have k3 : zWr [21, 22] [(15, 9)] h1 (f_Course_says_37 A 3 (nI j) h1).2 := k3
      have k4 : sN ((f_Course_says_37 A 3 (nI j) h1).2.2.1 21) sea (nI t) := k4
      dsimp only
      unfold f_Course_bookPay_37_l19_b f_Course_bookPay_37_l19_b_ok f_Course_bookPay_37_l19_k59 f_Course_bookPay_37_l19_k59_ok f_Course_bookPay_37_l19_k66
      rw [if_neg g0, e26, e48, k2, clq_37, ← nI_succ, pys]
      by_cases c : h.2.1 114 j ≤ nI t
      · have c2 : ¬ nI t < h.2.1 114 j := by rw [i_le] at c; rw [i_lt]; omega
        rw [if_neg c2, if_pos c, zs_n _ 48 _ (by omega)]
        refine ⟨⟨fun z => absurd z g0, fun _ => ⟨i10, fun z => absurd z c2, fun _ => ⟨it, k1, it⟩⟩⟩, _, rfl, zWr_si (by decide) (zWr_tr k3 (by decide) (by decide) p1), ?_, ?_⟩
        · rw [za_si, if_neg (by decide)]; exact k4
        · rw [za_si, if_pos rfl, k3.arr 48 (by decide) (by decide), p3]
          funext x
          unfold upd
          by_cases y : x = t
          · rw [if_pos y, if_pos y]
          · rw [if_neg y, if_neg y, if_neg y]
      · have c2 : nI t < h.2.1 114 j := by rw [i_le] at c; rw [i_lt]; omega
        rw [if_pos c2, if_neg c]
        exact ⟨⟨fun z => absurd z g0, fun _ => ⟨i10, fun _ => trivial, fun z => absurd c2 z⟩⟩, _, rfl, p1, p2, p3⟩)
    (by
      rintro q ⟨p1, p2, p3⟩
      rw [Nat.zero_add]
      have f23 : zf q 23 0 = nI nr := (p1.fld 23 0 (by decide) (by decide)).trans e23
      have g0 : zf q 23 0 ≤ nI nr := by rw [f23]; exact i_le_r _
      dsimp only
      unfold f_Course_bookPay_37_l19_b f_Course_bookPay_37_l19_b_ok
      rw [if_pos g0]
      exact ⟨⟨fun _ => trivial, fun z => absurd g0 z⟩, rfl⟩)
  rw [Nat.zero_add] at key
  obtain ⟨k1, h3, k2, k3, k4, k5⟩ := key
  have k2 : f_Course_bookPay_37_l19 (nI t) A F (0, zm_si h 48 t 0) = (1, nI nr, h3) := k2
  rw [k2]
  exact ⟨⟨r0, it, k1, trivial⟩, k3, k5⟩
theorem nms_37 (h : zm_H) (sea t : Int32) : zWr [21] [] h (f_Rules_nameSea t sea h) ∧ sN ((f_Rules_nameSea t sea h).2.1 21) sea t := by
  unfold f_Rules_nameSea
  rw [show (0 : Int32) = nI 0 from rfl, show (1 : Int32) = nI 1 from rfl, show (2 : Int32) = nI 2 from rfl, show (6 : Int32) = nI 6 from rfl, show (7 : Int32) = nI 7 from rfl, zs_n _ 21 _ (by omega), zs_n _ 21 _ (by omega), zs_n _ 21 _ (by omega), zs_n _ 21 _ (by omega), zs_n _ 21 _ (by omega)]
  refine ⟨zWr_si (by decide) (zWr_si (by decide) (zWr_si (by decide) (zWr_si (by decide) (zWr_si (by decide) (zWr.refl _ _))))), ?_⟩
  unfold sN
  refine ⟨?_, ?_, ?_, ?_, ?_⟩ <;> simp [za_si, upd]
/-- the whole SPELL of the class's course -/
theorem pas_37 {ns nf nr nt g w : Nat} {h : zm_H} (hg : g < 480) (H : I_rl ns nf h) (R : I_rf w nr h) (T : I_th nr nt h) (V : vOK nr g (vC 38 h)) {t : Nat} {sea : Int32} (hs : rdOK sea) (ht : t < 480) {k : Nat} (hk : k ≤ nt) (ek : zf h 37 4 = nI k) :
    f_Course_pass_37_ok (nI t) sea h ∧ zWr [21, 22, 32, 33, 34, 35, 36, 38, 39, 40, 41, 42, 43, 44, 45, 46, 47, 48, 49] [(15, 9), (37, 3), (37, 4)] h (f_Course_pass_37 (nI t) sea h) ∧ zf (f_Course_pass_37 (nI t) sea h) 37 3 = nI (t + 1) ∧ zf (f_Course_pass_37 (nI t) sea h) 37 4 = nI (k + thn (tT h) nt (nI t) k 201) ∧
    vC 38 (f_Course_pass_37 (nI t) sea h) = pS3 (fun c nm => Ev nf h c (nI t) nm) (h.2.1 112) (h.2.1 113) sea (nI t) nr (thI (tT h) k (thn (tT h) nt (nI t) k 201) (vC 38 h)) ∧
    (f_Course_pass_37 (nI t) sea h).2.1 47 = upd (h.2.1 47) t (pTot (fun c nm => Ev nf h c (nI t) nm) (h.2.1 112) (h.2.1 113) sea (nI t) nr (thI (tT h) k (thn (tT h) nt (nI t) k 201) (vC 38 h))) ∧
    (f_Course_pass_37 (nI t) sea h).2.1 48 = upd (h.2.1 48) t (pPay (fun c nm => Ev nf h c (nI t) nm) (h.2.1 112) (h.2.1 113) (h.2.1 114) sea (nI t) nr (thI (tT h) k (thn (tT h) nt (nI t) k 201) (vC 38 h))) ∧
    ∀ j, (f_Course_pass_37 (nI t) sea h).2.1 49 j = if 10 * t ≤ j ∧ j < 10 * t + 10 then pFl (fun c nm => Ev nf h c (nI t) nm) (h.2.1 112) (h.2.1 113) sea (nI t) nr (thI (tT h) k (thn (tT h) nt (nI t) k 201) (vC 38 h)) (j - 10 * t) else h.2.1 49 j := by
  have hnr := R.1.1
  have hz := szOK_of R
  obtain ⟨a1, a2, a3, a4⟩ := dths_37 hnr T V hk ek (nI t)
  have V1 := vOK_thI hnr T V (k := k) (thn (tT h) nt (nI t) k 201) (thn_spec (tT h) nt (nI t) 201 k (by have := T.1.1; omega) hk).2.2
  unfold f_Course_pass_37_ok f_Course_pass_37 f_Course_pass_37_k5_ok f_Course_pass_37_k5 f_Course_pass_37_k14_ok f_Course_pass_37_k14 f_Course_pass_37_k19_ok f_Course_pass_37_k19 f_Course_pass_37_k25_ok f_Course_pass_37_k25 f_Course_pass_37_k31_ok f_Course_pass_37_k31
  generalize thn (tT h) nt (nI t) k 201 = m at a3 a4 V1
  generalize f_Course_doThings_37 (nI t) h = h1 at a2 a3 a4
  obtain ⟨b2, b3⟩ := nms_37 h1 sea (nI t)
  generalize f_Rules_nameSea (nI t) sea h1 = h2 at b2 b3
  have w2 : zWr [21, 22, 32, 33, 34, 35, 36, 38, 39, 40, 41, 42, 43, 44, 45, 46, 47, 48, 49] [(15, 9), (37, 3), (37, 4)] h h2 := zWr_tr b2 (by decide) (by decide) (zWr_tr a2 (by decide) (by decide) (zWr.refl _ _))
  have hw : wfR [21, 22, 32, 33, 34, 35, 36, 38, 39, 40, 41, 42, 43, 44, 45, 46, 47, 48, 49] [(15, 9), (37, 3), (37, 4)] = true := by decide
  have hf : (([21, 22, 32, 33, 34, 35, 36, 38, 39, 40, 41, 42, 43, 44, 45, 46, 47, 48, 49] : List Nat).all (fun i => ![23, 24, 25, 26, 92, 112, 113, 114].contains i) && ([(15, 9), (37, 3), (37, 4)] : List (Nat × Nat)).all (fun p => ![24, 25, 26, 112, 113, 114].contains p.1 && p != (23, 0) && p != (92, 33))) = true := by decide
  have v2 : vC 38 h2 = thI (tT h) k m (vC 38 h) := by rw [← a4]; exact vC_eq (fun i hi => b2.arr (38 + i) (by simp; omega) (by simp))
  obtain ⟨S, eS⟩ : ∃ S, S = thI (tT h) k m (vC 38 h) := ⟨_, rfl⟩
  rw [← eS] at v2 V1
  rw [← eS]
  have evE : ∀ x, zWr [21, 22, 32, 33, 34, 35, 36, 38, 39, 40, 41, 42, 43, 44, 45, 46, 47, 48, 49] [(15, 9), (37, 3), (37, 4)] h x → (fun c nm => Ev nf x c (nI t) nm) = (fun c nm => Ev nf h c (nI t) nm) := fun x wx => by funext c nm; exact Ev_w hw wx c (nI t) nm
  obtain ⟨E, eE⟩ : ∃ E, E = (fun c nm => Ev nf h c (nI t) nm) := ⟨_, rfl⟩
  rw [← eE] at evE
  rw [← eE]
  have rest : ∀ x, zWr [21, 22, 32, 33, 34, 35, 36, 38, 39, 40, 41, 42, 43, 44, 45, 46, 47, 48, 49] [(15, 9), (37, 3), (37, 4)] h x → x.2.1 112 = h.2.1 112 ∧ x.2.1 113 = h.2.1 113 ∧ x.2.1 114 = h.2.1 114 := fun x wx => ⟨wx.arr 112 (by decide) (by decide), wx.arr 113 (by decide) (by decide), wx.arr 114 (by decide) (by decide)⟩
  obtain ⟨c1, c2, c3, c4⟩ := snk_37 (I_rl_w hw w2 H) (I_rf_w w2 hf R) (by rw [v2]; exact V1) hs ht b3
  rw [evE h2 w2, (rest h2 w2).1, v2] at c4
  generalize f_Course_sinkAndRise_37 (nI t) h2 = h3 at c2 c3 c4
  have w3 := zWr_tr c2 (by decide) (by decide) w2
  have c4 : vC 38 h3 = pS1 E (h.2.1 112) sea (nI t) nr S := c4
  obtain ⟨P1, P2, P3, P4⟩ := vOK_p hnr hg V1 hz hs ht E
  obtain ⟨d1, d2, d3, d4, d5⟩ := tkw_37 (ns := ns) (nf := nf) hg (I_rf_w w3 hf R) (by rw [c4]; exact P1) hs ht
  rw [(rest h3 w3).1, (rest h3 w3).2.1, c4] at d3 d4 d5
  generalize f_Course_takeWaves_37 (nI t) sea h3 = h4 at d2 d3 d4 d5
  have w4 := zWr_tr d2 (by decide) (by decide) w3
  have d3 : vC 38 h4 = pS2 E (h.2.1 112) (h.2.1 113) sea (nI t) nr S := d3
  obtain ⟨e1, e2, e3⟩ := chs_37 (I_rf_w w4 hf R) (by rw [d3]; exact P3) hs ht
  rw [(rest h4 w4).1, d3] at e3
  generalize f_Course_strainChains_37 (nI t) sea h4 = h5 at e2 e3
  have w5 := zWr_tr e2 (by decide) (by decide) w4
  have e3 : vC 38 h5 = pS3 E (h.2.1 112) (h.2.1 113) sea (nI t) nr S := e3
  have n5 : sN (h5.2.1 21) sea (nI t) := by rw [e2.arr 21 (by decide) (by decide), d2.arr 21 (by decide) (by decide)]; exact c3
  obtain ⟨g1, g2, g3⟩ := bpy_37 (I_rl_w hw w5 H) (I_rf_w w5 hf R) (by rw [e3]; exact P4) hs ht n5
  rw [evE h5 w5, (rest h5 w5).1, (rest h5 w5).2.2, e3] at g3
  generalize f_Course_bookPay_37 (nI t) h5 = h6 at g2 g3
  have w6 := zWr_tr g2 (by decide) (by decide) w5
  have ar : ∀ i, ¬ i = 37 → (zp h6 37 3 (nI t + 1)).2.1 i = h6.2.1 i := fun i hi => by
    show (zm_si h6 37 3 (nI t + 1)).2.1 i = h6.2.1 i
    rw [za_si, if_neg hi]
  refine ⟨⟨a1, c1, d1, e1, g1⟩, zWr_p (by decide) w6, ?_, ?_, ?_, ?_, ?_, ?_⟩
  · rw [nI_succ]; exact zm_in _ _ _ _
  · have k6 : zf h6 37 4 = nI (k + m) := by
      rw [← a3]
      exact (g2.fld 37 4 (by decide) (by decide)).trans ((e2.fld 37 4 (by decide) (by decide)).trans ((d2.fld 37 4 (by decide) (by decide)).trans ((c2.fld 37 4 (by decide) (by decide)).trans (b2.fld 37 4 (by decide) (by decide)))))
    rw [← k6]
    show (zm_si h6 37 3 (nI t + 1)).2.1 37 4 = h6.2.1 37 4
    rw [za_si, if_pos rfl]
    unfold upd
    rw [if_neg (by decide)]
  · rw [← e3]
    apply vC_eq
    intro i hi
    rw [ar _ (by omega), g2.arr (38 + i) (by simp; omega) (by simp; omega)]
  · rw [ar _ (by decide), g2.arr 47 (by decide) (by decide), e2.arr 47 (by decide) (by decide), d4, c2.arr 47 (by decide) (by decide), b2.arr 47 (by decide) (by decide), a2.arr 47 (by decide) (by decide)]
    rfl
  · rw [ar _ (by decide), g3, e2.arr 48 (by decide) (by decide), d2.arr 48 (by decide) (by decide), c2.arr 48 (by decide) (by decide), b2.arr 48 (by decide) (by decide), a2.arr 48 (by decide) (by decide)]
    rfl
  · intro j
    rw [ar _ (by decide), g2.arr 49 (by decide) (by decide), e2.arr 49 (by decide) (by decide), d5, c2.arr 49 (by decide) (by decide), b2.arr 49 (by decide) (by decide), a2.arr 49 (by decide) (by decide)]
    rfl
/-! ===== a SPELL of the class: course 50 ===== -/
theorem clq_50 (v : Int32) : (if (-100000 : Int32) < (if 100000 < v then 100000 else v) then (if 100000 < v then 100000 else v) else (-100000 : Int32)) = clq v := by
  have e1 : (100000 : Int32).toInt = 100000 := rfl
  have e2 : (-100000 : Int32).toInt = -100000 := rfl
  unfold clq
  by_cases a : 100000 < v
  · have a' := a
    rw [i_lt, e1] at a'
    rw [if_pos a, if_pos (by decide), if_pos (by rw [i_le, e2]; omega), if_neg (by rw [i_le, e1]; omega)]
  · have a' := a
    rw [i_lt, e1] at a'
    rw [if_neg a]
    by_cases b : -100000 < v
    · have b' := b
      rw [i_lt, e2] at b'
      rw [if_pos b, if_pos (by rw [i_le, e2]; omega), if_pos (by rw [i_le, e1]; omega)]
    · have b' := b
      rw [i_lt, e2] at b'
      rw [if_neg b]
      by_cases c : -100000 ≤ v
      · have c' := c
        rw [i_le, e2] at c'
        rw [if_pos c, if_pos (by rw [i_le, e1]; omega)]
        exact Int32.toInt_inj.mp (by rw [e2]; omega)
      · rw [if_neg c]
theorem bpy_50 {ns nf nr g w : Nat} {h : zm_H} (H : I_rl ns nf h) (R : I_rf w nr h) (V : vOK nr g (vC 51 h)) {t : Nat} {sea : Int32} (hs : rdOK sea) (ht : t < 480) (hN : sN (h.2.1 21) sea (nI t)) : f_Course_bookPay_50_ok (nI t) h ∧ zWr [21, 22, 61] [(15, 9)] h (f_Course_bookPay_50 (nI t) h) ∧ (f_Course_bookPay_50 (nI t) h).2.1 61 = upd (h.2.1 61) t (pys (fun c nm => Ev nf h c (nI t) nm) (vC 51 h) (h.2.1 112) (h.2.1 114) sea (nI t) nr) := by
  obtain ⟨⟨hnr, e23, -⟩, ⟨a24, -, a26⟩, hR⟩ := R
  obtain ⟨r0, q0⟩ := fc_N H.1 (c := 3) (by omega) (nI t)
  have r0 : f_Rules_ruling_ok 3 (nI t) h := r0
  obtain ⟨A, eA⟩ : ∃ A, A = f_Rules_ruling 3 (nI t) h := ⟨_, rfl⟩
  have q0 : A = (inf (h.2.1 103) (h.2.1 104) (h.2.1 101) 3 (nI t) nf).1 := by rw [eA]; exact q0
  have it : vp_in (nI t) 480 := vp_in_nI ht (by omega)
  unfold f_Course_bookPay_50_ok f_Course_bookPay_50 f_Course_bookPay_50_a19 f_Course_bookPay_50_k72
  rw [← eA, zs_n _ 61 _ (by omega)]
  obtain ⟨F, eF, -⟩ := zF_ex
  rw [← eF]
  have key := zlp_k eF (b := fun s => f_Course_bookPay_50_l19_b (nI t) A s.1 s.2) (o := fun s => f_Course_bookPay_50_l19_b_ok (nI t) A s.1 s.2) nr (by omega) 0
    (fun j h1 => zWr [21, 22, 61] [(15, 9)] h h1 ∧ sN (h1.2.1 21) sea (nI t) ∧ h1.2.1 61 = upd (h.2.1 61) t (pys (fun c nm => Ev nf h c (nI t) nm) (vC 51 h) (h.2.1 112) (h.2.1 114) sea (nI t) j)) (zm_si h 61 t 0)
    ⟨zWr_si (by decide) (zWr.refl _ _), by rw [za_si, if_neg (by decide)]; exact hN, by rw [za_si, if_pos rfl, pys]⟩
    (by
      rintro j h1 hj ⟨p1, p2, p3⟩
      rw [Nat.zero_add]
      have hj10 : j < 10 := by omega
      have f23 : zf h1 23 0 = nI nr := (p1.fld 23 0 (by decide) (by decide)).trans e23
      have g0 : ¬ (zf h1 23 0 ≤ nI j) := by rw [f23, nx_le (by omega) (by omega)]; omega
      have ev : vC 51 h1 = vC 51 h := vC_eq (fun i hi => p1.arr (51 + i) (by simp; omega) (by simp; omega))
      have V1 : vOK nr g (vC 51 h1) := by rw [ev]; exact V
      have hw : wfR [21, 22, 61] [(15, 9)] = true := by decide
      have H1 : I_rl ns nf h1 := I_rl_w hw p1 H
      have e24 : h1.2.1 24 = h.2.1 112 := (p1.arr 24 (by decide) (by decide)).trans a24
      have e26 : zr h1 26 (nI j) = h.2.1 114 j := by rw [zr_n h1 26 (by omega), zf, p1.arr 26 (by decide) (by decide), a26]
      have e48 : zr h1 61 (nI t) = pys (fun c nm => Ev nf h c (nI t) nm) (vC 51 h) (h.2.1 112) (h.2.1 114) sea (nI t) j := by
        rw [zr_n h1 61 (by omega), zf, p3]; unfold upd; rw [if_pos rfl]
      have i10 : vp_in (nI j) 10 := vp_in_nI hj10 (by omega)
      have hz : 0 ≤ (h1.2.1 24 j).toInt ∧ (h1.2.1 24 j).toInt ≤ 20 := by rw [e24]; have := (hR j hj).1; omega
      obtain ⟨k1, k2, k3, k4⟩ := say_50 (c := 3) (q := A) H1 V1 hs ht hj10 hz p2 (by omega) (by omega) (by rw [q0, inf_w hw p1])
      rw [Ev_w hw p1, e24, ev] at k2
      have k1 : f_Course_says_50_ok A 3 (nI j) h1 := k1
      have k2 : (f_Course_says_50 A 3 (nI j) h1).1 = _ := k2
      have k3 : zWr [21, 22] [(15, 9)] h1 (f_Course_says_50 A 3 (nI j) h1).2 := k3
      have k4 : sN ((f_Course_says_50 A 3 (nI j) h1).2.2.1 21) sea (nI t) := k4
      dsimp only
      unfold f_Course_bookPay_50_l19_b f_Course_bookPay_50_l19_b_ok f_Course_bookPay_50_l19_k59 f_Course_bookPay_50_l19_k59_ok f_Course_bookPay_50_l19_k66
      rw [if_neg g0, e26, e48, k2, clq_50, ← nI_succ, pys]
      by_cases c : h.2.1 114 j ≤ nI t
      · have c2 : ¬ nI t < h.2.1 114 j := by rw [i_le] at c; rw [i_lt]; omega
        rw [if_neg c2, if_pos c, zs_n _ 61 _ (by omega)]
        refine ⟨⟨fun z => absurd z g0, fun _ => ⟨i10, fun z => absurd z c2, fun _ => ⟨it, k1, it⟩⟩⟩, _, rfl, zWr_si (by decide) (zWr_tr k3 (by decide) (by decide) p1), ?_, ?_⟩
        · rw [za_si, if_neg (by decide)]; exact k4
        · rw [za_si, if_pos rfl, k3.arr 61 (by decide) (by decide), p3]
          funext x
          unfold upd
          by_cases y : x = t
          · rw [if_pos y, if_pos y]
          · rw [if_neg y, if_neg y, if_neg y]
      · have c2 : nI t < h.2.1 114 j := by rw [i_le] at c; rw [i_lt]; omega
        rw [if_pos c2, if_neg c]
        exact ⟨⟨fun z => absurd z g0, fun _ => ⟨i10, fun _ => trivial, fun z => absurd c2 z⟩⟩, _, rfl, p1, p2, p3⟩)
    (by
      rintro q ⟨p1, p2, p3⟩
      rw [Nat.zero_add]
      have f23 : zf q 23 0 = nI nr := (p1.fld 23 0 (by decide) (by decide)).trans e23
      have g0 : zf q 23 0 ≤ nI nr := by rw [f23]; exact i_le_r _
      dsimp only
      unfold f_Course_bookPay_50_l19_b f_Course_bookPay_50_l19_b_ok
      rw [if_pos g0]
      exact ⟨⟨fun _ => trivial, fun z => absurd g0 z⟩, rfl⟩)
  rw [Nat.zero_add] at key
  obtain ⟨k1, h3, k2, k3, k4, k5⟩ := key
  have k2 : f_Course_bookPay_50_l19 (nI t) A F (0, zm_si h 61 t 0) = (1, nI nr, h3) := k2
  rw [k2]
  exact ⟨⟨r0, it, k1, trivial⟩, k3, k5⟩
theorem nms_50 (h : zm_H) (sea t : Int32) : zWr [21] [] h (f_Rules_nameSea t sea h) ∧ sN ((f_Rules_nameSea t sea h).2.1 21) sea t := by
  unfold f_Rules_nameSea
  rw [show (0 : Int32) = nI 0 from rfl, show (1 : Int32) = nI 1 from rfl, show (2 : Int32) = nI 2 from rfl, show (6 : Int32) = nI 6 from rfl, show (7 : Int32) = nI 7 from rfl, zs_n _ 21 _ (by omega), zs_n _ 21 _ (by omega), zs_n _ 21 _ (by omega), zs_n _ 21 _ (by omega), zs_n _ 21 _ (by omega)]
  refine ⟨zWr_si (by decide) (zWr_si (by decide) (zWr_si (by decide) (zWr_si (by decide) (zWr_si (by decide) (zWr.refl _ _))))), ?_⟩
  unfold sN
  refine ⟨?_, ?_, ?_, ?_, ?_⟩ <;> simp [za_si, upd]
/-- the whole SPELL of the class's course -/
theorem pas_50 {ns nf nr nt g w : Nat} {h : zm_H} (hg : g < 480) (H : I_rl ns nf h) (R : I_rf w nr h) (T : I_th nr nt h) (V : vOK nr g (vC 51 h)) {t : Nat} {sea : Int32} (hs : rdOK sea) (ht : t < 480) {k : Nat} (hk : k ≤ nt) (ek : zf h 50 4 = nI k) :
    f_Course_pass_50_ok (nI t) sea h ∧ zWr [21, 22, 32, 33, 34, 35, 36, 51, 52, 53, 54, 55, 56, 57, 58, 59, 60, 61, 62] [(15, 9), (50, 3), (50, 4)] h (f_Course_pass_50 (nI t) sea h) ∧ zf (f_Course_pass_50 (nI t) sea h) 50 3 = nI (t + 1) ∧ zf (f_Course_pass_50 (nI t) sea h) 50 4 = nI (k + thn (tT h) nt (nI t) k 201) ∧
    vC 51 (f_Course_pass_50 (nI t) sea h) = pS3 (fun c nm => Ev nf h c (nI t) nm) (h.2.1 112) (h.2.1 113) sea (nI t) nr (thI (tT h) k (thn (tT h) nt (nI t) k 201) (vC 51 h)) ∧
    (f_Course_pass_50 (nI t) sea h).2.1 60 = upd (h.2.1 60) t (pTot (fun c nm => Ev nf h c (nI t) nm) (h.2.1 112) (h.2.1 113) sea (nI t) nr (thI (tT h) k (thn (tT h) nt (nI t) k 201) (vC 51 h))) ∧
    (f_Course_pass_50 (nI t) sea h).2.1 61 = upd (h.2.1 61) t (pPay (fun c nm => Ev nf h c (nI t) nm) (h.2.1 112) (h.2.1 113) (h.2.1 114) sea (nI t) nr (thI (tT h) k (thn (tT h) nt (nI t) k 201) (vC 51 h))) ∧
    ∀ j, (f_Course_pass_50 (nI t) sea h).2.1 62 j = if 10 * t ≤ j ∧ j < 10 * t + 10 then pFl (fun c nm => Ev nf h c (nI t) nm) (h.2.1 112) (h.2.1 113) sea (nI t) nr (thI (tT h) k (thn (tT h) nt (nI t) k 201) (vC 51 h)) (j - 10 * t) else h.2.1 62 j := by
  have hnr := R.1.1
  have hz := szOK_of R
  obtain ⟨a1, a2, a3, a4⟩ := dths_50 hnr T V hk ek (nI t)
  have V1 := vOK_thI hnr T V (k := k) (thn (tT h) nt (nI t) k 201) (thn_spec (tT h) nt (nI t) 201 k (by have := T.1.1; omega) hk).2.2
  unfold f_Course_pass_50_ok f_Course_pass_50 f_Course_pass_50_k5_ok f_Course_pass_50_k5 f_Course_pass_50_k14_ok f_Course_pass_50_k14 f_Course_pass_50_k19_ok f_Course_pass_50_k19 f_Course_pass_50_k25_ok f_Course_pass_50_k25 f_Course_pass_50_k31_ok f_Course_pass_50_k31
  generalize thn (tT h) nt (nI t) k 201 = m at a3 a4 V1
  generalize f_Course_doThings_50 (nI t) h = h1 at a2 a3 a4
  obtain ⟨b2, b3⟩ := nms_50 h1 sea (nI t)
  generalize f_Rules_nameSea (nI t) sea h1 = h2 at b2 b3
  have w2 : zWr [21, 22, 32, 33, 34, 35, 36, 51, 52, 53, 54, 55, 56, 57, 58, 59, 60, 61, 62] [(15, 9), (50, 3), (50, 4)] h h2 := zWr_tr b2 (by decide) (by decide) (zWr_tr a2 (by decide) (by decide) (zWr.refl _ _))
  have hw : wfR [21, 22, 32, 33, 34, 35, 36, 51, 52, 53, 54, 55, 56, 57, 58, 59, 60, 61, 62] [(15, 9), (50, 3), (50, 4)] = true := by decide
  have hf : (([21, 22, 32, 33, 34, 35, 36, 51, 52, 53, 54, 55, 56, 57, 58, 59, 60, 61, 62] : List Nat).all (fun i => ![23, 24, 25, 26, 92, 112, 113, 114].contains i) && ([(15, 9), (50, 3), (50, 4)] : List (Nat × Nat)).all (fun p => ![24, 25, 26, 112, 113, 114].contains p.1 && p != (23, 0) && p != (92, 33))) = true := by decide
  have v2 : vC 51 h2 = thI (tT h) k m (vC 51 h) := by rw [← a4]; exact vC_eq (fun i hi => b2.arr (51 + i) (by simp; omega) (by simp))
  obtain ⟨S, eS⟩ : ∃ S, S = thI (tT h) k m (vC 51 h) := ⟨_, rfl⟩
  rw [← eS] at v2 V1
  rw [← eS]
  have evE : ∀ x, zWr [21, 22, 32, 33, 34, 35, 36, 51, 52, 53, 54, 55, 56, 57, 58, 59, 60, 61, 62] [(15, 9), (50, 3), (50, 4)] h x → (fun c nm => Ev nf x c (nI t) nm) = (fun c nm => Ev nf h c (nI t) nm) := fun x wx => by funext c nm; exact Ev_w hw wx c (nI t) nm
  obtain ⟨E, eE⟩ : ∃ E, E = (fun c nm => Ev nf h c (nI t) nm) := ⟨_, rfl⟩
  rw [← eE] at evE
  rw [← eE]
  have rest : ∀ x, zWr [21, 22, 32, 33, 34, 35, 36, 51, 52, 53, 54, 55, 56, 57, 58, 59, 60, 61, 62] [(15, 9), (50, 3), (50, 4)] h x → x.2.1 112 = h.2.1 112 ∧ x.2.1 113 = h.2.1 113 ∧ x.2.1 114 = h.2.1 114 := fun x wx => ⟨wx.arr 112 (by decide) (by decide), wx.arr 113 (by decide) (by decide), wx.arr 114 (by decide) (by decide)⟩
  obtain ⟨c1, c2, c3, c4⟩ := snk_50 (I_rl_w hw w2 H) (I_rf_w w2 hf R) (by rw [v2]; exact V1) hs ht b3
  rw [evE h2 w2, (rest h2 w2).1, v2] at c4
  generalize f_Course_sinkAndRise_50 (nI t) h2 = h3 at c2 c3 c4
  have w3 := zWr_tr c2 (by decide) (by decide) w2
  have c4 : vC 51 h3 = pS1 E (h.2.1 112) sea (nI t) nr S := c4
  obtain ⟨P1, P2, P3, P4⟩ := vOK_p hnr hg V1 hz hs ht E
  obtain ⟨d1, d2, d3, d4, d5⟩ := tkw_50 (ns := ns) (nf := nf) hg (I_rf_w w3 hf R) (by rw [c4]; exact P1) hs ht
  rw [(rest h3 w3).1, (rest h3 w3).2.1, c4] at d3 d4 d5
  generalize f_Course_takeWaves_50 (nI t) sea h3 = h4 at d2 d3 d4 d5
  have w4 := zWr_tr d2 (by decide) (by decide) w3
  have d3 : vC 51 h4 = pS2 E (h.2.1 112) (h.2.1 113) sea (nI t) nr S := d3
  obtain ⟨e1, e2, e3⟩ := chs_50 (I_rf_w w4 hf R) (by rw [d3]; exact P3) hs ht
  rw [(rest h4 w4).1, d3] at e3
  generalize f_Course_strainChains_50 (nI t) sea h4 = h5 at e2 e3
  have w5 := zWr_tr e2 (by decide) (by decide) w4
  have e3 : vC 51 h5 = pS3 E (h.2.1 112) (h.2.1 113) sea (nI t) nr S := e3
  have n5 : sN (h5.2.1 21) sea (nI t) := by rw [e2.arr 21 (by decide) (by decide), d2.arr 21 (by decide) (by decide)]; exact c3
  obtain ⟨g1, g2, g3⟩ := bpy_50 (I_rl_w hw w5 H) (I_rf_w w5 hf R) (by rw [e3]; exact P4) hs ht n5
  rw [evE h5 w5, (rest h5 w5).1, (rest h5 w5).2.2, e3] at g3
  generalize f_Course_bookPay_50 (nI t) h5 = h6 at g2 g3
  have w6 := zWr_tr g2 (by decide) (by decide) w5
  have ar : ∀ i, ¬ i = 50 → (zp h6 50 3 (nI t + 1)).2.1 i = h6.2.1 i := fun i hi => by
    show (zm_si h6 50 3 (nI t + 1)).2.1 i = h6.2.1 i
    rw [za_si, if_neg hi]
  refine ⟨⟨a1, c1, d1, e1, g1⟩, zWr_p (by decide) w6, ?_, ?_, ?_, ?_, ?_, ?_⟩
  · rw [nI_succ]; exact zm_in _ _ _ _
  · have k6 : zf h6 50 4 = nI (k + m) := by
      rw [← a3]
      exact (g2.fld 50 4 (by decide) (by decide)).trans ((e2.fld 50 4 (by decide) (by decide)).trans ((d2.fld 50 4 (by decide) (by decide)).trans ((c2.fld 50 4 (by decide) (by decide)).trans (b2.fld 50 4 (by decide) (by decide)))))
    rw [← k6]
    show (zm_si h6 50 3 (nI t + 1)).2.1 50 4 = h6.2.1 50 4
    rw [za_si, if_pos rfl]
    unfold upd
    rw [if_neg (by decide)]
  · rw [← e3]
    apply vC_eq
    intro i hi
    rw [ar _ (by omega), g2.arr (51 + i) (by simp; omega) (by simp; omega)]
  · rw [ar _ (by decide), g2.arr 60 (by decide) (by decide), e2.arr 60 (by decide) (by decide), d4, c2.arr 60 (by decide) (by decide), b2.arr 60 (by decide) (by decide), a2.arr 60 (by decide) (by decide)]
    rfl
  · rw [ar _ (by decide), g3, e2.arr 61 (by decide) (by decide), d2.arr 61 (by decide) (by decide), c2.arr 61 (by decide) (by decide), b2.arr 61 (by decide) (by decide), a2.arr 61 (by decide) (by decide)]
    rfl
  · intro j
    rw [ar _ (by decide), g2.arr 62 (by decide) (by decide), e2.arr 62 (by decide) (by decide), d5, c2.arr 62 (by decide) (by decide), b2.arr 62 (by decide) (by decide), a2.arr 62 (by decide) (by decide)]
    rfl
