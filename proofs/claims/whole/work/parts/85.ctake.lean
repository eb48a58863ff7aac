/-! ===== WAVES taken, the class: course 37 ===== -/
theorem tkw_37 {ns nf nr g w : Nat} (hg : g < 480) {h : zm_H} (R : I_rf w nr h) (V : vOK nr g (vC 38 h)) {sea : Int32} (hs : rdOK sea) {t : Nat} (ht : t < 480) : f_Course_takeWaves_37_ok (nI t) sea h ∧ zWr [32, 33, 34, 35, 36, 40, 41, 42, 47, 49] [] h (f_Course_takeWaves_37 (nI t) sea h) ∧ vC 38 (f_Course_takeWaves_37 (nI t) sea h) = fld (pwr (wvT (vC 38 h) nr (h.2.1 112) (h.2.1 113) sea)) nr (vC 38 h) ∧ (f_Course_takeWaves_37 (nI t) sea h).2.1 47 = upd (h.2.1 47) t (tot (vC 38 h) (wvT (vC 38 h) nr (h.2.1 112) (h.2.1 113) sea) nr) ∧ (∀ k, (f_Course_takeWaves_37 (nI t) sea h).2.1 49 k = if 10 * t ≤ k ∧ k < 10 * t + 10 then wvF (vC 38 h) nr (h.2.1 112) (h.2.1 113) sea (k - 10 * t) else h.2.1 49 k) := by
  have hnr := R.1.1
  have hz := szOK_of R
  obtain ⟨a24, a25, -⟩ := R.2.1
  have e23 := R.1.2.1
  obtain ⟨p1, p2, p3⟩ := put_37 hnr e23 V
  unfold f_Course_takeWaves_37_ok f_Course_takeWaves_37 f_Course_takeWaves_37_k8 f_Course_takeWaves_37_k8_ok f_Course_takeWaves_37_k16 f_Course_takeWaves_37_k16_ok f_Course_takeWaves_37_a25 f_Course_takeWaves_37_a25_ok f_Course_takeWaves_37_k118 f_Course_takeWaves_37_k118_ok
  generalize f_Course_putInto_37 h = h1 at p2 p3
  have b24 : h1.2.1 24 = h.2.1 112 := (p2.arr 24 (by decide) (by decide)).trans a24
  have b25 : h1.2.1 25 = h.2.1 113 := (p2.arr 25 (by decide) (by decide)).trans a25
  obtain ⟨q1, q2, q3, q4⟩ := run_C hnr (V.w hnr) p3 (by rw [b24, b25]; exact hz) sea
  rw [b24, b25] at q3 q4
  generalize f_Waves_run sea h1 = h2 at q2 q3 q4
  have w2 : zWr [32, 33, 34, 35, 36, 40, 41, 42, 47, 49] [] h h2 := zWr_tr q2 (by decide) (by decide) (zWr_tr p2 (by decide) (by decide) (zWr.refl _ _))
  have ev2 : vC 38 h2 = vC 38 h := vC_eq (fun i hi => by
    have q2' := q2.arr (38 + i) (by simp; omega) (by simp)
    have p2' := p2.arr (38 + i) (by simp; omega) (by simp)
    exact q2'.trans p2')
  have a47 : h2.2.1 47 = h.2.1 47 := (q2.arr 47 (by decide) (by decide)).trans (p2.arr 47 (by decide) (by decide))
  have a49 : h2.2.1 49 = h.2.1 49 := (q2.arr 49 (by decide) (by decide)).trans (p2.arr 49 (by decide) (by decide))
  have it : vp_in (nI t) 480 := vp_in_nI ht (by omega)
  obtain ⟨tk, etk⟩ : ∃ tk, tk = wvT (vC 38 h) nr (h.2.1 112) (h.2.1 113) sea := ⟨_, rfl⟩
  rw [← etk] at q4 ⊢
  obtain ⟨F, eF, -⟩ := zF_ex
  rw [← eF, zs_n _ 47 _ (by omega)]
  have key := zlp_k eF (b := fun s => f_Course_takeWaves_37_l25_b (nI t) s.1 s.2) (o := fun s => f_Course_takeWaves_37_l25_b_ok (nI t) s.1 s.2) nr (by omega) 0
    (fun j q => zWr [40, 41, 42, 47] [] h2 q ∧ vC 38 q = fld (pwr tk) j (vC 38 h) ∧ q.2.1 47 = upd (h.2.1 47) t (tot (vC 38 h) tk j)) (zm_si h2 47 t 0)
    ⟨zWr_si (by decide) (zWr.refl _ _), by rw [vC_o (by omega), ev2]; simp only [fld], by rw [za_si, if_pos rfl, a47]; rfl⟩
    (by
      rintro j q hj ⟨r1, r2, r3⟩
      rw [Nat.zero_add]
      have hj10 : j < 10 := by omega
      have i10 : vp_in (nI j) 10 := vp_in_nI hj10 (by omega)
      have f23 : zf q 23 0 = nI nr := (r1.fld 23 0 (by decide) (by decide)).trans ((w2.fld 23 0 (by decide) (by decide)).trans e23)
      have g0 : ¬ (zf q 23 0 ≤ nI j) := by rw [f23, nx_le (by omega) (by omega)]; omega
      have b34 : zr q 34 (nI j) = tk j := by rw [zr_n q 34 (by omega), zf, r1.arr 34 (by decide) (by decide)]; exact q4 j hj10
      have b40 : zr q 40 (nI j) = vC 38 q 2 j := by rw [zr_n q 40 (by omega), vC_at (b := 38) (i := 2) (by omega) (show j < zsz 2 from hj10)]
      have b42 : zr q 42 (nI j) = vC 38 q 4 j := by rw [zr_n q 42 (by omega), vC_at (b := 38) (i := 4) (by omega) (show j < zsz 4 from hj10)]
      have b47 : zr q 47 (nI t) = tot (vC 38 h) tk j := by rw [zr_n q 47 (by omega), zf, r3, pk_us]
      have eP : f_Course_powerFrom_37 (tk j) (nI j) q = pwv (vC 38 q) tk j := by
        unfold f_Course_powerFrom_37 f_Course_leak_37 pwv lek
        rw [b40]
      have e2 : vC 38 q 2 j = vC 38 h 2 j := by
        rw [r2]
        have key2 : ∀ n S, n ≤ j → fld (pwr tk) n S 2 j = S 2 j := by
          intro n
          induction n with
          | zero => intro S _; simp only [fld]
          | succ n ih => intro S hn; rw [fld]; unfold pwr; rw [zu_n (by decide), zu_h, if_neg (by omega), zu_n (by decide)]; exact ih S (by omega)
        exact key2 j _ (Nat.le_refl _)
      have ePh : pwv (vC 38 q) tk j = pwv (vC 38 h) tk j := by unfold pwv; rw [e2]
      dsimp only
      unfold f_Course_takeWaves_37_l25_b f_Course_takeWaves_37_l25_b_ok
      simp only [zr_zs, b34, eP, b40, b42, b47]
      rw [if_neg g0, ← nI_succ, zs_n _ 41 _ (by omega), zs_n _ 40 _ (by omega), zs_n _ 42 _ (by omega), zs_n _ 47 _ (by omega)]
      refine ⟨⟨fun z => absurd z g0, fun _ => ⟨i10, i10, i10, i10, i10, i10, i10, i10, i10, it, i10, it⟩⟩, _, rfl, zWr_si (by decide) (zWr_si (by decide) (zWr_si (by decide) (zWr_si (by decide) r1))), ?_, ?_⟩
      · rw [vC_o (by omega), vC_u (b := 38) (i := 4) (j := 42) rfl (by omega) (show j < zsz 4 from hj10), vC_u (b := 38) (i := 2) (j := 40) rfl (by omega) (show j < zsz 2 from hj10), vC_u (b := 38) (i := 3) (j := 41) rfl (by omega) (show j < zsz 3 from hj10), fld, ← r2]
        rfl
      · rw [za_si, if_pos rfl, za_si, if_neg (by decide), za_si, if_neg (by decide), za_si, if_neg (by decide), r3, tot, ← ePh]
        funext k
        unfold upd
        by_cases e : k = t
        · rw [if_pos e, if_pos e]
        · rw [if_neg e, if_neg e, if_neg e])
    (by
      rintro q ⟨r1, r2, r3⟩
      rw [Nat.zero_add]
      have f23 : zf q 23 0 = nI nr := (r1.fld 23 0 (by decide) (by decide)).trans ((w2.fld 23 0 (by decide) (by decide)).trans e23)
      have g0 : zf q 23 0 ≤ nI nr := by rw [f23]; exact i_le_r _
      dsimp only
      unfold f_Course_takeWaves_37_l25_b f_Course_takeWaves_37_l25_b_ok
      rw [if_pos g0]
      exact ⟨⟨fun _ => trivial, fun z => absurd g0 z⟩, rfl⟩)
  rw [Nat.zero_add] at key
  obtain ⟨k1, h3, k2, k3, k4, k5⟩ := key
  have k2 : f_Course_takeWaves_37_l25 (nI t) F (0, zm_si h2 47 t 0) = (1, nI nr, h3) := k2
  rw [k2]
  dsimp only
  have e10 : nI t * 10 = nI (10 * t) := by rw [show (10 : Int32) = nI 10 from rfl, pk_mul, Nat.mul_comm]
  have c10 : (nI t * 10).toNatClampNeg = 10 * t := by rw [e10, nI_c (by omega)]
  have zc : (zcp h3 35 0 49 (nI t * 10) 10).2.1 = zm_w h3.2.1 49 (va_cpy (h3.2.1 35) (h3.2.1 49) 0 (10 * t) 10) := by
    unfold zcp
    rw [c10]
    rfl
  refine ⟨⟨p1, q1, it, k1, by decide, by rw [e10, i_lt, i_nI (by omega), i_0]; omega, by decide, by decide, by rw [c10]; show 10 * t + 10 ≤ 4800; omega⟩, ?_, ?_, ?_, ?_⟩
  · exact zWr_cp (by decide) (zWr_tr k3 (by decide) (by decide) w2)
  · rw [← k4]
    apply vC_eq
    intro i hi
    rw [zc]
    unfold zm_w
    rw [if_neg (by omega)]
  · rw [zc]
    unfold zm_w
    rw [if_neg (by decide), k5]
  · intro k
    rw [zc]
    unfold zm_w
    rw [if_pos rfl, k3.arr 35 (by decide) (by decide), k3.arr 49 (by decide) (by decide), a49]
    unfold va_cpy
    by_cases c : 10 * t ≤ k ∧ k < 10 * t + 10
    · rw [if_pos c, if_pos c, Nat.zero_add]
      exact q3 _ (by omega)
    · rw [if_neg c, if_neg c]
/-! ===== WAVES taken, the class: course 50 ===== -/
theorem tkw_50 {ns nf nr g w : Nat} (hg : g < 480) {h : zm_H} (R : I_rf w nr h) (V : vOK nr g (vC 51 h)) {sea : Int32} (hs : rdOK sea) {t : Nat} (ht : t < 480) : f_Course_takeWaves_50_ok (nI t) sea h ∧ zWr [32, 33, 34, 35, 36, 53, 54, 55, 60, 62] [] h (f_Course_takeWaves_50 (nI t) sea h) ∧ vC 51 (f_Course_takeWaves_50 (nI t) sea h) = fld (pwr (wvT (vC 51 h) nr (h.2.1 112) (h.2.1 113) sea)) nr (vC 51 h) ∧ (f_Course_takeWaves_50 (nI t) sea h).2.1 60 = upd (h.2.1 60) t (tot (vC 51 h) (wvT (vC 51 h) nr (h.2.1 112) (h.2.1 113) sea) nr) ∧ (∀ k, (f_Course_takeWaves_50 (nI t) sea h).2.1 62 k = if 10 * t ≤ k ∧ k < 10 * t + 10 then wvF (vC 51 h) nr (h.2.1 112) (h.2.1 113) sea (k - 10 * t) else h.2.1 62 k) := by
  have hnr := R.1.1
  have hz := szOK_of R
  obtain ⟨a24, a25, -⟩ := R.2.1
  have e23 := R.1.2.1
  obtain ⟨p1, p2, p3⟩ := put_50 hnr e23 V
  unfold f_Course_takeWaves_50_ok f_Course_takeWaves_50 f_Course_takeWaves_50_k8 f_Course_takeWaves_50_k8_ok f_Course_takeWaves_50_k16 f_Course_takeWaves_50_k16_ok f_Course_takeWaves_50_a25 f_Course_takeWaves_50_a25_ok f_Course_takeWaves_50_k118 f_Course_takeWaves_50_k118_ok
  generalize f_Course_putInto_50 h = h1 at p2 p3
  have b24 : h1.2.1 24 = h.2.1 112 := (p2.arr 24 (by decide) (by decide)).trans a24
  have b25 : h1.2.1 25 = h.2.1 113 := (p2.arr 25 (by decide) (by decide)).trans a25
  obtain ⟨q1, q2, q3, q4⟩ := run_C hnr (V.w hnr) p3 (by rw [b24, b25]; exact hz) sea
  rw [b24, b25] at q3 q4
  generalize f_Waves_run sea h1 = h2 at q2 q3 q4
  have w2 : zWr [32, 33, 34, 35, 36, 53, 54, 55, 60, 62] [] h h2 := zWr_tr q2 (by decide) (by decide) (zWr_tr p2 (by decide) (by decide) (zWr.refl _ _))
  have ev2 : vC 51 h2 = vC 51 h := vC_eq (fun i hi => by
    have q2' := q2.arr (51 + i) (by simp; omega) (by simp)
    have p2' := p2.arr (51 + i) (by simp; omega) (by simp)
    exact q2'.trans p2')
  have a47 : h2.2.1 60 = h.2.1 60 := (q2.arr 60 (by decide) (by decide)).trans (p2.arr 60 (by decide) (by decide))
  have a49 : h2.2.1 62 = h.2.1 62 := (q2.arr 62 (by decide) (by decide)).trans (p2.arr 62 (by decide) (by decide))
  have it : vp_in (nI t) 480 := vp_in_nI ht (by omega)
  obtain ⟨tk, etk⟩ : ∃ tk, tk = wvT (vC 51 h) nr (h.2.1 112) (h.2.1 113) sea := ⟨_, rfl⟩
  rw [← etk] at q4 ⊢
  obtain ⟨F, eF, -⟩ := zF_ex
  rw [← eF, zs_n _ 60 _ (by omega)]
  have key := zlp_k eF (b := fun s => f_Course_takeWaves_50_l25_b (nI t) s.1 s.2) (o := fun s => f_Course_takeWaves_50_l25_b_ok (nI t) s.1 s.2) nr (by omega) 0
    (fun j q => zWr [53, 54, 55, 60] [] h2 q ∧ vC 51 q = fld (pwr tk) j (vC 51 h) ∧ q.2.1 60 = upd (h.2.1 60) t (tot (vC 51 h) tk j)) (zm_si h2 60 t 0)
    ⟨zWr_si (by decide) (zWr.refl _ _), by rw [vC_o (by omega), ev2]; simp only [fld], by rw [za_si, if_pos rfl, a47]; rfl⟩
    (by
      rintro j q hj ⟨r1, r2, r3⟩
      rw [Nat.zero_add]
      have hj10 : j < 10 := by omega
      have i10 : vp_in (nI j) 10 := vp_in_nI hj10 (by omega)
      have f23 : zf q 23 0 = nI nr := (r1.fld 23 0 (by decide) (by decide)).trans ((w2.fld 23 0 (by decide) (by decide)).trans e23)
      have g0 : ¬ (zf q 23 0 ≤ nI j) := by rw [f23, nx_le (by omega) (by omega)]; omega
      have b34 : zr q 34 (nI j) = tk j := by rw [zr_n q 34 (by omega), zf, r1.arr 34 (by decide) (by decide)]; exact q4 j hj10
      have b40 : zr q 53 (nI j) = vC 51 q 2 j := by rw [zr_n q 53 (by omega), vC_at (b := 51) (i := 2) (by omega) (show j < zsz 2 from hj10)]
      have b42 : zr q 55 (nI j) = vC 51 q 4 j := by rw [zr_n q 55 (by omega), vC_at (b := 51) (i := 4) (by omega) (show j < zsz 4 from hj10)]
      have b47 : zr q 60 (nI t) = tot (vC 51 h) tk j := by rw [zr_n q 60 (by omega), zf, r3, pk_us]
      have eP : f_Course_powerFrom_50 (tk j) (nI j) q = pwv (vC 51 q) tk j := by
        unfold f_Course_powerFrom_50 f_Course_leak_50 pwv lek
        rw [b40]
      have e2 : vC 51 q 2 j = vC 51 h 2 j := by
        rw [r2]
        have key2 : ∀ n S, n ≤ j → fld (pwr tk) n S 2 j = S 2 j := by
          intro n
          induction n with
          | zero => intro S _; simp only [fld]
          | succ n ih => intro S hn; rw [fld]; unfold pwr; rw [zu_n (by decide), zu_h, if_neg (by omega), zu_n (by decide)]; exact ih S (by omega)
        exact key2 j _ (Nat.le_refl _)
      have ePh : pwv (vC 51 q) tk j = pwv (vC 51 h) tk j := by unfold pwv; rw [e2]
      dsimp only
      unfold f_Course_takeWaves_50_l25_b f_Course_takeWaves_50_l25_b_ok
      simp only [zr_zs, b34, eP, b40, b42, b47]
      rw [if_neg g0, ← nI_succ, zs_n _ 54 _ (by omega), zs_n _ 53 _ (by omega), zs_n _ 55 _ (by omega), zs_n _ 60 _ (by omega)]
      refine ⟨⟨fun z => absurd z g0, fun _ => ⟨i10, i10, i10, i10, i10, i10, i10, i10, i10, it, i10, it⟩⟩, _, rfl, zWr_si (by decide) (zWr_si (by decide) (zWr_si (by decide) (zWr_si (by decide) r1))), ?_, ?_⟩
      · rw [vC_o (by omega), vC_u (b := 51) (i := 4) (j := 55) rfl (by omega) (show j < zsz 4 from hj10), vC_u (b := 51) (i := 2) (j := 53) rfl (by omega) (show j < zsz 2 from hj10), vC_u (b := 51) (i := 3) (j := 54) rfl (by omega) (show j < zsz 3 from hj10), fld, ← r2]
        rfl
      · rw [za_si, if_pos rfl, za_si, if_neg (by decide), za_si, if_neg (by decide), za_si, if_neg (by decide), r3, tot, ← ePh]
        funext k
        unfold upd
        by_cases e : k = t
        · rw [if_pos e, if_pos e]
        · rw [if_neg e, if_neg e, if_neg e])
    (by
      rintro q ⟨r1, r2, r3⟩
      rw [Nat.zero_add]
      have f23 : zf q 23 0 = nI nr := (r1.fld 23 0 (by decide) (by decide)).trans ((w2.fld 23 0 (by decide) (by decide)).trans e23)
      have g0 : zf q 23 0 ≤ nI nr := by rw [f23]; exact i_le_r _
      dsimp only
      unfold f_Course_takeWaves_50_l25_b f_Course_takeWaves_50_l25_b_ok
      rw [if_pos g0]
      exact ⟨⟨fun _ => trivial, fun z => absurd g0 z⟩, rfl⟩)
  rw [Nat.zero_add] at key
  obtain ⟨k1, h3, k2, k3, k4, k5⟩ := key
  have k2 : f_Course_takeWaves_50_l25 (nI t) F (0, zm_si h2 60 t 0) = (1, nI nr, h3) := k2
  rw [k2]
  dsimp only
  have e10 : nI t * 10 = nI (10 * t) := by rw [show (10 : Int32) = nI 10 from rfl, pk_mul, Nat.mul_comm]
  have c10 : (nI t * 10).toNatClampNeg = 10 * t := by rw [e10, nI_c (by omega)]
  have zc : (zcp h3 35 0 62 (nI t * 10) 10).2.1 = zm_w h3.2.1 62 (va_cpy (h3.2.1 35) (h3.2.1 62) 0 (10 * t) 10) := by
    unfold zcp
    rw [c10]
    rfl
  refine ⟨⟨p1, q1, it, k1, by decide, by rw [e10, i_lt, i_nI (by omega), i_0]; omega, by decide, by decide, by rw [c10]; show 10 * t + 10 ≤ 4800; omega⟩, ?_, ?_, ?_, ?_⟩
  · exact zWr_cp (by decide) (zWr_tr k3 (by decide) (by decide) w2)
  · rw [← k4]
    apply vC_eq
    intro i hi
    rw [zc]
    unfold zm_w
    rw [if_neg (by omega)]
  · rw [zc]
    unfold zm_w
    rw [if_neg (by decide), k5]
  · intro k
    rw [zc]
    unfold zm_w
    rw [if_pos rfl, k3.arr 35 (by decide) (by decide), k3.arr 62 (by decide) (by decide), a49]
    unfold va_cpy
    by_cases c : 10 * t ≤ k ∧ k < 10 * t + 10
    · rw [if_pos c, if_pos c, Nat.zero_add]
      exact q3 _ (by omega)
    · rw [if_neg c, if_neg c]
