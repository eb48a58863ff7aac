/-! ===== PAY and the whole SPELL, the model ===== -/
theorem szOK_of {w nr : Nat} {h : zm_H} (R : I_rf w nr h) : szOK nr (h.2.1 112) (h.2.1 113) := fun r hr => ⟨(R.2.2 r hr).1, (R.2.2 r hr).2.1⟩
theorem I_rf_w {W : List Nat} {F : List (Nat × Nat)} {h h' : zm_H} (w : zWr W F h h') {wn nr : Nat} (h1 : (W.all (fun i => ![23, 24, 25, 26, 92, 112, 113, 114].contains i) && F.all (fun p => ![24, 25, 26, 112, 113, 114].contains p.1 && p != (23, 0) && p != (92, 33))) = true) (R : I_rf wn nr h) : I_rf wn nr h' := by
  rw [Bool.and_eq_true, List.all_eq_true, List.all_eq_true] at h1
  have a : ∀ i, i ∈ [24, 25, 26, 112, 113, 114] → h'.2.1 i = h.2.1 i := by
    intro i hi
    refine w.arr i (fun z => ?_) (fun p hp z => ?_)
    · have := h1.1 i z
      simp at this hi
      omega
    · have := h1.2 p hp
      rw [z] at this
      simp at this hi
      omega
  have f : ∀ i k, ((i, k) = (23, 0) ∨ (i, k) = (92, 33)) → h'.2.1 i k = h.2.1 i k := by
    intro i k hik
    refine w.fld i k (fun z => ?_) (fun z => ?_)
    · have := h1.1 i z
      simp at this hik
      omega
    · have := h1.2 _ z
      simp at this hik
      omega
  obtain ⟨⟨r1, r2, r3⟩, ⟨r4, r5, r6⟩, r7⟩ := R
  refine ⟨⟨r1, (f 23 0 (Or.inl rfl)).trans r2, (f 92 33 (Or.inr rfl)).trans r3⟩, ⟨?_, ?_, ?_⟩, ?_⟩
  · rw [a 24 (by decide), a 112 (by decide)]; exact r4
  · rw [a 25 (by decide), a 113 (by decide)]; exact r5
  · rw [a 26 (by decide), a 114 (by decide)]; exact r6
  · rw [a 112 (by decide), a 113 (by decide), a 114 (by decide)]; exact r7
theorem l229_M {ns nf nr g L w : Nat} (hL : L < 2) {h : zm_H} (H : I_rl ns nf h) (R : I_rf w nr h) (V : vOK nr g (vM L h)) {sea : Int32} (hs : rdOK sea) (hS : isSea h sea) {t : Nat} (ht : t < 480) : f_M_goes_l229_ok (nI L) (nI t) zF (0, zp h 92 87 0) ∧ ∃ h', f_M_goes_l229 (nI L) (nI t) zF (0, zp h 92 87 0) = (1, nI nr, h') ∧ zWr [149, 150] [(92, 87)] h h' ∧ zf h' 92 87 = pys (fun c nm => Ev nf h c (nI t) nm) (vM L h) (h.2.1 112) (h.2.1 114) sea (nI t) nr := by
  obtain ⟨⟨hnr, -, e33⟩, -, hR⟩ := id R
  obtain ⟨F, eF, -⟩ := zF_ex
  rw [← eF]
  have key := zlp_k eF (b := fun s => f_M_goes_l229_b (nI L) (nI t) s.1 s.2) (o := fun s => f_M_goes_l229_b_ok (nI L) (nI t) s.1 s.2) nr (by omega) 0
    (fun j q => zWr [149, 150] [(92, 87)] h q ∧ zf q 92 87 = pys (fun c nm => Ev nf h c (nI t) nm) (vM L h) (h.2.1 112) (h.2.1 114) sea (nI t) j) (zp h 92 87 0)
    ⟨zWr_p (by decide) (zWr.refl _ _), zm_in _ _ _ _⟩
    (by
      rintro j q hj ⟨p1, p2⟩
      rw [Nat.zero_add]
      have hj10 : j < 10 := by omega
      have f33 : zf q 92 33 = nI nr := (p1.fld 92 33 (by decide) (by decide)).trans e33
      have g0 : ¬ (zf q 92 33 ≤ nI j) := by rw [f33, nx_le (by omega) (by omega)]; omega
      have i10 : vp_in (nI j) 10 := vp_in_nI hj10 (by omega)
      have e114 : zr q 114 (nI j) = h.2.1 114 j := by rw [zr_n q 114 (by omega), zf, p1.arr 114 (by decide) (by decide)]
      have e112 : q.2.1 112 = h.2.1 112 := p1.arr 112 (by decide) (by decide)
      have ev : vM L q = vM L h := vM_eq (fun i hi => p1.arr i (by simp at hi ⊢; omega) (by simp at hi ⊢; omega)) (p1.2 127 (by decide)).2.1
      have hw : wfR [149, 150] [(92, 87)] = true := by decide
      have Sq : isSea q sea := ⟨(p1.fld 92 79 (by decide) (by decide)).trans hS.1, (p1.fld 92 80 (by decide) (by decide)).trans hS.2.1, (p1.fld 92 81 (by decide) (by decide)).trans hS.2.2⟩
      obtain ⟨a1, a2, a3⟩ := ask_M (t := t) hL (by rw [ev]; exact V) Sq hj10
      rw [ev, e112] at a3
      obtain ⟨q2, e2⟩ : ∃ q2, q2 = f_M_asks (nI L) (nI j) (nI t) q := ⟨_, rfl⟩
      rw [← e2] at a2 a3
      have p12 : zWr [149, 150] [(92, 87)] h q2 := zWr_tr a2 (by decide) (by decide) p1
      have H2 := I_rl_w hw p12 H
      have nmo : nmOK (q2.2.1 149) := nmOK_ext a3 (nmR_ok V hs ht hj10 (by have := (hR j hj).1; omega))
      obtain ⟨t1, t2, t3⟩ := te_M H2 nmo (c := 3) (by omega) (nI t)
      rw [Ev_ext H2 (by omega) (nI t) a3, Ev_w hw p12] at t2
      have t1 : f_M_tells_ok 3 (nI t) q2 := t1
      have t2 : (f_M_tells 3 (nI t) q2).1 = Ev nf h 3 (nI t) (nmR (vM L h) (h.2.1 112) sea (nI t) j) := t2
      have t3 : zWr [150] [] q2 (f_M_tells 3 (nI t) q2).2 := t3
      dsimp only
      unfold f_M_goes_l229_b f_M_goes_l229_b_ok f_M_goes_l229_k257 f_M_goes_l229_k257_ok f_M_goes_l229_k263 f_M_goes_l229_k304
      rw [if_neg g0, e114, ← e2, t2, ← nI_succ]
      by_cases c : h.2.1 114 j ≤ nI t
      · rw [if_pos c]
        have f87 : zf (f_M_tells 3 (nI t) q2).2 92 87 = pys (fun c nm => Ev nf h c (nI t) nm) (vM L h) (h.2.1 112) (h.2.1 114) sea (nI t) j := by
          rw [← p2]
          exact (t3.fld 92 87 (by decide) (by decide)).trans (a2.fld 92 87 (by decide) (by decide))
        refine ⟨⟨fun z => absurd z g0, fun _ => ⟨i10, fun _ => ⟨a1, t1⟩, fun z => absurd c z⟩⟩, _, rfl, zWr_p (by decide) (zWr_tr t3 (by decide) (by decide) p12), ?_⟩
        rw [f87, pys, if_pos c]
        exact zm_in _ _ _ _
      · rw [if_neg c]
        refine ⟨⟨fun z => absurd z g0, fun _ => ⟨i10, fun z => absurd z c, fun _ => trivial⟩⟩, _, rfl, p1, ?_⟩
        rw [p2, pys, if_neg c])
    (by
      rintro q ⟨p1, p2⟩
      rw [Nat.zero_add]
      have f33 : zf q 92 33 = nI nr := (p1.fld 92 33 (by decide) (by decide)).trans e33
      have g0 : zf q 92 33 ≤ nI nr := by rw [f33]; exact i_le_r _
      dsimp only
      unfold f_M_goes_l229_b f_M_goes_l229_b_ok
      rw [if_pos g0]
      exact ⟨⟨fun _ => trivial, fun z => absurd g0 z⟩, rfl⟩)
  rw [Nat.zero_add] at key
  exact key
theorem wvT_ext {S : Nat → Nat → Int32} {nr : Nat} {sz su sz' su' : Nat → Int32} (e1 : sz = sz') (e2 : su = su') (sea : Int32) : wvT S nr sz su sea = wvT S nr sz' su' sea := by rw [e1, e2]
theorem pwrs_ext {tk tk' : Nat → Int32} (e : ∀ r, r < 10 → tk r = tk' r) : ∀ n S, n ≤ 10 → fld (pwr tk) n S = fld (pwr tk') n S := by
  intro n
  induction n with
  | zero => intro S _; simp only [fld]
  | succ n ih =>
    intro S hn
    rw [fld, fld, ih S (by omega)]
    unfold pwr pwv
    rw [e n (by omega)]
theorem tot_ext {S : Nat → Nat → Int32} {tk tk' : Nat → Int32} (e : ∀ r, r < 10 → tk r = tk' r) : ∀ n, n ≤ 10 → tot S tk n = tot S tk' n := by
  intro n
  induction n with
  | zero => intro _; rfl
  | succ n ih =>
    intro hn
    rw [tot, tot, ih (by omega)]
    unfold pwv
    rw [e n (by omega)]
/-- goes of the model: one SPELL -/
theorem goes_M {ns nf nr g L w : Nat} (hL : L < 2) (hg : g < 480) {h : zm_H} (H : I_rl ns nf h) (R : I_rf w nr h) (V : vOK nr g (vM L h)) {sea : Int32} (hs : rdOK sea) (hS : isSea h sea) {t : Nat} (ht : t < 480) : f_M_goes_ok (nI L) (nI t) h ∧ zWr [123, 124, 125, 126, 127, 129, 130, 149, 150, 151, 152, 153] [(92, 87), (92, 88)] h (f_M_goes (nI L) (nI t) h) ∧ vM L (f_M_goes (nI L) (nI t) h) = pS3 (fun c nm => Ev nf h c (nI t) nm) (h.2.1 112) (h.2.1 113) sea (nI t) nr (vM L h) ∧ zf (f_M_goes (nI L) (nI t) h) 92 88 = pTot (fun c nm => Ev nf h c (nI t) nm) (h.2.1 112) (h.2.1 113) sea (nI t) nr (vM L h) ∧ zf (f_M_goes (nI L) (nI t) h) 92 87 = pPay (fun c nm => Ev nf h c (nI t) nm) (h.2.1 112) (h.2.1 113) (h.2.1 114) sea (nI t) nr (vM L h) ∧ (∀ c, c < 10 → (f_M_goes (nI L) (nI t) h).2.1 151 c = pFl (fun c nm => Ev nf h c (nI t) nm) (h.2.1 112) (h.2.1 113) sea (nI t) nr (vM L h) c) ∧ ∀ L', L' < 2 → ¬ L = L' → vM L' (f_M_goes (nI L) (nI t) h) = vM L' h := by
  have hnr := R.1.1
  have hz := szOK_of R
  obtain ⟨v1, v2, v3, v4⟩ := vOK_p hnr hg V hz hs ht (fun c nm => Ev nf h c (nI t) nm)
  have wAll := f_M_goes_w (nI L) (nI t) h
  obtain ⟨a1, h1, a2, a3, a4, a5⟩ := snk_M H R hL V hs ht hS
  have S1 : vM L h1 = pS1 (fun c nm => Ev nf h c (nI t) nm) (h.2.1 112) sea (nI t) nr (vM L h) := a4
  have R1 : I_rf w nr h1 := I_rf_w a3 (by decide) R
  have H1 : I_rl ns nf h1 := I_rl_w (by decide) a3 H
  have sea1 : isSea h1 sea := ⟨(a3.fld 92 79 (by decide) (by decide)).trans hS.1, (a3.fld 92 80 (by decide) (by decide)).trans hS.2.1, (a3.fld 92 81 (by decide) (by decide)).trans hS.2.2⟩
  have e112 : h1.2.1 112 = h.2.1 112 := a3.arr 112 (by decide) (by decide)
  have e113 : h1.2.1 113 = h.2.1 113 := a3.arr 113 (by decide) (by decide)
  obtain ⟨b1, b2, b3, b4⟩ := wv_M hnr hL R1.1.2.2 (by rw [S1]; exact v1.w hnr) (by rw [e112, e113]; exact hz) hs sea1
  rw [S1, e112, e113] at b3 b4
  obtain ⟨h2, eh2⟩ : ∃ h2, h2 = f_M_waves (nI L) h1 := ⟨_, rfl⟩
  rw [← eh2] at b2 b3 b4
  have ev2 : ∀ L', vM L' h2 = vM L' h1 := fun L' => vM_eq (fun i hi => b2.arr i (by simp at hi ⊢; omega) (by simp)) (b2.2 127 (by decide)).2.1
  have R2 : I_rf w nr h2 := I_rf_w b2 (by decide) R1
  have H2 : I_rl ns nf h2 := I_rl_w (by decide) b2 H1
  have sea2 : isSea h2 sea := ⟨(b2.fld 92 79 (by decide) (by decide)).trans sea1.1, (b2.fld 92 80 (by decide) (by decide)).trans sea1.2.1, (b2.fld 92 81 (by decide) (by decide)).trans sea1.2.2⟩
  have f112 : h2.2.1 112 = h.2.1 112 := (b2.arr 112 (by decide) (by decide)).trans e112
  have tk2 : ∀ r, r < 10 → h2.2.1 153 r = pTk (fun c nm => Ev nf h c (nI t) nm) (h.2.1 112) (h.2.1 113) sea (nI t) nr (vM L h) r := b4
  have V2 : vOK nr g (vM L h2) := by rw [ev2, S1]; exact v1
  obtain ⟨c1, h3, c2, c3, c4, c5, c6⟩ := l102_M hL hg R2 V2 (fun r hr => by rw [tk2 r hr]; exact v2 r hr) hs sea2 ht
  rw [ev2, S1, f112, pwrs_ext tk2 nr _ hnr] at c4
  rw [ev2, S1, tot_ext tk2 nr hnr] at c5
  have S3 : vM L h3 = pS3 (fun c nm => Ev nf h c (nI t) nm) (h.2.1 112) (h.2.1 113) sea (nI t) nr (vM L h) := c4
  have R3 : I_rf w nr h3 := I_rf_w c3 (by decide) R2
  have H3 : I_rl ns nf h3 := I_rl_w (by decide) c3 H2
  have sea3 : isSea h3 sea := ⟨(c3.fld 92 79 (by decide) (by decide)).trans sea2.1, (c3.fld 92 80 (by decide) (by decide)).trans sea2.2.1, (c3.fld 92 81 (by decide) (by decide)).trans sea2.2.2⟩
  obtain ⟨d1, h4, d2, d3, d4⟩ := l229_M hL H3 R3 (by rw [S3]; exact v4) hs sea3 ht
  have ev4 : ∀ L', vM L' h4 = vM L' h3 := fun L' => vM_eq (fun i hi => d3.arr i (by simp at hi ⊢; omega) (by simp at hi ⊢; omega)) (d3.2 127 (by decide)).2.1
  have w03 : zWr [123, 124, 125, 126, 127, 129, 130, 149, 150, 151, 152, 153] [(92, 87), (92, 88)] h h3 := zWr_tr c3 (by decide) (by decide) (zWr_tr b2 (by decide) (by decide) (zWr_tr a3 (by decide) (by decide) (zWr.refl _ _)))
  have eE : (fun c nm => Ev nf h3 c (nI t) nm) = fun c nm => Ev nf h c (nI t) nm := by
    funext c nm
    exact Ev_w (by decide) w03 c (nI t) nm
  rw [eE, S3, w03.arr 112 (by decide) (by decide), w03.arr 114 (by decide) (by decide)] at d4
  unfold f_M_goes_ok f_M_goes f_M_goes_a2 f_M_goes_a2_ok f_M_goes_k90 f_M_goes_k90_ok f_M_goes_k95 f_M_goes_k95_ok f_M_goes_a102 f_M_goes_a102_ok f_M_goes_k222 f_M_goes_k222_ok f_M_goes_a229 f_M_goes_k310 at *
  rw [a2] at wAll ⊢
  dsimp only at wAll ⊢
  rw [← eh2] at wAll ⊢
  rw [c2] at wAll ⊢
  dsimp only at wAll ⊢
  rw [d2] at wAll ⊢
  dsimp only at wAll ⊢
  refine ⟨⟨a1, b1, c1, d1, trivial⟩, wAll, by rw [ev4]; exact S3, ?_, d4, ?_, ?_⟩
  · exact (d3.fld 92 88 (by decide) (by decide)).trans c5
  · intro c hc
    rw [d3.arr 151 (by decide) (by decide), c3.arr 151 (by decide) (by decide)]
    exact b3 c hc
  · intro L' hL' hne
    rw [ev4, c6 L' hL' hne, ev2]; exact a5 L' hL' hne
