/-! ===== WAVES, the model ===== -/
theorem zfill {F : Nat} (hF : F = zF) {b : Int32 × zm_H → Nat × Int32 × zm_H} {o : Int32 × zm_H → Prop} (A N : Nat) (hN : N < 99999) (v : Nat → Int32) (h0 : zm_H)
    (hs : ∀ k h, k < N → zWr [A] [] h0 h → o (nI k, h) ∧ b (nI k, h) = (0, nI (k + 1), zm_si h A k (v k)))
    (he : ∀ h, zWr [A] [] h0 h → o (nI N, h) ∧ b (nI N, h) = (1, nI N, h)) : zwo b o F (0, h0) ∧ ∃ h', zwh b F (0, h0) = (1, nI N, h') ∧ zWr [A] [] h0 h' ∧ ∀ k, h'.2.1 A k = if k < N then v k else h0.2.1 A k := by
  have key := zlp_k hF (b := b) (o := o) N hN 0 (fun j h1 => zWr [A] [] h0 h1 ∧ ∀ k, h1.2.1 A k = if k < j then v k else h0.2.1 A k) h0 ⟨zWr.refl _ _, fun k => by rw [if_neg (by omega)]⟩
    (by
      rintro j h1 hj ⟨p1, p2⟩
      rw [Nat.zero_add]
      obtain ⟨q1, q2⟩ := hs j h1 hj p1
      refine ⟨q1, _, q2, zWr_si (by simp) p1, fun k => ?_⟩
      rw [za_si, if_pos rfl]
      by_cases e : k = j
      · subst e; rw [pk_us, if_pos (by omega)]
      · rw [pk_un e, p2 k]
        by_cases c : k < j
        · rw [if_pos c, if_pos (by omega)]
        · rw [if_neg c, if_neg (by omega)])
    (by
      rintro h1 ⟨p1, p2⟩
      rw [Nat.zero_add]
      exact he h1 p1)
  rw [Nat.zero_add] at key
  exact key
theorem sh_in {c : Nat} {way : Int32} : (¬ ((nI c - way) < 0) ∧ (¬ (9 < (nI c - way)))) ↔ (¬ ((nI c - way) < 0) ∧ (¬ (10 ≤ (nI c - way)))) := by
  simp only [i_lt, i_le, Int32.reduceToInt]
  omega
theorem sh_ok {c : Nat} {way : Int32} (q : ¬ ((nI c - way) < 0) ∧ (¬ (10 ≤ (nI c - way)))) : vp_in (nI c - way) 10 := by
  rw [vp_in_iff]
  simp only [i_lt, i_le, Int32.reduceToInt] at q
  omega
theorem wv_M {nr L : Nat} (hnr : nr ≤ 10) (hL : L < 2) {h : zm_H} (e33 : zf h 92 33 = nI nr) (hw : wOK nr (vM L h)) (hz : ∀ r, r < nr → (1 ≤ (h.2.1 112 r).toInt ∧ (h.2.1 112 r).toInt ≤ 20) ∧ (2 ≤ (h.2.1 113 r).toInt ∧ (h.2.1 113 r).toInt ≤ 20)) {sea : Int32} (hs : rdOK sea) (hS : isSea h sea) : f_M_waves_ok (nI L) h ∧ zWr [151, 152, 153] [] h (f_M_waves (nI L) h) ∧ (∀ c, c < 10 → (f_M_waves (nI L) h).2.1 151 c = wvF (vM L h) nr (h.2.1 112) (h.2.1 113) sea c) ∧ (∀ r, r < 10 → (f_M_waves (nI L) h).2.1 153 r = wvT (vM L h) nr (h.2.1 112) (h.2.1 113) sea r) := by
  obtain ⟨sr1, sr2, -, sr4⟩ := sea_rng hs
  obtain ⟨S, eS⟩ : ∃ S, S = vM L h := ⟨_, rfl⟩
  rw [← eS] at hw ⊢
  obtain ⟨op, eo⟩ : ∃ op, op = (sea / 1000) * (sea / 1000) * (zm_rm sea 1000 / 10) := ⟨_, rfl⟩
  have eo2 : zf h 92 79 * zf h 92 79 * zf h 92 80 = op := by rw [hS.1, hS.2.1, eo]
  unfold f_M_waves_ok f_M_waves f_M_waves_a17 f_M_waves_a17_ok f_M_waves_k36 f_M_waves_k36_ok f_M_waves_a38 f_M_waves_a38_ok f_M_waves_k57 f_M_waves_k57_ok f_M_waves_a59 f_M_waves_k354
  rw [eo2]
  have g10' : (10 : Int32) ≤ nI 10 := by decide
  obtain ⟨k1, h1, k2, k3, k4⟩ := zfill rfl (b := fun s => f_M_waves_l17_b (nI L) op s.1 s.2) (o := fun s => f_M_waves_l17_b_ok (nI L) op s.1 s.2) 151 10 (by omega) (fun _ => op) h
    (fun k g hk _ => ⟨⟨fun z => absurd z (g10 hk), fun _ => vp_in_nI hk (by omega)⟩, by
      dsimp only
      unfold f_M_waves_l17_b
      rw [if_neg (g10 hk), zs_n _ 151 _ (by omega), ← nI_succ]⟩)
    (fun g _ => ⟨⟨fun _ => trivial, fun z => absurd g10' z⟩, by
      dsimp only
      unfold f_M_waves_l17_b
      rw [if_pos g10']⟩)
  have k2 : f_M_waves_l17 (nI L) op zF (0, h) = (1, nI 10, h1) := k2
  rw [k2]
  dsimp only
  obtain ⟨m1, h2, m2, m3, m4⟩ := zfill rfl (b := fun s => f_M_waves_l38_b (nI L) op s.1 s.2) (o := fun s => f_M_waves_l38_b_ok (nI L) op s.1 s.2) 153 10 (by omega) (fun _ => 0) h1
    (fun k g hk _ => ⟨⟨fun z => absurd z (g10 hk), fun _ => vp_in_nI hk (by omega)⟩, by
      dsimp only
      unfold f_M_waves_l38_b
      rw [if_neg (g10 hk), zs_n _ 153 _ (by omega), ← nI_succ]⟩)
    (fun g _ => ⟨⟨fun _ => trivial, fun z => absurd g10' z⟩, by
      dsimp only
      unfold f_M_waves_l38_b
      rw [if_pos g10']⟩)
  have m2 : f_M_waves_l38 (nI L) op zF (0, h1) = (1, nI 10, h2) := m2
  rw [m2]
  dsimp only
  have w2 : zWr [151, 152, 153] [] h h2 := zWr_tr m3 (by decide) (by decide) (zWr_tr k3 (by decide) (by decide) (zWr.refl _ _))
  obtain ⟨F, eF, -⟩ := zF_ex
  obtain ⟨sz, esz⟩ : ∃ sz, sz = h.2.1 112 := ⟨_, rfl⟩
  obtain ⟨su, esu⟩ : ∃ su, su = h.2.1 113 := ⟨_, rfl⟩
  have key := zlp_k rfl (b := fun s => f_M_waves_l59_b (nI L) op s.1 s.2) (o := fun s => f_M_waves_l59_b_ok (nI L) op s.1 s.2) 5 (by omega) 0
    (fun y g => zWr [151, 152, 153] [] h g ∧ (y ≤ 4 → (∀ c, c < 10 → g.2.1 151 c = (wvs S nr sz su sea y).1 c) ∧ (∀ r, r < 10 → g.2.1 153 r = (wvs S nr sz su sea y).2 r)) ∧ (y = 5 → (∀ c, c < 10 → g.2.1 151 c = wvF S nr sz su sea c) ∧ (∀ r, r < 10 → g.2.1 153 r = wvT S nr sz su sea r))) h2
    ⟨w2, fun _ => ⟨fun c hc => by
      rw [m3.arr 151 (by decide) (by decide), k4 c, if_pos hc, eo]; rfl, fun r hr => by rw [m4 r, if_pos hr]; rfl⟩, fun z => by omega⟩
    (by
      rintro y g hy ⟨p1, p2, -⟩
      rw [Nat.zero_add]
      obtain ⟨p2, p3⟩ := p2 (by omega)
      have ev : vM L g = S := by rw [eS]; exact vM_eq (fun i hi => p1.arr i (by simp at hi ⊢; omega) (by simp)) (p1.2 127 (by decide)).2.1
      have f33 : zf g 92 33 = nI nr := (p1.fld 92 33 (by decide) (by decide)).trans e33
      have f80 : zf g 92 80 = zm_rm sea 1000 / 10 := (p1.fld 92 80 (by decide) (by decide)).trans hS.2.1
      have f81 : zf g 92 81 = zm_rm sea 10 - 1 := (p1.fld 92 81 (by decide) (by decide)).trans hS.2.2
      have a112 : g.2.1 112 = sz := by rw [esz]; exact p1.arr 112 (by decide) (by decide)
      have a113 : g.2.1 113 = su := by rw [esu]; exact p1.arr 113 (by decide) (by decide)
      have hz' : ∀ r, r < nr → (1 ≤ (g.2.1 112 r).toInt ∧ (g.2.1 112 r).toInt ≤ 20) ∧ (2 ≤ (g.2.1 113 r).toInt ∧ (g.2.1 113 r).toInt ≤ 20) := by rw [a112, a113, esz, esu]; exact hz
      obtain ⟨h1', h2', h3', h4', h5'⟩ := hs
      obtain ⟨r1, g1, r2, r3, r4, r5⟩ := row_M hnr hL f33 (by rw [ev]; exact hw) hz' f80 (by rw [sr2]; omega) (by rw [sr2]; omega) hy op
      rw [ev, a112, a113] at r4 r5
      have s4 : ∀ c, c < 10 → g1.2.1 151 c = rwF S nr sz su (zm_rm sea 1000 / 10) y (wvs S nr sz su sea y).1 c := fun c hc => (r4 c hc).trans (rwF_ext p2 c hc)
      have s5 : ∀ r, r < 10 → g1.2.1 153 r = rwT S nr sz su (zm_rm sea 1000 / 10) y (wvs S nr sz su sea y).1 (wvs S nr sz su sea y).2 r := fun r hr => (r5 r hr).trans (rwT_ext hw p2 p3 r hr)
      have w1 : zWr [151, 152, 153] [] h g1 := zWr_tr r3 (by decide) (by decide) p1
      have g5 : ¬ ((5 : Int32) ≤ nI y) := by rw [show (5 : Int32) = nI 5 from rfl, nx_le (by omega) (by omega)]; omega
      have f81' : zf g1 92 81 = zm_rm sea 10 - 1 := (r3.fld 92 81 (by decide) (by decide)).trans f81
      dsimp only
      unfold f_M_waves_l59_b f_M_waves_l59_b_ok f_M_waves_l59_a67 f_M_waves_l59_a67_ok f_M_waves_l59_k255 f_M_waves_l59_k255_ok
      rw [if_neg g5, r2]
      dsimp only
      by_cases y4 : y = 4
      · subst y4
        rw [if_pos (show nI 4 = 4 from rfl)]
        unfold f_M_waves_l59_k348
        exact ⟨⟨fun z => absurd z g5, fun _ => ⟨r1, fun _ => trivial, fun z => absurd rfl z⟩⟩, g1, by rw [← nI_succ], w1, fun z => by omega, fun _ => ⟨s4, s5⟩⟩
      · have n4 : ¬ (nI y = 4) := fun z => y4 (nI_inj (by omega) (by omega) (show nI y = nI 4 from z))
        rw [if_neg n4]
        obtain ⟨t1, g2, t2, t3, t4⟩ := zfill rfl (b := fun s => f_M_waves_l59_l266_b (nI L) op (nI y) s.1 s.2) (o := fun s => f_M_waves_l59_l266_b_ok (nI L) op (nI y) s.1 s.2) 152 10 (by omega) (shf (zm_rm sea 10 - 1) op (g1.2.1 151)) g1
          (fun k q hk wq => by
            have q81 : zf q 92 81 = zm_rm sea 10 - 1 := (wq.fld 92 81 (by decide) (by decide)).trans f81'
            have q151 : q.2.1 151 = g1.2.1 151 := wq.arr 151 (by decide) (by decide)
            dsimp only
            unfold f_M_waves_l59_l266_b_ok f_M_waves_l59_l266_b
            rw [q81, if_neg (g10 hk)]
            refine ⟨⟨fun z => absurd z (g10 hk), fun _ => ⟨⟨fun z => sh_ok (sh_in.mp z), fun _ => trivial⟩, vp_in_nI hk (by omega)⟩⟩, ?_⟩
            rw [zs_n _ 152 _ (by omega), ← nI_succ]
            unfold shf
            by_cases c : ¬ ((nI k - (zm_rm sea 10 - 1)) < 0) ∧ (¬ (10 ≤ (nI k - (zm_rm sea 10 - 1))))
            · rw [if_pos (sh_in.mpr c), if_pos c]
              show (0, nI (k + 1), zm_si q 152 k (q.2.1 151 (nI k - (zm_rm sea 10 - 1)).toNatClampNeg)) = _
              rw [q151]
            · rw [if_neg (fun z => c (sh_in.mp z)), if_neg c])
          (fun q _ => ⟨⟨fun _ => trivial, fun z => absurd g10' z⟩, by
            dsimp only
            unfold f_M_waves_l59_l266_b
            rw [if_pos g10']⟩)
        have t2 : f_M_waves_l59_l266 (nI L) op (nI y) zF (0, g1) = (1, nI 10, g2) := t2
        obtain ⟨u1, g3, u2, u3, u4⟩ := zfill rfl (b := fun s => f_M_waves_l59_l321_b (nI L) op (nI y) s.1 s.2) (o := fun s => f_M_waves_l59_l321_b_ok (nI L) op (nI y) s.1 s.2) 151 10 (by omega) (g2.2.1 152) g2
          (fun k q hk wq => by
            have q152 : q.2.1 152 = g2.2.1 152 := wq.arr 152 (by decide) (by decide)
            have ik : vp_in (nI k) 10 := vp_in_nI hk (by omega)
            dsimp only
            unfold f_M_waves_l59_l321_b_ok f_M_waves_l59_l321_b
            rw [if_neg (g10 hk)]
            refine ⟨⟨fun z => absurd z (g10 hk), fun _ => ⟨ik, ik⟩⟩, ?_⟩
            rw [zs_n _ 151 _ (by omega), zr_n _ 152 (by omega), ← nI_succ, zf, q152])
          (fun q _ => ⟨⟨fun _ => trivial, fun z => absurd g10' z⟩, by
            dsimp only
            unfold f_M_waves_l59_l321_b
            rw [if_pos g10']⟩)
        have u2 : f_M_waves_l59_l321 (nI L) op (nI y) zF (0, g2) = (1, nI 10, g3) := u2
        unfold f_M_waves_l59_a266 f_M_waves_l59_a266_ok f_M_waves_l59_k318 f_M_waves_l59_k318_ok f_M_waves_l59_a321 f_M_waves_l59_k348
        rw [t2]
        dsimp only
        rw [u2]
        dsimp only
        refine ⟨⟨fun z => absurd z g5, fun _ => ⟨r1, fun z => absurd z n4, fun _ => ⟨t1, u1, trivial⟩⟩⟩, g3, by rw [← nI_succ], zWr_tr u3 (by decide) (by decide) (zWr_tr t3 (by decide) (by decide) w1), fun _ => ⟨fun c hc => ?_, fun r hr => ?_⟩, fun z => by omega⟩
        · rw [u4 c, if_pos hc, t4 c, if_pos hc, wvs]
          dsimp only
          rw [← eo]
          exact shf_ext s4 c
        · rw [u3.arr 153 (by decide) (by decide), t3.arr 153 (by decide) (by decide), s5 r hr, wvs])
    (by
      rintro g ⟨p1, p2, p3⟩
      rw [Nat.zero_add]
      have g5 : (5 : Int32) ≤ nI 5 := by decide
      dsimp only
      unfold f_M_waves_l59_b f_M_waves_l59_b_ok
      rw [if_pos g5]
      exact ⟨⟨fun _ => trivial, fun z => absurd g5 z⟩, rfl⟩)
  rw [Nat.zero_add] at key
  obtain ⟨q1, h3, q2, q3, -, q4⟩ := key
  have q2 : f_M_waves_l59 (nI L) op zF (0, h2) = (1, nI 5, h3) := q2
  rw [q2]
  rw [← esz, ← esu]
  exact ⟨⟨k1, m1, q1, trivial⟩, q3, (q4 rfl).1, (q4 rfl).2⟩
