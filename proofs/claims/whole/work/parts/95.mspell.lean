/-! ===== one SPELL: the model ===== -/
theorem sp_M {ns nf nr w w0 n d : Nat} (hw : w < 480) (hw0 : w0 ≤ w) {h : zm_H} (H : I_rl ns nf h) (R : I_rf w0 nr h) (S : I_sw w0 n d h) (et : zf h 92 23 = nI w) {g : GS} (G : gOK nr w w g) (L : rlM g h) {sea : Int32} (es : sea = seaP h n d w) {E : Nat → (Nat → Int32) → Int32} (eE : E = fun c nm => Ev nf h c (nI w) nm) :
    f_M_spell_ok h ∧ zf (f_M_spell h) 92 23 = nI (w + 1) ∧ rlM (spl E (h.2.1 112) (h.2.1 113) sea w nr g) (f_M_spell h) ∧ vM 1 (f_M_spell h) = vM 1 h ∧
    (f_M_spell h).2.1 131 = upd (h.2.1 131) w (pTot E (h.2.1 112) (h.2.1 113) sea (nI w) nr g.1) ∧
    (f_M_spell h).2.1 132 = upd (h.2.1 132) w (pPay E (h.2.1 112) (h.2.1 113) (h.2.1 114) sea (nI w) nr g.1) ∧
    ∀ j, (f_M_spell h).2.1 133 j = if 10 * w ≤ j ∧ j < 10 * w + 10 then pFl E (h.2.1 112) (h.2.1 113) sea (nI w) nr g.1 (j - 10 * w) else h.2.1 133 j := by
  have hnr := R.1.1
  have hz := szOK_of R
  have hs : rdOK sea := by rw [es]; exact sea_ok S (Nat.le_refl _)
  obtain ⟨l1, l2⟩ := lk_all S (a := w) hw
  have q1 : ft (h.2.1 107) (nI w) n = n := ft_all S.2.2.2.2.1 (fun k hk => by
    obtain ⟨t, a, b, c⟩ := (S.2.1 k hk).2.2.2.2.1
    have c : h.2.1 107 k = nI t := c
    rw [c, nx_le (by omega) (by omega)]; omega)
  have q2 : ft (h.2.1 111) (nI w) d = d := ft_all S.2.2.2.2.2 (fun k hk => by
    obtain ⟨t, a, b, c⟩ := (S.2.2.2.1 k hk).2.2.2.2.1
    have c : h.2.1 111 k = nI t := c
    rw [c, nx_le (by omega) (by omega)]; omega)
  rw [q1, q2, ← es] at l2
  have lw := f_M_looks_w (nI w) (nI w) h
  unfold f_M_spell_ok f_M_spell f_M_spell_k12_ok f_M_spell_k12 f_M_spell_k22_ok f_M_spell_k22
  rw [et]
  generalize f_M_looks (nI w) (nI w) h = h1 at l2 lw
  have t1 : zf h1 92 23 = nI w := (lw.fld 92 23 (by decide) (by decide)).trans et
  rw [t1]
  obtain ⟨a1, a2, a3⟩ := ask_Z (t := w) l2
  generalize f_M_asks 0 (-1) (nI w) h1 = h2 at a2 a3
  have w2 : zWr [149] [(92, 79), (92, 80), (92, 81)] h h2 := zWr_tr a2 (by decide) (by decide) (zWr_tr lw (by decide) (by decide) (zWr.refl _ _))
  have t2 : zf h2 92 23 = nI w := (a2.fld 92 23 (by decide) (by decide)).trans t1
  obtain ⟨L2, v2⟩ := rlM_w w2 (by decide) L
  have f2 : wfR [149] [(92, 79), (92, 80), (92, 81)] = true := by decide
  obtain ⟨b1, h3, b2, b3, b4, b5⟩ := bsp_M (w := w) (I_rl_w f2 w2 H) hs hw t2 a3 L2.2.2.1
  rw [b2]
  unfold f_M_spell_a24_ok f_M_spell_a24 f_M_spell_k76_ok f_M_spell_k76
  dsimp only
  have eE2 : (fun c nm => Ev nf h2 c (nI w) nm) = E := by rw [eE]; funext c nm; exact Ev_w f2 w2 c (nI w) nm
  rw [eE2] at b4
  have w3 : zWr [139, 145, 149, 150] [(92, 79), (92, 80), (92, 81)] h h3 := zWr_tr b3 (by decide) (by decide) (zWr_tr w2 (by decide) (by decide) (zWr.refl _ _))
  have f3 : wfR [139, 145, 149, 150] [(92, 79), (92, 80), (92, 81)] = true := by decide
  have t3 : zf h3 92 23 = nI w := (b3.fld 92 23 (by decide) (by decide)).trans t2
  obtain ⟨X, U, nt, T⟩ := g
  obtain ⟨r1, r2, r3, r4, r5, r6⟩ := id L2
  dsimp only at r1 r2 r3 r4 r5 r6
  have v3 : ∀ Q, vM Q h3 = vM Q h2 := fun Q => vM_eq (fun i hi => b3.arr i (by simp at hi ⊢; omega) (by simp)) (b3.2 127 (by decide)).2.1
  have S3 : isSea h3 sea := by
    have z : ∀ k, k = 79 ∨ k = 80 ∨ k = 81 → zf h3 92 k = zf h1 92 k := fun k hk => (b3.fld 92 k (by decide) (by simp)).trans (a2.fld 92 k (by decide) (by simp))
    exact ⟨(z 79 (by omega)).trans l2.1, (z 80 (by omega)).trans l2.2.1, (z 81 (by omega)).trans l2.2.2⟩
  obtain ⟨g1, g2, g3', g4, g5, g6, g7⟩ := goes_M (L := 0) (by omega) hw (I_rl_w f3 w3 H) (I_rf_w w3 (by decide) R) (by rw [v3, r1]; exact G.1) hs S3 hw
  rw [show nI 0 = (0 : Int32) from rfl] at g1 g2 g3' g4 g5 g6 g7
  have eE3 : (fun c nm => Ev nf h3 c (nI w) nm) = E := by rw [eE]; funext c nm; exact Ev_w f3 w3 c (nI w) nm
  rw [eE3, w3.arr 112 (by decide) (by decide), w3.arr 113 (by decide) (by decide), v3, r1] at g3' g4 g6
  rw [eE3, w3.arr 112 (by decide) (by decide), w3.arr 113 (by decide) (by decide), w3.arr 114 (by decide) (by decide), v3, r1] at g5
  rw [t3]
  have g7 : vM 1 (f_M_goes 0 (nI w) h3) = vM 1 h3 := g7 1 (by omega) (by omega)
  generalize f_M_goes 0 (nI w) h3 = h4 at g2 g3' g4 g5 g6 g7
  have t4 : zf h4 92 23 = nI w := (g2.fld 92 23 (by decide) (by decide)).trans t3
  unfold f_M_spell_k85_ok f_M_spell_k85
  rw [t4, g4, g5, zs_n _ 131 _ (by omega), zs_n _ 132 _ (by omega)]
  obtain ⟨h5, e5⟩ : ∃ h5, h5 = zm_si (zm_si h4 131 w (pTot E (h.2.1 112) (h.2.1 113) sea (nI w) nr X)) 132 w (pPay E (h.2.1 112) (h.2.1 113) (h.2.1 114) sea (nI w) nr X) := ⟨_, rfl⟩
  have e5' : zm_si (zm_si h4 131 w (pTot E (h.2.1 112) (h.2.1 113) sea (nI w) nr (X, U, nt, T).1)) 132 w (pPay E (h.2.1 112) (h.2.1 113) (h.2.1 114) sea (nI w) nr (X, U, nt, T).1) = h5 := e5.symm
  rw [← e5]
  have w5 : zWr [131, 132] [] h4 h5 := by rw [e5]; exact zWr_si (by decide) (zWr_si (by decide) (zWr.refl _ _))
  have x131 : h5.2.1 131 = upd (h4.2.1 131) w (pTot E (h.2.1 112) (h.2.1 113) sea (nI w) nr X) := by rw [e5, za_si, if_neg (by decide), za_si, if_pos rfl]
  have x132 : h5.2.1 132 = upd (h4.2.1 132) w (pPay E (h.2.1 112) (h.2.1 113) (h.2.1 114) sea (nI w) nr X) := by rw [e5, za_si, if_pos rfl, za_si, if_neg (by decide)]
  clear e5' e5
  have t5 : zf h5 92 23 = nI w := (w5.fld 92 23 (by decide) (by decide)).trans t4
  obtain ⟨m1, h6, m2, m3, m4⟩ := l113_M hw t5
  rw [m2]
  unfold f_M_spell_a113_ok f_M_spell_a113 f_M_spell_k145_ok f_M_spell_k145
  dsimp only
  have t6 : zf h6 92 23 = nI w := (m3.fld 92 23 (by decide) (by decide)).trans t5
  have w36 : zWr [123, 124, 125, 126, 127, 129, 130, 131, 132, 133, 149, 150, 151, 152, 153] [(92, 87), (92, 88)] h3 h6 := zWr_tr m3 (by decide) (by decide) (zWr_tr w5 (by decide) (by decide) (zWr_tr g2 (by decide) (by decide) (zWr.refl _ _)))
  have vs : ∀ Q, vM Q h6 = vM Q h4 := fun Q => by
    rw [vM_eq (fun i hi => m3.arr i (by simp at hi ⊢; omega) (by simp)) (m3.2 127 (by decide)).2.1, vM_eq (fun i hi => w5.arr i (by simp at hi ⊢; omega) (by simp)) (w5.2 127 (by decide)).2.1]
  have L6 : rlM (pS3 E (h.2.1 112) (h.2.1 113) sea (nI w) nr X, rcl E sea (nI w) U, nt, T) h6 := by
    refine ⟨by rw [vs]; exact g3', ?_, ?_, ?_, ?_, ?_⟩
    · dsimp only
      rw [uM_eq (fun i hi => w36.arr i (by simp at hi ⊢; omega) (by simp at hi ⊢; omega)), b4, r2]
    · exact mB_eq (fun i hi => w36.arr i (by simp at hi ⊢; omega) (by simp at hi ⊢; omega)) b5
    · exact (w36.fld 92 41 (by decide) (by decide)).trans ((b3.fld 92 41 (by decide) (by decide)).trans r4)
    · dsimp only
      rw [w36.arr 118 (by decide) (by decide), w36.arr 120 (by decide) (by decide), w36.arr 122 (by decide) (by decide), b3.arr 118 (by decide) (by decide), b3.arr 120 (by decide) (by decide), b3.arr 122 (by decide) (by decide)]
      exact r5
    · intro k hk
      dsimp only at hk ⊢
      rw [w36.arr 119 (by decide) (by decide), w36.arr 121 (by decide) (by decide), b3.arr 119 (by decide) (by decide), b3.arr 121 (by decide) (by decide)]
      exact r6 k hk
  have e33 : zf h6 92 33 = nI nr := (w36.fld 92 33 (by decide) (by decide)).trans ((w3.fld 92 33 (by decide) (by decide)).trans R.1.2.2)
  obtain ⟨n1, h7, n2, n3, n4, n5⟩ := ends_M hnr hw (spl_ok hnr hw G hz hs E).1 L6 e33 t6
  rw [n2]
  unfold f_M_spell_a147 f_M_spell_k185
  dsimp only
  have t7 : zf h7 92 23 = nI w := (n3.fld 92 23 (by decide) (by decide)).trans t6
  have w8 : zWr [] [(92, 23)] h7 (zp h7 92 23 (zf h7 92 23 + 1)) := zWr_p (by decide) (zWr.refl _ _)
  obtain ⟨L8, v8⟩ := rlM_w w8 (by decide) n5
  refine ⟨⟨l1, a1, b1, g1, vp_in_nI hw (by omega), vp_in_nI hw (by omega), m1, n1, trivial⟩, ?_, L8, ?_, ?_, ?_, ?_⟩
  · rw [t7, nI_succ]; exact zm_in _ _ _ _
  · rw [v8, n4, vs, g7, v3, v2]
  · rw [w8.arr 131 (by decide) (by decide), n3.arr 131 (by decide) (by decide), m3.arr 131 (by decide) (by decide), x131, g2.arr 131 (by decide) (by decide), w3.arr 131 (by decide) (by decide)]
  · rw [w8.arr 132 (by decide) (by decide), n3.arr 132 (by decide) (by decide), m3.arr 132 (by decide) (by decide), x132, g2.arr 132 (by decide) (by decide), w3.arr 132 (by decide) (by decide)]
  · intro j
    rw [w8.arr 133 (by decide) (by decide), n3.arr 133 (by decide) (by decide), m4, w5.arr 133 (by decide) (by decide), w5.arr 151 (by decide) (by decide), g2.arr 133 (by decide) (by decide), w3.arr 133 (by decide) (by decide)]
    by_cases c : 10 * w ≤ j ∧ j < 10 * w + 10
    · rw [if_pos c, if_pos c]; exact g6 _ (by omega)
    · rw [if_neg c, if_neg c]
