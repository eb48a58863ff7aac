/-! ===== one SPELL, both ===== -/
def spl (E : Nat → (Nat → Int32) → Int32) (sz su : Nat → Int32) (sea : Int32) (w nr : Nat) (g : GS) : GS := fld (trp w) 3 (pS3 E sz su sea (nI w) nr g.1, rcl E sea (nI w) g.2.1, g.2.2.1, g.2.2.2)
theorem spl_ok {nr w : Nat} (hnr : nr ≤ 10) (hw : w < 480) {g : GS} (G : gOK nr w w g) {sz su : Nat → Int32} (hz : szOK nr sz su) {sea : Int32} (hs : rdOK sea) (E : Nat → (Nat → Int32) → Int32) : gOK nr w (w + 1) (pS3 E sz su sea (nI w) nr g.1, rcl E sea (nI w) g.2.1, g.2.2.1, g.2.2.2) ∧ gOK nr (w + 1) (w + 1) (spl E sz su sea w nr g) := by
  obtain ⟨V, H, n⟩ := G
  have a : gOK nr w (w + 1) (pS3 E sz su sea (nI w) nr g.1, rcl E sea (nI w) g.2.1, g.2.2.1, g.2.2.2) := ⟨(vOK_p hnr hw V hz hs hw E).2.2.2, hbOK_rcl H E sea (nI w), n⟩
  exact ⟨a, trps_up hnr a hw⟩
theorem thn_0 (T : Nat → Nat → Int32) (nt : Nat) (t : Int32) : thn T nt t nt 201 = 0 := by
  rw [thn, if_neg (by omega)]
theorem pn_N {ns nf nr w w0 n d : Nat} (hw : w < 480) {h : zm_H} (H : I_rl ns nf h) (R : I_rf w0 nr h) (S : I_sw w0 n d h) (et : zf h 0 0 = nI w) {g : GS} (G : gOK nr w w g) (L : rlN nr g h) {sea : Int32} (es : sea = seaP h n d w) {E : Nat → (Nat → Int32) → Int32} (eE : E = fun c nm => Ev nf h c (nI w) nm) :
    f_N_passNow_ok h ∧ zf (f_N_passNow h) 0 0 = nI (w + 1) ∧ zf (f_N_passNow h) 37 3 = nI (w + 1) ∧ rlN nr (spl E (h.2.1 112) (h.2.1 113) sea w nr g) (f_N_passNow h) ∧
    (f_N_passNow h).2.1 47 = upd (h.2.1 47) w (pTot E (h.2.1 112) (h.2.1 113) sea (nI w) nr g.1) ∧
    (f_N_passNow h).2.1 48 = upd (h.2.1 48) w (pPay E (h.2.1 112) (h.2.1 113) (h.2.1 114) sea (nI w) nr g.1) ∧
    ∀ j, (f_N_passNow h).2.1 49 j = if 10 * w ≤ j ∧ j < 10 * w + 10 then pFl E (h.2.1 112) (h.2.1 113) sea (nI w) nr g.1 (j - 10 * w) else h.2.1 49 j := by
  have hnr := R.1.1
  have hz := szOK_of R
  have hs : rdOK sea := by rw [es]; exact sea_ok S (Nat.le_refl _)
  obtain ⟨l1, l2⟩ := sw_lk S hw (Nat.le_refl n) (Nat.le_refl d)
  have eS : f_Swell_lookNow (nI w) h = sea := by
    unfold f_Swell_lookNow
    rw [S.1.2.2.1, S.1.2.2.2.2.1, l2, es]
  have oS : f_Swell_lookNow_ok (nI w) h := by
    unfold f_Swell_lookNow_ok
    rw [S.1.2.2.1, S.1.2.2.2.2.1]
    exact l1
  unfold f_N_passNow_ok f_N_passNow f_N_passNow_k24_ok f_N_passNow_k24 f_N_passNow_k36_ok f_N_passNow_k36 f_N_passNow_k47
  rw [et, eS]
  obtain ⟨b1, b2, b3⟩ := bsp_N H hs hw
  rw [← eE] at b3
  generalize f_Harbour_beginSpell (nI w) sea h = h1 at b2 b3
  obtain ⟨X, U, nt, T⟩ := g
  obtain ⟨r1, r2, r3, r4, r5⟩ := id L
  dsimp only at r1 r2 r3 r4 r5
  have hw1 : wfR [21, 22, 66, 71] [(15, 9)] = true := by decide
  have t1 : zf h1 0 0 = nI w := (b2.fld 0 0 (by decide) (by decide)).trans et
  have v1 : vC 38 h1 = X := by rw [← r1]; exact vC_eq (fun i hi => b2.arr (38 + i) (by simp; omega) (by simp; omega))
  have J1 : J_th nr nt h1 := ⟨r5.1, (b2.fld 23 4 (by decide) (by decide)).trans r5.2.1, fun k hk => by
    rw [b2.arr 28 (by decide) (by decide), b2.arr 29 (by decide) (by decide), b2.arr 30 (by decide) (by decide), b2.arr 31 (by decide) (by decide)]
    exact r5.2.2 k hk⟩
  have k1 : zf h1 37 4 = nI nt := (b2.fld 37 4 (by decide) (by decide)).trans r3
  obtain ⟨p1, p2, p3, p4, p5, p6, p7, p8⟩ := pasJ_37 hw (I_rl_w hw1 b2 H) (I_rf_w b2 (by decide) R) J1 (by rw [v1]; exact G.1) hs hw (Nat.le_refl nt) k1
  have eE1 : (fun c nm => Ev nf h1 c (nI w) nm) = E := by rw [eE]; funext c nm; exact Ev_w hw1 b2 c (nI w) nm
  rw [thn_0] at p4 p5 p6 p7 p8
  have tI : ∀ Y : Nat → Nat → Int32, thI (tT h1) nt 0 Y = Y := fun Y => by unfold thI; simp only [fld]
  rw [eE1, b2.arr 112 (by decide) (by decide), b2.arr 113 (by decide) (by decide), tI, v1] at p5 p6 p8
  rw [eE1, b2.arr 112 (by decide) (by decide), b2.arr 113 (by decide) (by decide), b2.arr 114 (by decide) (by decide), tI, v1] at p7
  rw [t1]
  generalize f_Course_pass_37 (nI w) sea h1 = h2 at p2 p3 p4 p5 p6 p7 p8
  have t2 : zf h2 0 0 = nI w := (p2.fld 0 0 (by decide) (by decide)).trans t1
  have L2 : rlN nr (pS3 E (h.2.1 112) (h.2.1 113) sea (nI w) nr X, rcl E sea (nI w) U, nt, T) h2 := by
    refine ⟨p5, ?_, p4, ?_, r5.1, (p2.fld 23 4 (by decide) (by decide)).trans J1.2.1, fun k hk => ?_⟩
    · dsimp only
      rw [uN_eq (fun i hi => p2.arr (64 + i) (by simp; omega) (by simp; omega)), b3, r2]
    · dsimp only
      rw [tB_eq (fun i hi => p2.arr (27 + i) (by simp; omega) (by simp; omega)), tB_eq (fun i hi => b2.arr (27 + i) (by simp; omega) (by simp; omega)), r4]
    · rw [p2.arr 28 (by decide) (by decide), p2.arr 29 (by decide) (by decide), p2.arr 30 (by decide) (by decide), p2.arr 31 (by decide) (by decide)]
      exact J1.2.2 k hk
  obtain ⟨e1, e2, e3⟩ := ends_N hnr hw (spl_ok hnr hw G hz hs E).1 L2
  rw [t2]
  generalize f_Harbour_endSpell (nI w) h2 = h3 at e2 e3
  have t3 : zf h3 0 0 = nI w := (e2.fld 0 0 (by decide) (by decide)).trans t2
  have w4 : zWr [] [(0, 0)] h3 (zp h3 0 0 (zf h3 0 0 + 1)) := zWr_p (by decide) (zWr.refl _ _)
  refine ⟨⟨oS, b1, p1, e1⟩, ?_, ?_, rlN_w w4 (by decide) e3, ?_, ?_, ?_⟩
  · rw [t3, nI_succ]; exact zm_in _ _ _ _
  · exact (w4.fld 37 3 (by decide) (by decide)).trans ((e2.fld 37 3 (by decide) (by decide)).trans p3)
  · rw [w4.arr 47 (by decide) (by decide), e2.arr 47 (by decide) (by decide), p6, b2.arr 47 (by decide) (by decide)]
  · rw [w4.arr 48 (by decide) (by decide), e2.arr 48 (by decide) (by decide), p7, b2.arr 48 (by decide) (by decide)]
  · intro j
    rw [w4.arr 49 (by decide) (by decide), e2.arr 49 (by decide) (by decide), p8, b2.arr 49 (by decide) (by decide)]
theorem ft_all {f : Nat → Int32} {a : Int32} {n : Nat} (hm : ∀ j k, j ≤ k → k < n → f j ≤ f k) (h : ∀ k, k < n → f k ≤ a) : ft f a n = n := by
  have := ft_le f a n
  by_cases c : ft f a n < n
  · have := (ft_iff hm c).mp (h _ c)
    omega
  · omega
theorem l113_M {h : zm_H} {w : Nat} (hw : w < 480) (et : zf h 92 23 = nI w) : f_M_spell_l113_ok zF (0, h) ∧ ∃ h', f_M_spell_l113 zF (0, h) = (1, nI 10, h') ∧ zWr [133] [] h h' ∧ ∀ j, h'.2.1 133 j = if 10 * w ≤ j ∧ j < 10 * w + 10 then h.2.1 151 (j - 10 * w) else h.2.1 133 j := by
  obtain ⟨F, eF, -⟩ := zF_ex
  rw [← eF]
  have key := zlp_k eF (b := fun s => f_M_spell_l113_b s.1 s.2) (o := fun s => f_M_spell_l113_b_ok s.1 s.2) 10 (by omega) 0
    (fun k x => zWr [133] [] h x ∧ ∀ j, x.2.1 133 j = if 10 * w ≤ j ∧ j < 10 * w + k then h.2.1 151 (j - 10 * w) else h.2.1 133 j) h ⟨zWr.refl _ _, fun j => by rw [if_neg (by omega)]⟩
    (by
      rintro k x hk ⟨p1, p2⟩
      rw [Nat.zero_add]
      have f23 : zf x 92 23 = nI w := (p1.fld 92 23 (by decide) (by decide)).trans et
      have x1 : 10 * nI w + nI k = nI (10 * w + k) := x10
      have z151 : zr x 151 (nI k) = h.2.1 151 k := by rw [zr_n x 151 (by omega), zf, p1.arr 151 (by decide) (by decide)]
      dsimp only
      unfold f_M_spell_l113_b f_M_spell_l113_b_ok
      rw [if_neg (g10 hk), f23, x1, z151, zs_n _ 133 _ (by omega), ← nI_succ]
      refine ⟨⟨fun z => absurd z (g10 hk), fun _ => ⟨vp_in_nI hk (by omega), vp_in_nI (by omega) (by omega)⟩⟩, _, rfl, zWr_si (by decide) p1, fun j => ?_⟩
      rw [za_si, if_pos rfl]
      unfold upd
      by_cases c : j = 10 * w + k
      · rw [if_pos c, if_pos (by omega), c, Nat.add_sub_cancel_left]
      · rw [if_neg c, p2]
        by_cases d : 10 * w ≤ j ∧ j < 10 * w + k
        · rw [if_pos d, if_pos (by omega)]
        · rw [if_neg d, if_neg (by omega)])
    (by
      rintro x ⟨p1, p2⟩
      rw [Nat.zero_add]
      dsimp only
      unfold f_M_spell_l113_b f_M_spell_l113_b_ok
      rw [if_pos (by decide)]
      exact ⟨⟨fun _ => trivial, fun z => absurd (by decide : (10 : Int32) ≤ nI 10) z⟩, rfl⟩)
  rw [Nat.zero_add] at key
  exact key
theorem rlM_w {W : List Nat} {F : List (Nat × Nat)} {h h' : zm_H} (w : zWr W F h h') {g : GS} (h1 : (W.all (fun i => decide (i < 92) || (decide (92 < i) && decide (i < 118)) || (decide (130 < i) && decide (i < 137)) || decide (145 < i)) && F.all (fun p => (decide (p.1 < 118) || decide (145 < p.1)) && p != (92, 41))) = true) (R : rlM g h) : rlM g h' ∧ vM 1 h' = vM 1 h := by
  rw [Bool.and_eq_true, List.all_eq_true, List.all_eq_true] at h1
  obtain ⟨hW, hF⟩ := h1
  have nw : ∀ i, (118 ≤ i ∧ i ≤ 130) ∨ (137 ≤ i ∧ i ≤ 145) → i ∉ W := fun i hi z => by have := hW i z; simp at this; omega
  have ar : ∀ i, (118 ≤ i ∧ i ≤ 130) ∨ (137 ≤ i ∧ i ≤ 145) → h'.2.1 i = h.2.1 i := fun i hi => w.arr i (nw i hi) (fun p hp e => by have := hF p hp; simp at this; omega)
  have vv : ∀ L, vM L h' = vM L h := fun L => vM_eq (fun i hi => ar i (by simp at hi; omega)) (w.2 127 (nw 127 (by omega))).2.1
  obtain ⟨r1, r2, r3, r4, r5, r6⟩ := R
  refine ⟨⟨by rw [vv]; exact r1, by rw [uM_eq (fun i hi => ar i (by simp at hi; omega))]; exact r2, mB_eq (fun i hi => ar i (by simp at hi; omega)) r3, ?_, ?_, ?_⟩, vv 1⟩
  · rw [← r4]
    exact w.fld 92 41 (fun z => by have := hW _ z; simp at this) (fun z => by have := hF _ z; simp at this)
  · rw [ar 118 (by omega), ar 120 (by omega), ar 122 (by omega)]; exact r5
  · intro k hk
    rw [ar 119 (by omega), ar 121 (by omega)]
    exact r6 k hk
