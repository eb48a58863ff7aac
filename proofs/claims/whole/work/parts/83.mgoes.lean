/-! ===== a SPELL, the model ===== -/
theorem zr_zs (h : zm_H) (i : Nat) (k v : Int32) : zr (zs h i k v) i k = v := zm_in _ _ _ _
theorem vM_l {L : Nat} {h : zm_H} {k : Nat} (hk : k < 10) {v : Int64} : vM L (zm_sl h 127 (10 * L + k) v) = zm_u (vM L h) 4 k v.toInt32 := by
  funext a c
  rw [zu_at]
  unfold vM
  rw [zf_sl]
  simp only [zl_sl]
  by_cases h1 : a < 8 ∧ c < zsz a
  · rw [if_pos h1, if_pos h1]
    by_cases ea : a = 4
    · subst ea
      simp
      by_cases ec : c = k
      · subst ec; simp
      · rw [if_neg (by omega), if_neg ec]
    · rw [if_neg ea]
      simp [ea]
  · rw [if_neg h1]
    by_cases ea : a = 4
    · subst ea
      rw [if_pos rfl]
      by_cases ec : c = k
      · subst ec; exact absurd ⟨by omega, hk⟩ h1
      · rw [if_neg ec, if_neg h1]
    · rw [if_neg ea, if_neg h1]
theorem vM_lx {L L' : Nat} (hL : ¬ L = L') {h : zm_H} {k : Nat} (hk : k < 10) {v : Int64} : vM L' (zm_sl h 127 (10 * L + k) v) = vM L' h := by
  funext a c
  unfold vM
  rw [zf_sl]
  simp only [zl_sl]
  by_cases h1 : a < 8 ∧ c < zsz a
  · rw [if_pos h1, if_pos h1]
    by_cases ea : a = 4
    · subst ea
      have hc : c < 10 := h1.2
      simp
      rw [if_neg (by omega)]
    · simp [ea]
  · rw [if_neg h1, if_neg h1]
theorem l_add (a : Int64) (b : Int32) : (a + b.toInt64).toInt32 = a.toInt32 + b := by
  rw [Int64.toInt32_add, Int32.toInt32_toInt64]
theorem lek_M {h : zm_H} {L r : Nat} (hL : L < 2) (hr : r < 10) : f_M_leak_ok (nI (10 * L + r)) h ∧ f_M_leak (nI (10 * L + r)) h = lek (vM L h 2 r) := by
  have i20 : vp_in (nI (10 * L + r)) 20 := vp_in_nI (by omega) (by omega)
  unfold f_M_leak_ok f_M_leak lek
  rw [zr_n h 125 (by omega), vM_at2 hr]
  refine ⟨⟨i20, fun _ => i20, fun _ => trivial⟩, ?_⟩
  show (if h.2.1 125 (10 * L + r) / 16 ≤ 100 then h.2.1 125 (10 * L + r) / 16 else 100) = _
  by_cases c : h.2.1 125 (10 * L + r) / 16 < 100
  · rw [if_pos c, if_pos (by rw [i_lt] at c; rw [i_le]; omega)]
  · rw [if_neg c]
    by_cases c2 : h.2.1 125 (10 * L + r) / 16 ≤ 100
    · rw [if_pos c2, i_eq]; rw [i_lt] at c; rw [i_le] at c2; omega
    · rw [if_neg c2]
/-- POWER of one raft in the model's cells -/
theorem pw_M {h D : zm_H} {L r : Nat} (hL : L < 2) (hr : r < 10) (eD : D = (if zr h 153 (nI r) ≤ 0 then (zp (zsl (zs h 126 (nI (10 * L + r)) (pwv (vM L h) (h.2.1 153) r)) 127 (nI (10 * L + r)) (zrl h 127 (nI (10 * L + r)) + (pwv (vM L h) (h.2.1 153) r).toInt64)) 92 88 (zf h 92 88 + pwv (vM L h) (h.2.1 153) r)) else (zs (zp (zsl (zs h 126 (nI (10 * L + r)) (pwv (vM L h) (h.2.1 153) r)) 127 (nI (10 * L + r)) (zrl h 127 (nI (10 * L + r)) + (pwv (vM L h) (h.2.1 153) r).toInt64)) 92 88 (zf h 92 88 + pwv (vM L h) (h.2.1 153) r)) 125 (nI (10 * L + r)) (zr h 125 (nI (10 * L + r)) + 1)))) : zWr [125, 126, 127] [(92, 88)] h D ∧ vM L D = pwr (h.2.1 153) r (vM L h) ∧ (∀ L', L' < 2 → ¬ L = L' → vM L' D = vM L' h) ∧ zf D 92 88 = zf h 92 88 + pwv (vM L h) (h.2.1 153) r := by
  have e153 : zr h 153 (nI r) = h.2.1 153 r := zr_n h 153 (by omega)
  have e125 : zr h 125 (nI (10 * L + r)) = vM L h 2 r := by rw [zr_n h 125 (by omega), vM_at2 hr]
  have e127 : (zrl h 127 (nI (10 * L + r))).toInt32 = vM L h 4 r := by
    show (h.2.2.1 127 (nI (10 * L + r)).toNatClampNeg).toInt32 = _
    rw [nI_c (by omega)]
    unfold vM
    rw [if_pos ⟨by omega, hr⟩]
    rfl
  obtain ⟨P, eP⟩ : ∃ P, P = pwv (vM L h) (h.2.1 153) r := ⟨_, rfl⟩
  rw [← eP] at eD ⊢
  have z127 : ∀ (q : zm_H) (v : Int64), zsl q 127 (nI (10 * L + r)) v = zm_sl q 127 (10 * L + r) v := fun q v => by
    show zm_sl q 127 (nI (10 * L + r)).toNatClampNeg v = _
    rw [nI_c (by omega)]
  rw [z127, zs_n _ 126 _ (by omega), zs_n _ 125 _ (by omega), e153, e125] at eD
  obtain ⟨C, eC⟩ : ∃ C, C = zp (zm_sl (zm_si h 126 (10 * L + r) P) 127 (10 * L + r) (zrl h 127 (nI (10 * L + r)) + P.toInt64)) 92 88 (zf h 92 88 + P) := ⟨_, rfl⟩
  rw [← eC] at eD
  have wC : zWr [125, 126, 127] [(92, 88)] h C := by rw [eC]; exact zWr_p (by decide) (zWr_sl (by decide) (zWr_si (by decide) (zWr.refl _ _)))
  have vCm : vM L C = zm_u (zm_u (vM L h) 3 r P) 4 r (vM L h 4 r + P) := by
    rw [eC, vM_o (by omega), vM_l hr, vM_u10 (i := 3) (j := 126) rfl (by omega) hr, l_add, e127]
  have vCx : ∀ L', L' < 2 → ¬ L = L' → vM L' C = vM L' h := fun L' _ hne => by
    rw [eC, vM_o (by omega), vM_lx hne hr, vM_x10 hne (i := 3) (j := 126) rfl (by omega) hr]
  have fC : zf C 92 88 = zf h 92 88 + P := by rw [eC]; exact zm_in _ _ _ _
  unfold pwr
  rw [← eP]
  by_cases c : h.2.1 153 r ≤ 0
  · rw [if_pos c] at eD
    subst eD
    refine ⟨wC, ?_, vCx, fC⟩
    rw [vCm, if_neg (fun z => z c), Int32.add_zero]
    have : zm_u (zm_u (vM L h) 3 r P) 2 r (vM L h 2 r) = zm_u (vM L h) 3 r P := zu_self (by rw [zu_n (by decide)])
    rw [this]
  · rw [if_neg c] at eD
    subst eD
    refine ⟨zWr_si (by decide) wC, ?_, ?_, ?_⟩
    · rw [vM_u10 (i := 2) (j := 125) rfl (by omega) hr, vCm, if_pos c, zu_c (by decide)]
    · intro L' hL' hne
      rw [vM_x10 hne (i := 2) (j := 125) rfl (by omega) hr]; exact vCx L' hL' hne
    · rw [zf, zf_si, if_neg (by decide)]; exact fC
theorem fpc_2 (tk : Nat → Int32) (sz : Nat → Int32) (sea t : Int32) : ∀ n S r, n ≤ r → fld (fun r X => chn sz sea t r (pwr tk r X)) n S 2 r = S 2 r := by
  intro n
  induction n with
  | zero => intro S r _; simp only [fld]
  | succ n ih =>
    intro S r hr
    have e1 : fld (fun r X => chn sz sea t r (pwr tk r X)) (n + 1) S = chn sz sea t n (pwr tk n (fld (fun r X => chn sz sea t r (pwr tk r X)) n S)) := by rw [fld]
    rw [e1, (chn_c (fun i _ => rfl) sz sea t n).2 2 (by decide)]
    unfold pwr
    rw [zu_n (by decide), zu_h, if_neg (by omega), zu_n (by decide)]
    exact ih S r (by omega)
theorem vOK_pc {nr g : Nat} (hnr : nr ≤ 10) (hg : g < 480) {S : Nat → Nat → Int32} (V : vOK nr g S) {tk : Nat → Int32} (htk : flOK tk) {sz su : Nat → Int32} (hz : szOK nr sz su) {sea : Int32} (hs : rdOK sea) {t : Nat} (ht : t < 480) {n : Nat} (hn : n ≤ nr) : vOK nr (g + 1) (fld (fun r X => chn sz sea (nI t) r (pwr tk r X)) n S) ∧ ∀ r, n ≤ r → r < 10 → (fld (fun r X => chn sz sea (nI t) r (pwr tk r X)) n S 2 r).toInt ≤ g := by
  constructor
  · rw [fld_pc]
    exact vOK_chns hnr (vOK_pwrs hg V htk n (by omega)).1 hz hs ht n hn
  · intro r h1 h2
    rw [fpc_2 _ _ _ _ n S r h1]
    exact (V.2.2.2.2.2.1 r h2).2.1
theorem l102_M {nr g L w : Nat} (hL : L < 2) (hg : g < 480) {h : zm_H} (R : I_rf w nr h) (V : vOK nr g (vM L h)) (htk : flOK (h.2.1 153)) {sea : Int32} (hs : rdOK sea) (hS : isSea h sea) {t : Nat} (ht : t < 480) : f_M_goes_l102_ok (nI L) (nI t) zF (0, zp h 92 88 0) ∧ ∃ h', f_M_goes_l102 (nI L) (nI t) zF (0, zp h 92 88 0) = (1, nI nr, h') ∧ zWr [123, 124, 125, 126, 127, 129, 130] [(92, 88)] h h' ∧ vM L h' = fld (chn (h.2.1 112) sea (nI t)) nr (fld (pwr (h.2.1 153)) nr (vM L h)) ∧ zf h' 92 88 = tot (vM L h) (h.2.1 153) nr ∧ ∀ L', L' < 2 → ¬ L = L' → vM L' h' = vM L' h := by
  obtain ⟨⟨hnr, -, e33⟩, -, hR⟩ := R
  have hz : szOK nr (h.2.1 112) (h.2.1 113) := fun r hr => ⟨(hR r hr).1, (hR r hr).2.1⟩
  obtain ⟨F, eF, -⟩ := zF_ex
  rw [← eF, ← fld_pc]
  obtain ⟨tk, etk⟩ : ∃ tk, tk = h.2.1 153 := ⟨_, rfl⟩
  rw [← etk] at htk ⊢
  have key := zlp_k eF (b := fun s => f_M_goes_l102_b (nI L) (nI t) s.1 s.2) (o := fun s => f_M_goes_l102_b_ok (nI L) (nI t) s.1 s.2) nr (by omega) 0
    (fun j q => zWr [123, 124, 125, 126, 127, 129, 130] [(92, 88)] h q ∧ vM L q = fld (fun r X => chn (h.2.1 112) sea (nI t) r (pwr tk r X)) j (vM L h) ∧ zf q 92 88 = tot (vM L h) tk j ∧ ∀ L', L' < 2 → ¬ L = L' → vM L' q = vM L' h) (zp h 92 88 0)
    ⟨zWr_p (by decide) (zWr.refl _ _), vM_o (by omega), zm_in _ _ _ _, fun L' _ _ => vM_o (by omega)⟩
    (by
      rintro j q hj ⟨p1, p2, p3, p4⟩
      rw [Nat.zero_add]
      have hj10 : j < 10 := by omega
      have f33 : zf q 92 33 = nI nr := (p1.fld 92 33 (by decide) (by decide)).trans e33
      have g0 : ¬ (zf q 92 33 ≤ nI j) := by rw [f33, nx_le (by omega) (by omega)]; omega
      have e153 : q.2.1 153 = tk := by rw [etk]; exact p1.arr 153 (by decide) (by decide)
      have e112 : q.2.1 112 = h.2.1 112 := p1.arr 112 (by decide) (by decide)
      obtain ⟨Vj, Vg⟩ := vOK_pc hnr hg V htk hz hs ht (n := j) (by omega)
      rw [← p2] at Vj Vg
      have i20 : vp_in (nI (10 * L + j)) 20 := vp_in_nI (by omega) (by omega)
      have i10 : vp_in (nI j) 10 := vp_in_nI hj10 (by omega)
      obtain ⟨k1, k2⟩ := lek_M (h := q) hL hj10
      have eP : zr q 153 (nI j) * (100 - f_M_leak (nI (10 * L + j)) q) / 100 = pwv (vM L q) (q.2.1 153) j := by
        unfold pwv
        rw [k2, zr_n q 153 (by omega)]
      have ePt : pwv (vM L q) tk j = pwv (vM L h) tk j := by
        unfold pwv
        rw [p2, fpc_2 _ _ _ _ j _ j (Nat.le_refl _)]
      obtain ⟨D, eD⟩ : ∃ D, D = (if zr q 153 (nI j) ≤ 0 then (zp (zsl (zs q 126 (nI (10 * L + j)) (pwv (vM L q) (q.2.1 153) j)) 127 (nI (10 * L + j)) (zrl q 127 (nI (10 * L + j)) + (pwv (vM L q) (q.2.1 153) j).toInt64)) 92 88 (zf q 92 88 + pwv (vM L q) (q.2.1 153) j)) else (zs (zp (zsl (zs q 126 (nI (10 * L + j)) (pwv (vM L q) (q.2.1 153) j)) 127 (nI (10 * L + j)) (zrl q 127 (nI (10 * L + j)) + (pwv (vM L q) (q.2.1 153) j).toInt64)) 92 88 (zf q 92 88 + pwv (vM L q) (q.2.1 153) j)) 125 (nI (10 * L + j)) (zr q 125 (nI (10 * L + j)) + 1))) := ⟨_, rfl⟩
      obtain ⟨d1, d2, d3, d4⟩ := pw_M hL hj10 eD
      rw [e153] at d2 d4
      have SD : isSea D sea := by
        have pd : zWr [123, 124, 125, 126, 127, 129, 130] [(92, 88)] h D := zWr_tr d1 (by decide) (by decide) p1
        exact ⟨(pd.fld 92 79 (by decide) (by decide)).trans hS.1, (pd.fld 92 80 (by decide) (by decide)).trans hS.2.1, (pd.fld 92 81 (by decide) (by decide)).trans hS.2.2⟩
      have D112 : D.2.1 112 = h.2.1 112 := (d1.arr 112 (by decide) (by decide)).trans e112
      have a0 : zr D 123 (nI (10 * L + j)) = vM L D 0 j := by rw [zr_n D 123 (by omega), vM_at0 hj10]
      obtain ⟨t1, t2⟩ := htk j hj10
      have VD : vOK nr (g + 1) (vM L D) := by rw [d2]; exact (vOK_pwr hg Vj Vg hj10 t1 t2).1
      have eS : fld (fun r X => chn (h.2.1 112) sea (nI t) r (pwr tk r X)) (j + 1) (vM L h) = chn (h.2.1 112) sea (nI t) j (vM L D) := by
        rw [d2, p2, fld]
      have eT : tot (vM L h) tk (j + 1) = zf D 92 88 := by rw [d4, p3, ePt, tot]
      have wD : zWr [123, 124, 125, 126, 127, 129, 130] [(92, 88)] h D := zWr_tr d1 (by decide) (by decide) p1
      have chr : vM L D 0 j = 1 → f_M_chains_ok (nI L) (nI j) (nI t) D ∧ vM L (f_M_chains (nI L) (nI j) (nI t) D) = chn (h.2.1 112) sea (nI t) j (vM L D) ∧ ∀ L', L' < 2 → ¬ L = L' → vM L' (f_M_chains (nI L) (nI j) (nI t) D) = vM L' D := by
        intro c
        have := chs_M hL VD hs SD ht hj10 (by rw [D112]; exact (hR j hj).1.1) (by rw [D112]; exact (hR j hj).1.2) c
        rw [D112] at this
        exact this
      dsimp only
      unfold f_M_goes_l102_b f_M_goes_l102_b_ok f_M_goes_l102_k216
      simp only [x10, eP, zr_zs]
      rw [← eD, a0, if_neg g0, eS, eT, ← nI_succ]
      by_cases c : vM L D 0 j = 1
      · obtain ⟨c1, c2, c3⟩ := chr c
        rw [if_pos c]
        have wch := f_M_chains_w (nI L) (nI j) (nI t) D
        refine ⟨⟨fun z => absurd z g0, fun _ => ⟨i10, k1, i20, i20, i20, i20, i20, i10, ⟨fun _ => trivial, fun _ => ⟨i20, i20⟩⟩, i20, fun _ => c1, fun z => absurd c z⟩⟩, _, rfl, zWr_tr wch (by decide) (by decide) wD, c2, wch.fld 92 88 (by decide) (by decide), fun L' hL' hne => ?_⟩
        rw [c3 L' hL' hne, d3 L' hL' hne]; exact p4 L' hL' hne
      · rw [if_neg c]
        refine ⟨⟨fun z => absurd z g0, fun _ => ⟨i10, k1, i20, i20, i20, i20, i20, i10, ⟨fun _ => trivial, fun _ => ⟨i20, i20⟩⟩, i20, fun z => absurd z c, fun _ => trivial⟩⟩, _, rfl, wD, ?_, rfl, fun L' hL' hne => ?_⟩
        · unfold chn; rw [if_neg c]
        · rw [d3 L' hL' hne]; exact p4 L' hL' hne)
    (by
      rintro q ⟨p1, p2, p3, p4⟩
      rw [Nat.zero_add]
      have f33 : zf q 92 33 = nI nr := (p1.fld 92 33 (by decide) (by decide)).trans e33
      have g0 : zf q 92 33 ≤ nI nr := by rw [f33]; exact i_le_r _
      dsimp only
      unfold f_M_goes_l102_b f_M_goes_l102_b_ok
      rw [if_pos g0]
      exact ⟨⟨fun _ => trivial, fun z => absurd g0 z⟩, rfl⟩)
  rw [Nat.zero_add] at key
  exact key
