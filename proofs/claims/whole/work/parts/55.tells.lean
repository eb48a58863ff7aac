/-! ===== work of the class, tells of the model ===== -/
def nmOK (f : Nat → Int32) : Prop := ∀ j, j < 9 → -1000000 ≤ (f j).toInt ∧ (f j).toInt ≤ 1000000
/-- a CLAUSE of a SHEET in both sides' cells -/
def I_cl (h : zm_H) (s c : Nat) : Prop := ¬ h.2.1 101 (4 * s + c) = -1 → ∃ b e, e ≤ 400 ∧ h.2.1 101 (4 * s + c) = nI b ∧ h.2.1 102 (4 * s + c) = nI e ∧ h.2.1 18 (4 * s + c) = nI e ∧ WT (fun k => h.2.1 99 (400 * s + k)) (fun k => h.2.1 100 (400 * s + k)) b e (decide (c ≠ 3)) ∧ ∃ r L, h.2.2.2 16 s = some r ∧ 165 ≤ r ∧ h.1[r]? = some (.inl (0, L)) ∧ e ≤ L ∧ L ≤ 400 ∧ ∀ k, b ≤ k → k < e → h.2.1 r k = enC (h.2.1 99 (400 * s + k)) (h.2.1 100 (400 * s + k))
def I_rl (ns nf : Nat) (h : zm_H) : Prop := I_fc ns nf h ∧ ∀ s c, s < ns → c < 4 → I_cl h s c
/-- what a CLAUSE of a SHEET comes to -/
def evC (h : zm_H) (s c : Nat) (nm : Nat → Int32) : Int32 := evv (fun k => h.2.1 99 (400 * s + k)) (fun k => h.2.1 100 (400 * s + k)) nm (h.2.1 101 (4 * s + c)).toNatClampNeg (h.2.1 102 (4 * s + c)).toNatClampNeg
theorem zlp_h {F : Nat} (hF : F = zF) {b : Int32 × zm_H → Nat × Int32 × zm_H} {o : Int32 × zm_H → Prop} (N : Nat) (hN : N < 99999) (i0 : Nat) (P : Nat → zm_H → Prop) (h0 : zm_H) (p0 : P 0 h0)
    (hs : ∀ k h, k < N → P k h → o (nI (i0 + k), h) ∧ ∃ h', b (nI (i0 + k), h) = (0, nI (i0 + k + 1), h') ∧ P (k + 1) h')
    (he : ∀ h, P N h → o (nI (i0 + N), h) ∧ b (nI (i0 + N), h) = (1, nI (i0 + N), h)) : zwo b o F (nI i0, h0) ∧ P N (zwh b F (nI i0, h0)).2.2 := by
  have key := zlpF hF (b := b) (o := o) N hN (fun k s => s.1 = nI (i0 + k) ∧ P k s.2) (fun r => P N r.2.2) (nI i0, h0) ⟨rfl, p0⟩
    (by
      rintro k ⟨v, h⟩ hk ⟨h1, h2⟩
      dsimp only at h1 h2
      subst h1
      obtain ⟨q1, h', q2, q3⟩ := hs k h hk h2
      refine ⟨q1, Or.inl ?_⟩
      rw [q2]
      exact ⟨rfl, by rw [show i0 + (k + 1) = i0 + k + 1 by omega], q3⟩)
    (by
      rintro ⟨v, h⟩ ⟨h1, h2⟩
      dsimp only at h1 h2
      subst h1
      obtain ⟨q1, q2⟩ := he h h2
      refine ⟨q1, ?_⟩
      rw [q2]
      exact ⟨by simp, h2⟩)
  exact key
theorem wk_N {ns nf : Nat} {h : zm_H} (H : I_rl ns nf h) (hnm : nmOK (h.2.1 21)) {s c : Nat} (hs : s < ns) (hc : c < 4) (hn : ¬ h.2.1 101 (4 * s + c) = -1) : f_Rules_work_ok (nI s) (nI c) h ∧ (f_Rules_work (nI s) (nI c) h).1 = evC h s c (h.2.1 21) ∧ zWr [22] [(15, 9)] h (f_Rules_work (nI s) (nI c) h).2 := by
  obtain ⟨⟨⟨hns, ens, -⟩, -, ⟨-, -, a17⟩, -⟩, hcl⟩ := H
  obtain ⟨b, e, he, eb, ee, ee', hW, r, L, e16, hr, hkr, heL, hL, hcode⟩ := hcl s c hs hc hn
  have hbe := hW.1
  obtain ⟨W, eW⟩ : ∃ W, W = fun k => h.2.1 99 (400 * s + k) := ⟨_, rfl⟩
  obtain ⟨V, eV⟩ : ∃ V, V = fun k => h.2.1 100 (400 * s + k) := ⟨_, rfl⟩
  rw [← eW, ← eV] at hW
  have eC : evC h s c (h.2.1 21) = evv W V (h.2.1 21) b e := by unfold evC; rw [eb, ee, nI_c (by omega), nI_c (by omega), eW, eV]
  have ln : zln h r = L := by unfold zln; rw [hkr]
  have ia : zia h r := by unfold zia; rw [ln]; exact hkr
  have g1 : ¬ (nI s < 0) := by rw [i_lt, i_nI (by omega), i_0]; omega
  have g2 : ¬ (zf h 15 0 ≤ nI s) := by rw [ens, nx_le (by omega) (by omega)]; omega
  have rf : zrf h 16 (nI s) = some r := by
    show h.2.2.2 16 (nI s).toNatClampNeg = some r
    rw [nI_c (by omega)]; exact e16
  have g3 : ¬ (zrf h 16 (nI s) = none) := by rw [rf]; exact fun z => by cases z
  have e18 : zr h 18 (nI s * 4 + nI c) = nI e := by rw [x4.1, zr_n h 18 (by omega)]; exact ee'
  have e17 : zr h 17 (nI s * 4 + nI c) = nI b := by rw [x4.1, zr_n h 17 (by omega), zf, a17]; exact eb
  have i40 : vp_in (nI s * 4 + nI c) 40 := by rw [x4.1]; exact vp_in_nI (by omega) (by omega)
  have em : (if (Int32.ofNat L) < nI e then (Int32.ofNat L) else nI e) = nI e := by
    have : ¬ (nI L < nI e) := by rw [i_lt, i_nI (by omega), i_nI (by omega)]; omega
    exact if_neg this
  have mb : (if nI b < 0 then 0 else nI b) = nI b := if_neg (by rw [i_lt, i_nI (by omega), i_0]; omega)
  unfold f_Rules_work_ok f_Rules_work
  rw [if_neg g1, if_neg g2, if_neg g3, rf, e18]
  simp only [Option.getD_some]
  rw [ln, em, eC]
  unfold f_Rules_work_k47_ok f_Rules_work_k47 f_Rules_work_a68 f_Rules_work_a68_ok
  rw [e17, mb]
  obtain ⟨F, eF, -⟩ := zF_ex
  rw [← eF]
  obtain ⟨h0, eh0⟩ : ∃ h0, h0 = zp h 15 9 0 := ⟨_, rfl⟩
  rw [← eh0]
  have key := zlp_h eF (b := fun t => f_Rules_work_l68_b r (nI e) t.1 t.2) (o := fun t => f_Rules_work_l68_b_ok r (nI e) t.1 t.2) (e - b) (by omega) b
    (fun j h1 => zWr [22] [(15, 9)] h h1 ∧ zf h1 15 9 = nI (stk W V (h.2.1 21) b j).length ∧ sAt (h1.2.1 22) (stk W V (h.2.1 21) b j)) h0
    ⟨by rw [eh0]; exact zWr_p (by decide) (zWr.refl _ _), by rw [eh0]; exact zm_in _ _ _ _, trivial⟩
    (by
      rintro j h1 hj ⟨p1, p2, p3⟩
      obtain ⟨ts, us, t1, t2, t3, t4⟩ := hW.at hj
      have vt := stk_vty hW hnm j (by omega) ts t1
      have e21 : h1.2.1 21 = h.2.1 21 := p1.arr 21 (by decide) (by decide)
      have er : h1.2.1 r (b + j) = enC (W (b + j)) (V (b + j)) := by
        rw [p1.arr r (by simp; omega) (by simp; omega), hcode (b + j) (by omega) (by omega), eW, eV]
      have k1 : h1.1 = h.1 := p1.1
      have ln1 : zln h1 r = L := by unfold zln; rw [k1, hkr]
      have ia1 : zia h1 r := by unfold zia; rw [ln1, k1]; exact hkr
      obtain ⟨q1, h2, q2, q3, q4, q5⟩ := wk_step (h := h1) (r := r) (v4 := nI e) (k := b + j) (by omega) (by rw [nx_le (by omega) (by omega)]; omega) ⟨ia1, by rw [ln1]; exact vp_in_nI (by omega) (by omega)⟩ er t3 vt rfl t4 (by rw [p2, vty_len vt]) p3
      rw [e21] at q4 q5
      exact ⟨q1, h2, q2, zWr_tr q3 (fun _ z => z) (fun _ z => z) p1, q4, q5⟩)
    (by
      rintro h1 ⟨p1, p2, p3⟩
      have g : nI e ≤ nI (b + (e - b)) := by rw [show b + (e - b) = e by omega]; exact i_le_r _
      refine ⟨⟨fun _ => trivial, fun z => absurd g z⟩, ?_⟩
      dsimp only
      unfold f_Rules_work_l68_b
      rw [if_pos g])
  obtain ⟨k1, k2, k3, k4⟩ := key
  have hlen : (stk W V (h.2.1 21) b (e - b)).length = 1 := by
    have := vty_len (stk_vty hW hnm (e - b) (by omega) _ hW.2.1)
    rw [← this]; rfl
  obtain ⟨x, ex⟩ : ∃ x, stk W V (h.2.1 21) b (e - b) = [x] := List.length_eq_one_iff.mp hlen
  have k2 : zWr [22] [(15, 9)] h (f_Rules_work_l68 r (nI e) F (nI b, h0)).2.2 := k2
  have k3 : zf (f_Rules_work_l68 r (nI e) F (nI b, h0)).2.2 15 9 = nI 1 := by rw [ex] at k3; exact k3
  have k4 : (f_Rules_work_l68 r (nI e) F (nI b, h0)).2.2.2.1 22 0 = x := by rw [ex] at k4; exact k4.1
  have k1 : f_Rules_work_l68_ok r (nI e) F (nI b, h0) := k1
  generalize f_Rules_work_l68 r (nI e) F (nI b, h0) = R at k2 k3 k4
  have g0 : ¬ (zf R.2.2 15 9 ≤ 0) := by rw [k3]; decide
  have e0 : zf R.2.2 15 9 - 1 = nI 0 := by rw [k3]; rfl
  unfold f_Rules_work_k237 f_Rules_work_k237_ok
  rw [if_neg g0, e0, zr_n _ 22 (by omega)]
  refine ⟨⟨fun z => absurd z g1, fun _ => ⟨fun z => absurd z g2, fun _ => ⟨vp_in_nI (by omega) (by omega), fun z => absurd z (fun y => by cases y), fun _ => ⟨⟨vp_in_nI (by omega) (by omega), rfl⟩, i40, ia, i40, k1, fun z => absurd z g0, fun _ => vp_in_nI (by omega) (by omega)⟩⟩⟩⟩, ?_, k2⟩
  show zf R.2.2 22 0 = _
  unfold evv
  rw [ex]
  exact k4
