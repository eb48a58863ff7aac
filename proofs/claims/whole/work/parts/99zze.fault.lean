/-! ===== the model reads a TEXT; fault ===== -/
theorem itr_t {B : Nat → Int32} {n : Nat} {a b c : PCf} (r : rch B n a b) (h : stp B n b = some c) : rch B n a c := rch_t r (rch_s h (rch_r _ _ _))
theorem re_M {n : Nat} {h : zm_H} (hn : n ≤ 400) (e1 : zf h 92 1 = nI n) {s : PSt} (es : s = (0, 0, 0, h.2.1 95, h.2.1 96, (fun k => if k < 4 then -1 else h.2.1 97 k), h.2.1 98, (zf h 92 9).toNatClampNeg)) : f_M_reads_ok h ∧ ∃ b, hlt (h.2.1 93) n ([0], s) b ∧ pIv n b ∧ ((b.1 = [] ∧ (f_M_reads h).1 = -1 ∧ rq (h.2.1 93) n (f_M_reads h).2 [] b.2) ∨ (¬ b.1 = [] ∧ (f_M_reads h).1 = nI (lxS (h.2.1 93) n b.2.1))) := by
  obtain ⟨B, eB⟩ : ∃ B, B = h.2.1 93 := ⟨_, rfl⟩
  rw [← eB]
  unfold f_M_reads_ok f_M_reads
  obtain ⟨h0, eh0⟩ : ∃ h0, h0 = zp (zp (zp (zp h 92 2 0) 92 7 0) 92 8 0) 92 12 0 := ⟨_, rfl⟩
  have w0 : zWr [] [(92, 2), (92, 7), (92, 8), (92, 12)] h h0 := by rw [eh0]; exact zWr_p (by decide) (zWr_p (by decide) (zWr_p (by decide) (zWr_p (by decide) (zWr.refl _ _))))
  have z12 : zf h0 92 12 = 0 := by rw [eh0]; exact zm_in _ _ _ _
  have z8 : zf h0 92 8 = 0 := by
    rw [eh0]; show (zm_si (zm_si (zm_si (zm_si h 92 2 0) 92 7 0) 92 8 0) 92 12 0).2.1 92 8 = _
    rw [zf_si, if_pos rfl, if_neg (by decide)]; exact zm_in _ _ _ _
  have z7 : zf h0 92 7 = 0 := by
    rw [eh0]; show (zm_si (zm_si (zm_si (zm_si h 92 2 0) 92 7 0) 92 8 0) 92 12 0).2.1 92 7 = _
    rw [zf_si, if_pos rfl, if_neg (by decide), zf_si, if_pos rfl, if_neg (by decide)]; exact zm_in _ _ _ _
  have z2 : zf h0 92 2 = 0 := by
    rw [eh0]; show (zm_si (zm_si (zm_si (zm_si h 92 2 0) 92 7 0) 92 8 0) 92 12 0).2.1 92 2 = _
    rw [zf_si, if_pos rfl, if_neg (by decide), zf_si, if_pos rfl, if_neg (by decide), zf_si, if_pos rfl, if_neg (by decide)]; exact zm_in _ _ _ _
  rw [← eh0]
  obtain ⟨F, eF, -⟩ := zF_ex
  rw [← eF]
  obtain ⟨k1, h1, k2, k3, k4⟩ := zfill eF (b := fun t => f_M_reads_l22_b t.1 t.2) (o := fun t => f_M_reads_l22_b_ok t.1 t.2) 97 4 (by omega) (fun _ => -1) h0
    (fun k g hk _ => by
      have g0 : ¬ ((4 : Int32) ≤ nI k) := by rw [show (4 : Int32) = nI 4 from rfl, nx_le (by omega) (by omega)]; omega
      refine ⟨⟨fun z => absurd z g0, fun _ => vp_in_nI hk (by omega)⟩, ?_⟩
      dsimp only
      unfold f_M_reads_l22_b
      rw [if_neg g0, zs_n _ 97 _ (by omega), ← nI_succ])
    (fun g _ => by
      have g0 : (4 : Int32) ≤ nI 4 := i_le_r _
      refine ⟨⟨fun _ => trivial, fun z => absurd g0 z⟩, ?_⟩
      dsimp only
      unfold f_M_reads_l22_b
      rw [if_pos g0])
  have k2 : f_M_reads_l22 F (0, h0) = (1, nI 4, h1) := k2
  rw [k2]
  unfold f_M_reads_a22_ok f_M_reads_a22 f_M_reads_k40_ok f_M_reads_k40 f_M_reads_k44_ok f_M_reads_k44
  dsimp only
  rw [← eF]
  have w1 : zWr [97] [(92, 2), (92, 7), (92, 8), (92, 12)] h h1 := zWr_tr k3 (by decide) (by decide) (zWr_tr w0 (by decide) (by decide) (zWr.refl _ _))
  have B1 : h1.2.1 93 = B := by rw [w1.arr 93 (by decide) (by decide)]; exact eB.symm
  have f92 : ∀ k, h1.2.1 92 k = h0.2.1 92 k := fun k => k3.fld 92 k (by decide) (by simp)
  obtain ⟨o1, o2, o3, o4⟩ := fo_M (h := h1) (p := 0) hn (by omega) ((w1.fld 92 1 (by decide) (by decide)).trans e1) ((f92 2).trans z2)
  rw [B1] at o2 o3 o4
  have ow := f_M_follows_w h1
  obtain ⟨h2, eh2⟩ : ∃ h2, h2 = f_M_follows h1 := ⟨_, rfl⟩
  rw [← eh2] at o2 o3 o4 ow ⊢
  have Q0 : rq B n h2 [] s := by
    rw [es]
    refine ⟨⟨(ow.arr 93 (by decide) (by decide)).trans B1, (ow.fld 92 1 (by decide) (by decide)).trans ((w1.fld 92 1 (by decide) (by decide)).trans e1), o2, o3, o4⟩, ⟨(ow.fld 92 7 (by decide) (by decide)).trans ((f92 7).trans z7), trivial⟩, (ow.fld 92 8 (by decide) (by decide)).trans ((f92 8).trans z8), (ow.fld 92 12 (by decide) (by decide)).trans ((f92 12).trans z12), ?_, ?_, ?_, ?_⟩
    · rw [ow.arr 95 (by decide) (by decide), w1.arr 95 (by decide) (by decide)]
    · rw [ow.arr 96 (by decide) (by decide), w1.arr 96 (by decide) (by decide)]
    · rw [ow.arr 97 (by decide) (by decide)]
      funext k
      rw [k4 k, w0.arr 97 (by decide) (by decide)]
    · rw [ow.arr 98 (by decide) (by decide), w1.arr 98 (by decide) (by decide)]
  obtain ⟨p1, p2, p3⟩ := pu_q Q0 (by show (0 : Nat) < 800; omega) 0
  rw [nI_0] at p1 p2
  obtain ⟨h3, eh3⟩ : ∃ h3, h3 = f_M_push 0 h2 := ⟨_, rfl⟩
  rw [← eh3] at p2 ⊢
  have I0 : pIv n ([0], s) := by
    rw [es]
    refine ⟨⟨by show (0 : Nat) ≤ n; omega, by show (0 : Nat) ≤ 8; omega, by show (0 : Nat) + 0 ≤ 0; omega⟩, Or.inl ⟨Or.inr rfl, fun k hk nb => ?_⟩⟩
    have nb : ¬ (if k < 4 then (-1 : Int32) else h.2.1 97 k) = -1 := nb
    rw [if_pos hk] at nb
    exact absurd rfl nb
  have mu0 : pMu n ([0], s) ≤ 8001 := by
    show 20 * (n - s.1) + (1 + 0) ≤ 8001
    omega
  have key := zlpF eF (b := fun t => f_M_reads_l49_b t) (o := fun t => f_M_reads_l49_b_ok t) 8002 (by omega)
    (fun k x => ∃ a, rch B n ([0], s) a ∧ pIv n a ∧ pMu n a + k ≤ 8001 ∧ rq B n x a.1 a.2 ∧ (a.1 = [] ∨ a.1 = [0] ∨ zf x 92 9 = nI a.2.2.2.2.2.2.2.2))
    (fun r => ∃ b, hlt B n ([0], s) b ∧ pIv n b ∧ ((b.1 = [] ∧ ¬ r.1 = 1 ∧ rq B n r.2 [] b.2) ∨ (¬ b.1 = [] ∧ r.1 = 1 ∧ zf r.2 92 4 = nI (lxS B n b.2.1)))) h3
    ⟨([0], s), rch_r _ _ _, I0, by omega, p2, Or.inr (Or.inl rfl)⟩
    (by
      rintro k x hk ⟨⟨l, t⟩, a1, a2, a3, a4, a5⟩
      dsimp only at a4 a5
      have z7 : zf x 92 7 = nI l.length := a4.2.1.1
      cases l with
      | nil =>
        have z7 : zf x 92 7 = 0 := z7
        show f_M_reads_l49_b_ok x ∧ _
        unfold f_M_reads_l49_b_ok f_M_reads_l49_b
        rw [z7, if_pos (by decide)]
        exact ⟨⟨fun _ => trivial, fun z => absurd (by decide) z⟩, Or.inr ⟨by simp, ([], t), ⟨a1, rfl⟩, a2, Or.inl ⟨rfl, by simp, a4⟩⟩⟩
      | cons y r =>
        have l800 : (y :: r).length ≤ 800 := by
          rcases a2.2 with ⟨z | z, -⟩ | ⟨ts, -, z, -⟩
          · cases z
          · rw [show y :: r = [0] from z]; show (1 : Nat) ≤ 800; omega
          · exact chk_len z
        rw [List.length_cons] at l800 z7
        have g0 : ¬ (nI (r.length + 1) ≤ 0) := by rw [show (0 : Int32) = nI 0 from rfl, nx_le (by omega) (by omega)]; omega
        have sb : nI (r.length + 1) - 1 = nI r.length := by rw [show (1 : Int32) = nI 1 from rfl, pk_sub (by omega), show r.length + 1 - 1 = r.length by omega]
        have top : zr x 94 (nI r.length) = nI y := by rw [zr_n x 94 (by omega)]; exact a4.2.1.2.1
        show f_M_reads_l49_b_ok x ∧ _
        unfold f_M_reads_l49_b_ok f_M_reads_l49_b
        rw [z7, if_neg g0, sb, top]
        obtain ⟨x0, ex0⟩ : ∃ x0, x0 = zp x 92 7 (nI r.length) := ⟨_, rfl⟩
        have wx : zWr [] [(92, 7)] x x0 := by rw [ex0]; exact zWr_p (by decide) (zWr.refl _ _)
        rw [← ex0]
        have Qx : rq B n x0 r t := ⟨mtk_z (wx.eq (by decide) (by decide)) a4.1, ⟨by rw [ex0]; exact zm_in _ _ _ _, by rw [wx.arr 94 (by decide) (by decide)]; exact a4.2.1.2.2⟩, mrs_z (wx.eq (by decide) (by decide)) a4.2.2⟩
        have h9 : y :: r = [0] ∨ zf x0 92 9 = nI t.2.2.2.2.2.2.2 := by
          rcases a5 with z | z | z
          · cases z
          · exact Or.inl z
          · exact Or.inr ((wx.fld 92 9 (by decide) (by decide)).trans z)
        obtain ⟨q1, q2⟩ := sp_m hn a2 Qx h9
        unfold f_M_reads_l49_k79
        refine ⟨⟨fun z => absurd z g0, fun _ => ⟨vp_in_nI (by omega) (by omega), q1⟩⟩, ?_⟩
        rcases q2 with ⟨x', t', c1, c2, c3, c4⟩ | ⟨c1, c2, c3⟩
        · rw [c2, if_neg (by decide)]
          obtain ⟨i1, i2⟩ := pIv_s hn a2 c1
          exact Or.inl ⟨rfl, (x', t'), itr_t a1 c1, i1, by omega, c3, c4⟩
        · rw [c2, if_pos rfl]
          exact Or.inr ⟨by simp, (y :: r, t), ⟨a1, c1⟩, a2, Or.inr ⟨by simp, rfl, c3⟩⟩)
    (by
      rintro x ⟨⟨l, t⟩, a1, a2, a3, a4, a5⟩
      exfalso
      omega)
  obtain ⟨m1, m2⟩ := key
  obtain ⟨r, er⟩ : ∃ r, r = f_M_reads_l49 F h3 := ⟨_, rfl⟩
  have m2 : ∃ b, hlt B n ([0], s) b ∧ pIv n b ∧ ((b.1 = [] ∧ ¬ r.1 = 1 ∧ rq B n r.2 [] b.2) ∨ (¬ b.1 = [] ∧ r.1 = 1 ∧ zf r.2 92 4 = nI (lxS B n b.2.1))) := by rw [er]; exact m2
  rw [← er]
  unfold f_M_reads_a49_ok f_M_reads_a49 f_M_reads_k82 f_M_reads_k87
  obtain ⟨b, b1, b2, b3⟩ := m2
  refine ⟨⟨k1, o1, p1, m1, fun _ => trivial, fun _ => trivial⟩, b, b1, b2, ?_⟩
  rcases b3 with ⟨c1, c2, c3⟩ | ⟨c1, c2, c3⟩
  · rw [if_neg c2]; exact Or.inl ⟨c1, rfl, c3⟩
  · rw [if_pos c2]; exact Or.inr ⟨c1, c3⟩
/-- the TEXT, as both have it -/
def I_tx (n : Nat) (h : zm_H) : Prop := n ≤ 400 ∧ zf h 10 1 = nI n ∧ zf h 92 1 = nI n ∧ h.2.1 11 = h.2.1 93 ∧ byR (h.2.1 11) 400
theorem byR_le {B : Nat → Int32} {n m : Nat} (h : m ≤ n) (H : byR B n) : byR B m := fun i hi => H i (by omega)
/-- both read to the same end -/
theorem rd_NM {n : Nat} {h : zm_H} (X : I_tx n h) : f_Text_findFault_ok h ∧ f_M_reads_ok (f_Text_findFault h).2 ∧ (f_Text_findFault h).1 = (f_M_reads (f_Text_findFault h).2).1 ∧ ((f_Text_findFault h).1 = -1 → ∃ t, rpC (h.2.1 11) n (f_Text_findFault h).2 t ∧ pIv n ([], t) ∧ rq (h.2.1 11) n (f_M_reads (f_Text_findFault h).2).2 [] t) := by
  obtain ⟨hn, x1, x2, x3, x4⟩ := X
  obtain ⟨s, es⟩ : ∃ s : PSt, s = (0, 0, 0, h.2.1 95, h.2.1 96, (fun k => if k < 4 then -1 else h.2.1 97 k), h.2.1 98, (zf h 92 9).toNatClampNeg) := ⟨_, rfl⟩
  obtain ⟨a1, a2⟩ := ff_N hn (byR_le hn x4) x1 (s := s) (by rw [es]; exact ⟨rfl, rfl, rfl⟩) (fun k hk => by rw [es]; show (if k < 4 then (-1 : Int32) else h.2.1 97 k) = -1; rw [if_pos hk])
  have w := f_Text_findFault_w h
  obtain ⟨r, er⟩ : ∃ r, r = f_Text_findFault h := ⟨_, rfl⟩
  rw [← er] at a2 w ⊢
  obtain ⟨h1, eh1⟩ : ∃ h1, h1 = r.2 := ⟨_, rfl⟩
  rw [← eh1] at a2 w ⊢
  have B1 : h1.2.1 93 = h.2.1 11 := by rw [w.arr 93 (by decide) (by decide), x3]
  obtain ⟨b1, b, b2, b3, b4⟩ := re_M (h := h1) hn ((w.fld 92 1 (by decide) (by decide)).trans x2) (s := s) (by
    rw [es, w.arr 95 (by decide) (by decide), w.arr 96 (by decide) (by decide), w.arr 97 (by decide) (by decide), w.arr 98 (by decide) (by decide), show zf h1 92 9 = zf h 92 9 from w.fld 92 9 (by decide) (by decide)])
  rw [B1] at b2 b4
  refine ⟨a1, b1, ?_, fun z => ?_⟩
  · rcases a2 with ⟨t, t1, t2, t3⟩ | ⟨x, j1, j2, c, c1, c2, c3⟩
    · have eb := hlt_u t3 b2
      rcases b4 with ⟨d1, d2, -⟩ | ⟨d1, -⟩
      · rw [t2, d2]
      · rw [← eb] at d1; exact absurd rfl d1
    · have eb := hlt_u c1 b2
      rcases b4 with ⟨d1, -, -⟩ | ⟨d1, d2⟩
      · rw [eb] at c2; exact absurd d1 c2
      · rw [j2, d2, ← c3, eb]
  · rcases a2 with ⟨t, t1, t2, t3⟩ | ⟨x, j1, j2, -⟩
    · have eb := hlt_u t3 b2
      rcases b4 with ⟨d1, -, d3⟩ | ⟨d1, -⟩
      · rw [← eb] at d3 b3
        exact ⟨t, t1, b3, d3⟩
      · rw [← eb] at d1; exact absurd rfl d1
    · exfalso
      rw [j2] at z
      exact nI_nm1 (by have := j1.2.1; omega) z
theorem c_fault {n : Nat} {h : zm_H} (X : I_tx n h) : f_N_fault_ok h ∧ f_M_fault_ok (f_N_fault h).2 ∧ (f_N_fault h).1 = (f_M_fault (f_N_fault h).2).1 := by
  obtain ⟨a, b, c, -⟩ := rd_NM X
  unfold f_N_fault_ok f_N_fault f_M_fault_ok f_M_fault
  exact ⟨a, b, c⟩
