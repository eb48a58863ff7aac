/-! ===== sheet: both together ===== -/
theorem zSk_w {W : List Nat} {F : List (Nat × Nat)} {h h' : zm_H} (w : zWr W F h h') (c1 : (W.all (fun i => [12, 13, 14, 17, 18, 94, 95, 96, 97, 98, 99, 100, 101, 102, 162, 163, 164].contains i)) = true) (c2 : (F.all (fun p => p.1 == 10 || p.1 == 15 || (p.1 == 92 && [1, 2, 3, 4, 5, 7, 8, 9, 12, 15].contains p.2))) = true) : zSk h h' := by
  have cW : ∀ i, i ∈ W → i ∈ [12, 13, 14, 17, 18, 94, 95, 96, 97, 98, 99, 100, 101, 102, 162, 163, 164] := fun i hi => by
    have := List.all_eq_true.mp c1 i hi
    exact List.contains_iff_mem.mp this
  have cF : ∀ p, p ∈ F → p.1 = 10 ∨ p.1 = 15 ∨ (p.1 = 92 ∧ p.2 ∈ [1, 2, 3, 4, 5, 7, 8, 9, 12, 15]) := fun p hp => by
    have := List.all_eq_true.mp c2 p hp
    rw [Bool.or_eq_true, Bool.or_eq_true, Bool.and_eq_true, beq_iff_eq, beq_iff_eq, beq_iff_eq] at this
    rcases this with (z | z) | ⟨z, y⟩
    · exact Or.inl z
    · exact Or.inr (Or.inl z)
    · exact Or.inr (Or.inr ⟨z, List.contains_iff_mem.mp y⟩)
  refine ⟨fun i hi ni => ?_, fun i hi ni => ?_, fun k nk => ?_⟩
  · refine w.arr i (fun z => ?_) (fun p hp e => ?_)
    · have := cW i z
      simp at this ni
      omega
    · rcases cF p hp with z | z | ⟨z, -⟩ <;> simp at ni <;> omega
  · exact (w.2 i (fun z => by have := cW i z; simp at this ni; omega)).2.1
  · refine w.fld 92 k (fun z => ?_) (fun z => ?_)
    · have := cW 92 z
      simp at this
    · rcases cF _ z with y | y | ⟨-, y⟩
      · cases y
      · cases y
      · exact nk y
theorem zSk_t {h h' h'' : zm_H} (a : zSk h h') (b : zSk h' h'') : zSk h h'' := ⟨fun i h1 h2 => (b.1 i h1 h2).trans (a.1 i h1 h2), fun i h1 h2 => (b.2.1 i h1 h2).trans (a.2.1 i h1 h2), fun k hk => (b.2.2 k hk).trans (a.2.2 k hk)⟩
theorem zSk_r (h : zm_H) : zSk h h := ⟨fun _ _ _ => rfl, fun _ _ _ => rfl, fun _ _ => rfl⟩
theorem c_sheet {ns nf n : Nat} {h : zm_H} (X : I_tx n h) (H : I_rl ns nf h) (K : I_kd ns h) : f_N_sheet_ok h ∧ f_M_sheet_ok (f_N_sheet h).2 ∧ (f_N_sheet h).1 = (f_M_sheet (f_N_sheet h).2).1 ∧ ∃ ns' n', I_tx n' (f_M_sheet (f_N_sheet h).2).2 ∧ I_rl ns' nf (f_M_sheet (f_N_sheet h).2).2 ∧ I_kd ns' (f_M_sheet (f_N_sheet h).2).2 ∧ zSk h (f_M_sheet (f_N_sheet h).2).2 ∧ ∀ c t nm, c < 4 → Ev nf (f_M_sheet (f_N_sheet h).2).2 c t nm = Ev nf h c t nm := by
  obtain ⟨hn, x1, x2, x3, x4⟩ := id X
  obtain ⟨⟨⟨n10, a1, a2⟩, ⟨nf15, a3, a4⟩, ⟨a5, a6, a7⟩, a8⟩, a9⟩ := id H
  unfold f_N_sheet_ok f_N_sheet
  rw [a1]
  have g10 : (10 : Int32) ≤ nI ns ↔ 10 ≤ ns := by rw [show (10 : Int32) = nI 10 from rfl, nx_le (by omega) (by omega)]
  have h10 : nI ns = 10 ↔ ns = 10 := ⟨fun z => nI_inj (by omega) (by omega) (z.trans (show (10 : Int32) = nI 10 from rfl)), fun z => by rw [z]; rfl⟩
  by_cases c10 : ¬ ((10 : Int32) ≤ nI ns)
  · have l10 : ns < 10 := by
      have : ¬ 10 ≤ ns := fun z => c10 (g10.mpr z)
      omega
    have n10' : ¬ nI ns = 10 := fun z => by have := h10.mp z; omega
    rw [if_pos c10]
    obtain ⟨r1, r2, r3, r4⟩ := rd_NM X
    have fw := f_Text_findFault_w h
    by_cases c0 : (f_Text_findFault h).1 = -1
    · -- a SHEET comes
      obtain ⟨s, es⟩ : ∃ s : PSt, s = (0, 0, 0, h.2.1 95, h.2.1 96, (fun k => if k < 4 then -1 else h.2.1 97 k), h.2.1 98, (zf h 92 9).toNatClampNeg) := ⟨_, rfl⟩
      obtain ⟨-, f2⟩ := ff_N hn (byR_le hn x4) x1 (s := s) (by rw [es]; exact ⟨rfl, rfl, rfl⟩) (fun k hk => by rw [es]; show (if k < 4 then (-1 : Int32) else h.2.1 97 k) = -1; rw [if_pos hk])
      obtain ⟨q, eq⟩ : ∃ q, q = f_Text_findFault h := ⟨_, rfl⟩
      rw [← eq] at c0 f2 fw ⊢
      obtain ⟨h1, eh1⟩ : ∃ h1, h1 = q.2 := ⟨_, rfl⟩
      rw [← eh1] at f2 fw ⊢
      obtain ⟨t, t1, t2⟩ : ∃ t, rpC (h.2.1 11) n h1 t ∧ hlt (h.2.1 11) n ([0], s) ([], t) := by
        rcases f2 with ⟨t, t1, -, t3⟩ | ⟨x, j1, j2, -⟩
        · exact ⟨t, t1, t3⟩
        · exfalso
          rw [j2] at c0
          exact nI_nm1 (by have := j1.2.1; omega) c0
      have k1 : h1.1 = h.1 := fw.1
      obtain ⟨b1, b2, y, ey, b3, b4, b5, ⟨b6, b6'⟩, b7, b8, b9, b10⟩ := ad_N l10 ((fw.fld 15 0 (by decide) (by decide)).trans a1) hn t1 (by rw [k1]; have := K.1; have := K.2; omega)
      rw [k1] at b3 b4 b5 b7 b10
      obtain ⟨r0, er0⟩ : ∃ r0, r0 = h.1.length := ⟨_, rfl⟩
      have hr0 : 165 ≤ r0 ∧ r0 ≤ 165 + ns := by rw [er0]; exact K
      rw [← er0] at b4 b5 b7 b10
      unfold f_N_sheet_k17_ok f_N_sheet_k17 f_N_sheet_k34
      rw [if_pos c0, b2, ← ey]
      obtain ⟨z, ez⟩ : ∃ z, z = zp y 10 1 0 := ⟨_, rfl⟩
      have wz : zWr [] [(10, 1)] y z := by rw [ez]; exact zWr_p (by decide) (zWr.refl _ _)
      dsimp only
      rw [← ez]
      have z101 : zf z 10 1 = 0 := by rw [ez]; exact zm_in _ _ _ _
      -- what z has of h
      have zA : ∀ i, i < r0 → ¬ i = 10 → ¬ i = 12 → ¬ i = 13 → ¬ i = 14 → ¬ i = 15 → ¬ i = 17 → ¬ i = 18 → (i < 162 ∨ 165 ≤ i) → z.2.1 i = h.2.1 i := fun i h0 h1 h2 h3 h4 h5 h6 h7 h8 => by
        rw [wz.arr i (by simp) (by simp; omega), b4 i h0 h5 h6 h7, fw.arr i (by simp; omega) (by simp; omega)]
      have z15 : ∀ k, ¬ k = 0 → z.2.1 15 k = h.2.1 15 k := fun k hk => by
        rw [wz.fld 15 k (by simp) (by simp), b6' k hk, fw.fld 15 k (by simp) (by simp)]
      -- the model reads z
      have zB : z.2.1 93 = h.2.1 11 := by rw [zA 93 (by omega) (by omega) (by omega) (by omega) (by omega) (by omega) (by omega) (by omega) (by omega), x3]
      obtain ⟨o1, b, o2, o3, o4⟩ := re_M (h := z) hn (by show z.2.1 92 1 = _; rw [zA 92 (by omega) (by omega) (by omega) (by omega) (by omega) (by omega) (by omega) (by omega) (by omega)]; exact x2) (s := s) (by
        rw [es, zA 95 (by omega) (by omega) (by omega) (by omega) (by omega) (by omega) (by omega) (by omega) (by omega), zA 96 (by omega) (by omega) (by omega) (by omega) (by omega) (by omega) (by omega) (by omega) (by omega), zA 97 (by omega) (by omega) (by omega) (by omega) (by omega) (by omega) (by omega) (by omega) (by omega), zA 98 (by omega) (by omega) (by omega) (by omega) (by omega) (by omega) (by omega) (by omega) (by omega)]
        show _ = (0, 0, 0, _, _, _, _, (z.2.1 92 9).toNatClampNeg)
        rw [zA 92 (by omega) (by omega) (by omega) (by omega) (by omega) (by omega) (by omega) (by omega) (by omega)])
      rw [zB] at o2 o4
      have eb := hlt_u t2 o2
      rw [← eb] at o3 o4
      obtain ⟨p1, p2⟩ : (f_M_reads z).1 = -1 ∧ rq (h.2.1 11) n (f_M_reads z).2 [] t := by
        rcases o4 with ⟨-, d2, d3⟩ | ⟨d1, -⟩
        · exact ⟨d2, d3⟩
        · exact absurd rfl d1
      have rw' := f_M_reads_w z
      obtain ⟨x, ex⟩ : ∃ x, x = (f_M_reads z).2 := ⟨_, rfl⟩
      rw [← ex] at p2 rw'
      have z9215 : zf z 92 15 = nI ns := by show z.2.1 92 15 = _; rw [zA 92 (by omega) (by omega) (by omega) (by omega) (by omega) (by omega) (by omega) (by omega) (by omega)]; exact a2
      obtain ⟨m1, m2, x', m3, m4, m5, m6, m7, m8, m9, m10⟩ := cp_M l10 ((rw'.fld 92 15 (by decide) (by decide)).trans z9215) (by have := t1.1.2.2.2.1; omega) p2
      unfold f_M_sheet_ok f_M_sheet f_M_sheet_k13_ok f_M_sheet_k13
      rw [z9215, if_neg n10', p1, if_pos rfl, ← ex, m3]
      dsimp only
      have cc : t.2.2.1 ≤ 400 := t1.1.2.2.2.1
      -- x' of z
      have wx : zWr [94, 95, 96, 97, 98, 99, 100, 101, 102] [(92, 1), (92, 2), (92, 3), (92, 4), (92, 5), (92, 7), (92, 8), (92, 9), (92, 12), (92, 15)] z x' := zWr_tr m4 (by decide) (by decide) (zWr_tr rw' (by decide) (by decide) (zWr.refl _ _))
      have xA : ∀ i, i < r0 → ¬ i ∈ [10, 12, 13, 14, 15, 17, 18, 92, 94, 95, 96, 97, 98, 99, 100, 101, 102, 162, 163, 164] → x'.2.1 i = h.2.1 i := fun i hi ni => by
        simp at ni
        rw [wx.arr i (by simp; omega) (by simp; omega)]
        exact zA i hi (by omega) (by omega) (by omega) (by omega) (by omega) (by omega) (by omega) (by omega)
      have xk : x'.1 = h.1 ++ [.inl (0, t.2.2.1)] := (wx.1).trans ((wz.1).trans b3)
      have e99 : ∀ k, x'.2.1 99 k = if 400 * ns ≤ k ∧ k < 400 * ns + t.2.2.1 then t.2.2.2.1 (k - 400 * ns) else h.2.1 99 k := fun k => by
        rw [m7 k, rw'.arr 99 (by decide) (by decide), zA 99 (by omega) (by omega) (by omega) (by omega) (by omega) (by omega) (by omega) (by omega) (by omega)]
      have e100 : ∀ k, x'.2.1 100 k = if 400 * ns ≤ k ∧ k < 400 * ns + t.2.2.1 then t.2.2.2.2.1 (k - 400 * ns) else h.2.1 100 k := fun k => by
        rw [m8 k, rw'.arr 100 (by decide) (by decide), zA 100 (by omega) (by omega) (by omega) (by omega) (by omega) (by omega) (by omega) (by omega) (by omega)]
      have e101 : ∀ k, x'.2.1 101 k = if 4 * ns ≤ k ∧ k < 4 * ns + 4 then t.2.2.2.2.2.1 (k - 4 * ns) else h.2.1 101 k := fun k => by
        rw [m9 k, rw'.arr 101 (by decide) (by decide), zA 101 (by omega) (by omega) (by omega) (by omega) (by omega) (by omega) (by omega) (by omega) (by omega)]
      have e102 : ∀ k, x'.2.1 102 k = if 4 * ns ≤ k ∧ k < 4 * ns + 4 then t.2.2.2.2.2.2.1 (k - 4 * ns) else h.2.1 102 k := fun k => by
        rw [m10 k, rw'.arr 102 (by decide) (by decide), zA 102 (by omega) (by omega) (by omega) (by omega) (by omega) (by omega) (by omega) (by omega) (by omega)]
      have e17 : ∀ k, x'.2.1 17 k = if 4 * ns ≤ k ∧ k < 4 * ns + 4 then h1.2.1 13 (k - 4 * ns) else h.2.1 17 k := fun k => by
        rw [wx.arr 17 (by decide) (by decide), wz.arr 17 (by decide) (by decide), b8 k, fw.arr 17 (by decide) (by decide)]
      have e18 : ∀ k, x'.2.1 18 k = if 4 * ns ≤ k ∧ k < 4 * ns + 4 then h1.2.1 14 (k - 4 * ns) else h.2.1 18 k := fun k => by
        rw [wx.arr 18 (by decide) (by decide), wz.arr 18 (by decide) (by decide), b9 k, fw.arr 18 (by decide) (by decide)]
      have e16 : ∀ k, x'.2.2.2 16 k = if k = ns then some r0 else h.2.2.2 16 k := fun k => by
        rw [(wx.2 16 (by decide)).2.2, (wz.2 16 (by decide)).2.2, b7 k, (fw.2 16 (by decide)).2.2]
      have er : ∀ k, k < t.2.2.1 → x'.2.1 r0 k = enC (t.2.2.2.1 k) (t.2.2.2.2.1 k) := fun k hk => by
        rw [wx.arr r0 (by simp; omega) (by simp; omega), wz.arr r0 (by simp) (by simp; omega), b10 k hk]
        exact t1.1.2.2.2.2.2 k hk
      have e2 : ∀ i, i < 400 * ns → x'.2.1 99 i = h.2.1 99 i ∧ x'.2.1 100 i = h.2.1 100 i := fun i hi => ⟨by rw [e99, if_neg (by omega)], by rw [e100, if_neg (by omega)]⟩
      have e1 : ∀ i, i < 4 * ns → x'.2.1 101 i = h.2.1 101 i ∧ x'.2.1 102 i = h.2.1 102 i := fun i hi => ⟨by rw [e101, if_neg (by omega)], by rw [e102, if_neg (by omega)]⟩
      have e103 : x'.2.1 103 = h.2.1 103 := xA 103 (by omega) (by decide)
      have e104 : x'.2.1 104 = h.2.1 104 := xA 104 (by omega) (by decide)
      refine ⟨⟨fun _ => ⟨r1, fun _ => b1, fun z => absurd c0 z⟩, fun z => absurd c10 z⟩, ⟨fun z => absurd z n10', fun _ => ⟨o1, fun _ => ⟨m1, m2⟩, fun z => absurd rfl z⟩⟩, rfl, ns + 1, 0, ⟨by omega, ?_, m5, ?_, ?_⟩, ⟨⟨⟨by omega, ?_, m6⟩, ⟨nf15, ?_, ?_⟩, ⟨?_, ?_, ?_⟩, ?_⟩, fun sh c hs hc => ?_⟩, ⟨?_, ?_⟩, ?_, fun c u nm hc => Ev_x H e103 e104 e1 e2 hc u nm⟩
      · exact (wx.fld 10 1 (by decide) (by decide)).trans z101
      · rw [xA 11 (by omega) (by decide), xA 93 (by omega) (by decide)]; exact x3
      · rw [xA 11 (by omega) (by decide)]; exact x4
      · exact (wx.fld 15 0 (by decide) (by decide)).trans ((wz.fld 15 0 (by decide) (by decide)).trans b6)
      · exact (wx.fld 15 4 (by decide) (by decide)).trans ((z15 4 (by decide)).trans a3)
      · refine (wx.fld 92 20 (by decide) (by decide)).trans ?_
        rw [zA 92 (by omega) (by omega) (by omega) (by omega) (by omega) (by omega) (by omega) (by omega) (by omega)]; exact a4
      · rw [xA 19 (by omega) (by decide), e103]; exact a5
      · rw [xA 20 (by omega) (by decide), e104]; exact a6
      · funext k
        rw [e17, e101]
        by_cases v : 4 * ns ≤ k ∧ k < 4 * ns + 4
        · rw [if_pos v, if_pos v]; exact t1.2.2.1 (k - 4 * ns) (by omega)
        · rw [if_neg v, if_neg v, a7]
      · intro k hk
        obtain ⟨⟨s', s1, s2⟩, u⟩ := a8 k hk
        rw [e103, e104]
        exact ⟨⟨s', by omega, s2⟩, u⟩
      · by_cases es' : sh = ns
        · subst es'
          intro nb
          rw [e101, if_pos (by omega), show 4 * sh + c - 4 * sh = c by omega] at nb
          rcases o3.2 with ⟨-, cl⟩ | ⟨ts, -, ch, -⟩
          · obtain ⟨b, e, g1, g2, g3, g4⟩ := cl c hc nb
            have g1 : e ≤ t.2.2.1 := g1
            refine ⟨b, e, by omega, ?_, ?_, ?_, WT_x (fun i hi => ?_) g4, r0, t.2.2.1, ?_, by omega, ?_, g1, cc, fun k hk1 hk2 => ?_⟩
            · rw [e101, if_pos (by omega), show 4 * sh + c - 4 * sh = c by omega]; exact g2
            · rw [e102, if_pos (by omega), show 4 * sh + c - 4 * sh = c by omega]; exact g3
            · rw [e18, if_pos (by omega), show 4 * sh + c - 4 * sh = c by omega, t1.2.2.2 c hc nb]; exact g3
            · dsimp only
              rw [e99, e100, if_pos (by omega), if_pos (by omega), show 400 * sh + i - 400 * sh = i by omega]
              exact ⟨rfl, rfl⟩
            · rw [e16, if_pos rfl]
            · rw [xk, er0]; simp
            · rw [er k (by omega), e99, e100, if_pos (by omega), if_pos (by omega), show 400 * sh + k - 400 * sh = k by omega]
          · exact ch.elim
        · have hs' : sh < ns := by omega
          intro nb
          rw [(e1 (4 * sh + c) (by omega)).1] at nb
          obtain ⟨b, e, g1, g2, g3, g4, g5, r, L, g6, g7, g8, g9, g10', g11⟩ := a9 sh c hs' hc nb
          have hr : r < h.1.length := by
            rcases (show r < h.1.length ∨ h.1.length ≤ r by omega) with v | v
            · exact v
            · rw [List.getElem?_eq_none v] at g8; cases g8
          refine ⟨b, e, g1, ?_, ?_, ?_, WT_x (fun i hi => ?_) g5, r, L, ?_, g7, ?_, g9, g10', fun k hk1 hk2 => ?_⟩
          · rw [(e1 _ (by omega)).1]; exact g2
          · rw [(e1 _ (by omega)).2]; exact g3
          · rw [e18, if_neg (by omega)]; exact g4
          · exact e2 (400 * sh + i) (by omega)
          · rw [e16, if_neg es']; exact g6
          · rw [xk, List.getElem?_append_left hr]; exact g8
          · rw [xA r (by omega) (by simp; omega), (e2 (400 * sh + k) (by omega)).1, (e2 (400 * sh + k) (by omega)).2]
            exact g11 k hk1 hk2
      · rw [xk, List.length_append]; show 165 ≤ h.1.length + 1; omega
      · rw [xk, List.length_append]; show h.1.length + 1 ≤ 165 + (ns + 1); omega
      · have s1 : zSk h h1 := zSk_w fw (by decide) (by decide)
        have s3 : zSk z x' := zSk_w wx (by decide) (by decide)
        refine zSk_t (zSk_t s1 ⟨fun i hi ni => ?_, fun i hi ni => ?_, fun k hk => ?_⟩) s3
        · simp at ni
          rw [wz.arr i (by simp) (by simp; omega), b4 i (by omega) (by omega) (by omega) (by omega)]
        · simp at ni
          rw [(wz.2 i (by simp)).2.1, (b5 i (by omega) (by omega) (by omega)).1]
        · rw [wz.fld 92 k (by simp) (by simp), b4 92 (by omega) (by omega) (by omega) (by omega)]
    · -- a FAULT
      obtain ⟨q, eq⟩ : ∃ q, q = f_Text_findFault h := ⟨_, rfl⟩
      rw [← eq] at c0 r2 r3 fw ⊢
      obtain ⟨h1, eh1⟩ : ∃ h1, h1 = q.2 := ⟨_, rfl⟩
      rw [← eh1] at r2 r3 fw ⊢
      unfold f_N_sheet_k17_ok f_N_sheet_k17
      rw [if_neg c0]
      dsimp only
      have e15 : zf h1 92 15 = nI ns := (fw.fld 92 15 (by decide) (by decide)).trans a2
      unfold f_M_sheet_ok f_M_sheet f_M_sheet_k13_ok f_M_sheet_k13
      have c0' : ¬ (f_M_reads h1).1 = -1 := by rw [← r3]; exact c0
      rw [e15, if_neg n10', if_neg c0']
      dsimp only
      have rw' := f_M_reads_w h1
      have wx : zWr [12, 13, 14, 94, 95, 96, 97, 98, 162, 163, 164] [(10, 2), (10, 6), (10, 7), (10, 8), (10, 10), (92, 2), (92, 3), (92, 4), (92, 5), (92, 7), (92, 8), (92, 9), (92, 12)] h (f_M_reads h1).2 := zWr_tr rw' (by decide) (by decide) (zWr_tr fw (by decide) (by decide) (zWr.refl _ _))
      refine ⟨⟨fun _ => ⟨r1, fun z => absurd z c0, fun _ => trivial⟩, fun z => absurd c10 z⟩, ⟨fun z => absurd z n10', fun _ => ⟨r2, fun z => absurd z c0', fun _ => trivial⟩⟩, rfl, ns, n, ⟨hn, (wx.fld 10 1 (by decide) (by decide)).trans x1, (wx.fld 92 1 (by decide) (by decide)).trans x2, ?_, ?_⟩, I_rl_w (by decide) wx H, ⟨by rw [wx.1]; exact K.1, by rw [wx.1]; exact K.2⟩, zSk_w wx (by decide) (by decide), fun c u nm _ => Ev_w (by decide) wx c u nm⟩
      · rw [wx.arr 11 (by decide) (by decide), wx.arr 93 (by decide) (by decide)]; exact x3
      · rw [wx.arr 11 (by decide) (by decide)]; exact x4
  · rw [if_neg c10]
    have e10 : nI ns = 10 := h10.mpr (by
      have : 10 ≤ ns := g10.mp (Decidable.byContradiction c10)
      omega)
    dsimp only
    unfold f_M_sheet_ok f_M_sheet
    rw [a2, if_pos e10]
    exact ⟨⟨fun z => absurd z c10, fun _ => trivial⟩, ⟨fun _ => trivial, fun z => absurd e10 z⟩, rfl, ns, n, X, H, K, zSk_r _, fun _ _ _ _ => rfl⟩
