/-! ===== the class reads a TEXT ===== -/
theorem fl_13 (v : Int32) (h : zm_H) : f_Arrays_fill_13_ok v h ∧ zWr [13] [] h (f_Arrays_fill_13 v h) ∧ ∀ k, k < 4 → (f_Arrays_fill_13 v h).2.1 13 k = v := by
  unfold f_Arrays_fill_13_ok f_Arrays_fill_13 f_Arrays_fill_13_a5 f_Arrays_fill_13_k20
  obtain ⟨k1, h1, k2, k3, k4⟩ := zfill rfl (b := fun s => f_Arrays_fill_13_l5_b v s.1 (Int32.ofNat 4) s.2) (o := fun s => f_Arrays_fill_13_l5_b_ok v s.1 (Int32.ofNat 4) s.2) 13 4 (by omega) (fun _ => v) h
    (fun k g hk _ => by
      have g0 : ¬ (Int32.ofNat 4 ≤ nI k) := by rw [show Int32.ofNat 4 = nI 4 from rfl, nx_le (by omega) (by omega)]; omega
      refine ⟨⟨fun z => absurd z g0, fun _ => vp_in_nI hk (by omega)⟩, ?_⟩
      dsimp only
      unfold f_Arrays_fill_13_l5_b
      rw [if_neg g0, zs_n _ 13 _ (by omega), ← nI_succ])
    (fun g _ => by
      have g0 : Int32.ofNat 4 ≤ nI 4 := i_le_r _
      refine ⟨⟨fun _ => trivial, fun z => absurd g0 z⟩, ?_⟩
      dsimp only
      unfold f_Arrays_fill_13_l5_b
      rw [if_pos g0])
  have k2 : f_Arrays_fill_13_l5 v (Int32.ofNat 4) zF (0, h) = (1, nI 4, h1) := k2
  rw [k2]
  exact ⟨⟨k1, trivial⟩, k3, fun k hk => by rw [k4 k, if_pos hk]⟩
theorem fl_14 (v : Int32) (h : zm_H) : f_Arrays_fill_14_ok v h ∧ zWr [14] [] h (f_Arrays_fill_14 v h) ∧ ∀ k, k < 4 → (f_Arrays_fill_14 v h).2.1 14 k = v := by
  unfold f_Arrays_fill_14_ok f_Arrays_fill_14 f_Arrays_fill_14_a5 f_Arrays_fill_14_k20
  obtain ⟨k1, h1, k2, k3, k4⟩ := zfill rfl (b := fun s => f_Arrays_fill_14_l5_b v s.1 (Int32.ofNat 4) s.2) (o := fun s => f_Arrays_fill_14_l5_b_ok v s.1 (Int32.ofNat 4) s.2) 14 4 (by omega) (fun _ => v) h
    (fun k g hk _ => by
      have g0 : ¬ (Int32.ofNat 4 ≤ nI k) := by rw [show Int32.ofNat 4 = nI 4 from rfl, nx_le (by omega) (by omega)]; omega
      refine ⟨⟨fun z => absurd z g0, fun _ => vp_in_nI hk (by omega)⟩, ?_⟩
      dsimp only
      unfold f_Arrays_fill_14_l5_b
      rw [if_neg g0, zs_n _ 14 _ (by omega), ← nI_succ])
    (fun g _ => by
      have g0 : Int32.ofNat 4 ≤ nI 4 := i_le_r _
      refine ⟨⟨fun _ => trivial, fun z => absurd g0 z⟩, ?_⟩
      dsimp only
      unfold f_Arrays_fill_14_l5_b
      rw [if_pos g0])
  have k2 : f_Arrays_fill_14_l5 v (Int32.ofNat 4) zF (0, h) = (1, nI 4, h1) := k2
  rw [k2]
  exact ⟨⟨k1, trivial⟩, k3, fun k hk => by rw [k4 k, if_pos hk]⟩
def rpC (B : Nat → Int32) (n : Nat) (h : zm_H) (s : PSt) : Prop := rpN B n h s ∧ (s.2.1 = 0 ∧ (s.2.2.1 = 0 ∨ s.2.2.1 < s.1)) ∧ (∀ k, k < 4 → h.2.1 13 k = s.2.2.2.2.2.1 k) ∧ ∀ k, k < 4 → ¬ s.2.2.2.2.2.1 k = -1 → h.2.1 14 k = s.2.2.2.2.2.2.1 k
theorem rpN_z {B : Nat → Int32} {n : Nat} {h h' : zm_H} {s : PSt} {W : List Nat} (w : zWr W [] h h') (c : (W.all (fun i => i == 13 || i == 14)) = true) (H : rpN B n h s) : rpN B n h' s := by
  have nm : ∀ i, i = 10 ∨ i = 11 ∨ i = 12 ∨ i = 162 ∨ i = 163 ∨ i = 164 → i ∉ W := fun i hi z => by
    have := List.all_eq_true.mp c i z
    simp at this
    omega
  obtain ⟨⟨r1, r2, r3⟩, ⟨r4, r5, -⟩, r8, r9, r10, r11⟩ := H
  have f10 : ∀ k, h'.2.1 10 k = h.2.1 10 k := fun k => w.fld 10 k (nm 10 (by omega)) (by simp)
  refine ⟨⟨?_, (f10 1).trans r2, (f10 2).trans r3⟩, ⟨tkR_z (f10 6) (f10 7) (w.arr 162 (nm 162 (by omega)) (by simp)) (w.arr 163 (nm 163 (by omega)) (by simp)) (w.arr 164 (nm 164 (by omega)) (by simp)) r4, (f10 8).trans r5, trivial⟩, r8, r9, (f10 10).trans r10, fun i hi => ?_⟩
  · rw [w.arr 11 (nm 11 (by omega)) (by simp)]; exact r1
  · rw [w.arr 12 (nm 12 (by omega)) (by simp)]; exact r11 i hi
theorem jnk_z {h h' : zm_H} {s0 : Nat} {W : List Nat} (w : zWr W [] h h') (c : (W.all (fun i => i == 13 || i == 14)) = true) (J : jnk h s0) : jnk h' s0 := by
  have nm : 10 ∉ W := fun z => by
    have := List.all_eq_true.mp c 10 z
    simp at this
  have f10 : ∀ k, h'.2.1 10 k = h.2.1 10 k := fun k => w.fld 10 k nm (by simp)
  obtain ⟨j1, j2, j3, q, j4, j5⟩ := J
  exact ⟨(f10 2).trans j1, j2, (f10 8).trans j3, q, j4, (f10 10).trans j5⟩
/-- one CLAUSE -/
theorem rc_N {B : Nat → Int32} {n : Nat} (hn : n ≤ 400) (by0 : byR B n) {h : zm_H} {u : PSt} (H : rpC B n h u) (nq : ¬ tq B n u.1 = 257) : f_Text_readClause_ok h ∧ ((∃ t, rpC B n (f_Text_readClause h) t ∧ u.1 + 1 ≤ t.1 ∧ rch B n ([0], u) ([0], t)) ∨ ∃ s0, jnk (f_Text_readClause h) s0 ∧ pfl B n ([0], u) s0) := by
  obtain ⟨R, ⟨hd, hc⟩, a13, a14⟩ := H
  have hcp : u.2.2.1 ≤ u.1 := by omega
  have e4 : zf h 10 8 = nI (tq B n u.1) := R.2.1.2.1
  have stl : ∀ r, stp B n (0 :: r, u) = (if tq B n u.1 = 257 then some (r, u) else if (300 ≤ tq B n u.1 ∧ tq B n u.1 ≤ 303) ∧ u.2.2.2.2.2.1 (tq B n u.1 - 300) = -1 then some ((if tq B n u.1 = 303 then 1 else 6) :: 159 :: 13 :: 0 :: r, padv B n (pcls u (tq B n u.1 - 300))) else none) := fun r => rfl
  have qlt : tq B n u.1 ≤ 316 ∨ 316 < tq B n u.1 := by omega
  have q31 := tq_lt B n u.1
  obtain ⟨q, eq⟩ : ∃ q, q = tq B n u.1 := ⟨_, rfl⟩
  rw [← eq] at stl e4 nq qlt q31
  have bad : stp B n ([0], u) = none → (∃ t, rpC B n (f_Text_refuse h) t ∧ u.1 + 1 ≤ t.1 ∧ rch B n ([0], u) ([0], t)) ∨ ∃ s0, jnk (f_Text_refuse h) s0 ∧ pfl B n ([0], u) s0 := fun st => Or.inr ⟨_, rf_O hn R, pfl_0 st⟩
  have sb : (nI q - 300).toInt = (q : Int) - 300 := by
    have e300 : (300 : Int32).toInt = 300 := rfl
    rw [i_sub (by rw [i_nI q31, e300]; omega) (by rw [i_nI q31, e300]; omega), i_nI q31, e300]
  have e4' : (4 : Int32).toInt = 4 := rfl
  unfold f_Text_readClause_ok f_Text_readClause f_Text_readClause_k28_ok f_Text_readClause_k28
  rw [e4]
  by_cases c1 : nI q - 300 < 0
  · rw [if_pos c1]
    have c1' := c1
    rw [i_lt, sb, i_0] at c1'
    refine ⟨⟨fun _ => ro_O R, fun z => absurd c1 z⟩, bad ?_⟩
    rw [stl, if_neg nq, if_neg (by omega)]
  · rw [if_neg c1]
    have c1' := c1
    rw [i_lt, sb, i_0] at c1'
    by_cases c2 : (4 : Int32) ≤ nI q - 300
    · rw [if_pos c2]
      have c2' := c2
      rw [i_le, sb, e4'] at c2'
      refine ⟨⟨fun z => absurd z c1, fun _ => ⟨fun _ => ro_O R, fun z => absurd c2 z⟩⟩, bad ?_⟩
      rw [stl, if_neg nq, if_neg (by omega)]
    · rw [if_neg c2]
      have c2' := c2
      rw [i_le, sb, e4'] at c2'
      obtain ⟨k, hk, ek⟩ : ∃ k, k < 4 ∧ q = 300 + k := ⟨q - 300, by omega, by omega⟩
      have ei : nI q - 300 = nI k := i_mk (by rw [sb, ek]; omega)
      rw [ei] at c1 c2 ⊢
      have z13 : zr h 13 (nI k) = u.2.2.2.2.2.1 k := by rw [zr_n h 13 (by omega)]; exact a13 k hk
      have ik : vp_in (nI k) 4 := vp_in_nI hk (by omega)
      rw [z13]
      by_cases c3 : u.2.2.2.2.2.1 k = -1
      · rw [if_pos c3]
        obtain ⟨o1, o2, o3, o4⟩ := st_O hn by0 R (by rw [← eq]; exact nq)
        have sw := f_Text_step_w h
        obtain ⟨h1, eh1⟩ : ∃ h1, h1 = f_Text_step h := ⟨_, rfl⟩
        rw [← eh1] at o2 sw ⊢
        have st : stp B n ([0], u) = some ((if q = 303 then 1 else 6) :: 159 :: 13 :: 0 :: [], padv B n (pcls u k)) := by
          rw [stl, if_neg nq, show q - 300 = k by omega, if_pos ⟨by omega, c3⟩]
        unfold f_Text_readClause_k37_ok f_Text_readClause_k37 f_Text_readClause_k57_ok f_Text_readClause_k57
        rw [o2.2.2.2.2.1, zs_n _ 13 _ (by omega)]
        obtain ⟨h2, eh2⟩ : ∃ h2, h2 = zm_si h1 13 k (nI u.2.2.1) := ⟨_, rfl⟩
        have w2 : zWr [13] [] h1 h2 := by rw [eh2]; exact zWr_si (by decide) (zWr.refl _ _)
        have o2' : rpN B n h2 (padv B n (pcls u k)) := rpN_z w2 (by decide) o2
        have h213 : ∀ j, j < 4 → h2.2.1 13 j = upd u.2.2.2.2.2.1 k (nI u.2.2.1) j := fun j hj => by
          rw [eh2, zf_si, if_pos rfl, sw.arr 13 (by decide) (by decide)]
          unfold upd
          by_cases z : j = k
          · rw [if_pos z, if_pos z]
          · rw [if_neg z, if_neg z]; exact a13 j hj
        have h214 : h2.2.1 14 = h.2.1 14 := by rw [w2.arr 14 (by decide) (by decide), sw.arr 14 (by decide) (by decide)]
        have eh2' : zm_si h1 13 k (nI (padv B n u).2.2.1) = h2 := by rw [eh2]; rfl
        rw [eh2']
        -- behind E or C
        have rest : ∀ (x : zm_H) (sy : Nat), sy = (if q = 303 then 1 else 6) → (x.2.1 13 = h2.2.1 13 ∧ x.2.1 14 = h2.2.1 14) → okO B n sy (padv B n (pcls u k)) x → f_Text_readClause_k65_ok (nI k) x ∧ ((∃ t, rpC B n (f_Text_readClause_k65 (nI k) x) t ∧ u.1 + 1 ≤ t.1 ∧ rch B n ([0], u) ([0], t)) ∨ ∃ s0, jnk (f_Text_readClause_k65 (nI k) x) s0 ∧ pfl B n ([0], u) s0) := by
          intro x sy esy ⟨x13, x14⟩ ok
          unfold f_Text_readClause_k65_ok f_Text_readClause_k65
          rw [← esy] at st
          rcases ok with ⟨t, t1, ⟨t2, t3⟩, t4, t5, t6⟩ | ⟨s0, j1, j2⟩
          · have t2 : t.2.1 = u.2.1 := t2
            have t3 : t.2.2.2.2.2 = (upd u.2.2.2.2.2.1 k (nI u.2.2.1), u.2.2.2.2.2.2.1, k) := t3
            have t4 : lxE B n u.1 ≤ t.1 := t4
            have t5 : t.2.2.1 + lxE B n u.1 ≤ u.2.2.1 + t.1 := t5
            rw [t1.2.2.2.2.1, zs_n _ 14 _ (by omega)]
            obtain ⟨y, ey⟩ : ∃ y, y = zm_si x 14 k (nI t.2.2.1) := ⟨_, rfl⟩
            have wy : zWr [14] [] x y := by rw [ey]; exact zWr_si (by decide) (zWr.refl _ _)
            rw [← ey]
            obtain ⟨p1, p2⟩ := nd_O hn by0 (rpN_z wy (by decide) t1) (x := 59) (by omega)
            rw [show nI 59 = (59 : Int32) from rfl] at p1 p2
            have nw := f_Text_need_w 59 y
            refine ⟨⟨ik, p1⟩, ?_⟩
            have s159 : ∀ r, stp B n (159 :: r, t) = (if tq B n t.1 = 59 then some (r, padv B n t) else none) := fun r => rfl
            rcases p2 with ⟨p2, p3, p4, p5⟩ | ⟨p2, p3⟩
            · refine Or.inl ⟨pend (padv B n t), ⟨p3, ⟨by show t.2.1 = 0; omega, Or.inr (by show t.2.2.1 < lxE B n t.1; omega)⟩, fun j hj => ?_, fun j hj nb => ?_⟩, by show u.1 + 1 ≤ lxE B n t.1; omega, rch_s st (rch_t (t6 _) (rch_s (by rw [s159, if_pos p2]) (rch_s rfl (rch_r _ _ _))))⟩
              · show (f_Text_need 59 y).2.1 13 j = t.2.2.2.2.2.1 j
                rw [t3, nw.arr 13 (by decide) (by decide), wy.arr 13 (by decide) (by decide), x13]
                exact h213 j hj
              · have nb : ¬ t.2.2.2.2.2.1 j = -1 := nb
                show (f_Text_need 59 y).2.1 14 j = upd t.2.2.2.2.2.2.1 t.2.2.2.2.2.2.2 (nI t.2.2.1) j
                rw [t3] at nb ⊢
                dsimp only at nb ⊢
                rw [nw.arr 14 (by decide) (by decide), ey, zf_si, if_pos rfl]
                unfold upd at nb ⊢
                by_cases z : j = k
                · rw [if_pos z, if_pos z]
                · rw [if_neg z] at nb ⊢
                  rw [if_neg z, x14, h214]
                  exact a14 j hj nb
            · exact Or.inr ⟨_, p3, pfl_r (rch_s st (t6 _)) (pfl_0 (by rw [s159, if_neg p2]))⟩
          · obtain ⟨y, ey⟩ : ∃ y, y = zs x 14 (nI k) (zf x 10 10) := ⟨_, rfl⟩
            have wy : zWr [14] [] x y := by rw [ey, zs_n _ 14 _ (by omega)]; exact zWr_si (by decide) (zWr.refl _ _)
            rw [← ey]
            obtain ⟨p1, p2⟩ := jn_nd (jnk_z wy (by decide) j1) (x := 59) (by decide)
            exact ⟨⟨ik, p1⟩, Or.inr ⟨s0, p2, pfl_r (rch_s st (rch_r _ _ _)) (j2 _)⟩⟩
        have d0 : (padv B n (pcls u k)).2.1 = 0 := hd
        have cp : (padv B n (pcls u k)).2.2.1 ≤ (padv B n (pcls u k)).1 := by show u.2.2.1 ≤ lxE B n u.1; omega
        by_cases c4 : nI k = 3
        · have k3 : k = 3 := nI_inj (by omega) (by omega) (c4.trans (show (3 : Int32) = nI 3 from rfl))
          rw [if_pos c4]
          obtain ⟨m1, m2⟩ := cl_1 hn by0 8 33 0 (by omega) h2 _ o2' d0 cp
          have fw := f_rec_w 60 101 0 h2
          have m1 : f_Text_readSum60_ok 0 h2 := m1
          have m2 : okO B n 1 (padv B n (pcls u k)) (f_Text_readSum60 0 h2) := m2
          have fw : zWr [12] [(10, 2), (10, 7), (10, 8), (10, 10)] h2 (f_Text_readSum60 0 h2) := fw
          obtain ⟨l1, l2⟩ := rest _ 1 (by rw [if_pos (by omega)]) ⟨fw.arr 13 (by decide) (by decide), fw.arr 14 (by decide) (by decide)⟩ m2
          exact ⟨⟨fun z => absurd z c1, fun _ => ⟨fun z => absurd z c2, fun _ => ⟨ik, fun _ => ⟨o1, ik, fun _ => ⟨m1, l1⟩, fun z => absurd c4 z⟩, fun z => absurd c3 z⟩⟩⟩, l2⟩
        · have k3 : ¬ k = 3 := fun z => c4 (by rw [z]; rfl)
          rw [if_neg c4]
          obtain ⟨m1, m2⟩ := (cl_8 hn by0 8 29 0 (by omega)).2 h2 _ o2' d0 cp
          have fw := f_rec_w 60 106 0 h2
          have m1 : f_Text_readEither60_ok 0 h2 := m1
          have m2 : okO B n 6 (padv B n (pcls u k)) (f_Text_readEither60 0 h2) := m2
          have fw : zWr [12] [(10, 2), (10, 7), (10, 8), (10, 10)] h2 (f_Text_readEither60 0 h2) := fw
          obtain ⟨l1, l2⟩ := rest _ 6 (by rw [if_neg (by omega)]) ⟨fw.arr 13 (by decide) (by decide), fw.arr 14 (by decide) (by decide)⟩ m2
          exact ⟨⟨fun z => absurd z c1, fun _ => ⟨fun z => absurd z c2, fun _ => ⟨ik, fun _ => ⟨o1, ik, fun z => absurd z c4, fun _ => ⟨m1, l1⟩⟩, fun z => absurd c3 z⟩⟩⟩, l2⟩
      · rw [if_neg c3]
        refine ⟨⟨fun z => absurd z c1, fun _ => ⟨fun z => absurd z c2, fun _ => ⟨ik, fun z => absurd z c3, fun _ => ro_O R⟩⟩⟩, bad ?_⟩
        rw [stl, if_neg nq, show q - 300 = k by omega, if_neg (fun z => c3 z.2)]
theorem ff_N {n : Nat} {h : zm_H} (hn : n ≤ 400) (by0 : byR (h.2.1 11) n) (e1 : zf h 10 1 = nI n) {s : PSt} (s0 : s.1 = 0 ∧ s.2.1 = 0 ∧ s.2.2.1 = 0) (sb : ∀ k, k < 4 → s.2.2.2.2.2.1 k = -1) : f_Text_findFault_ok h ∧ ((∃ t, rpC (h.2.1 11) n (f_Text_findFault h).2 t ∧ (f_Text_findFault h).1 = -1 ∧ hlt (h.2.1 11) n ([0], s) ([], t)) ∨ ∃ x, jnk (f_Text_findFault h).2 x ∧ (f_Text_findFault h).1 = nI x ∧ pfl (h.2.1 11) n ([0], s) x) := by
  obtain ⟨B, eB⟩ : ∃ B, B = h.2.1 11 := ⟨_, rfl⟩
  rw [← eB] at by0 ⊢
  unfold f_Text_findFault_ok f_Text_findFault f_Text_findFault_k18_ok f_Text_findFault_k18 f_Text_findFault_k26_ok f_Text_findFault_k26 f_Text_findFault_k30_ok f_Text_findFault_k30
  obtain ⟨h0, eh0⟩ : ∃ h0, h0 = zp (zp h 10 2 (-1)) 10 10 0 := ⟨_, rfl⟩
  have w0 : zWr [] [(10, 2), (10, 10)] h h0 := by rw [eh0]; exact zWr_p (by decide) (zWr_p (by decide) (zWr.refl _ _))
  have z8 : zf h0 10 10 = 0 := by rw [eh0]; exact zm_in _ _ _ _
  have z2 : zf h0 10 2 = -1 := by
    rw [eh0]; show (zm_si (zm_si h 10 2 _) 10 10 0).2.1 10 2 = _
    rw [zf_si, if_pos rfl, if_neg (by decide)]; exact zm_in _ _ _ _
  rw [← eh0]
  obtain ⟨a1, a2, a3⟩ := fl_13 (-1) h0
  obtain ⟨h1, eh1⟩ : ∃ h1, h1 = f_Arrays_fill_13 (-1) h0 := ⟨_, rfl⟩
  rw [← eh1] at a2 a3 ⊢
  obtain ⟨b1, b2, b3⟩ := fl_14 (-1) h1
  obtain ⟨h2, eh2⟩ : ∃ h2, h2 = f_Arrays_fill_14 (-1) h1 := ⟨_, rfl⟩
  rw [← eh2] at b2 b3 ⊢
  have w2 : zWr [13, 14] [(10, 2), (10, 10)] h h2 := zWr_tr b2 (by decide) (by decide) (zWr_tr a2 (by decide) (by decide) (zWr_tr w0 (by decide) (by decide) (zWr.refl _ _)))
  have f10 : ∀ k, h2.2.1 10 k = h0.2.1 10 k := fun k => (b2.fld 10 k (by decide) (by simp)).trans (a2.fld 10 k (by decide) (by simp))
  have B2 : h2.2.1 11 = B := by rw [w2.arr 11 (by decide) (by decide)]; exact eB.symm
  obtain ⟨c1, cw, m, cT⟩ := rt_N (h := h2) hn (by rw [B2]; exact by0) ((w2.fld 10 1 (by decide) (by decide)).trans e1)
  rw [B2] at cT
  obtain ⟨h4, eh4⟩ : ∃ h4, h4 = f_Text_readTokens h2 := ⟨_, rfl⟩
  rw [← eh4] at cw cT ⊢
  have z162 : zr h4 162 0 = nI (tq B n 0) := by
    show zr h4 162 (nI 0) = _
    rw [zr_n h4 162 (by omega)]
    exact (cT.2.2.2.2 0 (Nat.zero_le _)).1
  rw [z162]
  obtain ⟨h3, eh3⟩ : ∃ h3, h3 = zp (zp h4 10 7 0) 10 8 (nI (tq B n 0)) := ⟨_, rfl⟩
  have vw : zWr [] [(10, 7), (10, 8)] h4 h3 := by rw [eh3]; exact zWr_p (by decide) (zWr_p (by decide) (zWr.refl _ _))
  have x8 : zf h3 10 8 = nI (tq B n 0) := by rw [eh3]; exact zm_in _ _ _ _
  have x7 : zf h3 10 7 = nI 0 := by
    rw [eh3]; show (zm_si (zm_si h4 10 7 _) 10 8 _).2.1 10 7 = _
    rw [zf_si, if_pos rfl, if_neg (by decide)]; exact zm_in _ _ _ _
  rw [← eh3]
  have R3 : rpC B n h3 s := by
    refine ⟨⟨⟨?_, (vw.fld 10 1 (by decide) (by decide)).trans ((cw.fld 10 1 (by decide) (by decide)).trans ((w2.fld 10 1 (by decide) (by decide)).trans e1)), (vw.fld 10 2 (by decide) (by decide)).trans ((cw.fld 10 2 (by decide) (by decide)).trans ((f10 2).trans z2))⟩, ⟨⟨m, 0, tkA_z (vw.fld 10 6 (by decide) (by decide)) (vw.arr 162 (by decide) (by decide)) (vw.arr 163 (by decide) (by decide)) (vw.arr 164 (by decide) (by decide)) cT, Nat.zero_le _, x7, s0.1.symm⟩, by rw [s0.1]; exact x8, trivial⟩, by omega, by omega, ?_, fun i hi => by omega⟩, ⟨s0.2.1, Or.inl s0.2.2⟩, fun k hk => ?_, fun k hk z => absurd (sb k hk) z⟩
    · rw [vw.arr 11 (by decide) (by decide), cw.arr 11 (by decide) (by decide)]; exact B2
    · rw [s0.2.2]; exact (vw.fld 10 10 (by decide) (by decide)).trans ((cw.fld 10 10 (by decide) (by decide)).trans ((f10 10).trans z8))
    · rw [vw.arr 13 (by decide) (by decide), cw.arr 13 (by decide) (by decide), b2.arr 13 (by decide) (by decide), a3 k hk, sb k hk]
  obtain ⟨F, eF, -⟩ := zF_ex
  rw [← eF]
  have key := zlpF eF (b := fun t => f_Text_findFault_l47_b t.1 t.2) (o := fun t => f_Text_findFault_l47_b_ok t.1 t.2) 400 (by omega)
    (fun k t => t.1 = nI k ∧ ((∃ u, rpC B n t.2 u ∧ k ≤ u.1 ∧ rch B n ([0], s) ([0], u)) ∨ ∃ x, jnk t.2 x ∧ pfl B n ([0], s) x))
    (fun r => (∃ t, rpC B n r.2.2 t ∧ hlt B n ([0], s) ([], t)) ∨ ∃ x, jnk r.2.2 x ∧ pfl B n ([0], s) x) (0, h3)
    ⟨rfl, Or.inl ⟨s, R3, by omega, rch_r _ _ _⟩⟩
    (by
      rintro k ⟨v, y⟩ hk ⟨q1, q2⟩
      dsimp only at q1 q2
      subst q1
      have g0 : ¬ ((400 : Int32) ≤ nI k) := by rw [show (400 : Int32) = nI 400 from rfl, nx_le (by omega) (by omega)]; omega
      show f_Text_findFault_l47_b_ok (nI k) y ∧ _
      unfold f_Text_findFault_l47_b_ok f_Text_findFault_l47_b f_Text_findFault_l47_k76
      dsimp only
      rw [if_neg g0]
      rcases q2 with ⟨u, u1, u2, u3⟩ | ⟨x, j1, j2⟩
      · have e2 : zf y 10 2 = -1 := u1.1.1.2.2
        have e4 : zf y 10 8 = nI (tq B n u.1) := u1.1.2.1.2.1
        rw [if_pos e2, e4]
        have i257 := tq_i (B := B) (n := n) (p := u.1) (x := 257) (by omega)
        by_cases c : nI (tq B n u.1) = 257
        · rw [if_pos c]
          have c' := i257.mp c
          have st : stp B n ([0], u) = some ([], u) := by
            show (if tq B n u.1 = 257 then some ([], u) else _) = _
            rw [if_pos c']
          exact ⟨⟨fun z => absurd z g0, fun _ => ⟨fun _ => ⟨fun _ => trivial, fun z => absurd c z⟩, fun z => absurd e2 z⟩⟩, Or.inr ⟨by simp, Or.inl ⟨u, u1, rch_t u3 (rch_s st (rch_r _ _ _)), rfl⟩⟩⟩
        · rw [if_neg c]
          have c' : ¬ tq B n u.1 = 257 := fun z => c (i257.mpr z)
          obtain ⟨o1, o2⟩ := rc_N hn by0 u1 c'
          rw [← nI_succ]
          refine ⟨⟨fun z => absurd z g0, fun _ => ⟨fun _ => ⟨fun z => absurd z c, fun _ => o1⟩, fun z => absurd e2 z⟩⟩, Or.inl ⟨rfl, rfl, ?_⟩⟩
          rcases o2 with ⟨t, t1, t2, t3⟩ | ⟨x, t1, t2⟩
          · exact Or.inl ⟨t, t1, by omega, rch_t u3 t3⟩
          · exact Or.inr ⟨x, t1, pfl_r u3 t2⟩
      · rw [if_neg (jn_f j1)]
        exact ⟨⟨fun z => absurd z g0, fun _ => ⟨fun z => absurd z (jn_f j1), fun _ => trivial⟩⟩, Or.inr ⟨by simp, Or.inr ⟨x, j1, j2⟩⟩⟩)
    (by
      rintro ⟨v, y⟩ ⟨q1, q2⟩
      dsimp only at q1 q2
      subst q1
      have g0 : (400 : Int32) ≤ nI 400 := by decide
      show f_Text_findFault_l47_b_ok (nI 400) y ∧ _
      unfold f_Text_findFault_l47_b_ok f_Text_findFault_l47_b
      dsimp only
      rw [if_pos g0]
      refine ⟨⟨fun _ => trivial, fun z => absurd g0 z⟩, by simp, ?_⟩
      rcases q2 with ⟨u, u1, u2, u3⟩ | ⟨x, j1, j2⟩
      · have c' := tq_end (B := B) hn u1.1.2.2.1 (by omega)
        have st : stp B n ([0], u) = some ([], u) := by
          show (if tq B n u.1 = 257 then some ([], u) else _) = _
          rw [if_pos c']
        exact Or.inl ⟨u, u1, rch_t u3 (rch_s st (rch_r _ _ _)), rfl⟩
      · exact Or.inr ⟨x, j1, j2⟩)
  obtain ⟨k1, k2⟩ := key
  obtain ⟨r, er⟩ : ∃ r, r = f_Text_findFault_l47 F (0, h3) := ⟨_, rfl⟩
  have k2 : (∃ t, rpC B n r.2.2 t ∧ hlt B n ([0], s) ([], t)) ∨ ∃ x, jnk r.2.2 x ∧ pfl B n ([0], s) x := by rw [er]; exact k2
  rw [← er]
  unfold f_Text_findFault_a47 f_Text_findFault_k82
  refine ⟨⟨a1, b1, c1, k1, trivial⟩, ?_⟩
  rcases k2 with ⟨t, t1, t2⟩ | ⟨x, j1, j2⟩
  · exact Or.inl ⟨t, t1, t1.1.1.2.2, t2⟩
  · exact Or.inr ⟨x, j1, j1.1, j2⟩
