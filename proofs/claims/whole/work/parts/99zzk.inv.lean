/-! ===== all that holds between two calls ===== -/
theorem I_sw_m {w w' n e : Nat} {h : zm_H} (hw : w ≤ w') (H : I_sw w n e h) : I_sw w' n e h := by
  obtain ⟨a, b, c, d, f, g⟩ := H
  refine ⟨a, fun k hk => ?_, c, fun k hk => ?_, f, g⟩
  · obtain ⟨b1, b2, b3, b4, ⟨t, t1, t2, t3⟩, b6⟩ := b k hk
    exact ⟨b1, b2, b3, b4, ⟨t, by omega, t2, t3⟩, b6⟩
  · obtain ⟨d1, d2, d3, d4, ⟨t, t1, t2, t3⟩, d6⟩ := d k hk
    exact ⟨d1, d2, d3, d4, ⟨t, by omega, t2, t3⟩, d6⟩
theorem I_rf_m {w w' nr : Nat} {h : zm_H} (hw : w ≤ w') (H : I_rf w nr h) : I_rf w' nr h := by
  obtain ⟨a, b, c⟩ := H
  refine ⟨a, b, fun r hr => ?_⟩
  obtain ⟨c1, c2, k, k1, k2⟩ := c r hr
  exact ⟨c1, c2, k, by omega, k2⟩
theorem I_tx_z {n : Nat} {h h' : zm_H} (e : zEq [11, 93] [(10, 1), (92, 1)] h h') (H : I_tx n h) : I_tx n h' := by
  obtain ⟨a, b, c, d, f⟩ := H
  exact ⟨a, (e.f 10 1 (by simp)).trans b, (e.f 92 1 (by simp)).trans c, by rw [e.a 11 (by simp), e.a 93 (by simp)]; exact d, by rw [e.a 11 (by simp)]; exact f⟩
theorem I_kd_w {ns : Nat} {W : List Nat} {F : List (Nat × Nat)} {h h' : zm_H} (w : zWr W F h h') (H : I_kd ns h) : I_kd ns h' := by unfold I_kd; rw [w.1]; exact H
theorem I_pl_z {np : Nat} {h h' : zm_H} (e : zEq [86, 148] [(82, 7), (92, 75)] h h') (H : I_pl np h) : I_pl np h' := by
  obtain ⟨⟨a, b, c⟩, d, f⟩ := H
  exact ⟨⟨a, (e.f 82 7 (by simp)).trans b, (e.f 92 75 (by simp)).trans c⟩, by rw [e.a 86 (by simp), e.a 148 (by simp)]; exact d, fun k hk => by rw [e.a 148 (by simp)]; exact f k hk⟩
theorem I_pd_z {np : Nat} {h h' : zm_H} (e : zEq [86, 148] [(82, 7), (92, 75)] h h') (H : I_pd np h) : I_pd np h' := fun i j hi hj => by rw [e.a 148 (by simp)]; exact H i j hi hj
def bkN (W : List Nat) (F : List (Nat × Nat)) : Bool := W.all (fun i => decide (i < 23) || (decide (31 < i) && decide (i < 37)) || (decide (45 < i) && decide (i < 64)) || decide (71 < i)) && F.all (fun p => (decide (p.1 < 23) || p.1 == 23 || (decide (31 < p.1) && decide (p.1 < 37)) || p.1 == 37 || (decide (45 < p.1) && decide (p.1 < 64)) || decide (71 < p.1)) && p != (23, 4) && p != (37, 4))
def bkM (W : List Nat) (F : List (Nat × Nat)) : Bool := W.all (fun i => decide (i < 92) || (decide (92 < i) && decide (i < 118)) || (decide (130 < i) && decide (i < 137)) || decide (145 < i)) && F.all (fun p => (decide (p.1 < 118) || decide (145 < p.1)) && p != (92, 41))
theorem I_bk_w {nr w : Nat} {g : GS} {W : List Nat} {F : List (Nat × Nat)} {h h' : zm_H} (z : zWr W F h h') (c1 : bkN W F = true) (c2 : bkM W F = true) (c3 : ([47, 48, 49, 131, 132, 133].all (fun i => !(W.contains i) && F.all (fun p => p.1 != i))) = true) (c4 : ([(37, 3)].all (fun p => !(W.contains p.1) && !(F.contains p))) = true) (B : I_bk nr w g h) : I_bk nr w g h' := by
  obtain ⟨b1, b2, b3, b4, b5, b6, b7⟩ := B
  have e := z.eq c3 c4
  refine ⟨b1, rlN_w z c1 b2, (rlM_w z c2 b3).1, (e.f 37 3 (by simp)).trans b4, ?_, ?_, ?_⟩
  · rw [e.a 47 (by simp), e.a 131 (by simp)]; exact b5
  · rw [e.a 48 (by simp), e.a 132 (by simp)]; exact b6
  · rw [e.a 49 (by simp), e.a 133 (by simp)]; exact b7
theorem I_th_b {nr w : Nat} {g : GS} {h : zm_H} (B : I_bk nr w g h) : I_th nr g.2.2.1 h := by
  obtain ⟨G, ⟨n1, n2, n3, n4, J⟩, ⟨m1, m2, m3, m4, ⟨m5, m6, m7⟩, m8⟩, -⟩ := B
  have t : ∀ i, i < 5 → h.2.1 (27 + i) = g.2.2.2 i := fun i hi => by
    rw [← n4]
    funext k
    show _ = (if i < 5 then h.2.1 (27 + i) k else 0)
    rw [if_pos hi]
  have t0 : h.2.1 27 = g.2.2.2 0 := t 0 (by omega)
  have t1 : h.2.1 28 = g.2.2.2 1 := t 1 (by omega)
  have t2 : h.2.1 29 = g.2.2.2 2 := t 2 (by omega)
  have t3 : h.2.1 30 = g.2.2.2 3 := t 3 (by omega)
  have t4 : h.2.1 31 = g.2.2.2 4 := t 4 (by omega)
  refine ⟨⟨G.2.2, J.2.1, m4⟩, ⟨by rw [t0, m5], by rw [t2, m6], by rw [t4, m7]⟩, fun k hk => ⟨J.2.2 k hk, ?_⟩⟩
  rw [t1, t3]; exact m8 k hk
def I_br (h : zm_H) : Prop := zf h 0 1 = zf h 92 47 ∧ zf h 0 2 = zf h 92 48
theorem I_br_z {h h' : zm_H} (e : zEq [] [(0, 1), (0, 2), (92, 47), (92, 48)] h h') (H : I_br h) : I_br h' := ⟨((e.f 0 1 (by simp)).trans H.1).trans (e.f 92 47 (by simp)).symm, ((e.f 0 2 (by simp)).trans H.2).trans (e.f 92 48 (by simp)).symm⟩
/-- the numbers that it speaks of -/
abbrev IvP := Nat × Nat × Nat × Nat × Nat × Nat × Nat × Nat × Nat × Nat × (Nat → Nat) × (Nat → Nat) × GS
/-- w n e nx ns nf nr nl np J L V g -/
def Iv (w n e nx ns nf nr nl np J : Nat) (L V : Nat → Nat) (g : GS) (h : zm_H) : Prop := I_now w h ∧ I_sw w n e h ∧ I_cb h ∧ I_tx nx h ∧ I_rl ns nf h ∧ I_kd ns h ∧ I_rf w nr h ∧ I_ln nl h ∧ I_pl np h ∧ I_pd np h ∧ I_bk nr w g h ∧ I_jb J L V h ∧ I_an nf nr g.2.2.1 n e w h ∧ I_br h
def Inv (h : zm_H) : Prop := ∃ (w n e nx ns nf nr nl np J : Nat) (L V : Nat → Nat) (g : GS), Iv w n e nx ns nf nr nl np J L V g h
/-- a call that touches nothing of it -/
def ivF (W : List Nat) (F : List (Nat × Nat)) : Bool :=
  ([] : List Nat).all (fun i => !(W.contains i) && F.all (fun p => p.1 != i)) && F_now.all (fun p => !(W.contains p.1) && !(F.contains p)) &&
  (S_sw.all (fun i => !(W.contains i) && F.all (fun p => p.1 != i)) && F_sw.all (fun p => !(W.contains p.1) && !(F.contains p))) &&
  F_cb.all (fun p => !(W.contains p.1) && !(F.contains p)) &&
  ([11, 93].all (fun i => !(W.contains i) && F.all (fun p => p.1 != i)) && [(10, 1), (92, 1)].all (fun p => !(W.contains p.1) && !(F.contains p))) &&
  wfR W F &&
  (W.all (fun i => ![23, 24, 25, 26, 92, 112, 113, 114].contains i) && F.all (fun p => ![24, 25, 26, 112, 113, 114].contains p.1 && p != (23, 0) && p != (92, 33))) &&
  ([83, 84, 85, 115, 116, 117].all (fun i => !(W.contains i) && F.all (fun p => p.1 != i)) && [(82, 3), (92, 37)].all (fun p => !(W.contains p.1) && !(F.contains p))) &&
  ([86, 148].all (fun i => !(W.contains i) && F.all (fun p => p.1 != i)) && [(82, 7), (92, 75)].all (fun p => !(W.contains p.1) && !(F.contains p))) &&
  (bkN W F && bkM W F && [47, 48, 49, 131, 132, 133].all (fun i => !(W.contains i) && F.all (fun p => p.1 != i)) && [(37, 3)].all (fun p => !(W.contains p.1) && !(F.contains p))) &&
  ([73, 74, 146, 147, 78, 79].all (fun i => !(W.contains i) && F.all (fun p => p.1 != i)) && [(72, 2), (92, 72)].all (fun p => !(W.contains p.1) && !(F.contains p))) &&
  (anF W F && raF W F && W.all (fun i => i != 0) && F.all (fun p => p != (0, 10) && p != (0, 11))) &&
  [(0, 1), (0, 2), (92, 47), (92, 48)].all (fun p => !(W.contains p.1) && !(F.contains p))
theorem Iv_w {w n e nx ns nf nr nl np J : Nat} {L V : Nat → Nat} {g : GS} {W : List Nat} {F : List (Nat × Nat)} {h h' : zm_H} (z : zWr W F h h') (c : ivF W F = true) (I : Iv w n e nx ns nf nr nl np J L V g h) : Iv w n e nx ns nf nr nl np J L V g h' := by
  unfold ivF at c
  simp only [Bool.and_eq_true] at c
  obtain ⟨⟨⟨⟨⟨⟨⟨⟨⟨⟨⟨⟨c0, c1⟩, c2, c3⟩, c4⟩, c5, c6⟩, c7⟩, c8⟩, c9, c10⟩, c11, c12⟩, ⟨⟨c13, c14⟩, c15⟩, c16⟩, c17, c18⟩, c19⟩, c20⟩ := c
  obtain ⟨i1, i2, i3, i4, i5, i6, i7, i8, i9, i10, i11, i12, i13, i14⟩ := I
  have c8' : (W.all (fun i => ![23, 24, 25, 26, 92, 112, 113, 114].contains i) && F.all (fun p => ![24, 25, 26, 112, 113, 114].contains p.1 && p != (23, 0) && p != (92, 33))) = true := by rw [Bool.and_eq_true]; exact c8
  have c19' : (anF W F && raF W F && W.all (fun i => i != 0) && F.all (fun p => p != (0, 10) && p != (0, 11))) = true := by simp only [Bool.and_eq_true]; exact c19
  have ej := z.eq (S := [73, 74, 146, 147, 78, 79]) (G := []) c17 rfl
  refine ⟨I_now_z (z.eq c0 c1) i1, I_sw_z (z.eq c2 c3) i2, I_cb_z (z.eq rfl c4) i3, I_tx_z (z.eq c5 c6) i4, I_rl_w c7 z i5, I_kd_w z i6, I_rf_w z c8' i7, I_ln_w z c9 c10 i8, I_pl_z (z.eq c11 c12) i9, I_pd_z (z.eq c11 c12) i10, I_bk_w z c13 c14 c15 c16 i11, ?_, I_an_w c19' z i13, I_br_z (z.eq rfl c20) i14⟩
  obtain ⟨j1, j2, j3, j4, j5, j6⟩ := i12
  have ef := z.eq (S := []) (G := [(72, 2), (92, 72)]) rfl c18
  refine ⟨j1, (ef.f 72 2 (by simp)).trans j2, (ef.f 92 72 (by simp)).trans j3, fun j hj => ?_, by rw [ej.a 78 (by simp)]; exact j5, by rw [ej.a 79 (by simp)]; exact j6⟩
  rw [ej.a 73 (by simp), ej.a 74 (by simp), ej.a 146 (by simp), ej.a 147 (by simp)]; exact j4 j hj
