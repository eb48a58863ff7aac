/-! ===== every call keeps it: the others ===== -/
theorem I_bk_q {nr w : Nat} {g : GS} {W : List Nat} {F : List (Nat × Nat)} {h h' : zm_H} (z : zWr W F h h') (c2 : ([27, 28, 29, 30, 31, 38, 39, 40, 41, 42, 43, 44, 45, 64, 65, 66, 67, 68, 69, 70, 71, 118, 119, 120, 121, 122, 123, 124, 125, 126, 127, 128, 129, 130, 137, 138, 139, 140, 141, 142, 143, 144, 145, 47, 48, 49, 131, 132, 133].all (fun i => !(W.contains i) && F.all (fun p => p.1 != i))) = true) (c3 : ([(23, 4), (37, 4), (37, 3), (92, 41)].all (fun p => !(W.contains p.1) && !(F.contains p))) = true) (B : I_bk nr w g h) : I_bk nr w g h' := by
  obtain ⟨b1, ⟨n1, n2, n3, n4, J⟩, ⟨m1, m2, m3, m4, ⟨m5, m6, m7⟩, m8⟩, b4, b5, b6, b7⟩ := B
  have e := z.eq c2 c3
  refine ⟨b1, ⟨?_, ?_, (e.f 37 4 (by simp)).trans n3, ?_, J.1, (e.f 23 4 (by simp)).trans J.2.1, ?_⟩, ⟨?_, ?_, ?_, (e.f 92 41 (by simp)).trans m4, ⟨(e.a 118 (by simp)).trans m5, (e.a 120 (by simp)).trans m6, (e.a 122 (by simp)).trans m7⟩, ?_⟩, (e.f 37 3 (by simp)).trans b4, ?_, ?_, ?_⟩
  · exact (vC_eq (fun i hi => e.a (38 + i) (by simp; omega))).trans n1
  · exact (uN_eq (fun i hi => e.a (64 + i) (by simp; omega))).trans n2
  · exact (tB_eq (fun i hi => e.a (27 + i) (by simp; omega))).trans n4
  · rw [e.a 28 (by simp), e.a 29 (by simp), e.a 30 (by simp), e.a 31 (by simp)]; exact J.2.2
  · exact (vM_eq (fun i hi => e.a i (by simp at hi ⊢; omega)) (e.1 127 (by simp)).2.1).trans m1
  · exact (uM_eq (fun i hi => e.a i (by simp at hi ⊢; omega))).trans m2
  · exact mB_eq (fun i hi => e.a i (by simp at hi ⊢; omega)) m3
  · rw [e.a 119 (by simp), e.a 121 (by simp)]; exact m8
  · rw [e.a 47 (by simp), e.a 131 (by simp)]; exact b5
  · rw [e.a 48 (by simp), e.a 132 (by simp)]; exact b6
  · rw [e.a 49 (by simp), e.a 133 (by simp)]; exact b7
theorem K_count {h : zm_H} (I : Inv h) (p1 : Int32) : f_N_count_ok p1 h ∧ f_M_count_ok p1 h ∧ f_N_count p1 h = f_M_count p1 h := by
  obtain ⟨w, n, e, nx, ns, nf, nr, nl, np, J, L, V, g, I⟩ := I
  obtain ⟨i1, i2, i3, i4, i5, i6, i7, i8, i9, i10, i11, i12, i13, i14⟩ := id I
  have T := (I_th_b i11).1
  have e91 : zf h 91 1 = zf h 92 78 := by
    obtain ⟨_, _, -, -, -, -, a, b⟩ := i3
    exact a.trans b.symm
  exact c_count (i1.2.1.trans i1.2.2.symm) (i7.1.2.1.trans i7.1.2.2.symm) (i2.1.2.2.1.trans i2.1.2.2.2.1.symm) (i2.1.2.2.2.2.1.trans i2.1.2.2.2.2.2.symm) (i5.1.1.2.1.trans i5.1.1.2.2.symm) (T.2.1.trans T.2.2.symm) (i8.1.2.1.trans i8.1.2.2.symm) (i4.2.1.trans i4.2.2.1.symm) e91 (i12.2.1.trans i12.2.2.1.symm) (i9.1.2.1.trans i9.1.2.2.symm) (bk_hb i11).1 p1
theorem K_boat {h : zm_H} (I : Inv h) (p1 p2 : Int32) : f_N_boat_ok p1 p2 h ∧ f_M_boat_ok p1 p2 h ∧ f_N_boat p1 p2 h = f_M_boat p1 p2 h := by
  obtain ⟨w, n, e, nx, ns, nf, nr, nl, np, J, L, V, g, I⟩ := I
  obtain ⟨i1, i2, i3, i4, i5, i6, i7, i8, i9, i10, i11, i12, i13, i14⟩ := id I
  obtain ⟨b1, b2, b3, b4, b5, b6, b7⟩ := bk_hb i11
  exact a_boat b2 b3 b4 b7 p1 p2
theorem K_parts {h : zm_H} (I : Inv h) (p1 p2 : Int32) : f_N_parts_ok p1 p2 h ∧ f_M_parts_ok p1 p2 (f_N_parts p1 p2 h).2 ∧ (f_N_parts p1 p2 h).1 = (f_M_parts p1 p2 (f_N_parts p1 p2 h).2).1 ∧ Inv (f_M_parts p1 p2 (f_N_parts p1 p2 h).2).2 := by
  obtain ⟨w, n, e, nx, ns, nf, nr, nl, np, J, L, V, g, I⟩ := I
  obtain ⟨i1, i2, i3, i4, i5, i6, i7, i8, i9, i10, i11, i12, i13, i14⟩ := id I
  have z : zWr [64, 137] [] h (f_M_parts p1 p2 (f_N_parts p1 p2 h).2).2 := zWr_tr (f_M_parts_w p1 p2 _) (by decide) (by decide) (zWr_tr (f_N_parts_w p1 p2 h) (by decide) (by decide) (zWr.refl _ _))
  obtain ⟨b1, b2, b3, b4, b5, b6, b7⟩ := bk_hb i11
  obtain ⟨o1, o2, o3, o4⟩ := a_parts b1 b5 p1 p2
  obtain ⟨g', eg, q⟩ : ∃ g' : GS, g'.2.2.1 = g.2.2.1 ∧ I_bk nr w g' (f_M_parts p1 p2 (f_N_parts p1 p2 h).2).2 := by
    rcases o4 with ⟨k, v, k1, k2, k3, o4⟩ | o4
    · rw [o4]; exact ⟨(g.1, zm_u g.2.1 0 k v, g.2.2.1, g.2.2.2), rfl, bk_parts i11 k1 k2 k3⟩
    · rw [o4]; exact ⟨g, rfl, i11⟩
  exact ⟨o1, o2, o3, w, n, e, nx, ns, nf, nr, nl, np, J, L, V, g', I_now_z (z.eq (by decide) (by decide)) i1, I_sw_z (z.eq (by decide) (by decide)) i2, I_cb_z (z.eq (by decide) (by decide)) i3, I_tx_z (z.eq (by decide) (by decide)) i4, I_rl_w (by decide) z i5, I_kd_w z i6, I_rf_w z (by decide) i7, I_ln_w z (by decide) (by decide) i8, I_pl_z (z.eq (by decide) (by decide)) i9, I_pd_z (z.eq (by decide) (by decide)) i10, q, I_jb_z (z.eq (by decide) (by decide)) i12, by rw [eg]; exact I_an_w (by decide) z i13, I_br_z (z.eq (by decide) (by decide)) i14⟩
theorem K_load {h : zm_H} (I : Inv h) (p1 p2 p3 : Int32) : f_N_load_ok p1 p2 p3 h ∧ f_M_load_ok p1 p2 p3 (f_N_load p1 p2 p3 h).2 ∧ (f_N_load p1 p2 p3 h).1 = (f_M_load p1 p2 p3 (f_N_load p1 p2 p3 h).2).1 ∧ Inv (f_M_load p1 p2 p3 (f_N_load p1 p2 p3 h).2).2 := by
  obtain ⟨w, n, e, nx, ns, nf, nr, nl, np, J, L, V, g, I⟩ := I
  obtain ⟨i1, i2, i3, i4, i5, i6, i7, i8, i9, i10, i11, i12, i13, i14⟩ := id I
  have z : zWr [64, 65, 137, 138] [] h (f_M_load p1 p2 p3 (f_N_load p1 p2 p3 h).2).2 := zWr_tr (f_M_load_w p1 p2 p3 _) (by decide) (by decide) (zWr_tr (f_N_load_w p1 p2 p3 h) (by decide) (by decide) (zWr.refl _ _))
  obtain ⟨b1, b2, b3, b4, b5, b6, b7⟩ := bk_hb i11
  obtain ⟨o1, o2, o3, o4⟩ := a_load b1 b5 b2 b6 b7 p1 p2 p3
  obtain ⟨g', eg, q⟩ : ∃ g' : GS, g'.2.2.1 = g.2.2.1 ∧ I_bk nr w g' (f_M_load p1 p2 p3 (f_N_load p1 p2 p3 h).2).2 := by
    rcases o4 with ⟨b, k, va, vs, k1, k2, k3, k4, k5, k6, k7, o4⟩ | o4
    · rw [o4]; exact ⟨(g.1, zm_u (zm_u g.2.1 1 (3 * b + k) va) 0 k vs, g.2.2.1, g.2.2.2), rfl, bk_load i11 k1 k2 k3 k4 k5 k6 k7⟩
    · rw [o4]; exact ⟨g, rfl, i11⟩
  exact ⟨o1, o2, o3, w, n, e, nx, ns, nf, nr, nl, np, J, L, V, g', I_now_z (z.eq (by decide) (by decide)) i1, I_sw_z (z.eq (by decide) (by decide)) i2, I_cb_z (z.eq (by decide) (by decide)) i3, I_tx_z (z.eq (by decide) (by decide)) i4, I_rl_w (by decide) z i5, I_kd_w z i6, I_rf_w z (by decide) i7, I_ln_w z (by decide) (by decide) i8, I_pl_z (z.eq (by decide) (by decide)) i9, I_pd_z (z.eq (by decide) (by decide)) i10, q, I_jb_z (z.eq (by decide) (by decide)) i12, by rw [eg]; exact I_an_w (by decide) z i13, I_br_z (z.eq (by decide) (by decide)) i14⟩
theorem K_send {h : zm_H} (I : Inv h) (p1 p2 p3 p4 p5 : Int32) : f_N_send_ok p1 p2 p3 p4 p5 h ∧ f_M_send_ok p1 p2 p3 p4 p5 (f_N_send p1 p2 p3 p4 p5 h).2 ∧ (f_N_send p1 p2 p3 p4 p5 h).1 = (f_M_send p1 p2 p3 p4 p5 (f_N_send p1 p2 p3 p4 p5 h).2).1 ∧ Inv (f_M_send p1 p2 p3 p4 p5 (f_N_send p1 p2 p3 p4 p5 h).2).2 := by
  obtain ⟨w, n, e, nx, ns, nf, nr, nl, np, J, L, V, g, I⟩ := I
  obtain ⟨i1, i2, i3, i4, i5, i6, i7, i8, i9, i10, i11, i12, i13, i14⟩ := id I
  have z : zWr [66, 67, 68, 69, 139, 140, 141, 142, 143] [] h (f_M_send p1 p2 p3 p4 p5 (f_N_send p1 p2 p3 p4 p5 h).2).2 := zWr_tr (f_M_send_w p1 p2 p3 p4 p5 _) (by decide) (by decide) (zWr_tr (f_N_send_w p1 p2 p3 p4 p5 h) (by decide) (by decide) (zWr.refl _ _))
  obtain ⟨b1, b2, b3, b4, b5, b6, b7⟩ := bk_hb i11
  obtain ⟨o1, o2, o3, o4⟩ := a_send i1.1 i1.2.1 i1.2.2 i7.1.1 i7.1.2.1 i7.1.2.2 b2 b7 p1 p2 p3 p4 p5
  obtain ⟨g', eg, q⟩ : ∃ g' : GS, g'.2.2.1 = g.2.2.1 ∧ I_bk nr w g' (f_M_send p1 p2 p3 p4 p5 (f_N_send p1 p2 p3 p4 p5 h).2).2 := by
    rcases o4 with ⟨b, r, j, t, k1, k2, k3, k4, k5, k6, -, k7, o4⟩ | o4
    · obtain ⟨U, q⟩ := bk_send i11 k1 k2 k3 k4 k5 k6 k7
      rw [o4]; exact ⟨(g.1, U, g.2.2.1, g.2.2.2), rfl, q⟩
    · rw [o4]; exact ⟨g, rfl, i11⟩
  exact ⟨o1, o2, o3, w, n, e, nx, ns, nf, nr, nl, np, J, L, V, g', I_now_z (z.eq (by decide) (by decide)) i1, I_sw_z (z.eq (by decide) (by decide)) i2, I_cb_z (z.eq (by decide) (by decide)) i3, I_tx_z (z.eq (by decide) (by decide)) i4, I_rl_w (by decide) z i5, I_kd_w z i6, I_rf_w z (by decide) i7, I_ln_w z (by decide) (by decide) i8, I_pl_z (z.eq (by decide) (by decide)) i9, I_pd_z (z.eq (by decide) (by decide)) i10, q, I_jb_z (z.eq (by decide) (by decide)) i12, by rw [eg]; exact I_an_w (by decide) z i13, I_br_z (z.eq (by decide) (by decide)) i14⟩
theorem K_feed {h : zm_H} (I : Inv h) (p1 p2 p3 p4 p5 : Int32) : f_N_feed_ok p1 p2 p3 p4 p5 h ∧ f_M_feed_ok p1 p2 p3 p4 p5 (f_N_feed p1 p2 p3 p4 p5 h).2 ∧ (f_N_feed p1 p2 p3 p4 p5 h).1 = (f_M_feed p1 p2 p3 p4 p5 (f_N_feed p1 p2 p3 p4 p5 h).2).1 ∧ Inv (f_M_feed p1 p2 p3 p4 p5 (f_N_feed p1 p2 p3 p4 p5 h).2).2 := by
  obtain ⟨w, n, e, nx, ns, nf, nr, nl, np, J, L, V, g, I⟩ := I
  obtain ⟨i1, i2, i3, i4, i5, i6, i7, i8, i9, i10, i11, i12, i13, i14⟩ := id I
  have z : zWr [11, 93] [(10, 1), (92, 1)] h (f_M_feed p1 p2 p3 p4 p5 (f_N_feed p1 p2 p3 p4 p5 h).2).2 := zWr_tr (f_M_feed_w p1 p2 p3 p4 p5 _) (by decide) (by decide) (zWr_tr (f_N_feed_w p1 p2 p3 p4 p5 h) (by decide) (by decide) (zWr.refl _ _))
  obtain ⟨o1, o2, o3, nx', o4, o5, o6, o7⟩ := c_feed i4.1 i4.2.1 i4.2.2.1 i4.2.2.2.1 p1 p2 p3 p4 p5
  have q : I_tx nx' (f_M_feed p1 p2 p3 p4 p5 (f_N_feed p1 p2 p3 p4 p5 h).2).2 := by
    refine ⟨o4, o5, o6, o7, ?_⟩
    rw [(f_M_feed_w p1 p2 p3 p4 p5 (f_N_feed p1 p2 p3 p4 p5 h).2).arr 11 (by decide) (by decide)]
    exact feed_by i4.1 i4.2.1 i4.2.2.2.2 p1 p2 p3 p4 p5
  exact ⟨o1, o2, o3, w, n, e, nx', ns, nf, nr, nl, np, J, L, V, g, I_now_z (z.eq (by decide) (by decide)) i1, I_sw_z (z.eq (by decide) (by decide)) i2, I_cb_z (z.eq (by decide) (by decide)) i3, q, I_rl_w (by decide) z i5, I_kd_w z i6, I_rf_w z (by decide) i7, I_ln_w z (by decide) (by decide) i8, I_pl_z (z.eq (by decide) (by decide)) i9, I_pd_z (z.eq (by decide) (by decide)) i10, I_bk_w z (by decide) (by decide) (by decide) (by decide) i11, I_jb_z (z.eq (by decide) (by decide)) i12, I_an_w (by decide) z i13, I_br_z (z.eq (by decide) (by decide)) i14⟩
theorem K_laying {h : zm_H} (I : Inv h) (p1 p2 p3 p4 p5 : Int32) : f_N_laying_ok p1 p2 p3 p4 p5 h ∧ f_M_laying_ok p1 p2 p3 p4 p5 (f_N_laying p1 p2 p3 p4 p5 h).2 ∧ (f_N_laying p1 p2 p3 p4 p5 h).1 = (f_M_laying p1 p2 p3 p4 p5 (f_N_laying p1 p2 p3 p4 p5 h).2).1 ∧ Inv (f_M_laying p1 p2 p3 p4 p5 (f_N_laying p1 p2 p3 p4 p5 h).2).2 := by
  obtain ⟨w, n, e, nx, ns, nf, nr, nl, np, J, L, V, g, I⟩ := I
  obtain ⟨i1, i2, i3, i4, i5, i6, i7, i8, i9, i10, i11, i12, i13, i14⟩ := id I
  have z : zWr [32, 33, 34, 35, 36, 87, 88, 89, 90, 123, 124, 151, 152, 153, 159, 160, 161] [(82, 9), (82, 11), (82, 14), (92, 79), (92, 80), (92, 81)] h (f_M_laying p1 p2 p3 p4 p5 (f_N_laying p1 p2 p3 p4 p5 h).2).2 := zWr_tr (f_M_laying_w p1 p2 p3 p4 p5 _) (by decide) (by decide) (zWr_tr (f_N_laying_w p1 p2 p3 p4 p5 h) (by decide) (by decide) (zWr.refl _ _))
  obtain ⟨o1, o2, o3, o5⟩ := c_laying i1 i7 i2 i8 i9 i10 i11 p1 p2 p3 p4 p5
  exact ⟨o1, o2, o3, w, n, e, nx, ns, nf, nr, nl, np, J, L, V, g, I_now_z (z.eq (by decide) (by decide)) i1, I_sw_z (z.eq (by decide) (by decide)) i2, I_cb_z (z.eq (by decide) (by decide)) i3, I_tx_z (z.eq (by decide) (by decide)) i4, I_rl_w (by decide) z i5, I_kd_w z i6, I_rf_w z (by decide) i7, I_ln_w z (by decide) (by decide) i8, I_pl_z (z.eq (by decide) (by decide)) i9, I_pd_z (z.eq (by decide) (by decide)) i10, I_bk_v z (by decide) (by decide) (by decide) o5 i11, I_jb_z (z.eq (by decide) (by decide)) i12, I_an_w (by decide) z i13, I_br_z (z.eq (by decide) (by decide)) i14⟩
theorem K_right {h : zm_H} (I : Inv h) (p1 p2 p3 : Int32) : f_N_right_ok p1 p2 p3 h ∧ f_M_right_ok p1 p2 p3 (f_N_right p1 p2 p3 h).2 ∧ (f_N_right p1 p2 p3 h).1 = (f_M_right p1 p2 p3 (f_N_right p1 p2 p3 h).2).1 ∧ Inv (f_M_right p1 p2 p3 (f_N_right p1 p2 p3 h).2).2 := by
  obtain ⟨w, n, e, nx, ns, nf, nr, nl, np, J, L, V, g, I⟩ := I
  obtain ⟨i1, i2, i3, i4, i5, i6, i7, i8, i9, i10, i11, i12, i13, i14⟩ := id I
  have z : zWr [21, 22, 32, 33, 34, 35, 36, 51, 52, 53, 54, 55, 56, 57, 58, 59, 60, 61, 62, 123, 124, 125, 126, 127, 128, 129, 130, 134, 135, 136, 149, 150, 151, 152, 153] [(0, 10), (0, 11), (15, 9), (50, 3), (50, 4), (92, 79), (92, 80), (92, 81), (92, 87), (92, 88)] h (f_M_right p1 p2 p3 (f_N_right p1 p2 p3 h).2).2 := zWr_tr (f_M_right_w p1 p2 p3 _) (by decide) (by decide) (zWr_tr (f_N_right_w p1 p2 p3 h) (by decide) (by decide) (zWr.refl _ _))
  obtain ⟨o1, o2, o3, o4, o5⟩ := c_right i1 i5 i7 i2 (I_th_b i11) i13 p1 p2 p3
  exact ⟨o1, o2, o3, w, n, e, nx, ns, nf, nr, nl, np, J, L, V, g, I_now_z (z.eq (by decide) (by decide)) i1, I_sw_z (z.eq (by decide) (by decide)) i2, I_cb_z (z.eq (by decide) (by decide)) i3, I_tx_z (z.eq (by decide) (by decide)) i4, I_rl_w (by decide) z i5, I_kd_w z i6, I_rf_w z (by decide) i7, I_ln_w z (by decide) (by decide) i8, I_pl_z (z.eq (by decide) (by decide)) i9, I_pd_z (z.eq (by decide) (by decide)) i10, I_bk_v z (by decide) (by decide) (by decide) o5 i11, I_jb_z (z.eq (by decide) (by decide)) i12, o4, I_br_z (z.eq (by decide) (by decide)) i14⟩
theorem K_owed {h : zm_H} (I : Inv h) (p1 p2 : Int32) : f_N_owed_ok p1 p2 h ∧ f_M_owed_ok p1 p2 (f_N_owed p1 p2 h).2 ∧ (f_N_owed p1 p2 h).1 = (f_M_owed p1 p2 (f_N_owed p1 p2 h).2).1 ∧ Inv (f_M_owed p1 p2 (f_N_owed p1 p2 h).2).2 := by
  obtain ⟨w, n, e, nx, ns, nf, nr, nl, np, J, L, V, g, I⟩ := I
  obtain ⟨i1, i2, i3, i4, i5, i6, i7, i8, i9, i10, i11, i12, i13, i14⟩ := id I
  have z : zWr [21, 22, 32, 33, 34, 35, 36, 51, 52, 53, 54, 55, 56, 57, 58, 59, 60, 61, 62, 123, 124, 125, 126, 127, 128, 129, 130, 134, 135, 136, 149, 150, 151, 152, 153] [(0, 10), (0, 11), (15, 9), (50, 3), (50, 4), (92, 79), (92, 80), (92, 81), (92, 87), (92, 88)] h (f_M_owed p1 p2 (f_N_owed p1 p2 h).2).2 := zWr_tr (f_M_owed_w p1 p2 _) (by decide) (by decide) (zWr_tr (f_N_owed_w p1 p2 h) (by decide) (by decide) (zWr.refl _ _))
  obtain ⟨o1, o2, o3, o4, o5⟩ := c_owed i1 i5 i7 i2 (I_th_b i11) i13 i11.2.2.2.2.2.1 p1 p2
  exact ⟨o1, o2, o3, w, n, e, nx, ns, nf, nr, nl, np, J, L, V, g, I_now_z (z.eq (by decide) (by decide)) i1, I_sw_z (z.eq (by decide) (by decide)) i2, I_cb_z (z.eq (by decide) (by decide)) i3, I_tx_z (z.eq (by decide) (by decide)) i4, I_rl_w (by decide) z i5, I_kd_w z i6, I_rf_w z (by decide) i7, I_ln_w z (by decide) (by decide) i8, I_pl_z (z.eq (by decide) (by decide)) i9, I_pd_z (z.eq (by decide) (by decide)) i10, I_bk_v z (by decide) (by decide) (by decide) o5 i11, I_jb_z (z.eq (by decide) (by decide)) i12, o4, I_br_z (z.eq (by decide) (by decide)) i14⟩
theorem K_would {h : zm_H} (I : Inv h) (p1 p2 : Int32) : f_N_would_ok p1 p2 h ∧ f_M_would_ok p1 p2 (f_N_would p1 p2 h).2 ∧ (f_N_would p1 p2 h).1 = (f_M_would p1 p2 (f_N_would p1 p2 h).2).1 ∧ Inv (f_M_would p1 p2 (f_N_would p1 p2 h).2).2 := by
  obtain ⟨w, n, e, nx, ns, nf, nr, nl, np, J, L, V, g, I⟩ := I
  obtain ⟨i1, i2, i3, i4, i5, i6, i7, i8, i9, i10, i11, i12, i13, i14⟩ := id I
  have z : zWr [21, 22, 32, 33, 34, 35, 36, 51, 52, 53, 54, 55, 56, 57, 58, 59, 60, 61, 62, 123, 124, 125, 126, 127, 128, 129, 130, 134, 135, 136, 149, 150, 151, 152, 153] [(0, 10), (0, 11), (15, 9), (50, 3), (50, 4), (92, 79), (92, 80), (92, 81), (92, 87), (92, 88)] h (f_M_would p1 p2 (f_N_would p1 p2 h).2).2 := zWr_tr (f_M_would_w p1 p2 _) (by decide) (by decide) (zWr_tr (f_N_would_w p1 p2 h) (by decide) (by decide) (zWr.refl _ _))
  obtain ⟨o1, o2, o3, o4, o5⟩ := c_would i1 i5 i7 i2 (I_th_b i11) i13 p1 p2
  exact ⟨o1, o2, o3, w, n, e, nx, ns, nf, nr, nl, np, J, L, V, g, I_now_z (z.eq (by decide) (by decide)) i1, I_sw_z (z.eq (by decide) (by decide)) i2, I_cb_z (z.eq (by decide) (by decide)) i3, I_tx_z (z.eq (by decide) (by decide)) i4, I_rl_w (by decide) z i5, I_kd_w z i6, I_rf_w z (by decide) i7, I_ln_w z (by decide) (by decide) i8, I_pl_z (z.eq (by decide) (by decide)) i9, I_pd_z (z.eq (by decide) (by decide)) i10, I_bk_v z (by decide) (by decide) (by decide) o5 i11, I_jb_z (z.eq (by decide) (by decide)) i12, o4, I_br_z (z.eq (by decide) (by decide)) i14⟩
theorem K_reading {h : zm_H} (I : Inv h) (p1 p2 : Int32) : f_N_reading_ok p1 p2 h ∧ f_M_reading_ok p1 p2 (f_N_reading p1 p2 h).2 ∧ (f_N_reading p1 p2 h).1 = (f_M_reading p1 p2 (f_N_reading p1 p2 h).2).1 ∧ Inv (f_M_reading p1 p2 (f_N_reading p1 p2 h).2).2 := by
  obtain ⟨w, n, e, nx, ns, nf, nr, nl, np, J, L, V, g, I⟩ := I
  obtain ⟨i1, i2, i3, i4, i5, i6, i7, i8, i9, i10, i11, i12, i13, i14⟩ := id I
  have z : zWr [2, 3, 4, 5, 105, 106, 107] [(1, 0), (92, 24)] h (f_M_reading p1 p2 (f_N_reading p1 p2 h).2).2 := zWr_tr (f_M_reading_w p1 p2 _) (by decide) (by decide) (zWr_tr (f_N_reading_w p1 p2 h) (by decide) (by decide) (zWr.refl _ _))
  obtain ⟨o1, o2, o3, n', o4, o5, o6⟩ := c_reading2 i1 i2 p1 p2
  have c0 : zf (f_M_reading p1 p2 (f_N_reading p1 p2 h).2).2 0 10 = zf h 0 10 ∧ zf (f_M_reading p1 p2 (f_N_reading p1 p2 h).2).2 0 11 = zf h 0 11 ∧ zf (f_M_reading p1 p2 (f_N_reading p1 p2 h).2).2 50 3 = zf h 50 3 ∧ zf (f_M_reading p1 p2 (f_N_reading p1 p2 h).2).2 50 4 = zf h 50 4 := ⟨z.fld 0 10 (by decide) (by decide), z.fld 0 11 (by decide) (by decide), z.fld 50 3 (by decide) (by decide), z.fld 50 4 (by decide) (by decide)⟩
  have c1 : ∀ i, i < 12 → (f_M_reading p1 p2 (f_N_reading p1 p2 h).2).2.2.1 (51 + i) = h.2.1 (51 + i) := fun i hi => (z.eq (S := [51, 52, 53, 54, 55, 56, 57, 58, 59, 60, 61, 62]) (G := []) (by decide) rfl).a (51 + i) (by simp; omega)
  have a13 : I_an nf nr g.2.2.1 n' e w (f_M_reading p1 p2 (f_N_reading p1 p2 h).2).2 := by
    refine I_an_l i7.1.1 o4 (Nat.le_refl _) (Nat.le_refl _) c0 c1 (fun q d G hq hd hG => sLt_of z (by decide) (fun t _ c nm _ => Ev_w (by decide) z c _ nm) (fun t _ => seaP_x (by have := i2.1.1; omega) (fun k hk => o5 k (by omega)) (fun k hk => ?_) t) (fun i k _ => ?_) (Nat.le_refl _) (fun t ht k k1 k2 => absurd k2 (by omega))) i13
    · rw [z.arr 108 (by decide) (by decide), z.arr 109 (by decide) (by decide), z.arr 110 (by decide) (by decide)]; exact ⟨rfl, rfl, rfl⟩
    · rw [tB_eq (fun i hi => (z.eq (S := [27, 28, 29, 30, 31]) (G := []) (by decide) rfl).a (27 + i) (by simp; omega))]
  exact ⟨o1, o2, o3, w, n', e, nx, ns, nf, nr, nl, np, J, L, V, g, I_now_z (z.eq (by decide) (by decide)) i1, o6, I_cb_z (z.eq (by decide) (by decide)) i3, I_tx_z (z.eq (by decide) (by decide)) i4, I_rl_w (by decide) z i5, I_kd_w z i6, I_rf_w z (by decide) i7, I_ln_w z (by decide) (by decide) i8, I_pl_z (z.eq (by decide) (by decide)) i9, I_pd_z (z.eq (by decide) (by decide)) i10, I_bk_w z (by decide) (by decide) (by decide) (by decide) i11, I_jb_z (z.eq (by decide) (by decide)) i12, a13, I_br_z (z.eq (by decide) (by decide)) i14⟩
theorem K_drift {h : zm_H} (I : Inv h) (p1 p2 p3 : Int32) : f_N_drift_ok p1 p2 p3 h ∧ f_M_drift_ok p1 p2 p3 (f_N_drift p1 p2 p3 h).2 ∧ (f_N_drift p1 p2 p3 h).1 = (f_M_drift p1 p2 p3 (f_N_drift p1 p2 p3 h).2).1 ∧ Inv (f_M_drift p1 p2 p3 (f_N_drift p1 p2 p3 h).2).2 := by
  obtain ⟨w, n, e, nx, ns, nf, nr, nl, np, J, L, V, g, I⟩ := I
  obtain ⟨i1, i2, i3, i4, i5, i6, i7, i8, i9, i10, i11, i12, i13, i14⟩ := id I
  have z : zWr [6, 7, 8, 9, 108, 109, 110, 111] [(1, 1), (92, 28)] h (f_M_drift p1 p2 p3 (f_N_drift p1 p2 p3 h).2).2 := zWr_tr (f_M_drift_w p1 p2 p3 _) (by decide) (by decide) (zWr_tr (f_N_drift_w p1 p2 p3 h) (by decide) (by decide) (zWr.refl _ _))
  obtain ⟨o1, o2, o3, o4⟩ := a_drift i2.1.2.1 i2.1.2.2.2.2.1 i2.1.2.2.2.2.2 i1.1 i1.2.1 i1.2.2 p1 p2 p3
  have c0 : zf (f_M_drift p1 p2 p3 (f_N_drift p1 p2 p3 h).2).2 0 10 = zf h 0 10 ∧ zf (f_M_drift p1 p2 p3 (f_N_drift p1 p2 p3 h).2).2 0 11 = zf h 0 11 ∧ zf (f_M_drift p1 p2 p3 (f_N_drift p1 p2 p3 h).2).2 50 3 = zf h 50 3 ∧ zf (f_M_drift p1 p2 p3 (f_N_drift p1 p2 p3 h).2).2 50 4 = zf h 50 4 := ⟨z.fld 0 10 (by decide) (by decide), z.fld 0 11 (by decide) (by decide), z.fld 50 3 (by decide) (by decide), z.fld 50 4 (by decide) (by decide)⟩
  have c1 : ∀ i, i < 12 → (f_M_drift p1 p2 p3 (f_N_drift p1 p2 p3 h).2).2.2.1 (51 + i) = h.2.1 (51 + i) := fun i hi => (z.eq (S := [51, 52, 53, 54, 55, 56, 57, 58, 59, 60, 61, 62]) (G := []) (by decide) rfl).a (51 + i) (by simp; omega)
  obtain ⟨e', he, q, hk⟩ : ∃ e', e ≤ e' ∧ I_sw w n e' (f_M_drift p1 p2 p3 (f_N_drift p1 p2 p3 h).2).2 ∧ ∀ k, k < e → (f_M_drift p1 p2 p3 (f_N_drift p1 p2 p3 h).2).2.2.1 108 k = h.2.1 108 k ∧ (f_M_drift p1 p2 p3 (f_N_drift p1 p2 p3 h).2).2.2.1 109 k = h.2.1 109 k ∧ (f_M_drift p1 p2 p3 (f_N_drift p1 p2 p3 h).2).2.2.1 110 k = h.2.1 110 k := by
    rcases o4 with ⟨⟨-, -, -, k1, k2, k3⟩, k4, o4⟩ | o4
    · rw [o4]
      refine ⟨e + 1, by omega, sw_drift i2 k4 k3 k1 k2, fun k hk => ?_⟩
      have hne : ¬ k = e := by omega
      simp only [zf_si]
      simp [hne]
    · rw [o4]; exact ⟨e, Nat.le_refl _, i2, fun k _ => ⟨rfl, rfl, rfl⟩⟩
  have a13 : I_an nf nr g.2.2.1 n e' w (f_M_drift p1 p2 p3 (f_N_drift p1 p2 p3 h).2).2 := by
    refine I_an_l i7.1.1 (Nat.le_refl _) he (Nat.le_refl _) c0 c1 (fun q d G hq hd hG => sLt_of z (by decide) (fun t _ c nm _ => Ev_w (by decide) z c _ nm) (fun t _ => seaP_x (by have := i2.1.1; omega) (fun k hk => ?_) (fun k hk' => hk k (by omega)) t) (fun i k _ => ?_) (Nat.le_refl _) (fun t ht k k1 k2 => absurd k2 (by omega))) i13
    · rw [z.arr 105 (by decide) (by decide), z.arr 106 (by decide) (by decide)]; exact ⟨rfl, rfl⟩
    · rw [tB_eq (fun i hi => (z.eq (S := [27, 28, 29, 30, 31]) (G := []) (by decide) rfl).a (27 + i) (by simp; omega))]
  exact ⟨o1, o2, o3, w, n, e', nx, ns, nf, nr, nl, np, J, L, V, g, I_now_z (z.eq (by decide) (by decide)) i1, q, I_cb_z (z.eq (by decide) (by decide)) i3, I_tx_z (z.eq (by decide) (by decide)) i4, I_rl_w (by decide) z i5, I_kd_w z i6, I_rf_w z (by decide) i7, I_ln_w z (by decide) (by decide) i8, I_pl_z (z.eq (by decide) (by decide)) i9, I_pd_z (z.eq (by decide) (by decide)) i10, I_bk_w z (by decide) (by decide) (by decide) (by decide) i11, I_jb_z (z.eq (by decide) (by decide)) i12, a13, I_br_z (z.eq (by decide) (by decide)) i14⟩
theorem K_force {h : zm_H} (I : Inv h) (p1 p2 : Int32) : f_N_force_ok p1 p2 h ∧ f_M_force_ok p1 p2 (f_N_force p1 p2 h).2 ∧ (f_N_force p1 p2 h).1 = (f_M_force p1 p2 (f_N_force p1 p2 h).2).1 ∧ Inv (f_M_force p1 p2 (f_N_force p1 p2 h).2).2 := by
  obtain ⟨w, n, e, nx, ns, nf, nr, nl, np, J, L, V, g, I⟩ := I
  obtain ⟨i1, i2, i3, i4, i5, i6, i7, i8, i9, i10, i11, i12, i13, i14⟩ := id I
  have z : zWr [19, 20, 103, 104] [(15, 4), (92, 20)] h (f_M_force p1 p2 (f_N_force p1 p2 h).2).2 := zWr_tr (f_M_force_w p1 p2 _) (by decide) (by decide) (zWr_tr (f_N_force_w p1 p2 h) (by decide) (by decide) (zWr.refl _ _))
  have sm : (nI ns - 1).toInt = ns - 1 := by
    have := i5.1.1.1
    rw [i_sub (by rw [i_nI (by omega), i_1]; omega) (by rw [i_nI (by omega), i_1]; omega), i_nI (by omega), i_1]
  obtain ⟨o1, o2, o3, o4⟩ := a_force i5.1.2.1.1 i5.1.2.1.2.1 i5.1.2.1.2.2 i5.1.1.1 i5.1.1.2.1 i5.1.1.2.2 i1.1 i1.2.1 i1.2.2 sm p1 p2
  have c0 : zf (f_M_force p1 p2 (f_N_force p1 p2 h).2).2 0 10 = zf h 0 10 ∧ zf (f_M_force p1 p2 (f_N_force p1 p2 h).2).2 0 11 = zf h 0 11 ∧ zf (f_M_force p1 p2 (f_N_force p1 p2 h).2).2 50 3 = zf h 50 3 ∧ zf (f_M_force p1 p2 (f_N_force p1 p2 h).2).2 50 4 = zf h 50 4 := ⟨z.fld 0 10 (by decide) (by decide), z.fld 0 11 (by decide) (by decide), z.fld 50 3 (by decide) (by decide), z.fld 50 4 (by decide) (by decide)⟩
  have c1 : ∀ i, i < 12 → (f_M_force p1 p2 (f_N_force p1 p2 h).2).2.2.1 (51 + i) = h.2.1 (51 + i) := fun i hi => (z.eq (S := [51, 52, 53, 54, 55, 56, 57, 58, 59, 60, 61, 62]) (G := []) (by decide) rfl).a (51 + i) (by simp; omega)
  obtain ⟨nf', q, hE⟩ : ∃ nf', I_rl ns nf' (f_M_force p1 p2 (f_N_force p1 p2 h).2).2 ∧ ∀ t, t < w → ∀ c nm, Ev nf' (f_M_force p1 p2 (f_N_force p1 p2 h).2).2 c (nI t) nm = Ev nf h c (nI t) nm := by
    rcases o4 with ⟨⟨k1, k2, k3, k4⟩, k5, o4⟩ | o4
    · rw [o4]
      refine ⟨nf + 1, rl_more i5 k1 k2 (by omega) k4 k5, fun t ht c nm => Ev_more (p1 := p1) (p2 := p2) i5.1 k3 ?_ ?_ (fun i hi => ?_) ht i1.1 c nm⟩
      · simp [za_si]
      · simp [za_si]
      · simp only [List.mem_cons, List.not_mem_nil, or_false] at hi
        rcases hi with rfl | rfl | rfl | rfl <;> simp [za_si]
    · rw [o4]; exact ⟨nf, i5, fun t _ c nm => rfl⟩
  have a13 : I_an nf' nr g.2.2.1 n e w (f_M_force p1 p2 (f_N_force p1 p2 h).2).2 := by
    refine I_an_l i7.1.1 (Nat.le_refl _) (Nat.le_refl _) (Nat.le_refl _) c0 c1 (fun q d G hq hd hG => sLt_of z (by decide) (fun t ht c nm _ => hE t (by omega) c nm) (fun t _ => seaP_eq (fun i hi => (z.eq (S := [105, 106, 108, 109, 110]) (G := []) (by decide) rfl).a i hi) q d t) (fun i k _ => ?_) (Nat.le_refl _) (fun t ht k k1 k2 => absurd k2 (by omega))) i13
    rw [tB_eq (fun i hi => (z.eq (S := [27, 28, 29, 30, 31]) (G := []) (by decide) rfl).a (27 + i) (by simp; omega))]
  exact ⟨o1, o2, o3, w, n, e, nx, ns, nf', nr, nl, np, J, L, V, g, I_now_z (z.eq (by decide) (by decide)) i1, I_sw_z (z.eq (by decide) (by decide)) i2, I_cb_z (z.eq (by decide) (by decide)) i3, I_tx_z (z.eq (by decide) (by decide)) i4, q, I_kd_w z i6, I_rf_w z (by decide) i7, I_ln_w z (by decide) (by decide) i8, I_pl_z (z.eq (by decide) (by decide)) i9, I_pd_z (z.eq (by decide) (by decide)) i10, I_bk_w z (by decide) (by decide) (by decide) (by decide) i11, I_jb_z (z.eq (by decide) (by decide)) i12, a13, I_br_z (z.eq (by decide) (by decide)) i14⟩
theorem K_lay {h : zm_H} (I : Inv h) (p1 p2 p3 : Int32) : f_N_lay_ok p1 p2 p3 h ∧ f_M_lay_ok p1 p2 p3 (f_N_lay p1 p2 p3 h).2 ∧ (f_N_lay p1 p2 p3 h).1 = (f_M_lay p1 p2 p3 (f_N_lay p1 p2 p3 h).2).1 ∧ Inv (f_M_lay p1 p2 p3 (f_N_lay p1 p2 p3 h).2).2 := by
  obtain ⟨w, n, e, nx, ns, nf, nr, nl, np, J, L, V, g, I⟩ := I
  obtain ⟨i1, i2, i3, i4, i5, i6, i7, i8, i9, i10, i11, i12, i13, i14⟩ := id I
  have z : zWr [27, 28, 29, 30, 31, 38, 39, 40, 43, 44, 45, 118, 119, 120, 121, 122, 123, 124, 125, 128, 129, 130] [(23, 4), (37, 4), (92, 41)] h (f_M_lay p1 p2 p3 (f_N_lay p1 p2 p3 h).2).2 := zWr_tr (f_M_lay_w p1 p2 p3 _) (by decide) (by decide) (zWr_tr (f_N_lay_w p1 p2 p3 h) (by decide) (by decide) (zWr.refl _ _))
  obtain ⟨o1, o2, o3, g', lt, o4, o5⟩ := c_lay2 (ns := ns) (nf := nf) (n := n) (d := e) i1 i7 i8 i11 p1 p2 p3
  have c0 : zf (f_M_lay p1 p2 p3 (f_N_lay p1 p2 p3 h).2).2 0 10 = zf h 0 10 ∧ zf (f_M_lay p1 p2 p3 (f_N_lay p1 p2 p3 h).2).2 0 11 = zf h 0 11 ∧ zf (f_M_lay p1 p2 p3 (f_N_lay p1 p2 p3 h).2).2 50 3 = zf h 50 3 ∧ zf (f_M_lay p1 p2 p3 (f_N_lay p1 p2 p3 h).2).2 50 4 = zf h 50 4 := ⟨z.fld 0 10 (by decide) (by decide), z.fld 0 11 (by decide) (by decide), z.fld 50 3 (by decide) (by decide), z.fld 50 4 (by decide) (by decide)⟩
  have c1 : ∀ i, i < 12 → (f_M_lay p1 p2 p3 (f_N_lay p1 p2 p3 h).2).2.2.1 (51 + i) = h.2.1 (51 + i) := fun i hi => (z.eq (S := [51, 52, 53, 54, 55, 56, 57, 58, 59, 60, 61, 62]) (G := []) (by decide) rfl).a (51 + i) (by simp; omega)
  have a13 : I_an nf nr g'.2.2.1 n e w (f_M_lay p1 p2 p3 (f_N_lay p1 p2 p3 h).2).2 := by
    refine I_an_l i7.1.1 (Nat.le_refl _) (Nat.le_refl _) (Nat.le_refl _) c0 c1 (fun q d G hq hd hG => sLt_of z (by decide) (fun t _ c nm _ => Ev_w (by decide) z c _ nm) (fun t _ => seaP_eq (fun i hi => (z.eq (S := [105, 106, 108, 109, 110]) (G := []) (by decide) rfl).a i hi) q d t) (fun i k hk => ?_) lt.1 (fun t ht k k1 k2 y => ?_)) i13
    · rw [o4.2.1.2.2.2.1, i11.2.1.2.2.2.1]; exact lt.2.1 i k hk
    · rw [o4.2.1.2.2.2.1] at y
      obtain ⟨u, u1, u2, u3⟩ := lt.2.2 k k1 k2
      rw [u3, nx_le (by omega) (by have := i1.1; omega)] at y
      omega
  exact ⟨o1, o2, o3, w, n, e, nx, ns, nf, nr, nl, np, J, L, V, g', I_now_z (z.eq (by decide) (by decide)) i1, I_sw_z (z.eq (by decide) (by decide)) i2, I_cb_z (z.eq (by decide) (by decide)) i3, I_tx_z (z.eq (by decide) (by decide)) i4, I_rl_w (by decide) z i5, I_kd_w z i6, I_rf_w z (by decide) i7, I_ln_w z (by decide) (by decide) i8, I_pl_z (z.eq (by decide) (by decide)) i9, I_pd_z (z.eq (by decide) (by decide)) i10, o4, I_jb_z (z.eq (by decide) (by decide)) i12, a13, I_br_z (z.eq (by decide) (by decide)) i14⟩
theorem K_go {h : zm_H} (I : Inv h) (p1 : Int32) : f_N_go_ok p1 h ∧ f_M_go_ok p1 (f_N_go p1 h).2 ∧ (f_N_go p1 h).1 = (f_M_go p1 (f_N_go p1 h).2).1 ∧ Inv (f_M_go p1 (f_N_go p1 h).2).2 := by
  obtain ⟨w, n, e, nx, ns, nf, nr, nl, np, J, L, V, g, I⟩ := I
  obtain ⟨i1, i2, i3, i4, i5, i6, i7, i8, i9, i10, i11, i12, i13, i14⟩ := id I
  have z : zWr [21, 22, 27, 28, 29, 30, 31, 32, 33, 34, 35, 36, 38, 39, 40, 41, 42, 43, 44, 45, 46, 47, 48, 49, 65, 66, 70, 71, 118, 119, 120, 121, 122, 123, 124, 125, 126, 127, 128, 129, 130, 131, 132, 133, 138, 139, 144, 145, 149, 150, 151, 152, 153] [(0, 0), (15, 9), (23, 4), (37, 3), (37, 4), (92, 23), (92, 41), (92, 79), (92, 80), (92, 81), (92, 87), (92, 88)] h (f_M_go p1 (f_N_go p1 h).2).2 := zWr_tr (f_M_go_w p1 _) (by decide) (by decide) (zWr_tr (f_N_go_w p1 h) (by decide) (by decide) (zWr.refl _ _))
  obtain ⟨o1, o2, o3, w', g', lt, hw, o6, o4, o5⟩ := c_go2 i1 i5 i7 i2 i11 p1
  have c0 : zf (f_M_go p1 (f_N_go p1 h).2).2 0 10 = zf h 0 10 ∧ zf (f_M_go p1 (f_N_go p1 h).2).2 0 11 = zf h 0 11 ∧ zf (f_M_go p1 (f_N_go p1 h).2).2 50 3 = zf h 50 3 ∧ zf (f_M_go p1 (f_N_go p1 h).2).2 50 4 = zf h 50 4 := ⟨z.fld 0 10 (by decide) (by decide), z.fld 0 11 (by decide) (by decide), z.fld 50 3 (by decide) (by decide), z.fld 50 4 (by decide) (by decide)⟩
  have c1 : ∀ i, i < 12 → (f_M_go p1 (f_N_go p1 h).2).2.2.1 (51 + i) = h.2.1 (51 + i) := fun i hi => (z.eq (S := [51, 52, 53, 54, 55, 56, 57, 58, 59, 60, 61, 62]) (G := []) (by decide) rfl).a (51 + i) (by simp; omega)
  have a13 : I_an nf nr g'.2.2.1 n e w' (f_M_go p1 (f_N_go p1 h).2).2 := by
    refine I_an_l i7.1.1 (Nat.le_refl _) (Nat.le_refl _) hw c0 c1 (fun q d G hq hd hG => sLt_of z (by decide) (fun t _ c nm _ => Ev_w (by decide) z c _ nm) (fun t _ => seaP_eq (fun i hi => (z.eq (S := [105, 106, 108, 109, 110]) (G := []) (by decide) rfl).a i hi) q d t) (fun i k hk => ?_) lt.1 (fun t ht k k1 k2 y => ?_)) i13
    · rw [o4.2.1.2.2.2.1, i11.2.1.2.2.2.1]; exact lt.2.1 i k hk
    · rw [o4.2.1.2.2.2.1] at y
      obtain ⟨u, u1, u2, u3⟩ := lt.2.2 k k1 k2
      rw [u3, nx_le (by omega) (by have := i1.1; omega)] at y
      omega
  exact ⟨o1, o2, o3, w', n, e, nx, ns, nf, nr, nl, np, J, L, V, g', o6, I_sw_m hw (I_sw_z (z.eq (by decide) (by decide)) i2), I_cb_z (z.eq (by decide) (by decide)) i3, I_tx_z (z.eq (by decide) (by decide)) i4, I_rl_w (by decide) z i5, I_kd_w z i6, I_rf_m hw (I_rf_w z (by decide) i7), I_ln_w z (by decide) (by decide) i8, I_pl_z (z.eq (by decide) (by decide)) i9, I_pd_z (z.eq (by decide) (by decide)) i10, o4, I_jb_z (z.eq (by decide) (by decide)) i12, a13, I_br_z (z.eq (by decide) (by decide)) i14⟩
theorem K_raft {h : zm_H} (I : Inv h) (p1 p2 : Int32) : f_N_raft_ok p1 p2 h ∧ f_M_raft_ok p1 p2 (f_N_raft p1 p2 h).2 ∧ (f_N_raft p1 p2 h).1 = (f_M_raft p1 p2 (f_N_raft p1 p2 h).2).1 ∧ Inv (f_M_raft p1 p2 (f_N_raft p1 p2 h).2).2 := by
  obtain ⟨w, n, e, nx, ns, nf, nr, nl, np, J, L, V, g, I⟩ := I
  obtain ⟨i1, i2, i3, i4, i5, i6, i7, i8, i9, i10, i11, i12, i13, i14⟩ := id I
  have z : zWr [24, 25, 26, 112, 113, 114] [(23, 0), (92, 33)] h (f_M_raft p1 p2 (f_N_raft p1 p2 h).2).2 := zWr_tr (f_M_raft_w p1 p2 _) (by decide) (by decide) (zWr_tr (f_N_raft_w p1 p2 h) (by decide) (by decide) (zWr.refl _ _))
  obtain ⟨o1, o2, o3, o4⟩ := a_raft i7.1.1 i7.1.2.1 i7.1.2.2 i1.1 i1.2.1 i1.2.2 p1 p2
  have c0 : zf (f_M_raft p1 p2 (f_N_raft p1 p2 h).2).2 0 10 = zf h 0 10 ∧ zf (f_M_raft p1 p2 (f_N_raft p1 p2 h).2).2 0 11 = zf h 0 11 ∧ zf (f_M_raft p1 p2 (f_N_raft p1 p2 h).2).2 50 3 = zf h 50 3 ∧ zf (f_M_raft p1 p2 (f_N_raft p1 p2 h).2).2 50 4 = zf h 50 4 := ⟨z.fld 0 10 (by decide) (by decide), z.fld 0 11 (by decide) (by decide), z.fld 50 3 (by decide) (by decide), z.fld 50 4 (by decide) (by decide)⟩
  have c1 : ∀ i, i < 12 → (f_M_raft p1 p2 (f_N_raft p1 p2 h).2).2.2.1 (51 + i) = h.2.1 (51 + i) := fun i hi => (z.eq (S := [51, 52, 53, 54, 55, 56, 57, 58, 59, 60, 61, 62]) (G := []) (by decide) rfl).a (51 + i) (by simp; omega)
  have S1 : ∀ q d G, q ≤ n → d ≤ e → G ≤ w → (∀ r, r < nr → (f_M_raft p1 p2 (f_N_raft p1 p2 h).2).2.2.1 112 r = h.2.1 112 r ∧ (f_M_raft p1 p2 (f_N_raft p1 p2 h).2).2.2.1 113 r = h.2.1 113 r ∧ (f_M_raft p1 p2 (f_N_raft p1 p2 h).2).2.2.1 114 r = h.2.1 114 r) → sLt nf nr g.2.2.1 q d nf g.2.2.1 G h (f_M_raft p1 p2 (f_N_raft p1 p2 h).2).2 := by
    intro q d G hq hd hG hr
    refine ⟨fun t _ c nm _ => Ev_w (by decide) z c _ nm, (fun t _ => seaP_eq (fun i hi => (z.eq (S := [105, 106, 108, 109, 110]) (G := []) (by decide) rfl).a i hi) q d t), hr, fun i k _ => ?_, Nat.le_refl _, fun t ht k k1 k2 => absurd k2 (by omega)⟩
    rw [tB_eq (fun i hi => (z.eq (S := [27, 28, 29, 30, 31]) (G := []) (by decide) rfl).a (27 + i) (by simp; omega))]
  have B1 : I_bk nr w g (f_M_raft p1 p2 (f_N_raft p1 p2 h).2).2 := I_bk_q z (by decide) (by decide) i11
  obtain ⟨nr', q7, q11, a13⟩ : ∃ nr', I_rf w nr' (f_M_raft p1 p2 (f_N_raft p1 p2 h).2).2 ∧ I_bk nr' w g (f_M_raft p1 p2 (f_N_raft p1 p2 h).2).2 ∧ I_an nf nr' g.2.2.1 n e w (f_M_raft p1 p2 (f_N_raft p1 p2 h).2).2 := by
    rcases o4 with ⟨⟨k1, k2, k3, k4⟩, k5, o4⟩ | o4
    · have x24 : (f_M_raft p1 p2 (f_N_raft p1 p2 h).2).2.2.1 24 = upd (h.2.1 24) nr p1 := by rw [o4]; simp [za_si]
      have x25 : (f_M_raft p1 p2 (f_N_raft p1 p2 h).2).2.2.1 25 = upd (h.2.1 25) nr p2 := by rw [o4]; simp [za_si]
      have x26 : (f_M_raft p1 p2 (f_N_raft p1 p2 h).2).2.2.1 26 = upd (h.2.1 26) nr (nI w) := by rw [o4]; simp [za_si]
      have x112 : (f_M_raft p1 p2 (f_N_raft p1 p2 h).2).2.2.1 112 = upd (h.2.1 112) nr p1 := by rw [o4]; simp [za_si]
      have x113 : (f_M_raft p1 p2 (f_N_raft p1 p2 h).2).2.2.1 113 = upd (h.2.1 113) nr p2 := by rw [o4]; simp [za_si]
      have x114 : (f_M_raft p1 p2 (f_N_raft p1 p2 h).2).2.2.1 114 = upd (h.2.1 114) nr (nI w) := by rw [o4]; simp [za_si]
      have y1 : zf (f_M_raft p1 p2 (f_N_raft p1 p2 h).2).2 23 0 = nI (nr + 1) := by rw [o4]; simp [zf, zf_si]
      have y2 : zf (f_M_raft p1 p2 (f_N_raft p1 p2 h).2).2 92 33 = nI (nr + 1) := by rw [o4]; exact zm_in _ _ _ _
      have hr : ∀ r, r < nr → (f_M_raft p1 p2 (f_N_raft p1 p2 h).2).2.2.1 112 r = h.2.1 112 r ∧ (f_M_raft p1 p2 (f_N_raft p1 p2 h).2).2.2.1 113 r = h.2.1 113 r ∧ (f_M_raft p1 p2 (f_N_raft p1 p2 h).2).2.2.1 114 r = h.2.1 114 r := fun r hr => by
        rw [x112, x113, x114]; exact ⟨pk_un (by omega), pk_un (by omega), pk_un (by omega)⟩
      have R1 : I_rf w (nr + 1) (f_M_raft p1 p2 (f_N_raft p1 p2 h).2).2 := by
        refine ⟨⟨by omega, y1, y2⟩, ⟨by rw [x24, x112, i7.2.1.1], by rw [x25, x113, i7.2.1.2.1], by rw [x26, x114, i7.2.1.2.2]⟩, fun r hr9 => ?_⟩
        rw [x112, x113, x114]
        by_cases c : r = nr
        · subst c; rw [pk_us, pk_us, pk_us]; exact ⟨⟨k1, k2⟩, ⟨k3, k4⟩, w, Nat.le_refl _, rfl⟩
        · rw [pk_un c, pk_un c, pk_un c]; exact i7.2.2 r (by omega)
      refine ⟨nr + 1, R1, I_bk_n B1, ?_⟩
      have A1 : I_an nf nr g.2.2.1 n e w (f_M_raft p1 p2 (f_N_raft p1 p2 h).2).2 := I_an_l i7.1.1 (Nat.le_refl _) (Nat.le_refl _) (Nat.le_refl _) c0 c1 (fun q d G hq hd hG => S1 q d G hq hd hG hr) i13
      obtain ⟨q, d, G, h1, h2, h3, h4, h5, h6⟩ := A1
      have R0 : szOK nr ((f_M_raft p1 p2 (f_N_raft p1 p2 h).2).2.2.1 112) ((f_M_raft p1 p2 (f_N_raft p1 p2 h).2).2.2.1 113) := fun r hr9 => ⟨(R1.2.2 r (by omega)).1, (R1.2.2 r (by omega)).2.1⟩
      have Sw : I_sw w n e (f_M_raft p1 p2 (f_N_raft p1 p2 h).2).2 := I_sw_z (z.eq (by decide) (by decide)) i2
      have w480 := i1.1
      refine ⟨q, d, G, h1, h2, h3, h4, h5, rA_n k5 (by omega) (fun t ht => ?_) R0 (fun t ht => sea_ok Sw h1) (fun t ht => ?_) h6⟩
      · have T1 : I_th nr g.2.2.1 h := I_th_b i11
        rw [(an_x i7.1.1 (S1 q d G h1 h2 h3 hr) t (by omega)).2.2 ht |>.1]
        exact (bnH_ok i7 T1 (anH_ok i7 i2 T1 h1 t (by omega))).1
      · rw [x114, pk_us, nx_le (by omega) (by omega)]; omega
    · have hh : (f_M_raft p1 p2 (f_N_raft p1 p2 h).2).2 = h := o4
      rw [hh]
      exact ⟨nr, i7, i11, i13⟩
  exact ⟨o1, o2, o3, w, n, e, nx, ns, nf, nr', nl, np, J, L, V, g, I_now_z (z.eq (by decide) (by decide)) i1, I_sw_z (z.eq (by decide) (by decide)) i2, I_cb_z (z.eq (by decide) (by decide)) i3, I_tx_z (z.eq (by decide) (by decide)) i4, I_rl_w (by decide) z i5, I_kd_w z i6, q7, I_ln_w z (by decide) (by decide) i8, I_pl_z (z.eq (by decide) (by decide)) i9, I_pd_z (z.eq (by decide) (by decide)) i10, q11, I_jb_z (z.eq (by decide) (by decide)) i12, a13, I_br_z (z.eq (by decide) (by decide)) i14⟩
theorem K_sheet {h : zm_H} (I : Inv h) : f_N_sheet_ok h ∧ f_M_sheet_ok (f_N_sheet h).2 ∧ (f_N_sheet h).1 = (f_M_sheet (f_N_sheet h).2).1 ∧ Inv (f_M_sheet (f_N_sheet h).2).2 := by
  obtain ⟨w, n, e, nx, ns, nf, nr, nl, np, J, L, V, g, I⟩ := I
  obtain ⟨i1, i2, i3, i4, i5, i6, i7, i8, i9, i10, i11, i12, i13, i14⟩ := id I
  obtain ⟨o1, o2, o3, ns', nx', o4, o5, o6, o7, o8⟩ := c_sheet i4 i5 i6
  refine ⟨o1, o2, o3, ?_⟩
  generalize (f_M_sheet (f_N_sheet h).2).2 = H at o4 o5 o6 o7 o8
  obtain ⟨s1, s2, s3⟩ := o7
  -- the same but for the texts: what the others speak of
  have ez : ∀ (S : List Nat) (F : List (Nat × Nat)), (S.all (fun i => decide (i < 162) && !([10, 12, 13, 14, 15, 17, 18, 92, 94, 95, 96, 97, 98, 99, 100, 101, 102] : List Nat).contains i)) = true → (F.all (fun p => (decide (p.1 < 162) && !([10, 12, 13, 14, 15, 17, 18, 92, 94, 95, 96, 97, 98, 99, 100, 101, 102] : List Nat).contains p.1) || (p.1 == 92 && !([1, 2, 3, 4, 5, 7, 8, 9, 12, 15] : List Nat).contains p.2))) = true → zEq S F h (h.1, H.2.1, H.2.2.1, h.2.2.2) := by
    intro S F hS hF
    rw [List.all_eq_true] at hS hF
    refine ⟨fun i hi => ?_, fun p hp => ?_⟩
    · have := hS i hi
      simp at this
      exact ⟨s1 i (by omega) (by simp; omega), s2 i (by omega) (by simp; omega), rfl⟩
    · have := hF p hp
      obtain ⟨i, k⟩ := p
      simp at this
      rcases this with y | y
      · show H.2.1 i k = h.2.1 i k
        rw [s1 i (by omega) (by simp; omega)]
      · obtain ⟨y1, y2⟩ := y
        subst y1
        exact s3 k (by simp; omega)
  have q1 : I_now w H := I_now_z (h' := (h.1, H.2.1, H.2.2.1, h.2.2.2)) (ez [] F_now rfl (by decide)) i1
  have q2 : I_sw w n e H := I_sw_z (h' := (h.1, H.2.1, H.2.2.1, h.2.2.2)) (ez S_sw F_sw (by decide) (by decide)) i2
  have q3 : I_cb H := I_cb_z (h' := (h.1, H.2.1, H.2.2.1, h.2.2.2)) (ez [] F_cb rfl (by decide)) i3
  have q12 : I_jb J L V H := I_jb_z (h' := (h.1, H.2.1, H.2.2.1, h.2.2.2)) (ez [73, 74, 146, 147, 78, 79] [(72, 2), (92, 72)] (by decide) (by decide)) i12
  have q9 : I_pl np H := I_pl_z (h' := (h.1, H.2.1, H.2.2.1, h.2.2.2)) (ez [86, 148] [(82, 7), (92, 75)] (by decide) (by decide)) i9
  have q10 : I_pd np H := I_pd_z (h' := (h.1, H.2.1, H.2.2.1, h.2.2.2)) (ez [86, 148] [(82, 7), (92, 75)] (by decide) (by decide)) i10
  have q14 : I_br H := I_br_z (h' := (h.1, H.2.1, H.2.2.1, h.2.2.2)) (ez [] [(0, 1), (0, 2), (92, 47), (92, 48)] rfl (by decide)) i14
  have e7 := ez [24, 25, 26, 112, 113, 114] [(23, 0), (92, 33)] (by decide) (by decide)
  have q7 : I_rf w nr H := by
    obtain ⟨⟨a, b, c⟩, ⟨d1, d2, d3⟩, f⟩ := i7
    have x : ∀ i, i ∈ [24, 25, 26, 112, 113, 114] → H.2.1 i = h.2.1 i := fun i hi => e7.a i hi
    refine ⟨⟨a, (e7.f 23 0 (by simp)).trans b, (e7.f 92 33 (by simp)).trans c⟩, ⟨by rw [x 24 (by simp), x 112 (by simp)]; exact d1, by rw [x 25 (by simp), x 113 (by simp)]; exact d2, by rw [x 26 (by simp), x 114 (by simp)]; exact d3⟩, ?_⟩
    rw [x 112 (by simp), x 113 (by simp), x 114 (by simp)]; exact f
  have e8 := ez [83, 84, 85, 115, 116, 117] [(82, 3), (92, 37)] (by decide) (by decide)
  have q8 : I_ln nl H := by
    obtain ⟨⟨a, b, c⟩, d1, d2, d3⟩ := i8
    have x : ∀ i, i ∈ [83, 84, 85, 115, 116, 117] → H.2.1 i = h.2.1 i := fun i hi => e8.a i hi
    exact ⟨⟨a, (e8.f 82 3 (by simp)).trans b, (e8.f 92 37 (by simp)).trans c⟩, by rw [x 83 (by simp), x 115 (by simp)]; exact d1, by rw [x 84 (by simp), x 116 (by simp)]; exact d2, by rw [x 85 (by simp), x 117 (by simp)]; exact d3⟩
  have x1 : ∀ i, i < 162 → ¬ i ∈ [10, 12, 13, 14, 15, 17, 18, 92, 94, 95, 96, 97, 98, 99, 100, 101, 102] → H.2.1 i = h.2.1 i := s1
  have q11 : I_bk nr w g H := by
    obtain ⟨b1, ⟨n1, n2, n3, n4, J1⟩, ⟨m1, m2, m3, m4, ⟨m5, m6, m7⟩, m8⟩, b4, b5, b6, b7⟩ := i11
    have fx : ∀ i k, i < 162 → ¬ i ∈ [10, 12, 13, 14, 15, 17, 18, 92, 94, 95, 96, 97, 98, 99, 100, 101, 102] → zf H i k = zf h i k := fun i k h1 h2 => by show H.2.1 i k = h.2.1 i k; rw [s1 i h1 h2]
    have f41 : zf H 92 41 = zf h 92 41 := s3 41 (by decide)
    refine ⟨b1, ⟨?_, ?_, (fx 37 4 (by omega) (by decide)).trans n3, ?_, J1.1, (fx 23 4 (by omega) (by decide)).trans J1.2.1, ?_⟩, ⟨?_, ?_, ?_, f41.trans m4, ⟨(s1 118 (by omega) (by decide)).trans m5, (s1 120 (by omega) (by decide)).trans m6, (s1 122 (by omega) (by decide)).trans m7⟩, ?_⟩, (fx 37 3 (by omega) (by decide)).trans b4, ?_, ?_, ?_⟩
    · exact (vC_eq (fun i hi => s1 (38 + i) (by omega) (by simp; omega))).trans n1
    · exact (uN_eq (fun i hi => s1 (64 + i) (by omega) (by simp; omega))).trans n2
    · exact (tB_eq (fun i hi => s1 (27 + i) (by omega) (by simp; omega))).trans n4
    · rw [s1 28 (by omega) (by decide), s1 29 (by omega) (by decide), s1 30 (by omega) (by decide), s1 31 (by omega) (by decide)]; exact J1.2.2
    · exact (vM_eq (fun i hi => s1 i (by simp at hi; omega) (by simp at hi ⊢; omega)) (s2 127 (by omega) (by decide))).trans m1
    · exact (uM_eq (fun i hi => s1 i (by simp at hi; omega) (by simp at hi ⊢; omega))).trans m2
    · exact mB_eq (fun i hi => s1 i (by simp at hi; omega) (by simp at hi ⊢; omega)) m3
    · rw [s1 119 (by omega) (by decide), s1 121 (by omega) (by decide)]; exact m8
    · rw [s1 47 (by omega) (by decide), s1 131 (by omega) (by decide)]; exact b5
    · rw [s1 48 (by omega) (by decide), s1 132 (by omega) (by decide)]; exact b6
    · rw [s1 49 (by omega) (by decide), s1 133 (by omega) (by decide)]; exact b7
  have q13 : I_an nf nr g.2.2.1 n e w H := by
    refine I_an_l i7.1.1 (Nat.le_refl _) (Nat.le_refl _) (Nat.le_refl _) ⟨?_, ?_, ?_, ?_⟩ (fun i hi => s1 (51 + i) (by omega) (by simp; omega)) (fun q d G hq hd hG => ⟨fun t _ c nm hc => o8 c (nI t) nm hc, fun t _ => seaP_eq (fun i hi => s1 i (by simp at hi; omega) (by simp at hi ⊢; omega)) q d t, fun r _ => ?_, fun i k _ => ?_, Nat.le_refl _, fun t ht k k1 k2 => absurd k2 (by omega)⟩) i13
    · show H.2.1 0 10 = _; rw [s1 0 (by omega) (by decide)]
    · show H.2.1 0 11 = _; rw [s1 0 (by omega) (by decide)]
    · show H.2.1 50 3 = _; rw [s1 50 (by omega) (by decide)]
    · show H.2.1 50 4 = _; rw [s1 50 (by omega) (by decide)]
    · rw [s1 112 (by omega) (by decide), s1 113 (by omega) (by decide), s1 114 (by omega) (by decide)]; exact ⟨rfl, rfl, rfl⟩
    · rw [tB_eq (fun i hi => s1 (27 + i) (by omega) (by simp; omega))]
  exact ⟨w, n, e, nx', ns', nf, nr, nl, np, J, L, V, g, q1, q2, q3, o4, o5, o6, q7, q8, q9, q10, q11, q12, q13, q14⟩
