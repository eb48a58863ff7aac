/-! ===== every call keeps it: the light ones ===== -/
theorem I_jb_z {J : Nat} {L V : Nat → Nat} {h h' : zm_H} (e : zEq [73, 74, 146, 147, 78, 79] [(72, 2), (92, 72)] h h') (H : I_jb J L V h) : I_jb J L V h' := by
  obtain ⟨j1, j2, j3, j4, j5, j6⟩ := H
  refine ⟨j1, (e.f 72 2 (by simp)).trans j2, (e.f 92 72 (by simp)).trans j3, fun j hj => ?_, by rw [e.a 78 (by simp)]; exact j5, by rw [e.a 79 (by simp)]; exact j6⟩
  rw [e.a 73 (by simp), e.a 74 (by simp), e.a 146 (by simp), e.a 147 (by simp)]; exact j4 j hj
theorem K_why {h : zm_H} (I : Inv h) (p1 p2 : Int32) : f_N_why_ok p1 p2 h ∧ f_M_why_ok p1 p2 h ∧ f_N_why p1 p2 h = f_M_why p1 p2 h := by
  obtain ⟨w, n, e, nx, ns, nf, nr, nl, np, J, L, V, g, I⟩ := I
  obtain ⟨i1, i2, i3, i4, i5, i6, i7, i8, i9, i10, i11, i12, i13, i14⟩ := id I
  exact c_why i5 p1 p2
theorem K_booked {h : zm_H} (I : Inv h) (p1 p2 : Int32) : f_N_booked_ok p1 p2 h ∧ f_M_booked_ok p1 p2 h ∧ f_N_booked p1 p2 h = f_M_booked p1 p2 h := by
  obtain ⟨w, n, e, nx, ns, nf, nr, nl, np, J, L, V, g, I⟩ := I
  obtain ⟨i1, i2, i3, i4, i5, i6, i7, i8, i9, i10, i11, i12, i13, i14⟩ := id I
  exact c_booked i1 i11 p1 p2
theorem K_told {h : zm_H} (I : Inv h) (p1 p2 : Int32) : f_N_told_ok p1 p2 h ∧ f_M_told_ok p1 p2 h ∧ f_N_told p1 p2 h = f_M_told p1 p2 h := by
  obtain ⟨w, n, e, nx, ns, nf, nr, nl, np, J, L, V, g, I⟩ := I
  obtain ⟨i1, i2, i3, i4, i5, i6, i7, i8, i9, i10, i11, i12, i13, i14⟩ := id I
  exact c_told i7 i11 p1 p2
theorem K_beach {h : zm_H} (I : Inv h) (p1 p2 p3 : Int32) {p4 : Int32} (hv : p4 = 0 ∨ p4 = 1) : f_N_beach_ok p1 p2 p3 p4 h ∧ f_M_beach_ok p1 p2 p3 p4 h ∧ f_N_beach p1 p2 p3 p4 h = f_M_beach p1 p2 p3 p4 h := by
  obtain ⟨w, n, e, nx, ns, nf, nr, nl, np, J, L, V, g, I⟩ := I
  obtain ⟨i1, i2, i3, i4, i5, i6, i7, i8, i9, i10, i11, i12, i13, i14⟩ := id I
  exact c_beach i1 i11 i14.1 p1 p2 p3 hv
theorem K_next {h : zm_H} (I : Inv h) : f_N_next_ok h ∧ f_M_next_ok h ∧ f_N_next h = f_M_next h := by
  obtain ⟨w, n, e, nx, ns, nf, nr, nl, np, J, L, V, g, I⟩ := I
  obtain ⟨i1, i2, i3, i4, i5, i6, i7, i8, i9, i10, i11, i12, i13, i14⟩ := id I
  exact c_next i3
theorem K_known {h : zm_H} (I : Inv h) (p1 p2 p3 : Int32) : f_N_known_ok p1 p2 p3 h ∧ f_M_known_ok p1 p2 p3 h ∧ f_N_known p1 p2 p3 h = (f_M_known p1 p2 p3 h).1 ∧ Inv (f_M_known p1 p2 p3 h).2 := by
  obtain ⟨w, n, e, nx, ns, nf, nr, nl, np, J, L, V, g, I⟩ := I
  obtain ⟨i1, i2, i3, i4, i5, i6, i7, i8, i9, i10, i11, i12, i13, i14⟩ := id I
  obtain ⟨o1, o2, o3⟩ := c_known i2 p1 p2 p3
  exact ⟨o1, o2, o3, _, _, _, _, _, _, _, _, _, _, _, _, _, Iv_w (f_M_known_w p1 p2 p3 h) (by decide) I⟩
theorem K_blame {h : zm_H} (I : Inv h) (p1 p2 : Int32) : f_N_blame_ok p1 p2 h ∧ f_M_blame_ok p1 p2 h ∧ f_N_blame p1 p2 h = (f_M_blame p1 p2 h).1 ∧ Inv (f_M_blame p1 p2 h).2 := by
  obtain ⟨w, n, e, nx, ns, nf, nr, nl, np, J, L, V, g, I⟩ := I
  obtain ⟨i1, i2, i3, i4, i5, i6, i7, i8, i9, i10, i11, i12, i13, i14⟩ := id I
  obtain ⟨o1, o2, o3⟩ := c_blame i1 i7 i2 i11 i14.2 p1 p2
  exact ⟨o1, o2, o3, _, _, _, _, _, _, _, _, _, _, _, _, _, Iv_w (f_M_blame_w p1 p2 h) (by decide) I⟩
theorem K_window {h : zm_H} (I : Inv h) (p1 p2 p3 : Int32) : f_N_window_ok p1 p2 p3 h ∧ f_M_window_ok p1 p2 p3 (f_N_window p1 p2 p3 h).2 ∧ (f_N_window p1 p2 p3 h).1 = (f_M_window p1 p2 p3 (f_N_window p1 p2 p3 h).2).1 ∧ Inv (f_M_window p1 p2 p3 (f_N_window p1 p2 p3 h).2).2 := by
  obtain ⟨w, n, e, nx, ns, nf, nr, nl, np, J, L, V, g, I⟩ := I
  obtain ⟨i1, i2, i3, i4, i5, i6, i7, i8, i9, i10, i11, i12, i13, i14⟩ := id I
  have z : zWr [21, 22, 75, 76, 149, 150, 154, 155] [(15, 9), (72, 5), (92, 79), (92, 80), (92, 81)] h (f_M_window p1 p2 p3 (f_N_window p1 p2 p3 h).2).2 := zWr_tr (f_M_window_w p1 p2 p3 _) (by decide) (by decide) (zWr_tr (f_N_window_w p1 p2 p3 h) (by decide) (by decide) (zWr.refl _ _))
  obtain ⟨o1, o2, o3⟩ := c_window i1 i5 i2 p1 p2 p3
  exact ⟨o1, o2, o3, w, n, e, nx, ns, nf, nr, nl, np, J, L, V, g, I_now_z (z.eq (by decide) (by decide)) i1, I_sw_z (z.eq (by decide) (by decide)) i2, I_cb_z (z.eq (by decide) (by decide)) i3, I_tx_z (z.eq (by decide) (by decide)) i4, I_rl_w (by decide) z i5, I_kd_w z i6, I_rf_w z (by decide) i7, I_ln_w z (by decide) (by decide) i8, I_pl_z (z.eq (by decide) (by decide)) i9, I_pd_z (z.eq (by decide) (by decide)) i10, I_bk_w z (by decide) (by decide) (by decide) (by decide) i11, I_jb_z (z.eq (by decide) (by decide)) i12, I_an_w (by decide) z i13, I_br_z (z.eq (by decide) (by decide)) i14⟩
theorem K_fault {h : zm_H} (I : Inv h) : f_N_fault_ok h ∧ f_M_fault_ok (f_N_fault h).2 ∧ (f_N_fault h).1 = (f_M_fault (f_N_fault h).2).1 ∧ Inv (f_M_fault (f_N_fault h).2).2 := by
  obtain ⟨w, n, e, nx, ns, nf, nr, nl, np, J, L, V, g, I⟩ := I
  obtain ⟨i1, i2, i3, i4, i5, i6, i7, i8, i9, i10, i11, i12, i13, i14⟩ := id I
  have z : zWr [12, 13, 14, 94, 95, 96, 97, 98, 162, 163, 164] [(10, 2), (10, 6), (10, 7), (10, 8), (10, 10), (92, 2), (92, 3), (92, 4), (92, 5), (92, 7), (92, 8), (92, 9), (92, 12)] h (f_M_fault (f_N_fault h).2).2 := zWr_tr (f_M_fault_w _) (by decide) (by decide) (zWr_tr (f_N_fault_w h) (by decide) (by decide) (zWr.refl _ _))
  obtain ⟨o1, o2, o3⟩ := c_fault i4
  exact ⟨o1, o2, o3, w, n, e, nx, ns, nf, nr, nl, np, J, L, V, g, I_now_z (z.eq (by decide) (by decide)) i1, I_sw_z (z.eq (by decide) (by decide)) i2, I_cb_z (z.eq (by decide) (by decide)) i3, I_tx_z (z.eq (by decide) (by decide)) i4, I_rl_w (by decide) z i5, I_kd_w z i6, I_rf_w z (by decide) i7, I_ln_w z (by decide) (by decide) i8, I_pl_z (z.eq (by decide) (by decide)) i9, I_pd_z (z.eq (by decide) (by decide)) i10, I_bk_w z (by decide) (by decide) (by decide) (by decide) i11, I_jb_z (z.eq (by decide) (by decide)) i12, I_an_w (by decide) z i13, I_br_z (z.eq (by decide) (by decide)) i14⟩
theorem K_plan {h : zm_H} (I : Inv h) (p1 p2 : Int32) : f_N_plan_ok p1 p2 h ∧ f_M_plan_ok p1 p2 (f_N_plan p1 p2 h).2 ∧ (f_N_plan p1 p2 h).1 = (f_M_plan p1 p2 (f_N_plan p1 p2 h).2).1 ∧ Inv (f_M_plan p1 p2 (f_N_plan p1 p2 h).2).2 := by
  obtain ⟨w, n, e, nx, ns, nf, nr, nl, np, J, L, V, g, I⟩ := I
  obtain ⟨i1, i2, i3, i4, i5, i6, i7, i8, i9, i10, i11, i12, i13, i14⟩ := id I
  have z : zWr [21, 22, 75, 76, 77, 78, 79, 80, 81, 149, 150, 154, 155, 156, 157, 158] [(15, 9), (72, 5), (72, 12), (72, 13), (92, 79), (92, 80), (92, 81)] h (f_M_plan p1 p2 (f_N_plan p1 p2 h).2).2 := zWr_tr (f_M_plan_w p1 p2 _) (by decide) (by decide) (zWr_tr (f_N_plan_w p1 p2 h) (by decide) (by decide) (zWr.refl _ _))
  obtain ⟨o1, o2, o3, o4⟩ := c_plan i1 i5 i2 i12 p1 p2
  exact ⟨o1, o2, o3, w, n, e, nx, ns, nf, nr, nl, np, J, L, V, g, I_now_z (z.eq (by decide) (by decide)) i1, I_sw_z (z.eq (by decide) (by decide)) i2, I_cb_z (z.eq (by decide) (by decide)) i3, I_tx_z (z.eq (by decide) (by decide)) i4, I_rl_w (by decide) z i5, I_kd_w z i6, I_rf_w z (by decide) i7, I_ln_w z (by decide) (by decide) i8, I_pl_z (z.eq (by decide) (by decide)) i9, I_pd_z (z.eq (by decide) (by decide)) i10, I_bk_w z (by decide) (by decide) (by decide) (by decide) i11, o4, I_an_w (by decide) z i13, I_br_z (z.eq (by decide) (by decide)) i14⟩
theorem K_place {h : zm_H} (I : Inv h) (p1 : Int32) : f_N_place_ok p1 h ∧ f_M_place_ok p1 (f_N_place p1 h).2 ∧ (f_N_place p1 h).1 = (f_M_place p1 (f_N_place p1 h).2).1 ∧ Inv (f_M_place p1 (f_N_place p1 h).2).2 := by
  obtain ⟨w, n, e, nx, ns, nf, nr, nl, np, J, L, V, g, I⟩ := I
  obtain ⟨i1, i2, i3, i4, i5, i6, i7, i8, i9, i10, i11, i12, i13, i14⟩ := id I
  have z : zWr [86, 148] [(82, 7), (92, 75)] h (f_M_place p1 (f_N_place p1 h).2).2 := zWr_tr (f_M_place_w p1 _) (by decide) (by decide) (zWr_tr (f_N_place_w p1 h) (by decide) (by decide) (zWr.refl _ _))
  obtain ⟨o1, o2, o3, np', o4, o5⟩ := c_place2 i9 i10 p1
  exact ⟨o1, o2, o3, w, n, e, nx, ns, nf, nr, nl, np', J, L, V, g, I_now_z (z.eq (by decide) (by decide)) i1, I_sw_z (z.eq (by decide) (by decide)) i2, I_cb_z (z.eq (by decide) (by decide)) i3, I_tx_z (z.eq (by decide) (by decide)) i4, I_rl_w (by decide) z i5, I_kd_w z i6, I_rf_w z (by decide) i7, I_ln_w z (by decide) (by decide) i8, o4, o5, I_bk_w z (by decide) (by decide) (by decide) (by decide) i11, I_jb_z (z.eq (by decide) (by decide)) i12, I_an_w (by decide) z i13, I_br_z (z.eq (by decide) (by decide)) i14⟩
theorem K_test {h : zm_H} (I : Inv h) (p1 p2 p3 : Int32) : f_N_test_ok p1 p2 p3 h ∧ f_M_test_ok p1 p2 p3 (f_N_test p1 p2 p3 h).2 ∧ (f_N_test p1 p2 p3 h).1 = (f_M_test p1 p2 p3 (f_N_test p1 p2 p3 h).2).1 ∧ Inv (f_M_test p1 p2 p3 (f_N_test p1 p2 p3 h).2).2 := by
  obtain ⟨w, n, e, nx, ns, nf, nr, nl, np, J, L, V, g, I⟩ := I
  obtain ⟨i1, i2, i3, i4, i5, i6, i7, i8, i9, i10, i11, i12, i13, i14⟩ := id I
  have z : zWr [] [(91, 0), (91, 1), (92, 77), (92, 78)] h (f_M_test p1 p2 p3 (f_N_test p1 p2 p3 h).2).2 := zWr_tr (f_M_test_w p1 p2 p3 _) (by decide) (by decide) (zWr_tr (f_N_test_w p1 p2 p3 h) (by decide) (by decide) (zWr.refl _ _))
  obtain ⟨o3, o4⟩ := c_test i3 p1 p2 p3
  have o1 : f_N_test_ok p1 p2 p3 h := trivial
  have o2 : f_M_test_ok p1 p2 p3 (f_N_test p1 p2 p3 h).2 := trivial
  exact ⟨o1, o2, o3, w, n, e, nx, ns, nf, nr, nl, np, J, L, V, g, I_now_z (z.eq (by decide) (by decide)) i1, I_sw_z (z.eq (by decide) (by decide)) i2, o4, I_tx_z (z.eq (by decide) (by decide)) i4, I_rl_w (by decide) z i5, I_kd_w z i6, I_rf_w z (by decide) i7, I_ln_w z (by decide) (by decide) i8, I_pl_z (z.eq (by decide) (by decide)) i9, I_pd_z (z.eq (by decide) (by decide)) i10, I_bk_w z (by decide) (by decide) (by decide) (by decide) i11, I_jb_z (z.eq (by decide) (by decide)) i12, I_an_w (by decide) z i13, I_br_z (z.eq (by decide) (by decide)) i14⟩
theorem K_clear {h : zm_H} (I : Inv h) : f_N_clear_ok h ∧ f_M_clear_ok (f_N_clear h).2 ∧ (f_N_clear h).1 = (f_M_clear (f_N_clear h).2).1 ∧ Inv (f_M_clear (f_N_clear h).2).2 := by
  obtain ⟨w, n, e, nx, ns, nf, nr, nl, np, J, L, V, g, I⟩ := I
  obtain ⟨i1, i2, i3, i4, i5, i6, i7, i8, i9, i10, i11, i12, i13, i14⟩ := id I
  have z : zWr [] [(82, 7), (92, 75)] h (f_M_clear (f_N_clear h).2).2 := zWr_tr (f_M_clear_w _) (by decide) (by decide) (zWr_tr (f_N_clear_w h) (by decide) (by decide) (zWr.refl _ _))
  obtain ⟨o1, o2, o3, o4⟩ := a_clear i9.1.2.1 i9.1.2.2
  have q : I_pl 0 (f_M_clear (f_N_clear h).2).2 := by
    refine ⟨⟨by omega, ?_, ?_⟩, ?_, fun k hk => by omega⟩
    · rw [o4]; show (zm_si (zm_si h 82 7 0) 92 75 0).2.1 82 7 = _; rw [zf_si, if_neg (by decide)]; exact zm_in _ _ _ _
    · rw [o4]; exact zm_in _ _ _ _
    · rw [z.arr 86 (by decide) (by decide), z.arr 148 (by decide) (by decide)]; exact i9.2.1
  exact ⟨o1, o2, o3, w, n, e, nx, ns, nf, nr, nl, 0, J, L, V, g, I_now_z (z.eq (by decide) (by decide)) i1, I_sw_z (z.eq (by decide) (by decide)) i2, I_cb_z (z.eq (by decide) (by decide)) i3, I_tx_z (z.eq (by decide) (by decide)) i4, I_rl_w (by decide) z i5, I_kd_w z i6, I_rf_w z (by decide) i7, I_ln_w z (by decide) (by decide) i8, q, fun i j hi _ _ => absurd hi (by omega), I_bk_w z (by decide) (by decide) (by decide) (by decide) i11, I_jb_z (z.eq (by decide) (by decide)) i12, I_an_w (by decide) z i13, I_br_z (z.eq (by decide) (by decide)) i14⟩
theorem K_forget {h : zm_H} (I : Inv h) : f_N_forget_ok h ∧ f_M_forget_ok (f_N_forget h).2 ∧ (f_N_forget h).1 = (f_M_forget (f_N_forget h).2).1 ∧ Inv (f_M_forget (f_N_forget h).2).2 := by
  obtain ⟨w, n, e, nx, ns, nf, nr, nl, np, J, L, V, g, I⟩ := I
  obtain ⟨i1, i2, i3, i4, i5, i6, i7, i8, i9, i10, i11, i12, i13, i14⟩ := id I
  have z : zWr [] [(72, 2), (92, 72)] h (f_M_forget (f_N_forget h).2).2 := zWr_tr (f_M_forget_w _) (by decide) (by decide) (zWr_tr (f_N_forget_w h) (by decide) (by decide) (zWr.refl _ _))
  obtain ⟨o1, o2, o3, o4⟩ := a_forget i12.2.1 i12.2.2.1
  have q : I_jb 0 L V (f_M_forget (f_N_forget h).2).2 := by
    refine ⟨by omega, ?_, ?_, fun k hk => by omega, ?_, ?_⟩
    · rw [o4]; show (zm_si (zm_si h 72 2 0) 92 72 0).2.1 72 2 = _; rw [zf_si, if_neg (by decide)]; exact zm_in _ _ _ _
    · rw [o4]; exact zm_in _ _ _ _
    · rw [z.arr 78 (by decide) (by decide)]; exact i12.2.2.2.2.1
    · rw [z.arr 79 (by decide) (by decide)]; exact i12.2.2.2.2.2
  exact ⟨o1, o2, o3, w, n, e, nx, ns, nf, nr, nl, np, 0, L, V, g, I_now_z (z.eq (by decide) (by decide)) i1, I_sw_z (z.eq (by decide) (by decide)) i2, I_cb_z (z.eq (by decide) (by decide)) i3, I_tx_z (z.eq (by decide) (by decide)) i4, I_rl_w (by decide) z i5, I_kd_w z i6, I_rf_w z (by decide) i7, I_ln_w z (by decide) (by decide) i8, I_pl_z (z.eq (by decide) (by decide)) i9, I_pd_z (z.eq (by decide) (by decide)) i10, I_bk_w z (by decide) (by decide) (by decide) (by decide) i11, q, I_an_w (by decide) z i13, I_br_z (z.eq (by decide) (by decide)) i14⟩
theorem K_base {h : zm_H} (I : Inv h) (p1 : Int32) : f_N_base_ok p1 h ∧ f_M_base_ok p1 (f_N_base p1 h).2 ∧ (f_N_base p1 h).1 = (f_M_base p1 (f_N_base p1 h).2).1 ∧ Inv (f_M_base p1 (f_N_base p1 h).2).2 := by
  obtain ⟨w, n, e, nx, ns, nf, nr, nl, np, J, L, V, g, I⟩ := I
  obtain ⟨i1, i2, i3, i4, i5, i6, i7, i8, i9, i10, i11, i12, i13, i14⟩ := id I
  have z : zWr [] [(0, 1), (92, 47)] h (f_M_base p1 (f_N_base p1 h).2).2 := zWr_tr (f_M_base_w p1 _) (by decide) (by decide) (zWr_tr (f_N_base_w p1 h) (by decide) (by decide) (zWr.refl _ _))
  obtain ⟨o1, o2, o3, o4⟩ := a_base (h := h) p1
  have q : I_br (f_M_base p1 (f_N_base p1 h).2).2 := by
    have b : zf (f_M_base p1 (f_N_base p1 h).2).2 0 2 = zf (f_M_base p1 (f_N_base p1 h).2).2 92 48 := ((z.fld 0 2 (by decide) (by decide)).trans i14.2).trans (z.fld 92 48 (by decide) (by decide)).symm
    have a : zf (f_M_base p1 (f_N_base p1 h).2).2 0 1 = zf (f_M_base p1 (f_N_base p1 h).2).2 92 47 := by
      rcases o4 with ⟨-, -, o4⟩ | o4
      · rw [o4]
        show (zm_si (zm_si h 0 1 p1) 92 47 p1).2.1 0 1 = (zm_si (zm_si h 0 1 p1) 92 47 p1).2.1 92 47
        rw [zf_si, if_neg (by decide), zm_in, zm_in]
      · rw [o4]; exact i14.1
    exact ⟨a, b⟩
  exact ⟨o1, o2, o3, w, n, e, nx, ns, nf, nr, nl, np, J, L, V, g, I_now_z (z.eq (by decide) (by decide)) i1, I_sw_z (z.eq (by decide) (by decide)) i2, I_cb_z (z.eq (by decide) (by decide)) i3, I_tx_z (z.eq (by decide) (by decide)) i4, I_rl_w (by decide) z i5, I_kd_w z i6, I_rf_w z (by decide) i7, I_ln_w z (by decide) (by decide) i8, I_pl_z (z.eq (by decide) (by decide)) i9, I_pd_z (z.eq (by decide) (by decide)) i10, I_bk_w z (by decide) (by decide) (by decide) (by decide) i11, I_jb_z (z.eq (by decide) (by decide)) i12, I_an_w (by decide) z i13, q⟩
theorem K_rated {h : zm_H} (I : Inv h) (p1 : Int32) : f_N_rated_ok p1 h ∧ f_M_rated_ok p1 (f_N_rated p1 h).2 ∧ (f_N_rated p1 h).1 = (f_M_rated p1 (f_N_rated p1 h).2).1 ∧ Inv (f_M_rated p1 (f_N_rated p1 h).2).2 := by
  obtain ⟨w, n, e, nx, ns, nf, nr, nl, np, J, L, V, g, I⟩ := I
  obtain ⟨i1, i2, i3, i4, i5, i6, i7, i8, i9, i10, i11, i12, i13, i14⟩ := id I
  have z : zWr [] [(0, 2), (92, 48)] h (f_M_rated p1 (f_N_rated p1 h).2).2 := zWr_tr (f_M_rated_w p1 _) (by decide) (by decide) (zWr_tr (f_N_rated_w p1 h) (by decide) (by decide) (zWr.refl _ _))
  obtain ⟨o1, o2, o3, o4⟩ := a_rated (h := h) p1
  have q : I_br (f_M_rated p1 (f_N_rated p1 h).2).2 := by
    have b : zf (f_M_rated p1 (f_N_rated p1 h).2).2 0 1 = zf (f_M_rated p1 (f_N_rated p1 h).2).2 92 47 := ((z.fld 0 1 (by decide) (by decide)).trans i14.1).trans (z.fld 92 47 (by decide) (by decide)).symm
    have a : zf (f_M_rated p1 (f_N_rated p1 h).2).2 0 2 = zf (f_M_rated p1 (f_N_rated p1 h).2).2 92 48 := by
      rcases o4 with ⟨-, -, o4⟩ | o4
      · rw [o4]
        show (zm_si (zm_si h 0 2 p1) 92 48 p1).2.1 0 2 = (zm_si (zm_si h 0 2 p1) 92 48 p1).2.1 92 48
        rw [zf_si, if_neg (by decide), zm_in, zm_in]
      · rw [o4]; exact i14.2
    exact ⟨b, a⟩
  exact ⟨o1, o2, o3, w, n, e, nx, ns, nf, nr, nl, np, J, L, V, g, I_now_z (z.eq (by decide) (by decide)) i1, I_sw_z (z.eq (by decide) (by decide)) i2, I_cb_z (z.eq (by decide) (by decide)) i3, I_tx_z (z.eq (by decide) (by decide)) i4, I_rl_w (by decide) z i5, I_kd_w z i6, I_rf_w z (by decide) i7, I_ln_w z (by decide) (by decide) i8, I_pl_z (z.eq (by decide) (by decide)) i9, I_pd_z (z.eq (by decide) (by decide)) i10, I_bk_w z (by decide) (by decide) (by decide) (by decide) i11, I_jb_z (z.eq (by decide) (by decide)) i12, I_an_w (by decide) z i13, q⟩
theorem K_lane {h : zm_H} (I : Inv h) (p1 p2 p3 : Int32) : f_N_lane_ok p1 p2 p3 h ∧ f_M_lane_ok p1 p2 p3 (f_N_lane p1 p2 p3 h).2 ∧ (f_N_lane p1 p2 p3 h).1 = (f_M_lane p1 p2 p3 (f_N_lane p1 p2 p3 h).2).1 ∧ Inv (f_M_lane p1 p2 p3 (f_N_lane p1 p2 p3 h).2).2 := by
  obtain ⟨w, n, e, nx, ns, nf, nr, nl, np, J, L, V, g, I⟩ := I
  obtain ⟨i1, i2, i3, i4, i5, i6, i7, i8, i9, i10, i11, i12, i13, i14⟩ := id I
  have z : zWr [83, 84, 85, 115, 116, 117] [(82, 3), (92, 37)] h (f_M_lane p1 p2 p3 (f_N_lane p1 p2 p3 h).2).2 := zWr_tr (f_M_lane_w p1 p2 p3 _) (by decide) (by decide) (zWr_tr (f_N_lane_w p1 p2 p3 h) (by decide) (by decide) (zWr.refl _ _))
  obtain ⟨o1, o2, o3, o4⟩ := a_lane i8.1.1 i8.1.2.1 i8.1.2.2 p1 p2 p3
  obtain ⟨nl', q⟩ : ∃ nl', I_ln nl' (f_M_lane p1 p2 p3 (f_N_lane p1 p2 p3 h).2).2 := by
    rcases o4 with ⟨-, l, o4⟩ | o4
    · rw [o4]
      refine ⟨nl + 1, ⟨by omega, ?_, zm_in _ _ _ _⟩, ?_, ?_, ?_⟩
      · simp only [zf, zf_si]; simp
      · simp only [za_si]; simp; rw [i8.2.1]
      · simp only [za_si]; simp; rw [i8.2.2.1]
      · simp only [za_si]; simp; rw [i8.2.2.2]
    · rw [o4]; exact ⟨nl, i8⟩
  exact ⟨o1, o2, o3, w, n, e, nx, ns, nf, nr, nl', np, J, L, V, g, I_now_z (z.eq (by decide) (by decide)) i1, I_sw_z (z.eq (by decide) (by decide)) i2, I_cb_z (z.eq (by decide) (by decide)) i3, I_tx_z (z.eq (by decide) (by decide)) i4, I_rl_w (by decide) z i5, I_kd_w z i6, I_rf_w z (by decide) i7, q, I_pl_z (z.eq (by decide) (by decide)) i9, I_pd_z (z.eq (by decide) (by decide)) i10, I_bk_w z (by decide) (by decide) (by decide) (by decide) i11, I_jb_z (z.eq (by decide) (by decide)) i12, I_an_w (by decide) z i13, I_br_z (z.eq (by decide) (by decide)) i14⟩
theorem K_end {h : zm_H} (I : Inv h) (p1 : Int32) : f_N_end_ok p1 h ∧ f_M_end_ok p1 (f_N_end p1 h).2 ∧ (f_N_end p1 h).1 = (f_M_end p1 (f_N_end p1 h).2).1 ∧ Inv (f_M_end p1 (f_N_end p1 h).2).2 := by
  obtain ⟨w, n, e, nx, ns, nf, nr, nl, np, J, L, V, g, I⟩ := I
  obtain ⟨i1, i2, i3, i4, i5, i6, i7, i8, i9, i10, i11, i12, i13, i14⟩ := id I
  have z : zWr [] [(10, 1), (92, 1)] h (f_M_end p1 (f_N_end p1 h).2).2 := zWr_tr (f_M_end_w p1 _) (by decide) (by decide) (zWr_tr (f_N_end_w p1 h) (by decide) (by decide) (zWr.refl _ _))
  obtain ⟨o1, o2, o3, o4⟩ := a_end i4.1 i4.2.1 i4.2.2.1 p1
  obtain ⟨nx', q⟩ : ∃ nx', I_tx nx' (f_M_end p1 (f_N_end p1 h).2).2 := by
    have a11 := z.arr 11 (by decide) (by decide)
    have a93 := z.arr 93 (by decide) (by decide)
    rcases o4 with ⟨l1, l2, o4⟩ | o4
    · refine ⟨p1.toNatClampNeg, by have := i_cl l1; have := i4.1; omega, ?_, ?_, by rw [a11, a93]; exact i4.2.2.2.1, by rw [a11]; exact i4.2.2.2.2⟩
      · rw [o4]; show (zm_si (zm_si h 10 1 p1) 92 1 p1).2.1 10 1 = _; rw [zf_si, if_neg (by decide), zm_in]; exact i_of l1
      · rw [o4]; show (zm_si (zm_si h 10 1 p1) 92 1 p1).2.1 92 1 = _; rw [zm_in]; exact i_of l1
    · rw [o4]; exact ⟨nx, i4⟩
  exact ⟨o1, o2, o3, w, n, e, nx', ns, nf, nr, nl, np, J, L, V, g, I_now_z (z.eq (by decide) (by decide)) i1, I_sw_z (z.eq (by decide) (by decide)) i2, I_cb_z (z.eq (by decide) (by decide)) i3, q, I_rl_w (by decide) z i5, I_kd_w z i6, I_rf_w z (by decide) i7, I_ln_w z (by decide) (by decide) i8, I_pl_z (z.eq (by decide) (by decide)) i9, I_pd_z (z.eq (by decide) (by decide)) i10, I_bk_w z (by decide) (by decide) (by decide) (by decide) i11, I_jb_z (z.eq (by decide) (by decide)) i12, I_an_w (by decide) z i13, I_br_z (z.eq (by decide) (by decide)) i14⟩
theorem K_want {h : zm_H} (I : Inv h) (p1 p2 : Int32) : f_N_want_ok p1 p2 h ∧ f_M_want_ok p1 p2 (f_N_want p1 p2 h).2 ∧ (f_N_want p1 p2 h).1 = (f_M_want p1 p2 (f_N_want p1 p2 h).2).1 ∧ Inv (f_M_want p1 p2 (f_N_want p1 p2 h).2).2 := by
  obtain ⟨w, n, e, nx, ns, nf, nr, nl, np, J, L, V, g, I⟩ := I
  obtain ⟨i1, i2, i3, i4, i5, i6, i7, i8, i9, i10, i11, i12, i13, i14⟩ := id I
  have z : zWr [73, 74, 146, 147] [(72, 2), (92, 72)] h (f_M_want p1 p2 (f_N_want p1 p2 h).2).2 := zWr_tr (f_M_want_w p1 p2 _) (by decide) (by decide) (zWr_tr (f_N_want_w p1 p2 h) (by decide) (by decide) (zWr.refl _ _))
  obtain ⟨o1, o2, o3, o4⟩ := a_want i12.1 i12.2.1 i12.2.2.1 p1 p2
  obtain ⟨J', L', V', q⟩ : ∃ J' L' V', I_jb J' L' V' (f_M_want p1 p2 (f_N_want p1 p2 h).2).2 := by
    obtain ⟨j1, j2, j3, j4, j5, j6⟩ := id i12
    rcases o4 with ⟨⟨l1, l2, l3, l4⟩, l, o4⟩ | o4
    · have h78 : (f_M_want p1 p2 (f_N_want p1 p2 h).2).2.2.1 78 = h.2.1 78 := z.arr 78 (by decide) (by decide)
      have h79 : (f_M_want p1 p2 (f_N_want p1 p2 h).2).2.2.1 79 = h.2.1 79 := z.arr 79 (by decide) (by decide)
      have c1 := i_cl (show 0 ≤ p1.toInt by omega)
      have c2 := i_cl (show 0 ≤ p2.toInt by omega)
      refine ⟨J + 1, fun j => if j = J then p1.toNatClampNeg else L j, fun j => if j = J then p2.toNatClampNeg else V j, by omega, ?_, ?_, fun j hj => ?_, by rw [h78]; exact j5, by rw [h79]; exact j6⟩
      · rw [o4]; simp only [zf, zf_si]; simp
      · rw [o4]; exact zm_in _ _ _ _
      · rw [o4]
        simp only [zf_si]
        by_cases y : j = J
        · subst y
          simp
          refine ⟨by omega, by omega, by omega, i_of (by omega), i_of (by omega), i_of (by omega), i_of (by omega)⟩
        · simp [y]
          obtain ⟨k1, k2, k3, k4, k5, k6, k7⟩ := j4 j (by omega)
          exact ⟨k1, k2, k3, k4, k5, k6, k7⟩
    · rw [o4]; exact ⟨J, L, V, i12⟩
  exact ⟨o1, o2, o3, w, n, e, nx, ns, nf, nr, nl, np, J', L', V', g, I_now_z (z.eq (by decide) (by decide)) i1, I_sw_z (z.eq (by decide) (by decide)) i2, I_cb_z (z.eq (by decide) (by decide)) i3, I_tx_z (z.eq (by decide) (by decide)) i4, I_rl_w (by decide) z i5, I_kd_w z i6, I_rf_w z (by decide) i7, I_ln_w z (by decide) (by decide) i8, I_pl_z (z.eq (by decide) (by decide)) i9, I_pd_z (z.eq (by decide) (by decide)) i10, I_bk_w z (by decide) (by decide) (by decide) (by decide) i11, q, I_an_w (by decide) z i13, I_br_z (z.eq (by decide) (by decide)) i14⟩
