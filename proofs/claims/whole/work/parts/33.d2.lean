/-! ===== the code as functions, 2 ===== -/
def f_N_goAnew_ok (p1 : Int32) (p2 : Int32) (h : zm_H) : Prop := (f_Swell_readingsUpTo_ok p2 h ∧ (f_Swell_driftsUpTo_ok p2 h ∧ ((((f_Swell_readingsUpTo p2 h) = (zf h 0 10)) → ((((f_Swell_driftsUpTo p2 h) = (zf h 0 11)) → (f_N_goAnew_k54_ok p1 (f_Swell_readingsUpTo p2 h) (f_Swell_driftsUpTo p2 h) h)) ∧ (¬ ((f_Swell_driftsUpTo p2 h) = (zf h 0 11)) → (f_N_goAnew_k36_ok p1 (f_Swell_readingsUpTo p2 h) (f_Swell_driftsUpTo p2 h) h)))) ∧ (¬ ((f_Swell_readingsUpTo p2 h) = (zf h 0 10)) → (f_N_goAnew_k36_ok p1 (f_Swell_readingsUpTo p2 h) (f_Swell_driftsUpTo p2 h) h)))))
theorem f_N_goAnew_w (p1 : Int32) (p2 : Int32) (h : zm_H) : zWr [21, 22, 32, 33, 34, 35, 36, 51, 52, 53, 54, 55, 56, 57, 58, 59, 60, 61, 62] [(0, 10), (0, 11), (15, 9), (50, 3), (50, 4)] h ((f_N_goAnew p1 p2 h)) := by
  unfold f_N_goAnew
  exact (zWr_ite (fun z : zm_H => z) (zWr_ite (fun z : zm_H => z) (zWr_tr (f_N_goAnew_k54_w p1 (f_Swell_readingsUpTo p2 h) (f_Swell_driftsUpTo p2 h) h) (by decide) (by decide) (zWr.refl _ _)) (zWr_tr (f_N_goAnew_k36_w p1 (f_Swell_readingsUpTo p2 h) (f_Swell_driftsUpTo p2 h) h) (by decide) (by decide) (zWr.refl _ _))) (zWr_tr (f_N_goAnew_k36_w p1 (f_Swell_readingsUpTo p2 h) (f_Swell_driftsUpTo p2 h) h) (by decide) (by decide) (zWr.refl _ _)))
def f_Course_ofSpell_50 (p1 : Int32) (p2 : Int32) (h : zm_H) : Int32 := (if (p2 = 0) then ((zr h 60 p1) : Int32) else (if (p2 = 1) then ((zr h 61 p1) : Int32) else (if (p2 < 10) then ((-2147483648) : Int32) else (if (20 ≤ p2) then ((-2147483648) : Int32) else (zr h 62 (((p1 * 10) + p2) - 10))))))
def f_Course_ofSpell_50_ok (p1 : Int32) (p2 : Int32) (h : zm_H) : Prop := (((p2 = 0) → vp_in p1 480) ∧ (¬ (p2 = 0) → (((p2 = 1) → vp_in p1 480) ∧ (¬ (p2 = 1) → (((p2 < 10) → True) ∧ (¬ (p2 < 10) → (((20 ≤ p2) → True) ∧ (¬ (20 ≤ p2) → vp_in (((p1 * 10) + p2) - 10) 4800))))))))
def f_N_right_k37 (v1 : Int32) (v3 : Int32) (h : zm_H) : Int32 × zm_H := ((f_Course_ofSpell_50 v1 v3 h), h)
def f_N_right_k37_ok (v1 : Int32) (v3 : Int32) (h : zm_H) : Prop := f_Course_ofSpell_50_ok v1 v3 h
theorem f_N_right_k37_w (v1 : Int32) (v3 : Int32) (h : zm_H) : zWr [] [] h ((f_N_right_k37 v1 v3 h).2) := by
  unfold f_N_right_k37
  exact (zWr.refl _ _)
def f_N_right (p1 : Int32) (p2 : Int32) (p3 : Int32) (h : zm_H) : Int32 × zm_H := (if (¬ (p1 < 0) ∧ (¬ ((zf h 0 0) ≤ p1))) then (if (¬ (p2 < 0) ∧ (¬ (480 ≤ p2))) then (if (p2 < p1) then ((-2147483648), h) else (if (p2 ≤ (zf h 0 0)) then (f_N_right_k37 p1 p3 (f_N_goAnew p1 p2 h)) else ((-2147483648), h))) else ((-2147483648), h)) else ((-2147483648), h))
def f_N_right_ok (p1 : Int32) (p2 : Int32) (p3 : Int32) (h : zm_H) : Prop := (((¬ (p1 < 0) ∧ (¬ ((zf h 0 0) ≤ p1))) → (((¬ (p2 < 0) ∧ (¬ (480 ≤ p2))) → (((p2 < p1) → True) ∧ (¬ (p2 < p1) → (((p2 ≤ (zf h 0 0)) → (f_N_goAnew_ok p1 p2 h ∧ (f_N_right_k37_ok p1 p3 (f_N_goAnew p1 p2 h)))) ∧ (¬ (p2 ≤ (zf h 0 0)) → True))))) ∧ (¬ (¬ (p2 < 0) ∧ (¬ (480 ≤ p2))) → True))) ∧ (¬ (¬ (p1 < 0) ∧ (¬ ((zf h 0 0) ≤ p1))) → True))
theorem f_N_right_w (p1 : Int32) (p2 : Int32) (p3 : Int32) (h : zm_H) : zWr [21, 22, 32, 33, 34, 35, 36, 51, 52, 53, 54, 55, 56, 57, 58, 59, 60, 61, 62] [(0, 10), (0, 11), (15, 9), (50, 3), (50, 4)] h ((f_N_right p1 p2 p3 h).2) := by
  unfold f_N_right
  exact (zWr_ite (fun z : Int32 × zm_H => z.2) (zWr_ite (fun z : Int32 × zm_H => z.2) (zWr_ite (fun z : Int32 × zm_H => z.2) (zWr.refl _ _) (zWr_ite (fun z : Int32 × zm_H => z.2) (zWr_tr (f_N_right_k37_w p1 p3 (f_N_goAnew p1 p2 h)) (by decide) (by decide) (zWr_tr (f_N_goAnew_w p1 p2 h) (by decide) (by decide) (zWr.refl _ _))) (zWr.refl _ _))) (zWr.refl _ _)) (zWr.refl _ _))
def f_M_lastKnown (h : zm_H) : Int32 := (if (480 ≤ (zf h 92 23)) then (479 : Int32) else (zf h 92 23))
def f_M_lastKnown_ok (h : zm_H) : Prop := True
def f_M_anew_l2_l57_k72 (v1 : Int32) (v2 : Int32) (v3 : Int32) (v4 : Int32) (v5 : Int32) (h : zm_H) : Nat × Int32 × zm_H := (0, (v5 + 1), h)
def f_M_anew_l2_l57_k72_ok (v1 : Int32) (v2 : Int32) (v3 : Int32) (v4 : Int32) (v5 : Int32) (h : zm_H) : Prop := True
theorem f_M_anew_l2_l57_k72_w (v1 : Int32) (v2 : Int32) (v3 : Int32) (v4 : Int32) (v5 : Int32) (h : zm_H) : zWr [] [] h ((f_M_anew_l2_l57_k72 v1 v2 v3 v4 v5 h).2.2) := by
  unfold f_M_anew_l2_l57_k72
  exact (zWr.refl _ _)
def f_M_anew_l2_l57_b (v1 : Int32) (v2 : Int32) (v3 : Int32) (v4 : Int32) (v5 : Int32) (h : zm_H) : Nat × Int32 × zm_H := (if (3 ≤ v5) then (1, v5, h) else (f_M_anew_l2_l57_k72 v1 v2 v3 v4 v5 (f_M_newChain 1 v3 v5 0 h)))
def f_M_anew_l2_l57_b_ok (v1 : Int32) (v2 : Int32) (v3 : Int32) (v4 : Int32) (v5 : Int32) (h : zm_H) : Prop := (((3 ≤ v5) → True) ∧ (¬ (3 ≤ v5) → f_M_newChain_ok 1 v3 v5 0 h))
theorem f_M_anew_l2_l57_b_w (v1 : Int32) (v2 : Int32) (v3 : Int32) (v4 : Int32) (v5 : Int32) (h : zm_H) : zWr [128, 129, 130] [] h ((f_M_anew_l2_l57_b v1 v2 v3 v4 v5 h).2.2) := by
  unfold f_M_anew_l2_l57_b
  exact (zWr_ite (fun z : Nat × Int32 × zm_H => z.2.2) (zWr.refl _ _) (zWr_tr (f_M_anew_l2_l57_k72_w v1 v2 v3 v4 v5 (f_M_newChain 1 v3 v5 0 h)) (by decide) (by decide) (zWr_tr (f_M_newChain_w 1 v3 v5 0 h) (by decide) (by decide) (zWr.refl _ _))))
def f_M_anew_l2_l57 (v1 : Int32) (v2 : Int32) (v3 : Int32) (v4 : Int32) (n : Nat) (t : Int32 × zm_H) : Nat × Int32 × zm_H := zwh (fun t => f_M_anew_l2_l57_b v1 v2 v3 v4 t.1 t.2) n t
def f_M_anew_l2_l57_ok (v1 : Int32) (v2 : Int32) (v3 : Int32) (v4 : Int32) (n : Nat) (t : Int32 × zm_H) : Prop := zwo (fun t => f_M_anew_l2_l57_b v1 v2 v3 v4 t.1 t.2) (fun t => f_M_anew_l2_l57_b_ok v1 v2 v3 v4 t.1 t.2) n t
theorem f_M_anew_l2_l57_w (v1 : Int32) (v2 : Int32) (v3 : Int32) (v4 : Int32) (n : Nat) (t : Int32 × zm_H) : zWr [128, 129, 130] [] (t.2) ((f_M_anew_l2_l57 v1 v2 v3 v4 n t).2.2) := by
  unfold f_M_anew_l2_l57
  exact zWr_zwh (fun t : Int32 × zm_H => t.2) (fun t => f_M_anew_l2_l57_b_w v1 v2 v3 v4 t.1 t.2)
def f_M_anew_l2_k78 (v1 : Int32) (v2 : Int32) (v3 : Int32) (h : zm_H) : Nat × Int32 × zm_H := (0, (v3 + 1), h)
def f_M_anew_l2_k78_ok (v1 : Int32) (v2 : Int32) (v3 : Int32) (h : zm_H) : Prop := True
theorem f_M_anew_l2_k78_w (v1 : Int32) (v2 : Int32) (v3 : Int32) (h : zm_H) : zWr [] [] h ((f_M_anew_l2_k78 v1 v2 v3 h).2.2) := by
  unfold f_M_anew_l2_k78
  exact (zWr.refl _ _)
def f_M_anew_l2_a57 (v1 : Int32) (v2 : Int32) (v3 : Int32) (r : Nat × Int32 × zm_H) : Nat × Int32 × zm_H := (f_M_anew_l2_k78 v1 v2 v3 (r.2.2))
def f_M_anew_l2_a57_ok (v1 : Int32) (v2 : Int32) (v3 : Int32) (r : Nat × Int32 × zm_H) : Prop := True
theorem f_M_anew_l2_a57_w (v1 : Int32) (v2 : Int32) (v3 : Int32) (r : Nat × Int32 × zm_H) : zWr [] [] (r.2.2) ((f_M_anew_l2_a57 v1 v2 v3 r).2.2) := by
  unfold f_M_anew_l2_a57
  exact (zWr_tr (f_M_anew_l2_k78_w v1 v2 v3 (r.2.2)) (by decide) (by decide) (zWr.refl _ _))
def f_M_anew_l2_b (v1 : Int32) (v2 : Int32) (v3 : Int32) (h : zm_H) : Nat × Int32 × zm_H := (if (10 ≤ v3) then (1, v3, h) else (f_M_anew_l2_a57 v1 v2 v3 (f_M_anew_l2_l57 v1 v2 v3 (10 + v3) zF (0, (zsl (zs (zs (zs (zs h 123 (10 + v3) 0) 124 (10 + v3) (-1)) 125 (10 + v3) 0) 126 (10 + v3) 0) 127 (10 + v3) (0 : Int32).toInt64)))))
def f_M_anew_l2_b_ok (v1 : Int32) (v2 : Int32) (v3 : Int32) (h : zm_H) : Prop := (((10 ≤ v3) → True) ∧ (¬ (10 ≤ v3) → (vp_in (10 + v3) 20 ∧ (vp_in (10 + v3) 20 ∧ (vp_in (10 + v3) 20 ∧ (vp_in (10 + v3) 20 ∧ (vp_in (10 + v3) 20 ∧ (f_M_anew_l2_l57_ok v1 v2 v3 (10 + v3) zF (0, (zsl (zs (zs (zs (zs h 123 (10 + v3) 0) 124 (10 + v3) (-1)) 125 (10 + v3) 0) 126 (10 + v3) 0) 127 (10 + v3) (0 : Int32).toInt64)) ∧ f_M_anew_l2_a57_ok v1 v2 v3 (f_M_anew_l2_l57 v1 v2 v3 (10 + v3) zF (0, (zsl (zs (zs (zs (zs h 123 (10 + v3) 0) 124 (10 + v3) (-1)) 125 (10 + v3) 0) 126 (10 + v3) 0) 127 (10 + v3) (0 : Int32).toInt64)))))))))))
theorem f_M_anew_l2_b_w (v1 : Int32) (v2 : Int32) (v3 : Int32) (h : zm_H) : zWr [123, 124, 125, 126, 127, 128, 129, 130] [] h ((f_M_anew_l2_b v1 v2 v3 h).2.2) := by
  unfold f_M_anew_l2_b
  exact (zWr_ite (fun z : Nat × Int32 × zm_H => z.2.2) (zWr.refl _ _) (zWr_tr (f_M_anew_l2_a57_w v1 v2 v3 (f_M_anew_l2_l57 v1 v2 v3 (10 + v3) zF (0, (zsl (zs (zs (zs (zs h 123 (10 + v3) 0) 124 (10 + v3) (-1)) 125 (10 + v3) 0) 126 (10 + v3) 0) 127 (10 + v3) (0 : Int32).toInt64)))) (by decide) (by decide) (zWr_tr (f_M_anew_l2_l57_w v1 v2 v3 (10 + v3) zF (0, (zsl (zs (zs (zs (zs h 123 (10 + v3) 0) 124 (10 + v3) (-1)) 125 (10 + v3) 0) 126 (10 + v3) 0) 127 (10 + v3) (0 : Int32).toInt64))) (by decide) (by decide) (zWr_sl (by decide) (zWr_si (by decide) (zWr_si (by decide) (zWr_si (by decide) (zWr_si (by decide) (zWr.refl _ _)))))))))
def f_M_anew_l2 (v1 : Int32) (v2 : Int32) (n : Nat) (t : Int32 × zm_H) : Nat × Int32 × zm_H := zwh (fun t => f_M_anew_l2_b v1 v2 t.1 t.2) n t
def f_M_anew_l2_ok (v1 : Int32) (v2 : Int32) (n : Nat) (t : Int32 × zm_H) : Prop := zwo (fun t => f_M_anew_l2_b v1 v2 t.1 t.2) (fun t => f_M_anew_l2_b_ok v1 v2 t.1 t.2) n t
theorem f_M_anew_l2_w (v1 : Int32) (v2 : Int32) (n : Nat) (t : Int32 × zm_H) : zWr [123, 124, 125, 126, 127, 128, 129, 130] [] (t.2) ((f_M_anew_l2 v1 v2 n t).2.2) := by
  unfold f_M_anew_l2
  exact zWr_zwh (fun t : Int32 × zm_H => t.2) (fun t => f_M_anew_l2_b_w v1 v2 t.1 t.2)
def f_M_anew_l89_l95_k143 (v1 : Int32) (v2 : Int32) (v3 : Int32) (v4 : Int32) (w0 : Int32) (h : zm_H) : Nat × Int32 × zm_H := (0, (v3 + 1), h)
def f_M_anew_l89_l95_k143_ok (v1 : Int32) (v2 : Int32) (v3 : Int32) (v4 : Int32) (w0 : Int32) (h : zm_H) : Prop := True
theorem f_M_anew_l89_l95_k143_w (v1 : Int32) (v2 : Int32) (v3 : Int32) (v4 : Int32) (w0 : Int32) (h : zm_H) : zWr [] [] h ((f_M_anew_l89_l95_k143 v1 v2 v3 v4 w0 h).2.2) := by
  unfold f_M_anew_l89_l95_k143
  exact (zWr.refl _ _)
def f_M_anew_l89_l95_b (v1 : Int32) (v2 : Int32) (v3 : Int32) (v4 : Int32) (h : zm_H) : Nat × Int32 × zm_H := (if ((zf h 92 41) ≤ v3) then (1, v3, h) else (if (v4 < (zr h 118 v3)) then (1, v3, h) else (f_M_anew_l89_l95_k143 v1 v2 v3 v4 (f_M_does 1 (zr h 119 v3) (zr h 120 v3) (zr h 121 v3) (zr h 122 v3) h).1 (f_M_does 1 (zr h 119 v3) (zr h 120 v3) (zr h 121 v3) (zr h 122 v3) h).2)))
def f_M_anew_l89_l95_b_ok (v1 : Int32) (v2 : Int32) (v3 : Int32) (v4 : Int32) (h : zm_H) : Prop := ((((zf h 92 41) ≤ v3) → True) ∧ (¬ ((zf h 92 41) ≤ v3) → (vp_in v3 200 ∧ (((v4 < (zr h 118 v3)) → True) ∧ (¬ (v4 < (zr h 118 v3)) → (vp_in v3 200 ∧ (vp_in v3 200 ∧ (vp_in v3 200 ∧ (vp_in v3 200 ∧ f_M_does_ok 1 (zr h 119 v3) (zr h 120 v3) (zr h 121 v3) (zr h 122 v3) h)))))))))
theorem f_M_anew_l89_l95_b_w (v1 : Int32) (v2 : Int32) (v3 : Int32) (v4 : Int32) (h : zm_H) : zWr [123, 124, 125, 128, 129, 130] [] h ((f_M_anew_l89_l95_b v1 v2 v3 v4 h).2.2) := by
  unfold f_M_anew_l89_l95_b
  exact (zWr_ite (fun z : Nat × Int32 × zm_H => z.2.2) (zWr.refl _ _) (zWr_ite (fun z : Nat × Int32 × zm_H => z.2.2) (zWr.refl _ _) (zWr_tr (f_M_anew_l89_l95_k143_w v1 v2 v3 v4 (f_M_does 1 (zr h 119 v3) (zr h 120 v3) (zr h 121 v3) (zr h 122 v3) h).1 (f_M_does 1 (zr h 119 v3) (zr h 120 v3) (zr h 121 v3) (zr h 122 v3) h).2) (by decide) (by decide) (zWr_tr (f_M_does_w 1 (zr h 119 v3) (zr h 120 v3) (zr h 121 v3) (zr h 122 v3) h) (by decide) (by decide) (zWr.refl _ _)))))
def f_M_anew_l89_l95 (v1 : Int32) (v2 : Int32) (v4 : Int32) (n : Nat) (t : Int32 × zm_H) : Nat × Int32 × zm_H := zwh (fun t => f_M_anew_l89_l95_b v1 v2 t.1 v4 t.2) n t
def f_M_anew_l89_l95_ok (v1 : Int32) (v2 : Int32) (v4 : Int32) (n : Nat) (t : Int32 × zm_H) : Prop := zwo (fun t => f_M_anew_l89_l95_b v1 v2 t.1 v4 t.2) (fun t => f_M_anew_l89_l95_b_ok v1 v2 t.1 v4 t.2) n t
theorem f_M_anew_l89_l95_w (v1 : Int32) (v2 : Int32) (v4 : Int32) (n : Nat) (t : Int32 × zm_H) : zWr [123, 124, 125, 128, 129, 130] [] (t.2) ((f_M_anew_l89_l95 v1 v2 v4 n t).2.2) := by
  unfold f_M_anew_l89_l95
  exact zWr_zwh (fun t : Int32 × zm_H => t.2) (fun t => f_M_anew_l89_l95_b_w v1 v2 t.1 v4 t.2)
def f_M_anew_l89_l189_b (v1 : Int32) (v2 : Int32) (v3 : Int32) (v4 : Int32) (v5 : Int32) (h : zm_H) : Nat × Int32 × zm_H := (if (10 ≤ v5) then (1, v5, h) else (0, (v5 + 1), (zs h 136 ((10 * v4) + v5) (zr h 151 v5))))
def f_M_anew_l89_l189_b_ok (v1 : Int32) (v2 : Int32) (v3 : Int32) (v4 : Int32) (v5 : Int32) (h : zm_H) : Prop := (((10 ≤ v5) → True) ∧ (¬ (10 ≤ v5) → (vp_in v5 10 ∧ vp_in ((10 * v4) + v5) 4800)))
theorem f_M_anew_l89_l189_b_w (v1 : Int32) (v2 : Int32) (v3 : Int32) (v4 : Int32) (v5 : Int32) (h : zm_H) : zWr [136] [] h ((f_M_anew_l89_l189_b v1 v2 v3 v4 v5 h).2.2) := by
  unfold f_M_anew_l89_l189_b
  exact (zWr_ite (fun z : Nat × Int32 × zm_H => z.2.2) (zWr.refl _ _) (zWr_si (by decide) (zWr.refl _ _)))
def f_M_anew_l89_l189 (v1 : Int32) (v2 : Int32) (v3 : Int32) (v4 : Int32) (n : Nat) (t : Int32 × zm_H) : Nat × Int32 × zm_H := zwh (fun t => f_M_anew_l89_l189_b v1 v2 v3 v4 t.1 t.2) n t
def f_M_anew_l89_l189_ok (v1 : Int32) (v2 : Int32) (v3 : Int32) (v4 : Int32) (n : Nat) (t : Int32 × zm_H) : Prop := zwo (fun t => f_M_anew_l89_l189_b v1 v2 v3 v4 t.1 t.2) (fun t => f_M_anew_l89_l189_b_ok v1 v2 v3 v4 t.1 t.2) n t
theorem f_M_anew_l89_l189_w (v1 : Int32) (v2 : Int32) (v3 : Int32) (v4 : Int32) (n : Nat) (t : Int32 × zm_H) : zWr [136] [] (t.2) ((f_M_anew_l89_l189 v1 v2 v3 v4 n t).2.2) := by
  unfold f_M_anew_l89_l189
  exact zWr_zwh (fun t : Int32 × zm_H => t.2) (fun t => f_M_anew_l89_l189_b_w v1 v2 v3 v4 t.1 t.2)
def f_M_anew_l89_k222 (v1 : Int32) (v2 : Int32) (v3 : Int32) (v4 : Int32) (h : zm_H) : Nat × Int32 × Int32 × zm_H := (0, v3, (v4 + 1), h)
def f_M_anew_l89_k222_ok (v1 : Int32) (v2 : Int32) (v3 : Int32) (v4 : Int32) (h : zm_H) : Prop := True
theorem f_M_anew_l89_k222_w (v1 : Int32) (v2 : Int32) (v3 : Int32) (v4 : Int32) (h : zm_H) : zWr [] [] h ((f_M_anew_l89_k222 v1 v2 v3 v4 h).2.2.2) := by
  unfold f_M_anew_l89_k222
  exact (zWr.refl _ _)
def f_M_anew_l89_a189 (v1 : Int32) (v2 : Int32) (v3 : Int32) (v4 : Int32) (r : Nat × Int32 × zm_H) : Nat × Int32 × Int32 × zm_H := (f_M_anew_l89_k222 v1 v2 v3 v4 (r.2.2))
def f_M_anew_l89_a189_ok (v1 : Int32) (v2 : Int32) (v3 : Int32) (v4 : Int32) (r : Nat × Int32 × zm_H) : Prop := True
theorem f_M_anew_l89_a189_w (v1 : Int32) (v2 : Int32) (v3 : Int32) (v4 : Int32) (r : Nat × Int32 × zm_H) : zWr [] [] (r.2.2) ((f_M_anew_l89_a189 v1 v2 v3 v4 r).2.2.2) := by
  unfold f_M_anew_l89_a189
  exact (zWr_tr (f_M_anew_l89_k222_w v1 v2 v3 v4 (r.2.2)) (by decide) (by decide) (zWr.refl _ _))
def f_M_anew_l89_k164 (v1 : Int32) (v2 : Int32) (v3 : Int32) (v4 : Int32) (h : zm_H) : Nat × Int32 × Int32 × zm_H := (f_M_anew_l89_a189 v1 v2 v3 v4 (f_M_anew_l89_l189 v1 v2 v3 v4 zF (0, (zs (zs h 134 v4 (zf h 92 88)) 135 v4 (zf h 92 87)))))
def f_M_anew_l89_k164_ok (v1 : Int32) (v2 : Int32) (v3 : Int32) (v4 : Int32) (h : zm_H) : Prop := (vp_in v4 480 ∧ (vp_in v4 480 ∧ (f_M_anew_l89_l189_ok v1 v2 v3 v4 zF (0, (zs (zs h 134 v4 (zf h 92 88)) 135 v4 (zf h 92 87))) ∧ f_M_anew_l89_a189_ok v1 v2 v3 v4 (f_M_anew_l89_l189 v1 v2 v3 v4 zF (0, (zs (zs h 134 v4 (zf h 92 88)) 135 v4 (zf h 92 87)))))))
theorem f_M_anew_l89_k164_w (v1 : Int32) (v2 : Int32) (v3 : Int32) (v4 : Int32) (h : zm_H) : zWr [134, 135, 136] [] h ((f_M_anew_l89_k164 v1 v2 v3 v4 h).2.2.2) := by
  unfold f_M_anew_l89_k164
  exact (zWr_tr (f_M_anew_l89_a189_w v1 v2 v3 v4 (f_M_anew_l89_l189 v1 v2 v3 v4 zF (0, (zs (zs h 134 v4 (zf h 92 88)) 135 v4 (zf h 92 87))))) (by decide) (by decide) (zWr_tr (f_M_anew_l89_l189_w v1 v2 v3 v4 zF (0, (zs (zs h 134 v4 (zf h 92 88)) 135 v4 (zf h 92 87)))) (by decide) (by decide) (zWr_si (by decide) (zWr_si (by decide) (zWr.refl _ _)))))
def f_M_anew_l89_k157 (v1 : Int32) (v2 : Int32) (v3 : Int32) (v4 : Int32) (h : zm_H) : Nat × Int32 × Int32 × zm_H := (f_M_anew_l89_k164 v1 v2 v3 v4 (f_M_goes 1 v4 h))
def f_M_anew_l89_k157_ok (v1 : Int32) (v2 : Int32) (v3 : Int32) (v4 : Int32) (h : zm_H) : Prop := (f_M_goes_ok 1 v4 h ∧ (f_M_anew_l89_k164_ok v1 v2 v3 v4 (f_M_goes 1 v4 h)))
theorem f_M_anew_l89_k157_w (v1 : Int32) (v2 : Int32) (v3 : Int32) (v4 : Int32) (h : zm_H) : zWr [123, 124, 125, 126, 127, 129, 130, 134, 135, 136, 149, 150, 151, 152, 153] [(92, 87), (92, 88)] h ((f_M_anew_l89_k157 v1 v2 v3 v4 h).2.2.2) := by
  unfold f_M_anew_l89_k157
  exact (zWr_tr (f_M_anew_l89_k164_w v1 v2 v3 v4 (f_M_goes 1 v4 h)) (by decide) (by decide) (zWr_tr (f_M_goes_w 1 v4 h) (by decide) (by decide) (zWr.refl _ _)))
def f_M_anew_l89_k150 (v1 : Int32) (v2 : Int32) (v3 : Int32) (v4 : Int32) (h : zm_H) : Nat × Int32 × Int32 × zm_H := (f_M_anew_l89_k157 v1 v2 v3 v4 (f_M_looks v4 v2 h))
def f_M_anew_l89_k150_ok (v1 : Int32) (v2 : Int32) (v3 : Int32) (v4 : Int32) (h : zm_H) : Prop := (f_M_looks_ok v4 v2 h ∧ (f_M_anew_l89_k157_ok v1 v2 v3 v4 (f_M_looks v4 v2 h)))
theorem f_M_anew_l89_k150_w (v1 : Int32) (v2 : Int32) (v3 : Int32) (v4 : Int32) (h : zm_H) : zWr [123, 124, 125, 126, 127, 129, 130, 134, 135, 136, 149, 150, 151, 152, 153] [(92, 79), (92, 80), (92, 81), (92, 87), (92, 88)] h ((f_M_anew_l89_k150 v1 v2 v3 v4 h).2.2.2) := by
  unfold f_M_anew_l89_k150
  exact (zWr_tr (f_M_anew_l89_k157_w v1 v2 v3 v4 (f_M_looks v4 v2 h)) (by decide) (by decide) (zWr_tr (f_M_looks_w v4 v2 h) (by decide) (by decide) (zWr.refl _ _)))
def f_M_anew_l89_a95 (v1 : Int32) (v2 : Int32) (v4 : Int32) (r : Nat × Int32 × zm_H) : Nat × Int32 × Int32 × zm_H := (f_M_anew_l89_k150 v1 v2 (r.2.1) v4 (r.2.2))
def f_M_anew_l89_a95_ok (v1 : Int32) (v2 : Int32) (v4 : Int32) (r : Nat × Int32 × zm_H) : Prop := (f_M_anew_l89_k150_ok v1 v2 (r.2.1) v4 (r.2.2))
theorem f_M_anew_l89_a95_w (v1 : Int32) (v2 : Int32) (v4 : Int32) (r : Nat × Int32 × zm_H) : zWr [123, 124, 125, 126, 127, 129, 130, 134, 135, 136, 149, 150, 151, 152, 153] [(92, 79), (92, 80), (92, 81), (92, 87), (92, 88)] (r.2.2) ((f_M_anew_l89_a95 v1 v2 v4 r).2.2.2) := by
  unfold f_M_anew_l89_a95
  exact (zWr_tr (f_M_anew_l89_k150_w v1 v2 (r.2.1) v4 (r.2.2)) (by decide) (by decide) (zWr.refl _ _))
def f_M_anew_l89_b (v1 : Int32) (v2 : Int32) (v3 : Int32) (v4 : Int32) (h : zm_H) : Nat × Int32 × Int32 × zm_H := (if (v1 < v4) then (1, v3, v4, h) else (f_M_anew_l89_a95 v1 v2 v4 (f_M_anew_l89_l95 v1 v2 v4 zF (v3, h))))
def f_M_anew_l89_b_ok (v1 : Int32) (v2 : Int32) (v3 : Int32) (v4 : Int32) (h : zm_H) : Prop := (((v1 < v4) → True) ∧ (¬ (v1 < v4) → (f_M_anew_l89_l95_ok v1 v2 v4 zF (v3, h) ∧ f_M_anew_l89_a95_ok v1 v2 v4 (f_M_anew_l89_l95 v1 v2 v4 zF (v3, h)))))
theorem f_M_anew_l89_b_w (v1 : Int32) (v2 : Int32) (v3 : Int32) (v4 : Int32) (h : zm_H) : zWr [123, 124, 125, 126, 127, 128, 129, 130, 134, 135, 136, 149, 150, 151, 152, 153] [(92, 79), (92, 80), (92, 81), (92, 87), (92, 88)] h ((f_M_anew_l89_b v1 v2 v3 v4 h).2.2.2) := by
  unfold f_M_anew_l89_b
  exact (zWr_ite (fun z : Nat × Int32 × Int32 × zm_H => z.2.2.2) (zWr.refl _ _) (zWr_tr (f_M_anew_l89_a95_w v1 v2 v4 (f_M_anew_l89_l95 v1 v2 v4 zF (v3, h))) (by decide) (by decide) (zWr_tr (f_M_anew_l89_l95_w v1 v2 v4 zF (v3, h)) (by decide) (by decide) (zWr.refl _ _))))
def f_M_anew_l89 (v1 : Int32) (v2 : Int32) (n : Nat) (t : Int32 × Int32 × zm_H) : Nat × Int32 × Int32 × zm_H := zwh (fun t => f_M_anew_l89_b v1 v2 t.1 t.2.1 t.2.2) n t
def f_M_anew_l89_ok (v1 : Int32) (v2 : Int32) (n : Nat) (t : Int32 × Int32 × zm_H) : Prop := zwo (fun t => f_M_anew_l89_b v1 v2 t.1 t.2.1 t.2.2) (fun t => f_M_anew_l89_b_ok v1 v2 t.1 t.2.1 t.2.2) n t
theorem f_M_anew_l89_w (v1 : Int32) (v2 : Int32) (n : Nat) (t : Int32 × Int32 × zm_H) : zWr [123, 124, 125, 126, 127, 128, 129, 130, 134, 135, 136, 149, 150, 151, 152, 153] [(92, 79), (92, 80), (92, 81), (92, 87), (92, 88)] (t.2.2) ((f_M_anew_l89 v1 v2 n t).2.2.2) := by
  unfold f_M_anew_l89
  exact zWr_zwh (fun t : Int32 × Int32 × zm_H => t.2.2) (fun t => f_M_anew_l89_b_w v1 v2 t.1 t.2.1 t.2.2)
def f_M_anew_k228 (h : zm_H) : zm_H := h
def f_M_anew_k228_ok (h : zm_H) : Prop := True
theorem f_M_anew_k228_w (h : zm_H) : zWr [] [] h ((f_M_anew_k228 h)) := by
  unfold f_M_anew_k228
  exact (zWr.refl _ _)
def f_M_anew_a89 (r : Nat × Int32 × Int32 × zm_H) : zm_H := (f_M_anew_k228 (r.2.2.2))
def f_M_anew_a89_ok (r : Nat × Int32 × Int32 × zm_H) : Prop := True
theorem f_M_anew_a89_w (r : Nat × Int32 × Int32 × zm_H) : zWr [] [] (r.2.2.2) ((f_M_anew_a89 r)) := by
  unfold f_M_anew_a89
  exact (zWr_tr (f_M_anew_k228_w (r.2.2.2)) (by decide) (by decide) (zWr.refl _ _))
def f_M_anew_k84 (v1 : Int32) (v2 : Int32) (h : zm_H) : zm_H := (f_M_anew_a89 (f_M_anew_l89 v1 v2 zF (0, 0, h)))
def f_M_anew_k84_ok (v1 : Int32) (v2 : Int32) (h : zm_H) : Prop := (f_M_anew_l89_ok v1 v2 zF (0, 0, h) ∧ f_M_anew_a89_ok (f_M_anew_l89 v1 v2 zF (0, 0, h)))
theorem f_M_anew_k84_w (v1 : Int32) (v2 : Int32) (h : zm_H) : zWr [123, 124, 125, 126, 127, 128, 129, 130, 134, 135, 136, 149, 150, 151, 152, 153] [(92, 79), (92, 80), (92, 81), (92, 87), (92, 88)] h ((f_M_anew_k84 v1 v2 h)) := by
  unfold f_M_anew_k84
  exact (zWr_tr (f_M_anew_a89_w (f_M_anew_l89 v1 v2 zF (0, 0, h))) (by decide) (by decide) (zWr_tr (f_M_anew_l89_w v1 v2 zF (0, 0, h)) (by decide) (by decide) (zWr.refl _ _)))
def f_M_anew_a2 (v1 : Int32) (v2 : Int32) (r : Nat × Int32 × zm_H) : zm_H := (f_M_anew_k84 v1 v2 (r.2.2))
def f_M_anew_a2_ok (v1 : Int32) (v2 : Int32) (r : Nat × Int32 × zm_H) : Prop := (f_M_anew_k84_ok v1 v2 (r.2.2))
theorem f_M_anew_a2_w (v1 : Int32) (v2 : Int32) (r : Nat × Int32 × zm_H) : zWr [123, 124, 125, 126, 127, 128, 129, 130, 134, 135, 136, 149, 150, 151, 152, 153] [(92, 79), (92, 80), (92, 81), (92, 87), (92, 88)] (r.2.2) ((f_M_anew_a2 v1 v2 r)) := by
  unfold f_M_anew_a2
  exact (zWr_tr (f_M_anew_k84_w v1 v2 (r.2.2)) (by decide) (by decide) (zWr.refl _ _))
def f_M_anew (p1 : Int32) (p2 : Int32) (h : zm_H) : zm_H := (f_M_anew_a2 p1 p2 (f_M_anew_l2 p1 p2 zF (0, h)))
def f_M_anew_ok (p1 : Int32) (p2 : Int32) (h : zm_H) : Prop := (f_M_anew_l2_ok p1 p2 zF (0, h) ∧ f_M_anew_a2_ok p1 p2 (f_M_anew_l2 p1 p2 zF (0, h)))
theorem f_M_anew_w (p1 : Int32) (p2 : Int32) (h : zm_H) : zWr [123, 124, 125, 126, 127, 128, 129, 130, 134, 135, 136, 149, 150, 151, 152, 153] [(92, 79), (92, 80), (92, 81), (92, 87), (92, 88)] h ((f_M_anew p1 p2 h)) := by
  unfold f_M_anew
  exact (zWr_tr (f_M_anew_a2_w p1 p2 (f_M_anew_l2 p1 p2 zF (0, h))) (by decide) (by decide) (zWr_tr (f_M_anew_l2_w p1 p2 zF (0, h)) (by decide) (by decide) (zWr.refl _ _)))
def f_M_right_k37 (v1 : Int32) (v3 : Int32) (h : zm_H) : Int32 × zm_H := ((if (v3 = 0) then ((zr h 134 v1) : Int32) else (if (v3 = 1) then ((zr h 135 v1) : Int32) else (zr h 136 (((10 * v1) + v3) - 10)))), h)
def f_M_right_k37_ok (v1 : Int32) (v3 : Int32) (h : zm_H) : Prop := (((v3 = 0) → vp_in v1 480) ∧ (¬ (v3 = 0) → (((v3 = 1) → vp_in v1 480) ∧ (¬ (v3 = 1) → vp_in (((10 * v1) + v3) - 10) 4800))))
theorem f_M_right_k37_w (v1 : Int32) (v3 : Int32) (h : zm_H) : zWr [] [] h ((f_M_right_k37 v1 v3 h).2) := by
  unfold f_M_right_k37
  exact (zWr.refl _ _)
def f_M_right (p1 : Int32) (p2 : Int32) (p3 : Int32) (h : zm_H) : Int32 × zm_H := (if (¬ (p1 < 0) ∧ (¬ (((zf h 92 23) - 1) < p1))) then (if (¬ (p2 < p1) ∧ (¬ ((if (480 ≤ (zf h 92 23)) then (479 : Int32) else (zf h 92 23)) < p2))) then (if ((¬ (p3 < 0) ∧ (¬ (1 < p3))) ∨ (¬ (p3 < 10) ∧ (¬ (19 < p3)))) then (f_M_right_k37 p1 p3 (f_M_anew p1 p2 h)) else ((-2147483648), h)) else ((-2147483648), h)) else ((-2147483648), h))
def f_M_right_ok (p1 : Int32) (p2 : Int32) (p3 : Int32) (h : zm_H) : Prop := (((¬ (p1 < 0) ∧ (¬ (((zf h 92 23) - 1) < p1))) → (((¬ (p2 < p1) ∧ (¬ ((if (480 ≤ (zf h 92 23)) then (479 : Int32) else (zf h 92 23)) < p2))) → ((((¬ (p3 < 0) ∧ (¬ (1 < p3))) ∨ (¬ (p3 < 10) ∧ (¬ (19 < p3)))) → (f_M_anew_ok p1 p2 h ∧ (f_M_right_k37_ok p1 p3 (f_M_anew p1 p2 h)))) ∧ (¬ ((¬ (p3 < 0) ∧ (¬ (1 < p3))) ∨ (¬ (p3 < 10) ∧ (¬ (19 < p3)))) → True))) ∧ (¬ (¬ (p2 < p1) ∧ (¬ ((if (480 ≤ (zf h 92 23)) then (479 : Int32) else (zf h 92 23)) < p2))) → True))) ∧ (¬ (¬ (p1 < 0) ∧ (¬ (((zf h 92 23) - 1) < p1))) → True))
theorem f_M_right_w (p1 : Int32) (p2 : Int32) (p3 : Int32) (h : zm_H) : zWr [123, 124, 125, 126, 127, 128, 129, 130, 134, 135, 136, 149, 150, 151, 152, 153] [(92, 79), (92, 80), (92, 81), (92, 87), (92, 88)] h ((f_M_right p1 p2 p3 h).2) := by
  unfold f_M_right
  exact (zWr_ite (fun z : Int32 × zm_H => z.2) (zWr_ite (fun z : Int32 × zm_H => z.2) (zWr_ite (fun z : Int32 × zm_H => z.2) (zWr_tr (f_M_right_k37_w p1 p3 (f_M_anew p1 p2 h)) (by decide) (by decide) (zWr_tr (f_M_anew_w p1 p2 h) (by decide) (by decide) (zWr.refl _ _))) (zWr.refl _ _)) (zWr.refl _ _)) (zWr.refl _ _))
def f_N_owed_l29_b (v2 : Int32) (v3 : Int32) (v4 : Int32) (h : zm_H) : Nat × Int32 × Int32 := (if (v2 < v4) then (1, v3, v4) else (0, (v3 + ((zr h 61 v4) - (zr h 48 v4))), (v4 + 1)))
def f_N_owed_l29_b_ok (v2 : Int32) (v3 : Int32) (v4 : Int32) (h : zm_H) : Prop := (((v2 < v4) → True) ∧ (¬ (v2 < v4) → (vp_in v4 480 ∧ vp_in v4 480)))
def f_N_owed_l29 (v2 : Int32) (h : zm_H) (n : Nat) (t : Int32 × Int32) : Nat × Int32 × Int32 := zwh (fun t => f_N_owed_l29_b v2 t.1 t.2 h) n t
def f_N_owed_l29_ok (v2 : Int32) (h : zm_H) (n : Nat) (t : Int32 × Int32) : Prop := zwo (fun t => f_N_owed_l29_b v2 t.1 t.2 h) (fun t => f_N_owed_l29_b_ok v2 t.1 t.2 h) n t
def f_N_owed_k65 (v3 : Int32) (h : zm_H) : Int32 × zm_H := (v3, h)
def f_N_owed_k65_ok (v3 : Int32) (h : zm_H) : Prop := True
theorem f_N_owed_k65_w (v3 : Int32) (h : zm_H) : zWr [] [] h ((f_N_owed_k65 v3 h).2) := by
  unfold f_N_owed_k65
  exact (zWr.refl _ _)
def f_N_owed_a29 (r : Nat × Int32 × Int32) (h : zm_H) : Int32 × zm_H := (f_N_owed_k65 (r.2.1) h)
def f_N_owed_a29_ok (r : Nat × Int32 × Int32) (h : zm_H) : Prop := True
theorem f_N_owed_a29_w (r : Nat × Int32 × Int32) (h : zm_H) : zWr [] [] h ((f_N_owed_a29 r h).2) := by
  unfold f_N_owed_a29
  exact (zWr_tr (f_N_owed_k65_w (r.2.1) h) (by decide) (by decide) (zWr.refl _ _))
def f_N_owed_k24 (v1 : Int32) (v2 : Int32) (h : zm_H) : Int32 × zm_H := (f_N_owed_a29 (f_N_owed_l29 v2 h zF (0, v1)) h)
def f_N_owed_k24_ok (v1 : Int32) (v2 : Int32) (h : zm_H) : Prop := (f_N_owed_l29_ok v2 h zF (0, v1) ∧ f_N_owed_a29_ok (f_N_owed_l29 v2 h zF (0, v1)) h)
theorem f_N_owed_k24_w (v1 : Int32) (v2 : Int32) (h : zm_H) : zWr [] [] h ((f_N_owed_k24 v1 v2 h).2) := by
  unfold f_N_owed_k24
  exact (zWr_tr (f_N_owed_a29_w (f_N_owed_l29 v2 h zF (0, v1)) h) (by decide) (by decide) (zWr.refl _ _))
def f_N_owed (p1 : Int32) (p2 : Int32) (h : zm_H) : Int32 × zm_H := (if (¬ (p1 < 0) ∧ (¬ (p2 < p1) ∧ (¬ ((zf h 0 0) ≤ p2)))) then (f_N_owed_k24 p1 p2 (f_N_goAnew p2 (zf h 0 0) h)) else ((-2147483648), h))
def f_N_owed_ok (p1 : Int32) (p2 : Int32) (h : zm_H) : Prop := (((¬ (p1 < 0) ∧ (¬ (p2 < p1) ∧ (¬ ((zf h 0 0) ≤ p2)))) → (f_N_goAnew_ok p2 (zf h 0 0) h ∧ (f_N_owed_k24_ok p1 p2 (f_N_goAnew p2 (zf h 0 0) h)))) ∧ (¬ (¬ (p1 < 0) ∧ (¬ (p2 < p1) ∧ (¬ ((zf h 0 0) ≤ p2)))) → True))
theorem f_N_owed_w (p1 : Int32) (p2 : Int32) (h : zm_H) : zWr [21, 22, 32, 33, 34, 35, 36, 51, 52, 53, 54, 55, 56, 57, 58, 59, 60, 61, 62] [(0, 10), (0, 11), (15, 9), (50, 3), (50, 4)] h ((f_N_owed p1 p2 h).2) := by
  unfold f_N_owed
  exact (zWr_ite (fun z : Int32 × zm_H => z.2) (zWr_tr (f_N_owed_k24_w p1 p2 (f_N_goAnew p2 (zf h 0 0) h)) (by decide) (by decide) (zWr_tr (f_N_goAnew_w p2 (zf h 0 0) h) (by decide) (by decide) (zWr.refl _ _))) (zWr.refl _ _))
def f_M_owed_l39_b (v2 : Int32) (v3 : Int32) (v4 : Int32) (h : zm_H) : Nat × Int32 × Int32 := (if (v2 < v4) then (1, v3, v4) else (0, (v3 + ((zr h 135 v4) - (zr h 132 v4))), (v4 + 1)))
def f_M_owed_l39_b_ok (v2 : Int32) (v3 : Int32) (v4 : Int32) (h : zm_H) : Prop := (((v2 < v4) → True) ∧ (¬ (v2 < v4) → (vp_in v4 480 ∧ vp_in v4 480)))
def f_M_owed_l39 (v2 : Int32) (h : zm_H) (n : Nat) (t : Int32 × Int32) : Nat × Int32 × Int32 := zwh (fun t => f_M_owed_l39_b v2 t.1 t.2 h) n t
def f_M_owed_l39_ok (v2 : Int32) (h : zm_H) (n : Nat) (t : Int32 × Int32) : Prop := zwo (fun t => f_M_owed_l39_b v2 t.1 t.2 h) (fun t => f_M_owed_l39_b_ok v2 t.1 t.2 h) n t
def f_M_owed_k69 (v3 : Int32) (h : zm_H) : Int32 × zm_H := (v3, h)
def f_M_owed_k69_ok (v3 : Int32) (h : zm_H) : Prop := True
theorem f_M_owed_k69_w (v3 : Int32) (h : zm_H) : zWr [] [] h ((f_M_owed_k69 v3 h).2) := by
  unfold f_M_owed_k69
  exact (zWr.refl _ _)
def f_M_owed_a39 (r : Nat × Int32 × Int32) (h : zm_H) : Int32 × zm_H := (f_M_owed_k69 (r.2.1) h)
def f_M_owed_a39_ok (r : Nat × Int32 × Int32) (h : zm_H) : Prop := True
theorem f_M_owed_a39_w (r : Nat × Int32 × Int32) (h : zm_H) : zWr [] [] h ((f_M_owed_a39 r h).2) := by
  unfold f_M_owed_a39
  exact (zWr_tr (f_M_owed_k69_w (r.2.1) h) (by decide) (by decide) (zWr.refl _ _))
def f_M_owed_k34 (v1 : Int32) (v2 : Int32) (h : zm_H) : Int32 × zm_H := (f_M_owed_a39 (f_M_owed_l39 v2 h zF (0, v1)) h)
def f_M_owed_k34_ok (v1 : Int32) (v2 : Int32) (h : zm_H) : Prop := (f_M_owed_l39_ok v2 h zF (0, v1) ∧ f_M_owed_a39_ok (f_M_owed_l39 v2 h zF (0, v1)) h)
theorem f_M_owed_k34_w (v1 : Int32) (v2 : Int32) (h : zm_H) : zWr [] [] h ((f_M_owed_k34 v1 v2 h).2) := by
  unfold f_M_owed_k34
  exact (zWr_tr (f_M_owed_a39_w (f_M_owed_l39 v2 h zF (0, v1)) h) (by decide) (by decide) (zWr.refl _ _))
def f_M_owed (p1 : Int32) (p2 : Int32) (h : zm_H) : Int32 × zm_H := (if (¬ (p1 < 0) ∧ (¬ (((zf h 92 23) - 1) < p1))) then (if (¬ (p2 < 0) ∧ (¬ (((zf h 92 23) - 1) < p2))) then (if (p1 ≤ p2) then (f_M_owed_k34 p1 p2 (f_M_anew p2 (if (480 ≤ (zf h 92 23)) then (479 : Int32) else (zf h 92 23)) h)) else ((-2147483648), h)) else ((-2147483648), h)) else ((-2147483648), h))
def f_M_owed_ok (p1 : Int32) (p2 : Int32) (h : zm_H) : Prop := (((¬ (p1 < 0) ∧ (¬ (((zf h 92 23) - 1) < p1))) → (((¬ (p2 < 0) ∧ (¬ (((zf h 92 23) - 1) < p2))) → (((p1 ≤ p2) → (f_M_anew_ok p2 (if (480 ≤ (zf h 92 23)) then (479 : Int32) else (zf h 92 23)) h ∧ (f_M_owed_k34_ok p1 p2 (f_M_anew p2 (if (480 ≤ (zf h 92 23)) then (479 : Int32) else (zf h 92 23)) h)))) ∧ (¬ (p1 ≤ p2) → True))) ∧ (¬ (¬ (p2 < 0) ∧ (¬ (((zf h 92 23) - 1) < p2))) → True))) ∧ (¬ (¬ (p1 < 0) ∧ (¬ (((zf h 92 23) - 1) < p1))) → True))
theorem f_M_owed_w (p1 : Int32) (p2 : Int32) (h : zm_H) : zWr [123, 124, 125, 126, 127, 128, 129, 130, 134, 135, 136, 149, 150, 151, 152, 153] [(92, 79), (92, 80), (92, 81), (92, 87), (92, 88)] h ((f_M_owed p1 p2 h).2) := by
  unfold f_M_owed
  exact (zWr_ite (fun z : Int32 × zm_H => z.2) (zWr_ite (fun z : Int32 × zm_H => z.2) (zWr_ite (fun z : Int32 × zm_H => z.2) (zWr_tr (f_M_owed_k34_w p1 p2 (f_M_anew p2 (if (480 ≤ (zf h 92 23)) then (479 : Int32) else (zf h 92 23)) h)) (by decide) (by decide) (zWr_tr (f_M_anew_w p2 (if (480 ≤ (zf h 92 23)) then (479 : Int32) else (zf h 92 23)) h) (by decide) (by decide) (zWr.refl _ _))) (zWr.refl _ _)) (zWr.refl _ _)) (zWr.refl _ _))
def f_Course_ofRaft_50 (p1 : Int32) (p2 : Int32) (h : zm_H) : Int32 := (if p2 = 0 then (zr h 51 p1) else (if p2 = 1 then (zr h 52 p1) else (if p2 = 2 then (zr h 24 p1) else (if p2 = 3 then (zr h 25 p1) else (if p2 = 4 then (f_Course_leak_50 p1 h) else (if p2 = 5 then (zr h 54 p1) else (if p2 = 6 then (f_Course_holdBits_50 p1 h) else (if p2 = 7 then (zr h 55 p1) else (-1)))))))))
def f_Course_ofRaft_50_ok (p1 : Int32) (p2 : Int32) (h : zm_H) : Prop := ((p2 = 0 → vp_in p1 10) ∧ (¬ p2 = 0 → ((p2 = 1 → vp_in p1 10) ∧ (¬ p2 = 1 → ((p2 = 2 → vp_in p1 10) ∧ (¬ p2 = 2 → ((p2 = 3 → vp_in p1 10) ∧ (¬ p2 = 3 → ((p2 = 4 → f_Course_leak_50_ok p1 h) ∧ (¬ p2 = 4 → ((p2 = 5 → vp_in p1 10) ∧ (¬ p2 = 5 → ((p2 = 6 → f_Course_holdBits_50_ok p1 h) ∧ (¬ p2 = 6 → ((p2 = 7 → vp_in p1 10) ∧ (¬ p2 = 7 → True))))))))))))))))
def f_N_would_k46 (v1 : Int32) (v2 : Int32) (h : zm_H) : Int32 × zm_H := ((f_Course_ofRaft_50 v1 v2 h), h)
def f_N_would_k46_ok (v1 : Int32) (v2 : Int32) (h : zm_H) : Prop := f_Course_ofRaft_50_ok v1 v2 h
theorem f_N_would_k46_w (v1 : Int32) (v2 : Int32) (h : zm_H) : zWr [] [] h ((f_N_would_k46 v1 v2 h).2) := by
  unfold f_N_would_k46
  exact (zWr.refl _ _)
def f_N_would_k32 (v1 : Int32) (v2 : Int32) (h : zm_H) : Int32 × zm_H := (f_N_would_k46 v1 v2 (f_N_goAnew ((zf h 0 0) - 1) (zf h 0 0) h))
def f_N_would_k32_ok (v1 : Int32) (v2 : Int32) (h : zm_H) : Prop := (f_N_goAnew_ok ((zf h 0 0) - 1) (zf h 0 0) h ∧ (f_N_would_k46_ok v1 v2 (f_N_goAnew ((zf h 0 0) - 1) (zf h 0 0) h)))
theorem f_N_would_k32_w (v1 : Int32) (v2 : Int32) (h : zm_H) : zWr [21, 22, 32, 33, 34, 35, 36, 51, 52, 53, 54, 55, 56, 57, 58, 59, 60, 61, 62] [(0, 10), (0, 11), (15, 9), (50, 3), (50, 4)] h ((f_N_would_k32 v1 v2 h).2) := by
  unfold f_N_would_k32
  exact (zWr_tr (f_N_would_k46_w v1 v2 (f_N_goAnew ((zf h 0 0) - 1) (zf h 0 0) h)) (by decide) (by decide) (zWr_tr (f_N_goAnew_w ((zf h 0 0) - 1) (zf h 0 0) h) (by decide) (by decide) (zWr.refl _ _)))
def f_N_would (p1 : Int32) (p2 : Int32) (h : zm_H) : Int32 × zm_H := (if (¬ (p1 < 0) ∧ (¬ ((zf h 23 0) ≤ p1))) then (if ((zf h 0 0) = 0) then ((-1), h) else (if (p2 = 0) then (f_N_would_k32 p1 p2 h) else (if (p2 = 4) then (f_N_would_k32 p1 p2 h) else (if (p2 = 6) then (f_N_would_k32 p1 p2 h) else ((-1), h))))) else ((-1), h))
def f_N_would_ok (p1 : Int32) (p2 : Int32) (h : zm_H) : Prop := (((¬ (p1 < 0) ∧ (¬ ((zf h 23 0) ≤ p1))) → ((((zf h 0 0) = 0) → True) ∧ (¬ ((zf h 0 0) = 0) → (((p2 = 0) → (f_N_would_k32_ok p1 p2 h)) ∧ (¬ (p2 = 0) → (((p2 = 4) → (f_N_would_k32_ok p1 p2 h)) ∧ (¬ (p2 = 4) → (((p2 = 6) → (f_N_would_k32_ok p1 p2 h)) ∧ (¬ (p2 = 6) → True))))))))) ∧ (¬ (¬ (p1 < 0) ∧ (¬ ((zf h 23 0) ≤ p1))) → True))
theorem f_N_would_w (p1 : Int32) (p2 : Int32) (h : zm_H) : zWr [21, 22, 32, 33, 34, 35, 36, 51, 52, 53, 54, 55, 56, 57, 58, 59, 60, 61, 62] [(0, 10), (0, 11), (15, 9), (50, 3), (50, 4)] h ((f_N_would p1 p2 h).2) := by
  unfold f_N_would
  exact (zWr_ite (fun z : Int32 × zm_H => z.2) (zWr_ite (fun z : Int32 × zm_H => z.2) (zWr.refl _ _) (zWr_ite (fun z : Int32 × zm_H => z.2) (zWr_tr (f_N_would_k32_w p1 p2 h) (by decide) (by decide) (zWr.refl _ _)) (zWr_ite (fun z : Int32 × zm_H => z.2) (zWr_tr (f_N_would_k32_w p1 p2 h) (by decide) (by decide) (zWr.refl _ _)) (zWr_ite (fun z : Int32 × zm_H => z.2) (zWr_tr (f_N_would_k32_w p1 p2 h) (by decide) (by decide) (zWr.refl _ _)) (zWr.refl _ _))))) (zWr.refl _ _))
def f_M_would_k46 (v1 : Int32) (v2 : Int32) (h : zm_H) : Int32 × zm_H := ((f_M_toldOf 1 v1 v2 h), h)
def f_M_would_k46_ok (v1 : Int32) (v2 : Int32) (h : zm_H) : Prop := f_M_toldOf_ok 1 v1 v2 h
theorem f_M_would_k46_w (v1 : Int32) (v2 : Int32) (h : zm_H) : zWr [] [] h ((f_M_would_k46 v1 v2 h).2) := by
  unfold f_M_would_k46
  exact (zWr.refl _ _)
def f_M_would_k32 (v1 : Int32) (v2 : Int32) (h : zm_H) : Int32 × zm_H := (f_M_would_k46 v1 v2 (f_M_anew ((zf h 92 23) - 1) (if (480 ≤ (zf h 92 23)) then (479 : Int32) else (zf h 92 23)) h))
def f_M_would_k32_ok (v1 : Int32) (v2 : Int32) (h : zm_H) : Prop := (f_M_anew_ok ((zf h 92 23) - 1) (if (480 ≤ (zf h 92 23)) then (479 : Int32) else (zf h 92 23)) h ∧ (f_M_would_k46_ok v1 v2 (f_M_anew ((zf h 92 23) - 1) (if (480 ≤ (zf h 92 23)) then (479 : Int32) else (zf h 92 23)) h)))
theorem f_M_would_k32_w (v1 : Int32) (v2 : Int32) (h : zm_H) : zWr [123, 124, 125, 126, 127, 128, 129, 130, 134, 135, 136, 149, 150, 151, 152, 153] [(92, 79), (92, 80), (92, 81), (92, 87), (92, 88)] h ((f_M_would_k32 v1 v2 h).2) := by
  unfold f_M_would_k32
  exact (zWr_tr (f_M_would_k46_w v1 v2 (f_M_anew ((zf h 92 23) - 1) (if (480 ≤ (zf h 92 23)) then (479 : Int32) else (zf h 92 23)) h)) (by decide) (by decide) (zWr_tr (f_M_anew_w ((zf h 92 23) - 1) (if (480 ≤ (zf h 92 23)) then (479 : Int32) else (zf h 92 23)) h) (by decide) (by decide) (zWr.refl _ _)))
def f_M_would (p1 : Int32) (p2 : Int32) (h : zm_H) : Int32 × zm_H := (if (¬ (p1 < 0) ∧ (¬ (((zf h 92 33) - 1) < p1))) then (if ((zf h 92 23) = 0) then ((-1), h) else (if (p2 = 0) then (f_M_would_k32 p1 p2 h) else (if (p2 = 4) then (f_M_would_k32 p1 p2 h) else (if (p2 = 6) then (f_M_would_k32 p1 p2 h) else ((-1), h))))) else ((-1), h))
def f_M_would_ok (p1 : Int32) (p2 : Int32) (h : zm_H) : Prop := (((¬ (p1 < 0) ∧ (¬ (((zf h 92 33) - 1) < p1))) → ((((zf h 92 23) = 0) → True) ∧ (¬ ((zf h 92 23) = 0) → (((p2 = 0) → (f_M_would_k32_ok p1 p2 h)) ∧ (¬ (p2 = 0) → (((p2 = 4) → (f_M_would_k32_ok p1 p2 h)) ∧ (¬ (p2 = 4) → (((p2 = 6) → (f_M_would_k32_ok p1 p2 h)) ∧ (¬ (p2 = 6) → True))))))))) ∧ (¬ (¬ (p1 < 0) ∧ (¬ (((zf h 92 33) - 1) < p1))) → True))
theorem f_M_would_w (p1 : Int32) (p2 : Int32) (h : zm_H) : zWr [123, 124, 125, 126, 127, 128, 129, 130, 134, 135, 136, 149, 150, 151, 152, 153] [(92, 79), (92, 80), (92, 81), (92, 87), (92, 88)] h ((f_M_would p1 p2 h).2) := by
  unfold f_M_would
  exact (zWr_ite (fun z : Int32 × zm_H => z.2) (zWr_ite (fun z : Int32 × zm_H => z.2) (zWr.refl _ _) (zWr_ite (fun z : Int32 × zm_H => z.2) (zWr_tr (f_M_would_k32_w p1 p2 h) (by decide) (by decide) (zWr.refl _ _)) (zWr_ite (fun z : Int32 × zm_H => z.2) (zWr_tr (f_M_would_k32_w p1 p2 h) (by decide) (by decide) (zWr.refl _ _)) (zWr_ite (fun z : Int32 × zm_H => z.2) (zWr_tr (f_M_would_k32_w p1 p2 h) (by decide) (by decide) (zWr.refl _ _)) (zWr.refl _ _))))) (zWr.refl _ _))
def f_N_beach_l27_k107 (v1 : Int32) (v2 : Int32) (v3 : Int32) (v4 : Int32) (v5 : Int32) (v6 : Int32) (h : zm_H) : Nat × Int32 × Int32 := (0, v5, (v6 + 1))
def f_N_beach_l27_k107_ok (v1 : Int32) (v2 : Int32) (v3 : Int32) (v4 : Int32) (v5 : Int32) (v6 : Int32) (h : zm_H) : Prop := True
def f_N_beach_l27_b (v1 : Int32) (v2 : Int32) (v3 : Int32) (v4 : Int32) (v5 : Int32) (v6 : Int32) (h : zm_H) : Nat × Int32 × Int32 := (if ((zf h 0 0) ≤ v6) then (1, v5, v6) else (f_N_beach_l27_k107 v1 v2 v3 v4 (v5 + (if (v4 = 0) then ((if (((((zf h 0 1) - (zr h 49 ((v6 * 10) + v1))) / 1000) * v3) / 100) < (((((zf h 0 1) - (zr h 49 ((v6 * 10) + v1))) / 1000) * v2) / 100) then (((((zf h 0 1) - (zr h 49 ((v6 * 10) + v1))) / 1000) * v3) / 100) else (((((zf h 0 1) - (zr h 49 ((v6 * 10) + v1))) / 1000) * v2) / 100)) : Int32) else (if (((((zf h 0 1) - (zr h 49 ((v6 * 10) + v1))) / 1000) * v2) / 100) < (((((zf h 0 1) - (zr h 49 ((v6 * 10) + v1))) / 1000) * v3) / 100) then (((((zf h 0 1) - (zr h 49 ((v6 * 10) + v1))) / 1000) * v3) / 100) else (((((zf h 0 1) - (zr h 49 ((v6 * 10) + v1))) / 1000) * v2) / 100)))) v6 h))
def f_N_beach_l27_b_ok (v1 : Int32) (v2 : Int32) (v3 : Int32) (v4 : Int32) (v5 : Int32) (v6 : Int32) (h : zm_H) : Prop := ((((zf h 0 0) ≤ v6) → True) ∧ (¬ ((zf h 0 0) ≤ v6) → vp_in ((v6 * 10) + v1) 4800))
def f_N_beach_l27 (v1 : Int32) (v2 : Int32) (v3 : Int32) (v4 : Int32) (h : zm_H) (n : Nat) (t : Int32 × Int32) : Nat × Int32 × Int32 := zwh (fun t => f_N_beach_l27_b v1 v2 v3 v4 t.1 t.2 h) n t
def f_N_beach_l27_ok (v1 : Int32) (v2 : Int32) (v3 : Int32) (v4 : Int32) (h : zm_H) (n : Nat) (t : Int32 × Int32) : Prop := zwo (fun t => f_N_beach_l27_b v1 v2 v3 v4 t.1 t.2 h) (fun t => f_N_beach_l27_b_ok v1 v2 v3 v4 t.1 t.2 h) n t
def f_N_beach_k113 (v5 : Int32) (h : zm_H) : Int32 := v5
def f_N_beach_k113_ok (v5 : Int32) (h : zm_H) : Prop := True
def f_N_beach_a27 (r : Nat × Int32 × Int32) (h : zm_H) : Int32 := (f_N_beach_k113 (r.2.1) h)
def f_N_beach_a27_ok (r : Nat × Int32 × Int32) (h : zm_H) : Prop := True
def f_N_beach (p1 : Int32) (p2 : Int32) (p3 : Int32) (p4 : Int32) (h : zm_H) : Int32 := (if (¬ (p1 < 0) ∧ (¬ (10 ≤ p1))) then (if (¬ (p2 < 0) ∧ (¬ (p3 < p2) ∧ (¬ (201 ≤ p3)))) then (f_N_beach_a27 (f_N_beach_l27 p1 p2 p3 p4 h zF (0, 0)) h) else (-2147483648)) else (-2147483648))
def f_N_beach_ok (p1 : Int32) (p2 : Int32) (p3 : Int32) (p4 : Int32) (h : zm_H) : Prop := (((¬ (p1 < 0) ∧ (¬ (10 ≤ p1))) → (((¬ (p2 < 0) ∧ (¬ (p3 < p2) ∧ (¬ (201 ≤ p3)))) → (f_N_beach_l27_ok p1 p2 p3 p4 h zF (0, 0) ∧ f_N_beach_a27_ok (f_N_beach_l27 p1 p2 p3 p4 h zF (0, 0)) h)) ∧ (¬ (¬ (p2 < 0) ∧ (¬ (p3 < p2) ∧ (¬ (201 ≤ p3)))) → True))) ∧ (¬ (¬ (p1 < 0) ∧ (¬ (10 ≤ p1))) → True))
def f_M_beach_l42_k121 (v1 : Int32) (v2 : Int32) (v3 : Int32) (v4 : Int32) (v5 : Int32) (v6 : Int32) (h : zm_H) : Nat × Int32 × Int32 := (0, v5, (v6 + 1))
def f_M_beach_l42_k121_ok (v1 : Int32) (v2 : Int32) (v3 : Int32) (v4 : Int32) (v5 : Int32) (v6 : Int32) (h : zm_H) : Prop := True
def f_M_beach_l42_b (v1 : Int32) (v2 : Int32) (v3 : Int32) (v4 : Int32) (v5 : Int32) (v6 : Int32) (h : zm_H) : Nat × Int32 × Int32 := (if ((zf h 92 23) ≤ v6) then (1, v5, v6) else (f_M_beach_l42_k121 v1 v2 v3 v4 (v5 + (if ((if (¬ ((((((zf h 92 47) - (zr h 133 ((10 * v6) + v1))) / 1000) * v3) / 100) ≤ (((((zf h 92 47) - (zr h 133 ((10 * v6) + v1))) / 1000) * v2) / 100))) then (1 : Int32) else 0) = v4) then ((((((zf h 92 47) - (zr h 133 ((10 * v6) + v1))) / 1000) * v3) / 100) : Int32) else (((((zf h 92 47) - (zr h 133 ((10 * v6) + v1))) / 1000) * v2) / 100))) v6 h))
def f_M_beach_l42_b_ok (v1 : Int32) (v2 : Int32) (v3 : Int32) (v4 : Int32) (v5 : Int32) (v6 : Int32) (h : zm_H) : Prop := ((((zf h 92 23) ≤ v6) → True) ∧ (¬ ((zf h 92 23) ≤ v6) → vp_in ((10 * v6) + v1) 4800))
def f_M_beach_l42 (v1 : Int32) (v2 : Int32) (v3 : Int32) (v4 : Int32) (h : zm_H) (n : Nat) (t : Int32 × Int32) : Nat × Int32 × Int32 := zwh (fun t => f_M_beach_l42_b v1 v2 v3 v4 t.1 t.2 h) n t
def f_M_beach_l42_ok (v1 : Int32) (v2 : Int32) (v3 : Int32) (v4 : Int32) (h : zm_H) (n : Nat) (t : Int32 × Int32) : Prop := zwo (fun t => f_M_beach_l42_b v1 v2 v3 v4 t.1 t.2 h) (fun t => f_M_beach_l42_b_ok v1 v2 v3 v4 t.1 t.2 h) n t
def f_M_beach_k127 (v5 : Int32) (h : zm_H) : Int32 := v5
def f_M_beach_k127_ok (v5 : Int32) (h : zm_H) : Prop := True
def f_M_beach_a42 (r : Nat × Int32 × Int32) (h : zm_H) : Int32 := (f_M_beach_k127 (r.2.1) h)
def f_M_beach_a42_ok (r : Nat × Int32 × Int32) (h : zm_H) : Prop := True
def f_M_beach (p1 : Int32) (p2 : Int32) (p3 : Int32) (p4 : Int32) (h : zm_H) : Int32 := (if (¬ (p1 < 0) ∧ (¬ (9 < p1))) then (if (¬ (p2 < 0) ∧ (¬ (200 < p2))) then (if (¬ (p3 < p2) ∧ (¬ (200 < p3))) then (f_M_beach_a42 (f_M_beach_l42 p1 p2 p3 p4 h zF (0, 0)) h) else (-2147483648)) else (-2147483648)) else (-2147483648))
def f_M_beach_ok (p1 : Int32) (p2 : Int32) (p3 : Int32) (p4 : Int32) (h : zm_H) : Prop := (((¬ (p1 < 0) ∧ (¬ (9 < p1))) → (((¬ (p2 < 0) ∧ (¬ (200 < p2))) → (((¬ (p3 < p2) ∧ (¬ (200 < p3))) → (f_M_beach_l42_ok p1 p2 p3 p4 h zF (0, 0) ∧ f_M_beach_a42_ok (f_M_beach_l42 p1 p2 p3 p4 h zF (0, 0)) h)) ∧ (¬ (¬ (p3 < p2) ∧ (¬ (200 < p3))) → True))) ∧ (¬ (¬ (p2 < 0) ∧ (¬ (200 < p2))) → True))) ∧ (¬ (¬ (p1 < 0) ∧ (¬ (9 < p1))) → True))
def f_Harbour_bring (p1 : Int32) (p2 : Int32) (h : zm_H) : Int32 × zm_H := (if (((zr h 64 p1) + p2) ≤ 99) then ((zr (zs h 64 p1 ((zr h 64 p1) + p2)) 64 p1), (zs h 64 p1 ((zr h 64 p1) + p2))) else ((-1), h))
def f_Harbour_bring_ok (p1 : Int32) (p2 : Int32) (h : zm_H) : Prop := (vp_in p1 3 ∧ (((((zr h 64 p1) + p2) ≤ 99) → (vp_in p1 3 ∧ (vp_in p1 3 ∧ vp_in p1 3))) ∧ (¬ (((zr h 64 p1) + p2) ≤ 99) → True)))
theorem f_Harbour_bring_w (p1 : Int32) (p2 : Int32) (h : zm_H) : zWr [64] [] h ((f_Harbour_bring p1 p2 h).2) := by
  unfold f_Harbour_bring
  exact (zWr_ite (fun z : Int32 × zm_H => z.2) (zWr_si (by decide) (zWr.refl _ _)) (zWr.refl _ _))
def f_N_parts (p1 : Int32) (p2 : Int32) (h : zm_H) : Int32 × zm_H := (if (p1 < 0) then ((-1), h) else (if (3 ≤ p1) then ((-1), h) else (if (p2 < 1) then ((-1), h) else (if (p2 ≤ 20) then (f_Harbour_bring p1 p2 h) else ((-1), h)))))
def f_N_parts_ok (p1 : Int32) (p2 : Int32) (h : zm_H) : Prop := (((p1 < 0) → True) ∧ (¬ (p1 < 0) → (((3 ≤ p1) → True) ∧ (¬ (3 ≤ p1) → (((p2 < 1) → True) ∧ (¬ (p2 < 1) → (((p2 ≤ 20) → f_Harbour_bring_ok p1 p2 h) ∧ (¬ (p2 ≤ 20) → True))))))))
theorem f_N_parts_w (p1 : Int32) (p2 : Int32) (h : zm_H) : zWr [64] [] h ((f_N_parts p1 p2 h).2) := by
  unfold f_N_parts
  exact (zWr_ite (fun z : Int32 × zm_H => z.2) (zWr.refl _ _) (zWr_ite (fun z : Int32 × zm_H => z.2) (zWr.refl _ _) (zWr_ite (fun z : Int32 × zm_H => z.2) (zWr.refl _ _) (zWr_ite (fun z : Int32 × zm_H => z.2) (zWr_tr (f_Harbour_bring_w p1 p2 h) (by decide) (by decide) (zWr.refl _ _)) (zWr.refl _ _)))))
def f_M_parts (p1 : Int32) (p2 : Int32) (h : zm_H) : Int32 × zm_H := (if (¬ (p1 < 0) ∧ (¬ (2 < p1))) then (if (¬ (p2 < 1) ∧ (¬ (20 < p2))) then (if (((zr h 137 p1) + p2) ≤ 99) then ((zr (zs h 137 p1 ((zr h 137 p1) + p2)) 137 p1), (zs h 137 p1 ((zr h 137 p1) + p2))) else ((-1), h)) else ((-1), h)) else ((-1), h))
def f_M_parts_ok (p1 : Int32) (p2 : Int32) (h : zm_H) : Prop := (((¬ (p1 < 0) ∧ (¬ (2 < p1))) → (((¬ (p2 < 1) ∧ (¬ (20 < p2))) → (vp_in p1 3 ∧ (((((zr h 137 p1) + p2) ≤ 99) → (vp_in p1 3 ∧ (vp_in p1 3 ∧ vp_in p1 3))) ∧ (¬ (((zr h 137 p1) + p2) ≤ 99) → True)))) ∧ (¬ (¬ (p2 < 1) ∧ (¬ (20 < p2))) → True))) ∧ (¬ (¬ (p1 < 0) ∧ (¬ (2 < p1))) → True))
theorem f_M_parts_w (p1 : Int32) (p2 : Int32) (h : zm_H) : zWr [137] [] h ((f_M_parts p1 p2 h).2) := by
  unfold f_M_parts
  exact (zWr_ite (fun z : Int32 × zm_H => z.2) (zWr_ite (fun z : Int32 × zm_H => z.2) (zWr_ite (fun z : Int32 × zm_H => z.2) (zWr_si (by decide) (zWr.refl _ _)) (zWr.refl _ _)) (zWr.refl _ _)) (zWr.refl _ _))
def f_N_isBoat (p0 : Int32) (h : zm_H) : Int32 := (if (¬ (p0 < 0) ∧ (¬ (3 ≤ p0))) then (1 : Int32) else 0)
def f_N_isBoat_ok (p0 : Int32) (h : zm_H) : Prop := True
def f_Harbour_shift (p1 : Int32) (p2 : Int32) (p3 : Int32) (h : zm_H) : Int32 × zm_H := (if ((zr h 66 p1) = (-1)) then (if (¬ (p3 < (-(zr h 65 ((p1 * 3) + p2)))) ∧ (¬ ((9 - (zr h 65 ((p1 * 3) + p2))) < p3))) then (if (¬ ((zr h 64 p2) < p3) ∧ (¬ (p3 < ((zr h 64 p2) - 99)))) then (((zr h 65 ((p1 * 3) + p2)) + p3), (zs (zs h 65 ((p1 * 3) + p2) ((zr h 65 ((p1 * 3) + p2)) + p3)) 64 p2 ((zr h 64 p2) - p3))) else ((-1), h)) else ((-1), h)) else ((-1), h))
def f_Harbour_shift_ok (p1 : Int32) (p2 : Int32) (p3 : Int32) (h : zm_H) : Prop := (vp_in ((p1 * 3) + p2) 9 ∧ (vp_in p2 3 ∧ (((((zr h 64 p2) < p3) → True) ∧ (¬ ((zr h 64 p2) < p3) → vp_in p2 3)) ∧ (vp_in p1 3 ∧ ((((zr h 66 p1) = (-1)) → (((¬ (p3 < (-(zr h 65 ((p1 * 3) + p2)))) ∧ (¬ ((9 - (zr h 65 ((p1 * 3) + p2))) < p3))) → (((¬ ((zr h 64 p2) < p3) ∧ (¬ (p3 < ((zr h 64 p2) - 99)))) → (vp_in ((p1 * 3) + p2) 9 ∧ (vp_in ((p1 * 3) + p2) 9 ∧ (vp_in p2 3 ∧ vp_in p2 3)))) ∧ (¬ (¬ ((zr h 64 p2) < p3) ∧ (¬ (p3 < ((zr h 64 p2) - 99)))) → True))) ∧ (¬ (¬ (p3 < (-(zr h 65 ((p1 * 3) + p2)))) ∧ (¬ ((9 - (zr h 65 ((p1 * 3) + p2))) < p3))) → True))) ∧ (¬ ((zr h 66 p1) = (-1)) → True))))))
theorem f_Harbour_shift_w (p1 : Int32) (p2 : Int32) (p3 : Int32) (h : zm_H) : zWr [64, 65] [] h ((f_Harbour_shift p1 p2 p3 h).2) := by
  unfold f_Harbour_shift
  exact (zWr_ite (fun z : Int32 × zm_H => z.2) (zWr_ite (fun z : Int32 × zm_H => z.2) (zWr_ite (fun z : Int32 × zm_H => z.2) (zWr_si (by decide) (zWr_si (by decide) (zWr.refl _ _))) (zWr.refl _ _)) (zWr.refl _ _)) (zWr.refl _ _))
def f_N_load (p1 : Int32) (p2 : Int32) (p3 : Int32) (h : zm_H) : Int32 × zm_H := (if (¬ (p1 < 0) ∧ (¬ (3 ≤ p1))) then (if (p2 < 0) then ((-1), h) else (if (p2 < 3) then (f_Harbour_shift p1 p2 p3 h) else ((-1), h))) else ((-1), h))
def f_N_load_ok (p1 : Int32) (p2 : Int32) (p3 : Int32) (h : zm_H) : Prop := (((¬ (p1 < 0) ∧ (¬ (3 ≤ p1))) → (((p2 < 0) → True) ∧ (¬ (p2 < 0) → (((p2 < 3) → f_Harbour_shift_ok p1 p2 p3 h) ∧ (¬ (p2 < 3) → True))))) ∧ (¬ (¬ (p1 < 0) ∧ (¬ (3 ≤ p1))) → True))
theorem f_N_load_w (p1 : Int32) (p2 : Int32) (p3 : Int32) (h : zm_H) : zWr [64, 65] [] h ((f_N_load p1 p2 p3 h).2) := by
  unfold f_N_load
  exact (zWr_ite (fun z : Int32 × zm_H => z.2) (zWr_ite (fun z : Int32 × zm_H => z.2) (zWr.refl _ _) (zWr_ite (fun z : Int32 × zm_H => z.2) (zWr_tr (f_Harbour_shift_w p1 p2 p3 h) (by decide) (by decide) (zWr.refl _ _)) (zWr.refl _ _))) (zWr.refl _ _))
def f_M_isBoat (p0 : Int32) (h : zm_H) : Int32 := (if (¬ (p0 < 0) ∧ (¬ (2 < p0))) then (1 : Int32) else 0)
def f_M_isBoat_ok (p0 : Int32) (h : zm_H) : Prop := True
def f_M_load (p1 : Int32) (p2 : Int32) (p3 : Int32) (h : zm_H) : Int32 × zm_H := (if (¬ (p1 < 0) ∧ (¬ (2 < p1))) then (if ((zr h 139 p1) = 0) then (if (¬ (p2 < 0) ∧ (¬ (2 < p2))) then (if (¬ (p3 < (-99)) ∧ (¬ (99 < p3))) then (if (¬ (((zr h 138 ((3 * p1) + p2)) + p3) < 0) ∧ (¬ (9 < ((zr h 138 ((3 * p1) + p2)) + p3)))) then (if (¬ (((zr h 137 p2) - p3) < 0) ∧ (¬ (99 < ((zr h 137 p2) - p3)))) then ((zr (zs h 138 ((3 * p1) + p2) ((zr h 138 ((3 * p1) + p2)) + p3)) 138 ((3 * p1) + p2)), (zs (zs h 138 ((3 * p1) + p2) ((zr h 138 ((3 * p1) + p2)) + p3)) 137 p2 ((zr h 137 p2) - p3))) else ((-1), h)) else ((-1), h)) else ((-1), h)) else ((-1), h)) else ((-1), h)) else ((-1), h))
def f_M_load_ok (p1 : Int32) (p2 : Int32) (p3 : Int32) (h : zm_H) : Prop := (((¬ (p1 < 0) ∧ (¬ (2 < p1))) → (vp_in p1 3 ∧ ((((zr h 139 p1) = 0) → (((¬ (p2 < 0) ∧ (¬ (2 < p2))) → (((¬ (p3 < (-99)) ∧ (¬ (99 < p3))) → (vp_in ((3 * p1) + p2) 9 ∧ (((¬ (((zr h 138 ((3 * p1) + p2)) + p3) < 0) ∧ (¬ (9 < ((zr h 138 ((3 * p1) + p2)) + p3)))) → (vp_in p2 3 ∧ (((¬ (((zr h 137 p2) - p3) < 0) ∧ (¬ (99 < ((zr h 137 p2) - p3)))) → (vp_in ((3 * p1) + p2) 9 ∧ (vp_in ((3 * p1) + p2) 9 ∧ (vp_in p2 3 ∧ (vp_in p2 3 ∧ vp_in ((3 * p1) + p2) 9))))) ∧ (¬ (¬ (((zr h 137 p2) - p3) < 0) ∧ (¬ (99 < ((zr h 137 p2) - p3)))) → True)))) ∧ (¬ (¬ (((zr h 138 ((3 * p1) + p2)) + p3) < 0) ∧ (¬ (9 < ((zr h 138 ((3 * p1) + p2)) + p3)))) → True)))) ∧ (¬ (¬ (p3 < (-99)) ∧ (¬ (99 < p3))) → True))) ∧ (¬ (¬ (p2 < 0) ∧ (¬ (2 < p2))) → True))) ∧ (¬ ((zr h 139 p1) = 0) → True)))) ∧ (¬ (¬ (p1 < 0) ∧ (¬ (2 < p1))) → True))
theorem f_M_load_w (p1 : Int32) (p2 : Int32) (p3 : Int32) (h : zm_H) : zWr [137, 138] [] h ((f_M_load p1 p2 p3 h).2) := by
  unfold f_M_load
  exact (zWr_ite (fun z : Int32 × zm_H => z.2) (zWr_ite (fun z : Int32 × zm_H => z.2) (zWr_ite (fun z : Int32 × zm_H => z.2) (zWr_ite (fun z : Int32 × zm_H => z.2) (zWr_ite (fun z : Int32 × zm_H => z.2) (zWr_ite (fun z : Int32 × zm_H => z.2) (zWr_si (by decide) (zWr_si (by decide) (zWr.refl _ _))) (zWr.refl _ _)) (zWr.refl _ _)) (zWr.refl _ _)) (zWr.refl _ _)) (zWr.refl _ _)) (zWr.refl _ _))
def f_Harbour_goOut (p1 : Int32) (p2 : Int32) (p3 : Int32) (p4 : Int32) (p5 : Int32) (h : zm_H) : Int32 × zm_H := (if ((zr h 66 p1) = (-1)) then (if ((zr h 65 ((p1 * 3) + (if (3 ≤ p3) then ((if (p3 = 3) then (1 : Int32) else 2) : Int32) else 0))) = 0) then ((-1), h) else (p4, (zs (zs (zs (zs h 66 p1 p4) 67 p1 p2) 68 p1 p3) 69 p1 p5))) else ((-1), h))
def f_Harbour_goOut_ok (p1 : Int32) (p2 : Int32) (p3 : Int32) (p4 : Int32) (p5 : Int32) (h : zm_H) : Prop := (vp_in p1 3 ∧ ((((zr h 66 p1) = (-1)) → (vp_in ((p1 * 3) + (if (3 ≤ p3) then ((if (p3 = 3) then (1 : Int32) else 2) : Int32) else 0)) 9 ∧ ((((zr h 65 ((p1 * 3) + (if (3 ≤ p3) then ((if (p3 = 3) then (1 : Int32) else 2) : Int32) else 0))) = 0) → True) ∧ (¬ ((zr h 65 ((p1 * 3) + (if (3 ≤ p3) then ((if (p3 = 3) then (1 : Int32) else 2) : Int32) else 0))) = 0) → (vp_in p1 3 ∧ (vp_in p1 3 ∧ (vp_in p1 3 ∧ vp_in p1 3))))))) ∧ (¬ ((zr h 66 p1) = (-1)) → True)))
theorem f_Harbour_goOut_w (p1 : Int32) (p2 : Int32) (p3 : Int32) (p4 : Int32) (p5 : Int32) (h : zm_H) : zWr [66, 67, 68, 69] [] h ((f_Harbour_goOut p1 p2 p3 p4 p5 h).2) := by
  unfold f_Harbour_goOut
  exact (zWr_ite (fun z : Int32 × zm_H => z.2) (zWr_ite (fun z : Int32 × zm_H => z.2) (zWr.refl _ _) (zWr_si (by decide) (zWr_si (by decide) (zWr_si (by decide) (zWr_si (by decide) (zWr.refl _ _)))))) (zWr.refl _ _))
def f_N_send_k77 (v1 : Int32) (v2 : Int32) (v3 : Int32) (v4 : Int32) (v5 : Int32) (h : zm_H) : Int32 × zm_H := (f_Harbour_goOut v1 v2 v3 (((zf h 0 0) + v4) - 1) v5 h)
def f_N_send_k77_ok (v1 : Int32) (v2 : Int32) (v3 : Int32) (v4 : Int32) (v5 : Int32) (h : zm_H) : Prop := f_Harbour_goOut_ok v1 v2 v3 (((zf h 0 0) + v4) - 1) v5 h
theorem f_N_send_k77_w (v1 : Int32) (v2 : Int32) (v3 : Int32) (v4 : Int32) (v5 : Int32) (h : zm_H) : zWr [66, 67, 68, 69] [] h ((f_N_send_k77 v1 v2 v3 v4 v5 h).2) := by
  unfold f_N_send_k77
  exact (zWr_tr (f_Harbour_goOut_w v1 v2 v3 (((zf h 0 0) + v4) - 1) v5 h) (by decide) (by decide) (zWr.refl _ _))
def f_N_send (p1 : Int32) (p2 : Int32) (p3 : Int32) (p4 : Int32) (p5 : Int32) (h : zm_H) : Int32 × zm_H := (if (¬ (p1 < 0) ∧ (¬ (3 ≤ p1))) then (if (¬ (p2 < 0) ∧ (¬ ((zf h 23 0) ≤ p2))) then (if (p3 < 0) then ((-1), h) else (if (p3 ≤ 4) then (if (p4 < 1) then ((-1), h) else (if (8 < p4) then ((-1), h) else (if (((zf h 0 0) + p4) ≤ 480) then (if (3 ≤ p3) then (if (p5 = 0) then (f_N_send_k77 p1 p2 p3 p4 p5 h) else ((-1), h)) else (if (¬ (p5 < 10) ∧ (¬ (5000 < p5))) then (f_N_send_k77 p1 p2 p3 p4 p5 h) else ((-1), h))) else ((-1), h)))) else ((-1), h))) else ((-1), h)) else ((-1), h))
def f_N_send_ok (p1 : Int32) (p2 : Int32) (p3 : Int32) (p4 : Int32) (p5 : Int32) (h : zm_H) : Prop := (((¬ (p1 < 0) ∧ (¬ (3 ≤ p1))) → (((¬ (p2 < 0) ∧ (¬ ((zf h 23 0) ≤ p2))) → (((p3 < 0) → True) ∧ (¬ (p3 < 0) → (((p3 ≤ 4) → (((p4 < 1) → True) ∧ (¬ (p4 < 1) → (((8 < p4) → True) ∧ (¬ (8 < p4) → (((((zf h 0 0) + p4) ≤ 480) → (((3 ≤ p3) → (((p5 = 0) → (f_N_send_k77_ok p1 p2 p3 p4 p5 h)) ∧ (¬ (p5 = 0) → True))) ∧ (¬ (3 ≤ p3) → (((¬ (p5 < 10) ∧ (¬ (5000 < p5))) → (f_N_send_k77_ok p1 p2 p3 p4 p5 h)) ∧ (¬ (¬ (p5 < 10) ∧ (¬ (5000 < p5))) → True))))) ∧ (¬ (((zf h 0 0) + p4) ≤ 480) → True))))))) ∧ (¬ (p3 ≤ 4) → True))))) ∧ (¬ (¬ (p2 < 0) ∧ (¬ ((zf h 23 0) ≤ p2))) → True))) ∧ (¬ (¬ (p1 < 0) ∧ (¬ (3 ≤ p1))) → True))
theorem f_N_send_w (p1 : Int32) (p2 : Int32) (p3 : Int32) (p4 : Int32) (p5 : Int32) (h : zm_H) : zWr [66, 67, 68, 69] [] h ((f_N_send p1 p2 p3 p4 p5 h).2) := by
  unfold f_N_send
  exact (zWr_ite (fun z : Int32 × zm_H => z.2) (zWr_ite (fun z : Int32 × zm_H => z.2) (zWr_ite (fun z : Int32 × zm_H => z.2) (zWr.refl _ _) (zWr_ite (fun z : Int32 × zm_H => z.2) (zWr_ite (fun z : Int32 × zm_H => z.2) (zWr.refl _ _) (zWr_ite (fun z : Int32 × zm_H => z.2) (zWr.refl _ _) (zWr_ite (fun z : Int32 × zm_H => z.2) (zWr_ite (fun z : Int32 × zm_H => z.2) (zWr_ite (fun z : Int32 × zm_H => z.2) (zWr_tr (f_N_send_k77_w p1 p2 p3 p4 p5 h) (by decide) (by decide) (zWr.refl _ _)) (zWr.refl _ _)) (zWr_ite (fun z : Int32 × zm_H => z.2) (zWr_tr (f_N_send_k77_w p1 p2 p3 p4 p5 h) (by decide) (by decide) (zWr.refl _ _)) (zWr.refl _ _))) (zWr.refl _ _)))) (zWr.refl _ _))) (zWr.refl _ _)) (zWr.refl _ _))
def f_M_send_k98 (v1 : Int32) (v2 : Int32) (v3 : Int32) (v4 : Int32) (v5 : Int32) (h : zm_H) : Int32 × zm_H := ((zr (zs (zs (zs (zs (zs h 139 v1 (zm_nb 2 1)) 140 v1 v2) 141 v1 v3) 143 v1 v5) 142 v1 (((zf h 92 23) + v4) - 1)) 142 v1), (zs (zs (zs (zs (zs h 139 v1 (zm_nb 2 1)) 140 v1 v2) 141 v1 v3) 143 v1 v5) 142 v1 (((zf h 92 23) + v4) - 1)))
def f_M_send_k98_ok (v1 : Int32) (v2 : Int32) (v3 : Int32) (v4 : Int32) (v5 : Int32) (h : zm_H) : Prop := (vp_in v1 3 ∧ (vp_in v1 3 ∧ (vp_in v1 3 ∧ (vp_in v1 3 ∧ (vp_in v1 3 ∧ vp_in v1 3)))))
theorem f_M_send_k98_w (v1 : Int32) (v2 : Int32) (v3 : Int32) (v4 : Int32) (v5 : Int32) (h : zm_H) : zWr [139, 140, 141, 142, 143] [] h ((f_M_send_k98 v1 v2 v3 v4 v5 h).2) := by
  unfold f_M_send_k98
  exact (zWr_si (by decide) (zWr_si (by decide) (zWr_si (by decide) (zWr_si (by decide) (zWr_si (by decide) (zWr.refl _ _))))))
def f_M_send (p1 : Int32) (p2 : Int32) (p3 : Int32) (p4 : Int32) (p5 : Int32) (h : zm_H) : Int32 × zm_H := (if (¬ (p1 < 0) ∧ (¬ (2 < p1))) then (if ((zr h 139 p1) = 0) then (if (¬ (p2 < 0) ∧ (¬ (((zf h 92 33) - 1) < p2))) then (if (¬ (p3 < 0) ∧ (¬ (4 < p3))) then (if ((zr h 138 ((3 * p1) + (if (3 ≤ p3) then ((p3 - 2) : Int32) else 0))) = 0) then ((-1), h) else (if (¬ (p4 < 1) ∧ (¬ (8 < p4))) then (if (((zf h 92 23) + p4) ≤ 480) then (if (3 ≤ p3) then (if (p5 = 0) then (f_M_send_k98 p1 p2 p3 p4 p5 h) else ((-1), h)) else (if (¬ (p5 < 10) ∧ (¬ (5000 < p5))) then (f_M_send_k98 p1 p2 p3 p4 p5 h) else ((-1), h))) else ((-1), h)) else ((-1), h))) else ((-1), h)) else ((-1), h)) else ((-1), h)) else ((-1), h))
def f_M_send_ok (p1 : Int32) (p2 : Int32) (p3 : Int32) (p4 : Int32) (p5 : Int32) (h : zm_H) : Prop := (((¬ (p1 < 0) ∧ (¬ (2 < p1))) → (vp_in p1 3 ∧ ((((zr h 139 p1) = 0) → (((¬ (p2 < 0) ∧ (¬ (((zf h 92 33) - 1) < p2))) → (((¬ (p3 < 0) ∧ (¬ (4 < p3))) → (vp_in ((3 * p1) + (if (3 ≤ p3) then ((p3 - 2) : Int32) else 0)) 9 ∧ ((((zr h 138 ((3 * p1) + (if (3 ≤ p3) then ((p3 - 2) : Int32) else 0))) = 0) → True) ∧ (¬ ((zr h 138 ((3 * p1) + (if (3 ≤ p3) then ((p3 - 2) : Int32) else 0))) = 0) → (((¬ (p4 < 1) ∧ (¬ (8 < p4))) → (((((zf h 92 23) + p4) ≤ 480) → (((3 ≤ p3) → (((p5 = 0) → (f_M_send_k98_ok p1 p2 p3 p4 p5 h)) ∧ (¬ (p5 = 0) → True))) ∧ (¬ (3 ≤ p3) → (((¬ (p5 < 10) ∧ (¬ (5000 < p5))) → (f_M_send_k98_ok p1 p2 p3 p4 p5 h)) ∧ (¬ (¬ (p5 < 10) ∧ (¬ (5000 < p5))) → True))))) ∧ (¬ (((zf h 92 23) + p4) ≤ 480) → True))) ∧ (¬ (¬ (p4 < 1) ∧ (¬ (8 < p4))) → True)))))) ∧ (¬ (¬ (p3 < 0) ∧ (¬ (4 < p3))) → True))) ∧ (¬ (¬ (p2 < 0) ∧ (¬ (((zf h 92 33) - 1) < p2))) → True))) ∧ (¬ ((zr h 139 p1) = 0) → True)))) ∧ (¬ (¬ (p1 < 0) ∧ (¬ (2 < p1))) → True))
theorem f_M_send_w (p1 : Int32) (p2 : Int32) (p3 : Int32) (p4 : Int32) (p5 : Int32) (h : zm_H) : zWr [139, 140, 141, 142, 143] [] h ((f_M_send p1 p2 p3 p4 p5 h).2) := by
  unfold f_M_send
  exact (zWr_ite (fun z : Int32 × zm_H => z.2) (zWr_ite (fun z : Int32 × zm_H => z.2) (zWr_ite (fun z : Int32 × zm_H => z.2) (zWr_ite (fun z : Int32 × zm_H => z.2) (zWr_ite (fun z : Int32 × zm_H => z.2) (zWr.refl _ _) (zWr_ite (fun z : Int32 × zm_H => z.2) (zWr_ite (fun z : Int32 × zm_H => z.2) (zWr_ite (fun z : Int32 × zm_H => z.2) (zWr_ite (fun z : Int32 × zm_H => z.2) (zWr_tr (f_M_send_k98_w p1 p2 p3 p4 p5 h) (by decide) (by decide) (zWr.refl _ _)) (zWr.refl _ _)) (zWr_ite (fun z : Int32 × zm_H => z.2) (zWr_tr (f_M_send_k98_w p1 p2 p3 p4 p5 h) (by decide) (by decide) (zWr.refl _ _)) (zWr.refl _ _))) (zWr.refl _ _)) (zWr.refl _ _))) (zWr.refl _ _)) (zWr.refl _ _)) (zWr.refl _ _)) (zWr.refl _ _))
def f_Harbour_ofBoat (p1 : Int32) (p2 : Int32) (h : zm_H) : Int32 := (if p2 = 0 then (if ((zr h 66 p1) = (-1)) then (1 : Int32) else 0) else (if p2 = 1 then (zr h 65 (((p1 * 3) + p2) - 1)) else (if p2 = 2 then (zr h 65 (((p1 * 3) + p2) - 1)) else (if p2 = 3 then (zr h 65 (((p1 * 3) + p2) - 1)) else (if p2 = 4 then (zr h 70 p1) else (if p2 = 5 then (zr h 71 p1) else (-1)))))))
def f_Harbour_ofBoat_ok (p1 : Int32) (p2 : Int32) (h : zm_H) : Prop := ((p2 = 0 → vp_in p1 3) ∧ (¬ p2 = 0 → ((p2 = 1 → vp_in (((p1 * 3) + p2) - 1) 9) ∧ (¬ p2 = 1 → ((p2 = 2 → vp_in (((p1 * 3) + p2) - 1) 9) ∧ (¬ p2 = 2 → ((p2 = 3 → vp_in (((p1 * 3) + p2) - 1) 9) ∧ (¬ p2 = 3 → ((p2 = 4 → vp_in p1 3) ∧ (¬ p2 = 4 → ((p2 = 5 → vp_in p1 3) ∧ (¬ p2 = 5 → True))))))))))))
def f_N_boat (p1 : Int32) (p2 : Int32) (h : zm_H) : Int32 := (if (¬ (p1 < 0) ∧ (¬ (3 ≤ p1))) then ((f_Harbour_ofBoat p1 p2 h) : Int32) else (-1))
def f_N_boat_ok (p1 : Int32) (p2 : Int32) (h : zm_H) : Prop := (((¬ (p1 < 0) ∧ (¬ (3 ≤ p1))) → f_Harbour_ofBoat_ok p1 p2 h) ∧ (¬ (¬ (p1 < 0) ∧ (¬ (3 ≤ p1))) → True))
def f_M_boat (p1 : Int32) (p2 : Int32) (h : zm_H) : Int32 := (if (¬ (p1 < 0) ∧ (¬ (2 < p1))) then (if (¬ (p2 < 1) ∧ (¬ (3 < p2))) then (zr h 138 (((3 * p1) + p2) - 1)) else (if p2 = 0 then (if ((zr h 139 p1) = 0) then (1 : Int32) else 0) else (if p2 = 4 then (zr h 144 p1) else (if p2 = 5 then (zr h 145 p1) else (-1))))) else (-1))
def f_M_boat_ok (p1 : Int32) (p2 : Int32) (h : zm_H) : Prop := (((¬ (p1 < 0) ∧ (¬ (2 < p1))) → (((¬ (p2 < 1) ∧ (¬ (3 < p2))) → vp_in (((3 * p1) + p2) - 1) 9) ∧ (¬ (¬ (p2 < 1) ∧ (¬ (3 < p2))) → ((p2 = 0 → vp_in p1 3) ∧ (¬ p2 = 0 → ((p2 = 4 → vp_in p1 3) ∧ (¬ p2 = 4 → ((p2 = 5 → vp_in p1 3) ∧ (¬ p2 = 5 → True))))))))) ∧ (¬ (¬ (p1 < 0) ∧ (¬ (2 < p1))) → True))
def f_Planner_addJob (p1 : Int32) (p2 : Int32) (h : zm_H) : Int32 × zm_H := (if ((zf h 72 2) < 6) then (((zf h 72 2) + 1), (zp (zs (zs h 73 (zf h 72 2) p1) 74 (zf h 72 2) p2) 72 2 ((zf h 72 2) + 1))) else ((-1), h))
def f_Planner_addJob_ok (p1 : Int32) (p2 : Int32) (h : zm_H) : Prop := ((((zf h 72 2) < 6) → (vp_in (zf h 72 2) 6 ∧ vp_in (zf h 72 2) 6)) ∧ (¬ ((zf h 72 2) < 6) → True))
theorem f_Planner_addJob_w (p1 : Int32) (p2 : Int32) (h : zm_H) : zWr [73, 74] [(72, 2)] h ((f_Planner_addJob p1 p2 h).2) := by
  unfold f_Planner_addJob
  exact (zWr_ite (fun z : Int32 × zm_H => z.2) (zWr_p (by decide) (zWr_si (by decide) (zWr_si (by decide) (zWr.refl _ _)))) (zWr.refl _ _))
def f_N_want (p1 : Int32) (p2 : Int32) (h : zm_H) : Int32 × zm_H := (if (p1 < 1) then ((-1), h) else (if (16 < p1) then ((-1), h) else (if (p2 < 1) then ((-1), h) else (if (p2 ≤ 999) then (f_Planner_addJob p1 p2 h) else ((-1), h)))))
def f_N_want_ok (p1 : Int32) (p2 : Int32) (h : zm_H) : Prop := (((p1 < 1) → True) ∧ (¬ (p1 < 1) → (((16 < p1) → True) ∧ (¬ (16 < p1) → (((p2 < 1) → True) ∧ (¬ (p2 < 1) → (((p2 ≤ 999) → f_Planner_addJob_ok p1 p2 h) ∧ (¬ (p2 ≤ 999) → True))))))))
theorem f_N_want_w (p1 : Int32) (p2 : Int32) (h : zm_H) : zWr [73, 74] [(72, 2)] h ((f_N_want p1 p2 h).2) := by
  unfold f_N_want
  exact (zWr_ite (fun z : Int32 × zm_H => z.2) (zWr.refl _ _) (zWr_ite (fun z : Int32 × zm_H => z.2) (zWr.refl _ _) (zWr_ite (fun z : Int32 × zm_H => z.2) (zWr.refl _ _) (zWr_ite (fun z : Int32 × zm_H => z.2) (zWr_tr (f_Planner_addJob_w p1 p2 h) (by decide) (by decide) (zWr.refl _ _)) (zWr.refl _ _)))))
def f_M_want (p1 : Int32) (p2 : Int32) (h : zm_H) : Int32 × zm_H := (if (¬ (p1 < 1) ∧ (¬ (16 < p1))) then (if (¬ (p2 < 1) ∧ (¬ (999 < p2))) then (if ((zf h 92 72) = 6) then ((-1), h) else (((zf h 92 72) + 1), (zp (zs (zs h 146 (zf h 92 72) p1) 147 (zf h 92 72) p2) 92 72 ((zf h 92 72) + 1)))) else ((-1), h)) else ((-1), h))
def f_M_want_ok (p1 : Int32) (p2 : Int32) (h : zm_H) : Prop := (((¬ (p1 < 1) ∧ (¬ (16 < p1))) → (((¬ (p2 < 1) ∧ (¬ (999 < p2))) → ((((zf h 92 72) = 6) → True) ∧ (¬ ((zf h 92 72) = 6) → (vp_in (zf h 92 72) 8 ∧ vp_in (zf h 92 72) 8)))) ∧ (¬ (¬ (p2 < 1) ∧ (¬ (999 < p2))) → True))) ∧ (¬ (¬ (p1 < 1) ∧ (¬ (16 < p1))) → True))
theorem f_M_want_w (p1 : Int32) (p2 : Int32) (h : zm_H) : zWr [146, 147] [(92, 72)] h ((f_M_want p1 p2 h).2) := by
  unfold f_M_want
  exact (zWr_ite (fun z : Int32 × zm_H => z.2) (zWr_ite (fun z : Int32 × zm_H => z.2) (zWr_ite (fun z : Int32 × zm_H => z.2) (zWr.refl _ _) (zWr_p (by decide) (zWr_si (by decide) (zWr_si (by decide) (zWr.refl _ _))))) (zWr.refl _ _)) (zWr.refl _ _))
def f_N_forget (h : zm_H) : Int32 × zm_H := ((zf h 72 2), (zp h 72 2 0))
def f_N_forget_ok (h : zm_H) : Prop := True
theorem f_N_forget_w (h : zm_H) : zWr [] [(72, 2)] h ((f_N_forget h).2) := by
  unfold f_N_forget
  exact (zWr_p (by decide) (zWr.refl _ _))
def f_M_forget (h : zm_H) : Int32 × zm_H := ((zf h 92 72), (zp h 92 72 0))
def f_M_forget_ok (h : zm_H) : Prop := True
theorem f_M_forget_w (h : zm_H) : zWr [] [(92, 72)] h ((f_M_forget h).2) := by
  unfold f_M_forget
  exact (zWr_p (by decide) (zWr.refl _ _))
def f_Planner_findWindows_l10_k44 (v1 : Int32) (v2 : Int32) (v3 : Int32) (v4 : Int32) (w0 : Int32) (h : zm_H) : Nat × Int32 × Int32 × zm_H := (0, w0, (v4 + 1), (if (w0 = 0) then (if (w0 = 0) then h else (if (v3 = 0) then (if (40 ≤ (zf h 72 5)) then h else (zp (zs (zs h 75 (zf h 72 5) v4) 76 (zf h 72 5) 0) 72 5 ((zf h 72 5) + 1))) else h)) else (if ((zf (if (w0 = 0) then h else (if (v3 = 0) then (if (40 ≤ (zf h 72 5)) then h else (zp (zs (zs h 75 (zf h 72 5) v4) 76 (zf h 72 5) 0) 72 5 ((zf h 72 5) + 1))) else h)) 72 5) ≤ 0) then (if (w0 = 0) then h else (if (v3 = 0) then (if (40 ≤ (zf h 72 5)) then h else (zp (zs (zs h 75 (zf h 72 5) v4) 76 (zf h 72 5) 0) 72 5 ((zf h 72 5) + 1))) else h)) else (zs (if (w0 = 0) then h else (if (v3 = 0) then (if (40 ≤ (zf h 72 5)) then h else (zp (zs (zs h 75 (zf h 72 5) v4) 76 (zf h 72 5) 0) 72 5 ((zf h 72 5) + 1))) else h)) 76 ((zf (if (w0 = 0) then h else (if (v3 = 0) then (if (40 ≤ (zf h 72 5)) then h else (zp (zs (zs h 75 (zf h 72 5) v4) 76 (zf h 72 5) 0) 72 5 ((zf h 72 5) + 1))) else h)) 72 5) - 1) ((zr (if (w0 = 0) then h else (if (v3 = 0) then (if (40 ≤ (zf h 72 5)) then h else (zp (zs (zs h 75 (zf h 72 5) v4) 76 (zf h 72 5) 0) 72 5 ((zf h 72 5) + 1))) else h)) 76 ((zf (if (w0 = 0) then h else (if (v3 = 0) then (if (40 ≤ (zf h 72 5)) then h else (zp (zs (zs h 75 (zf h 72 5) v4) 76 (zf h 72 5) 0) 72 5 ((zf h 72 5) + 1))) else h)) 72 5) - 1)) + 1)))))
def f_Planner_findWindows_l10_k44_ok (v1 : Int32) (v2 : Int32) (v3 : Int32) (v4 : Int32) (w0 : Int32) (h : zm_H) : Prop := ((((w0 = 0) → True) ∧ (¬ (w0 = 0) → (((v3 = 0) → (((40 ≤ (zf h 72 5)) → True) ∧ (¬ (40 ≤ (zf h 72 5)) → (vp_in (zf h 72 5) 40 ∧ vp_in (zf h 72 5) 40)))) ∧ (¬ (v3 = 0) → True)))) ∧ (((w0 = 0) → True) ∧ (¬ (w0 = 0) → ((((zf (if (w0 = 0) then h else (if (v3 = 0) then (if (40 ≤ (zf h 72 5)) then h else (zp (zs (zs h 75 (zf h 72 5) v4) 76 (zf h 72 5) 0) 72 5 ((zf h 72 5) + 1))) else h)) 72 5) ≤ 0) → True) ∧ (¬ ((zf (if (w0 = 0) then h else (if (v3 = 0) then (if (40 ≤ (zf h 72 5)) then h else (zp (zs (zs h 75 (zf h 72 5) v4) 76 (zf h 72 5) 0) 72 5 ((zf h 72 5) + 1))) else h)) 72 5) ≤ 0) → (vp_in ((zf (if (w0 = 0) then h else (if (v3 = 0) then (if (40 ≤ (zf h 72 5)) then h else (zp (zs (zs h 75 (zf h 72 5) v4) 76 (zf h 72 5) 0) 72 5 ((zf h 72 5) + 1))) else h)) 72 5) - 1) 40 ∧ vp_in ((zf (if (w0 = 0) then h else (if (v3 = 0) then (if (40 ≤ (zf h 72 5)) then h else (zp (zs (zs h 75 (zf h 72 5) v4) 76 (zf h 72 5) 0) 72 5 ((zf h 72 5) + 1))) else h)) 72 5) - 1) 40))))))
theorem f_Planner_findWindows_l10_k44_w (v1 : Int32) (v2 : Int32) (v3 : Int32) (v4 : Int32) (w0 : Int32) (h : zm_H) : zWr [75, 76] [(72, 5)] h ((f_Planner_findWindows_l10_k44 v1 v2 v3 v4 w0 h).2.2.2) := by
  unfold f_Planner_findWindows_l10_k44
  exact (zWr_ite (fun z : zm_H => z) (zWr_ite (fun z : zm_H => z) (zWr.refl _ _) (zWr_ite (fun z : zm_H => z) (zWr_ite (fun z : zm_H => z) (zWr.refl _ _) (zWr_p (by decide) (zWr_si (by decide) (zWr_si (by decide) (zWr.refl _ _))))) (zWr.refl _ _))) (zWr_ite (fun z : zm_H => z) (zWr_ite (fun z : zm_H => z) (zWr.refl _ _) (zWr_ite (fun z : zm_H => z) (zWr_ite (fun z : zm_H => z) (zWr.refl _ _) (zWr_p (by decide) (zWr_si (by decide) (zWr_si (by decide) (zWr.refl _ _))))) (zWr.refl _ _))) (zWr_si (by decide) (zWr_ite (fun z : zm_H => z) (zWr.refl _ _) (zWr_ite (fun z : zm_H => z) (zWr_ite (fun z : zm_H => z) (zWr.refl _ _) (zWr_p (by decide) (zWr_si (by decide) (zWr_si (by decide) (zWr.refl _ _))))) (zWr.refl _ _))))))
def f_Planner_findWindows_l10_b (v1 : Int32) (v2 : Int32) (v3 : Int32) (v4 : Int32) (h : zm_H) : Nat × Int32 × Int32 × zm_H := (if ((v1 + v2) ≤ v4) then (1, v3, v4, h) else (if (480 ≤ v4) then (1, v3, v4, h) else (f_Planner_findWindows_l10_k44 v1 v2 v3 v4 (f_Rules_letsBoatsOut v4 (f_Swell_lookNow v4 h) h).1 (f_Rules_letsBoatsOut v4 (f_Swell_lookNow v4 h) h).2)))
def f_Planner_findWindows_l10_b_ok (v1 : Int32) (v2 : Int32) (v3 : Int32) (v4 : Int32) (h : zm_H) : Prop := ((((v1 + v2) ≤ v4) → True) ∧ (¬ ((v1 + v2) ≤ v4) → (((480 ≤ v4) → True) ∧ (¬ (480 ≤ v4) → (f_Swell_lookNow_ok v4 h ∧ (f_Rules_letsBoatsOut_ok v4 (f_Swell_lookNow v4 h) h ∧ (f_Planner_findWindows_l10_k44_ok v1 v2 v3 v4 (f_Rules_letsBoatsOut v4 (f_Swell_lookNow v4 h) h).1 (f_Rules_letsBoatsOut v4 (f_Swell_lookNow v4 h) h).2)))))))
theorem f_Planner_findWindows_l10_b_w (v1 : Int32) (v2 : Int32) (v3 : Int32) (v4 : Int32) (h : zm_H) : zWr [21, 22, 75, 76] [(15, 9), (72, 5)] h ((f_Planner_findWindows_l10_b v1 v2 v3 v4 h).2.2.2) := by
  unfold f_Planner_findWindows_l10_b
  exact (zWr_ite (fun z : Nat × Int32 × Int32 × zm_H => z.2.2.2) (zWr.refl _ _) (zWr_ite (fun z : Nat × Int32 × Int32 × zm_H => z.2.2.2) (zWr.refl _ _) (zWr_tr (f_Planner_findWindows_l10_k44_w v1 v2 v3 v4 (f_Rules_letsBoatsOut v4 (f_Swell_lookNow v4 h) h).1 (f_Rules_letsBoatsOut v4 (f_Swell_lookNow v4 h) h).2) (by decide) (by decide) (zWr_tr (f_Rules_letsBoatsOut_w v4 (f_Swell_lookNow v4 h) h) (by decide) (by decide) (zWr.refl _ _)))))
def f_Planner_findWindows_l10 (v1 : Int32) (v2 : Int32) (n : Nat) (t : Int32 × Int32 × zm_H) : Nat × Int32 × Int32 × zm_H := zwh (fun t => f_Planner_findWindows_l10_b v1 v2 t.1 t.2.1 t.2.2) n t
def f_Planner_findWindows_l10_ok (v1 : Int32) (v2 : Int32) (n : Nat) (t : Int32 × Int32 × zm_H) : Prop := zwo (fun t => f_Planner_findWindows_l10_b v1 v2 t.1 t.2.1 t.2.2) (fun t => f_Planner_findWindows_l10_b_ok v1 v2 t.1 t.2.1 t.2.2) n t
theorem f_Planner_findWindows_l10_w (v1 : Int32) (v2 : Int32) (n : Nat) (t : Int32 × Int32 × zm_H) : zWr [21, 22, 75, 76] [(15, 9), (72, 5)] (t.2.2) ((f_Planner_findWindows_l10 v1 v2 n t).2.2.2) := by
  unfold f_Planner_findWindows_l10
  exact zWr_zwh (fun t : Int32 × Int32 × zm_H => t.2.2) (fun t => f_Planner_findWindows_l10_b_w v1 v2 t.1 t.2.1 t.2.2)
def f_Planner_findWindows_k131 (h : zm_H) : zm_H := h
def f_Planner_findWindows_k131_ok (h : zm_H) : Prop := True
theorem f_Planner_findWindows_k131_w (h : zm_H) : zWr [] [] h ((f_Planner_findWindows_k131 h)) := by
  unfold f_Planner_findWindows_k131
  exact (zWr.refl _ _)
def f_Planner_findWindows_a10 (r : Nat × Int32 × Int32 × zm_H) : zm_H := (f_Planner_findWindows_k131 (r.2.2.2))
def f_Planner_findWindows_a10_ok (r : Nat × Int32 × Int32 × zm_H) : Prop := True
theorem f_Planner_findWindows_a10_w (r : Nat × Int32 × Int32 × zm_H) : zWr [] [] (r.2.2.2) ((f_Planner_findWindows_a10 r)) := by
  unfold f_Planner_findWindows_a10
  exact (zWr_tr (f_Planner_findWindows_k131_w (r.2.2.2)) (by decide) (by decide) (zWr.refl _ _))
def f_Planner_findWindows (p1 : Int32) (p2 : Int32) (h : zm_H) : zm_H := (f_Planner_findWindows_a10 (f_Planner_findWindows_l10 p1 p2 zF (0, p1, (zp h 72 5 0))))
def f_Planner_findWindows_ok (p1 : Int32) (p2 : Int32) (h : zm_H) : Prop := (f_Planner_findWindows_l10_ok p1 p2 zF (0, p1, (zp h 72 5 0)) ∧ f_Planner_findWindows_a10_ok (f_Planner_findWindows_l10 p1 p2 zF (0, p1, (zp h 72 5 0))))
theorem f_Planner_findWindows_w (p1 : Int32) (p2 : Int32) (h : zm_H) : zWr [21, 22, 75, 76] [(15, 9), (72, 5)] h ((f_Planner_findWindows p1 p2 h)) := by
  unfold f_Planner_findWindows
  exact (zWr_tr (f_Planner_findWindows_a10_w (f_Planner_findWindows_l10 p1 p2 zF (0, p1, (zp h 72 5 0)))) (by decide) (by decide) (zWr_tr (f_Planner_findWindows_l10_w p1 p2 zF (0, p1, (zp h 72 5 0))) (by decide) (by decide) (zWr_p (by decide) (zWr.refl _ _))))
def f_Planner_ofWindow (p1 : Int32) (p2 : Int32) (h : zm_H) : Int32 := (if (p1 < 0) then ((-1) : Int32) else (if (p1 < (zf h 72 5)) then ((if (p2 = 0) then ((zr h 75 p1) : Int32) else (if (p2 = 1) then ((zr h 76 p1) : Int32) else (-1))) : Int32) else (-1)))
def f_Planner_ofWindow_ok (p1 : Int32) (p2 : Int32) (h : zm_H) : Prop := (((p1 < 0) → True) ∧ (¬ (p1 < 0) → (((p1 < (zf h 72 5)) → (((p2 = 0) → vp_in p1 40) ∧ (¬ (p2 = 0) → (((p2 = 1) → vp_in p1 40) ∧ (¬ (p2 = 1) → True))))) ∧ (¬ (p1 < (zf h 72 5)) → True))))
def f_N_window_k25 (v2 : Int32) (v3 : Int32) (h : zm_H) : Int32 × zm_H := ((f_Planner_ofWindow v2 v3 h), h)
def f_N_window_k25_ok (v2 : Int32) (v3 : Int32) (h : zm_H) : Prop := f_Planner_ofWindow_ok v2 v3 h
theorem f_N_window_k25_w (v2 : Int32) (v3 : Int32) (h : zm_H) : zWr [] [] h ((f_N_window_k25 v2 v3 h).2) := by
  unfold f_N_window_k25
  exact (zWr.refl _ _)
def f_N_window (p1 : Int32) (p2 : Int32) (p3 : Int32) (h : zm_H) : Int32 × zm_H := (if (p1 < 1) then ((-1), h) else (if (p1 ≤ 40) then (f_N_window_k25 p2 p3 (f_Planner_findWindows (zf h 0 0) p1 h)) else ((-1), h)))
def f_N_window_ok (p1 : Int32) (p2 : Int32) (p3 : Int32) (h : zm_H) : Prop := (((p1 < 1) → True) ∧ (¬ (p1 < 1) → (((p1 ≤ 40) → (f_Planner_findWindows_ok (zf h 0 0) p1 h ∧ (f_N_window_k25_ok p2 p3 (f_Planner_findWindows (zf h 0 0) p1 h)))) ∧ (¬ (p1 ≤ 40) → True))))
theorem f_N_window_w (p1 : Int32) (p2 : Int32) (p3 : Int32) (h : zm_H) : zWr [21, 22, 75, 76] [(15, 9), (72, 5)] h ((f_N_window p1 p2 p3 h).2) := by
  unfold f_N_window
  exact (zWr_ite (fun z : Int32 × zm_H => z.2) (zWr.refl _ _) (zWr_ite (fun z : Int32 × zm_H => z.2) (zWr_tr (f_N_window_k25_w p2 p3 (f_Planner_findWindows (zf h 0 0) p1 h)) (by decide) (by decide) (zWr_tr (f_Planner_findWindows_w (zf h 0 0) p1 h) (by decide) (by decide) (zWr.refl _ _))) (zWr.refl _ _)))
def f_M_windows_l22_k66 (v1 : Int32) (v2 : Int32) (v3 : Int32) (v4 : Int32) (w0 : Int32) (h : zm_H) : Nat × Int32 × Int32 × Int32 × zm_H := (0, (if (¬ (w0 = 0)) then ((if (v3 = 0) then ((v2 + 1) : Int32) else v2) : Int32) else v2), (if (¬ (w0 = 0)) then (1 : Int32) else 0), (v4 + 1), (if (¬ (w0 = 0)) then (zs (if (¬ (w0 = 0)) then (if (v3 = 0) then (zs (zs h 154 v2 v4) 155 v2 0) else h) else h) 155 ((if (¬ (w0 = 0)) then ((if (v3 = 0) then ((v2 + 1) : Int32) else v2) : Int32) else v2) - 1) ((zr (if (¬ (w0 = 0)) then (if (v3 = 0) then (zs (zs h 154 v2 v4) 155 v2 0) else h) else h) 155 ((if (¬ (w0 = 0)) then ((if (v3 = 0) then ((v2 + 1) : Int32) else v2) : Int32) else v2) - 1)) + 1)) else (if (¬ (w0 = 0)) then (if (v3 = 0) then (zs (zs h 154 v2 v4) 155 v2 0) else h) else h)))
def f_M_windows_l22_k66_ok (v1 : Int32) (v2 : Int32) (v3 : Int32) (v4 : Int32) (w0 : Int32) (h : zm_H) : Prop := ((((¬ (w0 = 0)) → (((v3 = 0) → (vp_in v2 41 ∧ vp_in v2 41)) ∧ (¬ (v3 = 0) → True))) ∧ (¬ (¬ (w0 = 0)) → True)) ∧ (((¬ (w0 = 0)) → (vp_in ((if (¬ (w0 = 0)) then ((if (v3 = 0) then ((v2 + 1) : Int32) else v2) : Int32) else v2) - 1) 41 ∧ vp_in ((if (¬ (w0 = 0)) then ((if (v3 = 0) then ((v2 + 1) : Int32) else v2) : Int32) else v2) - 1) 41)) ∧ (¬ (¬ (w0 = 0)) → True)))
theorem f_M_windows_l22_k66_w (v1 : Int32) (v2 : Int32) (v3 : Int32) (v4 : Int32) (w0 : Int32) (h : zm_H) : zWr [154, 155] [] h ((f_M_windows_l22_k66 v1 v2 v3 v4 w0 h).2.2.2.2) := by
  unfold f_M_windows_l22_k66
  exact (zWr_ite (fun z : zm_H => z) (zWr_si (by decide) (zWr_ite (fun z : zm_H => z) (zWr_ite (fun z : zm_H => z) (zWr_si (by decide) (zWr_si (by decide) (zWr.refl _ _))) (zWr.refl _ _)) (zWr.refl _ _))) (zWr_ite (fun z : zm_H => z) (zWr_ite (fun z : zm_H => z) (zWr_si (by decide) (zWr_si (by decide) (zWr.refl _ _))) (zWr.refl _ _)) (zWr.refl _ _)))
def f_M_windows_l22_k59 (v1 : Int32) (v2 : Int32) (v3 : Int32) (v4 : Int32) (h : zm_H) : Nat × Int32 × Int32 × Int32 × zm_H := (f_M_windows_l22_k66 v1 v2 v3 v4 (f_M_tells 2 v4 h).1 (f_M_tells 2 v4 h).2)
def f_M_windows_l22_k59_ok (v1 : Int32) (v2 : Int32) (v3 : Int32) (v4 : Int32) (h : zm_H) : Prop := (f_M_tells_ok 2 v4 h ∧ (f_M_windows_l22_k66_ok v1 v2 v3 v4 (f_M_tells 2 v4 h).1 (f_M_tells 2 v4 h).2))
theorem f_M_windows_l22_k59_w (v1 : Int32) (v2 : Int32) (v3 : Int32) (v4 : Int32) (h : zm_H) : zWr [150, 154, 155] [] h ((f_M_windows_l22_k59 v1 v2 v3 v4 h).2.2.2.2) := by
  unfold f_M_windows_l22_k59
  exact (zWr_tr (f_M_windows_l22_k66_w v1 v2 v3 v4 (f_M_tells 2 v4 h).1 (f_M_tells 2 v4 h).2) (by decide) (by decide) (zWr_tr (f_M_tells_w 2 v4 h) (by decide) (by decide) (zWr.refl _ _)))
def f_M_windows_l22_k51 (v1 : Int32) (v2 : Int32) (v3 : Int32) (v4 : Int32) (h : zm_H) : Nat × Int32 × Int32 × Int32 × zm_H := (f_M_windows_l22_k59 v1 v2 v3 v4 (f_M_asks 0 (-1) v4 h))
def f_M_windows_l22_k51_ok (v1 : Int32) (v2 : Int32) (v3 : Int32) (v4 : Int32) (h : zm_H) : Prop := (f_M_asks_ok 0 (-1) v4 h ∧ (f_M_windows_l22_k59_ok v1 v2 v3 v4 (f_M_asks 0 (-1) v4 h)))
theorem f_M_windows_l22_k51_w (v1 : Int32) (v2 : Int32) (v3 : Int32) (v4 : Int32) (h : zm_H) : zWr [149, 150, 154, 155] [] h ((f_M_windows_l22_k51 v1 v2 v3 v4 h).2.2.2.2) := by
  unfold f_M_windows_l22_k51
  exact (zWr_tr (f_M_windows_l22_k59_w v1 v2 v3 v4 (f_M_asks 0 (-1) v4 h)) (by decide) (by decide) (zWr_tr (f_M_asks_w 0 (-1) v4 h) (by decide) (by decide) (zWr.refl _ _)))
def f_M_windows_l22_b (v1 : Int32) (v2 : Int32) (v3 : Int32) (v4 : Int32) (h : zm_H) : Nat × Int32 × Int32 × Int32 × zm_H := (if (((zf h 92 23) + v1) ≤ v4) then (1, v2, v3, v4, h) else (if (480 ≤ v4) then (1, v2, v3, v4, h) else (f_M_windows_l22_k51 v1 v2 v3 v4 (f_M_looks v4 (if (480 ≤ (zf h 92 23)) then (479 : Int32) else (zf h 92 23)) h))))
def f_M_windows_l22_b_ok (v1 : Int32) (v2 : Int32) (v3 : Int32) (v4 : Int32) (h : zm_H) : Prop := (((((zf h 92 23) + v1) ≤ v4) → True) ∧ (¬ (((zf h 92 23) + v1) ≤ v4) → (((480 ≤ v4) → True) ∧ (¬ (480 ≤ v4) → (f_M_looks_ok v4 (if (480 ≤ (zf h 92 23)) then (479 : Int32) else (zf h 92 23)) h ∧ (f_M_windows_l22_k51_ok v1 v2 v3 v4 (f_M_looks v4 (if (480 ≤ (zf h 92 23)) then (479 : Int32) else (zf h 92 23)) h)))))))
theorem f_M_windows_l22_b_w (v1 : Int32) (v2 : Int32) (v3 : Int32) (v4 : Int32) (h : zm_H) : zWr [149, 150, 154, 155] [(92, 79), (92, 80), (92, 81)] h ((f_M_windows_l22_b v1 v2 v3 v4 h).2.2.2.2) := by
  unfold f_M_windows_l22_b
  exact (zWr_ite (fun z : Nat × Int32 × Int32 × Int32 × zm_H => z.2.2.2.2) (zWr.refl _ _) (zWr_ite (fun z : Nat × Int32 × Int32 × Int32 × zm_H => z.2.2.2.2) (zWr.refl _ _) (zWr_tr (f_M_windows_l22_k51_w v1 v2 v3 v4 (f_M_looks v4 (if (480 ≤ (zf h 92 23)) then (479 : Int32) else (zf h 92 23)) h)) (by decide) (by decide) (zWr_tr (f_M_looks_w v4 (if (480 ≤ (zf h 92 23)) then (479 : Int32) else (zf h 92 23)) h) (by decide) (by decide) (zWr.refl _ _)))))
def f_M_windows_l22 (v1 : Int32) (n : Nat) (t : Int32 × Int32 × Int32 × zm_H) : Nat × Int32 × Int32 × Int32 × zm_H := zwh (fun t => f_M_windows_l22_b v1 t.1 t.2.1 t.2.2.1 t.2.2.2) n t
def f_M_windows_l22_ok (v1 : Int32) (n : Nat) (t : Int32 × Int32 × Int32 × zm_H) : Prop := zwo (fun t => f_M_windows_l22_b v1 t.1 t.2.1 t.2.2.1 t.2.2.2) (fun t => f_M_windows_l22_b_ok v1 t.1 t.2.1 t.2.2.1 t.2.2.2) n t
theorem f_M_windows_l22_w (v1 : Int32) (n : Nat) (t : Int32 × Int32 × Int32 × zm_H) : zWr [149, 150, 154, 155] [(92, 79), (92, 80), (92, 81)] (t.2.2.2) ((f_M_windows_l22 v1 n t).2.2.2.2) := by
  unfold f_M_windows_l22
  exact zWr_zwh (fun t : Int32 × Int32 × Int32 × zm_H => t.2.2.2) (fun t => f_M_windows_l22_b_w v1 t.1 t.2.1 t.2.2.1 t.2.2.2)
def f_M_windows_k129 (v2 : Int32) (h : zm_H) : Int32 × zm_H := (v2, h)
def f_M_windows_k129_ok (v2 : Int32) (h : zm_H) : Prop := True
theorem f_M_windows_k129_w (v2 : Int32) (h : zm_H) : zWr [] [] h ((f_M_windows_k129 v2 h).2) := by
  unfold f_M_windows_k129
  exact (zWr.refl _ _)
def f_M_windows_a22 (r : Nat × Int32 × Int32 × Int32 × zm_H) : Int32 × zm_H := (f_M_windows_k129 (r.2.1) (r.2.2.2.2))
def f_M_windows_a22_ok (r : Nat × Int32 × Int32 × Int32 × zm_H) : Prop := True
theorem f_M_windows_a22_w (r : Nat × Int32 × Int32 × Int32 × zm_H) : zWr [] [] (r.2.2.2.2) ((f_M_windows_a22 r).2) := by
  unfold f_M_windows_a22
  exact (zWr_tr (f_M_windows_k129_w (r.2.1) (r.2.2.2.2)) (by decide) (by decide) (zWr.refl _ _))
def f_M_windows (p1 : Int32) (h : zm_H) : Int32 × zm_H := (if (¬ (p1 < 1) ∧ (¬ (40 < p1))) then (f_M_windows_a22 (f_M_windows_l22 p1 zF (0, 0, (zf h 92 23), h))) else ((-1), h))
def f_M_windows_ok (p1 : Int32) (h : zm_H) : Prop := (((¬ (p1 < 1) ∧ (¬ (40 < p1))) → (f_M_windows_l22_ok p1 zF (0, 0, (zf h 92 23), h) ∧ f_M_windows_a22_ok (f_M_windows_l22 p1 zF (0, 0, (zf h 92 23), h)))) ∧ (¬ (¬ (p1 < 1) ∧ (¬ (40 < p1))) → True))
theorem f_M_windows_w (p1 : Int32) (h : zm_H) : zWr [149, 150, 154, 155] [(92, 79), (92, 80), (92, 81)] h ((f_M_windows p1 h).2) := by
  unfold f_M_windows
  exact (zWr_ite (fun z : Int32 × zm_H => z.2) (zWr_tr (f_M_windows_a22_w (f_M_windows_l22 p1 zF (0, 0, (zf h 92 23), h))) (by decide) (by decide) (zWr_tr (f_M_windows_l22_w p1 zF (0, 0, (zf h 92 23), h)) (by decide) (by decide) (zWr.refl _ _))) (zWr.refl _ _))
def f_M_window_k7 (v2 : Int32) (v3 : Int32) (w0 : Int32) (w1 : Int32) (w2 : Int32) (h : zm_H) : Int32 × zm_H := ((if (¬ (w0 < w1) ∧ (¬ ((w2 - 1) < w0))) then ((if (¬ (v3 < 0) ∧ (¬ (1 < v3))) then ((if (v3 = 0) then ((zr h 154 v2) : Int32) else (zr h 155 v2)) : Int32) else (-1)) : Int32) else (-1)), h)
def f_M_window_k7_ok (v2 : Int32) (v3 : Int32) (w0 : Int32) (w1 : Int32) (w2 : Int32) (h : zm_H) : Prop := (((¬ (w0 < w1) ∧ (¬ ((w2 - 1) < w0))) → (((¬ (v3 < 0) ∧ (¬ (1 < v3))) → (((v3 = 0) → vp_in v2 41) ∧ (¬ (v3 = 0) → vp_in v2 41))) ∧ (¬ (¬ (v3 < 0) ∧ (¬ (1 < v3))) → True))) ∧ (¬ (¬ (w0 < w1) ∧ (¬ ((w2 - 1) < w0))) → True))
theorem f_M_window_k7_w (v2 : Int32) (v3 : Int32) (w0 : Int32) (w1 : Int32) (w2 : Int32) (h : zm_H) : zWr [] [] h ((f_M_window_k7 v2 v3 w0 w1 w2 h).2) := by
  unfold f_M_window_k7
  exact (zWr.refl _ _)
def f_M_window (p1 : Int32) (p2 : Int32) (p3 : Int32) (h : zm_H) : Int32 × zm_H := (f_M_window_k7 p2 p3 p2 0 (f_M_windows p1 h).1 (f_M_windows p1 h).2)
def f_M_window_ok (p1 : Int32) (p2 : Int32) (p3 : Int32) (h : zm_H) : Prop := (f_M_windows_ok p1 h ∧ (f_M_window_k7_ok p2 p3 p2 0 (f_M_windows p1 h).1 (f_M_windows p1 h).2))
theorem f_M_window_w (p1 : Int32) (p2 : Int32) (p3 : Int32) (h : zm_H) : zWr [149, 150, 154, 155] [(92, 79), (92, 80), (92, 81)] h ((f_M_window p1 p2 p3 h).2) := by
  unfold f_M_window
  exact (zWr_tr (f_M_window_k7_w p2 p3 p2 0 (f_M_windows p1 h).1 (f_M_windows p1 h).2) (by decide) (by decide) (zWr_tr (f_M_windows_w p1 h) (by decide) (by decide) (zWr.refl _ _)))
def f_Planner_measureSets_l2_l12_b (v1 : Int32) (v2 : Int32) (h : zm_H) : Nat × Int32 × zm_H := (if ((1 <<< (v1 &&& 31)) ≤ v2) then (1, v2, h) else (0, (v2 + 1), (zs (zs h 78 (v2 ||| (1 <<< (v1 &&& 31))) ((zr h 78 v2) + (zr h 73 v1))) 79 (v2 ||| (1 <<< (v1 &&& 31))) ((zr h 79 v2) + (zr h 74 v1)))))
def f_Planner_measureSets_l2_l12_b_ok (v1 : Int32) (v2 : Int32) (h : zm_H) : Prop := ((((1 <<< (v1 &&& 31)) ≤ v2) → True) ∧ (¬ ((1 <<< (v1 &&& 31)) ≤ v2) → (vp_in v2 64 ∧ (vp_in v1 6 ∧ (vp_in (v2 ||| (1 <<< (v1 &&& 31))) 64 ∧ (vp_in v2 64 ∧ (vp_in v1 6 ∧ vp_in (v2 ||| (1 <<< (v1 &&& 31))) 64)))))))
theorem f_Planner_measureSets_l2_l12_b_w (v1 : Int32) (v2 : Int32) (h : zm_H) : zWr [78, 79] [] h ((f_Planner_measureSets_l2_l12_b v1 v2 h).2.2) := by
  unfold f_Planner_measureSets_l2_l12_b
  exact (zWr_ite (fun z : Nat × Int32 × zm_H => z.2.2) (zWr.refl _ _) (zWr_si (by decide) (zWr_si (by decide) (zWr.refl _ _))))
def f_Planner_measureSets_l2_l12 (v1 : Int32) (n : Nat) (t : Int32 × zm_H) : Nat × Int32 × zm_H := zwh (fun t => f_Planner_measureSets_l2_l12_b v1 t.1 t.2) n t
def f_Planner_measureSets_l2_l12_ok (v1 : Int32) (n : Nat) (t : Int32 × zm_H) : Prop := zwo (fun t => f_Planner_measureSets_l2_l12_b v1 t.1 t.2) (fun t => f_Planner_measureSets_l2_l12_b_ok v1 t.1 t.2) n t
theorem f_Planner_measureSets_l2_l12_w (v1 : Int32) (n : Nat) (t : Int32 × zm_H) : zWr [78, 79] [] (t.2) ((f_Planner_measureSets_l2_l12 v1 n t).2.2) := by
  unfold f_Planner_measureSets_l2_l12
  exact zWr_zwh (fun t : Int32 × zm_H => t.2) (fun t => f_Planner_measureSets_l2_l12_b_w v1 t.1 t.2)
def f_Planner_measureSets_l2_k71 (v1 : Int32) (h : zm_H) : Nat × Int32 × zm_H := (0, (v1 + 1), h)
def f_Planner_measureSets_l2_k71_ok (v1 : Int32) (h : zm_H) : Prop := True
theorem f_Planner_measureSets_l2_k71_w (v1 : Int32) (h : zm_H) : zWr [] [] h ((f_Planner_measureSets_l2_k71 v1 h).2.2) := by
  unfold f_Planner_measureSets_l2_k71
  exact (zWr.refl _ _)
def f_Planner_measureSets_l2_a12 (v1 : Int32) (r : Nat × Int32 × zm_H) : Nat × Int32 × zm_H := (f_Planner_measureSets_l2_k71 v1 (r.2.2))
def f_Planner_measureSets_l2_a12_ok (v1 : Int32) (r : Nat × Int32 × zm_H) : Prop := True
theorem f_Planner_measureSets_l2_a12_w (v1 : Int32) (r : Nat × Int32 × zm_H) : zWr [] [] (r.2.2) ((f_Planner_measureSets_l2_a12 v1 r).2.2) := by
  unfold f_Planner_measureSets_l2_a12
  exact (zWr_tr (f_Planner_measureSets_l2_k71_w v1 (r.2.2)) (by decide) (by decide) (zWr.refl _ _))
def f_Planner_measureSets_l2_b (v1 : Int32) (h : zm_H) : Nat × Int32 × zm_H := (if ((zf h 72 2) ≤ v1) then (1, v1, h) else (f_Planner_measureSets_l2_a12 v1 (f_Planner_measureSets_l2_l12 v1 zF (0, h))))
def f_Planner_measureSets_l2_b_ok (v1 : Int32) (h : zm_H) : Prop := ((((zf h 72 2) ≤ v1) → True) ∧ (¬ ((zf h 72 2) ≤ v1) → (f_Planner_measureSets_l2_l12_ok v1 zF (0, h) ∧ f_Planner_measureSets_l2_a12_ok v1 (f_Planner_measureSets_l2_l12 v1 zF (0, h)))))
theorem f_Planner_measureSets_l2_b_w (v1 : Int32) (h : zm_H) : zWr [78, 79] [] h ((f_Planner_measureSets_l2_b v1 h).2.2) := by
  unfold f_Planner_measureSets_l2_b
  exact (zWr_ite (fun z : Nat × Int32 × zm_H => z.2.2) (zWr.refl _ _) (zWr_tr (f_Planner_measureSets_l2_a12_w v1 (f_Planner_measureSets_l2_l12 v1 zF (0, h))) (by decide) (by decide) (zWr_tr (f_Planner_measureSets_l2_l12_w v1 zF (0, h)) (by decide) (by decide) (zWr.refl _ _))))
def f_Planner_measureSets_l2 (n : Nat) (t : Int32 × zm_H) : Nat × Int32 × zm_H := zwh (fun t => f_Planner_measureSets_l2_b t.1 t.2) n t
def f_Planner_measureSets_l2_ok (n : Nat) (t : Int32 × zm_H) : Prop := zwo (fun t => f_Planner_measureSets_l2_b t.1 t.2) (fun t => f_Planner_measureSets_l2_b_ok t.1 t.2) n t
theorem f_Planner_measureSets_l2_w (n : Nat) (t : Int32 × zm_H) : zWr [78, 79] [] (t.2) ((f_Planner_measureSets_l2 n t).2.2) := by
  unfold f_Planner_measureSets_l2
  exact zWr_zwh (fun t : Int32 × zm_H => t.2) (fun t => f_Planner_measureSets_l2_b_w t.1 t.2)
def f_Planner_measureSets_k77 (h : zm_H) : zm_H := h
def f_Planner_measureSets_k77_ok (h : zm_H) : Prop := True
theorem f_Planner_measureSets_k77_w (h : zm_H) : zWr [] [] h ((f_Planner_measureSets_k77 h)) := by
  unfold f_Planner_measureSets_k77
  exact (zWr.refl _ _)
def f_Planner_measureSets_a2 (r : Nat × Int32 × zm_H) : zm_H := (f_Planner_measureSets_k77 (r.2.2))
def f_Planner_measureSets_a2_ok (r : Nat × Int32 × zm_H) : Prop := True
theorem f_Planner_measureSets_a2_w (r : Nat × Int32 × zm_H) : zWr [] [] (r.2.2) ((f_Planner_measureSets_a2 r)) := by
  unfold f_Planner_measureSets_a2
  exact (zWr_tr (f_Planner_measureSets_k77_w (r.2.2)) (by decide) (by decide) (zWr.refl _ _))
def f_Planner_measureSets (h : zm_H) : zm_H := (f_Planner_measureSets_a2 (f_Planner_measureSets_l2 zF (0, h)))
def f_Planner_measureSets_ok (h : zm_H) : Prop := (f_Planner_measureSets_l2_ok zF (0, h) ∧ f_Planner_measureSets_a2_ok (f_Planner_measureSets_l2 zF (0, h)))
theorem f_Planner_measureSets_w (h : zm_H) : zWr [78, 79] [] h ((f_Planner_measureSets h)) := by
  unfold f_Planner_measureSets
  exact (zWr_tr (f_Planner_measureSets_a2_w (f_Planner_measureSets_l2 zF (0, h))) (by decide) (by decide) (zWr_tr (f_Planner_measureSets_l2_w zF (0, h)) (by decide) (by decide) (zWr.refl _ _)))
def f_Arrays_fill_80_l5_b (v1 : Int32) (v2 : Int32) (v3 : Int32) (h : zm_H) : Nat × Int32 × zm_H := (if (v3 ≤ v2) then (1, v2, h) else (0, (v2 + 1), (zs h 80 v2 v1)))
def f_Arrays_fill_80_l5_b_ok (v1 : Int32) (v2 : Int32) (v3 : Int32) (h : zm_H) : Prop := (((v3 ≤ v2) → True) ∧ (¬ (v3 ≤ v2) → vp_in v2 64))
theorem f_Arrays_fill_80_l5_b_w (v1 : Int32) (v2 : Int32) (v3 : Int32) (h : zm_H) : zWr [80] [] h ((f_Arrays_fill_80_l5_b v1 v2 v3 h).2.2) := by
  unfold f_Arrays_fill_80_l5_b
  exact (zWr_ite (fun z : Nat × Int32 × zm_H => z.2.2) (zWr.refl _ _) (zWr_si (by decide) (zWr.refl _ _)))
def f_Arrays_fill_80_l5 (v1 : Int32) (v3 : Int32) (n : Nat) (t : Int32 × zm_H) : Nat × Int32 × zm_H := zwh (fun t => f_Arrays_fill_80_l5_b v1 t.1 v3 t.2) n t
def f_Arrays_fill_80_l5_ok (v1 : Int32) (v3 : Int32) (n : Nat) (t : Int32 × zm_H) : Prop := zwo (fun t => f_Arrays_fill_80_l5_b v1 t.1 v3 t.2) (fun t => f_Arrays_fill_80_l5_b_ok v1 t.1 v3 t.2) n t
theorem f_Arrays_fill_80_l5_w (v1 : Int32) (v3 : Int32) (n : Nat) (t : Int32 × zm_H) : zWr [80] [] (t.2) ((f_Arrays_fill_80_l5 v1 v3 n t).2.2) := by
  unfold f_Arrays_fill_80_l5
  exact zWr_zwh (fun t : Int32 × zm_H => t.2) (fun t => f_Arrays_fill_80_l5_b_w v1 t.1 v3 t.2)
def f_Arrays_fill_80_k20 (h : zm_H) : zm_H := h
def f_Arrays_fill_80_k20_ok (h : zm_H) : Prop := True
theorem f_Arrays_fill_80_k20_w (h : zm_H) : zWr [] [] h ((f_Arrays_fill_80_k20 h)) := by
  unfold f_Arrays_fill_80_k20
  exact (zWr.refl _ _)
def f_Arrays_fill_80_a5 (r : Nat × Int32 × zm_H) : zm_H := (f_Arrays_fill_80_k20 (r.2.2))
def f_Arrays_fill_80_a5_ok (r : Nat × Int32 × zm_H) : Prop := True
theorem f_Arrays_fill_80_a5_w (r : Nat × Int32 × zm_H) : zWr [] [] (r.2.2) ((f_Arrays_fill_80_a5 r)) := by
  unfold f_Arrays_fill_80_a5
  exact (zWr_tr (f_Arrays_fill_80_k20_w (r.2.2)) (by decide) (by decide) (zWr.refl _ _))
def f_Arrays_fill_80 (p1 : Int32) (h : zm_H) : zm_H := (f_Arrays_fill_80_a5 (f_Arrays_fill_80_l5 p1 (Int32.ofNat 64) zF (0, h)))
def f_Arrays_fill_80_ok (p1 : Int32) (h : zm_H) : Prop := (f_Arrays_fill_80_l5_ok p1 (Int32.ofNat 64) zF (0, h) ∧ f_Arrays_fill_80_a5_ok (f_Arrays_fill_80_l5 p1 (Int32.ofNat 64) zF (0, h)))
theorem f_Arrays_fill_80_w (p1 : Int32) (h : zm_H) : zWr [80] [] h ((f_Arrays_fill_80 p1 h)) := by
  unfold f_Arrays_fill_80
  exact (zWr_tr (f_Arrays_fill_80_a5_w (f_Arrays_fill_80_l5 p1 (Int32.ofNat 64) zF (0, h))) (by decide) (by decide) (zWr_tr (f_Arrays_fill_80_l5_w p1 (Int32.ofNat 64) zF (0, h)) (by decide) (by decide) (zWr.refl _ _)))
def f_Planner_goesInWith_l2_k30 (v1 : Int32) (v2 : Int32) (v3 : Int32) (h : zm_H) : Nat × Int32 := (0, ((v3 - 1) &&& v1))
def f_Planner_goesInWith_l2_k30_ok (v1 : Int32) (v2 : Int32) (v3 : Int32) (h : zm_H) : Prop := True
def f_Planner_goesInWith_l2_b (v1 : Int32) (v2 : Int32) (v3 : Int32) (h : zm_H) : Nat × Int32 := (if (v3 ≤ 0) then (2, v3) else (if (v2 < (zr h 78 v3)) then (f_Planner_goesInWith_l2_k30 v1 v2 v3 h) else (if ((zr h 80 (v1 ^^^ v3)) = 1) then (1, v3) else (f_Planner_goesInWith_l2_k30 v1 v2 v3 h))))
def f_Planner_goesInWith_l2_b_ok (v1 : Int32) (v2 : Int32) (v3 : Int32) (h : zm_H) : Prop := (((v3 ≤ 0) → True) ∧ (¬ (v3 ≤ 0) → (vp_in v3 64 ∧ (((v2 < (zr h 78 v3)) → True) ∧ (¬ (v2 < (zr h 78 v3)) → vp_in (v1 ^^^ v3) 64)))))
def f_Planner_goesInWith_l2 (v1 : Int32) (v2 : Int32) (h : zm_H) (n : Nat) (t : Int32) : Nat × Int32 := zwh (fun t => f_Planner_goesInWith_l2_b v1 v2 t h) n t
def f_Planner_goesInWith_l2_ok (v1 : Int32) (v2 : Int32) (h : zm_H) (n : Nat) (t : Int32) : Prop := zwo (fun t => f_Planner_goesInWith_l2_b v1 v2 t h) (fun t => f_Planner_goesInWith_l2_b_ok v1 v2 t h) n t
def f_Planner_goesInWith_k28 (h : zm_H) : Int32 := 1
def f_Planner_goesInWith_k28_ok (h : zm_H) : Prop := True
def f_Planner_goesInWith_k39 (h : zm_H) : Int32 := 0
def f_Planner_goesInWith_k39_ok (h : zm_H) : Prop := True
def f_Planner_goesInWith_a2 (r : Nat × Int32) (h : zm_H) : Int32 := (if r.1 = 1 then (f_Planner_goesInWith_k28 h) else (f_Planner_goesInWith_k39 h))
def f_Planner_goesInWith_a2_ok (r : Nat × Int32) (h : zm_H) : Prop := ((r.1 = 1 → True) ∧ (¬ r.1 = 1 → True))
def f_Planner_goesInWith (p1 : Int32) (p2 : Int32) (h : zm_H) : Int32 := (f_Planner_goesInWith_a2 (f_Planner_goesInWith_l2 p1 p2 h zF p1) h)
def f_Planner_goesInWith_ok (p1 : Int32) (p2 : Int32) (h : zm_H) : Prop := (f_Planner_goesInWith_l2_ok p1 p2 h zF p1 ∧ f_Planner_goesInWith_a2_ok (f_Planner_goesInWith_l2 p1 p2 h zF p1) h)
def f_Planner_packFrom_l17_l36_b (v1 : Int32) (v2 : Int32) (v3 : Int32) (h : zm_H) : Nat × Int32 × zm_H := (if (v3 ≤ 0) then (1, v3, h) else (0, (v3 - (1 <<< (v1 &&& 31))), (if ((zr h 80 v3) = 0) then (if ((f_Planner_goesInWith v3 (zr h 77 v2) h) = 0) then h else (zs h 80 v3 1)) else h)))
def f_Planner_packFrom_l17_l36_b_ok (v1 : Int32) (v2 : Int32) (v3 : Int32) (h : zm_H) : Prop := (((v3 ≤ 0) → True) ∧ (¬ (v3 ≤ 0) → (vp_in v3 64 ∧ ((((zr h 80 v3) = 0) → (vp_in v2 40 ∧ (f_Planner_goesInWith_ok v3 (zr h 77 v2) h ∧ ((((f_Planner_goesInWith v3 (zr h 77 v2) h) = 0) → True) ∧ (¬ ((f_Planner_goesInWith v3 (zr h 77 v2) h) = 0) → vp_in v3 64))))) ∧ (¬ ((zr h 80 v3) = 0) → True)))))
theorem f_Planner_packFrom_l17_l36_b_w (v1 : Int32) (v2 : Int32) (v3 : Int32) (h : zm_H) : zWr [80] [] h ((f_Planner_packFrom_l17_l36_b v1 v2 v3 h).2.2) := by
  unfold f_Planner_packFrom_l17_l36_b
  exact (zWr_ite (fun z : Nat × Int32 × zm_H => z.2.2) (zWr.refl _ _) (zWr_ite (fun z : zm_H => z) (zWr_ite (fun z : zm_H => z) (zWr.refl _ _) (zWr_si (by decide) (zWr.refl _ _))) (zWr.refl _ _)))
def f_Planner_packFrom_l17_l36 (v1 : Int32) (v2 : Int32) (n : Nat) (t : Int32 × zm_H) : Nat × Int32 × zm_H := zwh (fun t => f_Planner_packFrom_l17_l36_b v1 v2 t.1 t.2) n t
def f_Planner_packFrom_l17_l36_ok (v1 : Int32) (v2 : Int32) (n : Nat) (t : Int32 × zm_H) : Prop := zwo (fun t => f_Planner_packFrom_l17_l36_b v1 v2 t.1 t.2) (fun t => f_Planner_packFrom_l17_l36_b_ok v1 v2 t.1 t.2) n t
theorem f_Planner_packFrom_l17_l36_w (v1 : Int32) (v2 : Int32) (n : Nat) (t : Int32 × zm_H) : zWr [80] [] (t.2) ((f_Planner_packFrom_l17_l36 v1 v2 n t).2.2) := by
  unfold f_Planner_packFrom_l17_l36
  exact zWr_zwh (fun t : Int32 × zm_H => t.2) (fun t => f_Planner_packFrom_l17_l36_b_w v1 v2 t.1 t.2)
def f_Planner_packFrom_l17_k79 (v1 : Int32) (v2 : Int32) (h : zm_H) : Nat × Int32 × zm_H := (0, (v2 + 1), h)
def f_Planner_packFrom_l17_k79_ok (v1 : Int32) (v2 : Int32) (h : zm_H) : Prop := True
theorem f_Planner_packFrom_l17_k79_w (v1 : Int32) (v2 : Int32) (h : zm_H) : zWr [] [] h ((f_Planner_packFrom_l17_k79 v1 v2 h).2.2) := by
  unfold f_Planner_packFrom_l17_k79
  exact (zWr.refl _ _)
def f_Planner_packFrom_l17_a36 (v1 : Int32) (v2 : Int32) (r : Nat × Int32 × zm_H) : Nat × Int32 × zm_H := (f_Planner_packFrom_l17_k79 v1 v2 (r.2.2))
def f_Planner_packFrom_l17_a36_ok (v1 : Int32) (v2 : Int32) (r : Nat × Int32 × zm_H) : Prop := True
theorem f_Planner_packFrom_l17_a36_w (v1 : Int32) (v2 : Int32) (r : Nat × Int32 × zm_H) : zWr [] [] (r.2.2) ((f_Planner_packFrom_l17_a36 v1 v2 r).2.2) := by
  unfold f_Planner_packFrom_l17_a36
  exact (zWr_tr (f_Planner_packFrom_l17_k79_w v1 v2 (r.2.2)) (by decide) (by decide) (zWr.refl _ _))
def f_Planner_packFrom_l17_b (v1 : Int32) (v2 : Int32) (h : zm_H) : Nat × Int32 × zm_H := (if ((zf h 72 5) ≤ v2) then (1, v2, h) else (f_Planner_packFrom_l17_a36 v1 v2 (f_Planner_packFrom_l17_l36 v1 v2 zF (((1 <<< ((zf h 72 2) &&& 31)) - (1 <<< (v1 &&& 31))), h))))
def f_Planner_packFrom_l17_b_ok (v1 : Int32) (v2 : Int32) (h : zm_H) : Prop := ((((zf h 72 5) ≤ v2) → True) ∧ (¬ ((zf h 72 5) ≤ v2) → (f_Planner_packFrom_l17_l36_ok v1 v2 zF (((1 <<< ((zf h 72 2) &&& 31)) - (1 <<< (v1 &&& 31))), h) ∧ f_Planner_packFrom_l17_a36_ok v1 v2 (f_Planner_packFrom_l17_l36 v1 v2 zF (((1 <<< ((zf h 72 2) &&& 31)) - (1 <<< (v1 &&& 31))), h)))))
theorem f_Planner_packFrom_l17_b_w (v1 : Int32) (v2 : Int32) (h : zm_H) : zWr [80] [] h ((f_Planner_packFrom_l17_b v1 v2 h).2.2) := by
  unfold f_Planner_packFrom_l17_b
  exact (zWr_ite (fun z : Nat × Int32 × zm_H => z.2.2) (zWr.refl _ _) (zWr_tr (f_Planner_packFrom_l17_a36_w v1 v2 (f_Planner_packFrom_l17_l36 v1 v2 zF (((1 <<< ((zf h 72 2) &&& 31)) - (1 <<< (v1 &&& 31))), h))) (by decide) (by decide) (zWr_tr (f_Planner_packFrom_l17_l36_w v1 v2 zF (((1 <<< ((zf h 72 2) &&& 31)) - (1 <<< (v1 &&& 31))), h)) (by decide) (by decide) (zWr.refl _ _))))
def f_Planner_packFrom_l17 (v1 : Int32) (n : Nat) (t : Int32 × zm_H) : Nat × Int32 × zm_H := zwh (fun t => f_Planner_packFrom_l17_b v1 t.1 t.2) n t
def f_Planner_packFrom_l17_ok (v1 : Int32) (n : Nat) (t : Int32 × zm_H) : Prop := zwo (fun t => f_Planner_packFrom_l17_b v1 t.1 t.2) (fun t => f_Planner_packFrom_l17_b_ok v1 t.1 t.2) n t
theorem f_Planner_packFrom_l17_w (v1 : Int32) (n : Nat) (t : Int32 × zm_H) : zWr [80] [] (t.2) ((f_Planner_packFrom_l17 v1 n t).2.2) := by
  unfold f_Planner_packFrom_l17
  exact zWr_zwh (fun t : Int32 × zm_H => t.2) (fun t => f_Planner_packFrom_l17_b_w v1 t.1 t.2)
def f_Planner_packFrom_k85 (h : zm_H) : zm_H := h
def f_Planner_packFrom_k85_ok (h : zm_H) : Prop := True
theorem f_Planner_packFrom_k85_w (h : zm_H) : zWr [] [] h ((f_Planner_packFrom_k85 h)) := by
  unfold f_Planner_packFrom_k85
  exact (zWr.refl _ _)
def f_Planner_packFrom_a17 (r : Nat × Int32 × zm_H) : zm_H := (f_Planner_packFrom_k85 (r.2.2))
def f_Planner_packFrom_a17_ok (r : Nat × Int32 × zm_H) : Prop := True
theorem f_Planner_packFrom_a17_w (r : Nat × Int32 × zm_H) : zWr [] [] (r.2.2) ((f_Planner_packFrom_a17 r)) := by
  unfold f_Planner_packFrom_a17
  exact (zWr_tr (f_Planner_packFrom_k85_w (r.2.2)) (by decide) (by decide) (zWr.refl _ _))
def f_Planner_packFrom_k8 (v1 : Int32) (h : zm_H) : zm_H := (f_Planner_packFrom_a17 (f_Planner_packFrom_l17 v1 zF (0, (zs h 80 0 1))))
def f_Planner_packFrom_k8_ok (v1 : Int32) (h : zm_H) : Prop := (f_Planner_packFrom_l17_ok v1 zF (0, (zs h 80 0 1)) ∧ f_Planner_packFrom_a17_ok (f_Planner_packFrom_l17 v1 zF (0, (zs h 80 0 1))))
theorem f_Planner_packFrom_k8_w (v1 : Int32) (h : zm_H) : zWr [80] [] h ((f_Planner_packFrom_k8 v1 h)) := by
  unfold f_Planner_packFrom_k8
  exact (zWr_tr (f_Planner_packFrom_a17_w (f_Planner_packFrom_l17 v1 zF (0, (zs h 80 0 1)))) (by decide) (by decide) (zWr_tr (f_Planner_packFrom_l17_w v1 zF (0, (zs h 80 0 1))) (by decide) (by decide) (zWr_si (by decide) (zWr.refl _ _))))
def f_Planner_packFrom (p1 : Int32) (h : zm_H) : zm_H := (f_Planner_packFrom_k8 p1 (f_Arrays_fill_80 0 h))
def f_Planner_packFrom_ok (p1 : Int32) (h : zm_H) : Prop := (f_Arrays_fill_80_ok 0 h ∧ (f_Planner_packFrom_k8_ok p1 (f_Arrays_fill_80 0 h)))
theorem f_Planner_packFrom_w (p1 : Int32) (h : zm_H) : zWr [80] [] h ((f_Planner_packFrom p1 h)) := by
  unfold f_Planner_packFrom
  exact (zWr_tr (f_Planner_packFrom_k8_w p1 (f_Arrays_fill_80 0 h)) (by decide) (by decide) (zWr_tr (f_Arrays_fill_80_w 0 h) (by decide) (by decide) (zWr.refl _ _)))
def f_Planner_findBest_l17_b (v1 : Int32) (h : zm_H) : Nat × Int32 × zm_H := (if ((1 <<< ((zf h 72 2) &&& 31)) ≤ v1) then (1, v1, h) else (0, (v1 + 1), (if ((zr h 80 v1) = 1) then (if (((zf h 72 12) < (zr h 79 v1)) ∨ (((zr h 79 v1) = (zf h 72 12)) ∧ (¬ ((zf h 72 13) ≤ (zr h 78 v1))))) then (zp (zp h 72 12 (zr h 79 v1)) 72 13 (zr h 78 v1)) else h) else h)))
def f_Planner_findBest_l17_b_ok (v1 : Int32) (h : zm_H) : Prop := ((((1 <<< ((zf h 72 2) &&& 31)) ≤ v1) → True) ∧ (¬ ((1 <<< ((zf h 72 2) &&& 31)) ≤ v1) → (vp_in v1 64 ∧ (((((zf h 72 12) < (zr h 79 v1)) → True) ∧ (¬ ((zf h 72 12) < (zr h 79 v1)) → (vp_in v1 64 ∧ ((((zr h 79 v1) = (zf h 72 12)) → vp_in v1 64) ∧ (¬ ((zr h 79 v1) = (zf h 72 12)) → True))))) ∧ (vp_in v1 64 ∧ ((((zr h 80 v1) = 1) → (((((zf h 72 12) < (zr h 79 v1)) ∨ (((zr h 79 v1) = (zf h 72 12)) ∧ (¬ ((zf h 72 13) ≤ (zr h 78 v1))))) → (vp_in v1 64 ∧ vp_in v1 64)) ∧ (¬ (((zf h 72 12) < (zr h 79 v1)) ∨ (((zr h 79 v1) = (zf h 72 12)) ∧ (¬ ((zf h 72 13) ≤ (zr h 78 v1))))) → True))) ∧ (¬ ((zr h 80 v1) = 1) → True)))))))
theorem f_Planner_findBest_l17_b_w (v1 : Int32) (h : zm_H) : zWr [] [(72, 12), (72, 13)] h ((f_Planner_findBest_l17_b v1 h).2.2) := by
  unfold f_Planner_findBest_l17_b
  exact (zWr_ite (fun z : Nat × Int32 × zm_H => z.2.2) (zWr.refl _ _) (zWr_ite (fun z : zm_H => z) (zWr_ite (fun z : zm_H => z) (zWr_p (by decide) (zWr_p (by decide) (zWr.refl _ _))) (zWr.refl _ _)) (zWr.refl _ _)))
def f_Planner_findBest_l17 (n : Nat) (t : Int32 × zm_H) : Nat × Int32 × zm_H := zwh (fun t => f_Planner_findBest_l17_b t.1 t.2) n t
def f_Planner_findBest_l17_ok (n : Nat) (t : Int32 × zm_H) : Prop := zwo (fun t => f_Planner_findBest_l17_b t.1 t.2) (fun t => f_Planner_findBest_l17_b_ok t.1 t.2) n t
theorem f_Planner_findBest_l17_w (n : Nat) (t : Int32 × zm_H) : zWr [] [(72, 12), (72, 13)] (t.2) ((f_Planner_findBest_l17 n t).2.2) := by
  unfold f_Planner_findBest_l17
  exact zWr_zwh (fun t : Int32 × zm_H => t.2) (fun t => f_Planner_findBest_l17_b_w t.1 t.2)
def f_Planner_findBest_k112 (h : zm_H) : zm_H := h
def f_Planner_findBest_k112_ok (h : zm_H) : Prop := True
theorem f_Planner_findBest_k112_w (h : zm_H) : zWr [] [] h ((f_Planner_findBest_k112 h)) := by
  unfold f_Planner_findBest_k112
  exact (zWr.refl _ _)
def f_Planner_findBest_a17 (r : Nat × Int32 × zm_H) : zm_H := (f_Planner_findBest_k112 (r.2.2))
def f_Planner_findBest_a17_ok (r : Nat × Int32 × zm_H) : Prop := True
theorem f_Planner_findBest_a17_w (r : Nat × Int32 × zm_H) : zWr [] [] (r.2.2) ((f_Planner_findBest_a17 r)) := by
  unfold f_Planner_findBest_a17
  exact (zWr_tr (f_Planner_findBest_k112_w (r.2.2)) (by decide) (by decide) (zWr.refl _ _))
def f_Planner_findBest_k5 (h : zm_H) : zm_H := (f_Planner_findBest_a17 (f_Planner_findBest_l17 zF (1, (zp (zp h 72 12 0) 72 13 0))))
def f_Planner_findBest_k5_ok (h : zm_H) : Prop := (f_Planner_findBest_l17_ok zF (1, (zp (zp h 72 12 0) 72 13 0)) ∧ f_Planner_findBest_a17_ok (f_Planner_findBest_l17 zF (1, (zp (zp h 72 12 0) 72 13 0))))
theorem f_Planner_findBest_k5_w (h : zm_H) : zWr [] [(72, 12), (72, 13)] h ((f_Planner_findBest_k5 h)) := by
  unfold f_Planner_findBest_k5
  exact (zWr_tr (f_Planner_findBest_a17_w (f_Planner_findBest_l17 zF (1, (zp (zp h 72 12 0) 72 13 0)))) (by decide) (by decide) (zWr_tr (f_Planner_findBest_l17_w zF (1, (zp (zp h 72 12 0) 72 13 0))) (by decide) (by decide) (zWr_p (by decide) (zWr_p (by decide) (zWr.refl _ _)))))
def f_Planner_findBest (h : zm_H) : zm_H := (f_Planner_findBest_k5 (f_Planner_packFrom 0 h))
def f_Planner_findBest_ok (h : zm_H) : Prop := (f_Planner_packFrom_ok 0 h ∧ (f_Planner_findBest_k5_ok (f_Planner_packFrom 0 h)))
theorem f_Planner_findBest_w (h : zm_H) : zWr [80] [(72, 12), (72, 13)] h ((f_Planner_findBest h)) := by
  unfold f_Planner_findBest
  exact (zWr_tr (f_Planner_findBest_k5_w (f_Planner_packFrom 0 h)) (by decide) (by decide) (zWr_tr (f_Planner_packFrom_w 0 h) (by decide) (by decide) (zWr.refl _ _)))
def f_Planner_windowFor_l3_k79 (v1 : Int32) (v2 : Int32) (v3 : Int32) (v4 : Int32) (h : zm_H) : Nat × Int32 × zm_H := (0, (v4 + 1), h)
def f_Planner_windowFor_l3_k79_ok (v1 : Int32) (v2 : Int32) (v3 : Int32) (v4 : Int32) (h : zm_H) : Prop := True
theorem f_Planner_windowFor_l3_k79_w (v1 : Int32) (v2 : Int32) (v3 : Int32) (v4 : Int32) (h : zm_H) : zWr [] [] h ((f_Planner_windowFor_l3_k79 v1 v2 v3 v4 h).2.2) := by
  unfold f_Planner_windowFor_l3_k79
  exact (zWr.refl _ _)
def f_Planner_comesTo_l18_k64 (v1 : Int32) (v2 : Int32) (v3 : Int32) (v4 : Int32) (h : zm_H) : Nat × Int32 := (0, (v4 + (1 <<< (v1 &&& 31))))
def f_Planner_comesTo_l18_k64_ok (v1 : Int32) (v2 : Int32) (v3 : Int32) (v4 : Int32) (h : zm_H) : Prop := True
def f_Planner_comesTo_l18_b (v1 : Int32) (v2 : Int32) (v3 : Int32) (v4 : Int32) (h : zm_H) : Nat × Int32 := (if ((1 <<< ((zf h 72 2) &&& 31)) ≤ v4) then (2, v4) else (if ((zr h 80 v4) = 1) then (if ((zr h 79 v4) = v2) then (if ((zr h 78 v4) = v3) then (1, v4) else (f_Planner_comesTo_l18_k64 v1 v2 v3 v4 h)) else (f_Planner_comesTo_l18_k64 v1 v2 v3 v4 h)) else (f_Planner_comesTo_l18_k64 v1 v2 v3 v4 h)))
def f_Planner_comesTo_l18_b_ok (v1 : Int32) (v2 : Int32) (v3 : Int32) (v4 : Int32) (h : zm_H) : Prop := ((((1 <<< ((zf h 72 2) &&& 31)) ≤ v4) → True) ∧ (¬ ((1 <<< ((zf h 72 2) &&& 31)) ≤ v4) → (vp_in v4 64 ∧ ((((zr h 80 v4) = 1) → (vp_in v4 64 ∧ ((((zr h 79 v4) = v2) → vp_in v4 64) ∧ (¬ ((zr h 79 v4) = v2) → True)))) ∧ (¬ ((zr h 80 v4) = 1) → True)))))
def f_Planner_comesTo_l18 (v1 : Int32) (v2 : Int32) (v3 : Int32) (h : zm_H) (n : Nat) (t : Int32) : Nat × Int32 := zwh (fun t => f_Planner_comesTo_l18_b v1 v2 v3 t h) n t
def f_Planner_comesTo_l18_ok (v1 : Int32) (v2 : Int32) (v3 : Int32) (h : zm_H) (n : Nat) (t : Int32) : Prop := zwo (fun t => f_Planner_comesTo_l18_b v1 v2 v3 t h) (fun t => f_Planner_comesTo_l18_b_ok v1 v2 v3 t h) n t
def f_Planner_comesTo_k62 (h : zm_H) : Int32 × zm_H := (1, h)
def f_Planner_comesTo_k62_ok (h : zm_H) : Prop := True
theorem f_Planner_comesTo_k62_w (h : zm_H) : zWr [] [] h ((f_Planner_comesTo_k62 h).2) := by
  unfold f_Planner_comesTo_k62
  exact (zWr.refl _ _)
def f_Planner_comesTo_k75 (h : zm_H) : Int32 × zm_H := (0, h)
def f_Planner_comesTo_k75_ok (h : zm_H) : Prop := True
theorem f_Planner_comesTo_k75_w (h : zm_H) : zWr [] [] h ((f_Planner_comesTo_k75 h).2) := by
  unfold f_Planner_comesTo_k75
  exact (zWr.refl _ _)
def f_Planner_comesTo_a18 (r : Nat × Int32) (h : zm_H) : Int32 × zm_H := (if r.1 = 1 then (f_Planner_comesTo_k62 h) else (f_Planner_comesTo_k75 h))
def f_Planner_comesTo_a18_ok (r : Nat × Int32) (h : zm_H) : Prop := ((r.1 = 1 → True) ∧ (¬ r.1 = 1 → True))
theorem f_Planner_comesTo_a18_w (r : Nat × Int32) (h : zm_H) : zWr [] [] h ((f_Planner_comesTo_a18 r h).2) := by
  unfold f_Planner_comesTo_a18
  exact (zWr_ite (fun z : Int32 × zm_H => z.2) (zWr_tr (f_Planner_comesTo_k62_w h) (by decide) (by decide) (zWr.refl _ _)) (zWr_tr (f_Planner_comesTo_k75_w h) (by decide) (by decide) (zWr.refl _ _)))
def f_Planner_comesTo_k15 (v1 : Int32) (v2 : Int32) (v3 : Int32) (h : zm_H) : Int32 × zm_H := (f_Planner_comesTo_a18 (f_Planner_comesTo_l18 v1 v2 v3 h zF 0) h)
def f_Planner_comesTo_k15_ok (v1 : Int32) (v2 : Int32) (v3 : Int32) (h : zm_H) : Prop := (f_Planner_comesTo_l18_ok v1 v2 v3 h zF 0 ∧ f_Planner_comesTo_a18_ok (f_Planner_comesTo_l18 v1 v2 v3 h zF 0) h)
theorem f_Planner_comesTo_k15_w (v1 : Int32) (v2 : Int32) (v3 : Int32) (h : zm_H) : zWr [] [] h ((f_Planner_comesTo_k15 v1 v2 v3 h).2) := by
  unfold f_Planner_comesTo_k15
  exact (zWr_tr (f_Planner_comesTo_a18_w (f_Planner_comesTo_l18 v1 v2 v3 h zF 0) h) (by decide) (by decide) (zWr.refl _ _))
def f_Planner_comesTo (p1 : Int32) (p2 : Int32) (p3 : Int32) (h : zm_H) : Int32 × zm_H := (if (p2 < 0) then (0, h) else (if (0 ≤ p3) then (f_Planner_comesTo_k15 p1 p2 p3 (f_Planner_packFrom p1 h)) else (0, h)))
def f_Planner_comesTo_ok (p1 : Int32) (p2 : Int32) (p3 : Int32) (h : zm_H) : Prop := (((p2 < 0) → True) ∧ (¬ (p2 < 0) → (((0 ≤ p3) → (f_Planner_packFrom_ok p1 h ∧ (f_Planner_comesTo_k15_ok p1 p2 p3 (f_Planner_packFrom p1 h)))) ∧ (¬ (0 ≤ p3) → True))))
theorem f_Planner_comesTo_w (p1 : Int32) (p2 : Int32) (p3 : Int32) (h : zm_H) : zWr [80] [] h ((f_Planner_comesTo p1 p2 p3 h).2) := by
  unfold f_Planner_comesTo
  exact (zWr_ite (fun z : Int32 × zm_H => z.2) (zWr.refl _ _) (zWr_ite (fun z : Int32 × zm_H => z.2) (zWr_tr (f_Planner_comesTo_k15_w p1 p2 p3 (f_Planner_packFrom p1 h)) (by decide) (by decide) (zWr_tr (f_Planner_packFrom_w p1 h) (by decide) (by decide) (zWr.refl _ _))) (zWr.refl _ _)))
def f_Planner_windowFor_l3_k53 (v1 : Int32) (v2 : Int32) (v3 : Int32) (v4 : Int32) (w0 : Int32) (h : zm_H) : Nat × Int32 × zm_H := (if (w0 = 0) then (f_Planner_windowFor_l3_k79 v1 v2 v3 v4 (zs h 77 v4 ((zr h 77 v4) + (zr h 73 v1)))) else (1, v4, (zs h 77 v4 ((zr h 77 v4) + (zr h 73 v1)))))
def f_Planner_windowFor_l3_k53_ok (v1 : Int32) (v2 : Int32) (v3 : Int32) (v4 : Int32) (w0 : Int32) (h : zm_H) : Prop := (vp_in v4 40 ∧ (vp_in v1 6 ∧ vp_in v4 40))
theorem f_Planner_windowFor_l3_k53_w (v1 : Int32) (v2 : Int32) (v3 : Int32) (v4 : Int32) (w0 : Int32) (h : zm_H) : zWr [77] [] h ((f_Planner_windowFor_l3_k53 v1 v2 v3 v4 w0 h).2.2) := by
  unfold f_Planner_windowFor_l3_k53
  exact (zWr_ite (fun z : Nat × Int32 × zm_H => z.2.2) (zWr_tr (f_Planner_windowFor_l3_k79_w v1 v2 v3 v4 (zs h 77 v4 ((zr h 77 v4) + (zr h 73 v1)))) (by decide) (by decide) (zWr_si (by decide) (zWr.refl _ _))) (zWr_si (by decide) (zWr.refl _ _)))
def f_Planner_windowFor_l3_b (v1 : Int32) (v2 : Int32) (v3 : Int32) (v4 : Int32) (h : zm_H) : Nat × Int32 × zm_H := (if ((zf h 72 5) ≤ v4) then (2, v4, h) else (if ((zr h 77 v4) < (zr h 73 v1)) then (f_Planner_windowFor_l3_k79 v1 v2 v3 v4 h) else (f_Planner_windowFor_l3_k53 v1 v2 v3 v4 (f_Planner_comesTo (v1 + 1) v2 v3 (zs h 77 v4 ((zr h 77 v4) - (zr h 73 v1)))).1 (f_Planner_comesTo (v1 + 1) v2 v3 (zs h 77 v4 ((zr h 77 v4) - (zr h 73 v1)))).2)))
def f_Planner_windowFor_l3_b_ok (v1 : Int32) (v2 : Int32) (v3 : Int32) (v4 : Int32) (h : zm_H) : Prop := ((((zf h 72 5) ≤ v4) → True) ∧ (¬ ((zf h 72 5) ≤ v4) → (vp_in v4 40 ∧ (vp_in v1 6 ∧ ((((zr h 77 v4) < (zr h 73 v1)) → True) ∧ (¬ ((zr h 77 v4) < (zr h 73 v1)) → (vp_in v4 40 ∧ (vp_in v1 6 ∧ (vp_in v4 40 ∧ (f_Planner_comesTo_ok (v1 + 1) v2 v3 (zs h 77 v4 ((zr h 77 v4) - (zr h 73 v1))) ∧ (f_Planner_windowFor_l3_k53_ok v1 v2 v3 v4 (f_Planner_comesTo (v1 + 1) v2 v3 (zs h 77 v4 ((zr h 77 v4) - (zr h 73 v1)))).1 (f_Planner_comesTo (v1 + 1) v2 v3 (zs h 77 v4 ((zr h 77 v4) - (zr h 73 v1)))).2)))))))))))
theorem f_Planner_windowFor_l3_b_w (v1 : Int32) (v2 : Int32) (v3 : Int32) (v4 : Int32) (h : zm_H) : zWr [77, 80] [] h ((f_Planner_windowFor_l3_b v1 v2 v3 v4 h).2.2) := by
  unfold f_Planner_windowFor_l3_b
  exact (zWr_ite (fun z : Nat × Int32 × zm_H => z.2.2) (zWr.refl _ _) (zWr_ite (fun z : Nat × Int32 × zm_H => z.2.2) (zWr_tr (f_Planner_windowFor_l3_k79_w v1 v2 v3 v4 h) (by decide) (by decide) (zWr.refl _ _)) (zWr_tr (f_Planner_windowFor_l3_k53_w v1 v2 v3 v4 (f_Planner_comesTo (v1 + 1) v2 v3 (zs h 77 v4 ((zr h 77 v4) - (zr h 73 v1)))).1 (f_Planner_comesTo (v1 + 1) v2 v3 (zs h 77 v4 ((zr h 77 v4) - (zr h 73 v1)))).2) (by decide) (by decide) (zWr_tr (f_Planner_comesTo_w (v1 + 1) v2 v3 (zs h 77 v4 ((zr h 77 v4) - (zr h 73 v1)))) (by decide) (by decide) (zWr_si (by decide) (zWr.refl _ _))))))
def f_Planner_windowFor_l3 (v1 : Int32) (v2 : Int32) (v3 : Int32) (n : Nat) (t : Int32 × zm_H) : Nat × Int32 × zm_H := zwh (fun t => f_Planner_windowFor_l3_b v1 v2 v3 t.1 t.2) n t
def f_Planner_windowFor_l3_ok (v1 : Int32) (v2 : Int32) (v3 : Int32) (n : Nat) (t : Int32 × zm_H) : Prop := zwo (fun t => f_Planner_windowFor_l3_b v1 v2 v3 t.1 t.2) (fun t => f_Planner_windowFor_l3_b_ok v1 v2 v3 t.1 t.2) n t
theorem f_Planner_windowFor_l3_w (v1 : Int32) (v2 : Int32) (v3 : Int32) (n : Nat) (t : Int32 × zm_H) : zWr [77, 80] [] (t.2) ((f_Planner_windowFor_l3 v1 v2 v3 n t).2.2) := by
  unfold f_Planner_windowFor_l3
  exact zWr_zwh (fun t : Int32 × zm_H => t.2) (fun t => f_Planner_windowFor_l3_b_w v1 v2 v3 t.1 t.2)
def f_Planner_windowFor_k76 (v4 : Int32) (h : zm_H) : Int32 × zm_H := (v4, h)
def f_Planner_windowFor_k76_ok (v4 : Int32) (h : zm_H) : Prop := True
theorem f_Planner_windowFor_k76_w (v4 : Int32) (h : zm_H) : zWr [] [] h ((f_Planner_windowFor_k76 v4 h).2) := by
  unfold f_Planner_windowFor_k76
  exact (zWr.refl _ _)
def f_Planner_windowFor_k85 (h : zm_H) : Int32 × zm_H := ((-1), h)
def f_Planner_windowFor_k85_ok (h : zm_H) : Prop := True
theorem f_Planner_windowFor_k85_w (h : zm_H) : zWr [] [] h ((f_Planner_windowFor_k85 h).2) := by
  unfold f_Planner_windowFor_k85
  exact (zWr.refl _ _)
def f_Planner_windowFor_a3 (r : Nat × Int32 × zm_H) : Int32 × zm_H := (if r.1 = 1 then (f_Planner_windowFor_k76 (r.2.1) (r.2.2)) else (f_Planner_windowFor_k85 (r.2.2)))
def f_Planner_windowFor_a3_ok (r : Nat × Int32 × zm_H) : Prop := ((r.1 = 1 → True) ∧ (¬ r.1 = 1 → True))
theorem f_Planner_windowFor_a3_w (r : Nat × Int32 × zm_H) : zWr [] [] (r.2.2) ((f_Planner_windowFor_a3 r).2) := by
  unfold f_Planner_windowFor_a3
  exact (zWr_ite (fun z : Int32 × zm_H => z.2) (zWr_tr (f_Planner_windowFor_k76_w (r.2.1) (r.2.2)) (by decide) (by decide) (zWr.refl _ _)) (zWr_tr (f_Planner_windowFor_k85_w (r.2.2)) (by decide) (by decide) (zWr.refl _ _)))
def f_Planner_windowFor (p1 : Int32) (p2 : Int32) (p3 : Int32) (h : zm_H) : Int32 × zm_H := (f_Planner_windowFor_a3 (f_Planner_windowFor_l3 p1 p2 p3 zF (0, h)))
def f_Planner_windowFor_ok (p1 : Int32) (p2 : Int32) (p3 : Int32) (h : zm_H) : Prop := (f_Planner_windowFor_l3_ok p1 p2 p3 zF (0, h) ∧ f_Planner_windowFor_a3_ok (f_Planner_windowFor_l3 p1 p2 p3 zF (0, h)))
theorem f_Planner_windowFor_w (p1 : Int32) (p2 : Int32) (p3 : Int32) (h : zm_H) : zWr [77, 80] [] h ((f_Planner_windowFor p1 p2 p3 h).2) := by
  unfold f_Planner_windowFor
  exact (zWr_tr (f_Planner_windowFor_a3_w (f_Planner_windowFor_l3 p1 p2 p3 zF (0, h))) (by decide) (by decide) (zWr_tr (f_Planner_windowFor_l3_w p1 p2 p3 zF (0, h)) (by decide) (by decide) (zWr.refl _ _)))
def f_Planner_choose_l37_k71 (v1 : Int32) (v2 : Int32) (v3 : Int32) (w1 : Int32) (w2 : Int32) (h : zm_H) : Nat × Int32 × Int32 × Int32 × zm_H := (0, (if ((zr (zs h 81 w1 w2) 81 v3) = (-1)) then (v1 : Int32) else (v1 - (zr h 74 v3))), (if ((zr (zs h 81 w1 w2) 81 v3) = (-1)) then (v2 : Int32) else (v2 - (zr h 73 v3))), (v3 + 1), (if ((zr (zs h 81 w1 w2) 81 v3) = (-1)) then (zs h 81 w1 w2) else (zs (zs h 81 w1 w2) 77 (zr (zs h 81 w1 w2) 81 v3) ((zr h 77 (zr (zs h 81 w1 w2) 81 v3)) - (zr h 73 v3)))))
def f_Planner_choose_l37_k71_ok (v1 : Int32) (v2 : Int32) (v3 : Int32) (w1 : Int32) (w2 : Int32) (h : zm_H) : Prop := (vp_in w1 6 ∧ (vp_in v3 6 ∧ ((((zr (zs h 81 w1 w2) 81 v3) = (-1)) → True) ∧ (¬ ((zr (zs h 81 w1 w2) 81 v3) = (-1)) → (vp_in v3 6 ∧ (vp_in (zr (zs h 81 w1 w2) 81 v3) 40 ∧ (vp_in v3 6 ∧ (vp_in (zr (zs h 81 w1 w2) 81 v3) 40 ∧ (vp_in v3 6 ∧ vp_in v3 6)))))))))
theorem f_Planner_choose_l37_k71_w (v1 : Int32) (v2 : Int32) (v3 : Int32) (w1 : Int32) (w2 : Int32) (h : zm_H) : zWr [77, 81] [] h ((f_Planner_choose_l37_k71 v1 v2 v3 w1 w2 h).2.2.2.2) := by
  unfold f_Planner_choose_l37_k71
  exact (zWr_ite (fun z : zm_H => z) (zWr_si (by decide) (zWr.refl _ _)) (zWr_si (by decide) (zWr_si (by decide) (zWr.refl _ _))))
def f_Planner_choose_l37_b (v1 : Int32) (v2 : Int32) (v3 : Int32) (h : zm_H) : Nat × Int32 × Int32 × Int32 × zm_H := (if ((zf h 72 2) ≤ v3) then (1, v1, v2, v3, h) else (f_Planner_choose_l37_k71 v1 v2 v3 v3 (f_Planner_windowFor v3 (v1 - (zr h 74 v3)) (v2 - (zr h 73 v3)) h).1 (f_Planner_windowFor v3 (v1 - (zr h 74 v3)) (v2 - (zr h 73 v3)) h).2))
def f_Planner_choose_l37_b_ok (v1 : Int32) (v2 : Int32) (v3 : Int32) (h : zm_H) : Prop := ((((zf h 72 2) ≤ v3) → True) ∧ (¬ ((zf h 72 2) ≤ v3) → (vp_in v3 6 ∧ (vp_in v3 6 ∧ (f_Planner_windowFor_ok v3 (v1 - (zr h 74 v3)) (v2 - (zr h 73 v3)) h ∧ (f_Planner_choose_l37_k71_ok v1 v2 v3 v3 (f_Planner_windowFor v3 (v1 - (zr h 74 v3)) (v2 - (zr h 73 v3)) h).1 (f_Planner_windowFor v3 (v1 - (zr h 74 v3)) (v2 - (zr h 73 v3)) h).2))))))
theorem f_Planner_choose_l37_b_w (v1 : Int32) (v2 : Int32) (v3 : Int32) (h : zm_H) : zWr [77, 80, 81] [] h ((f_Planner_choose_l37_b v1 v2 v3 h).2.2.2.2) := by
  unfold f_Planner_choose_l37_b
  exact (zWr_ite (fun z : Nat × Int32 × Int32 × Int32 × zm_H => z.2.2.2.2) (zWr.refl _ _) (zWr_tr (f_Planner_choose_l37_k71_w v1 v2 v3 v3 (f_Planner_windowFor v3 (v1 - (zr h 74 v3)) (v2 - (zr h 73 v3)) h).1 (f_Planner_windowFor v3 (v1 - (zr h 74 v3)) (v2 - (zr h 73 v3)) h).2) (by decide) (by decide) (zWr_tr (f_Planner_windowFor_w v3 (v1 - (zr h 74 v3)) (v2 - (zr h 73 v3)) h) (by decide) (by decide) (zWr.refl _ _))))
def f_Planner_choose_l37 (n : Nat) (t : Int32 × Int32 × Int32 × zm_H) : Nat × Int32 × Int32 × Int32 × zm_H := zwh (fun t => f_Planner_choose_l37_b t.1 t.2.1 t.2.2.1 t.2.2.2) n t
def f_Planner_choose_l37_ok (n : Nat) (t : Int32 × Int32 × Int32 × zm_H) : Prop := zwo (fun t => f_Planner_choose_l37_b t.1 t.2.1 t.2.2.1 t.2.2.2) (fun t => f_Planner_choose_l37_b_ok t.1 t.2.1 t.2.2.1 t.2.2.2) n t
theorem f_Planner_choose_l37_w (n : Nat) (t : Int32 × Int32 × Int32 × zm_H) : zWr [77, 80, 81] [] (t.2.2.2) ((f_Planner_choose_l37 n t).2.2.2.2) := by
  unfold f_Planner_choose_l37
  exact zWr_zwh (fun t : Int32 × Int32 × Int32 × zm_H => t.2.2.2) (fun t => f_Planner_choose_l37_b_w t.1 t.2.1 t.2.2.1 t.2.2.2)
def f_Planner_choose_k126 (h : zm_H) : zm_H := h
def f_Planner_choose_k126_ok (h : zm_H) : Prop := True
theorem f_Planner_choose_k126_w (h : zm_H) : zWr [] [] h ((f_Planner_choose_k126 h)) := by
  unfold f_Planner_choose_k126
  exact (zWr.refl _ _)
def f_Planner_choose_a37 (r : Nat × Int32 × Int32 × Int32 × zm_H) : zm_H := (f_Planner_choose_k126 (r.2.2.2.2))
def f_Planner_choose_a37_ok (r : Nat × Int32 × Int32 × Int32 × zm_H) : Prop := True
theorem f_Planner_choose_a37_w (r : Nat × Int32 × Int32 × Int32 × zm_H) : zWr [] [] (r.2.2.2.2) ((f_Planner_choose_a37 r)) := by
  unfold f_Planner_choose_a37
  exact (zWr_tr (f_Planner_choose_k126_w (r.2.2.2.2)) (by decide) (by decide) (zWr.refl _ _))
def f_Planner_choose_k25 (h : zm_H) : zm_H := (f_Planner_choose_a37 (f_Planner_choose_l37 zF ((zf h 72 12), (zf h 72 13), 0, h)))
def f_Planner_choose_k25_ok (h : zm_H) : Prop := (f_Planner_choose_l37_ok zF ((zf h 72 12), (zf h 72 13), 0, h) ∧ f_Planner_choose_a37_ok (f_Planner_choose_l37 zF ((zf h 72 12), (zf h 72 13), 0, h)))
theorem f_Planner_choose_k25_w (h : zm_H) : zWr [77, 80, 81] [] h ((f_Planner_choose_k25 h)) := by
  unfold f_Planner_choose_k25
  exact (zWr_tr (f_Planner_choose_a37_w (f_Planner_choose_l37 zF ((zf h 72 12), (zf h 72 13), 0, h))) (by decide) (by decide) (zWr_tr (f_Planner_choose_l37_w zF ((zf h 72 12), (zf h 72 13), 0, h)) (by decide) (by decide) (zWr.refl _ _)))
def f_Planner_choose_k21 (h : zm_H) : zm_H := (f_Planner_choose_k25 (f_Planner_findBest h))
def f_Planner_choose_k21_ok (h : zm_H) : Prop := (f_Planner_findBest_ok h ∧ (f_Planner_choose_k25_ok (f_Planner_findBest h)))
theorem f_Planner_choose_k21_w (h : zm_H) : zWr [77, 80, 81] [(72, 12), (72, 13)] h ((f_Planner_choose_k21 h)) := by
  unfold f_Planner_choose_k21
  exact (zWr_tr (f_Planner_choose_k25_w (f_Planner_findBest h)) (by decide) (by decide) (zWr_tr (f_Planner_findBest_w h) (by decide) (by decide) (zWr.refl _ _)))
def f_Planner_choose (h : zm_H) : zm_H := (f_Planner_choose_k21 (f_Planner_measureSets (zcp h 76 0 77 0 (zf h 72 5))))
def f_Planner_choose_ok (h : zm_H) : Prop := ((¬ (0 : Int32) < 0 ∧ ¬ (0 : Int32) < 0 ∧ ¬ ((zf h 72 5) : Int32) < 0 ∧ Int32.toNatClampNeg 0 + Int32.toNatClampNeg (zf h 72 5) ≤ 40 ∧ Int32.toNatClampNeg 0 + Int32.toNatClampNeg (zf h 72 5) ≤ 40) ∧ (f_Planner_measureSets_ok (zcp h 76 0 77 0 (zf h 72 5)) ∧ (f_Planner_choose_k21_ok (f_Planner_measureSets (zcp h 76 0 77 0 (zf h 72 5))))))
theorem f_Planner_choose_w (h : zm_H) : zWr [77, 78, 79, 80, 81] [(72, 12), (72, 13)] h ((f_Planner_choose h)) := by
  unfold f_Planner_choose
  exact (zWr_tr (f_Planner_choose_k21_w (f_Planner_measureSets (zcp h 76 0 77 0 (zf h 72 5)))) (by decide) (by decide) (zWr_tr (f_Planner_measureSets_w (zcp h 76 0 77 0 (zf h 72 5))) (by decide) (by decide) (zWr_cp (by decide) (zWr.refl _ _))))
def f_N_plan_k48 (v2 : Int32) (h : zm_H) : Int32 × zm_H := ((if (v2 = (-1)) then ((zf h 72 12) : Int32) else (zr h 81 v2)), h)
def f_N_plan_k48_ok (v2 : Int32) (h : zm_H) : Prop := (((v2 = (-1)) → True) ∧ (¬ (v2 = (-1)) → vp_in v2 6))
theorem f_N_plan_k48_w (v2 : Int32) (h : zm_H) : zWr [] [] h ((f_N_plan_k48 v2 h).2) := by
  unfold f_N_plan_k48
  exact (zWr.refl _ _)
def f_N_plan_k41 (v2 : Int32) (h : zm_H) : Int32 × zm_H := (f_N_plan_k48 v2 (f_Planner_choose h))
def f_N_plan_k41_ok (v2 : Int32) (h : zm_H) : Prop := (f_Planner_choose_ok h ∧ (f_N_plan_k48_ok v2 (f_Planner_choose h)))
theorem f_N_plan_k41_w (v2 : Int32) (h : zm_H) : zWr [77, 78, 79, 80, 81] [(72, 12), (72, 13)] h ((f_N_plan_k41 v2 h).2) := by
  unfold f_N_plan_k41
  exact (zWr_tr (f_N_plan_k48_w v2 (f_Planner_choose h)) (by decide) (by decide) (zWr_tr (f_Planner_choose_w h) (by decide) (by decide) (zWr.refl _ _)))
def f_N_plan (p1 : Int32) (p2 : Int32) (h : zm_H) : Int32 × zm_H := (if (p1 < 1) then ((-1), h) else (if (40 < p1) then ((-1), h) else (if (p2 < (-1)) then ((-1), h) else (if (p2 < (zf h 72 2)) then (f_N_plan_k41 p2 (f_Planner_findWindows (zf h 0 0) p1 h)) else ((-1), h)))))
def f_N_plan_ok (p1 : Int32) (p2 : Int32) (h : zm_H) : Prop := (((p1 < 1) → True) ∧ (¬ (p1 < 1) → (((40 < p1) → True) ∧ (¬ (40 < p1) → (((p2 < (-1)) → True) ∧ (¬ (p2 < (-1)) → (((p2 < (zf h 72 2)) → (f_Planner_findWindows_ok (zf h 0 0) p1 h ∧ (f_N_plan_k41_ok p2 (f_Planner_findWindows (zf h 0 0) p1 h)))) ∧ (¬ (p2 < (zf h 72 2)) → True))))))))
theorem f_N_plan_w (p1 : Int32) (p2 : Int32) (h : zm_H) : zWr [21, 22, 75, 76, 77, 78, 79, 80, 81] [(15, 9), (72, 5), (72, 12), (72, 13)] h ((f_N_plan p1 p2 h).2) := by
  unfold f_N_plan
  exact (zWr_ite (fun z : Int32 × zm_H => z.2) (zWr.refl _ _) (zWr_ite (fun z : Int32 × zm_H => z.2) (zWr.refl _ _) (zWr_ite (fun z : Int32 × zm_H => z.2) (zWr.refl _ _) (zWr_ite (fun z : Int32 × zm_H => z.2) (zWr_tr (f_N_plan_k41_w p2 (f_Planner_findWindows (zf h 0 0) p1 h)) (by decide) (by decide) (zWr_tr (f_Planner_findWindows_w (zf h 0 0) p1 h) (by decide) (by decide) (zWr.refl _ _))) (zWr.refl _ _)))))
def f_M_plan_l35_b (v2 : Int32) (v3 : Int32) (v4 : Int32) (h : zm_H) : Nat × Int32 × zm_H := (if ((zf h 92 72) ≤ v4) then (1, v4, h) else (0, (v4 + 1), (zs h 156 v4 (-1))))
def f_M_plan_l35_b_ok (v2 : Int32) (v3 : Int32) (v4 : Int32) (h : zm_H) : Prop := ((((zf h 92 72) ≤ v4) → True) ∧ (¬ ((zf h 92 72) ≤ v4) → vp_in v4 6))
theorem f_M_plan_l35_b_w (v2 : Int32) (v3 : Int32) (v4 : Int32) (h : zm_H) : zWr [156] [] h ((f_M_plan_l35_b v2 v3 v4 h).2.2) := by
  unfold f_M_plan_l35_b
  exact (zWr_ite (fun z : Nat × Int32 × zm_H => z.2.2) (zWr.refl _ _) (zWr_si (by decide) (zWr.refl _ _)))
def f_M_plan_l35 (v2 : Int32) (v3 : Int32) (n : Nat) (t : Int32 × zm_H) : Nat × Int32 × zm_H := zwh (fun t => f_M_plan_l35_b v2 v3 t.1 t.2) n t
def f_M_plan_l35_ok (v2 : Int32) (v3 : Int32) (n : Nat) (t : Int32 × zm_H) : Prop := zwo (fun t => f_M_plan_l35_b v2 v3 t.1 t.2) (fun t => f_M_plan_l35_b_ok v2 v3 t.1 t.2) n t
theorem f_M_plan_l35_w (v2 : Int32) (v3 : Int32) (n : Nat) (t : Int32 × zm_H) : zWr [156] [] (t.2) ((f_M_plan_l35 v2 v3 n t).2.2) := by
  unfold f_M_plan_l35
  exact zWr_zwh (fun t : Int32 × zm_H => t.2) (fun t => f_M_plan_l35_b_w v2 v3 t.1 t.2)
def f_M_bestOf_l9_b (v1 : Int32) (v2 : Int32) (v3 : Int32) (h : zm_H) : Nat × Int32 × zm_H := (if (v2 ≤ v3) then (1, v3, h) else (0, (v3 + 1), (zs h 157 v3 (if (v3 = 0) then (0 : Int32) else (-1)))))
def f_M_bestOf_l9_b_ok (v1 : Int32) (v2 : Int32) (v3 : Int32) (h : zm_H) : Prop := (((v2 ≤ v3) → True) ∧ (¬ (v2 ≤ v3) → vp_in v3 64))
theorem f_M_bestOf_l9_b_w (v1 : Int32) (v2 : Int32) (v3 : Int32) (h : zm_H) : zWr [157] [] h ((f_M_bestOf_l9_b v1 v2 v3 h).2.2) := by
  unfold f_M_bestOf_l9_b
  exact (zWr_ite (fun z : Nat × Int32 × zm_H => z.2.2) (zWr.refl _ _) (zWr_si (by decide) (zWr.refl _ _)))
def f_M_bestOf_l9 (v1 : Int32) (v2 : Int32) (n : Nat) (t : Int32 × zm_H) : Nat × Int32 × zm_H := zwh (fun t => f_M_bestOf_l9_b v1 v2 t.1 t.2) n t
def f_M_bestOf_l9_ok (v1 : Int32) (v2 : Int32) (n : Nat) (t : Int32 × zm_H) : Prop := zwo (fun t => f_M_bestOf_l9_b v1 v2 t.1 t.2) (fun t => f_M_bestOf_l9_b_ok v1 v2 t.1 t.2) n t
theorem f_M_bestOf_l9_w (v1 : Int32) (v2 : Int32) (n : Nat) (t : Int32 × zm_H) : zWr [157] [] (t.2) ((f_M_bestOf_l9 v1 v2 n t).2.2) := by
  unfold f_M_bestOf_l9
  exact zWr_zwh (fun t : Int32 × zm_H => t.2) (fun t => f_M_bestOf_l9_b_w v1 v2 t.1 t.2)
def f_M_bestOf_l37_l45_b (v1 : Int32) (v2 : Int32) (v3 : Int32) (v4 : Int32) (h : zm_H) : Nat × Int32 × zm_H := (if (v2 ≤ v4) then (1, v4, h) else (0, (v4 + 1), (zs h 158 v4 (zr h 157 v4))))
def f_M_bestOf_l37_l45_b_ok (v1 : Int32) (v2 : Int32) (v3 : Int32) (v4 : Int32) (h : zm_H) : Prop := (((v2 ≤ v4) → True) ∧ (¬ (v2 ≤ v4) → (vp_in v4 64 ∧ vp_in v4 64)))
theorem f_M_bestOf_l37_l45_b_w (v1 : Int32) (v2 : Int32) (v3 : Int32) (v4 : Int32) (h : zm_H) : zWr [158] [] h ((f_M_bestOf_l37_l45_b v1 v2 v3 v4 h).2.2) := by
  unfold f_M_bestOf_l37_l45_b
  exact (zWr_ite (fun z : Nat × Int32 × zm_H => z.2.2) (zWr.refl _ _) (zWr_si (by decide) (zWr.refl _ _)))
def f_M_bestOf_l37_l45 (v1 : Int32) (v2 : Int32) (v3 : Int32) (n : Nat) (t : Int32 × zm_H) : Nat × Int32 × zm_H := zwh (fun t => f_M_bestOf_l37_l45_b v1 v2 v3 t.1 t.2) n t
def f_M_bestOf_l37_l45_ok (v1 : Int32) (v2 : Int32) (v3 : Int32) (n : Nat) (t : Int32 × zm_H) : Prop := zwo (fun t => f_M_bestOf_l37_l45_b v1 v2 v3 t.1 t.2) (fun t => f_M_bestOf_l37_l45_b_ok v1 v2 v3 t.1 t.2) n t
theorem f_M_bestOf_l37_l45_w (v1 : Int32) (v2 : Int32) (v3 : Int32) (n : Nat) (t : Int32 × zm_H) : zWr [158] [] (t.2) ((f_M_bestOf_l37_l45 v1 v2 v3 n t).2.2) := by
  unfold f_M_bestOf_l37_l45
  exact zWr_zwh (fun t : Int32 × zm_H => t.2) (fun t => f_M_bestOf_l37_l45_b_w v1 v2 v3 t.1 t.2)
def f_M_valueIn_l8_k75 (v1 : Int32) (v2 : Int32) (v3 : Int32) (v4 : Int32) (v5 : Int32) (h : zm_H) : Nat × Int32 × Int32 × Int32 := (0, v3, v4, (v5 + 1))
def f_M_valueIn_l8_k75_ok (v1 : Int32) (v2 : Int32) (v3 : Int32) (v4 : Int32) (v5 : Int32) (h : zm_H) : Prop := True
def f_M_valueIn_l8_k53 (v1 : Int32) (v2 : Int32) (v3 : Int32) (v4 : Int32) (v5 : Int32) (h : zm_H) : Nat × Int32 × Int32 × Int32 := (f_M_valueIn_l8_k75 v1 v2 (v3 + (zr h 146 v5)) (v4 + (zr h 147 v5)) v5 h)
def f_M_valueIn_l8_k53_ok (v1 : Int32) (v2 : Int32) (v3 : Int32) (v4 : Int32) (v5 : Int32) (h : zm_H) : Prop := (vp_in v5 8 ∧ vp_in v5 8)
def f_M_valueIn_l8_b (v1 : Int32) (v2 : Int32) (v3 : Int32) (v4 : Int32) (v5 : Int32) (h : zm_H) : Nat × Int32 × Int32 × Int32 := (if ((zf h 92 72) ≤ v5) then (2, v3, v4, v5) else (if (((v1 >>> (v5 &&& 31)) &&& 1) = 0) then (f_M_valueIn_l8_k75 v1 v2 v3 v4 v5 h) else (if ((zr h 156 v5) = (-1)) then (f_M_valueIn_l8_k53 v1 v2 v3 v4 v5 h) else (if ((zr h 156 v5) = v2) then (f_M_valueIn_l8_k53 v1 v2 v3 v4 v5 h) else (1, v3, v4, v5)))))
def f_M_valueIn_l8_b_ok (v1 : Int32) (v2 : Int32) (v3 : Int32) (v4 : Int32) (v5 : Int32) (h : zm_H) : Prop := ((((zf h 92 72) ≤ v5) → True) ∧ (¬ ((zf h 92 72) ≤ v5) → (((((v1 >>> (v5 &&& 31)) &&& 1) = 0) → True) ∧ (¬ (((v1 >>> (v5 &&& 31)) &&& 1) = 0) → (vp_in v5 6 ∧ ((((zr h 156 v5) = (-1)) → (f_M_valueIn_l8_k53_ok v1 v2 v3 v4 v5 h)) ∧ (¬ ((zr h 156 v5) = (-1)) → (vp_in v5 6 ∧ ((((zr h 156 v5) = v2) → (f_M_valueIn_l8_k53_ok v1 v2 v3 v4 v5 h)) ∧ (¬ ((zr h 156 v5) = v2) → True))))))))))
def f_M_valueIn_l8 (v1 : Int32) (v2 : Int32) (h : zm_H) (n : Nat) (t : Int32 × Int32 × Int32) : Nat × Int32 × Int32 × Int32 := zwh (fun t => f_M_valueIn_l8_b v1 v2 t.1 t.2.1 t.2.2 h) n t
def f_M_valueIn_l8_ok (v1 : Int32) (v2 : Int32) (h : zm_H) (n : Nat) (t : Int32 × Int32 × Int32) : Prop := zwo (fun t => f_M_valueIn_l8_b v1 v2 t.1 t.2.1 t.2.2 h) (fun t => f_M_valueIn_l8_b_ok v1 v2 t.1 t.2.1 t.2.2 h) n t
def f_M_valueIn_k51 (h : zm_H) : Int32 := 0
def f_M_valueIn_k51_ok (h : zm_H) : Prop := True
def f_M_valueIn_k81 (v2 : Int32) (v3 : Int32) (v4 : Int32) (h : zm_H) : Int32 := (if (v3 ≤ (zr h 155 v2)) then (((1000 * v4) - v3) : Int32) else 0)
def f_M_valueIn_k81_ok (v2 : Int32) (v3 : Int32) (v4 : Int32) (h : zm_H) : Prop := vp_in v2 41
def f_M_valueIn_a8 (v2 : Int32) (r : Nat × Int32 × Int32 × Int32) (h : zm_H) : Int32 := (if r.1 = 1 then (f_M_valueIn_k51 h) else (f_M_valueIn_k81 v2 (r.2.1) (r.2.2.1) h))
def f_M_valueIn_a8_ok (v2 : Int32) (r : Nat × Int32 × Int32 × Int32) (h : zm_H) : Prop := ((r.1 = 1 → True) ∧ (¬ r.1 = 1 → (f_M_valueIn_k81_ok v2 (r.2.1) (r.2.2.1) h)))
def f_M_valueIn (p1 : Int32) (p2 : Int32) (h : zm_H) : Int32 := (f_M_valueIn_a8 p2 (f_M_valueIn_l8 p1 p2 h zF (0, 0, 0)) h)
def f_M_valueIn_ok (p1 : Int32) (p2 : Int32) (h : zm_H) : Prop := (f_M_valueIn_l8_ok p1 p2 h zF (0, 0, 0) ∧ f_M_valueIn_a8_ok p2 (f_M_valueIn_l8 p1 p2 h zF (0, 0, 0)) h)
def f_M_bestOf_l37_l74_l96_b (v1 : Int32) (v2 : Int32) (v3 : Int32) (v4 : Int32) (v5 : Int32) (h : zm_H) : Nat × Int32 × zm_H := (if (v2 ≤ v5) then (1, v5, h) else (0, (v5 + 1), (if ((v5 &&& v4) = 0) then (if ((f_M_valueIn v5 v3 h) ≤ 0) then h else (if (((zr h 157 v4) + (f_M_valueIn v5 v3 h)) ≤ (zr h 158 (v4 ||| v5))) then h else (zs h 158 (v4 ||| v5) ((zr h 157 v4) + (f_M_valueIn v5 v3 h))))) else h)))
def f_M_bestOf_l37_l74_l96_b_ok (v1 : Int32) (v2 : Int32) (v3 : Int32) (v4 : Int32) (v5 : Int32) (h : zm_H) : Prop := (((v2 ≤ v5) → True) ∧ (¬ (v2 ≤ v5) → ((((v5 &&& v4) = 0) → (vp_in v4 64 ∧ (f_M_valueIn_ok v5 v3 h ∧ (f_M_valueIn_ok v5 v3 h ∧ ((((f_M_valueIn v5 v3 h) ≤ 0) → True) ∧ (¬ ((f_M_valueIn v5 v3 h) ≤ 0) → (vp_in (v4 ||| v5) 64 ∧ (((((zr h 157 v4) + (f_M_valueIn v5 v3 h)) ≤ (zr h 158 (v4 ||| v5))) → True) ∧ (¬ (((zr h 157 v4) + (f_M_valueIn v5 v3 h)) ≤ (zr h 158 (v4 ||| v5))) → vp_in (v4 ||| v5) 64))))))))) ∧ (¬ ((v5 &&& v4) = 0) → True))))
theorem f_M_bestOf_l37_l74_l96_b_w (v1 : Int32) (v2 : Int32) (v3 : Int32) (v4 : Int32) (v5 : Int32) (h : zm_H) : zWr [158] [] h ((f_M_bestOf_l37_l74_l96_b v1 v2 v3 v4 v5 h).2.2) := by
  unfold f_M_bestOf_l37_l74_l96_b
  exact (zWr_ite (fun z : Nat × Int32 × zm_H => z.2.2) (zWr.refl _ _) (zWr_ite (fun z : zm_H => z) (zWr_ite (fun z : zm_H => z) (zWr.refl _ _) (zWr_ite (fun z : zm_H => z) (zWr.refl _ _) (zWr_si (by decide) (zWr.refl _ _)))) (zWr.refl _ _)))
def f_M_bestOf_l37_l74_l96 (v1 : Int32) (v2 : Int32) (v3 : Int32) (v4 : Int32) (n : Nat) (t : Int32 × zm_H) : Nat × Int32 × zm_H := zwh (fun t => f_M_bestOf_l37_l74_l96_b v1 v2 v3 v4 t.1 t.2) n t
def f_M_bestOf_l37_l74_l96_ok (v1 : Int32) (v2 : Int32) (v3 : Int32) (v4 : Int32) (n : Nat) (t : Int32 × zm_H) : Prop := zwo (fun t => f_M_bestOf_l37_l74_l96_b v1 v2 v3 v4 t.1 t.2) (fun t => f_M_bestOf_l37_l74_l96_b_ok v1 v2 v3 v4 t.1 t.2) n t
theorem f_M_bestOf_l37_l74_l96_w (v1 : Int32) (v2 : Int32) (v3 : Int32) (v4 : Int32) (n : Nat) (t : Int32 × zm_H) : zWr [158] [] (t.2) ((f_M_bestOf_l37_l74_l96 v1 v2 v3 v4 n t).2.2) := by
  unfold f_M_bestOf_l37_l74_l96
  exact zWr_zwh (fun t : Int32 × zm_H => t.2) (fun t => f_M_bestOf_l37_l74_l96_b_w v1 v2 v3 v4 t.1 t.2)
def f_M_bestOf_l37_l74_k173 (v1 : Int32) (v2 : Int32) (v3 : Int32) (v4 : Int32) (h : zm_H) : Nat × Int32 × zm_H := (0, (v4 + 1), h)
def f_M_bestOf_l37_l74_k173_ok (v1 : Int32) (v2 : Int32) (v3 : Int32) (v4 : Int32) (h : zm_H) : Prop := True
theorem f_M_bestOf_l37_l74_k173_w (v1 : Int32) (v2 : Int32) (v3 : Int32) (v4 : Int32) (h : zm_H) : zWr [] [] h ((f_M_bestOf_l37_l74_k173 v1 v2 v3 v4 h).2.2) := by
  unfold f_M_bestOf_l37_l74_k173
  exact (zWr.refl _ _)
def f_M_bestOf_l37_l74_a96 (v1 : Int32) (v2 : Int32) (v3 : Int32) (v4 : Int32) (r : Nat × Int32 × zm_H) : Nat × Int32 × zm_H := (f_M_bestOf_l37_l74_k173 v1 v2 v3 v4 (r.2.2))
def f_M_bestOf_l37_l74_a96_ok (v1 : Int32) (v2 : Int32) (v3 : Int32) (v4 : Int32) (r : Nat × Int32 × zm_H) : Prop := True
theorem f_M_bestOf_l37_l74_a96_w (v1 : Int32) (v2 : Int32) (v3 : Int32) (v4 : Int32) (r : Nat × Int32 × zm_H) : zWr [] [] (r.2.2) ((f_M_bestOf_l37_l74_a96 v1 v2 v3 v4 r).2.2) := by
  unfold f_M_bestOf_l37_l74_a96
  exact (zWr_tr (f_M_bestOf_l37_l74_k173_w v1 v2 v3 v4 (r.2.2)) (by decide) (by decide) (zWr.refl _ _))
def f_M_bestOf_l37_l74_b (v1 : Int32) (v2 : Int32) (v3 : Int32) (v4 : Int32) (h : zm_H) : Nat × Int32 × zm_H := (if (v2 ≤ v4) then (1, v4, h) else (if (0 ≤ (zr h 157 v4)) then (f_M_bestOf_l37_l74_a96 v1 v2 v3 v4 (f_M_bestOf_l37_l74_l96 v1 v2 v3 v4 zF (1, h))) else (f_M_bestOf_l37_l74_k173 v1 v2 v3 v4 h)))
def f_M_bestOf_l37_l74_b_ok (v1 : Int32) (v2 : Int32) (v3 : Int32) (v4 : Int32) (h : zm_H) : Prop := (((v2 ≤ v4) → True) ∧ (¬ (v2 ≤ v4) → (vp_in v4 64 ∧ (((0 ≤ (zr h 157 v4)) → (f_M_bestOf_l37_l74_l96_ok v1 v2 v3 v4 zF (1, h) ∧ f_M_bestOf_l37_l74_a96_ok v1 v2 v3 v4 (f_M_bestOf_l37_l74_l96 v1 v2 v3 v4 zF (1, h)))) ∧ (¬ (0 ≤ (zr h 157 v4)) → True)))))
theorem f_M_bestOf_l37_l74_b_w (v1 : Int32) (v2 : Int32) (v3 : Int32) (v4 : Int32) (h : zm_H) : zWr [158] [] h ((f_M_bestOf_l37_l74_b v1 v2 v3 v4 h).2.2) := by
  unfold f_M_bestOf_l37_l74_b
  exact (zWr_ite (fun z : Nat × Int32 × zm_H => z.2.2) (zWr.refl _ _) (zWr_ite (fun z : Nat × Int32 × zm_H => z.2.2) (zWr_tr (f_M_bestOf_l37_l74_a96_w v1 v2 v3 v4 (f_M_bestOf_l37_l74_l96 v1 v2 v3 v4 zF (1, h))) (by decide) (by decide) (zWr_tr (f_M_bestOf_l37_l74_l96_w v1 v2 v3 v4 zF (1, h)) (by decide) (by decide) (zWr.refl _ _))) (zWr_tr (f_M_bestOf_l37_l74_k173_w v1 v2 v3 v4 h) (by decide) (by decide) (zWr.refl _ _))))
def f_M_bestOf_l37_l74 (v1 : Int32) (v2 : Int32) (v3 : Int32) (n : Nat) (t : Int32 × zm_H) : Nat × Int32 × zm_H := zwh (fun t => f_M_bestOf_l37_l74_b v1 v2 v3 t.1 t.2) n t
def f_M_bestOf_l37_l74_ok (v1 : Int32) (v2 : Int32) (v3 : Int32) (n : Nat) (t : Int32 × zm_H) : Prop := zwo (fun t => f_M_bestOf_l37_l74_b v1 v2 v3 t.1 t.2) (fun t => f_M_bestOf_l37_l74_b_ok v1 v2 v3 t.1 t.2) n t
theorem f_M_bestOf_l37_l74_w (v1 : Int32) (v2 : Int32) (v3 : Int32) (n : Nat) (t : Int32 × zm_H) : zWr [158] [] (t.2) ((f_M_bestOf_l37_l74 v1 v2 v3 n t).2.2) := by
  unfold f_M_bestOf_l37_l74
  exact zWr_zwh (fun t : Int32 × zm_H => t.2) (fun t => f_M_bestOf_l37_l74_b_w v1 v2 v3 t.1 t.2)
def f_M_bestOf_l37_l182_b (v1 : Int32) (v2 : Int32) (v3 : Int32) (v4 : Int32) (h : zm_H) : Nat × Int32 × zm_H := (if (v2 ≤ v4) then (1, v4, h) else (0, (v4 + 1), (zs h 157 v4 (zr h 158 v4))))
def f_M_bestOf_l37_l182_b_ok (v1 : Int32) (v2 : Int32) (v3 : Int32) (v4 : Int32) (h : zm_H) : Prop := (((v2 ≤ v4) → True) ∧ (¬ (v2 ≤ v4) → (vp_in v4 64 ∧ vp_in v4 64)))
theorem f_M_bestOf_l37_l182_b_w (v1 : Int32) (v2 : Int32) (v3 : Int32) (v4 : Int32) (h : zm_H) : zWr [157] [] h ((f_M_bestOf_l37_l182_b v1 v2 v3 v4 h).2.2) := by
  unfold f_M_bestOf_l37_l182_b
  exact (zWr_ite (fun z : Nat × Int32 × zm_H => z.2.2) (zWr.refl _ _) (zWr_si (by decide) (zWr.refl _ _)))
def f_M_bestOf_l37_l182 (v1 : Int32) (v2 : Int32) (v3 : Int32) (n : Nat) (t : Int32 × zm_H) : Nat × Int32 × zm_H := zwh (fun t => f_M_bestOf_l37_l182_b v1 v2 v3 t.1 t.2) n t
def f_M_bestOf_l37_l182_ok (v1 : Int32) (v2 : Int32) (v3 : Int32) (n : Nat) (t : Int32 × zm_H) : Prop := zwo (fun t => f_M_bestOf_l37_l182_b v1 v2 v3 t.1 t.2) (fun t => f_M_bestOf_l37_l182_b_ok v1 v2 v3 t.1 t.2) n t
theorem f_M_bestOf_l37_l182_w (v1 : Int32) (v2 : Int32) (v3 : Int32) (n : Nat) (t : Int32 × zm_H) : zWr [157] [] (t.2) ((f_M_bestOf_l37_l182 v1 v2 v3 n t).2.2) := by
  unfold f_M_bestOf_l37_l182
  exact zWr_zwh (fun t : Int32 × zm_H => t.2) (fun t => f_M_bestOf_l37_l182_b_w v1 v2 v3 t.1 t.2)
def f_M_bestOf_l37_k208 (v1 : Int32) (v2 : Int32) (v3 : Int32) (h : zm_H) : Nat × Int32 × zm_H := (0, (v3 + 1), h)
def f_M_bestOf_l37_k208_ok (v1 : Int32) (v2 : Int32) (v3 : Int32) (h : zm_H) : Prop := True
theorem f_M_bestOf_l37_k208_w (v1 : Int32) (v2 : Int32) (v3 : Int32) (h : zm_H) : zWr [] [] h ((f_M_bestOf_l37_k208 v1 v2 v3 h).2.2) := by
  unfold f_M_bestOf_l37_k208
  exact (zWr.refl _ _)
def f_M_bestOf_l37_a182 (v1 : Int32) (v2 : Int32) (v3 : Int32) (r : Nat × Int32 × zm_H) : Nat × Int32 × zm_H := (f_M_bestOf_l37_k208 v1 v2 v3 (r.2.2))
def f_M_bestOf_l37_a182_ok (v1 : Int32) (v2 : Int32) (v3 : Int32) (r : Nat × Int32 × zm_H) : Prop := True
theorem f_M_bestOf_l37_a182_w (v1 : Int32) (v2 : Int32) (v3 : Int32) (r : Nat × Int32 × zm_H) : zWr [] [] (r.2.2) ((f_M_bestOf_l37_a182 v1 v2 v3 r).2.2) := by
  unfold f_M_bestOf_l37_a182
  exact (zWr_tr (f_M_bestOf_l37_k208_w v1 v2 v3 (r.2.2)) (by decide) (by decide) (zWr.refl _ _))
def f_M_bestOf_l37_k179 (v1 : Int32) (v2 : Int32) (v3 : Int32) (h : zm_H) : Nat × Int32 × zm_H := (f_M_bestOf_l37_a182 v1 v2 v3 (f_M_bestOf_l37_l182 v1 v2 v3 zF (0, h)))
def f_M_bestOf_l37_k179_ok (v1 : Int32) (v2 : Int32) (v3 : Int32) (h : zm_H) : Prop := (f_M_bestOf_l37_l182_ok v1 v2 v3 zF (0, h) ∧ f_M_bestOf_l37_a182_ok v1 v2 v3 (f_M_bestOf_l37_l182 v1 v2 v3 zF (0, h)))
theorem f_M_bestOf_l37_k179_w (v1 : Int32) (v2 : Int32) (v3 : Int32) (h : zm_H) : zWr [157] [] h ((f_M_bestOf_l37_k179 v1 v2 v3 h).2.2) := by
  unfold f_M_bestOf_l37_k179
  exact (zWr_tr (f_M_bestOf_l37_a182_w v1 v2 v3 (f_M_bestOf_l37_l182 v1 v2 v3 zF (0, h))) (by decide) (by decide) (zWr_tr (f_M_bestOf_l37_l182_w v1 v2 v3 zF (0, h)) (by decide) (by decide) (zWr.refl _ _)))
def f_M_bestOf_l37_a74 (v1 : Int32) (v2 : Int32) (v3 : Int32) (r : Nat × Int32 × zm_H) : Nat × Int32 × zm_H := (f_M_bestOf_l37_k179 v1 v2 v3 (r.2.2))
def f_M_bestOf_l37_a74_ok (v1 : Int32) (v2 : Int32) (v3 : Int32) (r : Nat × Int32 × zm_H) : Prop := (f_M_bestOf_l37_k179_ok v1 v2 v3 (r.2.2))
theorem f_M_bestOf_l37_a74_w (v1 : Int32) (v2 : Int32) (v3 : Int32) (r : Nat × Int32 × zm_H) : zWr [157] [] (r.2.2) ((f_M_bestOf_l37_a74 v1 v2 v3 r).2.2) := by
  unfold f_M_bestOf_l37_a74
  exact (zWr_tr (f_M_bestOf_l37_k179_w v1 v2 v3 (r.2.2)) (by decide) (by decide) (zWr.refl _ _))
def f_M_bestOf_l37_k71 (v1 : Int32) (v2 : Int32) (v3 : Int32) (h : zm_H) : Nat × Int32 × zm_H := (f_M_bestOf_l37_a74 v1 v2 v3 (f_M_bestOf_l37_l74 v1 v2 v3 zF (0, h)))
def f_M_bestOf_l37_k71_ok (v1 : Int32) (v2 : Int32) (v3 : Int32) (h : zm_H) : Prop := (f_M_bestOf_l37_l74_ok v1 v2 v3 zF (0, h) ∧ f_M_bestOf_l37_a74_ok v1 v2 v3 (f_M_bestOf_l37_l74 v1 v2 v3 zF (0, h)))
theorem f_M_bestOf_l37_k71_w (v1 : Int32) (v2 : Int32) (v3 : Int32) (h : zm_H) : zWr [157, 158] [] h ((f_M_bestOf_l37_k71 v1 v2 v3 h).2.2) := by
  unfold f_M_bestOf_l37_k71
  exact (zWr_tr (f_M_bestOf_l37_a74_w v1 v2 v3 (f_M_bestOf_l37_l74 v1 v2 v3 zF (0, h))) (by decide) (by decide) (zWr_tr (f_M_bestOf_l37_l74_w v1 v2 v3 zF (0, h)) (by decide) (by decide) (zWr.refl _ _)))
def f_M_bestOf_l37_a45 (v1 : Int32) (v2 : Int32) (v3 : Int32) (r : Nat × Int32 × zm_H) : Nat × Int32 × zm_H := (f_M_bestOf_l37_k71 v1 v2 v3 (r.2.2))
def f_M_bestOf_l37_a45_ok (v1 : Int32) (v2 : Int32) (v3 : Int32) (r : Nat × Int32 × zm_H) : Prop := (f_M_bestOf_l37_k71_ok v1 v2 v3 (r.2.2))
theorem f_M_bestOf_l37_a45_w (v1 : Int32) (v2 : Int32) (v3 : Int32) (r : Nat × Int32 × zm_H) : zWr [157, 158] [] (r.2.2) ((f_M_bestOf_l37_a45 v1 v2 v3 r).2.2) := by
  unfold f_M_bestOf_l37_a45
  exact (zWr_tr (f_M_bestOf_l37_k71_w v1 v2 v3 (r.2.2)) (by decide) (by decide) (zWr.refl _ _))
def f_M_bestOf_l37_b (v1 : Int32) (v2 : Int32) (v3 : Int32) (h : zm_H) : Nat × Int32 × zm_H := (if (v1 ≤ v3) then (1, v3, h) else (f_M_bestOf_l37_a45 v1 v2 v3 (f_M_bestOf_l37_l45 v1 v2 v3 zF (0, h))))
def f_M_bestOf_l37_b_ok (v1 : Int32) (v2 : Int32) (v3 : Int32) (h : zm_H) : Prop := (((v1 ≤ v3) → True) ∧ (¬ (v1 ≤ v3) → (f_M_bestOf_l37_l45_ok v1 v2 v3 zF (0, h) ∧ f_M_bestOf_l37_a45_ok v1 v2 v3 (f_M_bestOf_l37_l45 v1 v2 v3 zF (0, h)))))
theorem f_M_bestOf_l37_b_w (v1 : Int32) (v2 : Int32) (v3 : Int32) (h : zm_H) : zWr [157, 158] [] h ((f_M_bestOf_l37_b v1 v2 v3 h).2.2) := by
  unfold f_M_bestOf_l37_b
  exact (zWr_ite (fun z : Nat × Int32 × zm_H => z.2.2) (zWr.refl _ _) (zWr_tr (f_M_bestOf_l37_a45_w v1 v2 v3 (f_M_bestOf_l37_l45 v1 v2 v3 zF (0, h))) (by decide) (by decide) (zWr_tr (f_M_bestOf_l37_l45_w v1 v2 v3 zF (0, h)) (by decide) (by decide) (zWr.refl _ _))))
def f_M_bestOf_l37 (v1 : Int32) (v2 : Int32) (n : Nat) (t : Int32 × zm_H) : Nat × Int32 × zm_H := zwh (fun t => f_M_bestOf_l37_b v1 v2 t.1 t.2) n t
def f_M_bestOf_l37_ok (v1 : Int32) (v2 : Int32) (n : Nat) (t : Int32 × zm_H) : Prop := zwo (fun t => f_M_bestOf_l37_b v1 v2 t.1 t.2) (fun t => f_M_bestOf_l37_b_ok v1 v2 t.1 t.2) n t
theorem f_M_bestOf_l37_w (v1 : Int32) (v2 : Int32) (n : Nat) (t : Int32 × zm_H) : zWr [157, 158] [] (t.2) ((f_M_bestOf_l37 v1 v2 n t).2.2) := by
  unfold f_M_bestOf_l37
  exact zWr_zwh (fun t : Int32 × zm_H => t.2) (fun t => f_M_bestOf_l37_b_w v1 v2 t.1 t.2)
def f_M_bestOf_l219_l245_b (v1 : Int32) (v2 : Int32) (v3 : Int32) (v4 : Int32) (v5 : Int32) (v6 : Int32) (h : zm_H) : Nat × Int32 × Int32 := (if ((zf h 92 72) ≤ v6) then (1, v5, v6) else (0, (if (¬ (v5 = 0) ∧ (((zr h 156 v6) = (-1)) ∨ ((if ((zr h 156 v6) = v1) then (1 : Int32) else 0) = (if (((v4 >>> (v6 &&& 31)) &&& 1) = 0) then (1 : Int32) else 0)))) then (1 : Int32) else 0), (v6 + 1)))
def f_M_bestOf_l219_l245_b_ok (v1 : Int32) (v2 : Int32) (v3 : Int32) (v4 : Int32) (v5 : Int32) (v6 : Int32) (h : zm_H) : Prop := ((((zf h 92 72) ≤ v6) → True) ∧ (¬ ((zf h 92 72) ≤ v6) → (((v5 = 0) → True) ∧ (¬ (v5 = 0) → (vp_in v6 6 ∧ ((((zr h 156 v6) = (-1)) → True) ∧ (¬ ((zr h 156 v6) = (-1)) → vp_in v6 6)))))))
def f_M_bestOf_l219_l245 (v1 : Int32) (v2 : Int32) (v3 : Int32) (v4 : Int32) (h : zm_H) (n : Nat) (t : Int32 × Int32) : Nat × Int32 × Int32 := zwh (fun t => f_M_bestOf_l219_l245_b v1 v2 v3 v4 t.1 t.2 h) n t
def f_M_bestOf_l219_l245_ok (v1 : Int32) (v2 : Int32) (v3 : Int32) (v4 : Int32) (h : zm_H) (n : Nat) (t : Int32 × Int32) : Prop := zwo (fun t => f_M_bestOf_l219_l245_b v1 v2 v3 v4 t.1 t.2 h) (fun t => f_M_bestOf_l219_l245_b_ok v1 v2 v3 v4 t.1 t.2 h) n t
def f_M_bestOf_l219_k317 (v1 : Int32) (v2 : Int32) (v3 : Int32) (v4 : Int32) (v5 : Int32) (h : zm_H) : Nat × Int32 × Int32 := (0, (if (v5 = 0) then (v3 : Int32) else (if ((zr h 157 v4) ≤ v3) then (v3 : Int32) else (zr h 157 v4))), (v4 + 1))
def f_M_bestOf_l219_k317_ok (v1 : Int32) (v2 : Int32) (v3 : Int32) (v4 : Int32) (v5 : Int32) (h : zm_H) : Prop := (((v5 = 0) → True) ∧ (¬ (v5 = 0) → (vp_in v4 64 ∧ ((((zr h 157 v4) ≤ v3) → True) ∧ (¬ ((zr h 157 v4) ≤ v3) → vp_in v4 64)))))
def f_M_bestOf_l219_a245 (v1 : Int32) (v2 : Int32) (v3 : Int32) (v4 : Int32) (r : Nat × Int32 × Int32) (h : zm_H) : Nat × Int32 × Int32 := (f_M_bestOf_l219_k317 v1 v2 v3 v4 (r.2.1) h)
def f_M_bestOf_l219_a245_ok (v1 : Int32) (v2 : Int32) (v3 : Int32) (v4 : Int32) (r : Nat × Int32 × Int32) (h : zm_H) : Prop := (f_M_bestOf_l219_k317_ok v1 v2 v3 v4 (r.2.1) h)
def f_M_bestOf_l219_b (v1 : Int32) (v2 : Int32) (v3 : Int32) (v4 : Int32) (h : zm_H) : Nat × Int32 × Int32 := (if (v2 ≤ v4) then (1, v3, v4) else (f_M_bestOf_l219_a245 v1 v2 v3 v4 (f_M_bestOf_l219_l245 v1 v2 v3 v4 h zF ((if (¬ ((zr h 157 v4) < 0)) then (1 : Int32) else 0), 0)) h))
def f_M_bestOf_l219_b_ok (v1 : Int32) (v2 : Int32) (v3 : Int32) (v4 : Int32) (h : zm_H) : Prop := (((v2 ≤ v4) → True) ∧ (¬ (v2 ≤ v4) → (vp_in v4 64 ∧ (f_M_bestOf_l219_l245_ok v1 v2 v3 v4 h zF ((if (¬ ((zr h 157 v4) < 0)) then (1 : Int32) else 0), 0) ∧ f_M_bestOf_l219_a245_ok v1 v2 v3 v4 (f_M_bestOf_l219_l245 v1 v2 v3 v4 h zF ((if (¬ ((zr h 157 v4) < 0)) then (1 : Int32) else 0), 0)) h))))
def f_M_bestOf_l219 (v1 : Int32) (v2 : Int32) (h : zm_H) (n : Nat) (t : Int32 × Int32) : Nat × Int32 × Int32 := zwh (fun t => f_M_bestOf_l219_b v1 v2 t.1 t.2 h) n t
def f_M_bestOf_l219_ok (v1 : Int32) (v2 : Int32) (h : zm_H) (n : Nat) (t : Int32 × Int32) : Prop := zwo (fun t => f_M_bestOf_l219_b v1 v2 t.1 t.2 h) (fun t => f_M_bestOf_l219_b_ok v1 v2 t.1 t.2 h) n t
def f_M_bestOf_k347 (v3 : Int32) (h : zm_H) : Int32 × zm_H := (v3, h)
def f_M_bestOf_k347_ok (v3 : Int32) (h : zm_H) : Prop := True
theorem f_M_bestOf_k347_w (v3 : Int32) (h : zm_H) : zWr [] [] h ((f_M_bestOf_k347 v3 h).2) := by
  unfold f_M_bestOf_k347
  exact (zWr.refl _ _)
def f_M_bestOf_a219 (r : Nat × Int32 × Int32) (h : zm_H) : Int32 × zm_H := (f_M_bestOf_k347 (r.2.1) h)
def f_M_bestOf_a219_ok (r : Nat × Int32 × Int32) (h : zm_H) : Prop := True
theorem f_M_bestOf_a219_w (r : Nat × Int32 × Int32) (h : zm_H) : zWr [] [] h ((f_M_bestOf_a219 r h).2) := by
  unfold f_M_bestOf_a219
  exact (zWr_tr (f_M_bestOf_k347_w (r.2.1) h) (by decide) (by decide) (zWr.refl _ _))
def f_M_bestOf_k214 (v1 : Int32) (v2 : Int32) (h : zm_H) : Int32 × zm_H := (f_M_bestOf_a219 (f_M_bestOf_l219 v1 v2 h zF ((-1), 0)) h)
def f_M_bestOf_k214_ok (v1 : Int32) (v2 : Int32) (h : zm_H) : Prop := (f_M_bestOf_l219_ok v1 v2 h zF ((-1), 0) ∧ f_M_bestOf_a219_ok (f_M_bestOf_l219 v1 v2 h zF ((-1), 0)) h)
theorem f_M_bestOf_k214_w (v1 : Int32) (v2 : Int32) (h : zm_H) : zWr [] [] h ((f_M_bestOf_k214 v1 v2 h).2) := by
  unfold f_M_bestOf_k214
  exact (zWr_tr (f_M_bestOf_a219_w (f_M_bestOf_l219 v1 v2 h zF ((-1), 0)) h) (by decide) (by decide) (zWr.refl _ _))
def f_M_bestOf_a37 (v1 : Int32) (v2 : Int32) (r : Nat × Int32 × zm_H) : Int32 × zm_H := (f_M_bestOf_k214 v1 v2 (r.2.2))
def f_M_bestOf_a37_ok (v1 : Int32) (v2 : Int32) (r : Nat × Int32 × zm_H) : Prop := (f_M_bestOf_k214_ok v1 v2 (r.2.2))
theorem f_M_bestOf_a37_w (v1 : Int32) (v2 : Int32) (r : Nat × Int32 × zm_H) : zWr [] [] (r.2.2) ((f_M_bestOf_a37 v1 v2 r).2) := by
  unfold f_M_bestOf_a37
  exact (zWr_tr (f_M_bestOf_k214_w v1 v2 (r.2.2)) (by decide) (by decide) (zWr.refl _ _))
def f_M_bestOf_k35 (v1 : Int32) (v2 : Int32) (h : zm_H) : Int32 × zm_H := (f_M_bestOf_a37 v1 v2 (f_M_bestOf_l37 v1 v2 zF (0, h)))
def f_M_bestOf_k35_ok (v1 : Int32) (v2 : Int32) (h : zm_H) : Prop := (f_M_bestOf_l37_ok v1 v2 zF (0, h) ∧ f_M_bestOf_a37_ok v1 v2 (f_M_bestOf_l37 v1 v2 zF (0, h)))
theorem f_M_bestOf_k35_w (v1 : Int32) (v2 : Int32) (h : zm_H) : zWr [157, 158] [] h ((f_M_bestOf_k35 v1 v2 h).2) := by
  unfold f_M_bestOf_k35
  exact (zWr_tr (f_M_bestOf_a37_w v1 v2 (f_M_bestOf_l37 v1 v2 zF (0, h))) (by decide) (by decide) (zWr_tr (f_M_bestOf_l37_w v1 v2 zF (0, h)) (by decide) (by decide) (zWr.refl _ _)))
def f_M_bestOf_a9 (v1 : Int32) (v2 : Int32) (r : Nat × Int32 × zm_H) : Int32 × zm_H := (f_M_bestOf_k35 v1 v2 (r.2.2))
def f_M_bestOf_a9_ok (v1 : Int32) (v2 : Int32) (r : Nat × Int32 × zm_H) : Prop := (f_M_bestOf_k35_ok v1 v2 (r.2.2))
theorem f_M_bestOf_a9_w (v1 : Int32) (v2 : Int32) (r : Nat × Int32 × zm_H) : zWr [157, 158] [] (r.2.2) ((f_M_bestOf_a9 v1 v2 r).2) := by
  unfold f_M_bestOf_a9
  exact (zWr_tr (f_M_bestOf_k35_w v1 v2 (r.2.2)) (by decide) (by decide) (zWr.refl _ _))
def f_M_bestOf (p1 : Int32) (h : zm_H) : Int32 × zm_H := (f_M_bestOf_a9 p1 (1 <<< ((zf h 92 72) &&& 31)) (f_M_bestOf_l9 p1 (1 <<< ((zf h 92 72) &&& 31)) zF (0, h)))
def f_M_bestOf_ok (p1 : Int32) (h : zm_H) : Prop := (f_M_bestOf_l9_ok p1 (1 <<< ((zf h 92 72) &&& 31)) zF (0, h) ∧ f_M_bestOf_a9_ok p1 (1 <<< ((zf h 92 72) &&& 31)) (f_M_bestOf_l9 p1 (1 <<< ((zf h 92 72) &&& 31)) zF (0, h)))
theorem f_M_bestOf_w (p1 : Int32) (h : zm_H) : zWr [157, 158] [] h ((f_M_bestOf p1 h).2) := by
  unfold f_M_bestOf
  exact (zWr_tr (f_M_bestOf_a9_w p1 (1 <<< ((zf h 92 72) &&& 31)) (f_M_bestOf_l9 p1 (1 <<< ((zf h 92 72) &&& 31)) zF (0, h))) (by decide) (by decide) (zWr_tr (f_M_bestOf_l9_w p1 (1 <<< ((zf h 92 72) &&& 31)) zF (0, h)) (by decide) (by decide) (zWr.refl _ _)))
def f_M_plan_l84_l98_k103 (v2 : Int32) (v3 : Int32) (v4 : Int32) (v5 : Int32) (w0 : Int32) (h : zm_H) : Nat × zm_H := (if (w0 = v4) then (1, h) else (0, (zs h 156 v5 ((zr h 156 v5) + 1))))
def f_M_plan_l84_l98_k103_ok (v2 : Int32) (v3 : Int32) (v4 : Int32) (v5 : Int32) (w0 : Int32) (h : zm_H) : Prop := (((w0 = v4) → True) ∧ (¬ (w0 = v4) → (vp_in v5 6 ∧ vp_in v5 6)))
theorem f_M_plan_l84_l98_k103_w (v2 : Int32) (v3 : Int32) (v4 : Int32) (v5 : Int32) (w0 : Int32) (h : zm_H) : zWr [156] [] h ((f_M_plan_l84_l98_k103 v2 v3 v4 v5 w0 h).2) := by
  unfold f_M_plan_l84_l98_k103
  exact (zWr_ite (fun z : Nat × zm_H => z.2) (zWr.refl _ _) (zWr_si (by decide) (zWr.refl _ _)))
def f_M_plan_l84_l98_b (v2 : Int32) (v3 : Int32) (v4 : Int32) (v5 : Int32) (h : zm_H) : Nat × zm_H := (f_M_plan_l84_l98_k103 v2 v3 v4 v5 (f_M_bestOf v3 h).1 (f_M_bestOf v3 h).2)
def f_M_plan_l84_l98_b_ok (v2 : Int32) (v3 : Int32) (v4 : Int32) (v5 : Int32) (h : zm_H) : Prop := (f_M_bestOf_ok v3 h ∧ (f_M_plan_l84_l98_k103_ok v2 v3 v4 v5 (f_M_bestOf v3 h).1 (f_M_bestOf v3 h).2))
theorem f_M_plan_l84_l98_b_w (v2 : Int32) (v3 : Int32) (v4 : Int32) (v5 : Int32) (h : zm_H) : zWr [156, 157, 158] [] h ((f_M_plan_l84_l98_b v2 v3 v4 v5 h).2) := by
  unfold f_M_plan_l84_l98_b
  exact (zWr_tr (f_M_plan_l84_l98_k103_w v2 v3 v4 v5 (f_M_bestOf v3 h).1 (f_M_bestOf v3 h).2) (by decide) (by decide) (zWr_tr (f_M_bestOf_w v3 h) (by decide) (by decide) (zWr.refl _ _)))
def f_M_plan_l84_l98 (v2 : Int32) (v3 : Int32) (v4 : Int32) (v5 : Int32) (n : Nat) (t : zm_H) : Nat × zm_H := zwh (fun t => f_M_plan_l84_l98_b v2 v3 v4 v5 t) n t
def f_M_plan_l84_l98_ok (v2 : Int32) (v3 : Int32) (v4 : Int32) (v5 : Int32) (n : Nat) (t : zm_H) : Prop := zwo (fun t => f_M_plan_l84_l98_b v2 v3 v4 v5 t) (fun t => f_M_plan_l84_l98_b_ok v2 v3 v4 v5 t) n t
theorem f_M_plan_l84_l98_w (v2 : Int32) (v3 : Int32) (v4 : Int32) (v5 : Int32) (n : Nat) (t : zm_H) : zWr [156, 157, 158] [] (t) ((f_M_plan_l84_l98 v2 v3 v4 v5 n t).2) := by
  unfold f_M_plan_l84_l98
  exact zWr_zwh (fun t : zm_H => t) (fun t => f_M_plan_l84_l98_b_w v2 v3 v4 v5 t)
def f_M_plan_l84_k122 (v2 : Int32) (v3 : Int32) (v4 : Int32) (v5 : Int32) (h : zm_H) : Nat × Int32 × zm_H := (0, (v5 + 1), h)
def f_M_plan_l84_k122_ok (v2 : Int32) (v3 : Int32) (v4 : Int32) (v5 : Int32) (h : zm_H) : Prop := True
theorem f_M_plan_l84_k122_w (v2 : Int32) (v3 : Int32) (v4 : Int32) (v5 : Int32) (h : zm_H) : zWr [] [] h ((f_M_plan_l84_k122 v2 v3 v4 v5 h).2.2) := by
  unfold f_M_plan_l84_k122
  exact (zWr.refl _ _)
def f_M_plan_l84_a98 (v2 : Int32) (v3 : Int32) (v4 : Int32) (v5 : Int32) (r : Nat × zm_H) : Nat × Int32 × zm_H := (f_M_plan_l84_k122 v2 v3 v4 v5 (r.2))
def f_M_plan_l84_a98_ok (v2 : Int32) (v3 : Int32) (v4 : Int32) (v5 : Int32) (r : Nat × zm_H) : Prop := True
theorem f_M_plan_l84_a98_w (v2 : Int32) (v3 : Int32) (v4 : Int32) (v5 : Int32) (r : Nat × zm_H) : zWr [] [] (r.2) ((f_M_plan_l84_a98 v2 v3 v4 v5 r).2.2) := by
  unfold f_M_plan_l84_a98
  exact (zWr_tr (f_M_plan_l84_k122_w v2 v3 v4 v5 (r.2)) (by decide) (by decide) (zWr.refl _ _))
def f_M_plan_l84_b (v2 : Int32) (v3 : Int32) (v4 : Int32) (v5 : Int32) (h : zm_H) : Nat × Int32 × zm_H := (if (v2 < v5) then (1, v5, h) else (f_M_plan_l84_a98 v2 v3 v4 v5 (f_M_plan_l84_l98 v2 v3 v4 v5 zF (zs h 156 v5 0))))
def f_M_plan_l84_b_ok (v2 : Int32) (v3 : Int32) (v4 : Int32) (v5 : Int32) (h : zm_H) : Prop := (((v2 < v5) → True) ∧ (¬ (v2 < v5) → (vp_in v5 6 ∧ (f_M_plan_l84_l98_ok v2 v3 v4 v5 zF (zs h 156 v5 0) ∧ f_M_plan_l84_a98_ok v2 v3 v4 v5 (f_M_plan_l84_l98 v2 v3 v4 v5 zF (zs h 156 v5 0))))))
theorem f_M_plan_l84_b_w (v2 : Int32) (v3 : Int32) (v4 : Int32) (v5 : Int32) (h : zm_H) : zWr [156, 157, 158] [] h ((f_M_plan_l84_b v2 v3 v4 v5 h).2.2) := by
  unfold f_M_plan_l84_b
  exact (zWr_ite (fun z : Nat × Int32 × zm_H => z.2.2) (zWr.refl _ _) (zWr_tr (f_M_plan_l84_a98_w v2 v3 v4 v5 (f_M_plan_l84_l98 v2 v3 v4 v5 zF (zs h 156 v5 0))) (by decide) (by decide) (zWr_tr (f_M_plan_l84_l98_w v2 v3 v4 v5 zF (zs h 156 v5 0)) (by decide) (by decide) (zWr_si (by decide) (zWr.refl _ _)))))
def f_M_plan_l84 (v2 : Int32) (v3 : Int32) (v4 : Int32) (n : Nat) (t : Int32 × zm_H) : Nat × Int32 × zm_H := zwh (fun t => f_M_plan_l84_b v2 v3 v4 t.1 t.2) n t
def f_M_plan_l84_ok (v2 : Int32) (v3 : Int32) (v4 : Int32) (n : Nat) (t : Int32 × zm_H) : Prop := zwo (fun t => f_M_plan_l84_b v2 v3 v4 t.1 t.2) (fun t => f_M_plan_l84_b_ok v2 v3 v4 t.1 t.2) n t
theorem f_M_plan_l84_w (v2 : Int32) (v3 : Int32) (v4 : Int32) (n : Nat) (t : Int32 × zm_H) : zWr [156, 157, 158] [] (t.2) ((f_M_plan_l84 v2 v3 v4 n t).2.2) := by
  unfold f_M_plan_l84
  exact zWr_zwh (fun t : Int32 × zm_H => t.2) (fun t => f_M_plan_l84_b_w v2 v3 v4 t.1 t.2)
def f_M_plan_k128 (v2 : Int32) (v3 : Int32) (h : zm_H) : Int32 × zm_H := ((if ((zr h 156 v2) = v3) then ((-1) : Int32) else (zr h 156 v2)), h)
def f_M_plan_k128_ok (v2 : Int32) (v3 : Int32) (h : zm_H) : Prop := (vp_in v2 6 ∧ ((((zr h 156 v2) = v3) → True) ∧ (¬ ((zr h 156 v2) = v3) → vp_in v2 6)))
theorem f_M_plan_k128_w (v2 : Int32) (v3 : Int32) (h : zm_H) : zWr [] [] h ((f_M_plan_k128 v2 v3 h).2) := by
  unfold f_M_plan_k128
  exact (zWr.refl _ _)
def f_M_plan_a84 (v2 : Int32) (v3 : Int32) (r : Nat × Int32 × zm_H) : Int32 × zm_H := (f_M_plan_k128 v2 v3 (r.2.2))
def f_M_plan_a84_ok (v2 : Int32) (v3 : Int32) (r : Nat × Int32 × zm_H) : Prop := (f_M_plan_k128_ok v2 v3 (r.2.2))
theorem f_M_plan_a84_w (v2 : Int32) (v3 : Int32) (r : Nat × Int32 × zm_H) : zWr [] [] (r.2.2) ((f_M_plan_a84 v2 v3 r).2) := by
  unfold f_M_plan_a84
  exact (zWr_tr (f_M_plan_k128_w v2 v3 (r.2.2)) (by decide) (by decide) (zWr.refl _ _))
def f_M_plan_k63 (v2 : Int32) (v3 : Int32) (w0 : Int32) (h : zm_H) : Int32 × zm_H := (if (v2 = (-1)) then (((w0 + 999) / 1000), h) else (f_M_plan_a84 v2 v3 (f_M_plan_l84 v2 v3 w0 zF (0, h))))
def f_M_plan_k63_ok (v2 : Int32) (v3 : Int32) (w0 : Int32) (h : zm_H) : Prop := (((v2 = (-1)) → True) ∧ (¬ (v2 = (-1)) → (f_M_plan_l84_ok v2 v3 w0 zF (0, h) ∧ f_M_plan_a84_ok v2 v3 (f_M_plan_l84 v2 v3 w0 zF (0, h)))))
theorem f_M_plan_k63_w (v2 : Int32) (v3 : Int32) (w0 : Int32) (h : zm_H) : zWr [156, 157, 158] [] h ((f_M_plan_k63 v2 v3 w0 h).2) := by
  unfold f_M_plan_k63
  exact (zWr_ite (fun z : Int32 × zm_H => z.2) (zWr.refl _ _) (zWr_tr (f_M_plan_a84_w v2 v3 (f_M_plan_l84 v2 v3 w0 zF (0, h))) (by decide) (by decide) (zWr_tr (f_M_plan_l84_w v2 v3 w0 zF (0, h)) (by decide) (by decide) (zWr.refl _ _))))
def f_M_plan_k58 (v2 : Int32) (v3 : Int32) (h : zm_H) : Int32 × zm_H := (f_M_plan_k63 v2 v3 (f_M_bestOf v3 h).1 (f_M_bestOf v3 h).2)
def f_M_plan_k58_ok (v2 : Int32) (v3 : Int32) (h : zm_H) : Prop := (f_M_bestOf_ok v3 h ∧ (f_M_plan_k63_ok v2 v3 (f_M_bestOf v3 h).1 (f_M_bestOf v3 h).2))
theorem f_M_plan_k58_w (v2 : Int32) (v3 : Int32) (h : zm_H) : zWr [156, 157, 158] [] h ((f_M_plan_k58 v2 v3 h).2) := by
  unfold f_M_plan_k58
  exact (zWr_tr (f_M_plan_k63_w v2 v3 (f_M_bestOf v3 h).1 (f_M_bestOf v3 h).2) (by decide) (by decide) (zWr_tr (f_M_bestOf_w v3 h) (by decide) (by decide) (zWr.refl _ _)))
def f_M_plan_a35 (v2 : Int32) (v3 : Int32) (r : Nat × Int32 × zm_H) : Int32 × zm_H := (f_M_plan_k58 v2 v3 (r.2.2))
def f_M_plan_a35_ok (v2 : Int32) (v3 : Int32) (r : Nat × Int32 × zm_H) : Prop := (f_M_plan_k58_ok v2 v3 (r.2.2))
theorem f_M_plan_a35_w (v2 : Int32) (v3 : Int32) (r : Nat × Int32 × zm_H) : zWr [156, 157, 158] [] (r.2.2) ((f_M_plan_a35 v2 v3 r).2) := by
  unfold f_M_plan_a35
  exact (zWr_tr (f_M_plan_k58_w v2 v3 (r.2.2)) (by decide) (by decide) (zWr.refl _ _))
def f_M_plan_k32 (v2 : Int32) (v3 : Int32) (h : zm_H) : Int32 × zm_H := (f_M_plan_a35 v2 v3 (f_M_plan_l35 v2 v3 zF (0, h)))
def f_M_plan_k32_ok (v2 : Int32) (v3 : Int32) (h : zm_H) : Prop := (f_M_plan_l35_ok v2 v3 zF (0, h) ∧ f_M_plan_a35_ok v2 v3 (f_M_plan_l35 v2 v3 zF (0, h)))
theorem f_M_plan_k32_w (v2 : Int32) (v3 : Int32) (h : zm_H) : zWr [156, 157, 158] [] h ((f_M_plan_k32 v2 v3 h).2) := by
  unfold f_M_plan_k32
  exact (zWr_tr (f_M_plan_a35_w v2 v3 (f_M_plan_l35 v2 v3 zF (0, h))) (by decide) (by decide) (zWr_tr (f_M_plan_l35_w v2 v3 zF (0, h)) (by decide) (by decide) (zWr.refl _ _)))
def f_M_plan_k5 (v2 : Int32) (w0 : Int32) (h : zm_H) : Int32 × zm_H := (if (w0 = (-1)) then ((-1), h) else (if (v2 = (-1)) then (f_M_plan_k32 v2 w0 h) else (if (¬ (v2 < 0) ∧ (¬ (((zf h 92 72) - 1) < v2))) then (f_M_plan_k32 v2 w0 h) else ((-1), h))))
def f_M_plan_k5_ok (v2 : Int32) (w0 : Int32) (h : zm_H) : Prop := (((w0 = (-1)) → True) ∧ (¬ (w0 = (-1)) → (((v2 = (-1)) → (f_M_plan_k32_ok v2 w0 h)) ∧ (¬ (v2 = (-1)) → (((¬ (v2 < 0) ∧ (¬ (((zf h 92 72) - 1) < v2))) → (f_M_plan_k32_ok v2 w0 h)) ∧ (¬ (¬ (v2 < 0) ∧ (¬ (((zf h 92 72) - 1) < v2))) → True))))))
theorem f_M_plan_k5_w (v2 : Int32) (w0 : Int32) (h : zm_H) : zWr [156, 157, 158] [] h ((f_M_plan_k5 v2 w0 h).2) := by
  unfold f_M_plan_k5
  exact (zWr_ite (fun z : Int32 × zm_H => z.2) (zWr.refl _ _) (zWr_ite (fun z : Int32 × zm_H => z.2) (zWr_tr (f_M_plan_k32_w v2 w0 h) (by decide) (by decide) (zWr.refl _ _)) (zWr_ite (fun z : Int32 × zm_H => z.2) (zWr_tr (f_M_plan_k32_w v2 w0 h) (by decide) (by decide) (zWr.refl _ _)) (zWr.refl _ _))))
def f_M_plan (p1 : Int32) (p2 : Int32) (h : zm_H) : Int32 × zm_H := (f_M_plan_k5 p2 (f_M_windows p1 h).1 (f_M_windows p1 h).2)
def f_M_plan_ok (p1 : Int32) (p2 : Int32) (h : zm_H) : Prop := (f_M_windows_ok p1 h ∧ (f_M_plan_k5_ok p2 (f_M_windows p1 h).1 (f_M_windows p1 h).2))
theorem f_M_plan_w (p1 : Int32) (p2 : Int32) (h : zm_H) : zWr [149, 150, 154, 155, 156, 157, 158] [(92, 79), (92, 80), (92, 81)] h ((f_M_plan p1 p2 h).2) := by
  unfold f_M_plan
  exact (zWr_tr (f_M_plan_k5_w p2 (f_M_windows p1 h).1 (f_M_windows p1 h).2) (by decide) (by decide) (zWr_tr (f_M_windows_w p1 h) (by decide) (by decide) (zWr.refl _ _)))
def f_Ground_addPlace_l2_b (v1 : Int32) (v2 : Int32) (h : zm_H) : Nat × Int32 := (if ((zf h 82 7) ≤ v2) then (2, v2) else (if ((zr h 86 v2) = v1) then (1, v2) else (0, (v2 + 1))))
def f_Ground_addPlace_l2_b_ok (v1 : Int32) (v2 : Int32) (h : zm_H) : Prop := ((((zf h 82 7) ≤ v2) → True) ∧ (¬ ((zf h 82 7) ≤ v2) → vp_in v2 8))
def f_Ground_addPlace_l2 (v1 : Int32) (h : zm_H) (n : Nat) (t : Int32) : Nat × Int32 := zwh (fun t => f_Ground_addPlace_l2_b v1 t h) n t
def f_Ground_addPlace_l2_ok (v1 : Int32) (h : zm_H) (n : Nat) (t : Int32) : Prop := zwo (fun t => f_Ground_addPlace_l2_b v1 t h) (fun t => f_Ground_addPlace_l2_b_ok v1 t h) n t
def f_Ground_addPlace_k20 (h : zm_H) : Int32 × zm_H := ((-1), h)
def f_Ground_addPlace_k20_ok (h : zm_H) : Prop := True
theorem f_Ground_addPlace_k20_w (h : zm_H) : zWr [] [] h ((f_Ground_addPlace_k20 h).2) := by
  unfold f_Ground_addPlace_k20
  exact (zWr.refl _ _)
def f_Ground_addPlace_k28 (v1 : Int32) (h : zm_H) : Int32 × zm_H := (if ((zf h 82 7) < 8) then (((zf h 82 7) + 1), (zp (zs h 86 (zf h 82 7) v1) 82 7 ((zf h 82 7) + 1))) else ((-1), h))
def f_Ground_addPlace_k28_ok (v1 : Int32) (h : zm_H) : Prop := ((((zf h 82 7) < 8) → vp_in (zf h 82 7) 8) ∧ (¬ ((zf h 82 7) < 8) → True))
theorem f_Ground_addPlace_k28_w (v1 : Int32) (h : zm_H) : zWr [86] [(82, 7)] h ((f_Ground_addPlace_k28 v1 h).2) := by
  unfold f_Ground_addPlace_k28
  exact (zWr_ite (fun z : Int32 × zm_H => z.2) (zWr_p (by decide) (zWr_si (by decide) (zWr.refl _ _))) (zWr.refl _ _))
def f_Ground_addPlace_a2 (v1 : Int32) (r : Nat × Int32) (h : zm_H) : Int32 × zm_H := (if r.1 = 1 then (f_Ground_addPlace_k20 h) else (f_Ground_addPlace_k28 v1 h))
def f_Ground_addPlace_a2_ok (v1 : Int32) (r : Nat × Int32) (h : zm_H) : Prop := ((r.1 = 1 → True) ∧ (¬ r.1 = 1 → (f_Ground_addPlace_k28_ok v1 h)))
theorem f_Ground_addPlace_a2_w (v1 : Int32) (r : Nat × Int32) (h : zm_H) : zWr [86] [(82, 7)] h ((f_Ground_addPlace_a2 v1 r h).2) := by
  unfold f_Ground_addPlace_a2
  exact (zWr_ite (fun z : Int32 × zm_H => z.2) (zWr_tr (f_Ground_addPlace_k20_w h) (by decide) (by decide) (zWr.refl _ _)) (zWr_tr (f_Ground_addPlace_k28_w v1 h) (by decide) (by decide) (zWr.refl _ _)))
def f_Ground_addPlace (p1 : Int32) (h : zm_H) : Int32 × zm_H := (f_Ground_addPlace_a2 p1 (f_Ground_addPlace_l2 p1 h zF 0) h)
def f_Ground_addPlace_ok (p1 : Int32) (h : zm_H) : Prop := (f_Ground_addPlace_l2_ok p1 h zF 0 ∧ f_Ground_addPlace_a2_ok p1 (f_Ground_addPlace_l2 p1 h zF 0) h)
theorem f_Ground_addPlace_w (p1 : Int32) (h : zm_H) : zWr [86] [(82, 7)] h ((f_Ground_addPlace p1 h).2) := by
  unfold f_Ground_addPlace
  exact (zWr_tr (f_Ground_addPlace_a2_w p1 (f_Ground_addPlace_l2 p1 h zF 0) h) (by decide) (by decide) (zWr.refl _ _))
def f_N_place (p1 : Int32) (h : zm_H) : Int32 × zm_H := (if (¬ (p1 < 0) ∧ (¬ (100 ≤ p1) ∧ (¬ (5 ≤ (zm_rm p1 10))))) then (f_Ground_addPlace p1 h) else ((-1), h))
def f_N_place_ok (p1 : Int32) (h : zm_H) : Prop := (((¬ (p1 < 0) ∧ (¬ (100 ≤ p1) ∧ (¬ (5 ≤ (zm_rm p1 10))))) → f_Ground_addPlace_ok p1 h) ∧ (¬ (¬ (p1 < 0) ∧ (¬ (100 ≤ p1) ∧ (¬ (5 ≤ (zm_rm p1 10))))) → True))
theorem f_N_place_w (p1 : Int32) (h : zm_H) : zWr [86] [(82, 7)] h ((f_N_place p1 h).2) := by
  unfold f_N_place
  exact (zWr_ite (fun z : Int32 × zm_H => z.2) (zWr_tr (f_Ground_addPlace_w p1 h) (by decide) (by decide) (zWr.refl _ _)) (zWr.refl _ _))
def f_M_place_l20_b (v1 : Int32) (v2 : Int32) (h : zm_H) : Nat × Int32 := (if ((zf h 92 75) ≤ v2) then (2, v2) else (if ((zr h 148 v2) = v1) then (1, v2) else (0, (v2 + 1))))
def f_M_place_l20_b_ok (v1 : Int32) (v2 : Int32) (h : zm_H) : Prop := ((((zf h 92 75) ≤ v2) → True) ∧ (¬ ((zf h 92 75) ≤ v2) → vp_in v2 8))
def f_M_place_l20 (v1 : Int32) (h : zm_H) (n : Nat) (t : Int32) : Nat × Int32 := zwh (fun t => f_M_place_l20_b v1 t h) n t
def f_M_place_l20_ok (v1 : Int32) (h : zm_H) (n : Nat) (t : Int32) : Prop := zwo (fun t => f_M_place_l20_b v1 t h) (fun t => f_M_place_l20_b_ok v1 t h) n t
def f_M_place_k38 (h : zm_H) : Int32 × zm_H := ((-1), h)
def f_M_place_k38_ok (h : zm_H) : Prop := True
theorem f_M_place_k38_w (h : zm_H) : zWr [] [] h ((f_M_place_k38 h).2) := by
  unfold f_M_place_k38
  exact (zWr.refl _ _)
def f_M_place_k46 (v1 : Int32) (h : zm_H) : Int32 × zm_H := (((zf h 92 75) + 1), (zp (zs h 148 (zf h 92 75) v1) 92 75 ((zf h 92 75) + 1)))
def f_M_place_k46_ok (v1 : Int32) (h : zm_H) : Prop := vp_in (zf h 92 75) 8
theorem f_M_place_k46_w (v1 : Int32) (h : zm_H) : zWr [148] [(92, 75)] h ((f_M_place_k46 v1 h).2) := by
  unfold f_M_place_k46
  exact (zWr_p (by decide) (zWr_si (by decide) (zWr.refl _ _)))
def f_M_place_a20 (v1 : Int32) (r : Nat × Int32) (h : zm_H) : Int32 × zm_H := (if r.1 = 1 then (f_M_place_k38 h) else (f_M_place_k46 v1 h))
def f_M_place_a20_ok (v1 : Int32) (r : Nat × Int32) (h : zm_H) : Prop := ((r.1 = 1 → True) ∧ (¬ r.1 = 1 → (f_M_place_k46_ok v1 h)))
theorem f_M_place_a20_w (v1 : Int32) (r : Nat × Int32) (h : zm_H) : zWr [148] [(92, 75)] h ((f_M_place_a20 v1 r h).2) := by
  unfold f_M_place_a20
  exact (zWr_ite (fun z : Int32 × zm_H => z.2) (zWr_tr (f_M_place_k38_w h) (by decide) (by decide) (zWr.refl _ _)) (zWr_tr (f_M_place_k46_w v1 h) (by decide) (by decide) (zWr.refl _ _)))
def f_M_place (p1 : Int32) (h : zm_H) : Int32 × zm_H := (if (¬ (p1 < 0) ∧ (¬ (10 ≤ (p1 / 10)) ∧ (¬ (5 ≤ (zm_rm p1 10))))) then (if ((zf h 92 75) = 8) then ((-1), h) else (f_M_place_a20 p1 (f_M_place_l20 p1 h zF 0) h)) else ((-1), h))
def f_M_place_ok (p1 : Int32) (h : zm_H) : Prop := (((¬ (p1 < 0) ∧ (¬ (10 ≤ (p1 / 10)) ∧ (¬ (5 ≤ (zm_rm p1 10))))) → ((((zf h 92 75) = 8) → True) ∧ (¬ ((zf h 92 75) = 8) → (f_M_place_l20_ok p1 h zF 0 ∧ f_M_place_a20_ok p1 (f_M_place_l20 p1 h zF 0) h)))) ∧ (¬ (¬ (p1 < 0) ∧ (¬ (10 ≤ (p1 / 10)) ∧ (¬ (5 ≤ (zm_rm p1 10))))) → True))
theorem f_M_place_w (p1 : Int32) (h : zm_H) : zWr [148] [(92, 75)] h ((f_M_place p1 h).2) := by
  unfold f_M_place
  exact (zWr_ite (fun z : Int32 × zm_H => z.2) (zWr_ite (fun z : Int32 × zm_H => z.2) (zWr.refl _ _) (zWr_tr (f_M_place_a20_w p1 (f_M_place_l20 p1 h zF 0) h) (by decide) (by decide) (zWr.refl _ _))) (zWr.refl _ _))
def f_N_clear (h : zm_H) : Int32 × zm_H := ((zf h 82 7), (zp h 82 7 0))
def f_N_clear_ok (h : zm_H) : Prop := True
theorem f_N_clear_w (h : zm_H) : zWr [] [(82, 7)] h ((f_N_clear h).2) := by
  unfold f_N_clear
  exact (zWr_p (by decide) (zWr.refl _ _))
def f_M_clear (h : zm_H) : Int32 × zm_H := ((zf h 92 75), (zp h 92 75 0))
def f_M_clear_ok (h : zm_H) : Prop := True
theorem f_M_clear_w (h : zm_H) : zWr [] [(92, 75)] h ((f_M_clear h).2) := by
  unfold f_M_clear
  exact (zWr_p (by decide) (zWr.refl _ _))
def f_Ground_chooseRafts_l22_b (v3 : Int32) (v4 : Int32) (v5 : Int32) (h : zm_H) : Nat × Int32 × Int32 × Int32 × zm_H := (if (v5 < 0) then (2, v3, v4, v5, h) else (if (v3 < 0) then (1, v3, v4, v5, h) else (if ((zf h 23 0) ≤ (zm_rm v3 10)) then (1, v3, v4, v5, h) else (if ((zr h 38 (zm_rm v3 10)) = 0) then (if (((v4 >>> ((zm_rm v3 10) &&& 31)) &&& 1) = 0) then (0, (v3 / 10), (v4 ||| (1 <<< ((zm_rm v3 10) &&& 31))), (v5 + (-1)), (zs h 87 v5 (zm_rm v3 10))) else (1, v3, v4, v5, h)) else (1, v3, v4, v5, h)))))
def f_Ground_chooseRafts_l22_b_ok (v3 : Int32) (v4 : Int32) (v5 : Int32) (h : zm_H) : Prop := (((v5 < 0) → True) ∧ (¬ (v5 < 0) → (((v3 < 0) → True) ∧ (¬ (v3 < 0) → ((((zf h 23 0) ≤ (zm_rm v3 10)) → True) ∧ (¬ ((zf h 23 0) ≤ (zm_rm v3 10)) → (vp_in (zm_rm v3 10) 10 ∧ ((((zr h 38 (zm_rm v3 10)) = 0) → (((((v4 >>> ((zm_rm v3 10) &&& 31)) &&& 1) = 0) → vp_in v5 3) ∧ (¬ (((v4 >>> ((zm_rm v3 10) &&& 31)) &&& 1) = 0) → True))) ∧ (¬ ((zr h 38 (zm_rm v3 10)) = 0) → True)))))))))
theorem f_Ground_chooseRafts_l22_b_w (v3 : Int32) (v4 : Int32) (v5 : Int32) (h : zm_H) : zWr [87] [] h ((f_Ground_chooseRafts_l22_b v3 v4 v5 h).2.2.2.2) := by
  unfold f_Ground_chooseRafts_l22_b
  exact (zWr_ite (fun z : Nat × Int32 × Int32 × Int32 × zm_H => z.2.2.2.2) (zWr.refl _ _) (zWr_ite (fun z : Nat × Int32 × Int32 × Int32 × zm_H => z.2.2.2.2) (zWr.refl _ _) (zWr_ite (fun z : Nat × Int32 × Int32 × Int32 × zm_H => z.2.2.2.2) (zWr.refl _ _) (zWr_ite (fun z : Nat × Int32 × Int32 × Int32 × zm_H => z.2.2.2.2) (zWr_ite (fun z : Nat × Int32 × Int32 × Int32 × zm_H => z.2.2.2.2) (zWr_si (by decide) (zWr.refl _ _)) (zWr.refl _ _)) (zWr.refl _ _)))))
def f_Ground_chooseRafts_l22 (n : Nat) (t : Int32 × Int32 × Int32 × zm_H) : Nat × Int32 × Int32 × Int32 × zm_H := zwh (fun t => f_Ground_chooseRafts_l22_b t.1 t.2.1 t.2.2.1 t.2.2.2) n t
def f_Ground_chooseRafts_l22_ok (n : Nat) (t : Int32 × Int32 × Int32 × zm_H) : Prop := zwo (fun t => f_Ground_chooseRafts_l22_b t.1 t.2.1 t.2.2.1 t.2.2.2) (fun t => f_Ground_chooseRafts_l22_b_ok t.1 t.2.1 t.2.2.1 t.2.2.2) n t
theorem f_Ground_chooseRafts_l22_w (n : Nat) (t : Int32 × Int32 × Int32 × zm_H) : zWr [87] [] (t.2.2.2) ((f_Ground_chooseRafts_l22 n t).2.2.2.2) := by
  unfold f_Ground_chooseRafts_l22
  exact zWr_zwh (fun t : Int32 × Int32 × Int32 × zm_H => t.2.2.2) (fun t => f_Ground_chooseRafts_l22_b_w t.1 t.2.1 t.2.2.1 t.2.2.2)
def f_Ground_chooseRafts_k75 (h : zm_H) : Int32 × zm_H := (0, h)
def f_Ground_chooseRafts_k75_ok (h : zm_H) : Prop := True
theorem f_Ground_chooseRafts_k75_w (h : zm_H) : zWr [] [] h ((f_Ground_chooseRafts_k75 h).2) := by
  unfold f_Ground_chooseRafts_k75
  exact (zWr.refl _ _)
def f_Ground_chooseRafts_k106 (v3 : Int32) (h : zm_H) : Int32 × zm_H := ((if (v3 = 0) then (1 : Int32) else 0), h)
def f_Ground_chooseRafts_k106_ok (v3 : Int32) (h : zm_H) : Prop := True
theorem f_Ground_chooseRafts_k106_w (v3 : Int32) (h : zm_H) : zWr [] [] h ((f_Ground_chooseRafts_k106 v3 h).2) := by
  unfold f_Ground_chooseRafts_k106
  exact (zWr.refl _ _)
def f_Ground_chooseRafts_a22 (r : Nat × Int32 × Int32 × Int32 × zm_H) : Int32 × zm_H := (if r.1 = 1 then (f_Ground_chooseRafts_k75 (r.2.2.2.2)) else (f_Ground_chooseRafts_k106 (r.2.1) (r.2.2.2.2)))
def f_Ground_chooseRafts_a22_ok (r : Nat × Int32 × Int32 × Int32 × zm_H) : Prop := ((r.1 = 1 → True) ∧ (¬ r.1 = 1 → True))
theorem f_Ground_chooseRafts_a22_w (r : Nat × Int32 × Int32 × Int32 × zm_H) : zWr [] [] (r.2.2.2.2) ((f_Ground_chooseRafts_a22 r).2) := by
  unfold f_Ground_chooseRafts_a22
  exact (zWr_ite (fun z : Int32 × zm_H => z.2) (zWr_tr (f_Ground_chooseRafts_k75_w (r.2.2.2.2)) (by decide) (by decide) (zWr.refl _ _)) (zWr_tr (f_Ground_chooseRafts_k106_w (r.2.1) (r.2.2.2.2)) (by decide) (by decide) (zWr.refl _ _)))
def f_Ground_chooseRafts (p1 : Int32) (p2 : Int32) (h : zm_H) : Int32 × zm_H := (f_Ground_chooseRafts_a22 (f_Ground_chooseRafts_l22 zF (p1, 0, ((if 3 < p2 then 3 else p2) - 1), (zp h 82 9 (if 3 < p2 then 3 else p2)))))
def f_Ground_chooseRafts_ok (p1 : Int32) (p2 : Int32) (h : zm_H) : Prop := (f_Ground_chooseRafts_l22_ok zF (p1, 0, ((if 3 < p2 then 3 else p2) - 1), (zp h 82 9 (if 3 < p2 then 3 else p2))) ∧ f_Ground_chooseRafts_a22_ok (f_Ground_chooseRafts_l22 zF (p1, 0, ((if 3 < p2 then 3 else p2) - 1), (zp h 82 9 (if 3 < p2 then 3 else p2)))))
theorem f_Ground_chooseRafts_w (p1 : Int32) (p2 : Int32) (h : zm_H) : zWr [87] [(82, 9)] h ((f_Ground_chooseRafts p1 p2 h).2) := by
  unfold f_Ground_chooseRafts
  exact (zWr_tr (f_Ground_chooseRafts_a22_w (f_Ground_chooseRafts_l22 zF (p1, 0, ((if 3 < p2 then 3 else p2) - 1), (zp h 82 9 (if 3 < p2 then 3 else p2))))) (by decide) (by decide) (zWr_tr (f_Ground_chooseRafts_l22_w zF (p1, 0, ((if 3 < p2 then 3 else p2) - 1), (zp h 82 9 (if 3 < p2 then 3 else p2)))) (by decide) (by decide) (zWr_p (by decide) (zWr.refl _ _))))
def f_Ground_chooseSpells_l22_b (v1 : Int32) (v3 : Int32) (h : zm_H) : Nat × Int32 × zm_H := (if ((zf h 82 11) ≤ v3) then (1, v3, h) else (0, (v3 + 1), (zs h 88 v3 (f_Swell_lookNow (v1 + v3) h))))
def f_Ground_chooseSpells_l22_b_ok (v1 : Int32) (v3 : Int32) (h : zm_H) : Prop := ((((zf h 82 11) ≤ v3) → True) ∧ (¬ ((zf h 82 11) ≤ v3) → (f_Swell_lookNow_ok (v1 + v3) h ∧ vp_in v3 24)))
theorem f_Ground_chooseSpells_l22_b_w (v1 : Int32) (v3 : Int32) (h : zm_H) : zWr [88] [] h ((f_Ground_chooseSpells_l22_b v1 v3 h).2.2) := by
  unfold f_Ground_chooseSpells_l22_b
  exact (zWr_ite (fun z : Nat × Int32 × zm_H => z.2.2) (zWr.refl _ _) (zWr_si (by decide) (zWr.refl _ _)))
def f_Ground_chooseSpells_l22 (v1 : Int32) (n : Nat) (t : Int32 × zm_H) : Nat × Int32 × zm_H := zwh (fun t => f_Ground_chooseSpells_l22_b v1 t.1 t.2) n t
def f_Ground_chooseSpells_l22_ok (v1 : Int32) (n : Nat) (t : Int32 × zm_H) : Prop := zwo (fun t => f_Ground_chooseSpells_l22_b v1 t.1 t.2) (fun t => f_Ground_chooseSpells_l22_b_ok v1 t.1 t.2) n t
theorem f_Ground_chooseSpells_l22_w (v1 : Int32) (n : Nat) (t : Int32 × zm_H) : zWr [88] [] (t.2) ((f_Ground_chooseSpells_l22 v1 n t).2.2) := by
  unfold f_Ground_chooseSpells_l22
  exact zWr_zwh (fun t : Int32 × zm_H => t.2) (fun t => f_Ground_chooseSpells_l22_b_w v1 t.1 t.2)
def f_Ground_chooseSpells_k52 (h : zm_H) : Int32 × zm_H := (1, h)
def f_Ground_chooseSpells_k52_ok (h : zm_H) : Prop := True
theorem f_Ground_chooseSpells_k52_w (h : zm_H) : zWr [] [] h ((f_Ground_chooseSpells_k52 h).2) := by
  unfold f_Ground_chooseSpells_k52
  exact (zWr.refl _ _)
def f_Ground_chooseSpells_a22 (r : Nat × Int32 × zm_H) : Int32 × zm_H := (f_Ground_chooseSpells_k52 (r.2.2))
def f_Ground_chooseSpells_a22_ok (r : Nat × Int32 × zm_H) : Prop := True
theorem f_Ground_chooseSpells_a22_w (r : Nat × Int32 × zm_H) : zWr [] [] (r.2.2) ((f_Ground_chooseSpells_a22 r).2) := by
  unfold f_Ground_chooseSpells_a22
  exact (zWr_tr (f_Ground_chooseSpells_k52_w (r.2.2)) (by decide) (by decide) (zWr.refl _ _))
def f_Ground_chooseSpells (p1 : Int32) (p2 : Int32) (h : zm_H) : Int32 × zm_H := (if (((p2 - p1) + 1) ≤ 24) then (f_Ground_chooseSpells_a22 (f_Ground_chooseSpells_l22 p1 zF (0, (zp h 82 11 ((p2 - p1) + 1))))) else (0, (zp h 82 11 ((p2 - p1) + 1))))
def f_Ground_chooseSpells_ok (p1 : Int32) (p2 : Int32) (h : zm_H) : Prop := (((((p2 - p1) + 1) ≤ 24) → (f_Ground_chooseSpells_l22_ok p1 zF (0, (zp h 82 11 ((p2 - p1) + 1))) ∧ f_Ground_chooseSpells_a22_ok (f_Ground_chooseSpells_l22 p1 zF (0, (zp h 82 11 ((p2 - p1) + 1)))))) ∧ (¬ (((p2 - p1) + 1) ≤ 24) → True))
theorem f_Ground_chooseSpells_w (p1 : Int32) (p2 : Int32) (h : zm_H) : zWr [88] [(82, 11)] h ((f_Ground_chooseSpells p1 p2 h).2) := by
  unfold f_Ground_chooseSpells
  exact (zWr_ite (fun z : Int32 × zm_H => z.2) (zWr_tr (f_Ground_chooseSpells_a22_w (f_Ground_chooseSpells_l22 p1 zF (0, (zp h 82 11 ((p2 - p1) + 1))))) (by decide) (by decide) (zWr_tr (f_Ground_chooseSpells_l22_w p1 zF (0, (zp h 82 11 ((p2 - p1) + 1)))) (by decide) (by decide) (zWr_p (by decide) (zWr.refl _ _)))) (zWr_p (by decide) (zWr.refl _ _)))
def f_Ground_search_l5_b (v1 : Int32) (v2 : Int32) (v3 : Int32) (v4 : Int32) (h : zm_H) : Nat × Int32 × Int32 := (if ((zf h 82 9) ≤ v4) then (1, v3, v4) else (0, (v3 * (zf h 82 7)), (v4 + 1)))
def f_Ground_search_l5_b_ok (v1 : Int32) (v2 : Int32) (v3 : Int32) (v4 : Int32) (h : zm_H) : Prop := True
def f_Ground_search_l5 (v1 : Int32) (v2 : Int32) (h : zm_H) (n : Nat) (t : Int32 × Int32) : Nat × Int32 × Int32 := zwh (fun t => f_Ground_search_l5_b v1 v2 t.1 t.2 h) n t
def f_Ground_search_l5_ok (v1 : Int32) (v2 : Int32) (h : zm_H) (n : Nat) (t : Int32 × Int32) : Prop := zwo (fun t => f_Ground_search_l5_b v1 v2 t.1 t.2 h) (fun t => f_Ground_search_l5_b_ok v1 v2 t.1 t.2 h) n t
def f_Ground_setTrial_l12_b (v2 : Int32) (v3 : Int32) (v4 : Int32) (h : zm_H) : Nat × Int32 × Int32 × Int32 × zm_H := (if (v4 < 0) then (2, v2, v3, v4, h) else (if (((v3 >>> ((zr (zs h 89 v4 (if ((zf h 82 7) = 0) then (0 : Int32) else (zm_rm v2 (zf h 82 7)))) 89 v4) &&& 31)) &&& 1) = 0) then (0, (if ((zf h 82 7) = 0) then (0 : Int32) else (v2 / (zf h 82 7))), (v3 ||| (1 <<< ((zr (zs h 89 v4 (if ((zf h 82 7) = 0) then (0 : Int32) else (zm_rm v2 (zf h 82 7)))) 89 v4) &&& 31))), (v4 + (-1)), (zs h 89 v4 (if ((zf h 82 7) = 0) then (0 : Int32) else (zm_rm v2 (zf h 82 7))))) else (1, (if ((zf h 82 7) = 0) then (0 : Int32) else (v2 / (zf h 82 7))), v3, v4, (zs h 89 v4 (if ((zf h 82 7) = 0) then (0 : Int32) else (zm_rm v2 (zf h 82 7)))))))
def f_Ground_setTrial_l12_b_ok (v2 : Int32) (v3 : Int32) (v4 : Int32) (h : zm_H) : Prop := (((v4 < 0) → True) ∧ (¬ (v4 < 0) → (((((zf h 82 7) = 0) → True) ∧ (¬ ((zf h 82 7) = 0) → ¬ (zf h 82 7) = 0)) ∧ (vp_in v4 3 ∧ (((((zf h 82 7) = 0) → True) ∧ (¬ ((zf h 82 7) = 0) → ¬ (zf h 82 7) = 0)) ∧ (vp_in v4 3 ∧ (((((v3 >>> ((zr (zs h 89 v4 (if ((zf h 82 7) = 0) then (0 : Int32) else (zm_rm v2 (zf h 82 7)))) 89 v4) &&& 31)) &&& 1) = 0) → vp_in v4 3) ∧ (¬ (((v3 >>> ((zr (zs h 89 v4 (if ((zf h 82 7) = 0) then (0 : Int32) else (zm_rm v2 (zf h 82 7)))) 89 v4) &&& 31)) &&& 1) = 0) → True))))))))
theorem f_Ground_setTrial_l12_b_w (v2 : Int32) (v3 : Int32) (v4 : Int32) (h : zm_H) : zWr [89] [] h ((f_Ground_setTrial_l12_b v2 v3 v4 h).2.2.2.2) := by
  unfold f_Ground_setTrial_l12_b
  exact (zWr_ite (fun z : Nat × Int32 × Int32 × Int32 × zm_H => z.2.2.2.2) (zWr.refl _ _) (zWr_ite (fun z : Nat × Int32 × Int32 × Int32 × zm_H => z.2.2.2.2) (zWr_si (by decide) (zWr.refl _ _)) (zWr_si (by decide) (zWr.refl _ _))))
def f_Ground_setTrial_l12 (n : Nat) (t : Int32 × Int32 × Int32 × zm_H) : Nat × Int32 × Int32 × Int32 × zm_H := zwh (fun t => f_Ground_setTrial_l12_b t.1 t.2.1 t.2.2.1 t.2.2.2) n t
def f_Ground_setTrial_l12_ok (n : Nat) (t : Int32 × Int32 × Int32 × zm_H) : Prop := zwo (fun t => f_Ground_setTrial_l12_b t.1 t.2.1 t.2.2.1 t.2.2.2) (fun t => f_Ground_setTrial_l12_b_ok t.1 t.2.1 t.2.2.1 t.2.2.2) n t
theorem f_Ground_setTrial_l12_w (n : Nat) (t : Int32 × Int32 × Int32 × zm_H) : zWr [89] [] (t.2.2.2) ((f_Ground_setTrial_l12 n t).2.2.2.2) := by
  unfold f_Ground_setTrial_l12
  exact zWr_zwh (fun t : Int32 × Int32 × Int32 × zm_H => t.2.2.2) (fun t => f_Ground_setTrial_l12_b_w t.1 t.2.1 t.2.2.1 t.2.2.2)
def f_Ground_setTrial_k73 (h : zm_H) : Int32 × zm_H := (0, h)
def f_Ground_setTrial_k73_ok (h : zm_H) : Prop := True
theorem f_Ground_setTrial_k73_w (h : zm_H) : zWr [] [] h ((f_Ground_setTrial_k73 h).2) := by
  unfold f_Ground_setTrial_k73
  exact (zWr.refl _ _)
def f_Ground_setTrial_k93 (h : zm_H) : Int32 × zm_H := (1, h)
def f_Ground_setTrial_k93_ok (h : zm_H) : Prop := True
theorem f_Ground_setTrial_k93_w (h : zm_H) : zWr [] [] h ((f_Ground_setTrial_k93 h).2) := by
  unfold f_Ground_setTrial_k93
  exact (zWr.refl _ _)
def f_Ground_setTrial_a12 (r : Nat × Int32 × Int32 × Int32 × zm_H) : Int32 × zm_H := (if r.1 = 1 then (f_Ground_setTrial_k73 (r.2.2.2.2)) else (f_Ground_setTrial_k93 (r.2.2.2.2)))
def f_Ground_setTrial_a12_ok (r : Nat × Int32 × Int32 × Int32 × zm_H) : Prop := ((r.1 = 1 → True) ∧ (¬ r.1 = 1 → True))
theorem f_Ground_setTrial_a12_w (r : Nat × Int32 × Int32 × Int32 × zm_H) : zWr [] [] (r.2.2.2.2) ((f_Ground_setTrial_a12 r).2) := by
  unfold f_Ground_setTrial_a12
  exact (zWr_ite (fun z : Int32 × zm_H => z.2) (zWr_tr (f_Ground_setTrial_k73_w (r.2.2.2.2)) (by decide) (by decide) (zWr.refl _ _)) (zWr_tr (f_Ground_setTrial_k93_w (r.2.2.2.2)) (by decide) (by decide) (zWr.refl _ _)))
def f_Ground_setTrial (p1 : Int32) (h : zm_H) : Int32 × zm_H := (f_Ground_setTrial_a12 (f_Ground_setTrial_l12 zF (p1, 0, ((zf h 82 9) - 1), h)))
def f_Ground_setTrial_ok (p1 : Int32) (h : zm_H) : Prop := (f_Ground_setTrial_l12_ok zF (p1, 0, ((zf h 82 9) - 1), h) ∧ f_Ground_setTrial_a12_ok (f_Ground_setTrial_l12 zF (p1, 0, ((zf h 82 9) - 1), h)))
theorem f_Ground_setTrial_w (p1 : Int32) (h : zm_H) : zWr [89] [] h ((f_Ground_setTrial p1 h).2) := by
  unfold f_Ground_setTrial
  exact (zWr_tr (f_Ground_setTrial_a12_w (f_Ground_setTrial_l12 zF (p1, 0, ((zf h 82 9) - 1), h))) (by decide) (by decide) (zWr_tr (f_Ground_setTrial_l12_w zF (p1, 0, ((zf h 82 9) - 1), h)) (by decide) (by decide) (zWr.refl _ _)))
def f_Ground_search_l35_k121 (v1 : Int32) (v2 : Int32) (v3 : Int32) (v4 : Int32) (h : zm_H) : Nat × Int32 × zm_H := (0, (v4 + 1), h)
def f_Ground_search_l35_k121_ok (v1 : Int32) (v2 : Int32) (v3 : Int32) (v4 : Int32) (h : zm_H) : Prop := True
theorem f_Ground_search_l35_k121_w (v1 : Int32) (v2 : Int32) (v3 : Int32) (v4 : Int32) (h : zm_H) : zWr [] [] h ((f_Ground_search_l35_k121 v1 v2 v3 v4 h).2.2) := by
  unfold f_Ground_search_l35_k121
  exact (zWr.refl _ _)
def f_Ground_search_l35_l87_b (v1 : Int32) (v2 : Int32) (v3 : Int32) (v4 : Int32) (v5 : Int32) (v6 : Int32) (h : zm_H) : Nat × Int32 × zm_H := (if ((zf h 82 9) ≤ v6) then (1, v6, h) else (0, (v6 + 1), (zs h 90 v6 (zr h 86 (zr h 89 v6)))))
def f_Ground_search_l35_l87_b_ok (v1 : Int32) (v2 : Int32) (v3 : Int32) (v4 : Int32) (v5 : Int32) (v6 : Int32) (h : zm_H) : Prop := ((((zf h 82 9) ≤ v6) → True) ∧ (¬ ((zf h 82 9) ≤ v6) → (vp_in v6 3 ∧ (vp_in (zr h 89 v6) 8 ∧ vp_in v6 3))))
theorem f_Ground_search_l35_l87_b_w (v1 : Int32) (v2 : Int32) (v3 : Int32) (v4 : Int32) (v5 : Int32) (v6 : Int32) (h : zm_H) : zWr [90] [] h ((f_Ground_search_l35_l87_b v1 v2 v3 v4 v5 v6 h).2.2) := by
  unfold f_Ground_search_l35_l87_b
  exact (zWr_ite (fun z : Nat × Int32 × zm_H => z.2.2) (zWr.refl _ _) (zWr_si (by decide) (zWr.refl _ _)))
def f_Ground_search_l35_l87 (v1 : Int32) (v2 : Int32) (v3 : Int32) (v4 : Int32) (v5 : Int32) (n : Nat) (t : Int32 × zm_H) : Nat × Int32 × zm_H := zwh (fun t => f_Ground_search_l35_l87_b v1 v2 v3 v4 v5 t.1 t.2) n t
def f_Ground_search_l35_l87_ok (v1 : Int32) (v2 : Int32) (v3 : Int32) (v4 : Int32) (v5 : Int32) (n : Nat) (t : Int32 × zm_H) : Prop := zwo (fun t => f_Ground_search_l35_l87_b v1 v2 v3 v4 v5 t.1 t.2) (fun t => f_Ground_search_l35_l87_b_ok v1 v2 v3 v4 v5 t.1 t.2) n t
theorem f_Ground_search_l35_l87_w (v1 : Int32) (v2 : Int32) (v3 : Int32) (v4 : Int32) (v5 : Int32) (n : Nat) (t : Int32 × zm_H) : zWr [90] [] (t.2) ((f_Ground_search_l35_l87 v1 v2 v3 v4 v5 n t).2.2) := by
  unfold f_Ground_search_l35_l87
  exact zWr_zwh (fun t : Int32 × zm_H => t.2) (fun t => f_Ground_search_l35_l87_b_w v1 v2 v3 v4 v5 t.1 t.2)
def f_Ground_search_l35_a87 (v1 : Int32) (v2 : Int32) (v3 : Int32) (v4 : Int32) (r : Nat × Int32 × zm_H) : Nat × Int32 × zm_H := (f_Ground_search_l35_k121 v1 v2 v3 v4 (r.2.2))
def f_Ground_search_l35_a87_ok (v1 : Int32) (v2 : Int32) (v3 : Int32) (v4 : Int32) (r : Nat × Int32 × zm_H) : Prop := True
theorem f_Ground_search_l35_a87_w (v1 : Int32) (v2 : Int32) (v3 : Int32) (v4 : Int32) (r : Nat × Int32 × zm_H) : zWr [] [] (r.2.2) ((f_Ground_search_l35_a87 v1 v2 v3 v4 r).2.2) := by
  unfold f_Ground_search_l35_a87
  exact (zWr_tr (f_Ground_search_l35_k121_w v1 v2 v3 v4 (r.2.2)) (by decide) (by decide) (zWr.refl _ _))
def f_Ground_search_l35_k67 (v1 : Int32) (v2 : Int32) (v3 : Int32) (v4 : Int32) (w0 : Int32) (h : zm_H) : Nat × Int32 × zm_H := (if (w0 ≤ (zf h 82 14)) then (f_Ground_search_l35_k121 v1 v2 v3 v4 h) else (f_Ground_search_l35_a87 v1 v2 v3 v4 (f_Ground_search_l35_l87 v1 v2 v3 v4 w0 zF (0, (zp h 82 14 w0)))))
def f_Ground_search_l35_k67_ok (v1 : Int32) (v2 : Int32) (v3 : Int32) (v4 : Int32) (w0 : Int32) (h : zm_H) : Prop := (((w0 ≤ (zf h 82 14)) → True) ∧ (¬ (w0 ≤ (zf h 82 14)) → (f_Ground_search_l35_l87_ok v1 v2 v3 v4 w0 zF (0, (zp h 82 14 w0)) ∧ f_Ground_search_l35_a87_ok v1 v2 v3 v4 (f_Ground_search_l35_l87 v1 v2 v3 v4 w0 zF (0, (zp h 82 14 w0))))))
theorem f_Ground_search_l35_k67_w (v1 : Int32) (v2 : Int32) (v3 : Int32) (v4 : Int32) (w0 : Int32) (h : zm_H) : zWr [90] [(82, 14)] h ((f_Ground_search_l35_k67 v1 v2 v3 v4 w0 h).2.2) := by
  unfold f_Ground_search_l35_k67
  exact (zWr_ite (fun z : Nat × Int32 × zm_H => z.2.2) (zWr_tr (f_Ground_search_l35_k121_w v1 v2 v3 v4 h) (by decide) (by decide) (zWr.refl _ _)) (zWr_tr (f_Ground_search_l35_a87_w v1 v2 v3 v4 (f_Ground_search_l35_l87 v1 v2 v3 v4 w0 zF (0, (zp h 82 14 w0)))) (by decide) (by decide) (zWr_tr (f_Ground_search_l35_l87_w v1 v2 v3 v4 w0 zF (0, (zp h 82 14 w0))) (by decide) (by decide) (zWr_p (by decide) (zWr.refl _ _)))))
def f_Ground_search_l35_k66 (v1 : Int32) (v2 : Int32) (v3 : Int32) (v4 : Int32) (h : zm_H) : Nat × Int32 × zm_H := (f_Ground_search_l35_k67 v1 v2 v3 v4 (-1) h)
def f_Ground_search_l35_k66_ok (v1 : Int32) (v2 : Int32) (v3 : Int32) (v4 : Int32) (h : zm_H) : Prop := (f_Ground_search_l35_k67_ok v1 v2 v3 v4 (-1) h)
theorem f_Ground_search_l35_k66_w (v1 : Int32) (v2 : Int32) (v3 : Int32) (v4 : Int32) (h : zm_H) : zWr [90] [(82, 14)] h ((f_Ground_search_l35_k66 v1 v2 v3 v4 h).2.2) := by
  unfold f_Ground_search_l35_k66
  exact (zWr_tr (f_Ground_search_l35_k67_w v1 v2 v3 v4 (-1) h) (by decide) (by decide) (zWr.refl _ _))
def f_Ground_isOpen_l2_b (v1 : Int32) (v2 : Int32) (h : zm_H) : Nat × Int32 := (if ((zf h 82 9) ≤ v2) then (2, v2) else (if ((f_Ground_isShut ((zr h 86 (zr h 89 v2)) / 10) v1 h) = 0) then (if ((f_Course_isFree_37 (zr h 86 (zr h 89 v2)) h) = 0) then (1, v2) else (0, (v2 + 1))) else (1, v2)))
def f_Ground_isOpen_l2_b_ok (v1 : Int32) (v2 : Int32) (h : zm_H) : Prop := ((((zf h 82 9) ≤ v2) → True) ∧ (¬ ((zf h 82 9) ≤ v2) → (vp_in v2 3 ∧ (vp_in (zr h 89 v2) 8 ∧ (f_Ground_isShut_ok ((zr h 86 (zr h 89 v2)) / 10) v1 h ∧ ((((f_Ground_isShut ((zr h 86 (zr h 89 v2)) / 10) v1 h) = 0) → f_Course_isFree_37_ok (zr h 86 (zr h 89 v2)) h) ∧ (¬ ((f_Ground_isShut ((zr h 86 (zr h 89 v2)) / 10) v1 h) = 0) → True)))))))
def f_Ground_isOpen_l2 (v1 : Int32) (h : zm_H) (n : Nat) (t : Int32) : Nat × Int32 := zwh (fun t => f_Ground_isOpen_l2_b v1 t h) n t
def f_Ground_isOpen_l2_ok (v1 : Int32) (h : zm_H) (n : Nat) (t : Int32) : Prop := zwo (fun t => f_Ground_isOpen_l2_b v1 t h) (fun t => f_Ground_isOpen_l2_b_ok v1 t h) n t
def f_Ground_isOpen_k45 (h : zm_H) : Int32 := 0
def f_Ground_isOpen_k45_ok (h : zm_H) : Prop := True
def f_Ground_isOpen_k53 (h : zm_H) : Int32 := 1
def f_Ground_isOpen_k53_ok (h : zm_H) : Prop := True
def f_Ground_isOpen_a2 (r : Nat × Int32) (h : zm_H) : Int32 := (if r.1 = 1 then (f_Ground_isOpen_k45 h) else (f_Ground_isOpen_k53 h))
def f_Ground_isOpen_a2_ok (r : Nat × Int32) (h : zm_H) : Prop := ((r.1 = 1 → True) ∧ (¬ r.1 = 1 → True))
def f_Ground_isOpen (p1 : Int32) (h : zm_H) : Int32 := (f_Ground_isOpen_a2 (f_Ground_isOpen_l2 p1 h zF 0) h)
def f_Ground_isOpen_ok (p1 : Int32) (h : zm_H) : Prop := (f_Ground_isOpen_l2_ok p1 h zF 0 ∧ f_Ground_isOpen_a2_ok (f_Ground_isOpen_l2 p1 h zF 0) h)
def f_Ground_tryOut_l13_k45 (v1 : Int32) (v2 : Int32) (h : zm_H) : Nat × Int32 × zm_H := (0, (v2 + 1), h)
def f_Ground_tryOut_l13_k45_ok (v1 : Int32) (v2 : Int32) (h : zm_H) : Prop := True
theorem f_Ground_tryOut_l13_k45_w (v1 : Int32) (v2 : Int32) (h : zm_H) : zWr [] [] h ((f_Ground_tryOut_l13_k45 v1 v2 h).2.2) := by
  unfold f_Ground_tryOut_l13_k45
  exact (zWr.refl _ _)
def f_Ground_tryOut_l13_b (v1 : Int32) (v2 : Int32) (h : zm_H) : Nat × Int32 × zm_H := (if ((zf h 82 9) ≤ v2) then (1, v2, h) else (f_Ground_tryOut_l13_k45 v1 v2 (f_Waves_putIn (zr h 87 v2) (zr h 86 (zr h 89 v2)) h)))
def f_Ground_tryOut_l13_b_ok (v1 : Int32) (v2 : Int32) (h : zm_H) : Prop := ((((zf h 82 9) ≤ v2) → True) ∧ (¬ ((zf h 82 9) ≤ v2) → (vp_in v2 3 ∧ (vp_in v2 3 ∧ (vp_in (zr h 89 v2) 8 ∧ f_Waves_putIn_ok (zr h 87 v2) (zr h 86 (zr h 89 v2)) h)))))
theorem f_Ground_tryOut_l13_b_w (v1 : Int32) (v2 : Int32) (h : zm_H) : zWr [33] [] h ((f_Ground_tryOut_l13_b v1 v2 h).2.2) := by
  unfold f_Ground_tryOut_l13_b
  exact (zWr_ite (fun z : Nat × Int32 × zm_H => z.2.2) (zWr.refl _ _) (zWr_tr (f_Ground_tryOut_l13_k45_w v1 v2 (f_Waves_putIn (zr h 87 v2) (zr h 86 (zr h 89 v2)) h)) (by decide) (by decide) (zWr_tr (f_Waves_putIn_w (zr h 87 v2) (zr h 86 (zr h 89 v2)) h) (by decide) (by decide) (zWr.refl _ _))))
def f_Ground_tryOut_l13 (v1 : Int32) (n : Nat) (t : Int32 × zm_H) : Nat × Int32 × zm_H := zwh (fun t => f_Ground_tryOut_l13_b v1 t.1 t.2) n t
def f_Ground_tryOut_l13_ok (v1 : Int32) (n : Nat) (t : Int32 × zm_H) : Prop := zwo (fun t => f_Ground_tryOut_l13_b v1 t.1 t.2) (fun t => f_Ground_tryOut_l13_b_ok v1 t.1 t.2) n t
theorem f_Ground_tryOut_l13_w (v1 : Int32) (n : Nat) (t : Int32 × zm_H) : zWr [33] [] (t.2) ((f_Ground_tryOut_l13 v1 n t).2.2) := by
  unfold f_Ground_tryOut_l13
  exact zWr_zwh (fun t : Int32 × zm_H => t.2) (fun t => f_Ground_tryOut_l13_b_w v1 t.1 t.2)
def f_Ground_keepsBeach_l2_b (v1 : Int32) (v2 : Int32) (v3 : Int32) (h : zm_H) : Nat × Int32 := (if (10 ≤ v3) then (2, v3) else (if ((v1 * v2) ≤ (100 * (zr h 35 v3))) then (0, (v3 + 1)) else (1, v3)))
def f_Ground_keepsBeach_l2_b_ok (v1 : Int32) (v2 : Int32) (v3 : Int32) (h : zm_H) : Prop := (((10 ≤ v3) → True) ∧ (¬ (10 ≤ v3) → vp_in v3 10))
def f_Ground_keepsBeach_l2 (v1 : Int32) (v2 : Int32) (h : zm_H) (n : Nat) (t : Int32) : Nat × Int32 := zwh (fun t => f_Ground_keepsBeach_l2_b v1 v2 t h) n t
def f_Ground_keepsBeach_l2_ok (v1 : Int32) (v2 : Int32) (h : zm_H) (n : Nat) (t : Int32) : Prop := zwo (fun t => f_Ground_keepsBeach_l2_b v1 v2 t h) (fun t => f_Ground_keepsBeach_l2_b_ok v1 v2 t h) n t
def f_Ground_keepsBeach_k26 (h : zm_H) : Int32 := 0
def f_Ground_keepsBeach_k26_ok (h : zm_H) : Prop := True
def f_Ground_keepsBeach_k34 (h : zm_H) : Int32 := 1
def f_Ground_keepsBeach_k34_ok (h : zm_H) : Prop := True
def f_Ground_keepsBeach_a2 (r : Nat × Int32) (h : zm_H) : Int32 := (if r.1 = 1 then (f_Ground_keepsBeach_k26 h) else (f_Ground_keepsBeach_k34 h))
def f_Ground_keepsBeach_a2_ok (r : Nat × Int32) (h : zm_H) : Prop := ((r.1 = 1 → True) ∧ (¬ r.1 = 1 → True))
def f_Ground_keepsBeach (p1 : Int32) (p2 : Int32) (h : zm_H) : Int32 := (f_Ground_keepsBeach_a2 (f_Ground_keepsBeach_l2 p1 p2 h zF 0) h)
def f_Ground_keepsBeach_ok (p1 : Int32) (p2 : Int32) (h : zm_H) : Prop := (f_Ground_keepsBeach_l2_ok p1 p2 h zF 0 ∧ f_Ground_keepsBeach_a2_ok (f_Ground_keepsBeach_l2 p1 p2 h zF 0) h)
def f_Ground_tryOut_l55_l98_b (v1 : Int32) (v2 : Int32) (v3 : Int32) (v4 : Int32) (h : zm_H) : Nat × Int32 × Int32 := (if ((zf h 23 0) ≤ v4) then (1, v2, v4) else (0, (v2 + (f_Course_powerFrom_37 (zr h 34 v4) v4 h)), (v4 + 1)))
def f_Ground_tryOut_l55_l98_b_ok (v1 : Int32) (v2 : Int32) (v3 : Int32) (v4 : Int32) (h : zm_H) : Prop := ((((zf h 23 0) ≤ v4) → True) ∧ (¬ ((zf h 23 0) ≤ v4) → (vp_in v4 10 ∧ f_Course_powerFrom_37_ok (zr h 34 v4) v4 h)))
def f_Ground_tryOut_l55_l98 (v1 : Int32) (v3 : Int32) (h : zm_H) (n : Nat) (t : Int32 × Int32) : Nat × Int32 × Int32 := zwh (fun t => f_Ground_tryOut_l55_l98_b v1 t.1 v3 t.2 h) n t
def f_Ground_tryOut_l55_l98_ok (v1 : Int32) (v3 : Int32) (h : zm_H) (n : Nat) (t : Int32 × Int32) : Prop := zwo (fun t => f_Ground_tryOut_l55_l98_b v1 t.1 v3 t.2 h) (fun t => f_Ground_tryOut_l55_l98_b_ok v1 t.1 v3 t.2 h) n t
def f_Ground_tryOut_l55_k141 (v1 : Int32) (v2 : Int32) (v3 : Int32) (h : zm_H) : Nat × Int32 × Int32 × zm_H := (0, v2, (v3 + 1), h)
def f_Ground_tryOut_l55_k141_ok (v1 : Int32) (v2 : Int32) (v3 : Int32) (h : zm_H) : Prop := True
theorem f_Ground_tryOut_l55_k141_w (v1 : Int32) (v2 : Int32) (v3 : Int32) (h : zm_H) : zWr [] [] h ((f_Ground_tryOut_l55_k141 v1 v2 v3 h).2.2.2) := by
  unfold f_Ground_tryOut_l55_k141
  exact (zWr.refl _ _)
def f_Ground_tryOut_l55_a98 (v1 : Int32) (v3 : Int32) (r : Nat × Int32 × Int32) (h : zm_H) : Nat × Int32 × Int32 × zm_H := (f_Ground_tryOut_l55_k141 v1 (r.2.1) v3 h)
def f_Ground_tryOut_l55_a98_ok (v1 : Int32) (v3 : Int32) (r : Nat × Int32 × Int32) (h : zm_H) : Prop := True
theorem f_Ground_tryOut_l55_a98_w (v1 : Int32) (v3 : Int32) (r : Nat × Int32 × Int32) (h : zm_H) : zWr [] [] h ((f_Ground_tryOut_l55_a98 v1 v3 r h).2.2.2) := by
  unfold f_Ground_tryOut_l55_a98
  exact (zWr_tr (f_Ground_tryOut_l55_k141_w v1 (r.2.1) v3 h) (by decide) (by decide) (zWr.refl _ _))
def f_Ground_tryOut_l55_k76 (v1 : Int32) (v2 : Int32) (v3 : Int32) (h : zm_H) : Nat × Int32 × Int32 × zm_H := (if ((f_Ground_keepsBeach v1 ((((zr h 88 v3) / 1000) * ((zr h 88 v3) / 1000)) * ((zm_rm (zr h 88 v3) 1000) / 10)) h) = 0) then (1, v2, v3, h) else (f_Ground_tryOut_l55_a98 v1 v3 (f_Ground_tryOut_l55_l98 v1 v3 h zF (v2, 0)) h))
def f_Ground_tryOut_l55_k76_ok (v1 : Int32) (v2 : Int32) (v3 : Int32) (h : zm_H) : Prop := (vp_in v3 24 ∧ (f_Ground_keepsBeach_ok v1 ((((zr h 88 v3) / 1000) * ((zr h 88 v3) / 1000)) * ((zm_rm (zr h 88 v3) 1000) / 10)) h ∧ ((((f_Ground_keepsBeach v1 ((((zr h 88 v3) / 1000) * ((zr h 88 v3) / 1000)) * ((zm_rm (zr h 88 v3) 1000) / 10)) h) = 0) → True) ∧ (¬ ((f_Ground_keepsBeach v1 ((((zr h 88 v3) / 1000) * ((zr h 88 v3) / 1000)) * ((zm_rm (zr h 88 v3) 1000) / 10)) h) = 0) → (f_Ground_tryOut_l55_l98_ok v1 v3 h zF (v2, 0) ∧ f_Ground_tryOut_l55_a98_ok v1 v3 (f_Ground_tryOut_l55_l98 v1 v3 h zF (v2, 0)) h)))))
theorem f_Ground_tryOut_l55_k76_w (v1 : Int32) (v2 : Int32) (v3 : Int32) (h : zm_H) : zWr [] [] h ((f_Ground_tryOut_l55_k76 v1 v2 v3 h).2.2.2) := by
  unfold f_Ground_tryOut_l55_k76
  exact (zWr_ite (fun z : Nat × Int32 × Int32 × zm_H => z.2.2.2) (zWr.refl _ _) (zWr_tr (f_Ground_tryOut_l55_a98_w v1 v3 (f_Ground_tryOut_l55_l98 v1 v3 h zF (v2, 0)) h) (by decide) (by decide) (zWr.refl _ _)))
def f_Ground_tryOut_l55_b (v1 : Int32) (v2 : Int32) (v3 : Int32) (h : zm_H) : Nat × Int32 × Int32 × zm_H := (if ((zf h 82 11) ≤ v3) then (2, v2, v3, h) else (f_Ground_tryOut_l55_k76 v1 v2 v3 (f_Waves_run (zr h 88 v3) h)))
def f_Ground_tryOut_l55_b_ok (v1 : Int32) (v2 : Int32) (v3 : Int32) (h : zm_H) : Prop := ((((zf h 82 11) ≤ v3) → True) ∧ (¬ ((zf h 82 11) ≤ v3) → (vp_in v3 24 ∧ (f_Waves_run_ok (zr h 88 v3) h ∧ (f_Ground_tryOut_l55_k76_ok v1 v2 v3 (f_Waves_run (zr h 88 v3) h))))))
theorem f_Ground_tryOut_l55_b_w (v1 : Int32) (v2 : Int32) (v3 : Int32) (h : zm_H) : zWr [32, 34, 35, 36] [] h ((f_Ground_tryOut_l55_b v1 v2 v3 h).2.2.2) := by
  unfold f_Ground_tryOut_l55_b
  exact (zWr_ite (fun z : Nat × Int32 × Int32 × zm_H => z.2.2.2) (zWr.refl _ _) (zWr_tr (f_Ground_tryOut_l55_k76_w v1 v2 v3 (f_Waves_run (zr h 88 v3) h)) (by decide) (by decide) (zWr_tr (f_Waves_run_w (zr h 88 v3) h) (by decide) (by decide) (zWr.refl _ _))))
def f_Ground_tryOut_l55 (v1 : Int32) (n : Nat) (t : Int32 × Int32 × zm_H) : Nat × Int32 × Int32 × zm_H := zwh (fun t => f_Ground_tryOut_l55_b v1 t.1 t.2.1 t.2.2) n t
def f_Ground_tryOut_l55_ok (v1 : Int32) (n : Nat) (t : Int32 × Int32 × zm_H) : Prop := zwo (fun t => f_Ground_tryOut_l55_b v1 t.1 t.2.1 t.2.2) (fun t => f_Ground_tryOut_l55_b_ok v1 t.1 t.2.1 t.2.2) n t
theorem f_Ground_tryOut_l55_w (v1 : Int32) (n : Nat) (t : Int32 × Int32 × zm_H) : zWr [32, 34, 35, 36] [] (t.2.2) ((f_Ground_tryOut_l55 v1 n t).2.2.2) := by
  unfold f_Ground_tryOut_l55
  exact zWr_zwh (fun t : Int32 × Int32 × zm_H => t.2.2) (fun t => f_Ground_tryOut_l55_b_w v1 t.1 t.2.1 t.2.2)
def f_Ground_tryOut_k93 (h : zm_H) : Int32 × zm_H := ((-1), h)
def f_Ground_tryOut_k93_ok (h : zm_H) : Prop := True
theorem f_Ground_tryOut_k93_w (h : zm_H) : zWr [] [] h ((f_Ground_tryOut_k93 h).2) := by
  unfold f_Ground_tryOut_k93
  exact (zWr.refl _ _)
def f_Ground_tryOut_k147 (v2 : Int32) (h : zm_H) : Int32 × zm_H := (v2, h)
def f_Ground_tryOut_k147_ok (v2 : Int32) (h : zm_H) : Prop := True
theorem f_Ground_tryOut_k147_w (v2 : Int32) (h : zm_H) : zWr [] [] h ((f_Ground_tryOut_k147 v2 h).2) := by
  unfold f_Ground_tryOut_k147
  exact (zWr.refl _ _)
def f_Ground_tryOut_a55 (r : Nat × Int32 × Int32 × zm_H) : Int32 × zm_H := (if r.1 = 1 then (f_Ground_tryOut_k93 (r.2.2.2)) else (f_Ground_tryOut_k147 (r.2.1) (r.2.2.2)))
def f_Ground_tryOut_a55_ok (r : Nat × Int32 × Int32 × zm_H) : Prop := ((r.1 = 1 → True) ∧ (¬ r.1 = 1 → True))
theorem f_Ground_tryOut_a55_w (r : Nat × Int32 × Int32 × zm_H) : zWr [] [] (r.2.2.2) ((f_Ground_tryOut_a55 r).2) := by
  unfold f_Ground_tryOut_a55
  exact (zWr_ite (fun z : Int32 × zm_H => z.2) (zWr_tr (f_Ground_tryOut_k93_w (r.2.2.2)) (by decide) (by decide) (zWr.refl _ _)) (zWr_tr (f_Ground_tryOut_k147_w (r.2.1) (r.2.2.2)) (by decide) (by decide) (zWr.refl _ _)))
def f_Ground_tryOut_k51 (v1 : Int32) (h : zm_H) : Int32 × zm_H := (f_Ground_tryOut_a55 (f_Ground_tryOut_l55 v1 zF (0, 0, h)))
def f_Ground_tryOut_k51_ok (v1 : Int32) (h : zm_H) : Prop := (f_Ground_tryOut_l55_ok v1 zF (0, 0, h) ∧ f_Ground_tryOut_a55_ok (f_Ground_tryOut_l55 v1 zF (0, 0, h)))
theorem f_Ground_tryOut_k51_w (v1 : Int32) (h : zm_H) : zWr [32, 34, 35, 36] [] h ((f_Ground_tryOut_k51 v1 h).2) := by
  unfold f_Ground_tryOut_k51
  exact (zWr_tr (f_Ground_tryOut_a55_w (f_Ground_tryOut_l55 v1 zF (0, 0, h))) (by decide) (by decide) (zWr_tr (f_Ground_tryOut_l55_w v1 zF (0, 0, h)) (by decide) (by decide) (zWr.refl _ _)))
def f_Ground_tryOut_a13 (v1 : Int32) (r : Nat × Int32 × zm_H) : Int32 × zm_H := (f_Ground_tryOut_k51 v1 (r.2.2))
def f_Ground_tryOut_a13_ok (v1 : Int32) (r : Nat × Int32 × zm_H) : Prop := (f_Ground_tryOut_k51_ok v1 (r.2.2))
theorem f_Ground_tryOut_a13_w (v1 : Int32) (r : Nat × Int32 × zm_H) : zWr [32, 34, 35, 36] [] (r.2.2) ((f_Ground_tryOut_a13 v1 r).2) := by
  unfold f_Ground_tryOut_a13
  exact (zWr_tr (f_Ground_tryOut_k51_w v1 (r.2.2)) (by decide) (by decide) (zWr.refl _ _))
def f_Ground_tryOut_k11 (v1 : Int32) (h : zm_H) : Int32 × zm_H := (f_Ground_tryOut_a13 v1 (f_Ground_tryOut_l13 v1 zF (0, h)))
def f_Ground_tryOut_k11_ok (v1 : Int32) (h : zm_H) : Prop := (f_Ground_tryOut_l13_ok v1 zF (0, h) ∧ f_Ground_tryOut_a13_ok v1 (f_Ground_tryOut_l13 v1 zF (0, h)))
theorem f_Ground_tryOut_k11_w (v1 : Int32) (h : zm_H) : zWr [32, 33, 34, 35, 36] [] h ((f_Ground_tryOut_k11 v1 h).2) := by
  unfold f_Ground_tryOut_k11
  exact (zWr_tr (f_Ground_tryOut_a13_w v1 (f_Ground_tryOut_l13 v1 zF (0, h))) (by decide) (by decide) (zWr_tr (f_Ground_tryOut_l13_w v1 zF (0, h)) (by decide) (by decide) (zWr.refl _ _)))
def f_Ground_tryOut (p1 : Int32) (h : zm_H) : Int32 × zm_H := (f_Ground_tryOut_k11 p1 (f_Course_putInto_37 h))
def f_Ground_tryOut_ok (p1 : Int32) (h : zm_H) : Prop := (f_Course_putInto_37_ok h ∧ (f_Ground_tryOut_k11_ok p1 (f_Course_putInto_37 h)))
theorem f_Ground_tryOut_w (p1 : Int32) (h : zm_H) : zWr [32, 33, 34, 35, 36] [] h ((f_Ground_tryOut p1 h).2) := by
  unfold f_Ground_tryOut
  exact (zWr_tr (f_Ground_tryOut_k11_w p1 (f_Course_putInto_37 h)) (by decide) (by decide) (zWr_tr (f_Course_putInto_37_w h) (by decide) (by decide) (zWr.refl _ _)))
def f_Ground_search_l35_k63 (v1 : Int32) (v2 : Int32) (v3 : Int32) (v4 : Int32) (w0 : Int32) (h : zm_H) : Nat × Int32 × zm_H := (f_Ground_search_l35_k67 v1 v2 v3 v4 w0 h)
def f_Ground_search_l35_k63_ok (v1 : Int32) (v2 : Int32) (v3 : Int32) (v4 : Int32) (w0 : Int32) (h : zm_H) : Prop := (f_Ground_search_l35_k67_ok v1 v2 v3 v4 w0 h)
theorem f_Ground_search_l35_k63_w (v1 : Int32) (v2 : Int32) (v3 : Int32) (v4 : Int32) (w0 : Int32) (h : zm_H) : zWr [90] [(82, 14)] h ((f_Ground_search_l35_k63 v1 v2 v3 v4 w0 h).2.2) := by
  unfold f_Ground_search_l35_k63
  exact (zWr_tr (f_Ground_search_l35_k67_w v1 v2 v3 v4 w0 h) (by decide) (by decide) (zWr.refl _ _))
def f_Ground_search_l35_k47 (v1 : Int32) (v2 : Int32) (v3 : Int32) (v4 : Int32) (w0 : Int32) (h : zm_H) : Nat × Int32 × zm_H := (if (w0 = 0) then (f_Ground_search_l35_k66 v1 v2 v3 v4 h) else (if ((f_Ground_isOpen v2 h) = 0) then (f_Ground_search_l35_k66 v1 v2 v3 v4 h) else (f_Ground_search_l35_k63 v1 v2 v3 v4 (f_Ground_tryOut v1 h).1 (f_Ground_tryOut v1 h).2)))
def f_Ground_search_l35_k47_ok (v1 : Int32) (v2 : Int32) (v3 : Int32) (v4 : Int32) (w0 : Int32) (h : zm_H) : Prop := (((w0 = 0) → (f_Ground_search_l35_k66_ok v1 v2 v3 v4 h)) ∧ (¬ (w0 = 0) → (f_Ground_isOpen_ok v2 h ∧ ((((f_Ground_isOpen v2 h) = 0) → (f_Ground_search_l35_k66_ok v1 v2 v3 v4 h)) ∧ (¬ ((f_Ground_isOpen v2 h) = 0) → (f_Ground_tryOut_ok v1 h ∧ (f_Ground_search_l35_k63_ok v1 v2 v3 v4 (f_Ground_tryOut v1 h).1 (f_Ground_tryOut v1 h).2)))))))
theorem f_Ground_search_l35_k47_w (v1 : Int32) (v2 : Int32) (v3 : Int32) (v4 : Int32) (w0 : Int32) (h : zm_H) : zWr [32, 33, 34, 35, 36, 90] [(82, 14)] h ((f_Ground_search_l35_k47 v1 v2 v3 v4 w0 h).2.2) := by
  unfold f_Ground_search_l35_k47
  exact (zWr_ite (fun z : Nat × Int32 × zm_H => z.2.2) (zWr_tr (f_Ground_search_l35_k66_w v1 v2 v3 v4 h) (by decide) (by decide) (zWr.refl _ _)) (zWr_ite (fun z : Nat × Int32 × zm_H => z.2.2) (zWr_tr (f_Ground_search_l35_k66_w v1 v2 v3 v4 h) (by decide) (by decide) (zWr.refl _ _)) (zWr_tr (f_Ground_search_l35_k63_w v1 v2 v3 v4 (f_Ground_tryOut v1 h).1 (f_Ground_tryOut v1 h).2) (by decide) (by decide) (zWr_tr (f_Ground_tryOut_w v1 h) (by decide) (by decide) (zWr.refl _ _)))))
def f_Ground_search_l35_b (v1 : Int32) (v2 : Int32) (v3 : Int32) (v4 : Int32) (h : zm_H) : Nat × Int32 × zm_H := (if (v3 ≤ v4) then (1, v4, h) else (f_Ground_search_l35_k47 v1 v2 v3 v4 (f_Ground_setTrial v4 h).1 (f_Ground_setTrial v4 h).2))
def f_Ground_search_l35_b_ok (v1 : Int32) (v2 : Int32) (v3 : Int32) (v4 : Int32) (h : zm_H) : Prop := (((v3 ≤ v4) → True) ∧ (¬ (v3 ≤ v4) → (f_Ground_setTrial_ok v4 h ∧ (f_Ground_search_l35_k47_ok v1 v2 v3 v4 (f_Ground_setTrial v4 h).1 (f_Ground_setTrial v4 h).2))))
theorem f_Ground_search_l35_b_w (v1 : Int32) (v2 : Int32) (v3 : Int32) (v4 : Int32) (h : zm_H) : zWr [32, 33, 34, 35, 36, 89, 90] [(82, 14)] h ((f_Ground_search_l35_b v1 v2 v3 v4 h).2.2) := by
  unfold f_Ground_search_l35_b
  exact (zWr_ite (fun z : Nat × Int32 × zm_H => z.2.2) (zWr.refl _ _) (zWr_tr (f_Ground_search_l35_k47_w v1 v2 v3 v4 (f_Ground_setTrial v4 h).1 (f_Ground_setTrial v4 h).2) (by decide) (by decide) (zWr_tr (f_Ground_setTrial_w v4 h) (by decide) (by decide) (zWr.refl _ _))))
def f_Ground_search_l35 (v1 : Int32) (v2 : Int32) (v3 : Int32) (n : Nat) (t : Int32 × zm_H) : Nat × Int32 × zm_H := zwh (fun t => f_Ground_search_l35_b v1 v2 v3 t.1 t.2) n t
def f_Ground_search_l35_ok (v1 : Int32) (v2 : Int32) (v3 : Int32) (n : Nat) (t : Int32 × zm_H) : Prop := zwo (fun t => f_Ground_search_l35_b v1 v2 v3 t.1 t.2) (fun t => f_Ground_search_l35_b_ok v1 v2 v3 t.1 t.2) n t
theorem f_Ground_search_l35_w (v1 : Int32) (v2 : Int32) (v3 : Int32) (n : Nat) (t : Int32 × zm_H) : zWr [32, 33, 34, 35, 36, 89, 90] [(82, 14)] (t.2) ((f_Ground_search_l35 v1 v2 v3 n t).2.2) := by
  unfold f_Ground_search_l35
  exact zWr_zwh (fun t : Int32 × zm_H => t.2) (fun t => f_Ground_search_l35_b_w v1 v2 v3 t.1 t.2)
def f_Ground_search_k127 (h : zm_H) : zm_H := h
def f_Ground_search_k127_ok (h : zm_H) : Prop := True
theorem f_Ground_search_k127_w (h : zm_H) : zWr [] [] h ((f_Ground_search_k127 h)) := by
  unfold f_Ground_search_k127
  exact (zWr.refl _ _)
def f_Ground_search_a35 (r : Nat × Int32 × zm_H) : zm_H := (f_Ground_search_k127 (r.2.2))
def f_Ground_search_a35_ok (r : Nat × Int32 × zm_H) : Prop := True
theorem f_Ground_search_a35_w (r : Nat × Int32 × zm_H) : zWr [] [] (r.2.2) ((f_Ground_search_a35 r)) := by
  unfold f_Ground_search_a35
  exact (zWr_tr (f_Ground_search_k127_w (r.2.2)) (by decide) (by decide) (zWr.refl _ _))
def f_Ground_search_k27 (v1 : Int32) (v2 : Int32) (v3 : Int32) (h : zm_H) : zm_H := (f_Ground_search_a35 (f_Ground_search_l35 v1 v2 v3 zF (0, (zp h 82 14 (-1)))))
def f_Ground_search_k27_ok (v1 : Int32) (v2 : Int32) (v3 : Int32) (h : zm_H) : Prop := (f_Ground_search_l35_ok v1 v2 v3 zF (0, (zp h 82 14 (-1))) ∧ f_Ground_search_a35_ok (f_Ground_search_l35 v1 v2 v3 zF (0, (zp h 82 14 (-1)))))
theorem f_Ground_search_k27_w (v1 : Int32) (v2 : Int32) (v3 : Int32) (h : zm_H) : zWr [32, 33, 34, 35, 36, 89, 90] [(82, 14)] h ((f_Ground_search_k27 v1 v2 v3 h)) := by
  unfold f_Ground_search_k27
  exact (zWr_tr (f_Ground_search_a35_w (f_Ground_search_l35 v1 v2 v3 zF (0, (zp h 82 14 (-1))))) (by decide) (by decide) (zWr_tr (f_Ground_search_l35_w v1 v2 v3 zF (0, (zp h 82 14 (-1)))) (by decide) (by decide) (zWr_p (by decide) (zWr.refl _ _))))
def f_Ground_search_a5 (v1 : Int32) (v2 : Int32) (r : Nat × Int32 × Int32) (h : zm_H) : zm_H := (f_Ground_search_k27 v1 v2 (r.2.1) h)
def f_Ground_search_a5_ok (v1 : Int32) (v2 : Int32) (r : Nat × Int32 × Int32) (h : zm_H) : Prop := (f_Ground_search_k27_ok v1 v2 (r.2.1) h)
theorem f_Ground_search_a5_w (v1 : Int32) (v2 : Int32) (r : Nat × Int32 × Int32) (h : zm_H) : zWr [32, 33, 34, 35, 36, 89, 90] [(82, 14)] h ((f_Ground_search_a5 v1 v2 r h)) := by
  unfold f_Ground_search_a5
  exact (zWr_tr (f_Ground_search_k27_w v1 v2 (r.2.1) h) (by decide) (by decide) (zWr.refl _ _))
def f_Ground_search (p1 : Int32) (p2 : Int32) (h : zm_H) : zm_H := (f_Ground_search_a5 p1 p2 (f_Ground_search_l5 p1 p2 h zF (1, 0)) h)
def f_Ground_search_ok (p1 : Int32) (p2 : Int32) (h : zm_H) : Prop := (f_Ground_search_l5_ok p1 p2 h zF (1, 0) ∧ f_Ground_search_a5_ok p1 p2 (f_Ground_search_l5 p1 p2 h zF (1, 0)) h)
theorem f_Ground_search_w (p1 : Int32) (p2 : Int32) (h : zm_H) : zWr [32, 33, 34, 35, 36, 89, 90] [(82, 14)] h ((f_Ground_search p1 p2 h)) := by
  unfold f_Ground_search
  exact (zWr_tr (f_Ground_search_a5_w p1 p2 (f_Ground_search_l5 p1 p2 h zF (1, 0)) h) (by decide) (by decide) (zWr.refl _ _))
def f_N_laying_k111 (v5 : Int32) (h : zm_H) : Int32 × zm_H := ((if (v5 = (-1)) then ((zf h 82 14) : Int32) else (if ((zf h 82 14) = (-1)) then ((zf h 82 14) : Int32) else (zr h 90 v5))), h)
def f_N_laying_k111_ok (v5 : Int32) (h : zm_H) : Prop := (((v5 = (-1)) → True) ∧ (¬ (v5 = (-1)) → ((((zf h 82 14) = (-1)) → True) ∧ (¬ ((zf h 82 14) = (-1)) → vp_in v5 3))))
theorem f_N_laying_k111_w (v5 : Int32) (h : zm_H) : zWr [] [] h ((f_N_laying_k111 v5 h).2) := by
  unfold f_N_laying_k111
  exact (zWr.refl _ _)
def f_N_laying_k90 (v4 : Int32) (v5 : Int32) (w0 : Int32) (h : zm_H) : Int32 × zm_H := (if (w0 = 0) then ((-1), h) else (f_N_laying_k111 v5 (f_Ground_search v4 ((zf h 0 0) / 8) h)))
def f_N_laying_k90_ok (v4 : Int32) (v5 : Int32) (w0 : Int32) (h : zm_H) : Prop := (((w0 = 0) → True) ∧ (¬ (w0 = 0) → (f_Ground_search_ok v4 ((zf h 0 0) / 8) h ∧ (f_N_laying_k111_ok v5 (f_Ground_search v4 ((zf h 0 0) / 8) h)))))
theorem f_N_laying_k90_w (v4 : Int32) (v5 : Int32) (w0 : Int32) (h : zm_H) : zWr [32, 33, 34, 35, 36, 89, 90] [(82, 14)] h ((f_N_laying_k90 v4 v5 w0 h).2) := by
  unfold f_N_laying_k90
  exact (zWr_ite (fun z : Int32 × zm_H => z.2) (zWr.refl _ _) (zWr_tr (f_N_laying_k111_w v5 (f_Ground_search v4 ((zf h 0 0) / 8) h)) (by decide) (by decide) (zWr_tr (f_Ground_search_w v4 ((zf h 0 0) / 8) h) (by decide) (by decide) (zWr.refl _ _))))
def f_N_laying_k70 (v3 : Int32) (v4 : Int32) (v5 : Int32) (w0 : Int32) (h : zm_H) : Int32 × zm_H := (if (w0 = 0) then ((-1), h) else (f_N_laying_k90 v4 v5 (f_Ground_chooseSpells (v3 / 1000) (zm_rm v3 1000) h).1 (f_Ground_chooseSpells (v3 / 1000) (zm_rm v3 1000) h).2))
def f_N_laying_k70_ok (v3 : Int32) (v4 : Int32) (v5 : Int32) (w0 : Int32) (h : zm_H) : Prop := (((w0 = 0) → True) ∧ (¬ (w0 = 0) → (f_Ground_chooseSpells_ok (v3 / 1000) (zm_rm v3 1000) h ∧ (f_N_laying_k90_ok v4 v5 (f_Ground_chooseSpells (v3 / 1000) (zm_rm v3 1000) h).1 (f_Ground_chooseSpells (v3 / 1000) (zm_rm v3 1000) h).2))))
theorem f_N_laying_k70_w (v3 : Int32) (v4 : Int32) (v5 : Int32) (w0 : Int32) (h : zm_H) : zWr [32, 33, 34, 35, 36, 88, 89, 90] [(82, 11), (82, 14)] h ((f_N_laying_k70 v3 v4 v5 w0 h).2) := by
  unfold f_N_laying_k70
  exact (zWr_ite (fun z : Int32 × zm_H => z.2) (zWr.refl _ _) (zWr_tr (f_N_laying_k90_w v4 v5 (f_Ground_chooseSpells (v3 / 1000) (zm_rm v3 1000) h).1 (f_Ground_chooseSpells (v3 / 1000) (zm_rm v3 1000) h).2) (by decide) (by decide) (zWr_tr (f_Ground_chooseSpells_w (v3 / 1000) (zm_rm v3 1000) h) (by decide) (by decide) (zWr.refl _ _))))
def f_N_laying (p1 : Int32) (p2 : Int32) (p3 : Int32) (p4 : Int32) (p5 : Int32) (h : zm_H) : Int32 × zm_H := (if (p2 < 1) then ((-1), h) else (if (3 < p2) then ((-1), h) else (if (p5 < (-1)) then ((-1), h) else (if (p2 ≤ p5) then ((-1), h) else (if (p4 < 0) then ((-1), h) else (if (p4 ≤ 100) then (if (p3 < 0) then ((-1), h) else (if (¬ ((p3 / 1000) < 0) ∧ (¬ ((zm_rm p3 1000) < (p3 / 1000)) ∧ (¬ (480 ≤ (zm_rm p3 1000))))) then (f_N_laying_k70 p3 p4 p5 (f_Ground_chooseRafts p1 p2 h).1 (f_Ground_chooseRafts p1 p2 h).2) else ((-1), h))) else ((-1), h)))))))
def f_N_laying_ok (p1 : Int32) (p2 : Int32) (p3 : Int32) (p4 : Int32) (p5 : Int32) (h : zm_H) : Prop := (((p2 < 1) → True) ∧ (¬ (p2 < 1) → (((3 < p2) → True) ∧ (¬ (3 < p2) → (((p5 < (-1)) → True) ∧ (¬ (p5 < (-1)) → (((p2 ≤ p5) → True) ∧ (¬ (p2 ≤ p5) → (((p4 < 0) → True) ∧ (¬ (p4 < 0) → (((p4 ≤ 100) → (((p3 < 0) → True) ∧ (¬ (p3 < 0) → (((¬ ((p3 / 1000) < 0) ∧ (¬ ((zm_rm p3 1000) < (p3 / 1000)) ∧ (¬ (480 ≤ (zm_rm p3 1000))))) → (f_Ground_chooseRafts_ok p1 p2 h ∧ (f_N_laying_k70_ok p3 p4 p5 (f_Ground_chooseRafts p1 p2 h).1 (f_Ground_chooseRafts p1 p2 h).2))) ∧ (¬ (¬ ((p3 / 1000) < 0) ∧ (¬ ((zm_rm p3 1000) < (p3 / 1000)) ∧ (¬ (480 ≤ (zm_rm p3 1000))))) → True))))) ∧ (¬ (p4 ≤ 100) → True))))))))))))
theorem f_N_laying_w (p1 : Int32) (p2 : Int32) (p3 : Int32) (p4 : Int32) (p5 : Int32) (h : zm_H) : zWr [32, 33, 34, 35, 36, 87, 88, 89, 90] [(82, 9), (82, 11), (82, 14)] h ((f_N_laying p1 p2 p3 p4 p5 h).2) := by
  unfold f_N_laying
  exact (zWr_ite (fun z : Int32 × zm_H => z.2) (zWr.refl _ _) (zWr_ite (fun z : Int32 × zm_H => z.2) (zWr.refl _ _) (zWr_ite (fun z : Int32 × zm_H => z.2) (zWr.refl _ _) (zWr_ite (fun z : Int32 × zm_H => z.2) (zWr.refl _ _) (zWr_ite (fun z : Int32 × zm_H => z.2) (zWr.refl _ _) (zWr_ite (fun z : Int32 × zm_H => z.2) (zWr_ite (fun z : Int32 × zm_H => z.2) (zWr.refl _ _) (zWr_ite (fun z : Int32 × zm_H => z.2) (zWr_tr (f_N_laying_k70_w p3 p4 p5 (f_Ground_chooseRafts p1 p2 h).1 (f_Ground_chooseRafts p1 p2 h).2) (by decide) (by decide) (zWr_tr (f_Ground_chooseRafts_w p1 p2 h) (by decide) (by decide) (zWr.refl _ _))) (zWr.refl _ _))) (zWr.refl _ _)))))))
def f_M_laying_l92_l153_b (v2 : Int32) (v3 : Int32) (v4 : Int32) (v5 : Int32) (v6 : Int32) (v7 : Int32) (v8 : Int32) (h : zm_H) : Nat × Int32 := (if (v2 ≤ v8) then (2, v8) else (if ((zr h 159 v8) = (zr h 159 v7)) then (1, v8) else (0, (v8 + 1))))
def f_M_laying_l92_l153_b_ok (v2 : Int32) (v3 : Int32) (v4 : Int32) (v5 : Int32) (v6 : Int32) (v7 : Int32) (v8 : Int32) (h : zm_H) : Prop := (((v2 ≤ v8) → True) ∧ (¬ (v2 ≤ v8) → (vp_in v8 3 ∧ vp_in v7 3)))
def f_M_laying_l92_l153 (v2 : Int32) (v3 : Int32) (v4 : Int32) (v5 : Int32) (v6 : Int32) (v7 : Int32) (h : zm_H) (n : Nat) (t : Int32) : Nat × Int32 := zwh (fun t => f_M_laying_l92_l153_b v2 v3 v4 v5 v6 v7 t h) n t
def f_M_laying_l92_l153_ok (v2 : Int32) (v3 : Int32) (v4 : Int32) (v5 : Int32) (v6 : Int32) (v7 : Int32) (h : zm_H) (n : Nat) (t : Int32) : Prop := zwo (fun t => f_M_laying_l92_l153_b v2 v3 v4 v5 v6 v7 t h) (fun t => f_M_laying_l92_l153_b_ok v2 v3 v4 v5 v6 v7 t h) n t
def f_M_laying_l92_k184 (v2 : Int32) (v3 : Int32) (v4 : Int32) (v5 : Int32) (v6 : Int32) (v7 : Int32) (h : zm_H) : Nat × Int32 × Int32 × zm_H := (0, v6, (v7 + (-1)), h)
def f_M_laying_l92_k184_ok (v2 : Int32) (v3 : Int32) (v4 : Int32) (v5 : Int32) (v6 : Int32) (v7 : Int32) (h : zm_H) : Prop := True
theorem f_M_laying_l92_k184_w (v2 : Int32) (v3 : Int32) (v4 : Int32) (v5 : Int32) (v6 : Int32) (v7 : Int32) (h : zm_H) : zWr [] [] h ((f_M_laying_l92_k184 v2 v3 v4 v5 v6 v7 h).2.2.2) := by
  unfold f_M_laying_l92_k184
  exact (zWr.refl _ _)
def f_M_laying_l92_a153 (v2 : Int32) (v3 : Int32) (v4 : Int32) (v5 : Int32) (v6 : Int32) (v7 : Int32) (r : Nat × Int32) (h : zm_H) : Nat × Int32 × Int32 × zm_H := (if r.1 = 1 then (2, v6, v7, h) else (f_M_laying_l92_k184 v2 v3 v4 v5 v6 v7 h))
def f_M_laying_l92_a153_ok (v2 : Int32) (v3 : Int32) (v4 : Int32) (v5 : Int32) (v6 : Int32) (v7 : Int32) (r : Nat × Int32) (h : zm_H) : Prop := ((r.1 = 1 → True) ∧ (¬ r.1 = 1 → True))
theorem f_M_laying_l92_a153_w (v2 : Int32) (v3 : Int32) (v4 : Int32) (v5 : Int32) (v6 : Int32) (v7 : Int32) (r : Nat × Int32) (h : zm_H) : zWr [] [] h ((f_M_laying_l92_a153 v2 v3 v4 v5 v6 v7 r h).2.2.2) := by
  unfold f_M_laying_l92_a153
  exact (zWr_ite (fun z : Nat × Int32 × Int32 × zm_H => z.2.2.2) (zWr.refl _ _) (zWr_tr (f_M_laying_l92_k184_w v2 v3 v4 v5 v6 v7 h) (by decide) (by decide) (zWr.refl _ _)))
def f_M_laying_l92_b (v2 : Int32) (v3 : Int32) (v4 : Int32) (v5 : Int32) (v6 : Int32) (v7 : Int32) (h : zm_H) : Nat × Int32 × Int32 × zm_H := (if (v7 < 0) then (3, v6, v7, h) else (if (¬ ((zr (zs h 159 v7 (zm_rm v6 10)) 159 v7) < 0) ∧ (¬ (((zf h 92 33) - 1) < (zr (zs h 159 v7 (zm_rm v6 10)) 159 v7)))) then (if ((zr h 123 (zr (zs h 159 v7 (zm_rm v6 10)) 159 v7)) = 0) then (f_M_laying_l92_a153 v2 v3 v4 v5 (v6 / 10) v7 (f_M_laying_l92_l153 v2 v3 v4 v5 (v6 / 10) v7 (zs h 159 v7 (zm_rm v6 10)) zF (v7 + 1)) (zs h 159 v7 (zm_rm v6 10))) else (1, (v6 / 10), v7, (zs h 159 v7 (zm_rm v6 10)))) else (1, (v6 / 10), v7, (zs h 159 v7 (zm_rm v6 10)))))
def f_M_laying_l92_b_ok (v2 : Int32) (v3 : Int32) (v4 : Int32) (v5 : Int32) (v6 : Int32) (v7 : Int32) (h : zm_H) : Prop := (((v7 < 0) → True) ∧ (¬ (v7 < 0) → (vp_in v7 3 ∧ (vp_in v7 3 ∧ (((¬ ((zr (zs h 159 v7 (zm_rm v6 10)) 159 v7) < 0) ∧ (¬ (((zf h 92 33) - 1) < (zr (zs h 159 v7 (zm_rm v6 10)) 159 v7)))) → (vp_in v7 3 ∧ (vp_in (zr (zs h 159 v7 (zm_rm v6 10)) 159 v7) 20 ∧ ((((zr h 123 (zr (zs h 159 v7 (zm_rm v6 10)) 159 v7)) = 0) → (f_M_laying_l92_l153_ok v2 v3 v4 v5 (v6 / 10) v7 (zs h 159 v7 (zm_rm v6 10)) zF (v7 + 1) ∧ f_M_laying_l92_a153_ok v2 v3 v4 v5 (v6 / 10) v7 (f_M_laying_l92_l153 v2 v3 v4 v5 (v6 / 10) v7 (zs h 159 v7 (zm_rm v6 10)) zF (v7 + 1)) (zs h 159 v7 (zm_rm v6 10)))) ∧ (¬ ((zr h 123 (zr (zs h 159 v7 (zm_rm v6 10)) 159 v7)) = 0) → True))))) ∧ (¬ (¬ ((zr (zs h 159 v7 (zm_rm v6 10)) 159 v7) < 0) ∧ (¬ (((zf h 92 33) - 1) < (zr (zs h 159 v7 (zm_rm v6 10)) 159 v7)))) → True))))))
theorem f_M_laying_l92_b_w (v2 : Int32) (v3 : Int32) (v4 : Int32) (v5 : Int32) (v6 : Int32) (v7 : Int32) (h : zm_H) : zWr [159] [] h ((f_M_laying_l92_b v2 v3 v4 v5 v6 v7 h).2.2.2) := by
  unfold f_M_laying_l92_b
  exact (zWr_ite (fun z : Nat × Int32 × Int32 × zm_H => z.2.2.2) (zWr.refl _ _) (zWr_ite (fun z : Nat × Int32 × Int32 × zm_H => z.2.2.2) (zWr_ite (fun z : Nat × Int32 × Int32 × zm_H => z.2.2.2) (zWr_tr (f_M_laying_l92_a153_w v2 v3 v4 v5 (v6 / 10) v7 (f_M_laying_l92_l153 v2 v3 v4 v5 (v6 / 10) v7 (zs h 159 v7 (zm_rm v6 10)) zF (v7 + 1)) (zs h 159 v7 (zm_rm v6 10))) (by decide) (by decide) (zWr_si (by decide) (zWr.refl _ _))) (zWr_si (by decide) (zWr.refl _ _))) (zWr_si (by decide) (zWr.refl _ _))))
def f_M_laying_l92 (v2 : Int32) (v3 : Int32) (v4 : Int32) (v5 : Int32) (n : Nat) (t : Int32 × Int32 × zm_H) : Nat × Int32 × Int32 × zm_H := zwh (fun t => f_M_laying_l92_b v2 v3 v4 v5 t.1 t.2.1 t.2.2) n t
def f_M_laying_l92_ok (v2 : Int32) (v3 : Int32) (v4 : Int32) (v5 : Int32) (n : Nat) (t : Int32 × Int32 × zm_H) : Prop := zwo (fun t => f_M_laying_l92_b v2 v3 v4 v5 t.1 t.2.1 t.2.2) (fun t => f_M_laying_l92_b_ok v2 v3 v4 v5 t.1 t.2.1 t.2.2) n t
theorem f_M_laying_l92_w (v2 : Int32) (v3 : Int32) (v4 : Int32) (v5 : Int32) (n : Nat) (t : Int32 × Int32 × zm_H) : zWr [159] [] (t.2.2) ((f_M_laying_l92 v2 v3 v4 v5 n t).2.2.2) := by
  unfold f_M_laying_l92
  exact zWr_zwh (fun t : Int32 × Int32 × zm_H => t.2.2) (fun t => f_M_laying_l92_b_w v2 v3 v4 v5 t.1 t.2.1 t.2.2)
def f_M_laying_k145 (h : zm_H) : Int32 × zm_H := ((-1), h)
def f_M_laying_k145_ok (h : zm_H) : Prop := True
theorem f_M_laying_k145_w (h : zm_H) : zWr [] [] h ((f_M_laying_k145 h).2) := by
  unfold f_M_laying_k145
  exact (zWr.refl _ _)
def f_M_laying_k176 (h : zm_H) : Int32 × zm_H := ((-1), h)
def f_M_laying_k176_ok (h : zm_H) : Prop := True
theorem f_M_laying_k176_w (h : zm_H) : zWr [] [] h ((f_M_laying_k176 h).2) := by
  unfold f_M_laying_k176
  exact (zWr.refl _ _)
def f_M_laying_l203_b (v2 : Int32) (v3 : Int32) (v4 : Int32) (v5 : Int32) (v6 : Int32) (v7 : Int32) (v8 : Int32) (h : zm_H) : Nat × Int32 × Int32 := (if (v2 ≤ v8) then (1, v7, v8) else (0, (v7 * (zf h 92 75)), (v8 + 1)))
def f_M_laying_l203_b_ok (v2 : Int32) (v3 : Int32) (v4 : Int32) (v5 : Int32) (v6 : Int32) (v7 : Int32) (v8 : Int32) (h : zm_H) : Prop := True
def f_M_laying_l203 (v2 : Int32) (v3 : Int32) (v4 : Int32) (v5 : Int32) (v6 : Int32) (h : zm_H) (n : Nat) (t : Int32 × Int32) : Nat × Int32 × Int32 := zwh (fun t => f_M_laying_l203_b v2 v3 v4 v5 v6 t.1 t.2 h) n t
def f_M_laying_l203_ok (v2 : Int32) (v3 : Int32) (v4 : Int32) (v5 : Int32) (v6 : Int32) (h : zm_H) (n : Nat) (t : Int32 × Int32) : Prop := zwo (fun t => f_M_laying_l203_b v2 v3 v4 v5 v6 t.1 t.2 h) (fun t => f_M_laying_l203_b_ok v2 v3 v4 v5 v6 t.1 t.2 h) n t
def f_M_laying_l230_l249_l329_b (v2 : Int32) (v3 : Int32) (v4 : Int32) (v5 : Int32) (v7 : Int32) (v8 : Int32) (v9 : Int32) (v10 : Int32) (v11 : Int32) (v12 : Int32) (v13 : Int32) (h : zm_H) : Nat × Int32 × Int32 := (if (v2 ≤ v13) then (1, v11, v13) else (0, (if (¬ (v11 = 0) ∧ (¬ ((zr h 160 v13) = (zr h 160 v12)))) then (1 : Int32) else 0), (v13 + 1)))
def f_M_laying_l230_l249_l329_b_ok (v2 : Int32) (v3 : Int32) (v4 : Int32) (v5 : Int32) (v7 : Int32) (v8 : Int32) (v9 : Int32) (v10 : Int32) (v11 : Int32) (v12 : Int32) (v13 : Int32) (h : zm_H) : Prop := (((v2 ≤ v13) → True) ∧ (¬ (v2 ≤ v13) → (((v11 = 0) → True) ∧ (¬ (v11 = 0) → (vp_in v13 3 ∧ vp_in v12 3)))))
def f_M_laying_l230_l249_l329 (v2 : Int32) (v3 : Int32) (v4 : Int32) (v5 : Int32) (v7 : Int32) (v8 : Int32) (v9 : Int32) (v10 : Int32) (v12 : Int32) (h : zm_H) (n : Nat) (t : Int32 × Int32) : Nat × Int32 × Int32 := zwh (fun t => f_M_laying_l230_l249_l329_b v2 v3 v4 v5 v7 v8 v9 v10 t.1 v12 t.2 h) n t
def f_M_laying_l230_l249_l329_ok (v2 : Int32) (v3 : Int32) (v4 : Int32) (v5 : Int32) (v7 : Int32) (v8 : Int32) (v9 : Int32) (v10 : Int32) (v12 : Int32) (h : zm_H) (n : Nat) (t : Int32 × Int32) : Prop := zwo (fun t => f_M_laying_l230_l249_l329_b v2 v3 v4 v5 v7 v8 v9 v10 t.1 v12 t.2 h) (fun t => f_M_laying_l230_l249_l329_b_ok v2 v3 v4 v5 v7 v8 v9 v10 t.1 v12 t.2 h) n t
def f_M_laying_l230_l249_k370 (v2 : Int32) (v3 : Int32) (v4 : Int32) (v5 : Int32) (v7 : Int32) (v8 : Int32) (v9 : Int32) (v10 : Int32) (v11 : Int32) (v12 : Int32) (h : zm_H) : Nat × Int32 × Int32 × Int32 × zm_H := (0, v10, v11, (v12 + (-1)), h)
def f_M_laying_l230_l249_k370_ok (v2 : Int32) (v3 : Int32) (v4 : Int32) (v5 : Int32) (v7 : Int32) (v8 : Int32) (v9 : Int32) (v10 : Int32) (v11 : Int32) (v12 : Int32) (h : zm_H) : Prop := True
theorem f_M_laying_l230_l249_k370_w (v2 : Int32) (v3 : Int32) (v4 : Int32) (v5 : Int32) (v7 : Int32) (v8 : Int32) (v9 : Int32) (v10 : Int32) (v11 : Int32) (v12 : Int32) (h : zm_H) : zWr [] [] h ((f_M_laying_l230_l249_k370 v2 v3 v4 v5 v7 v8 v9 v10 v11 v12 h).2.2.2.2) := by
  unfold f_M_laying_l230_l249_k370
  exact (zWr.refl _ _)
def f_M_laying_l230_l249_a329 (v2 : Int32) (v3 : Int32) (v4 : Int32) (v5 : Int32) (v7 : Int32) (v8 : Int32) (v9 : Int32) (v10 : Int32) (v12 : Int32) (r : Nat × Int32 × Int32) (h : zm_H) : Nat × Int32 × Int32 × Int32 × zm_H := (f_M_laying_l230_l249_k370 v2 v3 v4 v5 v7 v8 v9 v10 (r.2.1) v12 h)
def f_M_laying_l230_l249_a329_ok (v2 : Int32) (v3 : Int32) (v4 : Int32) (v5 : Int32) (v7 : Int32) (v8 : Int32) (v9 : Int32) (v10 : Int32) (v12 : Int32) (r : Nat × Int32 × Int32) (h : zm_H) : Prop := True
theorem f_M_laying_l230_l249_a329_w (v2 : Int32) (v3 : Int32) (v4 : Int32) (v5 : Int32) (v7 : Int32) (v8 : Int32) (v9 : Int32) (v10 : Int32) (v12 : Int32) (r : Nat × Int32 × Int32) (h : zm_H) : zWr [] [] h ((f_M_laying_l230_l249_a329 v2 v3 v4 v5 v7 v8 v9 v10 v12 r h).2.2.2.2) := by
  unfold f_M_laying_l230_l249_a329
  exact (zWr_tr (f_M_laying_l230_l249_k370_w v2 v3 v4 v5 v7 v8 v9 v10 (r.2.1) v12 h) (by decide) (by decide) (zWr.refl _ _))
def f_M_laying_l230_l249_b (v2 : Int32) (v3 : Int32) (v4 : Int32) (v5 : Int32) (v7 : Int32) (v8 : Int32) (v9 : Int32) (v10 : Int32) (v11 : Int32) (v12 : Int32) (h : zm_H) : Nat × Int32 × Int32 × Int32 × zm_H := (if (v12 < 0) then (1, v10, v11, v12, h) else (f_M_laying_l230_l249_a329 v2 v3 v4 v5 v7 v8 v9 (v10 / (zf h 92 75)) v12 (f_M_laying_l230_l249_l329 v2 v3 v4 v5 v7 v8 v9 (v10 / (zf h 92 75)) v12 (zs h 160 v12 (zr h 148 (zm_rm v10 (zf h 92 75)))) zF ((if (¬ (v11 = 0) ∧ (((f_M_isShut (zr (zs h 160 v12 (zr h 148 (zm_rm v10 (zf h 92 75)))) 160 v12) (zs h 160 v12 (zr h 148 (zm_rm v10 (zf h 92 75))))) = 0) ∧ ((f_M_isTaken 0 (zr (zs h 160 v12 (zr h 148 (zm_rm v10 (zf h 92 75)))) 160 v12) (zs h 160 v12 (zr h 148 (zm_rm v10 (zf h 92 75))))) = 0))) then (1 : Int32) else 0), (v12 + 1))) (zs h 160 v12 (zr h 148 (zm_rm v10 (zf h 92 75))))))
def f_M_laying_l230_l249_b_ok (v2 : Int32) (v3 : Int32) (v4 : Int32) (v5 : Int32) (v7 : Int32) (v8 : Int32) (v9 : Int32) (v10 : Int32) (v11 : Int32) (v12 : Int32) (h : zm_H) : Prop := (((v12 < 0) → True) ∧ (¬ (v12 < 0) → (¬ (zf h 92 75) = 0 ∧ (vp_in (zm_rm v10 (zf h 92 75)) 8 ∧ (vp_in v12 3 ∧ (¬ (zf h 92 75) = 0 ∧ ((((v11 = 0) → True) ∧ (¬ (v11 = 0) → (vp_in v12 3 ∧ (f_M_isShut_ok (zr (zs h 160 v12 (zr h 148 (zm_rm v10 (zf h 92 75)))) 160 v12) (zs h 160 v12 (zr h 148 (zm_rm v10 (zf h 92 75)))) ∧ ((((f_M_isShut (zr (zs h 160 v12 (zr h 148 (zm_rm v10 (zf h 92 75)))) 160 v12) (zs h 160 v12 (zr h 148 (zm_rm v10 (zf h 92 75))))) = 0) → (vp_in v12 3 ∧ f_M_isTaken_ok 0 (zr (zs h 160 v12 (zr h 148 (zm_rm v10 (zf h 92 75)))) 160 v12) (zs h 160 v12 (zr h 148 (zm_rm v10 (zf h 92 75)))))) ∧ (¬ ((f_M_isShut (zr (zs h 160 v12 (zr h 148 (zm_rm v10 (zf h 92 75)))) 160 v12) (zs h 160 v12 (zr h 148 (zm_rm v10 (zf h 92 75))))) = 0) → True)))))) ∧ (f_M_laying_l230_l249_l329_ok v2 v3 v4 v5 v7 v8 v9 (v10 / (zf h 92 75)) v12 (zs h 160 v12 (zr h 148 (zm_rm v10 (zf h 92 75)))) zF ((if (¬ (v11 = 0) ∧ (((f_M_isShut (zr (zs h 160 v12 (zr h 148 (zm_rm v10 (zf h 92 75)))) 160 v12) (zs h 160 v12 (zr h 148 (zm_rm v10 (zf h 92 75))))) = 0) ∧ ((f_M_isTaken 0 (zr (zs h 160 v12 (zr h 148 (zm_rm v10 (zf h 92 75)))) 160 v12) (zs h 160 v12 (zr h 148 (zm_rm v10 (zf h 92 75))))) = 0))) then (1 : Int32) else 0), (v12 + 1)) ∧ f_M_laying_l230_l249_a329_ok v2 v3 v4 v5 v7 v8 v9 (v10 / (zf h 92 75)) v12 (f_M_laying_l230_l249_l329 v2 v3 v4 v5 v7 v8 v9 (v10 / (zf h 92 75)) v12 (zs h 160 v12 (zr h 148 (zm_rm v10 (zf h 92 75)))) zF ((if (¬ (v11 = 0) ∧ (((f_M_isShut (zr (zs h 160 v12 (zr h 148 (zm_rm v10 (zf h 92 75)))) 160 v12) (zs h 160 v12 (zr h 148 (zm_rm v10 (zf h 92 75))))) = 0) ∧ ((f_M_isTaken 0 (zr (zs h 160 v12 (zr h 148 (zm_rm v10 (zf h 92 75)))) 160 v12) (zs h 160 v12 (zr h 148 (zm_rm v10 (zf h 92 75))))) = 0))) then (1 : Int32) else 0), (v12 + 1))) (zs h 160 v12 (zr h 148 (zm_rm v10 (zf h 92 75))))))))))))
theorem f_M_laying_l230_l249_b_w (v2 : Int32) (v3 : Int32) (v4 : Int32) (v5 : Int32) (v7 : Int32) (v8 : Int32) (v9 : Int32) (v10 : Int32) (v11 : Int32) (v12 : Int32) (h : zm_H) : zWr [160] [] h ((f_M_laying_l230_l249_b v2 v3 v4 v5 v7 v8 v9 v10 v11 v12 h).2.2.2.2) := by
  unfold f_M_laying_l230_l249_b
  exact (zWr_ite (fun z : Nat × Int32 × Int32 × Int32 × zm_H => z.2.2.2.2) (zWr.refl _ _) (zWr_tr (f_M_laying_l230_l249_a329_w v2 v3 v4 v5 v7 v8 v9 (v10 / (zf h 92 75)) v12 (f_M_laying_l230_l249_l329 v2 v3 v4 v5 v7 v8 v9 (v10 / (zf h 92 75)) v12 (zs h 160 v12 (zr h 148 (zm_rm v10 (zf h 92 75)))) zF ((if (¬ (v11 = 0) ∧ (((f_M_isShut (zr (zs h 160 v12 (zr h 148 (zm_rm v10 (zf h 92 75)))) 160 v12) (zs h 160 v12 (zr h 148 (zm_rm v10 (zf h 92 75))))) = 0) ∧ ((f_M_isTaken 0 (zr (zs h 160 v12 (zr h 148 (zm_rm v10 (zf h 92 75)))) 160 v12) (zs h 160 v12 (zr h 148 (zm_rm v10 (zf h 92 75))))) = 0))) then (1 : Int32) else 0), (v12 + 1))) (zs h 160 v12 (zr h 148 (zm_rm v10 (zf h 92 75))))) (by decide) (by decide) (zWr_si (by decide) (zWr.refl _ _))))
def f_M_laying_l230_l249 (v2 : Int32) (v3 : Int32) (v4 : Int32) (v5 : Int32) (v7 : Int32) (v8 : Int32) (v9 : Int32) (n : Nat) (t : Int32 × Int32 × Int32 × zm_H) : Nat × Int32 × Int32 × Int32 × zm_H := zwh (fun t => f_M_laying_l230_l249_b v2 v3 v4 v5 v7 v8 v9 t.1 t.2.1 t.2.2.1 t.2.2.2) n t
def f_M_laying_l230_l249_ok (v2 : Int32) (v3 : Int32) (v4 : Int32) (v5 : Int32) (v7 : Int32) (v8 : Int32) (v9 : Int32) (n : Nat) (t : Int32 × Int32 × Int32 × zm_H) : Prop := zwo (fun t => f_M_laying_l230_l249_b v2 v3 v4 v5 v7 v8 v9 t.1 t.2.1 t.2.2.1 t.2.2.2) (fun t => f_M_laying_l230_l249_b_ok v2 v3 v4 v5 v7 v8 v9 t.1 t.2.1 t.2.2.1 t.2.2.2) n t
theorem f_M_laying_l230_l249_w (v2 : Int32) (v3 : Int32) (v4 : Int32) (v5 : Int32) (v7 : Int32) (v8 : Int32) (v9 : Int32) (n : Nat) (t : Int32 × Int32 × Int32 × zm_H) : zWr [160] [] (t.2.2.2) ((f_M_laying_l230_l249 v2 v3 v4 v5 v7 v8 v9 n t).2.2.2.2) := by
  unfold f_M_laying_l230_l249
  exact zWr_zwh (fun t : Int32 × Int32 × Int32 × zm_H => t.2.2.2) (fun t => f_M_laying_l230_l249_b_w v2 v3 v4 v5 v7 v8 v9 t.1 t.2.1 t.2.2.1 t.2.2.2)
def f_M_laying_l230_l412_b (v2 : Int32) (v3 : Int32) (v4 : Int32) (v5 : Int32) (v7 : Int32) (v8 : Int32) (v9 : Int32) (v12 : Int32) (v13 : Int32) (h : zm_H) : Nat × Int32 × zm_H := (if (v2 ≤ v13) then (1, v13, h) else (0, (v13 + 1), (zs h 161 v13 (zr h 160 v13))))
def f_M_laying_l230_l412_b_ok (v2 : Int32) (v3 : Int32) (v4 : Int32) (v5 : Int32) (v7 : Int32) (v8 : Int32) (v9 : Int32) (v12 : Int32) (v13 : Int32) (h : zm_H) : Prop := (((v2 ≤ v13) → True) ∧ (¬ (v2 ≤ v13) → (vp_in v13 3 ∧ vp_in v13 3)))
theorem f_M_laying_l230_l412_b_w (v2 : Int32) (v3 : Int32) (v4 : Int32) (v5 : Int32) (v7 : Int32) (v8 : Int32) (v9 : Int32) (v12 : Int32) (v13 : Int32) (h : zm_H) : zWr [161] [] h ((f_M_laying_l230_l412_b v2 v3 v4 v5 v7 v8 v9 v12 v13 h).2.2) := by
  unfold f_M_laying_l230_l412_b
  exact (zWr_ite (fun z : Nat × Int32 × zm_H => z.2.2) (zWr.refl _ _) (zWr_si (by decide) (zWr.refl _ _)))
def f_M_laying_l230_l412 (v2 : Int32) (v3 : Int32) (v4 : Int32) (v5 : Int32) (v7 : Int32) (v8 : Int32) (v9 : Int32) (v12 : Int32) (n : Nat) (t : Int32 × zm_H) : Nat × Int32 × zm_H := zwh (fun t => f_M_laying_l230_l412_b v2 v3 v4 v5 v7 v8 v9 v12 t.1 t.2) n t
def f_M_laying_l230_l412_ok (v2 : Int32) (v3 : Int32) (v4 : Int32) (v5 : Int32) (v7 : Int32) (v8 : Int32) (v9 : Int32) (v12 : Int32) (n : Nat) (t : Int32 × zm_H) : Prop := zwo (fun t => f_M_laying_l230_l412_b v2 v3 v4 v5 v7 v8 v9 v12 t.1 t.2) (fun t => f_M_laying_l230_l412_b_ok v2 v3 v4 v5 v7 v8 v9 v12 t.1 t.2) n t
theorem f_M_laying_l230_l412_w (v2 : Int32) (v3 : Int32) (v4 : Int32) (v5 : Int32) (v7 : Int32) (v8 : Int32) (v9 : Int32) (v12 : Int32) (n : Nat) (t : Int32 × zm_H) : zWr [161] [] (t.2) ((f_M_laying_l230_l412 v2 v3 v4 v5 v7 v8 v9 v12 n t).2.2) := by
  unfold f_M_laying_l230_l412
  exact zWr_zwh (fun t : Int32 × zm_H => t.2) (fun t => f_M_laying_l230_l412_b_w v2 v3 v4 v5 v7 v8 v9 v12 t.1 t.2)
def f_M_laying_l230_k438 (v2 : Int32) (v3 : Int32) (v4 : Int32) (v5 : Int32) (v7 : Int32) (v8 : Int32) (v9 : Int32) (h : zm_H) : Nat × Int32 × Int32 × zm_H := (0, v8, (v9 + 1), h)
def f_M_laying_l230_k438_ok (v2 : Int32) (v3 : Int32) (v4 : Int32) (v5 : Int32) (v7 : Int32) (v8 : Int32) (v9 : Int32) (h : zm_H) : Prop := True
theorem f_M_laying_l230_k438_w (v2 : Int32) (v3 : Int32) (v4 : Int32) (v5 : Int32) (v7 : Int32) (v8 : Int32) (v9 : Int32) (h : zm_H) : zWr [] [] h ((f_M_laying_l230_k438 v2 v3 v4 v5 v7 v8 v9 h).2.2.2) := by
  unfold f_M_laying_l230_k438
  exact (zWr.refl _ _)
def f_M_laying_l230_a412 (v2 : Int32) (v3 : Int32) (v4 : Int32) (v5 : Int32) (v7 : Int32) (v8 : Int32) (v9 : Int32) (r : Nat × Int32 × zm_H) : Nat × Int32 × Int32 × zm_H := (f_M_laying_l230_k438 v2 v3 v4 v5 v7 v8 v9 (r.2.2))
def f_M_laying_l230_a412_ok (v2 : Int32) (v3 : Int32) (v4 : Int32) (v5 : Int32) (v7 : Int32) (v8 : Int32) (v9 : Int32) (r : Nat × Int32 × zm_H) : Prop := True
theorem f_M_laying_l230_a412_w (v2 : Int32) (v3 : Int32) (v4 : Int32) (v5 : Int32) (v7 : Int32) (v8 : Int32) (v9 : Int32) (r : Nat × Int32 × zm_H) : zWr [] [] (r.2.2) ((f_M_laying_l230_a412 v2 v3 v4 v5 v7 v8 v9 r).2.2.2) := by
  unfold f_M_laying_l230_a412
  exact (zWr_tr (f_M_laying_l230_k438_w v2 v3 v4 v5 v7 v8 v9 (r.2.2)) (by decide) (by decide) (zWr.refl _ _))
def f_M_laying_l230_k393 (v2 : Int32) (v3 : Int32) (v4 : Int32) (v5 : Int32) (v7 : Int32) (v8 : Int32) (v9 : Int32) (v11 : Int32) (w0 : Int32) (h : zm_H) : Nat × Int32 × Int32 × zm_H := (if (v8 < w0) then (f_M_laying_l230_a412 v2 v3 v4 v5 v7 w0 v9 (f_M_laying_l230_l412 v2 v3 v4 v5 v7 w0 v9 w0 zF (0, h))) else (f_M_laying_l230_k438 v2 v3 v4 v5 v7 v8 v9 h))
def f_M_laying_l230_k393_ok (v2 : Int32) (v3 : Int32) (v4 : Int32) (v5 : Int32) (v7 : Int32) (v8 : Int32) (v9 : Int32) (v11 : Int32) (w0 : Int32) (h : zm_H) : Prop := (((v8 < w0) → (f_M_laying_l230_l412_ok v2 v3 v4 v5 v7 w0 v9 w0 zF (0, h) ∧ f_M_laying_l230_a412_ok v2 v3 v4 v5 v7 w0 v9 (f_M_laying_l230_l412 v2 v3 v4 v5 v7 w0 v9 w0 zF (0, h)))) ∧ (¬ (v8 < w0) → True))
theorem f_M_laying_l230_k393_w (v2 : Int32) (v3 : Int32) (v4 : Int32) (v5 : Int32) (v7 : Int32) (v8 : Int32) (v9 : Int32) (v11 : Int32) (w0 : Int32) (h : zm_H) : zWr [161] [] h ((f_M_laying_l230_k393 v2 v3 v4 v5 v7 v8 v9 v11 w0 h).2.2.2) := by
  unfold f_M_laying_l230_k393
  exact (zWr_ite (fun z : Nat × Int32 × Int32 × zm_H => z.2.2.2) (zWr_tr (f_M_laying_l230_a412_w v2 v3 v4 v5 v7 w0 v9 (f_M_laying_l230_l412 v2 v3 v4 v5 v7 w0 v9 w0 zF (0, h))) (by decide) (by decide) (zWr_tr (f_M_laying_l230_l412_w v2 v3 v4 v5 v7 w0 v9 w0 zF (0, h)) (by decide) (by decide) (zWr.refl _ _))) (zWr_tr (f_M_laying_l230_k438_w v2 v3 v4 v5 v7 v8 v9 h) (by decide) (by decide) (zWr.refl _ _)))
def f_M_worth_l3_b (v1 : Int32) (v2 : Int32) (v3 : Int32) (v4 : Int32) (h : zm_H) : Nat × Int32 × zm_H := (if (10 ≤ v4) then (1, v4, h) else (0, (v4 + 1), (zs (zs h 123 (10 + v4) (if ((zr h 123 v4) = 1) then (1 : Int32) else 0)) 124 (10 + v4) (zr h 124 v4))))
def f_M_worth_l3_b_ok (v1 : Int32) (v2 : Int32) (v3 : Int32) (v4 : Int32) (h : zm_H) : Prop := (((10 ≤ v4) → True) ∧ (¬ (10 ≤ v4) → (vp_in v4 20 ∧ (vp_in (10 + v4) 20 ∧ (vp_in v4 20 ∧ vp_in (10 + v4) 20)))))
theorem f_M_worth_l3_b_w (v1 : Int32) (v2 : Int32) (v3 : Int32) (v4 : Int32) (h : zm_H) : zWr [123, 124] [] h ((f_M_worth_l3_b v1 v2 v3 v4 h).2.2) := by
  unfold f_M_worth_l3_b
  exact (zWr_ite (fun z : Nat × Int32 × zm_H => z.2.2) (zWr.refl _ _) (zWr_si (by decide) (zWr_si (by decide) (zWr.refl _ _))))
def f_M_worth_l3 (v1 : Int32) (v2 : Int32) (v3 : Int32) (n : Nat) (t : Int32 × zm_H) : Nat × Int32 × zm_H := zwh (fun t => f_M_worth_l3_b v1 v2 v3 t.1 t.2) n t
def f_M_worth_l3_ok (v1 : Int32) (v2 : Int32) (v3 : Int32) (n : Nat) (t : Int32 × zm_H) : Prop := zwo (fun t => f_M_worth_l3_b v1 v2 v3 t.1 t.2) (fun t => f_M_worth_l3_b_ok v1 v2 v3 t.1 t.2) n t
theorem f_M_worth_l3_w (v1 : Int32) (v2 : Int32) (v3 : Int32) (n : Nat) (t : Int32 × zm_H) : zWr [123, 124] [] (t.2) ((f_M_worth_l3 v1 v2 v3 n t).2.2) := by
  unfold f_M_worth_l3
  exact zWr_zwh (fun t : Int32 × zm_H => t.2) (fun t => f_M_worth_l3_b_w v1 v2 v3 t.1 t.2)
def f_M_worth_l62_b (v1 : Int32) (v2 : Int32) (v3 : Int32) (v4 : Int32) (h : zm_H) : Nat × Int32 × zm_H := (if (v1 ≤ v4) then (1, v4, h) else (0, (v4 + 1), (zs (zs h 123 (10 + (zr h 159 v4)) 1) 124 (10 + (zr h 159 v4)) (zr h 160 v4))))
def f_M_worth_l62_b_ok (v1 : Int32) (v2 : Int32) (v3 : Int32) (v4 : Int32) (h : zm_H) : Prop := (((v1 ≤ v4) → True) ∧ (¬ (v1 ≤ v4) → (vp_in v4 3 ∧ (vp_in (10 + (zr h 159 v4)) 20 ∧ (vp_in v4 3 ∧ (vp_in v4 3 ∧ vp_in (10 + (zr h 159 v4)) 20))))))
theorem f_M_worth_l62_b_w (v1 : Int32) (v2 : Int32) (v3 : Int32) (v4 : Int32) (h : zm_H) : zWr [123, 124] [] h ((f_M_worth_l62_b v1 v2 v3 v4 h).2.2) := by
  unfold f_M_worth_l62_b
  exact (zWr_ite (fun z : Nat × Int32 × zm_H => z.2.2) (zWr.refl _ _) (zWr_si (by decide) (zWr_si (by decide) (zWr.refl _ _))))
def f_M_worth_l62 (v1 : Int32) (v2 : Int32) (v3 : Int32) (n : Nat) (t : Int32 × zm_H) : Nat × Int32 × zm_H := zwh (fun t => f_M_worth_l62_b v1 v2 v3 t.1 t.2) n t
def f_M_worth_l62_ok (v1 : Int32) (v2 : Int32) (v3 : Int32) (n : Nat) (t : Int32 × zm_H) : Prop := zwo (fun t => f_M_worth_l62_b v1 v2 v3 t.1 t.2) (fun t => f_M_worth_l62_b_ok v1 v2 v3 t.1 t.2) n t
theorem f_M_worth_l62_w (v1 : Int32) (v2 : Int32) (v3 : Int32) (n : Nat) (t : Int32 × zm_H) : zWr [123, 124] [] (t.2) ((f_M_worth_l62 v1 v2 v3 n t).2.2) := by
  unfold f_M_worth_l62
  exact zWr_zwh (fun t : Int32 × zm_H => t.2) (fun t => f_M_worth_l62_b_w v1 v2 v3 t.1 t.2)
def f_M_worth_l122_l166_b (v2 : Int32) (v3 : Int32) (v4 : Int32) (v5 : Int32) (v6 : Int32) (v7 : Int32) (h : zm_H) : Nat × Int32 := (if (10 ≤ v7) then (2, v7) else (if ((v3 * v6) ≤ (100 * (zr h 151 v7))) then (0, (v7 + 1)) else (1, v7)))
def f_M_worth_l122_l166_b_ok (v2 : Int32) (v3 : Int32) (v4 : Int32) (v5 : Int32) (v6 : Int32) (v7 : Int32) (h : zm_H) : Prop := (((10 ≤ v7) → True) ∧ (¬ (10 ≤ v7) → vp_in v7 10))
def f_M_worth_l122_l166 (v2 : Int32) (v3 : Int32) (v4 : Int32) (v5 : Int32) (v6 : Int32) (h : zm_H) (n : Nat) (t : Int32) : Nat × Int32 := zwh (fun t => f_M_worth_l122_l166_b v2 v3 v4 v5 v6 t h) n t
def f_M_worth_l122_l166_ok (v2 : Int32) (v3 : Int32) (v4 : Int32) (v5 : Int32) (v6 : Int32) (h : zm_H) (n : Nat) (t : Int32) : Prop := zwo (fun t => f_M_worth_l122_l166_b v2 v3 v4 v5 v6 t h) (fun t => f_M_worth_l122_l166_b_ok v2 v3 v4 v5 v6 t h) n t
def f_M_worth_l122_l201_b (v2 : Int32) (v3 : Int32) (v4 : Int32) (v5 : Int32) (v6 : Int32) (v7 : Int32) (h : zm_H) : Nat × Int32 × Int32 := (if ((zf h 92 33) ≤ v7) then (1, v4, v7) else (0, (v4 + (((zr h 153 v7) * (100 - (f_M_leak v7 h))) / 100)), (v7 + 1)))
def f_M_worth_l122_l201_b_ok (v2 : Int32) (v3 : Int32) (v4 : Int32) (v5 : Int32) (v6 : Int32) (v7 : Int32) (h : zm_H) : Prop := ((((zf h 92 33) ≤ v7) → True) ∧ (¬ ((zf h 92 33) ≤ v7) → (vp_in v7 10 ∧ f_M_leak_ok v7 h)))
def f_M_worth_l122_l201 (v2 : Int32) (v3 : Int32) (v5 : Int32) (v6 : Int32) (h : zm_H) (n : Nat) (t : Int32 × Int32) : Nat × Int32 × Int32 := zwh (fun t => f_M_worth_l122_l201_b v2 v3 t.1 v5 v6 t.2 h) n t
def f_M_worth_l122_l201_ok (v2 : Int32) (v3 : Int32) (v5 : Int32) (v6 : Int32) (h : zm_H) (n : Nat) (t : Int32 × Int32) : Prop := zwo (fun t => f_M_worth_l122_l201_b v2 v3 t.1 v5 v6 t.2 h) (fun t => f_M_worth_l122_l201_b_ok v2 v3 t.1 v5 v6 t.2 h) n t
def f_M_worth_l122_k241 (v2 : Int32) (v3 : Int32) (v4 : Int32) (v5 : Int32) (h : zm_H) : Nat × Int32 × Int32 × zm_H := (0, v4, (v5 + 1), h)
def f_M_worth_l122_k241_ok (v2 : Int32) (v3 : Int32) (v4 : Int32) (v5 : Int32) (h : zm_H) : Prop := True
theorem f_M_worth_l122_k241_w (v2 : Int32) (v3 : Int32) (v4 : Int32) (v5 : Int32) (h : zm_H) : zWr [] [] h ((f_M_worth_l122_k241 v2 v3 v4 v5 h).2.2.2) := by
  unfold f_M_worth_l122_k241
  exact (zWr.refl _ _)
def f_M_worth_l122_a201 (v2 : Int32) (v3 : Int32) (v5 : Int32) (r : Nat × Int32 × Int32) (h : zm_H) : Nat × Int32 × Int32 × zm_H := (f_M_worth_l122_k241 v2 v3 (r.2.1) v5 h)
def f_M_worth_l122_a201_ok (v2 : Int32) (v3 : Int32) (v5 : Int32) (r : Nat × Int32 × Int32) (h : zm_H) : Prop := True
theorem f_M_worth_l122_a201_w (v2 : Int32) (v3 : Int32) (v5 : Int32) (r : Nat × Int32 × Int32) (h : zm_H) : zWr [] [] h ((f_M_worth_l122_a201 v2 v3 v5 r h).2.2.2) := by
  unfold f_M_worth_l122_a201
  exact (zWr_tr (f_M_worth_l122_k241_w v2 v3 (r.2.1) v5 h) (by decide) (by decide) (zWr.refl _ _))
def f_M_worth_l122_k198 (v2 : Int32) (v3 : Int32) (v4 : Int32) (v5 : Int32) (v6 : Int32) (h : zm_H) : Nat × Int32 × Int32 × zm_H := (f_M_worth_l122_a201 v2 v3 v5 (f_M_worth_l122_l201 v2 v3 v5 v6 h zF (v4, 0)) h)
def f_M_worth_l122_k198_ok (v2 : Int32) (v3 : Int32) (v4 : Int32) (v5 : Int32) (v6 : Int32) (h : zm_H) : Prop := (f_M_worth_l122_l201_ok v2 v3 v5 v6 h zF (v4, 0) ∧ f_M_worth_l122_a201_ok v2 v3 v5 (f_M_worth_l122_l201 v2 v3 v5 v6 h zF (v4, 0)) h)
theorem f_M_worth_l122_k198_w (v2 : Int32) (v3 : Int32) (v4 : Int32) (v5 : Int32) (v6 : Int32) (h : zm_H) : zWr [] [] h ((f_M_worth_l122_k198 v2 v3 v4 v5 v6 h).2.2.2) := by
  unfold f_M_worth_l122_k198
  exact (zWr_tr (f_M_worth_l122_a201_w v2 v3 v5 (f_M_worth_l122_l201 v2 v3 v5 v6 h zF (v4, 0)) h) (by decide) (by decide) (zWr.refl _ _))
def f_M_worth_l122_a166 (v2 : Int32) (v3 : Int32) (v4 : Int32) (v5 : Int32) (v6 : Int32) (r : Nat × Int32) (h : zm_H) : Nat × Int32 × Int32 × zm_H := (if r.1 = 1 then (1, v4, v5, h) else (f_M_worth_l122_k198 v2 v3 v4 v5 v6 h))
def f_M_worth_l122_a166_ok (v2 : Int32) (v3 : Int32) (v4 : Int32) (v5 : Int32) (v6 : Int32) (r : Nat × Int32) (h : zm_H) : Prop := ((r.1 = 1 → True) ∧ (¬ r.1 = 1 → (f_M_worth_l122_k198_ok v2 v3 v4 v5 v6 h)))
theorem f_M_worth_l122_a166_w (v2 : Int32) (v3 : Int32) (v4 : Int32) (v5 : Int32) (v6 : Int32) (r : Nat × Int32) (h : zm_H) : zWr [] [] h ((f_M_worth_l122_a166 v2 v3 v4 v5 v6 r h).2.2.2) := by
  unfold f_M_worth_l122_a166
  exact (zWr_ite (fun z : Nat × Int32 × Int32 × zm_H => z.2.2.2) (zWr.refl _ _) (zWr_tr (f_M_worth_l122_k198_w v2 v3 v4 v5 v6 h) (by decide) (by decide) (zWr.refl _ _)))
def f_M_worth_l122_k147 (v2 : Int32) (v3 : Int32) (v4 : Int32) (v5 : Int32) (h : zm_H) : Nat × Int32 × Int32 × zm_H := (f_M_worth_l122_a166 v2 v3 v4 v5 (((zf h 92 79) * (zf h 92 79)) * (zf h 92 80)) (f_M_worth_l122_l166 v2 v3 v4 v5 (((zf h 92 79) * (zf h 92 79)) * (zf h 92 80)) h zF 0) h)
def f_M_worth_l122_k147_ok (v2 : Int32) (v3 : Int32) (v4 : Int32) (v5 : Int32) (h : zm_H) : Prop := (f_M_worth_l122_l166_ok v2 v3 v4 v5 (((zf h 92 79) * (zf h 92 79)) * (zf h 92 80)) h zF 0 ∧ f_M_worth_l122_a166_ok v2 v3 v4 v5 (((zf h 92 79) * (zf h 92 79)) * (zf h 92 80)) (f_M_worth_l122_l166 v2 v3 v4 v5 (((zf h 92 79) * (zf h 92 79)) * (zf h 92 80)) h zF 0) h)
theorem f_M_worth_l122_k147_w (v2 : Int32) (v3 : Int32) (v4 : Int32) (v5 : Int32) (h : zm_H) : zWr [] [] h ((f_M_worth_l122_k147 v2 v3 v4 v5 h).2.2.2) := by
  unfold f_M_worth_l122_k147
  exact (zWr_tr (f_M_worth_l122_a166_w v2 v3 v4 v5 (((zf h 92 79) * (zf h 92 79)) * (zf h 92 80)) (f_M_worth_l122_l166 v2 v3 v4 v5 (((zf h 92 79) * (zf h 92 79)) * (zf h 92 80)) h zF 0) h) (by decide) (by decide) (zWr.refl _ _))
def f_M_worth_l122_k142 (v2 : Int32) (v3 : Int32) (v4 : Int32) (v5 : Int32) (h : zm_H) : Nat × Int32 × Int32 × zm_H := (f_M_worth_l122_k147 v2 v3 v4 v5 (f_M_waves 1 h))
def f_M_worth_l122_k142_ok (v2 : Int32) (v3 : Int32) (v4 : Int32) (v5 : Int32) (h : zm_H) : Prop := (f_M_waves_ok 1 h ∧ (f_M_worth_l122_k147_ok v2 v3 v4 v5 (f_M_waves 1 h)))
theorem f_M_worth_l122_k142_w (v2 : Int32) (v3 : Int32) (v4 : Int32) (v5 : Int32) (h : zm_H) : zWr [151, 152, 153] [] h ((f_M_worth_l122_k142 v2 v3 v4 v5 h).2.2.2) := by
  unfold f_M_worth_l122_k142
  exact (zWr_tr (f_M_worth_l122_k147_w v2 v3 v4 v5 (f_M_waves 1 h)) (by decide) (by decide) (zWr_tr (f_M_waves_w 1 h) (by decide) (by decide) (zWr.refl _ _)))
def f_M_worth_l122_b (v2 : Int32) (v3 : Int32) (v4 : Int32) (v5 : Int32) (h : zm_H) : Nat × Int32 × Int32 × zm_H := (if ((zm_rm v2 1000) < v5) then (2, v4, v5, h) else (f_M_worth_l122_k142 v2 v3 v4 v5 (f_M_looks v5 (if (480 ≤ (zf h 92 23)) then (479 : Int32) else (zf h 92 23)) h)))
def f_M_worth_l122_b_ok (v2 : Int32) (v3 : Int32) (v4 : Int32) (v5 : Int32) (h : zm_H) : Prop := ((((zm_rm v2 1000) < v5) → True) ∧ (¬ ((zm_rm v2 1000) < v5) → (f_M_looks_ok v5 (if (480 ≤ (zf h 92 23)) then (479 : Int32) else (zf h 92 23)) h ∧ (f_M_worth_l122_k142_ok v2 v3 v4 v5 (f_M_looks v5 (if (480 ≤ (zf h 92 23)) then (479 : Int32) else (zf h 92 23)) h)))))
theorem f_M_worth_l122_b_w (v2 : Int32) (v3 : Int32) (v4 : Int32) (v5 : Int32) (h : zm_H) : zWr [151, 152, 153] [(92, 79), (92, 80), (92, 81)] h ((f_M_worth_l122_b v2 v3 v4 v5 h).2.2.2) := by
  unfold f_M_worth_l122_b
  exact (zWr_ite (fun z : Nat × Int32 × Int32 × zm_H => z.2.2.2) (zWr.refl _ _) (zWr_tr (f_M_worth_l122_k142_w v2 v3 v4 v5 (f_M_looks v5 (if (480 ≤ (zf h 92 23)) then (479 : Int32) else (zf h 92 23)) h)) (by decide) (by decide) (zWr_tr (f_M_looks_w v5 (if (480 ≤ (zf h 92 23)) then (479 : Int32) else (zf h 92 23)) h) (by decide) (by decide) (zWr.refl _ _))))
def f_M_worth_l122 (v2 : Int32) (v3 : Int32) (n : Nat) (t : Int32 × Int32 × zm_H) : Nat × Int32 × Int32 × zm_H := zwh (fun t => f_M_worth_l122_b v2 v3 t.1 t.2.1 t.2.2) n t
def f_M_worth_l122_ok (v2 : Int32) (v3 : Int32) (n : Nat) (t : Int32 × Int32 × zm_H) : Prop := zwo (fun t => f_M_worth_l122_b v2 v3 t.1 t.2.1 t.2.2) (fun t => f_M_worth_l122_b_ok v2 v3 t.1 t.2.1 t.2.2) n t
theorem f_M_worth_l122_w (v2 : Int32) (v3 : Int32) (n : Nat) (t : Int32 × Int32 × zm_H) : zWr [151, 152, 153] [(92, 79), (92, 80), (92, 81)] (t.2.2) ((f_M_worth_l122 v2 v3 n t).2.2.2) := by
  unfold f_M_worth_l122
  exact zWr_zwh (fun t : Int32 × Int32 × zm_H => t.2.2) (fun t => f_M_worth_l122_b_w v2 v3 t.1 t.2.1 t.2.2)
def f_M_worth_k190 (h : zm_H) : Int32 × zm_H := ((-1), h)
def f_M_worth_k190_ok (h : zm_H) : Prop := True
theorem f_M_worth_k190_w (h : zm_H) : zWr [] [] h ((f_M_worth_k190 h).2) := by
  unfold f_M_worth_k190
  exact (zWr.refl _ _)
def f_M_worth_k247 (v4 : Int32) (h : zm_H) : Int32 × zm_H := (v4, h)
def f_M_worth_k247_ok (v4 : Int32) (h : zm_H) : Prop := True
theorem f_M_worth_k247_w (v4 : Int32) (h : zm_H) : zWr [] [] h ((f_M_worth_k247 v4 h).2) := by
  unfold f_M_worth_k247
  exact (zWr.refl _ _)
def f_M_worth_a122 (r : Nat × Int32 × Int32 × zm_H) : Int32 × zm_H := (if r.1 = 1 then (f_M_worth_k190 (r.2.2.2)) else (f_M_worth_k247 (r.2.1) (r.2.2.2)))
def f_M_worth_a122_ok (r : Nat × Int32 × Int32 × zm_H) : Prop := ((r.1 = 1 → True) ∧ (¬ r.1 = 1 → True))
theorem f_M_worth_a122_w (r : Nat × Int32 × Int32 × zm_H) : zWr [] [] (r.2.2.2) ((f_M_worth_a122 r).2) := by
  unfold f_M_worth_a122
  exact (zWr_ite (fun z : Int32 × zm_H => z.2) (zWr_tr (f_M_worth_k190_w (r.2.2.2)) (by decide) (by decide) (zWr.refl _ _)) (zWr_tr (f_M_worth_k247_w (r.2.1) (r.2.2.2)) (by decide) (by decide) (zWr.refl _ _)))
def f_M_worth_k112 (v2 : Int32) (v3 : Int32) (h : zm_H) : Int32 × zm_H := (f_M_worth_a122 (f_M_worth_l122 v2 v3 zF (0, (v2 / 1000), h)))
def f_M_worth_k112_ok (v2 : Int32) (v3 : Int32) (h : zm_H) : Prop := (f_M_worth_l122_ok v2 v3 zF (0, (v2 / 1000), h) ∧ f_M_worth_a122_ok (f_M_worth_l122 v2 v3 zF (0, (v2 / 1000), h)))
theorem f_M_worth_k112_w (v2 : Int32) (v3 : Int32) (h : zm_H) : zWr [151, 152, 153] [(92, 79), (92, 80), (92, 81)] h ((f_M_worth_k112 v2 v3 h).2) := by
  unfold f_M_worth_k112
  exact (zWr_tr (f_M_worth_a122_w (f_M_worth_l122 v2 v3 zF (0, (v2 / 1000), h))) (by decide) (by decide) (zWr_tr (f_M_worth_l122_w v2 v3 zF (0, (v2 / 1000), h)) (by decide) (by decide) (zWr.refl _ _)))
def f_M_worth_a62 (v2 : Int32) (v3 : Int32) (r : Nat × Int32 × zm_H) : Int32 × zm_H := (f_M_worth_k112 v2 v3 (r.2.2))
def f_M_worth_a62_ok (v2 : Int32) (v3 : Int32) (r : Nat × Int32 × zm_H) : Prop := (f_M_worth_k112_ok v2 v3 (r.2.2))
theorem f_M_worth_a62_w (v2 : Int32) (v3 : Int32) (r : Nat × Int32 × zm_H) : zWr [151, 152, 153] [(92, 79), (92, 80), (92, 81)] (r.2.2) ((f_M_worth_a62 v2 v3 r).2) := by
  unfold f_M_worth_a62
  exact (zWr_tr (f_M_worth_k112_w v2 v3 (r.2.2)) (by decide) (by decide) (zWr.refl _ _))
def f_M_worth_k59 (v1 : Int32) (v2 : Int32) (v3 : Int32) (h : zm_H) : Int32 × zm_H := (f_M_worth_a62 v2 v3 (f_M_worth_l62 v1 v2 v3 zF (0, h)))
def f_M_worth_k59_ok (v1 : Int32) (v2 : Int32) (v3 : Int32) (h : zm_H) : Prop := (f_M_worth_l62_ok v1 v2 v3 zF (0, h) ∧ f_M_worth_a62_ok v2 v3 (f_M_worth_l62 v1 v2 v3 zF (0, h)))
theorem f_M_worth_k59_w (v1 : Int32) (v2 : Int32) (v3 : Int32) (h : zm_H) : zWr [123, 124, 151, 152, 153] [(92, 79), (92, 80), (92, 81)] h ((f_M_worth_k59 v1 v2 v3 h).2) := by
  unfold f_M_worth_k59
  exact (zWr_tr (f_M_worth_a62_w v2 v3 (f_M_worth_l62 v1 v2 v3 zF (0, h))) (by decide) (by decide) (zWr_tr (f_M_worth_l62_w v1 v2 v3 zF (0, h)) (by decide) (by decide) (zWr.refl _ _)))
def f_M_worth_a3 (v1 : Int32) (v2 : Int32) (v3 : Int32) (r : Nat × Int32 × zm_H) : Int32 × zm_H := (f_M_worth_k59 v1 v2 v3 (r.2.2))
def f_M_worth_a3_ok (v1 : Int32) (v2 : Int32) (v3 : Int32) (r : Nat × Int32 × zm_H) : Prop := (f_M_worth_k59_ok v1 v2 v3 (r.2.2))
theorem f_M_worth_a3_w (v1 : Int32) (v2 : Int32) (v3 : Int32) (r : Nat × Int32 × zm_H) : zWr [123, 124, 151, 152, 153] [(92, 79), (92, 80), (92, 81)] (r.2.2) ((f_M_worth_a3 v1 v2 v3 r).2) := by
  unfold f_M_worth_a3
  exact (zWr_tr (f_M_worth_k59_w v1 v2 v3 (r.2.2)) (by decide) (by decide) (zWr.refl _ _))
def f_M_worth (p1 : Int32) (p2 : Int32) (p3 : Int32) (h : zm_H) : Int32 × zm_H := (f_M_worth_a3 p1 p2 p3 (f_M_worth_l3 p1 p2 p3 zF (0, h)))
def f_M_worth_ok (p1 : Int32) (p2 : Int32) (p3 : Int32) (h : zm_H) : Prop := (f_M_worth_l3_ok p1 p2 p3 zF (0, h) ∧ f_M_worth_a3_ok p1 p2 p3 (f_M_worth_l3 p1 p2 p3 zF (0, h)))
theorem f_M_worth_w (p1 : Int32) (p2 : Int32) (p3 : Int32) (h : zm_H) : zWr [123, 124, 151, 152, 153] [(92, 79), (92, 80), (92, 81)] h ((f_M_worth p1 p2 p3 h).2) := by
  unfold f_M_worth
  exact (zWr_tr (f_M_worth_a3_w p1 p2 p3 (f_M_worth_l3 p1 p2 p3 zF (0, h))) (by decide) (by decide) (zWr_tr (f_M_worth_l3_w p1 p2 p3 zF (0, h)) (by decide) (by decide) (zWr.refl _ _)))
def f_M_laying_l230_k389 (v2 : Int32) (v3 : Int32) (v4 : Int32) (v5 : Int32) (v7 : Int32) (v8 : Int32) (v9 : Int32) (v11 : Int32) (w0 : Int32) (h : zm_H) : Nat × Int32 × Int32 × zm_H := (f_M_laying_l230_k393 v2 v3 v4 v5 v7 v8 v9 v11 w0 h)
def f_M_laying_l230_k389_ok (v2 : Int32) (v3 : Int32) (v4 : Int32) (v5 : Int32) (v7 : Int32) (v8 : Int32) (v9 : Int32) (v11 : Int32) (w0 : Int32) (h : zm_H) : Prop := (f_M_laying_l230_k393_ok v2 v3 v4 v5 v7 v8 v9 v11 w0 h)
theorem f_M_laying_l230_k389_w (v2 : Int32) (v3 : Int32) (v4 : Int32) (v5 : Int32) (v7 : Int32) (v8 : Int32) (v9 : Int32) (v11 : Int32) (w0 : Int32) (h : zm_H) : zWr [161] [] h ((f_M_laying_l230_k389 v2 v3 v4 v5 v7 v8 v9 v11 w0 h).2.2.2) := by
  unfold f_M_laying_l230_k389
  exact (zWr_tr (f_M_laying_l230_k393_w v2 v3 v4 v5 v7 v8 v9 v11 w0 h) (by decide) (by decide) (zWr.refl _ _))
def f_M_laying_l230_k376 (v2 : Int32) (v3 : Int32) (v4 : Int32) (v5 : Int32) (v7 : Int32) (v8 : Int32) (v9 : Int32) (v11 : Int32) (h : zm_H) : Nat × Int32 × Int32 × zm_H := (if (v11 = 0) then (f_M_laying_l230_k393 v2 v3 v4 v5 v7 v8 v9 v11 (-1) h) else (f_M_laying_l230_k389 v2 v3 v4 v5 v7 v8 v9 v11 (f_M_worth v2 v3 v4 h).1 (f_M_worth v2 v3 v4 h).2))
def f_M_laying_l230_k376_ok (v2 : Int32) (v3 : Int32) (v4 : Int32) (v5 : Int32) (v7 : Int32) (v8 : Int32) (v9 : Int32) (v11 : Int32) (h : zm_H) : Prop := (((v11 = 0) → (f_M_laying_l230_k393_ok v2 v3 v4 v5 v7 v8 v9 v11 (-1) h)) ∧ (¬ (v11 = 0) → (f_M_worth_ok v2 v3 v4 h ∧ (f_M_laying_l230_k389_ok v2 v3 v4 v5 v7 v8 v9 v11 (f_M_worth v2 v3 v4 h).1 (f_M_worth v2 v3 v4 h).2))))
theorem f_M_laying_l230_k376_w (v2 : Int32) (v3 : Int32) (v4 : Int32) (v5 : Int32) (v7 : Int32) (v8 : Int32) (v9 : Int32) (v11 : Int32) (h : zm_H) : zWr [123, 124, 151, 152, 153, 161] [(92, 79), (92, 80), (92, 81)] h ((f_M_laying_l230_k376 v2 v3 v4 v5 v7 v8 v9 v11 h).2.2.2) := by
  unfold f_M_laying_l230_k376
  exact (zWr_ite (fun z : Nat × Int32 × Int32 × zm_H => z.2.2.2) (zWr_tr (f_M_laying_l230_k393_w v2 v3 v4 v5 v7 v8 v9 v11 (-1) h) (by decide) (by decide) (zWr.refl _ _)) (zWr_tr (f_M_laying_l230_k389_w v2 v3 v4 v5 v7 v8 v9 v11 (f_M_worth v2 v3 v4 h).1 (f_M_worth v2 v3 v4 h).2) (by decide) (by decide) (zWr_tr (f_M_worth_w v2 v3 v4 h) (by decide) (by decide) (zWr.refl _ _))))
def f_M_laying_l230_a249 (v2 : Int32) (v3 : Int32) (v4 : Int32) (v5 : Int32) (v7 : Int32) (v8 : Int32) (v9 : Int32) (r : Nat × Int32 × Int32 × Int32 × zm_H) : Nat × Int32 × Int32 × zm_H := (f_M_laying_l230_k376 v2 v3 v4 v5 v7 v8 v9 (r.2.2.1) (r.2.2.2.2))
def f_M_laying_l230_a249_ok (v2 : Int32) (v3 : Int32) (v4 : Int32) (v5 : Int32) (v7 : Int32) (v8 : Int32) (v9 : Int32) (r : Nat × Int32 × Int32 × Int32 × zm_H) : Prop := (f_M_laying_l230_k376_ok v2 v3 v4 v5 v7 v8 v9 (r.2.2.1) (r.2.2.2.2))
theorem f_M_laying_l230_a249_w (v2 : Int32) (v3 : Int32) (v4 : Int32) (v5 : Int32) (v7 : Int32) (v8 : Int32) (v9 : Int32) (r : Nat × Int32 × Int32 × Int32 × zm_H) : zWr [123, 124, 151, 152, 153, 161] [(92, 79), (92, 80), (92, 81)] (r.2.2.2.2) ((f_M_laying_l230_a249 v2 v3 v4 v5 v7 v8 v9 r).2.2.2) := by
  unfold f_M_laying_l230_a249
  exact (zWr_tr (f_M_laying_l230_k376_w v2 v3 v4 v5 v7 v8 v9 (r.2.2.1) (r.2.2.2.2)) (by decide) (by decide) (zWr.refl _ _))
def f_M_laying_l230_b (v2 : Int32) (v3 : Int32) (v4 : Int32) (v5 : Int32) (v7 : Int32) (v8 : Int32) (v9 : Int32) (h : zm_H) : Nat × Int32 × Int32 × zm_H := (if (v7 ≤ v9) then (1, v8, v9, h) else (f_M_laying_l230_a249 v2 v3 v4 v5 v7 v8 v9 (f_M_laying_l230_l249 v2 v3 v4 v5 v7 v8 v9 zF (v9, 1, (v2 - 1), h))))
def f_M_laying_l230_b_ok (v2 : Int32) (v3 : Int32) (v4 : Int32) (v5 : Int32) (v7 : Int32) (v8 : Int32) (v9 : Int32) (h : zm_H) : Prop := (((v7 ≤ v9) → True) ∧ (¬ (v7 ≤ v9) → (f_M_laying_l230_l249_ok v2 v3 v4 v5 v7 v8 v9 zF (v9, 1, (v2 - 1), h) ∧ f_M_laying_l230_a249_ok v2 v3 v4 v5 v7 v8 v9 (f_M_laying_l230_l249 v2 v3 v4 v5 v7 v8 v9 zF (v9, 1, (v2 - 1), h)))))
theorem f_M_laying_l230_b_w (v2 : Int32) (v3 : Int32) (v4 : Int32) (v5 : Int32) (v7 : Int32) (v8 : Int32) (v9 : Int32) (h : zm_H) : zWr [123, 124, 151, 152, 153, 160, 161] [(92, 79), (92, 80), (92, 81)] h ((f_M_laying_l230_b v2 v3 v4 v5 v7 v8 v9 h).2.2.2) := by
  unfold f_M_laying_l230_b
  exact (zWr_ite (fun z : Nat × Int32 × Int32 × zm_H => z.2.2.2) (zWr.refl _ _) (zWr_tr (f_M_laying_l230_a249_w v2 v3 v4 v5 v7 v8 v9 (f_M_laying_l230_l249 v2 v3 v4 v5 v7 v8 v9 zF (v9, 1, (v2 - 1), h))) (by decide) (by decide) (zWr_tr (f_M_laying_l230_l249_w v2 v3 v4 v5 v7 v8 v9 zF (v9, 1, (v2 - 1), h)) (by decide) (by decide) (zWr.refl _ _))))
def f_M_laying_l230 (v2 : Int32) (v3 : Int32) (v4 : Int32) (v5 : Int32) (v7 : Int32) (n : Nat) (t : Int32 × Int32 × zm_H) : Nat × Int32 × Int32 × zm_H := zwh (fun t => f_M_laying_l230_b v2 v3 v4 v5 v7 t.1 t.2.1 t.2.2) n t
def f_M_laying_l230_ok (v2 : Int32) (v3 : Int32) (v4 : Int32) (v5 : Int32) (v7 : Int32) (n : Nat) (t : Int32 × Int32 × zm_H) : Prop := zwo (fun t => f_M_laying_l230_b v2 v3 v4 v5 v7 t.1 t.2.1 t.2.2) (fun t => f_M_laying_l230_b_ok v2 v3 v4 v5 v7 t.1 t.2.1 t.2.2) n t
theorem f_M_laying_l230_w (v2 : Int32) (v3 : Int32) (v4 : Int32) (v5 : Int32) (v7 : Int32) (n : Nat) (t : Int32 × Int32 × zm_H) : zWr [123, 124, 151, 152, 153, 160, 161] [(92, 79), (92, 80), (92, 81)] (t.2.2) ((f_M_laying_l230 v2 v3 v4 v5 v7 n t).2.2.2) := by
  unfold f_M_laying_l230
  exact zWr_zwh (fun t : Int32 × Int32 × zm_H => t.2.2) (fun t => f_M_laying_l230_b_w v2 v3 v4 v5 v7 t.1 t.2.1 t.2.2)
def f_M_laying_k444 (v5 : Int32) (v8 : Int32) (h : zm_H) : Int32 × zm_H := ((if (v8 = (-1)) then ((-1) : Int32) else (if (v5 = (-1)) then (v8 : Int32) else (zr h 161 v5))), h)
def f_M_laying_k444_ok (v5 : Int32) (v8 : Int32) (h : zm_H) : Prop := (((v8 = (-1)) → True) ∧ (¬ (v8 = (-1)) → (((v5 = (-1)) → True) ∧ (¬ (v5 = (-1)) → vp_in v5 3))))
theorem f_M_laying_k444_w (v5 : Int32) (v8 : Int32) (h : zm_H) : zWr [] [] h ((f_M_laying_k444 v5 v8 h).2) := by
  unfold f_M_laying_k444
  exact (zWr.refl _ _)
def f_M_laying_a230 (v5 : Int32) (r : Nat × Int32 × Int32 × zm_H) : Int32 × zm_H := (f_M_laying_k444 v5 (r.2.1) (r.2.2.2))
def f_M_laying_a230_ok (v5 : Int32) (r : Nat × Int32 × Int32 × zm_H) : Prop := (f_M_laying_k444_ok v5 (r.2.1) (r.2.2.2))
theorem f_M_laying_a230_w (v5 : Int32) (r : Nat × Int32 × Int32 × zm_H) : zWr [] [] (r.2.2.2) ((f_M_laying_a230 v5 r).2) := by
  unfold f_M_laying_a230
  exact (zWr_tr (f_M_laying_k444_w v5 (r.2.1) (r.2.2.2)) (by decide) (by decide) (zWr.refl _ _))
def f_M_laying_k224 (v2 : Int32) (v3 : Int32) (v4 : Int32) (v5 : Int32) (v7 : Int32) (h : zm_H) : Int32 × zm_H := (f_M_laying_a230 v5 (f_M_laying_l230 v2 v3 v4 v5 v7 zF ((-1), 0, h)))
def f_M_laying_k224_ok (v2 : Int32) (v3 : Int32) (v4 : Int32) (v5 : Int32) (v7 : Int32) (h : zm_H) : Prop := (f_M_laying_l230_ok v2 v3 v4 v5 v7 zF ((-1), 0, h) ∧ f_M_laying_a230_ok v5 (f_M_laying_l230 v2 v3 v4 v5 v7 zF ((-1), 0, h)))
theorem f_M_laying_k224_w (v2 : Int32) (v3 : Int32) (v4 : Int32) (v5 : Int32) (v7 : Int32) (h : zm_H) : zWr [123, 124, 151, 152, 153, 160, 161] [(92, 79), (92, 80), (92, 81)] h ((f_M_laying_k224 v2 v3 v4 v5 v7 h).2) := by
  unfold f_M_laying_k224
  exact (zWr_tr (f_M_laying_a230_w v5 (f_M_laying_l230 v2 v3 v4 v5 v7 zF ((-1), 0, h))) (by decide) (by decide) (zWr_tr (f_M_laying_l230_w v2 v3 v4 v5 v7 zF ((-1), 0, h)) (by decide) (by decide) (zWr.refl _ _)))
def f_M_laying_a203 (v2 : Int32) (v3 : Int32) (v4 : Int32) (v5 : Int32) (r : Nat × Int32 × Int32) (h : zm_H) : Int32 × zm_H := (f_M_laying_k224 v2 v3 v4 v5 (r.2.1) h)
def f_M_laying_a203_ok (v2 : Int32) (v3 : Int32) (v4 : Int32) (v5 : Int32) (r : Nat × Int32 × Int32) (h : zm_H) : Prop := (f_M_laying_k224_ok v2 v3 v4 v5 (r.2.1) h)
theorem f_M_laying_a203_w (v2 : Int32) (v3 : Int32) (v4 : Int32) (v5 : Int32) (r : Nat × Int32 × Int32) (h : zm_H) : zWr [123, 124, 151, 152, 153, 160, 161] [(92, 79), (92, 80), (92, 81)] h ((f_M_laying_a203 v2 v3 v4 v5 r h).2) := by
  unfold f_M_laying_a203
  exact (zWr_tr (f_M_laying_k224_w v2 v3 v4 v5 (r.2.1) h) (by decide) (by decide) (zWr.refl _ _))
def f_M_laying_k190 (v2 : Int32) (v3 : Int32) (v4 : Int32) (v5 : Int32) (v6 : Int32) (h : zm_H) : Int32 × zm_H := (if (v6 ≤ 0) then (f_M_laying_a203 v2 v3 v4 v5 (f_M_laying_l203 v2 v3 v4 v5 v6 h zF (1, 0)) h) else ((-1), h))
def f_M_laying_k190_ok (v2 : Int32) (v3 : Int32) (v4 : Int32) (v5 : Int32) (v6 : Int32) (h : zm_H) : Prop := (((v6 ≤ 0) → (f_M_laying_l203_ok v2 v3 v4 v5 v6 h zF (1, 0) ∧ f_M_laying_a203_ok v2 v3 v4 v5 (f_M_laying_l203 v2 v3 v4 v5 v6 h zF (1, 0)) h)) ∧ (¬ (v6 ≤ 0) → True))
theorem f_M_laying_k190_w (v2 : Int32) (v3 : Int32) (v4 : Int32) (v5 : Int32) (v6 : Int32) (h : zm_H) : zWr [123, 124, 151, 152, 153, 160, 161] [(92, 79), (92, 80), (92, 81)] h ((f_M_laying_k190 v2 v3 v4 v5 v6 h).2) := by
  unfold f_M_laying_k190
  exact (zWr_ite (fun z : Int32 × zm_H => z.2) (zWr_tr (f_M_laying_a203_w v2 v3 v4 v5 (f_M_laying_l203 v2 v3 v4 v5 v6 h zF (1, 0)) h) (by decide) (by decide) (zWr.refl _ _)) (zWr.refl _ _))
def f_M_laying_a92 (v2 : Int32) (v3 : Int32) (v4 : Int32) (v5 : Int32) (r : Nat × Int32 × Int32 × zm_H) : Int32 × zm_H := (if r.1 = 1 then (f_M_laying_k145 (r.2.2.2)) else (if r.1 = 2 then (f_M_laying_k176 (r.2.2.2)) else (f_M_laying_k190 v2 v3 v4 v5 (r.2.1) (r.2.2.2))))
def f_M_laying_a92_ok (v2 : Int32) (v3 : Int32) (v4 : Int32) (v5 : Int32) (r : Nat × Int32 × Int32 × zm_H) : Prop := ((r.1 = 1 → True) ∧ (¬ r.1 = 1 → ((r.1 = 2 → True) ∧ (¬ r.1 = 2 → (f_M_laying_k190_ok v2 v3 v4 v5 (r.2.1) (r.2.2.2))))))
theorem f_M_laying_a92_w (v2 : Int32) (v3 : Int32) (v4 : Int32) (v5 : Int32) (r : Nat × Int32 × Int32 × zm_H) : zWr [123, 124, 151, 152, 153, 160, 161] [(92, 79), (92, 80), (92, 81)] (r.2.2.2) ((f_M_laying_a92 v2 v3 v4 v5 r).2) := by
  unfold f_M_laying_a92
  exact (zWr_ite (fun z : Int32 × zm_H => z.2) (zWr_tr (f_M_laying_k145_w (r.2.2.2)) (by decide) (by decide) (zWr.refl _ _)) (zWr_ite (fun z : Int32 × zm_H => z.2) (zWr_tr (f_M_laying_k176_w (r.2.2.2)) (by decide) (by decide) (zWr.refl _ _)) (zWr_tr (f_M_laying_k190_w v2 v3 v4 v5 (r.2.1) (r.2.2.2)) (by decide) (by decide) (zWr.refl _ _))))
def f_M_laying (p1 : Int32) (p2 : Int32) (p3 : Int32) (p4 : Int32) (p5 : Int32) (h : zm_H) : Int32 × zm_H := (if (p1 < 0) then ((-1), h) else (if (¬ (p2 < 1) ∧ (¬ (3 < p2))) then (if (p3 < 0) then ((-1), h) else (if (¬ ((p3 / 1000) < 0) ∧ (¬ (479 < (p3 / 1000)))) then (if (¬ ((zm_rm p3 1000) < 0) ∧ (¬ (479 < (zm_rm p3 1000)))) then (if (¬ (((zm_rm p3 1000) - (p3 / 1000)) < 0) ∧ (¬ (23 < ((zm_rm p3 1000) - (p3 / 1000))))) then (if (¬ (p4 < 0) ∧ (¬ (100 < p4))) then (if (¬ (p5 < (-1)) ∧ (¬ ((p2 - 1) < p5))) then (f_M_laying_a92 p2 p3 p4 p5 (f_M_laying_l92 p2 p3 p4 p5 zF (p1, (p2 - 1), h))) else ((-1), h)) else ((-1), h)) else ((-1), h)) else ((-1), h)) else ((-1), h))) else ((-1), h)))
def f_M_laying_ok (p1 : Int32) (p2 : Int32) (p3 : Int32) (p4 : Int32) (p5 : Int32) (h : zm_H) : Prop := (((p1 < 0) → True) ∧ (¬ (p1 < 0) → (((¬ (p2 < 1) ∧ (¬ (3 < p2))) → (((p3 < 0) → True) ∧ (¬ (p3 < 0) → (((¬ ((p3 / 1000) < 0) ∧ (¬ (479 < (p3 / 1000)))) → (((¬ ((zm_rm p3 1000) < 0) ∧ (¬ (479 < (zm_rm p3 1000)))) → (((¬ (((zm_rm p3 1000) - (p3 / 1000)) < 0) ∧ (¬ (23 < ((zm_rm p3 1000) - (p3 / 1000))))) → (((¬ (p4 < 0) ∧ (¬ (100 < p4))) → (((¬ (p5 < (-1)) ∧ (¬ ((p2 - 1) < p5))) → (f_M_laying_l92_ok p2 p3 p4 p5 zF (p1, (p2 - 1), h) ∧ f_M_laying_a92_ok p2 p3 p4 p5 (f_M_laying_l92 p2 p3 p4 p5 zF (p1, (p2 - 1), h)))) ∧ (¬ (¬ (p5 < (-1)) ∧ (¬ ((p2 - 1) < p5))) → True))) ∧ (¬ (¬ (p4 < 0) ∧ (¬ (100 < p4))) → True))) ∧ (¬ (¬ (((zm_rm p3 1000) - (p3 / 1000)) < 0) ∧ (¬ (23 < ((zm_rm p3 1000) - (p3 / 1000))))) → True))) ∧ (¬ (¬ ((zm_rm p3 1000) < 0) ∧ (¬ (479 < (zm_rm p3 1000)))) → True))) ∧ (¬ (¬ ((p3 / 1000) < 0) ∧ (¬ (479 < (p3 / 1000)))) → True))))) ∧ (¬ (¬ (p2 < 1) ∧ (¬ (3 < p2))) → True))))
theorem f_M_laying_w (p1 : Int32) (p2 : Int32) (p3 : Int32) (p4 : Int32) (p5 : Int32) (h : zm_H) : zWr [123, 124, 151, 152, 153, 159, 160, 161] [(92, 79), (92, 80), (92, 81)] h ((f_M_laying p1 p2 p3 p4 p5 h).2) := by
  unfold f_M_laying
  exact (zWr_ite (fun z : Int32 × zm_H => z.2) (zWr.refl _ _) (zWr_ite (fun z : Int32 × zm_H => z.2) (zWr_ite (fun z : Int32 × zm_H => z.2) (zWr.refl _ _) (zWr_ite (fun z : Int32 × zm_H => z.2) (zWr_ite (fun z : Int32 × zm_H => z.2) (zWr_ite (fun z : Int32 × zm_H => z.2) (zWr_ite (fun z : Int32 × zm_H => z.2) (zWr_ite (fun z : Int32 × zm_H => z.2) (zWr_tr (f_M_laying_a92_w p2 p3 p4 p5 (f_M_laying_l92 p2 p3 p4 p5 zF (p1, (p2 - 1), h))) (by decide) (by decide) (zWr_tr (f_M_laying_l92_w p2 p3 p4 p5 zF (p1, (p2 - 1), h)) (by decide) (by decide) (zWr.refl _ _))) (zWr.refl _ _)) (zWr.refl _ _)) (zWr.refl _ _)) (zWr.refl _ _)) (zWr.refl _ _))) (zWr.refl _ _)))
def f_N_blame (p1 : Int32) (p2 : Int32) (h : zm_H) : Int32 := (if (¬ (p1 < 0) ∧ (¬ ((zf h 23 0) ≤ p1))) then ((if (p2 < 0) then ((-1) : Int32) else (if (p2 < 3) then ((if (¬ ((zr h 45 ((p1 * 3) + p2)) < 0) ∧ (¬ (480 ≤ (zr h 45 ((p1 * 3) + p2))))) then ((if (((f_Swell_lookNow (zr h 45 ((p1 * 3) + p2)) h) / 1000) ≤ (zf h 0 2)) then ((if ((zr h 44 ((p1 * 3) + p2)) ≤ ((100 * (zr h 43 ((p1 * 3) + p2))) / 3)) then (0 : Int32) else 2) : Int32) else 1) : Int32) else (-1)) : Int32) else (-1))) : Int32) else (-1))
def f_N_blame_ok (p1 : Int32) (p2 : Int32) (h : zm_H) : Prop := (((¬ (p1 < 0) ∧ (¬ ((zf h 23 0) ≤ p1))) → (((p2 < 0) → True) ∧ (¬ (p2 < 0) → (((p2 < 3) → (vp_in ((p1 * 3) + p2) 30 ∧ (((¬ ((zr h 45 ((p1 * 3) + p2)) < 0) ∧ (¬ (480 ≤ (zr h 45 ((p1 * 3) + p2))))) → (f_Swell_lookNow_ok (zr h 45 ((p1 * 3) + p2)) h ∧ (((((f_Swell_lookNow (zr h 45 ((p1 * 3) + p2)) h) / 1000) ≤ (zf h 0 2)) → (vp_in ((p1 * 3) + p2) 30 ∧ vp_in ((p1 * 3) + p2) 30)) ∧ (¬ (((f_Swell_lookNow (zr h 45 ((p1 * 3) + p2)) h) / 1000) ≤ (zf h 0 2)) → True)))) ∧ (¬ (¬ ((zr h 45 ((p1 * 3) + p2)) < 0) ∧ (¬ (480 ≤ (zr h 45 ((p1 * 3) + p2))))) → True)))) ∧ (¬ (p2 < 3) → True))))) ∧ (¬ (¬ (p1 < 0) ∧ (¬ ((zf h 23 0) ≤ p1))) → True))
def f_M_blame_k55 (v3 : Int32) (h : zm_H) : Int32 × zm_H := ((if ((zf h 92 79) ≤ (zf h 92 48)) then ((if ((zr h 129 v3) ≤ ((100 * (zr h 128 v3)) / 3)) then (0 : Int32) else 2) : Int32) else 1), h)
def f_M_blame_k55_ok (v3 : Int32) (h : zm_H) : Prop := ((((zf h 92 79) ≤ (zf h 92 48)) → (vp_in v3 60 ∧ vp_in v3 60)) ∧ (¬ ((zf h 92 79) ≤ (zf h 92 48)) → True))
theorem f_M_blame_k55_w (v3 : Int32) (h : zm_H) : zWr [] [] h ((f_M_blame_k55 v3 h).2) := by
  unfold f_M_blame_k55
  exact (zWr.refl _ _)
def f_M_blame (p1 : Int32) (p2 : Int32) (h : zm_H) : Int32 × zm_H := (if (¬ (p1 < 0) ∧ (¬ (((zf h 92 33) - 1) < p1))) then (if (¬ (p2 < 0) ∧ (¬ (2 < p2))) then (if ((zr h 130 ((3 * ((10 * 0) + p1)) + p2)) = (-1)) then ((-1), h) else (f_M_blame_k55 ((3 * ((10 * 0) + p1)) + p2) (f_M_looks (zr h 130 ((3 * ((10 * 0) + p1)) + p2)) (if (480 ≤ (zf h 92 23)) then (479 : Int32) else (zf h 92 23)) h))) else ((-1), h)) else ((-1), h))
def f_M_blame_ok (p1 : Int32) (p2 : Int32) (h : zm_H) : Prop := (((¬ (p1 < 0) ∧ (¬ (((zf h 92 33) - 1) < p1))) → (((¬ (p2 < 0) ∧ (¬ (2 < p2))) → (vp_in ((3 * ((10 * 0) + p1)) + p2) 60 ∧ ((((zr h 130 ((3 * ((10 * 0) + p1)) + p2)) = (-1)) → True) ∧ (¬ ((zr h 130 ((3 * ((10 * 0) + p1)) + p2)) = (-1)) → (vp_in ((3 * ((10 * 0) + p1)) + p2) 60 ∧ (f_M_looks_ok (zr h 130 ((3 * ((10 * 0) + p1)) + p2)) (if (480 ≤ (zf h 92 23)) then (479 : Int32) else (zf h 92 23)) h ∧ (f_M_blame_k55_ok ((3 * ((10 * 0) + p1)) + p2) (f_M_looks (zr h 130 ((3 * ((10 * 0) + p1)) + p2)) (if (480 ≤ (zf h 92 23)) then (479 : Int32) else (zf h 92 23)) h)))))))) ∧ (¬ (¬ (p2 < 0) ∧ (¬ (2 < p2))) → True))) ∧ (¬ (¬ (p1 < 0) ∧ (¬ (((zf h 92 33) - 1) < p1))) → True))
theorem f_M_blame_w (p1 : Int32) (p2 : Int32) (h : zm_H) : zWr [] [(92, 79), (92, 80), (92, 81)] h ((f_M_blame p1 p2 h).2) := by
  unfold f_M_blame
  exact (zWr_ite (fun z : Int32 × zm_H => z.2) (zWr_ite (fun z : Int32 × zm_H => z.2) (zWr_ite (fun z : Int32 × zm_H => z.2) (zWr.refl _ _) (zWr_tr (f_M_blame_k55_w ((3 * ((10 * 0) + p1)) + p2) (f_M_looks (zr h 130 ((3 * ((10 * 0) + p1)) + p2)) (if (480 ≤ (zf h 92 23)) then (479 : Int32) else (zf h 92 23)) h)) (by decide) (by decide) (zWr_tr (f_M_looks_w (zr h 130 ((3 * ((10 * 0) + p1)) + p2)) (if (480 ≤ (zf h 92 23)) then (479 : Int32) else (zf h 92 23)) h) (by decide) (by decide) (zWr.refl _ _)))) (zWr.refl _ _)) (zWr.refl _ _))
def f_Cable_bits (p0 : Int32) (p1 : Int32) (h : zm_H) : Int32 := ((1 <<< ((p1 + 1) &&& 31)) - (1 <<< (p0 &&& 31)))
def f_Cable_bits_ok (p0 : Int32) (p1 : Int32) (h : zm_H) : Prop := True
def f_Cable_tell (p1 : Int32) (p2 : Int32) (p3 : Int32) (h : zm_H) : Int32 × zm_H := (if ((zf h 91 0) < 20) then (((zf h 91 1) &&& (if (p3 = 0) then ((((1 <<< ((p2 + 1) &&& 31)) - (1 <<< (p1 &&& 31))) ^^^ (-1)) : Int32) else ((1 <<< ((p2 + 1) &&& 31)) - (1 <<< (p1 &&& 31))))), (zp (zp h 91 0 ((zf h 91 0) + 1)) 91 1 ((zf h 91 1) &&& (if (p3 = 0) then ((((1 <<< ((p2 + 1) &&& 31)) - (1 <<< (p1 &&& 31))) ^^^ (-1)) : Int32) else ((1 <<< ((p2 + 1) &&& 31)) - (1 <<< (p1 &&& 31))))))) else ((-1), h))
def f_Cable_tell_ok (p1 : Int32) (p2 : Int32) (p3 : Int32) (h : zm_H) : Prop := True
theorem f_Cable_tell_w (p1 : Int32) (p2 : Int32) (p3 : Int32) (h : zm_H) : zWr [] [(91, 0), (91, 1)] h ((f_Cable_tell p1 p2 p3 h).2) := by
  unfold f_Cable_tell
  exact (zWr_ite (fun z : Int32 × zm_H => z.2) (zWr_p (by decide) (zWr_p (by decide) (zWr.refl _ _))) (zWr.refl _ _))
def f_N_test (p1 : Int32) (p2 : Int32) (p3 : Int32) (h : zm_H) : Int32 × zm_H := (if (¬ (p1 < 0) ∧ (¬ (p2 < p1) ∧ (¬ (16 ≤ p2)))) then (f_Cable_tell p1 p2 p3 h) else ((-1), h))
def f_N_test_ok (p1 : Int32) (p2 : Int32) (p3 : Int32) (h : zm_H) : Prop := True
theorem f_N_test_w (p1 : Int32) (p2 : Int32) (p3 : Int32) (h : zm_H) : zWr [] [(91, 0), (91, 1)] h ((f_N_test p1 p2 p3 h).2) := by
  unfold f_N_test
  exact (zWr_ite (fun z : Int32 × zm_H => z.2) (zWr_tr (f_Cable_tell_w p1 p2 p3 h) (by decide) (by decide) (zWr.refl _ _)) (zWr.refl _ _))
def f_M_span (p0 : Int32) (p1 : Int32) (h : zm_H) : Int32 := ((1 <<< ((p1 + 1) &&& 31)) - (1 <<< (p0 &&& 31)))
def f_M_span_ok (p0 : Int32) (p1 : Int32) (h : zm_H) : Prop := True
def f_M_test (p1 : Int32) (p2 : Int32) (p3 : Int32) (h : zm_H) : Int32 × zm_H := (if (¬ (p1 < 0) ∧ (¬ (15 < p1))) then (if (¬ (p2 < p1) ∧ (¬ (15 < p2))) then (if ((zf h 92 77) = 20) then ((-1), h) else (((zf h 92 78) &&& (if (p3 = 0) then ((((1 <<< ((p2 + 1) &&& 31)) - (1 <<< (p1 &&& 31))) ^^^ (-1)) : Int32) else ((1 <<< ((p2 + 1) &&& 31)) - (1 <<< (p1 &&& 31))))), (zp (zp h 92 78 ((zf h 92 78) &&& (if (p3 = 0) then ((((1 <<< ((p2 + 1) &&& 31)) - (1 <<< (p1 &&& 31))) ^^^ (-1)) : Int32) else ((1 <<< ((p2 + 1) &&& 31)) - (1 <<< (p1 &&& 31)))))) 92 77 ((zf h 92 77) + 1)))) else ((-1), h)) else ((-1), h))
def f_M_test_ok (p1 : Int32) (p2 : Int32) (p3 : Int32) (h : zm_H) : Prop := True
theorem f_M_test_w (p1 : Int32) (p2 : Int32) (p3 : Int32) (h : zm_H) : zWr [] [(92, 77), (92, 78)] h ((f_M_test p1 p2 p3 h).2) := by
  unfold f_M_test
  exact (zWr_ite (fun z : Int32 × zm_H => z.2) (zWr_ite (fun z : Int32 × zm_H => z.2) (zWr_ite (fun z : Int32 × zm_H => z.2) (zWr.refl _ _) (zWr_p (by decide) (zWr_p (by decide) (zWr.refl _ _)))) (zWr.refl _ _)) (zWr.refl _ _))
def f_Integer_bitCount_k34 (v0 : Int32) (h : zm_H) : Int32 := (((v0 + (zm_us v0 8)) + (zm_us (v0 + (zm_us v0 8)) 16)) &&& 63)
def f_Integer_bitCount_k34_ok (v0 : Int32) (h : zm_H) : Prop := True
def f_Integer_bitCount (p0 : Int32) (h : zm_H) : Int32 := (f_Integer_bitCount_k34 (((((p0 - ((zm_us p0 1) &&& 1431655765)) &&& 858993459) + ((zm_us (p0 - ((zm_us p0 1) &&& 1431655765)) 2) &&& 858993459)) + (zm_us (((p0 - ((zm_us p0 1) &&& 1431655765)) &&& 858993459) + ((zm_us (p0 - ((zm_us p0 1) &&& 1431655765)) 2) &&& 858993459)) 4)) &&& 252645135) h)
def f_Integer_bitCount_ok (p0 : Int32) (h : zm_H) : Prop := True
def f_Cable_findNext_l23_l34_k69 (v1 : Int32) (v2 : Int32) (v3 : Int32) (v4 : Int32) (v5 : Int32) (v7 : Int32) (h : zm_H) : Nat × Int32 × Int32 × Int32 := (0, (if (v3 ≤ v7) then (v2 : Int32) else ((v4 * 100) + v5)), (if (v3 ≤ v7) then (v3 : Int32) else v7), (v5 + 1))
def f_Cable_findNext_l23_l34_k69_ok (v1 : Int32) (v2 : Int32) (v3 : Int32) (v4 : Int32) (v5 : Int32) (v7 : Int32) (h : zm_H) : Prop := True
def f_Cable_findNext_l23_l34_b (v1 : Int32) (v2 : Int32) (v3 : Int32) (v4 : Int32) (v5 : Int32) (h : zm_H) : Nat × Int32 × Int32 × Int32 := (if (16 ≤ v5) then (1, v2, v3, v5) else (f_Cable_findNext_l23_l34_k69 v1 v2 v3 v4 v5 (if (f_Integer_bitCount ((zf h 91 1) &&& ((1 <<< ((v5 + 1) &&& 31)) - (1 <<< (v4 &&& 31)))) h) < (v1 - (f_Integer_bitCount ((zf h 91 1) &&& ((1 <<< ((v5 + 1) &&& 31)) - (1 <<< (v4 &&& 31)))) h)) then (v1 - (f_Integer_bitCount ((zf h 91 1) &&& ((1 <<< ((v5 + 1) &&& 31)) - (1 <<< (v4 &&& 31)))) h)) else (f_Integer_bitCount ((zf h 91 1) &&& ((1 <<< ((v5 + 1) &&& 31)) - (1 <<< (v4 &&& 31)))) h)) h))
def f_Cable_findNext_l23_l34_b_ok (v1 : Int32) (v2 : Int32) (v3 : Int32) (v4 : Int32) (v5 : Int32) (h : zm_H) : Prop := True
def f_Cable_findNext_l23_l34 (v1 : Int32) (v4 : Int32) (h : zm_H) (n : Nat) (t : Int32 × Int32 × Int32) : Nat × Int32 × Int32 × Int32 := zwh (fun t => f_Cable_findNext_l23_l34_b v1 t.1 t.2.1 v4 t.2.2 h) n t
def f_Cable_findNext_l23_l34_ok (v1 : Int32) (v4 : Int32) (h : zm_H) (n : Nat) (t : Int32 × Int32 × Int32) : Prop := zwo (fun t => f_Cable_findNext_l23_l34_b v1 t.1 t.2.1 v4 t.2.2 h) (fun t => f_Cable_findNext_l23_l34_b_ok v1 t.1 t.2.1 v4 t.2.2 h) n t
def f_Cable_findNext_l23_k93 (v1 : Int32) (v2 : Int32) (v3 : Int32) (v4 : Int32) (h : zm_H) : Nat × Int32 × Int32 × Int32 := (0, v2, v3, (v4 + 1))
def f_Cable_findNext_l23_k93_ok (v1 : Int32) (v2 : Int32) (v3 : Int32) (v4 : Int32) (h : zm_H) : Prop := True
def f_Cable_findNext_l23_a34 (v1 : Int32) (v4 : Int32) (r : Nat × Int32 × Int32 × Int32) (h : zm_H) : Nat × Int32 × Int32 × Int32 := (f_Cable_findNext_l23_k93 v1 (r.2.1) (r.2.2.1) v4 h)
def f_Cable_findNext_l23_a34_ok (v1 : Int32) (v4 : Int32) (r : Nat × Int32 × Int32 × Int32) (h : zm_H) : Prop := True
def f_Cable_findNext_l23_b (v1 : Int32) (v2 : Int32) (v3 : Int32) (v4 : Int32) (h : zm_H) : Nat × Int32 × Int32 × Int32 := (if (16 ≤ v4) then (1, v2, v3, v4) else (f_Cable_findNext_l23_a34 v1 v4 (f_Cable_findNext_l23_l34 v1 v4 h zF (v2, v3, v4)) h))
def f_Cable_findNext_l23_b_ok (v1 : Int32) (v2 : Int32) (v3 : Int32) (v4 : Int32) (h : zm_H) : Prop := (((16 ≤ v4) → True) ∧ (¬ (16 ≤ v4) → (f_Cable_findNext_l23_l34_ok v1 v4 h zF (v2, v3, v4) ∧ f_Cable_findNext_l23_a34_ok v1 v4 (f_Cable_findNext_l23_l34 v1 v4 h zF (v2, v3, v4)) h)))
def f_Cable_findNext_l23 (v1 : Int32) (h : zm_H) (n : Nat) (t : Int32 × Int32 × Int32) : Nat × Int32 × Int32 × Int32 := zwh (fun t => f_Cable_findNext_l23_b v1 t.1 t.2.1 t.2.2 h) n t
def f_Cable_findNext_l23_ok (v1 : Int32) (h : zm_H) (n : Nat) (t : Int32 × Int32 × Int32) : Prop := zwo (fun t => f_Cable_findNext_l23_b v1 t.1 t.2.1 t.2.2 h) (fun t => f_Cable_findNext_l23_b_ok v1 t.1 t.2.1 t.2.2 h) n t
def f_Cable_findNext_k99 (v2 : Int32) (h : zm_H) : Int32 := v2
def f_Cable_findNext_k99_ok (v2 : Int32) (h : zm_H) : Prop := True
def f_Cable_findNext_a23 (r : Nat × Int32 × Int32 × Int32) (h : zm_H) : Int32 := (f_Cable_findNext_k99 (r.2.1) h)
def f_Cable_findNext_a23_ok (r : Nat × Int32 × Int32 × Int32) (h : zm_H) : Prop := True
def f_Cable_findNext (h : zm_H) : Int32 := (if (2 ≤ (f_Integer_bitCount (zf h 91 1) h)) then (f_Cable_findNext_a23 (f_Cable_findNext_l23 (f_Integer_bitCount (zf h 91 1) h) h zF ((-1), 17, 0)) h) else (-1))
def f_Cable_findNext_ok (h : zm_H) : Prop := (((2 ≤ (f_Integer_bitCount (zf h 91 1) h)) → (f_Cable_findNext_l23_ok (f_Integer_bitCount (zf h 91 1) h) h zF ((-1), 17, 0) ∧ f_Cable_findNext_a23_ok (f_Cable_findNext_l23 (f_Integer_bitCount (zf h 91 1) h) h zF ((-1), 17, 0)) h)) ∧ (¬ (2 ≤ (f_Integer_bitCount (zf h 91 1) h)) → True))
def f_N_next (h : zm_H) : Int32 := (f_Cable_findNext h)
def f_N_next_ok (h : zm_H) : Prop := f_Cable_findNext_ok h
def f_M_bits_l4_b (v0 : Int32) (v1 : Int32) (v2 : Int32) (h : zm_H) : Nat × Int32 × Int32 := (if (16 ≤ v2) then (1, v1, v2) else (0, (v1 + ((v0 >>> (v2 &&& 31)) &&& 1)), (v2 + 1)))
def f_M_bits_l4_b_ok (v0 : Int32) (v1 : Int32) (v2 : Int32) (h : zm_H) : Prop := True
def f_M_bits_l4 (v0 : Int32) (h : zm_H) (n : Nat) (t : Int32 × Int32) : Nat × Int32 × Int32 := zwh (fun t => f_M_bits_l4_b v0 t.1 t.2 h) n t
def f_M_bits_l4_ok (v0 : Int32) (h : zm_H) (n : Nat) (t : Int32 × Int32) : Prop := zwo (fun t => f_M_bits_l4_b v0 t.1 t.2 h) (fun t => f_M_bits_l4_b_ok v0 t.1 t.2 h) n t
def f_M_bits_k24 (v1 : Int32) (h : zm_H) : Int32 := v1
def f_M_bits_k24_ok (v1 : Int32) (h : zm_H) : Prop := True
def f_M_bits_a4 (r : Nat × Int32 × Int32) (h : zm_H) : Int32 := (f_M_bits_k24 (r.2.1) h)
def f_M_bits_a4_ok (r : Nat × Int32 × Int32) (h : zm_H) : Prop := True
def f_M_bits (p0 : Int32) (h : zm_H) : Int32 := (f_M_bits_a4 (f_M_bits_l4 p0 h zF (0, 0)) h)
def f_M_bits_ok (p0 : Int32) (h : zm_H) : Prop := (f_M_bits_l4_ok p0 h zF (0, 0) ∧ f_M_bits_a4_ok (f_M_bits_l4 p0 h zF (0, 0)) h)
def f_M_next_l20_l29_k80 (v1 : Int32) (v2 : Int32) (v3 : Int32) (v4 : Int32) (v7 : Int32) (h : zm_H) : Nat × Int32 × Int32 × Int32 := (0, (if (v7 < v1) then (v7 : Int32) else v1), (if (v7 < v1) then (((100 * v3) + v4) : Int32) else v2), (v4 + 1))
def f_M_next_l20_l29_k80_ok (v1 : Int32) (v2 : Int32) (v3 : Int32) (v4 : Int32) (v7 : Int32) (h : zm_H) : Prop := True
def f_M_next_l20_l29_b (v1 : Int32) (v2 : Int32) (v3 : Int32) (v4 : Int32) (h : zm_H) : Nat × Int32 × Int32 × Int32 := (if (16 ≤ v4) then (1, v1, v2, v4) else (f_M_next_l20_l29_k80 v1 v2 v3 v4 (if ((f_M_bits ((zf h 92 78) &&& ((1 <<< ((v4 + 1) &&& 31)) - (1 <<< (v3 &&& 31)))) h) ≤ ((f_M_bits (zf h 92 78) h) - (f_M_bits ((zf h 92 78) &&& ((1 <<< ((v4 + 1) &&& 31)) - (1 <<< (v3 &&& 31)))) h))) then (((f_M_bits (zf h 92 78) h) - (f_M_bits ((zf h 92 78) &&& ((1 <<< ((v4 + 1) &&& 31)) - (1 <<< (v3 &&& 31)))) h)) : Int32) else (f_M_bits ((zf h 92 78) &&& ((1 <<< ((v4 + 1) &&& 31)) - (1 <<< (v3 &&& 31)))) h)) h))
