/-! ===== the code as functions, 1 ===== -/
def f_Course_sinkAndRise_37_l23_k97 (v2 : Int32) (v3 : Int32) (v4 : Int32) (w1 : Int32) (w2 : Int32) (h : zm_H) : Nat × Int32 × zm_H := (f_Course_sinkAndRise_37_l23_k106 v2 v3 v4 (zs h 38 w1 (if (w2 = 0) then (2 : Int32) else 1)))
def f_Course_sinkAndRise_37_l23_k97_ok (v2 : Int32) (v3 : Int32) (v4 : Int32) (w1 : Int32) (w2 : Int32) (h : zm_H) : Prop := vp_in w1 10
theorem f_Course_sinkAndRise_37_l23_k97_w (v2 : Int32) (v3 : Int32) (v4 : Int32) (w1 : Int32) (w2 : Int32) (h : zm_H) : zWr [38] [] h ((f_Course_sinkAndRise_37_l23_k97 v2 v3 v4 w1 w2 h).2.2) := by
  unfold f_Course_sinkAndRise_37_l23_k97
  exact (zWr_tr (f_Course_sinkAndRise_37_l23_k106_w v2 v3 v4 (zs h 38 w1 (if (w2 = 0) then (2 : Int32) else 1))) (by decide) (by decide) (zWr_si (by decide) (zWr.refl _ _)))
def f_Course_sinkAndRise_37_l23_k60 (v2 : Int32) (v3 : Int32) (v4 : Int32) (w1 : Int32) (w2 : Int32) (h : zm_H) : Nat × Int32 × zm_H := (f_Course_sinkAndRise_37_l23_k106 v2 v3 v4 (zs h 38 w1 (if (w2 = 0) then (1 : Int32) else 2)))
def f_Course_sinkAndRise_37_l23_k60_ok (v2 : Int32) (v3 : Int32) (v4 : Int32) (w1 : Int32) (w2 : Int32) (h : zm_H) : Prop := vp_in w1 10
theorem f_Course_sinkAndRise_37_l23_k60_w (v2 : Int32) (v3 : Int32) (v4 : Int32) (w1 : Int32) (w2 : Int32) (h : zm_H) : zWr [38] [] h ((f_Course_sinkAndRise_37_l23_k60 v2 v3 v4 w1 w2 h).2.2) := by
  unfold f_Course_sinkAndRise_37_l23_k60
  exact (zWr_tr (f_Course_sinkAndRise_37_l23_k106_w v2 v3 v4 (zs h 38 w1 (if (w2 = 0) then (1 : Int32) else 2))) (by decide) (by decide) (zWr_si (by decide) (zWr.refl _ _)))
def f_Course_sinkAndRise_37_l23_b (v2 : Int32) (v3 : Int32) (v4 : Int32) (h : zm_H) : Nat × Int32 × zm_H := (if ((zf h 23 0) ≤ v4) then (1, v4, h) else (if ((zr h 38 v4) = 1) then (f_Course_sinkAndRise_37_l23_k60 v2 v3 v4 v4 (f_Course_says_37 v2 0 v4 h).1 (f_Course_says_37 v2 0 v4 h).2) else (if ((zr h 38 v4) = 2) then (f_Course_sinkAndRise_37_l23_k97 v2 v3 v4 v4 (f_Course_says_37 v3 1 v4 h).1 (f_Course_says_37 v3 1 v4 h).2) else (f_Course_sinkAndRise_37_l23_k106 v2 v3 v4 h))))
def f_Course_sinkAndRise_37_l23_b_ok (v2 : Int32) (v3 : Int32) (v4 : Int32) (h : zm_H) : Prop := ((((zf h 23 0) ≤ v4) → True) ∧ (¬ ((zf h 23 0) ≤ v4) → (vp_in v4 10 ∧ ((((zr h 38 v4) = 1) → (f_Course_says_37_ok v2 0 v4 h ∧ (f_Course_sinkAndRise_37_l23_k60_ok v2 v3 v4 v4 (f_Course_says_37 v2 0 v4 h).1 (f_Course_says_37 v2 0 v4 h).2))) ∧ (¬ ((zr h 38 v4) = 1) → (vp_in v4 10 ∧ ((((zr h 38 v4) = 2) → (f_Course_says_37_ok v3 1 v4 h ∧ (f_Course_sinkAndRise_37_l23_k97_ok v2 v3 v4 v4 (f_Course_says_37 v3 1 v4 h).1 (f_Course_says_37 v3 1 v4 h).2))) ∧ (¬ ((zr h 38 v4) = 2) → True))))))))
theorem f_Course_sinkAndRise_37_l23_b_w (v2 : Int32) (v3 : Int32) (v4 : Int32) (h : zm_H) : zWr [21, 22, 38] [(15, 9)] h ((f_Course_sinkAndRise_37_l23_b v2 v3 v4 h).2.2) := by
  unfold f_Course_sinkAndRise_37_l23_b
  exact (zWr_ite (fun z : Nat × Int32 × zm_H => z.2.2) (zWr.refl _ _) (zWr_ite (fun z : Nat × Int32 × zm_H => z.2.2) (zWr_tr (f_Course_sinkAndRise_37_l23_k60_w v2 v3 v4 v4 (f_Course_says_37 v2 0 v4 h).1 (f_Course_says_37 v2 0 v4 h).2) (by decide) (by decide) (zWr_tr (f_Course_says_37_w v2 0 v4 h) (by decide) (by decide) (zWr.refl _ _))) (zWr_ite (fun z : Nat × Int32 × zm_H => z.2.2) (zWr_tr (f_Course_sinkAndRise_37_l23_k97_w v2 v3 v4 v4 (f_Course_says_37 v3 1 v4 h).1 (f_Course_says_37 v3 1 v4 h).2) (by decide) (by decide) (zWr_tr (f_Course_says_37_w v3 1 v4 h) (by decide) (by decide) (zWr.refl _ _))) (zWr_tr (f_Course_sinkAndRise_37_l23_k106_w v2 v3 v4 h) (by decide) (by decide) (zWr.refl _ _)))))
def f_Course_sinkAndRise_37_l23 (v2 : Int32) (v3 : Int32) (n : Nat) (t : Int32 × zm_H) : Nat × Int32 × zm_H := zwh (fun t => f_Course_sinkAndRise_37_l23_b v2 v3 t.1 t.2) n t
def f_Course_sinkAndRise_37_l23_ok (v2 : Int32) (v3 : Int32) (n : Nat) (t : Int32 × zm_H) : Prop := zwo (fun t => f_Course_sinkAndRise_37_l23_b v2 v3 t.1 t.2) (fun t => f_Course_sinkAndRise_37_l23_b_ok v2 v3 t.1 t.2) n t
theorem f_Course_sinkAndRise_37_l23_w (v2 : Int32) (v3 : Int32) (n : Nat) (t : Int32 × zm_H) : zWr [21, 22, 38] [(15, 9)] (t.2) ((f_Course_sinkAndRise_37_l23 v2 v3 n t).2.2) := by
  unfold f_Course_sinkAndRise_37_l23
  exact zWr_zwh (fun t : Int32 × zm_H => t.2) (fun t => f_Course_sinkAndRise_37_l23_b_w v2 v3 t.1 t.2)
def f_Course_sinkAndRise_37_k112 (h : zm_H) : zm_H := h
def f_Course_sinkAndRise_37_k112_ok (h : zm_H) : Prop := True
theorem f_Course_sinkAndRise_37_k112_w (h : zm_H) : zWr [] [] h ((f_Course_sinkAndRise_37_k112 h)) := by
  unfold f_Course_sinkAndRise_37_k112
  exact (zWr.refl _ _)
def f_Course_sinkAndRise_37_a23 (r : Nat × Int32 × zm_H) : zm_H := (f_Course_sinkAndRise_37_k112 (r.2.2))
def f_Course_sinkAndRise_37_a23_ok (r : Nat × Int32 × zm_H) : Prop := True
theorem f_Course_sinkAndRise_37_a23_w (r : Nat × Int32 × zm_H) : zWr [] [] (r.2.2) ((f_Course_sinkAndRise_37_a23 r)) := by
  unfold f_Course_sinkAndRise_37_a23
  exact (zWr_tr (f_Course_sinkAndRise_37_k112_w (r.2.2)) (by decide) (by decide) (zWr.refl _ _))
def f_Course_sinkAndRise_37 (p1 : Int32) (h : zm_H) : zm_H := (f_Course_sinkAndRise_37_a23 (f_Course_sinkAndRise_37_l23 (f_Rules_ruling 0 p1 h) (f_Rules_ruling 1 p1 h) zF (0, h)))
def f_Course_sinkAndRise_37_ok (p1 : Int32) (h : zm_H) : Prop := (f_Rules_ruling_ok 0 p1 h ∧ (f_Rules_ruling_ok 1 p1 h ∧ (f_Course_sinkAndRise_37_l23_ok (f_Rules_ruling 0 p1 h) (f_Rules_ruling 1 p1 h) zF (0, h) ∧ f_Course_sinkAndRise_37_a23_ok (f_Course_sinkAndRise_37_l23 (f_Rules_ruling 0 p1 h) (f_Rules_ruling 1 p1 h) zF (0, h)))))
theorem f_Course_sinkAndRise_37_w (p1 : Int32) (h : zm_H) : zWr [21, 22, 38] [(15, 9)] h ((f_Course_sinkAndRise_37 p1 h)) := by
  unfold f_Course_sinkAndRise_37
  exact (zWr_tr (f_Course_sinkAndRise_37_a23_w (f_Course_sinkAndRise_37_l23 (f_Rules_ruling 0 p1 h) (f_Rules_ruling 1 p1 h) zF (0, h))) (by decide) (by decide) (zWr_tr (f_Course_sinkAndRise_37_l23_w (f_Rules_ruling 0 p1 h) (f_Rules_ruling 1 p1 h) zF (0, h)) (by decide) (by decide) (zWr.refl _ _)))
def f_Arrays_fill_33_l5_b (v1 : Int32) (v2 : Int32) (v3 : Int32) (h : zm_H) : Nat × Int32 × zm_H := (if (v3 ≤ v2) then (1, v2, h) else (0, (v2 + 1), (zs h 33 v2 v1)))
def f_Arrays_fill_33_l5_b_ok (v1 : Int32) (v2 : Int32) (v3 : Int32) (h : zm_H) : Prop := (((v3 ≤ v2) → True) ∧ (¬ (v3 ≤ v2) → vp_in v2 100))
theorem f_Arrays_fill_33_l5_b_w (v1 : Int32) (v2 : Int32) (v3 : Int32) (h : zm_H) : zWr [33] [] h ((f_Arrays_fill_33_l5_b v1 v2 v3 h).2.2) := by
  unfold f_Arrays_fill_33_l5_b
  exact (zWr_ite (fun z : Nat × Int32 × zm_H => z.2.2) (zWr.refl _ _) (zWr_si (by decide) (zWr.refl _ _)))
def f_Arrays_fill_33_l5 (v1 : Int32) (v3 : Int32) (n : Nat) (t : Int32 × zm_H) : Nat × Int32 × zm_H := zwh (fun t => f_Arrays_fill_33_l5_b v1 t.1 v3 t.2) n t
def f_Arrays_fill_33_l5_ok (v1 : Int32) (v3 : Int32) (n : Nat) (t : Int32 × zm_H) : Prop := zwo (fun t => f_Arrays_fill_33_l5_b v1 t.1 v3 t.2) (fun t => f_Arrays_fill_33_l5_b_ok v1 t.1 v3 t.2) n t
theorem f_Arrays_fill_33_l5_w (v1 : Int32) (v3 : Int32) (n : Nat) (t : Int32 × zm_H) : zWr [33] [] (t.2) ((f_Arrays_fill_33_l5 v1 v3 n t).2.2) := by
  unfold f_Arrays_fill_33_l5
  exact zWr_zwh (fun t : Int32 × zm_H => t.2) (fun t => f_Arrays_fill_33_l5_b_w v1 t.1 v3 t.2)
def f_Arrays_fill_33_k20 (h : zm_H) : zm_H := h
def f_Arrays_fill_33_k20_ok (h : zm_H) : Prop := True
theorem f_Arrays_fill_33_k20_w (h : zm_H) : zWr [] [] h ((f_Arrays_fill_33_k20 h)) := by
  unfold f_Arrays_fill_33_k20
  exact (zWr.refl _ _)
def f_Arrays_fill_33_a5 (r : Nat × Int32 × zm_H) : zm_H := (f_Arrays_fill_33_k20 (r.2.2))
def f_Arrays_fill_33_a5_ok (r : Nat × Int32 × zm_H) : Prop := True
theorem f_Arrays_fill_33_a5_w (r : Nat × Int32 × zm_H) : zWr [] [] (r.2.2) ((f_Arrays_fill_33_a5 r)) := by
  unfold f_Arrays_fill_33_a5
  exact (zWr_tr (f_Arrays_fill_33_k20_w (r.2.2)) (by decide) (by decide) (zWr.refl _ _))
def f_Arrays_fill_33 (p1 : Int32) (h : zm_H) : zm_H := (f_Arrays_fill_33_a5 (f_Arrays_fill_33_l5 p1 (Int32.ofNat 100) zF (0, h)))
def f_Arrays_fill_33_ok (p1 : Int32) (h : zm_H) : Prop := (f_Arrays_fill_33_l5_ok p1 (Int32.ofNat 100) zF (0, h) ∧ f_Arrays_fill_33_a5_ok (f_Arrays_fill_33_l5 p1 (Int32.ofNat 100) zF (0, h)))
theorem f_Arrays_fill_33_w (p1 : Int32) (h : zm_H) : zWr [33] [] h ((f_Arrays_fill_33 p1 h)) := by
  unfold f_Arrays_fill_33
  exact (zWr_tr (f_Arrays_fill_33_a5_w (f_Arrays_fill_33_l5 p1 (Int32.ofNat 100) zF (0, h))) (by decide) (by decide) (zWr_tr (f_Arrays_fill_33_l5_w p1 (Int32.ofNat 100) zF (0, h)) (by decide) (by decide) (zWr.refl _ _)))
def f_Waves_takeAllOut (h : zm_H) : zm_H := (f_Arrays_fill_33 (-1) h)
def f_Waves_takeAllOut_ok (h : zm_H) : Prop := f_Arrays_fill_33_ok (-1) h
theorem f_Waves_takeAllOut_w (h : zm_H) : zWr [33] [] h ((f_Waves_takeAllOut h)) := by
  unfold f_Waves_takeAllOut
  exact (zWr_tr (f_Arrays_fill_33_w (-1) h) (by decide) (by decide) (zWr.refl _ _))
def f_Course_putInto_37_l6_k38 (v2 : Int32) (h : zm_H) : Nat × Int32 × zm_H := (0, (v2 + 1), h)
def f_Course_putInto_37_l6_k38_ok (v2 : Int32) (h : zm_H) : Prop := True
theorem f_Course_putInto_37_l6_k38_w (v2 : Int32) (h : zm_H) : zWr [] [] h ((f_Course_putInto_37_l6_k38 v2 h).2.2) := by
  unfold f_Course_putInto_37_l6_k38
  exact (zWr.refl _ _)
def f_Waves_putIn (p1 : Int32) (p2 : Int32) (h : zm_H) : zm_H := (if (¬ (p2 < 0) ∧ (¬ (100 ≤ p2) ∧ (¬ (5 ≤ (zm_rm p2 10))))) then (zs h 33 p2 p1) else h)
def f_Waves_putIn_ok (p1 : Int32) (p2 : Int32) (h : zm_H) : Prop := (((¬ (p2 < 0) ∧ (¬ (100 ≤ p2) ∧ (¬ (5 ≤ (zm_rm p2 10))))) → vp_in p2 100) ∧ (¬ (¬ (p2 < 0) ∧ (¬ (100 ≤ p2) ∧ (¬ (5 ≤ (zm_rm p2 10))))) → True))
theorem f_Waves_putIn_w (p1 : Int32) (p2 : Int32) (h : zm_H) : zWr [33] [] h ((f_Waves_putIn p1 p2 h)) := by
  unfold f_Waves_putIn
  exact (zWr_ite (fun z : zm_H => z) (zWr_si (by decide) (zWr.refl _ _)) (zWr.refl _ _))
def f_Course_putInto_37_l6_b (v2 : Int32) (h : zm_H) : Nat × Int32 × zm_H := (if ((zf h 23 0) ≤ v2) then (1, v2, h) else (if ((zr h 38 v2) = 1) then (f_Course_putInto_37_l6_k38 v2 (f_Waves_putIn v2 (zr h 39 v2) h)) else (f_Course_putInto_37_l6_k38 v2 h)))
def f_Course_putInto_37_l6_b_ok (v2 : Int32) (h : zm_H) : Prop := ((((zf h 23 0) ≤ v2) → True) ∧ (¬ ((zf h 23 0) ≤ v2) → (vp_in v2 10 ∧ ((((zr h 38 v2) = 1) → (vp_in v2 10 ∧ f_Waves_putIn_ok v2 (zr h 39 v2) h)) ∧ (¬ ((zr h 38 v2) = 1) → True)))))
theorem f_Course_putInto_37_l6_b_w (v2 : Int32) (h : zm_H) : zWr [33] [] h ((f_Course_putInto_37_l6_b v2 h).2.2) := by
  unfold f_Course_putInto_37_l6_b
  exact (zWr_ite (fun z : Nat × Int32 × zm_H => z.2.2) (zWr.refl _ _) (zWr_ite (fun z : Nat × Int32 × zm_H => z.2.2) (zWr_tr (f_Course_putInto_37_l6_k38_w v2 (f_Waves_putIn v2 (zr h 39 v2) h)) (by decide) (by decide) (zWr_tr (f_Waves_putIn_w v2 (zr h 39 v2) h) (by decide) (by decide) (zWr.refl _ _))) (zWr_tr (f_Course_putInto_37_l6_k38_w v2 h) (by decide) (by decide) (zWr.refl _ _))))
def f_Course_putInto_37_l6 (n : Nat) (t : Int32 × zm_H) : Nat × Int32 × zm_H := zwh (fun t => f_Course_putInto_37_l6_b t.1 t.2) n t
def f_Course_putInto_37_l6_ok (n : Nat) (t : Int32 × zm_H) : Prop := zwo (fun t => f_Course_putInto_37_l6_b t.1 t.2) (fun t => f_Course_putInto_37_l6_b_ok t.1 t.2) n t
theorem f_Course_putInto_37_l6_w (n : Nat) (t : Int32 × zm_H) : zWr [33] [] (t.2) ((f_Course_putInto_37_l6 n t).2.2) := by
  unfold f_Course_putInto_37_l6
  exact zWr_zwh (fun t : Int32 × zm_H => t.2) (fun t => f_Course_putInto_37_l6_b_w t.1 t.2)
def f_Course_putInto_37_k44 (h : zm_H) : zm_H := h
def f_Course_putInto_37_k44_ok (h : zm_H) : Prop := True
theorem f_Course_putInto_37_k44_w (h : zm_H) : zWr [] [] h ((f_Course_putInto_37_k44 h)) := by
  unfold f_Course_putInto_37_k44
  exact (zWr.refl _ _)
def f_Course_putInto_37_a6 (r : Nat × Int32 × zm_H) : zm_H := (f_Course_putInto_37_k44 (r.2.2))
def f_Course_putInto_37_a6_ok (r : Nat × Int32 × zm_H) : Prop := True
theorem f_Course_putInto_37_a6_w (r : Nat × Int32 × zm_H) : zWr [] [] (r.2.2) ((f_Course_putInto_37_a6 r)) := by
  unfold f_Course_putInto_37_a6
  exact (zWr_tr (f_Course_putInto_37_k44_w (r.2.2)) (by decide) (by decide) (zWr.refl _ _))
def f_Course_putInto_37_k4 (h : zm_H) : zm_H := (f_Course_putInto_37_a6 (f_Course_putInto_37_l6 zF (0, h)))
def f_Course_putInto_37_k4_ok (h : zm_H) : Prop := (f_Course_putInto_37_l6_ok zF (0, h) ∧ f_Course_putInto_37_a6_ok (f_Course_putInto_37_l6 zF (0, h)))
theorem f_Course_putInto_37_k4_w (h : zm_H) : zWr [33] [] h ((f_Course_putInto_37_k4 h)) := by
  unfold f_Course_putInto_37_k4
  exact (zWr_tr (f_Course_putInto_37_a6_w (f_Course_putInto_37_l6 zF (0, h))) (by decide) (by decide) (zWr_tr (f_Course_putInto_37_l6_w zF (0, h)) (by decide) (by decide) (zWr.refl _ _)))
def f_Course_putInto_37 (h : zm_H) : zm_H := (f_Course_putInto_37_k4 (f_Waves_takeAllOut h))
def f_Course_putInto_37_ok (h : zm_H) : Prop := (f_Waves_takeAllOut_ok h ∧ (f_Course_putInto_37_k4_ok (f_Waves_takeAllOut h)))
theorem f_Course_putInto_37_w (h : zm_H) : zWr [33] [] h ((f_Course_putInto_37 h)) := by
  unfold f_Course_putInto_37
  exact (zWr_tr (f_Course_putInto_37_k4_w (f_Waves_takeAllOut h)) (by decide) (by decide) (zWr_tr (f_Waves_takeAllOut_w h) (by decide) (by decide) (zWr.refl _ _)))
def f_Waves_openSea (p0 : Int32) (h : zm_H) : Int32 := (((p0 / 1000) * (p0 / 1000)) * ((zm_rm p0 1000) / 10))
def f_Waves_openSea_ok (p0 : Int32) (h : zm_H) : Prop := True
def f_Arrays_fill_34_l5_b (v1 : Int32) (v2 : Int32) (v3 : Int32) (h : zm_H) : Nat × Int32 × zm_H := (if (v3 ≤ v2) then (1, v2, h) else (0, (v2 + 1), (zs h 34 v2 v1)))
def f_Arrays_fill_34_l5_b_ok (v1 : Int32) (v2 : Int32) (v3 : Int32) (h : zm_H) : Prop := (((v3 ≤ v2) → True) ∧ (¬ (v3 ≤ v2) → vp_in v2 10))
theorem f_Arrays_fill_34_l5_b_w (v1 : Int32) (v2 : Int32) (v3 : Int32) (h : zm_H) : zWr [34] [] h ((f_Arrays_fill_34_l5_b v1 v2 v3 h).2.2) := by
  unfold f_Arrays_fill_34_l5_b
  exact (zWr_ite (fun z : Nat × Int32 × zm_H => z.2.2) (zWr.refl _ _) (zWr_si (by decide) (zWr.refl _ _)))
def f_Arrays_fill_34_l5 (v1 : Int32) (v3 : Int32) (n : Nat) (t : Int32 × zm_H) : Nat × Int32 × zm_H := zwh (fun t => f_Arrays_fill_34_l5_b v1 t.1 v3 t.2) n t
def f_Arrays_fill_34_l5_ok (v1 : Int32) (v3 : Int32) (n : Nat) (t : Int32 × zm_H) : Prop := zwo (fun t => f_Arrays_fill_34_l5_b v1 t.1 v3 t.2) (fun t => f_Arrays_fill_34_l5_b_ok v1 t.1 v3 t.2) n t
theorem f_Arrays_fill_34_l5_w (v1 : Int32) (v3 : Int32) (n : Nat) (t : Int32 × zm_H) : zWr [34] [] (t.2) ((f_Arrays_fill_34_l5 v1 v3 n t).2.2) := by
  unfold f_Arrays_fill_34_l5
  exact zWr_zwh (fun t : Int32 × zm_H => t.2) (fun t => f_Arrays_fill_34_l5_b_w v1 t.1 v3 t.2)
def f_Arrays_fill_34_k20 (h : zm_H) : zm_H := h
def f_Arrays_fill_34_k20_ok (h : zm_H) : Prop := True
theorem f_Arrays_fill_34_k20_w (h : zm_H) : zWr [] [] h ((f_Arrays_fill_34_k20 h)) := by
  unfold f_Arrays_fill_34_k20
  exact (zWr.refl _ _)
def f_Arrays_fill_34_a5 (r : Nat × Int32 × zm_H) : zm_H := (f_Arrays_fill_34_k20 (r.2.2))
def f_Arrays_fill_34_a5_ok (r : Nat × Int32 × zm_H) : Prop := True
theorem f_Arrays_fill_34_a5_w (r : Nat × Int32 × zm_H) : zWr [] [] (r.2.2) ((f_Arrays_fill_34_a5 r)) := by
  unfold f_Arrays_fill_34_a5
  exact (zWr_tr (f_Arrays_fill_34_k20_w (r.2.2)) (by decide) (by decide) (zWr.refl _ _))
def f_Arrays_fill_34 (p1 : Int32) (h : zm_H) : zm_H := (f_Arrays_fill_34_a5 (f_Arrays_fill_34_l5 p1 (Int32.ofNat 10) zF (0, h)))
def f_Arrays_fill_34_ok (p1 : Int32) (h : zm_H) : Prop := (f_Arrays_fill_34_l5_ok p1 (Int32.ofNat 10) zF (0, h) ∧ f_Arrays_fill_34_a5_ok (f_Arrays_fill_34_l5 p1 (Int32.ofNat 10) zF (0, h)))
theorem f_Arrays_fill_34_w (p1 : Int32) (h : zm_H) : zWr [34] [] h ((f_Arrays_fill_34 p1 h)) := by
  unfold f_Arrays_fill_34
  exact (zWr_tr (f_Arrays_fill_34_a5_w (f_Arrays_fill_34_l5 p1 (Int32.ofNat 10) zF (0, h))) (by decide) (by decide) (zWr_tr (f_Arrays_fill_34_l5_w p1 (Int32.ofNat 10) zF (0, h)) (by decide) (by decide) (zWr.refl _ _)))
def f_Arrays_fill_35_l5_b (v1 : Int32) (v2 : Int32) (v3 : Int32) (h : zm_H) : Nat × Int32 × zm_H := (if (v3 ≤ v2) then (1, v2, h) else (0, (v2 + 1), (zs h 35 v2 v1)))
def f_Arrays_fill_35_l5_b_ok (v1 : Int32) (v2 : Int32) (v3 : Int32) (h : zm_H) : Prop := (((v3 ≤ v2) → True) ∧ (¬ (v3 ≤ v2) → vp_in v2 10))
theorem f_Arrays_fill_35_l5_b_w (v1 : Int32) (v2 : Int32) (v3 : Int32) (h : zm_H) : zWr [35] [] h ((f_Arrays_fill_35_l5_b v1 v2 v3 h).2.2) := by
  unfold f_Arrays_fill_35_l5_b
  exact (zWr_ite (fun z : Nat × Int32 × zm_H => z.2.2) (zWr.refl _ _) (zWr_si (by decide) (zWr.refl _ _)))
def f_Arrays_fill_35_l5 (v1 : Int32) (v3 : Int32) (n : Nat) (t : Int32 × zm_H) : Nat × Int32 × zm_H := zwh (fun t => f_Arrays_fill_35_l5_b v1 t.1 v3 t.2) n t
def f_Arrays_fill_35_l5_ok (v1 : Int32) (v3 : Int32) (n : Nat) (t : Int32 × zm_H) : Prop := zwo (fun t => f_Arrays_fill_35_l5_b v1 t.1 v3 t.2) (fun t => f_Arrays_fill_35_l5_b_ok v1 t.1 v3 t.2) n t
theorem f_Arrays_fill_35_l5_w (v1 : Int32) (v3 : Int32) (n : Nat) (t : Int32 × zm_H) : zWr [35] [] (t.2) ((f_Arrays_fill_35_l5 v1 v3 n t).2.2) := by
  unfold f_Arrays_fill_35_l5
  exact zWr_zwh (fun t : Int32 × zm_H => t.2) (fun t => f_Arrays_fill_35_l5_b_w v1 t.1 v3 t.2)
def f_Arrays_fill_35_k20 (h : zm_H) : zm_H := h
def f_Arrays_fill_35_k20_ok (h : zm_H) : Prop := True
theorem f_Arrays_fill_35_k20_w (h : zm_H) : zWr [] [] h ((f_Arrays_fill_35_k20 h)) := by
  unfold f_Arrays_fill_35_k20
  exact (zWr.refl _ _)
def f_Arrays_fill_35_a5 (r : Nat × Int32 × zm_H) : zm_H := (f_Arrays_fill_35_k20 (r.2.2))
def f_Arrays_fill_35_a5_ok (r : Nat × Int32 × zm_H) : Prop := True
theorem f_Arrays_fill_35_a5_w (r : Nat × Int32 × zm_H) : zWr [] [] (r.2.2) ((f_Arrays_fill_35_a5 r)) := by
  unfold f_Arrays_fill_35_a5
  exact (zWr_tr (f_Arrays_fill_35_k20_w (r.2.2)) (by decide) (by decide) (zWr.refl _ _))
def f_Arrays_fill_35 (p1 : Int32) (h : zm_H) : zm_H := (f_Arrays_fill_35_a5 (f_Arrays_fill_35_l5 p1 (Int32.ofNat 10) zF (0, h)))
def f_Arrays_fill_35_ok (p1 : Int32) (h : zm_H) : Prop := (f_Arrays_fill_35_l5_ok p1 (Int32.ofNat 10) zF (0, h) ∧ f_Arrays_fill_35_a5_ok (f_Arrays_fill_35_l5 p1 (Int32.ofNat 10) zF (0, h)))
theorem f_Arrays_fill_35_w (p1 : Int32) (h : zm_H) : zWr [35] [] h ((f_Arrays_fill_35 p1 h)) := by
  unfold f_Arrays_fill_35
  exact (zWr_tr (f_Arrays_fill_35_a5_w (f_Arrays_fill_35_l5 p1 (Int32.ofNat 10) zF (0, h))) (by decide) (by decide) (zWr_tr (f_Arrays_fill_35_l5_w p1 (Int32.ofNat 10) zF (0, h)) (by decide) (by decide) (zWr.refl _ _)))
def f_Waves_run_l44_k82 (v1 : Int32) (v2 : Int32) (v4 : Int32) (h : zm_H) : Nat × Int32 × zm_H := (0, (v4 + 1), h)
def f_Waves_run_l44_k82_ok (v1 : Int32) (v2 : Int32) (v4 : Int32) (h : zm_H) : Prop := True
theorem f_Waves_run_l44_k82_w (v1 : Int32) (v2 : Int32) (v4 : Int32) (h : zm_H) : zWr [] [] h ((f_Waves_run_l44_k82 v1 v2 v4 h).2.2) := by
  unfold f_Waves_run_l44_k82
  exact (zWr.refl _ _)
def f_Waves_take_k26 (v1 : Int32) (v2 : Int32) (v4 : Int32) (h : zm_H) : zm_H := (zs (zs h 34 v1 (((((zr h 35 v2) * v4) / 100) * (zr h 24 v1)) / ((zr h 24 v1) + 20))) 35 v2 ((zr h 35 v2) - (zr (zs h 34 v1 (((((zr h 35 v2) * v4) / 100) * (zr h 24 v1)) / ((zr h 24 v1) + 20))) 34 v1)))
def f_Waves_take_k26_ok (v1 : Int32) (v2 : Int32) (v4 : Int32) (h : zm_H) : Prop := (vp_in v2 10 ∧ (vp_in v1 10 ∧ (vp_in v1 10 ∧ (¬ ((zr h 24 v1) + 20) = 0 ∧ (vp_in v1 10 ∧ (vp_in v2 10 ∧ (vp_in v1 10 ∧ vp_in v2 10)))))))
theorem f_Waves_take_k26_w (v1 : Int32) (v2 : Int32) (v4 : Int32) (h : zm_H) : zWr [34, 35] [] h ((f_Waves_take_k26 v1 v2 v4 h)) := by
  unfold f_Waves_take_k26
  exact (zWr_si (by decide) (zWr_si (by decide) (zWr.refl _ _)))
def f_Waves_take (p1 : Int32) (p2 : Int32) (p3 : Int32) (h : zm_H) : zm_H := (f_Waves_take_k26 p1 p2 (if 0 < (100 - (15 * (if 0 ≤ (p3 - (zr h 25 p1)) then (p3 - (zr h 25 p1)) else 0 - (p3 - (zr h 25 p1))))) then (100 - (15 * (if 0 ≤ (p3 - (zr h 25 p1)) then (p3 - (zr h 25 p1)) else 0 - (p3 - (zr h 25 p1))))) else 0) h)
def f_Waves_take_ok (p1 : Int32) (p2 : Int32) (p3 : Int32) (h : zm_H) : Prop := (vp_in p1 10 ∧ (f_Waves_take_k26_ok p1 p2 (if 0 < (100 - (15 * (if 0 ≤ (p3 - (zr h 25 p1)) then (p3 - (zr h 25 p1)) else 0 - (p3 - (zr h 25 p1))))) then (100 - (15 * (if 0 ≤ (p3 - (zr h 25 p1)) then (p3 - (zr h 25 p1)) else 0 - (p3 - (zr h 25 p1))))) else 0) h))
theorem f_Waves_take_w (p1 : Int32) (p2 : Int32) (p3 : Int32) (h : zm_H) : zWr [34, 35] [] h ((f_Waves_take p1 p2 p3 h)) := by
  unfold f_Waves_take
  exact (zWr_tr (f_Waves_take_k26_w p1 p2 (if 0 < (100 - (15 * (if 0 ≤ (p3 - (zr h 25 p1)) then (p3 - (zr h 25 p1)) else 0 - (p3 - (zr h 25 p1))))) then (100 - (15 * (if 0 ≤ (p3 - (zr h 25 p1)) then (p3 - (zr h 25 p1)) else 0 - (p3 - (zr h 25 p1))))) else 0) h) (by decide) (by decide) (zWr.refl _ _))
def f_Waves_run_l44_b (v1 : Int32) (v2 : Int32) (v4 : Int32) (h : zm_H) : Nat × Int32 × zm_H := (if (10 ≤ v4) then (1, v4, h) else (if ((zr h 33 ((v4 * 10) + 0)) < 0) then (f_Waves_run_l44_k82 v1 v2 v4 h) else (f_Waves_run_l44_k82 v1 v2 v4 (f_Waves_take (zr h 33 ((v4 * 10) + 0)) v4 ((zm_rm v1 1000) / 10) h))))
def f_Waves_run_l44_b_ok (v1 : Int32) (v2 : Int32) (v4 : Int32) (h : zm_H) : Prop := (((10 ≤ v4) → True) ∧ (¬ (10 ≤ v4) → (vp_in ((v4 * 10) + 0) 100 ∧ ((((zr h 33 ((v4 * 10) + 0)) < 0) → True) ∧ (¬ ((zr h 33 ((v4 * 10) + 0)) < 0) → f_Waves_take_ok (zr h 33 ((v4 * 10) + 0)) v4 ((zm_rm v1 1000) / 10) h)))))
theorem f_Waves_run_l44_b_w (v1 : Int32) (v2 : Int32) (v4 : Int32) (h : zm_H) : zWr [34, 35] [] h ((f_Waves_run_l44_b v1 v2 v4 h).2.2) := by
  unfold f_Waves_run_l44_b
  exact (zWr_ite (fun z : Nat × Int32 × zm_H => z.2.2) (zWr.refl _ _) (zWr_ite (fun z : Nat × Int32 × zm_H => z.2.2) (zWr_tr (f_Waves_run_l44_k82_w v1 v2 v4 h) (by decide) (by decide) (zWr.refl _ _)) (zWr_tr (f_Waves_run_l44_k82_w v1 v2 v4 (f_Waves_take (zr h 33 ((v4 * 10) + 0)) v4 ((zm_rm v1 1000) / 10) h)) (by decide) (by decide) (zWr_tr (f_Waves_take_w (zr h 33 ((v4 * 10) + 0)) v4 ((zm_rm v1 1000) / 10) h) (by decide) (by decide) (zWr.refl _ _)))))
def f_Waves_run_l44 (v1 : Int32) (v2 : Int32) (n : Nat) (t : Int32 × zm_H) : Nat × Int32 × zm_H := zwh (fun t => f_Waves_run_l44_b v1 v2 t.1 t.2) n t
def f_Waves_run_l44_ok (v1 : Int32) (v2 : Int32) (n : Nat) (t : Int32 × zm_H) : Prop := zwo (fun t => f_Waves_run_l44_b v1 v2 t.1 t.2) (fun t => f_Waves_run_l44_b_ok v1 v2 t.1 t.2) n t
theorem f_Waves_run_l44_w (v1 : Int32) (v2 : Int32) (n : Nat) (t : Int32 × zm_H) : zWr [34, 35] [] (t.2) ((f_Waves_run_l44 v1 v2 n t).2.2) := by
  unfold f_Waves_run_l44
  exact zWr_zwh (fun t : Int32 × zm_H => t.2) (fun t => f_Waves_run_l44_b_w v1 v2 t.1 t.2)
def f_Waves_goAside_l2_b (v1 : Int32) (v2 : Int32) (v3 : Int32) (h : zm_H) : Nat × Int32 × zm_H := (if (10 ≤ v3) then (1, v3, h) else (0, (v3 + 1), (zs h 36 v3 (if (¬ ((v3 - v1) < 0) ∧ (¬ (10 ≤ (v3 - v1)))) then ((zr h 35 (v3 - v1)) : Int32) else v2))))
def f_Waves_goAside_l2_b_ok (v1 : Int32) (v2 : Int32) (v3 : Int32) (h : zm_H) : Prop := (((10 ≤ v3) → True) ∧ (¬ (10 ≤ v3) → ((((¬ ((v3 - v1) < 0) ∧ (¬ (10 ≤ (v3 - v1)))) → vp_in (v3 - v1) 10) ∧ (¬ (¬ ((v3 - v1) < 0) ∧ (¬ (10 ≤ (v3 - v1)))) → True)) ∧ vp_in v3 10)))
theorem f_Waves_goAside_l2_b_w (v1 : Int32) (v2 : Int32) (v3 : Int32) (h : zm_H) : zWr [36] [] h ((f_Waves_goAside_l2_b v1 v2 v3 h).2.2) := by
  unfold f_Waves_goAside_l2_b
  exact (zWr_ite (fun z : Nat × Int32 × zm_H => z.2.2) (zWr.refl _ _) (zWr_si (by decide) (zWr.refl _ _)))
def f_Waves_goAside_l2 (v1 : Int32) (v2 : Int32) (n : Nat) (t : Int32 × zm_H) : Nat × Int32 × zm_H := zwh (fun t => f_Waves_goAside_l2_b v1 v2 t.1 t.2) n t
def f_Waves_goAside_l2_ok (v1 : Int32) (v2 : Int32) (n : Nat) (t : Int32 × zm_H) : Prop := zwo (fun t => f_Waves_goAside_l2_b v1 v2 t.1 t.2) (fun t => f_Waves_goAside_l2_b_ok v1 v2 t.1 t.2) n t
theorem f_Waves_goAside_l2_w (v1 : Int32) (v2 : Int32) (n : Nat) (t : Int32 × zm_H) : zWr [36] [] (t.2) ((f_Waves_goAside_l2 v1 v2 n t).2.2) := by
  unfold f_Waves_goAside_l2
  exact zWr_zwh (fun t : Int32 × zm_H => t.2) (fun t => f_Waves_goAside_l2_b_w v1 v2 t.1 t.2)
def f_Waves_goAside_k44 (h : zm_H) : zm_H := (zm_sr (zm_sr h 32 3 (some 36)) 32 4 (some 35))
def f_Waves_goAside_k44_ok (h : zm_H) : Prop := True
theorem f_Waves_goAside_k44_w (h : zm_H) : zWr [32] [] h ((f_Waves_goAside_k44 h)) := by
  unfold f_Waves_goAside_k44
  exact (zWr_sr (by decide) (zWr_sr (by decide) (zWr.refl _ _)))
def f_Waves_goAside_a2 (r : Nat × Int32 × zm_H) : zm_H := (f_Waves_goAside_k44 (r.2.2))
def f_Waves_goAside_a2_ok (r : Nat × Int32 × zm_H) : Prop := True
theorem f_Waves_goAside_a2_w (r : Nat × Int32 × zm_H) : zWr [32] [] (r.2.2) ((f_Waves_goAside_a2 r)) := by
  unfold f_Waves_goAside_a2
  exact (zWr_tr (f_Waves_goAside_k44_w (r.2.2)) (by decide) (by decide) (zWr.refl _ _))
def f_Waves_goAside (p1 : Int32) (p2 : Int32) (h : zm_H) : zm_H := (f_Waves_goAside_a2 (f_Waves_goAside_l2 p1 p2 zF (0, h)))
def f_Waves_goAside_ok (p1 : Int32) (p2 : Int32) (h : zm_H) : Prop := (f_Waves_goAside_l2_ok p1 p2 zF (0, h) ∧ f_Waves_goAside_a2_ok (f_Waves_goAside_l2 p1 p2 zF (0, h)))
theorem f_Waves_goAside_w (p1 : Int32) (p2 : Int32) (h : zm_H) : zWr [32, 36] [] h ((f_Waves_goAside p1 p2 h)) := by
  unfold f_Waves_goAside
  exact (zWr_tr (f_Waves_goAside_a2_w (f_Waves_goAside_l2 p1 p2 zF (0, h))) (by decide) (by decide) (zWr_tr (f_Waves_goAside_l2_w p1 p2 zF (0, h)) (by decide) (by decide) (zWr.refl _ _)))
def f_Waves_run_l44b_k82 (v1 : Int32) (v2 : Int32) (v4 : Int32) (h : zm_H) : Nat × Int32 × zm_H := (0, (v4 + 1), h)
def f_Waves_run_l44b_k82_ok (v1 : Int32) (v2 : Int32) (v4 : Int32) (h : zm_H) : Prop := True
theorem f_Waves_run_l44b_k82_w (v1 : Int32) (v2 : Int32) (v4 : Int32) (h : zm_H) : zWr [] [] h ((f_Waves_run_l44b_k82 v1 v2 v4 h).2.2) := by
  unfold f_Waves_run_l44b_k82
  exact (zWr.refl _ _)
def f_N_periodOf_s (p0 : Int32) (h : zm_H) : Int32 := ((zm_rm p0 1000) / 10)
def f_N_periodOf_s_ok (p0 : Int32) (h : zm_H) : Prop := True
def f_Waves_take_s_k26 (v1 : Int32) (v2 : Int32) (v4 : Int32) (h : zm_H) : zm_H := (zs (zs h 34 v1 (((((zr h 36 v2) * v4) / 100) * (zr h 24 v1)) / ((zr h 24 v1) + 20))) 36 v2 ((zr h 36 v2) - (zr (zs h 34 v1 (((((zr h 36 v2) * v4) / 100) * (zr h 24 v1)) / ((zr h 24 v1) + 20))) 34 v1)))
def f_Waves_take_s_k26_ok (v1 : Int32) (v2 : Int32) (v4 : Int32) (h : zm_H) : Prop := (vp_in v2 10 ∧ (vp_in v1 10 ∧ (vp_in v1 10 ∧ (¬ ((zr h 24 v1) + 20) = 0 ∧ (vp_in v1 10 ∧ (vp_in v2 10 ∧ (vp_in v1 10 ∧ vp_in v2 10)))))))
theorem f_Waves_take_s_k26_w (v1 : Int32) (v2 : Int32) (v4 : Int32) (h : zm_H) : zWr [34, 36] [] h ((f_Waves_take_s_k26 v1 v2 v4 h)) := by
  unfold f_Waves_take_s_k26
  exact (zWr_si (by decide) (zWr_si (by decide) (zWr.refl _ _)))
def f_Waves_take_s (p1 : Int32) (p2 : Int32) (p3 : Int32) (h : zm_H) : zm_H := (f_Waves_take_s_k26 p1 p2 (if 0 < (100 - (15 * (if 0 ≤ (p3 - (zr h 25 p1)) then (p3 - (zr h 25 p1)) else 0 - (p3 - (zr h 25 p1))))) then (100 - (15 * (if 0 ≤ (p3 - (zr h 25 p1)) then (p3 - (zr h 25 p1)) else 0 - (p3 - (zr h 25 p1))))) else 0) h)
def f_Waves_take_s_ok (p1 : Int32) (p2 : Int32) (p3 : Int32) (h : zm_H) : Prop := (vp_in p1 10 ∧ (f_Waves_take_s_k26_ok p1 p2 (if 0 < (100 - (15 * (if 0 ≤ (p3 - (zr h 25 p1)) then (p3 - (zr h 25 p1)) else 0 - (p3 - (zr h 25 p1))))) then (100 - (15 * (if 0 ≤ (p3 - (zr h 25 p1)) then (p3 - (zr h 25 p1)) else 0 - (p3 - (zr h 25 p1))))) else 0) h))
theorem f_Waves_take_s_w (p1 : Int32) (p2 : Int32) (p3 : Int32) (h : zm_H) : zWr [34, 36] [] h ((f_Waves_take_s p1 p2 p3 h)) := by
  unfold f_Waves_take_s
  exact (zWr_tr (f_Waves_take_s_k26_w p1 p2 (if 0 < (100 - (15 * (if 0 ≤ (p3 - (zr h 25 p1)) then (p3 - (zr h 25 p1)) else 0 - (p3 - (zr h 25 p1))))) then (100 - (15 * (if 0 ≤ (p3 - (zr h 25 p1)) then (p3 - (zr h 25 p1)) else 0 - (p3 - (zr h 25 p1))))) else 0) h) (by decide) (by decide) (zWr.refl _ _))
def f_Waves_run_l44b_b (v1 : Int32) (v2 : Int32) (v4 : Int32) (h : zm_H) : Nat × Int32 × zm_H := (if (10 ≤ v4) then (1, v4, h) else (if ((zr h 33 ((v4 * 10) + 1)) < 0) then (f_Waves_run_l44b_k82 v1 v2 v4 h) else (f_Waves_run_l44b_k82 v1 v2 v4 (f_Waves_take_s (zr h 33 ((v4 * 10) + 1)) v4 ((zm_rm v1 1000) / 10) h))))
def f_Waves_run_l44b_b_ok (v1 : Int32) (v2 : Int32) (v4 : Int32) (h : zm_H) : Prop := (((10 ≤ v4) → True) ∧ (¬ (10 ≤ v4) → (vp_in ((v4 * 10) + 1) 100 ∧ ((((zr h 33 ((v4 * 10) + 1)) < 0) → True) ∧ (¬ ((zr h 33 ((v4 * 10) + 1)) < 0) → f_Waves_take_s_ok (zr h 33 ((v4 * 10) + 1)) v4 ((zm_rm v1 1000) / 10) h)))))
theorem f_Waves_run_l44b_b_w (v1 : Int32) (v2 : Int32) (v4 : Int32) (h : zm_H) : zWr [34, 36] [] h ((f_Waves_run_l44b_b v1 v2 v4 h).2.2) := by
  unfold f_Waves_run_l44b_b
  exact (zWr_ite (fun z : Nat × Int32 × zm_H => z.2.2) (zWr.refl _ _) (zWr_ite (fun z : Nat × Int32 × zm_H => z.2.2) (zWr_tr (f_Waves_run_l44b_k82_w v1 v2 v4 h) (by decide) (by decide) (zWr.refl _ _)) (zWr_tr (f_Waves_run_l44b_k82_w v1 v2 v4 (f_Waves_take_s (zr h 33 ((v4 * 10) + 1)) v4 ((zm_rm v1 1000) / 10) h)) (by decide) (by decide) (zWr_tr (f_Waves_take_s_w (zr h 33 ((v4 * 10) + 1)) v4 ((zm_rm v1 1000) / 10) h) (by decide) (by decide) (zWr.refl _ _)))))
def f_Waves_run_l44b (v1 : Int32) (v2 : Int32) (n : Nat) (t : Int32 × zm_H) : Nat × Int32 × zm_H := zwh (fun t => f_Waves_run_l44b_b v1 v2 t.1 t.2) n t
def f_Waves_run_l44b_ok (v1 : Int32) (v2 : Int32) (n : Nat) (t : Int32 × zm_H) : Prop := zwo (fun t => f_Waves_run_l44b_b v1 v2 t.1 t.2) (fun t => f_Waves_run_l44b_b_ok v1 v2 t.1 t.2) n t
theorem f_Waves_run_l44b_w (v1 : Int32) (v2 : Int32) (n : Nat) (t : Int32 × zm_H) : zWr [34, 36] [] (t.2) ((f_Waves_run_l44b v1 v2 n t).2.2) := by
  unfold f_Waves_run_l44b
  exact zWr_zwh (fun t : Int32 × zm_H => t.2) (fun t => f_Waves_run_l44b_b_w v1 v2 t.1 t.2)
def f_N_wayOf_s (p0 : Int32) (h : zm_H) : Int32 := ((zm_rm p0 10) - 1)
def f_N_wayOf_s_ok (p0 : Int32) (h : zm_H) : Prop := True
def f_N_isColumn_s (p0 : Int32) (h : zm_H) : Int32 := (if (¬ (p0 < 0) ∧ (¬ (10 ≤ p0))) then (1 : Int32) else 0)
def f_N_isColumn_s_ok (p0 : Int32) (h : zm_H) : Prop := True
def f_Waves_goAside_s_l2_b (v1 : Int32) (v2 : Int32) (v3 : Int32) (h : zm_H) : Nat × Int32 × zm_H := (if (10 ≤ v3) then (1, v3, h) else (0, (v3 + 1), (zs h 35 v3 (if (¬ ((v3 - v1) < 0) ∧ (¬ (10 ≤ (v3 - v1)))) then ((zr h 36 (v3 - v1)) : Int32) else v2))))
def f_Waves_goAside_s_l2_b_ok (v1 : Int32) (v2 : Int32) (v3 : Int32) (h : zm_H) : Prop := (((10 ≤ v3) → True) ∧ (¬ (10 ≤ v3) → ((((¬ ((v3 - v1) < 0) ∧ (¬ (10 ≤ (v3 - v1)))) → vp_in (v3 - v1) 10) ∧ (¬ (¬ ((v3 - v1) < 0) ∧ (¬ (10 ≤ (v3 - v1)))) → True)) ∧ vp_in v3 10)))
theorem f_Waves_goAside_s_l2_b_w (v1 : Int32) (v2 : Int32) (v3 : Int32) (h : zm_H) : zWr [35] [] h ((f_Waves_goAside_s_l2_b v1 v2 v3 h).2.2) := by
  unfold f_Waves_goAside_s_l2_b
  exact (zWr_ite (fun z : Nat × Int32 × zm_H => z.2.2) (zWr.refl _ _) (zWr_si (by decide) (zWr.refl _ _)))
def f_Waves_goAside_s_l2 (v1 : Int32) (v2 : Int32) (n : Nat) (t : Int32 × zm_H) : Nat × Int32 × zm_H := zwh (fun t => f_Waves_goAside_s_l2_b v1 v2 t.1 t.2) n t
def f_Waves_goAside_s_l2_ok (v1 : Int32) (v2 : Int32) (n : Nat) (t : Int32 × zm_H) : Prop := zwo (fun t => f_Waves_goAside_s_l2_b v1 v2 t.1 t.2) (fun t => f_Waves_goAside_s_l2_b_ok v1 v2 t.1 t.2) n t
theorem f_Waves_goAside_s_l2_w (v1 : Int32) (v2 : Int32) (n : Nat) (t : Int32 × zm_H) : zWr [35] [] (t.2) ((f_Waves_goAside_s_l2 v1 v2 n t).2.2) := by
  unfold f_Waves_goAside_s_l2
  exact zWr_zwh (fun t : Int32 × zm_H => t.2) (fun t => f_Waves_goAside_s_l2_b_w v1 v2 t.1 t.2)
def f_Waves_goAside_s_k44 (h : zm_H) : zm_H := (zm_sr (zm_sr h 32 3 (some 35)) 32 4 (some 36))
def f_Waves_goAside_s_k44_ok (h : zm_H) : Prop := True
theorem f_Waves_goAside_s_k44_w (h : zm_H) : zWr [32] [] h ((f_Waves_goAside_s_k44 h)) := by
  unfold f_Waves_goAside_s_k44
  exact (zWr_sr (by decide) (zWr_sr (by decide) (zWr.refl _ _)))
def f_Waves_goAside_s_a2 (r : Nat × Int32 × zm_H) : zm_H := (f_Waves_goAside_s_k44 (r.2.2))
def f_Waves_goAside_s_a2_ok (r : Nat × Int32 × zm_H) : Prop := True
theorem f_Waves_goAside_s_a2_w (r : Nat × Int32 × zm_H) : zWr [32] [] (r.2.2) ((f_Waves_goAside_s_a2 r)) := by
  unfold f_Waves_goAside_s_a2
  exact (zWr_tr (f_Waves_goAside_s_k44_w (r.2.2)) (by decide) (by decide) (zWr.refl _ _))
def f_Waves_goAside_s (p1 : Int32) (p2 : Int32) (h : zm_H) : zm_H := (f_Waves_goAside_s_a2 (f_Waves_goAside_s_l2 p1 p2 zF (0, h)))
def f_Waves_goAside_s_ok (p1 : Int32) (p2 : Int32) (h : zm_H) : Prop := (f_Waves_goAside_s_l2_ok p1 p2 zF (0, h) ∧ f_Waves_goAside_s_a2_ok (f_Waves_goAside_s_l2 p1 p2 zF (0, h)))
theorem f_Waves_goAside_s_w (p1 : Int32) (p2 : Int32) (h : zm_H) : zWr [32, 35] [] h ((f_Waves_goAside_s p1 p2 h)) := by
  unfold f_Waves_goAside_s
  exact (zWr_tr (f_Waves_goAside_s_a2_w (f_Waves_goAside_s_l2 p1 p2 zF (0, h))) (by decide) (by decide) (zWr_tr (f_Waves_goAside_s_l2_w p1 p2 zF (0, h)) (by decide) (by decide) (zWr.refl _ _)))
def f_Waves_run_l44c_k82 (v1 : Int32) (v2 : Int32) (v4 : Int32) (h : zm_H) : Nat × Int32 × zm_H := (0, (v4 + 1), h)
def f_Waves_run_l44c_k82_ok (v1 : Int32) (v2 : Int32) (v4 : Int32) (h : zm_H) : Prop := True
theorem f_Waves_run_l44c_k82_w (v1 : Int32) (v2 : Int32) (v4 : Int32) (h : zm_H) : zWr [] [] h ((f_Waves_run_l44c_k82 v1 v2 v4 h).2.2) := by
  unfold f_Waves_run_l44c_k82
  exact (zWr.refl _ _)
def f_Waves_run_l44c_b (v1 : Int32) (v2 : Int32) (v4 : Int32) (h : zm_H) : Nat × Int32 × zm_H := (if (10 ≤ v4) then (1, v4, h) else (if ((zr h 33 ((v4 * 10) + 2)) < 0) then (f_Waves_run_l44c_k82 v1 v2 v4 h) else (f_Waves_run_l44c_k82 v1 v2 v4 (f_Waves_take (zr h 33 ((v4 * 10) + 2)) v4 ((zm_rm v1 1000) / 10) h))))
def f_Waves_run_l44c_b_ok (v1 : Int32) (v2 : Int32) (v4 : Int32) (h : zm_H) : Prop := (((10 ≤ v4) → True) ∧ (¬ (10 ≤ v4) → (vp_in ((v4 * 10) + 2) 100 ∧ ((((zr h 33 ((v4 * 10) + 2)) < 0) → True) ∧ (¬ ((zr h 33 ((v4 * 10) + 2)) < 0) → f_Waves_take_ok (zr h 33 ((v4 * 10) + 2)) v4 ((zm_rm v1 1000) / 10) h)))))
theorem f_Waves_run_l44c_b_w (v1 : Int32) (v2 : Int32) (v4 : Int32) (h : zm_H) : zWr [34, 35] [] h ((f_Waves_run_l44c_b v1 v2 v4 h).2.2) := by
  unfold f_Waves_run_l44c_b
  exact (zWr_ite (fun z : Nat × Int32 × zm_H => z.2.2) (zWr.refl _ _) (zWr_ite (fun z : Nat × Int32 × zm_H => z.2.2) (zWr_tr (f_Waves_run_l44c_k82_w v1 v2 v4 h) (by decide) (by decide) (zWr.refl _ _)) (zWr_tr (f_Waves_run_l44c_k82_w v1 v2 v4 (f_Waves_take (zr h 33 ((v4 * 10) + 2)) v4 ((zm_rm v1 1000) / 10) h)) (by decide) (by decide) (zWr_tr (f_Waves_take_w (zr h 33 ((v4 * 10) + 2)) v4 ((zm_rm v1 1000) / 10) h) (by decide) (by decide) (zWr.refl _ _)))))
def f_Waves_run_l44c (v1 : Int32) (v2 : Int32) (n : Nat) (t : Int32 × zm_H) : Nat × Int32 × zm_H := zwh (fun t => f_Waves_run_l44c_b v1 v2 t.1 t.2) n t
def f_Waves_run_l44c_ok (v1 : Int32) (v2 : Int32) (n : Nat) (t : Int32 × zm_H) : Prop := zwo (fun t => f_Waves_run_l44c_b v1 v2 t.1 t.2) (fun t => f_Waves_run_l44c_b_ok v1 v2 t.1 t.2) n t
theorem f_Waves_run_l44c_w (v1 : Int32) (v2 : Int32) (n : Nat) (t : Int32 × zm_H) : zWr [34, 35] [] (t.2) ((f_Waves_run_l44c v1 v2 n t).2.2) := by
  unfold f_Waves_run_l44c
  exact zWr_zwh (fun t : Int32 × zm_H => t.2) (fun t => f_Waves_run_l44c_b_w v1 v2 t.1 t.2)
def f_Waves_run_l44d_k82 (v1 : Int32) (v2 : Int32) (v4 : Int32) (h : zm_H) : Nat × Int32 × zm_H := (0, (v4 + 1), h)
def f_Waves_run_l44d_k82_ok (v1 : Int32) (v2 : Int32) (v4 : Int32) (h : zm_H) : Prop := True
theorem f_Waves_run_l44d_k82_w (v1 : Int32) (v2 : Int32) (v4 : Int32) (h : zm_H) : zWr [] [] h ((f_Waves_run_l44d_k82 v1 v2 v4 h).2.2) := by
  unfold f_Waves_run_l44d_k82
  exact (zWr.refl _ _)
def f_Waves_run_l44d_b (v1 : Int32) (v2 : Int32) (v4 : Int32) (h : zm_H) : Nat × Int32 × zm_H := (if (10 ≤ v4) then (1, v4, h) else (if ((zr h 33 ((v4 * 10) + 3)) < 0) then (f_Waves_run_l44d_k82 v1 v2 v4 h) else (f_Waves_run_l44d_k82 v1 v2 v4 (f_Waves_take_s (zr h 33 ((v4 * 10) + 3)) v4 ((zm_rm v1 1000) / 10) h))))
def f_Waves_run_l44d_b_ok (v1 : Int32) (v2 : Int32) (v4 : Int32) (h : zm_H) : Prop := (((10 ≤ v4) → True) ∧ (¬ (10 ≤ v4) → (vp_in ((v4 * 10) + 3) 100 ∧ ((((zr h 33 ((v4 * 10) + 3)) < 0) → True) ∧ (¬ ((zr h 33 ((v4 * 10) + 3)) < 0) → f_Waves_take_s_ok (zr h 33 ((v4 * 10) + 3)) v4 ((zm_rm v1 1000) / 10) h)))))
theorem f_Waves_run_l44d_b_w (v1 : Int32) (v2 : Int32) (v4 : Int32) (h : zm_H) : zWr [34, 36] [] h ((f_Waves_run_l44d_b v1 v2 v4 h).2.2) := by
  unfold f_Waves_run_l44d_b
  exact (zWr_ite (fun z : Nat × Int32 × zm_H => z.2.2) (zWr.refl _ _) (zWr_ite (fun z : Nat × Int32 × zm_H => z.2.2) (zWr_tr (f_Waves_run_l44d_k82_w v1 v2 v4 h) (by decide) (by decide) (zWr.refl _ _)) (zWr_tr (f_Waves_run_l44d_k82_w v1 v2 v4 (f_Waves_take_s (zr h 33 ((v4 * 10) + 3)) v4 ((zm_rm v1 1000) / 10) h)) (by decide) (by decide) (zWr_tr (f_Waves_take_s_w (zr h 33 ((v4 * 10) + 3)) v4 ((zm_rm v1 1000) / 10) h) (by decide) (by decide) (zWr.refl _ _)))))
def f_Waves_run_l44d (v1 : Int32) (v2 : Int32) (n : Nat) (t : Int32 × zm_H) : Nat × Int32 × zm_H := zwh (fun t => f_Waves_run_l44d_b v1 v2 t.1 t.2) n t
def f_Waves_run_l44d_ok (v1 : Int32) (v2 : Int32) (n : Nat) (t : Int32 × zm_H) : Prop := zwo (fun t => f_Waves_run_l44d_b v1 v2 t.1 t.2) (fun t => f_Waves_run_l44d_b_ok v1 v2 t.1 t.2) n t
theorem f_Waves_run_l44d_w (v1 : Int32) (v2 : Int32) (n : Nat) (t : Int32 × zm_H) : zWr [34, 36] [] (t.2) ((f_Waves_run_l44d v1 v2 n t).2.2) := by
  unfold f_Waves_run_l44d
  exact zWr_zwh (fun t : Int32 × zm_H => t.2) (fun t => f_Waves_run_l44d_b_w v1 v2 t.1 t.2)
def f_Waves_run_l44e_k82 (v1 : Int32) (v2 : Int32) (v4 : Int32) (h : zm_H) : Nat × Int32 × zm_H := (0, (v4 + 1), h)
def f_Waves_run_l44e_k82_ok (v1 : Int32) (v2 : Int32) (v4 : Int32) (h : zm_H) : Prop := True
theorem f_Waves_run_l44e_k82_w (v1 : Int32) (v2 : Int32) (v4 : Int32) (h : zm_H) : zWr [] [] h ((f_Waves_run_l44e_k82 v1 v2 v4 h).2.2) := by
  unfold f_Waves_run_l44e_k82
  exact (zWr.refl _ _)
def f_Waves_run_l44e_b (v1 : Int32) (v2 : Int32) (v4 : Int32) (h : zm_H) : Nat × Int32 × zm_H := (if (10 ≤ v4) then (1, v4, h) else (if ((zr h 33 ((v4 * 10) + 4)) < 0) then (f_Waves_run_l44e_k82 v1 v2 v4 h) else (f_Waves_run_l44e_k82 v1 v2 v4 (f_Waves_take (zr h 33 ((v4 * 10) + 4)) v4 ((zm_rm v1 1000) / 10) h))))
def f_Waves_run_l44e_b_ok (v1 : Int32) (v2 : Int32) (v4 : Int32) (h : zm_H) : Prop := (((10 ≤ v4) → True) ∧ (¬ (10 ≤ v4) → (vp_in ((v4 * 10) + 4) 100 ∧ ((((zr h 33 ((v4 * 10) + 4)) < 0) → True) ∧ (¬ ((zr h 33 ((v4 * 10) + 4)) < 0) → f_Waves_take_ok (zr h 33 ((v4 * 10) + 4)) v4 ((zm_rm v1 1000) / 10) h)))))
theorem f_Waves_run_l44e_b_w (v1 : Int32) (v2 : Int32) (v4 : Int32) (h : zm_H) : zWr [34, 35] [] h ((f_Waves_run_l44e_b v1 v2 v4 h).2.2) := by
  unfold f_Waves_run_l44e_b
  exact (zWr_ite (fun z : Nat × Int32 × zm_H => z.2.2) (zWr.refl _ _) (zWr_ite (fun z : Nat × Int32 × zm_H => z.2.2) (zWr_tr (f_Waves_run_l44e_k82_w v1 v2 v4 h) (by decide) (by decide) (zWr.refl _ _)) (zWr_tr (f_Waves_run_l44e_k82_w v1 v2 v4 (f_Waves_take (zr h 33 ((v4 * 10) + 4)) v4 ((zm_rm v1 1000) / 10) h)) (by decide) (by decide) (zWr_tr (f_Waves_take_w (zr h 33 ((v4 * 10) + 4)) v4 ((zm_rm v1 1000) / 10) h) (by decide) (by decide) (zWr.refl _ _)))))
def f_Waves_run_l44e (v1 : Int32) (v2 : Int32) (n : Nat) (t : Int32 × zm_H) : Nat × Int32 × zm_H := zwh (fun t => f_Waves_run_l44e_b v1 v2 t.1 t.2) n t
def f_Waves_run_l44e_ok (v1 : Int32) (v2 : Int32) (n : Nat) (t : Int32 × zm_H) : Prop := zwo (fun t => f_Waves_run_l44e_b v1 v2 t.1 t.2) (fun t => f_Waves_run_l44e_b_ok v1 v2 t.1 t.2) n t
theorem f_Waves_run_l44e_w (v1 : Int32) (v2 : Int32) (n : Nat) (t : Int32 × zm_H) : zWr [34, 35] [] (t.2) ((f_Waves_run_l44e v1 v2 n t).2.2) := by
  unfold f_Waves_run_l44e
  exact zWr_zwh (fun t : Int32 × zm_H => t.2) (fun t => f_Waves_run_l44e_b_w v1 v2 t.1 t.2)
def f_Waves_run_k88e (v1 : Int32) (v2 : Int32) (h : zm_H) : zm_H := h
def f_Waves_run_k88e_ok (v1 : Int32) (v2 : Int32) (h : zm_H) : Prop := True
theorem f_Waves_run_k88e_w (v1 : Int32) (v2 : Int32) (h : zm_H) : zWr [] [] h ((f_Waves_run_k88e v1 v2 h)) := by
  unfold f_Waves_run_k88e
  exact (zWr.refl _ _)
def f_Waves_run_a44_4 (v1 : Int32) (v2 : Int32) (r : Nat × Int32 × zm_H) : zm_H := (f_Waves_run_k88e v1 v2 (r.2.2))
def f_Waves_run_a44_4_ok (v1 : Int32) (v2 : Int32) (r : Nat × Int32 × zm_H) : Prop := True
theorem f_Waves_run_a44_4_w (v1 : Int32) (v2 : Int32) (r : Nat × Int32 × zm_H) : zWr [] [] (r.2.2) ((f_Waves_run_a44_4 v1 v2 r)) := by
  unfold f_Waves_run_a44_4
  exact (zWr_tr (f_Waves_run_k88e_w v1 v2 (r.2.2)) (by decide) (by decide) (zWr.refl _ _))
def f_Waves_run_k41e (v1 : Int32) (v2 : Int32) (h : zm_H) : zm_H := (f_Waves_run_a44_4 v1 v2 (f_Waves_run_l44e v1 v2 zF (0, h)))
def f_Waves_run_k41e_ok (v1 : Int32) (v2 : Int32) (h : zm_H) : Prop := (f_Waves_run_l44e_ok v1 v2 zF (0, h) ∧ f_Waves_run_a44_4_ok v1 v2 (f_Waves_run_l44e v1 v2 zF (0, h)))
theorem f_Waves_run_k41e_w (v1 : Int32) (v2 : Int32) (h : zm_H) : zWr [34, 35] [] h ((f_Waves_run_k41e v1 v2 h)) := by
  unfold f_Waves_run_k41e
  exact (zWr_tr (f_Waves_run_a44_4_w v1 v2 (f_Waves_run_l44e v1 v2 zF (0, h))) (by decide) (by decide) (zWr_tr (f_Waves_run_l44e_w v1 v2 zF (0, h)) (by decide) (by decide) (zWr.refl _ _)))
def f_Waves_run_k88d (v1 : Int32) (v2 : Int32) (h : zm_H) : zm_H := (f_Waves_run_k41e v1 v2 (f_Waves_goAside_s ((zm_rm v1 10) - 1) v2 h))
def f_Waves_run_k88d_ok (v1 : Int32) (v2 : Int32) (h : zm_H) : Prop := (f_Waves_goAside_s_ok ((zm_rm v1 10) - 1) v2 h ∧ (f_Waves_run_k41e_ok v1 v2 (f_Waves_goAside_s ((zm_rm v1 10) - 1) v2 h)))
theorem f_Waves_run_k88d_w (v1 : Int32) (v2 : Int32) (h : zm_H) : zWr [32, 34, 35] [] h ((f_Waves_run_k88d v1 v2 h)) := by
  unfold f_Waves_run_k88d
  exact (zWr_tr (f_Waves_run_k41e_w v1 v2 (f_Waves_goAside_s ((zm_rm v1 10) - 1) v2 h)) (by decide) (by decide) (zWr_tr (f_Waves_goAside_s_w ((zm_rm v1 10) - 1) v2 h) (by decide) (by decide) (zWr.refl _ _)))
def f_Waves_run_a44_3 (v1 : Int32) (v2 : Int32) (r : Nat × Int32 × zm_H) : zm_H := (f_Waves_run_k88d v1 v2 (r.2.2))
def f_Waves_run_a44_3_ok (v1 : Int32) (v2 : Int32) (r : Nat × Int32 × zm_H) : Prop := (f_Waves_run_k88d_ok v1 v2 (r.2.2))
theorem f_Waves_run_a44_3_w (v1 : Int32) (v2 : Int32) (r : Nat × Int32 × zm_H) : zWr [32, 34, 35] [] (r.2.2) ((f_Waves_run_a44_3 v1 v2 r)) := by
  unfold f_Waves_run_a44_3
  exact (zWr_tr (f_Waves_run_k88d_w v1 v2 (r.2.2)) (by decide) (by decide) (zWr.refl _ _))
def f_Waves_run_k41d (v1 : Int32) (v2 : Int32) (h : zm_H) : zm_H := (f_Waves_run_a44_3 v1 v2 (f_Waves_run_l44d v1 v2 zF (0, h)))
def f_Waves_run_k41d_ok (v1 : Int32) (v2 : Int32) (h : zm_H) : Prop := (f_Waves_run_l44d_ok v1 v2 zF (0, h) ∧ f_Waves_run_a44_3_ok v1 v2 (f_Waves_run_l44d v1 v2 zF (0, h)))
theorem f_Waves_run_k41d_w (v1 : Int32) (v2 : Int32) (h : zm_H) : zWr [32, 34, 35, 36] [] h ((f_Waves_run_k41d v1 v2 h)) := by
  unfold f_Waves_run_k41d
  exact (zWr_tr (f_Waves_run_a44_3_w v1 v2 (f_Waves_run_l44d v1 v2 zF (0, h))) (by decide) (by decide) (zWr_tr (f_Waves_run_l44d_w v1 v2 zF (0, h)) (by decide) (by decide) (zWr.refl _ _)))
def f_Waves_run_k88c (v1 : Int32) (v2 : Int32) (h : zm_H) : zm_H := (f_Waves_run_k41d v1 v2 (f_Waves_goAside ((zm_rm v1 10) - 1) v2 h))
def f_Waves_run_k88c_ok (v1 : Int32) (v2 : Int32) (h : zm_H) : Prop := (f_Waves_goAside_ok ((zm_rm v1 10) - 1) v2 h ∧ (f_Waves_run_k41d_ok v1 v2 (f_Waves_goAside ((zm_rm v1 10) - 1) v2 h)))
theorem f_Waves_run_k88c_w (v1 : Int32) (v2 : Int32) (h : zm_H) : zWr [32, 34, 35, 36] [] h ((f_Waves_run_k88c v1 v2 h)) := by
  unfold f_Waves_run_k88c
  exact (zWr_tr (f_Waves_run_k41d_w v1 v2 (f_Waves_goAside ((zm_rm v1 10) - 1) v2 h)) (by decide) (by decide) (zWr_tr (f_Waves_goAside_w ((zm_rm v1 10) - 1) v2 h) (by decide) (by decide) (zWr.refl _ _)))
def f_Waves_run_a44_2 (v1 : Int32) (v2 : Int32) (r : Nat × Int32 × zm_H) : zm_H := (f_Waves_run_k88c v1 v2 (r.2.2))
def f_Waves_run_a44_2_ok (v1 : Int32) (v2 : Int32) (r : Nat × Int32 × zm_H) : Prop := (f_Waves_run_k88c_ok v1 v2 (r.2.2))
theorem f_Waves_run_a44_2_w (v1 : Int32) (v2 : Int32) (r : Nat × Int32 × zm_H) : zWr [32, 34, 35, 36] [] (r.2.2) ((f_Waves_run_a44_2 v1 v2 r)) := by
  unfold f_Waves_run_a44_2
  exact (zWr_tr (f_Waves_run_k88c_w v1 v2 (r.2.2)) (by decide) (by decide) (zWr.refl _ _))
def f_Waves_run_k41c (v1 : Int32) (v2 : Int32) (h : zm_H) : zm_H := (f_Waves_run_a44_2 v1 v2 (f_Waves_run_l44c v1 v2 zF (0, h)))
def f_Waves_run_k41c_ok (v1 : Int32) (v2 : Int32) (h : zm_H) : Prop := (f_Waves_run_l44c_ok v1 v2 zF (0, h) ∧ f_Waves_run_a44_2_ok v1 v2 (f_Waves_run_l44c v1 v2 zF (0, h)))
theorem f_Waves_run_k41c_w (v1 : Int32) (v2 : Int32) (h : zm_H) : zWr [32, 34, 35, 36] [] h ((f_Waves_run_k41c v1 v2 h)) := by
  unfold f_Waves_run_k41c
  exact (zWr_tr (f_Waves_run_a44_2_w v1 v2 (f_Waves_run_l44c v1 v2 zF (0, h))) (by decide) (by decide) (zWr_tr (f_Waves_run_l44c_w v1 v2 zF (0, h)) (by decide) (by decide) (zWr.refl _ _)))
def f_Waves_run_k88b (v1 : Int32) (v2 : Int32) (h : zm_H) : zm_H := (f_Waves_run_k41c v1 v2 (f_Waves_goAside_s ((zm_rm v1 10) - 1) v2 h))
def f_Waves_run_k88b_ok (v1 : Int32) (v2 : Int32) (h : zm_H) : Prop := (f_Waves_goAside_s_ok ((zm_rm v1 10) - 1) v2 h ∧ (f_Waves_run_k41c_ok v1 v2 (f_Waves_goAside_s ((zm_rm v1 10) - 1) v2 h)))
theorem f_Waves_run_k88b_w (v1 : Int32) (v2 : Int32) (h : zm_H) : zWr [32, 34, 35, 36] [] h ((f_Waves_run_k88b v1 v2 h)) := by
  unfold f_Waves_run_k88b
  exact (zWr_tr (f_Waves_run_k41c_w v1 v2 (f_Waves_goAside_s ((zm_rm v1 10) - 1) v2 h)) (by decide) (by decide) (zWr_tr (f_Waves_goAside_s_w ((zm_rm v1 10) - 1) v2 h) (by decide) (by decide) (zWr.refl _ _)))
def f_Waves_run_a44_1 (v1 : Int32) (v2 : Int32) (r : Nat × Int32 × zm_H) : zm_H := (f_Waves_run_k88b v1 v2 (r.2.2))
def f_Waves_run_a44_1_ok (v1 : Int32) (v2 : Int32) (r : Nat × Int32 × zm_H) : Prop := (f_Waves_run_k88b_ok v1 v2 (r.2.2))
theorem f_Waves_run_a44_1_w (v1 : Int32) (v2 : Int32) (r : Nat × Int32 × zm_H) : zWr [32, 34, 35, 36] [] (r.2.2) ((f_Waves_run_a44_1 v1 v2 r)) := by
  unfold f_Waves_run_a44_1
  exact (zWr_tr (f_Waves_run_k88b_w v1 v2 (r.2.2)) (by decide) (by decide) (zWr.refl _ _))
def f_Waves_run_k41b (v1 : Int32) (v2 : Int32) (h : zm_H) : zm_H := (f_Waves_run_a44_1 v1 v2 (f_Waves_run_l44b v1 v2 zF (0, h)))
def f_Waves_run_k41b_ok (v1 : Int32) (v2 : Int32) (h : zm_H) : Prop := (f_Waves_run_l44b_ok v1 v2 zF (0, h) ∧ f_Waves_run_a44_1_ok v1 v2 (f_Waves_run_l44b v1 v2 zF (0, h)))
theorem f_Waves_run_k41b_w (v1 : Int32) (v2 : Int32) (h : zm_H) : zWr [32, 34, 35, 36] [] h ((f_Waves_run_k41b v1 v2 h)) := by
  unfold f_Waves_run_k41b
  exact (zWr_tr (f_Waves_run_a44_1_w v1 v2 (f_Waves_run_l44b v1 v2 zF (0, h))) (by decide) (by decide) (zWr_tr (f_Waves_run_l44b_w v1 v2 zF (0, h)) (by decide) (by decide) (zWr.refl _ _)))
def f_Waves_run_k88 (v1 : Int32) (v2 : Int32) (h : zm_H) : zm_H := (f_Waves_run_k41b v1 v2 (f_Waves_goAside ((zm_rm v1 10) - 1) v2 h))
def f_Waves_run_k88_ok (v1 : Int32) (v2 : Int32) (h : zm_H) : Prop := (f_Waves_goAside_ok ((zm_rm v1 10) - 1) v2 h ∧ (f_Waves_run_k41b_ok v1 v2 (f_Waves_goAside ((zm_rm v1 10) - 1) v2 h)))
theorem f_Waves_run_k88_w (v1 : Int32) (v2 : Int32) (h : zm_H) : zWr [32, 34, 35, 36] [] h ((f_Waves_run_k88 v1 v2 h)) := by
  unfold f_Waves_run_k88
  exact (zWr_tr (f_Waves_run_k41b_w v1 v2 (f_Waves_goAside ((zm_rm v1 10) - 1) v2 h)) (by decide) (by decide) (zWr_tr (f_Waves_goAside_w ((zm_rm v1 10) - 1) v2 h) (by decide) (by decide) (zWr.refl _ _)))
def f_Waves_run_a44 (v1 : Int32) (v2 : Int32) (r : Nat × Int32 × zm_H) : zm_H := (f_Waves_run_k88 v1 v2 (r.2.2))
def f_Waves_run_a44_ok (v1 : Int32) (v2 : Int32) (r : Nat × Int32 × zm_H) : Prop := (f_Waves_run_k88_ok v1 v2 (r.2.2))
theorem f_Waves_run_a44_w (v1 : Int32) (v2 : Int32) (r : Nat × Int32 × zm_H) : zWr [32, 34, 35, 36] [] (r.2.2) ((f_Waves_run_a44 v1 v2 r)) := by
  unfold f_Waves_run_a44
  exact (zWr_tr (f_Waves_run_k88_w v1 v2 (r.2.2)) (by decide) (by decide) (zWr.refl _ _))
def f_Waves_run_k41 (v1 : Int32) (v2 : Int32) (h : zm_H) : zm_H := (f_Waves_run_a44 v1 v2 (f_Waves_run_l44 v1 v2 zF (0, h)))
def f_Waves_run_k41_ok (v1 : Int32) (v2 : Int32) (h : zm_H) : Prop := (f_Waves_run_l44_ok v1 v2 zF (0, h) ∧ f_Waves_run_a44_ok v1 v2 (f_Waves_run_l44 v1 v2 zF (0, h)))
theorem f_Waves_run_k41_w (v1 : Int32) (v2 : Int32) (h : zm_H) : zWr [32, 34, 35, 36] [] h ((f_Waves_run_k41 v1 v2 h)) := by
  unfold f_Waves_run_k41
  exact (zWr_tr (f_Waves_run_a44_w v1 v2 (f_Waves_run_l44 v1 v2 zF (0, h))) (by decide) (by decide) (zWr_tr (f_Waves_run_l44_w v1 v2 zF (0, h)) (by decide) (by decide) (zWr.refl _ _)))
def f_Waves_run_k21 (v1 : Int32) (v2 : Int32) (h : zm_H) : zm_H := (f_Waves_run_k41 v1 v2 h)
def f_Waves_run_k21_ok (v1 : Int32) (v2 : Int32) (h : zm_H) : Prop := (f_Waves_run_k41_ok v1 v2 h)
theorem f_Waves_run_k21_w (v1 : Int32) (v2 : Int32) (h : zm_H) : zWr [32, 34, 35, 36] [] h ((f_Waves_run_k21 v1 v2 h)) := by
  unfold f_Waves_run_k21
  exact (zWr_tr (f_Waves_run_k41_w v1 v2 h) (by decide) (by decide) (zWr.refl _ _))
def f_Waves_run_k13 (v1 : Int32) (v2 : Int32) (h : zm_H) : zm_H := (f_Waves_run_k21 v1 v2 (f_Arrays_fill_35 v2 h))
def f_Waves_run_k13_ok (v1 : Int32) (v2 : Int32) (h : zm_H) : Prop := (f_Arrays_fill_35_ok v2 h ∧ (f_Waves_run_k21_ok v1 v2 (f_Arrays_fill_35 v2 h)))
theorem f_Waves_run_k13_w (v1 : Int32) (v2 : Int32) (h : zm_H) : zWr [32, 34, 35, 36] [] h ((f_Waves_run_k13 v1 v2 h)) := by
  unfold f_Waves_run_k13
  exact (zWr_tr (f_Waves_run_k21_w v1 v2 (f_Arrays_fill_35 v2 h)) (by decide) (by decide) (zWr_tr (f_Arrays_fill_35_w v2 h) (by decide) (by decide) (zWr.refl _ _)))
def f_Waves_run (p1 : Int32) (h : zm_H) : zm_H := (f_Waves_run_k13 p1 (((p1 / 1000) * (p1 / 1000)) * ((zm_rm p1 1000) / 10)) (f_Arrays_fill_34 0 h))
def f_Waves_run_ok (p1 : Int32) (h : zm_H) : Prop := (f_Arrays_fill_34_ok 0 h ∧ (f_Waves_run_k13_ok p1 (((p1 / 1000) * (p1 / 1000)) * ((zm_rm p1 1000) / 10)) (f_Arrays_fill_34 0 h)))
theorem f_Waves_run_w (p1 : Int32) (h : zm_H) : zWr [32, 34, 35, 36] [] h ((f_Waves_run p1 h)) := by
  unfold f_Waves_run
  exact (zWr_tr (f_Waves_run_k13_w p1 (((p1 / 1000) * (p1 / 1000)) * ((zm_rm p1 1000) / 10)) (f_Arrays_fill_34 0 h)) (by decide) (by decide) (zWr_tr (f_Arrays_fill_34_w 0 h) (by decide) (by decide) (zWr.refl _ _)))
def f_Course_leak_37 (p1 : Int32) (h : zm_H) : Int32 := (if ((zr h 40 p1) / 16) < 100 then ((zr h 40 p1) / 16) else 100)
def f_Course_leak_37_ok (p1 : Int32) (h : zm_H) : Prop := vp_in p1 10
def f_Course_powerFrom_37 (p1 : Int32) (p2 : Int32) (h : zm_H) : Int32 := ((p1 * (100 - (f_Course_leak_37 p2 h))) / 100)
def f_Course_powerFrom_37_ok (p1 : Int32) (p2 : Int32) (h : zm_H) : Prop := f_Course_leak_37_ok p2 h
def f_Course_takeWaves_37_l25_b (v1 : Int32) (v3 : Int32) (h : zm_H) : Nat × Int32 × zm_H := (if ((zf h 23 0) ≤ v3) then (1, v3, h) else (0, (v3 + 1), (zs (zs (zs (zs h 41 v3 (f_Course_powerFrom_37 (zr h 34 v3) v3 h)) 40 v3 ((zr h 40 v3) + (if (¬ ((zr h 34 v3) ≤ 0)) then (1 : Int32) else 0))) 42 v3 ((zr h 42 v3) + (zr (zs h 41 v3 (f_Course_powerFrom_37 (zr h 34 v3) v3 h)) 41 v3))) 47 v1 ((zr h 47 v1) + (zr (zs h 41 v3 (f_Course_powerFrom_37 (zr h 34 v3) v3 h)) 41 v3)))))
def f_Course_takeWaves_37_l25_b_ok (v1 : Int32) (v3 : Int32) (h : zm_H) : Prop := ((((zf h 23 0) ≤ v3) → True) ∧ (¬ ((zf h 23 0) ≤ v3) → (vp_in v3 10 ∧ (f_Course_powerFrom_37_ok (zr h 34 v3) v3 h ∧ (vp_in v3 10 ∧ (vp_in v3 10 ∧ (vp_in v3 10 ∧ (vp_in v3 10 ∧ (vp_in v3 10 ∧ (vp_in v3 10 ∧ (vp_in v3 10 ∧ (vp_in v1 480 ∧ (vp_in v3 10 ∧ vp_in v1 480)))))))))))))
theorem f_Course_takeWaves_37_l25_b_w (v1 : Int32) (v3 : Int32) (h : zm_H) : zWr [40, 41, 42, 47] [] h ((f_Course_takeWaves_37_l25_b v1 v3 h).2.2) := by
  unfold f_Course_takeWaves_37_l25_b
  exact (zWr_ite (fun z : Nat × Int32 × zm_H => z.2.2) (zWr.refl _ _) (zWr_si (by decide) (zWr_si (by decide) (zWr_si (by decide) (zWr_si (by decide) (zWr.refl _ _))))))
def f_Course_takeWaves_37_l25 (v1 : Int32) (n : Nat) (t : Int32 × zm_H) : Nat × Int32 × zm_H := zwh (fun t => f_Course_takeWaves_37_l25_b v1 t.1 t.2) n t
def f_Course_takeWaves_37_l25_ok (v1 : Int32) (n : Nat) (t : Int32 × zm_H) : Prop := zwo (fun t => f_Course_takeWaves_37_l25_b v1 t.1 t.2) (fun t => f_Course_takeWaves_37_l25_b_ok v1 t.1 t.2) n t
theorem f_Course_takeWaves_37_l25_w (v1 : Int32) (n : Nat) (t : Int32 × zm_H) : zWr [40, 41, 42, 47] [] (t.2) ((f_Course_takeWaves_37_l25 v1 n t).2.2) := by
  unfold f_Course_takeWaves_37_l25
  exact zWr_zwh (fun t : Int32 × zm_H => t.2) (fun t => f_Course_takeWaves_37_l25_b_w v1 t.1 t.2)
def f_Course_takeWaves_37_k118 (v1 : Int32) (h : zm_H) : zm_H := (zcp h 35 0 49 (v1 * 10) 10)
def f_Course_takeWaves_37_k118_ok (v1 : Int32) (h : zm_H) : Prop := (¬ (0 : Int32) < 0 ∧ ¬ ((v1 * 10) : Int32) < 0 ∧ ¬ (10 : Int32) < 0 ∧ Int32.toNatClampNeg 0 + Int32.toNatClampNeg 10 ≤ 10 ∧ Int32.toNatClampNeg (v1 * 10) + Int32.toNatClampNeg 10 ≤ 4800)
theorem f_Course_takeWaves_37_k118_w (v1 : Int32) (h : zm_H) : zWr [49] [] h ((f_Course_takeWaves_37_k118 v1 h)) := by
  unfold f_Course_takeWaves_37_k118
  exact (zWr_cp (by decide) (zWr.refl _ _))
def f_Course_takeWaves_37_a25 (v1 : Int32) (r : Nat × Int32 × zm_H) : zm_H := (f_Course_takeWaves_37_k118 v1 (r.2.2))
def f_Course_takeWaves_37_a25_ok (v1 : Int32) (r : Nat × Int32 × zm_H) : Prop := (f_Course_takeWaves_37_k118_ok v1 (r.2.2))
theorem f_Course_takeWaves_37_a25_w (v1 : Int32) (r : Nat × Int32 × zm_H) : zWr [49] [] (r.2.2) ((f_Course_takeWaves_37_a25 v1 r)) := by
  unfold f_Course_takeWaves_37_a25
  exact (zWr_tr (f_Course_takeWaves_37_k118_w v1 (r.2.2)) (by decide) (by decide) (zWr.refl _ _))
def f_Course_takeWaves_37_k16 (v1 : Int32) (h : zm_H) : zm_H := (f_Course_takeWaves_37_a25 v1 (f_Course_takeWaves_37_l25 v1 zF (0, (zs h 47 v1 0))))
def f_Course_takeWaves_37_k16_ok (v1 : Int32) (h : zm_H) : Prop := (vp_in v1 480 ∧ (f_Course_takeWaves_37_l25_ok v1 zF (0, (zs h 47 v1 0)) ∧ f_Course_takeWaves_37_a25_ok v1 (f_Course_takeWaves_37_l25 v1 zF (0, (zs h 47 v1 0)))))
theorem f_Course_takeWaves_37_k16_w (v1 : Int32) (h : zm_H) : zWr [40, 41, 42, 47, 49] [] h ((f_Course_takeWaves_37_k16 v1 h)) := by
  unfold f_Course_takeWaves_37_k16
  exact (zWr_tr (f_Course_takeWaves_37_a25_w v1 (f_Course_takeWaves_37_l25 v1 zF (0, (zs h 47 v1 0)))) (by decide) (by decide) (zWr_tr (f_Course_takeWaves_37_l25_w v1 zF (0, (zs h 47 v1 0))) (by decide) (by decide) (zWr_si (by decide) (zWr.refl _ _))))
def f_Course_takeWaves_37_k8 (v1 : Int32) (v2 : Int32) (h : zm_H) : zm_H := (f_Course_takeWaves_37_k16 v1 (f_Waves_run v2 h))
def f_Course_takeWaves_37_k8_ok (v1 : Int32) (v2 : Int32) (h : zm_H) : Prop := (f_Waves_run_ok v2 h ∧ (f_Course_takeWaves_37_k16_ok v1 (f_Waves_run v2 h)))
theorem f_Course_takeWaves_37_k8_w (v1 : Int32) (v2 : Int32) (h : zm_H) : zWr [32, 34, 35, 36, 40, 41, 42, 47, 49] [] h ((f_Course_takeWaves_37_k8 v1 v2 h)) := by
  unfold f_Course_takeWaves_37_k8
  exact (zWr_tr (f_Course_takeWaves_37_k16_w v1 (f_Waves_run v2 h)) (by decide) (by decide) (zWr_tr (f_Waves_run_w v2 h) (by decide) (by decide) (zWr.refl _ _)))
def f_Course_takeWaves_37 (p1 : Int32) (p2 : Int32) (h : zm_H) : zm_H := (f_Course_takeWaves_37_k8 p1 p2 (f_Course_putInto_37 h))
def f_Course_takeWaves_37_ok (p1 : Int32) (p2 : Int32) (h : zm_H) : Prop := (f_Course_putInto_37_ok h ∧ (f_Course_takeWaves_37_k8_ok p1 p2 (f_Course_putInto_37 h)))
theorem f_Course_takeWaves_37_w (p1 : Int32) (p2 : Int32) (h : zm_H) : zWr [32, 33, 34, 35, 36, 40, 41, 42, 47, 49] [] h ((f_Course_takeWaves_37 p1 p2 h)) := by
  unfold f_Course_takeWaves_37
  exact (zWr_tr (f_Course_takeWaves_37_k8_w p1 p2 (f_Course_putInto_37 h)) (by decide) (by decide) (zWr_tr (f_Course_putInto_37_w h) (by decide) (by decide) (zWr.refl _ _)))
def f_Course_strainChains_37_l2_k103 (v1 : Int32) (v2 : Int32) (v3 : Int32) (h : zm_H) : Nat × Int32 × zm_H := (0, (v3 + 1), h)
def f_Course_strainChains_37_l2_k103_ok (v1 : Int32) (v2 : Int32) (v3 : Int32) (h : zm_H) : Prop := True
theorem f_Course_strainChains_37_l2_k103_w (v1 : Int32) (v2 : Int32) (v3 : Int32) (h : zm_H) : zWr [] [] h ((f_Course_strainChains_37_l2_k103 v1 v2 v3 h).2.2) := by
  unfold f_Course_strainChains_37_l2_k103
  exact (zWr.refl _ _)
def f_Course_weight_37 (p1 : Int32) (p2 : Int32) (p3 : Int32) (h : zm_H) : Int32 := (if ((f_Course_holds_37 ((p1 * 3) + p2) h) = 0) then (0 : Int32) else (zm_wt (((p3 + 1) * 3) + p2).toNatClampNeg))
def f_Course_weight_37_ok (p1 : Int32) (p2 : Int32) (p3 : Int32) (h : zm_H) : Prop := (f_Course_holds_37_ok ((p1 * 3) + p2) h ∧ ((((f_Course_holds_37 ((p1 * 3) + p2) h) = 0) → True) ∧ (¬ ((f_Course_holds_37 ((p1 * 3) + p2) h) = 0) → vp_in (((p3 + 1) * 3) + p2) 9)))
def f_Course_shareLoad_37_l6_b (v1 : Int32) (v2 : Int32) (v3 : Int32) (v4 : Int32) (v5 : Int32) (h : zm_H) : Nat × Int32 × Int32 := (if (3 ≤ v5) then (1, v4, v5) else (0, (v4 + (f_Course_weight_37 v1 v5 v3 h)), (v5 + 1)))
def f_Course_shareLoad_37_l6_b_ok (v1 : Int32) (v2 : Int32) (v3 : Int32) (v4 : Int32) (v5 : Int32) (h : zm_H) : Prop := (((3 ≤ v5) → True) ∧ (¬ (3 ≤ v5) → f_Course_weight_37_ok v1 v5 v3 h))
def f_Course_shareLoad_37_l6 (v1 : Int32) (v2 : Int32) (v3 : Int32) (h : zm_H) (n : Nat) (t : Int32 × Int32) : Nat × Int32 × Int32 := zwh (fun t => f_Course_shareLoad_37_l6_b v1 v2 v3 t.1 t.2 h) n t
def f_Course_shareLoad_37_l6_ok (v1 : Int32) (v2 : Int32) (v3 : Int32) (h : zm_H) (n : Nat) (t : Int32 × Int32) : Prop := zwo (fun t => f_Course_shareLoad_37_l6_b v1 v2 v3 t.1 t.2 h) (fun t => f_Course_shareLoad_37_l6_b_ok v1 v2 v3 t.1 t.2 h) n t
def f_Course_shareLoad_37_l34_b (v1 : Int32) (v2 : Int32) (v3 : Int32) (v4 : Int32) (v5 : Int32) (h : zm_H) : Nat × Int32 × zm_H := (if (3 ≤ v5) then (1, v5, h) else (0, (v5 + 1), (zs h 46 v5 (if (v4 = 0) then (0 : Int32) else ((v2 * (f_Course_weight_37 v1 v5 v3 h)) / v4)))))
def f_Course_shareLoad_37_l34_b_ok (v1 : Int32) (v2 : Int32) (v3 : Int32) (v4 : Int32) (v5 : Int32) (h : zm_H) : Prop := (((3 ≤ v5) → True) ∧ (¬ (3 ≤ v5) → ((((v4 = 0) → True) ∧ (¬ (v4 = 0) → (f_Course_weight_37_ok v1 v5 v3 h ∧ ¬ v4 = 0))) ∧ vp_in v5 3)))
theorem f_Course_shareLoad_37_l34_b_w (v1 : Int32) (v2 : Int32) (v3 : Int32) (v4 : Int32) (v5 : Int32) (h : zm_H) : zWr [46] [] h ((f_Course_shareLoad_37_l34_b v1 v2 v3 v4 v5 h).2.2) := by
  unfold f_Course_shareLoad_37_l34_b
  exact (zWr_ite (fun z : Nat × Int32 × zm_H => z.2.2) (zWr.refl _ _) (zWr_si (by decide) (zWr.refl _ _)))
def f_Course_shareLoad_37_l34 (v1 : Int32) (v2 : Int32) (v3 : Int32) (v4 : Int32) (n : Nat) (t : Int32 × zm_H) : Nat × Int32 × zm_H := zwh (fun t => f_Course_shareLoad_37_l34_b v1 v2 v3 v4 t.1 t.2) n t
def f_Course_shareLoad_37_l34_ok (v1 : Int32) (v2 : Int32) (v3 : Int32) (v4 : Int32) (n : Nat) (t : Int32 × zm_H) : Prop := zwo (fun t => f_Course_shareLoad_37_l34_b v1 v2 v3 v4 t.1 t.2) (fun t => f_Course_shareLoad_37_l34_b_ok v1 v2 v3 v4 t.1 t.2) n t
theorem f_Course_shareLoad_37_l34_w (v1 : Int32) (v2 : Int32) (v3 : Int32) (v4 : Int32) (n : Nat) (t : Int32 × zm_H) : zWr [46] [] (t.2) ((f_Course_shareLoad_37_l34 v1 v2 v3 v4 n t).2.2) := by
  unfold f_Course_shareLoad_37_l34
  exact zWr_zwh (fun t : Int32 × zm_H => t.2) (fun t => f_Course_shareLoad_37_l34_b_w v1 v2 v3 v4 t.1 t.2)
def f_Course_shareLoad_37_k75 (h : zm_H) : zm_H := h
def f_Course_shareLoad_37_k75_ok (h : zm_H) : Prop := True
theorem f_Course_shareLoad_37_k75_w (h : zm_H) : zWr [] [] h ((f_Course_shareLoad_37_k75 h)) := by
  unfold f_Course_shareLoad_37_k75
  exact (zWr.refl _ _)
def f_Course_shareLoad_37_a34 (r : Nat × Int32 × zm_H) : zm_H := (f_Course_shareLoad_37_k75 (r.2.2))
def f_Course_shareLoad_37_a34_ok (r : Nat × Int32 × zm_H) : Prop := True
theorem f_Course_shareLoad_37_a34_w (r : Nat × Int32 × zm_H) : zWr [] [] (r.2.2) ((f_Course_shareLoad_37_a34 r)) := by
  unfold f_Course_shareLoad_37_a34
  exact (zWr_tr (f_Course_shareLoad_37_k75_w (r.2.2)) (by decide) (by decide) (zWr.refl _ _))
def f_Course_shareLoad_37_k31 (v1 : Int32) (v2 : Int32) (v3 : Int32) (v4 : Int32) (h : zm_H) : zm_H := (f_Course_shareLoad_37_a34 (f_Course_shareLoad_37_l34 v1 v2 v3 v4 zF (0, h)))
def f_Course_shareLoad_37_k31_ok (v1 : Int32) (v2 : Int32) (v3 : Int32) (v4 : Int32) (h : zm_H) : Prop := (f_Course_shareLoad_37_l34_ok v1 v2 v3 v4 zF (0, h) ∧ f_Course_shareLoad_37_a34_ok (f_Course_shareLoad_37_l34 v1 v2 v3 v4 zF (0, h)))
theorem f_Course_shareLoad_37_k31_w (v1 : Int32) (v2 : Int32) (v3 : Int32) (v4 : Int32) (h : zm_H) : zWr [46] [] h ((f_Course_shareLoad_37_k31 v1 v2 v3 v4 h)) := by
  unfold f_Course_shareLoad_37_k31
  exact (zWr_tr (f_Course_shareLoad_37_a34_w (f_Course_shareLoad_37_l34 v1 v2 v3 v4 zF (0, h))) (by decide) (by decide) (zWr_tr (f_Course_shareLoad_37_l34_w v1 v2 v3 v4 zF (0, h)) (by decide) (by decide) (zWr.refl _ _)))
def f_Course_shareLoad_37_a6 (v1 : Int32) (v2 : Int32) (v3 : Int32) (r : Nat × Int32 × Int32) (h : zm_H) : zm_H := (f_Course_shareLoad_37_k31 v1 v2 v3 (r.2.1) h)
def f_Course_shareLoad_37_a6_ok (v1 : Int32) (v2 : Int32) (v3 : Int32) (r : Nat × Int32 × Int32) (h : zm_H) : Prop := (f_Course_shareLoad_37_k31_ok v1 v2 v3 (r.2.1) h)
theorem f_Course_shareLoad_37_a6_w (v1 : Int32) (v2 : Int32) (v3 : Int32) (r : Nat × Int32 × Int32) (h : zm_H) : zWr [46] [] h ((f_Course_shareLoad_37_a6 v1 v2 v3 r h)) := by
  unfold f_Course_shareLoad_37_a6
  exact (zWr_tr (f_Course_shareLoad_37_k31_w v1 v2 v3 (r.2.1) h) (by decide) (by decide) (zWr.refl _ _))
def f_Course_shareLoad_37 (p1 : Int32) (p2 : Int32) (p3 : Int32) (h : zm_H) : zm_H := (f_Course_shareLoad_37_a6 p1 p2 p3 (f_Course_shareLoad_37_l6 p1 p2 p3 h zF (0, 0)) h)
def f_Course_shareLoad_37_ok (p1 : Int32) (p2 : Int32) (p3 : Int32) (h : zm_H) : Prop := (f_Course_shareLoad_37_l6_ok p1 p2 p3 h zF (0, 0) ∧ f_Course_shareLoad_37_a6_ok p1 p2 p3 (f_Course_shareLoad_37_l6 p1 p2 p3 h zF (0, 0)) h)
theorem f_Course_shareLoad_37_w (p1 : Int32) (p2 : Int32) (p3 : Int32) (h : zm_H) : zWr [46] [] h ((f_Course_shareLoad_37 p1 p2 p3 h)) := by
  unfold f_Course_shareLoad_37
  exact (zWr_tr (f_Course_shareLoad_37_a6_w p1 p2 p3 (f_Course_shareLoad_37_l6 p1 p2 p3 h zF (0, 0)) h) (by decide) (by decide) (zWr.refl _ _))
def f_Course_strain_37 (p1 : Int32) (p2 : Int32) (p3 : Int32) (h : zm_H) : zm_H := (if ((f_Course_holds_37 p1 h) = 0) then h else (if (p2 ≤ (f_Course_hold_37 p1 h)) then (zs h 44 p1 ((zr h 44 p1) + (if 0 < (p2 - 100) then (p2 - 100) else 0))) else (zs h 45 p1 p3)))
def f_Course_strain_37_ok (p1 : Int32) (p2 : Int32) (p3 : Int32) (h : zm_H) : Prop := (f_Course_holds_37_ok p1 h ∧ ((((f_Course_holds_37 p1 h) = 0) → True) ∧ (¬ ((f_Course_holds_37 p1 h) = 0) → (f_Course_hold_37_ok p1 h ∧ (((p2 ≤ (f_Course_hold_37 p1 h)) → (vp_in p1 30 ∧ vp_in p1 30)) ∧ (¬ (p2 ≤ (f_Course_hold_37 p1 h)) → vp_in p1 30))))))
theorem f_Course_strain_37_w (p1 : Int32) (p2 : Int32) (p3 : Int32) (h : zm_H) : zWr [44, 45] [] h ((f_Course_strain_37 p1 p2 p3 h)) := by
  unfold f_Course_strain_37
  exact (zWr_ite (fun z : zm_H => z) (zWr.refl _ _) (zWr_ite (fun z : zm_H => z) (zWr_si (by decide) (zWr.refl _ _)) (zWr_si (by decide) (zWr.refl _ _))))
def f_Course_strainChains_37_l2_l51_k75 (v1 : Int32) (v2 : Int32) (v3 : Int32) (v4 : Int32) (h : zm_H) : Nat × Int32 × zm_H := (0, (v4 + 1), h)
def f_Course_strainChains_37_l2_l51_k75_ok (v1 : Int32) (v2 : Int32) (v3 : Int32) (v4 : Int32) (h : zm_H) : Prop := True
theorem f_Course_strainChains_37_l2_l51_k75_w (v1 : Int32) (v2 : Int32) (v3 : Int32) (v4 : Int32) (h : zm_H) : zWr [] [] h ((f_Course_strainChains_37_l2_l51_k75 v1 v2 v3 v4 h).2.2) := by
  unfold f_Course_strainChains_37_l2_l51_k75
  exact (zWr.refl _ _)
def f_Course_strainChains_37_l2_l51_b (v1 : Int32) (v2 : Int32) (v3 : Int32) (v4 : Int32) (h : zm_H) : Nat × Int32 × zm_H := (if (3 ≤ v4) then (1, v4, h) else (f_Course_strainChains_37_l2_l51_k75 v1 v2 v3 v4 (f_Course_strain_37 ((v3 * 3) + v4) (zr h 46 v4) v1 h)))
def f_Course_strainChains_37_l2_l51_b_ok (v1 : Int32) (v2 : Int32) (v3 : Int32) (v4 : Int32) (h : zm_H) : Prop := (((3 ≤ v4) → True) ∧ (¬ (3 ≤ v4) → (vp_in v4 3 ∧ f_Course_strain_37_ok ((v3 * 3) + v4) (zr h 46 v4) v1 h)))
theorem f_Course_strainChains_37_l2_l51_b_w (v1 : Int32) (v2 : Int32) (v3 : Int32) (v4 : Int32) (h : zm_H) : zWr [44, 45] [] h ((f_Course_strainChains_37_l2_l51_b v1 v2 v3 v4 h).2.2) := by
  unfold f_Course_strainChains_37_l2_l51_b
  exact (zWr_ite (fun z : Nat × Int32 × zm_H => z.2.2) (zWr.refl _ _) (zWr_tr (f_Course_strainChains_37_l2_l51_k75_w v1 v2 v3 v4 (f_Course_strain_37 ((v3 * 3) + v4) (zr h 46 v4) v1 h)) (by decide) (by decide) (zWr_tr (f_Course_strain_37_w ((v3 * 3) + v4) (zr h 46 v4) v1 h) (by decide) (by decide) (zWr.refl _ _))))
def f_Course_strainChains_37_l2_l51 (v1 : Int32) (v2 : Int32) (v3 : Int32) (n : Nat) (t : Int32 × zm_H) : Nat × Int32 × zm_H := zwh (fun t => f_Course_strainChains_37_l2_l51_b v1 v2 v3 t.1 t.2) n t
def f_Course_strainChains_37_l2_l51_ok (v1 : Int32) (v2 : Int32) (v3 : Int32) (n : Nat) (t : Int32 × zm_H) : Prop := zwo (fun t => f_Course_strainChains_37_l2_l51_b v1 v2 v3 t.1 t.2) (fun t => f_Course_strainChains_37_l2_l51_b_ok v1 v2 v3 t.1 t.2) n t
theorem f_Course_strainChains_37_l2_l51_w (v1 : Int32) (v2 : Int32) (v3 : Int32) (n : Nat) (t : Int32 × zm_H) : zWr [44, 45] [] (t.2) ((f_Course_strainChains_37_l2_l51 v1 v2 v3 n t).2.2) := by
  unfold f_Course_strainChains_37_l2_l51
  exact zWr_zwh (fun t : Int32 × zm_H => t.2) (fun t => f_Course_strainChains_37_l2_l51_b_w v1 v2 v3 t.1 t.2)
def f_Course_holdBits_37_l4_b (v1 : Int32) (v2 : Int32) (v3 : Int32) (h : zm_H) : Nat × Int32 × Int32 := (if (3 ≤ v3) then (1, v2, v3) else (0, (v2 ||| (if ((f_Course_holds_37 ((v1 * 3) + v3) h) = 0) then (0 : Int32) else (1 <<< (v3 &&& 31)))), (v3 + 1)))
def f_Course_holdBits_37_l4_b_ok (v1 : Int32) (v2 : Int32) (v3 : Int32) (h : zm_H) : Prop := (((3 ≤ v3) → True) ∧ (¬ (3 ≤ v3) → f_Course_holds_37_ok ((v1 * 3) + v3) h))
def f_Course_holdBits_37_l4 (v1 : Int32) (h : zm_H) (n : Nat) (t : Int32 × Int32) : Nat × Int32 × Int32 := zwh (fun t => f_Course_holdBits_37_l4_b v1 t.1 t.2 h) n t
def f_Course_holdBits_37_l4_ok (v1 : Int32) (h : zm_H) (n : Nat) (t : Int32 × Int32) : Prop := zwo (fun t => f_Course_holdBits_37_l4_b v1 t.1 t.2 h) (fun t => f_Course_holdBits_37_l4_b_ok v1 t.1 t.2 h) n t
def f_Course_holdBits_37_k37 (v2 : Int32) (h : zm_H) : Int32 := v2
def f_Course_holdBits_37_k37_ok (v2 : Int32) (h : zm_H) : Prop := True
def f_Course_holdBits_37_a4 (r : Nat × Int32 × Int32) (h : zm_H) : Int32 := (f_Course_holdBits_37_k37 (r.2.1) h)
def f_Course_holdBits_37_a4_ok (r : Nat × Int32 × Int32) (h : zm_H) : Prop := True
def f_Course_holdBits_37 (p1 : Int32) (h : zm_H) : Int32 := (f_Course_holdBits_37_a4 (f_Course_holdBits_37_l4 p1 h zF (0, 0)) h)
def f_Course_holdBits_37_ok (p1 : Int32) (h : zm_H) : Prop := (f_Course_holdBits_37_l4_ok p1 h zF (0, 0) ∧ f_Course_holdBits_37_a4_ok (f_Course_holdBits_37_l4 p1 h zF (0, 0)) h)
def f_Course_strainChains_37_l2_k81 (v1 : Int32) (v2 : Int32) (v3 : Int32) (h : zm_H) : Nat × Int32 × zm_H := (0, (v3 + 1), (if ((f_Course_holdBits_37 v3 h) = 0) then (zs (zs h 38 v3 3) 39 v3 (-1)) else h))
def f_Course_strainChains_37_l2_k81_ok (v1 : Int32) (v2 : Int32) (v3 : Int32) (h : zm_H) : Prop := (f_Course_holdBits_37_ok v3 h ∧ ((((f_Course_holdBits_37 v3 h) = 0) → (vp_in v3 10 ∧ vp_in v3 10)) ∧ (¬ ((f_Course_holdBits_37 v3 h) = 0) → True)))
theorem f_Course_strainChains_37_l2_k81_w (v1 : Int32) (v2 : Int32) (v3 : Int32) (h : zm_H) : zWr [38, 39] [] h ((f_Course_strainChains_37_l2_k81 v1 v2 v3 h).2.2) := by
  unfold f_Course_strainChains_37_l2_k81
  exact (zWr_ite (fun z : zm_H => z) (zWr_si (by decide) (zWr_si (by decide) (zWr.refl _ _))) (zWr.refl _ _))
def f_Course_strainChains_37_l2_a51 (v1 : Int32) (v2 : Int32) (v3 : Int32) (r : Nat × Int32 × zm_H) : Nat × Int32 × zm_H := (f_Course_strainChains_37_l2_k81 v1 v2 v3 (r.2.2))
def f_Course_strainChains_37_l2_a51_ok (v1 : Int32) (v2 : Int32) (v3 : Int32) (r : Nat × Int32 × zm_H) : Prop := (f_Course_strainChains_37_l2_k81_ok v1 v2 v3 (r.2.2))
theorem f_Course_strainChains_37_l2_a51_w (v1 : Int32) (v2 : Int32) (v3 : Int32) (r : Nat × Int32 × zm_H) : zWr [38, 39] [] (r.2.2) ((f_Course_strainChains_37_l2_a51 v1 v2 v3 r).2.2) := by
  unfold f_Course_strainChains_37_l2_a51
  exact (zWr_tr (f_Course_strainChains_37_l2_k81_w v1 v2 v3 (r.2.2)) (by decide) (by decide) (zWr.refl _ _))
def f_Course_strainChains_37_l2_k48 (v1 : Int32) (v2 : Int32) (v3 : Int32) (h : zm_H) : Nat × Int32 × zm_H := (f_Course_strainChains_37_l2_a51 v1 v2 v3 (f_Course_strainChains_37_l2_l51 v1 v2 v3 zF (0, h)))
def f_Course_strainChains_37_l2_k48_ok (v1 : Int32) (v2 : Int32) (v3 : Int32) (h : zm_H) : Prop := (f_Course_strainChains_37_l2_l51_ok v1 v2 v3 zF (0, h) ∧ f_Course_strainChains_37_l2_a51_ok v1 v2 v3 (f_Course_strainChains_37_l2_l51 v1 v2 v3 zF (0, h)))
theorem f_Course_strainChains_37_l2_k48_w (v1 : Int32) (v2 : Int32) (v3 : Int32) (h : zm_H) : zWr [38, 39, 44, 45] [] h ((f_Course_strainChains_37_l2_k48 v1 v2 v3 h).2.2) := by
  unfold f_Course_strainChains_37_l2_k48
  exact (zWr_tr (f_Course_strainChains_37_l2_a51_w v1 v2 v3 (f_Course_strainChains_37_l2_l51 v1 v2 v3 zF (0, h))) (by decide) (by decide) (zWr_tr (f_Course_strainChains_37_l2_l51_w v1 v2 v3 zF (0, h)) (by decide) (by decide) (zWr.refl _ _)))
def f_Course_strainChains_37_l2_b (v1 : Int32) (v2 : Int32) (v3 : Int32) (h : zm_H) : Nat × Int32 × zm_H := (if ((zf h 23 0) ≤ v3) then (1, v3, h) else (if ((zr h 38 v3) = 1) then (f_Course_strainChains_37_l2_k48 v1 v2 v3 (f_Course_shareLoad_37 v3 ((v2 / 1000) * ((zr h 24 v3) + 5)) ((zm_rm v2 10) - 1) h)) else (f_Course_strainChains_37_l2_k103 v1 v2 v3 h)))
def f_Course_strainChains_37_l2_b_ok (v1 : Int32) (v2 : Int32) (v3 : Int32) (h : zm_H) : Prop := ((((zf h 23 0) ≤ v3) → True) ∧ (¬ ((zf h 23 0) ≤ v3) → (vp_in v3 10 ∧ ((((zr h 38 v3) = 1) → (vp_in v3 10 ∧ (f_Course_shareLoad_37_ok v3 ((v2 / 1000) * ((zr h 24 v3) + 5)) ((zm_rm v2 10) - 1) h ∧ (f_Course_strainChains_37_l2_k48_ok v1 v2 v3 (f_Course_shareLoad_37 v3 ((v2 / 1000) * ((zr h 24 v3) + 5)) ((zm_rm v2 10) - 1) h))))) ∧ (¬ ((zr h 38 v3) = 1) → True)))))
theorem f_Course_strainChains_37_l2_b_w (v1 : Int32) (v2 : Int32) (v3 : Int32) (h : zm_H) : zWr [38, 39, 44, 45, 46] [] h ((f_Course_strainChains_37_l2_b v1 v2 v3 h).2.2) := by
  unfold f_Course_strainChains_37_l2_b
  exact (zWr_ite (fun z : Nat × Int32 × zm_H => z.2.2) (zWr.refl _ _) (zWr_ite (fun z : Nat × Int32 × zm_H => z.2.2) (zWr_tr (f_Course_strainChains_37_l2_k48_w v1 v2 v3 (f_Course_shareLoad_37 v3 ((v2 / 1000) * ((zr h 24 v3) + 5)) ((zm_rm v2 10) - 1) h)) (by decide) (by decide) (zWr_tr (f_Course_shareLoad_37_w v3 ((v2 / 1000) * ((zr h 24 v3) + 5)) ((zm_rm v2 10) - 1) h) (by decide) (by decide) (zWr.refl _ _))) (zWr_tr (f_Course_strainChains_37_l2_k103_w v1 v2 v3 h) (by decide) (by decide) (zWr.refl _ _))))
def f_Course_strainChains_37_l2 (v1 : Int32) (v2 : Int32) (n : Nat) (t : Int32 × zm_H) : Nat × Int32 × zm_H := zwh (fun t => f_Course_strainChains_37_l2_b v1 v2 t.1 t.2) n t
def f_Course_strainChains_37_l2_ok (v1 : Int32) (v2 : Int32) (n : Nat) (t : Int32 × zm_H) : Prop := zwo (fun t => f_Course_strainChains_37_l2_b v1 v2 t.1 t.2) (fun t => f_Course_strainChains_37_l2_b_ok v1 v2 t.1 t.2) n t
theorem f_Course_strainChains_37_l2_w (v1 : Int32) (v2 : Int32) (n : Nat) (t : Int32 × zm_H) : zWr [38, 39, 44, 45, 46] [] (t.2) ((f_Course_strainChains_37_l2 v1 v2 n t).2.2) := by
  unfold f_Course_strainChains_37_l2
  exact zWr_zwh (fun t : Int32 × zm_H => t.2) (fun t => f_Course_strainChains_37_l2_b_w v1 v2 t.1 t.2)
def f_Course_strainChains_37_k109 (h : zm_H) : zm_H := h
def f_Course_strainChains_37_k109_ok (h : zm_H) : Prop := True
theorem f_Course_strainChains_37_k109_w (h : zm_H) : zWr [] [] h ((f_Course_strainChains_37_k109 h)) := by
  unfold f_Course_strainChains_37_k109
  exact (zWr.refl _ _)
def f_Course_strainChains_37_a2 (r : Nat × Int32 × zm_H) : zm_H := (f_Course_strainChains_37_k109 (r.2.2))
def f_Course_strainChains_37_a2_ok (r : Nat × Int32 × zm_H) : Prop := True
theorem f_Course_strainChains_37_a2_w (r : Nat × Int32 × zm_H) : zWr [] [] (r.2.2) ((f_Course_strainChains_37_a2 r)) := by
  unfold f_Course_strainChains_37_a2
  exact (zWr_tr (f_Course_strainChains_37_k109_w (r.2.2)) (by decide) (by decide) (zWr.refl _ _))
def f_Course_strainChains_37 (p1 : Int32) (p2 : Int32) (h : zm_H) : zm_H := (f_Course_strainChains_37_a2 (f_Course_strainChains_37_l2 p1 p2 zF (0, h)))
def f_Course_strainChains_37_ok (p1 : Int32) (p2 : Int32) (h : zm_H) : Prop := (f_Course_strainChains_37_l2_ok p1 p2 zF (0, h) ∧ f_Course_strainChains_37_a2_ok (f_Course_strainChains_37_l2 p1 p2 zF (0, h)))
theorem f_Course_strainChains_37_w (p1 : Int32) (p2 : Int32) (h : zm_H) : zWr [38, 39, 44, 45, 46] [] h ((f_Course_strainChains_37 p1 p2 h)) := by
  unfold f_Course_strainChains_37
  exact (zWr_tr (f_Course_strainChains_37_a2_w (f_Course_strainChains_37_l2 p1 p2 zF (0, h))) (by decide) (by decide) (zWr_tr (f_Course_strainChains_37_l2_w p1 p2 zF (0, h)) (by decide) (by decide) (zWr.refl _ _)))
def f_Course_bookPay_37_l19_k66 (v1 : Int32) (v2 : Int32) (v3 : Int32) (h : zm_H) : Nat × Int32 × zm_H := (0, (v3 + 1), h)
def f_Course_bookPay_37_l19_k66_ok (v1 : Int32) (v2 : Int32) (v3 : Int32) (h : zm_H) : Prop := True
theorem f_Course_bookPay_37_l19_k66_w (v1 : Int32) (v2 : Int32) (v3 : Int32) (h : zm_H) : zWr [] [] h ((f_Course_bookPay_37_l19_k66 v1 v2 v3 h).2.2) := by
  unfold f_Course_bookPay_37_l19_k66
  exact (zWr.refl _ _)
def f_Course_bookPay_37_l19_k59 (v1 : Int32) (v2 : Int32) (v3 : Int32) (w1 : Int32) (w2 : Int32) (w3 : Int32) (w4 : Int32) (h : zm_H) : Nat × Int32 × zm_H := (f_Course_bookPay_37_l19_k66 v1 v2 v3 (zs h 48 w1 (w2 + (if w3 < (if 100000 < w4 then 100000 else w4) then (if 100000 < w4 then 100000 else w4) else w3))))
def f_Course_bookPay_37_l19_k59_ok (v1 : Int32) (v2 : Int32) (v3 : Int32) (w1 : Int32) (w2 : Int32) (w3 : Int32) (w4 : Int32) (h : zm_H) : Prop := vp_in w1 480
theorem f_Course_bookPay_37_l19_k59_w (v1 : Int32) (v2 : Int32) (v3 : Int32) (w1 : Int32) (w2 : Int32) (w3 : Int32) (w4 : Int32) (h : zm_H) : zWr [48] [] h ((f_Course_bookPay_37_l19_k59 v1 v2 v3 w1 w2 w3 w4 h).2.2) := by
  unfold f_Course_bookPay_37_l19_k59
  exact (zWr_tr (f_Course_bookPay_37_l19_k66_w v1 v2 v3 (zs h 48 w1 (w2 + (if w3 < (if 100000 < w4 then 100000 else w4) then (if 100000 < w4 then 100000 else w4) else w3)))) (by decide) (by decide) (zWr_si (by decide) (zWr.refl _ _)))
def f_Course_bookPay_37_l19_b (v1 : Int32) (v2 : Int32) (v3 : Int32) (h : zm_H) : Nat × Int32 × zm_H := (if ((zf h 23 0) ≤ v3) then (1, v3, h) else (if (v1 < (zr h 26 v3)) then (f_Course_bookPay_37_l19_k66 v1 v2 v3 h) else (f_Course_bookPay_37_l19_k59 v1 v2 v3 v1 (zr h 48 v1) (-100000) (f_Course_says_37 v2 3 v3 h).1 (f_Course_says_37 v2 3 v3 h).2)))
def f_Course_bookPay_37_l19_b_ok (v1 : Int32) (v2 : Int32) (v3 : Int32) (h : zm_H) : Prop := ((((zf h 23 0) ≤ v3) → True) ∧ (¬ ((zf h 23 0) ≤ v3) → (vp_in v3 10 ∧ (((v1 < (zr h 26 v3)) → True) ∧ (¬ (v1 < (zr h 26 v3)) → (vp_in v1 480 ∧ (f_Course_says_37_ok v2 3 v3 h ∧ (f_Course_bookPay_37_l19_k59_ok v1 v2 v3 v1 (zr h 48 v1) (-100000) (f_Course_says_37 v2 3 v3 h).1 (f_Course_says_37 v2 3 v3 h).2))))))))
theorem f_Course_bookPay_37_l19_b_w (v1 : Int32) (v2 : Int32) (v3 : Int32) (h : zm_H) : zWr [21, 22, 48] [(15, 9)] h ((f_Course_bookPay_37_l19_b v1 v2 v3 h).2.2) := by
  unfold f_Course_bookPay_37_l19_b
  exact (zWr_ite (fun z : Nat × Int32 × zm_H => z.2.2) (zWr.refl _ _) (zWr_ite (fun z : Nat × Int32 × zm_H => z.2.2) (zWr_tr (f_Course_bookPay_37_l19_k66_w v1 v2 v3 h) (by decide) (by decide) (zWr.refl _ _)) (zWr_tr (f_Course_bookPay_37_l19_k59_w v1 v2 v3 v1 (zr h 48 v1) (-100000) (f_Course_says_37 v2 3 v3 h).1 (f_Course_says_37 v2 3 v3 h).2) (by decide) (by decide) (zWr_tr (f_Course_says_37_w v2 3 v3 h) (by decide) (by decide) (zWr.refl _ _)))))
def f_Course_bookPay_37_l19 (v1 : Int32) (v2 : Int32) (n : Nat) (t : Int32 × zm_H) : Nat × Int32 × zm_H := zwh (fun t => f_Course_bookPay_37_l19_b v1 v2 t.1 t.2) n t
def f_Course_bookPay_37_l19_ok (v1 : Int32) (v2 : Int32) (n : Nat) (t : Int32 × zm_H) : Prop := zwo (fun t => f_Course_bookPay_37_l19_b v1 v2 t.1 t.2) (fun t => f_Course_bookPay_37_l19_b_ok v1 v2 t.1 t.2) n t
theorem f_Course_bookPay_37_l19_w (v1 : Int32) (v2 : Int32) (n : Nat) (t : Int32 × zm_H) : zWr [21, 22, 48] [(15, 9)] (t.2) ((f_Course_bookPay_37_l19 v1 v2 n t).2.2) := by
  unfold f_Course_bookPay_37_l19
  exact zWr_zwh (fun t : Int32 × zm_H => t.2) (fun t => f_Course_bookPay_37_l19_b_w v1 v2 t.1 t.2)
def f_Course_bookPay_37_k72 (h : zm_H) : zm_H := h
def f_Course_bookPay_37_k72_ok (h : zm_H) : Prop := True
theorem f_Course_bookPay_37_k72_w (h : zm_H) : zWr [] [] h ((f_Course_bookPay_37_k72 h)) := by
  unfold f_Course_bookPay_37_k72
  exact (zWr.refl _ _)
def f_Course_bookPay_37_a19 (r : Nat × Int32 × zm_H) : zm_H := (f_Course_bookPay_37_k72 (r.2.2))
def f_Course_bookPay_37_a19_ok (r : Nat × Int32 × zm_H) : Prop := True
theorem f_Course_bookPay_37_a19_w (r : Nat × Int32 × zm_H) : zWr [] [] (r.2.2) ((f_Course_bookPay_37_a19 r)) := by
  unfold f_Course_bookPay_37_a19
  exact (zWr_tr (f_Course_bookPay_37_k72_w (r.2.2)) (by decide) (by decide) (zWr.refl _ _))
def f_Course_bookPay_37 (p1 : Int32) (h : zm_H) : zm_H := (f_Course_bookPay_37_a19 (f_Course_bookPay_37_l19 p1 (f_Rules_ruling 3 p1 h) zF (0, (zs h 48 p1 0))))
def f_Course_bookPay_37_ok (p1 : Int32) (h : zm_H) : Prop := (f_Rules_ruling_ok 3 p1 h ∧ (vp_in p1 480 ∧ (f_Course_bookPay_37_l19_ok p1 (f_Rules_ruling 3 p1 h) zF (0, (zs h 48 p1 0)) ∧ f_Course_bookPay_37_a19_ok (f_Course_bookPay_37_l19 p1 (f_Rules_ruling 3 p1 h) zF (0, (zs h 48 p1 0))))))
theorem f_Course_bookPay_37_w (p1 : Int32) (h : zm_H) : zWr [21, 22, 48] [(15, 9)] h ((f_Course_bookPay_37 p1 h)) := by
  unfold f_Course_bookPay_37
  exact (zWr_tr (f_Course_bookPay_37_a19_w (f_Course_bookPay_37_l19 p1 (f_Rules_ruling 3 p1 h) zF (0, (zs h 48 p1 0)))) (by decide) (by decide) (zWr_tr (f_Course_bookPay_37_l19_w p1 (f_Rules_ruling 3 p1 h) zF (0, (zs h 48 p1 0))) (by decide) (by decide) (zWr_si (by decide) (zWr.refl _ _))))
def f_Course_pass_37_k31 (v1 : Int32) (h : zm_H) : zm_H := (zp (f_Course_bookPay_37 v1 h) 37 3 (v1 + 1))
def f_Course_pass_37_k31_ok (v1 : Int32) (h : zm_H) : Prop := f_Course_bookPay_37_ok v1 h
theorem f_Course_pass_37_k31_w (v1 : Int32) (h : zm_H) : zWr [21, 22, 48] [(15, 9), (37, 3)] h ((f_Course_pass_37_k31 v1 h)) := by
  unfold f_Course_pass_37_k31
  exact (zWr_p (by decide) (zWr_tr (f_Course_bookPay_37_w v1 h) (by decide) (by decide) (zWr.refl _ _)))
def f_Course_pass_37_k25 (v1 : Int32) (v2 : Int32) (h : zm_H) : zm_H := (f_Course_pass_37_k31 v1 (f_Course_strainChains_37 v1 v2 h))
def f_Course_pass_37_k25_ok (v1 : Int32) (v2 : Int32) (h : zm_H) : Prop := (f_Course_strainChains_37_ok v1 v2 h ∧ (f_Course_pass_37_k31_ok v1 (f_Course_strainChains_37 v1 v2 h)))
theorem f_Course_pass_37_k25_w (v1 : Int32) (v2 : Int32) (h : zm_H) : zWr [21, 22, 38, 39, 44, 45, 46, 48] [(15, 9), (37, 3)] h ((f_Course_pass_37_k25 v1 v2 h)) := by
  unfold f_Course_pass_37_k25
  exact (zWr_tr (f_Course_pass_37_k31_w v1 (f_Course_strainChains_37 v1 v2 h)) (by decide) (by decide) (zWr_tr (f_Course_strainChains_37_w v1 v2 h) (by decide) (by decide) (zWr.refl _ _)))
def f_Course_pass_37_k19 (v1 : Int32) (v2 : Int32) (h : zm_H) : zm_H := (f_Course_pass_37_k25 v1 v2 (f_Course_takeWaves_37 v1 v2 h))
def f_Course_pass_37_k19_ok (v1 : Int32) (v2 : Int32) (h : zm_H) : Prop := (f_Course_takeWaves_37_ok v1 v2 h ∧ (f_Course_pass_37_k25_ok v1 v2 (f_Course_takeWaves_37 v1 v2 h)))
theorem f_Course_pass_37_k19_w (v1 : Int32) (v2 : Int32) (h : zm_H) : zWr [21, 22, 32, 33, 34, 35, 36, 38, 39, 40, 41, 42, 44, 45, 46, 47, 48, 49] [(15, 9), (37, 3)] h ((f_Course_pass_37_k19 v1 v2 h)) := by
  unfold f_Course_pass_37_k19
  exact (zWr_tr (f_Course_pass_37_k25_w v1 v2 (f_Course_takeWaves_37 v1 v2 h)) (by decide) (by decide) (zWr_tr (f_Course_takeWaves_37_w v1 v2 h) (by decide) (by decide) (zWr.refl _ _)))
def f_Course_pass_37_k14 (v1 : Int32) (v2 : Int32) (h : zm_H) : zm_H := (f_Course_pass_37_k19 v1 v2 (f_Course_sinkAndRise_37 v1 h))
def f_Course_pass_37_k14_ok (v1 : Int32) (v2 : Int32) (h : zm_H) : Prop := (f_Course_sinkAndRise_37_ok v1 h ∧ (f_Course_pass_37_k19_ok v1 v2 (f_Course_sinkAndRise_37 v1 h)))
theorem f_Course_pass_37_k14_w (v1 : Int32) (v2 : Int32) (h : zm_H) : zWr [21, 22, 32, 33, 34, 35, 36, 38, 39, 40, 41, 42, 44, 45, 46, 47, 48, 49] [(15, 9), (37, 3)] h ((f_Course_pass_37_k14 v1 v2 h)) := by
  unfold f_Course_pass_37_k14
  exact (zWr_tr (f_Course_pass_37_k19_w v1 v2 (f_Course_sinkAndRise_37 v1 h)) (by decide) (by decide) (zWr_tr (f_Course_sinkAndRise_37_w v1 h) (by decide) (by decide) (zWr.refl _ _)))
def f_Course_pass_37_k5 (v1 : Int32) (v2 : Int32) (h : zm_H) : zm_H := (f_Course_pass_37_k14 v1 v2 (f_Rules_nameSea v1 v2 h))
def f_Course_pass_37_k5_ok (v1 : Int32) (v2 : Int32) (h : zm_H) : Prop := (f_Course_pass_37_k14_ok v1 v2 (f_Rules_nameSea v1 v2 h))
theorem f_Course_pass_37_k5_w (v1 : Int32) (v2 : Int32) (h : zm_H) : zWr [21, 22, 32, 33, 34, 35, 36, 38, 39, 40, 41, 42, 44, 45, 46, 47, 48, 49] [(15, 9), (37, 3)] h ((f_Course_pass_37_k5 v1 v2 h)) := by
  unfold f_Course_pass_37_k5
  exact (zWr_tr (f_Course_pass_37_k14_w v1 v2 (f_Rules_nameSea v1 v2 h)) (by decide) (by decide) (zWr_tr (f_Rules_nameSea_w v1 v2 h) (by decide) (by decide) (zWr.refl _ _)))
def f_Course_pass_37 (p1 : Int32) (p2 : Int32) (h : zm_H) : zm_H := (f_Course_pass_37_k5 p1 p2 (f_Course_doThings_37 p1 h))
def f_Course_pass_37_ok (p1 : Int32) (p2 : Int32) (h : zm_H) : Prop := (f_Course_doThings_37_ok p1 h ∧ (f_Course_pass_37_k5_ok p1 p2 (f_Course_doThings_37 p1 h)))
theorem f_Course_pass_37_w (p1 : Int32) (p2 : Int32) (h : zm_H) : zWr [21, 22, 32, 33, 34, 35, 36, 38, 39, 40, 41, 42, 43, 44, 45, 46, 47, 48, 49] [(15, 9), (37, 3), (37, 4)] h ((f_Course_pass_37 p1 p2 h)) := by
  unfold f_Course_pass_37
  exact (zWr_tr (f_Course_pass_37_k5_w p1 p2 (f_Course_doThings_37 p1 h)) (by decide) (by decide) (zWr_tr (f_Course_doThings_37_w p1 h) (by decide) (by decide) (zWr.refl _ _)))
def f_Harbour_endSpell_l2_k32 (v1 : Int32) (v2 : Int32) (h : zm_H) : Nat × Int32 × zm_H := (0, (v2 + 1), h)
def f_Harbour_endSpell_l2_k32_ok (v1 : Int32) (v2 : Int32) (h : zm_H) : Prop := True
theorem f_Harbour_endSpell_l2_k32_w (v1 : Int32) (v2 : Int32) (h : zm_H) : zWr [] [] h ((f_Harbour_endSpell_l2_k32 v1 v2 h).2.2) := by
  unfold f_Harbour_endSpell_l2_k32
  exact (zWr.refl _ _)
def f_Harbour_endTrip_k33 (v1 : Int32) (h : zm_H) : zm_H := (zs h 71 v1 ((zr h 71 v1) + 1))
def f_Harbour_endTrip_k33_ok (v1 : Int32) (h : zm_H) : Prop := (vp_in v1 3 ∧ vp_in v1 3)
theorem f_Harbour_endTrip_k33_w (v1 : Int32) (h : zm_H) : zWr [71] [] h ((f_Harbour_endTrip_k33 v1 h)) := by
  unfold f_Harbour_endTrip_k33
  exact (zWr_si (by decide) (zWr.refl _ _))
def f_Harbour_partFor (p0 : Int32) (h : zm_H) : Int32 := (if (3 ≤ p0) then ((if (p0 = 3) then (1 : Int32) else 2) : Int32) else 0)
def f_Harbour_partFor_ok (p0 : Int32) (h : zm_H) : Prop := True
def f_Harbour_endTrip_k79 (v1 : Int32) (h : zm_H) : zm_H := (if ((if (3 ≤ (zr h 68 v1)) then ((if ((zr h 68 v1) = 3) then (1 : Int32) else 2) : Int32) else 0) = 2) then (zs h 70 v1 ((zr h 70 v1) + 1)) else (zs (zs h 70 v1 ((zr h 70 v1) + 1)) 65 ((v1 * 3) + (if (3 ≤ (zr h 68 v1)) then ((if ((zr h 68 v1) = 3) then (1 : Int32) else 2) : Int32) else 0)) ((zr h 65 ((v1 * 3) + (if (3 ≤ (zr h 68 v1)) then ((if ((zr h 68 v1) = 3) then (1 : Int32) else 2) : Int32) else 0))) - 1)))
def f_Harbour_endTrip_k79_ok (v1 : Int32) (h : zm_H) : Prop := (vp_in v1 3 ∧ (vp_in v1 3 ∧ (vp_in v1 3 ∧ ((((if (3 ≤ (zr h 68 v1)) then ((if ((zr h 68 v1) = 3) then (1 : Int32) else 2) : Int32) else 0) = 2) → True) ∧ (¬ ((if (3 ≤ (zr h 68 v1)) then ((if ((zr h 68 v1) = 3) then (1 : Int32) else 2) : Int32) else 0) = 2) → (vp_in ((v1 * 3) + (if (3 ≤ (zr h 68 v1)) then ((if ((zr h 68 v1) = 3) then (1 : Int32) else 2) : Int32) else 0)) 9 ∧ vp_in ((v1 * 3) + (if (3 ≤ (zr h 68 v1)) then ((if ((zr h 68 v1) = 3) then (1 : Int32) else 2) : Int32) else 0)) 9))))))
theorem f_Harbour_endTrip_k79_w (v1 : Int32) (h : zm_H) : zWr [65, 70] [] h ((f_Harbour_endTrip_k79 v1 h)) := by
  unfold f_Harbour_endTrip_k79
  exact (zWr_ite (fun z : zm_H => z) (zWr_si (by decide) (zWr.refl _ _)) (zWr_si (by decide) (zWr_si (by decide) (zWr.refl _ _))))
def f_Harbour_endTrip_k71 (v1 : Int32) (v2 : Int32) (h : zm_H) : zm_H := (f_Harbour_endTrip_k79 v1 (f_Course_doThings_37 v2 h))
def f_Harbour_endTrip_k71_ok (v1 : Int32) (v2 : Int32) (h : zm_H) : Prop := (f_Course_doThings_37_ok v2 h ∧ (f_Harbour_endTrip_k79_ok v1 (f_Course_doThings_37 v2 h)))
theorem f_Harbour_endTrip_k71_w (v1 : Int32) (v2 : Int32) (h : zm_H) : zWr [38, 39, 40, 43, 44, 45, 65, 70] [(37, 4)] h ((f_Harbour_endTrip_k71 v1 v2 h)) := by
  unfold f_Harbour_endTrip_k71
  exact (zWr_tr (f_Harbour_endTrip_k79_w v1 (f_Course_doThings_37 v2 h)) (by decide) (by decide) (zWr_tr (f_Course_doThings_37_w v2 h) (by decide) (by decide) (zWr.refl _ _)))
def f_Harbour_endTrip (p1 : Int32) (p2 : Int32) (h : zm_H) : zm_H := (if (¬ (200 ≤ (zf h 23 4))) then (if ((f_Course_isDoable_37 (zr h 68 p1) (zr h 67 p1) (-1) h) = 0) then (f_Harbour_endTrip_k33 p1 h) else (f_Harbour_endTrip_k71 p1 p2 (f_Log_addThing p2 (zr h 68 p1) (zr h 67 p1) (-1) (zr h 69 p1) h))) else (f_Harbour_endTrip_k33 p1 h))
def f_Harbour_endTrip_ok (p1 : Int32) (p2 : Int32) (h : zm_H) : Prop := (((¬ (200 ≤ (zf h 23 4))) → (vp_in p1 3 ∧ (vp_in p1 3 ∧ (f_Course_isDoable_37_ok (zr h 68 p1) (zr h 67 p1) (-1) h ∧ ((((f_Course_isDoable_37 (zr h 68 p1) (zr h 67 p1) (-1) h) = 0) → (f_Harbour_endTrip_k33_ok p1 h)) ∧ (¬ ((f_Course_isDoable_37 (zr h 68 p1) (zr h 67 p1) (-1) h) = 0) → (vp_in p1 3 ∧ (vp_in p1 3 ∧ (vp_in p1 3 ∧ (f_Log_addThing_ok p2 (zr h 68 p1) (zr h 67 p1) (-1) (zr h 69 p1) h ∧ (f_Harbour_endTrip_k71_ok p1 p2 (f_Log_addThing p2 (zr h 68 p1) (zr h 67 p1) (-1) (zr h 69 p1) h)))))))))))) ∧ (¬ (¬ (200 ≤ (zf h 23 4))) → (f_Harbour_endTrip_k33_ok p1 h)))
theorem f_Harbour_endTrip_w (p1 : Int32) (p2 : Int32) (h : zm_H) : zWr [27, 28, 29, 30, 31, 38, 39, 40, 43, 44, 45, 65, 70, 71] [(23, 4), (37, 4)] h ((f_Harbour_endTrip p1 p2 h)) := by
  unfold f_Harbour_endTrip
  exact (zWr_ite (fun z : zm_H => z) (zWr_ite (fun z : zm_H => z) (zWr_tr (f_Harbour_endTrip_k33_w p1 h) (by decide) (by decide) (zWr.refl _ _)) (zWr_tr (f_Harbour_endTrip_k71_w p1 p2 (f_Log_addThing p2 (zr h 68 p1) (zr h 67 p1) (-1) (zr h 69 p1) h)) (by decide) (by decide) (zWr_tr (f_Log_addThing_w p2 (zr h 68 p1) (zr h 67 p1) (-1) (zr h 69 p1) h) (by decide) (by decide) (zWr.refl _ _)))) (zWr_tr (f_Harbour_endTrip_k33_w p1 h) (by decide) (by decide) (zWr.refl _ _)))
def f_Harbour_endSpell_l2_k25 (v1 : Int32) (v2 : Int32) (h : zm_H) : Nat × Int32 × zm_H := (f_Harbour_endSpell_l2_k32 v1 v2 (zs h 66 v2 (-1)))
def f_Harbour_endSpell_l2_k25_ok (v1 : Int32) (v2 : Int32) (h : zm_H) : Prop := vp_in v2 3
theorem f_Harbour_endSpell_l2_k25_w (v1 : Int32) (v2 : Int32) (h : zm_H) : zWr [66] [] h ((f_Harbour_endSpell_l2_k25 v1 v2 h).2.2) := by
  unfold f_Harbour_endSpell_l2_k25
  exact (zWr_tr (f_Harbour_endSpell_l2_k32_w v1 v2 (zs h 66 v2 (-1))) (by decide) (by decide) (zWr_si (by decide) (zWr.refl _ _)))
def f_Harbour_endSpell_l2_b (v1 : Int32) (v2 : Int32) (h : zm_H) : Nat × Int32 × zm_H := (if (3 ≤ v2) then (1, v2, h) else (if ((zr h 66 v2) = v1) then (f_Harbour_endSpell_l2_k25 v1 v2 (f_Harbour_endTrip v2 (v1 + 1) h)) else (f_Harbour_endSpell_l2_k32 v1 v2 h)))
def f_Harbour_endSpell_l2_b_ok (v1 : Int32) (v2 : Int32) (h : zm_H) : Prop := (((3 ≤ v2) → True) ∧ (¬ (3 ≤ v2) → (vp_in v2 3 ∧ ((((zr h 66 v2) = v1) → (f_Harbour_endTrip_ok v2 (v1 + 1) h ∧ (f_Harbour_endSpell_l2_k25_ok v1 v2 (f_Harbour_endTrip v2 (v1 + 1) h)))) ∧ (¬ ((zr h 66 v2) = v1) → True)))))
theorem f_Harbour_endSpell_l2_b_w (v1 : Int32) (v2 : Int32) (h : zm_H) : zWr [27, 28, 29, 30, 31, 38, 39, 40, 43, 44, 45, 65, 66, 70, 71] [(23, 4), (37, 4)] h ((f_Harbour_endSpell_l2_b v1 v2 h).2.2) := by
  unfold f_Harbour_endSpell_l2_b
  exact (zWr_ite (fun z : Nat × Int32 × zm_H => z.2.2) (zWr.refl _ _) (zWr_ite (fun z : Nat × Int32 × zm_H => z.2.2) (zWr_tr (f_Harbour_endSpell_l2_k25_w v1 v2 (f_Harbour_endTrip v2 (v1 + 1) h)) (by decide) (by decide) (zWr_tr (f_Harbour_endTrip_w v2 (v1 + 1) h) (by decide) (by decide) (zWr.refl _ _))) (zWr_tr (f_Harbour_endSpell_l2_k32_w v1 v2 h) (by decide) (by decide) (zWr.refl _ _))))
def f_Harbour_endSpell_l2 (v1 : Int32) (n : Nat) (t : Int32 × zm_H) : Nat × Int32 × zm_H := zwh (fun t => f_Harbour_endSpell_l2_b v1 t.1 t.2) n t
def f_Harbour_endSpell_l2_ok (v1 : Int32) (n : Nat) (t : Int32 × zm_H) : Prop := zwo (fun t => f_Harbour_endSpell_l2_b v1 t.1 t.2) (fun t => f_Harbour_endSpell_l2_b_ok v1 t.1 t.2) n t
theorem f_Harbour_endSpell_l2_w (v1 : Int32) (n : Nat) (t : Int32 × zm_H) : zWr [27, 28, 29, 30, 31, 38, 39, 40, 43, 44, 45, 65, 66, 70, 71] [(23, 4), (37, 4)] (t.2) ((f_Harbour_endSpell_l2 v1 n t).2.2) := by
  unfold f_Harbour_endSpell_l2
  exact zWr_zwh (fun t : Int32 × zm_H => t.2) (fun t => f_Harbour_endSpell_l2_b_w v1 t.1 t.2)
def f_Harbour_endSpell_k38 (h : zm_H) : zm_H := h
def f_Harbour_endSpell_k38_ok (h : zm_H) : Prop := True
theorem f_Harbour_endSpell_k38_w (h : zm_H) : zWr [] [] h ((f_Harbour_endSpell_k38 h)) := by
  unfold f_Harbour_endSpell_k38
  exact (zWr.refl _ _)
def f_Harbour_endSpell_a2 (r : Nat × Int32 × zm_H) : zm_H := (f_Harbour_endSpell_k38 (r.2.2))
def f_Harbour_endSpell_a2_ok (r : Nat × Int32 × zm_H) : Prop := True
theorem f_Harbour_endSpell_a2_w (r : Nat × Int32 × zm_H) : zWr [] [] (r.2.2) ((f_Harbour_endSpell_a2 r)) := by
  unfold f_Harbour_endSpell_a2
  exact (zWr_tr (f_Harbour_endSpell_k38_w (r.2.2)) (by decide) (by decide) (zWr.refl _ _))
def f_Harbour_endSpell (p1 : Int32) (h : zm_H) : zm_H := (f_Harbour_endSpell_a2 (f_Harbour_endSpell_l2 p1 zF (0, h)))
def f_Harbour_endSpell_ok (p1 : Int32) (h : zm_H) : Prop := (f_Harbour_endSpell_l2_ok p1 zF (0, h) ∧ f_Harbour_endSpell_a2_ok (f_Harbour_endSpell_l2 p1 zF (0, h)))
theorem f_Harbour_endSpell_w (p1 : Int32) (h : zm_H) : zWr [27, 28, 29, 30, 31, 38, 39, 40, 43, 44, 45, 65, 66, 70, 71] [(23, 4), (37, 4)] h ((f_Harbour_endSpell p1 h)) := by
  unfold f_Harbour_endSpell
  exact (zWr_tr (f_Harbour_endSpell_a2_w (f_Harbour_endSpell_l2 p1 zF (0, h))) (by decide) (by decide) (zWr_tr (f_Harbour_endSpell_l2_w p1 zF (0, h)) (by decide) (by decide) (zWr.refl _ _)))
def f_N_passNow_k47 (h : zm_H) : zm_H := (zp h 0 0 ((zf h 0 0) + 1))
def f_N_passNow_k47_ok (h : zm_H) : Prop := True
theorem f_N_passNow_k47_w (h : zm_H) : zWr [] [(0, 0)] h ((f_N_passNow_k47 h)) := by
  unfold f_N_passNow_k47
  exact (zWr_p (by decide) (zWr.refl _ _))
def f_N_passNow_k36 (h : zm_H) : zm_H := (f_N_passNow_k47 (f_Harbour_endSpell (zf h 0 0) h))
def f_N_passNow_k36_ok (h : zm_H) : Prop := f_Harbour_endSpell_ok (zf h 0 0) h
theorem f_N_passNow_k36_w (h : zm_H) : zWr [27, 28, 29, 30, 31, 38, 39, 40, 43, 44, 45, 65, 66, 70, 71] [(0, 0), (23, 4), (37, 4)] h ((f_N_passNow_k36 h)) := by
  unfold f_N_passNow_k36
  exact (zWr_tr (f_N_passNow_k47_w (f_Harbour_endSpell (zf h 0 0) h)) (by decide) (by decide) (zWr_tr (f_Harbour_endSpell_w (zf h 0 0) h) (by decide) (by decide) (zWr.refl _ _)))
def f_N_passNow_k24 (v1 : Int32) (h : zm_H) : zm_H := (f_N_passNow_k36 (f_Course_pass_37 (zf h 0 0) v1 h))
def f_N_passNow_k24_ok (v1 : Int32) (h : zm_H) : Prop := (f_Course_pass_37_ok (zf h 0 0) v1 h ∧ (f_N_passNow_k36_ok (f_Course_pass_37 (zf h 0 0) v1 h)))
theorem f_N_passNow_k24_w (v1 : Int32) (h : zm_H) : zWr [21, 22, 27, 28, 29, 30, 31, 32, 33, 34, 35, 36, 38, 39, 40, 41, 42, 43, 44, 45, 46, 47, 48, 49, 65, 66, 70, 71] [(0, 0), (15, 9), (23, 4), (37, 3), (37, 4)] h ((f_N_passNow_k24 v1 h)) := by
  unfold f_N_passNow_k24
  exact (zWr_tr (f_N_passNow_k36_w (f_Course_pass_37 (zf h 0 0) v1 h)) (by decide) (by decide) (zWr_tr (f_Course_pass_37_w (zf h 0 0) v1 h) (by decide) (by decide) (zWr.refl _ _)))
def f_N_passNow (h : zm_H) : zm_H := (f_N_passNow_k24 (f_Swell_lookNow (zf h 0 0) h) (f_Harbour_beginSpell (zf h 0 0) (f_Swell_lookNow (zf h 0 0) h) h))
def f_N_passNow_ok (h : zm_H) : Prop := (f_Swell_lookNow_ok (zf h 0 0) h ∧ (f_Harbour_beginSpell_ok (zf h 0 0) (f_Swell_lookNow (zf h 0 0) h) h ∧ (f_N_passNow_k24_ok (f_Swell_lookNow (zf h 0 0) h) (f_Harbour_beginSpell (zf h 0 0) (f_Swell_lookNow (zf h 0 0) h) h))))
theorem f_N_passNow_w (h : zm_H) : zWr [21, 22, 27, 28, 29, 30, 31, 32, 33, 34, 35, 36, 38, 39, 40, 41, 42, 43, 44, 45, 46, 47, 48, 49, 65, 66, 70, 71] [(0, 0), (15, 9), (23, 4), (37, 3), (37, 4)] h ((f_N_passNow h)) := by
  unfold f_N_passNow
  exact (zWr_tr (f_N_passNow_k24_w (f_Swell_lookNow (zf h 0 0) h) (f_Harbour_beginSpell (zf h 0 0) (f_Swell_lookNow (zf h 0 0) h) h)) (by decide) (by decide) (zWr_tr (f_Harbour_beginSpell_w (zf h 0 0) (f_Swell_lookNow (zf h 0 0) h) h) (by decide) (by decide) (zWr.refl _ _)))
def f_N_go_l14_k33 (v1 : Int32) (v2 : Int32) (h : zm_H) : Nat × Int32 × zm_H := (0, (v2 + 1), h)
def f_N_go_l14_k33_ok (v1 : Int32) (v2 : Int32) (h : zm_H) : Prop := True
theorem f_N_go_l14_k33_w (v1 : Int32) (v2 : Int32) (h : zm_H) : zWr [] [] h ((f_N_go_l14_k33 v1 v2 h).2.2) := by
  unfold f_N_go_l14_k33
  exact (zWr.refl _ _)
def f_N_go_l14_b (v1 : Int32) (v2 : Int32) (h : zm_H) : Nat × Int32 × zm_H := (if (v1 ≤ v2) then (1, v2, h) else (if (480 ≤ (zf h 0 0)) then (1, v2, h) else (f_N_go_l14_k33 v1 v2 (f_N_passNow h))))
def f_N_go_l14_b_ok (v1 : Int32) (v2 : Int32) (h : zm_H) : Prop := (((v1 ≤ v2) → True) ∧ (¬ (v1 ≤ v2) → (((480 ≤ (zf h 0 0)) → True) ∧ (¬ (480 ≤ (zf h 0 0)) → f_N_passNow_ok h))))
theorem f_N_go_l14_b_w (v1 : Int32) (v2 : Int32) (h : zm_H) : zWr [21, 22, 27, 28, 29, 30, 31, 32, 33, 34, 35, 36, 38, 39, 40, 41, 42, 43, 44, 45, 46, 47, 48, 49, 65, 66, 70, 71] [(0, 0), (15, 9), (23, 4), (37, 3), (37, 4)] h ((f_N_go_l14_b v1 v2 h).2.2) := by
  unfold f_N_go_l14_b
  exact (zWr_ite (fun z : Nat × Int32 × zm_H => z.2.2) (zWr.refl _ _) (zWr_ite (fun z : Nat × Int32 × zm_H => z.2.2) (zWr.refl _ _) (zWr_tr (f_N_go_l14_k33_w v1 v2 (f_N_passNow h)) (by decide) (by decide) (zWr_tr (f_N_passNow_w h) (by decide) (by decide) (zWr.refl _ _)))))
def f_N_go_l14 (v1 : Int32) (n : Nat) (t : Int32 × zm_H) : Nat × Int32 × zm_H := zwh (fun t => f_N_go_l14_b v1 t.1 t.2) n t
def f_N_go_l14_ok (v1 : Int32) (n : Nat) (t : Int32 × zm_H) : Prop := zwo (fun t => f_N_go_l14_b v1 t.1 t.2) (fun t => f_N_go_l14_b_ok v1 t.1 t.2) n t
theorem f_N_go_l14_w (v1 : Int32) (n : Nat) (t : Int32 × zm_H) : zWr [21, 22, 27, 28, 29, 30, 31, 32, 33, 34, 35, 36, 38, 39, 40, 41, 42, 43, 44, 45, 46, 47, 48, 49, 65, 66, 70, 71] [(0, 0), (15, 9), (23, 4), (37, 3), (37, 4)] (t.2) ((f_N_go_l14 v1 n t).2.2) := by
  unfold f_N_go_l14
  exact zWr_zwh (fun t : Int32 × zm_H => t.2) (fun t => f_N_go_l14_b_w v1 t.1 t.2)
def f_N_go_k39 (h : zm_H) : Int32 × zm_H := ((zf h 0 0), h)
def f_N_go_k39_ok (h : zm_H) : Prop := True
theorem f_N_go_k39_w (h : zm_H) : zWr [] [] h ((f_N_go_k39 h).2) := by
  unfold f_N_go_k39
  exact (zWr.refl _ _)
def f_N_go_a14 (r : Nat × Int32 × zm_H) : Int32 × zm_H := (f_N_go_k39 (r.2.2))
def f_N_go_a14_ok (r : Nat × Int32 × zm_H) : Prop := True
theorem f_N_go_a14_w (r : Nat × Int32 × zm_H) : zWr [] [] (r.2.2) ((f_N_go_a14 r).2) := by
  unfold f_N_go_a14
  exact (zWr_tr (f_N_go_k39_w (r.2.2)) (by decide) (by decide) (zWr.refl _ _))
def f_N_go (p1 : Int32) (h : zm_H) : Int32 × zm_H := (if (p1 < 0) then ((-1), h) else (if (p1 ≤ 80) then (f_N_go_a14 (f_N_go_l14 p1 zF (0, h))) else ((-1), h)))
def f_N_go_ok (p1 : Int32) (h : zm_H) : Prop := (((p1 < 0) → True) ∧ (¬ (p1 < 0) → (((p1 ≤ 80) → (f_N_go_l14_ok p1 zF (0, h) ∧ f_N_go_a14_ok (f_N_go_l14 p1 zF (0, h)))) ∧ (¬ (p1 ≤ 80) → True))))
theorem f_N_go_w (p1 : Int32) (h : zm_H) : zWr [21, 22, 27, 28, 29, 30, 31, 32, 33, 34, 35, 36, 38, 39, 40, 41, 42, 43, 44, 45, 46, 47, 48, 49, 65, 66, 70, 71] [(0, 0), (15, 9), (23, 4), (37, 3), (37, 4)] h ((f_N_go p1 h).2) := by
  unfold f_N_go
  exact (zWr_ite (fun z : Int32 × zm_H => z.2) (zWr.refl _ _) (zWr_ite (fun z : Int32 × zm_H => z.2) (zWr_tr (f_N_go_a14_w (f_N_go_l14 p1 zF (0, h))) (by decide) (by decide) (zWr_tr (f_N_go_l14_w p1 zF (0, h)) (by decide) (by decide) (zWr.refl _ _))) (zWr.refl _ _)))
def f_M_chainHolds (p1 : Int32) (h : zm_H) : Int32 := (if (¬ ((zr h 128 p1) ≤ 0) ∧ ((zr h 130 p1) = (-1))) then (1 : Int32) else 0)
def f_M_chainHolds_ok (p1 : Int32) (h : zm_H) : Prop := (vp_in p1 60 ∧ ((((zr h 128 p1) ≤ 0) → True) ∧ (¬ ((zr h 128 p1) ≤ 0) → vp_in p1 60)))
def f_M_leastHold_l40_b (v1 : Int32) (v2 : Int32) (v3 : Int32) (v4 : Int32) (v5 : Int32) (h : zm_H) : Nat × Int32 × Int32 × Int32 := (if (3 ≤ v5) then (1, v3, v4, v5) else (0, (if ((f_M_chainHolds ((3 * ((10 * v1) + v2)) + v5) h) = 0) then (v3 : Int32) else (if (v4 = 0) then (((zr h 128 ((3 * ((10 * v1) + v2)) + v5)) - ((zr h 129 ((3 * ((10 * v1) + v2)) + v5)) / 100)) : Int32) else (if (((zr h 128 ((3 * ((10 * v1) + v2)) + v5)) - ((zr h 129 ((3 * ((10 * v1) + v2)) + v5)) / 100)) ≤ v3) then (((zr h 128 ((3 * ((10 * v1) + v2)) + v5)) - ((zr h 129 ((3 * ((10 * v1) + v2)) + v5)) / 100)) : Int32) else v3))), (if ((f_M_chainHolds ((3 * ((10 * v1) + v2)) + v5) h) = 0) then (v4 : Int32) else 1), (v5 + 1)))
def f_M_leastHold_l40_b_ok (v1 : Int32) (v2 : Int32) (v3 : Int32) (v4 : Int32) (v5 : Int32) (h : zm_H) : Prop := (((3 ≤ v5) → True) ∧ (¬ (3 ≤ v5) → (f_M_chainHolds_ok ((3 * ((10 * v1) + v2)) + v5) h ∧ ((((f_M_chainHolds ((3 * ((10 * v1) + v2)) + v5) h) = 0) → True) ∧ (¬ ((f_M_chainHolds ((3 * ((10 * v1) + v2)) + v5) h) = 0) → (vp_in ((3 * ((10 * v1) + v2)) + v5) 60 ∧ vp_in ((3 * ((10 * v1) + v2)) + v5) 60))))))
def f_M_leastHold_l40 (v1 : Int32) (v2 : Int32) (h : zm_H) (n : Nat) (t : Int32 × Int32 × Int32) : Nat × Int32 × Int32 × Int32 := zwh (fun t => f_M_leastHold_l40_b v1 v2 t.1 t.2.1 t.2.2 h) n t
def f_M_leastHold_l40_ok (v1 : Int32) (v2 : Int32) (h : zm_H) (n : Nat) (t : Int32 × Int32 × Int32) : Prop := zwo (fun t => f_M_leastHold_l40_b v1 v2 t.1 t.2.1 t.2.2 h) (fun t => f_M_leastHold_l40_b_ok v1 v2 t.1 t.2.1 t.2.2 h) n t
def f_M_leastHold_k114 (v3 : Int32) (v4 : Int32) (h : zm_H) : Int32 := (if (v4 = 0) then (0 : Int32) else v3)
def f_M_leastHold_k114_ok (v3 : Int32) (v4 : Int32) (h : zm_H) : Prop := True
def f_M_leastHold_a40 (r : Nat × Int32 × Int32 × Int32) (h : zm_H) : Int32 := (f_M_leastHold_k114 (r.2.1) (r.2.2.1) h)
def f_M_leastHold_a40_ok (r : Nat × Int32 × Int32 × Int32) (h : zm_H) : Prop := True
def f_M_leastHold_k37 (v1 : Int32) (v2 : Int32) (v3 : Int32) (v4 : Int32) (h : zm_H) : Int32 := (f_M_leastHold_a40 (f_M_leastHold_l40 v1 v2 h zF (v3, v4, 0)) h)
def f_M_leastHold_k37_ok (v1 : Int32) (v2 : Int32) (v3 : Int32) (v4 : Int32) (h : zm_H) : Prop := (f_M_leastHold_l40_ok v1 v2 h zF (v3, v4, 0) ∧ f_M_leastHold_a40_ok (f_M_leastHold_l40 v1 v2 h zF (v3, v4, 0)) h)
def f_M_leastHold (p1 : Int32) (p2 : Int32) (h : zm_H) : Int32 := (if ((zr h 123 ((10 * p1) + p2)) = 1) then (f_M_leastHold_k37 p1 p2 (-1) 0 h) else (if ((zr h 123 ((10 * p1) + p2)) = 2) then (f_M_leastHold_k37 p1 p2 (-1) 0 h) else 0))
def f_M_leastHold_ok (p1 : Int32) (p2 : Int32) (h : zm_H) : Prop := (vp_in ((10 * p1) + p2) 20 ∧ ((((zr h 123 ((10 * p1) + p2)) = 1) → (f_M_leastHold_k37_ok p1 p2 (-1) 0 h)) ∧ (¬ ((zr h 123 ((10 * p1) + p2)) = 1) → (vp_in ((10 * p1) + p2) 20 ∧ ((((zr h 123 ((10 * p1) + p2)) = 2) → (f_M_leastHold_k37_ok p1 p2 (-1) 0 h)) ∧ (¬ ((zr h 123 ((10 * p1) + p2)) = 2) → True))))))
def f_M_asks (p1 : Int32) (p2 : Int32) (p3 : Int32) (h : zm_H) : zm_H := (zs (zs (zs (zs (zs (zs (zs (zs (zs h 149 0 (zf h 92 79)) 149 1 (zf h 92 80)) 149 2 ((zf h 92 81) + 1)) 149 6 (p3 / 8)) 149 7 (zm_rm p3 8)) 149 3 (if (p2 = (-1)) then (0 : Int32) else (zr h 126 ((10 * p1) + p2)))) 149 4 (if (p2 = (-1)) then (0 : Int32) else (f_M_leastHold p1 p2 (zs (zs (zs (zs (zs (zs h 149 0 (zf h 92 79)) 149 1 (zf h 92 80)) 149 2 ((zf h 92 81) + 1)) 149 6 (p3 / 8)) 149 7 (zm_rm p3 8)) 149 3 (if (p2 = (-1)) then (0 : Int32) else (zr h 126 ((10 * p1) + p2))))))) 149 5 (if (p2 = (-1)) then (0 : Int32) else (zr h 112 p2))) 149 8 (if (¬ (p2 = (-1)) ∧ (((zr h 123 ((10 * p1) + p2)) = 1) ∨ ((zr h 123 ((10 * p1) + p2)) = 2))) then (1 : Int32) else 0))
def f_M_asks_ok (p1 : Int32) (p2 : Int32) (p3 : Int32) (h : zm_H) : Prop := ((((p2 = (-1)) → True) ∧ (¬ (p2 = (-1)) → vp_in ((10 * p1) + p2) 20)) ∧ ((((p2 = (-1)) → True) ∧ (¬ (p2 = (-1)) → f_M_leastHold_ok p1 p2 (zs (zs (zs (zs (zs (zs h 149 0 (zf h 92 79)) 149 1 (zf h 92 80)) 149 2 ((zf h 92 81) + 1)) 149 6 (p3 / 8)) 149 7 (zm_rm p3 8)) 149 3 (if (p2 = (-1)) then (0 : Int32) else (zr h 126 ((10 * p1) + p2)))))) ∧ ((((p2 = (-1)) → True) ∧ (¬ (p2 = (-1)) → vp_in p2 10)) ∧ (((p2 = (-1)) → True) ∧ (¬ (p2 = (-1)) → (vp_in ((10 * p1) + p2) 20 ∧ ((((zr h 123 ((10 * p1) + p2)) = 1) → True) ∧ (¬ ((zr h 123 ((10 * p1) + p2)) = 1) → vp_in ((10 * p1) + p2) 20))))))))
theorem f_M_asks_w (p1 : Int32) (p2 : Int32) (p3 : Int32) (h : zm_H) : zWr [149] [] h ((f_M_asks p1 p2 p3 h)) := by
  unfold f_M_asks
  exact (zWr_si (by decide) (zWr_si (by decide) (zWr_si (by decide) (zWr_si (by decide) (zWr_si (by decide) (zWr_si (by decide) (zWr_si (by decide) (zWr_si (by decide) (zWr_si (by decide) (zWr.refl _ _))))))))))
def f_M_spell_l24_k70 (v1 : Int32) (h : zm_H) : Nat × Int32 × zm_H := (0, (v1 + 1), h)
def f_M_spell_l24_k70_ok (v1 : Int32) (h : zm_H) : Prop := True
theorem f_M_spell_l24_k70_w (v1 : Int32) (h : zm_H) : zWr [] [] h ((f_M_spell_l24_k70 v1 h).2.2) := by
  unfold f_M_spell_l24_k70
  exact (zWr.refl _ _)
def f_M_near (p0 : Int64) (h : zm_H) : Int32 := (if (0 ≤ (lg_cmp p0 ((-1000000) : Int32).toInt64)) then ((if ((lg_cmp p0 (1000000 : Int32).toInt64) ≤ 0) then (p0.toInt32 : Int32) else 1000000) : Int32) else (-1000000))
def f_M_near_ok (p0 : Int64) (h : zm_H) : Prop := True
def f_M_of (p0 : Int32) (p1 : Int32) (p2 : Int32) (h : zm_H) : Int32 := (if p0 = 2 then (f_M_near (p1.toInt64 + p2.toInt64) h) else (if p0 = 3 then (f_M_near (p1.toInt64 - p2.toInt64) h) else (if p0 = 4 then (f_M_near (p1.toInt64 * p2.toInt64) h) else (if p0 = 5 then (if (p2 = 0) then (0 : Int32) else (p1 / p2)) else (if p0 = 6 then (if (¬ (p2 ≤ p1)) then (1 : Int32) else 0) else (if p0 = 7 then (if (¬ (p1 ≤ p2)) then (1 : Int32) else 0) else (if p0 = 8 then (if (p1 = p2) then (1 : Int32) else 0) else (if p0 = 9 then (if ((p1 + p2) = 2) then (1 : Int32) else 0) else (if (¬ ((p1 + p2) ≤ 0)) then (1 : Int32) else 0)))))))))
def f_M_of_ok (p0 : Int32) (p1 : Int32) (p2 : Int32) (h : zm_H) : Prop := ((p0 = 2 → True) ∧ (¬ p0 = 2 → ((p0 = 3 → True) ∧ (¬ p0 = 3 → ((p0 = 4 → True) ∧ (¬ p0 = 4 → ((p0 = 5 → (((p2 = 0) → True) ∧ (¬ (p2 = 0) → ¬ p2 = 0))) ∧ (¬ p0 = 5 → ((p0 = 6 → True) ∧ (¬ p0 = 6 → ((p0 = 7 → True) ∧ (¬ p0 = 7 → ((p0 = 8 → True) ∧ (¬ p0 = 8 → ((p0 = 9 → True) ∧ (¬ p0 = 9 → True))))))))))))))))
def f_M_tells_l44_b (v1 : Int32) (v3 : Int32) (v4 : Int32) (v5 : Int32) (h : zm_H) : Nat × Int32 × Int32 × zm_H := (if (((400 * v3) + (zr h 102 ((4 * v3) + v1))) ≤ v5) then (1, v4, v5, h) else (0, (if (1 < (zr h 99 v5)) then ((if ((zr h 99 v5) = 11) then (v4 : Int32) else (v4 + (-1))) : Int32) else (v4 + 1)), (v5 + 1), (if (1 < (zr h 99 v5)) then (if ((zr h 99 v5) = 11) then (zs h 150 (v4 - 1) (1 - (zr h 150 (v4 - 1)))) else (zs h 150 ((v4 + (-1)) - 1) (f_M_of (zr h 99 v5) (zr h 150 ((v4 + (-1)) - 1)) (zr h 150 (v4 + (-1))) h))) else (zs h 150 v4 (if ((zr h 99 v5) = 0) then ((zr h 100 v5) : Int32) else (zr h 149 (zr h 100 v5)))))))
def f_M_tells_l44_b_ok (v1 : Int32) (v3 : Int32) (v4 : Int32) (v5 : Int32) (h : zm_H) : Prop := (vp_in ((4 * v3) + v1) 40 ∧ (((((400 * v3) + (zr h 102 ((4 * v3) + v1))) ≤ v5) → True) ∧ (¬ (((400 * v3) + (zr h 102 ((4 * v3) + v1))) ≤ v5) → (vp_in v5 4000 ∧ (((1 < (zr h 99 v5)) → ((((zr h 99 v5) = 11) → (vp_in (v4 - 1) 400 ∧ vp_in (v4 - 1) 400)) ∧ (¬ ((zr h 99 v5) = 11) → (vp_in ((v4 + (-1)) - 1) 400 ∧ (vp_in (v4 + (-1)) 400 ∧ (f_M_of_ok (zr h 99 v5) (zr h 150 ((v4 + (-1)) - 1)) (zr h 150 (v4 + (-1))) h ∧ vp_in ((v4 + (-1)) - 1) 400)))))) ∧ (¬ (1 < (zr h 99 v5)) → (((((zr h 99 v5) = 0) → vp_in v5 4000) ∧ (¬ ((zr h 99 v5) = 0) → (vp_in v5 4000 ∧ vp_in (zr h 100 v5) 9))) ∧ vp_in v4 400)))))))
theorem f_M_tells_l44_b_w (v1 : Int32) (v3 : Int32) (v4 : Int32) (v5 : Int32) (h : zm_H) : zWr [150] [] h ((f_M_tells_l44_b v1 v3 v4 v5 h).2.2.2) := by
  unfold f_M_tells_l44_b
  exact (zWr_ite (fun z : Nat × Int32 × Int32 × zm_H => z.2.2.2) (zWr.refl _ _) (zWr_ite (fun z : zm_H => z) (zWr_ite (fun z : zm_H => z) (zWr_si (by decide) (zWr.refl _ _)) (zWr_si (by decide) (zWr.refl _ _))) (zWr_si (by decide) (zWr.refl _ _))))
def f_M_tells_l44 (v1 : Int32) (v3 : Int32) (n : Nat) (t : Int32 × Int32 × zm_H) : Nat × Int32 × Int32 × zm_H := zwh (fun t => f_M_tells_l44_b v1 v3 t.1 t.2.1 t.2.2) n t
def f_M_tells_l44_ok (v1 : Int32) (v3 : Int32) (n : Nat) (t : Int32 × Int32 × zm_H) : Prop := zwo (fun t => f_M_tells_l44_b v1 v3 t.1 t.2.1 t.2.2) (fun t => f_M_tells_l44_b_ok v1 v3 t.1 t.2.1 t.2.2) n t
theorem f_M_tells_l44_w (v1 : Int32) (v3 : Int32) (n : Nat) (t : Int32 × Int32 × zm_H) : zWr [150] [] (t.2.2) ((f_M_tells_l44 v1 v3 n t).2.2.2) := by
  unfold f_M_tells_l44
  exact zWr_zwh (fun t : Int32 × Int32 × zm_H => t.2.2) (fun t => f_M_tells_l44_b_w v1 v3 t.1 t.2.1 t.2.2)
def f_M_tells_k189 (h : zm_H) : Int32 × zm_H := ((zr h 150 0), h)
def f_M_tells_k189_ok (h : zm_H) : Prop := True
theorem f_M_tells_k189_w (h : zm_H) : zWr [] [] h ((f_M_tells_k189 h).2) := by
  unfold f_M_tells_k189
  exact (zWr.refl _ _)
def f_M_tells_a44 (r : Nat × Int32 × Int32 × zm_H) : Int32 × zm_H := (f_M_tells_k189 (r.2.2.2))
def f_M_tells_a44_ok (r : Nat × Int32 × Int32 × zm_H) : Prop := True
theorem f_M_tells_a44_w (r : Nat × Int32 × Int32 × zm_H) : zWr [] [] (r.2.2.2) ((f_M_tells_a44 r).2) := by
  unfold f_M_tells_a44
  exact (zWr_tr (f_M_tells_k189_w (r.2.2.2)) (by decide) (by decide) (zWr.refl _ _))
def f_M_tells (p1 : Int32) (p2 : Int32) (h : zm_H) : Int32 × zm_H := (if ((f_M_inForce p1 p2 h) = (-1)) then ((if (p1 = 2) then (1 : Int32) else 0), h) else (f_M_tells_a44 (f_M_tells_l44 p1 (f_M_inForce p1 p2 h) zF (0, ((400 * (f_M_inForce p1 p2 h)) + (zr h 101 ((4 * (f_M_inForce p1 p2 h)) + p1))), h))))
def f_M_tells_ok (p1 : Int32) (p2 : Int32) (h : zm_H) : Prop := (f_M_inForce_ok p1 p2 h ∧ ((((f_M_inForce p1 p2 h) = (-1)) → True) ∧ (¬ ((f_M_inForce p1 p2 h) = (-1)) → (vp_in ((4 * (f_M_inForce p1 p2 h)) + p1) 40 ∧ (f_M_tells_l44_ok p1 (f_M_inForce p1 p2 h) zF (0, ((400 * (f_M_inForce p1 p2 h)) + (zr h 101 ((4 * (f_M_inForce p1 p2 h)) + p1))), h) ∧ f_M_tells_a44_ok (f_M_tells_l44 p1 (f_M_inForce p1 p2 h) zF (0, ((400 * (f_M_inForce p1 p2 h)) + (zr h 101 ((4 * (f_M_inForce p1 p2 h)) + p1))), h)))))))
theorem f_M_tells_w (p1 : Int32) (p2 : Int32) (h : zm_H) : zWr [150] [] h ((f_M_tells p1 p2 h).2) := by
  unfold f_M_tells
  exact (zWr_ite (fun z : Int32 × zm_H => z.2) (zWr.refl _ _) (zWr_tr (f_M_tells_a44_w (f_M_tells_l44 p1 (f_M_inForce p1 p2 h) zF (0, ((400 * (f_M_inForce p1 p2 h)) + (zr h 101 ((4 * (f_M_inForce p1 p2 h)) + p1))), h))) (by decide) (by decide) (zWr_tr (f_M_tells_l44_w p1 (f_M_inForce p1 p2 h) zF (0, ((400 * (f_M_inForce p1 p2 h)) + (zr h 101 ((4 * (f_M_inForce p1 p2 h)) + p1))), h)) (by decide) (by decide) (zWr.refl _ _))))
def f_M_spell_l24_k47 (v1 : Int32) (w0 : Int32) (h : zm_H) : Nat × Int32 × zm_H := (0, (v1 + 1), (if (w0 = 0) then (zs (zs h 139 v1 (zm_nb 2 0)) 145 v1 ((zr h 145 v1) + 1)) else h))
def f_M_spell_l24_k47_ok (v1 : Int32) (w0 : Int32) (h : zm_H) : Prop := (((w0 = 0) → (vp_in v1 3 ∧ (vp_in v1 3 ∧ vp_in v1 3))) ∧ (¬ (w0 = 0) → True))
theorem f_M_spell_l24_k47_w (v1 : Int32) (w0 : Int32) (h : zm_H) : zWr [139, 145] [] h ((f_M_spell_l24_k47 v1 w0 h).2.2) := by
  unfold f_M_spell_l24_k47
  exact (zWr_ite (fun z : zm_H => z) (zWr_si (by decide) (zWr_si (by decide) (zWr.refl _ _))) (zWr.refl _ _))
def f_M_spell_l24_b (v1 : Int32) (h : zm_H) : Nat × Int32 × zm_H := (if (3 ≤ v1) then (1, v1, h) else (if ((zr h 139 v1) = 0) then (f_M_spell_l24_k70 v1 h) else (f_M_spell_l24_k47 v1 (f_M_tells 2 (zf h 92 23) h).1 (f_M_tells 2 (zf h 92 23) h).2)))
def f_M_spell_l24_b_ok (v1 : Int32) (h : zm_H) : Prop := (((3 ≤ v1) → True) ∧ (¬ (3 ≤ v1) → (vp_in v1 3 ∧ ((((zr h 139 v1) = 0) → True) ∧ (¬ ((zr h 139 v1) = 0) → (f_M_tells_ok 2 (zf h 92 23) h ∧ (f_M_spell_l24_k47_ok v1 (f_M_tells 2 (zf h 92 23) h).1 (f_M_tells 2 (zf h 92 23) h).2)))))))
theorem f_M_spell_l24_b_w (v1 : Int32) (h : zm_H) : zWr [139, 145, 150] [] h ((f_M_spell_l24_b v1 h).2.2) := by
  unfold f_M_spell_l24_b
  exact (zWr_ite (fun z : Nat × Int32 × zm_H => z.2.2) (zWr.refl _ _) (zWr_ite (fun z : Nat × Int32 × zm_H => z.2.2) (zWr_tr (f_M_spell_l24_k70_w v1 h) (by decide) (by decide) (zWr.refl _ _)) (zWr_tr (f_M_spell_l24_k47_w v1 (f_M_tells 2 (zf h 92 23) h).1 (f_M_tells 2 (zf h 92 23) h).2) (by decide) (by decide) (zWr_tr (f_M_tells_w 2 (zf h 92 23) h) (by decide) (by decide) (zWr.refl _ _)))))
def f_M_spell_l24 (n : Nat) (t : Int32 × zm_H) : Nat × Int32 × zm_H := zwh (fun t => f_M_spell_l24_b t.1 t.2) n t
def f_M_spell_l24_ok (n : Nat) (t : Int32 × zm_H) : Prop := zwo (fun t => f_M_spell_l24_b t.1 t.2) (fun t => f_M_spell_l24_b_ok t.1 t.2) n t
theorem f_M_spell_l24_w (n : Nat) (t : Int32 × zm_H) : zWr [139, 145, 150] [] (t.2) ((f_M_spell_l24 n t).2.2) := by
  unfold f_M_spell_l24
  exact zWr_zwh (fun t : Int32 × zm_H => t.2) (fun t => f_M_spell_l24_b_w t.1 t.2)
def f_M_goes_l2_k84 (v1 : Int32) (v2 : Int32) (v3 : Int32) (h : zm_H) : Nat × Int32 × zm_H := (0, (v3 + 1), h)
def f_M_goes_l2_k84_ok (v1 : Int32) (v2 : Int32) (v3 : Int32) (h : zm_H) : Prop := True
theorem f_M_goes_l2_k84_w (v1 : Int32) (v2 : Int32) (v3 : Int32) (h : zm_H) : zWr [] [] h ((f_M_goes_l2_k84 v1 v2 v3 h).2.2) := by
  unfold f_M_goes_l2_k84
  exact (zWr.refl _ _)
def f_M_goes_l2_k73 (v1 : Int32) (v2 : Int32) (v3 : Int32) (v4 : Int32) (w0 : Int32) (h : zm_H) : Nat × Int32 × zm_H := (0, (v3 + 1), (if (w0 = 0) then h else (zs h 123 v4 1)))
def f_M_goes_l2_k73_ok (v1 : Int32) (v2 : Int32) (v3 : Int32) (v4 : Int32) (w0 : Int32) (h : zm_H) : Prop := (((w0 = 0) → True) ∧ (¬ (w0 = 0) → vp_in v4 20))
theorem f_M_goes_l2_k73_w (v1 : Int32) (v2 : Int32) (v3 : Int32) (v4 : Int32) (w0 : Int32) (h : zm_H) : zWr [123] [] h ((f_M_goes_l2_k73 v1 v2 v3 v4 w0 h).2.2) := by
  unfold f_M_goes_l2_k73
  exact (zWr_ite (fun z : zm_H => z) (zWr.refl _ _) (zWr_si (by decide) (zWr.refl _ _)))
def f_M_goes_l2_k42 (v1 : Int32) (v2 : Int32) (v3 : Int32) (v4 : Int32) (w0 : Int32) (h : zm_H) : Nat × Int32 × zm_H := (0, (v3 + 1), (if (w0 = 0) then h else (zs h 123 v4 2)))
def f_M_goes_l2_k42_ok (v1 : Int32) (v2 : Int32) (v3 : Int32) (v4 : Int32) (w0 : Int32) (h : zm_H) : Prop := (((w0 = 0) → True) ∧ (¬ (w0 = 0) → vp_in v4 20))
theorem f_M_goes_l2_k42_w (v1 : Int32) (v2 : Int32) (v3 : Int32) (v4 : Int32) (w0 : Int32) (h : zm_H) : zWr [123] [] h ((f_M_goes_l2_k42 v1 v2 v3 v4 w0 h).2.2) := by
  unfold f_M_goes_l2_k42
  exact (zWr_ite (fun z : zm_H => z) (zWr.refl _ _) (zWr_si (by decide) (zWr.refl _ _)))
def f_M_goes_l2_k25 (v1 : Int32) (v2 : Int32) (v3 : Int32) (v4 : Int32) (h : zm_H) : Nat × Int32 × zm_H := (if ((zr h 123 v4) = 1) then (f_M_goes_l2_k42 v1 v2 v3 v4 (f_M_tells 0 v2 h).1 (f_M_tells 0 v2 h).2) else (if ((zr h 123 v4) = 2) then (f_M_goes_l2_k73 v1 v2 v3 v4 (f_M_tells 1 v2 h).1 (f_M_tells 1 v2 h).2) else (f_M_goes_l2_k84 v1 v2 v3 h)))
def f_M_goes_l2_k25_ok (v1 : Int32) (v2 : Int32) (v3 : Int32) (v4 : Int32) (h : zm_H) : Prop := (vp_in v4 20 ∧ ((((zr h 123 v4) = 1) → (f_M_tells_ok 0 v2 h ∧ (f_M_goes_l2_k42_ok v1 v2 v3 v4 (f_M_tells 0 v2 h).1 (f_M_tells 0 v2 h).2))) ∧ (¬ ((zr h 123 v4) = 1) → (vp_in v4 20 ∧ ((((zr h 123 v4) = 2) → (f_M_tells_ok 1 v2 h ∧ (f_M_goes_l2_k73_ok v1 v2 v3 v4 (f_M_tells 1 v2 h).1 (f_M_tells 1 v2 h).2))) ∧ (¬ ((zr h 123 v4) = 2) → True))))))
theorem f_M_goes_l2_k25_w (v1 : Int32) (v2 : Int32) (v3 : Int32) (v4 : Int32) (h : zm_H) : zWr [123, 150] [] h ((f_M_goes_l2_k25 v1 v2 v3 v4 h).2.2) := by
  unfold f_M_goes_l2_k25
  exact (zWr_ite (fun z : Nat × Int32 × zm_H => z.2.2) (zWr_tr (f_M_goes_l2_k42_w v1 v2 v3 v4 (f_M_tells 0 v2 h).1 (f_M_tells 0 v2 h).2) (by decide) (by decide) (zWr_tr (f_M_tells_w 0 v2 h) (by decide) (by decide) (zWr.refl _ _))) (zWr_ite (fun z : Nat × Int32 × zm_H => z.2.2) (zWr_tr (f_M_goes_l2_k73_w v1 v2 v3 v4 (f_M_tells 1 v2 h).1 (f_M_tells 1 v2 h).2) (by decide) (by decide) (zWr_tr (f_M_tells_w 1 v2 h) (by decide) (by decide) (zWr.refl _ _))) (zWr_tr (f_M_goes_l2_k84_w v1 v2 v3 h) (by decide) (by decide) (zWr.refl _ _))))
def f_M_goes_l2_b (v1 : Int32) (v2 : Int32) (v3 : Int32) (h : zm_H) : Nat × Int32 × zm_H := (if ((zf h 92 33) ≤ v3) then (1, v3, h) else (f_M_goes_l2_k25 v1 v2 v3 ((10 * v1) + v3) (f_M_asks v1 v3 v2 h)))
def f_M_goes_l2_b_ok (v1 : Int32) (v2 : Int32) (v3 : Int32) (h : zm_H) : Prop := ((((zf h 92 33) ≤ v3) → True) ∧ (¬ ((zf h 92 33) ≤ v3) → (f_M_asks_ok v1 v3 v2 h ∧ (f_M_goes_l2_k25_ok v1 v2 v3 ((10 * v1) + v3) (f_M_asks v1 v3 v2 h)))))
theorem f_M_goes_l2_b_w (v1 : Int32) (v2 : Int32) (v3 : Int32) (h : zm_H) : zWr [123, 149, 150] [] h ((f_M_goes_l2_b v1 v2 v3 h).2.2) := by
  unfold f_M_goes_l2_b
  exact (zWr_ite (fun z : Nat × Int32 × zm_H => z.2.2) (zWr.refl _ _) (zWr_tr (f_M_goes_l2_k25_w v1 v2 v3 ((10 * v1) + v3) (f_M_asks v1 v3 v2 h)) (by decide) (by decide) (zWr_tr (f_M_asks_w v1 v3 v2 h) (by decide) (by decide) (zWr.refl _ _))))
def f_M_goes_l2 (v1 : Int32) (v2 : Int32) (n : Nat) (t : Int32 × zm_H) : Nat × Int32 × zm_H := zwh (fun t => f_M_goes_l2_b v1 v2 t.1 t.2) n t
def f_M_goes_l2_ok (v1 : Int32) (v2 : Int32) (n : Nat) (t : Int32 × zm_H) : Prop := zwo (fun t => f_M_goes_l2_b v1 v2 t.1 t.2) (fun t => f_M_goes_l2_b_ok v1 v2 t.1 t.2) n t
theorem f_M_goes_l2_w (v1 : Int32) (v2 : Int32) (n : Nat) (t : Int32 × zm_H) : zWr [123, 149, 150] [] (t.2) ((f_M_goes_l2 v1 v2 n t).2.2) := by
  unfold f_M_goes_l2
  exact zWr_zwh (fun t : Int32 × zm_H => t.2) (fun t => f_M_goes_l2_b_w v1 v2 t.1 t.2)
def f_M_waves_l17_b (v1 : Int32) (v2 : Int32) (v3 : Int32) (h : zm_H) : Nat × Int32 × zm_H := (if (10 ≤ v3) then (1, v3, h) else (0, (v3 + 1), (zs h 151 v3 v2)))
def f_M_waves_l17_b_ok (v1 : Int32) (v2 : Int32) (v3 : Int32) (h : zm_H) : Prop := (((10 ≤ v3) → True) ∧ (¬ (10 ≤ v3) → vp_in v3 10))
theorem f_M_waves_l17_b_w (v1 : Int32) (v2 : Int32) (v3 : Int32) (h : zm_H) : zWr [151] [] h ((f_M_waves_l17_b v1 v2 v3 h).2.2) := by
  unfold f_M_waves_l17_b
  exact (zWr_ite (fun z : Nat × Int32 × zm_H => z.2.2) (zWr.refl _ _) (zWr_si (by decide) (zWr.refl _ _)))
def f_M_waves_l17 (v1 : Int32) (v2 : Int32) (n : Nat) (t : Int32 × zm_H) : Nat × Int32 × zm_H := zwh (fun t => f_M_waves_l17_b v1 v2 t.1 t.2) n t
def f_M_waves_l17_ok (v1 : Int32) (v2 : Int32) (n : Nat) (t : Int32 × zm_H) : Prop := zwo (fun t => f_M_waves_l17_b v1 v2 t.1 t.2) (fun t => f_M_waves_l17_b_ok v1 v2 t.1 t.2) n t
theorem f_M_waves_l17_w (v1 : Int32) (v2 : Int32) (n : Nat) (t : Int32 × zm_H) : zWr [151] [] (t.2) ((f_M_waves_l17 v1 v2 n t).2.2) := by
  unfold f_M_waves_l17
  exact zWr_zwh (fun t : Int32 × zm_H => t.2) (fun t => f_M_waves_l17_b_w v1 v2 t.1 t.2)
def f_M_waves_l38_b (v1 : Int32) (v2 : Int32) (v3 : Int32) (h : zm_H) : Nat × Int32 × zm_H := (if (10 ≤ v3) then (1, v3, h) else (0, (v3 + 1), (zs h 153 v3 0)))
def f_M_waves_l38_b_ok (v1 : Int32) (v2 : Int32) (v3 : Int32) (h : zm_H) : Prop := (((10 ≤ v3) → True) ∧ (¬ (10 ≤ v3) → vp_in v3 10))
theorem f_M_waves_l38_b_w (v1 : Int32) (v2 : Int32) (v3 : Int32) (h : zm_H) : zWr [153] [] h ((f_M_waves_l38_b v1 v2 v3 h).2.2) := by
  unfold f_M_waves_l38_b
  exact (zWr_ite (fun z : Nat × Int32 × zm_H => z.2.2) (zWr.refl _ _) (zWr_si (by decide) (zWr.refl _ _)))
def f_M_waves_l38 (v1 : Int32) (v2 : Int32) (n : Nat) (t : Int32 × zm_H) : Nat × Int32 × zm_H := zwh (fun t => f_M_waves_l38_b v1 v2 t.1 t.2) n t
def f_M_waves_l38_ok (v1 : Int32) (v2 : Int32) (n : Nat) (t : Int32 × zm_H) : Prop := zwo (fun t => f_M_waves_l38_b v1 v2 t.1 t.2) (fun t => f_M_waves_l38_b_ok v1 v2 t.1 t.2) n t
theorem f_M_waves_l38_w (v1 : Int32) (v2 : Int32) (n : Nat) (t : Int32 × zm_H) : zWr [153] [] (t.2) ((f_M_waves_l38 v1 v2 n t).2.2) := by
  unfold f_M_waves_l38
  exact zWr_zwh (fun t : Int32 × zm_H => t.2) (fun t => f_M_waves_l38_b_w v1 v2 t.1 t.2)
def f_M_waves_l59_l67_b (v1 : Int32) (v2 : Int32) (v3 : Int32) (v4 : Int32) (h : zm_H) : Nat × Int32 × zm_H := (if ((zf h 92 33) ≤ v4) then (1, v4, h) else (0, (v4 + 1), (if ((zr h 123 ((10 * v1) + v4)) = 1) then (if ((zm_rm (zr h 124 ((10 * v1) + v4)) 10) = v3) then (zs (zs h 153 v4 (((((zr h 151 ((zr h 124 ((10 * v1) + v4)) / 10)) * (if (0 ≤ (100 - (15 * (if ((zr h 113 v4) ≤ (zf h 92 80)) then (((zf h 92 80) - (zr h 113 v4)) : Int32) else ((zr h 113 v4) - (zf h 92 80)))))) then ((100 - (15 * (if ((zr h 113 v4) ≤ (zf h 92 80)) then (((zf h 92 80) - (zr h 113 v4)) : Int32) else ((zr h 113 v4) - (zf h 92 80))))) : Int32) else 0)) / 100) * (zr h 112 v4)) / ((zr h 112 v4) + 20))) 151 ((zr h 124 ((10 * v1) + v4)) / 10) ((zr h 151 ((zr h 124 ((10 * v1) + v4)) / 10)) - (zr (zs h 153 v4 (((((zr h 151 ((zr h 124 ((10 * v1) + v4)) / 10)) * (if (0 ≤ (100 - (15 * (if ((zr h 113 v4) ≤ (zf h 92 80)) then (((zf h 92 80) - (zr h 113 v4)) : Int32) else ((zr h 113 v4) - (zf h 92 80)))))) then ((100 - (15 * (if ((zr h 113 v4) ≤ (zf h 92 80)) then (((zf h 92 80) - (zr h 113 v4)) : Int32) else ((zr h 113 v4) - (zf h 92 80))))) : Int32) else 0)) / 100) * (zr h 112 v4)) / ((zr h 112 v4) + 20))) 153 v4))) else h) else h)))
def f_M_waves_l59_l67_b_ok (v1 : Int32) (v2 : Int32) (v3 : Int32) (v4 : Int32) (h : zm_H) : Prop := ((((zf h 92 33) ≤ v4) → True) ∧ (¬ ((zf h 92 33) ≤ v4) → (vp_in ((10 * v1) + v4) 20 ∧ ((((zr h 123 ((10 * v1) + v4)) = 1) → (vp_in ((10 * v1) + v4) 20 ∧ ((((zm_rm (zr h 124 ((10 * v1) + v4)) 10) = v3) → (vp_in v4 10 ∧ (((((zr h 113 v4) ≤ (zf h 92 80)) → vp_in v4 10) ∧ (¬ ((zr h 113 v4) ≤ (zf h 92 80)) → vp_in v4 10)) ∧ (vp_in ((10 * v1) + v4) 20 ∧ (vp_in ((zr h 124 ((10 * v1) + v4)) / 10) 10 ∧ (vp_in v4 10 ∧ (vp_in v4 10 ∧ (¬ ((zr h 112 v4) + 20) = 0 ∧ (vp_in v4 10 ∧ (vp_in ((zr h 124 ((10 * v1) + v4)) / 10) 10 ∧ (vp_in v4 10 ∧ vp_in ((zr h 124 ((10 * v1) + v4)) / 10) 10))))))))))) ∧ (¬ ((zm_rm (zr h 124 ((10 * v1) + v4)) 10) = v3) → True)))) ∧ (¬ ((zr h 123 ((10 * v1) + v4)) = 1) → True)))))
theorem f_M_waves_l59_l67_b_w (v1 : Int32) (v2 : Int32) (v3 : Int32) (v4 : Int32) (h : zm_H) : zWr [151, 153] [] h ((f_M_waves_l59_l67_b v1 v2 v3 v4 h).2.2) := by
  unfold f_M_waves_l59_l67_b
  exact (zWr_ite (fun z : Nat × Int32 × zm_H => z.2.2) (zWr.refl _ _) (zWr_ite (fun z : zm_H => z) (zWr_ite (fun z : zm_H => z) (zWr_si (by decide) (zWr_si (by decide) (zWr.refl _ _))) (zWr.refl _ _)) (zWr.refl _ _)))
def f_M_waves_l59_l67 (v1 : Int32) (v2 : Int32) (v3 : Int32) (n : Nat) (t : Int32 × zm_H) : Nat × Int32 × zm_H := zwh (fun t => f_M_waves_l59_l67_b v1 v2 v3 t.1 t.2) n t
def f_M_waves_l59_l67_ok (v1 : Int32) (v2 : Int32) (v3 : Int32) (n : Nat) (t : Int32 × zm_H) : Prop := zwo (fun t => f_M_waves_l59_l67_b v1 v2 v3 t.1 t.2) (fun t => f_M_waves_l59_l67_b_ok v1 v2 v3 t.1 t.2) n t
theorem f_M_waves_l59_l67_w (v1 : Int32) (v2 : Int32) (v3 : Int32) (n : Nat) (t : Int32 × zm_H) : zWr [151, 153] [] (t.2) ((f_M_waves_l59_l67 v1 v2 v3 n t).2.2) := by
  unfold f_M_waves_l59_l67
  exact zWr_zwh (fun t : Int32 × zm_H => t.2) (fun t => f_M_waves_l59_l67_b_w v1 v2 v3 t.1 t.2)
def f_M_waves_l59_l266_b (v1 : Int32) (v2 : Int32) (v3 : Int32) (v4 : Int32) (h : zm_H) : Nat × Int32 × zm_H := (if (10 ≤ v4) then (1, v4, h) else (0, (v4 + 1), (zs h 152 v4 (if (¬ ((v4 - (zf h 92 81)) < 0) ∧ (¬ (9 < (v4 - (zf h 92 81))))) then ((zr h 151 (v4 - (zf h 92 81))) : Int32) else v2))))
def f_M_waves_l59_l266_b_ok (v1 : Int32) (v2 : Int32) (v3 : Int32) (v4 : Int32) (h : zm_H) : Prop := (((10 ≤ v4) → True) ∧ (¬ (10 ≤ v4) → ((((¬ ((v4 - (zf h 92 81)) < 0) ∧ (¬ (9 < (v4 - (zf h 92 81))))) → vp_in (v4 - (zf h 92 81)) 10) ∧ (¬ (¬ ((v4 - (zf h 92 81)) < 0) ∧ (¬ (9 < (v4 - (zf h 92 81))))) → True)) ∧ vp_in v4 10)))
theorem f_M_waves_l59_l266_b_w (v1 : Int32) (v2 : Int32) (v3 : Int32) (v4 : Int32) (h : zm_H) : zWr [152] [] h ((f_M_waves_l59_l266_b v1 v2 v3 v4 h).2.2) := by
  unfold f_M_waves_l59_l266_b
  exact (zWr_ite (fun z : Nat × Int32 × zm_H => z.2.2) (zWr.refl _ _) (zWr_si (by decide) (zWr.refl _ _)))
def f_M_waves_l59_l266 (v1 : Int32) (v2 : Int32) (v3 : Int32) (n : Nat) (t : Int32 × zm_H) : Nat × Int32 × zm_H := zwh (fun t => f_M_waves_l59_l266_b v1 v2 v3 t.1 t.2) n t
def f_M_waves_l59_l266_ok (v1 : Int32) (v2 : Int32) (v3 : Int32) (n : Nat) (t : Int32 × zm_H) : Prop := zwo (fun t => f_M_waves_l59_l266_b v1 v2 v3 t.1 t.2) (fun t => f_M_waves_l59_l266_b_ok v1 v2 v3 t.1 t.2) n t
theorem f_M_waves_l59_l266_w (v1 : Int32) (v2 : Int32) (v3 : Int32) (n : Nat) (t : Int32 × zm_H) : zWr [152] [] (t.2) ((f_M_waves_l59_l266 v1 v2 v3 n t).2.2) := by
  unfold f_M_waves_l59_l266
  exact zWr_zwh (fun t : Int32 × zm_H => t.2) (fun t => f_M_waves_l59_l266_b_w v1 v2 v3 t.1 t.2)
def f_M_waves_l59_k348 (v1 : Int32) (v2 : Int32) (v3 : Int32) (h : zm_H) : Nat × Int32 × zm_H := (0, (v3 + 1), h)
def f_M_waves_l59_k348_ok (v1 : Int32) (v2 : Int32) (v3 : Int32) (h : zm_H) : Prop := True
theorem f_M_waves_l59_k348_w (v1 : Int32) (v2 : Int32) (v3 : Int32) (h : zm_H) : zWr [] [] h ((f_M_waves_l59_k348 v1 v2 v3 h).2.2) := by
  unfold f_M_waves_l59_k348
  exact (zWr.refl _ _)
def f_M_waves_l59_l321_b (v1 : Int32) (v2 : Int32) (v3 : Int32) (v4 : Int32) (h : zm_H) : Nat × Int32 × zm_H := (if (10 ≤ v4) then (1, v4, h) else (0, (v4 + 1), (zs h 151 v4 (zr h 152 v4))))
def f_M_waves_l59_l321_b_ok (v1 : Int32) (v2 : Int32) (v3 : Int32) (v4 : Int32) (h : zm_H) : Prop := (((10 ≤ v4) → True) ∧ (¬ (10 ≤ v4) → (vp_in v4 10 ∧ vp_in v4 10)))
theorem f_M_waves_l59_l321_b_w (v1 : Int32) (v2 : Int32) (v3 : Int32) (v4 : Int32) (h : zm_H) : zWr [151] [] h ((f_M_waves_l59_l321_b v1 v2 v3 v4 h).2.2) := by
  unfold f_M_waves_l59_l321_b
  exact (zWr_ite (fun z : Nat × Int32 × zm_H => z.2.2) (zWr.refl _ _) (zWr_si (by decide) (zWr.refl _ _)))
def f_M_waves_l59_l321 (v1 : Int32) (v2 : Int32) (v3 : Int32) (n : Nat) (t : Int32 × zm_H) : Nat × Int32 × zm_H := zwh (fun t => f_M_waves_l59_l321_b v1 v2 v3 t.1 t.2) n t
def f_M_waves_l59_l321_ok (v1 : Int32) (v2 : Int32) (v3 : Int32) (n : Nat) (t : Int32 × zm_H) : Prop := zwo (fun t => f_M_waves_l59_l321_b v1 v2 v3 t.1 t.2) (fun t => f_M_waves_l59_l321_b_ok v1 v2 v3 t.1 t.2) n t
theorem f_M_waves_l59_l321_w (v1 : Int32) (v2 : Int32) (v3 : Int32) (n : Nat) (t : Int32 × zm_H) : zWr [151] [] (t.2) ((f_M_waves_l59_l321 v1 v2 v3 n t).2.2) := by
  unfold f_M_waves_l59_l321
  exact zWr_zwh (fun t : Int32 × zm_H => t.2) (fun t => f_M_waves_l59_l321_b_w v1 v2 v3 t.1 t.2)
def f_M_waves_l59_a321 (v1 : Int32) (v2 : Int32) (v3 : Int32) (r : Nat × Int32 × zm_H) : Nat × Int32 × zm_H := (f_M_waves_l59_k348 v1 v2 v3 (r.2.2))
def f_M_waves_l59_a321_ok (v1 : Int32) (v2 : Int32) (v3 : Int32) (r : Nat × Int32 × zm_H) : Prop := True
theorem f_M_waves_l59_a321_w (v1 : Int32) (v2 : Int32) (v3 : Int32) (r : Nat × Int32 × zm_H) : zWr [] [] (r.2.2) ((f_M_waves_l59_a321 v1 v2 v3 r).2.2) := by
  unfold f_M_waves_l59_a321
  exact (zWr_tr (f_M_waves_l59_k348_w v1 v2 v3 (r.2.2)) (by decide) (by decide) (zWr.refl _ _))
def f_M_waves_l59_k318 (v1 : Int32) (v2 : Int32) (v3 : Int32) (h : zm_H) : Nat × Int32 × zm_H := (f_M_waves_l59_a321 v1 v2 v3 (f_M_waves_l59_l321 v1 v2 v3 zF (0, h)))
def f_M_waves_l59_k318_ok (v1 : Int32) (v2 : Int32) (v3 : Int32) (h : zm_H) : Prop := (f_M_waves_l59_l321_ok v1 v2 v3 zF (0, h) ∧ f_M_waves_l59_a321_ok v1 v2 v3 (f_M_waves_l59_l321 v1 v2 v3 zF (0, h)))
theorem f_M_waves_l59_k318_w (v1 : Int32) (v2 : Int32) (v3 : Int32) (h : zm_H) : zWr [151] [] h ((f_M_waves_l59_k318 v1 v2 v3 h).2.2) := by
  unfold f_M_waves_l59_k318
  exact (zWr_tr (f_M_waves_l59_a321_w v1 v2 v3 (f_M_waves_l59_l321 v1 v2 v3 zF (0, h))) (by decide) (by decide) (zWr_tr (f_M_waves_l59_l321_w v1 v2 v3 zF (0, h)) (by decide) (by decide) (zWr.refl _ _)))
def f_M_waves_l59_a266 (v1 : Int32) (v2 : Int32) (v3 : Int32) (r : Nat × Int32 × zm_H) : Nat × Int32 × zm_H := (f_M_waves_l59_k318 v1 v2 v3 (r.2.2))
def f_M_waves_l59_a266_ok (v1 : Int32) (v2 : Int32) (v3 : Int32) (r : Nat × Int32 × zm_H) : Prop := (f_M_waves_l59_k318_ok v1 v2 v3 (r.2.2))
theorem f_M_waves_l59_a266_w (v1 : Int32) (v2 : Int32) (v3 : Int32) (r : Nat × Int32 × zm_H) : zWr [151] [] (r.2.2) ((f_M_waves_l59_a266 v1 v2 v3 r).2.2) := by
  unfold f_M_waves_l59_a266
  exact (zWr_tr (f_M_waves_l59_k318_w v1 v2 v3 (r.2.2)) (by decide) (by decide) (zWr.refl _ _))
def f_M_waves_l59_k255 (v1 : Int32) (v2 : Int32) (v3 : Int32) (h : zm_H) : Nat × Int32 × zm_H := (if (v3 = 4) then (f_M_waves_l59_k348 v1 v2 v3 h) else (f_M_waves_l59_a266 v1 v2 v3 (f_M_waves_l59_l266 v1 v2 v3 zF (0, h))))
def f_M_waves_l59_k255_ok (v1 : Int32) (v2 : Int32) (v3 : Int32) (h : zm_H) : Prop := (((v3 = 4) → True) ∧ (¬ (v3 = 4) → (f_M_waves_l59_l266_ok v1 v2 v3 zF (0, h) ∧ f_M_waves_l59_a266_ok v1 v2 v3 (f_M_waves_l59_l266 v1 v2 v3 zF (0, h)))))
theorem f_M_waves_l59_k255_w (v1 : Int32) (v2 : Int32) (v3 : Int32) (h : zm_H) : zWr [151, 152] [] h ((f_M_waves_l59_k255 v1 v2 v3 h).2.2) := by
  unfold f_M_waves_l59_k255
  exact (zWr_ite (fun z : Nat × Int32 × zm_H => z.2.2) (zWr_tr (f_M_waves_l59_k348_w v1 v2 v3 h) (by decide) (by decide) (zWr.refl _ _)) (zWr_tr (f_M_waves_l59_a266_w v1 v2 v3 (f_M_waves_l59_l266 v1 v2 v3 zF (0, h))) (by decide) (by decide) (zWr_tr (f_M_waves_l59_l266_w v1 v2 v3 zF (0, h)) (by decide) (by decide) (zWr.refl _ _))))
def f_M_waves_l59_a67 (v1 : Int32) (v2 : Int32) (v3 : Int32) (r : Nat × Int32 × zm_H) : Nat × Int32 × zm_H := (f_M_waves_l59_k255 v1 v2 v3 (r.2.2))
def f_M_waves_l59_a67_ok (v1 : Int32) (v2 : Int32) (v3 : Int32) (r : Nat × Int32 × zm_H) : Prop := (f_M_waves_l59_k255_ok v1 v2 v3 (r.2.2))
theorem f_M_waves_l59_a67_w (v1 : Int32) (v2 : Int32) (v3 : Int32) (r : Nat × Int32 × zm_H) : zWr [151, 152] [] (r.2.2) ((f_M_waves_l59_a67 v1 v2 v3 r).2.2) := by
  unfold f_M_waves_l59_a67
  exact (zWr_tr (f_M_waves_l59_k255_w v1 v2 v3 (r.2.2)) (by decide) (by decide) (zWr.refl _ _))
def f_M_waves_l59_b (v1 : Int32) (v2 : Int32) (v3 : Int32) (h : zm_H) : Nat × Int32 × zm_H := (if (5 ≤ v3) then (1, v3, h) else (f_M_waves_l59_a67 v1 v2 v3 (f_M_waves_l59_l67 v1 v2 v3 zF (0, h))))
def f_M_waves_l59_b_ok (v1 : Int32) (v2 : Int32) (v3 : Int32) (h : zm_H) : Prop := (((5 ≤ v3) → True) ∧ (¬ (5 ≤ v3) → (f_M_waves_l59_l67_ok v1 v2 v3 zF (0, h) ∧ f_M_waves_l59_a67_ok v1 v2 v3 (f_M_waves_l59_l67 v1 v2 v3 zF (0, h)))))
theorem f_M_waves_l59_b_w (v1 : Int32) (v2 : Int32) (v3 : Int32) (h : zm_H) : zWr [151, 152, 153] [] h ((f_M_waves_l59_b v1 v2 v3 h).2.2) := by
  unfold f_M_waves_l59_b
  exact (zWr_ite (fun z : Nat × Int32 × zm_H => z.2.2) (zWr.refl _ _) (zWr_tr (f_M_waves_l59_a67_w v1 v2 v3 (f_M_waves_l59_l67 v1 v2 v3 zF (0, h))) (by decide) (by decide) (zWr_tr (f_M_waves_l59_l67_w v1 v2 v3 zF (0, h)) (by decide) (by decide) (zWr.refl _ _))))
def f_M_waves_l59 (v1 : Int32) (v2 : Int32) (n : Nat) (t : Int32 × zm_H) : Nat × Int32 × zm_H := zwh (fun t => f_M_waves_l59_b v1 v2 t.1 t.2) n t
def f_M_waves_l59_ok (v1 : Int32) (v2 : Int32) (n : Nat) (t : Int32 × zm_H) : Prop := zwo (fun t => f_M_waves_l59_b v1 v2 t.1 t.2) (fun t => f_M_waves_l59_b_ok v1 v2 t.1 t.2) n t
theorem f_M_waves_l59_w (v1 : Int32) (v2 : Int32) (n : Nat) (t : Int32 × zm_H) : zWr [151, 152, 153] [] (t.2) ((f_M_waves_l59 v1 v2 n t).2.2) := by
  unfold f_M_waves_l59
  exact zWr_zwh (fun t : Int32 × zm_H => t.2) (fun t => f_M_waves_l59_b_w v1 v2 t.1 t.2)
def f_M_waves_k354 (h : zm_H) : zm_H := h
def f_M_waves_k354_ok (h : zm_H) : Prop := True
theorem f_M_waves_k354_w (h : zm_H) : zWr [] [] h ((f_M_waves_k354 h)) := by
  unfold f_M_waves_k354
  exact (zWr.refl _ _)
def f_M_waves_a59 (r : Nat × Int32 × zm_H) : zm_H := (f_M_waves_k354 (r.2.2))
def f_M_waves_a59_ok (r : Nat × Int32 × zm_H) : Prop := True
theorem f_M_waves_a59_w (r : Nat × Int32 × zm_H) : zWr [] [] (r.2.2) ((f_M_waves_a59 r)) := by
  unfold f_M_waves_a59
  exact (zWr_tr (f_M_waves_k354_w (r.2.2)) (by decide) (by decide) (zWr.refl _ _))
def f_M_waves_k57 (v1 : Int32) (v2 : Int32) (h : zm_H) : zm_H := (f_M_waves_a59 (f_M_waves_l59 v1 v2 zF (0, h)))
def f_M_waves_k57_ok (v1 : Int32) (v2 : Int32) (h : zm_H) : Prop := (f_M_waves_l59_ok v1 v2 zF (0, h) ∧ f_M_waves_a59_ok (f_M_waves_l59 v1 v2 zF (0, h)))
theorem f_M_waves_k57_w (v1 : Int32) (v2 : Int32) (h : zm_H) : zWr [151, 152, 153] [] h ((f_M_waves_k57 v1 v2 h)) := by
  unfold f_M_waves_k57
  exact (zWr_tr (f_M_waves_a59_w (f_M_waves_l59 v1 v2 zF (0, h))) (by decide) (by decide) (zWr_tr (f_M_waves_l59_w v1 v2 zF (0, h)) (by decide) (by decide) (zWr.refl _ _)))
def f_M_waves_a38 (v1 : Int32) (v2 : Int32) (r : Nat × Int32 × zm_H) : zm_H := (f_M_waves_k57 v1 v2 (r.2.2))
def f_M_waves_a38_ok (v1 : Int32) (v2 : Int32) (r : Nat × Int32 × zm_H) : Prop := (f_M_waves_k57_ok v1 v2 (r.2.2))
theorem f_M_waves_a38_w (v1 : Int32) (v2 : Int32) (r : Nat × Int32 × zm_H) : zWr [151, 152, 153] [] (r.2.2) ((f_M_waves_a38 v1 v2 r)) := by
  unfold f_M_waves_a38
  exact (zWr_tr (f_M_waves_k57_w v1 v2 (r.2.2)) (by decide) (by decide) (zWr.refl _ _))
def f_M_waves_k36 (v1 : Int32) (v2 : Int32) (h : zm_H) : zm_H := (f_M_waves_a38 v1 v2 (f_M_waves_l38 v1 v2 zF (0, h)))
def f_M_waves_k36_ok (v1 : Int32) (v2 : Int32) (h : zm_H) : Prop := (f_M_waves_l38_ok v1 v2 zF (0, h) ∧ f_M_waves_a38_ok v1 v2 (f_M_waves_l38 v1 v2 zF (0, h)))
theorem f_M_waves_k36_w (v1 : Int32) (v2 : Int32) (h : zm_H) : zWr [151, 152, 153] [] h ((f_M_waves_k36 v1 v2 h)) := by
  unfold f_M_waves_k36
  exact (zWr_tr (f_M_waves_a38_w v1 v2 (f_M_waves_l38 v1 v2 zF (0, h))) (by decide) (by decide) (zWr_tr (f_M_waves_l38_w v1 v2 zF (0, h)) (by decide) (by decide) (zWr.refl _ _)))
def f_M_waves_a17 (v1 : Int32) (v2 : Int32) (r : Nat × Int32 × zm_H) : zm_H := (f_M_waves_k36 v1 v2 (r.2.2))
def f_M_waves_a17_ok (v1 : Int32) (v2 : Int32) (r : Nat × Int32 × zm_H) : Prop := (f_M_waves_k36_ok v1 v2 (r.2.2))
theorem f_M_waves_a17_w (v1 : Int32) (v2 : Int32) (r : Nat × Int32 × zm_H) : zWr [151, 152, 153] [] (r.2.2) ((f_M_waves_a17 v1 v2 r)) := by
  unfold f_M_waves_a17
  exact (zWr_tr (f_M_waves_k36_w v1 v2 (r.2.2)) (by decide) (by decide) (zWr.refl _ _))
def f_M_waves (p1 : Int32) (h : zm_H) : zm_H := (f_M_waves_a17 p1 (((zf h 92 79) * (zf h 92 79)) * (zf h 92 80)) (f_M_waves_l17 p1 (((zf h 92 79) * (zf h 92 79)) * (zf h 92 80)) zF (0, h)))
def f_M_waves_ok (p1 : Int32) (h : zm_H) : Prop := (f_M_waves_l17_ok p1 (((zf h 92 79) * (zf h 92 79)) * (zf h 92 80)) zF (0, h) ∧ f_M_waves_a17_ok p1 (((zf h 92 79) * (zf h 92 79)) * (zf h 92 80)) (f_M_waves_l17 p1 (((zf h 92 79) * (zf h 92 79)) * (zf h 92 80)) zF (0, h)))
theorem f_M_waves_w (p1 : Int32) (h : zm_H) : zWr [151, 152, 153] [] h ((f_M_waves p1 h)) := by
  unfold f_M_waves
  exact (zWr_tr (f_M_waves_a17_w p1 (((zf h 92 79) * (zf h 92 79)) * (zf h 92 80)) (f_M_waves_l17 p1 (((zf h 92 79) * (zf h 92 79)) * (zf h 92 80)) zF (0, h))) (by decide) (by decide) (zWr_tr (f_M_waves_l17_w p1 (((zf h 92 79) * (zf h 92 79)) * (zf h 92 80)) zF (0, h)) (by decide) (by decide) (zWr.refl _ _)))
def f_M_leak (p1 : Int32) (h : zm_H) : Int32 := (if (((zr h 125 p1) / 16) ≤ 100) then (((zr h 125 p1) / 16) : Int32) else 100)
def f_M_leak_ok (p1 : Int32) (h : zm_H) : Prop := (vp_in p1 20 ∧ (((((zr h 125 p1) / 16) ≤ 100) → vp_in p1 20) ∧ (¬ (((zr h 125 p1) / 16) ≤ 100) → True)))
def f_M_goes_l102_k216 (v1 : Int32) (v2 : Int32) (v3 : Int32) (h : zm_H) : Nat × Int32 × zm_H := (0, (v3 + 1), h)
def f_M_goes_l102_k216_ok (v1 : Int32) (v2 : Int32) (v3 : Int32) (h : zm_H) : Prop := True
theorem f_M_goes_l102_k216_w (v1 : Int32) (v2 : Int32) (v3 : Int32) (h : zm_H) : zWr [] [] h ((f_M_goes_l102_k216 v1 v2 v3 h).2.2) := by
  unfold f_M_goes_l102_k216
  exact (zWr.refl _ _)
def f_M_weight (p1 : Int32) (h : zm_H) : Int32 := (if (p1 = 1) then ((if ((zf h 92 81) = 0) then (3 : Int32) else 2) : Int32) else (if ((zf h 92 81) = 0) then (1 : Int32) else (if ((if (p1 = 0) then (1 : Int32) else 0) = (if ((zf h 92 81) = 1) then (1 : Int32) else 0)) then (3 : Int32) else 1)))
def f_M_weight_ok (p1 : Int32) (h : zm_H) : Prop := True
def f_M_chains_l21_b (v1 : Int32) (v2 : Int32) (v3 : Int32) (v4 : Int32) (v5 : Int32) (v6 : Int32) (h : zm_H) : Nat × Int32 × Int32 := (if (3 ≤ v6) then (1, v5, v6) else (0, (v5 + (if ((f_M_chainHolds ((3 * ((10 * v1) + v2)) + v6) h) = 0) then (0 : Int32) else (f_M_weight v6 h))), (v6 + 1)))
def f_M_chains_l21_b_ok (v1 : Int32) (v2 : Int32) (v3 : Int32) (v4 : Int32) (v5 : Int32) (v6 : Int32) (h : zm_H) : Prop := (((3 ≤ v6) → True) ∧ (¬ (3 ≤ v6) → f_M_chainHolds_ok ((3 * ((10 * v1) + v2)) + v6) h))
def f_M_chains_l21 (v1 : Int32) (v2 : Int32) (v3 : Int32) (v4 : Int32) (h : zm_H) (n : Nat) (t : Int32 × Int32) : Nat × Int32 × Int32 := zwh (fun t => f_M_chains_l21_b v1 v2 v3 v4 t.1 t.2 h) n t
def f_M_chains_l21_ok (v1 : Int32) (v2 : Int32) (v3 : Int32) (v4 : Int32) (h : zm_H) (n : Nat) (t : Int32 × Int32) : Prop := zwo (fun t => f_M_chains_l21_b v1 v2 v3 v4 t.1 t.2 h) (fun t => f_M_chains_l21_b_ok v1 v2 v3 v4 t.1 t.2 h) n t
def f_M_chains_l68_b (v1 : Int32) (v2 : Int32) (v3 : Int32) (v4 : Int32) (v5 : Int32) (v6 : Int32) (v7 : Int32) (h : zm_H) : Nat × Int32 × Int32 × zm_H := (if (3 ≤ v7) then (1, v6, v7, h) else (0, (if ((f_M_chainHolds ((3 * ((10 * v1) + v2)) + v7) h) = 0) then (v6 : Int32) else (if (((v4 * (f_M_weight v7 h)) / v5) ≤ ((zr h 128 ((3 * ((10 * v1) + v2)) + v7)) - ((zr h 129 ((3 * ((10 * v1) + v2)) + v7)) / 100))) then ((v6 + 1) : Int32) else v6)), (v7 + 1), (if ((f_M_chainHolds ((3 * ((10 * v1) + v2)) + v7) h) = 0) then h else (if (((v4 * (f_M_weight v7 h)) / v5) ≤ ((zr h 128 ((3 * ((10 * v1) + v2)) + v7)) - ((zr h 129 ((3 * ((10 * v1) + v2)) + v7)) / 100))) then (zs h 129 ((3 * ((10 * v1) + v2)) + v7) ((zr h 129 ((3 * ((10 * v1) + v2)) + v7)) + (if (((v4 * (f_M_weight v7 h)) / v5) ≤ 100) then (0 : Int32) else (((v4 * (f_M_weight v7 h)) / v5) - 100)))) else (zs h 130 ((3 * ((10 * v1) + v2)) + v7) v3)))))
def f_M_chains_l68_b_ok (v1 : Int32) (v2 : Int32) (v3 : Int32) (v4 : Int32) (v5 : Int32) (v6 : Int32) (v7 : Int32) (h : zm_H) : Prop := (((3 ≤ v7) → True) ∧ (¬ (3 ≤ v7) → (f_M_chainHolds_ok ((3 * ((10 * v1) + v2)) + v7) h ∧ ((((f_M_chainHolds ((3 * ((10 * v1) + v2)) + v7) h) = 0) → True) ∧ (¬ ((f_M_chainHolds ((3 * ((10 * v1) + v2)) + v7) h) = 0) → (¬ v5 = 0 ∧ (vp_in ((3 * ((10 * v1) + v2)) + v7) 60 ∧ (vp_in ((3 * ((10 * v1) + v2)) + v7) 60 ∧ (((((v4 * (f_M_weight v7 h)) / v5) ≤ ((zr h 128 ((3 * ((10 * v1) + v2)) + v7)) - ((zr h 129 ((3 * ((10 * v1) + v2)) + v7)) / 100))) → (vp_in ((3 * ((10 * v1) + v2)) + v7) 60 ∧ vp_in ((3 * ((10 * v1) + v2)) + v7) 60)) ∧ (¬ (((v4 * (f_M_weight v7 h)) / v5) ≤ ((zr h 128 ((3 * ((10 * v1) + v2)) + v7)) - ((zr h 129 ((3 * ((10 * v1) + v2)) + v7)) / 100))) → vp_in ((3 * ((10 * v1) + v2)) + v7) 60))))))))))
theorem f_M_chains_l68_b_w (v1 : Int32) (v2 : Int32) (v3 : Int32) (v4 : Int32) (v5 : Int32) (v6 : Int32) (v7 : Int32) (h : zm_H) : zWr [129, 130] [] h ((f_M_chains_l68_b v1 v2 v3 v4 v5 v6 v7 h).2.2.2) := by
  unfold f_M_chains_l68_b
  exact (zWr_ite (fun z : Nat × Int32 × Int32 × zm_H => z.2.2.2) (zWr.refl _ _) (zWr_ite (fun z : zm_H => z) (zWr.refl _ _) (zWr_ite (fun z : zm_H => z) (zWr_si (by decide) (zWr.refl _ _)) (zWr_si (by decide) (zWr.refl _ _)))))
def f_M_chains_l68 (v1 : Int32) (v2 : Int32) (v3 : Int32) (v4 : Int32) (v5 : Int32) (n : Nat) (t : Int32 × Int32 × zm_H) : Nat × Int32 × Int32 × zm_H := zwh (fun t => f_M_chains_l68_b v1 v2 v3 v4 v5 t.1 t.2.1 t.2.2) n t
def f_M_chains_l68_ok (v1 : Int32) (v2 : Int32) (v3 : Int32) (v4 : Int32) (v5 : Int32) (n : Nat) (t : Int32 × Int32 × zm_H) : Prop := zwo (fun t => f_M_chains_l68_b v1 v2 v3 v4 v5 t.1 t.2.1 t.2.2) (fun t => f_M_chains_l68_b_ok v1 v2 v3 v4 v5 t.1 t.2.1 t.2.2) n t
theorem f_M_chains_l68_w (v1 : Int32) (v2 : Int32) (v3 : Int32) (v4 : Int32) (v5 : Int32) (n : Nat) (t : Int32 × Int32 × zm_H) : zWr [129, 130] [] (t.2.2) ((f_M_chains_l68 v1 v2 v3 v4 v5 n t).2.2.2) := by
  unfold f_M_chains_l68
  exact zWr_zwh (fun t : Int32 × Int32 × zm_H => t.2.2) (fun t => f_M_chains_l68_b_w v1 v2 v3 v4 v5 t.1 t.2.1 t.2.2)
def f_M_chains_k178 (v1 : Int32) (v2 : Int32) (v6 : Int32) (h : zm_H) : zm_H := (if (v6 ≤ 0) then (zs (zs h 123 ((10 * v1) + v2) 3) 124 ((10 * v1) + v2) (-1)) else h)
def f_M_chains_k178_ok (v1 : Int32) (v2 : Int32) (v6 : Int32) (h : zm_H) : Prop := (((v6 ≤ 0) → (vp_in ((10 * v1) + v2) 20 ∧ vp_in ((10 * v1) + v2) 20)) ∧ (¬ (v6 ≤ 0) → True))
theorem f_M_chains_k178_w (v1 : Int32) (v2 : Int32) (v6 : Int32) (h : zm_H) : zWr [123, 124] [] h ((f_M_chains_k178 v1 v2 v6 h)) := by
  unfold f_M_chains_k178
  exact (zWr_ite (fun z : zm_H => z) (zWr_si (by decide) (zWr_si (by decide) (zWr.refl _ _))) (zWr.refl _ _))
def f_M_chains_a68 (v1 : Int32) (v2 : Int32) (r : Nat × Int32 × Int32 × zm_H) : zm_H := (f_M_chains_k178 v1 v2 (r.2.1) (r.2.2.2))
def f_M_chains_a68_ok (v1 : Int32) (v2 : Int32) (r : Nat × Int32 × Int32 × zm_H) : Prop := (f_M_chains_k178_ok v1 v2 (r.2.1) (r.2.2.2))
theorem f_M_chains_a68_w (v1 : Int32) (v2 : Int32) (r : Nat × Int32 × Int32 × zm_H) : zWr [123, 124] [] (r.2.2.2) ((f_M_chains_a68 v1 v2 r)) := by
  unfold f_M_chains_a68
  exact (zWr_tr (f_M_chains_k178_w v1 v2 (r.2.1) (r.2.2.2)) (by decide) (by decide) (zWr.refl _ _))
def f_M_chains_k62 (v1 : Int32) (v2 : Int32) (v3 : Int32) (v4 : Int32) (v5 : Int32) (h : zm_H) : zm_H := (f_M_chains_a68 v1 v2 (f_M_chains_l68 v1 v2 v3 v4 v5 zF (0, 0, h)))
def f_M_chains_k62_ok (v1 : Int32) (v2 : Int32) (v3 : Int32) (v4 : Int32) (v5 : Int32) (h : zm_H) : Prop := (f_M_chains_l68_ok v1 v2 v3 v4 v5 zF (0, 0, h) ∧ f_M_chains_a68_ok v1 v2 (f_M_chains_l68 v1 v2 v3 v4 v5 zF (0, 0, h)))
theorem f_M_chains_k62_w (v1 : Int32) (v2 : Int32) (v3 : Int32) (v4 : Int32) (v5 : Int32) (h : zm_H) : zWr [123, 124, 129, 130] [] h ((f_M_chains_k62 v1 v2 v3 v4 v5 h)) := by
  unfold f_M_chains_k62
  exact (zWr_tr (f_M_chains_a68_w v1 v2 (f_M_chains_l68 v1 v2 v3 v4 v5 zF (0, 0, h))) (by decide) (by decide) (zWr_tr (f_M_chains_l68_w v1 v2 v3 v4 v5 zF (0, 0, h)) (by decide) (by decide) (zWr.refl _ _)))
def f_M_chains_a21 (v1 : Int32) (v2 : Int32) (v3 : Int32) (v4 : Int32) (r : Nat × Int32 × Int32) (h : zm_H) : zm_H := (f_M_chains_k62 v1 v2 v3 v4 (r.2.1) h)
def f_M_chains_a21_ok (v1 : Int32) (v2 : Int32) (v3 : Int32) (v4 : Int32) (r : Nat × Int32 × Int32) (h : zm_H) : Prop := (f_M_chains_k62_ok v1 v2 v3 v4 (r.2.1) h)
theorem f_M_chains_a21_w (v1 : Int32) (v2 : Int32) (v3 : Int32) (v4 : Int32) (r : Nat × Int32 × Int32) (h : zm_H) : zWr [123, 124, 129, 130] [] h ((f_M_chains_a21 v1 v2 v3 v4 r h)) := by
  unfold f_M_chains_a21
  exact (zWr_tr (f_M_chains_k62_w v1 v2 v3 v4 (r.2.1) h) (by decide) (by decide) (zWr.refl _ _))
def f_M_chains (p1 : Int32) (p2 : Int32) (p3 : Int32) (h : zm_H) : zm_H := (f_M_chains_a21 p1 p2 p3 ((zf h 92 79) * ((zr h 112 p2) + 5)) (f_M_chains_l21 p1 p2 p3 ((zf h 92 79) * ((zr h 112 p2) + 5)) h zF (0, 0)) h)
def f_M_chains_ok (p1 : Int32) (p2 : Int32) (p3 : Int32) (h : zm_H) : Prop := (vp_in p2 10 ∧ (f_M_chains_l21_ok p1 p2 p3 ((zf h 92 79) * ((zr h 112 p2) + 5)) h zF (0, 0) ∧ f_M_chains_a21_ok p1 p2 p3 ((zf h 92 79) * ((zr h 112 p2) + 5)) (f_M_chains_l21 p1 p2 p3 ((zf h 92 79) * ((zr h 112 p2) + 5)) h zF (0, 0)) h))
theorem f_M_chains_w (p1 : Int32) (p2 : Int32) (p3 : Int32) (h : zm_H) : zWr [123, 124, 129, 130] [] h ((f_M_chains p1 p2 p3 h)) := by
  unfold f_M_chains
  exact (zWr_tr (f_M_chains_a21_w p1 p2 p3 ((zf h 92 79) * ((zr h 112 p2) + 5)) (f_M_chains_l21 p1 p2 p3 ((zf h 92 79) * ((zr h 112 p2) + 5)) h zF (0, 0)) h) (by decide) (by decide) (zWr.refl _ _))
def f_M_goes_l102_b (v1 : Int32) (v2 : Int32) (v3 : Int32) (h : zm_H) : Nat × Int32 × zm_H := (if ((zf h 92 33) ≤ v3) then (1, v3, h) else (if ((zr (if ((zr h 153 v3) ≤ 0) then (zp (zsl (zs h 126 ((10 * v1) + v3) (((zr h 153 v3) * (100 - (f_M_leak ((10 * v1) + v3) h))) / 100)) 127 ((10 * v1) + v3) ((zrl h 127 ((10 * v1) + v3)) + (zr (zs h 126 ((10 * v1) + v3) (((zr h 153 v3) * (100 - (f_M_leak ((10 * v1) + v3) h))) / 100)) 126 ((10 * v1) + v3)).toInt64)) 92 88 ((zf h 92 88) + (zr (zs h 126 ((10 * v1) + v3) (((zr h 153 v3) * (100 - (f_M_leak ((10 * v1) + v3) h))) / 100)) 126 ((10 * v1) + v3)))) else (zs (zp (zsl (zs h 126 ((10 * v1) + v3) (((zr h 153 v3) * (100 - (f_M_leak ((10 * v1) + v3) h))) / 100)) 127 ((10 * v1) + v3) ((zrl h 127 ((10 * v1) + v3)) + (zr (zs h 126 ((10 * v1) + v3) (((zr h 153 v3) * (100 - (f_M_leak ((10 * v1) + v3) h))) / 100)) 126 ((10 * v1) + v3)).toInt64)) 92 88 ((zf h 92 88) + (zr (zs h 126 ((10 * v1) + v3) (((zr h 153 v3) * (100 - (f_M_leak ((10 * v1) + v3) h))) / 100)) 126 ((10 * v1) + v3)))) 125 ((10 * v1) + v3) ((zr h 125 ((10 * v1) + v3)) + 1))) 123 ((10 * v1) + v3)) = 1) then (f_M_goes_l102_k216 v1 v2 v3 (f_M_chains v1 v3 v2 (if ((zr h 153 v3) ≤ 0) then (zp (zsl (zs h 126 ((10 * v1) + v3) (((zr h 153 v3) * (100 - (f_M_leak ((10 * v1) + v3) h))) / 100)) 127 ((10 * v1) + v3) ((zrl h 127 ((10 * v1) + v3)) + (zr (zs h 126 ((10 * v1) + v3) (((zr h 153 v3) * (100 - (f_M_leak ((10 * v1) + v3) h))) / 100)) 126 ((10 * v1) + v3)).toInt64)) 92 88 ((zf h 92 88) + (zr (zs h 126 ((10 * v1) + v3) (((zr h 153 v3) * (100 - (f_M_leak ((10 * v1) + v3) h))) / 100)) 126 ((10 * v1) + v3)))) else (zs (zp (zsl (zs h 126 ((10 * v1) + v3) (((zr h 153 v3) * (100 - (f_M_leak ((10 * v1) + v3) h))) / 100)) 127 ((10 * v1) + v3) ((zrl h 127 ((10 * v1) + v3)) + (zr (zs h 126 ((10 * v1) + v3) (((zr h 153 v3) * (100 - (f_M_leak ((10 * v1) + v3) h))) / 100)) 126 ((10 * v1) + v3)).toInt64)) 92 88 ((zf h 92 88) + (zr (zs h 126 ((10 * v1) + v3) (((zr h 153 v3) * (100 - (f_M_leak ((10 * v1) + v3) h))) / 100)) 126 ((10 * v1) + v3)))) 125 ((10 * v1) + v3) ((zr h 125 ((10 * v1) + v3)) + 1))))) else (f_M_goes_l102_k216 v1 v2 v3 (if ((zr h 153 v3) ≤ 0) then (zp (zsl (zs h 126 ((10 * v1) + v3) (((zr h 153 v3) * (100 - (f_M_leak ((10 * v1) + v3) h))) / 100)) 127 ((10 * v1) + v3) ((zrl h 127 ((10 * v1) + v3)) + (zr (zs h 126 ((10 * v1) + v3) (((zr h 153 v3) * (100 - (f_M_leak ((10 * v1) + v3) h))) / 100)) 126 ((10 * v1) + v3)).toInt64)) 92 88 ((zf h 92 88) + (zr (zs h 126 ((10 * v1) + v3) (((zr h 153 v3) * (100 - (f_M_leak ((10 * v1) + v3) h))) / 100)) 126 ((10 * v1) + v3)))) else (zs (zp (zsl (zs h 126 ((10 * v1) + v3) (((zr h 153 v3) * (100 - (f_M_leak ((10 * v1) + v3) h))) / 100)) 127 ((10 * v1) + v3) ((zrl h 127 ((10 * v1) + v3)) + (zr (zs h 126 ((10 * v1) + v3) (((zr h 153 v3) * (100 - (f_M_leak ((10 * v1) + v3) h))) / 100)) 126 ((10 * v1) + v3)).toInt64)) 92 88 ((zf h 92 88) + (zr (zs h 126 ((10 * v1) + v3) (((zr h 153 v3) * (100 - (f_M_leak ((10 * v1) + v3) h))) / 100)) 126 ((10 * v1) + v3)))) 125 ((10 * v1) + v3) ((zr h 125 ((10 * v1) + v3)) + 1))))))
def f_M_goes_l102_b_ok (v1 : Int32) (v2 : Int32) (v3 : Int32) (h : zm_H) : Prop := ((((zf h 92 33) ≤ v3) → True) ∧ (¬ ((zf h 92 33) ≤ v3) → (vp_in v3 10 ∧ (f_M_leak_ok ((10 * v1) + v3) h ∧ (vp_in ((10 * v1) + v3) 20 ∧ (vp_in ((10 * v1) + v3) 20 ∧ (vp_in ((10 * v1) + v3) 20 ∧ (vp_in ((10 * v1) + v3) 20 ∧ (vp_in ((10 * v1) + v3) 20 ∧ (vp_in v3 10 ∧ (((((zr h 153 v3) ≤ 0) → True) ∧ (¬ ((zr h 153 v3) ≤ 0) → (vp_in ((10 * v1) + v3) 20 ∧ vp_in ((10 * v1) + v3) 20))) ∧ (vp_in ((10 * v1) + v3) 20 ∧ ((((zr (if ((zr h 153 v3) ≤ 0) then (zp (zsl (zs h 126 ((10 * v1) + v3) (((zr h 153 v3) * (100 - (f_M_leak ((10 * v1) + v3) h))) / 100)) 127 ((10 * v1) + v3) ((zrl h 127 ((10 * v1) + v3)) + (zr (zs h 126 ((10 * v1) + v3) (((zr h 153 v3) * (100 - (f_M_leak ((10 * v1) + v3) h))) / 100)) 126 ((10 * v1) + v3)).toInt64)) 92 88 ((zf h 92 88) + (zr (zs h 126 ((10 * v1) + v3) (((zr h 153 v3) * (100 - (f_M_leak ((10 * v1) + v3) h))) / 100)) 126 ((10 * v1) + v3)))) else (zs (zp (zsl (zs h 126 ((10 * v1) + v3) (((zr h 153 v3) * (100 - (f_M_leak ((10 * v1) + v3) h))) / 100)) 127 ((10 * v1) + v3) ((zrl h 127 ((10 * v1) + v3)) + (zr (zs h 126 ((10 * v1) + v3) (((zr h 153 v3) * (100 - (f_M_leak ((10 * v1) + v3) h))) / 100)) 126 ((10 * v1) + v3)).toInt64)) 92 88 ((zf h 92 88) + (zr (zs h 126 ((10 * v1) + v3) (((zr h 153 v3) * (100 - (f_M_leak ((10 * v1) + v3) h))) / 100)) 126 ((10 * v1) + v3)))) 125 ((10 * v1) + v3) ((zr h 125 ((10 * v1) + v3)) + 1))) 123 ((10 * v1) + v3)) = 1) → f_M_chains_ok v1 v3 v2 (if ((zr h 153 v3) ≤ 0) then (zp (zsl (zs h 126 ((10 * v1) + v3) (((zr h 153 v3) * (100 - (f_M_leak ((10 * v1) + v3) h))) / 100)) 127 ((10 * v1) + v3) ((zrl h 127 ((10 * v1) + v3)) + (zr (zs h 126 ((10 * v1) + v3) (((zr h 153 v3) * (100 - (f_M_leak ((10 * v1) + v3) h))) / 100)) 126 ((10 * v1) + v3)).toInt64)) 92 88 ((zf h 92 88) + (zr (zs h 126 ((10 * v1) + v3) (((zr h 153 v3) * (100 - (f_M_leak ((10 * v1) + v3) h))) / 100)) 126 ((10 * v1) + v3)))) else (zs (zp (zsl (zs h 126 ((10 * v1) + v3) (((zr h 153 v3) * (100 - (f_M_leak ((10 * v1) + v3) h))) / 100)) 127 ((10 * v1) + v3) ((zrl h 127 ((10 * v1) + v3)) + (zr (zs h 126 ((10 * v1) + v3) (((zr h 153 v3) * (100 - (f_M_leak ((10 * v1) + v3) h))) / 100)) 126 ((10 * v1) + v3)).toInt64)) 92 88 ((zf h 92 88) + (zr (zs h 126 ((10 * v1) + v3) (((zr h 153 v3) * (100 - (f_M_leak ((10 * v1) + v3) h))) / 100)) 126 ((10 * v1) + v3)))) 125 ((10 * v1) + v3) ((zr h 125 ((10 * v1) + v3)) + 1)))) ∧ (¬ ((zr (if ((zr h 153 v3) ≤ 0) then (zp (zsl (zs h 126 ((10 * v1) + v3) (((zr h 153 v3) * (100 - (f_M_leak ((10 * v1) + v3) h))) / 100)) 127 ((10 * v1) + v3) ((zrl h 127 ((10 * v1) + v3)) + (zr (zs h 126 ((10 * v1) + v3) (((zr h 153 v3) * (100 - (f_M_leak ((10 * v1) + v3) h))) / 100)) 126 ((10 * v1) + v3)).toInt64)) 92 88 ((zf h 92 88) + (zr (zs h 126 ((10 * v1) + v3) (((zr h 153 v3) * (100 - (f_M_leak ((10 * v1) + v3) h))) / 100)) 126 ((10 * v1) + v3)))) else (zs (zp (zsl (zs h 126 ((10 * v1) + v3) (((zr h 153 v3) * (100 - (f_M_leak ((10 * v1) + v3) h))) / 100)) 127 ((10 * v1) + v3) ((zrl h 127 ((10 * v1) + v3)) + (zr (zs h 126 ((10 * v1) + v3) (((zr h 153 v3) * (100 - (f_M_leak ((10 * v1) + v3) h))) / 100)) 126 ((10 * v1) + v3)).toInt64)) 92 88 ((zf h 92 88) + (zr (zs h 126 ((10 * v1) + v3) (((zr h 153 v3) * (100 - (f_M_leak ((10 * v1) + v3) h))) / 100)) 126 ((10 * v1) + v3)))) 125 ((10 * v1) + v3) ((zr h 125 ((10 * v1) + v3)) + 1))) 123 ((10 * v1) + v3)) = 1) → True))))))))))))))
theorem f_M_goes_l102_b_w (v1 : Int32) (v2 : Int32) (v3 : Int32) (h : zm_H) : zWr [123, 124, 125, 126, 127, 129, 130] [(92, 88)] h ((f_M_goes_l102_b v1 v2 v3 h).2.2) := by
  unfold f_M_goes_l102_b
  exact (zWr_ite (fun z : Nat × Int32 × zm_H => z.2.2) (zWr.refl _ _) (zWr_ite (fun z : Nat × Int32 × zm_H => z.2.2) (zWr_tr (f_M_goes_l102_k216_w v1 v2 v3 (f_M_chains v1 v3 v2 (if ((zr h 153 v3) ≤ 0) then (zp (zsl (zs h 126 ((10 * v1) + v3) (((zr h 153 v3) * (100 - (f_M_leak ((10 * v1) + v3) h))) / 100)) 127 ((10 * v1) + v3) ((zrl h 127 ((10 * v1) + v3)) + (zr (zs h 126 ((10 * v1) + v3) (((zr h 153 v3) * (100 - (f_M_leak ((10 * v1) + v3) h))) / 100)) 126 ((10 * v1) + v3)).toInt64)) 92 88 ((zf h 92 88) + (zr (zs h 126 ((10 * v1) + v3) (((zr h 153 v3) * (100 - (f_M_leak ((10 * v1) + v3) h))) / 100)) 126 ((10 * v1) + v3)))) else (zs (zp (zsl (zs h 126 ((10 * v1) + v3) (((zr h 153 v3) * (100 - (f_M_leak ((10 * v1) + v3) h))) / 100)) 127 ((10 * v1) + v3) ((zrl h 127 ((10 * v1) + v3)) + (zr (zs h 126 ((10 * v1) + v3) (((zr h 153 v3) * (100 - (f_M_leak ((10 * v1) + v3) h))) / 100)) 126 ((10 * v1) + v3)).toInt64)) 92 88 ((zf h 92 88) + (zr (zs h 126 ((10 * v1) + v3) (((zr h 153 v3) * (100 - (f_M_leak ((10 * v1) + v3) h))) / 100)) 126 ((10 * v1) + v3)))) 125 ((10 * v1) + v3) ((zr h 125 ((10 * v1) + v3)) + 1))))) (by decide) (by decide) (zWr_tr (f_M_chains_w v1 v3 v2 (if ((zr h 153 v3) ≤ 0) then (zp (zsl (zs h 126 ((10 * v1) + v3) (((zr h 153 v3) * (100 - (f_M_leak ((10 * v1) + v3) h))) / 100)) 127 ((10 * v1) + v3) ((zrl h 127 ((10 * v1) + v3)) + (zr (zs h 126 ((10 * v1) + v3) (((zr h 153 v3) * (100 - (f_M_leak ((10 * v1) + v3) h))) / 100)) 126 ((10 * v1) + v3)).toInt64)) 92 88 ((zf h 92 88) + (zr (zs h 126 ((10 * v1) + v3) (((zr h 153 v3) * (100 - (f_M_leak ((10 * v1) + v3) h))) / 100)) 126 ((10 * v1) + v3)))) else (zs (zp (zsl (zs h 126 ((10 * v1) + v3) (((zr h 153 v3) * (100 - (f_M_leak ((10 * v1) + v3) h))) / 100)) 127 ((10 * v1) + v3) ((zrl h 127 ((10 * v1) + v3)) + (zr (zs h 126 ((10 * v1) + v3) (((zr h 153 v3) * (100 - (f_M_leak ((10 * v1) + v3) h))) / 100)) 126 ((10 * v1) + v3)).toInt64)) 92 88 ((zf h 92 88) + (zr (zs h 126 ((10 * v1) + v3) (((zr h 153 v3) * (100 - (f_M_leak ((10 * v1) + v3) h))) / 100)) 126 ((10 * v1) + v3)))) 125 ((10 * v1) + v3) ((zr h 125 ((10 * v1) + v3)) + 1)))) (by decide) (by decide) (zWr_ite (fun z : zm_H => z) (zWr_p (by decide) (zWr_sl (by decide) (zWr_si (by decide) (zWr.refl _ _)))) (zWr_si (by decide) (zWr_p (by decide) (zWr_sl (by decide) (zWr_si (by decide) (zWr.refl _ _)))))))) (zWr_tr (f_M_goes_l102_k216_w v1 v2 v3 (if ((zr h 153 v3) ≤ 0) then (zp (zsl (zs h 126 ((10 * v1) + v3) (((zr h 153 v3) * (100 - (f_M_leak ((10 * v1) + v3) h))) / 100)) 127 ((10 * v1) + v3) ((zrl h 127 ((10 * v1) + v3)) + (zr (zs h 126 ((10 * v1) + v3) (((zr h 153 v3) * (100 - (f_M_leak ((10 * v1) + v3) h))) / 100)) 126 ((10 * v1) + v3)).toInt64)) 92 88 ((zf h 92 88) + (zr (zs h 126 ((10 * v1) + v3) (((zr h 153 v3) * (100 - (f_M_leak ((10 * v1) + v3) h))) / 100)) 126 ((10 * v1) + v3)))) else (zs (zp (zsl (zs h 126 ((10 * v1) + v3) (((zr h 153 v3) * (100 - (f_M_leak ((10 * v1) + v3) h))) / 100)) 127 ((10 * v1) + v3) ((zrl h 127 ((10 * v1) + v3)) + (zr (zs h 126 ((10 * v1) + v3) (((zr h 153 v3) * (100 - (f_M_leak ((10 * v1) + v3) h))) / 100)) 126 ((10 * v1) + v3)).toInt64)) 92 88 ((zf h 92 88) + (zr (zs h 126 ((10 * v1) + v3) (((zr h 153 v3) * (100 - (f_M_leak ((10 * v1) + v3) h))) / 100)) 126 ((10 * v1) + v3)))) 125 ((10 * v1) + v3) ((zr h 125 ((10 * v1) + v3)) + 1)))) (by decide) (by decide) (zWr_ite (fun z : zm_H => z) (zWr_p (by decide) (zWr_sl (by decide) (zWr_si (by decide) (zWr.refl _ _)))) (zWr_si (by decide) (zWr_p (by decide) (zWr_sl (by decide) (zWr_si (by decide) (zWr.refl _ _)))))))))
def f_M_goes_l102 (v1 : Int32) (v2 : Int32) (n : Nat) (t : Int32 × zm_H) : Nat × Int32 × zm_H := zwh (fun t => f_M_goes_l102_b v1 v2 t.1 t.2) n t
def f_M_goes_l102_ok (v1 : Int32) (v2 : Int32) (n : Nat) (t : Int32 × zm_H) : Prop := zwo (fun t => f_M_goes_l102_b v1 v2 t.1 t.2) (fun t => f_M_goes_l102_b_ok v1 v2 t.1 t.2) n t
theorem f_M_goes_l102_w (v1 : Int32) (v2 : Int32) (n : Nat) (t : Int32 × zm_H) : zWr [123, 124, 125, 126, 127, 129, 130] [(92, 88)] (t.2) ((f_M_goes_l102 v1 v2 n t).2.2) := by
  unfold f_M_goes_l102
  exact zWr_zwh (fun t : Int32 × zm_H => t.2) (fun t => f_M_goes_l102_b_w v1 v2 t.1 t.2)
def f_M_goes_l229_k304 (v1 : Int32) (v2 : Int32) (v3 : Int32) (h : zm_H) : Nat × Int32 × zm_H := (0, (v3 + 1), h)
def f_M_goes_l229_k304_ok (v1 : Int32) (v2 : Int32) (v3 : Int32) (h : zm_H) : Prop := True
theorem f_M_goes_l229_k304_w (v1 : Int32) (v2 : Int32) (v3 : Int32) (h : zm_H) : zWr [] [] h ((f_M_goes_l229_k304 v1 v2 v3 h).2.2) := by
  unfold f_M_goes_l229_k304
  exact (zWr.refl _ _)
def f_M_goes_l229_k263 (v1 : Int32) (v2 : Int32) (v3 : Int32) (w0 : Int32) (h : zm_H) : Nat × Int32 × zm_H := (f_M_goes_l229_k304 v1 v2 v3 (zp h 92 87 ((zf h 92 87) + (if ((-100000) ≤ w0) then ((if (w0 ≤ 100000) then (w0 : Int32) else 100000) : Int32) else (-100000)))))
def f_M_goes_l229_k263_ok (v1 : Int32) (v2 : Int32) (v3 : Int32) (w0 : Int32) (h : zm_H) : Prop := True
theorem f_M_goes_l229_k263_w (v1 : Int32) (v2 : Int32) (v3 : Int32) (w0 : Int32) (h : zm_H) : zWr [] [(92, 87)] h ((f_M_goes_l229_k263 v1 v2 v3 w0 h).2.2) := by
  unfold f_M_goes_l229_k263
  exact (zWr_tr (f_M_goes_l229_k304_w v1 v2 v3 (zp h 92 87 ((zf h 92 87) + (if ((-100000) ≤ w0) then ((if (w0 ≤ 100000) then (w0 : Int32) else 100000) : Int32) else (-100000))))) (by decide) (by decide) (zWr_p (by decide) (zWr.refl _ _)))
def f_M_goes_l229_k257 (v1 : Int32) (v2 : Int32) (v3 : Int32) (h : zm_H) : Nat × Int32 × zm_H := (f_M_goes_l229_k263 v1 v2 v3 (f_M_tells 3 v2 h).1 (f_M_tells 3 v2 h).2)
def f_M_goes_l229_k257_ok (v1 : Int32) (v2 : Int32) (v3 : Int32) (h : zm_H) : Prop := f_M_tells_ok 3 v2 h
theorem f_M_goes_l229_k257_w (v1 : Int32) (v2 : Int32) (v3 : Int32) (h : zm_H) : zWr [150] [(92, 87)] h ((f_M_goes_l229_k257 v1 v2 v3 h).2.2) := by
  unfold f_M_goes_l229_k257
  exact (zWr_tr (f_M_goes_l229_k263_w v1 v2 v3 (f_M_tells 3 v2 h).1 (f_M_tells 3 v2 h).2) (by decide) (by decide) (zWr_tr (f_M_tells_w 3 v2 h) (by decide) (by decide) (zWr.refl _ _)))
def f_M_goes_l229_b (v1 : Int32) (v2 : Int32) (v3 : Int32) (h : zm_H) : Nat × Int32 × zm_H := (if ((zf h 92 33) ≤ v3) then (1, v3, h) else (if ((zr h 114 v3) ≤ v2) then (f_M_goes_l229_k257 v1 v2 v3 (f_M_asks v1 v3 v2 h)) else (f_M_goes_l229_k304 v1 v2 v3 h)))
def f_M_goes_l229_b_ok (v1 : Int32) (v2 : Int32) (v3 : Int32) (h : zm_H) : Prop := ((((zf h 92 33) ≤ v3) → True) ∧ (¬ ((zf h 92 33) ≤ v3) → (vp_in v3 10 ∧ ((((zr h 114 v3) ≤ v2) → (f_M_asks_ok v1 v3 v2 h ∧ (f_M_goes_l229_k257_ok v1 v2 v3 (f_M_asks v1 v3 v2 h)))) ∧ (¬ ((zr h 114 v3) ≤ v2) → True)))))
theorem f_M_goes_l229_b_w (v1 : Int32) (v2 : Int32) (v3 : Int32) (h : zm_H) : zWr [149, 150] [(92, 87)] h ((f_M_goes_l229_b v1 v2 v3 h).2.2) := by
  unfold f_M_goes_l229_b
  exact (zWr_ite (fun z : Nat × Int32 × zm_H => z.2.2) (zWr.refl _ _) (zWr_ite (fun z : Nat × Int32 × zm_H => z.2.2) (zWr_tr (f_M_goes_l229_k257_w v1 v2 v3 (f_M_asks v1 v3 v2 h)) (by decide) (by decide) (zWr_tr (f_M_asks_w v1 v3 v2 h) (by decide) (by decide) (zWr.refl _ _))) (zWr_tr (f_M_goes_l229_k304_w v1 v2 v3 h) (by decide) (by decide) (zWr.refl _ _))))
def f_M_goes_l229 (v1 : Int32) (v2 : Int32) (n : Nat) (t : Int32 × zm_H) : Nat × Int32 × zm_H := zwh (fun t => f_M_goes_l229_b v1 v2 t.1 t.2) n t
def f_M_goes_l229_ok (v1 : Int32) (v2 : Int32) (n : Nat) (t : Int32 × zm_H) : Prop := zwo (fun t => f_M_goes_l229_b v1 v2 t.1 t.2) (fun t => f_M_goes_l229_b_ok v1 v2 t.1 t.2) n t
theorem f_M_goes_l229_w (v1 : Int32) (v2 : Int32) (n : Nat) (t : Int32 × zm_H) : zWr [149, 150] [(92, 87)] (t.2) ((f_M_goes_l229 v1 v2 n t).2.2) := by
  unfold f_M_goes_l229
  exact zWr_zwh (fun t : Int32 × zm_H => t.2) (fun t => f_M_goes_l229_b_w v1 v2 t.1 t.2)
def f_M_goes_k310 (h : zm_H) : zm_H := h
def f_M_goes_k310_ok (h : zm_H) : Prop := True
theorem f_M_goes_k310_w (h : zm_H) : zWr [] [] h ((f_M_goes_k310 h)) := by
  unfold f_M_goes_k310
  exact (zWr.refl _ _)
def f_M_goes_a229 (r : Nat × Int32 × zm_H) : zm_H := (f_M_goes_k310 (r.2.2))
def f_M_goes_a229_ok (r : Nat × Int32 × zm_H) : Prop := True
theorem f_M_goes_a229_w (r : Nat × Int32 × zm_H) : zWr [] [] (r.2.2) ((f_M_goes_a229 r)) := by
  unfold f_M_goes_a229
  exact (zWr_tr (f_M_goes_k310_w (r.2.2)) (by decide) (by decide) (zWr.refl _ _))
def f_M_goes_k222 (v1 : Int32) (v2 : Int32) (h : zm_H) : zm_H := (f_M_goes_a229 (f_M_goes_l229 v1 v2 zF (0, (zp h 92 87 0))))
def f_M_goes_k222_ok (v1 : Int32) (v2 : Int32) (h : zm_H) : Prop := (f_M_goes_l229_ok v1 v2 zF (0, (zp h 92 87 0)) ∧ f_M_goes_a229_ok (f_M_goes_l229 v1 v2 zF (0, (zp h 92 87 0))))
theorem f_M_goes_k222_w (v1 : Int32) (v2 : Int32) (h : zm_H) : zWr [149, 150] [(92, 87)] h ((f_M_goes_k222 v1 v2 h)) := by
  unfold f_M_goes_k222
  exact (zWr_tr (f_M_goes_a229_w (f_M_goes_l229 v1 v2 zF (0, (zp h 92 87 0)))) (by decide) (by decide) (zWr_tr (f_M_goes_l229_w v1 v2 zF (0, (zp h 92 87 0))) (by decide) (by decide) (zWr_p (by decide) (zWr.refl _ _))))
def f_M_goes_a102 (v1 : Int32) (v2 : Int32) (r : Nat × Int32 × zm_H) : zm_H := (f_M_goes_k222 v1 v2 (r.2.2))
def f_M_goes_a102_ok (v1 : Int32) (v2 : Int32) (r : Nat × Int32 × zm_H) : Prop := (f_M_goes_k222_ok v1 v2 (r.2.2))
theorem f_M_goes_a102_w (v1 : Int32) (v2 : Int32) (r : Nat × Int32 × zm_H) : zWr [149, 150] [(92, 87)] (r.2.2) ((f_M_goes_a102 v1 v2 r)) := by
  unfold f_M_goes_a102
  exact (zWr_tr (f_M_goes_k222_w v1 v2 (r.2.2)) (by decide) (by decide) (zWr.refl _ _))
def f_M_goes_k95 (v1 : Int32) (v2 : Int32) (h : zm_H) : zm_H := (f_M_goes_a102 v1 v2 (f_M_goes_l102 v1 v2 zF (0, (zp h 92 88 0))))
def f_M_goes_k95_ok (v1 : Int32) (v2 : Int32) (h : zm_H) : Prop := (f_M_goes_l102_ok v1 v2 zF (0, (zp h 92 88 0)) ∧ f_M_goes_a102_ok v1 v2 (f_M_goes_l102 v1 v2 zF (0, (zp h 92 88 0))))
theorem f_M_goes_k95_w (v1 : Int32) (v2 : Int32) (h : zm_H) : zWr [123, 124, 125, 126, 127, 129, 130, 149, 150] [(92, 87), (92, 88)] h ((f_M_goes_k95 v1 v2 h)) := by
  unfold f_M_goes_k95
  exact (zWr_tr (f_M_goes_a102_w v1 v2 (f_M_goes_l102 v1 v2 zF (0, (zp h 92 88 0)))) (by decide) (by decide) (zWr_tr (f_M_goes_l102_w v1 v2 zF (0, (zp h 92 88 0))) (by decide) (by decide) (zWr_p (by decide) (zWr.refl _ _))))
def f_M_goes_k90 (v1 : Int32) (v2 : Int32) (h : zm_H) : zm_H := (f_M_goes_k95 v1 v2 (f_M_waves v1 h))
def f_M_goes_k90_ok (v1 : Int32) (v2 : Int32) (h : zm_H) : Prop := (f_M_waves_ok v1 h ∧ (f_M_goes_k95_ok v1 v2 (f_M_waves v1 h)))
theorem f_M_goes_k90_w (v1 : Int32) (v2 : Int32) (h : zm_H) : zWr [123, 124, 125, 126, 127, 129, 130, 149, 150, 151, 152, 153] [(92, 87), (92, 88)] h ((f_M_goes_k90 v1 v2 h)) := by
  unfold f_M_goes_k90
  exact (zWr_tr (f_M_goes_k95_w v1 v2 (f_M_waves v1 h)) (by decide) (by decide) (zWr_tr (f_M_waves_w v1 h) (by decide) (by decide) (zWr.refl _ _)))
def f_M_goes_a2 (v1 : Int32) (v2 : Int32) (r : Nat × Int32 × zm_H) : zm_H := (f_M_goes_k90 v1 v2 (r.2.2))
def f_M_goes_a2_ok (v1 : Int32) (v2 : Int32) (r : Nat × Int32 × zm_H) : Prop := (f_M_goes_k90_ok v1 v2 (r.2.2))
theorem f_M_goes_a2_w (v1 : Int32) (v2 : Int32) (r : Nat × Int32 × zm_H) : zWr [123, 124, 125, 126, 127, 129, 130, 149, 150, 151, 152, 153] [(92, 87), (92, 88)] (r.2.2) ((f_M_goes_a2 v1 v2 r)) := by
  unfold f_M_goes_a2
  exact (zWr_tr (f_M_goes_k90_w v1 v2 (r.2.2)) (by decide) (by decide) (zWr.refl _ _))
def f_M_goes (p1 : Int32) (p2 : Int32) (h : zm_H) : zm_H := (f_M_goes_a2 p1 p2 (f_M_goes_l2 p1 p2 zF (0, h)))
def f_M_goes_ok (p1 : Int32) (p2 : Int32) (h : zm_H) : Prop := (f_M_goes_l2_ok p1 p2 zF (0, h) ∧ f_M_goes_a2_ok p1 p2 (f_M_goes_l2 p1 p2 zF (0, h)))
theorem f_M_goes_w (p1 : Int32) (p2 : Int32) (h : zm_H) : zWr [123, 124, 125, 126, 127, 129, 130, 149, 150, 151, 152, 153] [(92, 87), (92, 88)] h ((f_M_goes p1 p2 h)) := by
  unfold f_M_goes
  exact (zWr_tr (f_M_goes_a2_w p1 p2 (f_M_goes_l2 p1 p2 zF (0, h))) (by decide) (by decide) (zWr_tr (f_M_goes_l2_w p1 p2 zF (0, h)) (by decide) (by decide) (zWr.refl _ _)))
def f_M_spell_l113_b (v1 : Int32) (h : zm_H) : Nat × Int32 × zm_H := (if (10 ≤ v1) then (1, v1, h) else (0, (v1 + 1), (zs h 133 ((10 * (zf h 92 23)) + v1) (zr h 151 v1))))
def f_M_spell_l113_b_ok (v1 : Int32) (h : zm_H) : Prop := (((10 ≤ v1) → True) ∧ (¬ (10 ≤ v1) → (vp_in v1 10 ∧ vp_in ((10 * (zf h 92 23)) + v1) 4800)))
theorem f_M_spell_l113_b_w (v1 : Int32) (h : zm_H) : zWr [133] [] h ((f_M_spell_l113_b v1 h).2.2) := by
  unfold f_M_spell_l113_b
  exact (zWr_ite (fun z : Nat × Int32 × zm_H => z.2.2) (zWr.refl _ _) (zWr_si (by decide) (zWr.refl _ _)))
def f_M_spell_l113 (n : Nat) (t : Int32 × zm_H) : Nat × Int32 × zm_H := zwh (fun t => f_M_spell_l113_b t.1 t.2) n t
def f_M_spell_l113_ok (n : Nat) (t : Int32 × zm_H) : Prop := zwo (fun t => f_M_spell_l113_b t.1 t.2) (fun t => f_M_spell_l113_b_ok t.1 t.2) n t
theorem f_M_spell_l113_w (n : Nat) (t : Int32 × zm_H) : zWr [133] [] (t.2) ((f_M_spell_l113 n t).2.2) := by
  unfold f_M_spell_l113
  exact zWr_zwh (fun t : Int32 × zm_H => t.2) (fun t => f_M_spell_l113_b_w t.1 t.2)
def f_M_spell_l147_k179 (v1 : Int32) (h : zm_H) : Nat × Int32 × zm_H := (0, (v1 + 1), h)
def f_M_spell_l147_k179_ok (v1 : Int32) (h : zm_H) : Prop := True
theorem f_M_spell_l147_k179_w (v1 : Int32) (h : zm_H) : zWr [] [] h ((f_M_spell_l147_k179 v1 h).2.2) := by
  unfold f_M_spell_l147_k179
  exact (zWr.refl _ _)
def f_M_comesBack_k66 (v1 : Int32) (h : zm_H) : zm_H := (zs h 145 v1 ((zr h 145 v1) + 1))
def f_M_comesBack_k66_ok (v1 : Int32) (h : zm_H) : Prop := (vp_in v1 3 ∧ vp_in v1 3)
theorem f_M_comesBack_k66_w (v1 : Int32) (h : zm_H) : zWr [145] [] h ((f_M_comesBack_k66 v1 h)) := by
  unfold f_M_comesBack_k66
  exact (zWr_si (by decide) (zWr.refl _ _))
def f_M_partOf (p0 : Int32) (h : zm_H) : Int32 := (if (3 ≤ p0) then ((p0 - 2) : Int32) else 0)
def f_M_partOf_ok (p0 : Int32) (h : zm_H) : Prop := True
def f_M_comesBack_k101 (v1 : Int32) (v2 : Int32) (h : zm_H) : zm_H := (if (4 ≤ v2) then (zs h 144 v1 ((zr h 144 v1) + 1)) else (zs (zs h 144 v1 ((zr h 144 v1) + 1)) 138 ((3 * v1) + (if (3 ≤ v2) then ((v2 - 2) : Int32) else 0)) ((zr h 138 ((3 * v1) + (if (3 ≤ v2) then ((v2 - 2) : Int32) else 0))) - 1)))
def f_M_comesBack_k101_ok (v1 : Int32) (v2 : Int32) (h : zm_H) : Prop := (vp_in v1 3 ∧ (vp_in v1 3 ∧ (((4 ≤ v2) → True) ∧ (¬ (4 ≤ v2) → (vp_in ((3 * v1) + (if (3 ≤ v2) then ((v2 - 2) : Int32) else 0)) 9 ∧ vp_in ((3 * v1) + (if (3 ≤ v2) then ((v2 - 2) : Int32) else 0)) 9)))))
theorem f_M_comesBack_k101_w (v1 : Int32) (v2 : Int32) (h : zm_H) : zWr [138, 144] [] h ((f_M_comesBack_k101 v1 v2 h)) := by
  unfold f_M_comesBack_k101
  exact (zWr_ite (fun z : zm_H => z) (zWr_si (by decide) (zWr.refl _ _)) (zWr_si (by decide) (zWr_si (by decide) (zWr.refl _ _))))
def f_M_comesBack_k63 (v1 : Int32) (v2 : Int32) (v3 : Int32) (w0 : Int32) (h : zm_H) : zm_H := (if (w0 = 0) then (f_M_comesBack_k66 v1 h) else (f_M_comesBack_k101 v1 v2 (f_M_keeps ((zf h 92 23) + 1) v3 (zr h 140 v1) v2 (zr h 143 v1) h)))
def f_M_comesBack_k63_ok (v1 : Int32) (v2 : Int32) (v3 : Int32) (w0 : Int32) (h : zm_H) : Prop := (((w0 = 0) → (f_M_comesBack_k66_ok v1 h)) ∧ (¬ (w0 = 0) → (vp_in v1 3 ∧ (vp_in v1 3 ∧ (f_M_keeps_ok ((zf h 92 23) + 1) v3 (zr h 140 v1) v2 (zr h 143 v1) h ∧ (f_M_comesBack_k101_ok v1 v2 (f_M_keeps ((zf h 92 23) + 1) v3 (zr h 140 v1) v2 (zr h 143 v1) h)))))))
theorem f_M_comesBack_k63_w (v1 : Int32) (v2 : Int32) (v3 : Int32) (w0 : Int32) (h : zm_H) : zWr [118, 119, 120, 121, 122, 138, 144, 145] [(92, 41)] h ((f_M_comesBack_k63 v1 v2 v3 w0 h)) := by
  unfold f_M_comesBack_k63
  exact (zWr_ite (fun z : zm_H => z) (zWr_tr (f_M_comesBack_k66_w v1 h) (by decide) (by decide) (zWr.refl _ _)) (zWr_tr (f_M_comesBack_k101_w v1 v2 (f_M_keeps ((zf h 92 23) + 1) v3 (zr h 140 v1) v2 (zr h 143 v1) h)) (by decide) (by decide) (zWr_tr (f_M_keeps_w ((zf h 92 23) + 1) v3 (zr h 140 v1) v2 (zr h 143 v1) h) (by decide) (by decide) (zWr.refl _ _))))
def f_M_comesBack (p1 : Int32) (h : zm_H) : zm_H := (if ((zf h 92 41) = 200) then (f_M_comesBack_k66 p1 (zs h 139 p1 (zm_nb 2 0))) else (f_M_comesBack_k63 p1 (zr h 141 p1) (if (3 ≤ (zr h 141 p1)) then ((if ((zr h 141 p1) = 3) then (2 : Int32) else 3) : Int32) else 1) (f_M_does 0 (if (3 ≤ (zr h 141 p1)) then ((if ((zr h 141 p1) = 3) then (2 : Int32) else 3) : Int32) else 1) (zr h 140 p1) (zr h 141 p1) (zr h 143 p1) (zs h 139 p1 (zm_nb 2 0))).1 (f_M_does 0 (if (3 ≤ (zr h 141 p1)) then ((if ((zr h 141 p1) = 3) then (2 : Int32) else 3) : Int32) else 1) (zr h 140 p1) (zr h 141 p1) (zr h 143 p1) (zs h 139 p1 (zm_nb 2 0))).2))
def f_M_comesBack_ok (p1 : Int32) (h : zm_H) : Prop := (vp_in p1 3 ∧ (vp_in p1 3 ∧ ((((zf h 92 41) = 200) → (f_M_comesBack_k66_ok p1 (zs h 139 p1 (zm_nb 2 0)))) ∧ (¬ ((zf h 92 41) = 200) → (vp_in p1 3 ∧ (vp_in p1 3 ∧ (f_M_does_ok 0 (if (3 ≤ (zr h 141 p1)) then ((if ((zr h 141 p1) = 3) then (2 : Int32) else 3) : Int32) else 1) (zr h 140 p1) (zr h 141 p1) (zr h 143 p1) (zs h 139 p1 (zm_nb 2 0)) ∧ (f_M_comesBack_k63_ok p1 (zr h 141 p1) (if (3 ≤ (zr h 141 p1)) then ((if ((zr h 141 p1) = 3) then (2 : Int32) else 3) : Int32) else 1) (f_M_does 0 (if (3 ≤ (zr h 141 p1)) then ((if ((zr h 141 p1) = 3) then (2 : Int32) else 3) : Int32) else 1) (zr h 140 p1) (zr h 141 p1) (zr h 143 p1) (zs h 139 p1 (zm_nb 2 0))).1 (f_M_does 0 (if (3 ≤ (zr h 141 p1)) then ((if ((zr h 141 p1) = 3) then (2 : Int32) else 3) : Int32) else 1) (zr h 140 p1) (zr h 141 p1) (zr h 143 p1) (zs h 139 p1 (zm_nb 2 0))).2))))))))
theorem f_M_comesBack_w (p1 : Int32) (h : zm_H) : zWr [118, 119, 120, 121, 122, 123, 124, 125, 128, 129, 130, 138, 139, 144, 145] [(92, 41)] h ((f_M_comesBack p1 h)) := by
  unfold f_M_comesBack
  exact (zWr_ite (fun z : zm_H => z) (zWr_tr (f_M_comesBack_k66_w p1 (zs h 139 p1 (zm_nb 2 0))) (by decide) (by decide) (zWr_si (by decide) (zWr.refl _ _))) (zWr_tr (f_M_comesBack_k63_w p1 (zr h 141 p1) (if (3 ≤ (zr h 141 p1)) then ((if ((zr h 141 p1) = 3) then (2 : Int32) else 3) : Int32) else 1) (f_M_does 0 (if (3 ≤ (zr h 141 p1)) then ((if ((zr h 141 p1) = 3) then (2 : Int32) else 3) : Int32) else 1) (zr h 140 p1) (zr h 141 p1) (zr h 143 p1) (zs h 139 p1 (zm_nb 2 0))).1 (f_M_does 0 (if (3 ≤ (zr h 141 p1)) then ((if ((zr h 141 p1) = 3) then (2 : Int32) else 3) : Int32) else 1) (zr h 140 p1) (zr h 141 p1) (zr h 143 p1) (zs h 139 p1 (zm_nb 2 0))).2) (by decide) (by decide) (zWr_tr (f_M_does_w 0 (if (3 ≤ (zr h 141 p1)) then ((if ((zr h 141 p1) = 3) then (2 : Int32) else 3) : Int32) else 1) (zr h 140 p1) (zr h 141 p1) (zr h 143 p1) (zs h 139 p1 (zm_nb 2 0))) (by decide) (by decide) (zWr_si (by decide) (zWr.refl _ _)))))
def f_M_spell_l147_b (v1 : Int32) (h : zm_H) : Nat × Int32 × zm_H := (if (3 ≤ v1) then (1, v1, h) else (if ((zr h 139 v1) = 0) then (f_M_spell_l147_k179 v1 h) else (if ((zr h 142 v1) = (zf h 92 23)) then (f_M_spell_l147_k179 v1 (f_M_comesBack v1 h)) else (f_M_spell_l147_k179 v1 h))))
def f_M_spell_l147_b_ok (v1 : Int32) (h : zm_H) : Prop := (((3 ≤ v1) → True) ∧ (¬ (3 ≤ v1) → (vp_in v1 3 ∧ ((((zr h 139 v1) = 0) → True) ∧ (¬ ((zr h 139 v1) = 0) → (vp_in v1 3 ∧ ((((zr h 142 v1) = (zf h 92 23)) → f_M_comesBack_ok v1 h) ∧ (¬ ((zr h 142 v1) = (zf h 92 23)) → True))))))))
theorem f_M_spell_l147_b_w (v1 : Int32) (h : zm_H) : zWr [118, 119, 120, 121, 122, 123, 124, 125, 128, 129, 130, 138, 139, 144, 145] [(92, 41)] h ((f_M_spell_l147_b v1 h).2.2) := by
  unfold f_M_spell_l147_b
  exact (zWr_ite (fun z : Nat × Int32 × zm_H => z.2.2) (zWr.refl _ _) (zWr_ite (fun z : Nat × Int32 × zm_H => z.2.2) (zWr_tr (f_M_spell_l147_k179_w v1 h) (by decide) (by decide) (zWr.refl _ _)) (zWr_ite (fun z : Nat × Int32 × zm_H => z.2.2) (zWr_tr (f_M_spell_l147_k179_w v1 (f_M_comesBack v1 h)) (by decide) (by decide) (zWr_tr (f_M_comesBack_w v1 h) (by decide) (by decide) (zWr.refl _ _))) (zWr_tr (f_M_spell_l147_k179_w v1 h) (by decide) (by decide) (zWr.refl _ _)))))
def f_M_spell_l147 (n : Nat) (t : Int32 × zm_H) : Nat × Int32 × zm_H := zwh (fun t => f_M_spell_l147_b t.1 t.2) n t
def f_M_spell_l147_ok (n : Nat) (t : Int32 × zm_H) : Prop := zwo (fun t => f_M_spell_l147_b t.1 t.2) (fun t => f_M_spell_l147_b_ok t.1 t.2) n t
theorem f_M_spell_l147_w (n : Nat) (t : Int32 × zm_H) : zWr [118, 119, 120, 121, 122, 123, 124, 125, 128, 129, 130, 138, 139, 144, 145] [(92, 41)] (t.2) ((f_M_spell_l147 n t).2.2) := by
  unfold f_M_spell_l147
  exact zWr_zwh (fun t : Int32 × zm_H => t.2) (fun t => f_M_spell_l147_b_w t.1 t.2)
def f_M_spell_k185 (h : zm_H) : zm_H := (zp h 92 23 ((zf h 92 23) + 1))
def f_M_spell_k185_ok (h : zm_H) : Prop := True
theorem f_M_spell_k185_w (h : zm_H) : zWr [] [(92, 23)] h ((f_M_spell_k185 h)) := by
  unfold f_M_spell_k185
  exact (zWr_p (by decide) (zWr.refl _ _))
def f_M_spell_a147 (r : Nat × Int32 × zm_H) : zm_H := (f_M_spell_k185 (r.2.2))
def f_M_spell_a147_ok (r : Nat × Int32 × zm_H) : Prop := True
theorem f_M_spell_a147_w (r : Nat × Int32 × zm_H) : zWr [] [(92, 23)] (r.2.2) ((f_M_spell_a147 r)) := by
  unfold f_M_spell_a147
  exact (zWr_tr (f_M_spell_k185_w (r.2.2)) (by decide) (by decide) (zWr.refl _ _))
def f_M_spell_k145 (h : zm_H) : zm_H := (f_M_spell_a147 (f_M_spell_l147 zF (0, h)))
def f_M_spell_k145_ok (h : zm_H) : Prop := (f_M_spell_l147_ok zF (0, h) ∧ f_M_spell_a147_ok (f_M_spell_l147 zF (0, h)))
theorem f_M_spell_k145_w (h : zm_H) : zWr [118, 119, 120, 121, 122, 123, 124, 125, 128, 129, 130, 138, 139, 144, 145] [(92, 23), (92, 41)] h ((f_M_spell_k145 h)) := by
  unfold f_M_spell_k145
  exact (zWr_tr (f_M_spell_a147_w (f_M_spell_l147 zF (0, h))) (by decide) (by decide) (zWr_tr (f_M_spell_l147_w zF (0, h)) (by decide) (by decide) (zWr.refl _ _)))
def f_M_spell_a113 (r : Nat × Int32 × zm_H) : zm_H := (f_M_spell_k145 (r.2.2))
def f_M_spell_a113_ok (r : Nat × Int32 × zm_H) : Prop := (f_M_spell_k145_ok (r.2.2))
theorem f_M_spell_a113_w (r : Nat × Int32 × zm_H) : zWr [118, 119, 120, 121, 122, 123, 124, 125, 128, 129, 130, 138, 139, 144, 145] [(92, 23), (92, 41)] (r.2.2) ((f_M_spell_a113 r)) := by
  unfold f_M_spell_a113
  exact (zWr_tr (f_M_spell_k145_w (r.2.2)) (by decide) (by decide) (zWr.refl _ _))
def f_M_spell_k85 (h : zm_H) : zm_H := (f_M_spell_a113 (f_M_spell_l113 zF (0, (zs (zs h 131 (zf h 92 23) (zf h 92 88)) 132 (zf h 92 23) (zf h 92 87)))))
def f_M_spell_k85_ok (h : zm_H) : Prop := (vp_in (zf h 92 23) 480 ∧ (vp_in (zf h 92 23) 480 ∧ (f_M_spell_l113_ok zF (0, (zs (zs h 131 (zf h 92 23) (zf h 92 88)) 132 (zf h 92 23) (zf h 92 87))) ∧ f_M_spell_a113_ok (f_M_spell_l113 zF (0, (zs (zs h 131 (zf h 92 23) (zf h 92 88)) 132 (zf h 92 23) (zf h 92 87)))))))
theorem f_M_spell_k85_w (h : zm_H) : zWr [118, 119, 120, 121, 122, 123, 124, 125, 128, 129, 130, 131, 132, 133, 138, 139, 144, 145] [(92, 23), (92, 41)] h ((f_M_spell_k85 h)) := by
  unfold f_M_spell_k85
  exact (zWr_tr (f_M_spell_a113_w (f_M_spell_l113 zF (0, (zs (zs h 131 (zf h 92 23) (zf h 92 88)) 132 (zf h 92 23) (zf h 92 87))))) (by decide) (by decide) (zWr_tr (f_M_spell_l113_w zF (0, (zs (zs h 131 (zf h 92 23) (zf h 92 88)) 132 (zf h 92 23) (zf h 92 87)))) (by decide) (by decide) (zWr_si (by decide) (zWr_si (by decide) (zWr.refl _ _)))))
def f_M_spell_k76 (h : zm_H) : zm_H := (f_M_spell_k85 (f_M_goes 0 (zf h 92 23) h))
def f_M_spell_k76_ok (h : zm_H) : Prop := (f_M_goes_ok 0 (zf h 92 23) h ∧ (f_M_spell_k85_ok (f_M_goes 0 (zf h 92 23) h)))
theorem f_M_spell_k76_w (h : zm_H) : zWr [118, 119, 120, 121, 122, 123, 124, 125, 126, 127, 128, 129, 130, 131, 132, 133, 138, 139, 144, 145, 149, 150, 151, 152, 153] [(92, 23), (92, 41), (92, 87), (92, 88)] h ((f_M_spell_k76 h)) := by
  unfold f_M_spell_k76
  exact (zWr_tr (f_M_spell_k85_w (f_M_goes 0 (zf h 92 23) h)) (by decide) (by decide) (zWr_tr (f_M_goes_w 0 (zf h 92 23) h) (by decide) (by decide) (zWr.refl _ _)))
def f_M_spell_a24 (r : Nat × Int32 × zm_H) : zm_H := (f_M_spell_k76 (r.2.2))
def f_M_spell_a24_ok (r : Nat × Int32 × zm_H) : Prop := (f_M_spell_k76_ok (r.2.2))
theorem f_M_spell_a24_w (r : Nat × Int32 × zm_H) : zWr [118, 119, 120, 121, 122, 123, 124, 125, 126, 127, 128, 129, 130, 131, 132, 133, 138, 139, 144, 145, 149, 150, 151, 152, 153] [(92, 23), (92, 41), (92, 87), (92, 88)] (r.2.2) ((f_M_spell_a24 r)) := by
  unfold f_M_spell_a24
  exact (zWr_tr (f_M_spell_k76_w (r.2.2)) (by decide) (by decide) (zWr.refl _ _))
def f_M_spell_k22 (h : zm_H) : zm_H := (f_M_spell_a24 (f_M_spell_l24 zF (0, h)))
def f_M_spell_k22_ok (h : zm_H) : Prop := (f_M_spell_l24_ok zF (0, h) ∧ f_M_spell_a24_ok (f_M_spell_l24 zF (0, h)))
theorem f_M_spell_k22_w (h : zm_H) : zWr [118, 119, 120, 121, 122, 123, 124, 125, 126, 127, 128, 129, 130, 131, 132, 133, 138, 139, 144, 145, 149, 150, 151, 152, 153] [(92, 23), (92, 41), (92, 87), (92, 88)] h ((f_M_spell_k22 h)) := by
  unfold f_M_spell_k22
  exact (zWr_tr (f_M_spell_a24_w (f_M_spell_l24 zF (0, h))) (by decide) (by decide) (zWr_tr (f_M_spell_l24_w zF (0, h)) (by decide) (by decide) (zWr.refl _ _)))
def f_M_spell_k12 (h : zm_H) : zm_H := (f_M_spell_k22 (f_M_asks 0 (-1) (zf h 92 23) h))
def f_M_spell_k12_ok (h : zm_H) : Prop := (f_M_asks_ok 0 (-1) (zf h 92 23) h ∧ (f_M_spell_k22_ok (f_M_asks 0 (-1) (zf h 92 23) h)))
theorem f_M_spell_k12_w (h : zm_H) : zWr [118, 119, 120, 121, 122, 123, 124, 125, 126, 127, 128, 129, 130, 131, 132, 133, 138, 139, 144, 145, 149, 150, 151, 152, 153] [(92, 23), (92, 41), (92, 87), (92, 88)] h ((f_M_spell_k12 h)) := by
  unfold f_M_spell_k12
  exact (zWr_tr (f_M_spell_k22_w (f_M_asks 0 (-1) (zf h 92 23) h)) (by decide) (by decide) (zWr_tr (f_M_asks_w 0 (-1) (zf h 92 23) h) (by decide) (by decide) (zWr.refl _ _)))
def f_M_spell (h : zm_H) : zm_H := (f_M_spell_k12 (f_M_looks (zf h 92 23) (zf h 92 23) h))
def f_M_spell_ok (h : zm_H) : Prop := (f_M_looks_ok (zf h 92 23) (zf h 92 23) h ∧ (f_M_spell_k12_ok (f_M_looks (zf h 92 23) (zf h 92 23) h)))
theorem f_M_spell_w (h : zm_H) : zWr [118, 119, 120, 121, 122, 123, 124, 125, 126, 127, 128, 129, 130, 131, 132, 133, 138, 139, 144, 145, 149, 150, 151, 152, 153] [(92, 23), (92, 41), (92, 79), (92, 80), (92, 81), (92, 87), (92, 88)] h ((f_M_spell h)) := by
  unfold f_M_spell
  exact (zWr_tr (f_M_spell_k12_w (f_M_looks (zf h 92 23) (zf h 92 23) h)) (by decide) (by decide) (zWr_tr (f_M_looks_w (zf h 92 23) (zf h 92 23) h) (by decide) (by decide) (zWr.refl _ _)))
def f_M_go_l14_k33 (v1 : Int32) (v2 : Int32) (h : zm_H) : Nat × Int32 × zm_H := (0, (v2 + 1), h)
def f_M_go_l14_k33_ok (v1 : Int32) (v2 : Int32) (h : zm_H) : Prop := True
theorem f_M_go_l14_k33_w (v1 : Int32) (v2 : Int32) (h : zm_H) : zWr [] [] h ((f_M_go_l14_k33 v1 v2 h).2.2) := by
  unfold f_M_go_l14_k33
  exact (zWr.refl _ _)
def f_M_go_l14_b (v1 : Int32) (v2 : Int32) (h : zm_H) : Nat × Int32 × zm_H := (if (v1 ≤ v2) then (1, v2, h) else (if (480 ≤ (zf h 92 23)) then (1, v2, h) else (f_M_go_l14_k33 v1 v2 (f_M_spell h))))
def f_M_go_l14_b_ok (v1 : Int32) (v2 : Int32) (h : zm_H) : Prop := (((v1 ≤ v2) → True) ∧ (¬ (v1 ≤ v2) → (((480 ≤ (zf h 92 23)) → True) ∧ (¬ (480 ≤ (zf h 92 23)) → f_M_spell_ok h))))
theorem f_M_go_l14_b_w (v1 : Int32) (v2 : Int32) (h : zm_H) : zWr [118, 119, 120, 121, 122, 123, 124, 125, 126, 127, 128, 129, 130, 131, 132, 133, 138, 139, 144, 145, 149, 150, 151, 152, 153] [(92, 23), (92, 41), (92, 79), (92, 80), (92, 81), (92, 87), (92, 88)] h ((f_M_go_l14_b v1 v2 h).2.2) := by
  unfold f_M_go_l14_b
  exact (zWr_ite (fun z : Nat × Int32 × zm_H => z.2.2) (zWr.refl _ _) (zWr_ite (fun z : Nat × Int32 × zm_H => z.2.2) (zWr.refl _ _) (zWr_tr (f_M_go_l14_k33_w v1 v2 (f_M_spell h)) (by decide) (by decide) (zWr_tr (f_M_spell_w h) (by decide) (by decide) (zWr.refl _ _)))))
def f_M_go_l14 (v1 : Int32) (n : Nat) (t : Int32 × zm_H) : Nat × Int32 × zm_H := zwh (fun t => f_M_go_l14_b v1 t.1 t.2) n t
def f_M_go_l14_ok (v1 : Int32) (n : Nat) (t : Int32 × zm_H) : Prop := zwo (fun t => f_M_go_l14_b v1 t.1 t.2) (fun t => f_M_go_l14_b_ok v1 t.1 t.2) n t
theorem f_M_go_l14_w (v1 : Int32) (n : Nat) (t : Int32 × zm_H) : zWr [118, 119, 120, 121, 122, 123, 124, 125, 126, 127, 128, 129, 130, 131, 132, 133, 138, 139, 144, 145, 149, 150, 151, 152, 153] [(92, 23), (92, 41), (92, 79), (92, 80), (92, 81), (92, 87), (92, 88)] (t.2) ((f_M_go_l14 v1 n t).2.2) := by
  unfold f_M_go_l14
  exact zWr_zwh (fun t : Int32 × zm_H => t.2) (fun t => f_M_go_l14_b_w v1 t.1 t.2)
def f_M_go_k39 (h : zm_H) : Int32 × zm_H := ((zf h 92 23), h)
def f_M_go_k39_ok (h : zm_H) : Prop := True
theorem f_M_go_k39_w (h : zm_H) : zWr [] [] h ((f_M_go_k39 h).2) := by
  unfold f_M_go_k39
  exact (zWr.refl _ _)
def f_M_go_a14 (r : Nat × Int32 × zm_H) : Int32 × zm_H := (f_M_go_k39 (r.2.2))
def f_M_go_a14_ok (r : Nat × Int32 × zm_H) : Prop := True
theorem f_M_go_a14_w (r : Nat × Int32 × zm_H) : zWr [] [] (r.2.2) ((f_M_go_a14 r).2) := by
  unfold f_M_go_a14
  exact (zWr_tr (f_M_go_k39_w (r.2.2)) (by decide) (by decide) (zWr.refl _ _))
def f_M_go (p1 : Int32) (h : zm_H) : Int32 × zm_H := (if (¬ (p1 < 0) ∧ (¬ (80 < p1))) then (f_M_go_a14 (f_M_go_l14 p1 zF (0, h))) else ((-1), h))
def f_M_go_ok (p1 : Int32) (h : zm_H) : Prop := (((¬ (p1 < 0) ∧ (¬ (80 < p1))) → (f_M_go_l14_ok p1 zF (0, h) ∧ f_M_go_a14_ok (f_M_go_l14 p1 zF (0, h)))) ∧ (¬ (¬ (p1 < 0) ∧ (¬ (80 < p1))) → True))
theorem f_M_go_w (p1 : Int32) (h : zm_H) : zWr [118, 119, 120, 121, 122, 123, 124, 125, 126, 127, 128, 129, 130, 131, 132, 133, 138, 139, 144, 145, 149, 150, 151, 152, 153] [(92, 23), (92, 41), (92, 79), (92, 80), (92, 81), (92, 87), (92, 88)] h ((f_M_go p1 h).2) := by
  unfold f_M_go
  exact (zWr_ite (fun z : Int32 × zm_H => z.2) (zWr_tr (f_M_go_a14_w (f_M_go_l14 p1 zF (0, h))) (by decide) (by decide) (zWr_tr (f_M_go_l14_w p1 zF (0, h)) (by decide) (by decide) (zWr.refl _ _))) (zWr.refl _ _))
def f_Course_ofRaft_37 (p1 : Int32) (p2 : Int32) (h : zm_H) : Int32 := (if p2 = 0 then (zr h 38 p1) else (if p2 = 1 then (zr h 39 p1) else (if p2 = 2 then (zr h 24 p1) else (if p2 = 3 then (zr h 25 p1) else (if p2 = 4 then (f_Course_leak_37 p1 h) else (if p2 = 5 then (zr h 41 p1) else (if p2 = 6 then (f_Course_holdBits_37 p1 h) else (if p2 = 7 then (zr h 42 p1) else (-1)))))))))
def f_Course_ofRaft_37_ok (p1 : Int32) (p2 : Int32) (h : zm_H) : Prop := ((p2 = 0 → vp_in p1 10) ∧ (¬ p2 = 0 → ((p2 = 1 → vp_in p1 10) ∧ (¬ p2 = 1 → ((p2 = 2 → vp_in p1 10) ∧ (¬ p2 = 2 → ((p2 = 3 → vp_in p1 10) ∧ (¬ p2 = 3 → ((p2 = 4 → f_Course_leak_37_ok p1 h) ∧ (¬ p2 = 4 → ((p2 = 5 → vp_in p1 10) ∧ (¬ p2 = 5 → ((p2 = 6 → f_Course_holdBits_37_ok p1 h) ∧ (¬ p2 = 6 → ((p2 = 7 → vp_in p1 10) ∧ (¬ p2 = 7 → True))))))))))))))))
def f_Course_ofChain_37 (p1 : Int32) (p2 : Int32) (p3 : Int32) (h : zm_H) : Int32 := (if (p3 < 3) then (if p2 = 1 then (zr h 43 ((p1 * 3) + p3)) else (if p2 = 2 then (zr h 44 ((p1 * 3) + p3)) else (if p2 = 3 then (zr h 45 ((p1 * 3) + p3)) else (-1)))) else (-1))
def f_Course_ofChain_37_ok (p1 : Int32) (p2 : Int32) (p3 : Int32) (h : zm_H) : Prop := (((p3 < 3) → ((p2 = 1 → vp_in ((p1 * 3) + p3) 30) ∧ (¬ p2 = 1 → ((p2 = 2 → vp_in ((p1 * 3) + p3) 30) ∧ (¬ p2 = 2 → ((p2 = 3 → vp_in ((p1 * 3) + p3) 30) ∧ (¬ p2 = 3 → True))))))) ∧ (¬ (p3 < 3) → True))
def f_N_told (p1 : Int32) (p2 : Int32) (h : zm_H) : Int32 := (if (¬ (p1 < 0) ∧ (¬ ((zf h 23 0) ≤ p1))) then ((if (p2 < 10) then ((f_Course_ofRaft_37 p1 p2 h) : Int32) else (f_Course_ofChain_37 p1 (p2 / 10) (zm_rm p2 10) h)) : Int32) else (-1))
def f_N_told_ok (p1 : Int32) (p2 : Int32) (h : zm_H) : Prop := (((¬ (p1 < 0) ∧ (¬ ((zf h 23 0) ≤ p1))) → (((p2 < 10) → f_Course_ofRaft_37_ok p1 p2 h) ∧ (¬ (p2 < 10) → f_Course_ofChain_37_ok p1 (p2 / 10) (zm_rm p2 10) h))) ∧ (¬ (¬ (p1 < 0) ∧ (¬ ((zf h 23 0) ≤ p1))) → True))
def f_M_toldOf_l184_b (v1 : Int32) (v2 : Int32) (v4 : Int32) (v5 : Int32) (v6 : Int32) (v7 : Int32) (h : zm_H) : Nat × Int32 × Int32 := (if (3 ≤ v7) then (1, v5, v7) else (0, (v5 ||| (if ((f_M_chainHolds ((3 * ((10 * v1) + v2)) + v7) h) = 0) then (0 : Int32) else (1 <<< (v7 &&& 31)))), (v7 + 1)))
def f_M_toldOf_l184_b_ok (v1 : Int32) (v2 : Int32) (v4 : Int32) (v5 : Int32) (v6 : Int32) (v7 : Int32) (h : zm_H) : Prop := (((3 ≤ v7) → True) ∧ (¬ (3 ≤ v7) → f_M_chainHolds_ok ((3 * ((10 * v1) + v2)) + v7) h))
def f_M_toldOf_l184 (v1 : Int32) (v2 : Int32) (v4 : Int32) (v6 : Int32) (h : zm_H) (n : Nat) (t : Int32 × Int32) : Nat × Int32 × Int32 := zwh (fun t => f_M_toldOf_l184_b v1 v2 v4 t.1 v6 t.2 h) n t
def f_M_toldOf_l184_ok (v1 : Int32) (v2 : Int32) (v4 : Int32) (v6 : Int32) (h : zm_H) (n : Nat) (t : Int32 × Int32) : Prop := zwo (fun t => f_M_toldOf_l184_b v1 v2 v4 t.1 v6 t.2 h) (fun t => f_M_toldOf_l184_b_ok v1 v2 v4 t.1 v6 t.2 h) n t
def f_M_toldOf_k223 (v5 : Int32) (h : zm_H) : Int32 := v5
def f_M_toldOf_k223_ok (v5 : Int32) (h : zm_H) : Prop := True
def f_M_toldOf_a184 (r : Nat × Int32 × Int32) (h : zm_H) : Int32 := (f_M_toldOf_k223 (r.2.1) h)
def f_M_toldOf_a184_ok (r : Nat × Int32 × Int32) (h : zm_H) : Prop := True
def f_M_toldOf_k89 (v1 : Int32) (v2 : Int32) (v3 : Int32) (v4 : Int32) (v5 : Int32) (v6 : Int32) (h : zm_H) : Int32 := (if v3 = 0 then (zr h 123 v4) else (if v3 = 1 then (zr h 124 v4) else (if v3 = 2 then (zr h 112 v2) else (if v3 = 3 then (zr h 113 v2) else (if v3 = 4 then (f_M_leak v4 h) else (if v3 = 5 then (zr h 126 v4) else (if v3 = 6 then (f_M_toldOf_a184 (f_M_toldOf_l184 v1 v2 v4 v6 h zF (v5, 0)) h) else (if v3 = 7 then (zrl h 127 v4).toInt32 else (-1)))))))))
def f_M_toldOf_k89_ok (v1 : Int32) (v2 : Int32) (v3 : Int32) (v4 : Int32) (v5 : Int32) (v6 : Int32) (h : zm_H) : Prop := ((v3 = 0 → vp_in v4 20) ∧ (¬ v3 = 0 → ((v3 = 1 → vp_in v4 20) ∧ (¬ v3 = 1 → ((v3 = 2 → vp_in v2 10) ∧ (¬ v3 = 2 → ((v3 = 3 → vp_in v2 10) ∧ (¬ v3 = 3 → ((v3 = 4 → f_M_leak_ok v4 h) ∧ (¬ v3 = 4 → ((v3 = 5 → vp_in v4 20) ∧ (¬ v3 = 5 → ((v3 = 6 → (f_M_toldOf_l184_ok v1 v2 v4 v6 h zF (v5, 0) ∧ f_M_toldOf_a184_ok (f_M_toldOf_l184 v1 v2 v4 v6 h zF (v5, 0)) h)) ∧ (¬ v3 = 6 → ((v3 = 7 → vp_in v4 20) ∧ (¬ v3 = 7 → True))))))))))))))))
def f_M_toldOf (p1 : Int32) (p2 : Int32) (p3 : Int32) (h : zm_H) : Int32 := (if (¬ (p3 < 10) ∧ (¬ (39 < p3))) then (if (3 ≤ (zm_rm p3 10)) then (f_M_toldOf_k89 p1 p2 p3 ((10 * p1) + p2) 0 (zm_rm p3 10) h) else (if (20 ≤ p3) then ((if (30 ≤ p3) then ((zr h 130 ((3 * ((10 * p1) + p2)) + (zm_rm p3 10))) : Int32) else (zr h 129 ((3 * ((10 * p1) + p2)) + (zm_rm p3 10)))) : Int32) else (zr h 128 ((3 * ((10 * p1) + p2)) + (zm_rm p3 10))))) else (f_M_toldOf_k89 p1 p2 p3 ((10 * p1) + p2) 0 (zm_rm p3 10) h))
def f_M_toldOf_ok (p1 : Int32) (p2 : Int32) (p3 : Int32) (h : zm_H) : Prop := (((¬ (p3 < 10) ∧ (¬ (39 < p3))) → (((3 ≤ (zm_rm p3 10)) → (f_M_toldOf_k89_ok p1 p2 p3 ((10 * p1) + p2) 0 (zm_rm p3 10) h)) ∧ (¬ (3 ≤ (zm_rm p3 10)) → (((20 ≤ p3) → (((30 ≤ p3) → vp_in ((3 * ((10 * p1) + p2)) + (zm_rm p3 10)) 60) ∧ (¬ (30 ≤ p3) → vp_in ((3 * ((10 * p1) + p2)) + (zm_rm p3 10)) 60))) ∧ (¬ (20 ≤ p3) → vp_in ((3 * ((10 * p1) + p2)) + (zm_rm p3 10)) 60))))) ∧ (¬ (¬ (p3 < 10) ∧ (¬ (39 < p3))) → (f_M_toldOf_k89_ok p1 p2 p3 ((10 * p1) + p2) 0 (zm_rm p3 10) h)))
def f_M_told (p1 : Int32) (p2 : Int32) (h : zm_H) : Int32 := (if (¬ (p1 < 0) ∧ (¬ (((zf h 92 33) - 1) < p1))) then ((f_M_toldOf 0 p1 p2 h) : Int32) else (-1))
def f_M_told_ok (p1 : Int32) (p2 : Int32) (h : zm_H) : Prop := (((¬ (p1 < 0) ∧ (¬ (((zf h 92 33) - 1) < p1))) → f_M_toldOf_ok 0 p1 p2 h) ∧ (¬ (¬ (p1 < 0) ∧ (¬ (((zf h 92 33) - 1) < p1))) → True))
def f_N_isOver (p1 : Int32) (h : zm_H) : Int32 := (if (¬ (p1 < 0) ∧ (¬ ((zf h 0 0) ≤ p1))) then (1 : Int32) else 0)
def f_N_isOver_ok (p1 : Int32) (h : zm_H) : Prop := True
def f_Course_ofSpell_37 (p1 : Int32) (p2 : Int32) (h : zm_H) : Int32 := (if (p2 = 0) then ((zr h 47 p1) : Int32) else (if (p2 = 1) then ((zr h 48 p1) : Int32) else (if (p2 < 10) then ((-2147483648) : Int32) else (if (20 ≤ p2) then ((-2147483648) : Int32) else (zr h 49 (((p1 * 10) + p2) - 10))))))
def f_Course_ofSpell_37_ok (p1 : Int32) (p2 : Int32) (h : zm_H) : Prop := (((p2 = 0) → vp_in p1 480) ∧ (¬ (p2 = 0) → (((p2 = 1) → vp_in p1 480) ∧ (¬ (p2 = 1) → (((p2 < 10) → True) ∧ (¬ (p2 < 10) → (((20 ≤ p2) → True) ∧ (¬ (20 ≤ p2) → vp_in (((p1 * 10) + p2) - 10) 4800))))))))
def f_N_booked (p1 : Int32) (p2 : Int32) (h : zm_H) : Int32 := (if (¬ (p1 < 0) ∧ (¬ ((zf h 0 0) ≤ p1))) then ((f_Course_ofSpell_37 p1 p2 h) : Int32) else (-2147483648))
def f_N_booked_ok (p1 : Int32) (p2 : Int32) (h : zm_H) : Prop := (((¬ (p1 < 0) ∧ (¬ ((zf h 0 0) ≤ p1))) → f_Course_ofSpell_37_ok p1 p2 h) ∧ (¬ (¬ (p1 < 0) ∧ (¬ ((zf h 0 0) ≤ p1))) → True))
def f_M_isOver (p1 : Int32) (h : zm_H) : Int32 := (if (¬ (p1 < 0) ∧ (¬ (((zf h 92 23) - 1) < p1))) then (1 : Int32) else 0)
def f_M_isOver_ok (p1 : Int32) (h : zm_H) : Prop := True
def f_M_isAsked (p0 : Int32) (h : zm_H) : Int32 := (if ((¬ (p0 < 0) ∧ (¬ (1 < p0))) ∨ (¬ (p0 < 10) ∧ (¬ (19 < p0)))) then (1 : Int32) else 0)
def f_M_isAsked_ok (p0 : Int32) (h : zm_H) : Prop := True
def f_M_booked (p1 : Int32) (p2 : Int32) (h : zm_H) : Int32 := (if (¬ (p1 < 0) ∧ (¬ (((zf h 92 23) - 1) < p1))) then ((if ((¬ (p2 < 0) ∧ (¬ (1 < p2))) ∨ (¬ (p2 < 10) ∧ (¬ (19 < p2)))) then ((if (p2 = 0) then ((zr h 131 p1) : Int32) else (if (p2 = 1) then ((zr h 132 p1) : Int32) else (zr h 133 (((10 * p1) + p2) - 10)))) : Int32) else (-2147483648)) : Int32) else (-2147483648))
def f_M_booked_ok (p1 : Int32) (p2 : Int32) (h : zm_H) : Prop := (((¬ (p1 < 0) ∧ (¬ (((zf h 92 23) - 1) < p1))) → ((((¬ (p2 < 0) ∧ (¬ (1 < p2))) ∨ (¬ (p2 < 10) ∧ (¬ (19 < p2)))) → (((p2 = 0) → vp_in p1 480) ∧ (¬ (p2 = 0) → (((p2 = 1) → vp_in p1 480) ∧ (¬ (p2 = 1) → vp_in (((10 * p1) + p2) - 10) 4800))))) ∧ (¬ ((¬ (p2 < 0) ∧ (¬ (1 < p2))) ∨ (¬ (p2 < 10) ∧ (¬ (19 < p2)))) → True))) ∧ (¬ (¬ (p1 < 0) ∧ (¬ (((zf h 92 23) - 1) < p1))) → True))
def f_Arrays_fill_53_l5_b (v1 : Int32) (v2 : Int32) (v3 : Int32) (h : zm_H) : Nat × Int32 × zm_H := (if (v3 ≤ v2) then (1, v2, h) else (0, (v2 + 1), (zs h 53 v2 v1)))
def f_Arrays_fill_53_l5_b_ok (v1 : Int32) (v2 : Int32) (v3 : Int32) (h : zm_H) : Prop := (((v3 ≤ v2) → True) ∧ (¬ (v3 ≤ v2) → vp_in v2 10))
theorem f_Arrays_fill_53_l5_b_w (v1 : Int32) (v2 : Int32) (v3 : Int32) (h : zm_H) : zWr [53] [] h ((f_Arrays_fill_53_l5_b v1 v2 v3 h).2.2) := by
  unfold f_Arrays_fill_53_l5_b
  exact (zWr_ite (fun z : Nat × Int32 × zm_H => z.2.2) (zWr.refl _ _) (zWr_si (by decide) (zWr.refl _ _)))
def f_Arrays_fill_53_l5 (v1 : Int32) (v3 : Int32) (n : Nat) (t : Int32 × zm_H) : Nat × Int32 × zm_H := zwh (fun t => f_Arrays_fill_53_l5_b v1 t.1 v3 t.2) n t
def f_Arrays_fill_53_l5_ok (v1 : Int32) (v3 : Int32) (n : Nat) (t : Int32 × zm_H) : Prop := zwo (fun t => f_Arrays_fill_53_l5_b v1 t.1 v3 t.2) (fun t => f_Arrays_fill_53_l5_b_ok v1 t.1 v3 t.2) n t
theorem f_Arrays_fill_53_l5_w (v1 : Int32) (v3 : Int32) (n : Nat) (t : Int32 × zm_H) : zWr [53] [] (t.2) ((f_Arrays_fill_53_l5 v1 v3 n t).2.2) := by
  unfold f_Arrays_fill_53_l5
  exact zWr_zwh (fun t : Int32 × zm_H => t.2) (fun t => f_Arrays_fill_53_l5_b_w v1 t.1 v3 t.2)
def f_Arrays_fill_53_k20 (h : zm_H) : zm_H := h
def f_Arrays_fill_53_k20_ok (h : zm_H) : Prop := True
theorem f_Arrays_fill_53_k20_w (h : zm_H) : zWr [] [] h ((f_Arrays_fill_53_k20 h)) := by
  unfold f_Arrays_fill_53_k20
  exact (zWr.refl _ _)
def f_Arrays_fill_53_a5 (r : Nat × Int32 × zm_H) : zm_H := (f_Arrays_fill_53_k20 (r.2.2))
def f_Arrays_fill_53_a5_ok (r : Nat × Int32 × zm_H) : Prop := True
theorem f_Arrays_fill_53_a5_w (r : Nat × Int32 × zm_H) : zWr [] [] (r.2.2) ((f_Arrays_fill_53_a5 r)) := by
  unfold f_Arrays_fill_53_a5
  exact (zWr_tr (f_Arrays_fill_53_k20_w (r.2.2)) (by decide) (by decide) (zWr.refl _ _))
def f_Arrays_fill_53 (p1 : Int32) (h : zm_H) : zm_H := (f_Arrays_fill_53_a5 (f_Arrays_fill_53_l5 p1 (Int32.ofNat 10) zF (0, h)))
def f_Arrays_fill_53_ok (p1 : Int32) (h : zm_H) : Prop := (f_Arrays_fill_53_l5_ok p1 (Int32.ofNat 10) zF (0, h) ∧ f_Arrays_fill_53_a5_ok (f_Arrays_fill_53_l5 p1 (Int32.ofNat 10) zF (0, h)))
theorem f_Arrays_fill_53_w (p1 : Int32) (h : zm_H) : zWr [53] [] h ((f_Arrays_fill_53 p1 h)) := by
  unfold f_Arrays_fill_53
  exact (zWr_tr (f_Arrays_fill_53_a5_w (f_Arrays_fill_53_l5 p1 (Int32.ofNat 10) zF (0, h))) (by decide) (by decide) (zWr_tr (f_Arrays_fill_53_l5_w p1 (Int32.ofNat 10) zF (0, h)) (by decide) (by decide) (zWr.refl _ _)))
def f_Arrays_fill_54_l5_b (v1 : Int32) (v2 : Int32) (v3 : Int32) (h : zm_H) : Nat × Int32 × zm_H := (if (v3 ≤ v2) then (1, v2, h) else (0, (v2 + 1), (zs h 54 v2 v1)))
def f_Arrays_fill_54_l5_b_ok (v1 : Int32) (v2 : Int32) (v3 : Int32) (h : zm_H) : Prop := (((v3 ≤ v2) → True) ∧ (¬ (v3 ≤ v2) → vp_in v2 10))
theorem f_Arrays_fill_54_l5_b_w (v1 : Int32) (v2 : Int32) (v3 : Int32) (h : zm_H) : zWr [54] [] h ((f_Arrays_fill_54_l5_b v1 v2 v3 h).2.2) := by
  unfold f_Arrays_fill_54_l5_b
  exact (zWr_ite (fun z : Nat × Int32 × zm_H => z.2.2) (zWr.refl _ _) (zWr_si (by decide) (zWr.refl _ _)))
def f_Arrays_fill_54_l5 (v1 : Int32) (v3 : Int32) (n : Nat) (t : Int32 × zm_H) : Nat × Int32 × zm_H := zwh (fun t => f_Arrays_fill_54_l5_b v1 t.1 v3 t.2) n t
def f_Arrays_fill_54_l5_ok (v1 : Int32) (v3 : Int32) (n : Nat) (t : Int32 × zm_H) : Prop := zwo (fun t => f_Arrays_fill_54_l5_b v1 t.1 v3 t.2) (fun t => f_Arrays_fill_54_l5_b_ok v1 t.1 v3 t.2) n t
theorem f_Arrays_fill_54_l5_w (v1 : Int32) (v3 : Int32) (n : Nat) (t : Int32 × zm_H) : zWr [54] [] (t.2) ((f_Arrays_fill_54_l5 v1 v3 n t).2.2) := by
  unfold f_Arrays_fill_54_l5
  exact zWr_zwh (fun t : Int32 × zm_H => t.2) (fun t => f_Arrays_fill_54_l5_b_w v1 t.1 v3 t.2)
def f_Arrays_fill_54_k20 (h : zm_H) : zm_H := h
def f_Arrays_fill_54_k20_ok (h : zm_H) : Prop := True
theorem f_Arrays_fill_54_k20_w (h : zm_H) : zWr [] [] h ((f_Arrays_fill_54_k20 h)) := by
  unfold f_Arrays_fill_54_k20
  exact (zWr.refl _ _)
def f_Arrays_fill_54_a5 (r : Nat × Int32 × zm_H) : zm_H := (f_Arrays_fill_54_k20 (r.2.2))
def f_Arrays_fill_54_a5_ok (r : Nat × Int32 × zm_H) : Prop := True
theorem f_Arrays_fill_54_a5_w (r : Nat × Int32 × zm_H) : zWr [] [] (r.2.2) ((f_Arrays_fill_54_a5 r)) := by
  unfold f_Arrays_fill_54_a5
  exact (zWr_tr (f_Arrays_fill_54_k20_w (r.2.2)) (by decide) (by decide) (zWr.refl _ _))
def f_Arrays_fill_54 (p1 : Int32) (h : zm_H) : zm_H := (f_Arrays_fill_54_a5 (f_Arrays_fill_54_l5 p1 (Int32.ofNat 10) zF (0, h)))
def f_Arrays_fill_54_ok (p1 : Int32) (h : zm_H) : Prop := (f_Arrays_fill_54_l5_ok p1 (Int32.ofNat 10) zF (0, h) ∧ f_Arrays_fill_54_a5_ok (f_Arrays_fill_54_l5 p1 (Int32.ofNat 10) zF (0, h)))
theorem f_Arrays_fill_54_w (p1 : Int32) (h : zm_H) : zWr [54] [] h ((f_Arrays_fill_54 p1 h)) := by
  unfold f_Arrays_fill_54
  exact (zWr_tr (f_Arrays_fill_54_a5_w (f_Arrays_fill_54_l5 p1 (Int32.ofNat 10) zF (0, h))) (by decide) (by decide) (zWr_tr (f_Arrays_fill_54_l5_w p1 (Int32.ofNat 10) zF (0, h)) (by decide) (by decide) (zWr.refl _ _)))
def f_Arrays_fill_55_l5_b (v1 : Int32) (v2 : Int32) (v3 : Int32) (h : zm_H) : Nat × Int32 × zm_H := (if (v3 ≤ v2) then (1, v2, h) else (0, (v2 + 1), (zs h 55 v2 v1)))
def f_Arrays_fill_55_l5_b_ok (v1 : Int32) (v2 : Int32) (v3 : Int32) (h : zm_H) : Prop := (((v3 ≤ v2) → True) ∧ (¬ (v3 ≤ v2) → vp_in v2 10))
theorem f_Arrays_fill_55_l5_b_w (v1 : Int32) (v2 : Int32) (v3 : Int32) (h : zm_H) : zWr [55] [] h ((f_Arrays_fill_55_l5_b v1 v2 v3 h).2.2) := by
  unfold f_Arrays_fill_55_l5_b
  exact (zWr_ite (fun z : Nat × Int32 × zm_H => z.2.2) (zWr.refl _ _) (zWr_si (by decide) (zWr.refl _ _)))
def f_Arrays_fill_55_l5 (v1 : Int32) (v3 : Int32) (n : Nat) (t : Int32 × zm_H) : Nat × Int32 × zm_H := zwh (fun t => f_Arrays_fill_55_l5_b v1 t.1 v3 t.2) n t
def f_Arrays_fill_55_l5_ok (v1 : Int32) (v3 : Int32) (n : Nat) (t : Int32 × zm_H) : Prop := zwo (fun t => f_Arrays_fill_55_l5_b v1 t.1 v3 t.2) (fun t => f_Arrays_fill_55_l5_b_ok v1 t.1 v3 t.2) n t
theorem f_Arrays_fill_55_l5_w (v1 : Int32) (v3 : Int32) (n : Nat) (t : Int32 × zm_H) : zWr [55] [] (t.2) ((f_Arrays_fill_55_l5 v1 v3 n t).2.2) := by
  unfold f_Arrays_fill_55_l5
  exact zWr_zwh (fun t : Int32 × zm_H => t.2) (fun t => f_Arrays_fill_55_l5_b_w v1 t.1 v3 t.2)
def f_Arrays_fill_55_k20 (h : zm_H) : zm_H := h
def f_Arrays_fill_55_k20_ok (h : zm_H) : Prop := True
theorem f_Arrays_fill_55_k20_w (h : zm_H) : zWr [] [] h ((f_Arrays_fill_55_k20 h)) := by
  unfold f_Arrays_fill_55_k20
  exact (zWr.refl _ _)
def f_Arrays_fill_55_a5 (r : Nat × Int32 × zm_H) : zm_H := (f_Arrays_fill_55_k20 (r.2.2))
def f_Arrays_fill_55_a5_ok (r : Nat × Int32 × zm_H) : Prop := True
theorem f_Arrays_fill_55_a5_w (r : Nat × Int32 × zm_H) : zWr [] [] (r.2.2) ((f_Arrays_fill_55_a5 r)) := by
  unfold f_Arrays_fill_55_a5
  exact (zWr_tr (f_Arrays_fill_55_k20_w (r.2.2)) (by decide) (by decide) (zWr.refl _ _))
def f_Arrays_fill_55 (p1 : Int32) (h : zm_H) : zm_H := (f_Arrays_fill_55_a5 (f_Arrays_fill_55_l5 p1 (Int32.ofNat 10) zF (0, h)))
def f_Arrays_fill_55_ok (p1 : Int32) (h : zm_H) : Prop := (f_Arrays_fill_55_l5_ok p1 (Int32.ofNat 10) zF (0, h) ∧ f_Arrays_fill_55_a5_ok (f_Arrays_fill_55_l5 p1 (Int32.ofNat 10) zF (0, h)))
theorem f_Arrays_fill_55_w (p1 : Int32) (h : zm_H) : zWr [55] [] h ((f_Arrays_fill_55 p1 h)) := by
  unfold f_Arrays_fill_55
  exact (zWr_tr (f_Arrays_fill_55_a5_w (f_Arrays_fill_55_l5 p1 (Int32.ofNat 10) zF (0, h))) (by decide) (by decide) (zWr_tr (f_Arrays_fill_55_l5_w p1 (Int32.ofNat 10) zF (0, h)) (by decide) (by decide) (zWr.refl _ _)))
def f_Course_renewChain_50 (p1 : Int32) (p2 : Int32) (p3 : Int32) (h : zm_H) : zm_H := (zs (zs (zs h 56 ((p1 * 3) + p2) p3) 57 ((p1 * 3) + p2) 0) 58 ((p1 * 3) + p2) (-1))
def f_Course_renewChain_50_ok (p1 : Int32) (p2 : Int32) (p3 : Int32) (h : zm_H) : Prop := (vp_in ((p1 * 3) + p2) 30 ∧ (vp_in ((p1 * 3) + p2) 30 ∧ vp_in ((p1 * 3) + p2) 30))
theorem f_Course_renewChain_50_w (p1 : Int32) (p2 : Int32) (p3 : Int32) (h : zm_H) : zWr [56, 57, 58] [] h ((f_Course_renewChain_50 p1 p2 p3 h)) := by
  unfold f_Course_renewChain_50
  exact (zWr_si (by decide) (zWr_si (by decide) (zWr_si (by decide) (zWr.refl _ _))))
def f_Course_bringHome_50_l16_k28 (v1 : Int32) (v2 : Int32) (h : zm_H) : Nat × Int32 × zm_H := (0, (v2 + 1), h)
def f_Course_bringHome_50_l16_k28_ok (v1 : Int32) (v2 : Int32) (h : zm_H) : Prop := True
theorem f_Course_bringHome_50_l16_k28_w (v1 : Int32) (v2 : Int32) (h : zm_H) : zWr [] [] h ((f_Course_bringHome_50_l16_k28 v1 v2 h).2.2) := by
  unfold f_Course_bringHome_50_l16_k28
  exact (zWr.refl _ _)
def f_Course_bringHome_50_l16_b (v1 : Int32) (v2 : Int32) (h : zm_H) : Nat × Int32 × zm_H := (if (3 ≤ v2) then (1, v2, h) else (f_Course_bringHome_50_l16_k28 v1 v2 (f_Course_renewChain_50 v1 v2 0 h)))
def f_Course_bringHome_50_l16_b_ok (v1 : Int32) (v2 : Int32) (h : zm_H) : Prop := (((3 ≤ v2) → True) ∧ (¬ (3 ≤ v2) → f_Course_renewChain_50_ok v1 v2 0 h))
theorem f_Course_bringHome_50_l16_b_w (v1 : Int32) (v2 : Int32) (h : zm_H) : zWr [56, 57, 58] [] h ((f_Course_bringHome_50_l16_b v1 v2 h).2.2) := by
  unfold f_Course_bringHome_50_l16_b
  exact (zWr_ite (fun z : Nat × Int32 × zm_H => z.2.2) (zWr.refl _ _) (zWr_tr (f_Course_bringHome_50_l16_k28_w v1 v2 (f_Course_renewChain_50 v1 v2 0 h)) (by decide) (by decide) (zWr_tr (f_Course_renewChain_50_w v1 v2 0 h) (by decide) (by decide) (zWr.refl _ _))))
def f_Course_bringHome_50_l16 (v1 : Int32) (n : Nat) (t : Int32 × zm_H) : Nat × Int32 × zm_H := zwh (fun t => f_Course_bringHome_50_l16_b v1 t.1 t.2) n t
def f_Course_bringHome_50_l16_ok (v1 : Int32) (n : Nat) (t : Int32 × zm_H) : Prop := zwo (fun t => f_Course_bringHome_50_l16_b v1 t.1 t.2) (fun t => f_Course_bringHome_50_l16_b_ok v1 t.1 t.2) n t
theorem f_Course_bringHome_50_l16_w (v1 : Int32) (n : Nat) (t : Int32 × zm_H) : zWr [56, 57, 58] [] (t.2) ((f_Course_bringHome_50_l16 v1 n t).2.2) := by
  unfold f_Course_bringHome_50_l16
  exact zWr_zwh (fun t : Int32 × zm_H => t.2) (fun t => f_Course_bringHome_50_l16_b_w v1 t.1 t.2)
def f_Course_bringHome_50_k34 (h : zm_H) : zm_H := h
def f_Course_bringHome_50_k34_ok (h : zm_H) : Prop := True
theorem f_Course_bringHome_50_k34_w (h : zm_H) : zWr [] [] h ((f_Course_bringHome_50_k34 h)) := by
  unfold f_Course_bringHome_50_k34
  exact (zWr.refl _ _)
def f_Course_bringHome_50_a16 (r : Nat × Int32 × zm_H) : zm_H := (f_Course_bringHome_50_k34 (r.2.2))
def f_Course_bringHome_50_a16_ok (r : Nat × Int32 × zm_H) : Prop := True
theorem f_Course_bringHome_50_a16_w (r : Nat × Int32 × zm_H) : zWr [] [] (r.2.2) ((f_Course_bringHome_50_a16 r)) := by
  unfold f_Course_bringHome_50_a16
  exact (zWr_tr (f_Course_bringHome_50_k34_w (r.2.2)) (by decide) (by decide) (zWr.refl _ _))
def f_Course_bringHome_50 (p1 : Int32) (h : zm_H) : zm_H := (f_Course_bringHome_50_a16 (f_Course_bringHome_50_l16 p1 zF (0, (zs (zs h 51 p1 0) 52 p1 (-1)))))
def f_Course_bringHome_50_ok (p1 : Int32) (h : zm_H) : Prop := (vp_in p1 10 ∧ (vp_in p1 10 ∧ (f_Course_bringHome_50_l16_ok p1 zF (0, (zs (zs h 51 p1 0) 52 p1 (-1))) ∧ f_Course_bringHome_50_a16_ok (f_Course_bringHome_50_l16 p1 zF (0, (zs (zs h 51 p1 0) 52 p1 (-1)))))))
theorem f_Course_bringHome_50_w (p1 : Int32) (h : zm_H) : zWr [51, 52, 56, 57, 58] [] h ((f_Course_bringHome_50 p1 h)) := by
  unfold f_Course_bringHome_50
  exact (zWr_tr (f_Course_bringHome_50_a16_w (f_Course_bringHome_50_l16 p1 zF (0, (zs (zs h 51 p1 0) 52 p1 (-1))))) (by decide) (by decide) (zWr_tr (f_Course_bringHome_50_l16_w p1 zF (0, (zs (zs h 51 p1 0) 52 p1 (-1)))) (by decide) (by decide) (zWr_si (by decide) (zWr_si (by decide) (zWr.refl _ _)))))
def f_Course_forgetAll_50_l36_k47 (v1 : Int32) (h : zm_H) : Nat × Int32 × zm_H := (0, (v1 + 1), h)
def f_Course_forgetAll_50_l36_k47_ok (v1 : Int32) (h : zm_H) : Prop := True
theorem f_Course_forgetAll_50_l36_k47_w (v1 : Int32) (h : zm_H) : zWr [] [] h ((f_Course_forgetAll_50_l36_k47 v1 h).2.2) := by
  unfold f_Course_forgetAll_50_l36_k47
  exact (zWr.refl _ _)
def f_Course_forgetAll_50_l36_b (v1 : Int32) (h : zm_H) : Nat × Int32 × zm_H := (if (10 ≤ v1) then (1, v1, h) else (f_Course_forgetAll_50_l36_k47 v1 (f_Course_bringHome_50 v1 h)))
def f_Course_forgetAll_50_l36_b_ok (v1 : Int32) (h : zm_H) : Prop := (((10 ≤ v1) → True) ∧ (¬ (10 ≤ v1) → f_Course_bringHome_50_ok v1 h))
theorem f_Course_forgetAll_50_l36_b_w (v1 : Int32) (h : zm_H) : zWr [51, 52, 56, 57, 58] [] h ((f_Course_forgetAll_50_l36_b v1 h).2.2) := by
  unfold f_Course_forgetAll_50_l36_b
  exact (zWr_ite (fun z : Nat × Int32 × zm_H => z.2.2) (zWr.refl _ _) (zWr_tr (f_Course_forgetAll_50_l36_k47_w v1 (f_Course_bringHome_50 v1 h)) (by decide) (by decide) (zWr_tr (f_Course_bringHome_50_w v1 h) (by decide) (by decide) (zWr.refl _ _))))
def f_Course_forgetAll_50_l36 (n : Nat) (t : Int32 × zm_H) : Nat × Int32 × zm_H := zwh (fun t => f_Course_forgetAll_50_l36_b t.1 t.2) n t
def f_Course_forgetAll_50_l36_ok (n : Nat) (t : Int32 × zm_H) : Prop := zwo (fun t => f_Course_forgetAll_50_l36_b t.1 t.2) (fun t => f_Course_forgetAll_50_l36_b_ok t.1 t.2) n t
theorem f_Course_forgetAll_50_l36_w (n : Nat) (t : Int32 × zm_H) : zWr [51, 52, 56, 57, 58] [] (t.2) ((f_Course_forgetAll_50_l36 n t).2.2) := by
  unfold f_Course_forgetAll_50_l36
  exact zWr_zwh (fun t : Int32 × zm_H => t.2) (fun t => f_Course_forgetAll_50_l36_b_w t.1 t.2)
def f_Course_forgetAll_50_k53 (h : zm_H) : zm_H := h
def f_Course_forgetAll_50_k53_ok (h : zm_H) : Prop := True
theorem f_Course_forgetAll_50_k53_w (h : zm_H) : zWr [] [] h ((f_Course_forgetAll_50_k53 h)) := by
  unfold f_Course_forgetAll_50_k53
  exact (zWr.refl _ _)
def f_Course_forgetAll_50_a36 (r : Nat × Int32 × zm_H) : zm_H := (f_Course_forgetAll_50_k53 (r.2.2))
def f_Course_forgetAll_50_a36_ok (r : Nat × Int32 × zm_H) : Prop := True
theorem f_Course_forgetAll_50_a36_w (r : Nat × Int32 × zm_H) : zWr [] [] (r.2.2) ((f_Course_forgetAll_50_a36 r)) := by
  unfold f_Course_forgetAll_50_a36
  exact (zWr_tr (f_Course_forgetAll_50_k53_w (r.2.2)) (by decide) (by decide) (zWr.refl _ _))
def f_Course_forgetAll_50_k34 (h : zm_H) : zm_H := (f_Course_forgetAll_50_a36 (f_Course_forgetAll_50_l36 zF (0, h)))
def f_Course_forgetAll_50_k34_ok (h : zm_H) : Prop := (f_Course_forgetAll_50_l36_ok zF (0, h) ∧ f_Course_forgetAll_50_a36_ok (f_Course_forgetAll_50_l36 zF (0, h)))
theorem f_Course_forgetAll_50_k34_w (h : zm_H) : zWr [51, 52, 56, 57, 58] [] h ((f_Course_forgetAll_50_k34 h)) := by
  unfold f_Course_forgetAll_50_k34
  exact (zWr_tr (f_Course_forgetAll_50_a36_w (f_Course_forgetAll_50_l36 zF (0, h))) (by decide) (by decide) (zWr_tr (f_Course_forgetAll_50_l36_w zF (0, h)) (by decide) (by decide) (zWr.refl _ _)))
def f_Course_forgetAll_50_k26 (h : zm_H) : zm_H := (f_Course_forgetAll_50_k34 (f_Arrays_fill_55 0 h))
def f_Course_forgetAll_50_k26_ok (h : zm_H) : Prop := (f_Arrays_fill_55_ok 0 h ∧ (f_Course_forgetAll_50_k34_ok (f_Arrays_fill_55 0 h)))
theorem f_Course_forgetAll_50_k26_w (h : zm_H) : zWr [51, 52, 55, 56, 57, 58] [] h ((f_Course_forgetAll_50_k26 h)) := by
  unfold f_Course_forgetAll_50_k26
  exact (zWr_tr (f_Course_forgetAll_50_k34_w (f_Arrays_fill_55 0 h)) (by decide) (by decide) (zWr_tr (f_Arrays_fill_55_w 0 h) (by decide) (by decide) (zWr.refl _ _)))
def f_Course_forgetAll_50_k18 (h : zm_H) : zm_H := (f_Course_forgetAll_50_k26 (f_Arrays_fill_54 0 h))
def f_Course_forgetAll_50_k18_ok (h : zm_H) : Prop := (f_Arrays_fill_54_ok 0 h ∧ (f_Course_forgetAll_50_k26_ok (f_Arrays_fill_54 0 h)))
theorem f_Course_forgetAll_50_k18_w (h : zm_H) : zWr [51, 52, 54, 55, 56, 57, 58] [] h ((f_Course_forgetAll_50_k18 h)) := by
  unfold f_Course_forgetAll_50_k18
  exact (zWr_tr (f_Course_forgetAll_50_k26_w (f_Arrays_fill_54 0 h)) (by decide) (by decide) (zWr_tr (f_Arrays_fill_54_w 0 h) (by decide) (by decide) (zWr.refl _ _)))
def f_Course_forgetAll_50 (h : zm_H) : zm_H := (f_Course_forgetAll_50_k18 (f_Arrays_fill_53 0 (zp (zp h 50 3 0) 50 4 0)))
def f_Course_forgetAll_50_ok (h : zm_H) : Prop := (f_Arrays_fill_53_ok 0 (zp (zp h 50 3 0) 50 4 0) ∧ (f_Course_forgetAll_50_k18_ok (f_Arrays_fill_53 0 (zp (zp h 50 3 0) 50 4 0))))
theorem f_Course_forgetAll_50_w (h : zm_H) : zWr [51, 52, 53, 54, 55, 56, 57, 58] [(50, 3), (50, 4)] h ((f_Course_forgetAll_50 h)) := by
  unfold f_Course_forgetAll_50
  exact (zWr_tr (f_Course_forgetAll_50_k18_w (f_Arrays_fill_53 0 (zp (zp h 50 3 0) 50 4 0))) (by decide) (by decide) (zWr_tr (f_Arrays_fill_53_w 0 (zp (zp h 50 3 0) 50 4 0)) (by decide) (by decide) (zWr_p (by decide) (zWr_p (by decide) (zWr.refl _ _)))))
def f_Course_isReady_50 (p1 : Int32) (h : zm_H) : Int32 := (if (((zr h 51 p1) = 1) ∨ ((zr h 51 p1) = 2)) then (1 : Int32) else 0)
def f_Course_isReady_50_ok (p1 : Int32) (h : zm_H) : Prop := (vp_in p1 10 ∧ ((((zr h 51 p1) = 1) → True) ∧ (¬ ((zr h 51 p1) = 1) → vp_in p1 10)))
def f_Course_isFree_50_l2_b (v1 : Int32) (v2 : Int32) (h : zm_H) : Nat × Int32 := (if (10 ≤ v2) then (2, v2) else (if ((zr h 52 v2) = v1) then (1, v2) else (0, (v2 + 1))))
def f_Course_isFree_50_l2_b_ok (v1 : Int32) (v2 : Int32) (h : zm_H) : Prop := (((10 ≤ v2) → True) ∧ (¬ (10 ≤ v2) → vp_in v2 10))
def f_Course_isFree_50_l2 (v1 : Int32) (h : zm_H) (n : Nat) (t : Int32) : Nat × Int32 := zwh (fun t => f_Course_isFree_50_l2_b v1 t h) n t
def f_Course_isFree_50_l2_ok (v1 : Int32) (h : zm_H) (n : Nat) (t : Int32) : Prop := zwo (fun t => f_Course_isFree_50_l2_b v1 t h) (fun t => f_Course_isFree_50_l2_b_ok v1 t h) n t
def f_Course_isFree_50_k18 (h : zm_H) : Int32 := 0
def f_Course_isFree_50_k18_ok (h : zm_H) : Prop := True
def f_Course_isFree_50_k26 (h : zm_H) : Int32 := 1
def f_Course_isFree_50_k26_ok (h : zm_H) : Prop := True
def f_Course_isFree_50_a2 (r : Nat × Int32) (h : zm_H) : Int32 := (if r.1 = 1 then (f_Course_isFree_50_k18 h) else (f_Course_isFree_50_k26 h))
def f_Course_isFree_50_a2_ok (r : Nat × Int32) (h : zm_H) : Prop := ((r.1 = 1 → True) ∧ (¬ r.1 = 1 → True))
def f_Course_isFree_50 (p1 : Int32) (h : zm_H) : Int32 := (f_Course_isFree_50_a2 (f_Course_isFree_50_l2 p1 h zF 0) h)
def f_Course_isFree_50_ok (p1 : Int32) (h : zm_H) : Prop := (f_Course_isFree_50_l2_ok p1 h zF 0 ∧ f_Course_isFree_50_a2_ok (f_Course_isFree_50_l2 p1 h zF 0) h)
def f_Course_isDoable_50 (p1 : Int32) (p2 : Int32) (p3 : Int32) (h : zm_H) : Int32 := (if (p1 = 5) then ((if (((zr h 51 p2) = 0) ∧ (¬ ((f_Course_isFree_50 p3 h) = 0))) then (1 : Int32) else 0) : Int32) else (if (p1 = 4) then ((if (¬ ((zr h 51 p2) = 0)) then (1 : Int32) else 0) : Int32) else (f_Course_isReady_50 p2 h)))
def f_Course_isDoable_50_ok (p1 : Int32) (p2 : Int32) (p3 : Int32) (h : zm_H) : Prop := (((p1 = 5) → (vp_in p2 10 ∧ ((((zr h 51 p2) = 0) → f_Course_isFree_50_ok p3 h) ∧ (¬ ((zr h 51 p2) = 0) → True)))) ∧ (¬ (p1 = 5) → ((((p1 = 4) → vp_in p2 10) ∧ (¬ (p1 = 4) → f_Course_isReady_50_ok p2 h)) ∧ vp_nar .boolean (if (p1 = 4) then ((if (¬ ((zr h 51 p2) = 0)) then (1 : Int32) else 0) : Int32) else (f_Course_isReady_50 p2 h)) = (if (p1 = 4) then ((if (¬ ((zr h 51 p2) = 0)) then (1 : Int32) else 0) : Int32) else (f_Course_isReady_50 p2 h)))))
def f_Course_doThings_50_l0_k109 (v1 : Int32) (h : zm_H) : Nat × zm_H := (0, (zp h 50 4 ((zf h 50 4) + 1)))
def f_Course_doThings_50_l0_k109_ok (v1 : Int32) (h : zm_H) : Prop := True
theorem f_Course_doThings_50_l0_k109_w (v1 : Int32) (h : zm_H) : zWr [] [(50, 4)] h ((f_Course_doThings_50_l0_k109 v1 h).2) := by
  unfold f_Course_doThings_50_l0_k109
  exact (zWr_p (by decide) (zWr.refl _ _))
def f_Course_doThing_50_l22_k37 (v2 : Int32) (v4 : Int32) (v5 : Int32) (h : zm_H) : Nat × Int32 × zm_H := (0, (v5 + 1), h)
def f_Course_doThing_50_l22_k37_ok (v2 : Int32) (v4 : Int32) (v5 : Int32) (h : zm_H) : Prop := True
theorem f_Course_doThing_50_l22_k37_w (v2 : Int32) (v4 : Int32) (v5 : Int32) (h : zm_H) : zWr [] [] h ((f_Course_doThing_50_l22_k37 v2 v4 v5 h).2.2) := by
  unfold f_Course_doThing_50_l22_k37
  exact (zWr.refl _ _)
def f_Course_doThing_50_l22_b (v2 : Int32) (v4 : Int32) (v5 : Int32) (h : zm_H) : Nat × Int32 × zm_H := (if (3 ≤ v5) then (1, v5, h) else (f_Course_doThing_50_l22_k37 v2 v4 v5 (f_Course_renewChain_50 v2 v5 v4 h)))
def f_Course_doThing_50_l22_b_ok (v2 : Int32) (v4 : Int32) (v5 : Int32) (h : zm_H) : Prop := (((3 ≤ v5) → True) ∧ (¬ (3 ≤ v5) → f_Course_renewChain_50_ok v2 v5 v4 h))
theorem f_Course_doThing_50_l22_b_w (v2 : Int32) (v4 : Int32) (v5 : Int32) (h : zm_H) : zWr [56, 57, 58] [] h ((f_Course_doThing_50_l22_b v2 v4 v5 h).2.2) := by
  unfold f_Course_doThing_50_l22_b
  exact (zWr_ite (fun z : Nat × Int32 × zm_H => z.2.2) (zWr.refl _ _) (zWr_tr (f_Course_doThing_50_l22_k37_w v2 v4 v5 (f_Course_renewChain_50 v2 v5 v4 h)) (by decide) (by decide) (zWr_tr (f_Course_renewChain_50_w v2 v5 v4 h) (by decide) (by decide) (zWr.refl _ _))))
def f_Course_doThing_50_l22 (v2 : Int32) (v4 : Int32) (n : Nat) (t : Int32 × zm_H) : Nat × Int32 × zm_H := zwh (fun t => f_Course_doThing_50_l22_b v2 v4 t.1 t.2) n t
def f_Course_doThing_50_l22_ok (v2 : Int32) (v4 : Int32) (n : Nat) (t : Int32 × zm_H) : Prop := zwo (fun t => f_Course_doThing_50_l22_b v2 v4 t.1 t.2) (fun t => f_Course_doThing_50_l22_b_ok v2 v4 t.1 t.2) n t
theorem f_Course_doThing_50_l22_w (v2 : Int32) (v4 : Int32) (n : Nat) (t : Int32 × zm_H) : zWr [56, 57, 58] [] (t.2) ((f_Course_doThing_50_l22 v2 v4 n t).2.2) := by
  unfold f_Course_doThing_50_l22
  exact zWr_zwh (fun t : Int32 × zm_H => t.2) (fun t => f_Course_doThing_50_l22_b_w v2 v4 t.1 t.2)
def f_Course_doThing_50_k43 (h : zm_H) : zm_H := h
def f_Course_doThing_50_k43_ok (h : zm_H) : Prop := True
theorem f_Course_doThing_50_k43_w (h : zm_H) : zWr [] [] h ((f_Course_doThing_50_k43 h)) := by
  unfold f_Course_doThing_50_k43
  exact (zWr.refl _ _)
def f_Course_doThing_50_a22 (r : Nat × Int32 × zm_H) : zm_H := (f_Course_doThing_50_k43 (r.2.2))
def f_Course_doThing_50_a22_ok (r : Nat × Int32 × zm_H) : Prop := True
theorem f_Course_doThing_50_a22_w (r : Nat × Int32 × zm_H) : zWr [] [] (r.2.2) ((f_Course_doThing_50_a22 r)) := by
  unfold f_Course_doThing_50_a22
  exact (zWr_tr (f_Course_doThing_50_k43_w (r.2.2)) (by decide) (by decide) (zWr.refl _ _))
def f_Course_doThing_50 (p1 : Int32) (p2 : Int32) (p3 : Int32) (p4 : Int32) (h : zm_H) : zm_H := (if (p1 = 5) then (f_Course_doThing_50_a22 (f_Course_doThing_50_l22 p2 p4 zF (0, (zs (zs h 51 p2 1) 52 p2 p3)))) else (if (p1 = 4) then (f_Course_bringHome_50 p2 h) else (if (p1 = 3) then (zs h 53 p2 0) else (f_Course_renewChain_50 p2 p1 p4 h))))
def f_Course_doThing_50_ok (p1 : Int32) (p2 : Int32) (p3 : Int32) (p4 : Int32) (h : zm_H) : Prop := (((p1 = 5) → (vp_in p2 10 ∧ (vp_in p2 10 ∧ (f_Course_doThing_50_l22_ok p2 p4 zF (0, (zs (zs h 51 p2 1) 52 p2 p3)) ∧ f_Course_doThing_50_a22_ok (f_Course_doThing_50_l22 p2 p4 zF (0, (zs (zs h 51 p2 1) 52 p2 p3))))))) ∧ (¬ (p1 = 5) → (((p1 = 4) → f_Course_bringHome_50_ok p2 h) ∧ (¬ (p1 = 4) → (((p1 = 3) → vp_in p2 10) ∧ (¬ (p1 = 3) → f_Course_renewChain_50_ok p2 p1 p4 h))))))
theorem f_Course_doThing_50_w (p1 : Int32) (p2 : Int32) (p3 : Int32) (p4 : Int32) (h : zm_H) : zWr [51, 52, 53, 56, 57, 58] [] h ((f_Course_doThing_50 p1 p2 p3 p4 h)) := by
  unfold f_Course_doThing_50
  exact (zWr_ite (fun z : zm_H => z) (zWr_tr (f_Course_doThing_50_a22_w (f_Course_doThing_50_l22 p2 p4 zF (0, (zs (zs h 51 p2 1) 52 p2 p3)))) (by decide) (by decide) (zWr_tr (f_Course_doThing_50_l22_w p2 p4 zF (0, (zs (zs h 51 p2 1) 52 p2 p3))) (by decide) (by decide) (zWr_si (by decide) (zWr_si (by decide) (zWr.refl _ _))))) (zWr_ite (fun z : zm_H => z) (zWr_tr (f_Course_bringHome_50_w p2 h) (by decide) (by decide) (zWr.refl _ _)) (zWr_ite (fun z : zm_H => z) (zWr_si (by decide) (zWr.refl _ _)) (zWr_tr (f_Course_renewChain_50_w p2 p1 p4 h) (by decide) (by decide) (zWr.refl _ _)))))
def f_Course_doThings_50_l0_b (v1 : Int32) (h : zm_H) : Nat × zm_H := (if ((zf h 23 4) ≤ (zf h 50 4)) then (1, h) else (if (v1 < (zr h 27 (zf h 50 4))) then (1, h) else (if ((f_Course_isDoable_50 (zr h 28 (zf h 50 4)) (zr h 29 (zf h 50 4)) (zr h 30 (zf h 50 4)) h) = 0) then (f_Course_doThings_50_l0_k109 v1 h) else (f_Course_doThings_50_l0_k109 v1 (f_Course_doThing_50 (zr h 28 (zf h 50 4)) (zr h 29 (zf h 50 4)) (zr h 30 (zf h 50 4)) (zr h 31 (zf h 50 4)) h)))))
def f_Course_doThings_50_l0_b_ok (v1 : Int32) (h : zm_H) : Prop := ((((zf h 23 4) ≤ (zf h 50 4)) → True) ∧ (¬ ((zf h 23 4) ≤ (zf h 50 4)) → (vp_in (zf h 50 4) 200 ∧ (((v1 < (zr h 27 (zf h 50 4))) → True) ∧ (¬ (v1 < (zr h 27 (zf h 50 4))) → (vp_in (zf h 50 4) 200 ∧ (vp_in (zf h 50 4) 200 ∧ (vp_in (zf h 50 4) 200 ∧ (f_Course_isDoable_50_ok (zr h 28 (zf h 50 4)) (zr h 29 (zf h 50 4)) (zr h 30 (zf h 50 4)) h ∧ ((((f_Course_isDoable_50 (zr h 28 (zf h 50 4)) (zr h 29 (zf h 50 4)) (zr h 30 (zf h 50 4)) h) = 0) → True) ∧ (¬ ((f_Course_isDoable_50 (zr h 28 (zf h 50 4)) (zr h 29 (zf h 50 4)) (zr h 30 (zf h 50 4)) h) = 0) → (vp_in (zf h 50 4) 200 ∧ (vp_in (zf h 50 4) 200 ∧ (vp_in (zf h 50 4) 200 ∧ (vp_in (zf h 50 4) 200 ∧ f_Course_doThing_50_ok (zr h 28 (zf h 50 4)) (zr h 29 (zf h 50 4)) (zr h 30 (zf h 50 4)) (zr h 31 (zf h 50 4)) h)))))))))))))))
theorem f_Course_doThings_50_l0_b_w (v1 : Int32) (h : zm_H) : zWr [51, 52, 53, 56, 57, 58] [(50, 4)] h ((f_Course_doThings_50_l0_b v1 h).2) := by
  unfold f_Course_doThings_50_l0_b
  exact (zWr_ite (fun z : Nat × zm_H => z.2) (zWr.refl _ _) (zWr_ite (fun z : Nat × zm_H => z.2) (zWr.refl _ _) (zWr_ite (fun z : Nat × zm_H => z.2) (zWr_tr (f_Course_doThings_50_l0_k109_w v1 h) (by decide) (by decide) (zWr.refl _ _)) (zWr_tr (f_Course_doThings_50_l0_k109_w v1 (f_Course_doThing_50 (zr h 28 (zf h 50 4)) (zr h 29 (zf h 50 4)) (zr h 30 (zf h 50 4)) (zr h 31 (zf h 50 4)) h)) (by decide) (by decide) (zWr_tr (f_Course_doThing_50_w (zr h 28 (zf h 50 4)) (zr h 29 (zf h 50 4)) (zr h 30 (zf h 50 4)) (zr h 31 (zf h 50 4)) h) (by decide) (by decide) (zWr.refl _ _))))))
def f_Course_doThings_50_l0 (v1 : Int32) (n : Nat) (t : zm_H) : Nat × zm_H := zwh (fun t => f_Course_doThings_50_l0_b v1 t) n t
def f_Course_doThings_50_l0_ok (v1 : Int32) (n : Nat) (t : zm_H) : Prop := zwo (fun t => f_Course_doThings_50_l0_b v1 t) (fun t => f_Course_doThings_50_l0_b_ok v1 t) n t
theorem f_Course_doThings_50_l0_w (v1 : Int32) (n : Nat) (t : zm_H) : zWr [51, 52, 53, 56, 57, 58] [(50, 4)] (t) ((f_Course_doThings_50_l0 v1 n t).2) := by
  unfold f_Course_doThings_50_l0
  exact zWr_zwh (fun t : zm_H => t) (fun t => f_Course_doThings_50_l0_b_w v1 t)
def f_Course_doThings_50_k122 (h : zm_H) : zm_H := h
def f_Course_doThings_50_k122_ok (h : zm_H) : Prop := True
theorem f_Course_doThings_50_k122_w (h : zm_H) : zWr [] [] h ((f_Course_doThings_50_k122 h)) := by
  unfold f_Course_doThings_50_k122
  exact (zWr.refl _ _)
def f_Course_doThings_50_a0 (r : Nat × zm_H) : zm_H := (f_Course_doThings_50_k122 (r.2))
def f_Course_doThings_50_a0_ok (r : Nat × zm_H) : Prop := True
theorem f_Course_doThings_50_a0_w (r : Nat × zm_H) : zWr [] [] (r.2) ((f_Course_doThings_50_a0 r)) := by
  unfold f_Course_doThings_50_a0
  exact (zWr_tr (f_Course_doThings_50_k122_w (r.2)) (by decide) (by decide) (zWr.refl _ _))
def f_Course_doThings_50 (p1 : Int32) (h : zm_H) : zm_H := (f_Course_doThings_50_a0 (f_Course_doThings_50_l0 p1 zF h))
def f_Course_doThings_50_ok (p1 : Int32) (h : zm_H) : Prop := (f_Course_doThings_50_l0_ok p1 zF h ∧ f_Course_doThings_50_a0_ok (f_Course_doThings_50_l0 p1 zF h))
theorem f_Course_doThings_50_w (p1 : Int32) (h : zm_H) : zWr [51, 52, 53, 56, 57, 58] [(50, 4)] h ((f_Course_doThings_50 p1 h)) := by
  unfold f_Course_doThings_50
  exact (zWr_tr (f_Course_doThings_50_a0_w (f_Course_doThings_50_l0 p1 zF h)) (by decide) (by decide) (zWr_tr (f_Course_doThings_50_l0_w p1 zF h) (by decide) (by decide) (zWr.refl _ _)))
def f_Course_sinkAndRise_50_l23_k106 (v2 : Int32) (v3 : Int32) (v4 : Int32) (h : zm_H) : Nat × Int32 × zm_H := (0, (v4 + 1), h)
def f_Course_sinkAndRise_50_l23_k106_ok (v2 : Int32) (v3 : Int32) (v4 : Int32) (h : zm_H) : Prop := True
theorem f_Course_sinkAndRise_50_l23_k106_w (v2 : Int32) (v3 : Int32) (v4 : Int32) (h : zm_H) : zWr [] [] h ((f_Course_sinkAndRise_50_l23_k106 v2 v3 v4 h).2.2) := by
  unfold f_Course_sinkAndRise_50_l23_k106
  exact (zWr.refl _ _)
def f_Course_holds_50 (p1 : Int32) (h : zm_H) : Int32 := (if (¬ ((zr h 56 p1) ≤ 0) ∧ ((zr h 58 p1) = (-1))) then (1 : Int32) else 0)
def f_Course_holds_50_ok (p1 : Int32) (h : zm_H) : Prop := (vp_in p1 30 ∧ ((((zr h 56 p1) ≤ 0) → True) ∧ (¬ ((zr h 56 p1) ≤ 0) → vp_in p1 30)))
def f_Course_hold_50 (p1 : Int32) (h : zm_H) : Int32 := ((zr h 56 p1) - ((zr h 57 p1) / 100))
def f_Course_hold_50_ok (p1 : Int32) (h : zm_H) : Prop := (vp_in p1 30 ∧ vp_in p1 30)
def f_Course_leastHold_50_l6_b (v1 : Int32) (v2 : Int32) (v3 : Int32) (h : zm_H) : Nat × Int32 × Int32 := (if (((v1 * 3) + 3) ≤ v3) then (1, v2, v3) else (0, (if ((f_Course_holds_50 v3 h) = 0) then (v2 : Int32) else (if (v2 = (-1)) then ((f_Course_hold_50 v3 h) : Int32) else (if (v2 ≤ (f_Course_hold_50 v3 h)) then (v2 : Int32) else (f_Course_hold_50 v3 h)))), (v3 + 1)))
def f_Course_leastHold_50_l6_b_ok (v1 : Int32) (v2 : Int32) (v3 : Int32) (h : zm_H) : Prop := (((((v1 * 3) + 3) ≤ v3) → True) ∧ (¬ (((v1 * 3) + 3) ≤ v3) → (f_Course_holds_50_ok v3 h ∧ ((((f_Course_holds_50 v3 h) = 0) → True) ∧ (¬ ((f_Course_holds_50 v3 h) = 0) → (((v2 = (-1)) → f_Course_hold_50_ok v3 h) ∧ (¬ (v2 = (-1)) → (f_Course_hold_50_ok v3 h ∧ (((v2 ≤ (f_Course_hold_50 v3 h)) → True) ∧ (¬ (v2 ≤ (f_Course_hold_50 v3 h)) → f_Course_hold_50_ok v3 h))))))))))
def f_Course_leastHold_50_l6 (v1 : Int32) (h : zm_H) (n : Nat) (t : Int32 × Int32) : Nat × Int32 × Int32 := zwh (fun t => f_Course_leastHold_50_l6_b v1 t.1 t.2 h) n t
def f_Course_leastHold_50_l6_ok (v1 : Int32) (h : zm_H) (n : Nat) (t : Int32 × Int32) : Prop := zwo (fun t => f_Course_leastHold_50_l6_b v1 t.1 t.2 h) (fun t => f_Course_leastHold_50_l6_b_ok v1 t.1 t.2 h) n t
def f_Course_leastHold_50_k49 (v2 : Int32) (h : zm_H) : Int32 := (if v2 < 0 then 0 else v2)
def f_Course_leastHold_50_k49_ok (v2 : Int32) (h : zm_H) : Prop := True
def f_Course_leastHold_50_a6 (r : Nat × Int32 × Int32) (h : zm_H) : Int32 := (f_Course_leastHold_50_k49 (r.2.1) h)
def f_Course_leastHold_50_a6_ok (r : Nat × Int32 × Int32) (h : zm_H) : Prop := True
def f_Course_leastHold_50 (p1 : Int32) (h : zm_H) : Int32 := (f_Course_leastHold_50_a6 (f_Course_leastHold_50_l6 p1 h zF ((-1), (p1 * 3))) h)
def f_Course_leastHold_50_ok (p1 : Int32) (h : zm_H) : Prop := (f_Course_leastHold_50_l6_ok p1 h zF ((-1), (p1 * 3)) ∧ f_Course_leastHold_50_a6_ok (f_Course_leastHold_50_l6 p1 h zF ((-1), (p1 * 3))) h)
def f_Course_says_50_k47 (v1 : Int32) (v2 : Int32) (h : zm_H) : Int32 × zm_H := (f_Rules_work v1 v2 h)
def f_Course_says_50_k47_ok (v1 : Int32) (v2 : Int32) (h : zm_H) : Prop := f_Rules_work_ok v1 v2 h
theorem f_Course_says_50_k47_w (v1 : Int32) (v2 : Int32) (h : zm_H) : zWr [22] [(15, 9)] h ((f_Course_says_50_k47 v1 v2 h).2) := by
  unfold f_Course_says_50_k47
  exact (zWr_tr (f_Rules_work_w v1 v2 h) (by decide) (by decide) (zWr.refl _ _))
def f_Course_says_50 (p1 : Int32) (p2 : Int32) (p3 : Int32) (h : zm_H) : Int32 × zm_H := (if (p1 = (-1)) then (0, h) else (f_Course_says_50_k47 p1 p2 (f_Rules_nameRaft (zr h 54 p3) (f_Course_leastHold_50 p3 h) (zr h 24 p3) (if (¬ ((f_Course_isReady_50 p3 h) = 0)) then (1 : Int32) else 0) h)))
def f_Course_says_50_ok (p1 : Int32) (p2 : Int32) (p3 : Int32) (h : zm_H) : Prop := (((p1 = (-1)) → True) ∧ (¬ (p1 = (-1)) → (vp_in p3 10 ∧ (f_Course_leastHold_50_ok p3 h ∧ (vp_in p3 10 ∧ (f_Course_isReady_50_ok p3 h ∧ (f_Course_says_50_k47_ok p1 p2 (f_Rules_nameRaft (zr h 54 p3) (f_Course_leastHold_50 p3 h) (zr h 24 p3) (if (¬ ((f_Course_isReady_50 p3 h) = 0)) then (1 : Int32) else 0) h))))))))
theorem f_Course_says_50_w (p1 : Int32) (p2 : Int32) (p3 : Int32) (h : zm_H) : zWr [21, 22] [(15, 9)] h ((f_Course_says_50 p1 p2 p3 h).2) := by
  unfold f_Course_says_50
  exact (zWr_ite (fun z : Int32 × zm_H => z.2) (zWr.refl _ _) (zWr_tr (f_Course_says_50_k47_w p1 p2 (f_Rules_nameRaft (zr h 54 p3) (f_Course_leastHold_50 p3 h) (zr h 24 p3) (if (¬ ((f_Course_isReady_50 p3 h) = 0)) then (1 : Int32) else 0) h)) (by decide) (by decide) (zWr_tr (f_Rules_nameRaft_w (zr h 54 p3) (f_Course_leastHold_50 p3 h) (zr h 24 p3) (if (¬ ((f_Course_isReady_50 p3 h) = 0)) then (1 : Int32) else 0) h) (by decide) (by decide) (zWr.refl _ _))))
def f_Course_sinkAndRise_50_l23_k97 (v2 : Int32) (v3 : Int32) (v4 : Int32) (w1 : Int32) (w2 : Int32) (h : zm_H) : Nat × Int32 × zm_H := (f_Course_sinkAndRise_50_l23_k106 v2 v3 v4 (zs h 51 w1 (if (w2 = 0) then (2 : Int32) else 1)))
def f_Course_sinkAndRise_50_l23_k97_ok (v2 : Int32) (v3 : Int32) (v4 : Int32) (w1 : Int32) (w2 : Int32) (h : zm_H) : Prop := vp_in w1 10
theorem f_Course_sinkAndRise_50_l23_k97_w (v2 : Int32) (v3 : Int32) (v4 : Int32) (w1 : Int32) (w2 : Int32) (h : zm_H) : zWr [51] [] h ((f_Course_sinkAndRise_50_l23_k97 v2 v3 v4 w1 w2 h).2.2) := by
  unfold f_Course_sinkAndRise_50_l23_k97
  exact (zWr_tr (f_Course_sinkAndRise_50_l23_k106_w v2 v3 v4 (zs h 51 w1 (if (w2 = 0) then (2 : Int32) else 1))) (by decide) (by decide) (zWr_si (by decide) (zWr.refl _ _)))
def f_Course_sinkAndRise_50_l23_k60 (v2 : Int32) (v3 : Int32) (v4 : Int32) (w1 : Int32) (w2 : Int32) (h : zm_H) : Nat × Int32 × zm_H := (f_Course_sinkAndRise_50_l23_k106 v2 v3 v4 (zs h 51 w1 (if (w2 = 0) then (1 : Int32) else 2)))
def f_Course_sinkAndRise_50_l23_k60_ok (v2 : Int32) (v3 : Int32) (v4 : Int32) (w1 : Int32) (w2 : Int32) (h : zm_H) : Prop := vp_in w1 10
theorem f_Course_sinkAndRise_50_l23_k60_w (v2 : Int32) (v3 : Int32) (v4 : Int32) (w1 : Int32) (w2 : Int32) (h : zm_H) : zWr [51] [] h ((f_Course_sinkAndRise_50_l23_k60 v2 v3 v4 w1 w2 h).2.2) := by
  unfold f_Course_sinkAndRise_50_l23_k60
  exact (zWr_tr (f_Course_sinkAndRise_50_l23_k106_w v2 v3 v4 (zs h 51 w1 (if (w2 = 0) then (1 : Int32) else 2))) (by decide) (by decide) (zWr_si (by decide) (zWr.refl _ _)))
def f_Course_sinkAndRise_50_l23_b (v2 : Int32) (v3 : Int32) (v4 : Int32) (h : zm_H) : Nat × Int32 × zm_H := (if ((zf h 23 0) ≤ v4) then (1, v4, h) else (if ((zr h 51 v4) = 1) then (f_Course_sinkAndRise_50_l23_k60 v2 v3 v4 v4 (f_Course_says_50 v2 0 v4 h).1 (f_Course_says_50 v2 0 v4 h).2) else (if ((zr h 51 v4) = 2) then (f_Course_sinkAndRise_50_l23_k97 v2 v3 v4 v4 (f_Course_says_50 v3 1 v4 h).1 (f_Course_says_50 v3 1 v4 h).2) else (f_Course_sinkAndRise_50_l23_k106 v2 v3 v4 h))))
def f_Course_sinkAndRise_50_l23_b_ok (v2 : Int32) (v3 : Int32) (v4 : Int32) (h : zm_H) : Prop := ((((zf h 23 0) ≤ v4) → True) ∧ (¬ ((zf h 23 0) ≤ v4) → (vp_in v4 10 ∧ ((((zr h 51 v4) = 1) → (f_Course_says_50_ok v2 0 v4 h ∧ (f_Course_sinkAndRise_50_l23_k60_ok v2 v3 v4 v4 (f_Course_says_50 v2 0 v4 h).1 (f_Course_says_50 v2 0 v4 h).2))) ∧ (¬ ((zr h 51 v4) = 1) → (vp_in v4 10 ∧ ((((zr h 51 v4) = 2) → (f_Course_says_50_ok v3 1 v4 h ∧ (f_Course_sinkAndRise_50_l23_k97_ok v2 v3 v4 v4 (f_Course_says_50 v3 1 v4 h).1 (f_Course_says_50 v3 1 v4 h).2))) ∧ (¬ ((zr h 51 v4) = 2) → True))))))))
theorem f_Course_sinkAndRise_50_l23_b_w (v2 : Int32) (v3 : Int32) (v4 : Int32) (h : zm_H) : zWr [21, 22, 51] [(15, 9)] h ((f_Course_sinkAndRise_50_l23_b v2 v3 v4 h).2.2) := by
  unfold f_Course_sinkAndRise_50_l23_b
  exact (zWr_ite (fun z : Nat × Int32 × zm_H => z.2.2) (zWr.refl _ _) (zWr_ite (fun z : Nat × Int32 × zm_H => z.2.2) (zWr_tr (f_Course_sinkAndRise_50_l23_k60_w v2 v3 v4 v4 (f_Course_says_50 v2 0 v4 h).1 (f_Course_says_50 v2 0 v4 h).2) (by decide) (by decide) (zWr_tr (f_Course_says_50_w v2 0 v4 h) (by decide) (by decide) (zWr.refl _ _))) (zWr_ite (fun z : Nat × Int32 × zm_H => z.2.2) (zWr_tr (f_Course_sinkAndRise_50_l23_k97_w v2 v3 v4 v4 (f_Course_says_50 v3 1 v4 h).1 (f_Course_says_50 v3 1 v4 h).2) (by decide) (by decide) (zWr_tr (f_Course_says_50_w v3 1 v4 h) (by decide) (by decide) (zWr.refl _ _))) (zWr_tr (f_Course_sinkAndRise_50_l23_k106_w v2 v3 v4 h) (by decide) (by decide) (zWr.refl _ _)))))
def f_Course_sinkAndRise_50_l23 (v2 : Int32) (v3 : Int32) (n : Nat) (t : Int32 × zm_H) : Nat × Int32 × zm_H := zwh (fun t => f_Course_sinkAndRise_50_l23_b v2 v3 t.1 t.2) n t
def f_Course_sinkAndRise_50_l23_ok (v2 : Int32) (v3 : Int32) (n : Nat) (t : Int32 × zm_H) : Prop := zwo (fun t => f_Course_sinkAndRise_50_l23_b v2 v3 t.1 t.2) (fun t => f_Course_sinkAndRise_50_l23_b_ok v2 v3 t.1 t.2) n t
theorem f_Course_sinkAndRise_50_l23_w (v2 : Int32) (v3 : Int32) (n : Nat) (t : Int32 × zm_H) : zWr [21, 22, 51] [(15, 9)] (t.2) ((f_Course_sinkAndRise_50_l23 v2 v3 n t).2.2) := by
  unfold f_Course_sinkAndRise_50_l23
  exact zWr_zwh (fun t : Int32 × zm_H => t.2) (fun t => f_Course_sinkAndRise_50_l23_b_w v2 v3 t.1 t.2)
def f_Course_sinkAndRise_50_k112 (h : zm_H) : zm_H := h
def f_Course_sinkAndRise_50_k112_ok (h : zm_H) : Prop := True
theorem f_Course_sinkAndRise_50_k112_w (h : zm_H) : zWr [] [] h ((f_Course_sinkAndRise_50_k112 h)) := by
  unfold f_Course_sinkAndRise_50_k112
  exact (zWr.refl _ _)
def f_Course_sinkAndRise_50_a23 (r : Nat × Int32 × zm_H) : zm_H := (f_Course_sinkAndRise_50_k112 (r.2.2))
def f_Course_sinkAndRise_50_a23_ok (r : Nat × Int32 × zm_H) : Prop := True
theorem f_Course_sinkAndRise_50_a23_w (r : Nat × Int32 × zm_H) : zWr [] [] (r.2.2) ((f_Course_sinkAndRise_50_a23 r)) := by
  unfold f_Course_sinkAndRise_50_a23
  exact (zWr_tr (f_Course_sinkAndRise_50_k112_w (r.2.2)) (by decide) (by decide) (zWr.refl _ _))
def f_Course_sinkAndRise_50 (p1 : Int32) (h : zm_H) : zm_H := (f_Course_sinkAndRise_50_a23 (f_Course_sinkAndRise_50_l23 (f_Rules_ruling 0 p1 h) (f_Rules_ruling 1 p1 h) zF (0, h)))
def f_Course_sinkAndRise_50_ok (p1 : Int32) (h : zm_H) : Prop := (f_Rules_ruling_ok 0 p1 h ∧ (f_Rules_ruling_ok 1 p1 h ∧ (f_Course_sinkAndRise_50_l23_ok (f_Rules_ruling 0 p1 h) (f_Rules_ruling 1 p1 h) zF (0, h) ∧ f_Course_sinkAndRise_50_a23_ok (f_Course_sinkAndRise_50_l23 (f_Rules_ruling 0 p1 h) (f_Rules_ruling 1 p1 h) zF (0, h)))))
theorem f_Course_sinkAndRise_50_w (p1 : Int32) (h : zm_H) : zWr [21, 22, 51] [(15, 9)] h ((f_Course_sinkAndRise_50 p1 h)) := by
  unfold f_Course_sinkAndRise_50
  exact (zWr_tr (f_Course_sinkAndRise_50_a23_w (f_Course_sinkAndRise_50_l23 (f_Rules_ruling 0 p1 h) (f_Rules_ruling 1 p1 h) zF (0, h))) (by decide) (by decide) (zWr_tr (f_Course_sinkAndRise_50_l23_w (f_Rules_ruling 0 p1 h) (f_Rules_ruling 1 p1 h) zF (0, h)) (by decide) (by decide) (zWr.refl _ _)))
def f_Course_putInto_50_l6_k38 (v2 : Int32) (h : zm_H) : Nat × Int32 × zm_H := (0, (v2 + 1), h)
def f_Course_putInto_50_l6_k38_ok (v2 : Int32) (h : zm_H) : Prop := True
theorem f_Course_putInto_50_l6_k38_w (v2 : Int32) (h : zm_H) : zWr [] [] h ((f_Course_putInto_50_l6_k38 v2 h).2.2) := by
  unfold f_Course_putInto_50_l6_k38
  exact (zWr.refl _ _)
def f_Course_putInto_50_l6_b (v2 : Int32) (h : zm_H) : Nat × Int32 × zm_H := (if ((zf h 23 0) ≤ v2) then (1, v2, h) else (if ((zr h 51 v2) = 1) then (f_Course_putInto_50_l6_k38 v2 (f_Waves_putIn v2 (zr h 52 v2) h)) else (f_Course_putInto_50_l6_k38 v2 h)))
def f_Course_putInto_50_l6_b_ok (v2 : Int32) (h : zm_H) : Prop := ((((zf h 23 0) ≤ v2) → True) ∧ (¬ ((zf h 23 0) ≤ v2) → (vp_in v2 10 ∧ ((((zr h 51 v2) = 1) → (vp_in v2 10 ∧ f_Waves_putIn_ok v2 (zr h 52 v2) h)) ∧ (¬ ((zr h 51 v2) = 1) → True)))))
theorem f_Course_putInto_50_l6_b_w (v2 : Int32) (h : zm_H) : zWr [33] [] h ((f_Course_putInto_50_l6_b v2 h).2.2) := by
  unfold f_Course_putInto_50_l6_b
  exact (zWr_ite (fun z : Nat × Int32 × zm_H => z.2.2) (zWr.refl _ _) (zWr_ite (fun z : Nat × Int32 × zm_H => z.2.2) (zWr_tr (f_Course_putInto_50_l6_k38_w v2 (f_Waves_putIn v2 (zr h 52 v2) h)) (by decide) (by decide) (zWr_tr (f_Waves_putIn_w v2 (zr h 52 v2) h) (by decide) (by decide) (zWr.refl _ _))) (zWr_tr (f_Course_putInto_50_l6_k38_w v2 h) (by decide) (by decide) (zWr.refl _ _))))
def f_Course_putInto_50_l6 (n : Nat) (t : Int32 × zm_H) : Nat × Int32 × zm_H := zwh (fun t => f_Course_putInto_50_l6_b t.1 t.2) n t
def f_Course_putInto_50_l6_ok (n : Nat) (t : Int32 × zm_H) : Prop := zwo (fun t => f_Course_putInto_50_l6_b t.1 t.2) (fun t => f_Course_putInto_50_l6_b_ok t.1 t.2) n t
theorem f_Course_putInto_50_l6_w (n : Nat) (t : Int32 × zm_H) : zWr [33] [] (t.2) ((f_Course_putInto_50_l6 n t).2.2) := by
  unfold f_Course_putInto_50_l6
  exact zWr_zwh (fun t : Int32 × zm_H => t.2) (fun t => f_Course_putInto_50_l6_b_w t.1 t.2)
def f_Course_putInto_50_k44 (h : zm_H) : zm_H := h
def f_Course_putInto_50_k44_ok (h : zm_H) : Prop := True
theorem f_Course_putInto_50_k44_w (h : zm_H) : zWr [] [] h ((f_Course_putInto_50_k44 h)) := by
  unfold f_Course_putInto_50_k44
  exact (zWr.refl _ _)
def f_Course_putInto_50_a6 (r : Nat × Int32 × zm_H) : zm_H := (f_Course_putInto_50_k44 (r.2.2))
def f_Course_putInto_50_a6_ok (r : Nat × Int32 × zm_H) : Prop := True
theorem f_Course_putInto_50_a6_w (r : Nat × Int32 × zm_H) : zWr [] [] (r.2.2) ((f_Course_putInto_50_a6 r)) := by
  unfold f_Course_putInto_50_a6
  exact (zWr_tr (f_Course_putInto_50_k44_w (r.2.2)) (by decide) (by decide) (zWr.refl _ _))
def f_Course_putInto_50_k4 (h : zm_H) : zm_H := (f_Course_putInto_50_a6 (f_Course_putInto_50_l6 zF (0, h)))
def f_Course_putInto_50_k4_ok (h : zm_H) : Prop := (f_Course_putInto_50_l6_ok zF (0, h) ∧ f_Course_putInto_50_a6_ok (f_Course_putInto_50_l6 zF (0, h)))
theorem f_Course_putInto_50_k4_w (h : zm_H) : zWr [33] [] h ((f_Course_putInto_50_k4 h)) := by
  unfold f_Course_putInto_50_k4
  exact (zWr_tr (f_Course_putInto_50_a6_w (f_Course_putInto_50_l6 zF (0, h))) (by decide) (by decide) (zWr_tr (f_Course_putInto_50_l6_w zF (0, h)) (by decide) (by decide) (zWr.refl _ _)))
def f_Course_putInto_50 (h : zm_H) : zm_H := (f_Course_putInto_50_k4 (f_Waves_takeAllOut h))
def f_Course_putInto_50_ok (h : zm_H) : Prop := (f_Waves_takeAllOut_ok h ∧ (f_Course_putInto_50_k4_ok (f_Waves_takeAllOut h)))
theorem f_Course_putInto_50_w (h : zm_H) : zWr [33] [] h ((f_Course_putInto_50 h)) := by
  unfold f_Course_putInto_50
  exact (zWr_tr (f_Course_putInto_50_k4_w (f_Waves_takeAllOut h)) (by decide) (by decide) (zWr_tr (f_Waves_takeAllOut_w h) (by decide) (by decide) (zWr.refl _ _)))
def f_Course_leak_50 (p1 : Int32) (h : zm_H) : Int32 := (if ((zr h 53 p1) / 16) < 100 then ((zr h 53 p1) / 16) else 100)
def f_Course_leak_50_ok (p1 : Int32) (h : zm_H) : Prop := vp_in p1 10
def f_Course_powerFrom_50 (p1 : Int32) (p2 : Int32) (h : zm_H) : Int32 := ((p1 * (100 - (f_Course_leak_50 p2 h))) / 100)
def f_Course_powerFrom_50_ok (p1 : Int32) (p2 : Int32) (h : zm_H) : Prop := f_Course_leak_50_ok p2 h
def f_Course_takeWaves_50_l25_b (v1 : Int32) (v3 : Int32) (h : zm_H) : Nat × Int32 × zm_H := (if ((zf h 23 0) ≤ v3) then (1, v3, h) else (0, (v3 + 1), (zs (zs (zs (zs h 54 v3 (f_Course_powerFrom_50 (zr h 34 v3) v3 h)) 53 v3 ((zr h 53 v3) + (if (¬ ((zr h 34 v3) ≤ 0)) then (1 : Int32) else 0))) 55 v3 ((zr h 55 v3) + (zr (zs h 54 v3 (f_Course_powerFrom_50 (zr h 34 v3) v3 h)) 54 v3))) 60 v1 ((zr h 60 v1) + (zr (zs h 54 v3 (f_Course_powerFrom_50 (zr h 34 v3) v3 h)) 54 v3)))))
def f_Course_takeWaves_50_l25_b_ok (v1 : Int32) (v3 : Int32) (h : zm_H) : Prop := ((((zf h 23 0) ≤ v3) → True) ∧ (¬ ((zf h 23 0) ≤ v3) → (vp_in v3 10 ∧ (f_Course_powerFrom_50_ok (zr h 34 v3) v3 h ∧ (vp_in v3 10 ∧ (vp_in v3 10 ∧ (vp_in v3 10 ∧ (vp_in v3 10 ∧ (vp_in v3 10 ∧ (vp_in v3 10 ∧ (vp_in v3 10 ∧ (vp_in v1 480 ∧ (vp_in v3 10 ∧ vp_in v1 480)))))))))))))
theorem f_Course_takeWaves_50_l25_b_w (v1 : Int32) (v3 : Int32) (h : zm_H) : zWr [53, 54, 55, 60] [] h ((f_Course_takeWaves_50_l25_b v1 v3 h).2.2) := by
  unfold f_Course_takeWaves_50_l25_b
  exact (zWr_ite (fun z : Nat × Int32 × zm_H => z.2.2) (zWr.refl _ _) (zWr_si (by decide) (zWr_si (by decide) (zWr_si (by decide) (zWr_si (by decide) (zWr.refl _ _))))))
def f_Course_takeWaves_50_l25 (v1 : Int32) (n : Nat) (t : Int32 × zm_H) : Nat × Int32 × zm_H := zwh (fun t => f_Course_takeWaves_50_l25_b v1 t.1 t.2) n t
def f_Course_takeWaves_50_l25_ok (v1 : Int32) (n : Nat) (t : Int32 × zm_H) : Prop := zwo (fun t => f_Course_takeWaves_50_l25_b v1 t.1 t.2) (fun t => f_Course_takeWaves_50_l25_b_ok v1 t.1 t.2) n t
theorem f_Course_takeWaves_50_l25_w (v1 : Int32) (n : Nat) (t : Int32 × zm_H) : zWr [53, 54, 55, 60] [] (t.2) ((f_Course_takeWaves_50_l25 v1 n t).2.2) := by
  unfold f_Course_takeWaves_50_l25
  exact zWr_zwh (fun t : Int32 × zm_H => t.2) (fun t => f_Course_takeWaves_50_l25_b_w v1 t.1 t.2)
def f_Course_takeWaves_50_k118 (v1 : Int32) (h : zm_H) : zm_H := (zcp h 35 0 62 (v1 * 10) 10)
def f_Course_takeWaves_50_k118_ok (v1 : Int32) (h : zm_H) : Prop := (¬ (0 : Int32) < 0 ∧ ¬ ((v1 * 10) : Int32) < 0 ∧ ¬ (10 : Int32) < 0 ∧ Int32.toNatClampNeg 0 + Int32.toNatClampNeg 10 ≤ 10 ∧ Int32.toNatClampNeg (v1 * 10) + Int32.toNatClampNeg 10 ≤ 4800)
theorem f_Course_takeWaves_50_k118_w (v1 : Int32) (h : zm_H) : zWr [62] [] h ((f_Course_takeWaves_50_k118 v1 h)) := by
  unfold f_Course_takeWaves_50_k118
  exact (zWr_cp (by decide) (zWr.refl _ _))
def f_Course_takeWaves_50_a25 (v1 : Int32) (r : Nat × Int32 × zm_H) : zm_H := (f_Course_takeWaves_50_k118 v1 (r.2.2))
def f_Course_takeWaves_50_a25_ok (v1 : Int32) (r : Nat × Int32 × zm_H) : Prop := (f_Course_takeWaves_50_k118_ok v1 (r.2.2))
theorem f_Course_takeWaves_50_a25_w (v1 : Int32) (r : Nat × Int32 × zm_H) : zWr [62] [] (r.2.2) ((f_Course_takeWaves_50_a25 v1 r)) := by
  unfold f_Course_takeWaves_50_a25
  exact (zWr_tr (f_Course_takeWaves_50_k118_w v1 (r.2.2)) (by decide) (by decide) (zWr.refl _ _))
def f_Course_takeWaves_50_k16 (v1 : Int32) (h : zm_H) : zm_H := (f_Course_takeWaves_50_a25 v1 (f_Course_takeWaves_50_l25 v1 zF (0, (zs h 60 v1 0))))
def f_Course_takeWaves_50_k16_ok (v1 : Int32) (h : zm_H) : Prop := (vp_in v1 480 ∧ (f_Course_takeWaves_50_l25_ok v1 zF (0, (zs h 60 v1 0)) ∧ f_Course_takeWaves_50_a25_ok v1 (f_Course_takeWaves_50_l25 v1 zF (0, (zs h 60 v1 0)))))
theorem f_Course_takeWaves_50_k16_w (v1 : Int32) (h : zm_H) : zWr [53, 54, 55, 60, 62] [] h ((f_Course_takeWaves_50_k16 v1 h)) := by
  unfold f_Course_takeWaves_50_k16
  exact (zWr_tr (f_Course_takeWaves_50_a25_w v1 (f_Course_takeWaves_50_l25 v1 zF (0, (zs h 60 v1 0)))) (by decide) (by decide) (zWr_tr (f_Course_takeWaves_50_l25_w v1 zF (0, (zs h 60 v1 0))) (by decide) (by decide) (zWr_si (by decide) (zWr.refl _ _))))
def f_Course_takeWaves_50_k8 (v1 : Int32) (v2 : Int32) (h : zm_H) : zm_H := (f_Course_takeWaves_50_k16 v1 (f_Waves_run v2 h))
def f_Course_takeWaves_50_k8_ok (v1 : Int32) (v2 : Int32) (h : zm_H) : Prop := (f_Waves_run_ok v2 h ∧ (f_Course_takeWaves_50_k16_ok v1 (f_Waves_run v2 h)))
theorem f_Course_takeWaves_50_k8_w (v1 : Int32) (v2 : Int32) (h : zm_H) : zWr [32, 34, 35, 36, 53, 54, 55, 60, 62] [] h ((f_Course_takeWaves_50_k8 v1 v2 h)) := by
  unfold f_Course_takeWaves_50_k8
  exact (zWr_tr (f_Course_takeWaves_50_k16_w v1 (f_Waves_run v2 h)) (by decide) (by decide) (zWr_tr (f_Waves_run_w v2 h) (by decide) (by decide) (zWr.refl _ _)))
def f_Course_takeWaves_50 (p1 : Int32) (p2 : Int32) (h : zm_H) : zm_H := (f_Course_takeWaves_50_k8 p1 p2 (f_Course_putInto_50 h))
def f_Course_takeWaves_50_ok (p1 : Int32) (p2 : Int32) (h : zm_H) : Prop := (f_Course_putInto_50_ok h ∧ (f_Course_takeWaves_50_k8_ok p1 p2 (f_Course_putInto_50 h)))
theorem f_Course_takeWaves_50_w (p1 : Int32) (p2 : Int32) (h : zm_H) : zWr [32, 33, 34, 35, 36, 53, 54, 55, 60, 62] [] h ((f_Course_takeWaves_50 p1 p2 h)) := by
  unfold f_Course_takeWaves_50
  exact (zWr_tr (f_Course_takeWaves_50_k8_w p1 p2 (f_Course_putInto_50 h)) (by decide) (by decide) (zWr_tr (f_Course_putInto_50_w h) (by decide) (by decide) (zWr.refl _ _)))
def f_Course_strainChains_50_l2_k103 (v1 : Int32) (v2 : Int32) (v3 : Int32) (h : zm_H) : Nat × Int32 × zm_H := (0, (v3 + 1), h)
def f_Course_strainChains_50_l2_k103_ok (v1 : Int32) (v2 : Int32) (v3 : Int32) (h : zm_H) : Prop := True
theorem f_Course_strainChains_50_l2_k103_w (v1 : Int32) (v2 : Int32) (v3 : Int32) (h : zm_H) : zWr [] [] h ((f_Course_strainChains_50_l2_k103 v1 v2 v3 h).2.2) := by
  unfold f_Course_strainChains_50_l2_k103
  exact (zWr.refl _ _)
def f_Course_weight_50 (p1 : Int32) (p2 : Int32) (p3 : Int32) (h : zm_H) : Int32 := (if ((f_Course_holds_50 ((p1 * 3) + p2) h) = 0) then (0 : Int32) else (zm_wt (((p3 + 1) * 3) + p2).toNatClampNeg))
def f_Course_weight_50_ok (p1 : Int32) (p2 : Int32) (p3 : Int32) (h : zm_H) : Prop := (f_Course_holds_50_ok ((p1 * 3) + p2) h ∧ ((((f_Course_holds_50 ((p1 * 3) + p2) h) = 0) → True) ∧ (¬ ((f_Course_holds_50 ((p1 * 3) + p2) h) = 0) → vp_in (((p3 + 1) * 3) + p2) 9)))
def f_Course_shareLoad_50_l6_b (v1 : Int32) (v2 : Int32) (v3 : Int32) (v4 : Int32) (v5 : Int32) (h : zm_H) : Nat × Int32 × Int32 := (if (3 ≤ v5) then (1, v4, v5) else (0, (v4 + (f_Course_weight_50 v1 v5 v3 h)), (v5 + 1)))
def f_Course_shareLoad_50_l6_b_ok (v1 : Int32) (v2 : Int32) (v3 : Int32) (v4 : Int32) (v5 : Int32) (h : zm_H) : Prop := (((3 ≤ v5) → True) ∧ (¬ (3 ≤ v5) → f_Course_weight_50_ok v1 v5 v3 h))
def f_Course_shareLoad_50_l6 (v1 : Int32) (v2 : Int32) (v3 : Int32) (h : zm_H) (n : Nat) (t : Int32 × Int32) : Nat × Int32 × Int32 := zwh (fun t => f_Course_shareLoad_50_l6_b v1 v2 v3 t.1 t.2 h) n t
def f_Course_shareLoad_50_l6_ok (v1 : Int32) (v2 : Int32) (v3 : Int32) (h : zm_H) (n : Nat) (t : Int32 × Int32) : Prop := zwo (fun t => f_Course_shareLoad_50_l6_b v1 v2 v3 t.1 t.2 h) (fun t => f_Course_shareLoad_50_l6_b_ok v1 v2 v3 t.1 t.2 h) n t
def f_Course_shareLoad_50_l34_b (v1 : Int32) (v2 : Int32) (v3 : Int32) (v4 : Int32) (v5 : Int32) (h : zm_H) : Nat × Int32 × zm_H := (if (3 ≤ v5) then (1, v5, h) else (0, (v5 + 1), (zs h 59 v5 (if (v4 = 0) then (0 : Int32) else ((v2 * (f_Course_weight_50 v1 v5 v3 h)) / v4)))))
def f_Course_shareLoad_50_l34_b_ok (v1 : Int32) (v2 : Int32) (v3 : Int32) (v4 : Int32) (v5 : Int32) (h : zm_H) : Prop := (((3 ≤ v5) → True) ∧ (¬ (3 ≤ v5) → ((((v4 = 0) → True) ∧ (¬ (v4 = 0) → (f_Course_weight_50_ok v1 v5 v3 h ∧ ¬ v4 = 0))) ∧ vp_in v5 3)))
theorem f_Course_shareLoad_50_l34_b_w (v1 : Int32) (v2 : Int32) (v3 : Int32) (v4 : Int32) (v5 : Int32) (h : zm_H) : zWr [59] [] h ((f_Course_shareLoad_50_l34_b v1 v2 v3 v4 v5 h).2.2) := by
  unfold f_Course_shareLoad_50_l34_b
  exact (zWr_ite (fun z : Nat × Int32 × zm_H => z.2.2) (zWr.refl _ _) (zWr_si (by decide) (zWr.refl _ _)))
def f_Course_shareLoad_50_l34 (v1 : Int32) (v2 : Int32) (v3 : Int32) (v4 : Int32) (n : Nat) (t : Int32 × zm_H) : Nat × Int32 × zm_H := zwh (fun t => f_Course_shareLoad_50_l34_b v1 v2 v3 v4 t.1 t.2) n t
def f_Course_shareLoad_50_l34_ok (v1 : Int32) (v2 : Int32) (v3 : Int32) (v4 : Int32) (n : Nat) (t : Int32 × zm_H) : Prop := zwo (fun t => f_Course_shareLoad_50_l34_b v1 v2 v3 v4 t.1 t.2) (fun t => f_Course_shareLoad_50_l34_b_ok v1 v2 v3 v4 t.1 t.2) n t
theorem f_Course_shareLoad_50_l34_w (v1 : Int32) (v2 : Int32) (v3 : Int32) (v4 : Int32) (n : Nat) (t : Int32 × zm_H) : zWr [59] [] (t.2) ((f_Course_shareLoad_50_l34 v1 v2 v3 v4 n t).2.2) := by
  unfold f_Course_shareLoad_50_l34
  exact zWr_zwh (fun t : Int32 × zm_H => t.2) (fun t => f_Course_shareLoad_50_l34_b_w v1 v2 v3 v4 t.1 t.2)
def f_Course_shareLoad_50_k75 (h : zm_H) : zm_H := h
def f_Course_shareLoad_50_k75_ok (h : zm_H) : Prop := True
theorem f_Course_shareLoad_50_k75_w (h : zm_H) : zWr [] [] h ((f_Course_shareLoad_50_k75 h)) := by
  unfold f_Course_shareLoad_50_k75
  exact (zWr.refl _ _)
def f_Course_shareLoad_50_a34 (r : Nat × Int32 × zm_H) : zm_H := (f_Course_shareLoad_50_k75 (r.2.2))
def f_Course_shareLoad_50_a34_ok (r : Nat × Int32 × zm_H) : Prop := True
theorem f_Course_shareLoad_50_a34_w (r : Nat × Int32 × zm_H) : zWr [] [] (r.2.2) ((f_Course_shareLoad_50_a34 r)) := by
  unfold f_Course_shareLoad_50_a34
  exact (zWr_tr (f_Course_shareLoad_50_k75_w (r.2.2)) (by decide) (by decide) (zWr.refl _ _))
def f_Course_shareLoad_50_k31 (v1 : Int32) (v2 : Int32) (v3 : Int32) (v4 : Int32) (h : zm_H) : zm_H := (f_Course_shareLoad_50_a34 (f_Course_shareLoad_50_l34 v1 v2 v3 v4 zF (0, h)))
def f_Course_shareLoad_50_k31_ok (v1 : Int32) (v2 : Int32) (v3 : Int32) (v4 : Int32) (h : zm_H) : Prop := (f_Course_shareLoad_50_l34_ok v1 v2 v3 v4 zF (0, h) ∧ f_Course_shareLoad_50_a34_ok (f_Course_shareLoad_50_l34 v1 v2 v3 v4 zF (0, h)))
theorem f_Course_shareLoad_50_k31_w (v1 : Int32) (v2 : Int32) (v3 : Int32) (v4 : Int32) (h : zm_H) : zWr [59] [] h ((f_Course_shareLoad_50_k31 v1 v2 v3 v4 h)) := by
  unfold f_Course_shareLoad_50_k31
  exact (zWr_tr (f_Course_shareLoad_50_a34_w (f_Course_shareLoad_50_l34 v1 v2 v3 v4 zF (0, h))) (by decide) (by decide) (zWr_tr (f_Course_shareLoad_50_l34_w v1 v2 v3 v4 zF (0, h)) (by decide) (by decide) (zWr.refl _ _)))
def f_Course_shareLoad_50_a6 (v1 : Int32) (v2 : Int32) (v3 : Int32) (r : Nat × Int32 × Int32) (h : zm_H) : zm_H := (f_Course_shareLoad_50_k31 v1 v2 v3 (r.2.1) h)
def f_Course_shareLoad_50_a6_ok (v1 : Int32) (v2 : Int32) (v3 : Int32) (r : Nat × Int32 × Int32) (h : zm_H) : Prop := (f_Course_shareLoad_50_k31_ok v1 v2 v3 (r.2.1) h)
theorem f_Course_shareLoad_50_a6_w (v1 : Int32) (v2 : Int32) (v3 : Int32) (r : Nat × Int32 × Int32) (h : zm_H) : zWr [59] [] h ((f_Course_shareLoad_50_a6 v1 v2 v3 r h)) := by
  unfold f_Course_shareLoad_50_a6
  exact (zWr_tr (f_Course_shareLoad_50_k31_w v1 v2 v3 (r.2.1) h) (by decide) (by decide) (zWr.refl _ _))
def f_Course_shareLoad_50 (p1 : Int32) (p2 : Int32) (p3 : Int32) (h : zm_H) : zm_H := (f_Course_shareLoad_50_a6 p1 p2 p3 (f_Course_shareLoad_50_l6 p1 p2 p3 h zF (0, 0)) h)
def f_Course_shareLoad_50_ok (p1 : Int32) (p2 : Int32) (p3 : Int32) (h : zm_H) : Prop := (f_Course_shareLoad_50_l6_ok p1 p2 p3 h zF (0, 0) ∧ f_Course_shareLoad_50_a6_ok p1 p2 p3 (f_Course_shareLoad_50_l6 p1 p2 p3 h zF (0, 0)) h)
theorem f_Course_shareLoad_50_w (p1 : Int32) (p2 : Int32) (p3 : Int32) (h : zm_H) : zWr [59] [] h ((f_Course_shareLoad_50 p1 p2 p3 h)) := by
  unfold f_Course_shareLoad_50
  exact (zWr_tr (f_Course_shareLoad_50_a6_w p1 p2 p3 (f_Course_shareLoad_50_l6 p1 p2 p3 h zF (0, 0)) h) (by decide) (by decide) (zWr.refl _ _))
def f_Course_strain_50 (p1 : Int32) (p2 : Int32) (p3 : Int32) (h : zm_H) : zm_H := (if ((f_Course_holds_50 p1 h) = 0) then h else (if (p2 ≤ (f_Course_hold_50 p1 h)) then (zs h 57 p1 ((zr h 57 p1) + (if 0 < (p2 - 100) then (p2 - 100) else 0))) else (zs h 58 p1 p3)))
def f_Course_strain_50_ok (p1 : Int32) (p2 : Int32) (p3 : Int32) (h : zm_H) : Prop := (f_Course_holds_50_ok p1 h ∧ ((((f_Course_holds_50 p1 h) = 0) → True) ∧ (¬ ((f_Course_holds_50 p1 h) = 0) → (f_Course_hold_50_ok p1 h ∧ (((p2 ≤ (f_Course_hold_50 p1 h)) → (vp_in p1 30 ∧ vp_in p1 30)) ∧ (¬ (p2 ≤ (f_Course_hold_50 p1 h)) → vp_in p1 30))))))
theorem f_Course_strain_50_w (p1 : Int32) (p2 : Int32) (p3 : Int32) (h : zm_H) : zWr [57, 58] [] h ((f_Course_strain_50 p1 p2 p3 h)) := by
  unfold f_Course_strain_50
  exact (zWr_ite (fun z : zm_H => z) (zWr.refl _ _) (zWr_ite (fun z : zm_H => z) (zWr_si (by decide) (zWr.refl _ _)) (zWr_si (by decide) (zWr.refl _ _))))
def f_Course_strainChains_50_l2_l51_k75 (v1 : Int32) (v2 : Int32) (v3 : Int32) (v4 : Int32) (h : zm_H) : Nat × Int32 × zm_H := (0, (v4 + 1), h)
def f_Course_strainChains_50_l2_l51_k75_ok (v1 : Int32) (v2 : Int32) (v3 : Int32) (v4 : Int32) (h : zm_H) : Prop := True
theorem f_Course_strainChains_50_l2_l51_k75_w (v1 : Int32) (v2 : Int32) (v3 : Int32) (v4 : Int32) (h : zm_H) : zWr [] [] h ((f_Course_strainChains_50_l2_l51_k75 v1 v2 v3 v4 h).2.2) := by
  unfold f_Course_strainChains_50_l2_l51_k75
  exact (zWr.refl _ _)
def f_Course_strainChains_50_l2_l51_b (v1 : Int32) (v2 : Int32) (v3 : Int32) (v4 : Int32) (h : zm_H) : Nat × Int32 × zm_H := (if (3 ≤ v4) then (1, v4, h) else (f_Course_strainChains_50_l2_l51_k75 v1 v2 v3 v4 (f_Course_strain_50 ((v3 * 3) + v4) (zr h 59 v4) v1 h)))
def f_Course_strainChains_50_l2_l51_b_ok (v1 : Int32) (v2 : Int32) (v3 : Int32) (v4 : Int32) (h : zm_H) : Prop := (((3 ≤ v4) → True) ∧ (¬ (3 ≤ v4) → (vp_in v4 3 ∧ f_Course_strain_50_ok ((v3 * 3) + v4) (zr h 59 v4) v1 h)))
theorem f_Course_strainChains_50_l2_l51_b_w (v1 : Int32) (v2 : Int32) (v3 : Int32) (v4 : Int32) (h : zm_H) : zWr [57, 58] [] h ((f_Course_strainChains_50_l2_l51_b v1 v2 v3 v4 h).2.2) := by
  unfold f_Course_strainChains_50_l2_l51_b
  exact (zWr_ite (fun z : Nat × Int32 × zm_H => z.2.2) (zWr.refl _ _) (zWr_tr (f_Course_strainChains_50_l2_l51_k75_w v1 v2 v3 v4 (f_Course_strain_50 ((v3 * 3) + v4) (zr h 59 v4) v1 h)) (by decide) (by decide) (zWr_tr (f_Course_strain_50_w ((v3 * 3) + v4) (zr h 59 v4) v1 h) (by decide) (by decide) (zWr.refl _ _))))
def f_Course_strainChains_50_l2_l51 (v1 : Int32) (v2 : Int32) (v3 : Int32) (n : Nat) (t : Int32 × zm_H) : Nat × Int32 × zm_H := zwh (fun t => f_Course_strainChains_50_l2_l51_b v1 v2 v3 t.1 t.2) n t
def f_Course_strainChains_50_l2_l51_ok (v1 : Int32) (v2 : Int32) (v3 : Int32) (n : Nat) (t : Int32 × zm_H) : Prop := zwo (fun t => f_Course_strainChains_50_l2_l51_b v1 v2 v3 t.1 t.2) (fun t => f_Course_strainChains_50_l2_l51_b_ok v1 v2 v3 t.1 t.2) n t
theorem f_Course_strainChains_50_l2_l51_w (v1 : Int32) (v2 : Int32) (v3 : Int32) (n : Nat) (t : Int32 × zm_H) : zWr [57, 58] [] (t.2) ((f_Course_strainChains_50_l2_l51 v1 v2 v3 n t).2.2) := by
  unfold f_Course_strainChains_50_l2_l51
  exact zWr_zwh (fun t : Int32 × zm_H => t.2) (fun t => f_Course_strainChains_50_l2_l51_b_w v1 v2 v3 t.1 t.2)
def f_Course_holdBits_50_l4_b (v1 : Int32) (v2 : Int32) (v3 : Int32) (h : zm_H) : Nat × Int32 × Int32 := (if (3 ≤ v3) then (1, v2, v3) else (0, (v2 ||| (if ((f_Course_holds_50 ((v1 * 3) + v3) h) = 0) then (0 : Int32) else (1 <<< (v3 &&& 31)))), (v3 + 1)))
def f_Course_holdBits_50_l4_b_ok (v1 : Int32) (v2 : Int32) (v3 : Int32) (h : zm_H) : Prop := (((3 ≤ v3) → True) ∧ (¬ (3 ≤ v3) → f_Course_holds_50_ok ((v1 * 3) + v3) h))
def f_Course_holdBits_50_l4 (v1 : Int32) (h : zm_H) (n : Nat) (t : Int32 × Int32) : Nat × Int32 × Int32 := zwh (fun t => f_Course_holdBits_50_l4_b v1 t.1 t.2 h) n t
def f_Course_holdBits_50_l4_ok (v1 : Int32) (h : zm_H) (n : Nat) (t : Int32 × Int32) : Prop := zwo (fun t => f_Course_holdBits_50_l4_b v1 t.1 t.2 h) (fun t => f_Course_holdBits_50_l4_b_ok v1 t.1 t.2 h) n t
def f_Course_holdBits_50_k37 (v2 : Int32) (h : zm_H) : Int32 := v2
def f_Course_holdBits_50_k37_ok (v2 : Int32) (h : zm_H) : Prop := True
def f_Course_holdBits_50_a4 (r : Nat × Int32 × Int32) (h : zm_H) : Int32 := (f_Course_holdBits_50_k37 (r.2.1) h)
def f_Course_holdBits_50_a4_ok (r : Nat × Int32 × Int32) (h : zm_H) : Prop := True
def f_Course_holdBits_50 (p1 : Int32) (h : zm_H) : Int32 := (f_Course_holdBits_50_a4 (f_Course_holdBits_50_l4 p1 h zF (0, 0)) h)
def f_Course_holdBits_50_ok (p1 : Int32) (h : zm_H) : Prop := (f_Course_holdBits_50_l4_ok p1 h zF (0, 0) ∧ f_Course_holdBits_50_a4_ok (f_Course_holdBits_50_l4 p1 h zF (0, 0)) h)
def f_Course_strainChains_50_l2_k81 (v1 : Int32) (v2 : Int32) (v3 : Int32) (h : zm_H) : Nat × Int32 × zm_H := (0, (v3 + 1), (if ((f_Course_holdBits_50 v3 h) = 0) then (zs (zs h 51 v3 3) 52 v3 (-1)) else h))
def f_Course_strainChains_50_l2_k81_ok (v1 : Int32) (v2 : Int32) (v3 : Int32) (h : zm_H) : Prop := (f_Course_holdBits_50_ok v3 h ∧ ((((f_Course_holdBits_50 v3 h) = 0) → (vp_in v3 10 ∧ vp_in v3 10)) ∧ (¬ ((f_Course_holdBits_50 v3 h) = 0) → True)))
theorem f_Course_strainChains_50_l2_k81_w (v1 : Int32) (v2 : Int32) (v3 : Int32) (h : zm_H) : zWr [51, 52] [] h ((f_Course_strainChains_50_l2_k81 v1 v2 v3 h).2.2) := by
  unfold f_Course_strainChains_50_l2_k81
  exact (zWr_ite (fun z : zm_H => z) (zWr_si (by decide) (zWr_si (by decide) (zWr.refl _ _))) (zWr.refl _ _))
def f_Course_strainChains_50_l2_a51 (v1 : Int32) (v2 : Int32) (v3 : Int32) (r : Nat × Int32 × zm_H) : Nat × Int32 × zm_H := (f_Course_strainChains_50_l2_k81 v1 v2 v3 (r.2.2))
def f_Course_strainChains_50_l2_a51_ok (v1 : Int32) (v2 : Int32) (v3 : Int32) (r : Nat × Int32 × zm_H) : Prop := (f_Course_strainChains_50_l2_k81_ok v1 v2 v3 (r.2.2))
theorem f_Course_strainChains_50_l2_a51_w (v1 : Int32) (v2 : Int32) (v3 : Int32) (r : Nat × Int32 × zm_H) : zWr [51, 52] [] (r.2.2) ((f_Course_strainChains_50_l2_a51 v1 v2 v3 r).2.2) := by
  unfold f_Course_strainChains_50_l2_a51
  exact (zWr_tr (f_Course_strainChains_50_l2_k81_w v1 v2 v3 (r.2.2)) (by decide) (by decide) (zWr.refl _ _))
def f_Course_strainChains_50_l2_k48 (v1 : Int32) (v2 : Int32) (v3 : Int32) (h : zm_H) : Nat × Int32 × zm_H := (f_Course_strainChains_50_l2_a51 v1 v2 v3 (f_Course_strainChains_50_l2_l51 v1 v2 v3 zF (0, h)))
def f_Course_strainChains_50_l2_k48_ok (v1 : Int32) (v2 : Int32) (v3 : Int32) (h : zm_H) : Prop := (f_Course_strainChains_50_l2_l51_ok v1 v2 v3 zF (0, h) ∧ f_Course_strainChains_50_l2_a51_ok v1 v2 v3 (f_Course_strainChains_50_l2_l51 v1 v2 v3 zF (0, h)))
theorem f_Course_strainChains_50_l2_k48_w (v1 : Int32) (v2 : Int32) (v3 : Int32) (h : zm_H) : zWr [51, 52, 57, 58] [] h ((f_Course_strainChains_50_l2_k48 v1 v2 v3 h).2.2) := by
  unfold f_Course_strainChains_50_l2_k48
  exact (zWr_tr (f_Course_strainChains_50_l2_a51_w v1 v2 v3 (f_Course_strainChains_50_l2_l51 v1 v2 v3 zF (0, h))) (by decide) (by decide) (zWr_tr (f_Course_strainChains_50_l2_l51_w v1 v2 v3 zF (0, h)) (by decide) (by decide) (zWr.refl _ _)))
def f_Course_strainChains_50_l2_b (v1 : Int32) (v2 : Int32) (v3 : Int32) (h : zm_H) : Nat × Int32 × zm_H := (if ((zf h 23 0) ≤ v3) then (1, v3, h) else (if ((zr h 51 v3) = 1) then (f_Course_strainChains_50_l2_k48 v1 v2 v3 (f_Course_shareLoad_50 v3 ((v2 / 1000) * ((zr h 24 v3) + 5)) ((zm_rm v2 10) - 1) h)) else (f_Course_strainChains_50_l2_k103 v1 v2 v3 h)))
def f_Course_strainChains_50_l2_b_ok (v1 : Int32) (v2 : Int32) (v3 : Int32) (h : zm_H) : Prop := ((((zf h 23 0) ≤ v3) → True) ∧ (¬ ((zf h 23 0) ≤ v3) → (vp_in v3 10 ∧ ((((zr h 51 v3) = 1) → (vp_in v3 10 ∧ (f_Course_shareLoad_50_ok v3 ((v2 / 1000) * ((zr h 24 v3) + 5)) ((zm_rm v2 10) - 1) h ∧ (f_Course_strainChains_50_l2_k48_ok v1 v2 v3 (f_Course_shareLoad_50 v3 ((v2 / 1000) * ((zr h 24 v3) + 5)) ((zm_rm v2 10) - 1) h))))) ∧ (¬ ((zr h 51 v3) = 1) → True)))))
theorem f_Course_strainChains_50_l2_b_w (v1 : Int32) (v2 : Int32) (v3 : Int32) (h : zm_H) : zWr [51, 52, 57, 58, 59] [] h ((f_Course_strainChains_50_l2_b v1 v2 v3 h).2.2) := by
  unfold f_Course_strainChains_50_l2_b
  exact (zWr_ite (fun z : Nat × Int32 × zm_H => z.2.2) (zWr.refl _ _) (zWr_ite (fun z : Nat × Int32 × zm_H => z.2.2) (zWr_tr (f_Course_strainChains_50_l2_k48_w v1 v2 v3 (f_Course_shareLoad_50 v3 ((v2 / 1000) * ((zr h 24 v3) + 5)) ((zm_rm v2 10) - 1) h)) (by decide) (by decide) (zWr_tr (f_Course_shareLoad_50_w v3 ((v2 / 1000) * ((zr h 24 v3) + 5)) ((zm_rm v2 10) - 1) h) (by decide) (by decide) (zWr.refl _ _))) (zWr_tr (f_Course_strainChains_50_l2_k103_w v1 v2 v3 h) (by decide) (by decide) (zWr.refl _ _))))
def f_Course_strainChains_50_l2 (v1 : Int32) (v2 : Int32) (n : Nat) (t : Int32 × zm_H) : Nat × Int32 × zm_H := zwh (fun t => f_Course_strainChains_50_l2_b v1 v2 t.1 t.2) n t
def f_Course_strainChains_50_l2_ok (v1 : Int32) (v2 : Int32) (n : Nat) (t : Int32 × zm_H) : Prop := zwo (fun t => f_Course_strainChains_50_l2_b v1 v2 t.1 t.2) (fun t => f_Course_strainChains_50_l2_b_ok v1 v2 t.1 t.2) n t
theorem f_Course_strainChains_50_l2_w (v1 : Int32) (v2 : Int32) (n : Nat) (t : Int32 × zm_H) : zWr [51, 52, 57, 58, 59] [] (t.2) ((f_Course_strainChains_50_l2 v1 v2 n t).2.2) := by
  unfold f_Course_strainChains_50_l2
  exact zWr_zwh (fun t : Int32 × zm_H => t.2) (fun t => f_Course_strainChains_50_l2_b_w v1 v2 t.1 t.2)
def f_Course_strainChains_50_k109 (h : zm_H) : zm_H := h
def f_Course_strainChains_50_k109_ok (h : zm_H) : Prop := True
theorem f_Course_strainChains_50_k109_w (h : zm_H) : zWr [] [] h ((f_Course_strainChains_50_k109 h)) := by
  unfold f_Course_strainChains_50_k109
  exact (zWr.refl _ _)
def f_Course_strainChains_50_a2 (r : Nat × Int32 × zm_H) : zm_H := (f_Course_strainChains_50_k109 (r.2.2))
def f_Course_strainChains_50_a2_ok (r : Nat × Int32 × zm_H) : Prop := True
theorem f_Course_strainChains_50_a2_w (r : Nat × Int32 × zm_H) : zWr [] [] (r.2.2) ((f_Course_strainChains_50_a2 r)) := by
  unfold f_Course_strainChains_50_a2
  exact (zWr_tr (f_Course_strainChains_50_k109_w (r.2.2)) (by decide) (by decide) (zWr.refl _ _))
def f_Course_strainChains_50 (p1 : Int32) (p2 : Int32) (h : zm_H) : zm_H := (f_Course_strainChains_50_a2 (f_Course_strainChains_50_l2 p1 p2 zF (0, h)))
def f_Course_strainChains_50_ok (p1 : Int32) (p2 : Int32) (h : zm_H) : Prop := (f_Course_strainChains_50_l2_ok p1 p2 zF (0, h) ∧ f_Course_strainChains_50_a2_ok (f_Course_strainChains_50_l2 p1 p2 zF (0, h)))
theorem f_Course_strainChains_50_w (p1 : Int32) (p2 : Int32) (h : zm_H) : zWr [51, 52, 57, 58, 59] [] h ((f_Course_strainChains_50 p1 p2 h)) := by
  unfold f_Course_strainChains_50
  exact (zWr_tr (f_Course_strainChains_50_a2_w (f_Course_strainChains_50_l2 p1 p2 zF (0, h))) (by decide) (by decide) (zWr_tr (f_Course_strainChains_50_l2_w p1 p2 zF (0, h)) (by decide) (by decide) (zWr.refl _ _)))
def f_Course_bookPay_50_l19_k66 (v1 : Int32) (v2 : Int32) (v3 : Int32) (h : zm_H) : Nat × Int32 × zm_H := (0, (v3 + 1), h)
def f_Course_bookPay_50_l19_k66_ok (v1 : Int32) (v2 : Int32) (v3 : Int32) (h : zm_H) : Prop := True
theorem f_Course_bookPay_50_l19_k66_w (v1 : Int32) (v2 : Int32) (v3 : Int32) (h : zm_H) : zWr [] [] h ((f_Course_bookPay_50_l19_k66 v1 v2 v3 h).2.2) := by
  unfold f_Course_bookPay_50_l19_k66
  exact (zWr.refl _ _)
def f_Course_bookPay_50_l19_k59 (v1 : Int32) (v2 : Int32) (v3 : Int32) (w1 : Int32) (w2 : Int32) (w3 : Int32) (w4 : Int32) (h : zm_H) : Nat × Int32 × zm_H := (f_Course_bookPay_50_l19_k66 v1 v2 v3 (zs h 61 w1 (w2 + (if w3 < (if 100000 < w4 then 100000 else w4) then (if 100000 < w4 then 100000 else w4) else w3))))
def f_Course_bookPay_50_l19_k59_ok (v1 : Int32) (v2 : Int32) (v3 : Int32) (w1 : Int32) (w2 : Int32) (w3 : Int32) (w4 : Int32) (h : zm_H) : Prop := vp_in w1 480
theorem f_Course_bookPay_50_l19_k59_w (v1 : Int32) (v2 : Int32) (v3 : Int32) (w1 : Int32) (w2 : Int32) (w3 : Int32) (w4 : Int32) (h : zm_H) : zWr [61] [] h ((f_Course_bookPay_50_l19_k59 v1 v2 v3 w1 w2 w3 w4 h).2.2) := by
  unfold f_Course_bookPay_50_l19_k59
  exact (zWr_tr (f_Course_bookPay_50_l19_k66_w v1 v2 v3 (zs h 61 w1 (w2 + (if w3 < (if 100000 < w4 then 100000 else w4) then (if 100000 < w4 then 100000 else w4) else w3)))) (by decide) (by decide) (zWr_si (by decide) (zWr.refl _ _)))
def f_Course_bookPay_50_l19_b (v1 : Int32) (v2 : Int32) (v3 : Int32) (h : zm_H) : Nat × Int32 × zm_H := (if ((zf h 23 0) ≤ v3) then (1, v3, h) else (if (v1 < (zr h 26 v3)) then (f_Course_bookPay_50_l19_k66 v1 v2 v3 h) else (f_Course_bookPay_50_l19_k59 v1 v2 v3 v1 (zr h 61 v1) (-100000) (f_Course_says_50 v2 3 v3 h).1 (f_Course_says_50 v2 3 v3 h).2)))
def f_Course_bookPay_50_l19_b_ok (v1 : Int32) (v2 : Int32) (v3 : Int32) (h : zm_H) : Prop := ((((zf h 23 0) ≤ v3) → True) ∧ (¬ ((zf h 23 0) ≤ v3) → (vp_in v3 10 ∧ (((v1 < (zr h 26 v3)) → True) ∧ (¬ (v1 < (zr h 26 v3)) → (vp_in v1 480 ∧ (f_Course_says_50_ok v2 3 v3 h ∧ (f_Course_bookPay_50_l19_k59_ok v1 v2 v3 v1 (zr h 61 v1) (-100000) (f_Course_says_50 v2 3 v3 h).1 (f_Course_says_50 v2 3 v3 h).2))))))))
theorem f_Course_bookPay_50_l19_b_w (v1 : Int32) (v2 : Int32) (v3 : Int32) (h : zm_H) : zWr [21, 22, 61] [(15, 9)] h ((f_Course_bookPay_50_l19_b v1 v2 v3 h).2.2) := by
  unfold f_Course_bookPay_50_l19_b
  exact (zWr_ite (fun z : Nat × Int32 × zm_H => z.2.2) (zWr.refl _ _) (zWr_ite (fun z : Nat × Int32 × zm_H => z.2.2) (zWr_tr (f_Course_bookPay_50_l19_k66_w v1 v2 v3 h) (by decide) (by decide) (zWr.refl _ _)) (zWr_tr (f_Course_bookPay_50_l19_k59_w v1 v2 v3 v1 (zr h 61 v1) (-100000) (f_Course_says_50 v2 3 v3 h).1 (f_Course_says_50 v2 3 v3 h).2) (by decide) (by decide) (zWr_tr (f_Course_says_50_w v2 3 v3 h) (by decide) (by decide) (zWr.refl _ _)))))
def f_Course_bookPay_50_l19 (v1 : Int32) (v2 : Int32) (n : Nat) (t : Int32 × zm_H) : Nat × Int32 × zm_H := zwh (fun t => f_Course_bookPay_50_l19_b v1 v2 t.1 t.2) n t
def f_Course_bookPay_50_l19_ok (v1 : Int32) (v2 : Int32) (n : Nat) (t : Int32 × zm_H) : Prop := zwo (fun t => f_Course_bookPay_50_l19_b v1 v2 t.1 t.2) (fun t => f_Course_bookPay_50_l19_b_ok v1 v2 t.1 t.2) n t
theorem f_Course_bookPay_50_l19_w (v1 : Int32) (v2 : Int32) (n : Nat) (t : Int32 × zm_H) : zWr [21, 22, 61] [(15, 9)] (t.2) ((f_Course_bookPay_50_l19 v1 v2 n t).2.2) := by
  unfold f_Course_bookPay_50_l19
  exact zWr_zwh (fun t : Int32 × zm_H => t.2) (fun t => f_Course_bookPay_50_l19_b_w v1 v2 t.1 t.2)
def f_Course_bookPay_50_k72 (h : zm_H) : zm_H := h
def f_Course_bookPay_50_k72_ok (h : zm_H) : Prop := True
theorem f_Course_bookPay_50_k72_w (h : zm_H) : zWr [] [] h ((f_Course_bookPay_50_k72 h)) := by
  unfold f_Course_bookPay_50_k72
  exact (zWr.refl _ _)
def f_Course_bookPay_50_a19 (r : Nat × Int32 × zm_H) : zm_H := (f_Course_bookPay_50_k72 (r.2.2))
def f_Course_bookPay_50_a19_ok (r : Nat × Int32 × zm_H) : Prop := True
theorem f_Course_bookPay_50_a19_w (r : Nat × Int32 × zm_H) : zWr [] [] (r.2.2) ((f_Course_bookPay_50_a19 r)) := by
  unfold f_Course_bookPay_50_a19
  exact (zWr_tr (f_Course_bookPay_50_k72_w (r.2.2)) (by decide) (by decide) (zWr.refl _ _))
def f_Course_bookPay_50 (p1 : Int32) (h : zm_H) : zm_H := (f_Course_bookPay_50_a19 (f_Course_bookPay_50_l19 p1 (f_Rules_ruling 3 p1 h) zF (0, (zs h 61 p1 0))))
def f_Course_bookPay_50_ok (p1 : Int32) (h : zm_H) : Prop := (f_Rules_ruling_ok 3 p1 h ∧ (vp_in p1 480 ∧ (f_Course_bookPay_50_l19_ok p1 (f_Rules_ruling 3 p1 h) zF (0, (zs h 61 p1 0)) ∧ f_Course_bookPay_50_a19_ok (f_Course_bookPay_50_l19 p1 (f_Rules_ruling 3 p1 h) zF (0, (zs h 61 p1 0))))))
theorem f_Course_bookPay_50_w (p1 : Int32) (h : zm_H) : zWr [21, 22, 61] [(15, 9)] h ((f_Course_bookPay_50 p1 h)) := by
  unfold f_Course_bookPay_50
  exact (zWr_tr (f_Course_bookPay_50_a19_w (f_Course_bookPay_50_l19 p1 (f_Rules_ruling 3 p1 h) zF (0, (zs h 61 p1 0)))) (by decide) (by decide) (zWr_tr (f_Course_bookPay_50_l19_w p1 (f_Rules_ruling 3 p1 h) zF (0, (zs h 61 p1 0))) (by decide) (by decide) (zWr_si (by decide) (zWr.refl _ _))))
def f_Course_pass_50_k31 (v1 : Int32) (h : zm_H) : zm_H := (zp (f_Course_bookPay_50 v1 h) 50 3 (v1 + 1))
def f_Course_pass_50_k31_ok (v1 : Int32) (h : zm_H) : Prop := f_Course_bookPay_50_ok v1 h
theorem f_Course_pass_50_k31_w (v1 : Int32) (h : zm_H) : zWr [21, 22, 61] [(15, 9), (50, 3)] h ((f_Course_pass_50_k31 v1 h)) := by
  unfold f_Course_pass_50_k31
  exact (zWr_p (by decide) (zWr_tr (f_Course_bookPay_50_w v1 h) (by decide) (by decide) (zWr.refl _ _)))
def f_Course_pass_50_k25 (v1 : Int32) (v2 : Int32) (h : zm_H) : zm_H := (f_Course_pass_50_k31 v1 (f_Course_strainChains_50 v1 v2 h))
def f_Course_pass_50_k25_ok (v1 : Int32) (v2 : Int32) (h : zm_H) : Prop := (f_Course_strainChains_50_ok v1 v2 h ∧ (f_Course_pass_50_k31_ok v1 (f_Course_strainChains_50 v1 v2 h)))
theorem f_Course_pass_50_k25_w (v1 : Int32) (v2 : Int32) (h : zm_H) : zWr [21, 22, 51, 52, 57, 58, 59, 61] [(15, 9), (50, 3)] h ((f_Course_pass_50_k25 v1 v2 h)) := by
  unfold f_Course_pass_50_k25
  exact (zWr_tr (f_Course_pass_50_k31_w v1 (f_Course_strainChains_50 v1 v2 h)) (by decide) (by decide) (zWr_tr (f_Course_strainChains_50_w v1 v2 h) (by decide) (by decide) (zWr.refl _ _)))
def f_Course_pass_50_k19 (v1 : Int32) (v2 : Int32) (h : zm_H) : zm_H := (f_Course_pass_50_k25 v1 v2 (f_Course_takeWaves_50 v1 v2 h))
def f_Course_pass_50_k19_ok (v1 : Int32) (v2 : Int32) (h : zm_H) : Prop := (f_Course_takeWaves_50_ok v1 v2 h ∧ (f_Course_pass_50_k25_ok v1 v2 (f_Course_takeWaves_50 v1 v2 h)))
theorem f_Course_pass_50_k19_w (v1 : Int32) (v2 : Int32) (h : zm_H) : zWr [21, 22, 32, 33, 34, 35, 36, 51, 52, 53, 54, 55, 57, 58, 59, 60, 61, 62] [(15, 9), (50, 3)] h ((f_Course_pass_50_k19 v1 v2 h)) := by
  unfold f_Course_pass_50_k19
  exact (zWr_tr (f_Course_pass_50_k25_w v1 v2 (f_Course_takeWaves_50 v1 v2 h)) (by decide) (by decide) (zWr_tr (f_Course_takeWaves_50_w v1 v2 h) (by decide) (by decide) (zWr.refl _ _)))
def f_Course_pass_50_k14 (v1 : Int32) (v2 : Int32) (h : zm_H) : zm_H := (f_Course_pass_50_k19 v1 v2 (f_Course_sinkAndRise_50 v1 h))
def f_Course_pass_50_k14_ok (v1 : Int32) (v2 : Int32) (h : zm_H) : Prop := (f_Course_sinkAndRise_50_ok v1 h ∧ (f_Course_pass_50_k19_ok v1 v2 (f_Course_sinkAndRise_50 v1 h)))
theorem f_Course_pass_50_k14_w (v1 : Int32) (v2 : Int32) (h : zm_H) : zWr [21, 22, 32, 33, 34, 35, 36, 51, 52, 53, 54, 55, 57, 58, 59, 60, 61, 62] [(15, 9), (50, 3)] h ((f_Course_pass_50_k14 v1 v2 h)) := by
  unfold f_Course_pass_50_k14
  exact (zWr_tr (f_Course_pass_50_k19_w v1 v2 (f_Course_sinkAndRise_50 v1 h)) (by decide) (by decide) (zWr_tr (f_Course_sinkAndRise_50_w v1 h) (by decide) (by decide) (zWr.refl _ _)))
def f_Course_pass_50_k5 (v1 : Int32) (v2 : Int32) (h : zm_H) : zm_H := (f_Course_pass_50_k14 v1 v2 (f_Rules_nameSea v1 v2 h))
def f_Course_pass_50_k5_ok (v1 : Int32) (v2 : Int32) (h : zm_H) : Prop := (f_Course_pass_50_k14_ok v1 v2 (f_Rules_nameSea v1 v2 h))
theorem f_Course_pass_50_k5_w (v1 : Int32) (v2 : Int32) (h : zm_H) : zWr [21, 22, 32, 33, 34, 35, 36, 51, 52, 53, 54, 55, 57, 58, 59, 60, 61, 62] [(15, 9), (50, 3)] h ((f_Course_pass_50_k5 v1 v2 h)) := by
  unfold f_Course_pass_50_k5
  exact (zWr_tr (f_Course_pass_50_k14_w v1 v2 (f_Rules_nameSea v1 v2 h)) (by decide) (by decide) (zWr_tr (f_Rules_nameSea_w v1 v2 h) (by decide) (by decide) (zWr.refl _ _)))
def f_Course_pass_50 (p1 : Int32) (p2 : Int32) (h : zm_H) : zm_H := (f_Course_pass_50_k5 p1 p2 (f_Course_doThings_50 p1 h))
def f_Course_pass_50_ok (p1 : Int32) (p2 : Int32) (h : zm_H) : Prop := (f_Course_doThings_50_ok p1 h ∧ (f_Course_pass_50_k5_ok p1 p2 (f_Course_doThings_50 p1 h)))
theorem f_Course_pass_50_w (p1 : Int32) (p2 : Int32) (h : zm_H) : zWr [21, 22, 32, 33, 34, 35, 36, 51, 52, 53, 54, 55, 56, 57, 58, 59, 60, 61, 62] [(15, 9), (50, 3), (50, 4)] h ((f_Course_pass_50 p1 p2 h)) := by
  unfold f_Course_pass_50
  exact (zWr_tr (f_Course_pass_50_k5_w p1 p2 (f_Course_doThings_50 p1 h)) (by decide) (by decide) (zWr_tr (f_Course_doThings_50_w p1 h) (by decide) (by decide) (zWr.refl _ _)))
def f_N_goAnew_l63_k98 (v1 : Int32) (v3 : Int32) (v4 : Int32) (v5 : Int32) (h : zm_H) : Nat × Int32 × zm_H := (0, (v5 + 1), h)
def f_N_goAnew_l63_k98_ok (v1 : Int32) (v3 : Int32) (v4 : Int32) (v5 : Int32) (h : zm_H) : Prop := True
theorem f_N_goAnew_l63_k98_w (v1 : Int32) (v3 : Int32) (v4 : Int32) (v5 : Int32) (h : zm_H) : zWr [] [] h ((f_N_goAnew_l63_k98 v1 v3 v4 v5 h).2.2) := by
  unfold f_N_goAnew_l63_k98
  exact (zWr.refl _ _)
def f_N_goAnew_l63_b (v1 : Int32) (v3 : Int32) (v4 : Int32) (v5 : Int32) (h : zm_H) : Nat × Int32 × zm_H := (if (v1 < v5) then (1, v5, h) else (if (480 ≤ v5) then (1, v5, h) else (f_N_goAnew_l63_k98 v1 v3 v4 v5 (f_Course_pass_50 v5 (f_Swell_look v5 v3 v4 h) h))))
def f_N_goAnew_l63_b_ok (v1 : Int32) (v3 : Int32) (v4 : Int32) (v5 : Int32) (h : zm_H) : Prop := (((v1 < v5) → True) ∧ (¬ (v1 < v5) → (((480 ≤ v5) → True) ∧ (¬ (480 ≤ v5) → (f_Swell_look_ok v5 v3 v4 h ∧ f_Course_pass_50_ok v5 (f_Swell_look v5 v3 v4 h) h)))))
theorem f_N_goAnew_l63_b_w (v1 : Int32) (v3 : Int32) (v4 : Int32) (v5 : Int32) (h : zm_H) : zWr [21, 22, 32, 33, 34, 35, 36, 51, 52, 53, 54, 55, 56, 57, 58, 59, 60, 61, 62] [(15, 9), (50, 3), (50, 4)] h ((f_N_goAnew_l63_b v1 v3 v4 v5 h).2.2) := by
  unfold f_N_goAnew_l63_b
  exact (zWr_ite (fun z : Nat × Int32 × zm_H => z.2.2) (zWr.refl _ _) (zWr_ite (fun z : Nat × Int32 × zm_H => z.2.2) (zWr.refl _ _) (zWr_tr (f_N_goAnew_l63_k98_w v1 v3 v4 v5 (f_Course_pass_50 v5 (f_Swell_look v5 v3 v4 h) h)) (by decide) (by decide) (zWr_tr (f_Course_pass_50_w v5 (f_Swell_look v5 v3 v4 h) h) (by decide) (by decide) (zWr.refl _ _)))))
def f_N_goAnew_l63 (v1 : Int32) (v3 : Int32) (v4 : Int32) (n : Nat) (t : Int32 × zm_H) : Nat × Int32 × zm_H := zwh (fun t => f_N_goAnew_l63_b v1 v3 v4 t.1 t.2) n t
def f_N_goAnew_l63_ok (v1 : Int32) (v3 : Int32) (v4 : Int32) (n : Nat) (t : Int32 × zm_H) : Prop := zwo (fun t => f_N_goAnew_l63_b v1 v3 v4 t.1 t.2) (fun t => f_N_goAnew_l63_b_ok v1 v3 v4 t.1 t.2) n t
theorem f_N_goAnew_l63_w (v1 : Int32) (v3 : Int32) (v4 : Int32) (n : Nat) (t : Int32 × zm_H) : zWr [21, 22, 32, 33, 34, 35, 36, 51, 52, 53, 54, 55, 56, 57, 58, 59, 60, 61, 62] [(15, 9), (50, 3), (50, 4)] (t.2) ((f_N_goAnew_l63 v1 v3 v4 n t).2.2) := by
  unfold f_N_goAnew_l63
  exact zWr_zwh (fun t : Int32 × zm_H => t.2) (fun t => f_N_goAnew_l63_b_w v1 v3 v4 t.1 t.2)
def f_N_goAnew_k104 (h : zm_H) : zm_H := h
def f_N_goAnew_k104_ok (h : zm_H) : Prop := True
theorem f_N_goAnew_k104_w (h : zm_H) : zWr [] [] h ((f_N_goAnew_k104 h)) := by
  unfold f_N_goAnew_k104
  exact (zWr.refl _ _)
def f_N_goAnew_a63 (r : Nat × Int32 × zm_H) : zm_H := (f_N_goAnew_k104 (r.2.2))
def f_N_goAnew_a63_ok (r : Nat × Int32 × zm_H) : Prop := True
theorem f_N_goAnew_a63_w (r : Nat × Int32 × zm_H) : zWr [] [] (r.2.2) ((f_N_goAnew_a63 r)) := by
  unfold f_N_goAnew_a63
  exact (zWr_tr (f_N_goAnew_k104_w (r.2.2)) (by decide) (by decide) (zWr.refl _ _))
def f_N_goAnew_k54 (v1 : Int32) (v3 : Int32) (v4 : Int32) (h : zm_H) : zm_H := (f_N_goAnew_a63 (f_N_goAnew_l63 v1 v3 v4 zF ((zf h 50 3), h)))
def f_N_goAnew_k54_ok (v1 : Int32) (v3 : Int32) (v4 : Int32) (h : zm_H) : Prop := (f_N_goAnew_l63_ok v1 v3 v4 zF ((zf h 50 3), h) ∧ f_N_goAnew_a63_ok (f_N_goAnew_l63 v1 v3 v4 zF ((zf h 50 3), h)))
theorem f_N_goAnew_k54_w (v1 : Int32) (v3 : Int32) (v4 : Int32) (h : zm_H) : zWr [21, 22, 32, 33, 34, 35, 36, 51, 52, 53, 54, 55, 56, 57, 58, 59, 60, 61, 62] [(15, 9), (50, 3), (50, 4)] h ((f_N_goAnew_k54 v1 v3 v4 h)) := by
  unfold f_N_goAnew_k54
  exact (zWr_tr (f_N_goAnew_a63_w (f_N_goAnew_l63 v1 v3 v4 zF ((zf h 50 3), h))) (by decide) (by decide) (zWr_tr (f_N_goAnew_l63_w v1 v3 v4 zF ((zf h 50 3), h)) (by decide) (by decide) (zWr.refl _ _)))
def f_N_goAnew_k43 (v1 : Int32) (v3 : Int32) (v4 : Int32) (h : zm_H) : zm_H := (f_N_goAnew_k54 v1 v3 v4 (zp (zp h 0 10 v3) 0 11 v4))
def f_N_goAnew_k43_ok (v1 : Int32) (v3 : Int32) (v4 : Int32) (h : zm_H) : Prop := (f_N_goAnew_k54_ok v1 v3 v4 (zp (zp h 0 10 v3) 0 11 v4))
theorem f_N_goAnew_k43_w (v1 : Int32) (v3 : Int32) (v4 : Int32) (h : zm_H) : zWr [21, 22, 32, 33, 34, 35, 36, 51, 52, 53, 54, 55, 56, 57, 58, 59, 60, 61, 62] [(0, 10), (0, 11), (15, 9), (50, 3), (50, 4)] h ((f_N_goAnew_k43 v1 v3 v4 h)) := by
  unfold f_N_goAnew_k43
  exact (zWr_tr (f_N_goAnew_k54_w v1 v3 v4 (zp (zp h 0 10 v3) 0 11 v4)) (by decide) (by decide) (zWr_p (by decide) (zWr_p (by decide) (zWr.refl _ _))))
def f_N_goAnew_k36 (v1 : Int32) (v3 : Int32) (v4 : Int32) (h : zm_H) : zm_H := (f_N_goAnew_k43 v1 v3 v4 (f_Course_forgetAll_50 h))
def f_N_goAnew_k36_ok (v1 : Int32) (v3 : Int32) (v4 : Int32) (h : zm_H) : Prop := (f_Course_forgetAll_50_ok h ∧ (f_N_goAnew_k43_ok v1 v3 v4 (f_Course_forgetAll_50 h)))
theorem f_N_goAnew_k36_w (v1 : Int32) (v3 : Int32) (v4 : Int32) (h : zm_H) : zWr [21, 22, 32, 33, 34, 35, 36, 51, 52, 53, 54, 55, 56, 57, 58, 59, 60, 61, 62] [(0, 10), (0, 11), (15, 9), (50, 3), (50, 4)] h ((f_N_goAnew_k36 v1 v3 v4 h)) := by
  unfold f_N_goAnew_k36
  exact (zWr_tr (f_N_goAnew_k43_w v1 v3 v4 (f_Course_forgetAll_50 h)) (by decide) (by decide) (zWr_tr (f_Course_forgetAll_50_w h) (by decide) (by decide) (zWr.refl _ _)))
def f_N_goAnew (p1 : Int32) (p2 : Int32) (h : zm_H) : zm_H := (if ((f_Swell_readingsUpTo p2 h) = (zf h 0 10)) then (if ((f_Swell_driftsUpTo p2 h) = (zf h 0 11)) then (f_N_goAnew_k54 p1 (f_Swell_readingsUpTo p2 h) (f_Swell_driftsUpTo p2 h) h) else (f_N_goAnew_k36 p1 (f_Swell_readingsUpTo p2 h) (f_Swell_driftsUpTo p2 h) h)) else (f_N_goAnew_k36 p1 (f_Swell_readingsUpTo p2 h) (f_Swell_driftsUpTo p2 h) h))
