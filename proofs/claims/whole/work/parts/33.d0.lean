/-! ===== the code as functions, 0 ===== -/
def f_N_isSpell (p0 : Int32) (h : zm_H) : Int32 := (if (¬ (p0 < 0) ∧ (¬ (480 ≤ p0))) then (1 : Int32) else 0)
def f_N_isSpell_ok (p0 : Int32) (h : zm_H) : Prop := True
def f_N_isReading (p0 : Int32) (h : zm_H) : Int32 := (if (¬ (p0 < 0) ∧ (¬ (120 < (p0 / 1000)) ∧ (¬ (((zm_rm p0 1000) / 10) < 2) ∧ (¬ (20 < ((zm_rm p0 1000) / 10)) ∧ (¬ (2 < (zm_rm p0 10))))))) then (1 : Int32) else 0)
def f_N_isReading_ok (p0 : Int32) (h : zm_H) : Prop := True
def f_Swell_tellReading (p1 : Int32) (p2 : Int32) (p3 : Int32) (h : zm_H) : Int32 × zm_H := (if ((zf h 1 0) < 400) then (((zf h 1 0) + 1), (zp (zs (zs (zs (zs h 4 (zf h 1 0) p3) 5 (zf h 1 0) p1) 3 (zf h 1 0) (zr h 2 p2)) 2 p2 (zf h 1 0)) 1 0 ((zf h 1 0) + 1))) else ((-1), h))
def f_Swell_tellReading_ok (p1 : Int32) (p2 : Int32) (p3 : Int32) (h : zm_H) : Prop := ((((zf h 1 0) < 400) → (vp_in (zf h 1 0) 400 ∧ (vp_in (zf h 1 0) 400 ∧ (vp_in p2 480 ∧ (vp_in (zf h 1 0) 400 ∧ vp_in p2 480))))) ∧ (¬ ((zf h 1 0) < 400) → True))
theorem f_Swell_tellReading_w (p1 : Int32) (p2 : Int32) (p3 : Int32) (h : zm_H) : zWr [2, 3, 4, 5] [(1, 0)] h ((f_Swell_tellReading p1 p2 p3 h).2) := by
  unfold f_Swell_tellReading
  exact (zWr_ite (fun z : Int32 × zm_H => z.2) (zWr_p (by decide) (zWr_si (by decide) (zWr_si (by decide) (zWr_si (by decide) (zWr_si (by decide) (zWr.refl _ _)))))) (zWr.refl _ _))
def f_N_reading (p1 : Int32) (p2 : Int32) (h : zm_H) : Int32 × zm_H := (if (¬ (p1 < 0) ∧ (¬ (480 ≤ p1))) then (if (¬ (p2 < 0) ∧ (¬ (120 < (p2 / 1000)) ∧ (¬ (((zm_rm p2 1000) / 10) < 2) ∧ (¬ (20 < ((zm_rm p2 1000) / 10)) ∧ (¬ (2 < (zm_rm p2 10))))))) then (if ((zf h 0 0) < 480) then (f_Swell_tellReading (zf h 0 0) p1 p2 h) else ((-1), h)) else ((-1), h)) else ((-1), h))
def f_N_reading_ok (p1 : Int32) (p2 : Int32) (h : zm_H) : Prop := (((¬ (p1 < 0) ∧ (¬ (480 ≤ p1))) → (((¬ (p2 < 0) ∧ (¬ (120 < (p2 / 1000)) ∧ (¬ (((zm_rm p2 1000) / 10) < 2) ∧ (¬ (20 < ((zm_rm p2 1000) / 10)) ∧ (¬ (2 < (zm_rm p2 10))))))) → ((((zf h 0 0) < 480) → f_Swell_tellReading_ok (zf h 0 0) p1 p2 h) ∧ (¬ ((zf h 0 0) < 480) → True))) ∧ (¬ (¬ (p2 < 0) ∧ (¬ (120 < (p2 / 1000)) ∧ (¬ (((zm_rm p2 1000) / 10) < 2) ∧ (¬ (20 < ((zm_rm p2 1000) / 10)) ∧ (¬ (2 < (zm_rm p2 10))))))) → True))) ∧ (¬ (¬ (p1 < 0) ∧ (¬ (480 ≤ p1))) → True))
theorem f_N_reading_w (p1 : Int32) (p2 : Int32) (h : zm_H) : zWr [2, 3, 4, 5] [(1, 0)] h ((f_N_reading p1 p2 h).2) := by
  unfold f_N_reading
  exact (zWr_ite (fun z : Int32 × zm_H => z.2) (zWr_ite (fun z : Int32 × zm_H => z.2) (zWr_ite (fun z : Int32 × zm_H => z.2) (zWr_tr (f_Swell_tellReading_w (zf h 0 0) p1 p2 h) (by decide) (by decide) (zWr.refl _ _)) (zWr.refl _ _)) (zWr.refl _ _)) (zWr.refl _ _))
def f_M_in (p0 : Int32) (p1 : Int32) (p2 : Int32) (h : zm_H) : Int32 := (if (¬ (p0 < p1) ∧ (¬ (p2 < p0))) then (1 : Int32) else 0)
def f_M_in_ok (p0 : Int32) (p1 : Int32) (p2 : Int32) (h : zm_H) : Prop := True
def f_M_isSpell (p0 : Int32) (h : zm_H) : Int32 := (if (¬ (p0 < 0) ∧ (¬ (479 < p0))) then (1 : Int32) else 0)
def f_M_isSpell_ok (p0 : Int32) (h : zm_H) : Prop := True
def f_M_reading (p1 : Int32) (p2 : Int32) (h : zm_H) : Int32 × zm_H := (if (¬ (p1 < 0) ∧ (¬ (479 < p1))) then (if (p2 < 0) then ((-1), h) else (if (120 < (p2 / 1000)) then ((-1), h) else (if (¬ ((zm_rm (p2 / 10) 100) < 2) ∧ (¬ (20 < (zm_rm (p2 / 10) 100)))) then (if (2 < (zm_rm p2 10)) then ((-1), h) else (if ((zf h 92 24) = 400) then ((-1), h) else (if ((zf h 92 23) = 480) then ((-1), h) else (((zf h 92 24) + 1), (zp (zs (zs (zs h 105 (zf h 92 24) p1) 106 (zf h 92 24) p2) 107 (zf h 92 24) (zf h 92 23)) 92 24 ((zf h 92 24) + 1)))))) else ((-1), h)))) else ((-1), h))
def f_M_reading_ok (p1 : Int32) (p2 : Int32) (h : zm_H) : Prop := (((¬ (p1 < 0) ∧ (¬ (479 < p1))) → (((p2 < 0) → True) ∧ (¬ (p2 < 0) → (((120 < (p2 / 1000)) → True) ∧ (¬ (120 < (p2 / 1000)) → (((¬ ((zm_rm (p2 / 10) 100) < 2) ∧ (¬ (20 < (zm_rm (p2 / 10) 100)))) → (((2 < (zm_rm p2 10)) → True) ∧ (¬ (2 < (zm_rm p2 10)) → ((((zf h 92 24) = 400) → True) ∧ (¬ ((zf h 92 24) = 400) → ((((zf h 92 23) = 480) → True) ∧ (¬ ((zf h 92 23) = 480) → (vp_in (zf h 92 24) 400 ∧ (vp_in (zf h 92 24) 400 ∧ vp_in (zf h 92 24) 400))))))))) ∧ (¬ (¬ ((zm_rm (p2 / 10) 100) < 2) ∧ (¬ (20 < (zm_rm (p2 / 10) 100)))) → True))))))) ∧ (¬ (¬ (p1 < 0) ∧ (¬ (479 < p1))) → True))
theorem f_M_reading_w (p1 : Int32) (p2 : Int32) (h : zm_H) : zWr [105, 106, 107] [(92, 24)] h ((f_M_reading p1 p2 h).2) := by
  unfold f_M_reading
  exact (zWr_ite (fun z : Int32 × zm_H => z.2) (zWr_ite (fun z : Int32 × zm_H => z.2) (zWr.refl _ _) (zWr_ite (fun z : Int32 × zm_H => z.2) (zWr.refl _ _) (zWr_ite (fun z : Int32 × zm_H => z.2) (zWr_ite (fun z : Int32 × zm_H => z.2) (zWr.refl _ _) (zWr_ite (fun z : Int32 × zm_H => z.2) (zWr.refl _ _) (zWr_ite (fun z : Int32 × zm_H => z.2) (zWr.refl _ _) (zWr_p (by decide) (zWr_si (by decide) (zWr_si (by decide) (zWr_si (by decide) (zWr.refl _ _)))))))) (zWr.refl _ _)))) (zWr.refl _ _))
def f_N_isRange (p0 : Int32) (p1 : Int32) (p2 : Int32) (h : zm_H) : Int32 := (if (¬ (p0 < 0) ∧ (¬ (p1 < p0) ∧ (¬ (p2 ≤ p1)))) then (1 : Int32) else 0)
def f_N_isRange_ok (p0 : Int32) (p1 : Int32) (p2 : Int32) (h : zm_H) : Prop := True
def f_Swell_tellDrift (p1 : Int32) (p2 : Int32) (p3 : Int32) (p4 : Int32) (h : zm_H) : Int32 × zm_H := (if ((zf h 1 1) < 30) then (((zf h 1 1) + 1), (zp (zs (zs (zs (zs h 6 (zf h 1 1) p2) 7 (zf h 1 1) p3) 8 (zf h 1 1) p4) 9 (zf h 1 1) p1) 1 1 ((zf h 1 1) + 1))) else ((-1), h))
def f_Swell_tellDrift_ok (p1 : Int32) (p2 : Int32) (p3 : Int32) (p4 : Int32) (h : zm_H) : Prop := ((((zf h 1 1) < 30) → (vp_in (zf h 1 1) 30 ∧ (vp_in (zf h 1 1) 30 ∧ (vp_in (zf h 1 1) 30 ∧ vp_in (zf h 1 1) 30)))) ∧ (¬ ((zf h 1 1) < 30) → True))
theorem f_Swell_tellDrift_w (p1 : Int32) (p2 : Int32) (p3 : Int32) (p4 : Int32) (h : zm_H) : zWr [6, 7, 8, 9] [(1, 1)] h ((f_Swell_tellDrift p1 p2 p3 p4 h).2) := by
  unfold f_Swell_tellDrift
  exact (zWr_ite (fun z : Int32 × zm_H => z.2) (zWr_p (by decide) (zWr_si (by decide) (zWr_si (by decide) (zWr_si (by decide) (zWr_si (by decide) (zWr.refl _ _)))))) (zWr.refl _ _))
def f_N_drift (p1 : Int32) (p2 : Int32) (p3 : Int32) (h : zm_H) : Int32 × zm_H := (if (¬ (p1 < 0) ∧ (¬ (p2 < p1) ∧ (¬ (480 ≤ p2)))) then (if (p3 < (-30)) then ((-1), h) else (if (30 < p3) then ((-1), h) else (if ((zf h 0 0) < 480) then (f_Swell_tellDrift (zf h 0 0) p1 p2 p3 h) else ((-1), h)))) else ((-1), h))
def f_N_drift_ok (p1 : Int32) (p2 : Int32) (p3 : Int32) (h : zm_H) : Prop := (((¬ (p1 < 0) ∧ (¬ (p2 < p1) ∧ (¬ (480 ≤ p2)))) → (((p3 < (-30)) → True) ∧ (¬ (p3 < (-30)) → (((30 < p3) → True) ∧ (¬ (30 < p3) → ((((zf h 0 0) < 480) → f_Swell_tellDrift_ok (zf h 0 0) p1 p2 p3 h) ∧ (¬ ((zf h 0 0) < 480) → True))))))) ∧ (¬ (¬ (p1 < 0) ∧ (¬ (p2 < p1) ∧ (¬ (480 ≤ p2)))) → True))
theorem f_N_drift_w (p1 : Int32) (p2 : Int32) (p3 : Int32) (h : zm_H) : zWr [6, 7, 8, 9] [(1, 1)] h ((f_N_drift p1 p2 p3 h).2) := by
  unfold f_N_drift
  exact (zWr_ite (fun z : Int32 × zm_H => z.2) (zWr_ite (fun z : Int32 × zm_H => z.2) (zWr.refl _ _) (zWr_ite (fun z : Int32 × zm_H => z.2) (zWr.refl _ _) (zWr_ite (fun z : Int32 × zm_H => z.2) (zWr_tr (f_Swell_tellDrift_w (zf h 0 0) p1 p2 p3 h) (by decide) (by decide) (zWr.refl _ _)) (zWr.refl _ _)))) (zWr.refl _ _))
def f_M_drift (p1 : Int32) (p2 : Int32) (p3 : Int32) (h : zm_H) : Int32 × zm_H := (if (¬ (p1 < 0) ∧ (¬ (479 < p1))) then (if (¬ (p2 < p1) ∧ (¬ (479 < p2))) then (if (¬ (p3 < (-30)) ∧ (¬ (30 < p3))) then (if ((zf h 92 28) = 30) then ((-1), h) else (if ((zf h 92 23) = 480) then ((-1), h) else (((zf h 92 28) + 1), (zp (zs (zs (zs (zs h 108 (zf h 92 28) p1) 109 (zf h 92 28) p2) 110 (zf h 92 28) p3) 111 (zf h 92 28) (zf h 92 23)) 92 28 ((zf h 92 28) + 1))))) else ((-1), h)) else ((-1), h)) else ((-1), h))
def f_M_drift_ok (p1 : Int32) (p2 : Int32) (p3 : Int32) (h : zm_H) : Prop := (((¬ (p1 < 0) ∧ (¬ (479 < p1))) → (((¬ (p2 < p1) ∧ (¬ (479 < p2))) → (((¬ (p3 < (-30)) ∧ (¬ (30 < p3))) → ((((zf h 92 28) = 30) → True) ∧ (¬ ((zf h 92 28) = 30) → ((((zf h 92 23) = 480) → True) ∧ (¬ ((zf h 92 23) = 480) → (vp_in (zf h 92 28) 30 ∧ (vp_in (zf h 92 28) 30 ∧ (vp_in (zf h 92 28) 30 ∧ vp_in (zf h 92 28) 30)))))))) ∧ (¬ (¬ (p3 < (-30)) ∧ (¬ (30 < p3))) → True))) ∧ (¬ (¬ (p2 < p1) ∧ (¬ (479 < p2))) → True))) ∧ (¬ (¬ (p1 < 0) ∧ (¬ (479 < p1))) → True))
theorem f_M_drift_w (p1 : Int32) (p2 : Int32) (p3 : Int32) (h : zm_H) : zWr [108, 109, 110, 111] [(92, 28)] h ((f_M_drift p1 p2 p3 h).2) := by
  unfold f_M_drift
  exact (zWr_ite (fun z : Int32 × zm_H => z.2) (zWr_ite (fun z : Int32 × zm_H => z.2) (zWr_ite (fun z : Int32 × zm_H => z.2) (zWr_ite (fun z : Int32 × zm_H => z.2) (zWr.refl _ _) (zWr_ite (fun z : Int32 × zm_H => z.2) (zWr.refl _ _) (zWr_p (by decide) (zWr_si (by decide) (zWr_si (by decide) (zWr_si (by decide) (zWr_si (by decide) (zWr.refl _ _)))))))) (zWr.refl _ _)) (zWr.refl _ _)) (zWr.refl _ _))
def f_Swell_firstTold_5_l2_b (v2 : Int32) (v3 : Int32) (h : zm_H) : Nat × Int32 := (if (v3 ≤ 0) then (1, v3) else (if ((zr h 5 (v3 - 1)) ≤ v2) then (1, v3) else (0, (v3 + (-1)))))
def f_Swell_firstTold_5_l2_b_ok (v2 : Int32) (v3 : Int32) (h : zm_H) : Prop := (((v3 ≤ 0) → True) ∧ (¬ (v3 ≤ 0) → vp_in (v3 - 1) 400))
def f_Swell_firstTold_5_l2 (v2 : Int32) (h : zm_H) (n : Nat) (t : Int32) : Nat × Int32 := zwh (fun t => f_Swell_firstTold_5_l2_b v2 t h) n t
def f_Swell_firstTold_5_l2_ok (v2 : Int32) (h : zm_H) (n : Nat) (t : Int32) : Prop := zwo (fun t => f_Swell_firstTold_5_l2_b v2 t h) (fun t => f_Swell_firstTold_5_l2_b_ok v2 t h) n t
def f_Swell_firstTold_5_k21 (v3 : Int32) (h : zm_H) : Int32 := v3
def f_Swell_firstTold_5_k21_ok (v3 : Int32) (h : zm_H) : Prop := True
def f_Swell_firstTold_5_a2 (r : Nat × Int32) (h : zm_H) : Int32 := (f_Swell_firstTold_5_k21 (r.2) h)
def f_Swell_firstTold_5_a2_ok (r : Nat × Int32) (h : zm_H) : Prop := True
def f_Swell_firstTold_5 (p1 : Int32) (p2 : Int32) (h : zm_H) : Int32 := (f_Swell_firstTold_5_a2 (f_Swell_firstTold_5_l2 p2 h zF p1) h)
def f_Swell_firstTold_5_ok (p1 : Int32) (p2 : Int32) (h : zm_H) : Prop := (f_Swell_firstTold_5_l2_ok p2 h zF p1 ∧ f_Swell_firstTold_5_a2_ok (f_Swell_firstTold_5_l2 p2 h zF p1) h)
def f_Swell_readingsUpTo (p1 : Int32) (h : zm_H) : Int32 := (f_Swell_firstTold_5 (zf h 1 0) p1 h)
def f_Swell_readingsUpTo_ok (p1 : Int32) (h : zm_H) : Prop := f_Swell_firstTold_5_ok (zf h 1 0) p1 h
def f_Swell_firstTold_9_l2_b (v2 : Int32) (v3 : Int32) (h : zm_H) : Nat × Int32 := (if (v3 ≤ 0) then (1, v3) else (if ((zr h 9 (v3 - 1)) ≤ v2) then (1, v3) else (0, (v3 + (-1)))))
def f_Swell_firstTold_9_l2_b_ok (v2 : Int32) (v3 : Int32) (h : zm_H) : Prop := (((v3 ≤ 0) → True) ∧ (¬ (v3 ≤ 0) → vp_in (v3 - 1) 30))
def f_Swell_firstTold_9_l2 (v2 : Int32) (h : zm_H) (n : Nat) (t : Int32) : Nat × Int32 := zwh (fun t => f_Swell_firstTold_9_l2_b v2 t h) n t
def f_Swell_firstTold_9_l2_ok (v2 : Int32) (h : zm_H) (n : Nat) (t : Int32) : Prop := zwo (fun t => f_Swell_firstTold_9_l2_b v2 t h) (fun t => f_Swell_firstTold_9_l2_b_ok v2 t h) n t
def f_Swell_firstTold_9_k21 (v3 : Int32) (h : zm_H) : Int32 := v3
def f_Swell_firstTold_9_k21_ok (v3 : Int32) (h : zm_H) : Prop := True
def f_Swell_firstTold_9_a2 (r : Nat × Int32) (h : zm_H) : Int32 := (f_Swell_firstTold_9_k21 (r.2) h)
def f_Swell_firstTold_9_a2_ok (r : Nat × Int32) (h : zm_H) : Prop := True
def f_Swell_firstTold_9 (p1 : Int32) (p2 : Int32) (h : zm_H) : Int32 := (f_Swell_firstTold_9_a2 (f_Swell_firstTold_9_l2 p2 h zF p1) h)
def f_Swell_firstTold_9_ok (p1 : Int32) (p2 : Int32) (h : zm_H) : Prop := (f_Swell_firstTold_9_l2_ok p2 h zF p1 ∧ f_Swell_firstTold_9_a2_ok (f_Swell_firstTold_9_l2 p2 h zF p1) h)
def f_Swell_driftsUpTo (p1 : Int32) (h : zm_H) : Int32 := (f_Swell_firstTold_9 (zf h 1 1) p1 h)
def f_Swell_driftsUpTo_ok (p1 : Int32) (h : zm_H) : Prop := f_Swell_firstTold_9_ok (zf h 1 1) p1 h
def f_Swell_readingFor_l12_b (v2 : Int32) (v3 : Int32) (v4 : Int32) (h : zm_H) : Nat × Int32 × Int32 := (if (v4 ≤ 0) then (1, v3, v4) else (if (v3 < v2) then (1, v3, v4) else (0, (zr h 3 v3), (v4 + (-1)))))
def f_Swell_readingFor_l12_b_ok (v2 : Int32) (v3 : Int32) (v4 : Int32) (h : zm_H) : Prop := (((v4 ≤ 0) → True) ∧ (¬ (v4 ≤ 0) → (((v3 < v2) → True) ∧ (¬ (v3 < v2) → vp_in v3 400))))
def f_Swell_readingFor_l12 (v2 : Int32) (h : zm_H) (n : Nat) (t : Int32 × Int32) : Nat × Int32 × Int32 := zwh (fun t => f_Swell_readingFor_l12_b v2 t.1 t.2 h) n t
def f_Swell_readingFor_l12_ok (v2 : Int32) (h : zm_H) (n : Nat) (t : Int32 × Int32) : Prop := zwo (fun t => f_Swell_readingFor_l12_b v2 t.1 t.2 h) (fun t => f_Swell_readingFor_l12_b_ok v2 t.1 t.2 h) n t
def f_Swell_readingFor_k35 (v3 : Int32) (h : zm_H) : Int32 := v3
def f_Swell_readingFor_k35_ok (v3 : Int32) (h : zm_H) : Prop := True
def f_Swell_readingFor_a12 (r : Nat × Int32 × Int32) (h : zm_H) : Int32 := (f_Swell_readingFor_k35 (r.2.1) h)
def f_Swell_readingFor_a12_ok (r : Nat × Int32 × Int32) (h : zm_H) : Prop := True
def f_Swell_readingFor (p1 : Int32) (p2 : Int32) (h : zm_H) : Int32 := (f_Swell_readingFor_a12 (f_Swell_readingFor_l12 p2 h zF ((zr h 2 p1), 400)) h)
def f_Swell_readingFor_ok (p1 : Int32) (p2 : Int32) (h : zm_H) : Prop := (vp_in p1 480 ∧ (f_Swell_readingFor_l12_ok p2 h zF ((zr h 2 p1), 400) ∧ f_Swell_readingFor_a12_ok (f_Swell_readingFor_l12 p2 h zF ((zr h 2 p1), 400)) h))
def f_Swell_look_l3_b (v1 : Int32) (v2 : Int32) (v3 : Int32) (v4 : Int32) (v5 : Int32) (h : zm_H) : Nat × Int32 × Int32 := (if (8 < v4) then (2, v4, 0) else (if (v1 < v4) then (2, v4, 0) else (if ((f_Swell_readingFor (v1 - v4) v2 h) < 0) then (0, (v4 + 1), (f_Swell_readingFor (v1 - v4) v2 h)) else (1, v4, (f_Swell_readingFor (v1 - v4) v2 h)))))
def f_Swell_look_l3_b_ok (v1 : Int32) (v2 : Int32) (v3 : Int32) (v4 : Int32) (v5 : Int32) (h : zm_H) : Prop := (((8 < v4) → True) ∧ (¬ (8 < v4) → (((v1 < v4) → True) ∧ (¬ (v1 < v4) → f_Swell_readingFor_ok (v1 - v4) v2 h))))
def f_Swell_look_l3 (v1 : Int32) (v2 : Int32) (v3 : Int32) (h : zm_H) (n : Nat) (t : Int32 × Int32) : Nat × Int32 × Int32 := zwh (fun t => f_Swell_look_l3_b v1 v2 v3 t.1 t.2 h) n t
def f_Swell_look_l3_ok (v1 : Int32) (v2 : Int32) (v3 : Int32) (h : zm_H) (n : Nat) (t : Int32 × Int32) : Prop := zwo (fun t => f_Swell_look_l3_b v1 v2 v3 t.1 t.2 h) (fun t => f_Swell_look_l3_b_ok v1 v2 v3 t.1 t.2 h) n t
def f_N_heightOf (p0 : Int32) (h : zm_H) : Int32 := (p0 / 1000)
def f_N_heightOf_ok (p0 : Int32) (h : zm_H) : Prop := True
def f_Swell_drifted_l9_b (v1 : Int32) (v2 : Int32) (v3 : Int32) (v4 : Int32) (v5 : Int32) (h : zm_H) : Nat × Int32 × Int32 := (if (v3 ≤ v5) then (1, v4, v5) else (0, (if (v2 < (zr h 6 v5)) then (v4 : Int32) else (if ((zr h 7 v5) < v2) then (v4 : Int32) else (v4 + (zr h 8 v5)))), (v5 + 1)))
def f_Swell_drifted_l9_b_ok (v1 : Int32) (v2 : Int32) (v3 : Int32) (v4 : Int32) (v5 : Int32) (h : zm_H) : Prop := (((v3 ≤ v5) → True) ∧ (¬ (v3 ≤ v5) → (vp_in v5 30 ∧ (((v2 < (zr h 6 v5)) → True) ∧ (¬ (v2 < (zr h 6 v5)) → (vp_in v5 30 ∧ ((((zr h 7 v5) < v2) → True) ∧ (¬ ((zr h 7 v5) < v2) → vp_in v5 30))))))))
def f_Swell_drifted_l9 (v1 : Int32) (v2 : Int32) (v3 : Int32) (h : zm_H) (n : Nat) (t : Int32 × Int32) : Nat × Int32 × Int32 := zwh (fun t => f_Swell_drifted_l9_b v1 v2 v3 t.1 t.2 h) n t
def f_Swell_drifted_l9_ok (v1 : Int32) (v2 : Int32) (v3 : Int32) (h : zm_H) (n : Nat) (t : Int32 × Int32) : Prop := zwo (fun t => f_Swell_drifted_l9_b v1 v2 v3 t.1 t.2 h) (fun t => f_Swell_drifted_l9_b_ok v1 v2 v3 t.1 t.2 h) n t
def f_N_within (p0 : Int32) (p1 : Int32) (p2 : Int32) (h : zm_H) : Int32 := (if p0 < (if p2 < p1 then p2 else p1) then (if p2 < p1 then p2 else p1) else p0)
def f_N_within_ok (p0 : Int32) (p1 : Int32) (p2 : Int32) (h : zm_H) : Prop := True
def f_Swell_drifted_k55 (v1 : Int32) (v4 : Int32) (h : zm_H) : Int32 := (((if 0 < (if 120 < v4 then 120 else v4) then (if 120 < v4 then 120 else v4) else 0) * 1000) + (zm_rm v1 1000))
def f_Swell_drifted_k55_ok (v1 : Int32) (v4 : Int32) (h : zm_H) : Prop := True
def f_Swell_drifted_a9 (v1 : Int32) (r : Nat × Int32 × Int32) (h : zm_H) : Int32 := (f_Swell_drifted_k55 v1 (r.2.1) h)
def f_Swell_drifted_a9_ok (v1 : Int32) (r : Nat × Int32 × Int32) (h : zm_H) : Prop := True
def f_Swell_drifted (p1 : Int32) (p2 : Int32) (p3 : Int32) (h : zm_H) : Int32 := (f_Swell_drifted_a9 p1 (f_Swell_drifted_l9 p1 p2 p3 h zF ((p1 / 1000), 0)) h)
def f_Swell_drifted_ok (p1 : Int32) (p2 : Int32) (p3 : Int32) (h : zm_H) : Prop := (f_Swell_drifted_l9_ok p1 p2 p3 h zF ((p1 / 1000), 0) ∧ f_Swell_drifted_a9_ok p1 (f_Swell_drifted_l9 p1 p2 p3 h zF ((p1 / 1000), 0)) h)
def f_Swell_look_k32 (v1 : Int32) (v3 : Int32) (v4 : Int32) (v5 : Int32) (h : zm_H) : Int32 := (f_Swell_drifted (zr h 4 v5) (v1 - v4) v3 h)
def f_Swell_look_k32_ok (v1 : Int32) (v3 : Int32) (v4 : Int32) (v5 : Int32) (h : zm_H) : Prop := (vp_in v5 400 ∧ f_Swell_drifted_ok (zr h 4 v5) (v1 - v4) v3 h)
def f_Swell_look_k55 (h : zm_H) : Int32 := 81
def f_Swell_look_k55_ok (h : zm_H) : Prop := True
def f_Swell_look_a3 (v1 : Int32) (v3 : Int32) (r : Nat × Int32 × Int32) (h : zm_H) : Int32 := (if r.1 = 1 then (f_Swell_look_k32 v1 v3 (r.2.1) (r.2.2) h) else (f_Swell_look_k55 h))
def f_Swell_look_a3_ok (v1 : Int32) (v3 : Int32) (r : Nat × Int32 × Int32) (h : zm_H) : Prop := ((r.1 = 1 → (f_Swell_look_k32_ok v1 v3 (r.2.1) (r.2.2) h)) ∧ (¬ r.1 = 1 → True))
def f_Swell_look (p1 : Int32) (p2 : Int32) (p3 : Int32) (h : zm_H) : Int32 := (f_Swell_look_a3 p1 p3 (f_Swell_look_l3 p1 p2 p3 h zF (0, 0)) h)
def f_Swell_look_ok (p1 : Int32) (p2 : Int32) (p3 : Int32) (h : zm_H) : Prop := (f_Swell_look_l3_ok p1 p2 p3 h zF (0, 0) ∧ f_Swell_look_a3_ok p1 p3 (f_Swell_look_l3 p1 p2 p3 h zF (0, 0)) h)
def f_N_periodOf (p0 : Int32) (h : zm_H) : Int32 := ((zm_rm p0 1000) / 10)
def f_N_periodOf_ok (p0 : Int32) (h : zm_H) : Prop := True
def f_N_wayOf (p0 : Int32) (h : zm_H) : Int32 := ((zm_rm p0 10) - 1)
def f_N_wayOf_ok (p0 : Int32) (h : zm_H) : Prop := True
def f_N_known (p1 : Int32) (p2 : Int32) (p3 : Int32) (h : zm_H) : Int32 := (if (¬ (p1 < 0) ∧ (¬ (480 ≤ p1))) then (if (¬ (p2 < 0) ∧ (¬ (480 ≤ p2))) then (if p3 = 0 then ((f_Swell_look p1 (f_Swell_readingsUpTo p2 h) (f_Swell_driftsUpTo p2 h) h) / 1000) else (if p3 = 1 then ((zm_rm (f_Swell_look p1 (f_Swell_readingsUpTo p2 h) (f_Swell_driftsUpTo p2 h) h) 1000) / 10) else (if p3 = 2 then ((zm_rm (f_Swell_look p1 (f_Swell_readingsUpTo p2 h) (f_Swell_driftsUpTo p2 h) h) 10) - 1) else (-2147483648)))) else (-2147483648)) else (-2147483648))
def f_N_known_ok (p1 : Int32) (p2 : Int32) (p3 : Int32) (h : zm_H) : Prop := (((¬ (p1 < 0) ∧ (¬ (480 ≤ p1))) → (((¬ (p2 < 0) ∧ (¬ (480 ≤ p2))) → (f_Swell_readingsUpTo_ok p2 h ∧ (f_Swell_driftsUpTo_ok p2 h ∧ f_Swell_look_ok p1 (f_Swell_readingsUpTo p2 h) (f_Swell_driftsUpTo p2 h) h))) ∧ (¬ (¬ (p2 < 0) ∧ (¬ (480 ≤ p2))) → True))) ∧ (¬ (¬ (p1 < 0) ∧ (¬ (480 ≤ p1))) → True))
def f_M_looks_l18_l38_k65 (v1 : Int32) (v2 : Int32) (v3 : Int32) (v4 : Int32) (h : zm_H) : Nat × Int32 := (0, (v4 + (-1)))
def f_M_looks_l18_l38_k65_ok (v1 : Int32) (v2 : Int32) (v3 : Int32) (v4 : Int32) (h : zm_H) : Prop := True
def f_M_looks_l18_l38_b (v1 : Int32) (v2 : Int32) (v3 : Int32) (v4 : Int32) (h : zm_H) : Nat × Int32 := (if (v4 < 0) then (1, v4) else (if ((zr h 105 v4) = v3) then (if ((zr h 107 v4) ≤ v2) then (1, v4) else (f_M_looks_l18_l38_k65 v1 v2 v3 v4 h)) else (f_M_looks_l18_l38_k65 v1 v2 v3 v4 h)))
def f_M_looks_l18_l38_b_ok (v1 : Int32) (v2 : Int32) (v3 : Int32) (v4 : Int32) (h : zm_H) : Prop := (((v4 < 0) → True) ∧ (¬ (v4 < 0) → (vp_in v4 400 ∧ ((((zr h 105 v4) = v3) → vp_in v4 400) ∧ (¬ ((zr h 105 v4) = v3) → True)))))
def f_M_looks_l18_l38 (v1 : Int32) (v2 : Int32) (v3 : Int32) (h : zm_H) (n : Nat) (t : Int32) : Nat × Int32 := zwh (fun t => f_M_looks_l18_l38_b v1 v2 v3 t h) n t
def f_M_looks_l18_l38_ok (v1 : Int32) (v2 : Int32) (v3 : Int32) (h : zm_H) (n : Nat) (t : Int32) : Prop := zwo (fun t => f_M_looks_l18_l38_b v1 v2 v3 t h) (fun t => f_M_looks_l18_l38_b_ok v1 v2 v3 t h) n t
def f_M_looks_l18_k71 (v1 : Int32) (v2 : Int32) (v3 : Int32) (v4 : Int32) (h : zm_H) : Nat × Int32 × Int32 := (if (0 ≤ v4) then (1, v3, v4) else (0, (v3 + (-1)), v4))
def f_M_looks_l18_k71_ok (v1 : Int32) (v2 : Int32) (v3 : Int32) (v4 : Int32) (h : zm_H) : Prop := True
def f_M_looks_l18_a38 (v1 : Int32) (v2 : Int32) (v3 : Int32) (r : Nat × Int32) (h : zm_H) : Nat × Int32 × Int32 := (f_M_looks_l18_k71 v1 v2 v3 (r.2) h)
def f_M_looks_l18_a38_ok (v1 : Int32) (v2 : Int32) (v3 : Int32) (r : Nat × Int32) (h : zm_H) : Prop := True
def f_M_looks_l18_b (v1 : Int32) (v2 : Int32) (v3 : Int32) (v4 : Int32) (h : zm_H) : Nat × Int32 × Int32 := (if (v3 < 0) then (2, v3, 0) else (if (v3 < (v1 - 8)) then (2, v3, 0) else (f_M_looks_l18_a38 v1 v2 v3 (f_M_looks_l18_l38 v1 v2 v3 h zF ((zf h 92 24) - 1)) h)))
def f_M_looks_l18_b_ok (v1 : Int32) (v2 : Int32) (v3 : Int32) (v4 : Int32) (h : zm_H) : Prop := (((v3 < 0) → True) ∧ (¬ (v3 < 0) → (((v3 < (v1 - 8)) → True) ∧ (¬ (v3 < (v1 - 8)) → (f_M_looks_l18_l38_ok v1 v2 v3 h zF ((zf h 92 24) - 1) ∧ f_M_looks_l18_a38_ok v1 v2 v3 (f_M_looks_l18_l38 v1 v2 v3 h zF ((zf h 92 24) - 1)) h)))))
def f_M_looks_l18 (v1 : Int32) (v2 : Int32) (h : zm_H) (n : Nat) (t : Int32 × Int32) : Nat × Int32 × Int32 := zwh (fun t => f_M_looks_l18_b v1 v2 t.1 t.2 h) n t
def f_M_looks_l18_ok (v1 : Int32) (v2 : Int32) (h : zm_H) (n : Nat) (t : Int32 × Int32) : Prop := zwo (fun t => f_M_looks_l18_b v1 v2 t.1 t.2 h) (fun t => f_M_looks_l18_b_ok v1 v2 t.1 t.2 h) n t
def f_M_looks_l97_b (v2 : Int32) (v3 : Int32) (v4 : Int32) (v5 : Int32) (h : zm_H) : Nat × Int32 × zm_H := (if ((zf h 92 28) ≤ v5) then (1, v5, h) else (0, (v5 + 1), (zp h 92 79 ((zf h 92 79) + (if (v2 < (zr h 111 v5)) then (0 : Int32) else (if (¬ (v3 < (zr h 108 v5)) ∧ (¬ ((zr h 109 v5) < v3))) then ((zr h 110 v5) : Int32) else 0))))))
def f_M_looks_l97_b_ok (v2 : Int32) (v3 : Int32) (v4 : Int32) (v5 : Int32) (h : zm_H) : Prop := ((((zf h 92 28) ≤ v5) → True) ∧ (¬ ((zf h 92 28) ≤ v5) → (vp_in v5 30 ∧ (((v2 < (zr h 111 v5)) → True) ∧ (¬ (v2 < (zr h 111 v5)) → (vp_in v5 30 ∧ (vp_in v5 30 ∧ (((¬ (v3 < (zr h 108 v5)) ∧ (¬ ((zr h 109 v5) < v3))) → vp_in v5 30) ∧ (¬ (¬ (v3 < (zr h 108 v5)) ∧ (¬ ((zr h 109 v5) < v3))) → True)))))))))
theorem f_M_looks_l97_b_w (v2 : Int32) (v3 : Int32) (v4 : Int32) (v5 : Int32) (h : zm_H) : zWr [] [(92, 79)] h ((f_M_looks_l97_b v2 v3 v4 v5 h).2.2) := by
  unfold f_M_looks_l97_b
  exact (zWr_ite (fun z : Nat × Int32 × zm_H => z.2.2) (zWr.refl _ _) (zWr_p (by decide) (zWr.refl _ _)))
def f_M_looks_l97 (v2 : Int32) (v3 : Int32) (v4 : Int32) (n : Nat) (t : Int32 × zm_H) : Nat × Int32 × zm_H := zwh (fun t => f_M_looks_l97_b v2 v3 v4 t.1 t.2) n t
def f_M_looks_l97_ok (v2 : Int32) (v3 : Int32) (v4 : Int32) (n : Nat) (t : Int32 × zm_H) : Prop := zwo (fun t => f_M_looks_l97_b v2 v3 v4 t.1 t.2) (fun t => f_M_looks_l97_b_ok v2 v3 v4 t.1 t.2) n t
theorem f_M_looks_l97_w (v2 : Int32) (v3 : Int32) (v4 : Int32) (n : Nat) (t : Int32 × zm_H) : zWr [] [(92, 79)] (t.2) ((f_M_looks_l97 v2 v3 v4 n t).2.2) := by
  unfold f_M_looks_l97
  exact zWr_zwh (fun t : Int32 × zm_H => t.2) (fun t => f_M_looks_l97_b_w v2 v3 v4 t.1 t.2)
def f_M_looks_k164 (v4 : Int32) (h : zm_H) : zm_H := (zp (zp (zp h 92 79 (if (0 ≤ (zf h 92 79)) then ((if ((zf h 92 79) ≤ 120) then ((zf h 92 79) : Int32) else 120) : Int32) else 0)) 92 80 (zm_rm ((zr h 106 v4) / 10) 100)) 92 81 ((zm_rm (zr h 106 v4) 10) - 1))
def f_M_looks_k164_ok (v4 : Int32) (h : zm_H) : Prop := (vp_in v4 400 ∧ vp_in v4 400)
theorem f_M_looks_k164_w (v4 : Int32) (h : zm_H) : zWr [] [(92, 79), (92, 80), (92, 81)] h ((f_M_looks_k164 v4 h)) := by
  unfold f_M_looks_k164
  exact (zWr_p (by decide) (zWr_p (by decide) (zWr_p (by decide) (zWr.refl _ _))))
def f_M_looks_a97 (v4 : Int32) (r : Nat × Int32 × zm_H) : zm_H := (f_M_looks_k164 v4 (r.2.2))
def f_M_looks_a97_ok (v4 : Int32) (r : Nat × Int32 × zm_H) : Prop := (f_M_looks_k164_ok v4 (r.2.2))
theorem f_M_looks_a97_w (v4 : Int32) (r : Nat × Int32 × zm_H) : zWr [] [(92, 79), (92, 80), (92, 81)] (r.2.2) ((f_M_looks_a97 v4 r)) := by
  unfold f_M_looks_a97
  exact (zWr_tr (f_M_looks_k164_w v4 (r.2.2)) (by decide) (by decide) (zWr.refl _ _))
def f_M_looks_k79 (v2 : Int32) (v3 : Int32) (v4 : Int32) (h : zm_H) : zm_H := (f_M_looks_a97 v4 (f_M_looks_l97 v2 v3 v4 zF (0, (zp h 92 79 ((zr h 106 v4) / 1000)))))
def f_M_looks_k79_ok (v2 : Int32) (v3 : Int32) (v4 : Int32) (h : zm_H) : Prop := (vp_in v4 400 ∧ (f_M_looks_l97_ok v2 v3 v4 zF (0, (zp h 92 79 ((zr h 106 v4) / 1000))) ∧ f_M_looks_a97_ok v4 (f_M_looks_l97 v2 v3 v4 zF (0, (zp h 92 79 ((zr h 106 v4) / 1000))))))
theorem f_M_looks_k79_w (v2 : Int32) (v3 : Int32) (v4 : Int32) (h : zm_H) : zWr [] [(92, 79), (92, 80), (92, 81)] h ((f_M_looks_k79 v2 v3 v4 h)) := by
  unfold f_M_looks_k79
  exact (zWr_tr (f_M_looks_a97_w v4 (f_M_looks_l97 v2 v3 v4 zF (0, (zp h 92 79 ((zr h 106 v4) / 1000))))) (by decide) (by decide) (zWr_tr (f_M_looks_l97_w v2 v3 v4 zF (0, (zp h 92 79 ((zr h 106 v4) / 1000)))) (by decide) (by decide) (zWr_p (by decide) (zWr.refl _ _))))
def f_M_looks_k237 (h : zm_H) : zm_H := h
def f_M_looks_k237_ok (h : zm_H) : Prop := True
theorem f_M_looks_k237_w (h : zm_H) : zWr [] [] h ((f_M_looks_k237 h)) := by
  unfold f_M_looks_k237
  exact (zWr.refl _ _)
def f_M_looks_a18 (v2 : Int32) (r : Nat × Int32 × Int32) (h : zm_H) : zm_H := (if r.1 = 1 then (f_M_looks_k79 v2 (r.2.1) (r.2.2) h) else (f_M_looks_k237 h))
def f_M_looks_a18_ok (v2 : Int32) (r : Nat × Int32 × Int32) (h : zm_H) : Prop := ((r.1 = 1 → (f_M_looks_k79_ok v2 (r.2.1) (r.2.2) h)) ∧ (¬ r.1 = 1 → True))
theorem f_M_looks_a18_w (v2 : Int32) (r : Nat × Int32 × Int32) (h : zm_H) : zWr [] [(92, 79), (92, 80), (92, 81)] h ((f_M_looks_a18 v2 r h)) := by
  unfold f_M_looks_a18
  exact (zWr_ite (fun z : zm_H => z) (zWr_tr (f_M_looks_k79_w v2 (r.2.1) (r.2.2) h) (by decide) (by decide) (zWr.refl _ _)) (zWr_tr (f_M_looks_k237_w h) (by decide) (by decide) (zWr.refl _ _)))
def f_M_looks (p1 : Int32) (p2 : Int32) (h : zm_H) : zm_H := (f_M_looks_a18 p2 (f_M_looks_l18 p1 p2 (zp (zp (zp h 92 79 0) 92 80 8) 92 81 0) zF (p1, 0)) (zp (zp (zp h 92 79 0) 92 80 8) 92 81 0))
def f_M_looks_ok (p1 : Int32) (p2 : Int32) (h : zm_H) : Prop := (f_M_looks_l18_ok p1 p2 (zp (zp (zp h 92 79 0) 92 80 8) 92 81 0) zF (p1, 0) ∧ f_M_looks_a18_ok p2 (f_M_looks_l18 p1 p2 (zp (zp (zp h 92 79 0) 92 80 8) 92 81 0) zF (p1, 0)) (zp (zp (zp h 92 79 0) 92 80 8) 92 81 0))
theorem f_M_looks_w (p1 : Int32) (p2 : Int32) (h : zm_H) : zWr [] [(92, 79), (92, 80), (92, 81)] h ((f_M_looks p1 p2 h)) := by
  unfold f_M_looks
  exact (zWr_tr (f_M_looks_a18_w p2 (f_M_looks_l18 p1 p2 (zp (zp (zp h 92 79 0) 92 80 8) 92 81 0) zF (p1, 0)) (zp (zp (zp h 92 79 0) 92 80 8) 92 81 0)) (by decide) (by decide) (zWr_p (by decide) (zWr_p (by decide) (zWr_p (by decide) (zWr.refl _ _)))))
def f_M_known_k33 (v3 : Int32) (h : zm_H) : Int32 × zm_H := ((if (v3 = 0) then ((zf h 92 79) : Int32) else (if (v3 = 1) then ((zf h 92 80) : Int32) else (zf h 92 81))), h)
def f_M_known_k33_ok (v3 : Int32) (h : zm_H) : Prop := True
theorem f_M_known_k33_w (v3 : Int32) (h : zm_H) : zWr [] [] h ((f_M_known_k33 v3 h).2) := by
  unfold f_M_known_k33
  exact (zWr.refl _ _)
def f_M_known (p1 : Int32) (p2 : Int32) (p3 : Int32) (h : zm_H) : Int32 × zm_H := (if (¬ (p1 < 0) ∧ (¬ (479 < p1))) then (if (¬ (p2 < 0) ∧ (¬ (479 < p2))) then (if (¬ (p3 < 0) ∧ (¬ (2 < p3))) then (f_M_known_k33 p3 (f_M_looks p1 p2 h)) else ((-2147483648), h)) else ((-2147483648), h)) else ((-2147483648), h))
def f_M_known_ok (p1 : Int32) (p2 : Int32) (p3 : Int32) (h : zm_H) : Prop := (((¬ (p1 < 0) ∧ (¬ (479 < p1))) → (((¬ (p2 < 0) ∧ (¬ (479 < p2))) → (((¬ (p3 < 0) ∧ (¬ (2 < p3))) → f_M_looks_ok p1 p2 h) ∧ (¬ (¬ (p3 < 0) ∧ (¬ (2 < p3))) → True))) ∧ (¬ (¬ (p2 < 0) ∧ (¬ (479 < p2))) → True))) ∧ (¬ (¬ (p1 < 0) ∧ (¬ (479 < p1))) → True))
theorem f_M_known_w (p1 : Int32) (p2 : Int32) (p3 : Int32) (h : zm_H) : zWr [] [(92, 79), (92, 80), (92, 81)] h ((f_M_known p1 p2 p3 h).2) := by
  unfold f_M_known
  exact (zWr_ite (fun z : Int32 × zm_H => z.2) (zWr_ite (fun z : Int32 × zm_H => z.2) (zWr_ite (fun z : Int32 × zm_H => z.2) (zWr_tr (f_M_known_k33_w p3 (f_M_looks p1 p2 h)) (by decide) (by decide) (zWr_tr (f_M_looks_w p1 p2 h) (by decide) (by decide) (zWr.refl _ _))) (zWr.refl _ _)) (zWr.refl _ _)) (zWr.refl _ _))
def f_Text_hasRoomFor (p1 : Int32) (h : zm_H) : Int32 := (if (¬ (400 < ((zf h 10 1) + p1))) then (1 : Int32) else 0)
def f_Text_hasRoomFor_ok (p1 : Int32) (h : zm_H) : Prop := True
def f_Text_addNumber_l3_b (v1 : Int32) (v2 : Int32) (h : zm_H) : Nat × Int32 × zm_H := (if (v2 < 0) then (1, v2, h) else (if (400 ≤ (zf h 10 1)) then (1, v2, h) else (0, (v2 + (-8)), (zp (zs h 11 (zf h 10 1) (zm_nb 1 (v1 >>> (v2 &&& 31)).toInt8.toInt32)) 10 1 ((zf h 10 1) + 1)))))
def f_Text_addNumber_l3_b_ok (v1 : Int32) (v2 : Int32) (h : zm_H) : Prop := (((v2 < 0) → True) ∧ (¬ (v2 < 0) → (((400 ≤ (zf h 10 1)) → True) ∧ (¬ (400 ≤ (zf h 10 1)) → vp_in (zf h 10 1) 400))))
theorem f_Text_addNumber_l3_b_w (v1 : Int32) (v2 : Int32) (h : zm_H) : zWr [11] [(10, 1)] h ((f_Text_addNumber_l3_b v1 v2 h).2.2) := by
  unfold f_Text_addNumber_l3_b
  exact (zWr_ite (fun z : Nat × Int32 × zm_H => z.2.2) (zWr.refl _ _) (zWr_ite (fun z : Nat × Int32 × zm_H => z.2.2) (zWr.refl _ _) (zWr_p (by decide) (zWr_si (by decide) (zWr.refl _ _)))))
def f_Text_addNumber_l3 (v1 : Int32) (n : Nat) (t : Int32 × zm_H) : Nat × Int32 × zm_H := zwh (fun t => f_Text_addNumber_l3_b v1 t.1 t.2) n t
def f_Text_addNumber_l3_ok (v1 : Int32) (n : Nat) (t : Int32 × zm_H) : Prop := zwo (fun t => f_Text_addNumber_l3_b v1 t.1 t.2) (fun t => f_Text_addNumber_l3_b_ok v1 t.1 t.2) n t
theorem f_Text_addNumber_l3_w (v1 : Int32) (n : Nat) (t : Int32 × zm_H) : zWr [11] [(10, 1)] (t.2) ((f_Text_addNumber_l3 v1 n t).2.2) := by
  unfold f_Text_addNumber_l3
  exact zWr_zwh (fun t : Int32 × zm_H => t.2) (fun t => f_Text_addNumber_l3_b_w v1 t.1 t.2)
def f_Text_addNumber_k46 (h : zm_H) : zm_H := h
def f_Text_addNumber_k46_ok (h : zm_H) : Prop := True
theorem f_Text_addNumber_k46_w (h : zm_H) : zWr [] [] h ((f_Text_addNumber_k46 h)) := by
  unfold f_Text_addNumber_k46
  exact (zWr.refl _ _)
def f_Text_addNumber_a3 (r : Nat × Int32 × zm_H) : zm_H := (f_Text_addNumber_k46 (r.2.2))
def f_Text_addNumber_a3_ok (r : Nat × Int32 × zm_H) : Prop := True
theorem f_Text_addNumber_a3_w (r : Nat × Int32 × zm_H) : zWr [] [] (r.2.2) ((f_Text_addNumber_a3 r)) := by
  unfold f_Text_addNumber_a3
  exact (zWr_tr (f_Text_addNumber_k46_w (r.2.2)) (by decide) (by decide) (zWr.refl _ _))
def f_Text_addNumber (p1 : Int32) (h : zm_H) : zm_H := (f_Text_addNumber_a3 (f_Text_addNumber_l3 p1 zF (24, h)))
def f_Text_addNumber_ok (p1 : Int32) (h : zm_H) : Prop := (f_Text_addNumber_l3_ok p1 zF (24, h) ∧ f_Text_addNumber_a3_ok (f_Text_addNumber_l3 p1 zF (24, h)))
theorem f_Text_addNumber_w (p1 : Int32) (h : zm_H) : zWr [11] [(10, 1)] h ((f_Text_addNumber p1 h)) := by
  unfold f_Text_addNumber
  exact (zWr_tr (f_Text_addNumber_a3_w (f_Text_addNumber_l3 p1 zF (24, h))) (by decide) (by decide) (zWr_tr (f_Text_addNumber_l3_w p1 zF (24, h)) (by decide) (by decide) (zWr.refl _ _)))
def f_N_feed_k47 (v5 : Int32) (h : zm_H) : Int32 × zm_H := ((zf (f_Text_addNumber v5 h) 10 1), (f_Text_addNumber v5 h))
def f_N_feed_k47_ok (v5 : Int32) (h : zm_H) : Prop := f_Text_addNumber_ok v5 h
theorem f_N_feed_k47_w (v5 : Int32) (h : zm_H) : zWr [11] [(10, 1)] h ((f_N_feed_k47 v5 h).2) := by
  unfold f_N_feed_k47
  exact (zWr_tr (f_Text_addNumber_w v5 h) (by decide) (by decide) (zWr.refl _ _))
def f_N_feed_k38 (v4 : Int32) (v5 : Int32) (h : zm_H) : Int32 × zm_H := (f_N_feed_k47 v5 (f_Text_addNumber v4 h))
def f_N_feed_k38_ok (v4 : Int32) (v5 : Int32) (h : zm_H) : Prop := (f_Text_addNumber_ok v4 h ∧ (f_N_feed_k47_ok v5 (f_Text_addNumber v4 h)))
theorem f_N_feed_k38_w (v4 : Int32) (v5 : Int32) (h : zm_H) : zWr [11] [(10, 1)] h ((f_N_feed_k38 v4 v5 h).2) := by
  unfold f_N_feed_k38
  exact (zWr_tr (f_N_feed_k47_w v5 (f_Text_addNumber v4 h)) (by decide) (by decide) (zWr_tr (f_Text_addNumber_w v4 h) (by decide) (by decide) (zWr.refl _ _)))
def f_N_feed_k30 (v3 : Int32) (v4 : Int32) (v5 : Int32) (h : zm_H) : Int32 × zm_H := (f_N_feed_k38 v4 v5 (f_Text_addNumber v3 h))
def f_N_feed_k30_ok (v3 : Int32) (v4 : Int32) (v5 : Int32) (h : zm_H) : Prop := (f_Text_addNumber_ok v3 h ∧ (f_N_feed_k38_ok v4 v5 (f_Text_addNumber v3 h)))
theorem f_N_feed_k30_w (v3 : Int32) (v4 : Int32) (v5 : Int32) (h : zm_H) : zWr [11] [(10, 1)] h ((f_N_feed_k30 v3 v4 v5 h).2) := by
  unfold f_N_feed_k30
  exact (zWr_tr (f_N_feed_k38_w v4 v5 (f_Text_addNumber v3 h)) (by decide) (by decide) (zWr_tr (f_Text_addNumber_w v3 h) (by decide) (by decide) (zWr.refl _ _)))
def f_N_feed_k22 (v2 : Int32) (v3 : Int32) (v4 : Int32) (v5 : Int32) (h : zm_H) : Int32 × zm_H := (f_N_feed_k30 v3 v4 v5 (f_Text_addNumber v2 h))
def f_N_feed_k22_ok (v2 : Int32) (v3 : Int32) (v4 : Int32) (v5 : Int32) (h : zm_H) : Prop := (f_Text_addNumber_ok v2 h ∧ (f_N_feed_k30_ok v3 v4 v5 (f_Text_addNumber v2 h)))
theorem f_N_feed_k22_w (v2 : Int32) (v3 : Int32) (v4 : Int32) (v5 : Int32) (h : zm_H) : zWr [11] [(10, 1)] h ((f_N_feed_k22 v2 v3 v4 v5 h).2) := by
  unfold f_N_feed_k22
  exact (zWr_tr (f_N_feed_k30_w v3 v4 v5 (f_Text_addNumber v2 h)) (by decide) (by decide) (zWr_tr (f_Text_addNumber_w v2 h) (by decide) (by decide) (zWr.refl _ _)))
def f_N_feed (p1 : Int32) (p2 : Int32) (p3 : Int32) (p4 : Int32) (p5 : Int32) (h : zm_H) : Int32 × zm_H := (if (¬ (400 < ((zf h 10 1) + 20))) then (f_N_feed_k22 p2 p3 p4 p5 (f_Text_addNumber p1 h)) else ((-1), h))
def f_N_feed_ok (p1 : Int32) (p2 : Int32) (p3 : Int32) (p4 : Int32) (p5 : Int32) (h : zm_H) : Prop := (((¬ (400 < ((zf h 10 1) + 20))) → (f_Text_addNumber_ok p1 h ∧ (f_N_feed_k22_ok p2 p3 p4 p5 (f_Text_addNumber p1 h)))) ∧ (¬ (¬ (400 < ((zf h 10 1) + 20))) → True))
theorem f_N_feed_w (p1 : Int32) (p2 : Int32) (p3 : Int32) (p4 : Int32) (p5 : Int32) (h : zm_H) : zWr [11] [(10, 1)] h ((f_N_feed p1 p2 p3 p4 p5 h).2) := by
  unfold f_N_feed
  exact (zWr_ite (fun z : Int32 × zm_H => z.2) (zWr_tr (f_N_feed_k22_w p2 p3 p4 p5 (f_Text_addNumber p1 h)) (by decide) (by decide) (zWr_tr (f_Text_addNumber_w p1 h) (by decide) (by decide) (zWr.refl _ _))) (zWr.refl _ _))
def f_M_feed_l18_k73 (v1 : Int32) (v2 : Int32) (v3 : Int32) (v4 : Int32) (v5 : Int32) (v6 : Int32) (v7 : Int32) (h : zm_H) : Nat × Int32 × zm_H := (0, (v6 + 1), (zp (zs h 93 (zf h 92 1) (zm_nb 1 (v7 >>> ((24 - (8 * (zm_rm v6 4))) &&& 31)).toInt8.toInt32)) 92 1 ((zf h 92 1) + 1)))
def f_M_feed_l18_k73_ok (v1 : Int32) (v2 : Int32) (v3 : Int32) (v4 : Int32) (v5 : Int32) (v6 : Int32) (v7 : Int32) (h : zm_H) : Prop := vp_in (zf h 92 1) 400
theorem f_M_feed_l18_k73_w (v1 : Int32) (v2 : Int32) (v3 : Int32) (v4 : Int32) (v5 : Int32) (v6 : Int32) (v7 : Int32) (h : zm_H) : zWr [93] [(92, 1)] h ((f_M_feed_l18_k73 v1 v2 v3 v4 v5 v6 v7 h).2.2) := by
  unfold f_M_feed_l18_k73
  exact (zWr_p (by decide) (zWr_si (by decide) (zWr.refl _ _)))
def f_M_feed_l18_b (v1 : Int32) (v2 : Int32) (v3 : Int32) (v4 : Int32) (v5 : Int32) (v6 : Int32) (h : zm_H) : Nat × Int32 × zm_H := (if (20 ≤ v6) then (1, v6, h) else (f_M_feed_l18_k73 v1 v2 v3 v4 v5 v6 (if (4 ≤ v6) then ((if (8 ≤ v6) then ((if (12 ≤ v6) then ((if (16 ≤ v6) then (v5 : Int32) else v4) : Int32) else v3) : Int32) else v2) : Int32) else v1) h))
def f_M_feed_l18_b_ok (v1 : Int32) (v2 : Int32) (v3 : Int32) (v4 : Int32) (v5 : Int32) (v6 : Int32) (h : zm_H) : Prop := (((20 ≤ v6) → True) ∧ (¬ (20 ≤ v6) → (f_M_feed_l18_k73_ok v1 v2 v3 v4 v5 v6 (if (4 ≤ v6) then ((if (8 ≤ v6) then ((if (12 ≤ v6) then ((if (16 ≤ v6) then (v5 : Int32) else v4) : Int32) else v3) : Int32) else v2) : Int32) else v1) h)))
theorem f_M_feed_l18_b_w (v1 : Int32) (v2 : Int32) (v3 : Int32) (v4 : Int32) (v5 : Int32) (v6 : Int32) (h : zm_H) : zWr [93] [(92, 1)] h ((f_M_feed_l18_b v1 v2 v3 v4 v5 v6 h).2.2) := by
  unfold f_M_feed_l18_b
  exact (zWr_ite (fun z : Nat × Int32 × zm_H => z.2.2) (zWr.refl _ _) (zWr_tr (f_M_feed_l18_k73_w v1 v2 v3 v4 v5 v6 (if (4 ≤ v6) then ((if (8 ≤ v6) then ((if (12 ≤ v6) then ((if (16 ≤ v6) then (v5 : Int32) else v4) : Int32) else v3) : Int32) else v2) : Int32) else v1) h) (by decide) (by decide) (zWr.refl _ _)))
def f_M_feed_l18 (v1 : Int32) (v2 : Int32) (v3 : Int32) (v4 : Int32) (v5 : Int32) (n : Nat) (t : Int32 × zm_H) : Nat × Int32 × zm_H := zwh (fun t => f_M_feed_l18_b v1 v2 v3 v4 v5 t.1 t.2) n t
def f_M_feed_l18_ok (v1 : Int32) (v2 : Int32) (v3 : Int32) (v4 : Int32) (v5 : Int32) (n : Nat) (t : Int32 × zm_H) : Prop := zwo (fun t => f_M_feed_l18_b v1 v2 v3 v4 v5 t.1 t.2) (fun t => f_M_feed_l18_b_ok v1 v2 v3 v4 v5 t.1 t.2) n t
theorem f_M_feed_l18_w (v1 : Int32) (v2 : Int32) (v3 : Int32) (v4 : Int32) (v5 : Int32) (n : Nat) (t : Int32 × zm_H) : zWr [93] [(92, 1)] (t.2) ((f_M_feed_l18 v1 v2 v3 v4 v5 n t).2.2) := by
  unfold f_M_feed_l18
  exact zWr_zwh (fun t : Int32 × zm_H => t.2) (fun t => f_M_feed_l18_b_w v1 v2 v3 v4 v5 t.1 t.2)
def f_M_feed_k112 (h : zm_H) : Int32 × zm_H := ((zf h 92 1), h)
def f_M_feed_k112_ok (h : zm_H) : Prop := True
theorem f_M_feed_k112_w (h : zm_H) : zWr [] [] h ((f_M_feed_k112 h).2) := by
  unfold f_M_feed_k112
  exact (zWr.refl _ _)
def f_M_feed_a18 (r : Nat × Int32 × zm_H) : Int32 × zm_H := (f_M_feed_k112 (r.2.2))
def f_M_feed_a18_ok (r : Nat × Int32 × zm_H) : Prop := True
theorem f_M_feed_a18_w (r : Nat × Int32 × zm_H) : zWr [] [] (r.2.2) ((f_M_feed_a18 r).2) := by
  unfold f_M_feed_a18
  exact (zWr_tr (f_M_feed_k112_w (r.2.2)) (by decide) (by decide) (zWr.refl _ _))
def f_M_feed (p1 : Int32) (p2 : Int32) (p3 : Int32) (p4 : Int32) (p5 : Int32) (h : zm_H) : Int32 × zm_H := (if (((zf h 92 1) + 20) ≤ 400) then (f_M_feed_a18 (f_M_feed_l18 p1 p2 p3 p4 p5 zF (0, h))) else ((-1), h))
def f_M_feed_ok (p1 : Int32) (p2 : Int32) (p3 : Int32) (p4 : Int32) (p5 : Int32) (h : zm_H) : Prop := (((((zf h 92 1) + 20) ≤ 400) → (f_M_feed_l18_ok p1 p2 p3 p4 p5 zF (0, h) ∧ f_M_feed_a18_ok (f_M_feed_l18 p1 p2 p3 p4 p5 zF (0, h)))) ∧ (¬ (((zf h 92 1) + 20) ≤ 400) → True))
theorem f_M_feed_w (p1 : Int32) (p2 : Int32) (p3 : Int32) (p4 : Int32) (p5 : Int32) (h : zm_H) : zWr [93] [(92, 1)] h ((f_M_feed p1 p2 p3 p4 p5 h).2) := by
  unfold f_M_feed
  exact (zWr_ite (fun z : Int32 × zm_H => z.2) (zWr_tr (f_M_feed_a18_w (f_M_feed_l18 p1 p2 p3 p4 p5 zF (0, h))) (by decide) (by decide) (zWr_tr (f_M_feed_l18_w p1 p2 p3 p4 p5 zF (0, h)) (by decide) (by decide) (zWr.refl _ _))) (zWr.refl _ _))
def f_N_end (p1 : Int32) (h : zm_H) : Int32 × zm_H := (if (p1 < 0) then (0, h) else (if (p1 ≤ (zf h 10 1)) then (1, (zp h 10 1 p1)) else (0, h)))
def f_N_end_ok (p1 : Int32) (h : zm_H) : Prop := True
theorem f_N_end_w (p1 : Int32) (h : zm_H) : zWr [] [(10, 1)] h ((f_N_end p1 h).2) := by
  unfold f_N_end
  exact (zWr_ite (fun z : Int32 × zm_H => z.2) (zWr.refl _ _) (zWr_ite (fun z : Int32 × zm_H => z.2) (zWr_p (by decide) (zWr.refl _ _)) (zWr.refl _ _)))
def f_M_end (p1 : Int32) (h : zm_H) : Int32 × zm_H := (if (¬ (p1 < 0) ∧ (¬ ((zf h 92 1) < p1))) then (1, (zp h 92 1 p1)) else (0, h))
def f_M_end_ok (p1 : Int32) (h : zm_H) : Prop := True
theorem f_M_end_w (p1 : Int32) (h : zm_H) : zWr [] [(92, 1)] h ((f_M_end p1 h).2) := by
  unfold f_M_end
  exact (zWr_ite (fun z : Int32 × zm_H => z.2) (zWr_p (by decide) (zWr.refl _ _)) (zWr.refl _ _))
def f_Arrays_fill_13_l5_b (v1 : Int32) (v2 : Int32) (v3 : Int32) (h : zm_H) : Nat × Int32 × zm_H := (if (v3 ≤ v2) then (1, v2, h) else (0, (v2 + 1), (zs h 13 v2 v1)))
def f_Arrays_fill_13_l5_b_ok (v1 : Int32) (v2 : Int32) (v3 : Int32) (h : zm_H) : Prop := (((v3 ≤ v2) → True) ∧ (¬ (v3 ≤ v2) → vp_in v2 4))
theorem f_Arrays_fill_13_l5_b_w (v1 : Int32) (v2 : Int32) (v3 : Int32) (h : zm_H) : zWr [13] [] h ((f_Arrays_fill_13_l5_b v1 v2 v3 h).2.2) := by
  unfold f_Arrays_fill_13_l5_b
  exact (zWr_ite (fun z : Nat × Int32 × zm_H => z.2.2) (zWr.refl _ _) (zWr_si (by decide) (zWr.refl _ _)))
def f_Arrays_fill_13_l5 (v1 : Int32) (v3 : Int32) (n : Nat) (t : Int32 × zm_H) : Nat × Int32 × zm_H := zwh (fun t => f_Arrays_fill_13_l5_b v1 t.1 v3 t.2) n t
def f_Arrays_fill_13_l5_ok (v1 : Int32) (v3 : Int32) (n : Nat) (t : Int32 × zm_H) : Prop := zwo (fun t => f_Arrays_fill_13_l5_b v1 t.1 v3 t.2) (fun t => f_Arrays_fill_13_l5_b_ok v1 t.1 v3 t.2) n t
theorem f_Arrays_fill_13_l5_w (v1 : Int32) (v3 : Int32) (n : Nat) (t : Int32 × zm_H) : zWr [13] [] (t.2) ((f_Arrays_fill_13_l5 v1 v3 n t).2.2) := by
  unfold f_Arrays_fill_13_l5
  exact zWr_zwh (fun t : Int32 × zm_H => t.2) (fun t => f_Arrays_fill_13_l5_b_w v1 t.1 v3 t.2)
def f_Arrays_fill_13_k20 (h : zm_H) : zm_H := h
def f_Arrays_fill_13_k20_ok (h : zm_H) : Prop := True
theorem f_Arrays_fill_13_k20_w (h : zm_H) : zWr [] [] h ((f_Arrays_fill_13_k20 h)) := by
  unfold f_Arrays_fill_13_k20
  exact (zWr.refl _ _)
def f_Arrays_fill_13_a5 (r : Nat × Int32 × zm_H) : zm_H := (f_Arrays_fill_13_k20 (r.2.2))
def f_Arrays_fill_13_a5_ok (r : Nat × Int32 × zm_H) : Prop := True
theorem f_Arrays_fill_13_a5_w (r : Nat × Int32 × zm_H) : zWr [] [] (r.2.2) ((f_Arrays_fill_13_a5 r)) := by
  unfold f_Arrays_fill_13_a5
  exact (zWr_tr (f_Arrays_fill_13_k20_w (r.2.2)) (by decide) (by decide) (zWr.refl _ _))
def f_Arrays_fill_13 (p1 : Int32) (h : zm_H) : zm_H := (f_Arrays_fill_13_a5 (f_Arrays_fill_13_l5 p1 (Int32.ofNat 4) zF (0, h)))
def f_Arrays_fill_13_ok (p1 : Int32) (h : zm_H) : Prop := (f_Arrays_fill_13_l5_ok p1 (Int32.ofNat 4) zF (0, h) ∧ f_Arrays_fill_13_a5_ok (f_Arrays_fill_13_l5 p1 (Int32.ofNat 4) zF (0, h)))
theorem f_Arrays_fill_13_w (p1 : Int32) (h : zm_H) : zWr [13] [] h ((f_Arrays_fill_13 p1 h)) := by
  unfold f_Arrays_fill_13
  exact (zWr_tr (f_Arrays_fill_13_a5_w (f_Arrays_fill_13_l5 p1 (Int32.ofNat 4) zF (0, h))) (by decide) (by decide) (zWr_tr (f_Arrays_fill_13_l5_w p1 (Int32.ofNat 4) zF (0, h)) (by decide) (by decide) (zWr.refl _ _)))
def f_Arrays_fill_14_l5_b (v1 : Int32) (v2 : Int32) (v3 : Int32) (h : zm_H) : Nat × Int32 × zm_H := (if (v3 ≤ v2) then (1, v2, h) else (0, (v2 + 1), (zs h 14 v2 v1)))
def f_Arrays_fill_14_l5_b_ok (v1 : Int32) (v2 : Int32) (v3 : Int32) (h : zm_H) : Prop := (((v3 ≤ v2) → True) ∧ (¬ (v3 ≤ v2) → vp_in v2 4))
theorem f_Arrays_fill_14_l5_b_w (v1 : Int32) (v2 : Int32) (v3 : Int32) (h : zm_H) : zWr [14] [] h ((f_Arrays_fill_14_l5_b v1 v2 v3 h).2.2) := by
  unfold f_Arrays_fill_14_l5_b
  exact (zWr_ite (fun z : Nat × Int32 × zm_H => z.2.2) (zWr.refl _ _) (zWr_si (by decide) (zWr.refl _ _)))
def f_Arrays_fill_14_l5 (v1 : Int32) (v3 : Int32) (n : Nat) (t : Int32 × zm_H) : Nat × Int32 × zm_H := zwh (fun t => f_Arrays_fill_14_l5_b v1 t.1 v3 t.2) n t
def f_Arrays_fill_14_l5_ok (v1 : Int32) (v3 : Int32) (n : Nat) (t : Int32 × zm_H) : Prop := zwo (fun t => f_Arrays_fill_14_l5_b v1 t.1 v3 t.2) (fun t => f_Arrays_fill_14_l5_b_ok v1 t.1 v3 t.2) n t
theorem f_Arrays_fill_14_l5_w (v1 : Int32) (v3 : Int32) (n : Nat) (t : Int32 × zm_H) : zWr [14] [] (t.2) ((f_Arrays_fill_14_l5 v1 v3 n t).2.2) := by
  unfold f_Arrays_fill_14_l5
  exact zWr_zwh (fun t : Int32 × zm_H => t.2) (fun t => f_Arrays_fill_14_l5_b_w v1 t.1 v3 t.2)
def f_Arrays_fill_14_k20 (h : zm_H) : zm_H := h
def f_Arrays_fill_14_k20_ok (h : zm_H) : Prop := True
theorem f_Arrays_fill_14_k20_w (h : zm_H) : zWr [] [] h ((f_Arrays_fill_14_k20 h)) := by
  unfold f_Arrays_fill_14_k20
  exact (zWr.refl _ _)
def f_Arrays_fill_14_a5 (r : Nat × Int32 × zm_H) : zm_H := (f_Arrays_fill_14_k20 (r.2.2))
def f_Arrays_fill_14_a5_ok (r : Nat × Int32 × zm_H) : Prop := True
theorem f_Arrays_fill_14_a5_w (r : Nat × Int32 × zm_H) : zWr [] [] (r.2.2) ((f_Arrays_fill_14_a5 r)) := by
  unfold f_Arrays_fill_14_a5
  exact (zWr_tr (f_Arrays_fill_14_k20_w (r.2.2)) (by decide) (by decide) (zWr.refl _ _))
def f_Arrays_fill_14 (p1 : Int32) (h : zm_H) : zm_H := (f_Arrays_fill_14_a5 (f_Arrays_fill_14_l5 p1 (Int32.ofNat 4) zF (0, h)))
def f_Arrays_fill_14_ok (p1 : Int32) (h : zm_H) : Prop := (f_Arrays_fill_14_l5_ok p1 (Int32.ofNat 4) zF (0, h) ∧ f_Arrays_fill_14_a5_ok (f_Arrays_fill_14_l5 p1 (Int32.ofNat 4) zF (0, h)))
theorem f_Arrays_fill_14_w (p1 : Int32) (h : zm_H) : zWr [14] [] h ((f_Arrays_fill_14 p1 h)) := by
  unfold f_Arrays_fill_14
  exact (zWr_tr (f_Arrays_fill_14_a5_w (f_Arrays_fill_14_l5 p1 (Int32.ofNat 4) zF (0, h))) (by decide) (by decide) (zWr_tr (f_Arrays_fill_14_l5_w p1 (Int32.ofNat 4) zF (0, h)) (by decide) (by decide) (zWr.refl _ _)))
def f_Text_readTokens_l9_k59 (v1 : Int32) (v2 : Int32) (h : zm_H) : Nat × Int32 × Int32 × zm_H := (0, v1, (v2 + 1), h)
def f_Text_readTokens_l9_k59_ok (v1 : Int32) (v2 : Int32) (h : zm_H) : Prop := True
theorem f_Text_readTokens_l9_k59_w (v1 : Int32) (v2 : Int32) (h : zm_H) : zWr [] [] h ((f_Text_readTokens_l9_k59 v1 v2 h).2.2.2) := by
  unfold f_Text_readTokens_l9_k59
  exact (zWr.refl _ _)
def f_Text_isLetter (p0 : Int32) (h : zm_H) : Int32 := (if (¬ (p0 < 97) ∧ (¬ (122 < p0))) then (1 : Int32) else 0)
def f_Text_isLetter_ok (p0 : Int32) (h : zm_H) : Prop := True
def f_Text_isDigit (p0 : Int32) (h : zm_H) : Int32 := (if (¬ (p0 < 48) ∧ (¬ (57 < p0))) then (1 : Int32) else 0)
def f_Text_isDigit_ok (p0 : Int32) (h : zm_H) : Prop := True
def f_Text_readNumber_l4_b (v2 : Int32) (v3 : Int32) (h : zm_H) : Nat × Int32 × Int32 := (if ((zf h 10 1) ≤ v2) then (1, v2, v3) else (if (¬ ((zr h 11 v2) < 48) ∧ (¬ (57 < (zr h 11 v2)))) then (0, (v2 + 1), (if 100000 < (((v3 * 10) + (zr h 11 v2)) - 48) then 100000 else (((v3 * 10) + (zr h 11 v2)) - 48))) else (1, v2, v3)))
def f_Text_readNumber_l4_b_ok (v2 : Int32) (v3 : Int32) (h : zm_H) : Prop := ((((zf h 10 1) ≤ v2) → True) ∧ (¬ ((zf h 10 1) ≤ v2) → (vp_in v2 400 ∧ (((¬ ((zr h 11 v2) < 48) ∧ (¬ (57 < (zr h 11 v2)))) → vp_in v2 400) ∧ (¬ (¬ ((zr h 11 v2) < 48) ∧ (¬ (57 < (zr h 11 v2)))) → True)))))
def f_Text_readNumber_l4 (h : zm_H) (n : Nat) (t : Int32 × Int32) : Nat × Int32 × Int32 := zwh (fun t => f_Text_readNumber_l4_b t.1 t.2 h) n t
def f_Text_readNumber_l4_ok (h : zm_H) (n : Nat) (t : Int32 × Int32) : Prop := zwo (fun t => f_Text_readNumber_l4_b t.1 t.2 h) (fun t => f_Text_readNumber_l4_b_ok t.1 t.2 h) n t
def f_Text_readNumber_k50 (v2 : Int32) (v3 : Int32) (h : zm_H) : Int32 × zm_H := (v2, (zs (zs h 162 (zf h 10 6) 256) 164 (zf h 10 6) v3))
def f_Text_readNumber_k50_ok (v2 : Int32) (v3 : Int32) (h : zm_H) : Prop := (vp_in (zf h 10 6) 401 ∧ vp_in (zf h 10 6) 401)
theorem f_Text_readNumber_k50_w (v2 : Int32) (v3 : Int32) (h : zm_H) : zWr [162, 164] [] h ((f_Text_readNumber_k50 v2 v3 h).2) := by
  unfold f_Text_readNumber_k50
  exact (zWr_si (by decide) (zWr_si (by decide) (zWr.refl _ _)))
def f_Text_readNumber_a4 (r : Nat × Int32 × Int32) (h : zm_H) : Int32 × zm_H := (f_Text_readNumber_k50 (r.2.1) (r.2.2) h)
def f_Text_readNumber_a4_ok (r : Nat × Int32 × Int32) (h : zm_H) : Prop := (f_Text_readNumber_k50_ok (r.2.1) (r.2.2) h)
theorem f_Text_readNumber_a4_w (r : Nat × Int32 × Int32) (h : zm_H) : zWr [162, 164] [] h ((f_Text_readNumber_a4 r h).2) := by
  unfold f_Text_readNumber_a4
  exact (zWr_tr (f_Text_readNumber_k50_w (r.2.1) (r.2.2) h) (by decide) (by decide) (zWr.refl _ _))
def f_Text_readNumber (p1 : Int32) (h : zm_H) : Int32 × zm_H := (f_Text_readNumber_a4 (f_Text_readNumber_l4 h zF (p1, 0)) h)
def f_Text_readNumber_ok (p1 : Int32) (h : zm_H) : Prop := (f_Text_readNumber_l4_ok h zF (p1, 0) ∧ f_Text_readNumber_a4_ok (f_Text_readNumber_l4 h zF (p1, 0)) h)
theorem f_Text_readNumber_w (p1 : Int32) (h : zm_H) : zWr [162, 164] [] h ((f_Text_readNumber p1 h).2) := by
  unfold f_Text_readNumber
  exact (zWr_tr (f_Text_readNumber_a4_w (f_Text_readNumber_l4 h zF (p1, 0)) h) (by decide) (by decide) (zWr.refl _ _))
def f_Text_readWord_l2_b (v1 : Int32) (v2 : Int32) (h : zm_H) : Nat × Int32 := (if ((zf h 10 1) ≤ v2) then (1, v2) else (if (¬ ((zr h 11 v2) < 97) ∧ (¬ (122 < (zr h 11 v2)))) then (0, (v2 + 1)) else (1, v2)))
def f_Text_readWord_l2_b_ok (v1 : Int32) (v2 : Int32) (h : zm_H) : Prop := ((((zf h 10 1) ≤ v2) → True) ∧ (¬ ((zf h 10 1) ≤ v2) → vp_in v2 400))
def f_Text_readWord_l2 (v1 : Int32) (h : zm_H) (n : Nat) (t : Int32) : Nat × Int32 := zwh (fun t => f_Text_readWord_l2_b v1 t h) n t
def f_Text_readWord_l2_ok (v1 : Int32) (h : zm_H) (n : Nat) (t : Int32) : Prop := zwo (fun t => f_Text_readWord_l2_b v1 t h) (fun t => f_Text_readWord_l2_b_ok v1 t h) n t
def f_Text_isWord_l13_b (v1 : Int32) (v2 : Int32) (v3 : Int32) (v4 : Int32) (h : zm_H) : Nat × Int32 := (if (6 ≤ v4) then (2, v4) else (if (((zm_sx 0).getD ((v1 * 6) + v4).toNatClampNeg 0) = (if (v3 ≤ (v2 + v4)) then (32 : Int32) else (zr h 11 (v2 + v4)))) then (0, (v4 + 1)) else (1, v4)))
def f_Text_isWord_l13_b_ok (v1 : Int32) (v2 : Int32) (v3 : Int32) (v4 : Int32) (h : zm_H) : Prop := (((6 ≤ v4) → True) ∧ (¬ (6 ≤ v4) → ((((v3 ≤ (v2 + v4)) → True) ∧ (¬ (v3 ≤ (v2 + v4)) → vp_in (v2 + v4) 400)) ∧ (0 ≤ ((v1 * 6) + v4) ∧ ((v1 * 6) + v4).toNatClampNeg < 96))))
def f_Text_isWord_l13 (v1 : Int32) (v2 : Int32) (v3 : Int32) (h : zm_H) (n : Nat) (t : Int32) : Nat × Int32 := zwh (fun t => f_Text_isWord_l13_b v1 v2 v3 t h) n t
def f_Text_isWord_l13_ok (v1 : Int32) (v2 : Int32) (v3 : Int32) (h : zm_H) (n : Nat) (t : Int32) : Prop := zwo (fun t => f_Text_isWord_l13_b v1 v2 v3 t h) (fun t => f_Text_isWord_l13_b_ok v1 v2 v3 t h) n t
def f_Text_isWord_k61 (h : zm_H) : Int32 := 0
def f_Text_isWord_k61_ok (h : zm_H) : Prop := True
def f_Text_isWord_k69 (h : zm_H) : Int32 := 1
def f_Text_isWord_k69_ok (h : zm_H) : Prop := True
def f_Text_isWord_a13 (r : Nat × Int32) (h : zm_H) : Int32 := (if r.1 = 1 then (f_Text_isWord_k61 h) else (f_Text_isWord_k69 h))
def f_Text_isWord_a13_ok (r : Nat × Int32) (h : zm_H) : Prop := ((r.1 = 1 → True) ∧ (¬ r.1 = 1 → True))
def f_Text_isWord (p1 : Int32) (p2 : Int32) (p3 : Int32) (h : zm_H) : Int32 := (if ((p3 - p2) ≤ 6) then (f_Text_isWord_a13 (f_Text_isWord_l13 p1 p2 p3 h zF 0) h) else 0)
def f_Text_isWord_ok (p1 : Int32) (p2 : Int32) (p3 : Int32) (h : zm_H) : Prop := ((((p3 - p2) ≤ 6) → (f_Text_isWord_l13_ok p1 p2 p3 h zF 0 ∧ f_Text_isWord_a13_ok (f_Text_isWord_l13 p1 p2 p3 h zF 0) h)) ∧ (¬ ((p3 - p2) ≤ 6) → True))
def f_Text_readWord_l42_b (v1 : Int32) (v2 : Int32) (v3 : Int32) (h : zm_H) : Nat × Int32 × zm_H := (if (16 ≤ v3) then (1, v3, h) else (0, (v3 + 1), (if ((f_Text_isWord v3 v1 v2 h) = 0) then h else (zs h 162 (zf h 10 6) (300 + v3)))))
def f_Text_readWord_l42_b_ok (v1 : Int32) (v2 : Int32) (v3 : Int32) (h : zm_H) : Prop := (((16 ≤ v3) → True) ∧ (¬ (16 ≤ v3) → (f_Text_isWord_ok v3 v1 v2 h ∧ ((((f_Text_isWord v3 v1 v2 h) = 0) → True) ∧ (¬ ((f_Text_isWord v3 v1 v2 h) = 0) → vp_in (zf h 10 6) 401)))))
theorem f_Text_readWord_l42_b_w (v1 : Int32) (v2 : Int32) (v3 : Int32) (h : zm_H) : zWr [162] [] h ((f_Text_readWord_l42_b v1 v2 v3 h).2.2) := by
  unfold f_Text_readWord_l42_b
  exact (zWr_ite (fun z : Nat × Int32 × zm_H => z.2.2) (zWr.refl _ _) (zWr_ite (fun z : zm_H => z) (zWr.refl _ _) (zWr_si (by decide) (zWr.refl _ _))))
def f_Text_readWord_l42 (v1 : Int32) (v2 : Int32) (n : Nat) (t : Int32 × zm_H) : Nat × Int32 × zm_H := zwh (fun t => f_Text_readWord_l42_b v1 v2 t.1 t.2) n t
def f_Text_readWord_l42_ok (v1 : Int32) (v2 : Int32) (n : Nat) (t : Int32 × zm_H) : Prop := zwo (fun t => f_Text_readWord_l42_b v1 v2 t.1 t.2) (fun t => f_Text_readWord_l42_b_ok v1 v2 t.1 t.2) n t
theorem f_Text_readWord_l42_w (v1 : Int32) (v2 : Int32) (n : Nat) (t : Int32 × zm_H) : zWr [162] [] (t.2) ((f_Text_readWord_l42 v1 v2 n t).2.2) := by
  unfold f_Text_readWord_l42
  exact zWr_zwh (fun t : Int32 × zm_H => t.2) (fun t => f_Text_readWord_l42_b_w v1 v2 t.1 t.2)
def f_Text_readWord_k78 (v2 : Int32) (h : zm_H) : Int32 × zm_H := (v2, h)
def f_Text_readWord_k78_ok (v2 : Int32) (h : zm_H) : Prop := True
theorem f_Text_readWord_k78_w (v2 : Int32) (h : zm_H) : zWr [] [] h ((f_Text_readWord_k78 v2 h).2) := by
  unfold f_Text_readWord_k78
  exact (zWr.refl _ _)
def f_Text_readWord_a42 (v2 : Int32) (r : Nat × Int32 × zm_H) : Int32 × zm_H := (f_Text_readWord_k78 v2 (r.2.2))
def f_Text_readWord_a42_ok (v2 : Int32) (r : Nat × Int32 × zm_H) : Prop := True
theorem f_Text_readWord_a42_w (v2 : Int32) (r : Nat × Int32 × zm_H) : zWr [] [] (r.2.2) ((f_Text_readWord_a42 v2 r).2) := by
  unfold f_Text_readWord_a42
  exact (zWr_tr (f_Text_readWord_k78_w v2 (r.2.2)) (by decide) (by decide) (zWr.refl _ _))
def f_Text_readWord_k28 (v1 : Int32) (v2 : Int32) (h : zm_H) : Int32 × zm_H := (f_Text_readWord_a42 v2 (f_Text_readWord_l42 v1 v2 zF (0, (zs h 162 (zf h 10 6) 316))))
def f_Text_readWord_k28_ok (v1 : Int32) (v2 : Int32) (h : zm_H) : Prop := (vp_in (zf h 10 6) 401 ∧ (f_Text_readWord_l42_ok v1 v2 zF (0, (zs h 162 (zf h 10 6) 316)) ∧ f_Text_readWord_a42_ok v2 (f_Text_readWord_l42 v1 v2 zF (0, (zs h 162 (zf h 10 6) 316)))))
theorem f_Text_readWord_k28_w (v1 : Int32) (v2 : Int32) (h : zm_H) : zWr [162] [] h ((f_Text_readWord_k28 v1 v2 h).2) := by
  unfold f_Text_readWord_k28
  exact (zWr_tr (f_Text_readWord_a42_w v2 (f_Text_readWord_l42 v1 v2 zF (0, (zs h 162 (zf h 10 6) 316)))) (by decide) (by decide) (zWr_tr (f_Text_readWord_l42_w v1 v2 zF (0, (zs h 162 (zf h 10 6) 316))) (by decide) (by decide) (zWr_si (by decide) (zWr.refl _ _))))
def f_Text_readWord_a2 (v1 : Int32) (r : Nat × Int32) (h : zm_H) : Int32 × zm_H := (f_Text_readWord_k28 v1 (r.2) h)
def f_Text_readWord_a2_ok (v1 : Int32) (r : Nat × Int32) (h : zm_H) : Prop := (f_Text_readWord_k28_ok v1 (r.2) h)
theorem f_Text_readWord_a2_w (v1 : Int32) (r : Nat × Int32) (h : zm_H) : zWr [162] [] h ((f_Text_readWord_a2 v1 r h).2) := by
  unfold f_Text_readWord_a2
  exact (zWr_tr (f_Text_readWord_k28_w v1 (r.2) h) (by decide) (by decide) (zWr.refl _ _))
def f_Text_readWord (p1 : Int32) (h : zm_H) : Int32 × zm_H := (f_Text_readWord_a2 p1 (f_Text_readWord_l2 p1 h zF p1) h)
def f_Text_readWord_ok (p1 : Int32) (h : zm_H) : Prop := (f_Text_readWord_l2_ok p1 h zF p1 ∧ f_Text_readWord_a2_ok p1 (f_Text_readWord_l2 p1 h zF p1) h)
theorem f_Text_readWord_w (p1 : Int32) (h : zm_H) : zWr [162] [] h ((f_Text_readWord p1 h).2) := by
  unfold f_Text_readWord
  exact (zWr_tr (f_Text_readWord_a2_w p1 (f_Text_readWord_l2 p1 h zF p1) h) (by decide) (by decide) (zWr.refl _ _))
def f_Text_readToken (p1 : Int32) (h : zm_H) : Int32 × zm_H := (if (¬ ((zr h 11 p1) < 97) ∧ (¬ (122 < (zr h 11 p1)))) then (f_Text_readWord p1 h) else (if (¬ ((zr h 11 p1) < 48) ∧ (¬ (57 < (zr h 11 p1)))) then (f_Text_readNumber p1 h) else ((p1 + 1), (zs h 162 (zf h 10 6) (if ((zm_ixf (zm_cb ((zr h 11 p1) &&& 255)) (zm_sx 1) 0) < 0) then (258 : Int32) else ((zr h 11 p1) &&& 255))))))
def f_Text_readToken_ok (p1 : Int32) (h : zm_H) : Prop := (vp_in p1 400 ∧ (((¬ ((zr h 11 p1) < 97) ∧ (¬ (122 < (zr h 11 p1)))) → f_Text_readWord_ok p1 h) ∧ (¬ (¬ ((zr h 11 p1) < 97) ∧ (¬ (122 < (zr h 11 p1)))) → (vp_in p1 400 ∧ (((¬ ((zr h 11 p1) < 48) ∧ (¬ (57 < (zr h 11 p1)))) → f_Text_readNumber_ok p1 h) ∧ (¬ (¬ ((zr h 11 p1) < 48) ∧ (¬ (57 < (zr h 11 p1)))) → (vp_in p1 400 ∧ vp_in (zf h 10 6) 401)))))))
theorem f_Text_readToken_w (p1 : Int32) (h : zm_H) : zWr [162, 164] [] h ((f_Text_readToken p1 h).2) := by
  unfold f_Text_readToken
  exact (zWr_ite (fun z : Int32 × zm_H => z.2) (zWr_tr (f_Text_readWord_w p1 h) (by decide) (by decide) (zWr.refl _ _)) (zWr_ite (fun z : Int32 × zm_H => z.2) (zWr_tr (f_Text_readNumber_w p1 h) (by decide) (by decide) (zWr.refl _ _)) (zWr_si (by decide) (zWr.refl _ _))))
def f_Text_readTokens_l9_k48 (v2 : Int32) (w0 : Int32) (h : zm_H) : Nat × Int32 × Int32 × zm_H := (f_Text_readTokens_l9_k59 w0 v2 (zp h 10 6 ((zf h 10 6) + 1)))
def f_Text_readTokens_l9_k48_ok (v2 : Int32) (w0 : Int32) (h : zm_H) : Prop := True
theorem f_Text_readTokens_l9_k48_w (v2 : Int32) (w0 : Int32) (h : zm_H) : zWr [] [(10, 6)] h ((f_Text_readTokens_l9_k48 v2 w0 h).2.2.2) := by
  unfold f_Text_readTokens_l9_k48
  exact (zWr_tr (f_Text_readTokens_l9_k59_w w0 v2 (zp h 10 6 ((zf h 10 6) + 1))) (by decide) (by decide) (zWr_p (by decide) (zWr.refl _ _)))
def f_Text_readTokens_l9_b (v1 : Int32) (v2 : Int32) (h : zm_H) : Nat × Int32 × Int32 × zm_H := (if ((zf h 10 1) ≤ v2) then (1, v1, v2, h) else (if (v2 < v1) then (f_Text_readTokens_l9_k59 v1 v2 h) else (if ((zr h 11 v2) = 32) then (f_Text_readTokens_l9_k59 v1 v2 h) else (f_Text_readTokens_l9_k48 v2 (f_Text_readToken v2 (zs h 163 (zf h 10 6) v2)).1 (f_Text_readToken v2 (zs h 163 (zf h 10 6) v2)).2))))
def f_Text_readTokens_l9_b_ok (v1 : Int32) (v2 : Int32) (h : zm_H) : Prop := ((((zf h 10 1) ≤ v2) → True) ∧ (¬ ((zf h 10 1) ≤ v2) → (((v2 < v1) → True) ∧ (¬ (v2 < v1) → (vp_in v2 400 ∧ ((((zr h 11 v2) = 32) → True) ∧ (¬ ((zr h 11 v2) = 32) → (vp_in (zf h 10 6) 401 ∧ f_Text_readToken_ok v2 (zs h 163 (zf h 10 6) v2)))))))))
theorem f_Text_readTokens_l9_b_w (v1 : Int32) (v2 : Int32) (h : zm_H) : zWr [162, 163, 164] [(10, 6)] h ((f_Text_readTokens_l9_b v1 v2 h).2.2.2) := by
  unfold f_Text_readTokens_l9_b
  exact (zWr_ite (fun z : Nat × Int32 × Int32 × zm_H => z.2.2.2) (zWr.refl _ _) (zWr_ite (fun z : Nat × Int32 × Int32 × zm_H => z.2.2.2) (zWr_tr (f_Text_readTokens_l9_k59_w v1 v2 h) (by decide) (by decide) (zWr.refl _ _)) (zWr_ite (fun z : Nat × Int32 × Int32 × zm_H => z.2.2.2) (zWr_tr (f_Text_readTokens_l9_k59_w v1 v2 h) (by decide) (by decide) (zWr.refl _ _)) (zWr_tr (f_Text_readTokens_l9_k48_w v2 (f_Text_readToken v2 (zs h 163 (zf h 10 6) v2)).1 (f_Text_readToken v2 (zs h 163 (zf h 10 6) v2)).2) (by decide) (by decide) (zWr_tr (f_Text_readToken_w v2 (zs h 163 (zf h 10 6) v2)) (by decide) (by decide) (zWr_si (by decide) (zWr.refl _ _)))))))
def f_Text_readTokens_l9 (n : Nat) (t : Int32 × Int32 × zm_H) : Nat × Int32 × Int32 × zm_H := zwh (fun t => f_Text_readTokens_l9_b t.1 t.2.1 t.2.2) n t
def f_Text_readTokens_l9_ok (n : Nat) (t : Int32 × Int32 × zm_H) : Prop := zwo (fun t => f_Text_readTokens_l9_b t.1 t.2.1 t.2.2) (fun t => f_Text_readTokens_l9_b_ok t.1 t.2.1 t.2.2) n t
theorem f_Text_readTokens_l9_w (n : Nat) (t : Int32 × Int32 × zm_H) : zWr [162, 163, 164] [(10, 6)] (t.2.2) ((f_Text_readTokens_l9 n t).2.2.2) := by
  unfold f_Text_readTokens_l9
  exact zWr_zwh (fun t : Int32 × Int32 × zm_H => t.2.2) (fun t => f_Text_readTokens_l9_b_w t.1 t.2.1 t.2.2)
def f_Text_readTokens_k65 (h : zm_H) : zm_H := (zs (zs h 162 (zf h 10 6) 257) 163 (zf h 10 6) (zf h 10 1))
def f_Text_readTokens_k65_ok (h : zm_H) : Prop := (vp_in (zf h 10 6) 401 ∧ vp_in (zf h 10 6) 401)
theorem f_Text_readTokens_k65_w (h : zm_H) : zWr [162, 163] [] h ((f_Text_readTokens_k65 h)) := by
  unfold f_Text_readTokens_k65
  exact (zWr_si (by decide) (zWr_si (by decide) (zWr.refl _ _)))
def f_Text_readTokens_a9 (r : Nat × Int32 × Int32 × zm_H) : zm_H := (f_Text_readTokens_k65 (r.2.2.2))
def f_Text_readTokens_a9_ok (r : Nat × Int32 × Int32 × zm_H) : Prop := (f_Text_readTokens_k65_ok (r.2.2.2))
theorem f_Text_readTokens_a9_w (r : Nat × Int32 × Int32 × zm_H) : zWr [162, 163] [] (r.2.2.2) ((f_Text_readTokens_a9 r)) := by
  unfold f_Text_readTokens_a9
  exact (zWr_tr (f_Text_readTokens_k65_w (r.2.2.2)) (by decide) (by decide) (zWr.refl _ _))
def f_Text_readTokens (h : zm_H) : zm_H := (f_Text_readTokens_a9 (f_Text_readTokens_l9 zF (0, 0, (zp h 10 6 0))))
def f_Text_readTokens_ok (h : zm_H) : Prop := (f_Text_readTokens_l9_ok zF (0, 0, (zp h 10 6 0)) ∧ f_Text_readTokens_a9_ok (f_Text_readTokens_l9 zF (0, 0, (zp h 10 6 0))))
theorem f_Text_readTokens_w (h : zm_H) : zWr [162, 163, 164] [(10, 6)] h ((f_Text_readTokens h)) := by
  unfold f_Text_readTokens
  exact (zWr_tr (f_Text_readTokens_a9_w (f_Text_readTokens_l9 zF (0, 0, (zp h 10 6 0)))) (by decide) (by decide) (zWr_tr (f_Text_readTokens_l9_w zF (0, 0, (zp h 10 6 0))) (by decide) (by decide) (zWr_p (by decide) (zWr.refl _ _))))
def f_Text_refuse (h : zm_H) : zm_H := (zp (if ((zf h 10 2) = (-1)) then (zp h 10 2 (zr h 163 (zf h 10 7))) else h) 10 8 258)
def f_Text_refuse_ok (h : zm_H) : Prop := ((((zf h 10 2) = (-1)) → vp_in (zf h 10 7) 401) ∧ (¬ ((zf h 10 2) = (-1)) → True))
theorem f_Text_refuse_w (h : zm_H) : zWr [] [(10, 2), (10, 8)] h ((f_Text_refuse h)) := by
  unfold f_Text_refuse
  exact (zWr_p (by decide) (zWr_ite (fun z : zm_H => z) (zWr_p (by decide) (zWr.refl _ _)) (zWr.refl _ _)))
def f_Text_readClause_k28 (h : zm_H) : zm_H := (f_Text_refuse h)
def f_Text_readClause_k28_ok (h : zm_H) : Prop := f_Text_refuse_ok h
theorem f_Text_readClause_k28_w (h : zm_H) : zWr [] [(10, 2), (10, 8)] h ((f_Text_readClause_k28 h)) := by
  unfold f_Text_readClause_k28
  exact (zWr_tr (f_Text_refuse_w h) (by decide) (by decide) (zWr.refl _ _))
def f_Text_step (h : zm_H) : zm_H := (if ((zf h 10 2) = (-1)) then (if ((zf h 10 6) ≤ (zf h 10 7)) then h else (zp (zp h 10 7 ((zf h 10 7) + 1)) 10 8 (zr h 162 ((zf h 10 7) + 1)))) else h)
def f_Text_step_ok (h : zm_H) : Prop := ((((zf h 10 2) = (-1)) → ((((zf h 10 6) ≤ (zf h 10 7)) → True) ∧ (¬ ((zf h 10 6) ≤ (zf h 10 7)) → vp_in ((zf h 10 7) + 1) 401))) ∧ (¬ ((zf h 10 2) = (-1)) → True))
theorem f_Text_step_w (h : zm_H) : zWr [] [(10, 7), (10, 8)] h ((f_Text_step h)) := by
  unfold f_Text_step
  exact (zWr_ite (fun z : zm_H => z) (zWr_ite (fun z : zm_H => z) (zWr.refl _ _) (zWr_p (by decide) (zWr_p (by decide) (zWr.refl _ _)))) (zWr.refl _ _))
def f_Text_emit (p1 : Int32) (h : zm_H) : zm_H := (if ((Int32.ofNat 400) ≤ (zf h 10 10)) then h else (zp (zs h 12 (zf h 10 10) p1) 10 10 ((zf h 10 10) + 1)))
def f_Text_emit_ok (p1 : Int32) (h : zm_H) : Prop := ((((Int32.ofNat 400) ≤ (zf h 10 10)) → True) ∧ (¬ ((Int32.ofNat 400) ≤ (zf h 10 10)) → vp_in (zf h 10 10) 400))
theorem f_Text_emit_w (p1 : Int32) (h : zm_H) : zWr [12] [(10, 10)] h ((f_Text_emit p1 h)) := by
  unfold f_Text_emit
  exact (zWr_ite (fun z : zm_H => z) (zWr.refl _ _) (zWr_p (by decide) (zWr_si (by decide) (zWr.refl _ _))))
def f_Text_readSum_l7_k54 (R : Nat → Int32 → zm_H → zm_H) (v1 : Int32) (v2 : Int32) (h : zm_H) : Nat × Int32 × zm_H := (0, (v2 + 1), h)
def f_Text_readSum_l7_k54_ok (R : Nat → Int32 → zm_H → zm_H) (O : Nat → Int32 → zm_H → Prop) (v1 : Int32) (v2 : Int32) (h : zm_H) : Prop := True
theorem f_Text_readSum_l7_k54_w (R : Nat → Int32 → zm_H → zm_H) (hW : ∀ (m : Nat) (p : Int32) (h : zm_H), zWr [12] [(10, 2), (10, 7), (10, 8), (10, 10)] h (R m p h)) (v1 : Int32) (v2 : Int32) (h : zm_H) : zWr [] [] h ((f_Text_readSum_l7_k54 R v1 v2 h).2.2) := by
  unfold f_Text_readSum_l7_k54
  exact (zWr.refl _ _)
def f_Text_readSum_l7_k46 (R : Nat → Int32 → zm_H → zm_H) (v1 : Int32) (v2 : Int32) (v3 : Int32) (h : zm_H) : Nat × Int32 × zm_H := (f_Text_readSum_l7_k54 R v1 v2 (f_Text_emit (100000 + v3) h))
def f_Text_readSum_l7_k46_ok (R : Nat → Int32 → zm_H → zm_H) (O : Nat → Int32 → zm_H → Prop) (v1 : Int32) (v2 : Int32) (v3 : Int32) (h : zm_H) : Prop := f_Text_emit_ok (100000 + v3) h
theorem f_Text_readSum_l7_k46_w (R : Nat → Int32 → zm_H → zm_H) (hW : ∀ (m : Nat) (p : Int32) (h : zm_H), zWr [12] [(10, 2), (10, 7), (10, 8), (10, 10)] h (R m p h)) (v1 : Int32) (v2 : Int32) (v3 : Int32) (h : zm_H) : zWr [12] [(10, 10)] h ((f_Text_readSum_l7_k46 R v1 v2 v3 h).2.2) := by
  unfold f_Text_readSum_l7_k46
  exact (zWr_tr (f_Text_readSum_l7_k54_w R hW v1 v2 (f_Text_emit (100000 + v3) h)) (by decide) (by decide) (zWr_tr (f_Text_emit_w (100000 + v3) h) (by decide) (by decide) (zWr.refl _ _)))
def f_Text_readSum_l7_k41 (R : Nat → Int32 → zm_H → zm_H) (v1 : Int32) (v2 : Int32) (v3 : Int32) (h : zm_H) : Nat × Int32 × zm_H := (f_Text_readSum_l7_k46 R v1 v2 v3 (R 102 v1 h))
def f_Text_readSum_l7_k41_ok (R : Nat → Int32 → zm_H → zm_H) (O : Nat → Int32 → zm_H → Prop) (v1 : Int32) (v2 : Int32) (v3 : Int32) (h : zm_H) : Prop := (O 102 v1 h ∧ (f_Text_readSum_l7_k46_ok R O v1 v2 v3 (R 102 v1 h)))
theorem f_Text_readSum_l7_k41_w (R : Nat → Int32 → zm_H → zm_H) (hW : ∀ (m : Nat) (p : Int32) (h : zm_H), zWr [12] [(10, 2), (10, 7), (10, 8), (10, 10)] h (R m p h)) (v1 : Int32) (v2 : Int32) (v3 : Int32) (h : zm_H) : zWr [12] [(10, 2), (10, 7), (10, 8), (10, 10)] h ((f_Text_readSum_l7_k41 R v1 v2 v3 h).2.2) := by
  unfold f_Text_readSum_l7_k41
  exact (zWr_tr (f_Text_readSum_l7_k46_w R hW v1 v2 v3 (R 102 v1 h)) (by decide) (by decide) (zWr_tr (hW 102 v1 h) (by decide) (by decide) (zWr.refl _ _)))
def f_Text_readSum_l7_k32 (R : Nat → Int32 → zm_H → zm_H) (v1 : Int32) (v2 : Int32) (h : zm_H) : Nat × Int32 × zm_H := (f_Text_readSum_l7_k41 R v1 v2 (zf h 10 8) (f_Text_step h))
def f_Text_readSum_l7_k32_ok (R : Nat → Int32 → zm_H → zm_H) (O : Nat → Int32 → zm_H → Prop) (v1 : Int32) (v2 : Int32) (h : zm_H) : Prop := (f_Text_step_ok h ∧ (f_Text_readSum_l7_k41_ok R O v1 v2 (zf h 10 8) (f_Text_step h)))
theorem f_Text_readSum_l7_k32_w (R : Nat → Int32 → zm_H → zm_H) (hW : ∀ (m : Nat) (p : Int32) (h : zm_H), zWr [12] [(10, 2), (10, 7), (10, 8), (10, 10)] h (R m p h)) (v1 : Int32) (v2 : Int32) (h : zm_H) : zWr [12] [(10, 2), (10, 7), (10, 8), (10, 10)] h ((f_Text_readSum_l7_k32 R v1 v2 h).2.2) := by
  unfold f_Text_readSum_l7_k32
  exact (zWr_tr (f_Text_readSum_l7_k41_w R hW v1 v2 (zf h 10 8) (f_Text_step h)) (by decide) (by decide) (zWr_tr (f_Text_step_w h) (by decide) (by decide) (zWr.refl _ _)))
def f_Text_readSum_l7_b (R : Nat → Int32 → zm_H → zm_H) (v1 : Int32) (v2 : Int32) (h : zm_H) : Nat × Int32 × zm_H := (if (400 ≤ v2) then (1, v2, h) else (if ((zf h 10 8) = 43) then (f_Text_readSum_l7_k32 R v1 v2 h) else (if ((zf h 10 8) = 45) then (f_Text_readSum_l7_k32 R v1 v2 h) else (1, v2, h))))
def f_Text_readSum_l7_b_ok (R : Nat → Int32 → zm_H → zm_H) (O : Nat → Int32 → zm_H → Prop) (v1 : Int32) (v2 : Int32) (h : zm_H) : Prop := (((400 ≤ v2) → True) ∧ (¬ (400 ≤ v2) → ((((zf h 10 8) = 43) → (f_Text_readSum_l7_k32_ok R O v1 v2 h)) ∧ (¬ ((zf h 10 8) = 43) → ((((zf h 10 8) = 45) → (f_Text_readSum_l7_k32_ok R O v1 v2 h)) ∧ (¬ ((zf h 10 8) = 45) → True))))))
theorem f_Text_readSum_l7_b_w (R : Nat → Int32 → zm_H → zm_H) (hW : ∀ (m : Nat) (p : Int32) (h : zm_H), zWr [12] [(10, 2), (10, 7), (10, 8), (10, 10)] h (R m p h)) (v1 : Int32) (v2 : Int32) (h : zm_H) : zWr [12] [(10, 2), (10, 7), (10, 8), (10, 10)] h ((f_Text_readSum_l7_b R v1 v2 h).2.2) := by
  unfold f_Text_readSum_l7_b
  exact (zWr_ite (fun z : Nat × Int32 × zm_H => z.2.2) (zWr.refl _ _) (zWr_ite (fun z : Nat × Int32 × zm_H => z.2.2) (zWr_tr (f_Text_readSum_l7_k32_w R hW v1 v2 h) (by decide) (by decide) (zWr.refl _ _)) (zWr_ite (fun z : Nat × Int32 × zm_H => z.2.2) (zWr_tr (f_Text_readSum_l7_k32_w R hW v1 v2 h) (by decide) (by decide) (zWr.refl _ _)) (zWr.refl _ _))))
def f_Text_readSum_l7 (R : Nat → Int32 → zm_H → zm_H) (v1 : Int32) (n : Nat) (t : Int32 × zm_H) : Nat × Int32 × zm_H := zwh (fun t => f_Text_readSum_l7_b R v1 t.1 t.2) n t
def f_Text_readSum_l7_ok (R : Nat → Int32 → zm_H → zm_H) (O : Nat → Int32 → zm_H → Prop) (v1 : Int32) (n : Nat) (t : Int32 × zm_H) : Prop := zwo (fun t => f_Text_readSum_l7_b R v1 t.1 t.2) (fun t => f_Text_readSum_l7_b_ok R O v1 t.1 t.2) n t
theorem f_Text_readSum_l7_w (R : Nat → Int32 → zm_H → zm_H) (hW : ∀ (m : Nat) (p : Int32) (h : zm_H), zWr [12] [(10, 2), (10, 7), (10, 8), (10, 10)] h (R m p h)) (v1 : Int32) (n : Nat) (t : Int32 × zm_H) : zWr [12] [(10, 2), (10, 7), (10, 8), (10, 10)] (t.2) ((f_Text_readSum_l7 R v1 n t).2.2) := by
  unfold f_Text_readSum_l7
  exact zWr_zwh (fun t : Int32 × zm_H => t.2) (fun t => f_Text_readSum_l7_b_w R hW v1 t.1 t.2)
def f_Text_readSum_k60 (R : Nat → Int32 → zm_H → zm_H) (h : zm_H) : zm_H := h
def f_Text_readSum_k60_ok (R : Nat → Int32 → zm_H → zm_H) (O : Nat → Int32 → zm_H → Prop) (h : zm_H) : Prop := True
theorem f_Text_readSum_k60_w (R : Nat → Int32 → zm_H → zm_H) (hW : ∀ (m : Nat) (p : Int32) (h : zm_H), zWr [12] [(10, 2), (10, 7), (10, 8), (10, 10)] h (R m p h)) (h : zm_H) : zWr [] [] h ((f_Text_readSum_k60 R h)) := by
  unfold f_Text_readSum_k60
  exact (zWr.refl _ _)
def f_Text_readSum_a7 (R : Nat → Int32 → zm_H → zm_H) (r : Nat × Int32 × zm_H) : zm_H := (f_Text_readSum_k60 R (r.2.2))
def f_Text_readSum_a7_ok (R : Nat → Int32 → zm_H → zm_H) (O : Nat → Int32 → zm_H → Prop) (r : Nat × Int32 × zm_H) : Prop := True
theorem f_Text_readSum_a7_w (R : Nat → Int32 → zm_H → zm_H) (hW : ∀ (m : Nat) (p : Int32) (h : zm_H), zWr [12] [(10, 2), (10, 7), (10, 8), (10, 10)] h (R m p h)) (r : Nat × Int32 × zm_H) : zWr [] [] (r.2.2) ((f_Text_readSum_a7 R r)) := by
  unfold f_Text_readSum_a7
  exact (zWr_tr (f_Text_readSum_k60_w R hW (r.2.2)) (by decide) (by decide) (zWr.refl _ _))
def f_Text_readSum_k5 (R : Nat → Int32 → zm_H → zm_H) (v1 : Int32) (h : zm_H) : zm_H := (f_Text_readSum_a7 R (f_Text_readSum_l7 R v1 zF (0, h)))
def f_Text_readSum_k5_ok (R : Nat → Int32 → zm_H → zm_H) (O : Nat → Int32 → zm_H → Prop) (v1 : Int32) (h : zm_H) : Prop := (f_Text_readSum_l7_ok R O v1 zF (0, h) ∧ f_Text_readSum_a7_ok R O (f_Text_readSum_l7 R v1 zF (0, h)))
theorem f_Text_readSum_k5_w (R : Nat → Int32 → zm_H → zm_H) (hW : ∀ (m : Nat) (p : Int32) (h : zm_H), zWr [12] [(10, 2), (10, 7), (10, 8), (10, 10)] h (R m p h)) (v1 : Int32) (h : zm_H) : zWr [12] [(10, 2), (10, 7), (10, 8), (10, 10)] h ((f_Text_readSum_k5 R v1 h)) := by
  unfold f_Text_readSum_k5
  exact (zWr_tr (f_Text_readSum_a7_w R hW (f_Text_readSum_l7 R v1 zF (0, h))) (by decide) (by decide) (zWr_tr (f_Text_readSum_l7_w R hW v1 zF (0, h)) (by decide) (by decide) (zWr.refl _ _)))
def f_Text_readSum (R : Nat → Int32 → zm_H → zm_H) (p1 : Int32) (h : zm_H) : zm_H := (f_Text_readSum_k5 R p1 (R 102 p1 h))
def f_Text_readSum_ok (R : Nat → Int32 → zm_H → zm_H) (O : Nat → Int32 → zm_H → Prop) (p1 : Int32) (h : zm_H) : Prop := (O 102 p1 h ∧ (f_Text_readSum_k5_ok R O p1 (R 102 p1 h)))
theorem f_Text_readSum_w (R : Nat → Int32 → zm_H → zm_H) (hW : ∀ (m : Nat) (p : Int32) (h : zm_H), zWr [12] [(10, 2), (10, 7), (10, 8), (10, 10)] h (R m p h)) (p1 : Int32) (h : zm_H) : zWr [12] [(10, 2), (10, 7), (10, 8), (10, 10)] h ((f_Text_readSum R p1 h)) := by
  unfold f_Text_readSum
  exact (zWr_tr (f_Text_readSum_k5_w R hW p1 (R 102 p1 h)) (by decide) (by decide) (zWr_tr (hW 102 p1 h) (by decide) (by decide) (zWr.refl _ _)))
def f_Text_readProduct_l7_k54 (R : Nat → Int32 → zm_H → zm_H) (v1 : Int32) (v2 : Int32) (h : zm_H) : Nat × Int32 × zm_H := (0, (v2 + 1), h)
def f_Text_readProduct_l7_k54_ok (R : Nat → Int32 → zm_H → zm_H) (O : Nat → Int32 → zm_H → Prop) (v1 : Int32) (v2 : Int32) (h : zm_H) : Prop := True
theorem f_Text_readProduct_l7_k54_w (R : Nat → Int32 → zm_H → zm_H) (hW : ∀ (m : Nat) (p : Int32) (h : zm_H), zWr [12] [(10, 2), (10, 7), (10, 8), (10, 10)] h (R m p h)) (v1 : Int32) (v2 : Int32) (h : zm_H) : zWr [] [] h ((f_Text_readProduct_l7_k54 R v1 v2 h).2.2) := by
  unfold f_Text_readProduct_l7_k54
  exact (zWr.refl _ _)
def f_Text_readProduct_l7_k46 (R : Nat → Int32 → zm_H → zm_H) (v1 : Int32) (v2 : Int32) (v3 : Int32) (h : zm_H) : Nat × Int32 × zm_H := (f_Text_readProduct_l7_k54 R v1 v2 (f_Text_emit (100000 + v3) h))
def f_Text_readProduct_l7_k46_ok (R : Nat → Int32 → zm_H → zm_H) (O : Nat → Int32 → zm_H → Prop) (v1 : Int32) (v2 : Int32) (v3 : Int32) (h : zm_H) : Prop := f_Text_emit_ok (100000 + v3) h
theorem f_Text_readProduct_l7_k46_w (R : Nat → Int32 → zm_H → zm_H) (hW : ∀ (m : Nat) (p : Int32) (h : zm_H), zWr [12] [(10, 2), (10, 7), (10, 8), (10, 10)] h (R m p h)) (v1 : Int32) (v2 : Int32) (v3 : Int32) (h : zm_H) : zWr [12] [(10, 10)] h ((f_Text_readProduct_l7_k46 R v1 v2 v3 h).2.2) := by
  unfold f_Text_readProduct_l7_k46
  exact (zWr_tr (f_Text_readProduct_l7_k54_w R hW v1 v2 (f_Text_emit (100000 + v3) h)) (by decide) (by decide) (zWr_tr (f_Text_emit_w (100000 + v3) h) (by decide) (by decide) (zWr.refl _ _)))
def f_Text_readProduct_l7_k41 (R : Nat → Int32 → zm_H → zm_H) (v1 : Int32) (v2 : Int32) (v3 : Int32) (h : zm_H) : Nat × Int32 × zm_H := (f_Text_readProduct_l7_k46 R v1 v2 v3 (R 103 v1 h))
def f_Text_readProduct_l7_k41_ok (R : Nat → Int32 → zm_H → zm_H) (O : Nat → Int32 → zm_H → Prop) (v1 : Int32) (v2 : Int32) (v3 : Int32) (h : zm_H) : Prop := (O 103 v1 h ∧ (f_Text_readProduct_l7_k46_ok R O v1 v2 v3 (R 103 v1 h)))
theorem f_Text_readProduct_l7_k41_w (R : Nat → Int32 → zm_H → zm_H) (hW : ∀ (m : Nat) (p : Int32) (h : zm_H), zWr [12] [(10, 2), (10, 7), (10, 8), (10, 10)] h (R m p h)) (v1 : Int32) (v2 : Int32) (v3 : Int32) (h : zm_H) : zWr [12] [(10, 2), (10, 7), (10, 8), (10, 10)] h ((f_Text_readProduct_l7_k41 R v1 v2 v3 h).2.2) := by
  unfold f_Text_readProduct_l7_k41
  exact (zWr_tr (f_Text_readProduct_l7_k46_w R hW v1 v2 v3 (R 103 v1 h)) (by decide) (by decide) (zWr_tr (hW 103 v1 h) (by decide) (by decide) (zWr.refl _ _)))
def f_Text_readProduct_l7_k32 (R : Nat → Int32 → zm_H → zm_H) (v1 : Int32) (v2 : Int32) (h : zm_H) : Nat × Int32 × zm_H := (f_Text_readProduct_l7_k41 R v1 v2 (zf h 10 8) (f_Text_step h))
def f_Text_readProduct_l7_k32_ok (R : Nat → Int32 → zm_H → zm_H) (O : Nat → Int32 → zm_H → Prop) (v1 : Int32) (v2 : Int32) (h : zm_H) : Prop := (f_Text_step_ok h ∧ (f_Text_readProduct_l7_k41_ok R O v1 v2 (zf h 10 8) (f_Text_step h)))
theorem f_Text_readProduct_l7_k32_w (R : Nat → Int32 → zm_H → zm_H) (hW : ∀ (m : Nat) (p : Int32) (h : zm_H), zWr [12] [(10, 2), (10, 7), (10, 8), (10, 10)] h (R m p h)) (v1 : Int32) (v2 : Int32) (h : zm_H) : zWr [12] [(10, 2), (10, 7), (10, 8), (10, 10)] h ((f_Text_readProduct_l7_k32 R v1 v2 h).2.2) := by
  unfold f_Text_readProduct_l7_k32
  exact (zWr_tr (f_Text_readProduct_l7_k41_w R hW v1 v2 (zf h 10 8) (f_Text_step h)) (by decide) (by decide) (zWr_tr (f_Text_step_w h) (by decide) (by decide) (zWr.refl _ _)))
def f_Text_readProduct_l7_b (R : Nat → Int32 → zm_H → zm_H) (v1 : Int32) (v2 : Int32) (h : zm_H) : Nat × Int32 × zm_H := (if (400 ≤ v2) then (1, v2, h) else (if ((zf h 10 8) = 42) then (f_Text_readProduct_l7_k32 R v1 v2 h) else (if ((zf h 10 8) = 47) then (f_Text_readProduct_l7_k32 R v1 v2 h) else (1, v2, h))))
def f_Text_readProduct_l7_b_ok (R : Nat → Int32 → zm_H → zm_H) (O : Nat → Int32 → zm_H → Prop) (v1 : Int32) (v2 : Int32) (h : zm_H) : Prop := (((400 ≤ v2) → True) ∧ (¬ (400 ≤ v2) → ((((zf h 10 8) = 42) → (f_Text_readProduct_l7_k32_ok R O v1 v2 h)) ∧ (¬ ((zf h 10 8) = 42) → ((((zf h 10 8) = 47) → (f_Text_readProduct_l7_k32_ok R O v1 v2 h)) ∧ (¬ ((zf h 10 8) = 47) → True))))))
theorem f_Text_readProduct_l7_b_w (R : Nat → Int32 → zm_H → zm_H) (hW : ∀ (m : Nat) (p : Int32) (h : zm_H), zWr [12] [(10, 2), (10, 7), (10, 8), (10, 10)] h (R m p h)) (v1 : Int32) (v2 : Int32) (h : zm_H) : zWr [12] [(10, 2), (10, 7), (10, 8), (10, 10)] h ((f_Text_readProduct_l7_b R v1 v2 h).2.2) := by
  unfold f_Text_readProduct_l7_b
  exact (zWr_ite (fun z : Nat × Int32 × zm_H => z.2.2) (zWr.refl _ _) (zWr_ite (fun z : Nat × Int32 × zm_H => z.2.2) (zWr_tr (f_Text_readProduct_l7_k32_w R hW v1 v2 h) (by decide) (by decide) (zWr.refl _ _)) (zWr_ite (fun z : Nat × Int32 × zm_H => z.2.2) (zWr_tr (f_Text_readProduct_l7_k32_w R hW v1 v2 h) (by decide) (by decide) (zWr.refl _ _)) (zWr.refl _ _))))
def f_Text_readProduct_l7 (R : Nat → Int32 → zm_H → zm_H) (v1 : Int32) (n : Nat) (t : Int32 × zm_H) : Nat × Int32 × zm_H := zwh (fun t => f_Text_readProduct_l7_b R v1 t.1 t.2) n t
def f_Text_readProduct_l7_ok (R : Nat → Int32 → zm_H → zm_H) (O : Nat → Int32 → zm_H → Prop) (v1 : Int32) (n : Nat) (t : Int32 × zm_H) : Prop := zwo (fun t => f_Text_readProduct_l7_b R v1 t.1 t.2) (fun t => f_Text_readProduct_l7_b_ok R O v1 t.1 t.2) n t
theorem f_Text_readProduct_l7_w (R : Nat → Int32 → zm_H → zm_H) (hW : ∀ (m : Nat) (p : Int32) (h : zm_H), zWr [12] [(10, 2), (10, 7), (10, 8), (10, 10)] h (R m p h)) (v1 : Int32) (n : Nat) (t : Int32 × zm_H) : zWr [12] [(10, 2), (10, 7), (10, 8), (10, 10)] (t.2) ((f_Text_readProduct_l7 R v1 n t).2.2) := by
  unfold f_Text_readProduct_l7
  exact zWr_zwh (fun t : Int32 × zm_H => t.2) (fun t => f_Text_readProduct_l7_b_w R hW v1 t.1 t.2)
def f_Text_readProduct_k60 (R : Nat → Int32 → zm_H → zm_H) (h : zm_H) : zm_H := h
def f_Text_readProduct_k60_ok (R : Nat → Int32 → zm_H → zm_H) (O : Nat → Int32 → zm_H → Prop) (h : zm_H) : Prop := True
theorem f_Text_readProduct_k60_w (R : Nat → Int32 → zm_H → zm_H) (hW : ∀ (m : Nat) (p : Int32) (h : zm_H), zWr [12] [(10, 2), (10, 7), (10, 8), (10, 10)] h (R m p h)) (h : zm_H) : zWr [] [] h ((f_Text_readProduct_k60 R h)) := by
  unfold f_Text_readProduct_k60
  exact (zWr.refl _ _)
def f_Text_readProduct_a7 (R : Nat → Int32 → zm_H → zm_H) (r : Nat × Int32 × zm_H) : zm_H := (f_Text_readProduct_k60 R (r.2.2))
def f_Text_readProduct_a7_ok (R : Nat → Int32 → zm_H → zm_H) (O : Nat → Int32 → zm_H → Prop) (r : Nat × Int32 × zm_H) : Prop := True
theorem f_Text_readProduct_a7_w (R : Nat → Int32 → zm_H → zm_H) (hW : ∀ (m : Nat) (p : Int32) (h : zm_H), zWr [12] [(10, 2), (10, 7), (10, 8), (10, 10)] h (R m p h)) (r : Nat × Int32 × zm_H) : zWr [] [] (r.2.2) ((f_Text_readProduct_a7 R r)) := by
  unfold f_Text_readProduct_a7
  exact (zWr_tr (f_Text_readProduct_k60_w R hW (r.2.2)) (by decide) (by decide) (zWr.refl _ _))
def f_Text_readProduct_k5 (R : Nat → Int32 → zm_H → zm_H) (v1 : Int32) (h : zm_H) : zm_H := (f_Text_readProduct_a7 R (f_Text_readProduct_l7 R v1 zF (0, h)))
def f_Text_readProduct_k5_ok (R : Nat → Int32 → zm_H → zm_H) (O : Nat → Int32 → zm_H → Prop) (v1 : Int32) (h : zm_H) : Prop := (f_Text_readProduct_l7_ok R O v1 zF (0, h) ∧ f_Text_readProduct_a7_ok R O (f_Text_readProduct_l7 R v1 zF (0, h)))
theorem f_Text_readProduct_k5_w (R : Nat → Int32 → zm_H → zm_H) (hW : ∀ (m : Nat) (p : Int32) (h : zm_H), zWr [12] [(10, 2), (10, 7), (10, 8), (10, 10)] h (R m p h)) (v1 : Int32) (h : zm_H) : zWr [12] [(10, 2), (10, 7), (10, 8), (10, 10)] h ((f_Text_readProduct_k5 R v1 h)) := by
  unfold f_Text_readProduct_k5
  exact (zWr_tr (f_Text_readProduct_a7_w R hW (f_Text_readProduct_l7 R v1 zF (0, h))) (by decide) (by decide) (zWr_tr (f_Text_readProduct_l7_w R hW v1 zF (0, h)) (by decide) (by decide) (zWr.refl _ _)))
def f_Text_readProduct (R : Nat → Int32 → zm_H → zm_H) (p1 : Int32) (h : zm_H) : zm_H := (f_Text_readProduct_k5 R p1 (R 103 p1 h))
def f_Text_readProduct_ok (R : Nat → Int32 → zm_H → zm_H) (O : Nat → Int32 → zm_H → Prop) (p1 : Int32) (h : zm_H) : Prop := (O 103 p1 h ∧ (f_Text_readProduct_k5_ok R O p1 (R 103 p1 h)))
theorem f_Text_readProduct_w (R : Nat → Int32 → zm_H → zm_H) (hW : ∀ (m : Nat) (p : Int32) (h : zm_H), zWr [12] [(10, 2), (10, 7), (10, 8), (10, 10)] h (R m p h)) (p1 : Int32) (h : zm_H) : zWr [12] [(10, 2), (10, 7), (10, 8), (10, 10)] h ((f_Text_readProduct R p1 h)) := by
  unfold f_Text_readProduct
  exact (zWr_tr (f_Text_readProduct_k5_w R hW p1 (R 103 p1 h)) (by decide) (by decide) (zWr_tr (hW 103 p1 h) (by decide) (by decide) (zWr.refl _ _)))
def f_Text_readFactor_k117 (R : Nat → Int32 → zm_H → zm_H) (h : zm_H) : zm_H := (f_Text_refuse h)
def f_Text_readFactor_k117_ok (R : Nat → Int32 → zm_H → zm_H) (O : Nat → Int32 → zm_H → Prop) (h : zm_H) : Prop := f_Text_refuse_ok h
theorem f_Text_readFactor_k117_w (R : Nat → Int32 → zm_H → zm_H) (hW : ∀ (m : Nat) (p : Int32) (h : zm_H), zWr [12] [(10, 2), (10, 7), (10, 8), (10, 10)] h (R m p h)) (h : zm_H) : zWr [] [(10, 2), (10, 8)] h ((f_Text_readFactor_k117 R h)) := by
  unfold f_Text_readFactor_k117
  exact (zWr_tr (f_Text_refuse_w h) (by decide) (by decide) (zWr.refl _ _))
def f_Text_need (p1 : Int32) (h : zm_H) : zm_H := (if ((zf h 10 8) = p1) then (f_Text_step h) else (f_Text_refuse h))
def f_Text_need_ok (p1 : Int32) (h : zm_H) : Prop := ((((zf h 10 8) = p1) → f_Text_step_ok h) ∧ (¬ ((zf h 10 8) = p1) → f_Text_refuse_ok h))
theorem f_Text_need_w (p1 : Int32) (h : zm_H) : zWr [] [(10, 2), (10, 7), (10, 8)] h ((f_Text_need p1 h)) := by
  unfold f_Text_need
  exact (zWr_ite (fun z : zm_H => z) (zWr_tr (f_Text_step_w h) (by decide) (by decide) (zWr.refl _ _)) (zWr_tr (f_Text_refuse_w h) (by decide) (by decide) (zWr.refl _ _)))
def f_Text_readFactor_k108 (R : Nat → Int32 → zm_H → zm_H) (h : zm_H) : zm_H := (f_Text_need 41 h)
def f_Text_readFactor_k108_ok (R : Nat → Int32 → zm_H → zm_H) (O : Nat → Int32 → zm_H → Prop) (h : zm_H) : Prop := f_Text_need_ok 41 h
theorem f_Text_readFactor_k108_w (R : Nat → Int32 → zm_H → zm_H) (hW : ∀ (m : Nat) (p : Int32) (h : zm_H), zWr [12] [(10, 2), (10, 7), (10, 8), (10, 10)] h (R m p h)) (h : zm_H) : zWr [] [(10, 2), (10, 7), (10, 8)] h ((f_Text_readFactor_k108 R h)) := by
  unfold f_Text_readFactor_k108
  exact (zWr_tr (f_Text_need_w 41 h) (by decide) (by decide) (zWr.refl _ _))
def f_Text_readFactor_k101 (R : Nat → Int32 → zm_H → zm_H) (v1 : Int32) (h : zm_H) : zm_H := (f_Text_readFactor_k108 R (R 101 (v1 + 1) h))
def f_Text_readFactor_k101_ok (R : Nat → Int32 → zm_H → zm_H) (O : Nat → Int32 → zm_H → Prop) (v1 : Int32) (h : zm_H) : Prop := (O 101 (v1 + 1) h ∧ (f_Text_readFactor_k108_ok R O (R 101 (v1 + 1) h)))
theorem f_Text_readFactor_k101_w (R : Nat → Int32 → zm_H → zm_H) (hW : ∀ (m : Nat) (p : Int32) (h : zm_H), zWr [12] [(10, 2), (10, 7), (10, 8), (10, 10)] h (R m p h)) (v1 : Int32) (h : zm_H) : zWr [12] [(10, 2), (10, 7), (10, 8), (10, 10)] h ((f_Text_readFactor_k101 R v1 h)) := by
  unfold f_Text_readFactor_k101
  exact (zWr_tr (f_Text_readFactor_k108_w R hW (R 101 (v1 + 1) h)) (by decide) (by decide) (zWr_tr (hW 101 (v1 + 1) h) (by decide) (by decide) (zWr.refl _ _)))
def f_Text_readFactor_k82 (R : Nat → Int32 → zm_H → zm_H) (v1 : Int32) (h : zm_H) : zm_H := (if ((zf h 10 8) = 40) then (if (8 ≤ v1) then (f_Text_readFactor_k117 R h) else (f_Text_readFactor_k101 R v1 (f_Text_step h))) else (f_Text_readFactor_k117 R h))
def f_Text_readFactor_k82_ok (R : Nat → Int32 → zm_H → zm_H) (O : Nat → Int32 → zm_H → Prop) (v1 : Int32) (h : zm_H) : Prop := ((((zf h 10 8) = 40) → (((8 ≤ v1) → (f_Text_readFactor_k117_ok R O h)) ∧ (¬ (8 ≤ v1) → (f_Text_step_ok h ∧ (f_Text_readFactor_k101_ok R O v1 (f_Text_step h)))))) ∧ (¬ ((zf h 10 8) = 40) → (f_Text_readFactor_k117_ok R O h)))
theorem f_Text_readFactor_k82_w (R : Nat → Int32 → zm_H → zm_H) (hW : ∀ (m : Nat) (p : Int32) (h : zm_H), zWr [12] [(10, 2), (10, 7), (10, 8), (10, 10)] h (R m p h)) (v1 : Int32) (h : zm_H) : zWr [12] [(10, 2), (10, 7), (10, 8), (10, 10)] h ((f_Text_readFactor_k82 R v1 h)) := by
  unfold f_Text_readFactor_k82
  exact (zWr_ite (fun z : zm_H => z) (zWr_ite (fun z : zm_H => z) (zWr_tr (f_Text_readFactor_k117_w R hW h) (by decide) (by decide) (zWr.refl _ _)) (zWr_tr (f_Text_readFactor_k101_w R hW v1 (f_Text_step h)) (by decide) (by decide) (zWr_tr (f_Text_step_w h) (by decide) (by decide) (zWr.refl _ _)))) (zWr_tr (f_Text_readFactor_k117_w R hW h) (by decide) (by decide) (zWr.refl _ _)))
def f_Text_readFactor_k75 (R : Nat → Int32 → zm_H → zm_H) (h : zm_H) : zm_H := (f_Text_step h)
def f_Text_readFactor_k75_ok (R : Nat → Int32 → zm_H → zm_H) (O : Nat → Int32 → zm_H → Prop) (h : zm_H) : Prop := f_Text_step_ok h
theorem f_Text_readFactor_k75_w (R : Nat → Int32 → zm_H → zm_H) (hW : ∀ (m : Nat) (p : Int32) (h : zm_H), zWr [12] [(10, 2), (10, 7), (10, 8), (10, 10)] h (R m p h)) (h : zm_H) : zWr [] [(10, 7), (10, 8)] h ((f_Text_readFactor_k75 R h)) := by
  unfold f_Text_readFactor_k75
  exact (zWr_tr (f_Text_step_w h) (by decide) (by decide) (zWr.refl _ _))
def f_Text_readFactor_k44 (R : Nat → Int32 → zm_H → zm_H) (v1 : Int32) (h : zm_H) : zm_H := (if ((zf h 10 8) < 304) then (f_Text_readFactor_k82 R v1 h) else (if (312 < (zf h 10 8)) then (f_Text_readFactor_k82 R v1 h) else (f_Text_readFactor_k75 R (f_Text_emit (100000 + (zf h 10 8)) h))))
def f_Text_readFactor_k44_ok (R : Nat → Int32 → zm_H → zm_H) (O : Nat → Int32 → zm_H → Prop) (v1 : Int32) (h : zm_H) : Prop := ((((zf h 10 8) < 304) → (f_Text_readFactor_k82_ok R O v1 h)) ∧ (¬ ((zf h 10 8) < 304) → (((312 < (zf h 10 8)) → (f_Text_readFactor_k82_ok R O v1 h)) ∧ (¬ (312 < (zf h 10 8)) → (f_Text_emit_ok (100000 + (zf h 10 8)) h ∧ (f_Text_readFactor_k75_ok R O (f_Text_emit (100000 + (zf h 10 8)) h)))))))
theorem f_Text_readFactor_k44_w (R : Nat → Int32 → zm_H → zm_H) (hW : ∀ (m : Nat) (p : Int32) (h : zm_H), zWr [12] [(10, 2), (10, 7), (10, 8), (10, 10)] h (R m p h)) (v1 : Int32) (h : zm_H) : zWr [12] [(10, 2), (10, 7), (10, 8), (10, 10)] h ((f_Text_readFactor_k44 R v1 h)) := by
  unfold f_Text_readFactor_k44
  exact (zWr_ite (fun z : zm_H => z) (zWr_tr (f_Text_readFactor_k82_w R hW v1 h) (by decide) (by decide) (zWr.refl _ _)) (zWr_ite (fun z : zm_H => z) (zWr_tr (f_Text_readFactor_k82_w R hW v1 h) (by decide) (by decide) (zWr.refl _ _)) (zWr_tr (f_Text_readFactor_k75_w R hW (f_Text_emit (100000 + (zf h 10 8)) h)) (by decide) (by decide) (zWr_tr (f_Text_emit_w (100000 + (zf h 10 8)) h) (by decide) (by decide) (zWr.refl _ _)))))
def f_Text_readFactor_k37 (R : Nat → Int32 → zm_H → zm_H) (h : zm_H) : zm_H := (f_Text_step h)
def f_Text_readFactor_k37_ok (R : Nat → Int32 → zm_H → zm_H) (O : Nat → Int32 → zm_H → Prop) (h : zm_H) : Prop := f_Text_step_ok h
theorem f_Text_readFactor_k37_w (R : Nat → Int32 → zm_H → zm_H) (hW : ∀ (m : Nat) (p : Int32) (h : zm_H), zWr [12] [(10, 2), (10, 7), (10, 8), (10, 10)] h (R m p h)) (h : zm_H) : zWr [] [(10, 7), (10, 8)] h ((f_Text_readFactor_k37 R h)) := by
  unfold f_Text_readFactor_k37
  exact (zWr_tr (f_Text_step_w h) (by decide) (by decide) (zWr.refl _ _))
def f_Text_readFactor (R : Nat → Int32 → zm_H → zm_H) (p1 : Int32) (h : zm_H) : zm_H := (if ((zf h 10 8) = 256) then (if (99999 < (zr h 164 (zf h 10 7))) then (f_Text_readFactor_k44 R p1 h) else (f_Text_readFactor_k37 R (f_Text_emit (zr h 164 (zf h 10 7)) h))) else (f_Text_readFactor_k44 R p1 h))
def f_Text_readFactor_ok (R : Nat → Int32 → zm_H → zm_H) (O : Nat → Int32 → zm_H → Prop) (p1 : Int32) (h : zm_H) : Prop := ((((zf h 10 8) = 256) → (vp_in (zf h 10 7) 401 ∧ (((99999 < (zr h 164 (zf h 10 7))) → (f_Text_readFactor_k44_ok R O p1 h)) ∧ (¬ (99999 < (zr h 164 (zf h 10 7))) → (vp_in (zf h 10 7) 401 ∧ (f_Text_emit_ok (zr h 164 (zf h 10 7)) h ∧ (f_Text_readFactor_k37_ok R O (f_Text_emit (zr h 164 (zf h 10 7)) h)))))))) ∧ (¬ ((zf h 10 8) = 256) → (f_Text_readFactor_k44_ok R O p1 h)))
theorem f_Text_readFactor_w (R : Nat → Int32 → zm_H → zm_H) (hW : ∀ (m : Nat) (p : Int32) (h : zm_H), zWr [12] [(10, 2), (10, 7), (10, 8), (10, 10)] h (R m p h)) (p1 : Int32) (h : zm_H) : zWr [12] [(10, 2), (10, 7), (10, 8), (10, 10)] h ((f_Text_readFactor R p1 h)) := by
  unfold f_Text_readFactor
  exact (zWr_ite (fun z : zm_H => z) (zWr_ite (fun z : zm_H => z) (zWr_tr (f_Text_readFactor_k44_w R hW p1 h) (by decide) (by decide) (zWr.refl _ _)) (zWr_tr (f_Text_readFactor_k37_w R hW (f_Text_emit (zr h 164 (zf h 10 7)) h)) (by decide) (by decide) (zWr_tr (f_Text_emit_w (zr h 164 (zf h 10 7)) h) (by decide) (by decide) (zWr.refl _ _)))) (zWr_tr (f_Text_readFactor_k44_w R hW p1 h) (by decide) (by decide) (zWr.refl _ _)))
def f_Text_readEither_l7_k39 (R : Nat → Int32 → zm_H → zm_H) (v1 : Int32) (v2 : Int32) (h : zm_H) : Nat × Int32 × zm_H := (0, (v2 + 1), h)
def f_Text_readEither_l7_k39_ok (R : Nat → Int32 → zm_H → zm_H) (O : Nat → Int32 → zm_H → Prop) (v1 : Int32) (v2 : Int32) (h : zm_H) : Prop := True
theorem f_Text_readEither_l7_k39_w (R : Nat → Int32 → zm_H → zm_H) (hW : ∀ (m : Nat) (p : Int32) (h : zm_H), zWr [12] [(10, 2), (10, 7), (10, 8), (10, 10)] h (R m p h)) (v1 : Int32) (v2 : Int32) (h : zm_H) : zWr [] [] h ((f_Text_readEither_l7_k39 R v1 v2 h).2.2) := by
  unfold f_Text_readEither_l7_k39
  exact (zWr.refl _ _)
def f_Text_readEither_l7_k33 (R : Nat → Int32 → zm_H → zm_H) (v1 : Int32) (v2 : Int32) (h : zm_H) : Nat × Int32 × zm_H := (f_Text_readEither_l7_k39 R v1 v2 (f_Text_emit 100313 h))
def f_Text_readEither_l7_k33_ok (R : Nat → Int32 → zm_H → zm_H) (O : Nat → Int32 → zm_H → Prop) (v1 : Int32) (v2 : Int32) (h : zm_H) : Prop := f_Text_emit_ok 100313 h
theorem f_Text_readEither_l7_k33_w (R : Nat → Int32 → zm_H → zm_H) (hW : ∀ (m : Nat) (p : Int32) (h : zm_H), zWr [12] [(10, 2), (10, 7), (10, 8), (10, 10)] h (R m p h)) (v1 : Int32) (v2 : Int32) (h : zm_H) : zWr [12] [(10, 10)] h ((f_Text_readEither_l7_k33 R v1 v2 h).2.2) := by
  unfold f_Text_readEither_l7_k33
  exact (zWr_tr (f_Text_readEither_l7_k39_w R hW v1 v2 (f_Text_emit 100313 h)) (by decide) (by decide) (zWr_tr (f_Text_emit_w 100313 h) (by decide) (by decide) (zWr.refl _ _)))
def f_Text_readEither_l7_k28 (R : Nat → Int32 → zm_H → zm_H) (v1 : Int32) (v2 : Int32) (h : zm_H) : Nat × Int32 × zm_H := (f_Text_readEither_l7_k33 R v1 v2 (R 107 v1 h))
def f_Text_readEither_l7_k28_ok (R : Nat → Int32 → zm_H → zm_H) (O : Nat → Int32 → zm_H → Prop) (v1 : Int32) (v2 : Int32) (h : zm_H) : Prop := (O 107 v1 h ∧ (f_Text_readEither_l7_k33_ok R O v1 v2 (R 107 v1 h)))
theorem f_Text_readEither_l7_k28_w (R : Nat → Int32 → zm_H → zm_H) (hW : ∀ (m : Nat) (p : Int32) (h : zm_H), zWr [12] [(10, 2), (10, 7), (10, 8), (10, 10)] h (R m p h)) (v1 : Int32) (v2 : Int32) (h : zm_H) : zWr [12] [(10, 2), (10, 7), (10, 8), (10, 10)] h ((f_Text_readEither_l7_k28 R v1 v2 h).2.2) := by
  unfold f_Text_readEither_l7_k28
  exact (zWr_tr (f_Text_readEither_l7_k33_w R hW v1 v2 (R 107 v1 h)) (by decide) (by decide) (zWr_tr (hW 107 v1 h) (by decide) (by decide) (zWr.refl _ _)))
def f_Text_readEither_l7_b (R : Nat → Int32 → zm_H → zm_H) (v1 : Int32) (v2 : Int32) (h : zm_H) : Nat × Int32 × zm_H := (if (400 ≤ v2) then (1, v2, h) else (if ((zf h 10 8) = 313) then (f_Text_readEither_l7_k28 R v1 v2 (f_Text_step h)) else (1, v2, h)))
def f_Text_readEither_l7_b_ok (R : Nat → Int32 → zm_H → zm_H) (O : Nat → Int32 → zm_H → Prop) (v1 : Int32) (v2 : Int32) (h : zm_H) : Prop := (((400 ≤ v2) → True) ∧ (¬ (400 ≤ v2) → ((((zf h 10 8) = 313) → (f_Text_step_ok h ∧ (f_Text_readEither_l7_k28_ok R O v1 v2 (f_Text_step h)))) ∧ (¬ ((zf h 10 8) = 313) → True))))
theorem f_Text_readEither_l7_b_w (R : Nat → Int32 → zm_H → zm_H) (hW : ∀ (m : Nat) (p : Int32) (h : zm_H), zWr [12] [(10, 2), (10, 7), (10, 8), (10, 10)] h (R m p h)) (v1 : Int32) (v2 : Int32) (h : zm_H) : zWr [12] [(10, 2), (10, 7), (10, 8), (10, 10)] h ((f_Text_readEither_l7_b R v1 v2 h).2.2) := by
  unfold f_Text_readEither_l7_b
  exact (zWr_ite (fun z : Nat × Int32 × zm_H => z.2.2) (zWr.refl _ _) (zWr_ite (fun z : Nat × Int32 × zm_H => z.2.2) (zWr_tr (f_Text_readEither_l7_k28_w R hW v1 v2 (f_Text_step h)) (by decide) (by decide) (zWr_tr (f_Text_step_w h) (by decide) (by decide) (zWr.refl _ _))) (zWr.refl _ _)))
def f_Text_readEither_l7 (R : Nat → Int32 → zm_H → zm_H) (v1 : Int32) (n : Nat) (t : Int32 × zm_H) : Nat × Int32 × zm_H := zwh (fun t => f_Text_readEither_l7_b R v1 t.1 t.2) n t
def f_Text_readEither_l7_ok (R : Nat → Int32 → zm_H → zm_H) (O : Nat → Int32 → zm_H → Prop) (v1 : Int32) (n : Nat) (t : Int32 × zm_H) : Prop := zwo (fun t => f_Text_readEither_l7_b R v1 t.1 t.2) (fun t => f_Text_readEither_l7_b_ok R O v1 t.1 t.2) n t
theorem f_Text_readEither_l7_w (R : Nat → Int32 → zm_H → zm_H) (hW : ∀ (m : Nat) (p : Int32) (h : zm_H), zWr [12] [(10, 2), (10, 7), (10, 8), (10, 10)] h (R m p h)) (v1 : Int32) (n : Nat) (t : Int32 × zm_H) : zWr [12] [(10, 2), (10, 7), (10, 8), (10, 10)] (t.2) ((f_Text_readEither_l7 R v1 n t).2.2) := by
  unfold f_Text_readEither_l7
  exact zWr_zwh (fun t : Int32 × zm_H => t.2) (fun t => f_Text_readEither_l7_b_w R hW v1 t.1 t.2)
def f_Text_readEither_k45 (R : Nat → Int32 → zm_H → zm_H) (h : zm_H) : zm_H := h
def f_Text_readEither_k45_ok (R : Nat → Int32 → zm_H → zm_H) (O : Nat → Int32 → zm_H → Prop) (h : zm_H) : Prop := True
theorem f_Text_readEither_k45_w (R : Nat → Int32 → zm_H → zm_H) (hW : ∀ (m : Nat) (p : Int32) (h : zm_H), zWr [12] [(10, 2), (10, 7), (10, 8), (10, 10)] h (R m p h)) (h : zm_H) : zWr [] [] h ((f_Text_readEither_k45 R h)) := by
  unfold f_Text_readEither_k45
  exact (zWr.refl _ _)
def f_Text_readEither_a7 (R : Nat → Int32 → zm_H → zm_H) (r : Nat × Int32 × zm_H) : zm_H := (f_Text_readEither_k45 R (r.2.2))
def f_Text_readEither_a7_ok (R : Nat → Int32 → zm_H → zm_H) (O : Nat → Int32 → zm_H → Prop) (r : Nat × Int32 × zm_H) : Prop := True
theorem f_Text_readEither_a7_w (R : Nat → Int32 → zm_H → zm_H) (hW : ∀ (m : Nat) (p : Int32) (h : zm_H), zWr [12] [(10, 2), (10, 7), (10, 8), (10, 10)] h (R m p h)) (r : Nat × Int32 × zm_H) : zWr [] [] (r.2.2) ((f_Text_readEither_a7 R r)) := by
  unfold f_Text_readEither_a7
  exact (zWr_tr (f_Text_readEither_k45_w R hW (r.2.2)) (by decide) (by decide) (zWr.refl _ _))
def f_Text_readEither_k5 (R : Nat → Int32 → zm_H → zm_H) (v1 : Int32) (h : zm_H) : zm_H := (f_Text_readEither_a7 R (f_Text_readEither_l7 R v1 zF (0, h)))
def f_Text_readEither_k5_ok (R : Nat → Int32 → zm_H → zm_H) (O : Nat → Int32 → zm_H → Prop) (v1 : Int32) (h : zm_H) : Prop := (f_Text_readEither_l7_ok R O v1 zF (0, h) ∧ f_Text_readEither_a7_ok R O (f_Text_readEither_l7 R v1 zF (0, h)))
theorem f_Text_readEither_k5_w (R : Nat → Int32 → zm_H → zm_H) (hW : ∀ (m : Nat) (p : Int32) (h : zm_H), zWr [12] [(10, 2), (10, 7), (10, 8), (10, 10)] h (R m p h)) (v1 : Int32) (h : zm_H) : zWr [12] [(10, 2), (10, 7), (10, 8), (10, 10)] h ((f_Text_readEither_k5 R v1 h)) := by
  unfold f_Text_readEither_k5
  exact (zWr_tr (f_Text_readEither_a7_w R hW (f_Text_readEither_l7 R v1 zF (0, h))) (by decide) (by decide) (zWr_tr (f_Text_readEither_l7_w R hW v1 zF (0, h)) (by decide) (by decide) (zWr.refl _ _)))
def f_Text_readEither (R : Nat → Int32 → zm_H → zm_H) (p1 : Int32) (h : zm_H) : zm_H := (f_Text_readEither_k5 R p1 (R 107 p1 h))
def f_Text_readEither_ok (R : Nat → Int32 → zm_H → zm_H) (O : Nat → Int32 → zm_H → Prop) (p1 : Int32) (h : zm_H) : Prop := (O 107 p1 h ∧ (f_Text_readEither_k5_ok R O p1 (R 107 p1 h)))
theorem f_Text_readEither_w (R : Nat → Int32 → zm_H → zm_H) (hW : ∀ (m : Nat) (p : Int32) (h : zm_H), zWr [12] [(10, 2), (10, 7), (10, 8), (10, 10)] h (R m p h)) (p1 : Int32) (h : zm_H) : zWr [12] [(10, 2), (10, 7), (10, 8), (10, 10)] h ((f_Text_readEither R p1 h)) := by
  unfold f_Text_readEither
  exact (zWr_tr (f_Text_readEither_k5_w R hW p1 (R 107 p1 h)) (by decide) (by decide) (zWr_tr (hW 107 p1 h) (by decide) (by decide) (zWr.refl _ _)))
def f_Text_readBoth_l7_k39 (R : Nat → Int32 → zm_H → zm_H) (v1 : Int32) (v2 : Int32) (h : zm_H) : Nat × Int32 × zm_H := (0, (v2 + 1), h)
def f_Text_readBoth_l7_k39_ok (R : Nat → Int32 → zm_H → zm_H) (O : Nat → Int32 → zm_H → Prop) (v1 : Int32) (v2 : Int32) (h : zm_H) : Prop := True
theorem f_Text_readBoth_l7_k39_w (R : Nat → Int32 → zm_H → zm_H) (hW : ∀ (m : Nat) (p : Int32) (h : zm_H), zWr [12] [(10, 2), (10, 7), (10, 8), (10, 10)] h (R m p h)) (v1 : Int32) (v2 : Int32) (h : zm_H) : zWr [] [] h ((f_Text_readBoth_l7_k39 R v1 v2 h).2.2) := by
  unfold f_Text_readBoth_l7_k39
  exact (zWr.refl _ _)
def f_Text_readBoth_l7_k33 (R : Nat → Int32 → zm_H → zm_H) (v1 : Int32) (v2 : Int32) (h : zm_H) : Nat × Int32 × zm_H := (f_Text_readBoth_l7_k39 R v1 v2 (f_Text_emit 100314 h))
def f_Text_readBoth_l7_k33_ok (R : Nat → Int32 → zm_H → zm_H) (O : Nat → Int32 → zm_H → Prop) (v1 : Int32) (v2 : Int32) (h : zm_H) : Prop := f_Text_emit_ok 100314 h
theorem f_Text_readBoth_l7_k33_w (R : Nat → Int32 → zm_H → zm_H) (hW : ∀ (m : Nat) (p : Int32) (h : zm_H), zWr [12] [(10, 2), (10, 7), (10, 8), (10, 10)] h (R m p h)) (v1 : Int32) (v2 : Int32) (h : zm_H) : zWr [12] [(10, 10)] h ((f_Text_readBoth_l7_k33 R v1 v2 h).2.2) := by
  unfold f_Text_readBoth_l7_k33
  exact (zWr_tr (f_Text_readBoth_l7_k39_w R hW v1 v2 (f_Text_emit 100314 h)) (by decide) (by decide) (zWr_tr (f_Text_emit_w 100314 h) (by decide) (by decide) (zWr.refl _ _)))
def f_Text_readBoth_l7_k28 (R : Nat → Int32 → zm_H → zm_H) (v1 : Int32) (v2 : Int32) (h : zm_H) : Nat × Int32 × zm_H := (f_Text_readBoth_l7_k33 R v1 v2 (R 108 v1 h))
def f_Text_readBoth_l7_k28_ok (R : Nat → Int32 → zm_H → zm_H) (O : Nat → Int32 → zm_H → Prop) (v1 : Int32) (v2 : Int32) (h : zm_H) : Prop := (O 108 v1 h ∧ (f_Text_readBoth_l7_k33_ok R O v1 v2 (R 108 v1 h)))
theorem f_Text_readBoth_l7_k28_w (R : Nat → Int32 → zm_H → zm_H) (hW : ∀ (m : Nat) (p : Int32) (h : zm_H), zWr [12] [(10, 2), (10, 7), (10, 8), (10, 10)] h (R m p h)) (v1 : Int32) (v2 : Int32) (h : zm_H) : zWr [12] [(10, 2), (10, 7), (10, 8), (10, 10)] h ((f_Text_readBoth_l7_k28 R v1 v2 h).2.2) := by
  unfold f_Text_readBoth_l7_k28
  exact (zWr_tr (f_Text_readBoth_l7_k33_w R hW v1 v2 (R 108 v1 h)) (by decide) (by decide) (zWr_tr (hW 108 v1 h) (by decide) (by decide) (zWr.refl _ _)))
def f_Text_readBoth_l7_b (R : Nat → Int32 → zm_H → zm_H) (v1 : Int32) (v2 : Int32) (h : zm_H) : Nat × Int32 × zm_H := (if (400 ≤ v2) then (1, v2, h) else (if ((zf h 10 8) = 314) then (f_Text_readBoth_l7_k28 R v1 v2 (f_Text_step h)) else (1, v2, h)))
def f_Text_readBoth_l7_b_ok (R : Nat → Int32 → zm_H → zm_H) (O : Nat → Int32 → zm_H → Prop) (v1 : Int32) (v2 : Int32) (h : zm_H) : Prop := (((400 ≤ v2) → True) ∧ (¬ (400 ≤ v2) → ((((zf h 10 8) = 314) → (f_Text_step_ok h ∧ (f_Text_readBoth_l7_k28_ok R O v1 v2 (f_Text_step h)))) ∧ (¬ ((zf h 10 8) = 314) → True))))
theorem f_Text_readBoth_l7_b_w (R : Nat → Int32 → zm_H → zm_H) (hW : ∀ (m : Nat) (p : Int32) (h : zm_H), zWr [12] [(10, 2), (10, 7), (10, 8), (10, 10)] h (R m p h)) (v1 : Int32) (v2 : Int32) (h : zm_H) : zWr [12] [(10, 2), (10, 7), (10, 8), (10, 10)] h ((f_Text_readBoth_l7_b R v1 v2 h).2.2) := by
  unfold f_Text_readBoth_l7_b
  exact (zWr_ite (fun z : Nat × Int32 × zm_H => z.2.2) (zWr.refl _ _) (zWr_ite (fun z : Nat × Int32 × zm_H => z.2.2) (zWr_tr (f_Text_readBoth_l7_k28_w R hW v1 v2 (f_Text_step h)) (by decide) (by decide) (zWr_tr (f_Text_step_w h) (by decide) (by decide) (zWr.refl _ _))) (zWr.refl _ _)))
def f_Text_readBoth_l7 (R : Nat → Int32 → zm_H → zm_H) (v1 : Int32) (n : Nat) (t : Int32 × zm_H) : Nat × Int32 × zm_H := zwh (fun t => f_Text_readBoth_l7_b R v1 t.1 t.2) n t
def f_Text_readBoth_l7_ok (R : Nat → Int32 → zm_H → zm_H) (O : Nat → Int32 → zm_H → Prop) (v1 : Int32) (n : Nat) (t : Int32 × zm_H) : Prop := zwo (fun t => f_Text_readBoth_l7_b R v1 t.1 t.2) (fun t => f_Text_readBoth_l7_b_ok R O v1 t.1 t.2) n t
theorem f_Text_readBoth_l7_w (R : Nat → Int32 → zm_H → zm_H) (hW : ∀ (m : Nat) (p : Int32) (h : zm_H), zWr [12] [(10, 2), (10, 7), (10, 8), (10, 10)] h (R m p h)) (v1 : Int32) (n : Nat) (t : Int32 × zm_H) : zWr [12] [(10, 2), (10, 7), (10, 8), (10, 10)] (t.2) ((f_Text_readBoth_l7 R v1 n t).2.2) := by
  unfold f_Text_readBoth_l7
  exact zWr_zwh (fun t : Int32 × zm_H => t.2) (fun t => f_Text_readBoth_l7_b_w R hW v1 t.1 t.2)
def f_Text_readBoth_k45 (R : Nat → Int32 → zm_H → zm_H) (h : zm_H) : zm_H := h
def f_Text_readBoth_k45_ok (R : Nat → Int32 → zm_H → zm_H) (O : Nat → Int32 → zm_H → Prop) (h : zm_H) : Prop := True
theorem f_Text_readBoth_k45_w (R : Nat → Int32 → zm_H → zm_H) (hW : ∀ (m : Nat) (p : Int32) (h : zm_H), zWr [12] [(10, 2), (10, 7), (10, 8), (10, 10)] h (R m p h)) (h : zm_H) : zWr [] [] h ((f_Text_readBoth_k45 R h)) := by
  unfold f_Text_readBoth_k45
  exact (zWr.refl _ _)
def f_Text_readBoth_a7 (R : Nat → Int32 → zm_H → zm_H) (r : Nat × Int32 × zm_H) : zm_H := (f_Text_readBoth_k45 R (r.2.2))
def f_Text_readBoth_a7_ok (R : Nat → Int32 → zm_H → zm_H) (O : Nat → Int32 → zm_H → Prop) (r : Nat × Int32 × zm_H) : Prop := True
theorem f_Text_readBoth_a7_w (R : Nat → Int32 → zm_H → zm_H) (hW : ∀ (m : Nat) (p : Int32) (h : zm_H), zWr [12] [(10, 2), (10, 7), (10, 8), (10, 10)] h (R m p h)) (r : Nat × Int32 × zm_H) : zWr [] [] (r.2.2) ((f_Text_readBoth_a7 R r)) := by
  unfold f_Text_readBoth_a7
  exact (zWr_tr (f_Text_readBoth_k45_w R hW (r.2.2)) (by decide) (by decide) (zWr.refl _ _))
def f_Text_readBoth_k5 (R : Nat → Int32 → zm_H → zm_H) (v1 : Int32) (h : zm_H) : zm_H := (f_Text_readBoth_a7 R (f_Text_readBoth_l7 R v1 zF (0, h)))
def f_Text_readBoth_k5_ok (R : Nat → Int32 → zm_H → zm_H) (O : Nat → Int32 → zm_H → Prop) (v1 : Int32) (h : zm_H) : Prop := (f_Text_readBoth_l7_ok R O v1 zF (0, h) ∧ f_Text_readBoth_a7_ok R O (f_Text_readBoth_l7 R v1 zF (0, h)))
theorem f_Text_readBoth_k5_w (R : Nat → Int32 → zm_H → zm_H) (hW : ∀ (m : Nat) (p : Int32) (h : zm_H), zWr [12] [(10, 2), (10, 7), (10, 8), (10, 10)] h (R m p h)) (v1 : Int32) (h : zm_H) : zWr [12] [(10, 2), (10, 7), (10, 8), (10, 10)] h ((f_Text_readBoth_k5 R v1 h)) := by
  unfold f_Text_readBoth_k5
  exact (zWr_tr (f_Text_readBoth_a7_w R hW (f_Text_readBoth_l7 R v1 zF (0, h))) (by decide) (by decide) (zWr_tr (f_Text_readBoth_l7_w R hW v1 zF (0, h)) (by decide) (by decide) (zWr.refl _ _)))
def f_Text_readBoth (R : Nat → Int32 → zm_H → zm_H) (p1 : Int32) (h : zm_H) : zm_H := (f_Text_readBoth_k5 R p1 (R 108 p1 h))
def f_Text_readBoth_ok (R : Nat → Int32 → zm_H → zm_H) (O : Nat → Int32 → zm_H → Prop) (p1 : Int32) (h : zm_H) : Prop := (O 108 p1 h ∧ (f_Text_readBoth_k5_ok R O p1 (R 108 p1 h)))
theorem f_Text_readBoth_w (R : Nat → Int32 → zm_H → zm_H) (hW : ∀ (m : Nat) (p : Int32) (h : zm_H), zWr [12] [(10, 2), (10, 7), (10, 8), (10, 10)] h (R m p h)) (p1 : Int32) (h : zm_H) : zWr [12] [(10, 2), (10, 7), (10, 8), (10, 10)] h ((f_Text_readBoth R p1 h)) := by
  unfold f_Text_readBoth
  exact (zWr_tr (f_Text_readBoth_k5_w R hW p1 (R 108 p1 h)) (by decide) (by decide) (zWr_tr (hW 108 p1 h) (by decide) (by decide) (zWr.refl _ _)))
def f_Text_readTruth_k108 (R : Nat → Int32 → zm_H → zm_H) (v2 : Int32) (h : zm_H) : zm_H := (f_Text_emit (100000 + v2) h)
def f_Text_readTruth_k108_ok (R : Nat → Int32 → zm_H → zm_H) (O : Nat → Int32 → zm_H → Prop) (v2 : Int32) (h : zm_H) : Prop := f_Text_emit_ok (100000 + v2) h
theorem f_Text_readTruth_k108_w (R : Nat → Int32 → zm_H → zm_H) (hW : ∀ (m : Nat) (p : Int32) (h : zm_H), zWr [12] [(10, 2), (10, 7), (10, 8), (10, 10)] h (R m p h)) (v2 : Int32) (h : zm_H) : zWr [12] [(10, 10)] h ((f_Text_readTruth_k108 R v2 h)) := by
  unfold f_Text_readTruth_k108
  exact (zWr_tr (f_Text_emit_w (100000 + v2) h) (by decide) (by decide) (zWr.refl _ _))
def f_Text_readTruth_k103 (R : Nat → Int32 → zm_H → zm_H) (v1 : Int32) (v2 : Int32) (h : zm_H) : zm_H := (f_Text_readTruth_k108 R v2 (R 101 v1 h))
def f_Text_readTruth_k103_ok (R : Nat → Int32 → zm_H → zm_H) (O : Nat → Int32 → zm_H → Prop) (v1 : Int32) (v2 : Int32) (h : zm_H) : Prop := (O 101 v1 h ∧ (f_Text_readTruth_k108_ok R O v2 (R 101 v1 h)))
theorem f_Text_readTruth_k103_w (R : Nat → Int32 → zm_H → zm_H) (hW : ∀ (m : Nat) (p : Int32) (h : zm_H), zWr [12] [(10, 2), (10, 7), (10, 8), (10, 10)] h (R m p h)) (v1 : Int32) (v2 : Int32) (h : zm_H) : zWr [12] [(10, 2), (10, 7), (10, 8), (10, 10)] h ((f_Text_readTruth_k103 R v1 v2 h)) := by
  unfold f_Text_readTruth_k103
  exact (zWr_tr (f_Text_readTruth_k108_w R hW v2 (R 101 v1 h)) (by decide) (by decide) (zWr_tr (hW 101 v1 h) (by decide) (by decide) (zWr.refl _ _)))
def f_Text_readTruth_k99 (R : Nat → Int32 → zm_H → zm_H) (v1 : Int32) (v2 : Int32) (h : zm_H) : zm_H := (f_Text_readTruth_k103 R v1 v2 (f_Text_step h))
def f_Text_readTruth_k99_ok (R : Nat → Int32 → zm_H → zm_H) (O : Nat → Int32 → zm_H → Prop) (v1 : Int32) (v2 : Int32) (h : zm_H) : Prop := (f_Text_step_ok h ∧ (f_Text_readTruth_k103_ok R O v1 v2 (f_Text_step h)))
theorem f_Text_readTruth_k99_w (R : Nat → Int32 → zm_H → zm_H) (hW : ∀ (m : Nat) (p : Int32) (h : zm_H), zWr [12] [(10, 2), (10, 7), (10, 8), (10, 10)] h (R m p h)) (v1 : Int32) (v2 : Int32) (h : zm_H) : zWr [12] [(10, 2), (10, 7), (10, 8), (10, 10)] h ((f_Text_readTruth_k99 R v1 v2 h)) := by
  unfold f_Text_readTruth_k99
  exact (zWr_tr (f_Text_readTruth_k103_w R hW v1 v2 (f_Text_step h)) (by decide) (by decide) (zWr_tr (f_Text_step_w h) (by decide) (by decide) (zWr.refl _ _)))
def f_Text_readTruth_k76 (R : Nat → Int32 → zm_H → zm_H) (v1 : Int32) (h : zm_H) : zm_H := (if ((zf h 10 8) = 60) then (f_Text_readTruth_k99 R v1 (zf h 10 8) h) else (if ((zf h 10 8) = 62) then (f_Text_readTruth_k99 R v1 (zf h 10 8) h) else (if ((zf h 10 8) = 61) then (f_Text_readTruth_k99 R v1 (zf h 10 8) h) else (f_Text_refuse h))))
def f_Text_readTruth_k76_ok (R : Nat → Int32 → zm_H → zm_H) (O : Nat → Int32 → zm_H → Prop) (v1 : Int32) (h : zm_H) : Prop := ((((zf h 10 8) = 60) → (f_Text_readTruth_k99_ok R O v1 (zf h 10 8) h)) ∧ (¬ ((zf h 10 8) = 60) → ((((zf h 10 8) = 62) → (f_Text_readTruth_k99_ok R O v1 (zf h 10 8) h)) ∧ (¬ ((zf h 10 8) = 62) → ((((zf h 10 8) = 61) → (f_Text_readTruth_k99_ok R O v1 (zf h 10 8) h)) ∧ (¬ ((zf h 10 8) = 61) → f_Text_refuse_ok h))))))
theorem f_Text_readTruth_k76_w (R : Nat → Int32 → zm_H → zm_H) (hW : ∀ (m : Nat) (p : Int32) (h : zm_H), zWr [12] [(10, 2), (10, 7), (10, 8), (10, 10)] h (R m p h)) (v1 : Int32) (h : zm_H) : zWr [12] [(10, 2), (10, 7), (10, 8), (10, 10)] h ((f_Text_readTruth_k76 R v1 h)) := by
  unfold f_Text_readTruth_k76
  exact (zWr_ite (fun z : zm_H => z) (zWr_tr (f_Text_readTruth_k99_w R hW v1 (zf h 10 8) h) (by decide) (by decide) (zWr.refl _ _)) (zWr_ite (fun z : zm_H => z) (zWr_tr (f_Text_readTruth_k99_w R hW v1 (zf h 10 8) h) (by decide) (by decide) (zWr.refl _ _)) (zWr_ite (fun z : zm_H => z) (zWr_tr (f_Text_readTruth_k99_w R hW v1 (zf h 10 8) h) (by decide) (by decide) (zWr.refl _ _)) (zWr_tr (f_Text_refuse_w h) (by decide) (by decide) (zWr.refl _ _)))))
def f_Text_readTruth_k71 (R : Nat → Int32 → zm_H → zm_H) (v1 : Int32) (h : zm_H) : zm_H := (f_Text_readTruth_k76 R v1 (R 101 v1 h))
def f_Text_readTruth_k71_ok (R : Nat → Int32 → zm_H → zm_H) (O : Nat → Int32 → zm_H → Prop) (v1 : Int32) (h : zm_H) : Prop := (O 101 v1 h ∧ (f_Text_readTruth_k76_ok R O v1 (R 101 v1 h)))
theorem f_Text_readTruth_k71_w (R : Nat → Int32 → zm_H → zm_H) (hW : ∀ (m : Nat) (p : Int32) (h : zm_H), zWr [12] [(10, 2), (10, 7), (10, 8), (10, 10)] h (R m p h)) (v1 : Int32) (h : zm_H) : zWr [12] [(10, 2), (10, 7), (10, 8), (10, 10)] h ((f_Text_readTruth_k71 R v1 h)) := by
  unfold f_Text_readTruth_k71
  exact (zWr_tr (f_Text_readTruth_k76_w R hW v1 (R 101 v1 h)) (by decide) (by decide) (zWr_tr (hW 101 v1 h) (by decide) (by decide) (zWr.refl _ _)))
def f_Text_readTruth_k62 (R : Nat → Int32 → zm_H → zm_H) (h : zm_H) : zm_H := (f_Text_need 93 h)
def f_Text_readTruth_k62_ok (R : Nat → Int32 → zm_H → zm_H) (O : Nat → Int32 → zm_H → Prop) (h : zm_H) : Prop := f_Text_need_ok 93 h
theorem f_Text_readTruth_k62_w (R : Nat → Int32 → zm_H → zm_H) (hW : ∀ (m : Nat) (p : Int32) (h : zm_H), zWr [12] [(10, 2), (10, 7), (10, 8), (10, 10)] h (R m p h)) (h : zm_H) : zWr [] [(10, 2), (10, 7), (10, 8)] h ((f_Text_readTruth_k62 R h)) := by
  unfold f_Text_readTruth_k62
  exact (zWr_tr (f_Text_need_w 93 h) (by decide) (by decide) (zWr.refl _ _))
def f_Text_readTruth_k55 (R : Nat → Int32 → zm_H → zm_H) (v1 : Int32) (h : zm_H) : zm_H := (f_Text_readTruth_k62 R (R 106 (v1 + 1) h))
def f_Text_readTruth_k55_ok (R : Nat → Int32 → zm_H → zm_H) (O : Nat → Int32 → zm_H → Prop) (v1 : Int32) (h : zm_H) : Prop := (O 106 (v1 + 1) h ∧ (f_Text_readTruth_k62_ok R O (R 106 (v1 + 1) h)))
theorem f_Text_readTruth_k55_w (R : Nat → Int32 → zm_H → zm_H) (hW : ∀ (m : Nat) (p : Int32) (h : zm_H), zWr [12] [(10, 2), (10, 7), (10, 8), (10, 10)] h (R m p h)) (v1 : Int32) (h : zm_H) : zWr [12] [(10, 2), (10, 7), (10, 8), (10, 10)] h ((f_Text_readTruth_k55 R v1 h)) := by
  unfold f_Text_readTruth_k55
  exact (zWr_tr (f_Text_readTruth_k62_w R hW (R 106 (v1 + 1) h)) (by decide) (by decide) (zWr_tr (hW 106 (v1 + 1) h) (by decide) (by decide) (zWr.refl _ _)))
def f_Text_readTruth_k36 (R : Nat → Int32 → zm_H → zm_H) (v1 : Int32) (h : zm_H) : zm_H := (if ((zf h 10 8) = 91) then (if (8 ≤ v1) then (f_Text_readTruth_k71 R v1 h) else (f_Text_readTruth_k55 R v1 (f_Text_step h))) else (f_Text_readTruth_k71 R v1 h))
def f_Text_readTruth_k36_ok (R : Nat → Int32 → zm_H → zm_H) (O : Nat → Int32 → zm_H → Prop) (v1 : Int32) (h : zm_H) : Prop := ((((zf h 10 8) = 91) → (((8 ≤ v1) → (f_Text_readTruth_k71_ok R O v1 h)) ∧ (¬ (8 ≤ v1) → (f_Text_step_ok h ∧ (f_Text_readTruth_k55_ok R O v1 (f_Text_step h)))))) ∧ (¬ ((zf h 10 8) = 91) → (f_Text_readTruth_k71_ok R O v1 h)))
theorem f_Text_readTruth_k36_w (R : Nat → Int32 → zm_H → zm_H) (hW : ∀ (m : Nat) (p : Int32) (h : zm_H), zWr [12] [(10, 2), (10, 7), (10, 8), (10, 10)] h (R m p h)) (v1 : Int32) (h : zm_H) : zWr [12] [(10, 2), (10, 7), (10, 8), (10, 10)] h ((f_Text_readTruth_k36 R v1 h)) := by
  unfold f_Text_readTruth_k36
  exact (zWr_ite (fun z : zm_H => z) (zWr_ite (fun z : zm_H => z) (zWr_tr (f_Text_readTruth_k71_w R hW v1 h) (by decide) (by decide) (zWr.refl _ _)) (zWr_tr (f_Text_readTruth_k55_w R hW v1 (f_Text_step h)) (by decide) (by decide) (zWr_tr (f_Text_step_w h) (by decide) (by decide) (zWr.refl _ _)))) (zWr_tr (f_Text_readTruth_k71_w R hW v1 h) (by decide) (by decide) (zWr.refl _ _)))
def f_Text_readTruth_k27 (R : Nat → Int32 → zm_H → zm_H) (h : zm_H) : zm_H := (f_Text_emit 100315 h)
def f_Text_readTruth_k27_ok (R : Nat → Int32 → zm_H → zm_H) (O : Nat → Int32 → zm_H → Prop) (h : zm_H) : Prop := f_Text_emit_ok 100315 h
theorem f_Text_readTruth_k27_w (R : Nat → Int32 → zm_H → zm_H) (hW : ∀ (m : Nat) (p : Int32) (h : zm_H), zWr [12] [(10, 2), (10, 7), (10, 8), (10, 10)] h (R m p h)) (h : zm_H) : zWr [12] [(10, 10)] h ((f_Text_readTruth_k27 R h)) := by
  unfold f_Text_readTruth_k27
  exact (zWr_tr (f_Text_emit_w 100315 h) (by decide) (by decide) (zWr.refl _ _))
def f_Text_readTruth_k20 (R : Nat → Int32 → zm_H → zm_H) (v1 : Int32) (h : zm_H) : zm_H := (f_Text_readTruth_k27 R (R 108 (v1 + 1) h))
def f_Text_readTruth_k20_ok (R : Nat → Int32 → zm_H → zm_H) (O : Nat → Int32 → zm_H → Prop) (v1 : Int32) (h : zm_H) : Prop := (O 108 (v1 + 1) h ∧ (f_Text_readTruth_k27_ok R O (R 108 (v1 + 1) h)))
theorem f_Text_readTruth_k20_w (R : Nat → Int32 → zm_H → zm_H) (hW : ∀ (m : Nat) (p : Int32) (h : zm_H), zWr [12] [(10, 2), (10, 7), (10, 8), (10, 10)] h (R m p h)) (v1 : Int32) (h : zm_H) : zWr [12] [(10, 2), (10, 7), (10, 8), (10, 10)] h ((f_Text_readTruth_k20 R v1 h)) := by
  unfold f_Text_readTruth_k20
  exact (zWr_tr (f_Text_readTruth_k27_w R hW (R 108 (v1 + 1) h)) (by decide) (by decide) (zWr_tr (hW 108 (v1 + 1) h) (by decide) (by decide) (zWr.refl _ _)))
def f_Text_readTruth (R : Nat → Int32 → zm_H → zm_H) (p1 : Int32) (h : zm_H) : zm_H := (if ((zf h 10 8) = 315) then (if (8 ≤ p1) then (f_Text_readTruth_k36 R p1 h) else (f_Text_readTruth_k20 R p1 (f_Text_step h))) else (f_Text_readTruth_k36 R p1 h))
def f_Text_readTruth_ok (R : Nat → Int32 → zm_H → zm_H) (O : Nat → Int32 → zm_H → Prop) (p1 : Int32) (h : zm_H) : Prop := ((((zf h 10 8) = 315) → (((8 ≤ p1) → (f_Text_readTruth_k36_ok R O p1 h)) ∧ (¬ (8 ≤ p1) → (f_Text_step_ok h ∧ (f_Text_readTruth_k20_ok R O p1 (f_Text_step h)))))) ∧ (¬ ((zf h 10 8) = 315) → (f_Text_readTruth_k36_ok R O p1 h)))
theorem f_Text_readTruth_w (R : Nat → Int32 → zm_H → zm_H) (hW : ∀ (m : Nat) (p : Int32) (h : zm_H), zWr [12] [(10, 2), (10, 7), (10, 8), (10, 10)] h (R m p h)) (p1 : Int32) (h : zm_H) : zWr [12] [(10, 2), (10, 7), (10, 8), (10, 10)] h ((f_Text_readTruth R p1 h)) := by
  unfold f_Text_readTruth
  exact (zWr_ite (fun z : zm_H => z) (zWr_ite (fun z : zm_H => z) (zWr_tr (f_Text_readTruth_k36_w R hW p1 h) (by decide) (by decide) (zWr.refl _ _)) (zWr_tr (f_Text_readTruth_k20_w R hW p1 (f_Text_step h)) (by decide) (by decide) (zWr_tr (f_Text_step_w h) (by decide) (by decide) (zWr.refl _ _)))) (zWr_tr (f_Text_readTruth_k36_w R hW p1 h) (by decide) (by decide) (zWr.refl _ _)))
def f_rec : Nat → Nat → Int32 → zm_H → zm_H
  | 0, _, _, h => h
  | n + 1, m, p, h => if m = 101 then f_Text_readSum (f_rec n) p h else if m = 102 then f_Text_readProduct (f_rec n) p h else if m = 103 then f_Text_readFactor (f_rec n) p h else if m = 106 then f_Text_readEither (f_rec n) p h else if m = 107 then f_Text_readBoth (f_rec n) p h else if m = 108 then f_Text_readTruth (f_rec n) p h else h
def f_rec_ok : Nat → Nat → Int32 → zm_H → Prop
  | 0, _, _, _ => False
  | n + 1, m, p, h => (m = 101 ∧ f_Text_readSum_ok (f_rec n) (f_rec_ok n) p h) ∨ (m = 102 ∧ f_Text_readProduct_ok (f_rec n) (f_rec_ok n) p h) ∨ (m = 103 ∧ f_Text_readFactor_ok (f_rec n) (f_rec_ok n) p h) ∨ (m = 106 ∧ f_Text_readEither_ok (f_rec n) (f_rec_ok n) p h) ∨ (m = 107 ∧ f_Text_readBoth_ok (f_rec n) (f_rec_ok n) p h) ∨ (m = 108 ∧ f_Text_readTruth_ok (f_rec n) (f_rec_ok n) p h)
theorem f_rec_w : ∀ (n m : Nat) (p : Int32) (h : zm_H), zWr [12] [(10, 2), (10, 7), (10, 8), (10, 10)] h (f_rec n m p h) := by
  intro n
  induction n with
  | zero => intro m p h; exact zWr.refl _ _
  | succ n ih =>
    intro m p h
    rw [f_rec]
    by_cases h101 : m = 101
    · rw [if_pos h101]; exact zWr_tr (f_Text_readSum_w (f_rec n) ih p h) (by decide) (by decide) (zWr.refl _ _)
    rw [if_neg h101]
    by_cases h102 : m = 102
    · rw [if_pos h102]; exact zWr_tr (f_Text_readProduct_w (f_rec n) ih p h) (by decide) (by decide) (zWr.refl _ _)
    rw [if_neg h102]
    by_cases h103 : m = 103
    · rw [if_pos h103]; exact zWr_tr (f_Text_readFactor_w (f_rec n) ih p h) (by decide) (by decide) (zWr.refl _ _)
    rw [if_neg h103]
    by_cases h106 : m = 106
    · rw [if_pos h106]; exact zWr_tr (f_Text_readEither_w (f_rec n) ih p h) (by decide) (by decide) (zWr.refl _ _)
    rw [if_neg h106]
    by_cases h107 : m = 107
    · rw [if_pos h107]; exact zWr_tr (f_Text_readBoth_w (f_rec n) ih p h) (by decide) (by decide) (zWr.refl _ _)
    rw [if_neg h107]
    by_cases h108 : m = 108
    · rw [if_pos h108]; exact zWr_tr (f_Text_readTruth_w (f_rec n) ih p h) (by decide) (by decide) (zWr.refl _ _)
    rw [if_neg h108]
    exact zWr.refl _ _
def f_Text_readEither60 (p : Int32) (h : zm_H) : zm_H := f_rec 60 106 p h
def f_Text_readEither60_ok (p : Int32) (h : zm_H) : Prop := f_rec_ok 60 106 p h
theorem f_Text_readEither60_w (p : Int32) (h : zm_H) : zWr [12] [(10, 2), (10, 7), (10, 8), (10, 10)] h (f_Text_readEither60 p h) := f_rec_w 60 106 p h
def f_Text_readClause_k65 (v1 : Int32) (h : zm_H) : zm_H := (f_Text_need 59 (zs h 14 v1 (zf h 10 10)))
def f_Text_readClause_k65_ok (v1 : Int32) (h : zm_H) : Prop := (vp_in v1 4 ∧ f_Text_need_ok 59 (zs h 14 v1 (zf h 10 10)))
theorem f_Text_readClause_k65_w (v1 : Int32) (h : zm_H) : zWr [14] [(10, 2), (10, 7), (10, 8)] h ((f_Text_readClause_k65 v1 h)) := by
  unfold f_Text_readClause_k65
  exact (zWr_tr (f_Text_need_w 59 (zs h 14 v1 (zf h 10 10))) (by decide) (by decide) (zWr_si (by decide) (zWr.refl _ _)))
def f_Text_readSum60 (p : Int32) (h : zm_H) : zm_H := f_rec 60 101 p h
def f_Text_readSum60_ok (p : Int32) (h : zm_H) : Prop := f_rec_ok 60 101 p h
theorem f_Text_readSum60_w (p : Int32) (h : zm_H) : zWr [12] [(10, 2), (10, 7), (10, 8), (10, 10)] h (f_Text_readSum60 p h) := f_rec_w 60 101 p h
def f_Text_readClause_k57 (v1 : Int32) (h : zm_H) : zm_H := (f_Text_readClause_k65 v1 h)
def f_Text_readClause_k57_ok (v1 : Int32) (h : zm_H) : Prop := (f_Text_readClause_k65_ok v1 h)
theorem f_Text_readClause_k57_w (v1 : Int32) (h : zm_H) : zWr [14] [(10, 2), (10, 7), (10, 8)] h ((f_Text_readClause_k57 v1 h)) := by
  unfold f_Text_readClause_k57
  exact (zWr_tr (f_Text_readClause_k65_w v1 h) (by decide) (by decide) (zWr.refl _ _))
def f_Text_readClause_k37 (v1 : Int32) (h : zm_H) : zm_H := (if (v1 = 3) then (f_Text_readClause_k57 v1 (f_Text_readSum60 0 (zs h 13 v1 (zf h 10 10)))) else (f_Text_readClause_k65 v1 (f_Text_readEither60 0 (zs h 13 v1 (zf h 10 10)))))
def f_Text_readClause_k37_ok (v1 : Int32) (h : zm_H) : Prop := (vp_in v1 4 ∧ (((v1 = 3) → (f_Text_readSum60_ok 0 (zs h 13 v1 (zf h 10 10)) ∧ (f_Text_readClause_k57_ok v1 (f_Text_readSum60 0 (zs h 13 v1 (zf h 10 10)))))) ∧ (¬ (v1 = 3) → (f_Text_readEither60_ok 0 (zs h 13 v1 (zf h 10 10)) ∧ (f_Text_readClause_k65_ok v1 (f_Text_readEither60 0 (zs h 13 v1 (zf h 10 10))))))))
theorem f_Text_readClause_k37_w (v1 : Int32) (h : zm_H) : zWr [12, 13, 14] [(10, 2), (10, 7), (10, 8), (10, 10)] h ((f_Text_readClause_k37 v1 h)) := by
  unfold f_Text_readClause_k37
  exact (zWr_ite (fun z : zm_H => z) (zWr_tr (f_Text_readClause_k57_w v1 (f_Text_readSum60 0 (zs h 13 v1 (zf h 10 10)))) (by decide) (by decide) (zWr_tr (f_Text_readSum60_w 0 (zs h 13 v1 (zf h 10 10))) (by decide) (by decide) (zWr_si (by decide) (zWr.refl _ _)))) (zWr_tr (f_Text_readClause_k65_w v1 (f_Text_readEither60 0 (zs h 13 v1 (zf h 10 10)))) (by decide) (by decide) (zWr_tr (f_Text_readEither60_w 0 (zs h 13 v1 (zf h 10 10))) (by decide) (by decide) (zWr_si (by decide) (zWr.refl _ _)))))
def f_Text_readClause (h : zm_H) : zm_H := (if (((zf h 10 8) - 300) < 0) then (f_Text_readClause_k28 h) else (if (4 ≤ ((zf h 10 8) - 300)) then (f_Text_readClause_k28 h) else (if ((zr h 13 ((zf h 10 8) - 300)) = (-1)) then (f_Text_readClause_k37 ((zf h 10 8) - 300) (f_Text_step h)) else (f_Text_readClause_k28 h))))
def f_Text_readClause_ok (h : zm_H) : Prop := (((((zf h 10 8) - 300) < 0) → (f_Text_readClause_k28_ok h)) ∧ (¬ (((zf h 10 8) - 300) < 0) → (((4 ≤ ((zf h 10 8) - 300)) → (f_Text_readClause_k28_ok h)) ∧ (¬ (4 ≤ ((zf h 10 8) - 300)) → (vp_in ((zf h 10 8) - 300) 4 ∧ ((((zr h 13 ((zf h 10 8) - 300)) = (-1)) → (f_Text_step_ok h ∧ (f_Text_readClause_k37_ok ((zf h 10 8) - 300) (f_Text_step h)))) ∧ (¬ ((zr h 13 ((zf h 10 8) - 300)) = (-1)) → (f_Text_readClause_k28_ok h))))))))
theorem f_Text_readClause_w (h : zm_H) : zWr [12, 13, 14] [(10, 2), (10, 7), (10, 8), (10, 10)] h ((f_Text_readClause h)) := by
  unfold f_Text_readClause
  exact (zWr_ite (fun z : zm_H => z) (zWr_tr (f_Text_readClause_k28_w h) (by decide) (by decide) (zWr.refl _ _)) (zWr_ite (fun z : zm_H => z) (zWr_tr (f_Text_readClause_k28_w h) (by decide) (by decide) (zWr.refl _ _)) (zWr_ite (fun z : zm_H => z) (zWr_tr (f_Text_readClause_k37_w ((zf h 10 8) - 300) (f_Text_step h)) (by decide) (by decide) (zWr_tr (f_Text_step_w h) (by decide) (by decide) (zWr.refl _ _))) (zWr_tr (f_Text_readClause_k28_w h) (by decide) (by decide) (zWr.refl _ _)))))
def f_Text_findFault_l47_k76 (v1 : Int32) (h : zm_H) : Nat × Int32 × zm_H := (0, (v1 + 1), h)
def f_Text_findFault_l47_k76_ok (v1 : Int32) (h : zm_H) : Prop := True
theorem f_Text_findFault_l47_k76_w (v1 : Int32) (h : zm_H) : zWr [] [] h ((f_Text_findFault_l47_k76 v1 h).2.2) := by
  unfold f_Text_findFault_l47_k76
  exact (zWr.refl _ _)
def f_Text_findFault_l47_b (v1 : Int32) (h : zm_H) : Nat × Int32 × zm_H := (if (400 ≤ v1) then (1, v1, h) else (if ((zf h 10 2) = (-1)) then (if ((zf h 10 8) = 257) then (1, v1, h) else (f_Text_findFault_l47_k76 v1 (f_Text_readClause h))) else (1, v1, h)))
def f_Text_findFault_l47_b_ok (v1 : Int32) (h : zm_H) : Prop := (((400 ≤ v1) → True) ∧ (¬ (400 ≤ v1) → ((((zf h 10 2) = (-1)) → ((((zf h 10 8) = 257) → True) ∧ (¬ ((zf h 10 8) = 257) → f_Text_readClause_ok h))) ∧ (¬ ((zf h 10 2) = (-1)) → True))))
theorem f_Text_findFault_l47_b_w (v1 : Int32) (h : zm_H) : zWr [12, 13, 14] [(10, 2), (10, 7), (10, 8), (10, 10)] h ((f_Text_findFault_l47_b v1 h).2.2) := by
  unfold f_Text_findFault_l47_b
  exact (zWr_ite (fun z : Nat × Int32 × zm_H => z.2.2) (zWr.refl _ _) (zWr_ite (fun z : Nat × Int32 × zm_H => z.2.2) (zWr_ite (fun z : Nat × Int32 × zm_H => z.2.2) (zWr.refl _ _) (zWr_tr (f_Text_findFault_l47_k76_w v1 (f_Text_readClause h)) (by decide) (by decide) (zWr_tr (f_Text_readClause_w h) (by decide) (by decide) (zWr.refl _ _)))) (zWr.refl _ _)))
def f_Text_findFault_l47 (n : Nat) (t : Int32 × zm_H) : Nat × Int32 × zm_H := zwh (fun t => f_Text_findFault_l47_b t.1 t.2) n t
def f_Text_findFault_l47_ok (n : Nat) (t : Int32 × zm_H) : Prop := zwo (fun t => f_Text_findFault_l47_b t.1 t.2) (fun t => f_Text_findFault_l47_b_ok t.1 t.2) n t
theorem f_Text_findFault_l47_w (n : Nat) (t : Int32 × zm_H) : zWr [12, 13, 14] [(10, 2), (10, 7), (10, 8), (10, 10)] (t.2) ((f_Text_findFault_l47 n t).2.2) := by
  unfold f_Text_findFault_l47
  exact zWr_zwh (fun t : Int32 × zm_H => t.2) (fun t => f_Text_findFault_l47_b_w t.1 t.2)
def f_Text_findFault_k82 (h : zm_H) : Int32 × zm_H := ((zf h 10 2), h)
def f_Text_findFault_k82_ok (h : zm_H) : Prop := True
theorem f_Text_findFault_k82_w (h : zm_H) : zWr [] [] h ((f_Text_findFault_k82 h).2) := by
  unfold f_Text_findFault_k82
  exact (zWr.refl _ _)
def f_Text_findFault_a47 (r : Nat × Int32 × zm_H) : Int32 × zm_H := (f_Text_findFault_k82 (r.2.2))
def f_Text_findFault_a47_ok (r : Nat × Int32 × zm_H) : Prop := True
theorem f_Text_findFault_a47_w (r : Nat × Int32 × zm_H) : zWr [] [] (r.2.2) ((f_Text_findFault_a47 r).2) := by
  unfold f_Text_findFault_a47
  exact (zWr_tr (f_Text_findFault_k82_w (r.2.2)) (by decide) (by decide) (zWr.refl _ _))
def f_Text_findFault_k30 (h : zm_H) : Int32 × zm_H := (f_Text_findFault_a47 (f_Text_findFault_l47 zF (0, (zp (zp h 10 7 0) 10 8 (zr h 162 0)))))
def f_Text_findFault_k30_ok (h : zm_H) : Prop := (f_Text_findFault_l47_ok zF (0, (zp (zp h 10 7 0) 10 8 (zr h 162 0))) ∧ f_Text_findFault_a47_ok (f_Text_findFault_l47 zF (0, (zp (zp h 10 7 0) 10 8 (zr h 162 0)))))
theorem f_Text_findFault_k30_w (h : zm_H) : zWr [12, 13, 14] [(10, 2), (10, 7), (10, 8), (10, 10)] h ((f_Text_findFault_k30 h).2) := by
  unfold f_Text_findFault_k30
  exact (zWr_tr (f_Text_findFault_a47_w (f_Text_findFault_l47 zF (0, (zp (zp h 10 7 0) 10 8 (zr h 162 0))))) (by decide) (by decide) (zWr_tr (f_Text_findFault_l47_w zF (0, (zp (zp h 10 7 0) 10 8 (zr h 162 0)))) (by decide) (by decide) (zWr_p (by decide) (zWr_p (by decide) (zWr.refl _ _)))))
def f_Text_findFault_k26 (h : zm_H) : Int32 × zm_H := (f_Text_findFault_k30 (f_Text_readTokens h))
def f_Text_findFault_k26_ok (h : zm_H) : Prop := (f_Text_readTokens_ok h ∧ (f_Text_findFault_k30_ok (f_Text_readTokens h)))
theorem f_Text_findFault_k26_w (h : zm_H) : zWr [12, 13, 14, 162, 163, 164] [(10, 2), (10, 6), (10, 7), (10, 8), (10, 10)] h ((f_Text_findFault_k26 h).2) := by
  unfold f_Text_findFault_k26
  exact (zWr_tr (f_Text_findFault_k30_w (f_Text_readTokens h)) (by decide) (by decide) (zWr_tr (f_Text_readTokens_w h) (by decide) (by decide) (zWr.refl _ _)))
def f_Text_findFault_k18 (h : zm_H) : Int32 × zm_H := (f_Text_findFault_k26 (f_Arrays_fill_14 (-1) h))
def f_Text_findFault_k18_ok (h : zm_H) : Prop := (f_Arrays_fill_14_ok (-1) h ∧ (f_Text_findFault_k26_ok (f_Arrays_fill_14 (-1) h)))
theorem f_Text_findFault_k18_w (h : zm_H) : zWr [12, 13, 14, 162, 163, 164] [(10, 2), (10, 6), (10, 7), (10, 8), (10, 10)] h ((f_Text_findFault_k18 h).2) := by
  unfold f_Text_findFault_k18
  exact (zWr_tr (f_Text_findFault_k26_w (f_Arrays_fill_14 (-1) h)) (by decide) (by decide) (zWr_tr (f_Arrays_fill_14_w (-1) h) (by decide) (by decide) (zWr.refl _ _)))
def f_Text_findFault (h : zm_H) : Int32 × zm_H := (f_Text_findFault_k18 (f_Arrays_fill_13 (-1) (zp (zp h 10 2 (-1)) 10 10 0)))
def f_Text_findFault_ok (h : zm_H) : Prop := (f_Arrays_fill_13_ok (-1) (zp (zp h 10 2 (-1)) 10 10 0) ∧ (f_Text_findFault_k18_ok (f_Arrays_fill_13 (-1) (zp (zp h 10 2 (-1)) 10 10 0))))
theorem f_Text_findFault_w (h : zm_H) : zWr [12, 13, 14, 162, 163, 164] [(10, 2), (10, 6), (10, 7), (10, 8), (10, 10)] h ((f_Text_findFault h).2) := by
  unfold f_Text_findFault
  exact (zWr_tr (f_Text_findFault_k18_w (f_Arrays_fill_13 (-1) (zp (zp h 10 2 (-1)) 10 10 0))) (by decide) (by decide) (zWr_tr (f_Arrays_fill_13_w (-1) (zp (zp h 10 2 (-1)) 10 10 0)) (by decide) (by decide) (zWr_p (by decide) (zWr_p (by decide) (zWr.refl _ _)))))
def f_N_fault (h : zm_H) : Int32 × zm_H := (f_Text_findFault h)
def f_N_fault_ok (h : zm_H) : Prop := f_Text_findFault_ok h
theorem f_N_fault_w (h : zm_H) : zWr [12, 13, 14, 162, 163, 164] [(10, 2), (10, 6), (10, 7), (10, 8), (10, 10)] h ((f_N_fault h).2) := by
  unfold f_N_fault
  exact (zWr_tr (f_Text_findFault_w h) (by decide) (by decide) (zWr.refl _ _))
def f_M_reads_l22_b (v1 : Int32) (h : zm_H) : Nat × Int32 × zm_H := (if (4 ≤ v1) then (1, v1, h) else (0, (v1 + 1), (zs h 97 v1 (-1))))
def f_M_reads_l22_b_ok (v1 : Int32) (h : zm_H) : Prop := (((4 ≤ v1) → True) ∧ (¬ (4 ≤ v1) → vp_in v1 4))
theorem f_M_reads_l22_b_w (v1 : Int32) (h : zm_H) : zWr [97] [] h ((f_M_reads_l22_b v1 h).2.2) := by
  unfold f_M_reads_l22_b
  exact (zWr_ite (fun z : Nat × Int32 × zm_H => z.2.2) (zWr.refl _ _) (zWr_si (by decide) (zWr.refl _ _)))
def f_M_reads_l22 (n : Nat) (t : Int32 × zm_H) : Nat × Int32 × zm_H := zwh (fun t => f_M_reads_l22_b t.1 t.2) n t
def f_M_reads_l22_ok (n : Nat) (t : Int32 × zm_H) : Prop := zwo (fun t => f_M_reads_l22_b t.1 t.2) (fun t => f_M_reads_l22_b_ok t.1 t.2) n t
theorem f_M_reads_l22_w (n : Nat) (t : Int32 × zm_H) : zWr [97] [] (t.2) ((f_M_reads_l22 n t).2.2) := by
  unfold f_M_reads_l22
  exact zWr_zwh (fun t : Int32 × zm_H => t.2) (fun t => f_M_reads_l22_b_w t.1 t.2)
def f_M_follows_l0_b (h : zm_H) : Nat × zm_H := (if ((zf h 92 1) ≤ (zf h 92 2)) then (1, h) else (if ((zr h 93 (zf h 92 2)) = 32) then (0, (zp h 92 2 ((zf h 92 2) + 1))) else (1, h)))
def f_M_follows_l0_b_ok (h : zm_H) : Prop := ((((zf h 92 1) ≤ (zf h 92 2)) → True) ∧ (¬ ((zf h 92 1) ≤ (zf h 92 2)) → vp_in (zf h 92 2) 400))
theorem f_M_follows_l0_b_w (h : zm_H) : zWr [] [(92, 2)] h ((f_M_follows_l0_b h).2) := by
  unfold f_M_follows_l0_b
  exact (zWr_ite (fun z : Nat × zm_H => z.2) (zWr.refl _ _) (zWr_ite (fun z : Nat × zm_H => z.2) (zWr_p (by decide) (zWr.refl _ _)) (zWr.refl _ _)))
def f_M_follows_l0 (n : Nat) (t : zm_H) : Nat × zm_H := zwh (fun t => f_M_follows_l0_b t) n t
def f_M_follows_l0_ok (n : Nat) (t : zm_H) : Prop := zwo (fun t => f_M_follows_l0_b t) (fun t => f_M_follows_l0_b_ok t) n t
theorem f_M_follows_l0_w (n : Nat) (t : zm_H) : zWr [] [(92, 2)] (t) ((f_M_follows_l0 n t).2) := by
  unfold f_M_follows_l0
  exact zWr_zwh (fun t : zm_H => t) (fun t => f_M_follows_l0_b_w t)
def f_M_isLetter (p0 : Int32) (h : zm_H) : Int32 := (if (¬ (p0 < 97) ∧ (¬ (122 < p0))) then (1 : Int32) else 0)
def f_M_isLetter_ok (p0 : Int32) (h : zm_H) : Prop := True
def f_M_isDigit (p0 : Int32) (h : zm_H) : Int32 := (if (¬ (p0 < 48) ∧ (¬ (57 < p0))) then (1 : Int32) else 0)
def f_M_isDigit_ok (p0 : Int32) (h : zm_H) : Prop := True
def f_M_follows_l155_b (h : zm_H) : Nat × zm_H := (if ((zf h 92 1) ≤ (zf h 92 2)) then (1, h) else (if (¬ ((zr h 93 (zf h 92 2)) < 48) ∧ (¬ (57 < (zr h 93 (zf h 92 2))))) then (0, (zp (zp h 92 5 (if ((zf h 92 5) ≤ 1000000) then ((((10 * (zf h 92 5)) + (zr h 93 (zf h 92 2))) - 48) : Int32) else (zf h 92 5))) 92 2 ((zf h 92 2) + 1))) else (1, h)))
def f_M_follows_l155_b_ok (h : zm_H) : Prop := ((((zf h 92 1) ≤ (zf h 92 2)) → True) ∧ (¬ ((zf h 92 1) ≤ (zf h 92 2)) → (vp_in (zf h 92 2) 400 ∧ (((¬ ((zr h 93 (zf h 92 2)) < 48) ∧ (¬ (57 < (zr h 93 (zf h 92 2))))) → ((((zf h 92 5) ≤ 1000000) → vp_in (zf h 92 2) 400) ∧ (¬ ((zf h 92 5) ≤ 1000000) → True))) ∧ (¬ (¬ ((zr h 93 (zf h 92 2)) < 48) ∧ (¬ (57 < (zr h 93 (zf h 92 2))))) → True)))))
theorem f_M_follows_l155_b_w (h : zm_H) : zWr [] [(92, 2), (92, 5)] h ((f_M_follows_l155_b h).2) := by
  unfold f_M_follows_l155_b
  exact (zWr_ite (fun z : Nat × zm_H => z.2) (zWr.refl _ _) (zWr_ite (fun z : Nat × zm_H => z.2) (zWr_p (by decide) (zWr_p (by decide) (zWr.refl _ _))) (zWr.refl _ _)))
def f_M_follows_l155 (n : Nat) (t : zm_H) : Nat × zm_H := zwh (fun t => f_M_follows_l155_b t) n t
def f_M_follows_l155_ok (n : Nat) (t : zm_H) : Prop := zwo (fun t => f_M_follows_l155_b t) (fun t => f_M_follows_l155_b_ok t) n t
theorem f_M_follows_l155_w (n : Nat) (t : zm_H) : zWr [] [(92, 2), (92, 5)] (t) ((f_M_follows_l155 n t).2) := by
  unfold f_M_follows_l155
  exact zWr_zwh (fun t : zm_H => t) (fun t => f_M_follows_l155_b_w t)
def f_M_follows_l85_b (h : zm_H) : Nat × zm_H := (if ((zf h 92 1) ≤ (zf h 92 2)) then (1, h) else (if (¬ ((zr h 93 (zf h 92 2)) < 97) ∧ (¬ (122 < (zr h 93 (zf h 92 2))))) then (0, (zp h 92 2 ((zf h 92 2) + 1))) else (1, h)))
def f_M_follows_l85_b_ok (h : zm_H) : Prop := ((((zf h 92 1) ≤ (zf h 92 2)) → True) ∧ (¬ ((zf h 92 1) ≤ (zf h 92 2)) → vp_in (zf h 92 2) 400))
theorem f_M_follows_l85_b_w (h : zm_H) : zWr [] [(92, 2)] h ((f_M_follows_l85_b h).2) := by
  unfold f_M_follows_l85_b
  exact (zWr_ite (fun z : Nat × zm_H => z.2) (zWr.refl _ _) (zWr_ite (fun z : Nat × zm_H => z.2) (zWr_p (by decide) (zWr.refl _ _)) (zWr.refl _ _)))
def f_M_follows_l85 (n : Nat) (t : zm_H) : Nat × zm_H := zwh (fun t => f_M_follows_l85_b t) n t
def f_M_follows_l85_ok (n : Nat) (t : zm_H) : Prop := zwo (fun t => f_M_follows_l85_b t) (fun t => f_M_follows_l85_b_ok t) n t
theorem f_M_follows_l85_w (n : Nat) (t : zm_H) : zWr [] [(92, 2)] (t) ((f_M_follows_l85 n t).2) := by
  unfold f_M_follows_l85
  exact zWr_zwh (fun t : zm_H => t) (fun t => f_M_follows_l85_b_w t)
def f_M_wordAt_l5_l19_b (v1 : Int32) (v2 : Int32) (v3 : Int32) (v4 : Int32) (v5 : Int32) (h : zm_H) : Nat × Int32 := (if (((zm_sx 2).getD (v4 + v5).toNatClampNeg 0) = 32) then (1, v5) else (0, (v5 + 1)))
def f_M_wordAt_l5_l19_b_ok (v1 : Int32) (v2 : Int32) (v3 : Int32) (v4 : Int32) (v5 : Int32) (h : zm_H) : Prop := (0 ≤ (v4 + v5) ∧ (v4 + v5).toNatClampNeg < 81)
def f_M_wordAt_l5_l19 (v1 : Int32) (v2 : Int32) (v3 : Int32) (v4 : Int32) (h : zm_H) (n : Nat) (t : Int32) : Nat × Int32 := zwh (fun t => f_M_wordAt_l5_l19_b v1 v2 v3 v4 t h) n t
def f_M_wordAt_l5_l19_ok (v1 : Int32) (v2 : Int32) (v3 : Int32) (v4 : Int32) (h : zm_H) (n : Nat) (t : Int32) : Prop := zwo (fun t => f_M_wordAt_l5_l19_b v1 v2 v3 v4 t h) (fun t => f_M_wordAt_l5_l19_b_ok v1 v2 v3 v4 t h) n t
def f_M_wordAt_l5_l59_b (v1 : Int32) (v2 : Int32) (v3 : Int32) (v4 : Int32) (v5 : Int32) (v6 : Int32) (v7 : Int32) (h : zm_H) : Nat × Int32 × Int32 := (if (v5 ≤ v7) then (1, v6, v7) else (if (v6 = 0) then (1, v6, v7) else (0, (if (((zm_sx 2).getD (v4 + v7).toNatClampNeg 0) = (zr h 93 (v1 + v7))) then (1 : Int32) else 0), (v7 + 1))))
def f_M_wordAt_l5_l59_b_ok (v1 : Int32) (v2 : Int32) (v3 : Int32) (v4 : Int32) (v5 : Int32) (v6 : Int32) (v7 : Int32) (h : zm_H) : Prop := (((v5 ≤ v7) → True) ∧ (¬ (v5 ≤ v7) → (((v6 = 0) → True) ∧ (¬ (v6 = 0) → ((0 ≤ (v4 + v7) ∧ (v4 + v7).toNatClampNeg < 81) ∧ vp_in (v1 + v7) 400)))))
def f_M_wordAt_l5_l59 (v1 : Int32) (v2 : Int32) (v3 : Int32) (v4 : Int32) (v5 : Int32) (h : zm_H) (n : Nat) (t : Int32 × Int32) : Nat × Int32 × Int32 := zwh (fun t => f_M_wordAt_l5_l59_b v1 v2 v3 v4 v5 t.1 t.2 h) n t
def f_M_wordAt_l5_l59_ok (v1 : Int32) (v2 : Int32) (v3 : Int32) (v4 : Int32) (v5 : Int32) (h : zm_H) (n : Nat) (t : Int32 × Int32) : Prop := zwo (fun t => f_M_wordAt_l5_l59_b v1 v2 v3 v4 v5 t.1 t.2 h) (fun t => f_M_wordAt_l5_l59_b_ok v1 v2 v3 v4 v5 t.1 t.2 h) n t
def f_M_wordAt_l5_k107 (v1 : Int32) (v2 : Int32) (v3 : Int32) (v4 : Int32) (v5 : Int32) (v6 : Int32) (h : zm_H) : Nat × Int32 × Int32 := (if (v6 = 0) then (0, (v3 + 1), (v4 + (v5 + 1))) else (1, v3, v4))
def f_M_wordAt_l5_k107_ok (v1 : Int32) (v2 : Int32) (v3 : Int32) (v4 : Int32) (v5 : Int32) (v6 : Int32) (h : zm_H) : Prop := True
def f_M_wordAt_l5_a59 (v1 : Int32) (v2 : Int32) (v3 : Int32) (v4 : Int32) (v5 : Int32) (r : Nat × Int32 × Int32) (h : zm_H) : Nat × Int32 × Int32 := (f_M_wordAt_l5_k107 v1 v2 v3 v4 v5 (r.2.1) h)
def f_M_wordAt_l5_a59_ok (v1 : Int32) (v2 : Int32) (v3 : Int32) (v4 : Int32) (v5 : Int32) (r : Nat × Int32 × Int32) (h : zm_H) : Prop := True
def f_M_wordAt_l5_k41 (v1 : Int32) (v2 : Int32) (v3 : Int32) (v4 : Int32) (v5 : Int32) (h : zm_H) : Nat × Int32 × Int32 := (f_M_wordAt_l5_a59 v1 v2 v3 v4 v5 (f_M_wordAt_l5_l59 v1 v2 v3 v4 v5 h zF ((if (v5 = (v2 - v1)) then (1 : Int32) else 0), 0)) h)
def f_M_wordAt_l5_k41_ok (v1 : Int32) (v2 : Int32) (v3 : Int32) (v4 : Int32) (v5 : Int32) (h : zm_H) : Prop := (f_M_wordAt_l5_l59_ok v1 v2 v3 v4 v5 h zF ((if (v5 = (v2 - v1)) then (1 : Int32) else 0), 0) ∧ f_M_wordAt_l5_a59_ok v1 v2 v3 v4 v5 (f_M_wordAt_l5_l59 v1 v2 v3 v4 v5 h zF ((if (v5 = (v2 - v1)) then (1 : Int32) else 0), 0)) h)
def f_M_wordAt_l5_a19 (v1 : Int32) (v2 : Int32) (v3 : Int32) (v4 : Int32) (r : Nat × Int32) (h : zm_H) : Nat × Int32 × Int32 := (f_M_wordAt_l5_k41 v1 v2 v3 v4 (r.2) h)
def f_M_wordAt_l5_a19_ok (v1 : Int32) (v2 : Int32) (v3 : Int32) (v4 : Int32) (r : Nat × Int32) (h : zm_H) : Prop := (f_M_wordAt_l5_k41_ok v1 v2 v3 v4 (r.2) h)
def f_M_wordAt_l5_b (v1 : Int32) (v2 : Int32) (v3 : Int32) (v4 : Int32) (h : zm_H) : Nat × Int32 × Int32 := (if ((Int32.ofNat 81) ≤ v4) then (2, v3, v4) else (f_M_wordAt_l5_a19 v1 v2 v3 v4 (f_M_wordAt_l5_l19 v1 v2 v3 v4 h zF 0) h))
def f_M_wordAt_l5_b_ok (v1 : Int32) (v2 : Int32) (v3 : Int32) (v4 : Int32) (h : zm_H) : Prop := ((((Int32.ofNat 81) ≤ v4) → True) ∧ (¬ ((Int32.ofNat 81) ≤ v4) → (f_M_wordAt_l5_l19_ok v1 v2 v3 v4 h zF 0 ∧ f_M_wordAt_l5_a19_ok v1 v2 v3 v4 (f_M_wordAt_l5_l19 v1 v2 v3 v4 h zF 0) h)))
def f_M_wordAt_l5 (v1 : Int32) (v2 : Int32) (h : zm_H) (n : Nat) (t : Int32 × Int32) : Nat × Int32 × Int32 := zwh (fun t => f_M_wordAt_l5_b v1 v2 t.1 t.2 h) n t
def f_M_wordAt_l5_ok (v1 : Int32) (v2 : Int32) (h : zm_H) (n : Nat) (t : Int32 × Int32) : Prop := zwo (fun t => f_M_wordAt_l5_b v1 v2 t.1 t.2 h) (fun t => f_M_wordAt_l5_b_ok v1 v2 t.1 t.2 h) n t
def f_M_wordAt_k112 (v3 : Int32) (h : zm_H) : Int32 := v3
def f_M_wordAt_k112_ok (v3 : Int32) (h : zm_H) : Prop := True
def f_M_wordAt_k129 (h : zm_H) : Int32 := (-1)
def f_M_wordAt_k129_ok (h : zm_H) : Prop := True
def f_M_wordAt_a5 (r : Nat × Int32 × Int32) (h : zm_H) : Int32 := (if r.1 = 1 then (f_M_wordAt_k112 (r.2.1) h) else (f_M_wordAt_k129 h))
def f_M_wordAt_a5_ok (r : Nat × Int32 × Int32) (h : zm_H) : Prop := ((r.1 = 1 → True) ∧ (¬ r.1 = 1 → True))
def f_M_wordAt (p1 : Int32) (p2 : Int32) (h : zm_H) : Int32 := (f_M_wordAt_a5 (f_M_wordAt_l5 p1 p2 h zF (0, 1)) h)
def f_M_wordAt_ok (p1 : Int32) (p2 : Int32) (h : zm_H) : Prop := (f_M_wordAt_l5_ok p1 p2 h zF (0, 1) ∧ f_M_wordAt_a5_ok (f_M_wordAt_l5 p1 p2 h zF (0, 1)) h)
def f_M_follows_k124 (h : zm_H) : zm_H := (zp (zp h 92 3 2) 92 5 (f_M_wordAt (zf h 92 4) (zf h 92 2) (zp h 92 3 2)))
def f_M_follows_k124_ok (h : zm_H) : Prop := f_M_wordAt_ok (zf h 92 4) (zf h 92 2) (zp h 92 3 2)
theorem f_M_follows_k124_w (h : zm_H) : zWr [] [(92, 3), (92, 5)] h ((f_M_follows_k124 h)) := by
  unfold f_M_follows_k124
  exact (zWr_p (by decide) (zWr_p (by decide) (zWr.refl _ _)))
def f_M_follows_a85 (r : Nat × zm_H) : zm_H := (f_M_follows_k124 (r.2))
def f_M_follows_a85_ok (r : Nat × zm_H) : Prop := (f_M_follows_k124_ok (r.2))
theorem f_M_follows_a85_w (r : Nat × zm_H) : zWr [] [(92, 3), (92, 5)] (r.2) ((f_M_follows_a85 r)) := by
  unfold f_M_follows_a85
  exact (zWr_tr (f_M_follows_k124_w (r.2)) (by decide) (by decide) (zWr.refl _ _))
def f_M_follows_k234 (h : zm_H) : zm_H := (zp h 92 3 1)
def f_M_follows_k234_ok (h : zm_H) : Prop := True
theorem f_M_follows_k234_w (h : zm_H) : zWr [] [(92, 3)] h ((f_M_follows_k234 h)) := by
  unfold f_M_follows_k234
  exact (zWr_p (by decide) (zWr.refl _ _))
def f_M_follows_a155 (r : Nat × zm_H) : zm_H := (f_M_follows_k234 (r.2))
def f_M_follows_a155_ok (r : Nat × zm_H) : Prop := True
theorem f_M_follows_a155_w (r : Nat × zm_H) : zWr [] [(92, 3)] (r.2) ((f_M_follows_a155 r)) := by
  unfold f_M_follows_a155
  exact (zWr_tr (f_M_follows_k234_w (r.2)) (by decide) (by decide) (zWr.refl _ _))
def f_M_follows_k38 (h : zm_H) : zm_H := (if ((zf h 92 2) = (zf h 92 1)) then (zp (zp (zp h 92 4 (zf h 92 2)) 92 5 0) 92 3 0) else (if (¬ ((zr h 93 (zf h 92 2)) < 97) ∧ (¬ (122 < (zr h 93 (zf h 92 2))))) then (f_M_follows_a85 (f_M_follows_l85 zF (zp (zp (zp h 92 4 (zf h 92 2)) 92 5 0) 92 3 0))) else (if (¬ ((zr h 93 (zf h 92 2)) < 48) ∧ (¬ (57 < (zr h 93 (zf h 92 2))))) then (f_M_follows_a155 (f_M_follows_l155 zF (zp (zp (zp h 92 4 (zf h 92 2)) 92 5 0) 92 3 0))) else (zp (zp (zp (zp (zp (zp h 92 4 (zf h 92 2)) 92 5 0) 92 3 0) 92 3 (if ((zr h 93 (zf h 92 2)) = 43) then (3 : Int32) else (if ((zr h 93 (zf h 92 2)) = 45) then (3 : Int32) else (if ((zr h 93 (zf h 92 2)) = 42) then (3 : Int32) else (if ((zr h 93 (zf h 92 2)) = 47) then (3 : Int32) else (if ((zr h 93 (zf h 92 2)) = 40) then (3 : Int32) else (if ((zr h 93 (zf h 92 2)) = 41) then (3 : Int32) else (if ((zr h 93 (zf h 92 2)) = 91) then (3 : Int32) else (if ((zr h 93 (zf h 92 2)) = 93) then (3 : Int32) else (if ((zr h 93 (zf h 92 2)) = 60) then (3 : Int32) else (if ((zr h 93 (zf h 92 2)) = 62) then (3 : Int32) else (if ((zr h 93 (zf h 92 2)) = 61) then (3 : Int32) else (if ((zr h 93 (zf h 92 2)) = 59) then (3 : Int32) else 4))))))))))))) 92 5 (zr h 93 (zf h 92 2))) 92 2 ((zf h 92 2) + 1)))))
def f_M_follows_k38_ok (h : zm_H) : Prop := ((((zf h 92 2) = (zf h 92 1)) → True) ∧ (¬ ((zf h 92 2) = (zf h 92 1)) → (vp_in (zf h 92 2) 400 ∧ (((¬ ((zr h 93 (zf h 92 2)) < 97) ∧ (¬ (122 < (zr h 93 (zf h 92 2))))) → (f_M_follows_l85_ok zF (zp (zp (zp h 92 4 (zf h 92 2)) 92 5 0) 92 3 0) ∧ f_M_follows_a85_ok (f_M_follows_l85 zF (zp (zp (zp h 92 4 (zf h 92 2)) 92 5 0) 92 3 0)))) ∧ (¬ (¬ ((zr h 93 (zf h 92 2)) < 97) ∧ (¬ (122 < (zr h 93 (zf h 92 2))))) → (((¬ ((zr h 93 (zf h 92 2)) < 48) ∧ (¬ (57 < (zr h 93 (zf h 92 2))))) → (f_M_follows_l155_ok zF (zp (zp (zp h 92 4 (zf h 92 2)) 92 5 0) 92 3 0) ∧ f_M_follows_a155_ok (f_M_follows_l155 zF (zp (zp (zp h 92 4 (zf h 92 2)) 92 5 0) 92 3 0)))) ∧ (¬ (¬ ((zr h 93 (zf h 92 2)) < 48) ∧ (¬ (57 < (zr h 93 (zf h 92 2))))) → True)))))))
theorem f_M_follows_k38_w (h : zm_H) : zWr [] [(92, 2), (92, 3), (92, 4), (92, 5)] h ((f_M_follows_k38 h)) := by
  unfold f_M_follows_k38
  exact (zWr_ite (fun z : zm_H => z) (zWr_p (by decide) (zWr_p (by decide) (zWr_p (by decide) (zWr.refl _ _)))) (zWr_ite (fun z : zm_H => z) (zWr_tr (f_M_follows_a85_w (f_M_follows_l85 zF (zp (zp (zp h 92 4 (zf h 92 2)) 92 5 0) 92 3 0))) (by decide) (by decide) (zWr_tr (f_M_follows_l85_w zF (zp (zp (zp h 92 4 (zf h 92 2)) 92 5 0) 92 3 0)) (by decide) (by decide) (zWr_p (by decide) (zWr_p (by decide) (zWr_p (by decide) (zWr.refl _ _)))))) (zWr_ite (fun z : zm_H => z) (zWr_tr (f_M_follows_a155_w (f_M_follows_l155 zF (zp (zp (zp h 92 4 (zf h 92 2)) 92 5 0) 92 3 0))) (by decide) (by decide) (zWr_tr (f_M_follows_l155_w zF (zp (zp (zp h 92 4 (zf h 92 2)) 92 5 0) 92 3 0)) (by decide) (by decide) (zWr_p (by decide) (zWr_p (by decide) (zWr_p (by decide) (zWr.refl _ _)))))) (zWr_p (by decide) (zWr_p (by decide) (zWr_p (by decide) (zWr_p (by decide) (zWr_p (by decide) (zWr_p (by decide) (zWr.refl _ _))))))))))
def f_M_follows_a0 (r : Nat × zm_H) : zm_H := (f_M_follows_k38 (r.2))
def f_M_follows_a0_ok (r : Nat × zm_H) : Prop := (f_M_follows_k38_ok (r.2))
theorem f_M_follows_a0_w (r : Nat × zm_H) : zWr [] [(92, 2), (92, 3), (92, 4), (92, 5)] (r.2) ((f_M_follows_a0 r)) := by
  unfold f_M_follows_a0
  exact (zWr_tr (f_M_follows_k38_w (r.2)) (by decide) (by decide) (zWr.refl _ _))
def f_M_follows (h : zm_H) : zm_H := (f_M_follows_a0 (f_M_follows_l0 zF h))
def f_M_follows_ok (h : zm_H) : Prop := (f_M_follows_l0_ok zF h ∧ f_M_follows_a0_ok (f_M_follows_l0 zF h))
theorem f_M_follows_w (h : zm_H) : zWr [] [(92, 2), (92, 3), (92, 4), (92, 5)] h ((f_M_follows h)) := by
  unfold f_M_follows
  exact (zWr_tr (f_M_follows_a0_w (f_M_follows_l0 zF h)) (by decide) (by decide) (zWr_tr (f_M_follows_l0_w zF h) (by decide) (by decide) (zWr.refl _ _)))
def f_M_push (p1 : Int32) (h : zm_H) : zm_H := (zp (zs h 94 (zf h 92 7) p1) 92 7 ((zf h 92 7) + 1))
def f_M_push_ok (p1 : Int32) (h : zm_H) : Prop := vp_in (zf h 92 7) 800
theorem f_M_push_w (p1 : Int32) (h : zm_H) : zWr [94] [(92, 7)] h ((f_M_push p1 h)) := by
  unfold f_M_push
  exact (zWr_p (by decide) (zWr_si (by decide) (zWr.refl _ _)))
def f_M_takes (h : zm_H) : Int32 × zm_H := (1, (f_M_follows h))
def f_M_takes_ok (h : zm_H) : Prop := f_M_follows_ok h
theorem f_M_takes_w (h : zm_H) : zWr [] [(92, 2), (92, 3), (92, 4), (92, 5)] h ((f_M_takes h).2) := by
  unfold f_M_takes
  exact (zWr_tr (f_M_follows_w h) (by decide) (by decide) (zWr.refl _ _))
def f_M_clauses_k101 (h : zm_H) : Int32 × zm_H := (f_M_takes h)
def f_M_clauses_k101_ok (h : zm_H) : Prop := (f_M_takes_ok h ∧ vp_nar .boolean (f_M_takes h).1 = (f_M_takes h).1)
theorem f_M_clauses_k101_w (h : zm_H) : zWr [] [(92, 2), (92, 3), (92, 4), (92, 5)] h ((f_M_clauses_k101 h).2) := by
  unfold f_M_clauses_k101
  exact (zWr_tr (f_M_takes_w h) (by decide) (by decide) (zWr.refl _ _))
def f_M_clauses_k83 (h : zm_H) : Int32 × zm_H := (f_M_clauses_k101 (f_M_push (if ((zf h 92 9) = 3) then (1 : Int32) else 6) h))
def f_M_clauses_k83_ok (h : zm_H) : Prop := (f_M_push_ok (if ((zf h 92 9) = 3) then (1 : Int32) else 6) h ∧ (f_M_clauses_k101_ok (f_M_push (if ((zf h 92 9) = 3) then (1 : Int32) else 6) h)))
theorem f_M_clauses_k83_w (h : zm_H) : zWr [94] [(92, 2), (92, 3), (92, 4), (92, 5), (92, 7)] h ((f_M_clauses_k83 h).2) := by
  unfold f_M_clauses_k83
  exact (zWr_tr (f_M_clauses_k101_w (f_M_push (if ((zf h 92 9) = 3) then (1 : Int32) else 6) h)) (by decide) (by decide) (zWr_tr (f_M_push_w (if ((zf h 92 9) = 3) then (1 : Int32) else 6) h) (by decide) (by decide) (zWr.refl _ _)))
def f_M_clauses_k76 (h : zm_H) : Int32 × zm_H := (f_M_clauses_k83 (f_M_push 159 h))
def f_M_clauses_k76_ok (h : zm_H) : Prop := (f_M_push_ok 159 h ∧ (f_M_clauses_k83_ok (f_M_push 159 h)))
theorem f_M_clauses_k76_w (h : zm_H) : zWr [94] [(92, 2), (92, 3), (92, 4), (92, 5), (92, 7)] h ((f_M_clauses_k76 h).2) := by
  unfold f_M_clauses_k76
  exact (zWr_tr (f_M_clauses_k83_w (f_M_push 159 h)) (by decide) (by decide) (zWr_tr (f_M_push_w 159 h) (by decide) (by decide) (zWr.refl _ _)))
def f_M_clauses_k70 (h : zm_H) : Int32 × zm_H := (f_M_clauses_k76 (f_M_push 13 h))
def f_M_clauses_k70_ok (h : zm_H) : Prop := (f_M_push_ok 13 h ∧ (f_M_clauses_k76_ok (f_M_push 13 h)))
theorem f_M_clauses_k70_w (h : zm_H) : zWr [94] [(92, 2), (92, 3), (92, 4), (92, 5), (92, 7)] h ((f_M_clauses_k70 h).2) := by
  unfold f_M_clauses_k70
  exact (zWr_tr (f_M_clauses_k76_w (f_M_push 13 h)) (by decide) (by decide) (zWr_tr (f_M_push_w 13 h) (by decide) (by decide) (zWr.refl _ _)))
def f_M_clauses (h : zm_H) : Int32 × zm_H := (if ((zf h 92 3) = 0) then (1, h) else (if ((zf h 92 3) = 2) then (if (¬ ((zf h 92 5) < 0) ∧ (¬ (3 < (zf h 92 5)))) then (if ((zr h 97 (zf h 92 5)) = (-1)) then (f_M_clauses_k70 (f_M_push 0 (zs (zp h 92 9 (zf h 92 5)) 97 (zf h 92 5) (zf h 92 12)))) else (0, h)) else (0, h)) else (0, h)))
def f_M_clauses_ok (h : zm_H) : Prop := ((((zf h 92 3) = 0) → True) ∧ (¬ ((zf h 92 3) = 0) → ((((zf h 92 3) = 2) → (((¬ ((zf h 92 5) < 0) ∧ (¬ (3 < (zf h 92 5)))) → (vp_in (zf h 92 5) 4 ∧ ((((zr h 97 (zf h 92 5)) = (-1)) → (vp_in (zf h 92 5) 4 ∧ (f_M_push_ok 0 (zs (zp h 92 9 (zf h 92 5)) 97 (zf h 92 5) (zf h 92 12)) ∧ (f_M_clauses_k70_ok (f_M_push 0 (zs (zp h 92 9 (zf h 92 5)) 97 (zf h 92 5) (zf h 92 12))))))) ∧ (¬ ((zr h 97 (zf h 92 5)) = (-1)) → True)))) ∧ (¬ (¬ ((zf h 92 5) < 0) ∧ (¬ (3 < (zf h 92 5)))) → True))) ∧ (¬ ((zf h 92 3) = 2) → True))))
theorem f_M_clauses_w (h : zm_H) : zWr [94, 97] [(92, 2), (92, 3), (92, 4), (92, 5), (92, 7), (92, 9)] h ((f_M_clauses h).2) := by
  unfold f_M_clauses
  exact (zWr_ite (fun z : Int32 × zm_H => z.2) (zWr.refl _ _) (zWr_ite (fun z : Int32 × zm_H => z.2) (zWr_ite (fun z : Int32 × zm_H => z.2) (zWr_ite (fun z : Int32 × zm_H => z.2) (zWr_tr (f_M_clauses_k70_w (f_M_push 0 (zs (zp h 92 9 (zf h 92 5)) 97 (zf h 92 5) (zf h 92 12)))) (by decide) (by decide) (zWr_tr (f_M_push_w 0 (zs (zp h 92 9 (zf h 92 5)) 97 (zf h 92 5) (zf h 92 12))) (by decide) (by decide) (zWr_si (by decide) (zWr_p (by decide) (zWr.refl _ _))))) (zWr.refl _ _)) (zWr.refl _ _)) (zWr.refl _ _)))
def f_M_both_k5 (v2 : Int32) (h : zm_H) : Int32 × zm_H := (1, (f_M_push v2 h))
def f_M_both_k5_ok (v2 : Int32) (h : zm_H) : Prop := f_M_push_ok v2 h
theorem f_M_both_k5_w (v2 : Int32) (h : zm_H) : zWr [94] [(92, 7)] h ((f_M_both_k5 v2 h).2) := by
  unfold f_M_both_k5
  exact (zWr_tr (f_M_push_w v2 h) (by decide) (by decide) (zWr.refl _ _))
def f_M_both (p1 : Int32) (p2 : Int32) (h : zm_H) : Int32 × zm_H := (f_M_both_k5 p2 (f_M_push p1 h))
def f_M_both_ok (p1 : Int32) (p2 : Int32) (h : zm_H) : Prop := (f_M_push_ok p1 h ∧ (f_M_both_k5_ok p2 (f_M_push p1 h)))
theorem f_M_both_w (p1 : Int32) (p2 : Int32) (h : zm_H) : zWr [94] [(92, 7)] h ((f_M_both p1 p2 h).2) := by
  unfold f_M_both
  exact (zWr_tr (f_M_both_k5_w p2 (f_M_push p1 h)) (by decide) (by decide) (zWr_tr (f_M_push_w p1 h) (by decide) (by decide) (zWr.refl _ _)))
def f_M_isSign (p1 : Int32) (h : zm_H) : Int32 := (if (((zf h 92 3) = 3) ∧ ((zf h 92 5) = p1)) then (1 : Int32) else 0)
def f_M_isSign_ok (p1 : Int32) (h : zm_H) : Prop := True
def f_M_more_k51 (v6 : Int32) (h : zm_H) : Int32 × zm_H := (1, (f_M_push v6 h))
def f_M_more_k51_ok (v6 : Int32) (h : zm_H) : Prop := f_M_push_ok v6 h
theorem f_M_more_k51_w (v6 : Int32) (h : zm_H) : zWr [94] [(92, 7)] h ((f_M_more_k51 v6 h).2) := by
  unfold f_M_more_k51
  exact (zWr_tr (f_M_push_w v6 h) (by decide) (by decide) (zWr.refl _ _))
def f_M_more_k32 (v2 : Int32) (v4 : Int32) (v6 : Int32) (v7 : Int32) (h : zm_H) : Int32 × zm_H := (f_M_more_k51 v6 (f_M_push (1000 + (if (v7 = 0) then (v4 : Int32) else v2)) h))
def f_M_more_k32_ok (v2 : Int32) (v4 : Int32) (v6 : Int32) (v7 : Int32) (h : zm_H) : Prop := (f_M_push_ok (1000 + (if (v7 = 0) then (v4 : Int32) else v2)) h ∧ (f_M_more_k51_ok v6 (f_M_push (1000 + (if (v7 = 0) then (v4 : Int32) else v2)) h)))
theorem f_M_more_k32_w (v2 : Int32) (v4 : Int32) (v6 : Int32) (v7 : Int32) (h : zm_H) : zWr [94] [(92, 7)] h ((f_M_more_k32 v2 v4 v6 v7 h).2) := by
  unfold f_M_more_k32
  exact (zWr_tr (f_M_more_k51_w v6 (f_M_push (1000 + (if (v7 = 0) then (v4 : Int32) else v2)) h)) (by decide) (by decide) (zWr_tr (f_M_push_w (1000 + (if (v7 = 0) then (v4 : Int32) else v2)) h) (by decide) (by decide) (zWr.refl _ _)))
def f_M_more_k26 (v2 : Int32) (v4 : Int32) (v5 : Int32) (v6 : Int32) (v7 : Int32) (h : zm_H) : Int32 × zm_H := (f_M_more_k32 v2 v4 v6 v7 (f_M_push v5 h))
def f_M_more_k26_ok (v2 : Int32) (v4 : Int32) (v5 : Int32) (v6 : Int32) (v7 : Int32) (h : zm_H) : Prop := (f_M_push_ok v5 h ∧ (f_M_more_k32_ok v2 v4 v6 v7 (f_M_push v5 h)))
theorem f_M_more_k26_w (v2 : Int32) (v4 : Int32) (v5 : Int32) (v6 : Int32) (v7 : Int32) (h : zm_H) : zWr [94] [(92, 7)] h ((f_M_more_k26 v2 v4 v5 v6 v7 h).2) := by
  unfold f_M_more_k26
  exact (zWr_tr (f_M_more_k32_w v2 v4 v6 v7 (f_M_push v5 h)) (by decide) (by decide) (zWr_tr (f_M_push_w v5 h) (by decide) (by decide) (zWr.refl _ _)))
def f_M_more_k22 (v2 : Int32) (v4 : Int32) (v5 : Int32) (v6 : Int32) (v7 : Int32) (h : zm_H) : Int32 × zm_H := (f_M_more_k26 v2 v4 v5 v6 v7 (f_M_follows h))
def f_M_more_k22_ok (v2 : Int32) (v4 : Int32) (v5 : Int32) (v6 : Int32) (v7 : Int32) (h : zm_H) : Prop := (f_M_follows_ok h ∧ (f_M_more_k26_ok v2 v4 v5 v6 v7 (f_M_follows h)))
theorem f_M_more_k22_w (v2 : Int32) (v4 : Int32) (v5 : Int32) (v6 : Int32) (v7 : Int32) (h : zm_H) : zWr [94] [(92, 2), (92, 3), (92, 4), (92, 5), (92, 7)] h ((f_M_more_k22 v2 v4 v5 v6 v7 h).2) := by
  unfold f_M_more_k22
  exact (zWr_tr (f_M_more_k26_w v2 v4 v5 v6 v7 (f_M_follows h)) (by decide) (by decide) (zWr_tr (f_M_follows_w h) (by decide) (by decide) (zWr.refl _ _)))
def f_M_more (p1 : Int32) (p2 : Int32) (p3 : Int32) (p4 : Int32) (p5 : Int32) (p6 : Int32) (h : zm_H) : Int32 × zm_H := (if (((zf h 92 3) = 3) ∧ ((zf h 92 5) = p1)) then (f_M_more_k22 p2 p4 p5 p6 (if (((zf h 92 3) = 3) ∧ ((zf h 92 5) = p1)) then (1 : Int32) else 0) h) else (if (((zf h 92 3) = 3) ∧ ((zf h 92 5) = p3)) then (f_M_more_k22 p2 p4 p5 p6 (if (((zf h 92 3) = 3) ∧ ((zf h 92 5) = p1)) then (1 : Int32) else 0) h) else (1, h)))
def f_M_more_ok (p1 : Int32) (p2 : Int32) (p3 : Int32) (p4 : Int32) (p5 : Int32) (p6 : Int32) (h : zm_H) : Prop := (((((zf h 92 3) = 3) ∧ ((zf h 92 5) = p1)) → (f_M_more_k22_ok p2 p4 p5 p6 (if (((zf h 92 3) = 3) ∧ ((zf h 92 5) = p1)) then (1 : Int32) else 0) h)) ∧ (¬ (((zf h 92 3) = 3) ∧ ((zf h 92 5) = p1)) → (((((zf h 92 3) = 3) ∧ ((zf h 92 5) = p3)) → (f_M_more_k22_ok p2 p4 p5 p6 (if (((zf h 92 3) = 3) ∧ ((zf h 92 5) = p1)) then (1 : Int32) else 0) h)) ∧ (¬ (((zf h 92 3) = 3) ∧ ((zf h 92 5) = p3)) → True))))
theorem f_M_more_w (p1 : Int32) (p2 : Int32) (p3 : Int32) (p4 : Int32) (p5 : Int32) (p6 : Int32) (h : zm_H) : zWr [94] [(92, 2), (92, 3), (92, 4), (92, 5), (92, 7)] h ((f_M_more p1 p2 p3 p4 p5 p6 h).2) := by
  unfold f_M_more
  exact (zWr_ite (fun z : Int32 × zm_H => z.2) (zWr_tr (f_M_more_k22_w p2 p4 p5 p6 (if (((zf h 92 3) = 3) ∧ ((zf h 92 5) = p1)) then (1 : Int32) else 0) h) (by decide) (by decide) (zWr.refl _ _)) (zWr_ite (fun z : Int32 × zm_H => z.2) (zWr_tr (f_M_more_k22_w p2 p4 p5 p6 (if (((zf h 92 3) = 3) ∧ ((zf h 92 5) = p1)) then (1 : Int32) else 0) h) (by decide) (by decide) (zWr.refl _ _)) (zWr.refl _ _)))
def f_M_deeper (h : zm_H) : Int32 × zm_H := (if ((zf h 92 8) = 8) then (0, h) else (1, (f_M_push 12 (zp h 92 8 ((zf h 92 8) + 1)))))
def f_M_deeper_ok (h : zm_H) : Prop := ((((zf h 92 8) = 8) → True) ∧ (¬ ((zf h 92 8) = 8) → f_M_push_ok 12 (zp h 92 8 ((zf h 92 8) + 1))))
theorem f_M_deeper_w (h : zm_H) : zWr [94] [(92, 7), (92, 8)] h ((f_M_deeper h).2) := by
  unfold f_M_deeper
  exact (zWr_ite (fun z : Int32 × zm_H => z.2) (zWr.refl _ _) (zWr_tr (f_M_push_w 12 (zp h 92 8 ((zf h 92 8) + 1))) (by decide) (by decide) (zWr_p (by decide) (zWr.refl _ _))))
def f_M_factor_k101 (h : zm_H) : Int32 × zm_H := (f_M_takes h)
def f_M_factor_k101_ok (h : zm_H) : Prop := (f_M_takes_ok h ∧ vp_nar .boolean (f_M_takes h).1 = (f_M_takes h).1)
theorem f_M_factor_k101_w (h : zm_H) : zWr [] [(92, 2), (92, 3), (92, 4), (92, 5)] h ((f_M_factor_k101 h).2) := by
  unfold f_M_factor_k101
  exact (zWr_tr (f_M_takes_w h) (by decide) (by decide) (zWr.refl _ _))
def f_M_factor_k96 (h : zm_H) : Int32 × zm_H := (f_M_factor_k101 (f_M_push 1 h))
def f_M_factor_k96_ok (h : zm_H) : Prop := (f_M_push_ok 1 h ∧ (f_M_factor_k101_ok (f_M_push 1 h)))
theorem f_M_factor_k96_w (h : zm_H) : zWr [94] [(92, 2), (92, 3), (92, 4), (92, 5), (92, 7)] h ((f_M_factor_k96 h).2) := by
  unfold f_M_factor_k96
  exact (zWr_tr (f_M_factor_k101_w (f_M_push 1 h)) (by decide) (by decide) (zWr_tr (f_M_push_w 1 h) (by decide) (by decide) (zWr.refl _ _)))
def f_M_factor_k84 (w0 : Int32) (h : zm_H) : Int32 × zm_H := (if (w0 = 0) then (0, h) else (f_M_factor_k96 (f_M_push 141 h)))
def f_M_factor_k84_ok (w0 : Int32) (h : zm_H) : Prop := (((w0 = 0) → True) ∧ (¬ (w0 = 0) → (f_M_push_ok 141 h ∧ (f_M_factor_k96_ok (f_M_push 141 h)))))
theorem f_M_factor_k84_w (w0 : Int32) (h : zm_H) : zWr [94] [(92, 2), (92, 3), (92, 4), (92, 5), (92, 7)] h ((f_M_factor_k84 w0 h).2) := by
  unfold f_M_factor_k84
  exact (zWr_ite (fun z : Int32 × zm_H => z.2) (zWr.refl _ _) (zWr_tr (f_M_factor_k96_w (f_M_push 141 h)) (by decide) (by decide) (zWr_tr (f_M_push_w 141 h) (by decide) (by decide) (zWr.refl _ _))))
def f_M_factor_k71 (h : zm_H) : Int32 × zm_H := (if (((zf h 92 3) = 3) ∧ ((zf h 92 5) = 40)) then (f_M_factor_k84 (f_M_deeper h).1 (f_M_deeper h).2) else (0, h))
def f_M_factor_k71_ok (h : zm_H) : Prop := (((((zf h 92 3) = 3) ∧ ((zf h 92 5) = 40)) → (f_M_deeper_ok h ∧ (f_M_factor_k84_ok (f_M_deeper h).1 (f_M_deeper h).2))) ∧ (¬ (((zf h 92 3) = 3) ∧ ((zf h 92 5) = 40)) → True))
theorem f_M_factor_k71_w (h : zm_H) : zWr [94] [(92, 2), (92, 3), (92, 4), (92, 5), (92, 7), (92, 8)] h ((f_M_factor_k71 h).2) := by
  unfold f_M_factor_k71
  exact (zWr_ite (fun z : Int32 × zm_H => z.2) (zWr_tr (f_M_factor_k84_w (f_M_deeper h).1 (f_M_deeper h).2) (by decide) (by decide) (zWr_tr (f_M_deeper_w h) (by decide) (by decide) (zWr.refl _ _))) (zWr.refl _ _))
def f_M_emits (p1 : Int32) (p2 : Int32) (h : zm_H) : zm_H := (zp (zs (zs h 95 (zf h 92 12) p1) 96 (zf h 92 12) p2) 92 12 ((zf h 92 12) + 1))
def f_M_emits_ok (p1 : Int32) (p2 : Int32) (h : zm_H) : Prop := (vp_in (zf h 92 12) 400 ∧ vp_in (zf h 92 12) 400)
theorem f_M_emits_w (p1 : Int32) (p2 : Int32) (h : zm_H) : zWr [95, 96] [(92, 12)] h ((f_M_emits p1 p2 h)) := by
  unfold f_M_emits
  exact (zWr_p (by decide) (zWr_si (by decide) (zWr_si (by decide) (zWr.refl _ _))))
def f_M_factor_k66 (h : zm_H) : Int32 × zm_H := (f_M_takes h)
def f_M_factor_k66_ok (h : zm_H) : Prop := (f_M_takes_ok h ∧ vp_nar .boolean (f_M_takes h).1 = (f_M_takes h).1)
theorem f_M_factor_k66_w (h : zm_H) : zWr [] [(92, 2), (92, 3), (92, 4), (92, 5)] h ((f_M_factor_k66 h).2) := by
  unfold f_M_factor_k66
  exact (zWr_tr (f_M_takes_w h) (by decide) (by decide) (zWr.refl _ _))
def f_M_factor_k29 (h : zm_H) : Int32 × zm_H := (f_M_takes h)
def f_M_factor_k29_ok (h : zm_H) : Prop := (f_M_takes_ok h ∧ vp_nar .boolean (f_M_takes h).1 = (f_M_takes h).1)
theorem f_M_factor_k29_w (h : zm_H) : zWr [] [(92, 2), (92, 3), (92, 4), (92, 5)] h ((f_M_factor_k29 h).2) := by
  unfold f_M_factor_k29
  exact (zWr_tr (f_M_takes_w h) (by decide) (by decide) (zWr.refl _ _))
def f_M_factor (h : zm_H) : Int32 × zm_H := (if ((zf h 92 3) = 1) then (if ((zf h 92 5) ≤ 99999) then (f_M_factor_k29 (f_M_emits 0 (zf h 92 5) h)) else (0, h)) else (if ((zf h 92 3) = 2) then (if (¬ ((zf h 92 5) < 4) ∧ (¬ (12 < (zf h 92 5)))) then (f_M_factor_k66 (f_M_emits 1 ((zf h 92 5) - 4) h)) else (f_M_factor_k71 h)) else (f_M_factor_k71 h)))
def f_M_factor_ok (h : zm_H) : Prop := ((((zf h 92 3) = 1) → ((((zf h 92 5) ≤ 99999) → (f_M_emits_ok 0 (zf h 92 5) h ∧ (f_M_factor_k29_ok (f_M_emits 0 (zf h 92 5) h)))) ∧ (¬ ((zf h 92 5) ≤ 99999) → True))) ∧ (¬ ((zf h 92 3) = 1) → ((((zf h 92 3) = 2) → (((¬ ((zf h 92 5) < 4) ∧ (¬ (12 < (zf h 92 5)))) → (f_M_emits_ok 1 ((zf h 92 5) - 4) h ∧ (f_M_factor_k66_ok (f_M_emits 1 ((zf h 92 5) - 4) h)))) ∧ (¬ (¬ ((zf h 92 5) < 4) ∧ (¬ (12 < (zf h 92 5)))) → (f_M_factor_k71_ok h)))) ∧ (¬ ((zf h 92 3) = 2) → (f_M_factor_k71_ok h)))))
theorem f_M_factor_w (h : zm_H) : zWr [94, 95, 96] [(92, 2), (92, 3), (92, 4), (92, 5), (92, 7), (92, 8), (92, 12)] h ((f_M_factor h).2) := by
  unfold f_M_factor
  exact (zWr_ite (fun z : Int32 × zm_H => z.2) (zWr_ite (fun z : Int32 × zm_H => z.2) (zWr_tr (f_M_factor_k29_w (f_M_emits 0 (zf h 92 5) h)) (by decide) (by decide) (zWr_tr (f_M_emits_w 0 (zf h 92 5) h) (by decide) (by decide) (zWr.refl _ _))) (zWr.refl _ _)) (zWr_ite (fun z : Int32 × zm_H => z.2) (zWr_ite (fun z : Int32 × zm_H => z.2) (zWr_tr (f_M_factor_k66_w (f_M_emits 1 ((zf h 92 5) - 4) h)) (by decide) (by decide) (zWr_tr (f_M_emits_w 1 ((zf h 92 5) - 4) h) (by decide) (by decide) (zWr.refl _ _))) (zWr_tr (f_M_factor_k71_w h) (by decide) (by decide) (zWr.refl _ _))) (zWr_tr (f_M_factor_k71_w h) (by decide) (by decide) (zWr.refl _ _))))
def f_M_isWord (p1 : Int32) (h : zm_H) : Int32 := (if (((zf h 92 3) = 2) ∧ ((zf h 92 5) = p1)) then (1 : Int32) else 0)
def f_M_isWord_ok (p1 : Int32) (h : zm_H) : Prop := True
def f_M_moreWords_k28 (v4 : Int32) (h : zm_H) : Int32 × zm_H := (1, (f_M_push v4 h))
def f_M_moreWords_k28_ok (v4 : Int32) (h : zm_H) : Prop := f_M_push_ok v4 h
theorem f_M_moreWords_k28_w (v4 : Int32) (h : zm_H) : zWr [94] [(92, 7)] h ((f_M_moreWords_k28 v4 h).2) := by
  unfold f_M_moreWords_k28
  exact (zWr_tr (f_M_push_w v4 h) (by decide) (by decide) (zWr.refl _ _))
def f_M_moreWords_k19 (v2 : Int32) (v4 : Int32) (h : zm_H) : Int32 × zm_H := (f_M_moreWords_k28 v4 (f_M_push (1000 + v2) h))
def f_M_moreWords_k19_ok (v2 : Int32) (v4 : Int32) (h : zm_H) : Prop := (f_M_push_ok (1000 + v2) h ∧ (f_M_moreWords_k28_ok v4 (f_M_push (1000 + v2) h)))
theorem f_M_moreWords_k19_w (v2 : Int32) (v4 : Int32) (h : zm_H) : zWr [94] [(92, 7)] h ((f_M_moreWords_k19 v2 v4 h).2) := by
  unfold f_M_moreWords_k19
  exact (zWr_tr (f_M_moreWords_k28_w v4 (f_M_push (1000 + v2) h)) (by decide) (by decide) (zWr_tr (f_M_push_w (1000 + v2) h) (by decide) (by decide) (zWr.refl _ _)))
def f_M_moreWords_k14 (v2 : Int32) (v3 : Int32) (v4 : Int32) (h : zm_H) : Int32 × zm_H := (f_M_moreWords_k19 v2 v4 (f_M_push v3 h))
def f_M_moreWords_k14_ok (v2 : Int32) (v3 : Int32) (v4 : Int32) (h : zm_H) : Prop := (f_M_push_ok v3 h ∧ (f_M_moreWords_k19_ok v2 v4 (f_M_push v3 h)))
theorem f_M_moreWords_k14_w (v2 : Int32) (v3 : Int32) (v4 : Int32) (h : zm_H) : zWr [94] [(92, 7)] h ((f_M_moreWords_k14 v2 v3 v4 h).2) := by
  unfold f_M_moreWords_k14
  exact (zWr_tr (f_M_moreWords_k19_w v2 v4 (f_M_push v3 h)) (by decide) (by decide) (zWr_tr (f_M_push_w v3 h) (by decide) (by decide) (zWr.refl _ _)))
def f_M_moreWords (p1 : Int32) (p2 : Int32) (p3 : Int32) (p4 : Int32) (h : zm_H) : Int32 × zm_H := (if (((zf h 92 3) = 2) ∧ ((zf h 92 5) = p1)) then (f_M_moreWords_k14 p2 p3 p4 (f_M_follows h)) else (1, h))
def f_M_moreWords_ok (p1 : Int32) (p2 : Int32) (p3 : Int32) (p4 : Int32) (h : zm_H) : Prop := (((((zf h 92 3) = 2) ∧ ((zf h 92 5) = p1)) → (f_M_follows_ok h ∧ (f_M_moreWords_k14_ok p2 p3 p4 (f_M_follows h)))) ∧ (¬ (((zf h 92 3) = 2) ∧ ((zf h 92 5) = p1)) → True))
theorem f_M_moreWords_w (p1 : Int32) (p2 : Int32) (p3 : Int32) (p4 : Int32) (h : zm_H) : zWr [94] [(92, 2), (92, 3), (92, 4), (92, 5), (92, 7)] h ((f_M_moreWords p1 p2 p3 p4 h).2) := by
  unfold f_M_moreWords
  exact (zWr_ite (fun z : Int32 × zm_H => z.2) (zWr_tr (f_M_moreWords_k14_w p2 p3 p4 (f_M_follows h)) (by decide) (by decide) (zWr_tr (f_M_follows_w h) (by decide) (by decide) (zWr.refl _ _))) (zWr.refl _ _))
def f_M_holds_k70 (h : zm_H) : Int32 × zm_H := (f_M_takes h)
def f_M_holds_k70_ok (h : zm_H) : Prop := (f_M_takes_ok h ∧ vp_nar .boolean (f_M_takes h).1 = (f_M_takes h).1)
theorem f_M_holds_k70_w (h : zm_H) : zWr [] [(92, 2), (92, 3), (92, 4), (92, 5)] h ((f_M_holds_k70 h).2) := by
  unfold f_M_holds_k70
  exact (zWr_tr (f_M_takes_w h) (by decide) (by decide) (zWr.refl _ _))
def f_M_holds_k64 (h : zm_H) : Int32 × zm_H := (f_M_holds_k70 (f_M_push 6 h))
def f_M_holds_k64_ok (h : zm_H) : Prop := (f_M_push_ok 6 h ∧ (f_M_holds_k70_ok (f_M_push 6 h)))
theorem f_M_holds_k64_w (h : zm_H) : zWr [94] [(92, 2), (92, 3), (92, 4), (92, 5), (92, 7)] h ((f_M_holds_k64 h).2) := by
  unfold f_M_holds_k64
  exact (zWr_tr (f_M_holds_k70_w (f_M_push 6 h)) (by decide) (by decide) (zWr_tr (f_M_push_w 6 h) (by decide) (by decide) (zWr.refl _ _)))
def f_M_holds_k54 (h : zm_H) : Int32 × zm_H := (f_M_holds_k70 h)
def f_M_holds_k54_ok (h : zm_H) : Prop := (f_M_holds_k70_ok h)
theorem f_M_holds_k54_w (h : zm_H) : zWr [] [(92, 2), (92, 3), (92, 4), (92, 5)] h ((f_M_holds_k54 h).2) := by
  unfold f_M_holds_k54
  exact (zWr_tr (f_M_holds_k70_w h) (by decide) (by decide) (zWr.refl _ _))
def f_M_holds_k48 (h : zm_H) : Int32 × zm_H := (f_M_holds_k54 (f_M_push 10 h))
def f_M_holds_k48_ok (h : zm_H) : Prop := (f_M_push_ok 10 h ∧ (f_M_holds_k54_ok (f_M_push 10 h)))
theorem f_M_holds_k48_w (h : zm_H) : zWr [94] [(92, 2), (92, 3), (92, 4), (92, 5), (92, 7)] h ((f_M_holds_k48 h).2) := by
  unfold f_M_holds_k48
  exact (zWr_tr (f_M_holds_k54_w (f_M_push 10 h)) (by decide) (by decide) (zWr_tr (f_M_push_w 10 h) (by decide) (by decide) (zWr.refl _ _)))
def f_M_holds_k32 (v1 : Int32) (w0 : Int32) (h : zm_H) : Int32 × zm_H := (if (w0 = 0) then (0, h) else (if (v1 = 0) then (f_M_holds_k64 (f_M_push 193 h)) else (f_M_holds_k48 (f_M_push 1011 h))))
def f_M_holds_k32_ok (v1 : Int32) (w0 : Int32) (h : zm_H) : Prop := (((w0 = 0) → True) ∧ (¬ (w0 = 0) → (((v1 = 0) → (f_M_push_ok 193 h ∧ (f_M_holds_k64_ok (f_M_push 193 h)))) ∧ (¬ (v1 = 0) → (f_M_push_ok 1011 h ∧ (f_M_holds_k48_ok (f_M_push 1011 h)))))))
theorem f_M_holds_k32_w (v1 : Int32) (w0 : Int32) (h : zm_H) : zWr [94] [(92, 2), (92, 3), (92, 4), (92, 5), (92, 7)] h ((f_M_holds_k32 v1 w0 h).2) := by
  unfold f_M_holds_k32
  exact (zWr_ite (fun z : Int32 × zm_H => z.2) (zWr.refl _ _) (zWr_ite (fun z : Int32 × zm_H => z.2) (zWr_tr (f_M_holds_k64_w (f_M_push 193 h)) (by decide) (by decide) (zWr_tr (f_M_push_w 193 h) (by decide) (by decide) (zWr.refl _ _))) (zWr_tr (f_M_holds_k48_w (f_M_push 1011 h)) (by decide) (by decide) (zWr_tr (f_M_push_w 1011 h) (by decide) (by decide) (zWr.refl _ _)))))
def f_M_holds_k28 (v1 : Int32) (h : zm_H) : Int32 × zm_H := (f_M_holds_k32 v1 (f_M_deeper h).1 (f_M_deeper h).2)
def f_M_holds_k28_ok (v1 : Int32) (h : zm_H) : Prop := (f_M_deeper_ok h ∧ (f_M_holds_k32_ok v1 (f_M_deeper h).1 (f_M_deeper h).2))
theorem f_M_holds_k28_w (v1 : Int32) (h : zm_H) : zWr [94] [(92, 2), (92, 3), (92, 4), (92, 5), (92, 7), (92, 8)] h ((f_M_holds_k28 v1 h).2) := by
  unfold f_M_holds_k28
  exact (zWr_tr (f_M_holds_k32_w v1 (f_M_deeper h).1 (f_M_deeper h).2) (by decide) (by decide) (zWr_tr (f_M_deeper_w h) (by decide) (by decide) (zWr.refl _ _)))
def f_M_holds (h : zm_H) : Int32 × zm_H := (if (((zf h 92 3) = 2) ∧ ((zf h 92 5) = 15)) then (f_M_holds_k28 (if (((zf h 92 3) = 2) ∧ ((zf h 92 5) = 15)) then (1 : Int32) else 0) h) else (if (((zf h 92 3) = 3) ∧ ((zf h 92 5) = 91)) then (f_M_holds_k28 (if (((zf h 92 3) = 2) ∧ ((zf h 92 5) = 15)) then (1 : Int32) else 0) h) else (f_M_both 11 1 h)))
def f_M_holds_ok (h : zm_H) : Prop := (((((zf h 92 3) = 2) ∧ ((zf h 92 5) = 15)) → (f_M_holds_k28_ok (if (((zf h 92 3) = 2) ∧ ((zf h 92 5) = 15)) then (1 : Int32) else 0) h)) ∧ (¬ (((zf h 92 3) = 2) ∧ ((zf h 92 5) = 15)) → (((((zf h 92 3) = 3) ∧ ((zf h 92 5) = 91)) → (f_M_holds_k28_ok (if (((zf h 92 3) = 2) ∧ ((zf h 92 5) = 15)) then (1 : Int32) else 0) h)) ∧ (¬ (((zf h 92 3) = 3) ∧ ((zf h 92 5) = 91)) → (f_M_both_ok 11 1 h ∧ vp_nar .boolean (f_M_both 11 1 h).1 = (f_M_both 11 1 h).1)))))
theorem f_M_holds_w (h : zm_H) : zWr [94] [(92, 2), (92, 3), (92, 4), (92, 5), (92, 7), (92, 8)] h ((f_M_holds h).2) := by
  unfold f_M_holds
  exact (zWr_ite (fun z : Int32 × zm_H => z.2) (zWr_tr (f_M_holds_k28_w (if (((zf h 92 3) = 2) ∧ ((zf h 92 5) = 15)) then (1 : Int32) else 0) h) (by decide) (by decide) (zWr.refl _ _)) (zWr_ite (fun z : Int32 × zm_H => z.2) (zWr_tr (f_M_holds_k28_w (if (((zf h 92 3) = 2) ∧ ((zf h 92 5) = 15)) then (1 : Int32) else 0) h) (by decide) (by decide) (zWr.refl _ _)) (zWr_tr (f_M_both_w 11 1 h) (by decide) (by decide) (zWr.refl _ _))))
def f_M_compares_k72 (h : zm_H) : Int32 × zm_H := (f_M_takes h)
def f_M_compares_k72_ok (h : zm_H) : Prop := (f_M_takes_ok h ∧ vp_nar .boolean (f_M_takes h).1 = (f_M_takes h).1)
theorem f_M_compares_k72_w (h : zm_H) : zWr [] [(92, 2), (92, 3), (92, 4), (92, 5)] h ((f_M_compares_k72 h).2) := by
  unfold f_M_compares_k72
  exact (zWr_tr (f_M_takes_w h) (by decide) (by decide) (zWr.refl _ _))
def f_M_compares_k67 (h : zm_H) : Int32 × zm_H := (f_M_compares_k72 (f_M_push 1 h))
def f_M_compares_k67_ok (h : zm_H) : Prop := (f_M_push_ok 1 h ∧ (f_M_compares_k72_ok (f_M_push 1 h)))
theorem f_M_compares_k67_w (h : zm_H) : zWr [94] [(92, 2), (92, 3), (92, 4), (92, 5), (92, 7)] h ((f_M_compares_k67 h).2) := by
  unfold f_M_compares_k67
  exact (zWr_tr (f_M_compares_k72_w (f_M_push 1 h)) (by decide) (by decide) (zWr_tr (f_M_push_w 1 h) (by decide) (by decide) (zWr.refl _ _)))
def f_M_compares_k29 (h : zm_H) : Int32 × zm_H := (f_M_compares_k67 (f_M_push (1000 + (if (((zf h 92 3) = 3) ∧ ((zf h 92 5) = 60)) then (6 : Int32) else (if (((zf h 92 3) = 3) ∧ ((zf h 92 5) = 62)) then (7 : Int32) else 8))) h))
def f_M_compares_k29_ok (h : zm_H) : Prop := (f_M_push_ok (1000 + (if (((zf h 92 3) = 3) ∧ ((zf h 92 5) = 60)) then (6 : Int32) else (if (((zf h 92 3) = 3) ∧ ((zf h 92 5) = 62)) then (7 : Int32) else 8))) h ∧ (f_M_compares_k67_ok (f_M_push (1000 + (if (((zf h 92 3) = 3) ∧ ((zf h 92 5) = 60)) then (6 : Int32) else (if (((zf h 92 3) = 3) ∧ ((zf h 92 5) = 62)) then (7 : Int32) else 8))) h)))
theorem f_M_compares_k29_w (h : zm_H) : zWr [94] [(92, 2), (92, 3), (92, 4), (92, 5), (92, 7)] h ((f_M_compares_k29 h).2) := by
  unfold f_M_compares_k29
  exact (zWr_tr (f_M_compares_k67_w (f_M_push (1000 + (if (((zf h 92 3) = 3) ∧ ((zf h 92 5) = 60)) then (6 : Int32) else (if (((zf h 92 3) = 3) ∧ ((zf h 92 5) = 62)) then (7 : Int32) else 8))) h)) (by decide) (by decide) (zWr_tr (f_M_push_w (1000 + (if (((zf h 92 3) = 3) ∧ ((zf h 92 5) = 60)) then (6 : Int32) else (if (((zf h 92 3) = 3) ∧ ((zf h 92 5) = 62)) then (7 : Int32) else 8))) h) (by decide) (by decide) (zWr.refl _ _)))
def f_M_compares (h : zm_H) : Int32 × zm_H := (if (((zf h 92 3) = 3) ∧ ((zf h 92 5) = 60)) then (f_M_compares_k29 h) else (if (((zf h 92 3) = 3) ∧ ((zf h 92 5) = 62)) then (f_M_compares_k29 h) else (if (((zf h 92 3) = 3) ∧ ((zf h 92 5) = 61)) then (f_M_compares_k29 h) else (0, h))))
def f_M_compares_ok (h : zm_H) : Prop := (((((zf h 92 3) = 3) ∧ ((zf h 92 5) = 60)) → (f_M_compares_k29_ok h)) ∧ (¬ (((zf h 92 3) = 3) ∧ ((zf h 92 5) = 60)) → (((((zf h 92 3) = 3) ∧ ((zf h 92 5) = 62)) → (f_M_compares_k29_ok h)) ∧ (¬ (((zf h 92 3) = 3) ∧ ((zf h 92 5) = 62)) → (((((zf h 92 3) = 3) ∧ ((zf h 92 5) = 61)) → (f_M_compares_k29_ok h)) ∧ (¬ (((zf h 92 3) = 3) ∧ ((zf h 92 5) = 61)) → True))))))
theorem f_M_compares_w (h : zm_H) : zWr [94] [(92, 2), (92, 3), (92, 4), (92, 5), (92, 7)] h ((f_M_compares h).2) := by
  unfold f_M_compares
  exact (zWr_ite (fun z : Int32 × zm_H => z.2) (zWr_tr (f_M_compares_k29_w h) (by decide) (by decide) (zWr.refl _ _)) (zWr_ite (fun z : Int32 × zm_H => z.2) (zWr_tr (f_M_compares_k29_w h) (by decide) (by decide) (zWr.refl _ _)) (zWr_ite (fun z : Int32 × zm_H => z.2) (zWr_tr (f_M_compares_k29_w h) (by decide) (by decide) (zWr.refl _ _)) (zWr.refl _ _))))
def f_M_steps_k40 (w0 : Int32) (h : zm_H) : Int32 × zm_H := ((if (¬ (w0 = 0)) then (1 : Int32) else 0), h)
def f_M_steps_k40_ok (w0 : Int32) (h : zm_H) : Prop := True
theorem f_M_steps_k40_w (w0 : Int32) (h : zm_H) : zWr [] [] h ((f_M_steps_k40 w0 h).2) := by
  unfold f_M_steps_k40
  exact (zWr.refl _ _)
def f_M_steps (p1 : Int32) (h : zm_H) : Int32 × zm_H := (if (p1 < 1000) then (if (p1 < 100) then (if p1 = 0 then (f_M_clauses h) else (if p1 = 1 then (f_M_both 2 3 h) else (if p1 = 2 then (f_M_more 43 2 45 3 2 3 h) else (if p1 = 3 then (f_M_both 4 5 h) else (if p1 = 4 then (f_M_more 42 4 47 5 4 5 h) else (if p1 = 5 then (f_M_factor h) else (if p1 = 6 then (f_M_both 7 8 h) else (if p1 = 7 then (f_M_moreWords 13 10 7 8 h) else (if p1 = 8 then (f_M_both 9 10 h) else (if p1 = 9 then (f_M_moreWords 14 9 9 10 h) else (if p1 = 10 then (f_M_holds h) else (if p1 = 11 then (f_M_compares h) else (if p1 = 12 then (1, (zp h 92 8 ((zf h 92 8) - 1))) else (1, (zs h 98 (zf h 92 9) (zf h 92 12)))))))))))))))) else (if (((zf h 92 3) = 3) ∧ ((zf h 92 5) = (p1 - 100))) then (f_M_steps_k40 (f_M_takes h).1 (f_M_takes h).2) else (0, h))) else (1, (f_M_emits (p1 - 1000) 0 h)))
def f_M_steps_ok (p1 : Int32) (h : zm_H) : Prop := (((p1 < 1000) → (((p1 < 100) → ((p1 = 0 → (f_M_clauses_ok h ∧ vp_nar .boolean (f_M_clauses h).1 = (f_M_clauses h).1)) ∧ (¬ p1 = 0 → ((p1 = 1 → (f_M_both_ok 2 3 h ∧ vp_nar .boolean (f_M_both 2 3 h).1 = (f_M_both 2 3 h).1)) ∧ (¬ p1 = 1 → ((p1 = 2 → (f_M_more_ok 43 2 45 3 2 3 h ∧ vp_nar .boolean (f_M_more 43 2 45 3 2 3 h).1 = (f_M_more 43 2 45 3 2 3 h).1)) ∧ (¬ p1 = 2 → ((p1 = 3 → (f_M_both_ok 4 5 h ∧ vp_nar .boolean (f_M_both 4 5 h).1 = (f_M_both 4 5 h).1)) ∧ (¬ p1 = 3 → ((p1 = 4 → (f_M_more_ok 42 4 47 5 4 5 h ∧ vp_nar .boolean (f_M_more 42 4 47 5 4 5 h).1 = (f_M_more 42 4 47 5 4 5 h).1)) ∧ (¬ p1 = 4 → ((p1 = 5 → (f_M_factor_ok h ∧ vp_nar .boolean (f_M_factor h).1 = (f_M_factor h).1)) ∧ (¬ p1 = 5 → ((p1 = 6 → (f_M_both_ok 7 8 h ∧ vp_nar .boolean (f_M_both 7 8 h).1 = (f_M_both 7 8 h).1)) ∧ (¬ p1 = 6 → ((p1 = 7 → (f_M_moreWords_ok 13 10 7 8 h ∧ vp_nar .boolean (f_M_moreWords 13 10 7 8 h).1 = (f_M_moreWords 13 10 7 8 h).1)) ∧ (¬ p1 = 7 → ((p1 = 8 → (f_M_both_ok 9 10 h ∧ vp_nar .boolean (f_M_both 9 10 h).1 = (f_M_both 9 10 h).1)) ∧ (¬ p1 = 8 → ((p1 = 9 → (f_M_moreWords_ok 14 9 9 10 h ∧ vp_nar .boolean (f_M_moreWords 14 9 9 10 h).1 = (f_M_moreWords 14 9 9 10 h).1)) ∧ (¬ p1 = 9 → ((p1 = 10 → (f_M_holds_ok h ∧ vp_nar .boolean (f_M_holds h).1 = (f_M_holds h).1)) ∧ (¬ p1 = 10 → ((p1 = 11 → (f_M_compares_ok h ∧ vp_nar .boolean (f_M_compares h).1 = (f_M_compares h).1)) ∧ (¬ p1 = 11 → ((p1 = 12 → True) ∧ (¬ p1 = 12 → vp_in (zf h 92 9) 4))))))))))))))))))))))))))) ∧ (¬ (p1 < 100) → (((((zf h 92 3) = 3) ∧ ((zf h 92 5) = (p1 - 100))) → f_M_takes_ok h) ∧ (¬ (((zf h 92 3) = 3) ∧ ((zf h 92 5) = (p1 - 100))) → True))))) ∧ (¬ (p1 < 1000) → f_M_emits_ok (p1 - 1000) 0 h))
theorem f_M_steps_w (p1 : Int32) (h : zm_H) : zWr [94, 95, 96, 97, 98] [(92, 2), (92, 3), (92, 4), (92, 5), (92, 7), (92, 8), (92, 9), (92, 12)] h ((f_M_steps p1 h).2) := by
  unfold f_M_steps
  exact (zWr_ite (fun z : Int32 × zm_H => z.2) (zWr_ite (fun z : Int32 × zm_H => z.2) (zWr_ite (fun z : Int32 × zm_H => z.2) (zWr_tr (f_M_clauses_w h) (by decide) (by decide) (zWr.refl _ _)) (zWr_ite (fun z : Int32 × zm_H => z.2) (zWr_tr (f_M_both_w 2 3 h) (by decide) (by decide) (zWr.refl _ _)) (zWr_ite (fun z : Int32 × zm_H => z.2) (zWr_tr (f_M_more_w 43 2 45 3 2 3 h) (by decide) (by decide) (zWr.refl _ _)) (zWr_ite (fun z : Int32 × zm_H => z.2) (zWr_tr (f_M_both_w 4 5 h) (by decide) (by decide) (zWr.refl _ _)) (zWr_ite (fun z : Int32 × zm_H => z.2) (zWr_tr (f_M_more_w 42 4 47 5 4 5 h) (by decide) (by decide) (zWr.refl _ _)) (zWr_ite (fun z : Int32 × zm_H => z.2) (zWr_tr (f_M_factor_w h) (by decide) (by decide) (zWr.refl _ _)) (zWr_ite (fun z : Int32 × zm_H => z.2) (zWr_tr (f_M_both_w 7 8 h) (by decide) (by decide) (zWr.refl _ _)) (zWr_ite (fun z : Int32 × zm_H => z.2) (zWr_tr (f_M_moreWords_w 13 10 7 8 h) (by decide) (by decide) (zWr.refl _ _)) (zWr_ite (fun z : Int32 × zm_H => z.2) (zWr_tr (f_M_both_w 9 10 h) (by decide) (by decide) (zWr.refl _ _)) (zWr_ite (fun z : Int32 × zm_H => z.2) (zWr_tr (f_M_moreWords_w 14 9 9 10 h) (by decide) (by decide) (zWr.refl _ _)) (zWr_ite (fun z : Int32 × zm_H => z.2) (zWr_tr (f_M_holds_w h) (by decide) (by decide) (zWr.refl _ _)) (zWr_ite (fun z : Int32 × zm_H => z.2) (zWr_tr (f_M_compares_w h) (by decide) (by decide) (zWr.refl _ _)) (zWr_ite (fun z : Int32 × zm_H => z.2) (zWr_p (by decide) (zWr.refl _ _)) (zWr_si (by decide) (zWr.refl _ _))))))))))))))) (zWr_ite (fun z : Int32 × zm_H => z.2) (zWr_tr (f_M_steps_k40_w (f_M_takes h).1 (f_M_takes h).2) (by decide) (by decide) (zWr_tr (f_M_takes_w h) (by decide) (by decide) (zWr.refl _ _))) (zWr.refl _ _))) (zWr_tr (f_M_emits_w (p1 - 1000) 0 h) (by decide) (by decide) (zWr.refl _ _)))
def f_M_reads_l49_k79 (w0 : Int32) (h : zm_H) : Nat × zm_H := (if (w0 = 0) then (1, h) else (0, h))
def f_M_reads_l49_k79_ok (w0 : Int32) (h : zm_H) : Prop := True
theorem f_M_reads_l49_k79_w (w0 : Int32) (h : zm_H) : zWr [] [] h ((f_M_reads_l49_k79 w0 h).2) := by
  unfold f_M_reads_l49_k79
  exact (zWr_ite (fun z : Nat × zm_H => z.2) (zWr.refl _ _) (zWr.refl _ _))
def f_M_reads_l49_b (h : zm_H) : Nat × zm_H := (if ((zf h 92 7) ≤ 0) then (2, h) else (f_M_reads_l49_k79 (f_M_steps (zr h 94 ((zf h 92 7) - 1)) (zp h 92 7 ((zf h 92 7) - 1))).1 (f_M_steps (zr h 94 ((zf h 92 7) - 1)) (zp h 92 7 ((zf h 92 7) - 1))).2))
def f_M_reads_l49_b_ok (h : zm_H) : Prop := ((((zf h 92 7) ≤ 0) → True) ∧ (¬ ((zf h 92 7) ≤ 0) → (vp_in ((zf h 92 7) - 1) 800 ∧ f_M_steps_ok (zr h 94 ((zf h 92 7) - 1)) (zp h 92 7 ((zf h 92 7) - 1)))))
theorem f_M_reads_l49_b_w (h : zm_H) : zWr [94, 95, 96, 97, 98] [(92, 2), (92, 3), (92, 4), (92, 5), (92, 7), (92, 8), (92, 9), (92, 12)] h ((f_M_reads_l49_b h).2) := by
  unfold f_M_reads_l49_b
  exact (zWr_ite (fun z : Nat × zm_H => z.2) (zWr.refl _ _) (zWr_tr (f_M_reads_l49_k79_w (f_M_steps (zr h 94 ((zf h 92 7) - 1)) (zp h 92 7 ((zf h 92 7) - 1))).1 (f_M_steps (zr h 94 ((zf h 92 7) - 1)) (zp h 92 7 ((zf h 92 7) - 1))).2) (by decide) (by decide) (zWr_tr (f_M_steps_w (zr h 94 ((zf h 92 7) - 1)) (zp h 92 7 ((zf h 92 7) - 1))) (by decide) (by decide) (zWr_p (by decide) (zWr.refl _ _)))))
def f_M_reads_l49 (n : Nat) (t : zm_H) : Nat × zm_H := zwh (fun t => f_M_reads_l49_b t) n t
def f_M_reads_l49_ok (n : Nat) (t : zm_H) : Prop := zwo (fun t => f_M_reads_l49_b t) (fun t => f_M_reads_l49_b_ok t) n t
theorem f_M_reads_l49_w (n : Nat) (t : zm_H) : zWr [94, 95, 96, 97, 98] [(92, 2), (92, 3), (92, 4), (92, 5), (92, 7), (92, 8), (92, 9), (92, 12)] (t) ((f_M_reads_l49 n t).2) := by
  unfold f_M_reads_l49
  exact zWr_zwh (fun t : zm_H => t) (fun t => f_M_reads_l49_b_w t)
def f_M_reads_k82 (h : zm_H) : Int32 × zm_H := ((zf h 92 4), h)
def f_M_reads_k82_ok (h : zm_H) : Prop := True
theorem f_M_reads_k82_w (h : zm_H) : zWr [] [] h ((f_M_reads_k82 h).2) := by
  unfold f_M_reads_k82
  exact (zWr.refl _ _)
def f_M_reads_k87 (h : zm_H) : Int32 × zm_H := ((-1), h)
def f_M_reads_k87_ok (h : zm_H) : Prop := True
theorem f_M_reads_k87_w (h : zm_H) : zWr [] [] h ((f_M_reads_k87 h).2) := by
  unfold f_M_reads_k87
  exact (zWr.refl _ _)
def f_M_reads_a49 (r : Nat × zm_H) : Int32 × zm_H := (if r.1 = 1 then (f_M_reads_k82 (r.2)) else (f_M_reads_k87 (r.2)))
def f_M_reads_a49_ok (r : Nat × zm_H) : Prop := ((r.1 = 1 → True) ∧ (¬ r.1 = 1 → True))
theorem f_M_reads_a49_w (r : Nat × zm_H) : zWr [] [] (r.2) ((f_M_reads_a49 r).2) := by
  unfold f_M_reads_a49
  exact (zWr_ite (fun z : Int32 × zm_H => z.2) (zWr_tr (f_M_reads_k82_w (r.2)) (by decide) (by decide) (zWr.refl _ _)) (zWr_tr (f_M_reads_k87_w (r.2)) (by decide) (by decide) (zWr.refl _ _)))
def f_M_reads_k44 (h : zm_H) : Int32 × zm_H := (f_M_reads_a49 (f_M_reads_l49 zF (f_M_push 0 h)))
def f_M_reads_k44_ok (h : zm_H) : Prop := (f_M_push_ok 0 h ∧ (f_M_reads_l49_ok zF (f_M_push 0 h) ∧ f_M_reads_a49_ok (f_M_reads_l49 zF (f_M_push 0 h))))
theorem f_M_reads_k44_w (h : zm_H) : zWr [94, 95, 96, 97, 98] [(92, 2), (92, 3), (92, 4), (92, 5), (92, 7), (92, 8), (92, 9), (92, 12)] h ((f_M_reads_k44 h).2) := by
  unfold f_M_reads_k44
  exact (zWr_tr (f_M_reads_a49_w (f_M_reads_l49 zF (f_M_push 0 h))) (by decide) (by decide) (zWr_tr (f_M_reads_l49_w zF (f_M_push 0 h)) (by decide) (by decide) (zWr_tr (f_M_push_w 0 h) (by decide) (by decide) (zWr.refl _ _))))
def f_M_reads_k40 (h : zm_H) : Int32 × zm_H := (f_M_reads_k44 (f_M_follows h))
def f_M_reads_k40_ok (h : zm_H) : Prop := (f_M_follows_ok h ∧ (f_M_reads_k44_ok (f_M_follows h)))
theorem f_M_reads_k40_w (h : zm_H) : zWr [94, 95, 96, 97, 98] [(92, 2), (92, 3), (92, 4), (92, 5), (92, 7), (92, 8), (92, 9), (92, 12)] h ((f_M_reads_k40 h).2) := by
  unfold f_M_reads_k40
  exact (zWr_tr (f_M_reads_k44_w (f_M_follows h)) (by decide) (by decide) (zWr_tr (f_M_follows_w h) (by decide) (by decide) (zWr.refl _ _)))
def f_M_reads_a22 (r : Nat × Int32 × zm_H) : Int32 × zm_H := (f_M_reads_k40 (r.2.2))
def f_M_reads_a22_ok (r : Nat × Int32 × zm_H) : Prop := (f_M_reads_k40_ok (r.2.2))
theorem f_M_reads_a22_w (r : Nat × Int32 × zm_H) : zWr [94, 95, 96, 97, 98] [(92, 2), (92, 3), (92, 4), (92, 5), (92, 7), (92, 8), (92, 9), (92, 12)] (r.2.2) ((f_M_reads_a22 r).2) := by
  unfold f_M_reads_a22
  exact (zWr_tr (f_M_reads_k40_w (r.2.2)) (by decide) (by decide) (zWr.refl _ _))
def f_M_reads (h : zm_H) : Int32 × zm_H := (f_M_reads_a22 (f_M_reads_l22 zF (0, (zp (zp (zp (zp h 92 2 0) 92 7 0) 92 8 0) 92 12 0))))
def f_M_reads_ok (h : zm_H) : Prop := (f_M_reads_l22_ok zF (0, (zp (zp (zp (zp h 92 2 0) 92 7 0) 92 8 0) 92 12 0)) ∧ f_M_reads_a22_ok (f_M_reads_l22 zF (0, (zp (zp (zp (zp h 92 2 0) 92 7 0) 92 8 0) 92 12 0))))
theorem f_M_reads_w (h : zm_H) : zWr [94, 95, 96, 97, 98] [(92, 2), (92, 3), (92, 4), (92, 5), (92, 7), (92, 8), (92, 9), (92, 12)] h ((f_M_reads h).2) := by
  unfold f_M_reads
  exact (zWr_tr (f_M_reads_a22_w (f_M_reads_l22 zF (0, (zp (zp (zp (zp h 92 2 0) 92 7 0) 92 8 0) 92 12 0)))) (by decide) (by decide) (zWr_tr (f_M_reads_l22_w zF (0, (zp (zp (zp (zp h 92 2 0) 92 7 0) 92 8 0) 92 12 0))) (by decide) (by decide) (zWr_p (by decide) (zWr_p (by decide) (zWr_p (by decide) (zWr_p (by decide) (zWr.refl _ _)))))))
def f_M_fault (h : zm_H) : Int32 × zm_H := (f_M_reads h)
def f_M_fault_ok (h : zm_H) : Prop := f_M_reads_ok h
theorem f_M_fault_w (h : zm_H) : zWr [94, 95, 96, 97, 98] [(92, 2), (92, 3), (92, 4), (92, 5), (92, 7), (92, 8), (92, 9), (92, 12)] h ((f_M_fault h).2) := by
  unfold f_M_fault
  exact (zWr_tr (f_M_reads_w h) (by decide) (by decide) (zWr.refl _ _))
def f_Rules_hasRoomForSheet (h : zm_H) : Int32 := (if (¬ (10 ≤ (zf h 15 0))) then (1 : Int32) else 0)
def f_Rules_hasRoomForSheet_ok (h : zm_H) : Prop := True
def f_Arrays_copyOf_12 (p1 : Int32) (h : zm_H) : Nat × zm_H := (if (p1 = (Int32.ofNat 400)) then (0, h) else ((h).1.length, (zcp (znw h p1) 12 0 (h).1.length 0 (if p1 < (Int32.ofNat 400) then p1 else (Int32.ofNat 400)))))
def f_Arrays_copyOf_12_ok (p1 : Int32) (h : zm_H) : Prop := (((p1 = (Int32.ofNat 400)) → False) ∧ (¬ (p1 = (Int32.ofNat 400)) → (((h).1.length < 1000000 ∧ 0 ≤ p1 ∧ p1 ≤ 10000) ∧ (zia (znw h p1) (h).1.length ∧ ¬ (0 : Int32) < 0 ∧ ¬ (0 : Int32) < 0 ∧ ¬ ((if p1 < (Int32.ofNat 400) then p1 else (Int32.ofNat 400)) : Int32) < 0 ∧ Int32.toNatClampNeg 0 + Int32.toNatClampNeg (if p1 < (Int32.ofNat 400) then p1 else (Int32.ofNat 400)) ≤ 400 ∧ Int32.toNatClampNeg 0 + Int32.toNatClampNeg (if p1 < (Int32.ofNat 400) then p1 else (Int32.ofNat 400)) ≤ (zln (znw h p1) (h).1.length)))))
def f_Rules_addSheet_l22_b (v2 : Int32) (h : zm_H) : Nat × Int32 × zm_H := (if (4 ≤ v2) then (1, v2, h) else (0, (v2 + 1), (zs (zs h 17 (((zf h 15 0) * 4) + v2) (zr h 13 v2)) 18 (((zf h 15 0) * 4) + v2) (zr h 14 v2))))
def f_Rules_addSheet_l22_b_ok (v2 : Int32) (h : zm_H) : Prop := (((4 ≤ v2) → True) ∧ (¬ (4 ≤ v2) → (vp_in v2 4 ∧ (vp_in (((zf h 15 0) * 4) + v2) 40 ∧ (vp_in v2 4 ∧ vp_in (((zf h 15 0) * 4) + v2) 40)))))
theorem f_Rules_addSheet_l22_b_w (v2 : Int32) (h : zm_H) : zWr [17, 18] [] h ((f_Rules_addSheet_l22_b v2 h).2.2) := by
  unfold f_Rules_addSheet_l22_b
  exact (zWr_ite (fun z : Nat × Int32 × zm_H => z.2.2) (zWr.refl _ _) (zWr_si (by decide) (zWr_si (by decide) (zWr.refl _ _))))
def f_Rules_addSheet_l22 (n : Nat) (t : Int32 × zm_H) : Nat × Int32 × zm_H := zwh (fun t => f_Rules_addSheet_l22_b t.1 t.2) n t
def f_Rules_addSheet_l22_ok (n : Nat) (t : Int32 × zm_H) : Prop := zwo (fun t => f_Rules_addSheet_l22_b t.1 t.2) (fun t => f_Rules_addSheet_l22_b_ok t.1 t.2) n t
theorem f_Rules_addSheet_l22_w (n : Nat) (t : Int32 × zm_H) : zWr [17, 18] [] (t.2) ((f_Rules_addSheet_l22 n t).2.2) := by
  unfold f_Rules_addSheet_l22
  exact zWr_zwh (fun t : Int32 × zm_H => t.2) (fun t => f_Rules_addSheet_l22_b_w t.1 t.2)
def f_Rules_addSheet_k71 (h : zm_H) : Int32 × zm_H := ((((zf h 15 0) + 1) - 1), (zp h 15 0 ((zf h 15 0) + 1)))
def f_Rules_addSheet_k71_ok (h : zm_H) : Prop := True
theorem f_Rules_addSheet_k71_w (h : zm_H) : zWr [] [(15, 0)] h ((f_Rules_addSheet_k71 h).2) := by
  unfold f_Rules_addSheet_k71
  exact (zWr_p (by decide) (zWr.refl _ _))
def f_Rules_addSheet_a22 (r : Nat × Int32 × zm_H) : Int32 × zm_H := (f_Rules_addSheet_k71 (r.2.2))
def f_Rules_addSheet_a22_ok (r : Nat × Int32 × zm_H) : Prop := True
theorem f_Rules_addSheet_a22_w (r : Nat × Int32 × zm_H) : zWr [] [(15, 0)] (r.2.2) ((f_Rules_addSheet_a22 r).2) := by
  unfold f_Rules_addSheet_a22
  exact (zWr_tr (f_Rules_addSheet_k71_w (r.2.2)) (by decide) (by decide) (zWr.refl _ _))
def f_Rules_addSheet_k19 (w1 : Int32) (w2 : Nat) (h : zm_H) : Int32 × zm_H := (f_Rules_addSheet_a22 (f_Rules_addSheet_l22 zF (0, (zsr h 16 w1 w2))))
def f_Rules_addSheet_k19_ok (w1 : Int32) (w2 : Nat) (h : zm_H) : Prop := ((vp_in w1 10 ∧ zm_isA h w2 = true) ∧ (f_Rules_addSheet_l22_ok zF (0, (zsr h 16 w1 w2)) ∧ f_Rules_addSheet_a22_ok (f_Rules_addSheet_l22 zF (0, (zsr h 16 w1 w2)))))
def f_Rules_addSheet (h : zm_H) : Int32 × zm_H := (f_Rules_addSheet_k19 (zf h 15 0) (f_Arrays_copyOf_12 (zf h 10 10) h).1 (f_Arrays_copyOf_12 (zf h 10 10) h).2)
def f_Rules_addSheet_ok (h : zm_H) : Prop := (f_Arrays_copyOf_12_ok (zf h 10 10) h ∧ (f_Rules_addSheet_k19_ok (zf h 15 0) (f_Arrays_copyOf_12 (zf h 10 10) h).1 (f_Arrays_copyOf_12 (zf h 10 10) h).2))
def f_N_sheet_k34 (w0 : Int32) (h : zm_H) : Int32 × zm_H := (w0, (zp h 10 1 0))
def f_N_sheet_k34_ok (w0 : Int32) (h : zm_H) : Prop := True
theorem f_N_sheet_k34_w (w0 : Int32) (h : zm_H) : zWr [] [(10, 1)] h ((f_N_sheet_k34 w0 h).2) := by
  unfold f_N_sheet_k34
  exact (zWr_p (by decide) (zWr.refl _ _))
def f_N_sheet_k17 (w0 : Int32) (h : zm_H) : Int32 × zm_H := (if (w0 = (-1)) then (f_N_sheet_k34 (f_Rules_addSheet h).1 (f_Rules_addSheet h).2) else ((-1), h))
def f_N_sheet_k17_ok (w0 : Int32) (h : zm_H) : Prop := (((w0 = (-1)) → f_Rules_addSheet_ok h) ∧ (¬ (w0 = (-1)) → True))
def f_N_sheet (h : zm_H) : Int32 × zm_H := (if (¬ (10 ≤ (zf h 15 0))) then (f_N_sheet_k17 (f_Text_findFault h).1 (f_Text_findFault h).2) else ((-1), h))
def f_N_sheet_ok (h : zm_H) : Prop := (((¬ (10 ≤ (zf h 15 0))) → (f_Text_findFault_ok h ∧ (f_N_sheet_k17_ok (f_Text_findFault h).1 (f_Text_findFault h).2))) ∧ (¬ (¬ (10 ≤ (zf h 15 0))) → True))
def f_M_sheet_l21_b (v1 : Int32) (h : zm_H) : Nat × Int32 × zm_H := (if ((zf h 92 12) ≤ v1) then (1, v1, h) else (0, (v1 + 1), (zs (zs h 99 ((400 * (zf h 92 15)) + v1) (zr h 95 v1)) 100 ((400 * (zf h 92 15)) + v1) (zr h 96 v1))))
def f_M_sheet_l21_b_ok (v1 : Int32) (h : zm_H) : Prop := ((((zf h 92 12) ≤ v1) → True) ∧ (¬ ((zf h 92 12) ≤ v1) → (vp_in v1 400 ∧ (vp_in ((400 * (zf h 92 15)) + v1) 4000 ∧ (vp_in v1 400 ∧ vp_in ((400 * (zf h 92 15)) + v1) 4000)))))
theorem f_M_sheet_l21_b_w (v1 : Int32) (h : zm_H) : zWr [99, 100] [] h ((f_M_sheet_l21_b v1 h).2.2) := by
  unfold f_M_sheet_l21_b
  exact (zWr_ite (fun z : Nat × Int32 × zm_H => z.2.2) (zWr.refl _ _) (zWr_si (by decide) (zWr_si (by decide) (zWr.refl _ _))))
def f_M_sheet_l21 (n : Nat) (t : Int32 × zm_H) : Nat × Int32 × zm_H := zwh (fun t => f_M_sheet_l21_b t.1 t.2) n t
def f_M_sheet_l21_ok (n : Nat) (t : Int32 × zm_H) : Prop := zwo (fun t => f_M_sheet_l21_b t.1 t.2) (fun t => f_M_sheet_l21_b_ok t.1 t.2) n t
theorem f_M_sheet_l21_w (n : Nat) (t : Int32 × zm_H) : zWr [99, 100] [] (t.2) ((f_M_sheet_l21 n t).2.2) := by
  unfold f_M_sheet_l21
  exact zWr_zwh (fun t : Int32 × zm_H => t.2) (fun t => f_M_sheet_l21_b_w t.1 t.2)
def f_M_sheet_l79_b (v1 : Int32) (h : zm_H) : Nat × Int32 × zm_H := (if (4 ≤ v1) then (1, v1, h) else (0, (v1 + 1), (zs (zs h 101 ((4 * (zf h 92 15)) + v1) (zr h 97 v1)) 102 ((4 * (zf h 92 15)) + v1) (zr h 98 v1))))
def f_M_sheet_l79_b_ok (v1 : Int32) (h : zm_H) : Prop := (((4 ≤ v1) → True) ∧ (¬ (4 ≤ v1) → (vp_in v1 4 ∧ (vp_in ((4 * (zf h 92 15)) + v1) 40 ∧ (vp_in v1 4 ∧ vp_in ((4 * (zf h 92 15)) + v1) 40)))))
theorem f_M_sheet_l79_b_w (v1 : Int32) (h : zm_H) : zWr [101, 102] [] h ((f_M_sheet_l79_b v1 h).2.2) := by
  unfold f_M_sheet_l79_b
  exact (zWr_ite (fun z : Nat × Int32 × zm_H => z.2.2) (zWr.refl _ _) (zWr_si (by decide) (zWr_si (by decide) (zWr.refl _ _))))
def f_M_sheet_l79 (n : Nat) (t : Int32 × zm_H) : Nat × Int32 × zm_H := zwh (fun t => f_M_sheet_l79_b t.1 t.2) n t
def f_M_sheet_l79_ok (n : Nat) (t : Int32 × zm_H) : Prop := zwo (fun t => f_M_sheet_l79_b t.1 t.2) (fun t => f_M_sheet_l79_b_ok t.1 t.2) n t
theorem f_M_sheet_l79_w (n : Nat) (t : Int32 × zm_H) : zWr [101, 102] [] (t.2) ((f_M_sheet_l79 n t).2.2) := by
  unfold f_M_sheet_l79
  exact zWr_zwh (fun t : Int32 × zm_H => t.2) (fun t => f_M_sheet_l79_b_w t.1 t.2)
def f_M_sheet_k128 (h : zm_H) : Int32 × zm_H := ((((zf h 92 15) + 1) - 1), (zp (zp h 92 1 0) 92 15 ((zf h 92 15) + 1)))
def f_M_sheet_k128_ok (h : zm_H) : Prop := True
theorem f_M_sheet_k128_w (h : zm_H) : zWr [] [(92, 1), (92, 15)] h ((f_M_sheet_k128 h).2) := by
  unfold f_M_sheet_k128
  exact (zWr_p (by decide) (zWr_p (by decide) (zWr.refl _ _)))
def f_M_sheet_a79 (r : Nat × Int32 × zm_H) : Int32 × zm_H := (f_M_sheet_k128 (r.2.2))
def f_M_sheet_a79_ok (r : Nat × Int32 × zm_H) : Prop := True
theorem f_M_sheet_a79_w (r : Nat × Int32 × zm_H) : zWr [] [(92, 1), (92, 15)] (r.2.2) ((f_M_sheet_a79 r).2) := by
  unfold f_M_sheet_a79
  exact (zWr_tr (f_M_sheet_k128_w (r.2.2)) (by decide) (by decide) (zWr.refl _ _))
def f_M_sheet_k77 (h : zm_H) : Int32 × zm_H := (f_M_sheet_a79 (f_M_sheet_l79 zF (0, h)))
def f_M_sheet_k77_ok (h : zm_H) : Prop := (f_M_sheet_l79_ok zF (0, h) ∧ f_M_sheet_a79_ok (f_M_sheet_l79 zF (0, h)))
theorem f_M_sheet_k77_w (h : zm_H) : zWr [101, 102] [(92, 1), (92, 15)] h ((f_M_sheet_k77 h).2) := by
  unfold f_M_sheet_k77
  exact (zWr_tr (f_M_sheet_a79_w (f_M_sheet_l79 zF (0, h))) (by decide) (by decide) (zWr_tr (f_M_sheet_l79_w zF (0, h)) (by decide) (by decide) (zWr.refl _ _)))
def f_M_sheet_a21 (r : Nat × Int32 × zm_H) : Int32 × zm_H := (f_M_sheet_k77 (r.2.2))
def f_M_sheet_a21_ok (r : Nat × Int32 × zm_H) : Prop := (f_M_sheet_k77_ok (r.2.2))
theorem f_M_sheet_a21_w (r : Nat × Int32 × zm_H) : zWr [101, 102] [(92, 1), (92, 15)] (r.2.2) ((f_M_sheet_a21 r).2) := by
  unfold f_M_sheet_a21
  exact (zWr_tr (f_M_sheet_k77_w (r.2.2)) (by decide) (by decide) (zWr.refl _ _))
def f_M_sheet_k13 (w0 : Int32) (h : zm_H) : Int32 × zm_H := (if (w0 = (-1)) then (f_M_sheet_a21 (f_M_sheet_l21 zF (0, h))) else ((-1), h))
def f_M_sheet_k13_ok (w0 : Int32) (h : zm_H) : Prop := (((w0 = (-1)) → (f_M_sheet_l21_ok zF (0, h) ∧ f_M_sheet_a21_ok (f_M_sheet_l21 zF (0, h)))) ∧ (¬ (w0 = (-1)) → True))
theorem f_M_sheet_k13_w (w0 : Int32) (h : zm_H) : zWr [99, 100, 101, 102] [(92, 1), (92, 15)] h ((f_M_sheet_k13 w0 h).2) := by
  unfold f_M_sheet_k13
  exact (zWr_ite (fun z : Int32 × zm_H => z.2) (zWr_tr (f_M_sheet_a21_w (f_M_sheet_l21 zF (0, h))) (by decide) (by decide) (zWr_tr (f_M_sheet_l21_w zF (0, h)) (by decide) (by decide) (zWr.refl _ _))) (zWr.refl _ _))
def f_M_sheet (h : zm_H) : Int32 × zm_H := (if ((zf h 92 15) = 10) then ((-1), h) else (f_M_sheet_k13 (f_M_reads h).1 (f_M_reads h).2))
def f_M_sheet_ok (h : zm_H) : Prop := ((((zf h 92 15) = 10) → True) ∧ (¬ ((zf h 92 15) = 10) → (f_M_reads_ok h ∧ (f_M_sheet_k13_ok (f_M_reads h).1 (f_M_reads h).2))))
theorem f_M_sheet_w (h : zm_H) : zWr [94, 95, 96, 97, 98, 99, 100, 101, 102] [(92, 1), (92, 2), (92, 3), (92, 4), (92, 5), (92, 7), (92, 8), (92, 9), (92, 12), (92, 15)] h ((f_M_sheet h).2) := by
  unfold f_M_sheet
  exact (zWr_ite (fun z : Int32 × zm_H => z.2) (zWr.refl _ _) (zWr_tr (f_M_sheet_k13_w (f_M_reads h).1 (f_M_reads h).2) (by decide) (by decide) (zWr_tr (f_M_reads_w h) (by decide) (by decide) (zWr.refl _ _))))
def f_Rules_putInForce (p1 : Int32) (p2 : Int32) (h : zm_H) : Int32 × zm_H := (if ((zf h 15 4) < 15) then (((zf h 15 4) + 1), (zp (zs (zs h 19 (zf h 15 4) p1) 20 (zf h 15 4) p2) 15 4 ((zf h 15 4) + 1))) else ((-1), h))
def f_Rules_putInForce_ok (p1 : Int32) (p2 : Int32) (h : zm_H) : Prop := ((((zf h 15 4) < 15) → (vp_in (zf h 15 4) 15 ∧ vp_in (zf h 15 4) 15)) ∧ (¬ ((zf h 15 4) < 15) → True))
theorem f_Rules_putInForce_w (p1 : Int32) (p2 : Int32) (h : zm_H) : zWr [19, 20] [(15, 4)] h ((f_Rules_putInForce p1 p2 h).2) := by
  unfold f_Rules_putInForce
  exact (zWr_ite (fun z : Int32 × zm_H => z.2) (zWr_p (by decide) (zWr_si (by decide) (zWr_si (by decide) (zWr.refl _ _)))) (zWr.refl _ _))
def f_N_force (p1 : Int32) (p2 : Int32) (h : zm_H) : Int32 × zm_H := (if (p1 < 0) then ((-1), h) else (if ((zf h 15 0) ≤ p1) then ((-1), h) else (if (¬ (p2 < 0) ∧ (¬ (480 ≤ p2))) then (if ((zf h 0 0) ≤ p2) then (f_Rules_putInForce p1 p2 h) else ((-1), h)) else ((-1), h))))
def f_N_force_ok (p1 : Int32) (p2 : Int32) (h : zm_H) : Prop := (((p1 < 0) → True) ∧ (¬ (p1 < 0) → ((((zf h 15 0) ≤ p1) → True) ∧ (¬ ((zf h 15 0) ≤ p1) → (((¬ (p2 < 0) ∧ (¬ (480 ≤ p2))) → ((((zf h 0 0) ≤ p2) → f_Rules_putInForce_ok p1 p2 h) ∧ (¬ ((zf h 0 0) ≤ p2) → True))) ∧ (¬ (¬ (p2 < 0) ∧ (¬ (480 ≤ p2))) → True))))))
theorem f_N_force_w (p1 : Int32) (p2 : Int32) (h : zm_H) : zWr [19, 20] [(15, 4)] h ((f_N_force p1 p2 h).2) := by
  unfold f_N_force
  exact (zWr_ite (fun z : Int32 × zm_H => z.2) (zWr.refl _ _) (zWr_ite (fun z : Int32 × zm_H => z.2) (zWr.refl _ _) (zWr_ite (fun z : Int32 × zm_H => z.2) (zWr_ite (fun z : Int32 × zm_H => z.2) (zWr_tr (f_Rules_putInForce_w p1 p2 h) (by decide) (by decide) (zWr.refl _ _)) (zWr.refl _ _)) (zWr.refl _ _))))
def f_M_force (p1 : Int32) (p2 : Int32) (h : zm_H) : Int32 × zm_H := (if (¬ (p1 < 0) ∧ (¬ (((zf h 92 15) - 1) < p1))) then (if (¬ (p2 < (zf h 92 23)) ∧ (¬ (479 < p2))) then (if ((zf h 92 20) = 15) then ((-1), h) else (((zf h 92 20) + 1), (zp (zs (zs h 103 (zf h 92 20) p1) 104 (zf h 92 20) p2) 92 20 ((zf h 92 20) + 1)))) else ((-1), h)) else ((-1), h))
def f_M_force_ok (p1 : Int32) (p2 : Int32) (h : zm_H) : Prop := (((¬ (p1 < 0) ∧ (¬ (((zf h 92 15) - 1) < p1))) → (((¬ (p2 < (zf h 92 23)) ∧ (¬ (479 < p2))) → ((((zf h 92 20) = 15) → True) ∧ (¬ ((zf h 92 20) = 15) → (vp_in (zf h 92 20) 15 ∧ vp_in (zf h 92 20) 15)))) ∧ (¬ (¬ (p2 < (zf h 92 23)) ∧ (¬ (479 < p2))) → True))) ∧ (¬ (¬ (p1 < 0) ∧ (¬ (((zf h 92 15) - 1) < p1))) → True))
theorem f_M_force_w (p1 : Int32) (p2 : Int32) (h : zm_H) : zWr [103, 104] [(92, 20)] h ((f_M_force p1 p2 h).2) := by
  unfold f_M_force
  exact (zWr_ite (fun z : Int32 × zm_H => z.2) (zWr_ite (fun z : Int32 × zm_H => z.2) (zWr_ite (fun z : Int32 × zm_H => z.2) (zWr.refl _ _) (zWr_p (by decide) (zWr_si (by decide) (zWr_si (by decide) (zWr.refl _ _))))) (zWr.refl _ _)) (zWr.refl _ _))
def f_Rules_ruling_l8_b (v1 : Int32) (v2 : Int32) (v3 : Int32) (v4 : Int32) (v5 : Int32) (h : zm_H) : Nat × Int32 × Int32 × Int32 := (if ((zf h 15 4) ≤ v5) then (1, v3, v4, v5) else (0, (if (¬ ((zr h 17 (((zr h 19 v5) * 4) + v1)) = (-1))) then ((if (v2 < (zr h 20 v5)) then (v3 : Int32) else (if ((zr h 20 v5) < v4) then (v3 : Int32) else (zr h 19 v5))) : Int32) else v3), (if (¬ ((zr h 17 (((zr h 19 v5) * 4) + v1)) = (-1))) then ((if (v2 < (zr h 20 v5)) then (v4 : Int32) else (if ((zr h 20 v5) < v4) then (v4 : Int32) else (zr h 20 v5))) : Int32) else v4), (v5 + 1)))
def f_Rules_ruling_l8_b_ok (v1 : Int32) (v2 : Int32) (v3 : Int32) (v4 : Int32) (v5 : Int32) (h : zm_H) : Prop := ((((zf h 15 4) ≤ v5) → True) ∧ (¬ ((zf h 15 4) ≤ v5) → (vp_in v5 15 ∧ (vp_in (((zr h 19 v5) * 4) + v1) 40 ∧ (((¬ ((zr h 17 (((zr h 19 v5) * 4) + v1)) = (-1))) → (vp_in v5 15 ∧ (((v2 < (zr h 20 v5)) → True) ∧ (¬ (v2 < (zr h 20 v5)) → (vp_in v5 15 ∧ ((((zr h 20 v5) < v4) → True) ∧ (¬ ((zr h 20 v5) < v4) → (vp_in v5 15 ∧ vp_in v5 15)))))))) ∧ (¬ (¬ ((zr h 17 (((zr h 19 v5) * 4) + v1)) = (-1))) → True))))))
def f_Rules_ruling_l8 (v1 : Int32) (v2 : Int32) (h : zm_H) (n : Nat) (t : Int32 × Int32 × Int32) : Nat × Int32 × Int32 × Int32 := zwh (fun t => f_Rules_ruling_l8_b v1 v2 t.1 t.2.1 t.2.2 h) n t
def f_Rules_ruling_l8_ok (v1 : Int32) (v2 : Int32) (h : zm_H) (n : Nat) (t : Int32 × Int32 × Int32) : Prop := zwo (fun t => f_Rules_ruling_l8_b v1 v2 t.1 t.2.1 t.2.2 h) (fun t => f_Rules_ruling_l8_b_ok v1 v2 t.1 t.2.1 t.2.2 h) n t
def f_Rules_ruling_k95 (v3 : Int32) (h : zm_H) : Int32 := v3
def f_Rules_ruling_k95_ok (v3 : Int32) (h : zm_H) : Prop := True
def f_Rules_ruling_a8 (r : Nat × Int32 × Int32 × Int32) (h : zm_H) : Int32 := (f_Rules_ruling_k95 (r.2.1) h)
def f_Rules_ruling_a8_ok (r : Nat × Int32 × Int32 × Int32) (h : zm_H) : Prop := True
def f_Rules_ruling (p1 : Int32) (p2 : Int32) (h : zm_H) : Int32 := (f_Rules_ruling_a8 (f_Rules_ruling_l8 p1 p2 h zF ((-1), 0, 0)) h)
def f_Rules_ruling_ok (p1 : Int32) (p2 : Int32) (h : zm_H) : Prop := (f_Rules_ruling_l8_ok p1 p2 h zF ((-1), 0, 0) ∧ f_Rules_ruling_a8_ok (f_Rules_ruling_l8 p1 p2 h zF ((-1), 0, 0)) h)
def f_N_why (p1 : Int32) (p2 : Int32) (h : zm_H) : Int32 := (if (p1 < 0) then ((-1) : Int32) else (if (4 ≤ p1) then ((-1) : Int32) else (if (¬ (p2 < 0) ∧ (¬ (480 ≤ p2))) then ((f_Rules_ruling p1 p2 h) : Int32) else (-1))))
def f_N_why_ok (p1 : Int32) (p2 : Int32) (h : zm_H) : Prop := (((p1 < 0) → True) ∧ (¬ (p1 < 0) → (((4 ≤ p1) → True) ∧ (¬ (4 ≤ p1) → (((¬ (p2 < 0) ∧ (¬ (480 ≤ p2))) → f_Rules_ruling_ok p1 p2 h) ∧ (¬ (¬ (p2 < 0) ∧ (¬ (480 ≤ p2))) → True))))))
def f_M_inForce_l8_b (v1 : Int32) (v2 : Int32) (v3 : Int32) (v4 : Int32) (v5 : Int32) (h : zm_H) : Nat × Int32 × Int32 × Int32 := (if ((zf h 92 20) ≤ v5) then (1, v3, v4, v5) else (0, (if (v2 < (zr h 104 v5)) then (v3 : Int32) else (if ((zr h 104 v5) < v4) then (v3 : Int32) else (if ((zr h 101 ((4 * (zr h 103 v5)) + v1)) = (-1)) then (v3 : Int32) else (zr h 103 v5)))), (if (v2 < (zr h 104 v5)) then (v4 : Int32) else (if ((zr h 104 v5) < v4) then (v4 : Int32) else (if ((zr h 101 ((4 * (zr h 103 v5)) + v1)) = (-1)) then (v4 : Int32) else (zr h 104 v5)))), (v5 + 1)))
def f_M_inForce_l8_b_ok (v1 : Int32) (v2 : Int32) (v3 : Int32) (v4 : Int32) (v5 : Int32) (h : zm_H) : Prop := ((((zf h 92 20) ≤ v5) → True) ∧ (¬ ((zf h 92 20) ≤ v5) → (vp_in v5 15 ∧ (((v2 < (zr h 104 v5)) → True) ∧ (¬ (v2 < (zr h 104 v5)) → (vp_in v5 15 ∧ ((((zr h 104 v5) < v4) → True) ∧ (¬ ((zr h 104 v5) < v4) → (vp_in v5 15 ∧ (vp_in ((4 * (zr h 103 v5)) + v1) 40 ∧ ((((zr h 101 ((4 * (zr h 103 v5)) + v1)) = (-1)) → True) ∧ (¬ ((zr h 101 ((4 * (zr h 103 v5)) + v1)) = (-1)) → (vp_in v5 15 ∧ vp_in v5 15)))))))))))))
def f_M_inForce_l8 (v1 : Int32) (v2 : Int32) (h : zm_H) (n : Nat) (t : Int32 × Int32 × Int32) : Nat × Int32 × Int32 × Int32 := zwh (fun t => f_M_inForce_l8_b v1 v2 t.1 t.2.1 t.2.2 h) n t
def f_M_inForce_l8_ok (v1 : Int32) (v2 : Int32) (h : zm_H) (n : Nat) (t : Int32 × Int32 × Int32) : Prop := zwo (fun t => f_M_inForce_l8_b v1 v2 t.1 t.2.1 t.2.2 h) (fun t => f_M_inForce_l8_b_ok v1 v2 t.1 t.2.1 t.2.2 h) n t
def f_M_inForce_k86 (v3 : Int32) (h : zm_H) : Int32 := v3
def f_M_inForce_k86_ok (v3 : Int32) (h : zm_H) : Prop := True
def f_M_inForce_a8 (r : Nat × Int32 × Int32 × Int32) (h : zm_H) : Int32 := (f_M_inForce_k86 (r.2.1) h)
def f_M_inForce_a8_ok (r : Nat × Int32 × Int32 × Int32) (h : zm_H) : Prop := True
def f_M_inForce (p1 : Int32) (p2 : Int32) (h : zm_H) : Int32 := (f_M_inForce_a8 (f_M_inForce_l8 p1 p2 h zF ((-1), (-1), 0)) h)
def f_M_inForce_ok (p1 : Int32) (p2 : Int32) (h : zm_H) : Prop := (f_M_inForce_l8_ok p1 p2 h zF ((-1), (-1), 0) ∧ f_M_inForce_a8_ok (f_M_inForce_l8 p1 p2 h zF ((-1), (-1), 0)) h)
def f_M_why (p1 : Int32) (p2 : Int32) (h : zm_H) : Int32 := (if (¬ (p1 < 0) ∧ (¬ (3 < p1))) then ((if (¬ (p2 < 0) ∧ (¬ (479 < p2))) then ((f_M_inForce p1 p2 h) : Int32) else (-1)) : Int32) else (-1))
def f_M_why_ok (p1 : Int32) (p2 : Int32) (h : zm_H) : Prop := (((¬ (p1 < 0) ∧ (¬ (3 < p1))) → (((¬ (p2 < 0) ∧ (¬ (479 < p2))) → f_M_inForce_ok p1 p2 h) ∧ (¬ (¬ (p2 < 0) ∧ (¬ (479 < p2))) → True))) ∧ (¬ (¬ (p1 < 0) ∧ (¬ (3 < p1))) → True))
def f_Log_addRaft (p1 : Int32) (p2 : Int32) (p3 : Int32) (h : zm_H) : Int32 × zm_H := (if ((zf h 23 0) < 10) then ((((zf h 23 0) + 1) - 1), (zp (zs (zs (zs h 24 (zf h 23 0) p2) 25 (zf h 23 0) p3) 26 (zf h 23 0) p1) 23 0 ((zf h 23 0) + 1))) else ((-1), h))
def f_Log_addRaft_ok (p1 : Int32) (p2 : Int32) (p3 : Int32) (h : zm_H) : Prop := ((((zf h 23 0) < 10) → (vp_in (zf h 23 0) 10 ∧ (vp_in (zf h 23 0) 10 ∧ vp_in (zf h 23 0) 10))) ∧ (¬ ((zf h 23 0) < 10) → True))
theorem f_Log_addRaft_w (p1 : Int32) (p2 : Int32) (p3 : Int32) (h : zm_H) : zWr [24, 25, 26] [(23, 0)] h ((f_Log_addRaft p1 p2 p3 h).2) := by
  unfold f_Log_addRaft
  exact (zWr_ite (fun z : Int32 × zm_H => z.2) (zWr_p (by decide) (zWr_si (by decide) (zWr_si (by decide) (zWr_si (by decide) (zWr.refl _ _))))) (zWr.refl _ _))
def f_N_raft (p1 : Int32) (p2 : Int32) (h : zm_H) : Int32 × zm_H := (if (p1 < 1) then ((-1), h) else (if (20 < p1) then ((-1), h) else (if (p2 < 2) then ((-1), h) else (if (p2 ≤ 20) then (f_Log_addRaft (zf h 0 0) p1 p2 h) else ((-1), h)))))
def f_N_raft_ok (p1 : Int32) (p2 : Int32) (h : zm_H) : Prop := (((p1 < 1) → True) ∧ (¬ (p1 < 1) → (((20 < p1) → True) ∧ (¬ (20 < p1) → (((p2 < 2) → True) ∧ (¬ (p2 < 2) → (((p2 ≤ 20) → f_Log_addRaft_ok (zf h 0 0) p1 p2 h) ∧ (¬ (p2 ≤ 20) → True))))))))
theorem f_N_raft_w (p1 : Int32) (p2 : Int32) (h : zm_H) : zWr [24, 25, 26] [(23, 0)] h ((f_N_raft p1 p2 h).2) := by
  unfold f_N_raft
  exact (zWr_ite (fun z : Int32 × zm_H => z.2) (zWr.refl _ _) (zWr_ite (fun z : Int32 × zm_H => z.2) (zWr.refl _ _) (zWr_ite (fun z : Int32 × zm_H => z.2) (zWr.refl _ _) (zWr_ite (fun z : Int32 × zm_H => z.2) (zWr_tr (f_Log_addRaft_w (zf h 0 0) p1 p2 h) (by decide) (by decide) (zWr.refl _ _)) (zWr.refl _ _)))))
def f_M_raft (p1 : Int32) (p2 : Int32) (h : zm_H) : Int32 × zm_H := (if (¬ (p1 < 1) ∧ (¬ (20 < p1))) then (if (¬ (p2 < 2) ∧ (¬ (20 < p2))) then (if ((zf h 92 33) = 10) then ((-1), h) else ((((zf h 92 33) + 1) - 1), (zp (zs (zs (zs h 112 (zf h 92 33) p1) 113 (zf h 92 33) p2) 114 (zf h 92 33) (zf h 92 23)) 92 33 ((zf h 92 33) + 1)))) else ((-1), h)) else ((-1), h))
def f_M_raft_ok (p1 : Int32) (p2 : Int32) (h : zm_H) : Prop := (((¬ (p1 < 1) ∧ (¬ (20 < p1))) → (((¬ (p2 < 2) ∧ (¬ (20 < p2))) → ((((zf h 92 33) = 10) → True) ∧ (¬ ((zf h 92 33) = 10) → (vp_in (zf h 92 33) 10 ∧ (vp_in (zf h 92 33) 10 ∧ vp_in (zf h 92 33) 10))))) ∧ (¬ (¬ (p2 < 2) ∧ (¬ (20 < p2))) → True))) ∧ (¬ (¬ (p1 < 1) ∧ (¬ (20 < p1))) → True))
theorem f_M_raft_w (p1 : Int32) (p2 : Int32) (h : zm_H) : zWr [112, 113, 114] [(92, 33)] h ((f_M_raft p1 p2 h).2) := by
  unfold f_M_raft
  exact (zWr_ite (fun z : Int32 × zm_H => z.2) (zWr_ite (fun z : Int32 × zm_H => z.2) (zWr_ite (fun z : Int32 × zm_H => z.2) (zWr.refl _ _) (zWr_p (by decide) (zWr_si (by decide) (zWr_si (by decide) (zWr_si (by decide) (zWr.refl _ _)))))) (zWr.refl _ _)) (zWr.refl _ _))
def f_N_isColumn (p0 : Int32) (h : zm_H) : Int32 := (if (¬ (p0 < 0) ∧ (¬ (10 ≤ p0))) then (1 : Int32) else 0)
def f_N_isColumn_ok (p0 : Int32) (h : zm_H) : Prop := True
def f_Ground_shut (p1 : Int32) (p2 : Int32) (p3 : Int32) (h : zm_H) : Int32 × zm_H := (if ((zf h 82 3) < 10) then (((zf h 82 3) + 1), (zp (zs (zs (zs h 83 (zf h 82 3) p1) 84 (zf h 82 3) p2) 85 (zf h 82 3) p3) 82 3 ((zf h 82 3) + 1))) else ((-1), h))
def f_Ground_shut_ok (p1 : Int32) (p2 : Int32) (p3 : Int32) (h : zm_H) : Prop := ((((zf h 82 3) < 10) → (vp_in (zf h 82 3) 10 ∧ (vp_in (zf h 82 3) 10 ∧ vp_in (zf h 82 3) 10))) ∧ (¬ ((zf h 82 3) < 10) → True))
theorem f_Ground_shut_w (p1 : Int32) (p2 : Int32) (p3 : Int32) (h : zm_H) : zWr [83, 84, 85] [(82, 3)] h ((f_Ground_shut p1 p2 p3 h).2) := by
  unfold f_Ground_shut
  exact (zWr_ite (fun z : Int32 × zm_H => z.2) (zWr_p (by decide) (zWr_si (by decide) (zWr_si (by decide) (zWr_si (by decide) (zWr.refl _ _))))) (zWr.refl _ _))
def f_N_lane (p1 : Int32) (p2 : Int32) (p3 : Int32) (h : zm_H) : Int32 × zm_H := (if (¬ (p1 < 0) ∧ (¬ (10 ≤ p1))) then (if (¬ (p2 < 0) ∧ (¬ (p3 < p2) ∧ (¬ (60 ≤ p3)))) then (f_Ground_shut p1 p2 p3 h) else ((-1), h)) else ((-1), h))
def f_N_lane_ok (p1 : Int32) (p2 : Int32) (p3 : Int32) (h : zm_H) : Prop := (((¬ (p1 < 0) ∧ (¬ (10 ≤ p1))) → (((¬ (p2 < 0) ∧ (¬ (p3 < p2) ∧ (¬ (60 ≤ p3)))) → f_Ground_shut_ok p1 p2 p3 h) ∧ (¬ (¬ (p2 < 0) ∧ (¬ (p3 < p2) ∧ (¬ (60 ≤ p3)))) → True))) ∧ (¬ (¬ (p1 < 0) ∧ (¬ (10 ≤ p1))) → True))
theorem f_N_lane_w (p1 : Int32) (p2 : Int32) (p3 : Int32) (h : zm_H) : zWr [83, 84, 85] [(82, 3)] h ((f_N_lane p1 p2 p3 h).2) := by
  unfold f_N_lane
  exact (zWr_ite (fun z : Int32 × zm_H => z.2) (zWr_ite (fun z : Int32 × zm_H => z.2) (zWr_tr (f_Ground_shut_w p1 p2 p3 h) (by decide) (by decide) (zWr.refl _ _)) (zWr.refl _ _)) (zWr.refl _ _))
def f_M_lane (p1 : Int32) (p2 : Int32) (p3 : Int32) (h : zm_H) : Int32 × zm_H := (if (¬ (p1 < 0) ∧ (¬ (9 < p1))) then (if (¬ (p2 < 0) ∧ (¬ (59 < p2))) then (if (¬ (p3 < p2) ∧ (¬ (59 < p3))) then (if ((zf h 92 37) = 10) then ((-1), h) else (((zf h 92 37) + 1), (zp (zs (zs (zs h 115 (zf h 92 37) p1) 116 (zf h 92 37) p2) 117 (zf h 92 37) p3) 92 37 ((zf h 92 37) + 1)))) else ((-1), h)) else ((-1), h)) else ((-1), h))
def f_M_lane_ok (p1 : Int32) (p2 : Int32) (p3 : Int32) (h : zm_H) : Prop := (((¬ (p1 < 0) ∧ (¬ (9 < p1))) → (((¬ (p2 < 0) ∧ (¬ (59 < p2))) → (((¬ (p3 < p2) ∧ (¬ (59 < p3))) → ((((zf h 92 37) = 10) → True) ∧ (¬ ((zf h 92 37) = 10) → (vp_in (zf h 92 37) 10 ∧ (vp_in (zf h 92 37) 10 ∧ vp_in (zf h 92 37) 10))))) ∧ (¬ (¬ (p3 < p2) ∧ (¬ (59 < p3))) → True))) ∧ (¬ (¬ (p2 < 0) ∧ (¬ (59 < p2))) → True))) ∧ (¬ (¬ (p1 < 0) ∧ (¬ (9 < p1))) → True))
theorem f_M_lane_w (p1 : Int32) (p2 : Int32) (p3 : Int32) (h : zm_H) : zWr [115, 116, 117] [(92, 37)] h ((f_M_lane p1 p2 p3 h).2) := by
  unfold f_M_lane
  exact (zWr_ite (fun z : Int32 × zm_H => z.2) (zWr_ite (fun z : Int32 × zm_H => z.2) (zWr_ite (fun z : Int32 × zm_H => z.2) (zWr_ite (fun z : Int32 × zm_H => z.2) (zWr.refl _ _) (zWr_p (by decide) (zWr_si (by decide) (zWr_si (by decide) (zWr_si (by decide) (zWr.refl _ _)))))) (zWr.refl _ _)) (zWr.refl _ _)) (zWr.refl _ _))
def f_N_isRaft (p1 : Int32) (h : zm_H) : Int32 := (if (¬ (p1 < 0) ∧ (¬ ((zf h 23 0) ≤ p1))) then (1 : Int32) else 0)
def f_N_isRaft_ok (p1 : Int32) (h : zm_H) : Prop := True
def f_N_isPlace (p0 : Int32) (h : zm_H) : Int32 := (if (¬ (p0 < 0) ∧ (¬ (100 ≤ p0) ∧ (¬ (5 ≤ (zm_rm p0 10))))) then (1 : Int32) else 0)
def f_N_isPlace_ok (p0 : Int32) (h : zm_H) : Prop := True
def f_N_isStrength (p0 : Int32) (h : zm_H) : Int32 := (if (¬ (p0 < 10) ∧ (¬ (5000 < p0))) then (1 : Int32) else 0)
def f_N_isStrength_ok (p0 : Int32) (h : zm_H) : Prop := True
def f_Log_hasRoomForThing (h : zm_H) : Int32 := (if (¬ (200 ≤ (zf h 23 4))) then (1 : Int32) else 0)
def f_Log_hasRoomForThing_ok (h : zm_H) : Prop := True
def f_Course_isReady_37 (p1 : Int32) (h : zm_H) : Int32 := (if (((zr h 38 p1) = 1) ∨ ((zr h 38 p1) = 2)) then (1 : Int32) else 0)
def f_Course_isReady_37_ok (p1 : Int32) (h : zm_H) : Prop := (vp_in p1 10 ∧ ((((zr h 38 p1) = 1) → True) ∧ (¬ ((zr h 38 p1) = 1) → vp_in p1 10)))
def f_Course_isFree_37_l2_b (v1 : Int32) (v2 : Int32) (h : zm_H) : Nat × Int32 := (if (10 ≤ v2) then (2, v2) else (if ((zr h 39 v2) = v1) then (1, v2) else (0, (v2 + 1))))
def f_Course_isFree_37_l2_b_ok (v1 : Int32) (v2 : Int32) (h : zm_H) : Prop := (((10 ≤ v2) → True) ∧ (¬ (10 ≤ v2) → vp_in v2 10))
def f_Course_isFree_37_l2 (v1 : Int32) (h : zm_H) (n : Nat) (t : Int32) : Nat × Int32 := zwh (fun t => f_Course_isFree_37_l2_b v1 t h) n t
def f_Course_isFree_37_l2_ok (v1 : Int32) (h : zm_H) (n : Nat) (t : Int32) : Prop := zwo (fun t => f_Course_isFree_37_l2_b v1 t h) (fun t => f_Course_isFree_37_l2_b_ok v1 t h) n t
def f_Course_isFree_37_k18 (h : zm_H) : Int32 := 0
def f_Course_isFree_37_k18_ok (h : zm_H) : Prop := True
def f_Course_isFree_37_k26 (h : zm_H) : Int32 := 1
def f_Course_isFree_37_k26_ok (h : zm_H) : Prop := True
def f_Course_isFree_37_a2 (r : Nat × Int32) (h : zm_H) : Int32 := (if r.1 = 1 then (f_Course_isFree_37_k18 h) else (f_Course_isFree_37_k26 h))
def f_Course_isFree_37_a2_ok (r : Nat × Int32) (h : zm_H) : Prop := ((r.1 = 1 → True) ∧ (¬ r.1 = 1 → True))
def f_Course_isFree_37 (p1 : Int32) (h : zm_H) : Int32 := (f_Course_isFree_37_a2 (f_Course_isFree_37_l2 p1 h zF 0) h)
def f_Course_isFree_37_ok (p1 : Int32) (h : zm_H) : Prop := (f_Course_isFree_37_l2_ok p1 h zF 0 ∧ f_Course_isFree_37_a2_ok (f_Course_isFree_37_l2 p1 h zF 0) h)
def f_Course_isDoable_37 (p1 : Int32) (p2 : Int32) (p3 : Int32) (h : zm_H) : Int32 := (if (p1 = 5) then ((if (((zr h 38 p2) = 0) ∧ (¬ ((f_Course_isFree_37 p3 h) = 0))) then (1 : Int32) else 0) : Int32) else (if (p1 = 4) then ((if (¬ ((zr h 38 p2) = 0)) then (1 : Int32) else 0) : Int32) else (f_Course_isReady_37 p2 h)))
def f_Course_isDoable_37_ok (p1 : Int32) (p2 : Int32) (p3 : Int32) (h : zm_H) : Prop := (((p1 = 5) → (vp_in p2 10 ∧ ((((zr h 38 p2) = 0) → f_Course_isFree_37_ok p3 h) ∧ (¬ ((zr h 38 p2) = 0) → True)))) ∧ (¬ (p1 = 5) → ((((p1 = 4) → vp_in p2 10) ∧ (¬ (p1 = 4) → f_Course_isReady_37_ok p2 h)) ∧ vp_nar .boolean (if (p1 = 4) then ((if (¬ ((zr h 38 p2) = 0)) then (1 : Int32) else 0) : Int32) else (f_Course_isReady_37 p2 h)) = (if (p1 = 4) then ((if (¬ ((zr h 38 p2) = 0)) then (1 : Int32) else 0) : Int32) else (f_Course_isReady_37 p2 h)))))
def f_Ground_isShut_l2_k42 (v1 : Int32) (v2 : Int32) (v3 : Int32) (h : zm_H) : Nat × Int32 := (0, (v3 + 1))
def f_Ground_isShut_l2_k42_ok (v1 : Int32) (v2 : Int32) (v3 : Int32) (h : zm_H) : Prop := True
def f_Ground_isShut_l2_b (v1 : Int32) (v2 : Int32) (v3 : Int32) (h : zm_H) : Nat × Int32 := (if ((zf h 82 3) ≤ v3) then (2, v3) else (if ((zr h 83 v3) = v1) then (if (v2 < (zr h 84 v3)) then (f_Ground_isShut_l2_k42 v1 v2 v3 h) else (if ((zr h 85 v3) < v2) then (f_Ground_isShut_l2_k42 v1 v2 v3 h) else (1, v3))) else (f_Ground_isShut_l2_k42 v1 v2 v3 h)))
def f_Ground_isShut_l2_b_ok (v1 : Int32) (v2 : Int32) (v3 : Int32) (h : zm_H) : Prop := ((((zf h 82 3) ≤ v3) → True) ∧ (¬ ((zf h 82 3) ≤ v3) → (vp_in v3 10 ∧ ((((zr h 83 v3) = v1) → (vp_in v3 10 ∧ (((v2 < (zr h 84 v3)) → True) ∧ (¬ (v2 < (zr h 84 v3)) → vp_in v3 10)))) ∧ (¬ ((zr h 83 v3) = v1) → True)))))
def f_Ground_isShut_l2 (v1 : Int32) (v2 : Int32) (h : zm_H) (n : Nat) (t : Int32) : Nat × Int32 := zwh (fun t => f_Ground_isShut_l2_b v1 v2 t h) n t
def f_Ground_isShut_l2_ok (v1 : Int32) (v2 : Int32) (h : zm_H) (n : Nat) (t : Int32) : Prop := zwo (fun t => f_Ground_isShut_l2_b v1 v2 t h) (fun t => f_Ground_isShut_l2_b_ok v1 v2 t h) n t
def f_Ground_isShut_k40 (h : zm_H) : Int32 := 1
def f_Ground_isShut_k40_ok (h : zm_H) : Prop := True
def f_Ground_isShut_k48 (h : zm_H) : Int32 := 0
def f_Ground_isShut_k48_ok (h : zm_H) : Prop := True
def f_Ground_isShut_a2 (r : Nat × Int32) (h : zm_H) : Int32 := (if r.1 = 1 then (f_Ground_isShut_k40 h) else (f_Ground_isShut_k48 h))
def f_Ground_isShut_a2_ok (r : Nat × Int32) (h : zm_H) : Prop := ((r.1 = 1 → True) ∧ (¬ r.1 = 1 → True))
def f_Ground_isShut (p1 : Int32) (p2 : Int32) (h : zm_H) : Int32 := (f_Ground_isShut_a2 (f_Ground_isShut_l2 p1 p2 h zF 0) h)
def f_Ground_isShut_ok (p1 : Int32) (p2 : Int32) (h : zm_H) : Prop := (f_Ground_isShut_l2_ok p1 p2 h zF 0 ∧ f_Ground_isShut_a2_ok (f_Ground_isShut_l2 p1 p2 h zF 0) h)
def f_Log_addThing (p1 : Int32) (p2 : Int32) (p3 : Int32) (p4 : Int32) (p5 : Int32) (h : zm_H) : zm_H := (if (200 ≤ (zf h 23 4)) then h else (zp (zs (zs (zs (zs (zs h 27 (zf h 23 4) p1) 28 (zf h 23 4) p2) 29 (zf h 23 4) p3) 30 (zf h 23 4) p4) 31 (zf h 23 4) p5) 23 4 ((zf h 23 4) + 1)))
def f_Log_addThing_ok (p1 : Int32) (p2 : Int32) (p3 : Int32) (p4 : Int32) (p5 : Int32) (h : zm_H) : Prop := (((200 ≤ (zf h 23 4)) → True) ∧ (¬ (200 ≤ (zf h 23 4)) → (vp_in (zf h 23 4) 200 ∧ (vp_in (zf h 23 4) 200 ∧ (vp_in (zf h 23 4) 200 ∧ (vp_in (zf h 23 4) 200 ∧ vp_in (zf h 23 4) 200))))))
theorem f_Log_addThing_w (p1 : Int32) (p2 : Int32) (p3 : Int32) (p4 : Int32) (p5 : Int32) (h : zm_H) : zWr [27, 28, 29, 30, 31] [(23, 4)] h ((f_Log_addThing p1 p2 p3 p4 p5 h)) := by
  unfold f_Log_addThing
  exact (zWr_ite (fun z : zm_H => z) (zWr.refl _ _) (zWr_p (by decide) (zWr_si (by decide) (zWr_si (by decide) (zWr_si (by decide) (zWr_si (by decide) (zWr_si (by decide) (zWr.refl _ _))))))))
def f_Course_doThings_37_l0_k109 (v1 : Int32) (h : zm_H) : Nat × zm_H := (0, (zp h 37 4 ((zf h 37 4) + 1)))
def f_Course_doThings_37_l0_k109_ok (v1 : Int32) (h : zm_H) : Prop := True
theorem f_Course_doThings_37_l0_k109_w (v1 : Int32) (h : zm_H) : zWr [] [(37, 4)] h ((f_Course_doThings_37_l0_k109 v1 h).2) := by
  unfold f_Course_doThings_37_l0_k109
  exact (zWr_p (by decide) (zWr.refl _ _))
def f_Course_renewChain_37 (p1 : Int32) (p2 : Int32) (p3 : Int32) (h : zm_H) : zm_H := (zs (zs (zs h 43 ((p1 * 3) + p2) p3) 44 ((p1 * 3) + p2) 0) 45 ((p1 * 3) + p2) (-1))
def f_Course_renewChain_37_ok (p1 : Int32) (p2 : Int32) (p3 : Int32) (h : zm_H) : Prop := (vp_in ((p1 * 3) + p2) 30 ∧ (vp_in ((p1 * 3) + p2) 30 ∧ vp_in ((p1 * 3) + p2) 30))
theorem f_Course_renewChain_37_w (p1 : Int32) (p2 : Int32) (p3 : Int32) (h : zm_H) : zWr [43, 44, 45] [] h ((f_Course_renewChain_37 p1 p2 p3 h)) := by
  unfold f_Course_renewChain_37
  exact (zWr_si (by decide) (zWr_si (by decide) (zWr_si (by decide) (zWr.refl _ _))))
def f_Course_bringHome_37_l16_k28 (v1 : Int32) (v2 : Int32) (h : zm_H) : Nat × Int32 × zm_H := (0, (v2 + 1), h)
def f_Course_bringHome_37_l16_k28_ok (v1 : Int32) (v2 : Int32) (h : zm_H) : Prop := True
theorem f_Course_bringHome_37_l16_k28_w (v1 : Int32) (v2 : Int32) (h : zm_H) : zWr [] [] h ((f_Course_bringHome_37_l16_k28 v1 v2 h).2.2) := by
  unfold f_Course_bringHome_37_l16_k28
  exact (zWr.refl _ _)
def f_Course_bringHome_37_l16_b (v1 : Int32) (v2 : Int32) (h : zm_H) : Nat × Int32 × zm_H := (if (3 ≤ v2) then (1, v2, h) else (f_Course_bringHome_37_l16_k28 v1 v2 (f_Course_renewChain_37 v1 v2 0 h)))
def f_Course_bringHome_37_l16_b_ok (v1 : Int32) (v2 : Int32) (h : zm_H) : Prop := (((3 ≤ v2) → True) ∧ (¬ (3 ≤ v2) → f_Course_renewChain_37_ok v1 v2 0 h))
theorem f_Course_bringHome_37_l16_b_w (v1 : Int32) (v2 : Int32) (h : zm_H) : zWr [43, 44, 45] [] h ((f_Course_bringHome_37_l16_b v1 v2 h).2.2) := by
  unfold f_Course_bringHome_37_l16_b
  exact (zWr_ite (fun z : Nat × Int32 × zm_H => z.2.2) (zWr.refl _ _) (zWr_tr (f_Course_bringHome_37_l16_k28_w v1 v2 (f_Course_renewChain_37 v1 v2 0 h)) (by decide) (by decide) (zWr_tr (f_Course_renewChain_37_w v1 v2 0 h) (by decide) (by decide) (zWr.refl _ _))))
def f_Course_bringHome_37_l16 (v1 : Int32) (n : Nat) (t : Int32 × zm_H) : Nat × Int32 × zm_H := zwh (fun t => f_Course_bringHome_37_l16_b v1 t.1 t.2) n t
def f_Course_bringHome_37_l16_ok (v1 : Int32) (n : Nat) (t : Int32 × zm_H) : Prop := zwo (fun t => f_Course_bringHome_37_l16_b v1 t.1 t.2) (fun t => f_Course_bringHome_37_l16_b_ok v1 t.1 t.2) n t
theorem f_Course_bringHome_37_l16_w (v1 : Int32) (n : Nat) (t : Int32 × zm_H) : zWr [43, 44, 45] [] (t.2) ((f_Course_bringHome_37_l16 v1 n t).2.2) := by
  unfold f_Course_bringHome_37_l16
  exact zWr_zwh (fun t : Int32 × zm_H => t.2) (fun t => f_Course_bringHome_37_l16_b_w v1 t.1 t.2)
def f_Course_bringHome_37_k34 (h : zm_H) : zm_H := h
def f_Course_bringHome_37_k34_ok (h : zm_H) : Prop := True
theorem f_Course_bringHome_37_k34_w (h : zm_H) : zWr [] [] h ((f_Course_bringHome_37_k34 h)) := by
  unfold f_Course_bringHome_37_k34
  exact (zWr.refl _ _)
def f_Course_bringHome_37_a16 (r : Nat × Int32 × zm_H) : zm_H := (f_Course_bringHome_37_k34 (r.2.2))
def f_Course_bringHome_37_a16_ok (r : Nat × Int32 × zm_H) : Prop := True
theorem f_Course_bringHome_37_a16_w (r : Nat × Int32 × zm_H) : zWr [] [] (r.2.2) ((f_Course_bringHome_37_a16 r)) := by
  unfold f_Course_bringHome_37_a16
  exact (zWr_tr (f_Course_bringHome_37_k34_w (r.2.2)) (by decide) (by decide) (zWr.refl _ _))
def f_Course_bringHome_37 (p1 : Int32) (h : zm_H) : zm_H := (f_Course_bringHome_37_a16 (f_Course_bringHome_37_l16 p1 zF (0, (zs (zs h 38 p1 0) 39 p1 (-1)))))
def f_Course_bringHome_37_ok (p1 : Int32) (h : zm_H) : Prop := (vp_in p1 10 ∧ (vp_in p1 10 ∧ (f_Course_bringHome_37_l16_ok p1 zF (0, (zs (zs h 38 p1 0) 39 p1 (-1))) ∧ f_Course_bringHome_37_a16_ok (f_Course_bringHome_37_l16 p1 zF (0, (zs (zs h 38 p1 0) 39 p1 (-1)))))))
theorem f_Course_bringHome_37_w (p1 : Int32) (h : zm_H) : zWr [38, 39, 43, 44, 45] [] h ((f_Course_bringHome_37 p1 h)) := by
  unfold f_Course_bringHome_37
  exact (zWr_tr (f_Course_bringHome_37_a16_w (f_Course_bringHome_37_l16 p1 zF (0, (zs (zs h 38 p1 0) 39 p1 (-1))))) (by decide) (by decide) (zWr_tr (f_Course_bringHome_37_l16_w p1 zF (0, (zs (zs h 38 p1 0) 39 p1 (-1)))) (by decide) (by decide) (zWr_si (by decide) (zWr_si (by decide) (zWr.refl _ _)))))
def f_Course_doThing_37_l22_k37 (v2 : Int32) (v4 : Int32) (v5 : Int32) (h : zm_H) : Nat × Int32 × zm_H := (0, (v5 + 1), h)
def f_Course_doThing_37_l22_k37_ok (v2 : Int32) (v4 : Int32) (v5 : Int32) (h : zm_H) : Prop := True
theorem f_Course_doThing_37_l22_k37_w (v2 : Int32) (v4 : Int32) (v5 : Int32) (h : zm_H) : zWr [] [] h ((f_Course_doThing_37_l22_k37 v2 v4 v5 h).2.2) := by
  unfold f_Course_doThing_37_l22_k37
  exact (zWr.refl _ _)
def f_Course_doThing_37_l22_b (v2 : Int32) (v4 : Int32) (v5 : Int32) (h : zm_H) : Nat × Int32 × zm_H := (if (3 ≤ v5) then (1, v5, h) else (f_Course_doThing_37_l22_k37 v2 v4 v5 (f_Course_renewChain_37 v2 v5 v4 h)))
def f_Course_doThing_37_l22_b_ok (v2 : Int32) (v4 : Int32) (v5 : Int32) (h : zm_H) : Prop := (((3 ≤ v5) → True) ∧ (¬ (3 ≤ v5) → f_Course_renewChain_37_ok v2 v5 v4 h))
theorem f_Course_doThing_37_l22_b_w (v2 : Int32) (v4 : Int32) (v5 : Int32) (h : zm_H) : zWr [43, 44, 45] [] h ((f_Course_doThing_37_l22_b v2 v4 v5 h).2.2) := by
  unfold f_Course_doThing_37_l22_b
  exact (zWr_ite (fun z : Nat × Int32 × zm_H => z.2.2) (zWr.refl _ _) (zWr_tr (f_Course_doThing_37_l22_k37_w v2 v4 v5 (f_Course_renewChain_37 v2 v5 v4 h)) (by decide) (by decide) (zWr_tr (f_Course_renewChain_37_w v2 v5 v4 h) (by decide) (by decide) (zWr.refl _ _))))
def f_Course_doThing_37_l22 (v2 : Int32) (v4 : Int32) (n : Nat) (t : Int32 × zm_H) : Nat × Int32 × zm_H := zwh (fun t => f_Course_doThing_37_l22_b v2 v4 t.1 t.2) n t
def f_Course_doThing_37_l22_ok (v2 : Int32) (v4 : Int32) (n : Nat) (t : Int32 × zm_H) : Prop := zwo (fun t => f_Course_doThing_37_l22_b v2 v4 t.1 t.2) (fun t => f_Course_doThing_37_l22_b_ok v2 v4 t.1 t.2) n t
theorem f_Course_doThing_37_l22_w (v2 : Int32) (v4 : Int32) (n : Nat) (t : Int32 × zm_H) : zWr [43, 44, 45] [] (t.2) ((f_Course_doThing_37_l22 v2 v4 n t).2.2) := by
  unfold f_Course_doThing_37_l22
  exact zWr_zwh (fun t : Int32 × zm_H => t.2) (fun t => f_Course_doThing_37_l22_b_w v2 v4 t.1 t.2)
def f_Course_doThing_37_k43 (h : zm_H) : zm_H := h
def f_Course_doThing_37_k43_ok (h : zm_H) : Prop := True
theorem f_Course_doThing_37_k43_w (h : zm_H) : zWr [] [] h ((f_Course_doThing_37_k43 h)) := by
  unfold f_Course_doThing_37_k43
  exact (zWr.refl _ _)
def f_Course_doThing_37_a22 (r : Nat × Int32 × zm_H) : zm_H := (f_Course_doThing_37_k43 (r.2.2))
def f_Course_doThing_37_a22_ok (r : Nat × Int32 × zm_H) : Prop := True
theorem f_Course_doThing_37_a22_w (r : Nat × Int32 × zm_H) : zWr [] [] (r.2.2) ((f_Course_doThing_37_a22 r)) := by
  unfold f_Course_doThing_37_a22
  exact (zWr_tr (f_Course_doThing_37_k43_w (r.2.2)) (by decide) (by decide) (zWr.refl _ _))
def f_Course_doThing_37 (p1 : Int32) (p2 : Int32) (p3 : Int32) (p4 : Int32) (h : zm_H) : zm_H := (if (p1 = 5) then (f_Course_doThing_37_a22 (f_Course_doThing_37_l22 p2 p4 zF (0, (zs (zs h 38 p2 1) 39 p2 p3)))) else (if (p1 = 4) then (f_Course_bringHome_37 p2 h) else (if (p1 = 3) then (zs h 40 p2 0) else (f_Course_renewChain_37 p2 p1 p4 h))))
def f_Course_doThing_37_ok (p1 : Int32) (p2 : Int32) (p3 : Int32) (p4 : Int32) (h : zm_H) : Prop := (((p1 = 5) → (vp_in p2 10 ∧ (vp_in p2 10 ∧ (f_Course_doThing_37_l22_ok p2 p4 zF (0, (zs (zs h 38 p2 1) 39 p2 p3)) ∧ f_Course_doThing_37_a22_ok (f_Course_doThing_37_l22 p2 p4 zF (0, (zs (zs h 38 p2 1) 39 p2 p3))))))) ∧ (¬ (p1 = 5) → (((p1 = 4) → f_Course_bringHome_37_ok p2 h) ∧ (¬ (p1 = 4) → (((p1 = 3) → vp_in p2 10) ∧ (¬ (p1 = 3) → f_Course_renewChain_37_ok p2 p1 p4 h))))))
theorem f_Course_doThing_37_w (p1 : Int32) (p2 : Int32) (p3 : Int32) (p4 : Int32) (h : zm_H) : zWr [38, 39, 40, 43, 44, 45] [] h ((f_Course_doThing_37 p1 p2 p3 p4 h)) := by
  unfold f_Course_doThing_37
  exact (zWr_ite (fun z : zm_H => z) (zWr_tr (f_Course_doThing_37_a22_w (f_Course_doThing_37_l22 p2 p4 zF (0, (zs (zs h 38 p2 1) 39 p2 p3)))) (by decide) (by decide) (zWr_tr (f_Course_doThing_37_l22_w p2 p4 zF (0, (zs (zs h 38 p2 1) 39 p2 p3))) (by decide) (by decide) (zWr_si (by decide) (zWr_si (by decide) (zWr.refl _ _))))) (zWr_ite (fun z : zm_H => z) (zWr_tr (f_Course_bringHome_37_w p2 h) (by decide) (by decide) (zWr.refl _ _)) (zWr_ite (fun z : zm_H => z) (zWr_si (by decide) (zWr.refl _ _)) (zWr_tr (f_Course_renewChain_37_w p2 p1 p4 h) (by decide) (by decide) (zWr.refl _ _)))))
def f_Course_doThings_37_l0_b (v1 : Int32) (h : zm_H) : Nat × zm_H := (if ((zf h 23 4) ≤ (zf h 37 4)) then (1, h) else (if (v1 < (zr h 27 (zf h 37 4))) then (1, h) else (if ((f_Course_isDoable_37 (zr h 28 (zf h 37 4)) (zr h 29 (zf h 37 4)) (zr h 30 (zf h 37 4)) h) = 0) then (f_Course_doThings_37_l0_k109 v1 h) else (f_Course_doThings_37_l0_k109 v1 (f_Course_doThing_37 (zr h 28 (zf h 37 4)) (zr h 29 (zf h 37 4)) (zr h 30 (zf h 37 4)) (zr h 31 (zf h 37 4)) h)))))
def f_Course_doThings_37_l0_b_ok (v1 : Int32) (h : zm_H) : Prop := ((((zf h 23 4) ≤ (zf h 37 4)) → True) ∧ (¬ ((zf h 23 4) ≤ (zf h 37 4)) → (vp_in (zf h 37 4) 200 ∧ (((v1 < (zr h 27 (zf h 37 4))) → True) ∧ (¬ (v1 < (zr h 27 (zf h 37 4))) → (vp_in (zf h 37 4) 200 ∧ (vp_in (zf h 37 4) 200 ∧ (vp_in (zf h 37 4) 200 ∧ (f_Course_isDoable_37_ok (zr h 28 (zf h 37 4)) (zr h 29 (zf h 37 4)) (zr h 30 (zf h 37 4)) h ∧ ((((f_Course_isDoable_37 (zr h 28 (zf h 37 4)) (zr h 29 (zf h 37 4)) (zr h 30 (zf h 37 4)) h) = 0) → True) ∧ (¬ ((f_Course_isDoable_37 (zr h 28 (zf h 37 4)) (zr h 29 (zf h 37 4)) (zr h 30 (zf h 37 4)) h) = 0) → (vp_in (zf h 37 4) 200 ∧ (vp_in (zf h 37 4) 200 ∧ (vp_in (zf h 37 4) 200 ∧ (vp_in (zf h 37 4) 200 ∧ f_Course_doThing_37_ok (zr h 28 (zf h 37 4)) (zr h 29 (zf h 37 4)) (zr h 30 (zf h 37 4)) (zr h 31 (zf h 37 4)) h)))))))))))))))
theorem f_Course_doThings_37_l0_b_w (v1 : Int32) (h : zm_H) : zWr [38, 39, 40, 43, 44, 45] [(37, 4)] h ((f_Course_doThings_37_l0_b v1 h).2) := by
  unfold f_Course_doThings_37_l0_b
  exact (zWr_ite (fun z : Nat × zm_H => z.2) (zWr.refl _ _) (zWr_ite (fun z : Nat × zm_H => z.2) (zWr.refl _ _) (zWr_ite (fun z : Nat × zm_H => z.2) (zWr_tr (f_Course_doThings_37_l0_k109_w v1 h) (by decide) (by decide) (zWr.refl _ _)) (zWr_tr (f_Course_doThings_37_l0_k109_w v1 (f_Course_doThing_37 (zr h 28 (zf h 37 4)) (zr h 29 (zf h 37 4)) (zr h 30 (zf h 37 4)) (zr h 31 (zf h 37 4)) h)) (by decide) (by decide) (zWr_tr (f_Course_doThing_37_w (zr h 28 (zf h 37 4)) (zr h 29 (zf h 37 4)) (zr h 30 (zf h 37 4)) (zr h 31 (zf h 37 4)) h) (by decide) (by decide) (zWr.refl _ _))))))
def f_Course_doThings_37_l0 (v1 : Int32) (n : Nat) (t : zm_H) : Nat × zm_H := zwh (fun t => f_Course_doThings_37_l0_b v1 t) n t
def f_Course_doThings_37_l0_ok (v1 : Int32) (n : Nat) (t : zm_H) : Prop := zwo (fun t => f_Course_doThings_37_l0_b v1 t) (fun t => f_Course_doThings_37_l0_b_ok v1 t) n t
theorem f_Course_doThings_37_l0_w (v1 : Int32) (n : Nat) (t : zm_H) : zWr [38, 39, 40, 43, 44, 45] [(37, 4)] (t) ((f_Course_doThings_37_l0 v1 n t).2) := by
  unfold f_Course_doThings_37_l0
  exact zWr_zwh (fun t : zm_H => t) (fun t => f_Course_doThings_37_l0_b_w v1 t)
def f_Course_doThings_37_k122 (h : zm_H) : zm_H := h
def f_Course_doThings_37_k122_ok (h : zm_H) : Prop := True
theorem f_Course_doThings_37_k122_w (h : zm_H) : zWr [] [] h ((f_Course_doThings_37_k122 h)) := by
  unfold f_Course_doThings_37_k122
  exact (zWr.refl _ _)
def f_Course_doThings_37_a0 (r : Nat × zm_H) : zm_H := (f_Course_doThings_37_k122 (r.2))
def f_Course_doThings_37_a0_ok (r : Nat × zm_H) : Prop := True
theorem f_Course_doThings_37_a0_w (r : Nat × zm_H) : zWr [] [] (r.2) ((f_Course_doThings_37_a0 r)) := by
  unfold f_Course_doThings_37_a0
  exact (zWr_tr (f_Course_doThings_37_k122_w (r.2)) (by decide) (by decide) (zWr.refl _ _))
def f_Course_doThings_37 (p1 : Int32) (h : zm_H) : zm_H := (f_Course_doThings_37_a0 (f_Course_doThings_37_l0 p1 zF h))
def f_Course_doThings_37_ok (p1 : Int32) (h : zm_H) : Prop := (f_Course_doThings_37_l0_ok p1 zF h ∧ f_Course_doThings_37_a0_ok (f_Course_doThings_37_l0 p1 zF h))
theorem f_Course_doThings_37_w (p1 : Int32) (h : zm_H) : zWr [38, 39, 40, 43, 44, 45] [(37, 4)] h ((f_Course_doThings_37 p1 h)) := by
  unfold f_Course_doThings_37
  exact (zWr_tr (f_Course_doThings_37_a0_w (f_Course_doThings_37_l0 p1 zF h)) (by decide) (by decide) (zWr_tr (f_Course_doThings_37_l0_w p1 zF h) (by decide) (by decide) (zWr.refl _ _)))
def f_N_lay_k97 (h : zm_H) : Int32 × zm_H := ((zf (f_Course_doThings_37 (zf h 0 0) h) 23 4), (f_Course_doThings_37 (zf h 0 0) h))
def f_N_lay_k97_ok (h : zm_H) : Prop := f_Course_doThings_37_ok (zf h 0 0) h
theorem f_N_lay_k97_w (h : zm_H) : zWr [38, 39, 40, 43, 44, 45] [(37, 4)] h ((f_N_lay_k97 h).2) := by
  unfold f_N_lay_k97
  exact (zWr_tr (f_Course_doThings_37_w (zf h 0 0) h) (by decide) (by decide) (zWr.refl _ _))
def f_N_lay (p1 : Int32) (p2 : Int32) (p3 : Int32) (h : zm_H) : Int32 × zm_H := (if (¬ (p1 < 0) ∧ (¬ ((zf h 23 0) ≤ p1))) then (if (¬ (p2 < 0) ∧ (¬ (100 ≤ p2) ∧ (¬ (5 ≤ (zm_rm p2 10))))) then (if (¬ (p3 < 10) ∧ (¬ (5000 < p3))) then (if (480 ≤ (zf h 0 0)) then ((-1), h) else (if (¬ (200 ≤ (zf h 23 4))) then (if ((f_Course_isDoable_37 5 p1 p2 h) = 0) then ((-1), h) else (if ((f_Ground_isShut (p2 / 10) ((zf h 0 0) / 8) h) = 0) then (f_N_lay_k97 (f_Log_addThing (zf h 0 0) 5 p1 p2 p3 h)) else ((-1), h))) else ((-1), h))) else ((-1), h)) else ((-1), h)) else ((-1), h))
def f_N_lay_ok (p1 : Int32) (p2 : Int32) (p3 : Int32) (h : zm_H) : Prop := (((¬ (p1 < 0) ∧ (¬ ((zf h 23 0) ≤ p1))) → (((¬ (p2 < 0) ∧ (¬ (100 ≤ p2) ∧ (¬ (5 ≤ (zm_rm p2 10))))) → (((¬ (p3 < 10) ∧ (¬ (5000 < p3))) → (((480 ≤ (zf h 0 0)) → True) ∧ (¬ (480 ≤ (zf h 0 0)) → (((¬ (200 ≤ (zf h 23 4))) → (f_Course_isDoable_37_ok 5 p1 p2 h ∧ ((((f_Course_isDoable_37 5 p1 p2 h) = 0) → True) ∧ (¬ ((f_Course_isDoable_37 5 p1 p2 h) = 0) → (f_Ground_isShut_ok (p2 / 10) ((zf h 0 0) / 8) h ∧ ((((f_Ground_isShut (p2 / 10) ((zf h 0 0) / 8) h) = 0) → (f_Log_addThing_ok (zf h 0 0) 5 p1 p2 p3 h ∧ (f_N_lay_k97_ok (f_Log_addThing (zf h 0 0) 5 p1 p2 p3 h)))) ∧ (¬ ((f_Ground_isShut (p2 / 10) ((zf h 0 0) / 8) h) = 0) → True))))))) ∧ (¬ (¬ (200 ≤ (zf h 23 4))) → True))))) ∧ (¬ (¬ (p3 < 10) ∧ (¬ (5000 < p3))) → True))) ∧ (¬ (¬ (p2 < 0) ∧ (¬ (100 ≤ p2) ∧ (¬ (5 ≤ (zm_rm p2 10))))) → True))) ∧ (¬ (¬ (p1 < 0) ∧ (¬ ((zf h 23 0) ≤ p1))) → True))
theorem f_N_lay_w (p1 : Int32) (p2 : Int32) (p3 : Int32) (h : zm_H) : zWr [27, 28, 29, 30, 31, 38, 39, 40, 43, 44, 45] [(23, 4), (37, 4)] h ((f_N_lay p1 p2 p3 h).2) := by
  unfold f_N_lay
  exact (zWr_ite (fun z : Int32 × zm_H => z.2) (zWr_ite (fun z : Int32 × zm_H => z.2) (zWr_ite (fun z : Int32 × zm_H => z.2) (zWr_ite (fun z : Int32 × zm_H => z.2) (zWr.refl _ _) (zWr_ite (fun z : Int32 × zm_H => z.2) (zWr_ite (fun z : Int32 × zm_H => z.2) (zWr.refl _ _) (zWr_ite (fun z : Int32 × zm_H => z.2) (zWr_tr (f_N_lay_k97_w (f_Log_addThing (zf h 0 0) 5 p1 p2 p3 h)) (by decide) (by decide) (zWr_tr (f_Log_addThing_w (zf h 0 0) 5 p1 p2 p3 h) (by decide) (by decide) (zWr.refl _ _))) (zWr.refl _ _))) (zWr.refl _ _))) (zWr.refl _ _)) (zWr.refl _ _)) (zWr.refl _ _))
def f_M_isRaft (p1 : Int32) (h : zm_H) : Int32 := (if (¬ (p1 < 0) ∧ (¬ (((zf h 92 33) - 1) < p1))) then (1 : Int32) else 0)
def f_M_isRaft_ok (p1 : Int32) (h : zm_H) : Prop := True
def f_M_isPlace (p0 : Int32) (h : zm_H) : Int32 := (if (¬ (p0 < 0) ∧ (¬ (10 ≤ (p0 / 10)) ∧ (¬ (5 ≤ (zm_rm p0 10))))) then (1 : Int32) else 0)
def f_M_isPlace_ok (p0 : Int32) (h : zm_H) : Prop := True
def f_M_isShut_l2_k50 (v1 : Int32) (v2 : Int32) (h : zm_H) : Nat × Int32 := (0, (v2 + 1))
def f_M_isShut_l2_k50_ok (v1 : Int32) (v2 : Int32) (h : zm_H) : Prop := True
def f_M_isShut_l2_b (v1 : Int32) (v2 : Int32) (h : zm_H) : Nat × Int32 := (if ((zf h 92 37) ≤ v2) then (2, v2) else (if ((zr h 115 v2) = (v1 / 10)) then (if (¬ (((zf h 92 23) / 8) < (zr h 116 v2)) ∧ (¬ ((zr h 117 v2) < ((zf h 92 23) / 8)))) then (1, v2) else (f_M_isShut_l2_k50 v1 v2 h)) else (f_M_isShut_l2_k50 v1 v2 h)))
def f_M_isShut_l2_b_ok (v1 : Int32) (v2 : Int32) (h : zm_H) : Prop := ((((zf h 92 37) ≤ v2) → True) ∧ (¬ ((zf h 92 37) ≤ v2) → (vp_in v2 10 ∧ ((((zr h 115 v2) = (v1 / 10)) → (vp_in v2 10 ∧ vp_in v2 10)) ∧ (¬ ((zr h 115 v2) = (v1 / 10)) → True)))))
def f_M_isShut_l2 (v1 : Int32) (h : zm_H) (n : Nat) (t : Int32) : Nat × Int32 := zwh (fun t => f_M_isShut_l2_b v1 t h) n t
def f_M_isShut_l2_ok (v1 : Int32) (h : zm_H) (n : Nat) (t : Int32) : Prop := zwo (fun t => f_M_isShut_l2_b v1 t h) (fun t => f_M_isShut_l2_b_ok v1 t h) n t
def f_M_isShut_k48 (h : zm_H) : Int32 := 1
def f_M_isShut_k48_ok (h : zm_H) : Prop := True
def f_M_isShut_k56 (h : zm_H) : Int32 := 0
def f_M_isShut_k56_ok (h : zm_H) : Prop := True
def f_M_isShut_a2 (r : Nat × Int32) (h : zm_H) : Int32 := (if r.1 = 1 then (f_M_isShut_k48 h) else (f_M_isShut_k56 h))
def f_M_isShut_a2_ok (r : Nat × Int32) (h : zm_H) : Prop := ((r.1 = 1 → True) ∧ (¬ r.1 = 1 → True))
def f_M_isShut (p1 : Int32) (h : zm_H) : Int32 := (f_M_isShut_a2 (f_M_isShut_l2 p1 h zF 0) h)
def f_M_isShut_ok (p1 : Int32) (h : zm_H) : Prop := (f_M_isShut_l2_ok p1 h zF 0 ∧ f_M_isShut_a2_ok (f_M_isShut_l2 p1 h zF 0) h)
def f_M_isStrength (p0 : Int32) (h : zm_H) : Int32 := (if (¬ (p0 < 10) ∧ (¬ (5000 < p0))) then (1 : Int32) else 0)
def f_M_isStrength_ok (p0 : Int32) (h : zm_H) : Prop := True
def f_M_chainAt (p0 : Int32) (p1 : Int32) (p2 : Int32) (h : zm_H) : Int32 := ((3 * ((10 * p0) + p1)) + p2)
def f_M_chainAt_ok (p0 : Int32) (p1 : Int32) (p2 : Int32) (h : zm_H) : Prop := True
def f_M_newChain (p1 : Int32) (p2 : Int32) (p3 : Int32) (p4 : Int32) (h : zm_H) : zm_H := (zs (zs (zs h 128 ((3 * ((10 * p1) + p2)) + p3) p4) 129 ((3 * ((10 * p1) + p2)) + p3) 0) 130 ((3 * ((10 * p1) + p2)) + p3) (-1))
def f_M_newChain_ok (p1 : Int32) (p2 : Int32) (p3 : Int32) (p4 : Int32) (h : zm_H) : Prop := (vp_in ((3 * ((10 * p1) + p2)) + p3) 60 ∧ (vp_in ((3 * ((10 * p1) + p2)) + p3) 60 ∧ vp_in ((3 * ((10 * p1) + p2)) + p3) 60))
theorem f_M_newChain_w (p1 : Int32) (p2 : Int32) (p3 : Int32) (p4 : Int32) (h : zm_H) : zWr [128, 129, 130] [] h ((f_M_newChain p1 p2 p3 p4 h)) := by
  unfold f_M_newChain
  exact (zWr_si (by decide) (zWr_si (by decide) (zWr_si (by decide) (zWr.refl _ _))))
def f_M_does_l144_k159 (v1 : Int32) (v3 : Int32) (v7 : Int32) (v8 : Int32) (h : zm_H) : Nat × Int32 × zm_H := (0, (v8 + 1), h)
def f_M_does_l144_k159_ok (v1 : Int32) (v3 : Int32) (v7 : Int32) (v8 : Int32) (h : zm_H) : Prop := True
theorem f_M_does_l144_k159_w (v1 : Int32) (v3 : Int32) (v7 : Int32) (v8 : Int32) (h : zm_H) : zWr [] [] h ((f_M_does_l144_k159 v1 v3 v7 v8 h).2.2) := by
  unfold f_M_does_l144_k159
  exact (zWr.refl _ _)
def f_M_does_l144_b (v1 : Int32) (v3 : Int32) (v7 : Int32) (v8 : Int32) (h : zm_H) : Nat × Int32 × zm_H := (if (3 ≤ v8) then (1, v8, h) else (f_M_does_l144_k159 v1 v3 v7 v8 (f_M_newChain v1 v3 v8 0 h)))
def f_M_does_l144_b_ok (v1 : Int32) (v3 : Int32) (v7 : Int32) (v8 : Int32) (h : zm_H) : Prop := (((3 ≤ v8) → True) ∧ (¬ (3 ≤ v8) → f_M_newChain_ok v1 v3 v8 0 h))
theorem f_M_does_l144_b_w (v1 : Int32) (v3 : Int32) (v7 : Int32) (v8 : Int32) (h : zm_H) : zWr [128, 129, 130] [] h ((f_M_does_l144_b v1 v3 v7 v8 h).2.2) := by
  unfold f_M_does_l144_b
  exact (zWr_ite (fun z : Nat × Int32 × zm_H => z.2.2) (zWr.refl _ _) (zWr_tr (f_M_does_l144_k159_w v1 v3 v7 v8 (f_M_newChain v1 v3 v8 0 h)) (by decide) (by decide) (zWr_tr (f_M_newChain_w v1 v3 v8 0 h) (by decide) (by decide) (zWr.refl _ _))))
def f_M_does_l144 (v1 : Int32) (v3 : Int32) (v7 : Int32) (n : Nat) (t : Int32 × zm_H) : Nat × Int32 × zm_H := zwh (fun t => f_M_does_l144_b v1 v3 v7 t.1 t.2) n t
def f_M_does_l144_ok (v1 : Int32) (v3 : Int32) (v7 : Int32) (n : Nat) (t : Int32 × zm_H) : Prop := zwo (fun t => f_M_does_l144_b v1 v3 v7 t.1 t.2) (fun t => f_M_does_l144_b_ok v1 v3 v7 t.1 t.2) n t
theorem f_M_does_l144_w (v1 : Int32) (v3 : Int32) (v7 : Int32) (n : Nat) (t : Int32 × zm_H) : zWr [128, 129, 130] [] (t.2) ((f_M_does_l144 v1 v3 v7 n t).2.2) := by
  unfold f_M_does_l144
  exact zWr_zwh (fun t : Int32 × zm_H => t.2) (fun t => f_M_does_l144_b_w v1 v3 v7 t.1 t.2)
def f_M_isTaken_l2_b (v1 : Int32) (v2 : Int32) (v3 : Int32) (h : zm_H) : Nat × Int32 := (if ((zf h 92 33) ≤ v3) then (2, v3) else (if ((zr h 124 ((10 * v1) + v3)) = v2) then (1, v3) else (0, (v3 + 1))))
def f_M_isTaken_l2_b_ok (v1 : Int32) (v2 : Int32) (v3 : Int32) (h : zm_H) : Prop := ((((zf h 92 33) ≤ v3) → True) ∧ (¬ ((zf h 92 33) ≤ v3) → vp_in ((10 * v1) + v3) 20))
def f_M_isTaken_l2 (v1 : Int32) (v2 : Int32) (h : zm_H) (n : Nat) (t : Int32) : Nat × Int32 := zwh (fun t => f_M_isTaken_l2_b v1 v2 t h) n t
def f_M_isTaken_l2_ok (v1 : Int32) (v2 : Int32) (h : zm_H) (n : Nat) (t : Int32) : Prop := zwo (fun t => f_M_isTaken_l2_b v1 v2 t h) (fun t => f_M_isTaken_l2_b_ok v1 v2 t h) n t
def f_M_isTaken_k25 (h : zm_H) : Int32 := 1
def f_M_isTaken_k25_ok (h : zm_H) : Prop := True
def f_M_isTaken_k33 (h : zm_H) : Int32 := 0
def f_M_isTaken_k33_ok (h : zm_H) : Prop := True
def f_M_isTaken_a2 (r : Nat × Int32) (h : zm_H) : Int32 := (if r.1 = 1 then (f_M_isTaken_k25 h) else (f_M_isTaken_k33 h))
def f_M_isTaken_a2_ok (r : Nat × Int32) (h : zm_H) : Prop := ((r.1 = 1 → True) ∧ (¬ r.1 = 1 → True))
def f_M_isTaken (p1 : Int32) (p2 : Int32) (h : zm_H) : Int32 := (f_M_isTaken_a2 (f_M_isTaken_l2 p1 p2 h zF 0) h)
def f_M_isTaken_ok (p1 : Int32) (p2 : Int32) (h : zm_H) : Prop := (f_M_isTaken_l2_ok p1 p2 h zF 0 ∧ f_M_isTaken_a2_ok (f_M_isTaken_l2 p1 p2 h zF 0) h)
def f_M_does_l83_k99 (v1 : Int32) (v3 : Int32) (v5 : Int32) (v7 : Int32) (v8 : Int32) (h : zm_H) : Nat × Int32 × zm_H := (0, (v8 + 1), h)
def f_M_does_l83_k99_ok (v1 : Int32) (v3 : Int32) (v5 : Int32) (v7 : Int32) (v8 : Int32) (h : zm_H) : Prop := True
theorem f_M_does_l83_k99_w (v1 : Int32) (v3 : Int32) (v5 : Int32) (v7 : Int32) (v8 : Int32) (h : zm_H) : zWr [] [] h ((f_M_does_l83_k99 v1 v3 v5 v7 v8 h).2.2) := by
  unfold f_M_does_l83_k99
  exact (zWr.refl _ _)
def f_M_does_l83_b (v1 : Int32) (v3 : Int32) (v5 : Int32) (v7 : Int32) (v8 : Int32) (h : zm_H) : Nat × Int32 × zm_H := (if (3 ≤ v8) then (1, v8, h) else (f_M_does_l83_k99 v1 v3 v5 v7 v8 (f_M_newChain v1 v3 v8 v5 h)))
def f_M_does_l83_b_ok (v1 : Int32) (v3 : Int32) (v5 : Int32) (v7 : Int32) (v8 : Int32) (h : zm_H) : Prop := (((3 ≤ v8) → True) ∧ (¬ (3 ≤ v8) → f_M_newChain_ok v1 v3 v8 v5 h))
theorem f_M_does_l83_b_w (v1 : Int32) (v3 : Int32) (v5 : Int32) (v7 : Int32) (v8 : Int32) (h : zm_H) : zWr [128, 129, 130] [] h ((f_M_does_l83_b v1 v3 v5 v7 v8 h).2.2) := by
  unfold f_M_does_l83_b
  exact (zWr_ite (fun z : Nat × Int32 × zm_H => z.2.2) (zWr.refl _ _) (zWr_tr (f_M_does_l83_k99_w v1 v3 v5 v7 v8 (f_M_newChain v1 v3 v8 v5 h)) (by decide) (by decide) (zWr_tr (f_M_newChain_w v1 v3 v8 v5 h) (by decide) (by decide) (zWr.refl _ _))))
def f_M_does_l83 (v1 : Int32) (v3 : Int32) (v5 : Int32) (v7 : Int32) (n : Nat) (t : Int32 × zm_H) : Nat × Int32 × zm_H := zwh (fun t => f_M_does_l83_b v1 v3 v5 v7 t.1 t.2) n t
def f_M_does_l83_ok (v1 : Int32) (v3 : Int32) (v5 : Int32) (v7 : Int32) (n : Nat) (t : Int32 × zm_H) : Prop := zwo (fun t => f_M_does_l83_b v1 v3 v5 v7 t.1 t.2) (fun t => f_M_does_l83_b_ok v1 v3 v5 v7 t.1 t.2) n t
theorem f_M_does_l83_w (v1 : Int32) (v3 : Int32) (v5 : Int32) (v7 : Int32) (n : Nat) (t : Int32 × zm_H) : zWr [128, 129, 130] [] (t.2) ((f_M_does_l83 v1 v3 v5 v7 n t).2.2) := by
  unfold f_M_does_l83
  exact zWr_zwh (fun t : Int32 × zm_H => t.2) (fun t => f_M_does_l83_b_w v1 v3 v5 v7 t.1 t.2)
def f_M_does_k165 (h : zm_H) : Int32 × zm_H := (1, h)
def f_M_does_k165_ok (h : zm_H) : Prop := True
theorem f_M_does_k165_w (h : zm_H) : zWr [] [] h ((f_M_does_k165 h).2) := by
  unfold f_M_does_k165
  exact (zWr.refl _ _)
def f_M_does_a144 (r : Nat × Int32 × zm_H) : Int32 × zm_H := (f_M_does_k165 (r.2.2))
def f_M_does_a144_ok (r : Nat × Int32 × zm_H) : Prop := True
theorem f_M_does_a144_w (r : Nat × Int32 × zm_H) : zWr [] [] (r.2.2) ((f_M_does_a144 r).2) := by
  unfold f_M_does_a144
  exact (zWr_tr (f_M_does_k165_w (r.2.2)) (by decide) (by decide) (zWr.refl _ _))
def f_M_does_k105 (h : zm_H) : Int32 × zm_H := (1, h)
def f_M_does_k105_ok (h : zm_H) : Prop := True
theorem f_M_does_k105_w (h : zm_H) : zWr [] [] h ((f_M_does_k105 h).2) := by
  unfold f_M_does_k105
  exact (zWr.refl _ _)
def f_M_does_a83 (r : Nat × Int32 × zm_H) : Int32 × zm_H := (f_M_does_k105 (r.2.2))
def f_M_does_a83_ok (r : Nat × Int32 × zm_H) : Prop := True
theorem f_M_does_a83_w (r : Nat × Int32 × zm_H) : zWr [] [] (r.2.2) ((f_M_does_a83 r).2) := by
  unfold f_M_does_a83
  exact (zWr_tr (f_M_does_k105_w (r.2.2)) (by decide) (by decide) (zWr.refl _ _))
def f_M_does (p1 : Int32) (p2 : Int32) (p3 : Int32) (p4 : Int32) (p5 : Int32) (h : zm_H) : Int32 × zm_H := (if (p2 = 0) then (if ((zr h 123 ((10 * p1) + p3)) = 0) then (if ((f_M_isTaken p1 p4 h) = 0) then (f_M_does_a83 (f_M_does_l83 p1 p3 p5 (if (((zr h 123 ((10 * p1) + p3)) = 1) ∨ ((zr h 123 ((10 * p1) + p3)) = 2)) then (1 : Int32) else 0) zF (0, (zs (zs h 123 ((10 * p1) + p3) 1) 124 ((10 * p1) + p3) p4)))) else (0, h)) else (0, h)) else (if (p2 = 3) then (if ((zr h 123 ((10 * p1) + p3)) = 0) then (0, h) else (f_M_does_a144 (f_M_does_l144 p1 p3 (if (((zr h 123 ((10 * p1) + p3)) = 1) ∨ ((zr h 123 ((10 * p1) + p3)) = 2)) then (1 : Int32) else 0) zF (0, (zs (zs h 123 ((10 * p1) + p3) 0) 124 ((10 * p1) + p3) (-1)))))) else (if (((zr h 123 ((10 * p1) + p3)) = 1) ∨ ((zr h 123 ((10 * p1) + p3)) = 2)) then (if (p2 = 1) then (1, (f_M_newChain p1 p3 p4 p5 h)) else (1, (zs h 125 ((10 * p1) + p3) 0))) else (0, h))))
def f_M_does_ok (p1 : Int32) (p2 : Int32) (p3 : Int32) (p4 : Int32) (p5 : Int32) (h : zm_H) : Prop := (vp_in ((10 * p1) + p3) 20 ∧ (((((zr h 123 ((10 * p1) + p3)) = 1) → True) ∧ (¬ ((zr h 123 ((10 * p1) + p3)) = 1) → vp_in ((10 * p1) + p3) 20)) ∧ (((p2 = 0) → (vp_in ((10 * p1) + p3) 20 ∧ ((((zr h 123 ((10 * p1) + p3)) = 0) → (f_M_isTaken_ok p1 p4 h ∧ ((((f_M_isTaken p1 p4 h) = 0) → (vp_in ((10 * p1) + p3) 20 ∧ (vp_in ((10 * p1) + p3) 20 ∧ (f_M_does_l83_ok p1 p3 p5 (if (((zr h 123 ((10 * p1) + p3)) = 1) ∨ ((zr h 123 ((10 * p1) + p3)) = 2)) then (1 : Int32) else 0) zF (0, (zs (zs h 123 ((10 * p1) + p3) 1) 124 ((10 * p1) + p3) p4)) ∧ f_M_does_a83_ok (f_M_does_l83 p1 p3 p5 (if (((zr h 123 ((10 * p1) + p3)) = 1) ∨ ((zr h 123 ((10 * p1) + p3)) = 2)) then (1 : Int32) else 0) zF (0, (zs (zs h 123 ((10 * p1) + p3) 1) 124 ((10 * p1) + p3) p4))))))) ∧ (¬ ((f_M_isTaken p1 p4 h) = 0) → True)))) ∧ (¬ ((zr h 123 ((10 * p1) + p3)) = 0) → True)))) ∧ (¬ (p2 = 0) → (((p2 = 3) → (vp_in ((10 * p1) + p3) 20 ∧ ((((zr h 123 ((10 * p1) + p3)) = 0) → True) ∧ (¬ ((zr h 123 ((10 * p1) + p3)) = 0) → (vp_in ((10 * p1) + p3) 20 ∧ (vp_in ((10 * p1) + p3) 20 ∧ (f_M_does_l144_ok p1 p3 (if (((zr h 123 ((10 * p1) + p3)) = 1) ∨ ((zr h 123 ((10 * p1) + p3)) = 2)) then (1 : Int32) else 0) zF (0, (zs (zs h 123 ((10 * p1) + p3) 0) 124 ((10 * p1) + p3) (-1))) ∧ f_M_does_a144_ok (f_M_does_l144 p1 p3 (if (((zr h 123 ((10 * p1) + p3)) = 1) ∨ ((zr h 123 ((10 * p1) + p3)) = 2)) then (1 : Int32) else 0) zF (0, (zs (zs h 123 ((10 * p1) + p3) 0) 124 ((10 * p1) + p3) (-1))))))))))) ∧ (¬ (p2 = 3) → (((((zr h 123 ((10 * p1) + p3)) = 1) ∨ ((zr h 123 ((10 * p1) + p3)) = 2)) → (((p2 = 1) → f_M_newChain_ok p1 p3 p4 p5 h) ∧ (¬ (p2 = 1) → vp_in ((10 * p1) + p3) 20))) ∧ (¬ (((zr h 123 ((10 * p1) + p3)) = 1) ∨ ((zr h 123 ((10 * p1) + p3)) = 2)) → True))))))))
theorem f_M_does_w (p1 : Int32) (p2 : Int32) (p3 : Int32) (p4 : Int32) (p5 : Int32) (h : zm_H) : zWr [123, 124, 125, 128, 129, 130] [] h ((f_M_does p1 p2 p3 p4 p5 h).2) := by
  unfold f_M_does
  exact (zWr_ite (fun z : Int32 × zm_H => z.2) (zWr_ite (fun z : Int32 × zm_H => z.2) (zWr_ite (fun z : Int32 × zm_H => z.2) (zWr_tr (f_M_does_a83_w (f_M_does_l83 p1 p3 p5 (if (((zr h 123 ((10 * p1) + p3)) = 1) ∨ ((zr h 123 ((10 * p1) + p3)) = 2)) then (1 : Int32) else 0) zF (0, (zs (zs h 123 ((10 * p1) + p3) 1) 124 ((10 * p1) + p3) p4)))) (by decide) (by decide) (zWr_tr (f_M_does_l83_w p1 p3 p5 (if (((zr h 123 ((10 * p1) + p3)) = 1) ∨ ((zr h 123 ((10 * p1) + p3)) = 2)) then (1 : Int32) else 0) zF (0, (zs (zs h 123 ((10 * p1) + p3) 1) 124 ((10 * p1) + p3) p4))) (by decide) (by decide) (zWr_si (by decide) (zWr_si (by decide) (zWr.refl _ _))))) (zWr.refl _ _)) (zWr.refl _ _)) (zWr_ite (fun z : Int32 × zm_H => z.2) (zWr_ite (fun z : Int32 × zm_H => z.2) (zWr.refl _ _) (zWr_tr (f_M_does_a144_w (f_M_does_l144 p1 p3 (if (((zr h 123 ((10 * p1) + p3)) = 1) ∨ ((zr h 123 ((10 * p1) + p3)) = 2)) then (1 : Int32) else 0) zF (0, (zs (zs h 123 ((10 * p1) + p3) 0) 124 ((10 * p1) + p3) (-1))))) (by decide) (by decide) (zWr_tr (f_M_does_l144_w p1 p3 (if (((zr h 123 ((10 * p1) + p3)) = 1) ∨ ((zr h 123 ((10 * p1) + p3)) = 2)) then (1 : Int32) else 0) zF (0, (zs (zs h 123 ((10 * p1) + p3) 0) 124 ((10 * p1) + p3) (-1)))) (by decide) (by decide) (zWr_si (by decide) (zWr_si (by decide) (zWr.refl _ _)))))) (zWr_ite (fun z : Int32 × zm_H => z.2) (zWr_ite (fun z : Int32 × zm_H => z.2) (zWr_tr (f_M_newChain_w p1 p3 p4 p5 h) (by decide) (by decide) (zWr.refl _ _)) (zWr_si (by decide) (zWr.refl _ _))) (zWr.refl _ _))))
def f_M_keeps (p1 : Int32) (p2 : Int32) (p3 : Int32) (p4 : Int32) (p5 : Int32) (h : zm_H) : zm_H := (zp (zs (zs (zs (zs (zs h 118 (zf h 92 41) p1) 119 (zf h 92 41) p2) 120 (zf h 92 41) p3) 121 (zf h 92 41) p4) 122 (zf h 92 41) p5) 92 41 ((zf h 92 41) + 1))
def f_M_keeps_ok (p1 : Int32) (p2 : Int32) (p3 : Int32) (p4 : Int32) (p5 : Int32) (h : zm_H) : Prop := (vp_in (zf h 92 41) 200 ∧ (vp_in (zf h 92 41) 200 ∧ (vp_in (zf h 92 41) 200 ∧ (vp_in (zf h 92 41) 200 ∧ vp_in (zf h 92 41) 200))))
theorem f_M_keeps_w (p1 : Int32) (p2 : Int32) (p3 : Int32) (p4 : Int32) (p5 : Int32) (h : zm_H) : zWr [118, 119, 120, 121, 122] [(92, 41)] h ((f_M_keeps p1 p2 p3 p4 p5 h)) := by
  unfold f_M_keeps
  exact (zWr_p (by decide) (zWr_si (by decide) (zWr_si (by decide) (zWr_si (by decide) (zWr_si (by decide) (zWr_si (by decide) (zWr.refl _ _)))))))
def f_M_lay_k59 (v1 : Int32) (v2 : Int32) (v3 : Int32) (w0 : Int32) (h : zm_H) : Int32 × zm_H := (if (w0 = 0) then ((-1), h) else ((zf (f_M_keeps (zf h 92 23) 0 v1 v2 v3 h) 92 41), (f_M_keeps (zf h 92 23) 0 v1 v2 v3 h)))
def f_M_lay_k59_ok (v1 : Int32) (v2 : Int32) (v3 : Int32) (w0 : Int32) (h : zm_H) : Prop := (((w0 = 0) → True) ∧ (¬ (w0 = 0) → f_M_keeps_ok (zf h 92 23) 0 v1 v2 v3 h))
theorem f_M_lay_k59_w (v1 : Int32) (v2 : Int32) (v3 : Int32) (w0 : Int32) (h : zm_H) : zWr [118, 119, 120, 121, 122] [(92, 41)] h ((f_M_lay_k59 v1 v2 v3 w0 h).2) := by
  unfold f_M_lay_k59
  exact (zWr_ite (fun z : Int32 × zm_H => z.2) (zWr.refl _ _) (zWr_tr (f_M_keeps_w (zf h 92 23) 0 v1 v2 v3 h) (by decide) (by decide) (zWr.refl _ _)))
def f_M_lay (p1 : Int32) (p2 : Int32) (p3 : Int32) (h : zm_H) : Int32 × zm_H := (if (¬ (p1 < 0) ∧ (¬ (((zf h 92 33) - 1) < p1))) then (if (¬ (p2 < 0) ∧ (¬ (10 ≤ (p2 / 10)) ∧ (¬ (5 ≤ (zm_rm p2 10))))) then (if ((f_M_isShut p2 h) = 0) then (if (¬ (p3 < 10) ∧ (¬ (5000 < p3))) then (if ((zf h 92 41) = 200) then ((-1), h) else (if ((zf h 92 23) = 480) then ((-1), h) else (f_M_lay_k59 p1 p2 p3 (f_M_does 0 0 p1 p2 p3 h).1 (f_M_does 0 0 p1 p2 p3 h).2))) else ((-1), h)) else ((-1), h)) else ((-1), h)) else ((-1), h))
def f_M_lay_ok (p1 : Int32) (p2 : Int32) (p3 : Int32) (h : zm_H) : Prop := (((¬ (p1 < 0) ∧ (¬ (((zf h 92 33) - 1) < p1))) → (((¬ (p2 < 0) ∧ (¬ (10 ≤ (p2 / 10)) ∧ (¬ (5 ≤ (zm_rm p2 10))))) → (f_M_isShut_ok p2 h ∧ ((((f_M_isShut p2 h) = 0) → (((¬ (p3 < 10) ∧ (¬ (5000 < p3))) → ((((zf h 92 41) = 200) → True) ∧ (¬ ((zf h 92 41) = 200) → ((((zf h 92 23) = 480) → True) ∧ (¬ ((zf h 92 23) = 480) → (f_M_does_ok 0 0 p1 p2 p3 h ∧ (f_M_lay_k59_ok p1 p2 p3 (f_M_does 0 0 p1 p2 p3 h).1 (f_M_does 0 0 p1 p2 p3 h).2))))))) ∧ (¬ (¬ (p3 < 10) ∧ (¬ (5000 < p3))) → True))) ∧ (¬ ((f_M_isShut p2 h) = 0) → True)))) ∧ (¬ (¬ (p2 < 0) ∧ (¬ (10 ≤ (p2 / 10)) ∧ (¬ (5 ≤ (zm_rm p2 10))))) → True))) ∧ (¬ (¬ (p1 < 0) ∧ (¬ (((zf h 92 33) - 1) < p1))) → True))
theorem f_M_lay_w (p1 : Int32) (p2 : Int32) (p3 : Int32) (h : zm_H) : zWr [118, 119, 120, 121, 122, 123, 124, 125, 128, 129, 130] [(92, 41)] h ((f_M_lay p1 p2 p3 h).2) := by
  unfold f_M_lay
  exact (zWr_ite (fun z : Int32 × zm_H => z.2) (zWr_ite (fun z : Int32 × zm_H => z.2) (zWr_ite (fun z : Int32 × zm_H => z.2) (zWr_ite (fun z : Int32 × zm_H => z.2) (zWr_ite (fun z : Int32 × zm_H => z.2) (zWr.refl _ _) (zWr_ite (fun z : Int32 × zm_H => z.2) (zWr.refl _ _) (zWr_tr (f_M_lay_k59_w p1 p2 p3 (f_M_does 0 0 p1 p2 p3 h).1 (f_M_does 0 0 p1 p2 p3 h).2) (by decide) (by decide) (zWr_tr (f_M_does_w 0 0 p1 p2 p3 h) (by decide) (by decide) (zWr.refl _ _))))) (zWr.refl _ _)) (zWr.refl _ _)) (zWr.refl _ _)) (zWr.refl _ _))
def f_N_base (p1 : Int32) (h : zm_H) : Int32 × zm_H := (if (p1 < 0) then (0, h) else (if (p1 ≤ 288000) then (1, (zp h 0 1 p1)) else (0, h)))
def f_N_base_ok (p1 : Int32) (h : zm_H) : Prop := True
theorem f_N_base_w (p1 : Int32) (h : zm_H) : zWr [] [(0, 1)] h ((f_N_base p1 h).2) := by
  unfold f_N_base
  exact (zWr_ite (fun z : Int32 × zm_H => z.2) (zWr.refl _ _) (zWr_ite (fun z : Int32 × zm_H => z.2) (zWr_p (by decide) (zWr.refl _ _)) (zWr.refl _ _)))
def f_M_base (p1 : Int32) (h : zm_H) : Int32 × zm_H := (if (¬ (p1 < 0) ∧ (¬ (288000 < p1))) then (1, (zp h 92 47 p1)) else (0, h))
def f_M_base_ok (p1 : Int32) (h : zm_H) : Prop := True
theorem f_M_base_w (p1 : Int32) (h : zm_H) : zWr [] [(92, 47)] h ((f_M_base p1 h).2) := by
  unfold f_M_base
  exact (zWr_ite (fun z : Int32 × zm_H => z.2) (zWr_p (by decide) (zWr.refl _ _)) (zWr.refl _ _))
def f_N_rated (p1 : Int32) (h : zm_H) : Int32 × zm_H := (if (p1 < 0) then (0, h) else (if (p1 ≤ 120) then (1, (zp h 0 2 p1)) else (0, h)))
def f_N_rated_ok (p1 : Int32) (h : zm_H) : Prop := True
theorem f_N_rated_w (p1 : Int32) (h : zm_H) : zWr [] [(0, 2)] h ((f_N_rated p1 h).2) := by
  unfold f_N_rated
  exact (zWr_ite (fun z : Int32 × zm_H => z.2) (zWr.refl _ _) (zWr_ite (fun z : Int32 × zm_H => z.2) (zWr_p (by decide) (zWr.refl _ _)) (zWr.refl _ _)))
def f_M_rated (p1 : Int32) (h : zm_H) : Int32 × zm_H := (if (¬ (p1 < 0) ∧ (¬ (120 < p1))) then (1, (zp h 92 48 p1)) else (0, h))
def f_M_rated_ok (p1 : Int32) (h : zm_H) : Prop := True
theorem f_M_rated_w (p1 : Int32) (h : zm_H) : zWr [] [(92, 48)] h ((f_M_rated p1 h).2) := by
  unfold f_M_rated
  exact (zWr_ite (fun z : Int32 × zm_H => z.2) (zWr_p (by decide) (zWr.refl _ _)) (zWr.refl _ _))
def f_Swell_lookNow (p1 : Int32) (h : zm_H) : Int32 := (f_Swell_look p1 (zf h 1 0) (zf h 1 1) h)
def f_Swell_lookNow_ok (p1 : Int32) (h : zm_H) : Prop := f_Swell_look_ok p1 (zf h 1 0) (zf h 1 1) h
def f_Rules_nameSea (p1 : Int32) (p2 : Int32) (h : zm_H) : zm_H := (zs (zs (zs (zs (zs h 21 0 (p2 / 1000)) 21 1 ((zm_rm p2 1000) / 10)) 21 2 (((zm_rm p2 10) - 1) + 1)) 21 6 (p1 / 8)) 21 7 (zm_rm p1 8))
def f_Rules_nameSea_ok (p1 : Int32) (p2 : Int32) (h : zm_H) : Prop := True
theorem f_Rules_nameSea_w (p1 : Int32) (p2 : Int32) (h : zm_H) : zWr [21] [] h ((f_Rules_nameSea p1 p2 h)) := by
  unfold f_Rules_nameSea
  exact (zWr_si (by decide) (zWr_si (by decide) (zWr_si (by decide) (zWr_si (by decide) (zWr_si (by decide) (zWr.refl _ _))))))
def f_Rules_nameRaft (p1 : Int32) (p2 : Int32) (p3 : Int32) (p4 : Int32) (h : zm_H) : zm_H := (zs (zs (zs (zs h 21 3 p1) 21 4 p2) 21 5 p3) 21 8 p4)
def f_Rules_nameRaft_ok (p1 : Int32) (p2 : Int32) (p3 : Int32) (p4 : Int32) (h : zm_H) : Prop := True
theorem f_Rules_nameRaft_w (p1 : Int32) (p2 : Int32) (p3 : Int32) (p4 : Int32) (h : zm_H) : zWr [21] [] h ((f_Rules_nameRaft p1 p2 p3 p4 h)) := by
  unfold f_Rules_nameRaft
  exact (zWr_si (by decide) (zWr_si (by decide) (zWr_si (by decide) (zWr_si (by decide) (zWr.refl _ _)))))
def f_Rules_join (p0 : Int32) (p1 : Int32) (p2 : Int32) (h : zm_H) : Int32 := (if p0 = 42 then (if (if (1000000 : Int32).toInt64 < (p1.toInt64 * p2.toInt64) then (1000000 : Int32).toInt64 else (p1.toInt64 * p2.toInt64)) < ((-1000000) : Int32).toInt64 then ((-1000000) : Int32).toInt64 else (if (1000000 : Int32).toInt64 < (p1.toInt64 * p2.toInt64) then (1000000 : Int32).toInt64 else (p1.toInt64 * p2.toInt64))).toInt32 else (if p0 = 43 then (if (-1000000) < (if 1000000 < (p1 + p2) then 1000000 else (p1 + p2)) then (if 1000000 < (p1 + p2) then 1000000 else (p1 + p2)) else (-1000000)) else (if p0 = 45 then (if (-1000000) < (if 1000000 < (p1 - p2) then 1000000 else (p1 - p2)) then (if 1000000 < (p1 - p2) then 1000000 else (p1 - p2)) else (-1000000)) else (if p0 = 47 then (if (p2 = 0) then (0 : Int32) else (p1 / p2)) else (if p0 = 60 then (if (¬ (p2 ≤ p1)) then (1 : Int32) else 0) else (if p0 = 61 then (if (p1 = p2) then (1 : Int32) else 0) else (if p0 = 62 then (if (¬ (p1 ≤ p2)) then (1 : Int32) else 0) else (if p0 = 313 then (p1 ||| p2) else (if p0 = 314 then (p1 &&& p2) else 0)))))))))
def f_Rules_join_ok (p0 : Int32) (p1 : Int32) (p2 : Int32) (h : zm_H) : Prop := ((p0 = 42 → True) ∧ (¬ p0 = 42 → ((p0 = 43 → True) ∧ (¬ p0 = 43 → ((p0 = 45 → True) ∧ (¬ p0 = 45 → ((p0 = 47 → (((p2 = 0) → True) ∧ (¬ (p2 = 0) → ¬ p2 = 0))) ∧ (¬ p0 = 47 → ((p0 = 60 → True) ∧ (¬ p0 = 60 → ((p0 = 61 → True) ∧ (¬ p0 = 61 → ((p0 = 62 → True) ∧ (¬ p0 = 62 → ((p0 = 313 → True) ∧ (¬ p0 = 313 → ((p0 = 314 → True) ∧ (¬ p0 = 314 → True))))))))))))))))))
def f_Rules_work_l68_k134 (v3 : Nat) (v4 : Int32) (v5 : Int32) (v6 : Int32) (h : zm_H) : Nat × Int32 × zm_H := (0, (v5 + 1), (if (v6 = 315) then (if ((zf h 15 9) < 1) then (if ((zf h 15 9) < 2) then h else (zs (zp h 15 9 ((zf h 15 9) - 1)) 22 (((zf h 15 9) - 1) - 1) (f_Rules_join v6 (zr h 22 (((zf h 15 9) - 1) - 1)) (zr h 22 ((zf h 15 9) - 1)) (zp h 15 9 ((zf h 15 9) - 1))))) else (zs h 22 ((zf h 15 9) - 1) (1 - (zr h 22 ((zf h 15 9) - 1))))) else (if ((zf h 15 9) < 2) then h else (zs (zp h 15 9 ((zf h 15 9) - 1)) 22 (((zf h 15 9) - 1) - 1) (f_Rules_join v6 (zr h 22 (((zf h 15 9) - 1) - 1)) (zr h 22 ((zf h 15 9) - 1)) (zp h 15 9 ((zf h 15 9) - 1)))))))
def f_Rules_work_l68_k134_ok (v3 : Nat) (v4 : Int32) (v5 : Int32) (v6 : Int32) (h : zm_H) : Prop := (((v6 = 315) → ((((zf h 15 9) < 1) → ((((zf h 15 9) < 2) → True) ∧ (¬ ((zf h 15 9) < 2) → (vp_in (((zf h 15 9) - 1) - 1) 64 ∧ (vp_in ((zf h 15 9) - 1) 64 ∧ (f_Rules_join_ok v6 (zr h 22 (((zf h 15 9) - 1) - 1)) (zr h 22 ((zf h 15 9) - 1)) (zp h 15 9 ((zf h 15 9) - 1)) ∧ vp_in (((zf h 15 9) - 1) - 1) 64)))))) ∧ (¬ ((zf h 15 9) < 1) → (vp_in ((zf h 15 9) - 1) 64 ∧ vp_in ((zf h 15 9) - 1) 64)))) ∧ (¬ (v6 = 315) → ((((zf h 15 9) < 2) → True) ∧ (¬ ((zf h 15 9) < 2) → (vp_in (((zf h 15 9) - 1) - 1) 64 ∧ (vp_in ((zf h 15 9) - 1) 64 ∧ (f_Rules_join_ok v6 (zr h 22 (((zf h 15 9) - 1) - 1)) (zr h 22 ((zf h 15 9) - 1)) (zp h 15 9 ((zf h 15 9) - 1)) ∧ vp_in (((zf h 15 9) - 1) - 1) 64)))))))
theorem f_Rules_work_l68_k134_w (v3 : Nat) (v4 : Int32) (v5 : Int32) (v6 : Int32) (h : zm_H) : zWr [22] [(15, 9)] h ((f_Rules_work_l68_k134 v3 v4 v5 v6 h).2.2) := by
  unfold f_Rules_work_l68_k134
  exact (zWr_ite (fun z : zm_H => z) (zWr_ite (fun z : zm_H => z) (zWr_ite (fun z : zm_H => z) (zWr.refl _ _) (zWr_si (by decide) (zWr_p (by decide) (zWr.refl _ _)))) (zWr_si (by decide) (zWr.refl _ _))) (zWr_ite (fun z : zm_H => z) (zWr.refl _ _) (zWr_si (by decide) (zWr_p (by decide) (zWr.refl _ _)))))
def f_Rules_push (p1 : Int32) (h : zm_H) : zm_H := (if (64 ≤ (zf h 15 9)) then h else (zp (zs h 22 (zf h 15 9) p1) 15 9 ((zf h 15 9) + 1)))
def f_Rules_push_ok (p1 : Int32) (h : zm_H) : Prop := (((64 ≤ (zf h 15 9)) → True) ∧ (¬ (64 ≤ (zf h 15 9)) → vp_in (zf h 15 9) 64))
theorem f_Rules_push_w (p1 : Int32) (h : zm_H) : zWr [22] [(15, 9)] h ((f_Rules_push p1 h)) := by
  unfold f_Rules_push
  exact (zWr_ite (fun z : zm_H => z) (zWr.refl _ _) (zWr_p (by decide) (zWr_si (by decide) (zWr.refl _ _))))
def f_Rules_work_l68_k231 (v3 : Nat) (v4 : Int32) (v5 : Int32) (h : zm_H) : Nat × Int32 × zm_H := (0, (v5 + 1), h)
def f_Rules_work_l68_k231_ok (v3 : Nat) (v4 : Int32) (v5 : Int32) (h : zm_H) : Prop := True
theorem f_Rules_work_l68_k231_w (v3 : Nat) (v4 : Int32) (v5 : Int32) (h : zm_H) : zWr [] [] h ((f_Rules_work_l68_k231 v3 v4 v5 h).2.2) := by
  unfold f_Rules_work_l68_k231
  exact (zWr.refl _ _)
def f_Rules_work_l68_k131 (v3 : Nat) (v4 : Int32) (v5 : Int32) (h : zm_H) : Nat × Int32 × zm_H := (f_Rules_work_l68_k231 v3 v4 v5 h)
def f_Rules_work_l68_k131_ok (v3 : Nat) (v4 : Int32) (v5 : Int32) (h : zm_H) : Prop := True
theorem f_Rules_work_l68_k131_w (v3 : Nat) (v4 : Int32) (v5 : Int32) (h : zm_H) : zWr [] [] h ((f_Rules_work_l68_k131 v3 v4 v5 h).2.2) := by
  unfold f_Rules_work_l68_k131
  exact (zWr_tr (f_Rules_work_l68_k231_w v3 v4 v5 h) (by decide) (by decide) (zWr.refl _ _))
def f_Rules_work_l68_k97 (v3 : Nat) (v4 : Int32) (v5 : Int32) (h : zm_H) : Nat × Int32 × zm_H := (f_Rules_work_l68_k231 v3 v4 v5 h)
def f_Rules_work_l68_k97_ok (v3 : Nat) (v4 : Int32) (v5 : Int32) (h : zm_H) : Prop := True
theorem f_Rules_work_l68_k97_w (v3 : Nat) (v4 : Int32) (v5 : Int32) (h : zm_H) : zWr [] [] h ((f_Rules_work_l68_k97 v3 v4 v5 h).2.2) := by
  unfold f_Rules_work_l68_k97
  exact (zWr_tr (f_Rules_work_l68_k231_w v3 v4 v5 h) (by decide) (by decide) (zWr.refl _ _))
def f_Rules_work_l68_b (v3 : Nat) (v4 : Int32) (v5 : Int32) (h : zm_H) : Nat × Int32 × zm_H := (if (v4 ≤ v5) then (1, v5, h) else (if (0 ≤ ((zr h v3 v5) - 100000)) then (if (((zr h v3 v5) - 100000) < 304) then (f_Rules_work_l68_k134 v3 v4 v5 ((zr h v3 v5) - 100000) h) else (if (312 < ((zr h v3 v5) - 100000)) then (f_Rules_work_l68_k134 v3 v4 v5 ((zr h v3 v5) - 100000) h) else (f_Rules_work_l68_k131 v3 v4 v5 (f_Rules_push (zr h 21 (((zr h v3 v5) - 100000) - 304)) h)))) else (f_Rules_work_l68_k97 v3 v4 v5 (f_Rules_push (zr h v3 v5) h))))
def f_Rules_work_l68_b_ok (v3 : Nat) (v4 : Int32) (v5 : Int32) (h : zm_H) : Prop := (((v4 ≤ v5) → True) ∧ (¬ (v4 ≤ v5) → ((zia h v3 ∧ vp_in v5 (zln h v3)) ∧ (((0 ≤ ((zr h v3 v5) - 100000)) → (((((zr h v3 v5) - 100000) < 304) → (f_Rules_work_l68_k134_ok v3 v4 v5 ((zr h v3 v5) - 100000) h)) ∧ (¬ (((zr h v3 v5) - 100000) < 304) → (((312 < ((zr h v3 v5) - 100000)) → (f_Rules_work_l68_k134_ok v3 v4 v5 ((zr h v3 v5) - 100000) h)) ∧ (¬ (312 < ((zr h v3 v5) - 100000)) → (vp_in (((zr h v3 v5) - 100000) - 304) 9 ∧ f_Rules_push_ok (zr h 21 (((zr h v3 v5) - 100000) - 304)) h)))))) ∧ (¬ (0 ≤ ((zr h v3 v5) - 100000)) → ((zia h v3 ∧ vp_in v5 (zln h v3)) ∧ f_Rules_push_ok (zr h v3 v5) h))))))
theorem f_Rules_work_l68_b_w (v3 : Nat) (v4 : Int32) (v5 : Int32) (h : zm_H) : zWr [22] [(15, 9)] h ((f_Rules_work_l68_b v3 v4 v5 h).2.2) := by
  unfold f_Rules_work_l68_b
  exact (zWr_ite (fun z : Nat × Int32 × zm_H => z.2.2) (zWr.refl _ _) (zWr_ite (fun z : Nat × Int32 × zm_H => z.2.2) (zWr_ite (fun z : Nat × Int32 × zm_H => z.2.2) (zWr_tr (f_Rules_work_l68_k134_w v3 v4 v5 ((zr h v3 v5) - 100000) h) (by decide) (by decide) (zWr.refl _ _)) (zWr_ite (fun z : Nat × Int32 × zm_H => z.2.2) (zWr_tr (f_Rules_work_l68_k134_w v3 v4 v5 ((zr h v3 v5) - 100000) h) (by decide) (by decide) (zWr.refl _ _)) (zWr_tr (f_Rules_work_l68_k131_w v3 v4 v5 (f_Rules_push (zr h 21 (((zr h v3 v5) - 100000) - 304)) h)) (by decide) (by decide) (zWr_tr (f_Rules_push_w (zr h 21 (((zr h v3 v5) - 100000) - 304)) h) (by decide) (by decide) (zWr.refl _ _))))) (zWr_tr (f_Rules_work_l68_k97_w v3 v4 v5 (f_Rules_push (zr h v3 v5) h)) (by decide) (by decide) (zWr_tr (f_Rules_push_w (zr h v3 v5) h) (by decide) (by decide) (zWr.refl _ _)))))
def f_Rules_work_l68 (v3 : Nat) (v4 : Int32) (n : Nat) (t : Int32 × zm_H) : Nat × Int32 × zm_H := zwh (fun t => f_Rules_work_l68_b v3 v4 t.1 t.2) n t
def f_Rules_work_l68_ok (v3 : Nat) (v4 : Int32) (n : Nat) (t : Int32 × zm_H) : Prop := zwo (fun t => f_Rules_work_l68_b v3 v4 t.1 t.2) (fun t => f_Rules_work_l68_b_ok v3 v4 t.1 t.2) n t
theorem f_Rules_work_l68_w (v3 : Nat) (v4 : Int32) (n : Nat) (t : Int32 × zm_H) : zWr [22] [(15, 9)] (t.2) ((f_Rules_work_l68 v3 v4 n t).2.2) := by
  unfold f_Rules_work_l68
  exact zWr_zwh (fun t : Int32 × zm_H => t.2) (fun t => f_Rules_work_l68_b_w v3 v4 t.1 t.2)
def f_Rules_work_k237 (h : zm_H) : Int32 × zm_H := ((if ((zf h 15 9) ≤ 0) then (0 : Int32) else (zr h 22 ((zf h 15 9) - 1))), h)
def f_Rules_work_k237_ok (h : zm_H) : Prop := ((((zf h 15 9) ≤ 0) → True) ∧ (¬ ((zf h 15 9) ≤ 0) → vp_in ((zf h 15 9) - 1) 64))
theorem f_Rules_work_k237_w (h : zm_H) : zWr [] [] h ((f_Rules_work_k237 h).2) := by
  unfold f_Rules_work_k237
  exact (zWr.refl _ _)
def f_Rules_work_a68 (r : Nat × Int32 × zm_H) : Int32 × zm_H := (f_Rules_work_k237 (r.2.2))
def f_Rules_work_a68_ok (r : Nat × Int32 × zm_H) : Prop := (f_Rules_work_k237_ok (r.2.2))
theorem f_Rules_work_a68_w (r : Nat × Int32 × zm_H) : zWr [] [] (r.2.2) ((f_Rules_work_a68 r).2) := by
  unfold f_Rules_work_a68
  exact (zWr_tr (f_Rules_work_k237_w (r.2.2)) (by decide) (by decide) (zWr.refl _ _))
def f_Rules_work_k47 (v1 : Int32) (v2 : Int32) (v3 : Nat) (v4 : Int32) (h : zm_H) : Int32 × zm_H := (f_Rules_work_a68 (f_Rules_work_l68 v3 v4 zF ((if (zr h 17 ((v1 * 4) + v2)) < 0 then 0 else (zr h 17 ((v1 * 4) + v2))), (zp h 15 9 0))))
def f_Rules_work_k47_ok (v1 : Int32) (v2 : Int32) (v3 : Nat) (v4 : Int32) (h : zm_H) : Prop := (vp_in ((v1 * 4) + v2) 40 ∧ (f_Rules_work_l68_ok v3 v4 zF ((if (zr h 17 ((v1 * 4) + v2)) < 0 then 0 else (zr h 17 ((v1 * 4) + v2))), (zp h 15 9 0)) ∧ f_Rules_work_a68_ok (f_Rules_work_l68 v3 v4 zF ((if (zr h 17 ((v1 * 4) + v2)) < 0 then 0 else (zr h 17 ((v1 * 4) + v2))), (zp h 15 9 0)))))
theorem f_Rules_work_k47_w (v1 : Int32) (v2 : Int32) (v3 : Nat) (v4 : Int32) (h : zm_H) : zWr [22] [(15, 9)] h ((f_Rules_work_k47 v1 v2 v3 v4 h).2) := by
  unfold f_Rules_work_k47
  exact (zWr_tr (f_Rules_work_a68_w (f_Rules_work_l68 v3 v4 zF ((if (zr h 17 ((v1 * 4) + v2)) < 0 then 0 else (zr h 17 ((v1 * 4) + v2))), (zp h 15 9 0)))) (by decide) (by decide) (zWr_tr (f_Rules_work_l68_w v3 v4 zF ((if (zr h 17 ((v1 * 4) + v2)) < 0 then 0 else (zr h 17 ((v1 * 4) + v2))), (zp h 15 9 0))) (by decide) (by decide) (zWr_p (by decide) (zWr.refl _ _))))
def f_Rules_work (p1 : Int32) (p2 : Int32) (h : zm_H) : Int32 × zm_H := (if (p1 < 0) then (0, h) else (if ((zf h 15 0) ≤ p1) then (0, h) else (if ((zrf h 16 p1) = none) then (0, h) else (f_Rules_work_k47 p1 p2 (((zrf h 16 p1)).getD 0) (if (Int32.ofNat (zln h (((zrf h 16 p1)).getD 0))) < (zr h 18 ((p1 * 4) + p2)) then (Int32.ofNat (zln h (((zrf h 16 p1)).getD 0))) else (zr h 18 ((p1 * 4) + p2))) h))))
def f_Rules_work_ok (p1 : Int32) (p2 : Int32) (h : zm_H) : Prop := (((p1 < 0) → True) ∧ (¬ (p1 < 0) → ((((zf h 15 0) ≤ p1) → True) ∧ (¬ ((zf h 15 0) ≤ p1) → (vp_in p1 10 ∧ ((((zrf h 16 p1) = none) → True) ∧ (¬ ((zrf h 16 p1) = none) → ((vp_in p1 10 ∧ (zrf h 16 p1).isSome = true) ∧ (vp_in ((p1 * 4) + p2) 40 ∧ (zia h (((zrf h 16 p1)).getD 0) ∧ (f_Rules_work_k47_ok p1 p2 (((zrf h 16 p1)).getD 0) (if (Int32.ofNat (zln h (((zrf h 16 p1)).getD 0))) < (zr h 18 ((p1 * 4) + p2)) then (Int32.ofNat (zln h (((zrf h 16 p1)).getD 0))) else (zr h 18 ((p1 * 4) + p2))) h)))))))))))
theorem f_Rules_work_w (p1 : Int32) (p2 : Int32) (h : zm_H) : zWr [22] [(15, 9)] h ((f_Rules_work p1 p2 h).2) := by
  unfold f_Rules_work
  exact (zWr_ite (fun z : Int32 × zm_H => z.2) (zWr.refl _ _) (zWr_ite (fun z : Int32 × zm_H => z.2) (zWr.refl _ _) (zWr_ite (fun z : Int32 × zm_H => z.2) (zWr.refl _ _) (zWr_tr (f_Rules_work_k47_w p1 p2 (((zrf h 16 p1)).getD 0) (if (Int32.ofNat (zln h (((zrf h 16 p1)).getD 0))) < (zr h 18 ((p1 * 4) + p2)) then (Int32.ofNat (zln h (((zrf h 16 p1)).getD 0))) else (zr h 18 ((p1 * 4) + p2))) h) (by decide) (by decide) (zWr.refl _ _)))))
def f_Rules_letsBoatsOut_k34 (w0 : Int32) (h : zm_H) : Int32 × zm_H := ((if (¬ (w0 = 0)) then (1 : Int32) else 0), h)
def f_Rules_letsBoatsOut_k34_ok (w0 : Int32) (h : zm_H) : Prop := True
theorem f_Rules_letsBoatsOut_k34_w (w0 : Int32) (h : zm_H) : zWr [] [] h ((f_Rules_letsBoatsOut_k34 w0 h).2) := by
  unfold f_Rules_letsBoatsOut_k34
  exact (zWr.refl _ _)
def f_Rules_letsBoatsOut_k28 (v3 : Int32) (h : zm_H) : Int32 × zm_H := (f_Rules_letsBoatsOut_k34 (f_Rules_work v3 2 h).1 (f_Rules_work v3 2 h).2)
def f_Rules_letsBoatsOut_k28_ok (v3 : Int32) (h : zm_H) : Prop := f_Rules_work_ok v3 2 h
theorem f_Rules_letsBoatsOut_k28_w (v3 : Int32) (h : zm_H) : zWr [22] [(15, 9)] h ((f_Rules_letsBoatsOut_k28 v3 h).2) := by
  unfold f_Rules_letsBoatsOut_k28
  exact (zWr_tr (f_Rules_letsBoatsOut_k34_w (f_Rules_work v3 2 h).1 (f_Rules_work v3 2 h).2) (by decide) (by decide) (zWr_tr (f_Rules_work_w v3 2 h) (by decide) (by decide) (zWr.refl _ _)))
def f_Rules_letsBoatsOut_k20 (v3 : Int32) (h : zm_H) : Int32 × zm_H := (f_Rules_letsBoatsOut_k28 v3 (f_Rules_nameRaft 0 0 0 0 h))
def f_Rules_letsBoatsOut_k20_ok (v3 : Int32) (h : zm_H) : Prop := (f_Rules_letsBoatsOut_k28_ok v3 (f_Rules_nameRaft 0 0 0 0 h))
theorem f_Rules_letsBoatsOut_k20_w (v3 : Int32) (h : zm_H) : zWr [21, 22] [(15, 9)] h ((f_Rules_letsBoatsOut_k20 v3 h).2) := by
  unfold f_Rules_letsBoatsOut_k20
  exact (zWr_tr (f_Rules_letsBoatsOut_k28_w v3 (f_Rules_nameRaft 0 0 0 0 h)) (by decide) (by decide) (zWr_tr (f_Rules_nameRaft_w 0 0 0 0 h) (by decide) (by decide) (zWr.refl _ _)))
def f_Rules_letsBoatsOut (p1 : Int32) (p2 : Int32) (h : zm_H) : Int32 × zm_H := (if ((f_Rules_ruling 2 p1 h) = (-1)) then (1, h) else (f_Rules_letsBoatsOut_k20 (f_Rules_ruling 2 p1 h) (f_Rules_nameSea p1 p2 h)))
def f_Rules_letsBoatsOut_ok (p1 : Int32) (p2 : Int32) (h : zm_H) : Prop := (f_Rules_ruling_ok 2 p1 h ∧ ((((f_Rules_ruling 2 p1 h) = (-1)) → True) ∧ (¬ ((f_Rules_ruling 2 p1 h) = (-1)) → (f_Rules_letsBoatsOut_k20_ok (f_Rules_ruling 2 p1 h) (f_Rules_nameSea p1 p2 h)))))
theorem f_Rules_letsBoatsOut_w (p1 : Int32) (p2 : Int32) (h : zm_H) : zWr [21, 22] [(15, 9)] h ((f_Rules_letsBoatsOut p1 p2 h).2) := by
  unfold f_Rules_letsBoatsOut
  exact (zWr_ite (fun z : Int32 × zm_H => z.2) (zWr.refl _ _) (zWr_tr (f_Rules_letsBoatsOut_k20_w (f_Rules_ruling 2 p1 h) (f_Rules_nameSea p1 p2 h)) (by decide) (by decide) (zWr_tr (f_Rules_nameSea_w p1 p2 h) (by decide) (by decide) (zWr.refl _ _))))
def f_Harbour_beginSpell_l15_b (v3 : Int32) (h : zm_H) : Nat × Int32 × zm_H := (if (3 ≤ v3) then (1, v3, h) else (0, (v3 + 1), (if ((zr h 66 v3) = (-1)) then h else (zs (zs h 71 v3 ((zr h 71 v3) + 1)) 66 v3 (-1)))))
def f_Harbour_beginSpell_l15_b_ok (v3 : Int32) (h : zm_H) : Prop := (((3 ≤ v3) → True) ∧ (¬ (3 ≤ v3) → (vp_in v3 3 ∧ ((((zr h 66 v3) = (-1)) → True) ∧ (¬ ((zr h 66 v3) = (-1)) → (vp_in v3 3 ∧ (vp_in v3 3 ∧ vp_in v3 3)))))))
theorem f_Harbour_beginSpell_l15_b_w (v3 : Int32) (h : zm_H) : zWr [66, 71] [] h ((f_Harbour_beginSpell_l15_b v3 h).2.2) := by
  unfold f_Harbour_beginSpell_l15_b
  exact (zWr_ite (fun z : Nat × Int32 × zm_H => z.2.2) (zWr.refl _ _) (zWr_ite (fun z : zm_H => z) (zWr.refl _ _) (zWr_si (by decide) (zWr_si (by decide) (zWr.refl _ _)))))
def f_Harbour_beginSpell_l15 (n : Nat) (t : Int32 × zm_H) : Nat × Int32 × zm_H := zwh (fun t => f_Harbour_beginSpell_l15_b t.1 t.2) n t
def f_Harbour_beginSpell_l15_ok (n : Nat) (t : Int32 × zm_H) : Prop := zwo (fun t => f_Harbour_beginSpell_l15_b t.1 t.2) (fun t => f_Harbour_beginSpell_l15_b_ok t.1 t.2) n t
theorem f_Harbour_beginSpell_l15_w (n : Nat) (t : Int32 × zm_H) : zWr [66, 71] [] (t.2) ((f_Harbour_beginSpell_l15 n t).2.2) := by
  unfold f_Harbour_beginSpell_l15
  exact zWr_zwh (fun t : Int32 × zm_H => t.2) (fun t => f_Harbour_beginSpell_l15_b_w t.1 t.2)
def f_Harbour_beginSpell_k53 (h : zm_H) : zm_H := h
def f_Harbour_beginSpell_k53_ok (h : zm_H) : Prop := True
theorem f_Harbour_beginSpell_k53_w (h : zm_H) : zWr [] [] h ((f_Harbour_beginSpell_k53 h)) := by
  unfold f_Harbour_beginSpell_k53
  exact (zWr.refl _ _)
def f_Harbour_beginSpell_a15 (r : Nat × Int32 × zm_H) : zm_H := (f_Harbour_beginSpell_k53 (r.2.2))
def f_Harbour_beginSpell_a15_ok (r : Nat × Int32 × zm_H) : Prop := True
theorem f_Harbour_beginSpell_a15_w (r : Nat × Int32 × zm_H) : zWr [] [] (r.2.2) ((f_Harbour_beginSpell_a15 r)) := by
  unfold f_Harbour_beginSpell_a15
  exact (zWr_tr (f_Harbour_beginSpell_k53_w (r.2.2)) (by decide) (by decide) (zWr.refl _ _))
def f_Harbour_beginSpell_k9 (w0 : Int32) (h : zm_H) : zm_H := (if (w0 = 0) then (f_Harbour_beginSpell_a15 (f_Harbour_beginSpell_l15 zF (0, h))) else h)
def f_Harbour_beginSpell_k9_ok (w0 : Int32) (h : zm_H) : Prop := (((w0 = 0) → (f_Harbour_beginSpell_l15_ok zF (0, h) ∧ f_Harbour_beginSpell_a15_ok (f_Harbour_beginSpell_l15 zF (0, h)))) ∧ (¬ (w0 = 0) → True))
theorem f_Harbour_beginSpell_k9_w (w0 : Int32) (h : zm_H) : zWr [66, 71] [] h ((f_Harbour_beginSpell_k9 w0 h)) := by
  unfold f_Harbour_beginSpell_k9
  exact (zWr_ite (fun z : zm_H => z) (zWr_tr (f_Harbour_beginSpell_a15_w (f_Harbour_beginSpell_l15 zF (0, h))) (by decide) (by decide) (zWr_tr (f_Harbour_beginSpell_l15_w zF (0, h)) (by decide) (by decide) (zWr.refl _ _))) (zWr.refl _ _))
def f_Harbour_beginSpell (p1 : Int32) (p2 : Int32) (h : zm_H) : zm_H := (f_Harbour_beginSpell_k9 (f_Rules_letsBoatsOut p1 p2 h).1 (f_Rules_letsBoatsOut p1 p2 h).2)
def f_Harbour_beginSpell_ok (p1 : Int32) (p2 : Int32) (h : zm_H) : Prop := (f_Rules_letsBoatsOut_ok p1 p2 h ∧ (f_Harbour_beginSpell_k9_ok (f_Rules_letsBoatsOut p1 p2 h).1 (f_Rules_letsBoatsOut p1 p2 h).2))
theorem f_Harbour_beginSpell_w (p1 : Int32) (p2 : Int32) (h : zm_H) : zWr [21, 22, 66, 71] [(15, 9)] h ((f_Harbour_beginSpell p1 p2 h)) := by
  unfold f_Harbour_beginSpell
  exact (zWr_tr (f_Harbour_beginSpell_k9_w (f_Rules_letsBoatsOut p1 p2 h).1 (f_Rules_letsBoatsOut p1 p2 h).2) (by decide) (by decide) (zWr_tr (f_Rules_letsBoatsOut_w p1 p2 h) (by decide) (by decide) (zWr.refl _ _)))
def f_Course_sinkAndRise_37_l23_k106 (v2 : Int32) (v3 : Int32) (v4 : Int32) (h : zm_H) : Nat × Int32 × zm_H := (0, (v4 + 1), h)
def f_Course_sinkAndRise_37_l23_k106_ok (v2 : Int32) (v3 : Int32) (v4 : Int32) (h : zm_H) : Prop := True
theorem f_Course_sinkAndRise_37_l23_k106_w (v2 : Int32) (v3 : Int32) (v4 : Int32) (h : zm_H) : zWr [] [] h ((f_Course_sinkAndRise_37_l23_k106 v2 v3 v4 h).2.2) := by
  unfold f_Course_sinkAndRise_37_l23_k106
  exact (zWr.refl _ _)
def f_Course_holds_37 (p1 : Int32) (h : zm_H) : Int32 := (if (¬ ((zr h 43 p1) ≤ 0) ∧ ((zr h 45 p1) = (-1))) then (1 : Int32) else 0)
def f_Course_holds_37_ok (p1 : Int32) (h : zm_H) : Prop := (vp_in p1 30 ∧ ((((zr h 43 p1) ≤ 0) → True) ∧ (¬ ((zr h 43 p1) ≤ 0) → vp_in p1 30)))
def f_Course_hold_37 (p1 : Int32) (h : zm_H) : Int32 := ((zr h 43 p1) - ((zr h 44 p1) / 100))
def f_Course_hold_37_ok (p1 : Int32) (h : zm_H) : Prop := (vp_in p1 30 ∧ vp_in p1 30)
def f_Course_leastHold_37_l6_b (v1 : Int32) (v2 : Int32) (v3 : Int32) (h : zm_H) : Nat × Int32 × Int32 := (if (((v1 * 3) + 3) ≤ v3) then (1, v2, v3) else (0, (if ((f_Course_holds_37 v3 h) = 0) then (v2 : Int32) else (if (v2 = (-1)) then ((f_Course_hold_37 v3 h) : Int32) else (if (v2 ≤ (f_Course_hold_37 v3 h)) then (v2 : Int32) else (f_Course_hold_37 v3 h)))), (v3 + 1)))
def f_Course_leastHold_37_l6_b_ok (v1 : Int32) (v2 : Int32) (v3 : Int32) (h : zm_H) : Prop := (((((v1 * 3) + 3) ≤ v3) → True) ∧ (¬ (((v1 * 3) + 3) ≤ v3) → (f_Course_holds_37_ok v3 h ∧ ((((f_Course_holds_37 v3 h) = 0) → True) ∧ (¬ ((f_Course_holds_37 v3 h) = 0) → (((v2 = (-1)) → f_Course_hold_37_ok v3 h) ∧ (¬ (v2 = (-1)) → (f_Course_hold_37_ok v3 h ∧ (((v2 ≤ (f_Course_hold_37 v3 h)) → True) ∧ (¬ (v2 ≤ (f_Course_hold_37 v3 h)) → f_Course_hold_37_ok v3 h))))))))))
def f_Course_leastHold_37_l6 (v1 : Int32) (h : zm_H) (n : Nat) (t : Int32 × Int32) : Nat × Int32 × Int32 := zwh (fun t => f_Course_leastHold_37_l6_b v1 t.1 t.2 h) n t
def f_Course_leastHold_37_l6_ok (v1 : Int32) (h : zm_H) (n : Nat) (t : Int32 × Int32) : Prop := zwo (fun t => f_Course_leastHold_37_l6_b v1 t.1 t.2 h) (fun t => f_Course_leastHold_37_l6_b_ok v1 t.1 t.2 h) n t
def f_Course_leastHold_37_k49 (v2 : Int32) (h : zm_H) : Int32 := (if v2 < 0 then 0 else v2)
def f_Course_leastHold_37_k49_ok (v2 : Int32) (h : zm_H) : Prop := True
def f_Course_leastHold_37_a6 (r : Nat × Int32 × Int32) (h : zm_H) : Int32 := (f_Course_leastHold_37_k49 (r.2.1) h)
def f_Course_leastHold_37_a6_ok (r : Nat × Int32 × Int32) (h : zm_H) : Prop := True
def f_Course_leastHold_37 (p1 : Int32) (h : zm_H) : Int32 := (f_Course_leastHold_37_a6 (f_Course_leastHold_37_l6 p1 h zF ((-1), (p1 * 3))) h)
def f_Course_leastHold_37_ok (p1 : Int32) (h : zm_H) : Prop := (f_Course_leastHold_37_l6_ok p1 h zF ((-1), (p1 * 3)) ∧ f_Course_leastHold_37_a6_ok (f_Course_leastHold_37_l6 p1 h zF ((-1), (p1 * 3))) h)
def f_Course_says_37_k47 (v1 : Int32) (v2 : Int32) (h : zm_H) : Int32 × zm_H := (f_Rules_work v1 v2 h)
def f_Course_says_37_k47_ok (v1 : Int32) (v2 : Int32) (h : zm_H) : Prop := f_Rules_work_ok v1 v2 h
theorem f_Course_says_37_k47_w (v1 : Int32) (v2 : Int32) (h : zm_H) : zWr [22] [(15, 9)] h ((f_Course_says_37_k47 v1 v2 h).2) := by
  unfold f_Course_says_37_k47
  exact (zWr_tr (f_Rules_work_w v1 v2 h) (by decide) (by decide) (zWr.refl _ _))
def f_Course_says_37 (p1 : Int32) (p2 : Int32) (p3 : Int32) (h : zm_H) : Int32 × zm_H := (if (p1 = (-1)) then (0, h) else (f_Course_says_37_k47 p1 p2 (f_Rules_nameRaft (zr h 41 p3) (f_Course_leastHold_37 p3 h) (zr h 24 p3) (if (¬ ((f_Course_isReady_37 p3 h) = 0)) then (1 : Int32) else 0) h)))
def f_Course_says_37_ok (p1 : Int32) (p2 : Int32) (p3 : Int32) (h : zm_H) : Prop := (((p1 = (-1)) → True) ∧ (¬ (p1 = (-1)) → (vp_in p3 10 ∧ (f_Course_leastHold_37_ok p3 h ∧ (vp_in p3 10 ∧ (f_Course_isReady_37_ok p3 h ∧ (f_Course_says_37_k47_ok p1 p2 (f_Rules_nameRaft (zr h 41 p3) (f_Course_leastHold_37 p3 h) (zr h 24 p3) (if (¬ ((f_Course_isReady_37 p3 h) = 0)) then (1 : Int32) else 0) h))))))))
theorem f_Course_says_37_w (p1 : Int32) (p2 : Int32) (p3 : Int32) (h : zm_H) : zWr [21, 22] [(15, 9)] h ((f_Course_says_37 p1 p2 p3 h).2) := by
  unfold f_Course_says_37
  exact (zWr_ite (fun z : Int32 × zm_H => z.2) (zWr.refl _ _) (zWr_tr (f_Course_says_37_k47_w p1 p2 (f_Rules_nameRaft (zr h 41 p3) (f_Course_leastHold_37 p3 h) (zr h 24 p3) (if (¬ ((f_Course_isReady_37 p3 h) = 0)) then (1 : Int32) else 0) h)) (by decide) (by decide) (zWr_tr (f_Rules_nameRaft_w (zr h 41 p3) (f_Course_leastHold_37 p3 h) (zr h 24 p3) (if (¬ ((f_Course_isReady_37 p3 h) = 0)) then (1 : Int32) else 0) h) (by decide) (by decide) (zWr.refl _ _))))
