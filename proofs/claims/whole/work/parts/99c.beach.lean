/-! ===== beach ===== -/
def bch (p : Nat → Int32) (base : Int32) (col : Nat) (v2 v3 v4 : Int32) : Nat → Int32
  | 0 => 0
  | k + 1 => bch p base col v2 v3 v4 k + (if v4 = 0 then (if ((base - p (10 * k + col)) / 1000 * v3) / 100 < ((base - p (10 * k + col)) / 1000 * v2) / 100 then ((base - p (10 * k + col)) / 1000 * v3) / 100 else ((base - p (10 * k + col)) / 1000 * v2) / 100) else (if ((base - p (10 * k + col)) / 1000 * v2) / 100 < ((base - p (10 * k + col)) / 1000 * v3) / 100 then ((base - p (10 * k + col)) / 1000 * v3) / 100 else ((base - p (10 * k + col)) / 1000 * v2) / 100))
theorem bch_N {w : Nat} (hw : w ≤ 480) {h : zm_H} (et : zf h 0 0 = nI w) {col : Nat} (hc : col < 10) (v2 v3 v4 : Int32) : f_N_beach_l27_ok (nI col) v2 v3 v4 h zF (0, 0) ∧ (f_N_beach_l27 (nI col) v2 v3 v4 h zF (0, 0)).2.1 = bch (h.2.1 49) (zf h 0 1) col v2 v3 v4 w := by
  obtain ⟨F, eF, -⟩ := zF_ex
  rw [← eF]
  have key := zlpF eF (b := fun s => f_N_beach_l27_b (nI col) v2 v3 v4 s.1 s.2 h) (o := fun s => f_N_beach_l27_b_ok (nI col) v2 v3 v4 s.1 s.2 h) w (by omega)
    (fun k s => s = (bch (h.2.1 49) (zf h 0 1) col v2 v3 v4 k, nI k)) (fun q => q.2.1 = bch (h.2.1 49) (zf h 0 1) col v2 v3 v4 w) (0, 0) rfl
    (by
      rintro k s hk rfl
      have g0 : ¬ (zf h 0 0 ≤ nI k) := by rw [et, nx_le (by omega) (by omega)]; omega
      have x1 : nI k * 10 + nI col = nI (10 * k + col) := by rw [show (10 : Int32) = nI 10 from rfl, pk_mul, nI_add, Nat.mul_comm]
      have z : zr h 49 (nI (10 * k + col)) = h.2.1 49 (10 * k + col) := zr_n h 49 (by omega)
      dsimp only
      unfold f_N_beach_l27_b f_N_beach_l27_b_ok f_N_beach_l27_k107
      rw [if_neg g0, x1, z, ← nI_succ]
      exact ⟨⟨fun z => absurd z g0, fun _ => vp_in_nI (by omega) (by omega)⟩, Or.inl ⟨rfl, rfl⟩⟩)
    (by
      rintro s rfl
      have g0 : zf h 0 0 ≤ nI w := by rw [et]; exact i_le_r _
      dsimp only
      unfold f_N_beach_l27_b f_N_beach_l27_b_ok
      rw [if_pos g0]
      exact ⟨⟨fun _ => trivial, fun z => absurd g0 z⟩, by simp, rfl⟩)
  exact key
theorem mm_c {a b v : Int32} (hv : v = 0 ∨ v = 1) : (if ((if (¬ (a ≤ b)) then (1 : Int32) else 0) = v) then a else b) = if v = 0 then (if a < b then a else b) else (if b < a then a else b) := by
  rcases hv with e | e <;> subst e
  · rw [if_pos rfl]
    by_cases c : a ≤ b
    · rw [if_neg (show ¬ ¬ a ≤ b from fun z => z c), if_pos rfl]
      by_cases d : a < b
      · rw [if_pos d]
      · rw [if_neg d, i_eq]; rw [i_le] at c; rw [i_lt] at d; omega
    · rw [if_pos c, if_neg (show ¬ (1 : Int32) = 0 by decide), if_neg (by rw [i_le] at c; rw [i_lt]; omega)]
  · rw [if_neg (show ¬ (1 : Int32) = 0 by decide)]
    by_cases c : a ≤ b
    · rw [if_neg (show ¬ ¬ a ≤ b from fun z => z c), if_neg (show ¬ (0 : Int32) = 1 by decide), if_neg (by rw [i_le] at c; rw [i_lt]; omega)]
    · rw [if_pos c, if_pos rfl, if_pos (by rw [i_le] at c; rw [i_lt]; omega)]
theorem bch_M {w : Nat} (hw : w ≤ 480) {h : zm_H} (et : zf h 92 23 = nI w) {col : Nat} (hc : col < 10) (v2 v3 : Int32) {v4 : Int32} (hv : v4 = 0 ∨ v4 = 1) : f_M_beach_l42_ok (nI col) v2 v3 v4 h zF (0, 0) ∧ (f_M_beach_l42 (nI col) v2 v3 v4 h zF (0, 0)).2.1 = bch (h.2.1 133) (zf h 92 47) col v2 v3 v4 w := by
  obtain ⟨F, eF, -⟩ := zF_ex
  rw [← eF]
  have key := zlpF eF (b := fun s => f_M_beach_l42_b (nI col) v2 v3 v4 s.1 s.2 h) (o := fun s => f_M_beach_l42_b_ok (nI col) v2 v3 v4 s.1 s.2 h) w (by omega)
    (fun k s => s = (bch (h.2.1 133) (zf h 92 47) col v2 v3 v4 k, nI k)) (fun q => q.2.1 = bch (h.2.1 133) (zf h 92 47) col v2 v3 v4 w) (0, 0) rfl
    (by
      rintro k s hk rfl
      have g0 : ¬ (zf h 92 23 ≤ nI k) := by rw [et, nx_le (by omega) (by omega)]; omega
      have z : zr h 133 (nI (10 * k + col)) = h.2.1 133 (10 * k + col) := zr_n h 133 (by omega)
      dsimp only
      unfold f_M_beach_l42_b f_M_beach_l42_b_ok f_M_beach_l42_k121
      rw [if_neg g0, x10, z, ← nI_succ, mm_c hv]
      exact ⟨⟨fun z => absurd z g0, fun _ => vp_in_nI (by omega) (by omega)⟩, Or.inl ⟨rfl, rfl⟩⟩)
    (by
      rintro s rfl
      have g0 : zf h 92 23 ≤ nI w := by rw [et]; exact i_le_r _
      dsimp only
      unfold f_M_beach_l42_b f_M_beach_l42_b_ok
      rw [if_pos g0]
      exact ⟨⟨fun _ => trivial, fun z => absurd g0 z⟩, by simp, rfl⟩)
  exact key
theorem c_beach {nr w : Nat} {h : zm_H} (W : I_now w h) {g : GS} (B : I_bk nr w g h) (eb : zf h 0 1 = zf h 92 47) (p1 p2 p3 : Int32) {p4 : Int32} (hv : p4 = 0 ∨ p4 = 1) : f_N_beach_ok p1 p2 p3 p4 h ∧ f_M_beach_ok p1 p2 p3 p4 h ∧ f_N_beach p1 p2 p3 p4 h = f_M_beach p1 p2 p3 p4 h := by
  obtain ⟨w1, w2, w3⟩ := W
  have e49 := B.2.2.2.2.2.2
  have i10 : (10 : Int32).toInt = 10 := rfl
  have i9 : (9 : Int32).toInt = 9 := rfl
  have i201 : (201 : Int32).toInt = 201 := rfl
  have i200 : (200 : Int32).toInt = 200 := rfl
  have q1 : (¬ (p1 < 0) ∧ (¬ (10 ≤ p1))) ↔ (¬ (p1 < 0) ∧ (¬ (9 < p1))) := by rw [i_lt, i_lt, i_le, i10, i9]; omega
  have q2 : (¬ (p2 < 0) ∧ (¬ (p3 < p2) ∧ (¬ (201 ≤ p3)))) ↔ ((¬ (p2 < 0) ∧ (¬ (200 < p2))) ∧ (¬ (p3 < p2) ∧ (¬ (200 < p3)))) := by rw [i_lt, i_lt, i_lt, i_lt, i_le, i201, i200, i_0]; omega
  unfold f_N_beach_ok f_M_beach_ok f_N_beach f_M_beach f_N_beach_a27 f_N_beach_k113 f_M_beach_a42 f_M_beach_k127
  by_cases c : ¬ (p1 < 0) ∧ (¬ (10 ≤ p1))
  · have c' := c
    rw [i_lt, i_le, i_0, i10] at c'
    obtain ⟨col, hc, rfl⟩ := i_ex (a := p1) (N := 10) (by omega) (by omega)
    obtain ⟨n1, n2⟩ := bch_N w1 w2 hc p2 p3 p4
    obtain ⟨m1, m2⟩ := bch_M w1 w3 hc p2 p3 hv
    rw [if_pos c, if_pos (q1.mp c), n2, m2, e49, eb]
    refine ⟨⟨fun _ => ⟨fun _ => ⟨n1, trivial⟩, fun _ => trivial⟩, fun _ => trivial⟩, ⟨fun _ => ⟨fun _ => ⟨fun _ => ⟨m1, trivial⟩, fun _ => trivial⟩, fun _ => trivial⟩, fun _ => trivial⟩, ?_⟩
    by_cases d : ¬ (p2 < 0) ∧ (¬ (p3 < p2) ∧ (¬ (201 ≤ p3)))
    · rw [if_pos d, if_pos (q2.mp d).1, if_pos (q2.mp d).2]
    · rw [if_neg d]
      by_cases e : ¬ (p2 < 0) ∧ (¬ (200 < p2))
      · rw [if_pos e, if_neg (fun z => d (q2.mpr ⟨e, z⟩))]
      · rw [if_neg e]
  · rw [if_neg c, if_neg (fun z => c (q1.mpr z))]
    exact ⟨⟨fun z => absurd z c, fun _ => trivial⟩, ⟨fun z => absurd (q1.mpr z) c, fun _ => trivial⟩, rfl⟩
