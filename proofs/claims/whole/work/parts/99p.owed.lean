/-! ===== owed, would ===== -/
def owd (a b : Nat → Int32) (f : Nat) : Nat → Int32
  | 0 => 0
  | k + 1 => owd a b f k + (a (f + k) - b (f + k))
theorem owd_eq {a b a' b' : Nat → Int32} {f : Nat} : ∀ k, (∀ j, j < k → a (f + j) = a' (f + j) ∧ b (f + j) = b' (f + j)) → owd a b f k = owd a' b' f k := by
  intro k
  induction k with
  | zero => intro _; rfl
  | succ k ih =>
    intro h
    rw [owd, owd, ih (fun j hj => h j (by omega)), (h k (by omega)).1, (h k (by omega)).2]
theorem ow_N {f t : Nat} (ht : t < 480) (hf : f ≤ t) (h : zm_H) : f_N_owed_l29_ok (nI t) h zF (0, nI f) ∧ (f_N_owed_l29 (nI t) h zF (0, nI f)).2.1 = owd (h.2.1 61) (h.2.1 48) f (t + 1 - f) := by
  obtain ⟨F, eF, -⟩ := zF_ex
  rw [← eF]
  exact zlpF eF (b := fun s => f_N_owed_l29_b (nI t) s.1 s.2 h) (o := fun s => f_N_owed_l29_b_ok (nI t) s.1 s.2 h) (t + 1 - f) (by omega)
    (fun k s => s = (owd (h.2.1 61) (h.2.1 48) f k, nI (f + k))) (fun r => r.2.1 = owd (h.2.1 61) (h.2.1 48) f (t + 1 - f)) (0, nI f) rfl
    (by
      rintro k s hk rfl
      have g : ¬ (nI t < nI (f + k)) := by rw [i_lt, i_nI (by omega), i_nI (by omega)]; omega
      have i1 : vp_in (nI (f + k)) 480 := vp_in_nI (by omega) (by omega)
      refine ⟨⟨fun z => absurd z g, fun _ => ⟨i1, i1⟩⟩, Or.inl ?_⟩
      dsimp only
      unfold f_N_owed_l29_b
      rw [if_neg g, zr_n h 61 (by omega), zr_n h 48 (by omega)]
      refine ⟨rfl, ?_⟩
      rw [owd, show f + (k + 1) = f + k + 1 by omega, nI_succ])
    (by
      rintro s rfl
      have g : nI t < nI (f + (t + 1 - f)) := by rw [i_lt, i_nI (by omega), i_nI (by omega)]; omega
      dsimp only
      unfold f_N_owed_l29_b f_N_owed_l29_b_ok
      rw [if_pos g]
      exact ⟨⟨fun _ => trivial, fun z => absurd g z⟩, by simp, rfl⟩)
theorem ow_M {f t : Nat} (ht : t < 480) (hf : f ≤ t) (h : zm_H) : f_M_owed_l39_ok (nI t) h zF (0, nI f) ∧ (f_M_owed_l39 (nI t) h zF (0, nI f)).2.1 = owd (h.2.1 135) (h.2.1 132) f (t + 1 - f) := by
  obtain ⟨F, eF, -⟩ := zF_ex
  rw [← eF]
  exact zlpF eF (b := fun s => f_M_owed_l39_b (nI t) s.1 s.2 h) (o := fun s => f_M_owed_l39_b_ok (nI t) s.1 s.2 h) (t + 1 - f) (by omega)
    (fun k s => s = (owd (h.2.1 135) (h.2.1 132) f k, nI (f + k))) (fun r => r.2.1 = owd (h.2.1 135) (h.2.1 132) f (t + 1 - f)) (0, nI f) rfl
    (by
      rintro k s hk rfl
      have g : ¬ (nI t < nI (f + k)) := by rw [i_lt, i_nI (by omega), i_nI (by omega)]; omega
      have i1 : vp_in (nI (f + k)) 480 := vp_in_nI (by omega) (by omega)
      refine ⟨⟨fun z => absurd z g, fun _ => ⟨i1, i1⟩⟩, Or.inl ?_⟩
      dsimp only
      unfold f_M_owed_l39_b
      rw [if_neg g, zr_n h 135 (by omega), zr_n h 132 (by omega)]
      refine ⟨rfl, ?_⟩
      rw [owd, show f + (k + 1) = f + k + 1 by omega, nI_succ])
    (by
      rintro s rfl
      have g : nI t < nI (f + (t + 1 - f)) := by rw [i_lt, i_nI (by omega), i_nI (by omega)]; omega
      dsimp only
      unfold f_M_owed_l39_b f_M_owed_l39_b_ok
      rw [if_pos g]
      exact ⟨⟨fun _ => trivial, fun z => absurd g z⟩, by simp, rfl⟩)
theorem lkn {w : Nat} (hw : w ≤ 480) {b : Nat} (eb : b = if w = 480 then 479 else w) : (if (480 ≤ nI w) then (479 : Int32) else nI w) = nI b := by
  by_cases c : w = 480
  · subst c; rw [if_pos rfl] at eb; subst eb; rfl
  · rw [if_neg c] at eb
    subst eb
    rw [if_neg (by rw [show (480 : Int32) = nI 480 from rfl, nx_le (by omega) (by omega)]; omega)]
theorem ft_w {w n d : Nat} {h : zm_H} (hw : w ≤ 480) (S : I_sw w n d h) : ft (h.2.1 107) (nI w) n = n ∧ ft (h.2.1 111) (nI w) d = d := by
  obtain ⟨⟨hn, hd, -⟩, hR, -, hD, -, -⟩ := S
  have key : ∀ (f : Nat → Int32) (m : Nat), (∀ k, k < m → ∃ t, t ≤ w ∧ f k = nI t) → ft f (nI w) m = m := by
    intro f m hm
    cases m with
    | zero => rfl
    | succ m =>
      rw [ft]
      obtain ⟨t, t1, t2⟩ := hm m (by omega)
      rw [t2, if_neg (by rw [i_lt, i_nI (by omega), i_nI (by omega)]; omega)]
  refine ⟨key _ n (fun k hk => ?_), key _ d (fun k hk => ?_)⟩
  · obtain ⟨t, t1, -, t2⟩ := (hR k hk).2.2.2.2.1
    exact ⟨t, t1, t2⟩
  · obtain ⟨t, t1, -, t2⟩ := (hD k hk).2.2.2.2.1
    exact ⟨t, t1, t2⟩
theorem c_owed {ns nf nr nt n e w : Nat} {h : zm_H} (W : I_now w h) (H : I_rl ns nf h) (R : I_rf w nr h) (S : I_sw w n e h) (T : I_th nr nt h) (A : I_an nf nr nt n e w h) (e48 : h.2.1 48 = h.2.1 132) (p1 p2 : Int32) : f_N_owed_ok p1 p2 h ∧ f_M_owed_ok p1 p2 (f_N_owed p1 p2 h).2 ∧ (f_N_owed p1 p2 h).1 = (f_M_owed p1 p2 (f_N_owed p1 p2 h).2).1 ∧ I_an nf nr nt n e w (f_M_owed p1 p2 (f_N_owed p1 p2 h).2).2 ∧ vM 0 (f_M_owed p1 p2 (f_N_owed p1 p2 h).2).2 = vM 0 h := by
  obtain ⟨w1, w2, w3⟩ := id W
  have bw : (nI w).toInt = w := i_nI (by omega)
  have bw1 : (nI w - 1).toInt = w - 1 := by rw [i_sub (by rw [bw, i_1]; omega) (by rw [bw, i_1]; omega), bw, i_1]
  obtain ⟨b, eb⟩ : ∃ b, b = if w = 480 then 479 else w := ⟨_, rfl⟩
  obtain ⟨f1, f2, hb⟩ := ft_now w1 S eb
  obtain ⟨f3, f4⟩ := ft_w w1 S
  by_cases c : (0 ≤ p1.toInt ∧ p1.toInt ≤ p2.toInt) ∧ p2.toInt < w
  · obtain ⟨⟨c1, c2⟩, c3⟩ := c
    obtain ⟨f, hf, rfl⟩ := i_ex (a := p1) (N := w) c1 (by omega)
    obtain ⟨t, ht, rfl⟩ := i_ex (a := p2) (N := w) (by omega) (by omega)
    rw [i_nI (show f < 2147483648 by omega), i_nI (show t < 2147483648 by omega)] at c2
    have c2 : f ≤ t := by omega
    obtain ⟨y, ey⟩ : ∃ y, y = f_N_goAnew (nI t) (nI w) h := ⟨_, rfl⟩
    obtain ⟨x, ex⟩ : ∃ x, x = f_M_anew (nI t) (nI b) y := ⟨_, rfl⟩
    obtain ⟨k1, k2, k3, k4, k5, -, k7⟩ := an_both W H R S T A ht (f1.trans f3.symm) (f2.trans f4.symm) ey ex
    have yw := f_N_goAnew_w (nI t) (nI w) h
    have xw := f_M_anew_w (nI t) (nI b) y
    rw [← ey] at yw
    rw [← ex] at xw
    have g1 : ¬ (nI f < 0) ∧ (¬ (nI t < nI f) ∧ (¬ (nI w ≤ nI t))) := by rw [i_lt, i_lt, i_0, nx_le (by omega) (by omega), i_nI (by omega), i_nI (by omega)]; omega
    obtain ⟨o1, o2⟩ := ow_N (show t < 480 by omega) c2 y
    have eN : f_N_owed (nI f) (nI t) h = (owd (y.2.1 61) (y.2.1 48) f (t + 1 - f), y) := by
      unfold f_N_owed f_N_owed_k24 f_N_owed_a29 f_N_owed_k65
      rw [w2, if_pos g1, ← ey, o2]
    have oN : f_N_owed_ok (nI f) (nI t) h := by
      unfold f_N_owed_ok f_N_owed_k24_ok
      rw [w2, ← ey]
      exact ⟨fun _ => ⟨k1, o1, trivial⟩, fun _ => trivial⟩
    rw [eN]
    dsimp only
    have y3 : zf y 92 23 = nI w := (yw.fld 92 23 (by decide) (by decide)).trans w3
    have m1 : ¬ (nI f < 0) ∧ (¬ (nI w - 1 < nI f)) := by rw [i_lt, i_lt, i_0, bw1, i_nI (by omega)]; omega
    have m2 : ¬ (nI t < 0) ∧ (¬ (nI w - 1 < nI t)) := by rw [i_lt, i_lt, i_0, bw1, i_nI (by omega)]; omega
    have m3 : nI f ≤ nI t := by rw [nx_le (by omega) (by omega)]; exact c2
    obtain ⟨q1, q2⟩ := ow_M (show t < 480 by omega) c2 x
    have eM : f_M_owed (nI f) (nI t) y = (owd (x.2.1 135) (x.2.1 132) f (t + 1 - f), x) := by
      unfold f_M_owed f_M_owed_k34 f_M_owed_a39 f_M_owed_k69
      rw [y3, lkn w1 eb, if_pos m1, if_pos m2, if_pos m3, ← ex, q2]
    have oM : f_M_owed_ok (nI f) (nI t) y := by
      unfold f_M_owed_ok f_M_owed_k34_ok
      rw [y3, lkn w1 eb, ← ex]
      exact ⟨fun _ => ⟨fun _ => ⟨fun _ => ⟨k2, q1, trivial⟩, fun _ => trivial⟩, fun _ => trivial⟩, fun _ => trivial⟩
    rw [eM]
    refine ⟨oN, oM, ?_, k4, k5⟩
    refine owd_eq _ (fun j hj => ⟨(k7 (f + j) (by omega)).2.1, ?_⟩)
    rw [yw.arr 48 (by decide) (by decide), xw.arr 132 (by decide) (by decide), yw.arr 132 (by decide) (by decide), e48]
  · have g1 : ¬ (¬ (p1 < 0) ∧ (¬ (p2 < p1) ∧ (¬ (nI w ≤ p2)))) := by rw [i_lt, i_lt, i_le, i_0, bw]; omega
    have eN : f_N_owed p1 p2 h = (-2147483648, h) := by
      unfold f_N_owed
      rw [w2, if_neg g1]
    have oN : f_N_owed_ok p1 p2 h := by
      unfold f_N_owed_ok
      rw [w2]
      exact ⟨fun z => absurd z g1, fun _ => trivial⟩
    have g2 : ∀ (z1 : ¬ (p1 < 0) ∧ (¬ (nI w - 1 < p1))) (z2 : ¬ (p2 < 0) ∧ (¬ (nI w - 1 < p2))), ¬ p1 ≤ p2 := by
      intro z1 z2 z3
      rw [i_lt, i_lt, i_0, bw1] at z1 z2
      rw [i_le] at z3
      exact c ⟨by omega, by omega⟩
    have eM : f_M_owed p1 p2 h = (-2147483648, h) := by
      unfold f_M_owed
      rw [w3]
      by_cases z1 : ¬ (p1 < 0) ∧ (¬ (nI w - 1 < p1))
      · rw [if_pos z1]
        by_cases z2 : ¬ (p2 < 0) ∧ (¬ (nI w - 1 < p2))
        · rw [if_pos z2, if_neg (g2 z1 z2)]
        · rw [if_neg z2]
      · rw [if_neg z1]
    have oM : f_M_owed_ok p1 p2 h := by
      unfold f_M_owed_ok
      rw [w3]
      exact ⟨fun z1 => ⟨fun z2 => ⟨fun z3 => absurd z3 (g2 z1 z2), fun _ => trivial⟩, fun _ => trivial⟩, fun _ => trivial⟩
    rw [eN]
    dsimp only
    rw [eM]
    exact ⟨oN, oM, rfl, A, rfl⟩
theorem orf_50 {w nr : Nat} {h : zm_H} (R : I_rf w nr h) {r : Nat} (hr : r < 10) (q : Int32) (c : q < 10) : f_Course_ofRaft_50_ok (nI r) q h ∧ f_Course_ofRaft_50 (nI r) q h = tOf (vC 51 h) (h.2.1 112) (h.2.1 113) r q := by
  have i10 : vp_in (nI r) 10 := vp_in_nI hr (by omega)
  have ca : ∀ i, i < 5 → zr h (51 + i) (nI r) = vC 51 h i r := fun i hi => by rw [zr_n h (51 + i) (by omega), vC_at (b := 51) (by omega) (show r < zsz i by unfold zsz; rw [if_pos hi]; exact hr)]
  have a0 : zr h 51 (nI r) = vC 51 h 0 r := ca 0 (by omega)
  have a1 : zr h 52 (nI r) = vC 51 h 1 r := ca 1 (by omega)
  have a2 : zr h 53 (nI r) = vC 51 h 2 r := ca 2 (by omega)
  have a3 : zr h 54 (nI r) = vC 51 h 3 r := ca 3 (by omega)
  have a4 : zr h 55 (nI r) = vC 51 h 4 r := ca 4 (by omega)
  have b2 : zr h 24 (nI r) = h.2.1 112 r := by rw [zr_n h 24 (by omega), zf, R.2.1.1]
  have b3 : zr h 25 (nI r) = h.2.1 113 r := by rw [zr_n h 25 (by omega), zf, R.2.1.2.1]
  obtain ⟨k1, k2⟩ := hb_50 (h := h) hr
  have hbe : hbI_50 (vC 51 h) r 3 = hbI_37 (vC 51 h) r 3 := rfl
  unfold tOf
  rw [if_pos c]
  refine ⟨?_, ?_⟩
  · unfold f_Course_ofRaft_50_ok f_Course_leak_50_ok
    exact ⟨fun _ => i10, fun _ => ⟨fun _ => i10, fun _ => ⟨fun _ => i10, fun _ => ⟨fun _ => i10, fun _ => ⟨fun _ => i10, fun _ => ⟨fun _ => i10, fun _ => ⟨fun _ => k1, fun _ => ⟨fun _ => i10, fun _ => trivial⟩⟩⟩⟩⟩⟩⟩⟩
  · unfold f_Course_ofRaft_50 f_Course_leak_50 lek
    rw [a0, a1, a2, a3, a4, b2, b3, k2, hbe]
theorem c_would {ns nf nr nt n e w : Nat} {h : zm_H} (W : I_now w h) (H : I_rl ns nf h) (R : I_rf w nr h) (S : I_sw w n e h) (T : I_th nr nt h) (A : I_an nf nr nt n e w h) (p1 p2 : Int32) : f_N_would_ok p1 p2 h ∧ f_M_would_ok p1 p2 (f_N_would p1 p2 h).2 ∧ (f_N_would p1 p2 h).1 = (f_M_would p1 p2 (f_N_would p1 p2 h).2).1 ∧ I_an nf nr nt n e w (f_M_would p1 p2 (f_N_would p1 p2 h).2).2 ∧ vM 0 (f_M_would p1 p2 (f_N_would p1 p2 h).2).2 = vM 0 h := by
  obtain ⟨w1, w2, w3⟩ := id W
  have hnr := R.1.1
  have bw : (nI nr).toInt = nr := i_nI (by omega)
  have bw1 : (nI nr - 1).toInt = nr - 1 := by rw [i_sub (by rw [bw, i_1]; omega) (by rw [bw, i_1]; omega), bw, i_1]
  have q : (¬ (p1 < 0) ∧ (¬ (nI nr ≤ p1))) ↔ (¬ (p1 < 0) ∧ (¬ (nI nr - 1 < p1))) := by rw [i_lt, i_lt, i_le, bw, bw1]; omega
  obtain ⟨b, eb⟩ : ∃ b, b = if w = 480 then 479 else w := ⟨_, rfl⟩
  obtain ⟨f1, f2, hb⟩ := ft_now w1 S eb
  obtain ⟨f3, f4⟩ := ft_w w1 S
  by_cases c : ((¬ (p1 < 0) ∧ (¬ (nI nr ≤ p1))) ∧ ¬ w = 0) ∧ (p2 = 0 ∨ p2 = 4 ∨ p2 = 6)
  · obtain ⟨⟨c1, c2⟩, c3⟩ := c
    have c' := c1
    rw [i_lt, i_le, i_0, bw] at c'
    obtain ⟨r, hr, rfl⟩ := i_ex (a := p1) (N := nr) (by omega) (by omega)
    have c10 : p2 < 10 := by rcases c3 with z | z | z <;> rw [z] <;> decide
    have n0 : ¬ nI w = 0 := fun z => c2 (nI_inj (by omega) (by omega) (show nI w = nI 0 from z))
    obtain ⟨y, ey⟩ : ∃ y, y = f_N_goAnew (nI (w - 1)) (nI w) h := ⟨_, rfl⟩
    obtain ⟨x, ex⟩ : ∃ x, x = f_M_anew (nI (w - 1)) (nI b) y := ⟨_, rfl⟩
    obtain ⟨k1, k2, k3, k4, k5, k6, -⟩ := an_both W H R S T A (show w - 1 < w by omega) (f1.trans f3.symm) (f2.trans f4.symm) ey ex
    have ew : nI w - 1 = nI (w - 1) := by rw [show (1 : Int32) = nI 1 from rfl, nI_s0 _ _ (by omega)]
    have yw := f_N_goAnew_w (nI (w - 1)) (nI w) h
    have xw := f_M_anew_w (nI (w - 1)) (nI b) y
    rw [← ey] at yw
    rw [← ex] at xw
    have Ry : I_rf w nr y := I_rf_w yw (by decide) R
    obtain ⟨o1, o2⟩ := orf_50 Ry (show r < 10 by omega) p2 c10
    have ek : f_N_would_k32 (nI r) p2 h = (tOf (vC 51 y) (y.2.1 112) (y.2.1 113) r p2, y) := by
      unfold f_N_would_k32 f_N_would_k46
      rw [w2, ew, ← ey, o2]
    have ok : f_N_would_k32_ok (nI r) p2 h := by
      unfold f_N_would_k32_ok f_N_would_k46_ok
      rw [w2, ew, ← ey]
      exact ⟨k1, o1⟩
    have eN : f_N_would (nI r) p2 h = (tOf (vC 51 y) (y.2.1 112) (y.2.1 113) r p2, y) := by
      unfold f_N_would
      rw [R.1.2.1, w2, if_pos c1, if_neg n0, ek]
      rcases c3 with z | z | z
      · rw [if_pos z]
      · rw [if_neg (by rw [z]; decide), if_pos z]
      · rw [if_neg (by rw [z]; decide), if_neg (by rw [z]; decide), if_pos z]
    have oN : f_N_would_ok (nI r) p2 h := by
      unfold f_N_would_ok
      exact ⟨fun _ => ⟨fun _ => trivial, fun _ => ⟨fun _ => ok, fun _ => ⟨fun _ => ok, fun _ => ⟨fun _ => ok, fun _ => trivial⟩⟩⟩⟩, fun _ => trivial⟩
    rw [eN]
    dsimp only
    have y3 : zf y 92 23 = nI w := (yw.fld 92 23 (by decide) (by decide)).trans w3
    obtain ⟨m1, m2⟩ := tof_M (h := x) (L := 1) (by omega) (show r < 10 by omega) p2
    rw [show nI 1 = (1 : Int32) from rfl] at m1 m2
    have ekM : f_M_would_k32 (nI r) p2 y = (tOf (vM 1 x) (x.2.1 112) (x.2.1 113) r p2, x) := by
      unfold f_M_would_k32 f_M_would_k46
      rw [y3, lkn w1 eb, ew, ← ex, m2]
    have okM : f_M_would_k32_ok (nI r) p2 y := by
      unfold f_M_would_k32_ok f_M_would_k46_ok
      rw [y3, lkn w1 eb, ew, ← ex]
      exact ⟨k2, m1⟩
    have eM : f_M_would (nI r) p2 y = (tOf (vM 1 x) (x.2.1 112) (x.2.1 113) r p2, x) := by
      unfold f_M_would
      rw [Ry.1.2.2, y3, if_pos (q.mp c1), if_neg n0, ekM]
      rcases c3 with z | z | z
      · rw [if_pos z]
      · rw [if_neg (by rw [z]; decide), if_pos z]
      · rw [if_neg (by rw [z]; decide), if_neg (by rw [z]; decide), if_pos z]
    have oM : f_M_would_ok (nI r) p2 y := by
      unfold f_M_would_ok
      exact ⟨fun _ => ⟨fun _ => trivial, fun _ => ⟨fun _ => okM, fun _ => ⟨fun _ => okM, fun _ => ⟨fun _ => okM, fun _ => trivial⟩⟩⟩⟩, fun _ => trivial⟩
    rw [eM]
    refine ⟨oN, oM, ?_, k4, k5⟩
    dsimp only
    rw [k6 (by omega), xw.arr 112 (by decide) (by decide), xw.arr 113 (by decide) (by decide)]
  · have eN : f_N_would p1 p2 h = (-1, h) := by
      unfold f_N_would
      rw [R.1.2.1, w2]
      by_cases z1 : ¬ (p1 < 0) ∧ (¬ (nI nr ≤ p1))
      · rw [if_pos z1]
        by_cases z2 : nI w = 0
        · rw [if_pos z2]
        · rw [if_neg z2]
          have n0 : ¬ w = 0 := fun z => z2 (by rw [z]; rfl)
          rw [if_neg (fun z => c ⟨⟨z1, n0⟩, Or.inl z⟩), if_neg (fun z => c ⟨⟨z1, n0⟩, Or.inr (Or.inl z)⟩), if_neg (fun z => c ⟨⟨z1, n0⟩, Or.inr (Or.inr z)⟩)]
      · rw [if_neg z1]
    have oN : f_N_would_ok p1 p2 h := by
      unfold f_N_would_ok
      rw [R.1.2.1, w2]
      have no : (¬ (p1 < 0) ∧ (¬ (nI nr ≤ p1))) → ¬ nI w = 0 → ¬ (p2 = 0 ∨ p2 = 4 ∨ p2 = 6) := fun z1 z2 z3 => c ⟨⟨z1, fun z => z2 (by rw [z]; rfl)⟩, z3⟩
      exact ⟨fun z1 => ⟨fun _ => trivial, fun z2 => ⟨fun z => absurd (Or.inl z) (no z1 z2), fun _ => ⟨fun z => absurd (Or.inr (Or.inl z)) (no z1 z2), fun _ => ⟨fun z => absurd (Or.inr (Or.inr z)) (no z1 z2), fun _ => trivial⟩⟩⟩⟩, fun _ => trivial⟩
    have eM : f_M_would p1 p2 h = (-1, h) := by
      unfold f_M_would
      rw [R.1.2.2, w3]
      by_cases z1 : ¬ (p1 < 0) ∧ (¬ (nI nr - 1 < p1))
      · rw [if_pos z1]
        by_cases z2 : nI w = 0
        · rw [if_pos z2]
        · rw [if_neg z2]
          have n0 : ¬ w = 0 := fun z => z2 (by rw [z]; rfl)
          rw [if_neg (fun z => c ⟨⟨q.mpr z1, n0⟩, Or.inl z⟩), if_neg (fun z => c ⟨⟨q.mpr z1, n0⟩, Or.inr (Or.inl z)⟩), if_neg (fun z => c ⟨⟨q.mpr z1, n0⟩, Or.inr (Or.inr z)⟩)]
      · rw [if_neg z1]
    have oM : f_M_would_ok p1 p2 h := by
      unfold f_M_would_ok
      rw [R.1.2.2, w3]
      have no : (¬ (p1 < 0) ∧ (¬ (nI nr - 1 < p1))) → ¬ nI w = 0 → ¬ (p2 = 0 ∨ p2 = 4 ∨ p2 = 6) := fun z1 z2 z3 => c ⟨⟨q.mpr z1, fun z => z2 (by rw [z]; rfl)⟩, z3⟩
      exact ⟨fun z1 => ⟨fun _ => trivial, fun z2 => ⟨fun z => absurd (Or.inl z) (no z1 z2), fun _ => ⟨fun z => absurd (Or.inr (Or.inl z)) (no z1 z2), fun _ => ⟨fun z => absurd (Or.inr (Or.inr z)) (no z1 z2), fun _ => trivial⟩⟩⟩⟩, fun _ => trivial⟩
    rw [eN]
    dsimp only
    rw [eM]
    exact ⟨oN, oM, rfl, A, rfl⟩
