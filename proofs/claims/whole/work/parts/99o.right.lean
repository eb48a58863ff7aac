/-! ===== right, owed, would ===== -/
def spv (a b c : Nat → Int32) (k : Nat) (p : Int32) : Int32 := if p = 0 then a k else if p = 1 then b k else if p < 10 then -2147483648 else if 20 ≤ p then -2147483648 else c (10 * k + (p.toNatClampNeg - 10))
theorem spv_ix {k : Nat} (hk : k < 480) {p : Int32} (c1 : ¬ p < 10) (c2 : ¬ 20 ≤ p) : nI k * 10 + p - 10 = nI (10 * k + (p.toNatClampNeg - 10)) ∧ 10 * nI k + p - 10 = nI (10 * k + (p.toNatClampNeg - 10)) ∧ p.toNatClampNeg - 10 < 10 := by
  have i10 : (10 : Int32).toInt = 10 := rfl
  have i20 : (20 : Int32).toInt = 20 := rfl
  rw [i_lt, i10] at c1
  rw [i_le, i20] at c2
  obtain ⟨x, hx, rfl⟩ := i_ex (a := p) (N := 20) (by omega) (by omega)
  have ix : (nI x).toInt = x := i_nI (by omega)
  rw [nI_c (by omega)]
  refine ⟨?_, ?_, by omega⟩
  · rw [show (10 : Int32) = nI 10 from rfl, pk_mul, nI_add, nI_s0 _ _ (by omega), show k * 10 + x - 10 = 10 * k + (x - 10) by omega]
  · rw [show (10 : Int32) = nI 10 from rfl, pk_mul, nI_add, nI_s0 _ _ (by omega), show 10 * k + x - 10 = 10 * k + (x - 10) by omega]
theorem os_50 {k : Nat} (hk : k < 480) (p : Int32) (h : zm_H) : f_Course_ofSpell_50_ok (nI k) p h ∧ f_Course_ofSpell_50 (nI k) p h = spv (h.2.1 60) (h.2.1 61) (h.2.1 62) k p := by
  have ik : vp_in (nI k) 480 := vp_in_nI hk (by omega)
  unfold f_Course_ofSpell_50_ok f_Course_ofSpell_50 spv
  rw [zr_n h 60 (by omega), zr_n h 61 (by omega)]
  refine ⟨⟨fun _ => ik, fun _ => ⟨fun _ => ik, fun _ => ⟨fun _ => trivial, fun c1 => ⟨fun _ => trivial, fun c2 => ?_⟩⟩⟩⟩, ?_⟩
  · obtain ⟨a, -, b⟩ := spv_ix hk c1 c2
    rw [a]; exact vp_in_nI (by omega) (by omega)
  · by_cases c0 : p = 0
    · rw [if_pos c0, if_pos c0]
    · rw [if_neg c0, if_neg c0]
      by_cases d0 : p = 1
      · rw [if_pos d0, if_pos d0]
      · rw [if_neg d0, if_neg d0]
        by_cases c1 : p < 10
        · rw [if_pos c1, if_pos c1]
        · rw [if_neg c1, if_neg c1]
          by_cases c2 : 20 ≤ p
          · rw [if_pos c2, if_pos c2]
          · rw [if_neg c2, if_neg c2]
            obtain ⟨a, -, b⟩ := spv_ix hk c1 c2
            rw [a, zr_n h 62 (by omega)]
theorem ask_iff (p : Int32) : ((¬ (p < 0) ∧ (¬ (1 < p))) ∨ (¬ (p < 10) ∧ (¬ (19 < p)))) ↔ (p = 0 ∨ p = 1 ∨ (¬ p < 10 ∧ ¬ 20 ≤ p)) := by
  have i10 : (10 : Int32).toInt = 10 := rfl
  have i19 : (19 : Int32).toInt = 19 := rfl
  have i20 : (20 : Int32).toInt = 20 := rfl
  rw [i_eq, i_eq, i_lt, i_lt, i_lt, i_lt, i_le, i_0, i_1, i10, i19, i20]
  omega
theorem rk_M {k : Nat} (hk : k < 480) {p : Int32} (hp : p = 0 ∨ p = 1 ∨ (¬ p < 10 ∧ ¬ 20 ≤ p)) (h : zm_H) : f_M_right_k37_ok (nI k) p h ∧ f_M_right_k37 (nI k) p h = (spv (h.2.1 134) (h.2.1 135) (h.2.1 136) k p, h) := by
  have ik : vp_in (nI k) 480 := vp_in_nI hk (by omega)
  unfold f_M_right_k37_ok f_M_right_k37 spv
  rw [zr_n h 134 (by omega), zr_n h 135 (by omega)]
  by_cases c0 : p = 0
  · rw [if_pos c0, if_pos c0]
    exact ⟨⟨fun _ => ik, fun z => absurd c0 z⟩, rfl⟩
  · rw [if_neg c0, if_neg c0]
    by_cases d0 : p = 1
    · rw [if_pos d0, if_pos d0]
      exact ⟨⟨fun _ => ik, fun _ => ⟨fun _ => ik, fun z => absurd d0 z⟩⟩, rfl⟩
    · rw [if_neg d0, if_neg d0]
      obtain ⟨c1, c2⟩ : ¬ p < 10 ∧ ¬ 20 ≤ p := by
        rcases hp with z | z | z
        · exact absurd z c0
        · exact absurd z d0
        · exact z
      obtain ⟨-, a, b⟩ := spv_ix hk c1 c2
      rw [if_neg c1, if_neg c2, a, zr_n h 136 (by omega)]
      exact ⟨⟨fun _ => ik, fun _ => ⟨fun _ => ik, fun _ => vp_in_nI (by omega) (by omega)⟩⟩, rfl⟩
theorem spv_no {a b c : Nat → Int32} {k : Nat} {p : Int32} (hp : ¬ (p = 0 ∨ p = 1 ∨ (¬ p < 10 ∧ ¬ 20 ≤ p))) : spv a b c k p = -2147483648 := by
  unfold spv
  rw [if_neg (fun z => hp (Or.inl z)), if_neg (fun z => hp (Or.inr (Or.inl z)))]
  by_cases c1 : p < 10
  · rw [if_pos c1]
  · rw [if_neg c1]
    by_cases c2 : 20 ≤ p
    · rw [if_pos c2]
    · exact absurd (Or.inr (Or.inr ⟨c1, c2⟩)) hp
theorem spv_eq {a b c a' b' c' : Nat → Int32} {k : Nat} {p : Int32} (ha : a k = a' k) (hb : b k = b' k) (hc : ∀ j, j < 10 → c (10 * k + j) = c' (10 * k + j)) : spv a b c k p = spv a' b' c' k p := by
  unfold spv
  rw [ha, hb]
  by_cases c0 : p = 0
  · rw [if_pos c0, if_pos c0]
  · rw [if_neg c0, if_neg c0]
    by_cases d0 : p = 1
    · rw [if_pos d0, if_pos d0]
    · rw [if_neg d0, if_neg d0]
      by_cases c1 : p < 10
      · rw [if_pos c1, if_pos c1]
      · rw [if_neg c1, if_neg c1]
        by_cases c2 : 20 ≤ p
        · rw [if_pos c2, if_pos c2]
        · rw [if_neg c2, if_neg c2]
          have i10 : (10 : Int32).toInt = 10 := rfl
          have i20 : (20 : Int32).toInt = 20 := rfl
          rw [i_lt, i10] at c1
          rw [i_le, i20] at c2
          obtain ⟨x, hx, rfl⟩ := i_ex (a := p) (N := 20) (by omega) (by omega)
          rw [nI_c (by omega)]
          exact hc _ (by omega)
def raF (W : List Nat) (F : List (Nat × Nat)) : Bool := W.all (fun i => !(([50, 51, 52, 53, 54, 55, 56, 57, 58, 60, 61, 62] : List Nat).contains i)) && F.all (fun p => !(([50, 51, 52, 53, 54, 55, 56, 57, 58, 60, 61, 62] : List Nat).contains p.1))
theorem rA_y {nf nr nt q d G : Nat} {W : List Nat} {F : List (Nat × Nat)} (hw : raF W F = true) {h x y : zm_H} (z : zWr W F x y) (A : rA nf nr nt q d G h x) : rA nf nr nt q d G h y := by
  unfold raF at hw
  rw [Bool.and_eq_true, List.all_eq_true, List.all_eq_true] at hw
  have a : ∀ i, i ∈ [50, 51, 52, 53, 54, 55, 56, 57, 58, 60, 61, 62] → y.2.1 i = x.2.1 i := by
    intro i hi
    refine z.arr i (fun v => ?_) (fun p hp v => ?_)
    · have := hw.1 i v
      rw [List.contains_iff_mem.mpr hi] at this
      exact absurd this (by decide)
    · have := hw.2 p hp
      rw [v, List.contains_iff_mem.mpr hi] at this
      exact absurd this (by decide)
  obtain ⟨b1, b2, b3, b4⟩ := A
  refine ⟨?_, ?_, ?_, ?_⟩
  · rw [zf, a 50 (by simp)]; exact b1
  · rw [zf, a 50 (by simp)]; exact b2
  · rw [← b3]; exact vC_eq (fun i hi => a (51 + i) (by simp; omega))
  · rw [a 60 (by simp), a 61 (by simp), a 62 (by simp)]; exact b4
theorem I_an_w {nf nr nt n e w : Nat} {W : List Nat} {F : List (Nat × Nat)} (hw : (anF W F && raF W F && W.all (fun i => i != 0) && F.all (fun p => p != (0, 10) && p != (0, 11))) = true) {h h' : zm_H} (z : zWr W F h h') (A : I_an nf nr nt n e w h) : I_an nf nr nt n e w h' := by
  rw [Bool.and_eq_true, Bool.and_eq_true, Bool.and_eq_true, List.all_eq_true, List.all_eq_true] at hw
  obtain ⟨⟨⟨a, b⟩, c⟩, f⟩ := hw
  obtain ⟨q, d, G, c1, c2, c3, c4, c5, c6⟩ := A
  have n0 : 0 ∉ W := fun v => by have := c 0 v; simp at this
  refine ⟨q, d, G, c1, c2, c3, ?_, ?_, rA_y b z (rA_w a z c6)⟩
  · rw [← c4]; exact z.fld 0 10 n0 (fun v => by have := f _ v; simp at this)
  · rw [← c5]; exact z.fld 0 11 n0 (fun v => by have := f _ v; simp at this)
/-- both go anew; then both stand alike -/
theorem an_both {ns nf nr nt n e w : Nat} {h : zm_H} (W : I_now w h) (H : I_rl ns nf h) (R : I_rf w nr h) (S : I_sw w n e h) (T : I_th nr nt h) (A : I_an nf nr nt n e w h) {sp : Nat} (hsp : sp < w) {a : Int32} {b : Nat} (eq : ft (h.2.1 107) (nI b) n = ft (h.2.1 107) a n) (ed : ft (h.2.1 111) (nI b) e = ft (h.2.1 111) a e) {y x : zm_H} (ey : y = f_N_goAnew (nI sp) a h) (ex : x = f_M_anew (nI sp) (nI b) y) :
    f_N_goAnew_ok (nI sp) a h ∧ f_M_anew_ok (nI sp) (nI b) y ∧ I_an nf nr nt n e w y ∧ I_an nf nr nt n e w x ∧ vM 0 x = vM 0 h ∧ (sp + 1 = w → vC 51 y = vM 1 x) ∧ ∀ t, t ≤ sp → y.2.1 60 t = x.2.1 134 t ∧ y.2.1 61 t = x.2.1 135 t ∧ ∀ c, c < 10 → y.2.1 62 (10 * t + c) = x.2.1 136 (10 * t + c) := by
  obtain ⟨q, hq⟩ : ∃ q, q = ft (h.2.1 107) a n := ⟨_, rfl⟩
  obtain ⟨d, hd⟩ : ∃ d, d = ft (h.2.1 111) a e := ⟨_, rfl⟩
  have w480 : w ≤ 480 := W.1
  have yw := f_N_goAnew_w (nI sp) a h
  have xw := f_M_anew_w (nI sp) (nI b) y
  obtain ⟨g1, G, g2, g3, g4, g5, g6⟩ := gan_N W H R S T A hsp a hq hd
  rw [← ey] at yw g4 g5 g6
  rw [← ex] at xw
  have hF : anF [21, 22, 32, 33, 34, 35, 36, 51, 52, 53, 54, 55, 56, 57, 58, 59, 60, 61, 62] [(0, 10), (0, 11), (15, 9), (50, 3), (50, 4)] = true := by decide
  have e107 : y.2.1 107 = h.2.1 107 := yw.arr 107 (by decide) (by decide)
  have e111 : y.2.1 111 = h.2.1 111 := yw.arr 111 (by decide) (by decide)
  obtain ⟨m1, m2, m3, m4⟩ := an_M (ns := ns) (nf := nf) (nt := nt) (I_rl_w (by decide) yw H) (I_rf_w yw (by decide) R) (I_sw_z (yw.eq (by decide) (by decide)) S) (I_th_w yw (by decide) T) (show sp < 480 by omega) (a := b) (show q = ft (y.2.1 107) (nI b) n by rw [e107, eq]; exact hq) (show d = ft (y.2.1 111) (nI b) e by rw [e111, ed]; exact hd)
  rw [← ex] at m2 m3 m4
  have hqn : q ≤ n := by rw [hq]; exact ft_le _ _ _
  have hdn : d ≤ e := by rw [hd]; exact ft_le _ _ _
  have Ay : I_an nf nr nt n e w y := ⟨q, d, G, hqn, hdn, g3, g4, g5, rA_w hF yw g6⟩
  have v0 : vM 0 y = vM 0 h := vM_eq (fun i hi => yw.arr i (by simp at hi ⊢; omega) (by simp at hi ⊢; omega)) (yw.2 127 (by decide)).2.1
  refine ⟨g1, m1, Ay, I_an_w (by decide) xw Ay, m2.trans v0, fun es => ?_, fun t ht => ?_⟩
  · have eG : G = sp + 1 := by omega
    rw [g6.2.2.1, m3, eG, (anH_w hF yw _).1]
  · obtain ⟨r1, r2, r3⟩ := g6.2.2.2 t (by omega)
    obtain ⟨s1, s2, s3⟩ := m4 t ht
    refine ⟨?_, ?_, fun c hc => ?_⟩
    · rw [r1, s1, (anH_w hF yw t).2.2.1]
    · rw [r2, s2, (anH_w hF yw t).2.2.2.1]
    · rw [r3 c hc, s3 c hc, (anH_w hF yw t).2.2.2.2]
theorem c_right {ns nf nr nt n e w : Nat} {h : zm_H} (W : I_now w h) (H : I_rl ns nf h) (R : I_rf w nr h) (S : I_sw w n e h) (T : I_th nr nt h) (A : I_an nf nr nt n e w h) (p1 p2 p3 : Int32) : f_N_right_ok p1 p2 p3 h ∧ f_M_right_ok p1 p2 p3 (f_N_right p1 p2 p3 h).2 ∧ (f_N_right p1 p2 p3 h).1 = (f_M_right p1 p2 p3 (f_N_right p1 p2 p3 h).2).1 ∧ I_an nf nr nt n e w (f_M_right p1 p2 p3 (f_N_right p1 p2 p3 h).2).2 ∧ vM 0 (f_M_right p1 p2 p3 (f_N_right p1 p2 p3 h).2).2 = vM 0 h := by
  obtain ⟨w1, w2, w3⟩ := id W
  have bw : (nI w).toInt = w := i_nI (by omega)
  have bw1 : (nI w - 1).toInt = w - 1 := by rw [i_sub (by rw [bw, i_1]; omega) (by rw [bw, i_1]; omega), bw, i_1]
  have i480 : (480 : Int32).toInt = 480 := rfl
  have i479 : (479 : Int32).toInt = 479 := rfl
  have wN := f_N_right_w p1 p2 p3 h
  by_cases c : (0 ≤ p1.toInt ∧ p1.toInt < w) ∧ (0 ≤ p2.toInt ∧ p2.toInt < 480) ∧ p1.toInt ≤ p2.toInt ∧ p2.toInt ≤ w
  · obtain ⟨⟨c1, c2⟩, ⟨c3, c4⟩, c5, c6⟩ := c
    obtain ⟨sp, hsp, rfl⟩ := i_ex (a := p1) (N := w) c1 (by omega)
    obtain ⟨b, hb, rfl⟩ := i_ex (a := p2) (N := 480) c3 (by omega)
    rw [i_nI (show sp < 2147483648 by omega)] at c5
    rw [i_nI (show b < 2147483648 by omega)] at c5 c6
    obtain ⟨y, ey⟩ : ∃ y, y = f_N_goAnew (nI sp) (nI b) h := ⟨_, rfl⟩
    obtain ⟨x, ex⟩ : ∃ x, x = f_M_anew (nI sp) (nI b) y := ⟨_, rfl⟩
    obtain ⟨k1, k2, k3, k4, k5, -, k7⟩ := an_both W H R S T A hsp rfl rfl ey ex
    have g1 : ¬ (nI sp < 0) ∧ (¬ (nI w ≤ nI sp)) := by rw [i_lt, i_0, nx_le (by omega) (by omega), i_nI (by omega)]; omega
    have g2 : ¬ (nI b < 0) ∧ (¬ (480 ≤ nI b)) := by rw [i_lt, i_0, i_le, i480, i_nI (by omega)]; omega
    have g3 : ¬ (nI b < nI sp) := by rw [i_lt, i_nI (by omega), i_nI (by omega)]; omega
    have g4 : nI b ≤ nI w := by rw [nx_le (by omega) (by omega)]; omega
    obtain ⟨o1, o2⟩ := os_50 (show sp < 480 by omega) p3 y
    have eN : f_N_right (nI sp) (nI b) p3 h = (spv (y.2.1 60) (y.2.1 61) (y.2.1 62) sp p3, y) := by
      unfold f_N_right f_N_right_k37
      rw [w2, if_pos g1, if_pos g2, if_neg g3, if_pos g4, ← ey, o2]
    have oN : f_N_right_ok (nI sp) (nI b) p3 h := by
      unfold f_N_right_ok f_N_right_k37_ok
      rw [w2, ← ey]
      exact ⟨fun _ => ⟨fun _ => ⟨fun z => absurd z g3, fun _ => ⟨fun _ => ⟨k1, o1⟩, fun _ => trivial⟩⟩, fun _ => trivial⟩, fun _ => trivial⟩
    rw [eN] at wN ⊢
    dsimp only at wN ⊢
    have y3 : zf y 92 23 = nI w := (wN.fld 92 23 (by decide) (by decide)).trans w3
    have m1 : ¬ (nI sp < 0) ∧ (¬ (nI w - 1 < nI sp)) := by rw [i_lt, i_lt, i_0, bw1, i_nI (by omega)]; omega
    have m2 : ¬ (nI b < nI sp) ∧ (¬ ((if (480 ≤ nI w) then (479 : Int32) else nI w) < nI b)) := by
      refine ⟨g3, ?_⟩
      by_cases z : (480 : Int32) ≤ nI w
      · rw [if_pos z, i_lt, i479, i_nI (by omega)]; omega
      · rw [if_neg z, i_lt, bw, i_nI (by omega)]; omega
    unfold f_M_right f_M_right_ok
    rw [y3, if_pos m1, if_pos m2, ← ex]
    by_cases hp : p3 = 0 ∨ p3 = 1 ∨ (¬ p3 < 10 ∧ ¬ 20 ≤ p3)
    · obtain ⟨r1, r2⟩ := rk_M (show sp < 480 by omega) hp x
      rw [if_pos ((ask_iff p3).mpr hp), r2]
      obtain ⟨s1, s2, s3⟩ := k7 sp (Nat.le_refl _)
      exact ⟨oN, ⟨fun _ => ⟨fun _ => ⟨fun _ => ⟨k2, r1⟩, fun _ => trivial⟩, fun _ => trivial⟩, fun _ => trivial⟩, spv_eq s1 s2 s3, k4, k5⟩
    · rw [if_neg (fun z => hp ((ask_iff p3).mp z)), spv_no hp]
      have v0 : vM 0 y = vM 0 h := vM_eq (fun i hi => wN.arr i (by simp at hi ⊢; omega) (by simp at hi ⊢; omega)) (wN.2 127 (by decide)).2.1
      exact ⟨oN, ⟨fun _ => ⟨fun _ => ⟨fun z => absurd ((ask_iff p3).mp z) hp, fun _ => trivial⟩, fun _ => trivial⟩, fun _ => trivial⟩, rfl, k3, v0⟩
  · have eN : f_N_right p1 p2 p3 h = (-2147483648, h) := by
      unfold f_N_right
      rw [w2]
      repeat' split
      all_goals first | rfl | (exfalso; apply c; simp only [i_lt, i_le, i_0, i480, bw] at *; omega)
    have eM : f_M_right p1 p2 p3 h = (-2147483648, h) := by
      unfold f_M_right
      rw [w3]
      by_cases m1 : ¬ (p1 < 0) ∧ (¬ (nI w - 1 < p1))
      · rw [if_pos m1]
        rw [i_lt, i_lt, i_0, bw1] at m1
        rw [if_neg]
        rintro ⟨z1, z2⟩
        rw [i_lt] at z1
        apply c
        by_cases z : (480 : Int32) ≤ nI w
        · rw [if_pos z, i_lt, i479] at z2
          rw [i_le, i480, bw] at z
          omega
        · rw [if_neg z, i_lt, bw] at z2
          rw [i_le, i480, bw] at z
          omega
      · rw [if_neg m1]
    rw [eN]
    dsimp only
    rw [eM]
    refine ⟨?_, ?_, rfl, A, rfl⟩
    · unfold f_N_right_ok
      rw [w2]
      refine ⟨fun z1 => ⟨fun z2 => ⟨fun _ => trivial, fun z3 => ⟨fun z4 => ?_, fun _ => trivial⟩⟩, fun _ => trivial⟩, fun _ => trivial⟩
      exact absurd (by simp only [i_lt, i_le, i_0, i480, bw] at z1 z2 z3 z4; omega) c
    · unfold f_M_right_ok
      rw [w3]
      refine ⟨fun z1 => ⟨fun z2 => ?_, fun _ => trivial⟩, fun _ => trivial⟩
      exfalso
      apply c
      rw [i_lt, i_lt, i_0, bw1] at z1
      obtain ⟨z2, z3⟩ := z2
      rw [i_lt] at z2
      by_cases z : (480 : Int32) ≤ nI w
      · rw [if_pos z, i_lt, i479] at z3
        rw [i_le, i480, bw] at z
        omega
      · rw [if_neg z, i_lt, bw] at z3
        rw [i_le, i480, bw] at z
        omega
