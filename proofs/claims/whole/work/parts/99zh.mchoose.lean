/-! ===== a LAYING: which rafts, the model; places are told once ===== -/
theorem mi_M {m k D : Nat} (hk : k < m) (hm : m ≤ 3) {x : zm_H} (e : ∀ i, i < k + 1 → x.2.1 159 (m - 1 - i) = nI (qd 10 D i)) (v3 v4 v5 v6 : Int32) {F : Nat} (eF : F = zF) : f_M_laying_l92_l153_ok (nI m) v3 v4 v5 v6 (nI (m - 1 - k)) x F (nI (m - 1 - k) + 1) ∧ (((f_M_laying_l92_l153 (nI m) v3 v4 v5 v6 (nI (m - 1 - k)) x F (nI (m - 1 - k) + 1)).1 = 1 ∧ ∃ i, i < k ∧ qd 10 D i = qd 10 D k) ∨ ((f_M_laying_l92_l153 (nI m) v3 v4 v5 v6 (nI (m - 1 - k)) x F (nI (m - 1 - k) + 1)).1 = 2 ∧ ∀ i, i < k → ¬ qd 10 D i = qd 10 D k)) := by
  have e0 : nI (m - 1 - k) + 1 = nI (m - k + 0) := by rw [← nI_succ, show m - 1 - k + 1 = m - k + 0 by omega]
  rw [e0]
  have l10 : ∀ i, qd 10 D i < 10 := fun i => Nat.mod_lt _ (by omega)
  have key := zlpF eF (b := fun t => f_M_laying_l92_l153_b (nI m) v3 v4 v5 v6 (nI (m - 1 - k)) t x) (o := fun t => f_M_laying_l92_l153_b_ok (nI m) v3 v4 v5 v6 (nI (m - 1 - k)) t x) k (by omega)
    (fun j s => s = nI (m - k + j) ∧ ∀ i, k - j ≤ i → i < k → ¬ qd 10 D i = qd 10 D k)
    (fun r => (r.1 = 1 ∧ ∃ i, i < k ∧ qd 10 D i = qd 10 D k) ∨ (r.1 = 2 ∧ ∀ i, i < k → ¬ qd 10 D i = qd 10 D k)) (nI (m - k + 0))
    ⟨rfl, fun i h1 h2 => by omega⟩
    (by
      rintro j s hj ⟨rfl, q⟩
      have g0 : ¬ (nI m ≤ nI (m - k + j)) := by rw [nx_le (by omega) (by omega)]; omega
      have i1 : vp_in (nI (m - k + j)) 3 := vp_in_nI (by omega) (by omega)
      have i2 : vp_in (nI (m - 1 - k)) 3 := vp_in_nI (by omega) (by omega)
      have x1 : zr x 159 (nI (m - k + j)) = nI (qd 10 D (k - 1 - j)) := by
        rw [zr_n x 159 (by omega)]
        have := e (k - 1 - j) (by omega)
        rw [show m - 1 - (k - 1 - j) = m - k + j by omega] at this
        exact this
      have x2 : zr x 159 (nI (m - 1 - k)) = nI (qd 10 D k) := by rw [zr_n x 159 (by omega)]; exact e k (by omega)
      show f_M_laying_l92_l153_b_ok (nI m) v3 v4 v5 v6 (nI (m - 1 - k)) (nI (m - k + j)) x ∧ _
      unfold f_M_laying_l92_l153_b f_M_laying_l92_l153_b_ok
      rw [if_neg g0, x1, x2, ← nI_succ]
      refine ⟨⟨fun z => absurd z g0, fun _ => ⟨i1, i2⟩⟩, ?_⟩
      by_cases c : nI (qd 10 D (k - 1 - j)) = nI (qd 10 D k)
      · rw [if_pos c]
        have := l10 (k - 1 - j)
        have := l10 k
        exact Or.inr ⟨by simp, Or.inl ⟨rfl, k - 1 - j, by omega, nI_inj (by omega) (by omega) c⟩⟩
      · rw [if_neg c]
        refine Or.inl ⟨rfl, by rw [show m - k + j + 1 = m - k + (j + 1) by omega], fun i h1 h2 z => ?_⟩
        by_cases y : i = k - 1 - j
        · rw [y] at z; exact c (by rw [z])
        · exact q i (by omega) h2 z)
    (by
      rintro s ⟨rfl, q⟩
      have g0 : nI m ≤ nI (m - k + k) := by rw [nx_le (by omega) (by omega)]; omega
      show f_M_laying_l92_l153_b_ok (nI m) v3 v4 v5 v6 (nI (m - 1 - k)) (nI (m - k + k)) x ∧ _
      unfold f_M_laying_l92_l153_b f_M_laying_l92_l153_b_ok
      rw [if_pos g0]
      exact ⟨⟨fun _ => trivial, fun z => absurd g0 z⟩, by simp, Or.inr ⟨rfl, fun i hi => q i (by omega) hi⟩⟩)
  exact key
theorem cr_M {nr m : Nat} (hnr : nr ≤ 10) (h1 : 1 ≤ m) (hm : m ≤ 3) {h : zm_H} (e33 : zf h 92 33 = nI nr) {p1 : Int32} (c0 : 0 ≤ p1.toInt) (v3 v4 v5 : Int32) {F : Nat} (eF : F = zF) : f_M_laying_l92_ok (nI m) v3 v4 v5 F (p1, nI m - 1, h) ∧ ((((f_M_laying_l92 (nI m) v3 v4 v5 F (p1, nI m - 1, h)).1 = 1 ∨ (f_M_laying_l92 (nI m) v3 v4 v5 F (p1, nI m - 1, h)).1 = 2) ∧ ¬ crG nr (h.2.1 123) p1.toNatClampNeg m) ∨ ((f_M_laying_l92 (nI m) v3 v4 v5 F (p1, nI m - 1, h)).1 = 3 ∧ crG nr (h.2.1 123) p1.toNatClampNeg m ∧ (f_M_laying_l92 (nI m) v3 v4 v5 F (p1, nI m - 1, h)).2.1 = nI (qv 10 p1.toNatClampNeg m) ∧ zWr [159] [] h (f_M_laying_l92 (nI m) v3 v4 v5 F (p1, nI m - 1, h)).2.2.2 ∧ ∀ i, i < m → (f_M_laying_l92 (nI m) v3 v4 v5 F (p1, nI m - 1, h)).2.2.2.2.1 159 i = nI (qd 10 p1.toNatClampNeg (m - 1 - i)))) := by
  obtain ⟨D, eD⟩ : ∃ D, D = p1.toNatClampNeg := ⟨_, rfl⟩
  have ep : p1 = nI D := by rw [eD]; exact i_of c0
  have hD : D < 2147483648 := by have := i_cl c0; have := i_hi p1; omega
  rw [← eD]
  have bw : (nI nr).toInt = nr := i_nI (by omega)
  have bw1 : (nI nr - 1).toInt = nr - 1 := by rw [i_sub (by rw [bw, i_1]; omega) (by rw [bw, i_1]; omega), bw, i_1]
  have key := zlpF eF (b := fun t => f_M_laying_l92_b (nI m) v3 v4 v5 t.1 t.2.1 t.2.2) (o := fun t => f_M_laying_l92_b_ok (nI m) v3 v4 v5 t.1 t.2.1 t.2.2) m (by omega)
    (fun k s => s.1 = nI (qv 10 D k) ∧ dnI s.2.1 m k ∧ zWr [159] [] h s.2.2 ∧ (∀ i, i < k → s.2.2.2.1 159 (m - 1 - i) = nI (qd 10 D i)) ∧ crG nr (h.2.1 123) D k)
    (fun r => ((r.1 = 1 ∨ r.1 = 2) ∧ ¬ crG nr (h.2.1 123) D m) ∨ (r.1 = 3 ∧ crG nr (h.2.1 123) D m ∧ r.2.1 = nI (qv 10 D m) ∧ zWr [159] [] h r.2.2.2 ∧ ∀ i, i < m → r.2.2.2.2.1 159 (m - 1 - i) = nI (qd 10 D i))) (p1, nI m - 1, h)
    ⟨by rw [ep, qv_0], i_pr h1 hm, zWr.refl _ _, fun i hi => by omega, fun k hk => by omega⟩
    (by
      rintro k ⟨v6, v7, x⟩ hk ⟨a1, a5, a6, a7, a8⟩
      dsimp only at a1 a5 a6 a7
      subst a1
      obtain ⟨d1, d2, d3, d4⟩ := dn_c1 hk hm a5
      obtain ⟨q1, q2, q3, q4⟩ := qd_n (B := 10) (by omega) (by omega) hD k
      rw [show nI 10 = (10 : Int32) from rfl] at q1 q2
      have x33 : zf x 92 33 = nI nr := (a6.fld 92 33 (by decide) (by decide)).trans e33
      have x123 : zr x 123 (nI (qd 10 D k)) = h.2.1 123 (qd 10 D k) := by rw [zr_n x 123 (by omega), zf, a6.arr 123 (by decide) (by decide)]
      have stp := crG_s (nr := nr) (S := h.2.1 123) (D := D) (j := k)
      have no : ¬ crG nr (h.2.1 123) D (k + 1) → ¬ crG nr (h.2.1 123) D m := fun z y => z (crG_m (Nat.succ_le_of_lt hk) y)
      rw [d1] at d2 d3 d4
      obtain ⟨y, ey⟩ : ∃ y, y = zm_si x 159 (m - 1 - k) (nI (qd 10 D k)) := ⟨_, rfl⟩
      have wy : zWr [159] [] h y := by rw [ey]; exact zWr_si (by decide) a6
      have y159 : zr y 159 (nI (m - 1 - k)) = nI (qd 10 D k) := by rw [zr_n y 159 (by omega), ey]; exact zm_in _ _ _ _
      have yall : ∀ i, i < k + 1 → y.2.1 159 (m - 1 - i) = nI (qd 10 D i) := fun i hi => by
        rw [ey, zf_si, if_pos rfl]
        by_cases e : i = k
        · rw [e, if_pos rfl]
        · rw [if_neg (by omega)]; exact a7 i (by omega)
      obtain ⟨m1, m2⟩ := mi_M hk hm yall v3 v4 v5 (nI (qv 10 D (k + 1))) eF
      show f_M_laying_l92_b_ok (nI m) v3 v4 v5 (nI (qv 10 D k)) v7 x ∧ _
      unfold f_M_laying_l92_b f_M_laying_l92_b_ok
      dsimp only
      rw [d1, if_neg d2, q1, q2, zs_n _ 159 _ (by omega), ← ey, y159, x33, x123, ← eF]
      have cc : (¬ (nI (qd 10 D k) < 0) ∧ ¬ (nI nr - 1 < nI (qd 10 D k))) ↔ qd 10 D k < nr := by
        rw [i_lt, i_lt, bw1, i_nI (by omega), i_0]; omega
      by_cases c1 : ¬ (nI (qd 10 D k) < 0) ∧ ¬ (nI nr - 1 < nI (qd 10 D k))
      · rw [if_pos c1]
        have c1' := cc.mp c1
        have iq : vp_in (nI (qd 10 D k)) 20 := vp_in_nI (by omega) (by omega)
        by_cases c2 : h.2.1 123 (qd 10 D k) = 0
        · rw [if_pos c2]
          obtain ⟨r, er⟩ : ∃ r, r = f_M_laying_l92_l153 (nI m) v3 v4 v5 (nI (qv 10 D (k + 1))) (nI (m - 1 - k)) y F (nI (m - 1 - k) + 1) := ⟨_, rfl⟩
          rw [← er] at m2 ⊢
          have ok : f_M_laying_l92_a153_ok (nI m) v3 v4 v5 (nI (qv 10 D (k + 1))) (nI (m - 1 - k)) r y := ⟨fun _ => trivial, fun _ => trivial⟩
          refine ⟨⟨fun z => absurd z d2, fun _ => ⟨d4, d4, fun _ => ⟨d4, iq, fun _ => ⟨m1, ok⟩, fun z => absurd c2 z⟩, fun z => absurd c1 z⟩⟩, ?_⟩
          unfold f_M_laying_l92_a153 f_M_laying_l92_k184
          rcases m2 with ⟨b1, i, hi, b2⟩ | ⟨b1, b2⟩
          · rw [if_pos b1]
            exact Or.inr ⟨by simp, Or.inl ⟨Or.inr rfl, no (fun z => (stp.mp z).2.2.2 i hi b2)⟩⟩
          · rw [if_neg (by rw [b1]; decide)]
            exact Or.inl ⟨rfl, rfl, d3, wy, yall, stp.mpr ⟨a8, c1', c2, b2⟩⟩
        · rw [if_neg c2]
          exact ⟨⟨fun z => absurd z d2, fun _ => ⟨d4, d4, fun _ => ⟨d4, iq, fun z => absurd z c2, fun _ => trivial⟩, fun z => absurd c1 z⟩⟩, Or.inr ⟨by simp, Or.inl ⟨Or.inl rfl, no (fun z => c2 (stp.mp z).2.2.1)⟩⟩⟩
      · rw [if_neg c1]
        exact ⟨⟨fun z => absurd z d2, fun _ => ⟨d4, d4, fun z => absurd z c1, fun _ => trivial⟩⟩, Or.inr ⟨by simp, Or.inl ⟨Or.inl rfl, no (fun z => c1 (cc.mpr (stp.mp z).2.1))⟩⟩⟩)
    (by
      rintro ⟨v6, v7, x⟩ ⟨a1, a5, a6, a7, a8⟩
      dsimp only at a1 a5 a6 a7
      subst a1
      have d0 := dn_c0 a5
      show f_M_laying_l92_b_ok (nI m) v3 v4 v5 (nI (qv 10 D m)) v7 x ∧ _
      unfold f_M_laying_l92_b f_M_laying_l92_b_ok
      dsimp only
      rw [if_pos d0]
      exact ⟨⟨fun _ => trivial, fun z => absurd d0 z⟩, by simp, Or.inr ⟨rfl, a8, rfl, a6, a7⟩⟩)
  refine ⟨key.1, ?_⟩
  rcases key.2 with z | ⟨z1, z2, z3, z4, z5⟩
  · exact Or.inl z
  · refine Or.inr ⟨z1, z2, z3, z4, fun i hi => ?_⟩
    have := z5 (m - 1 - i) (by omega)
    rw [show m - 1 - (m - 1 - i) = i by omega] at this
    exact this
/-- no place is told twice -/
def I_pd (np : Nat) (h : zm_H) : Prop := ∀ i j, i < np → j < np → h.2.1 148 i = h.2.1 148 j → i = j
theorem c_place2 {np : Nat} {h : zm_H} (Q : I_pl np h) (U : I_pd np h) (p : Int32) : f_N_place_ok p h ∧ f_M_place_ok p (f_N_place p h).2 ∧ (f_N_place p h).1 = (f_M_place p (f_N_place p h).2).1 ∧ ∃ np', I_pl np' (f_M_place p (f_N_place p h).2).2 ∧ I_pd np' (f_M_place p (f_N_place p h).2).2 := by
  obtain ⟨o1, o2, ea, np', Q'⟩ := c_place Q p
  refine ⟨o1, o2, ea, np', Q', ?_⟩
  have wN := f_N_place_w p h
  obtain ⟨h1, eh1⟩ : ∃ h1, h1 = (f_N_place p h).2 := ⟨_, rfl⟩
  rw [← eh1] at wN o2 ea Q' ⊢
  have a148 : h1.2.1 148 = h.2.1 148 := wN.arr 148 (by decide) (by decide)
  have f75 : zf h1 92 75 = nI np := (wN.fld 92 75 (by decide) (by decide)).trans Q.1.2.2
  have hn := Q.1.1
  obtain ⟨e', f'⟩ : zf (f_M_place p h1).2 92 75 = nI np' ∧ np' ≤ 8 := ⟨Q'.1.2.2, Q'.1.1⟩
  have same : f_M_place p h1 = (-1, h1) → I_pd np' (f_M_place p h1).2 := fun z => by
    rw [z] at e' ⊢
    dsimp only at e' ⊢
    have : np' = np := nI_inj (by omega) (by omega) (e'.symm.trans f75)
    rw [this]
    intro i j hi hj; rw [a148]; exact U i j hi hj
  by_cases c' : ¬ (p < 0) ∧ (¬ (10 ≤ (p / 10)) ∧ (¬ (5 ≤ (zm_rm p 10))))
  · by_cases z : nI np = 8
    · refine same ?_
      unfold f_M_place
      rw [if_pos c', f75, if_pos z]
    · rcases (apl_M hn f75 p).2 with ⟨a, b⟩ | ⟨a, b⟩
      · refine same ?_
        unfold f_M_place f_M_place_a20 f_M_place_k38
        rw [if_pos c', f75, if_neg z, if_pos a]
      · have h8 : ¬ np = 8 := fun y => z (by rw [y]; rfl)
        have eM : f_M_place p h1 = (nI (np + 1), zm_si (zm_si h1 148 np p) 92 75 (nI (np + 1))) := by
          unfold f_M_place f_M_place_a20 f_M_place_k46
          rw [if_pos c', f75, if_neg z, if_neg (by rw [a]; decide), zs_n _ 148 _ (by omega), ← nI_succ]
        rw [eM] at e' ⊢
        dsimp only at e' ⊢
        have : np' = np + 1 := nI_inj (by omega) (by omega) (e'.symm.trans (zm_in _ _ _ _))
        rw [this]
        intro i j hi hj e
        rw [za_si, if_neg (by decide), za_si, if_pos rfl] at e
        unfold upd at e
        by_cases x : i = np
        · by_cases y : j = np
          · omega
          · rw [if_pos x, if_neg y] at e
            exact absurd ⟨j, by omega, e.symm⟩ b
        · by_cases y : j = np
          · rw [if_neg x, if_pos y] at e
            exact absurd ⟨i, by omega, e⟩ b
          · rw [if_neg x, if_neg y, a148] at e
            exact U i j (by omega) (by omega) e
  · refine same ?_
    unfold f_M_place
    rw [if_neg c']
