/-! ===== a LAYING: the model searches ===== -/
def cnA (S : Nat → Nat → Int32) (sh : Nat → Prop) (P : Nat → Nat) (np c k : Nat) : Prop := ∀ i, i < k → (¬ sh (P (qd np c i)) ∧ tkn S (nI (P (qd np c i))) 10 = false) ∧ ∀ j, j < i → ¬ P (qd np c j) = P (qd np c i)
theorem cnA_s {S : Nat → Nat → Int32} {sh : Nat → Prop} {P : Nat → Nat} {np c k : Nat} : cnA S sh P np c (k + 1) ↔ (cnA S sh P np c k ∧ (¬ sh (P (qd np c k)) ∧ tkn S (nI (P (qd np c k))) 10 = false)) ∧ ∀ j, j < k → ¬ P (qd np c j) = P (qd np c k) := by
  constructor
  · intro h; exact ⟨⟨fun i hi => h i (by omega), (h k (by omega)).1⟩, (h k (by omega)).2⟩
  · rintro ⟨⟨h1, h2⟩, h3⟩ i hi
    by_cases e : i = k
    · rw [e]; exact ⟨h2, h3⟩
    · exact h1 i (by omega)
theorem cnA_iff {nr np m c : Nat} {S : Nat → Nat → Int32} {rf P : Nat → Nat} {sh : Nat → Prop} (hm : m ≤ 3) (hnp : 1 ≤ np) (R : rfO nr S m rf) (O : plO np P) : cnA S sh P np c m ↔ cnC nr S m rf (plc np m P c) sh := by
  have lt : ∀ j, qd np c j < np := fun j => Nat.mod_lt _ (by omega)
  rw [← cn_iff hm hnp R O]
  constructor
  · intro h
    refine ⟨fun k hk i hi e => (h k hk).2 i hi (by rw [e]), fun i hi => (h (m - 1 - i) (by omega)).1⟩
  · rintro ⟨d, o⟩ i hi
    refine ⟨?_, fun j hj e => d i hi j hj (O.2 _ _ (lt _) (lt _) e)⟩
    have := o (m - 1 - i) (by omega)
    unfold plc at this
    rw [show m - 1 - (m - 1 - i) = i by omega] at this
    exact this
theorem mj_M {m k : Nat} (hk : k < m) (hm : m ≤ 3) {x : zm_H} {e : Nat → Nat} (hp : ∀ i, i < k + 1 → e i < 100) (ex : ∀ i, i < k + 1 → x.2.1 160 (m - 1 - i) = nI (e i)) {A : Prop} {v : Int32} (hv : (v = 1 ∧ A) ∨ (v = 0 ∧ ¬ A)) (v3 v4 v5 v7 v8 v9 v10 : Int32) {F : Nat} (eF : F = zF) : f_M_laying_l230_l249_l329_ok (nI m) v3 v4 v5 v7 v8 v9 v10 (nI (m - 1 - k)) x F (v, nI (m - 1 - k) + 1) ∧ (((f_M_laying_l230_l249_l329 (nI m) v3 v4 v5 v7 v8 v9 v10 (nI (m - 1 - k)) x F (v, nI (m - 1 - k) + 1)).2.1 = 1 ∧ A ∧ ∀ i, i < k → ¬ e i = e k) ∨ ((f_M_laying_l230_l249_l329 (nI m) v3 v4 v5 v7 v8 v9 v10 (nI (m - 1 - k)) x F (v, nI (m - 1 - k) + 1)).2.1 = 0 ∧ ¬ (A ∧ ∀ i, i < k → ¬ e i = e k))) := by
  have e0 : nI (m - 1 - k) + 1 = nI (m - k + 0) := by rw [← nI_succ, show m - 1 - k + 1 = m - k + 0 by omega]
  rw [e0]
  have key := zlpF eF (b := fun t => f_M_laying_l230_l249_l329_b (nI m) v3 v4 v5 v7 v8 v9 v10 t.1 (nI (m - 1 - k)) t.2 x) (o := fun t => f_M_laying_l230_l249_l329_b_ok (nI m) v3 v4 v5 v7 v8 v9 v10 t.1 (nI (m - 1 - k)) t.2 x) k (by omega)
    (fun j s => s.2 = nI (m - k + j) ∧ ((s.1 = 1 ∧ A ∧ ∀ i, k - j ≤ i → i < k → ¬ e i = e k) ∨ (s.1 = 0 ∧ ¬ (A ∧ ∀ i, i < k → ¬ e i = e k))))
    (fun r => (r.2.1 = 1 ∧ A ∧ ∀ i, i < k → ¬ e i = e k) ∨ (r.2.1 = 0 ∧ ¬ (A ∧ ∀ i, i < k → ¬ e i = e k))) (v, nI (m - k + 0))
    ⟨rfl, by
      rcases hv with ⟨a, b⟩ | ⟨a, b⟩
      · exact Or.inl ⟨a, b, fun i h1 h2 => by omega⟩
      · exact Or.inr ⟨a, fun z => b z.1⟩⟩
    (by
      rintro j ⟨u, s⟩ hj ⟨q1, q⟩
      dsimp only at q1 q
      subst q1
      have g0 : ¬ (nI m ≤ nI (m - k + j)) := by rw [nx_le (by omega) (by omega)]; omega
      have i1 : vp_in (nI (m - k + j)) 3 := vp_in_nI (by omega) (by omega)
      have i2 : vp_in (nI (m - 1 - k)) 3 := vp_in_nI (by omega) (by omega)
      have x1 : zr x 160 (nI (m - k + j)) = nI (e (k - 1 - j)) := by
        rw [zr_n x 160 (by omega)]
        have := ex (k - 1 - j) (by omega)
        rw [show m - 1 - (k - 1 - j) = m - k + j by omega] at this
        exact this
      have x2 : zr x 160 (nI (m - 1 - k)) = nI (e k) := by rw [zr_n x 160 (by omega)]; exact ex k (by omega)
      show f_M_laying_l230_l249_l329_b_ok (nI m) v3 v4 v5 v7 v8 v9 v10 u (nI (m - 1 - k)) (nI (m - k + j)) x ∧ _
      unfold f_M_laying_l230_l249_l329_b f_M_laying_l230_l249_l329_b_ok
      dsimp only
      rw [if_neg g0, x1, x2, ← nI_succ]
      refine ⟨⟨fun z => absurd z g0, fun _ => ⟨fun _ => trivial, fun _ => ⟨i1, i2⟩⟩⟩, Or.inl ⟨rfl, by rw [show m - k + j + 1 = m - k + (j + 1) by omega], ?_⟩⟩
      rcases q with ⟨a, b, d⟩ | ⟨a, b⟩
      · subst a
        by_cases c : nI (e (k - 1 - j)) = nI (e k)
        · rw [if_neg (fun z => z.2 c)]
          have := hp (k - 1 - j) (by omega)
          have := hp k (by omega)
          exact Or.inr ⟨rfl, fun z => z.2 (k - 1 - j) (by omega) (nI_inj (by omega) (by omega) c)⟩
        · rw [if_pos ⟨by decide, c⟩]
          refine Or.inl ⟨rfl, b, fun i h1 h2 z => ?_⟩
          by_cases y : i = k - 1 - j
          · rw [y] at z; exact c (by rw [z])
          · exact d i (by omega) h2 z
      · rw [if_neg (fun z => z.1 a)]
        exact Or.inr ⟨rfl, b⟩)
    (by
      rintro ⟨u, s⟩ ⟨q1, q⟩
      dsimp only at q1 q
      subst q1
      have g0 : nI m ≤ nI (m - k + k) := by rw [nx_le (by omega) (by omega)]; omega
      show f_M_laying_l230_l249_l329_b_ok (nI m) v3 v4 v5 v7 v8 v9 v10 u (nI (m - 1 - k)) (nI (m - k + k)) x ∧ _
      unfold f_M_laying_l230_l249_l329_b f_M_laying_l230_l249_l329_b_ok
      dsimp only
      rw [if_pos g0]
      refine ⟨⟨fun _ => trivial, fun z => absurd g0 z⟩, by simp, ?_⟩
      rcases q with ⟨a, b, d⟩ | ⟨a, b⟩
      · exact Or.inl ⟨a, b, fun i hi => d i (by omega) hi⟩
      · exact Or.inr ⟨a, b⟩)
  exact key
theorem I_ln_w {nl : Nat} {h y : zm_H} {W : List Nat} {F : List (Nat × Nat)} (wy : zWr W F h y) (c1 : ([83, 84, 85, 115, 116, 117].all (fun i => !(W.contains i) && F.all (fun p => p.1 != i))) = true) (c2 : ([(82, 3), (92, 37)].all (fun p => !(W.contains p.1) && !(F.contains p))) = true) (Q : I_ln nl h) : I_ln nl y := by
  have e := wy.eq c1 c2
  obtain ⟨⟨q1, q2, q3⟩, q4, q5, q6⟩ := Q
  refine ⟨⟨q1, (e.f 82 3 (by simp)).trans q2, (e.f 92 37 (by simp)).trans q3⟩, ?_, ?_, ?_⟩
  · rw [e.a 83 (by simp), e.a 115 (by simp)]; exact q4
  · rw [e.a 84 (by simp), e.a 116 (by simp)]; exact q5
  · rw [e.a 85 (by simp), e.a 117 (by simp)]; exact q6
theorem mc_M {nr g np m nl w c : Nat} (hnr : nr ≤ 10) (hnp : 1 ≤ np) (hnp2 : np ≤ 8) (h1 : 1 ≤ m) (hm : m ≤ 3) (hc : c < 2147483648) {h : zm_H} (e33 : zf h 92 33 = nI nr) (V : vOK nr g (vM 0 h)) (Q : I_ln nl h) (et : zf h 92 23 = nI w) (e75 : zf h 92 75 = nI np) {P : Nat → Nat} (O : plO np P) (e148 : ∀ k, k < np → h.2.1 148 k = nI (P k)) (v3 v4 v5 v7 v8 v9 : Int32) {F : Nat} (eF : F = zF) {sh : Nat → Prop} (esh : sh = fun p => sht (h.2.1 115) (h.2.1 116) (h.2.1 117) nl (nI p / 10) (nI w / 8)) :
    f_M_laying_l230_l249_ok (nI m) v3 v4 v5 v7 v8 v9 F (nI c, 1, nI m - 1, h) ∧ ∃ r, r = f_M_laying_l230_l249 (nI m) v3 v4 v5 v7 v8 v9 F (nI c, 1, nI m - 1, h) ∧ ((r.2.2.1 = 1 ∧ cnA (vM 0 h) sh P np c m) ∨ (r.2.2.1 = 0 ∧ ¬ cnA (vM 0 h) sh P np c m)) ∧ zWr [160] [] h r.2.2.2.2 ∧ ∀ i, i < m → r.2.2.2.2.2.1 160 i = nI (plc np m P c i) := by
  have lt : ∀ j, qd np c j < np := fun j => Nat.mod_lt _ (by omega)
  have key := zlpF eF (b := fun t => f_M_laying_l230_l249_b (nI m) v3 v4 v5 v7 v8 v9 t.1 t.2.1 t.2.2.1 t.2.2.2) (o := fun t => f_M_laying_l230_l249_b_ok (nI m) v3 v4 v5 v7 v8 v9 t.1 t.2.1 t.2.2.1 t.2.2.2) m (by omega)
    (fun k s => s.1 = nI (qv np c k) ∧ ((s.2.1 = 1 ∧ cnA (vM 0 h) sh P np c k) ∨ (s.2.1 = 0 ∧ ¬ cnA (vM 0 h) sh P np c k)) ∧ dnI s.2.2.1 m k ∧ zWr [160] [] h s.2.2.2 ∧ ∀ i, i < k → s.2.2.2.2.1 160 (m - 1 - i) = nI (P (qd np c i)))
    (fun r => ((r.2.2.1 = 1 ∧ cnA (vM 0 h) sh P np c m) ∨ (r.2.2.1 = 0 ∧ ¬ cnA (vM 0 h) sh P np c m)) ∧ zWr [160] [] h r.2.2.2.2 ∧ ∀ i, i < m → r.2.2.2.2.2.1 160 (m - 1 - i) = nI (P (qd np c i))) (nI c, 1, nI m - 1, h)
    ⟨by rw [qv_0], Or.inl ⟨rfl, fun i hi => by omega⟩, i_pr h1 hm, zWr.refl _ _, fun i hi => by omega⟩
    (by
      rintro k ⟨v10, v11, v12, x⟩ hk ⟨a1, a2, a5, a6, a7⟩
      dsimp only at a1 a2 a5 a6 a7
      subst a1
      obtain ⟨d1, d2, d3, d4⟩ := dn_c1 hk hm a5
      obtain ⟨q1, q2, q3, q4⟩ := qd_n (B := np) (by omega) (by omega) hc k
      have x75 : zf x 92 75 = nI np := (a6.fld 92 75 (by decide) (by decide)).trans e75
      have n0 : ¬ nI np = 0 := by rw [nI_z0 (by omega)]; omega
      rw [d1] at d2 d3 d4
      have x148 : zr x 148 (nI (qd np c k)) = nI (P (qd np c k)) := by rw [zr_n x 148 (by omega), zf, a6.arr 148 (by decide) (by decide)]; exact e148 _ q3
      obtain ⟨p, ep⟩ : ∃ p, p = P (qd np c k) := ⟨_, rfl⟩
      have hp100 : p < 100 := by rw [ep]; exact (O.1 _ q3).1
      rw [← ep] at x148
      obtain ⟨y, ey⟩ : ∃ y, y = zm_si x 160 (m - 1 - k) (nI p) := ⟨_, rfl⟩
      have wy : zWr [160] [] h y := by rw [ey]; exact zWr_si (by decide) a6
      have y160 : zr y 160 (nI (m - 1 - k)) = nI p := by rw [zr_n y 160 (by omega), ey]; exact zm_in _ _ _ _
      have yall : ∀ i, i < k + 1 → y.2.1 160 (m - 1 - i) = nI (P (qd np c i)) := fun i hi => by
        rw [ey, zf_si, if_pos rfl]
        by_cases e : i = k
        · rw [e, if_pos rfl, ep]
        · rw [if_neg (by omega)]; exact a7 i (by omega)
      have yv : vM 0 y = vM 0 h := vM_eq (fun i hi => wy.arr i (by simp at hi ⊢; omega) (by simp)) (wy.2 127 (by simp)).2.1
      obtain ⟨s1, s2⟩ := sh_M (I_ln_w wy (by decide) (by decide) Q) (nI p)
      rw [wy.arr 115 (by decide) (by decide), wy.arr 116 (by decide) (by decide), wy.arr 117 (by decide) (by decide), show zf y 92 23 = nI w from (wy.fld 92 23 (by decide) (by decide)).trans et] at s2
      obtain ⟨k1, k2⟩ := tk_M (L := 0) hnr ((wy.fld 92 33 (by decide) (by decide)).trans e33) (by omega) (nI p)
      rw [nI_0] at k1 k2
      rw [yv, vOK_tk V hp100 hnr] at k2
      have shp : sh p ↔ sht (h.2.1 115) (h.2.1 116) (h.2.1 117) nl (nI p / 10) (nI w / 8) := by rw [esh]
      obtain ⟨A, eA⟩ : ∃ A : Prop, A = (cnA (vM 0 h) sh P np c k ∧ (¬ sh p ∧ tkn (vM 0 h) (nI p) 10 = false)) := ⟨_, rfl⟩
      obtain ⟨u, eu⟩ : ∃ u : Int32, u = if (¬ (v11 = 0) ∧ ((f_M_isShut (nI p) y = 0) ∧ (f_M_isTaken 0 (nI p) y = 0))) then (1 : Int32) else 0 := ⟨_, rfl⟩
      have hu : (u = 1 ∧ A) ∨ (u = 0 ∧ ¬ A) := by
        rw [eu, eA]
        by_cases cc : ¬ (v11 = 0) ∧ ((f_M_isShut (nI p) y = 0) ∧ (f_M_isTaken 0 (nI p) y = 0))
        · rw [if_pos cc]
          obtain ⟨c1, c2, c3⟩ := cc
          refine Or.inl ⟨rfl, ?_, fun z => (s2.mp c2) (shp.mp z), ?_⟩
          · rcases a2 with ⟨a, b⟩ | ⟨a, b⟩
            · exact b
            · exact absurd a c1
          · cases hb : tkn (vM 0 h) (nI p) 10
            · rfl
            · rw [k2, hb, if_pos rfl] at c3; exact absurd c3 (by decide)
        · rw [if_neg cc]
          refine Or.inr ⟨rfl, fun z => cc ⟨?_, s2.mpr (fun y => z.2.1 (shp.mpr y)), ?_⟩⟩
          · rcases a2 with ⟨a, b⟩ | ⟨a, b⟩
            · rw [a]; decide
            · exact absurd z.1 b
          · rw [k2, z.2.2, if_neg (by decide)]
      obtain ⟨m1, m2⟩ := mj_M hk hm (e := fun i => P (qd np c i)) (fun i hi => (O.1 _ (lt i)).1) yall hu v3 v4 v5 v7 v8 v9 (nI (qv np c (k + 1))) eF
      have st := cnA_s (S := vM 0 h) (sh := sh) (P := P) (np := np) (c := c) (k := k)
      rw [← ep, ← eA] at st
      show f_M_laying_l230_l249_b_ok (nI m) v3 v4 v5 v7 v8 v9 (nI (qv np c k)) v11 v12 x ∧ _
      unfold f_M_laying_l230_l249_b f_M_laying_l230_l249_b_ok
      dsimp only
      rw [d1, if_neg d2, x75, q1, q2, x148, zs_n _ 160 _ (by omega), ← ey, y160, ← eF, ← eu]
      obtain ⟨r, er⟩ : ∃ r, r = f_M_laying_l230_l249_l329 (nI m) v3 v4 v5 v7 v8 v9 (nI (qv np c (k + 1))) (nI (m - 1 - k)) y F (u, nI (m - 1 - k) + 1) := ⟨_, rfl⟩
      rw [← er] at m2 ⊢
      unfold f_M_laying_l230_l249_a329 f_M_laying_l230_l249_k370
      rw [← ep] at m2
      refine ⟨⟨fun z => absurd z d2, fun _ => ⟨n0, vp_in_nI (by omega) (by omega), d4, n0, ⟨fun _ => trivial, fun _ => ⟨d4, s1, fun _ => ⟨d4, k1⟩, fun _ => trivial⟩⟩, m1, trivial⟩⟩, Or.inl ⟨rfl, rfl, ?_, d3, wy, yall⟩⟩
      dsimp only
      rw [st]
      exact m2)
    (by
      rintro ⟨v10, v11, v12, x⟩ ⟨a1, a2, a5, a6, a7⟩
      dsimp only at a1 a2 a5 a6 a7
      subst a1
      have d0 := dn_c0 a5
      show f_M_laying_l230_l249_b_ok (nI m) v3 v4 v5 v7 v8 v9 (nI (qv np c m)) v11 v12 x ∧ _
      unfold f_M_laying_l230_l249_b f_M_laying_l230_l249_b_ok
      dsimp only
      rw [if_pos d0]
      exact ⟨⟨fun _ => trivial, fun z => absurd d0 z⟩, by simp, a2, a6, a7⟩)
  obtain ⟨k1, k2, k3, k4⟩ := key
  refine ⟨k1, _, rfl, k2, k3, fun i hi => ?_⟩
  have := k4 (m - 1 - i) (by omega)
  rw [show m - 1 - (m - 1 - i) = i by omega] at this
  exact this
