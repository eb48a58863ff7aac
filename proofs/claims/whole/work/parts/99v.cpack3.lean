/-! ===== a PLAN: the class's best, and whether one leads to it ===== -/
def bXY (J m : Nat) (L V S : Nat → Nat) (X Y : Nat) : Prop := (∃ s, s < 2 ^ J ∧ fzT J L S m s ∧ sm V s.testBit J = X ∧ sm L s.testBit J = Y) ∧ ∀ s, s < 2 ^ J → fzT J L S m s → sm V s.testBit J < X ∨ (sm V s.testBit J = X ∧ Y ≤ sm L s.testBit J)
theorem fz_e {J : Nat} {L : Nat → Nat} {A : Nat → Nat → Prop} {R : Nat → Nat} {k : Nat} : fz J L A R k (Nat.testBit 0) := by
  refine ⟨fun _ => 0, fun i _ ht => ?_, fun w _ => ?_⟩
  · rw [Nat.zero_testBit] at ht; cases ht
  · rw [sm_0 J (fun i _ => by rw [Nat.zero_testBit]; rfl)]; exact Nat.zero_le _
theorem sm_z {L : Nat → Nat} {J : Nat} : sm L (Nat.testBit 0) J = 0 := sm_0 J (fun i _ => Nat.zero_testBit i)
theorem fb_N {J m : Nat} (hJ : J ≤ 6) (hm : m ≤ 40) {L V S : Nat → Nat} (hL : ∀ j, j < J → L j ≤ 16) (hV : ∀ j, j < J → V j ≤ 999) (hS : ∀ w, w < m → S w < 1000) {h : zm_H} (eJ : zf h 72 2 = nI J) (em : zf h 72 5 = nI m) (e77 : ∀ w, w < m → h.2.1 77 w = nI (S w)) (e78 : ∀ s, s < 2 ^ J → h.2.1 78 s = nI (sm L s.testBit J)) (e79 : ∀ s, s < 2 ^ J → h.2.1 79 s = nI (sm V s.testBit J)) : f_Planner_findBest_ok h ∧ zWr [80] [(72, 12), (72, 13)] h (f_Planner_findBest h) ∧ ∃ X Y, zf (f_Planner_findBest h) 72 12 = nI X ∧ zf (f_Planner_findBest h) 72 13 = nI Y ∧ bXY J m L V S X Y := by
  have h64 := p2_le hJ
  have h0 : 0 < 2 ^ J := Nat.pow_pos (by omega)
  have hsL : ∀ s : Nat, sm L s.testBit J ≤ 96 := fun s => by have := sm_le (P := s.testBit) J hL; omega
  have hsV : ∀ s : Nat, sm V s.testBit J ≤ 5994 := fun s => by have := sm_le (P := s.testBit) J hV; omega
  unfold f_Planner_findBest_ok f_Planner_findBest f_Planner_findBest_k5_ok f_Planner_findBest_k5 f_Planner_findBest_a17 f_Planner_findBest_k112
  obtain ⟨a1, a2, a3⟩ := pk_N hJ hm (Nat.zero_le J) hL hS eJ em e77 e78
  rw [show nI 0 = (0 : Int32) from rfl] at a1 a2 a3
  have a3 : ∀ s, s < 2 ^ J → ((f_Planner_packFrom 0 h).2.1 80 s = 1 ↔ fzT J L S m s) := fun s hs => a3 s hs (by rw [Nat.pow_zero]; exact Nat.mod_one s)
  generalize f_Planner_packFrom 0 h = h1 at a2 a3
  obtain ⟨h2, e2⟩ : ∃ h2, h2 = zp (zp h1 72 12 0) 72 13 0 := ⟨_, rfl⟩
  rw [← e2]
  have w2 : zWr [] [(72, 12), (72, 13)] h1 h2 := by rw [e2]; exact zWr_p (by decide) (zWr_p (by decide) (zWr.refl _ _))
  have z12 : zf h2 72 12 = nI 0 := by rw [e2]; show (zm_si (zm_si h1 72 12 0) 72 13 0).2.1 72 12 = _; rw [zf_si, if_pos rfl, if_neg (by decide), zf_si, if_pos rfl, if_pos rfl]; rfl
  have z13 : zf h2 72 13 = nI 0 := by rw [e2]; exact zm_in _ _ _ _
  obtain ⟨F, eF, -⟩ := zF_ex
  rw [← eF]
  have key := zlp_k eF (b := fun s => f_Planner_findBest_l17_b s.1 s.2) (o := fun s => f_Planner_findBest_l17_b_ok s.1 s.2) (2 ^ J - 1) (by omega) 1
    (fun k x => zWr [] [(72, 12), (72, 13)] h1 x ∧ ∃ X Y, zf x 72 12 = nI X ∧ zf x 72 13 = nI Y ∧ (∃ s, s < 2 ^ J ∧ fzT J L S m s ∧ sm V s.testBit J = X ∧ sm L s.testBit J = Y) ∧ ∀ s, s < k + 1 → fzT J L S m s → sm V s.testBit J < X ∨ (sm V s.testBit J = X ∧ Y ≤ sm L s.testBit J)) h2
    ⟨w2, 0, 0, z12, z13, ⟨0, h0, fz_e, sm_z, sm_z⟩, fun s hs _ => by
      have : s = 0 := by omega
      subst this
      rw [sm_z, sm_z]; exact Or.inr ⟨rfl, Nat.le_refl _⟩⟩
    (by
      rintro k x hk ⟨p1, X, Y, p2, p3, ⟨s0, q1, q2, q3, q4⟩, p5⟩
      have hX : X ≤ 5994 := by rw [← q3]; exact hsV s0
      have hY : Y ≤ 96 := by rw [← q4]; exact hsL s0
      have xJ : zf x 72 2 = nI J := ((p1.fld 72 2 (by decide) (by decide)).trans (a2.fld 72 2 (by decide) (by decide))).trans eJ
      have g0 : ¬ ((1 : Int32) <<< (zf x 72 2 &&& 31) ≤ nI (1 + k)) := by rw [xJ, b_shl J (by omega), nx_le (by omega) (by omega)]; omega
      have hk2 : 1 + k < 2 ^ J := by omega
      have x80 : zr x 80 (nI (1 + k)) = h1.2.1 80 (1 + k) := by rw [zr_n x 80 (by omega), zf, p1.arr 80 (by decide) (by decide)]
      have x79 : zr x 79 (nI (1 + k)) = nI (sm V (1 + k).testBit J) := by rw [zr_n x 79 (by omega), zf, p1.arr 79 (by decide) (by decide), a2.arr 79 (by decide) (by decide)]; exact e79 _ hk2
      have x78 : zr x 78 (nI (1 + k)) = nI (sm L (1 + k).testBit J) := by rw [zr_n x 78 (by omega), zf, p1.arr 78 (by decide) (by decide), a2.arr 78 (by decide) (by decide)]; exact e78 _ hk2
      have ik : vp_in (nI (1 + k)) 64 := vp_in_nI (by omega) (by omega)
      have iA := hsV (1 + k)
      have iB := hsL (1 + k)
      obtain ⟨A, eA⟩ : ∃ A, A = sm V (1 + k).testBit J := ⟨_, rfl⟩
      obtain ⟨B, eB⟩ : ∃ B, B = sm L (1 + k).testBit J := ⟨_, rfl⟩
      rw [← eA] at x79 iA
      rw [← eB] at x78 iB
      have cond : ((nI X < nI A) ∨ ((nI A = nI X) ∧ (¬ (nI Y ≤ nI B)))) ↔ (X < A ∨ (A = X ∧ B < Y)) := by
        rw [i_lt, i_eq, i_le, i_nI (by omega), i_nI (by omega), i_nI (by omega), i_nI (by omega)]; omega
      dsimp only
      unfold f_Planner_findBest_l17_b f_Planner_findBest_l17_b_ok
      rw [if_neg g0, x80, x79, x78, p2, p3, ← nI_succ]
      refine ⟨⟨fun z => absurd z g0, fun _ => ⟨ik, ⟨fun _ => trivial, fun _ => ⟨ik, fun _ => ik, fun _ => trivial⟩⟩, ik, fun _ => ⟨fun _ => ⟨ik, ik⟩, fun _ => trivial⟩, fun _ => trivial⟩⟩, _, rfl, ?_⟩
      have rest : ∀ X' Y', (∀ s, s < k + 1 → fzT J L S m s → sm V s.testBit J < X' ∨ (sm V s.testBit J = X' ∧ Y' ≤ sm L s.testBit J)) → (fzT J L S m (1 + k) → A < X' ∨ (A = X' ∧ Y' ≤ B)) → ∀ s, s < k + 1 + 1 → fzT J L S m s → sm V s.testBit J < X' ∨ (sm V s.testBit J = X' ∧ Y' ≤ sm L s.testBit J) := by
        intro X' Y' r1 r2 s hs hf
        by_cases e : s = 1 + k
        · subst e; rw [← eA, ← eB]; exact r2 hf
        · exact r1 s (by omega) hf
      by_cases c1 : h1.2.1 80 (1 + k) = 1
      · rw [if_pos c1]
        have hf := (a3 (1 + k) hk2).mp c1
        by_cases c2 : (nI X < nI A) ∨ ((nI A = nI X) ∧ (¬ (nI Y ≤ nI B)))
        · rw [if_pos c2]
          have c2' := cond.mp c2
          refine ⟨zWr_p (by decide) (zWr_p (by decide) p1), A, B, ?_, zm_in _ _ _ _, ⟨1 + k, hk2, hf, eA.symm, eB.symm⟩, rest A B (fun s hs hf => ?_) (fun _ => Or.inr ⟨rfl, Nat.le_refl _⟩)⟩
          · show (zm_si (zm_si x 72 12 (nI A)) 72 13 (nI B)).2.1 72 12 = _
            rw [zf_si, if_pos rfl, if_neg (by decide), zf_si, if_pos rfl, if_pos rfl]
          · have := p5 s hs hf
            omega
        · rw [if_neg c2]
          have c2' : ¬ (X < A ∨ (A = X ∧ B < Y)) := fun z => c2 (cond.mpr z)
          exact ⟨p1, X, Y, p2, p3, ⟨s0, q1, q2, q3, q4⟩, rest X Y p5 (fun _ => by omega)⟩
      · rw [if_neg c1]
        exact ⟨p1, X, Y, p2, p3, ⟨s0, q1, q2, q3, q4⟩, rest X Y p5 (fun z => absurd ((a3 (1 + k) hk2).mpr z) c1)⟩)
    (by
      rintro x ⟨p1, -⟩
      have xJ : zf x 72 2 = nI J := ((p1.fld 72 2 (by decide) (by decide)).trans (a2.fld 72 2 (by decide) (by decide))).trans eJ
      have g0 : (1 : Int32) <<< (zf x 72 2 &&& 31) ≤ nI (1 + (2 ^ J - 1)) := by rw [xJ, b_shl J (by omega), nx_le (by omega) (by omega)]; omega
      dsimp only
      unfold f_Planner_findBest_l17_b f_Planner_findBest_l17_b_ok
      rw [if_pos g0]
      exact ⟨⟨fun _ => trivial, fun z => absurd g0 z⟩, rfl⟩)
  obtain ⟨k1, x, k2, k3, X, Y, k4, k5, k6, k7⟩ := key
  have k2 : f_Planner_findBest_l17 F (1, h2) = (1, nI (1 + (2 ^ J - 1)), x) := k2
  have k1 : f_Planner_findBest_l17_ok F (1, h2) := k1
  rw [k2]
  exact ⟨⟨a1, k1, trivial⟩, zWr_tr k3 (by decide) (by decide) (zWr_tr a2 (by decide) (by decide) (zWr.refl _ _)), X, Y, k4, k5, k6, fun s hs hf => k7 s (by omega) hf⟩
/-- what comesTo must find -/
def cmT (J m job : Nat) (L V Q : Nat → Nat) (x y : Int32) : Prop := 0 ≤ x.toInt ∧ 0 ≤ y.toInt ∧ ∃ s, s < 2 ^ J ∧ s % 2 ^ job = 0 ∧ fzT J L Q m s ∧ nI (sm V s.testBit J) = x ∧ nI (sm L s.testBit J) = y
theorem ct_N {J m job : Nat} (hJ : J ≤ 6) (hm : m ≤ 40) (hjob : job ≤ J) {L V Q : Nat → Nat} (hL : ∀ j, j < J → L j ≤ 16) (hQ : ∀ w, w < m → Q w < 1000) {h : zm_H} (eJ : zf h 72 2 = nI J) (em : zf h 72 5 = nI m) (e77 : ∀ w, w < m → h.2.1 77 w = nI (Q w)) (e78 : ∀ s, s < 2 ^ J → h.2.1 78 s = nI (sm L s.testBit J)) (e79 : ∀ s, s < 2 ^ J → h.2.1 79 s = nI (sm V s.testBit J)) (x y : Int32) : f_Planner_comesTo_ok (nI job) x y h ∧ zWr [80] [] h (f_Planner_comesTo (nI job) x y h).2 ∧ ((f_Planner_comesTo (nI job) x y h).1 = 0 ↔ ¬ cmT J m job L V Q x y) := by
  have h64 := p2_le hJ
  unfold f_Planner_comesTo_ok f_Planner_comesTo f_Planner_comesTo_k15_ok f_Planner_comesTo_k15 f_Planner_comesTo_a18 f_Planner_comesTo_k62 f_Planner_comesTo_k75 cmT
  by_cases c1 : x < 0
  · rw [if_pos c1]
    rw [i_lt, i_0] at c1
    exact ⟨⟨fun _ => trivial, fun z => absurd (by rw [i_lt, i_0]; exact c1) z⟩, zWr.refl _ _, fun _ z => by omega, fun _ => rfl⟩
  · rw [if_neg c1]
    by_cases c2 : 0 ≤ y
    · rw [if_pos c2]
      obtain ⟨a1, a2, a3⟩ := pk_N hJ hm hjob hL hQ eJ em e77 e78
      generalize f_Planner_packFrom (nI job) h = h1 at a2 a3
      have b1 : 0 ≤ x.toInt := by rw [i_lt, i_0] at c1; omega
      have b2 : 0 ≤ y.toInt := by rw [i_le, i_0] at c2; omega
      obtain ⟨F, eF, -⟩ := zF_ex
      rw [← eF]
      obtain ⟨D, eD⟩ : ∃ D, D = 2 ^ job := ⟨_, rfl⟩
      have hD : 0 < D := by rw [eD]; exact Nat.pow_pos (by omega)
      obtain ⟨N, eN⟩ : ∃ N, 2 ^ J = (N + 1) * D := by
        refine ⟨2 ^ (J - job) - 1, ?_⟩
        have : 0 < 2 ^ (J - job) := Nat.pow_pos (by omega)
        rw [show 2 ^ (J - job) - 1 + 1 = 2 ^ (J - job) by omega, eD, ← Nat.pow_add, show J - job + job = J by omega]
      have hND : (N + 1) * D = N * D + D := by rw [Nat.succ_mul]
      have hN : N ≤ 63 := by
        have : N * 1 ≤ N * D := Nat.mul_le_mul_left N hD
        omega
      rw [← eD] at a3 ⊢
      have key := zlpF eF (b := fun t => f_Planner_comesTo_l18_b (nI job) x y t h1) (o := fun t => f_Planner_comesTo_l18_b_ok (nI job) x y t h1) (N + 1) (by omega)
        (fun c t => t = nI (c * D) ∧ ∀ s, s < c * D → s % D = 0 → ¬ (h1.2.1 80 s = 1 ∧ h1.2.1 79 s = x ∧ h1.2.1 78 s = y))
        (fun r => (r.1 = 1 ∧ ∃ s, s < 2 ^ J ∧ s % D = 0 ∧ h1.2.1 80 s = 1 ∧ h1.2.1 79 s = x ∧ h1.2.1 78 s = y) ∨ (¬ r.1 = 1 ∧ ∀ s, s < 2 ^ J → s % D = 0 → ¬ (h1.2.1 80 s = 1 ∧ h1.2.1 79 s = x ∧ h1.2.1 78 s = y))) 0
        ⟨by rw [Nat.zero_mul]; rfl, fun s hs => by rw [Nat.zero_mul] at hs; omega⟩
        (by
          rintro c t hc ⟨rfl, q⟩
          obtain ⟨s, es⟩ : ∃ s, s = c * D := ⟨_, rfl⟩
          have hcD : c * D ≤ N * D := Nat.mul_le_mul_right D (by omega)
          have hs : s < 2 ^ J := by omega
          have hsd : s % D = 0 := by rw [es]; exact Nat.mul_mod_left _ _
          have hnx : (c + 1) * D = s + D := by rw [es, Nat.succ_mul]
          rw [← es] at q ⊢
          have g0 : ¬ ((1 : Int32) <<< (zf h1 72 2 &&& 31) ≤ nI s) := by rw [show zf h1 72 2 = nI J from (a2.fld 72 2 (by decide) (by decide)).trans eJ, b_shl J (by omega), nx_le (by omega) (by omega)]; omega
          have is : vp_in (nI s) 64 := vp_in_nI (by omega) (by omega)
          have nx : nI s + (1 : Int32) <<< (nI job &&& 31) = nI ((c + 1) * D) := by rw [b_shl job (by omega), ← eD, nI_add, hnx]
          have nxt : ¬ (h1.2.1 80 s = 1 ∧ h1.2.1 79 s = x ∧ h1.2.1 78 s = y) → ∀ u, u < (c + 1) * D → u % D = 0 → ¬ (h1.2.1 80 u = 1 ∧ h1.2.1 79 u = x ∧ h1.2.1 78 u = y) := by
            intro no u hu hd
            by_cases e : u = s
            · rw [e]; exact no
            · refine q u ?_ hd
              rcases Nat.lt_or_ge u s with v | v
              · exact v
              · exfalso
                have e1 := Nat.div_add_mod u D
                rw [hd, Nat.add_zero, Nat.mul_comm] at e1
                have n1 : c < u / D := by
                  rcases Nat.lt_or_ge c (u / D) with v' | v'
                  · exact v'
                  · have := Nat.mul_le_mul_right D v'
                    omega
                have n2 := Nat.mul_le_mul_right D (show c + 1 ≤ u / D by omega)
                omega
          show f_Planner_comesTo_l18_b_ok (nI job) x y (nI s) h1 ∧ _
          unfold f_Planner_comesTo_l18_b f_Planner_comesTo_l18_b_ok f_Planner_comesTo_l18_k64
          rw [if_neg g0, nx, zr_n h1 80 (by omega), zr_n h1 79 (by omega), zr_n h1 78 (by omega)]
          refine ⟨⟨fun z => absurd z g0, fun _ => ⟨is, fun _ => ⟨is, fun _ => is, fun _ => trivial⟩, fun _ => trivial⟩⟩, ?_⟩
          by_cases d1 : zf h1 80 s = 1
          · rw [if_pos d1]
            by_cases d2 : zf h1 79 s = x
            · rw [if_pos d2]
              by_cases d3 : zf h1 78 s = y
              · rw [if_pos d3]
                exact Or.inr ⟨by simp, Or.inl ⟨rfl, s, hs, hsd, d1, d2, d3⟩⟩
              · rw [if_neg d3]
                exact Or.inl ⟨rfl, rfl, nxt (fun z => d3 z.2.2)⟩
            · rw [if_neg d2]
              exact Or.inl ⟨rfl, rfl, nxt (fun z => d2 z.2.1)⟩
          · rw [if_neg d1]
            exact Or.inl ⟨rfl, rfl, nxt (fun z => d1 z.1)⟩)
        (by
          rintro t ⟨rfl, q⟩
          have g0 : (1 : Int32) <<< (zf h1 72 2 &&& 31) ≤ nI ((N + 1) * D) := by rw [show zf h1 72 2 = nI J from (a2.fld 72 2 (by decide) (by decide)).trans eJ, b_shl J (by omega), nx_le (by omega) (by omega)]; omega
          show f_Planner_comesTo_l18_b_ok (nI job) x y (nI ((N + 1) * D)) h1 ∧ _
          unfold f_Planner_comesTo_l18_b f_Planner_comesTo_l18_b_ok
          rw [if_pos g0]
          exact ⟨⟨fun _ => trivial, fun z => absurd g0 z⟩, by simp, Or.inr ⟨by simp, fun s hs => q s (by omega)⟩⟩)
      obtain ⟨k1, k2⟩ := key
      obtain ⟨r, er⟩ : ∃ r, r = f_Planner_comesTo_l18 (nI job) x y h1 F 0 := ⟨_, rfl⟩
      have k2 : (r.1 = 1 ∧ ∃ s, s < 2 ^ J ∧ s % D = 0 ∧ h1.2.1 80 s = 1 ∧ h1.2.1 79 s = x ∧ h1.2.1 78 s = y) ∨ (¬ r.1 = 1 ∧ ∀ s, s < 2 ^ J → s % D = 0 → ¬ (h1.2.1 80 s = 1 ∧ h1.2.1 79 s = x ∧ h1.2.1 78 s = y)) := by rw [er]; exact k2
      have v78 : ∀ s, s < 2 ^ J → h1.2.1 78 s = nI (sm L s.testBit J) := fun s hs => by rw [a2.arr 78 (by decide) (by decide)]; exact e78 s hs
      have v79 : ∀ s, s < 2 ^ J → h1.2.1 79 s = nI (sm V s.testBit J) := fun s hs => by rw [a2.arr 79 (by decide) (by decide)]; exact e79 s hs
      rw [← er]
      rcases k2 with ⟨d, s, s1, s2, s3, s4, s5⟩ | ⟨d, f⟩
      · rw [if_pos d]
        refine ⟨⟨fun z => absurd z c1, fun _ => ⟨fun _ => ⟨a1, k1, fun _ => trivial, fun _ => trivial⟩, fun _ => trivial⟩⟩, a2, fun z => absurd (show (1 : Int32) = 0 from z) (by decide), fun z => ?_⟩
        exact absurd ⟨b1, b2, s, s1, s2, (a3 s s1 s2).mp s3, by rw [← v79 s s1]; exact s4, by rw [← v78 s s1]; exact s5⟩ z
      · rw [if_neg d]
        refine ⟨⟨fun z => absurd z c1, fun _ => ⟨fun _ => ⟨a1, k1, fun _ => trivial, fun _ => trivial⟩, fun _ => trivial⟩⟩, a2, fun _ => ?_, fun _ => rfl⟩
        rintro ⟨-, -, s, s1, s2, s3, s4, s5⟩
        exact f s s1 s2 ⟨(a3 s s1 s2).mpr s3, by rw [v79 s s1]; exact s4, by rw [v78 s s1]; exact s5⟩
    · rw [if_neg c2]
      refine ⟨⟨fun z => absurd z c1, fun _ => ⟨fun z => absurd z c2, fun _ => trivial⟩⟩, zWr.refl _ _, fun _ z => ?_, fun _ => rfl⟩
      rw [i_le, i_0] at c2
      omega
