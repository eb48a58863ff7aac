/-! ===== TOKENS: the model ===== -/
theorem wa_M {s e : Nat} {x : zm_H} (he : e ≤ 400) (hs : s ≤ e) : f_M_wordAt_ok (nI s) (nI e) x ∧ ((wI (x.2.1 93) s e < 16 ∧ f_M_wordAt (nI s) (nI e) x = nI (wI (x.2.1 93) s e)) ∨ (wI (x.2.1 93) s e = 16 ∧ f_M_wordAt (nI s) (nI e) x = -1)) := by
  obtain ⟨B, eB⟩ : ∃ B, B = x.2.1 93 := ⟨_, rfl⟩
  rw [← eB]
  unfold f_M_wordAt_ok f_M_wordAt
  obtain ⟨F, eF, -⟩ := zF_ex
  rw [← eF]
  have key := zlpF eF (b := fun t => f_M_wordAt_l5_b (nI s) (nI e) t.1 t.2 x) (o := fun t => f_M_wordAt_l5_b_ok (nI s) (nI e) t.1 t.2 x) 16 (by omega)
    (fun k t => t = (nI k, nI (wof k)) ∧ ∀ w, w < k → ¬ mw B s e w)
    (fun r => (r.1 = 1 ∧ ∃ w, w < 16 ∧ mw B s e w ∧ r.2.1 = nI w) ∨ (¬ r.1 = 1 ∧ ∀ w, w < 16 → ¬ mw B s e w)) (0, 1) ⟨rfl, fun w hw => by omega⟩
    (by
      rintro k t hk ⟨rfl, q⟩
      have d6 := wd6 k hk
      have g0 : ¬ (Int32.ofNat 81 ≤ nI (wof k)) := by rw [show Int32.ofNat 81 = nI 81 from rfl, nx_le (by omega) (by omega)]; omega
      -- how long the word is
      have ln := zlpF eF (b := fun t => f_M_wordAt_l5_l19_b (nI s) (nI e) (nI k) (nI (wof k)) t x) (o := fun t => f_M_wordAt_l5_l19_b_ok (nI s) (nI e) (nI k) (nI (wof k)) t x) (wln k) (by omega)
        (fun j t => t = nI j) (fun r => r.2 = nI (wln k)) 0 rfl
        (by
          rintro j t hj rfl
          show f_M_wordAt_l5_l19_b_ok (nI s) (nI e) (nI k) (nI (wof k)) (nI j) x ∧ _
          unfold f_M_wordAt_l5_l19_b f_M_wordAt_l5_l19_b_ok
          rw [nI_add, nI_c (by omega), wd2 k hk j (by omega) hj, if_neg (fun z => by have := (wd1 k hk j (by omega)).mp z; omega), ← nI_succ]
          exact ⟨⟨by rw [i_le, i_nI (by omega), i_0]; omega, by omega⟩, Or.inl ⟨rfl, rfl⟩⟩)
        (by
          rintro t rfl
          show f_M_wordAt_l5_l19_b_ok (nI s) (nI e) (nI k) (nI (wof k)) (nI (wln k)) x ∧ _
          unfold f_M_wordAt_l5_l19_b f_M_wordAt_l5_l19_b_ok
          rw [nI_add, nI_c (by omega), wd3 k hk, if_pos rfl]
          exact ⟨⟨by rw [i_le, i_nI (by omega), i_0]; omega, by omega⟩, by simp, rfl⟩)
      obtain ⟨n1, n2⟩ := ln
      obtain ⟨r, er⟩ : ∃ r, r = f_M_wordAt_l5_l19 (nI s) (nI e) (nI k) (nI (wof k)) x F 0 := ⟨_, rfl⟩
      have n2 : r.2 = nI (wln k) := by rw [er]; exact n2
      -- whether it is the same
      have c0 : (nI (wln k) = nI e - nI s) ↔ e - s = wln k := by
        rw [pk_sub hs]
        exact ⟨fun z => (nI_inj (by omega) (by omega) z).symm, fun z => by rw [z]⟩
      obtain ⟨v0, ev0⟩ : ∃ v0 : Int32, v0 = if (nI (wln k) = nI e - nI s) then (1 : Int32) else 0 := ⟨_, rfl⟩
      have h0 : (v0 = 1 ∧ e - s = wln k) ∨ (v0 = 0 ∧ ¬ e - s = wln k) := by
        rw [ev0]
        by_cases z : nI (wln k) = nI e - nI s
        · rw [if_pos z]; exact Or.inl ⟨rfl, c0.mp z⟩
        · rw [if_neg z]; exact Or.inr ⟨rfl, fun y => z (c0.mpr y)⟩
      have sm := zlpF eF (b := fun t => f_M_wordAt_l5_l59_b (nI s) (nI e) (nI k) (nI (wof k)) (nI (wln k)) t.1 t.2 x) (o := fun t => f_M_wordAt_l5_l59_b_ok (nI s) (nI e) (nI k) (nI (wof k)) (nI (wln k)) t.1 t.2 x) (wln k) (by omega)
        (fun j t => t.2 = nI j ∧ ((t.1 = 1 ∧ e - s = wln k ∧ ∀ i, i < j → B (s + i) = wch k i) ∨ (t.1 = 0 ∧ ¬ mw B s e k)))
        (fun r => (r.2.1 = 1 ∧ mw B s e k) ∨ (r.2.1 = 0 ∧ ¬ mw B s e k)) (v0, 0)
        ⟨rfl, by
          rcases h0 with ⟨a, b⟩ | ⟨a, b⟩
          · exact Or.inl ⟨a, b, fun i hi => by omega⟩
          · exact Or.inr ⟨a, fun z => b z.1⟩⟩
        (by
          rintro j ⟨v6, v7⟩ hj ⟨a1, a2⟩
          dsimp only at a1 a2
          subst a1
          have g1 : ¬ (nI (wln k) ≤ nI j) := by rw [nx_le (by omega) (by omega)]; omega
          show f_M_wordAt_l5_l59_b_ok (nI s) (nI e) (nI k) (nI (wof k)) (nI (wln k)) v6 (nI j) x ∧ _
          unfold f_M_wordAt_l5_l59_b f_M_wordAt_l5_l59_b_ok
          dsimp only
          rw [if_neg g1]
          rcases a2 with ⟨b1, b2, b3⟩ | ⟨b1, b2⟩
          · subst b1
            have xB : zr x 93 (nI (s + j)) = B (s + j) := by rw [zr_n x 93 (by omega), eB]
            rw [if_neg (by decide), nI_add, nI_c (by omega), wd2 k hk j (by omega) hj, nI_add, xB, ← nI_succ]
            refine ⟨⟨fun z => absurd z g1, fun _ => ⟨fun _ => trivial, fun _ => ⟨⟨by rw [i_le, i_nI (by omega), i_0]; omega, by omega⟩, vp_in_nI (by omega) (by omega)⟩⟩⟩, Or.inl ⟨rfl, rfl, ?_⟩⟩
            by_cases z : wch k j = B (s + j)
            · rw [if_pos z]
              refine Or.inl ⟨rfl, b2, fun i hi => ?_⟩
              by_cases y : i = j
              · rw [y]; exact z.symm
              · exact b3 i (by omega)
            · rw [if_neg z]
              exact Or.inr ⟨rfl, fun y => z (y.2 j hj).symm⟩
          · rw [if_pos b1]
            exact ⟨⟨fun z => absurd z g1, fun _ => ⟨fun _ => trivial, fun z => absurd b1 z⟩⟩, Or.inr ⟨by simp, Or.inr ⟨b1, b2⟩⟩⟩)
        (by
          rintro ⟨v6, v7⟩ ⟨a1, a2⟩
          dsimp only at a1 a2
          subst a1
          have g1 : nI (wln k) ≤ nI (wln k) := i_le_r _
          show f_M_wordAt_l5_l59_b_ok (nI s) (nI e) (nI k) (nI (wof k)) (nI (wln k)) v6 (nI (wln k)) x ∧ _
          unfold f_M_wordAt_l5_l59_b f_M_wordAt_l5_l59_b_ok
          dsimp only
          rw [if_pos g1]
          refine ⟨⟨fun _ => trivial, fun z => absurd g1 z⟩, by simp, ?_⟩
          rcases a2 with ⟨b1, b2, b3⟩ | ⟨b1, b2⟩
          · exact Or.inl ⟨b1, b2, b3⟩
          · exact Or.inr ⟨b1, b2⟩)
      obtain ⟨m1, m2⟩ := sm
      obtain ⟨r2, er2⟩ : ∃ r2, r2 = f_M_wordAt_l5_l59 (nI s) (nI e) (nI k) (nI (wof k)) (nI (wln k)) x F (v0, 0) := ⟨_, rfl⟩
      have m2 : (r2.2.1 = 1 ∧ mw B s e k) ∨ (r2.2.1 = 0 ∧ ¬ mw B s e k) := by rw [er2]; exact m2
      show f_M_wordAt_l5_b_ok (nI s) (nI e) (nI k) (nI (wof k)) x ∧ _
      unfold f_M_wordAt_l5_b f_M_wordAt_l5_b_ok f_M_wordAt_l5_a19 f_M_wordAt_l5_a19_ok f_M_wordAt_l5_k41 f_M_wordAt_l5_k41_ok f_M_wordAt_l5_a59 f_M_wordAt_l5_k107
      dsimp only
      rw [if_neg g0, ← eF, ← er, n2, ← ev0, ← er2]
      refine ⟨⟨fun z => absurd z g0, fun _ => ⟨n1, m1, trivial⟩⟩, ?_⟩
      rcases m2 with ⟨b1, b2⟩ | ⟨b1, b2⟩
      · rw [if_neg (by rw [b1]; decide)]
        exact Or.inr ⟨by simp, Or.inl ⟨rfl, k, hk, b2, rfl⟩⟩
      · rw [if_pos b1]
        refine Or.inl ⟨rfl, ?_, fun w hw => ?_⟩
        · dsimp only
          rw [← nI_succ, ← nI_succ, nI_add, wd4 k hk, Nat.add_assoc]
        · by_cases y : w = k
          · rw [y]; exact b2
          · exact q w (by omega))
    (by
      rintro t ⟨rfl, q⟩
      have g0 : Int32.ofNat 81 ≤ nI (wof 16) := by decide
      show f_M_wordAt_l5_b_ok (nI s) (nI e) (nI 16) (nI (wof 16)) x ∧ _
      unfold f_M_wordAt_l5_b f_M_wordAt_l5_b_ok
      dsimp only
      rw [if_pos g0]
      exact ⟨⟨fun _ => trivial, fun z => absurd g0 z⟩, by simp, Or.inr ⟨by simp, q⟩⟩)
  obtain ⟨k1, k2⟩ := key
  obtain ⟨r, er⟩ : ∃ r, r = f_M_wordAt_l5 (nI s) (nI e) x F (0, 1) := ⟨_, rfl⟩
  have k2 : (r.1 = 1 ∧ ∃ w, w < 16 ∧ mw B s e w ∧ r.2.1 = nI w) ∨ (¬ r.1 = 1 ∧ ∀ w, w < 16 → ¬ mw B s e w) := by rw [er]; exact k2
  rw [← er]
  unfold f_M_wordAt_a5_ok f_M_wordAt_a5 f_M_wordAt_k112 f_M_wordAt_k129
  refine ⟨⟨k1, fun _ => trivial, fun _ => trivial⟩, ?_⟩
  rcases k2 with ⟨a, w, b1, b2, b3⟩ | ⟨a, b⟩
  · rw [if_pos a, isWI_u (wI_s B s e) (Or.inl ⟨b1, b2⟩)]; exact Or.inl ⟨b1, b3⟩
  · rw [if_neg a, isWI_u (wI_s B s e) (Or.inr ⟨rfl, b⟩)]; exact Or.inr ⟨rfl, rfl⟩
/-- a TOKEN as the model has it -/
def mTV (q v : Nat) (T V : Int32) : Prop := (q = 257 → T = 0) ∧ (q = 256 → T = 1 ∧ ((v ≤ 99999 ∧ V = nI v) ∨ (v = 100000 ∧ ¬ (V ≤ 99999)))) ∧ (300 ≤ q → q ≤ 315 → T = 2 ∧ V = nI (q - 300)) ∧ (q = 316 → T = 2 ∧ V = -1) ∧ (q < 256 → T = 3 ∧ V = nI q) ∧ (q = 258 → T = 4) ∧ (q ≤ 258 ∨ 300 ≤ q) ∧ q ≤ 316
