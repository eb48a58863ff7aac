/-! ===== place ===== -/
def I_pl (np : Nat) (h : zm_H) : Prop := (np ≤ 8 ∧ zf h 82 7 = nI np ∧ zf h 92 75 = nI np) ∧ h.2.1 86 = h.2.1 148 ∧ ∀ k, k < np → ∃ P, P < 100 ∧ P % 10 < 5 ∧ h.2.1 148 k = nI P
theorem apl_N {np : Nat} (hn : np ≤ 8) {h : zm_H} (e : zf h 82 7 = nI np) (p : Int32) : f_Ground_addPlace_l2_ok p h zF 0 ∧ (((f_Ground_addPlace_l2 p h zF 0).1 = 1 ∧ ∃ k, k < np ∧ h.2.1 86 k = p) ∨ ((f_Ground_addPlace_l2 p h zF 0).1 = 2 ∧ ¬ ∃ k, k < np ∧ h.2.1 86 k = p)) := by
  obtain ⟨F, eF, -⟩ := zF_ex
  rw [← eF]
  have key := zlpF eF (b := fun t => f_Ground_addPlace_l2_b p t h) (o := fun t => f_Ground_addPlace_l2_b_ok p t h) np (by omega)
    (fun k s => s = nI k ∧ ¬ ∃ q, q < k ∧ h.2.1 86 q = p) (fun r => (r.1 = 1 ∧ ∃ k, k < np ∧ h.2.1 86 k = p) ∨ (r.1 = 2 ∧ ¬ ∃ k, k < np ∧ h.2.1 86 k = p)) 0 ⟨rfl, fun ⟨q, hq, _⟩ => by omega⟩
    (by
      rintro k s hk ⟨rfl, h2⟩
      have g0 : ¬ (zf h 82 7 ≤ nI k) := by rw [e, nx_le (by omega) (by omega)]; omega
      refine ⟨⟨fun z => absurd z g0, fun _ => vp_in_nI (by omega) (by omega)⟩, ?_⟩
      unfold f_Ground_addPlace_l2_b
      rw [if_neg g0, zr_n h 86 (by omega), ← nI_succ]
      by_cases c : zf h 86 k = p
      · rw [if_pos c]; exact Or.inr ⟨by simp, Or.inl ⟨rfl, k, hk, c⟩⟩
      · rw [if_neg c]
        refine Or.inl ⟨rfl, rfl, fun ⟨q, q1, q2⟩ => ?_⟩
        rcases (show q < k ∨ q = k by omega) with z | z
        · exact h2 ⟨q, z, q2⟩
        · subst z; exact c q2)
    (by
      rintro s ⟨rfl, h2⟩
      have g0 : zf h 82 7 ≤ nI np := by rw [e]; exact i_le_r _
      refine ⟨⟨fun _ => trivial, fun z => absurd g0 z⟩, ?_⟩
      unfold f_Ground_addPlace_l2_b
      rw [if_pos g0]
      exact ⟨by simp, Or.inr ⟨rfl, h2⟩⟩)
  exact key
theorem apl_M {np : Nat} (hn : np ≤ 8) {h : zm_H} (e : zf h 92 75 = nI np) (p : Int32) : f_M_place_l20_ok p h zF 0 ∧ (((f_M_place_l20 p h zF 0).1 = 1 ∧ ∃ k, k < np ∧ h.2.1 148 k = p) ∨ ((f_M_place_l20 p h zF 0).1 = 2 ∧ ¬ ∃ k, k < np ∧ h.2.1 148 k = p)) := by
  obtain ⟨F, eF, -⟩ := zF_ex
  rw [← eF]
  have key := zlpF eF (b := fun t => f_M_place_l20_b p t h) (o := fun t => f_M_place_l20_b_ok p t h) np (by omega)
    (fun k s => s = nI k ∧ ¬ ∃ q, q < k ∧ h.2.1 148 q = p) (fun r => (r.1 = 1 ∧ ∃ k, k < np ∧ h.2.1 148 k = p) ∨ (r.1 = 2 ∧ ¬ ∃ k, k < np ∧ h.2.1 148 k = p)) 0 ⟨rfl, fun ⟨q, hq, _⟩ => by omega⟩
    (by
      rintro k s hk ⟨rfl, h2⟩
      have g0 : ¬ (zf h 92 75 ≤ nI k) := by rw [e, nx_le (by omega) (by omega)]; omega
      refine ⟨⟨fun z => absurd z g0, fun _ => vp_in_nI (by omega) (by omega)⟩, ?_⟩
      unfold f_M_place_l20_b
      rw [if_neg g0, zr_n h 148 (by omega), ← nI_succ]
      by_cases c : zf h 148 k = p
      · rw [if_pos c]; exact Or.inr ⟨by simp, Or.inl ⟨rfl, k, hk, c⟩⟩
      · rw [if_neg c]
        refine Or.inl ⟨rfl, rfl, fun ⟨q, q1, q2⟩ => ?_⟩
        rcases (show q < k ∨ q = k by omega) with z | z
        · exact h2 ⟨q, z, q2⟩
        · subst z; exact c q2)
    (by
      rintro s ⟨rfl, h2⟩
      have g0 : zf h 92 75 ≤ nI np := by rw [e]; exact i_le_r _
      refine ⟨⟨fun _ => trivial, fun z => absurd g0 z⟩, ?_⟩
      unfold f_M_place_l20_b
      rw [if_pos g0]
      exact ⟨by simp, Or.inr ⟨rfl, h2⟩⟩)
  exact key
theorem c_place {np : Nat} {h : zm_H} (Q : I_pl np h) (p : Int32) : f_N_place_ok p h ∧ f_M_place_ok p (f_N_place p h).2 ∧ (f_N_place p h).1 = (f_M_place p (f_N_place p h).2).1 ∧ ∃ np', I_pl np' (f_M_place p (f_N_place p h).2).2 := by
  obtain ⟨⟨hn, e1, e2⟩, e3, e4⟩ := id Q
  by_cases c : ¬ (p < 0) ∧ (¬ (100 ≤ p) ∧ (¬ (5 ≤ (zm_rm p 10))))
  · have c' := (pl_c p).mp c
    obtain ⟨n1, n2⟩ := apl_N hn e1 p
    have g8 : nI np < 8 ↔ np < 8 := by
      rw [i_lt, i_nI (by omega)]
      have : (8 : Int32).toInt = 8 := rfl
      omega
    have h8 : nI np = 8 ↔ np = 8 := by
      rw [i_eq, i_nI (by omega)]
      have : (8 : Int32).toInt = 8 := rfl
      omega
    have oN : f_N_place_ok p h := by
      unfold f_N_place_ok f_Ground_addPlace_ok f_Ground_addPlace_a2_ok f_Ground_addPlace_k28_ok
      rw [e1]
      exact ⟨fun _ => ⟨n1, fun _ => trivial, fun _ => ⟨fun z => vp_in_nI (g8.mp z) (by omega), fun _ => trivial⟩⟩, fun _ => trivial⟩
    have oM : ∀ h', zf h' 92 75 = nI np → f_M_place_ok p h' := fun h' e' => by
      unfold f_M_place_ok f_M_place_a20_ok f_M_place_k46_ok
      rw [e']
      exact ⟨fun _ => ⟨fun _ => trivial, fun z => ⟨(apl_M hn e' p).1, fun _ => trivial, fun _ => vp_in_nI (by have : ¬ np = 8 := fun y => z (h8.mpr y); omega) (by omega)⟩⟩, fun _ => trivial⟩
    by_cases A : np < 8 ∧ ¬ ∃ k, k < np ∧ h.2.1 148 k = p
    · have eN : f_N_place p h = (nI (np + 1), zm_si (zm_si h 86 np p) 82 7 (nI (np + 1))) := by
        unfold f_N_place f_Ground_addPlace f_Ground_addPlace_a2 f_Ground_addPlace_k28
        rcases n2 with ⟨a, b⟩ | ⟨a, b⟩
        · rw [e3] at b; exact absurd b A.2
        · rw [if_pos c, if_neg (by rw [a]; decide), e1, if_pos (g8.mpr A.1), zs_n _ 86 _ (by omega), ← nI_succ]
      rw [eN]
      dsimp only
      obtain ⟨h1, eh⟩ : ∃ h1, h1 = zm_si (zm_si h 86 np p) 82 7 (nI (np + 1)) := ⟨_, rfl⟩
      rw [← eh]
      have w1 : zWr [86] [(82, 7)] h h1 := by rw [eh]; exact zWr_p (by decide) (zWr_si (by decide) (zWr.refl _ _))
      have f75 : zf h1 92 75 = nI np := (w1.fld 92 75 (by decide) (by decide)).trans e2
      have eM : f_M_place p h1 = (nI (np + 1), zm_si (zm_si h1 148 np p) 92 75 (nI (np + 1))) := by
        unfold f_M_place f_M_place_a20 f_M_place_k46
        rcases (apl_M hn f75 p).2 with ⟨a, b⟩ | ⟨a, b⟩
        · rw [w1.arr 148 (by decide) (by decide)] at b; exact absurd b A.2
        · rw [if_pos c', f75, if_neg (fun z => by have := h8.mp z; omega), if_neg (by rw [a]; decide), zs_n _ 148 _ (by omega), ← nI_succ]
      rw [eM]
      dsimp only
      have w2 : zWr [148] [(92, 75)] h1 (zm_si (zm_si h1 148 np p) 92 75 (nI (np + 1))) := zWr_p (by decide) (zWr_si (by decide) (zWr.refl _ _))
      refine ⟨oN, oM h1 f75, rfl, np + 1, ⟨by omega, ?_, zm_in _ _ _ _⟩, ?_, ?_⟩
      · refine (w2.fld 82 7 (by decide) (by decide)).trans ?_
        rw [eh]; exact zm_in _ _ _ _
      · rw [w2.arr 86 (by decide) (by decide), za_si, if_neg (by decide), za_si, if_pos rfl, w1.arr 148 (by decide) (by decide), ← e3, eh, za_si, if_neg (by decide), za_si, if_pos rfl]
      · intro k hk
        rw [za_si, if_neg (by decide), za_si, if_pos rfl, w1.arr 148 (by decide) (by decide)]
        unfold upd
        by_cases y : k = np
        · rw [if_pos y]
          have e10 : (10 : Int32).toInt = 10 := rfl
          have e100 : (100 : Int32).toInt = 100 := rfl
          have e5 : (5 : Int32).toInt = 5 := rfl
          have d := c
          rw [i_lt, i_le, i_0, e100] at d
          have m := d.2.2
          rw [i_le, i_rm (by omega) (by decide), e10, e5] at m
          obtain ⟨P, hP, rfl⟩ := i_ex (a := p) (N := 100) (by omega) (by omega)
          rw [i_nI (by omega)] at m
          exact ⟨P, hP, by omega, rfl⟩
        · rw [if_neg y]; exact e4 k (by omega)
    · have eN : f_N_place p h = (-1, h) := by
        unfold f_N_place f_Ground_addPlace f_Ground_addPlace_a2 f_Ground_addPlace_k28 f_Ground_addPlace_k20
        rw [if_pos c]
        rcases n2 with ⟨a, b⟩ | ⟨a, b⟩
        · rw [if_pos a]
        · rw [if_neg (by rw [a]; decide), e1, if_neg (fun z => A ⟨g8.mp z, by rw [← e3]; exact b⟩)]
      have eM : f_M_place p h = (-1, h) := by
        unfold f_M_place f_M_place_a20 f_M_place_k38
        rw [if_pos c', e2]
        by_cases z : nI np = 8
        · rw [if_pos z]
        · rw [if_neg z]
          rcases (apl_M hn e2 p).2 with ⟨a, b⟩ | ⟨a, b⟩
          · rw [if_pos a]
          · exact absurd ⟨by have : ¬ np = 8 := fun y => z (h8.mpr y); omega, b⟩ A
      rw [eN]
      dsimp only
      rw [eM]
      exact ⟨oN, oM h e2, rfl, np, Q⟩
  · have c' : ¬ (¬ (p < 0) ∧ (¬ (10 ≤ (p / 10)) ∧ (¬ (5 ≤ (zm_rm p 10))))) := fun z => c ((pl_c p).mpr z)
    have eN : f_N_place p h = (-1, h) := by unfold f_N_place; rw [if_neg c]
    have eM : f_M_place p h = (-1, h) := by unfold f_M_place; rw [if_neg c']
    rw [eN]
    dsimp only
    rw [eM]
    refine ⟨?_, ?_, rfl, np, Q⟩
    · unfold f_N_place_ok; exact ⟨fun z => absurd z c, fun _ => trivial⟩
    · unfold f_M_place_ok; exact ⟨fun z => absurd z c', fun _ => trivial⟩
