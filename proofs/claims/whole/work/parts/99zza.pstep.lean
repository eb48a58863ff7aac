/-! ===== reading as a picture: a step keeps it ===== -/
theorem cD_l {s : Nat} (r : List Nat) (h : s < 1000) : cD (s :: r) = cD r := by rw [cD, if_neg (by omega), Nat.zero_add]
theorem cD_g {s : Nat} (r : List Nat) (h : 1000 ≤ s) : cD (s :: r) = 1 + cD r := by rw [cD, if_pos h]
theorem tst_f {w : Nat} (h : 2 ≤ w ∧ w ≤ 5) (ts : List Bool) : tst (nI w) 0 (false :: false :: ts) = some (false :: ts) := by
  rcases (show w = 2 ∨ w = 3 ∨ w = 4 ∨ w = 5 by omega) with z | z | z | z <;> subst z <;> rfl
theorem tst_r {w : Nat} (h : 6 ≤ w ∧ w ≤ 8) (ts : List Bool) : tst (nI w) 0 (false :: false :: ts) = some (true :: ts) := by
  rcases (show w = 6 ∨ w = 7 ∨ w = 8 by omega) with z | z | z <;> subst z <;> rfl
theorem tst_b {w : Nat} (h : 9 ≤ w ∧ w ≤ 10) (ts : List Bool) : tst (nI w) 0 (true :: true :: ts) = some (true :: ts) := by
  rcases (show w = 9 ∨ w = 10 by omega) with z | z <;> subst z <;> rfl
theorem tst_n (ts : List Bool) : tst (nI 11) 0 (true :: ts) = some (true :: ts) := rfl
theorem tst_len {w : Nat} (h : 2 ≤ w ∧ w ≤ 11) {ts us : List Bool} (e : tst (nI w) 0 ts = some us) : us.length ≤ ts.length := by
  rcases (show w = 2 ∨ w = 3 ∨ w = 4 ∨ w = 5 ∨ w = 6 ∨ w = 7 ∨ w = 8 ∨ w = 9 ∨ w = 10 ∨ w = 11 by omega) with z | z | z | z | z | z | z | z | z | z <;> subst z <;>
  (match ts, e with
    | [], e => cases e
    | [true], e => first | (cases e; simp) | cases e
    | [false], e => first | (cases e; simp) | cases e
    | true :: true :: r, e => first | (cases e; simp) | cases e
    | false :: false :: r, e => first | (cases e; simp) | cases e
    | true :: false :: r, e => first | (cases e; simp) | cases e
    | false :: true :: r, e => first | (cases e; simp) | cases e)
theorem opO_len {s : PSt} {ts : List Bool} (h : opO s ts) : ts.length ≤ 60 := by
  obtain ⟨-, b, h1, -, h3, h4⟩ := h
  exact h4 _ _ (Nat.le_refl _) h3
theorem pIv_s {B : Nat → Int32} {n : Nat} (hn : n ≤ 400) {a b : PCf} (H : pIv n a) (st : stp B n a = some b) : pIv n b ∧ pMu n b < pMu n a := by
  obtain ⟨x, s⟩ := a
  obtain ⟨⟨hp, hd, hc⟩, H⟩ := H
  dsimp only at hp hd hc H
  have A : ¬ tq B n s.1 = 257 → s.1 + 1 ≤ lxE B n s.1 ∧ lxE B n s.1 ≤ n := fun z => by
    obtain ⟨b1, b2, b3, b4, -⟩ := lx_b (B := B) hn hp
    have := b4 z
    omega
  rcases H with ⟨hx, hcl⟩ | ⟨ts, hop, hch, hcl⟩
  · rcases hx with hx | hx
    · subst hx; cases st
    · subst hx
      have st : (if tq B n s.1 = 257 then some ([], s) else if (300 ≤ tq B n s.1 ∧ tq B n s.1 ≤ 303) ∧ s.2.2.2.2.2.1 (tq B n s.1 - 300) = -1 then some ((if tq B n s.1 = 303 then 1 else 6) :: 159 :: 13 :: 0 :: [], padv B n (pcls s (tq B n s.1 - 300))) else none) = some b := st
      by_cases c : tq B n s.1 = 257
      · rw [if_pos c] at st
        cases st
        refine ⟨⟨⟨hp, hd, hc⟩, Or.inl ⟨Or.inl rfl, hcl⟩⟩, ?_⟩
        show 20 * (n - s.1) + 0 < 20 * (n - s.1) + (1 + 0)
        omega
      · rw [if_neg c] at st
        by_cases c2 : (300 ≤ tq B n s.1 ∧ tq B n s.1 ≤ 303) ∧ s.2.2.2.2.2.1 (tq B n s.1 - 300) = -1
        · rw [if_pos c2] at st
          cases st
          obtain ⟨a1, a2⟩ := A c
          obtain ⟨k, ek⟩ : ∃ k, k = tq B n s.1 - 300 := ⟨_, rfl⟩
          rw [← ek]
          have hk : k < 4 := by omega
          have hc0 : s.2.2.1 + 0 ≤ s.1 := hc
          refine ⟨⟨⟨a2, hd, ?_⟩, Or.inr ⟨[], ⟨hk, s.2.2.1, Nat.le_refl _, ?_, ?_, fun j us hj e => ?_⟩, ?_, fun j hj nj => ?_⟩⟩, ?_⟩
          · show s.2.2.1 + cD ((if tq B n s.1 = 303 then 1 else 6) :: 159 :: 13 :: 0 :: []) ≤ lxE B n s.1
            have : cD ((if tq B n s.1 = 303 then 1 else 6) :: 159 :: 13 :: 0 :: []) = 0 := by split <;> rfl
            omega
          · show upd s.2.2.2.2.2.1 k (nI s.2.2.1) k = nI s.2.2.1
            unfold upd; rw [if_pos rfl]
          · show tyk s.2.2.2.1 s.2.2.2.2.1 s.2.2.1 (s.2.2.1 - s.2.2.1) = some []
            rw [Nat.sub_self]; rfl
          · have hj : j ≤ s.2.2.1 - s.2.2.1 := hj
            have ej : j = 0 := by omega
            rw [ej] at e
            have e : some ([] : List Bool) = some us := e
            cases e
            show (0 : Nat) ≤ 60
            omega
          · show chk (decide (k ≠ 3)) ((if tq B n s.1 = 303 then 1 else 6) :: 159 :: 13 :: 0 :: []) s.2.1 []
            by_cases z : tq B n s.1 = 303
            · rw [if_pos z, show k = 3 by omega]
              refine ⟨⟨by show 0 + 3 + 2 * (8 - s.2.1) ≤ 60; omega, by show 3 + 5 + 6 * (8 - s.2.1) ≤ 800; omega⟩, by omega, by show 2 + 1 ≤ 800; omega, rfl, rfl⟩
            · rw [if_neg z, show decide (k ≠ 3) = true from decide_eq_true (by omega)]
              refine ⟨⟨by show 0 + 6 + 2 * (8 - s.2.1) ≤ 60; omega, by show 3 + 10 + 6 * (8 - s.2.1) ≤ 800; omega⟩, by omega, by show 2 + 1 ≤ 800; omega, rfl, rfl⟩
          · have nj : ¬ j = k := nj
            have := hcl j hj
            intro nb
            have eb : upd s.2.2.2.2.2.1 k (nI s.2.2.1) j = s.2.2.2.2.2.1 j := by unfold upd; rw [if_neg nj]
            have nb : ¬ upd s.2.2.2.2.2.1 k (nI s.2.2.1) j = -1 := nb
            rw [eb] at nb
            obtain ⟨b, e, h1, h2, h3, h4⟩ := this nb
            exact ⟨b, e, h1, eb.trans h2, h3, h4⟩
          · show 20 * (n - lxE B n s.1) + wL ((if tq B n s.1 = 303 then 1 else 6) :: 159 :: 13 :: 0 :: []) < 20 * (n - s.1) + (1 + 0)
            have : wL ((if tq B n s.1 = 303 then 1 else 6) :: 159 :: 13 :: 0 :: []) ≤ 14 := by
              split
              · exact (by decide : wL [1, 159, 13, 0] ≤ 14)
              · exact (by decide : wL [6, 159, 13, 0] ≤ 14)
            omega
        · rw [if_neg c2] at st; cases st
  · obtain ⟨t, et⟩ : ∃ t, t = decide (s.2.2.2.2.2.2.2 ≠ 3) := ⟨_, rfl⟩
    rw [← et] at hch
    cases x with
    | nil => exact hch.elim
    | cons y r =>
      -- a step that adds no code
      have fin : ∀ (x' : List Nat) (p' d' : Nat), (p' = s.1 ∨ (p' = lxE B n s.1 ∧ ¬ tq B n s.1 = 257)) → d' ≤ 8 → s.2.2.1 + cD x' ≤ p' → chk t x' d' ts → 20 * (n - p') + wL x' < 20 * (n - s.1) + wL (y :: r) → b = (x', (p', d', s.2.2)) → pIv n b ∧ pMu n b < pMu n (y :: r, s) := by
        intro x' p' d' e1 e2 e3 e4 e5 e6
        subst e6
        have : p' ≤ n := by
          rcases e1 with z | ⟨z, z2⟩
          · omega
          · have := A z2; omega
        refine ⟨⟨⟨this, e2, e3⟩, Or.inr ⟨ts, hop, ?_, hcl⟩⟩, e5⟩
        show chk (decide (s.2.2.2.2.2.2.2 ≠ 3)) x' d' ts
        rw [← et]; exact e4
      have tl := opO_len hop
      have hcy : s.2.2.1 + cD (y :: r) ≤ s.1 := hc
      have hch' := hch
      unfold chk at hch
      by_cases e13 : y = 13
      · rw [if_pos e13] at hch
        obtain ⟨h1, h2⟩ := hch
        subst e13 h1 h2
        have st : some ([0], pend s) = some b := st
        cases st
        obtain ⟨h0, bb, g1, g2, g3, g4⟩ := hop
        refine ⟨⟨⟨hp, hd, hc⟩, Or.inl ⟨Or.inr rfl, fun k hk => ?_⟩⟩, ?_⟩
        · by_cases z : k = s.2.2.2.2.2.2.2
          · intro nb
            refine ⟨bb, s.2.2.1, Nat.le_refl _, by show s.2.2.2.2.2.1 k = nI bb; rw [z]; exact g2, ?_, ?_⟩
            · show upd s.2.2.2.2.2.2.1 s.2.2.2.2.2.2.2 (nI s.2.2.1) k = nI s.2.2.1
              unfold upd; rw [if_pos z]
            · rw [z, ← et]; exact ⟨g1, g3, g4⟩
          · intro nb
            obtain ⟨b, e, q1, q2, q3, q4⟩ := hcl k hk z nb
            refine ⟨b, e, q1, q2, ?_, q4⟩
            show upd s.2.2.2.2.2.2.1 s.2.2.2.2.2.2.2 (nI s.2.2.1) k = nI e
            unfold upd; rw [if_neg z]; exact q3
        · show 20 * (n - s.1) + (1 + 0) < 20 * (n - s.1) + (1 + (1 + 0))
          omega
      rw [if_neg e13] at hch
      by_cases e1 : y = 1
      · rw [if_pos e1] at hch
        subst e1
        rw [cD_l r (by omega)] at hcy
        have st : some (3 :: 2 :: r, s) = some b := st
        cases st
        refine fin (3 :: 2 :: r) s.1 s.2.1 (Or.inl rfl) hd (by rw [cD_l _ (by omega), cD_l _ (by omega)]; exact hcy) ?_ (by show _ + (3 + (1 + wL r)) < _ + (5 + wL r); omega) rfl
        obtain ⟨⟨g1, g2⟩, g3⟩ := hch
        exact ⟨⟨by omega, by show r.length + 1 + 3 + 6 * (8 - s.2.1) ≤ 800; omega⟩, ⟨ts, rfl⟩, ⟨by show ts.length + 1 + 2 + 2 * (8 - s.2.1) ≤ 60; omega, by omega⟩, g3⟩
      rw [if_neg e1] at hch
      by_cases e2 : y = 2
      · rw [if_pos e2] at hch
        subst e2
        rw [cD_l r (by omega)] at hcy
        obtain ⟨⟨us, eu⟩, ⟨g1, g2⟩, g3⟩ := hch
        have st : (if tq B n s.1 = 43 then some (3 :: 1002 :: 2 :: r, padv B n s) else if tq B n s.1 = 45 then some (3 :: 1003 :: 2 :: r, padv B n s) else some (r, s)) = some b := st
        have go : ∀ w, 2 ≤ w ∧ w ≤ 5 → ¬ tq B n s.1 = 257 → b = (3 :: (1000 + w) :: 2 :: r, padv B n s) → pIv n b ∧ pMu n b < pMu n (2 :: r, s) := by
          intro w hw nq eb
          have := A nq
          have w1 : wS (1000 + w) = 1 := by unfold wS; rw [if_neg (by omega), if_neg (by omega), if_neg (by omega), if_neg (by omega), if_neg (by omega)]
          refine fin (3 :: (1000 + w) :: 2 :: r) _ s.2.1 (Or.inr ⟨rfl, nq⟩) hd (by rw [cD_l _ (by omega), cD_g _ (by omega), cD_l _ (by omega)]; omega) ?_ (by show _ + (3 + (wS (1000 + w) + (1 + wL r))) < _ + (1 + wL r); omega) eb
          refine ⟨⟨by omega, by show r.length + 1 + 1 + 3 + 6 * (8 - s.2.1) ≤ 800; omega⟩, ?_⟩
          unfold chk
          rw [if_neg (by omega), if_neg (by omega), if_neg (by omega), if_neg (by omega), if_neg (by omega), if_neg (by omega), if_neg (by omega), if_neg (by omega), if_neg (by omega), if_neg (by omega), if_neg (by omega), if_neg (by omega), if_neg (by omega), if_pos (by omega), show 1000 + w - 1000 = w by omega]
          subst eu
          exact ⟨by omega, by omega, by show r.length + 1 + 1 ≤ 800; omega, false :: us, tst_f hw us, ⟨us, rfl⟩, ⟨g1, g2⟩, g3⟩
        by_cases c1 : tq B n s.1 = 43
        · rw [if_pos c1] at st; cases st; exact go 2 (by omega) (by omega) rfl
        · rw [if_neg c1] at st
          by_cases c2 : tq B n s.1 = 45
          · rw [if_pos c2] at st; cases st; exact go 3 (by omega) (by omega) rfl
          · rw [if_neg c2] at st
            cases st
            exact fin r s.1 s.2.1 (Or.inl rfl) hd hcy g3 (by show _ < _ + (1 + wL r); omega) rfl
      rw [if_neg e2] at hch
      by_cases e3 : y = 3
      · rw [if_pos e3] at hch
        subst e3
        rw [cD_l r (by omega)] at hcy
        have st : some (5 :: 4 :: r, s) = some b := st
        cases st
        refine fin (5 :: 4 :: r) s.1 s.2.1 (Or.inl rfl) hd (by rw [cD_l _ (by omega), cD_l _ (by omega)]; exact hcy) ?_ (by show _ + (1 + (1 + wL r)) < _ + (3 + wL r); omega) rfl
        obtain ⟨⟨g1, g2⟩, g3⟩ := hch
        exact ⟨⟨by omega, by show r.length + 1 + 1 + 6 * (8 - s.2.1) ≤ 800; omega⟩, ⟨ts, rfl⟩, ⟨by show ts.length + 1 + 1 + 2 * (8 - s.2.1) ≤ 60; omega, by omega⟩, g3⟩
      rw [if_neg e3] at hch
      by_cases e4 : y = 4
      · rw [if_pos e4] at hch
        subst e4
        rw [cD_l r (by omega)] at hcy
        obtain ⟨⟨us, eu⟩, ⟨g1, g2⟩, g3⟩ := hch
        have st : (if tq B n s.1 = 42 then some (5 :: 1004 :: 4 :: r, padv B n s) else if tq B n s.1 = 47 then some (5 :: 1005 :: 4 :: r, padv B n s) else some (r, s)) = some b := st
        have go : ∀ w, 2 ≤ w ∧ w ≤ 5 → ¬ tq B n s.1 = 257 → b = (5 :: (1000 + w) :: 4 :: r, padv B n s) → pIv n b ∧ pMu n b < pMu n (4 :: r, s) := by
          intro w hw nq eb
          have := A nq
          have w1 : wS (1000 + w) = 1 := by unfold wS; rw [if_neg (by omega), if_neg (by omega), if_neg (by omega), if_neg (by omega), if_neg (by omega)]
          refine fin (5 :: (1000 + w) :: 4 :: r) _ s.2.1 (Or.inr ⟨rfl, nq⟩) hd (by rw [cD_l _ (by omega), cD_g _ (by omega), cD_l _ (by omega)]; omega) ?_ (by show _ + (1 + (wS (1000 + w) + (1 + wL r))) < _ + (1 + wL r); omega) eb
          refine ⟨⟨by omega, by show r.length + 1 + 1 + 1 + 6 * (8 - s.2.1) ≤ 800; omega⟩, ?_⟩
          unfold chk
          rw [if_neg (by omega), if_neg (by omega), if_neg (by omega), if_neg (by omega), if_neg (by omega), if_neg (by omega), if_neg (by omega), if_neg (by omega), if_neg (by omega), if_neg (by omega), if_neg (by omega), if_neg (by omega), if_neg (by omega), if_pos (by omega), show 1000 + w - 1000 = w by omega]
          subst eu
          exact ⟨by omega, by omega, by show r.length + 1 + 1 ≤ 800; omega, false :: us, tst_f hw us, ⟨us, rfl⟩, ⟨g1, g2⟩, g3⟩
        by_cases c1 : tq B n s.1 = 42
        · rw [if_pos c1] at st; cases st; exact go 4 (by omega) (by omega) rfl
        · rw [if_neg c1] at st
          by_cases c2 : tq B n s.1 = 47
          · rw [if_pos c2] at st; cases st; exact go 5 (by omega) (by omega) rfl
          · rw [if_neg c2] at st
            cases st
            exact fin r s.1 s.2.1 (Or.inl rfl) hd hcy g3 (by show _ < _ + (1 + wL r); omega) rfl
      rw [if_neg e4] at hch
      by_cases e5 : y = 5
      · rw [if_pos e5] at hch
        subst e5
        rw [cD_l r (by omega)] at hcy
        obtain ⟨⟨g1, g2⟩, g3⟩ := hch
        have st : (if tq B n s.1 = 256 then (if tv B n s.1 ≤ 99999 then some (r, padv B n (pemt s 0 (nI (tv B n s.1)))) else none) else if 304 ≤ tq B n s.1 ∧ tq B n s.1 ≤ 312 then some (r, padv B n (pemt s 1 (nI (tq B n s.1 - 304)))) else if tq B n s.1 = 40 ∧ s.2.1 < 8 then some (1 :: 141 :: 12 :: r, padv B n (pdep s (s.2.1 + 1))) else none) = some b := st
        have put : ∀ w v : Int32, ¬ tq B n s.1 = 257 → tst w v ts = some (false :: ts) → b = (r, padv B n (pemt s w v)) → pIv n b ∧ pMu n b < pMu n (5 :: r, s) := by
          intro w v nq ht eb
          subst eb
          have a1 := A nq
          refine ⟨⟨⟨a1.2, hd, by show s.2.2.1 + 1 + cD r ≤ lxE B n s.1; omega⟩, Or.inr ⟨false :: ts, opO_emt hop ht (by rw [List.length_cons]; omega), by rw [et] at g3; exact g3, fun k hk nk => clO_emt (hcl k hk nk)⟩⟩, ?_⟩
          show 20 * (n - lxE B n s.1) + wL r < 20 * (n - s.1) + (1 + wL r)
          omega
        by_cases c1 : tq B n s.1 = 256
        · rw [if_pos c1] at st
          by_cases c2 : tv B n s.1 ≤ 99999
          · rw [if_pos c2] at st
            cases st
            refine put 0 _ (by omega) ?_ rfl
            unfold tst
            rw [if_pos rfl, i_nI (by omega), if_pos (by omega)]
          · rw [if_neg c2] at st; cases st
        · rw [if_neg c1] at st
          by_cases c2 : 304 ≤ tq B n s.1 ∧ tq B n s.1 ≤ 312
          · rw [if_pos c2] at st
            cases st
            refine put 1 _ (by omega) ?_ rfl
            unfold tst
            rw [if_neg (by decide), if_pos rfl, i_nI (by omega), if_pos (by omega)]
          · rw [if_neg c2] at st
            by_cases c3 : tq B n s.1 = 40 ∧ s.2.1 < 8
            · rw [if_pos c3] at st
              cases st
              have a1 := A (by omega)
              refine fin (1 :: 141 :: 12 :: r) (lxE B n s.1) (s.2.1 + 1) (Or.inr ⟨rfl, by omega⟩) (by omega) (by rw [cD_l _ (by omega), cD_l _ (by omega), cD_l _ (by omega)]; omega) ?_ (by show _ + (5 + (1 + (1 + wL r))) < _ + (1 + wL r); omega) rfl
              refine ⟨⟨by omega, by show r.length + 1 + 1 + 5 + 6 * (8 - (s.2.1 + 1)) ≤ 800; omega⟩, by omega, by show r.length + 1 + 1 ≤ 800; omega, ⟨s.2.1, rfl⟩, by omega, ?_⟩
              rw [show s.2.1 + 1 - 1 = s.2.1 by omega]; exact g3
            · rw [if_neg c3] at st; cases st
      rw [if_neg e5] at hch
      by_cases e6 : y = 6
      · rw [if_pos e6] at hch
        subst e6
        rw [cD_l r (by omega)] at hcy
        have st : some (8 :: 7 :: r, s) = some b := st
        cases st
        refine fin (8 :: 7 :: r) s.1 s.2.1 (Or.inl rfl) hd (by rw [cD_l _ (by omega), cD_l _ (by omega)]; exact hcy) ?_ (by show _ + (9 + (1 + wL r)) < _ + (11 + wL r); omega) rfl
        obtain ⟨⟨g1, g2⟩, g3⟩ := hch
        exact ⟨⟨by omega, by show r.length + 1 + 8 + 6 * (8 - s.2.1) ≤ 800; omega⟩, ⟨ts, rfl⟩, ⟨by show ts.length + 1 + 5 + 2 * (8 - s.2.1) ≤ 60; omega, by omega⟩, g3⟩
      rw [if_neg e6] at hch
      by_cases e7 : y = 7
      · rw [if_pos e7] at hch
        subst e7
        rw [cD_l r (by omega)] at hcy
        obtain ⟨⟨us, eu⟩, ⟨g1, g2⟩, g3⟩ := hch
        have st : (if tq B n s.1 = 313 then some (8 :: 1010 :: 7 :: r, padv B n s) else some (r, s)) = some b := st
        by_cases c1 : tq B n s.1 = 313
        · rw [if_pos c1] at st
          cases st
          have := A (by omega)
          refine fin (8 :: 1010 :: 7 :: r) _ s.2.1 (Or.inr ⟨rfl, by omega⟩) hd (by rw [cD_l _ (by omega), cD_g _ (by omega), cD_l _ (by omega)]; omega) ?_ (by show _ + (9 + (1 + (1 + wL r))) < _ + (1 + wL r); omega) rfl
          subst eu
          exact ⟨⟨by omega, by show r.length + 1 + 1 + 8 + 6 * (8 - s.2.1) ≤ 800; omega⟩, by omega, by omega, by show r.length + 1 + 1 ≤ 800; omega, true :: us, tst_b (by omega) us, ⟨us, rfl⟩, ⟨g1, g2⟩, g3⟩
        · rw [if_neg c1] at st
          cases st
          exact fin r s.1 s.2.1 (Or.inl rfl) hd hcy g3 (by show _ < _ + (1 + wL r); omega) rfl
      rw [if_neg e7] at hch
      by_cases e8 : y = 8
      · rw [if_pos e8] at hch
        subst e8
        rw [cD_l r (by omega)] at hcy
        have st : some (10 :: 9 :: r, s) = some b := st
        cases st
        refine fin (10 :: 9 :: r) s.1 s.2.1 (Or.inl rfl) hd (by rw [cD_l _ (by omega), cD_l _ (by omega)]; exact hcy) ?_ (by show _ + (7 + (1 + wL r)) < _ + (9 + wL r); omega) rfl
        obtain ⟨⟨g1, g2⟩, g3⟩ := hch
        exact ⟨⟨by omega, by show r.length + 1 + 6 + 6 * (8 - s.2.1) ≤ 800; omega⟩, ⟨ts, rfl⟩, ⟨by show ts.length + 1 + 4 + 2 * (8 - s.2.1) ≤ 60; omega, by omega⟩, g3⟩
      rw [if_neg e8] at hch
      by_cases e9 : y = 9
      · rw [if_pos e9] at hch
        subst e9
        rw [cD_l r (by omega)] at hcy
        obtain ⟨⟨us, eu⟩, ⟨g1, g2⟩, g3⟩ := hch
        have st : (if tq B n s.1 = 314 then some (10 :: 1009 :: 9 :: r, padv B n s) else some (r, s)) = some b := st
        by_cases c1 : tq B n s.1 = 314
        · rw [if_pos c1] at st
          cases st
          have := A (by omega)
          refine fin (10 :: 1009 :: 9 :: r) _ s.2.1 (Or.inr ⟨rfl, by omega⟩) hd (by rw [cD_l _ (by omega), cD_g _ (by omega), cD_l _ (by omega)]; omega) ?_ (by show _ + (7 + (1 + (1 + wL r))) < _ + (1 + wL r); omega) rfl
          subst eu
          exact ⟨⟨by omega, by show r.length + 1 + 1 + 6 + 6 * (8 - s.2.1) ≤ 800; omega⟩, by omega, by omega, by show r.length + 1 + 1 ≤ 800; omega, true :: us, tst_b (by omega) us, ⟨us, rfl⟩, ⟨g1, g2⟩, g3⟩
        · rw [if_neg c1] at st
          cases st
          exact fin r s.1 s.2.1 (Or.inl rfl) hd hcy g3 (by show _ < _ + (1 + wL r); omega) rfl
      rw [if_neg e9] at hch
      by_cases e10 : y = 10
      · rw [if_pos e10] at hch
        subst e10
        rw [cD_l r (by omega)] at hcy
        obtain ⟨⟨g1, g2⟩, g3⟩ := hch
        have st : (if tq B n s.1 = 315 then (if s.2.1 < 8 then some (10 :: 1011 :: 12 :: r, padv B n (pdep s (s.2.1 + 1))) else none) else if tq B n s.1 = 91 then (if s.2.1 < 8 then some (6 :: 193 :: 12 :: r, padv B n (pdep s (s.2.1 + 1))) else none) else some (1 :: 11 :: r, s)) = some b := st
        by_cases c1 : tq B n s.1 = 315
        · rw [if_pos c1] at st
          by_cases c8 : s.2.1 < 8
          · rw [if_pos c8] at st
            cases st
            have := A (by omega)
            refine fin (10 :: 1011 :: 12 :: r) (lxE B n s.1) (s.2.1 + 1) (Or.inr ⟨rfl, by omega⟩) (by omega) (by rw [cD_l _ (by omega), cD_g _ (by omega), cD_l _ (by omega)]; omega) ?_ (by show _ + (7 + (1 + (1 + wL r))) < _ + (7 + wL r); omega) rfl
            refine ⟨⟨by omega, by show r.length + 1 + 1 + 6 + 6 * (8 - (s.2.1 + 1)) ≤ 800; omega⟩, by omega, by omega, by show r.length + 1 + 1 ≤ 800; omega, true :: ts, tst_n ts, ⟨s.2.1, rfl⟩, by omega, ?_⟩
            rw [show s.2.1 + 1 - 1 = s.2.1 by omega]; exact g3
          · rw [if_neg c8] at st; cases st
        · rw [if_neg c1] at st
          by_cases c2 : tq B n s.1 = 91
          · rw [if_pos c2] at st
            by_cases c8 : s.2.1 < 8
            · rw [if_pos c8] at st
              cases st
              have := A (by omega)
              refine fin (6 :: 193 :: 12 :: r) (lxE B n s.1) (s.2.1 + 1) (Or.inr ⟨rfl, by omega⟩) (by omega) (by rw [cD_l _ (by omega), cD_l _ (by omega), cD_l _ (by omega)]; omega) ?_ (by show _ + (11 + (1 + (1 + wL r))) < _ + (7 + wL r); omega) rfl
              refine ⟨⟨by omega, by show r.length + 1 + 1 + 10 + 6 * (8 - (s.2.1 + 1)) ≤ 800; omega⟩, by omega, by show r.length + 1 + 1 ≤ 800; omega, ⟨s.2.1, rfl⟩, by omega, ?_⟩
              rw [show s.2.1 + 1 - 1 = s.2.1 by omega]; exact g3
            · rw [if_neg c8] at st; cases st
          · rw [if_neg c2] at st
            cases st
            refine fin (1 :: 11 :: r) s.1 s.2.1 (Or.inl rfl) hd (by rw [cD_l _ (by omega), cD_l _ (by omega)]; exact hcy) ?_ (by show _ + (5 + (1 + wL r)) < _ + (7 + wL r); omega) rfl
            exact ⟨⟨by omega, by show r.length + 1 + 5 + 6 * (8 - s.2.1) ≤ 800; omega⟩, ts, rfl, ⟨by show ts.length + 1 + 3 + 2 * (8 - s.2.1) ≤ 60; omega, by omega⟩, g3⟩
      rw [if_neg e10] at hch
      by_cases e11 : y = 11
      · rw [if_pos e11] at hch
        subst e11
        rw [cD_l r (by omega)] at hcy
        obtain ⟨us, eu, ⟨g1, g2⟩, g3⟩ := hch
        have st : (if tq B n s.1 = 60 then some (1 :: 1006 :: r, padv B n s) else if tq B n s.1 = 62 then some (1 :: 1007 :: r, padv B n s) else if tq B n s.1 = 61 then some (1 :: 1008 :: r, padv B n s) else none) = some b := st
        have go : ∀ w, 6 ≤ w ∧ w ≤ 8 → ¬ tq B n s.1 = 257 → b = (1 :: (1000 + w) :: r, padv B n s) → pIv n b ∧ pMu n b < pMu n (11 :: r, s) := by
          intro w hw nq eb
          have := A nq
          have w1 : wS (1000 + w) = 1 := by unfold wS; rw [if_neg (by omega), if_neg (by omega), if_neg (by omega), if_neg (by omega), if_neg (by omega)]
          refine fin (1 :: (1000 + w) :: r) _ s.2.1 (Or.inr ⟨rfl, nq⟩) hd (by rw [cD_l _ (by omega), cD_g _ (by omega)]; omega) ?_ (by show _ + (5 + (wS (1000 + w) + wL r)) < _ + (1 + wL r); omega) eb
          refine ⟨⟨by omega, by show r.length + 1 + 5 + 6 * (8 - s.2.1) ≤ 800; omega⟩, ?_⟩
          unfold chk
          rw [if_neg (by omega), if_neg (by omega), if_neg (by omega), if_neg (by omega), if_neg (by omega), if_neg (by omega), if_neg (by omega), if_neg (by omega), if_neg (by omega), if_neg (by omega), if_neg (by omega), if_neg (by omega), if_neg (by omega), if_pos (by omega), show 1000 + w - 1000 = w by omega]
          subst eu
          exact ⟨by omega, by omega, by omega, true :: us, tst_r hw us, g3⟩
        by_cases c1 : tq B n s.1 = 60
        · rw [if_pos c1] at st; cases st; exact go 6 (by omega) (by omega) rfl
        · rw [if_neg c1] at st
          by_cases c2 : tq B n s.1 = 62
          · rw [if_pos c2] at st; cases st; exact go 7 (by omega) (by omega) rfl
          · rw [if_neg c2] at st
            by_cases c3 : tq B n s.1 = 61
            · rw [if_pos c3] at st; cases st; exact go 8 (by omega) (by omega) rfl
            · rw [if_neg c3] at st; cases st
      rw [if_neg e11] at hch
      by_cases e12 : y = 12
      · rw [if_pos e12] at hch
        subst e12
        rw [cD_l r (by omega)] at hcy
        obtain ⟨-, g2, g3⟩ := hch
        have st : some (r, pdep s (s.2.1 - 1)) = some b := st
        cases st
        exact fin r s.1 (s.2.1 - 1) (Or.inl rfl) (by omega) hcy g3 (by show _ < _ + (1 + wL r); omega) rfl
      rw [if_neg e12] at hch
      have w1 : wS y = 1 := by unfold wS; rw [if_neg (by omega), if_neg (by omega), if_neg (by omega), if_neg (by omega), if_neg (by omega)]
      by_cases e14 : 1000 ≤ y
      · rw [if_pos e14] at hch
        obtain ⟨g1, g2, g3, us, g4, g5⟩ := hch
        rw [cD_g r e14] at hcy
        unfold stp at st
        dsimp only at st
        rw [if_pos e14] at st
        cases st
        have ul := tst_len (by omega) g4
        refine ⟨⟨⟨hp, hd, by show s.2.2.1 + 1 + cD r ≤ s.1; omega⟩, Or.inr ⟨us, opO_emt hop g4 (by omega), by rw [et] at g5; exact g5, fun k hk nk => clO_emt (hcl k hk nk)⟩⟩, ?_⟩
        show 20 * (n - s.1) + wL r < 20 * (n - s.1) + (wS y + wL r)
        omega
      rw [if_neg e14] at hch
      by_cases e15 : 100 ≤ y
      · rw [if_pos e15] at hch
        rw [cD_l r (by omega)] at hcy
        unfold stp at st
        dsimp only at st
        rw [if_neg e14, if_pos e15] at st
        by_cases c : tq B n s.1 = y - 100
        · rw [if_pos c] at st
          cases st
          have nq : ¬ tq B n s.1 = 257 := by have := hch.1; omega
          have := A nq
          exact fin r _ s.2.1 (Or.inr ⟨rfl, nq⟩) hd (by omega) hch.2.2 (by show _ < _ + (wS y + wL r); omega) rfl
        · rw [if_neg c] at st; cases st
      rw [if_neg e15] at hch
      exact hch.elim
