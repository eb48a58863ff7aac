/-! ===== WAVES, the class: ROWS ===== -/
theorem row_C {S : Nat → Nat → Int32} {nr : Nat} (hnr : nr ≤ 10) {h : zm_H} (hw : wOK nr S) (hat : ∀ p, p < 100 → h.2.1 33 p = rat S (nI p) nr) (hz : ∀ r, r < nr → (1 ≤ (h.2.1 24 r).toInt ∧ (h.2.1 24 r).toInt ≤ 20) ∧ (2 ≤ (h.2.1 25 r).toInt ∧ (h.2.1 25 r).toInt ≤ 20)) (sea v2 : Int32) : f_Waves_run_l44_ok sea v2 zF (0, h) ∧ ∃ h', f_Waves_run_l44 sea v2 zF (0, h) = (1, nI 10, h') ∧ zWr [34, 35] [] h h' ∧ (∀ c, c < 10 → h'.2.1 35 c = rwF S nr (h.2.1 24) (h.2.1 25) (zm_rm sea 1000 / 10) 0 (h.2.1 35) c) ∧ (∀ r, r < 10 → h'.2.1 34 r = rwT S nr (h.2.1 24) (h.2.1 25) (zm_rm sea 1000 / 10) 0 (h.2.1 35) (h.2.1 34) r) := by
  obtain ⟨F, eF, -⟩ := zF_ex
  rw [← eF]
  obtain ⟨per, ep⟩ : ∃ per, per = zm_rm sea 1000 / 10 := ⟨_, rfl⟩
  rw [← ep]
  have key := zlp_k eF (b := fun s => f_Waves_run_l44_b sea v2 s.1 s.2) (o := fun s => f_Waves_run_l44_b_ok sea v2 s.1 s.2) 10 (by omega) 0
    (fun j h1 => zWr [34, 35] [] h h1 ∧ (∀ c, c < 10 → h1.2.1 35 c = if c < j then rwF S nr (h.2.1 24) (h.2.1 25) per 0 (h.2.1 35) c else h.2.1 35 c) ∧ (∀ r, r < 10 → h1.2.1 34 r = if (r < nr ∧ S 0 r = 1 ∧ zm_rm (S 1 r) 10 = nI 0) ∧ (S 1 r / 10).toNatClampNeg < j then rwT S nr (h.2.1 24) (h.2.1 25) per 0 (h.2.1 35) (h.2.1 34) r else h.2.1 34 r)) h
    ⟨zWr.refl _ _, fun c _ => by rw [if_neg (by omega)], fun r _ => by rw [if_neg (by omega)]⟩
    (by
      rintro j h1 hj ⟨q1, q2, q3⟩
      rw [Nat.zero_add]
      have e33 : nI j * 10 + 0 = nI (10 * j + 0) := by
        rw [show (10 : Int32) = nI 10 from rfl, show (0 : Int32) = nI 0 from rfl, pk_mul, nI_add, Nat.mul_comm j 10]
      have a33 : zr h1 33 (nI (10 * j + 0)) = rat S (nI (10 * j + 0)) nr := by
        rw [zr_n h1 33 (by omega), zf, q1.arr 33 (by decide) (by decide)]; exact hat _ (by omega)
      have i100 : vp_in (nI (10 * j + 0)) 100 := vp_in_nI (by omega) (by omega)
      have ij : vp_in (nI j) 10 := vp_in_nI hj (by omega)
      have off : ∀ r, r < nr → S 0 r = 1 → zm_rm (S 1 r) 10 = nI 0 → ((S 1 r / 10).toNatClampNeg < j + 1 ↔ ((S 1 r / 10).toNatClampNeg < j ∨ S 1 r = nI (10 * j + 0))) := by
        intro r hr h0 hy
        obtain ⟨p, hp, hp5, epl⟩ := hw.1 r hr h0
        obtain ⟨m1, m2⟩ := pl_n hp
        rw [epl, m1] at hy
        have hpy := nI_inj (by omega) (by omega) hy
        rw [epl, m2, nI_c (by omega)]
        constructor
        · intro z
          rcases (show p / 10 < j ∨ p / 10 = j by omega) with y | y
          · exact Or.inl y
          · right; rw [show p = 10 * j + 0 by omega]
        · rintro (z | z)
          · omega
          · have := nI_inj (by omega) (by omega) z; omega
      rcases rat_c S (nI (10 * j + 0)) nr with ⟨c1, c2⟩ | ⟨q, hq, c1, c2, c3⟩
      · have g : zr h1 33 (nI j * 10 + 0) < 0 := by rw [e33, a33, c1]; decide
        refine ⟨?_, h1, ?_, q1, ?_, ?_⟩
        · dsimp only
          unfold f_Waves_run_l44_b_ok
          rw [e33] at g ⊢
          exact ⟨fun z => absurd z (g10 hj), fun _ => ⟨i100, fun _ => trivial, fun z => absurd g z⟩⟩
        · dsimp only
          unfold f_Waves_run_l44_b f_Waves_run_l44_k82
          rw [if_neg (g10 hj), if_pos g, ← nI_succ]
        · intro x hx
          rw [q2 x hx]
          by_cases y : x < j
          · rw [if_pos y, if_pos (by omega)]
          · rw [if_neg y]
            by_cases ex : x = j
            · subst ex
              rw [if_pos (by omega)]
              unfold rwF
              rw [c1, if_pos (by decide)]
            · rw [if_neg (by omega)]
        · intro r hr
          rw [q3 r hr]
          by_cases y : r < nr ∧ S 0 r = 1 ∧ zm_rm (S 1 r) 10 = nI 0
          · have o := off r y.1 y.2.1 y.2.2
            by_cases y2 : (S 1 r / 10).toNatClampNeg < j
            · rw [if_pos ⟨y, y2⟩, if_pos ⟨y, by omega⟩]
            · rw [if_neg (fun z => y2 z.2), if_neg (fun z => ?_)]
              rcases o.mp z.2 with w | w
              · exact y2 w
              · exact c2 r y.1 ⟨y.2.1, w⟩
          · rw [if_neg (fun z => y z.1), if_neg (fun z => y z.1)]
      · have g : ¬ (zr h1 33 (nI j * 10 + 0) < 0) := by rw [e33, a33, c1, i_lt, i_nI (by omega), i_0]; omega
        have iq : vp_in (nI q) 10 := vp_in_nI (by omega) (by omega)
        obtain ⟨⟨z1, z2⟩, z3, z4⟩ := hz q hq
        have a24 : zr h1 24 (nI q) = h.2.1 24 q := by rw [zr_n h1 24 (by omega), zf, q1.arr 24 (by decide) (by decide)]
        have a25 : zr h1 25 (nI q) = h.2.1 25 q := by rw [zr_n h1 25 (by omega), zf, q1.arr 25 (by decide) (by decide)]
        have aA : zr h1 35 (nI j) = h.2.1 35 j := by rw [zr_n h1 35 (by omega)]; exact (q2 j hj).trans (if_neg (by omega))
        have nz : ¬ h.2.1 24 q + 20 = 0 := fun z => by
          have e20 : (20 : Int32).toInt = 20 := rfl
          have : (h.2.1 24 q + 20).toInt = (h.2.1 24 q).toInt + 20 := by rw [i_add (by rw [e20]; omega) (by rw [e20]; omega), e20]
          rw [z, i_0] at this; omega
        obtain ⟨m1, m2⟩ := pl_n (show 10 * j + 0 < 100 by omega)
        refine ⟨?_, zm_si (zm_si h1 34 q (tkv (h.2.1 35 j) (fitv per (h.2.1 25 q)) (h.2.1 24 q))) 35 j (h.2.1 35 j - tkv (h.2.1 35 j) (fitv per (h.2.1 25 q)) (h.2.1 24 q)), ?_, ?_, ?_, ?_⟩
        · dsimp only
          unfold f_Waves_run_l44_b_ok f_Waves_take_ok f_Waves_take_k26_ok
          rw [e33] at g ⊢
          rw [a33, c1, a24]
          exact ⟨fun z => absurd z (g10 hj), fun _ => ⟨i100, fun _ => trivial, fun _ => ⟨iq, ij, iq, iq, nz, iq, ij, iq, ij⟩⟩⟩
        · dsimp only
          unfold f_Waves_run_l44_b f_Waves_run_l44_k82
          rw [if_neg (g10 hj), if_neg g, e33, a33, c1, ← nI_succ, ← ep]
          unfold f_Waves_take f_Waves_take_k26
          rw [a24, a25, aA, zs_n _ 34 _ (by omega), zs_n _ 35 _ (by omega), zr_n _ 34 (by omega)]
          have ez : ∀ V, zf (zm_si h1 34 q V) 34 q = V := fun V => zm_in _ _ _ _
          rw [ez]
          rfl
        · exact zWr_si (by decide) (zWr_si (by decide) q1)
        · intro x hx
          rw [za_si, if_pos rfl, za_si, if_neg (by decide)]
          by_cases ex : x = j
          · subst ex
            rw [pk_us, if_pos (by omega)]
            unfold rwF
            rw [c1, if_neg (by rw [i_lt, i_nI (by omega), i_0]; omega), nI_c (by omega)]
          · rw [pk_un ex, q2 x hx]
            by_cases y : x < j
            · rw [if_pos y, if_pos (by omega)]
            · rw [if_neg y, if_neg (by omega)]
        · intro r hr
          rw [za_si, if_neg (by decide), za_si, if_pos rfl]
          by_cases ex : r = q
          · subst ex
            have cond : r < nr ∧ S 0 r = 1 ∧ zm_rm (S 1 r) 10 = nI 0 := ⟨hq, c2, by rw [c3, m1, show (10 * j + 0) % 10 = 0 by omega]⟩
            rw [pk_us, if_pos ⟨cond, (off r hq c2 cond.2.2).mpr (Or.inr c3)⟩]
            unfold rwT
            rw [if_pos cond, c3, m2, nI_c (by omega), show (10 * j + 0) / 10 = j by omega]
          · rw [pk_un ex, q3 r hr]
            by_cases y : r < nr ∧ S 0 r = 1 ∧ zm_rm (S 1 r) 10 = nI 0
            · have o := off r y.1 y.2.1 y.2.2
              by_cases y2 : (S 1 r / 10).toNatClampNeg < j
              · rw [if_pos ⟨y, y2⟩, if_pos ⟨y, by omega⟩]
              · rw [if_neg (fun z => y2 z.2), if_neg (fun z => ?_)]
                rcases o.mp z.2 with w | w
                · exact y2 w
                · exact ex (hw.2 r q y.1 hq y.2.1 c2 (by rw [w, c3]))
            · rw [if_neg (fun z => y z.1), if_neg (fun z => y z.1)])
    (by
      rintro h1 ⟨q1, q2, q3⟩
      rw [Nat.zero_add]
      have g0 : (10 : Int32) ≤ nI 10 := by decide
      dsimp only
      unfold f_Waves_run_l44_b f_Waves_run_l44_b_ok
      rw [if_pos g0]
      exact ⟨⟨fun _ => trivial, fun z => absurd g0 z⟩, rfl⟩)
  rw [Nat.zero_add] at key
  obtain ⟨k1, h', k2, k3, k4, k5⟩ := key
  refine ⟨k1, h', k2, k3, fun c hc => ?_, fun r hr => ?_⟩
  · rw [k4 c hc, if_pos hc]
  · rw [k5 r hr]
    by_cases y : r < nr ∧ S 0 r = 1 ∧ zm_rm (S 1 r) 10 = nI 0
    · obtain ⟨p, hp, hp5, epl⟩ := hw.1 r y.1 y.2.1
      rw [if_pos ⟨y, by rw [epl, (pl_n hp).2, nI_c (by omega)]; omega⟩]
    · rw [if_neg (fun z => y z.1)]
      unfold rwT
      rw [if_neg y]
theorem rowb_C {S : Nat → Nat → Int32} {nr : Nat} (hnr : nr ≤ 10) {h : zm_H} (hw : wOK nr S) (hat : ∀ p, p < 100 → h.2.1 33 p = rat S (nI p) nr) (hz : ∀ r, r < nr → (1 ≤ (h.2.1 24 r).toInt ∧ (h.2.1 24 r).toInt ≤ 20) ∧ (2 ≤ (h.2.1 25 r).toInt ∧ (h.2.1 25 r).toInt ≤ 20)) (sea v2 : Int32) : f_Waves_run_l44b_ok sea v2 zF (0, h) ∧ ∃ h', f_Waves_run_l44b sea v2 zF (0, h) = (1, nI 10, h') ∧ zWr [34, 36] [] h h' ∧ (∀ c, c < 10 → h'.2.1 36 c = rwF S nr (h.2.1 24) (h.2.1 25) (zm_rm sea 1000 / 10) 1 (h.2.1 36) c) ∧ (∀ r, r < 10 → h'.2.1 34 r = rwT S nr (h.2.1 24) (h.2.1 25) (zm_rm sea 1000 / 10) 1 (h.2.1 36) (h.2.1 34) r) := by
  obtain ⟨F, eF, -⟩ := zF_ex
  rw [← eF]
  obtain ⟨per, ep⟩ : ∃ per, per = zm_rm sea 1000 / 10 := ⟨_, rfl⟩
  rw [← ep]
  have key := zlp_k eF (b := fun s => f_Waves_run_l44b_b sea v2 s.1 s.2) (o := fun s => f_Waves_run_l44b_b_ok sea v2 s.1 s.2) 10 (by omega) 0
    (fun j h1 => zWr [34, 36] [] h h1 ∧ (∀ c, c < 10 → h1.2.1 36 c = if c < j then rwF S nr (h.2.1 24) (h.2.1 25) per 1 (h.2.1 36) c else h.2.1 36 c) ∧ (∀ r, r < 10 → h1.2.1 34 r = if (r < nr ∧ S 0 r = 1 ∧ zm_rm (S 1 r) 10 = nI 1) ∧ (S 1 r / 10).toNatClampNeg < j then rwT S nr (h.2.1 24) (h.2.1 25) per 1 (h.2.1 36) (h.2.1 34) r else h.2.1 34 r)) h
    ⟨zWr.refl _ _, fun c _ => by rw [if_neg (by omega)], fun r _ => by rw [if_neg (by omega)]⟩
    (by
      rintro j h1 hj ⟨q1, q2, q3⟩
      rw [Nat.zero_add]
      have e33 : nI j * 10 + 1 = nI (10 * j + 1) := by
        rw [show (10 : Int32) = nI 10 from rfl, show (1 : Int32) = nI 1 from rfl, pk_mul, nI_add, Nat.mul_comm j 10]
      have a33 : zr h1 33 (nI (10 * j + 1)) = rat S (nI (10 * j + 1)) nr := by
        rw [zr_n h1 33 (by omega), zf, q1.arr 33 (by decide) (by decide)]; exact hat _ (by omega)
      have i100 : vp_in (nI (10 * j + 1)) 100 := vp_in_nI (by omega) (by omega)
      have ij : vp_in (nI j) 10 := vp_in_nI hj (by omega)
      have off : ∀ r, r < nr → S 0 r = 1 → zm_rm (S 1 r) 10 = nI 1 → ((S 1 r / 10).toNatClampNeg < j + 1 ↔ ((S 1 r / 10).toNatClampNeg < j ∨ S 1 r = nI (10 * j + 1))) := by
        intro r hr h0 hy
        obtain ⟨p, hp, hp5, epl⟩ := hw.1 r hr h0
        obtain ⟨m1, m2⟩ := pl_n hp
        rw [epl, m1] at hy
        have hpy := nI_inj (by omega) (by omega) hy
        rw [epl, m2, nI_c (by omega)]
        constructor
        · intro z
          rcases (show p / 10 < j ∨ p / 10 = j by omega) with y | y
          · exact Or.inl y
          · right; rw [show p = 10 * j + 1 by omega]
        · rintro (z | z)
          · omega
          · have := nI_inj (by omega) (by omega) z; omega
      rcases rat_c S (nI (10 * j + 1)) nr with ⟨c1, c2⟩ | ⟨q, hq, c1, c2, c3⟩
      · have g : zr h1 33 (nI j * 10 + 1) < 0 := by rw [e33, a33, c1]; decide
        refine ⟨?_, h1, ?_, q1, ?_, ?_⟩
        · dsimp only
          unfold f_Waves_run_l44b_b_ok
          rw [e33] at g ⊢
          exact ⟨fun z => absurd z (g10 hj), fun _ => ⟨i100, fun _ => trivial, fun z => absurd g z⟩⟩
        · dsimp only
          unfold f_Waves_run_l44b_b f_Waves_run_l44b_k82
          rw [if_neg (g10 hj), if_pos g, ← nI_succ]
        · intro x hx
          rw [q2 x hx]
          by_cases y : x < j
          · rw [if_pos y, if_pos (by omega)]
          · rw [if_neg y]
            by_cases ex : x = j
            · subst ex
              rw [if_pos (by omega)]
              unfold rwF
              rw [c1, if_pos (by decide)]
            · rw [if_neg (by omega)]
        · intro r hr
          rw [q3 r hr]
          by_cases y : r < nr ∧ S 0 r = 1 ∧ zm_rm (S 1 r) 10 = nI 1
          · have o := off r y.1 y.2.1 y.2.2
            by_cases y2 : (S 1 r / 10).toNatClampNeg < j
            · rw [if_pos ⟨y, y2⟩, if_pos ⟨y, by omega⟩]
            · rw [if_neg (fun z => y2 z.2), if_neg (fun z => ?_)]
              rcases o.mp z.2 with w | w
              · exact y2 w
              · exact c2 r y.1 ⟨y.2.1, w⟩
          · rw [if_neg (fun z => y z.1), if_neg (fun z => y z.1)]
      · have g : ¬ (zr h1 33 (nI j * 10 + 1) < 0) := by rw [e33, a33, c1, i_lt, i_nI (by omega), i_0]; omega
        have iq : vp_in (nI q) 10 := vp_in_nI (by omega) (by omega)
        obtain ⟨⟨z1, z2⟩, z3, z4⟩ := hz q hq
        have a24 : zr h1 24 (nI q) = h.2.1 24 q := by rw [zr_n h1 24 (by omega), zf, q1.arr 24 (by decide) (by decide)]
        have a25 : zr h1 25 (nI q) = h.2.1 25 q := by rw [zr_n h1 25 (by omega), zf, q1.arr 25 (by decide) (by decide)]
        have aA : zr h1 36 (nI j) = h.2.1 36 j := by rw [zr_n h1 36 (by omega)]; exact (q2 j hj).trans (if_neg (by omega))
        have nz : ¬ h.2.1 24 q + 20 = 0 := fun z => by
          have e20 : (20 : Int32).toInt = 20 := rfl
          have : (h.2.1 24 q + 20).toInt = (h.2.1 24 q).toInt + 20 := by rw [i_add (by rw [e20]; omega) (by rw [e20]; omega), e20]
          rw [z, i_0] at this; omega
        obtain ⟨m1, m2⟩ := pl_n (show 10 * j + 1 < 100 by omega)
        refine ⟨?_, zm_si (zm_si h1 34 q (tkv (h.2.1 36 j) (fitv per (h.2.1 25 q)) (h.2.1 24 q))) 36 j (h.2.1 36 j - tkv (h.2.1 36 j) (fitv per (h.2.1 25 q)) (h.2.1 24 q)), ?_, ?_, ?_, ?_⟩
        · dsimp only
          unfold f_Waves_run_l44b_b_ok f_Waves_take_s_ok f_Waves_take_s_k26_ok
          rw [e33] at g ⊢
          rw [a33, c1, a24]
          exact ⟨fun z => absurd z (g10 hj), fun _ => ⟨i100, fun _ => trivial, fun _ => ⟨iq, ij, iq, iq, nz, iq, ij, iq, ij⟩⟩⟩
        · dsimp only
          unfold f_Waves_run_l44b_b f_Waves_run_l44b_k82
          rw [if_neg (g10 hj), if_neg g, e33, a33, c1, ← nI_succ, ← ep]
          unfold f_Waves_take_s f_Waves_take_s_k26
          rw [a24, a25, aA, zs_n _ 34 _ (by omega), zs_n _ 36 _ (by omega), zr_n _ 34 (by omega)]
          have ez : ∀ V, zf (zm_si h1 34 q V) 34 q = V := fun V => zm_in _ _ _ _
          rw [ez]
          rfl
        · exact zWr_si (by decide) (zWr_si (by decide) q1)
        · intro x hx
          rw [za_si, if_pos rfl, za_si, if_neg (by decide)]
          by_cases ex : x = j
          · subst ex
            rw [pk_us, if_pos (by omega)]
            unfold rwF
            rw [c1, if_neg (by rw [i_lt, i_nI (by omega), i_0]; omega), nI_c (by omega)]
          · rw [pk_un ex, q2 x hx]
            by_cases y : x < j
            · rw [if_pos y, if_pos (by omega)]
            · rw [if_neg y, if_neg (by omega)]
        · intro r hr
          rw [za_si, if_neg (by decide), za_si, if_pos rfl]
          by_cases ex : r = q
          · subst ex
            have cond : r < nr ∧ S 0 r = 1 ∧ zm_rm (S 1 r) 10 = nI 1 := ⟨hq, c2, by rw [c3, m1, show (10 * j + 1) % 10 = 1 by omega]⟩
            rw [pk_us, if_pos ⟨cond, (off r hq c2 cond.2.2).mpr (Or.inr c3)⟩]
            unfold rwT
            rw [if_pos cond, c3, m2, nI_c (by omega), show (10 * j + 1) / 10 = j by omega]
          · rw [pk_un ex, q3 r hr]
            by_cases y : r < nr ∧ S 0 r = 1 ∧ zm_rm (S 1 r) 10 = nI 1
            · have o := off r y.1 y.2.1 y.2.2
              by_cases y2 : (S 1 r / 10).toNatClampNeg < j
              · rw [if_pos ⟨y, y2⟩, if_pos ⟨y, by omega⟩]
              · rw [if_neg (fun z => y2 z.2), if_neg (fun z => ?_)]
                rcases o.mp z.2 with w | w
                · exact y2 w
                · exact ex (hw.2 r q y.1 hq y.2.1 c2 (by rw [w, c3]))
            · rw [if_neg (fun z => y z.1), if_neg (fun z => y z.1)])
    (by
      rintro h1 ⟨q1, q2, q3⟩
      rw [Nat.zero_add]
      have g0 : (10 : Int32) ≤ nI 10 := by decide
      dsimp only
      unfold f_Waves_run_l44b_b f_Waves_run_l44b_b_ok
      rw [if_pos g0]
      exact ⟨⟨fun _ => trivial, fun z => absurd g0 z⟩, rfl⟩)
  rw [Nat.zero_add] at key
  obtain ⟨k1, h', k2, k3, k4, k5⟩ := key
  refine ⟨k1, h', k2, k3, fun c hc => ?_, fun r hr => ?_⟩
  · rw [k4 c hc, if_pos hc]
  · rw [k5 r hr]
    by_cases y : r < nr ∧ S 0 r = 1 ∧ zm_rm (S 1 r) 10 = nI 1
    · obtain ⟨p, hp, hp5, epl⟩ := hw.1 r y.1 y.2.1
      rw [if_pos ⟨y, by rw [epl, (pl_n hp).2, nI_c (by omega)]; omega⟩]
    · rw [if_neg (fun z => y z.1)]
      unfold rwT
      rw [if_neg y]
theorem rowc_C {S : Nat → Nat → Int32} {nr : Nat} (hnr : nr ≤ 10) {h : zm_H} (hw : wOK nr S) (hat : ∀ p, p < 100 → h.2.1 33 p = rat S (nI p) nr) (hz : ∀ r, r < nr → (1 ≤ (h.2.1 24 r).toInt ∧ (h.2.1 24 r).toInt ≤ 20) ∧ (2 ≤ (h.2.1 25 r).toInt ∧ (h.2.1 25 r).toInt ≤ 20)) (sea v2 : Int32) : f_Waves_run_l44c_ok sea v2 zF (0, h) ∧ ∃ h', f_Waves_run_l44c sea v2 zF (0, h) = (1, nI 10, h') ∧ zWr [34, 35] [] h h' ∧ (∀ c, c < 10 → h'.2.1 35 c = rwF S nr (h.2.1 24) (h.2.1 25) (zm_rm sea 1000 / 10) 2 (h.2.1 35) c) ∧ (∀ r, r < 10 → h'.2.1 34 r = rwT S nr (h.2.1 24) (h.2.1 25) (zm_rm sea 1000 / 10) 2 (h.2.1 35) (h.2.1 34) r) := by
  obtain ⟨F, eF, -⟩ := zF_ex
  rw [← eF]
  obtain ⟨per, ep⟩ : ∃ per, per = zm_rm sea 1000 / 10 := ⟨_, rfl⟩
  rw [← ep]
  have key := zlp_k eF (b := fun s => f_Waves_run_l44c_b sea v2 s.1 s.2) (o := fun s => f_Waves_run_l44c_b_ok sea v2 s.1 s.2) 10 (by omega) 0
    (fun j h1 => zWr [34, 35] [] h h1 ∧ (∀ c, c < 10 → h1.2.1 35 c = if c < j then rwF S nr (h.2.1 24) (h.2.1 25) per 2 (h.2.1 35) c else h.2.1 35 c) ∧ (∀ r, r < 10 → h1.2.1 34 r = if (r < nr ∧ S 0 r = 1 ∧ zm_rm (S 1 r) 10 = nI 2) ∧ (S 1 r / 10).toNatClampNeg < j then rwT S nr (h.2.1 24) (h.2.1 25) per 2 (h.2.1 35) (h.2.1 34) r else h.2.1 34 r)) h
    ⟨zWr.refl _ _, fun c _ => by rw [if_neg (by omega)], fun r _ => by rw [if_neg (by omega)]⟩
    (by
      rintro j h1 hj ⟨q1, q2, q3⟩
      rw [Nat.zero_add]
      have e33 : nI j * 10 + 2 = nI (10 * j + 2) := by
        rw [show (10 : Int32) = nI 10 from rfl, show (2 : Int32) = nI 2 from rfl, pk_mul, nI_add, Nat.mul_comm j 10]
      have a33 : zr h1 33 (nI (10 * j + 2)) = rat S (nI (10 * j + 2)) nr := by
        rw [zr_n h1 33 (by omega), zf, q1.arr 33 (by decide) (by decide)]; exact hat _ (by omega)
      have i100 : vp_in (nI (10 * j + 2)) 100 := vp_in_nI (by omega) (by omega)
      have ij : vp_in (nI j) 10 := vp_in_nI hj (by omega)
      have off : ∀ r, r < nr → S 0 r = 1 → zm_rm (S 1 r) 10 = nI 2 → ((S 1 r / 10).toNatClampNeg < j + 1 ↔ ((S 1 r / 10).toNatClampNeg < j ∨ S 1 r = nI (10 * j + 2))) := by
        intro r hr h0 hy
        obtain ⟨p, hp, hp5, epl⟩ := hw.1 r hr h0
        obtain ⟨m1, m2⟩ := pl_n hp
        rw [epl, m1] at hy
        have hpy := nI_inj (by omega) (by omega) hy
        rw [epl, m2, nI_c (by omega)]
        constructor
        · intro z
          rcases (show p / 10 < j ∨ p / 10 = j by omega) with y | y
          · exact Or.inl y
          · right; rw [show p = 10 * j + 2 by omega]
        · rintro (z | z)
          · omega
          · have := nI_inj (by omega) (by omega) z; omega
      rcases rat_c S (nI (10 * j + 2)) nr with ⟨c1, c2⟩ | ⟨q, hq, c1, c2, c3⟩
      · have g : zr h1 33 (nI j * 10 + 2) < 0 := by rw [e33, a33, c1]; decide
        refine ⟨?_, h1, ?_, q1, ?_, ?_⟩
        · dsimp only
          unfold f_Waves_run_l44c_b_ok
          rw [e33] at g ⊢
          exact ⟨fun z => absurd z (g10 hj), fun _ => ⟨i100, fun _ => trivial, fun z => absurd g z⟩⟩
        · dsimp only
          unfold f_Waves_run_l44c_b f_Waves_run_l44c_k82
          rw [if_neg (g10 hj), if_pos g, ← nI_succ]
        · intro x hx
          rw [q2 x hx]
          by_cases y : x < j
          · rw [if_pos y, if_pos (by omega)]
          · rw [if_neg y]
            by_cases ex : x = j
            · subst ex
              rw [if_pos (by omega)]
              unfold rwF
              rw [c1, if_pos (by decide)]
            · rw [if_neg (by omega)]
        · intro r hr
          rw [q3 r hr]
          by_cases y : r < nr ∧ S 0 r = 1 ∧ zm_rm (S 1 r) 10 = nI 2
          · have o := off r y.1 y.2.1 y.2.2
            by_cases y2 : (S 1 r / 10).toNatClampNeg < j
            · rw [if_pos ⟨y, y2⟩, if_pos ⟨y, by omega⟩]
            · rw [if_neg (fun z => y2 z.2), if_neg (fun z => ?_)]
              rcases o.mp z.2 with w | w
              · exact y2 w
              · exact c2 r y.1 ⟨y.2.1, w⟩
          · rw [if_neg (fun z => y z.1), if_neg (fun z => y z.1)]
      · have g : ¬ (zr h1 33 (nI j * 10 + 2) < 0) := by rw [e33, a33, c1, i_lt, i_nI (by omega), i_0]; omega
        have iq : vp_in (nI q) 10 := vp_in_nI (by omega) (by omega)
        obtain ⟨⟨z1, z2⟩, z3, z4⟩ := hz q hq
        have a24 : zr h1 24 (nI q) = h.2.1 24 q := by rw [zr_n h1 24 (by omega), zf, q1.arr 24 (by decide) (by decide)]
        have a25 : zr h1 25 (nI q) = h.2.1 25 q := by rw [zr_n h1 25 (by omega), zf, q1.arr 25 (by decide) (by decide)]
        have aA : zr h1 35 (nI j) = h.2.1 35 j := by rw [zr_n h1 35 (by omega)]; exact (q2 j hj).trans (if_neg (by omega))
        have nz : ¬ h.2.1 24 q + 20 = 0 := fun z => by
          have e20 : (20 : Int32).toInt = 20 := rfl
          have : (h.2.1 24 q + 20).toInt = (h.2.1 24 q).toInt + 20 := by rw [i_add (by rw [e20]; omega) (by rw [e20]; omega), e20]
          rw [z, i_0] at this; omega
        obtain ⟨m1, m2⟩ := pl_n (show 10 * j + 2 < 100 by omega)
        refine ⟨?_, zm_si (zm_si h1 34 q (tkv (h.2.1 35 j) (fitv per (h.2.1 25 q)) (h.2.1 24 q))) 35 j (h.2.1 35 j - tkv (h.2.1 35 j) (fitv per (h.2.1 25 q)) (h.2.1 24 q)), ?_, ?_, ?_, ?_⟩
        · dsimp only
          unfold f_Waves_run_l44c_b_ok f_Waves_take_ok f_Waves_take_k26_ok
          rw [e33] at g ⊢
          rw [a33, c1, a24]
          exact ⟨fun z => absurd z (g10 hj), fun _ => ⟨i100, fun _ => trivial, fun _ => ⟨iq, ij, iq, iq, nz, iq, ij, iq, ij⟩⟩⟩
        · dsimp only
          unfold f_Waves_run_l44c_b f_Waves_run_l44c_k82
          rw [if_neg (g10 hj), if_neg g, e33, a33, c1, ← nI_succ, ← ep]
          unfold f_Waves_take f_Waves_take_k26
          rw [a24, a25, aA, zs_n _ 34 _ (by omega), zs_n _ 35 _ (by omega), zr_n _ 34 (by omega)]
          have ez : ∀ V, zf (zm_si h1 34 q V) 34 q = V := fun V => zm_in _ _ _ _
          rw [ez]
          rfl
        · exact zWr_si (by decide) (zWr_si (by decide) q1)
        · intro x hx
          rw [za_si, if_pos rfl, za_si, if_neg (by decide)]
          by_cases ex : x = j
          · subst ex
            rw [pk_us, if_pos (by omega)]
            unfold rwF
            rw [c1, if_neg (by rw [i_lt, i_nI (by omega), i_0]; omega), nI_c (by omega)]
          · rw [pk_un ex, q2 x hx]
            by_cases y : x < j
            · rw [if_pos y, if_pos (by omega)]
            · rw [if_neg y, if_neg (by omega)]
        · intro r hr
          rw [za_si, if_neg (by decide), za_si, if_pos rfl]
          by_cases ex : r = q
          · subst ex
            have cond : r < nr ∧ S 0 r = 1 ∧ zm_rm (S 1 r) 10 = nI 2 := ⟨hq, c2, by rw [c3, m1, show (10 * j + 2) % 10 = 2 by omega]⟩
            rw [pk_us, if_pos ⟨cond, (off r hq c2 cond.2.2).mpr (Or.inr c3)⟩]
            unfold rwT
            rw [if_pos cond, c3, m2, nI_c (by omega), show (10 * j + 2) / 10 = j by omega]
          · rw [pk_un ex, q3 r hr]
            by_cases y : r < nr ∧ S 0 r = 1 ∧ zm_rm (S 1 r) 10 = nI 2
            · have o := off r y.1 y.2.1 y.2.2
              by_cases y2 : (S 1 r / 10).toNatClampNeg < j
              · rw [if_pos ⟨y, y2⟩, if_pos ⟨y, by omega⟩]
              · rw [if_neg (fun z => y2 z.2), if_neg (fun z => ?_)]
                rcases o.mp z.2 with w | w
                · exact y2 w
                · exact ex (hw.2 r q y.1 hq y.2.1 c2 (by rw [w, c3]))
            · rw [if_neg (fun z => y z.1), if_neg (fun z => y z.1)])
    (by
      rintro h1 ⟨q1, q2, q3⟩
      rw [Nat.zero_add]
      have g0 : (10 : Int32) ≤ nI 10 := by decide
      dsimp only
      unfold f_Waves_run_l44c_b f_Waves_run_l44c_b_ok
      rw [if_pos g0]
      exact ⟨⟨fun _ => trivial, fun z => absurd g0 z⟩, rfl⟩)
  rw [Nat.zero_add] at key
  obtain ⟨k1, h', k2, k3, k4, k5⟩ := key
  refine ⟨k1, h', k2, k3, fun c hc => ?_, fun r hr => ?_⟩
  · rw [k4 c hc, if_pos hc]
  · rw [k5 r hr]
    by_cases y : r < nr ∧ S 0 r = 1 ∧ zm_rm (S 1 r) 10 = nI 2
    · obtain ⟨p, hp, hp5, epl⟩ := hw.1 r y.1 y.2.1
      rw [if_pos ⟨y, by rw [epl, (pl_n hp).2, nI_c (by omega)]; omega⟩]
    · rw [if_neg (fun z => y z.1)]
      unfold rwT
      rw [if_neg y]
theorem rowd_C {S : Nat → Nat → Int32} {nr : Nat} (hnr : nr ≤ 10) {h : zm_H} (hw : wOK nr S) (hat : ∀ p, p < 100 → h.2.1 33 p = rat S (nI p) nr) (hz : ∀ r, r < nr → (1 ≤ (h.2.1 24 r).toInt ∧ (h.2.1 24 r).toInt ≤ 20) ∧ (2 ≤ (h.2.1 25 r).toInt ∧ (h.2.1 25 r).toInt ≤ 20)) (sea v2 : Int32) : f_Waves_run_l44d_ok sea v2 zF (0, h) ∧ ∃ h', f_Waves_run_l44d sea v2 zF (0, h) = (1, nI 10, h') ∧ zWr [34, 36] [] h h' ∧ (∀ c, c < 10 → h'.2.1 36 c = rwF S nr (h.2.1 24) (h.2.1 25) (zm_rm sea 1000 / 10) 3 (h.2.1 36) c) ∧ (∀ r, r < 10 → h'.2.1 34 r = rwT S nr (h.2.1 24) (h.2.1 25) (zm_rm sea 1000 / 10) 3 (h.2.1 36) (h.2.1 34) r) := by
  obtain ⟨F, eF, -⟩ := zF_ex
  rw [← eF]
  obtain ⟨per, ep⟩ : ∃ per, per = zm_rm sea 1000 / 10 := ⟨_, rfl⟩
  rw [← ep]
  have key := zlp_k eF (b := fun s => f_Waves_run_l44d_b sea v2 s.1 s.2) (o := fun s => f_Waves_run_l44d_b_ok sea v2 s.1 s.2) 10 (by omega) 0
    (fun j h1 => zWr [34, 36] [] h h1 ∧ (∀ c, c < 10 → h1.2.1 36 c = if c < j then rwF S nr (h.2.1 24) (h.2.1 25) per 3 (h.2.1 36) c else h.2.1 36 c) ∧ (∀ r, r < 10 → h1.2.1 34 r = if (r < nr ∧ S 0 r = 1 ∧ zm_rm (S 1 r) 10 = nI 3) ∧ (S 1 r / 10).toNatClampNeg < j then rwT S nr (h.2.1 24) (h.2.1 25) per 3 (h.2.1 36) (h.2.1 34) r else h.2.1 34 r)) h
    ⟨zWr.refl _ _, fun c _ => by rw [if_neg (by omega)], fun r _ => by rw [if_neg (by omega)]⟩
    (by
      rintro j h1 hj ⟨q1, q2, q3⟩
      rw [Nat.zero_add]
      have e33 : nI j * 10 + 3 = nI (10 * j + 3) := by
        rw [show (10 : Int32) = nI 10 from rfl, show (3 : Int32) = nI 3 from rfl, pk_mul, nI_add, Nat.mul_comm j 10]
      have a33 : zr h1 33 (nI (10 * j + 3)) = rat S (nI (10 * j + 3)) nr := by
        rw [zr_n h1 33 (by omega), zf, q1.arr 33 (by decide) (by decide)]; exact hat _ (by omega)
      have i100 : vp_in (nI (10 * j + 3)) 100 := vp_in_nI (by omega) (by omega)
      have ij : vp_in (nI j) 10 := vp_in_nI hj (by omega)
      have off : ∀ r, r < nr → S 0 r = 1 → zm_rm (S 1 r) 10 = nI 3 → ((S 1 r / 10).toNatClampNeg < j + 1 ↔ ((S 1 r / 10).toNatClampNeg < j ∨ S 1 r = nI (10 * j + 3))) := by
        intro r hr h0 hy
        obtain ⟨p, hp, hp5, epl⟩ := hw.1 r hr h0
        obtain ⟨m1, m2⟩ := pl_n hp
        rw [epl, m1] at hy
        have hpy := nI_inj (by omega) (by omega) hy
        rw [epl, m2, nI_c (by omega)]
        constructor
        · intro z
          rcases (show p / 10 < j ∨ p / 10 = j by omega) with y | y
          · exact Or.inl y
          · right; rw [show p = 10 * j + 3 by omega]
        · rintro (z | z)
          · omega
          · have := nI_inj (by omega) (by omega) z; omega
      rcases rat_c S (nI (10 * j + 3)) nr with ⟨c1, c2⟩ | ⟨q, hq, c1, c2, c3⟩
      · have g : zr h1 33 (nI j * 10 + 3) < 0 := by rw [e33, a33, c1]; decide
        refine ⟨?_, h1, ?_, q1, ?_, ?_⟩
        · dsimp only
          unfold f_Waves_run_l44d_b_ok
          rw [e33] at g ⊢
          exact ⟨fun z => absurd z (g10 hj), fun _ => ⟨i100, fun _ => trivial, fun z => absurd g z⟩⟩
        · dsimp only
          unfold f_Waves_run_l44d_b f_Waves_run_l44d_k82
          rw [if_neg (g10 hj), if_pos g, ← nI_succ]
        · intro x hx
          rw [q2 x hx]
          by_cases y : x < j
          · rw [if_pos y, if_pos (by omega)]
          · rw [if_neg y]
            by_cases ex : x = j
            · subst ex
              rw [if_pos (by omega)]
              unfold rwF
              rw [c1, if_pos (by decide)]
            · rw [if_neg (by omega)]
        · intro r hr
          rw [q3 r hr]
          by_cases y : r < nr ∧ S 0 r = 1 ∧ zm_rm (S 1 r) 10 = nI 3
          · have o := off r y.1 y.2.1 y.2.2
            by_cases y2 : (S 1 r / 10).toNatClampNeg < j
            · rw [if_pos ⟨y, y2⟩, if_pos ⟨y, by omega⟩]
            · rw [if_neg (fun z => y2 z.2), if_neg (fun z => ?_)]
              rcases o.mp z.2 with w | w
              · exact y2 w
              · exact c2 r y.1 ⟨y.2.1, w⟩
          · rw [if_neg (fun z => y z.1), if_neg (fun z => y z.1)]
      · have g : ¬ (zr h1 33 (nI j * 10 + 3) < 0) := by rw [e33, a33, c1, i_lt, i_nI (by omega), i_0]; omega
        have iq : vp_in (nI q) 10 := vp_in_nI (by omega) (by omega)
        obtain ⟨⟨z1, z2⟩, z3, z4⟩ := hz q hq
        have a24 : zr h1 24 (nI q) = h.2.1 24 q := by rw [zr_n h1 24 (by omega), zf, q1.arr 24 (by decide) (by decide)]
        have a25 : zr h1 25 (nI q) = h.2.1 25 q := by rw [zr_n h1 25 (by omega), zf, q1.arr 25 (by decide) (by decide)]
        have aA : zr h1 36 (nI j) = h.2.1 36 j := by rw [zr_n h1 36 (by omega)]; exact (q2 j hj).trans (if_neg (by omega))
        have nz : ¬ h.2.1 24 q + 20 = 0 := fun z => by
          have e20 : (20 : Int32).toInt = 20 := rfl
          have : (h.2.1 24 q + 20).toInt = (h.2.1 24 q).toInt + 20 := by rw [i_add (by rw [e20]; omega) (by rw [e20]; omega), e20]
          rw [z, i_0] at this; omega
        obtain ⟨m1, m2⟩ := pl_n (show 10 * j + 3 < 100 by omega)
        refine ⟨?_, zm_si (zm_si h1 34 q (tkv (h.2.1 36 j) (fitv per (h.2.1 25 q)) (h.2.1 24 q))) 36 j (h.2.1 36 j - tkv (h.2.1 36 j) (fitv per (h.2.1 25 q)) (h.2.1 24 q)), ?_, ?_, ?_, ?_⟩
        · dsimp only
          unfold f_Waves_run_l44d_b_ok f_Waves_take_s_ok f_Waves_take_s_k26_ok
          rw [e33] at g ⊢
          rw [a33, c1, a24]
          exact ⟨fun z => absurd z (g10 hj), fun _ => ⟨i100, fun _ => trivial, fun _ => ⟨iq, ij, iq, iq, nz, iq, ij, iq, ij⟩⟩⟩
        · dsimp only
          unfold f_Waves_run_l44d_b f_Waves_run_l44d_k82
          rw [if_neg (g10 hj), if_neg g, e33, a33, c1, ← nI_succ, ← ep]
          unfold f_Waves_take_s f_Waves_take_s_k26
          rw [a24, a25, aA, zs_n _ 34 _ (by omega), zs_n _ 36 _ (by omega), zr_n _ 34 (by omega)]
          have ez : ∀ V, zf (zm_si h1 34 q V) 34 q = V := fun V => zm_in _ _ _ _
          rw [ez]
          rfl
        · exact zWr_si (by decide) (zWr_si (by decide) q1)
        · intro x hx
          rw [za_si, if_pos rfl, za_si, if_neg (by decide)]
          by_cases ex : x = j
          · subst ex
            rw [pk_us, if_pos (by omega)]
            unfold rwF
            rw [c1, if_neg (by rw [i_lt, i_nI (by omega), i_0]; omega), nI_c (by omega)]
          · rw [pk_un ex, q2 x hx]
            by_cases y : x < j
            · rw [if_pos y, if_pos (by omega)]
            · rw [if_neg y, if_neg (by omega)]
        · intro r hr
          rw [za_si, if_neg (by decide), za_si, if_pos rfl]
          by_cases ex : r = q
          · subst ex
            have cond : r < nr ∧ S 0 r = 1 ∧ zm_rm (S 1 r) 10 = nI 3 := ⟨hq, c2, by rw [c3, m1, show (10 * j + 3) % 10 = 3 by omega]⟩
            rw [pk_us, if_pos ⟨cond, (off r hq c2 cond.2.2).mpr (Or.inr c3)⟩]
            unfold rwT
            rw [if_pos cond, c3, m2, nI_c (by omega), show (10 * j + 3) / 10 = j by omega]
          · rw [pk_un ex, q3 r hr]
            by_cases y : r < nr ∧ S 0 r = 1 ∧ zm_rm (S 1 r) 10 = nI 3
            · have o := off r y.1 y.2.1 y.2.2
              by_cases y2 : (S 1 r / 10).toNatClampNeg < j
              · rw [if_pos ⟨y, y2⟩, if_pos ⟨y, by omega⟩]
              · rw [if_neg (fun z => y2 z.2), if_neg (fun z => ?_)]
                rcases o.mp z.2 with w | w
                · exact y2 w
                · exact ex (hw.2 r q y.1 hq y.2.1 c2 (by rw [w, c3]))
            · rw [if_neg (fun z => y z.1), if_neg (fun z => y z.1)])
    (by
      rintro h1 ⟨q1, q2, q3⟩
      rw [Nat.zero_add]
      have g0 : (10 : Int32) ≤ nI 10 := by decide
      dsimp only
      unfold f_Waves_run_l44d_b f_Waves_run_l44d_b_ok
      rw [if_pos g0]
      exact ⟨⟨fun _ => trivial, fun z => absurd g0 z⟩, rfl⟩)
  rw [Nat.zero_add] at key
  obtain ⟨k1, h', k2, k3, k4, k5⟩ := key
  refine ⟨k1, h', k2, k3, fun c hc => ?_, fun r hr => ?_⟩
  · rw [k4 c hc, if_pos hc]
  · rw [k5 r hr]
    by_cases y : r < nr ∧ S 0 r = 1 ∧ zm_rm (S 1 r) 10 = nI 3
    · obtain ⟨p, hp, hp5, epl⟩ := hw.1 r y.1 y.2.1
      rw [if_pos ⟨y, by rw [epl, (pl_n hp).2, nI_c (by omega)]; omega⟩]
    · rw [if_neg (fun z => y z.1)]
      unfold rwT
      rw [if_neg y]
theorem rowe_C {S : Nat → Nat → Int32} {nr : Nat} (hnr : nr ≤ 10) {h : zm_H} (hw : wOK nr S) (hat : ∀ p, p < 100 → h.2.1 33 p = rat S (nI p) nr) (hz : ∀ r, r < nr → (1 ≤ (h.2.1 24 r).toInt ∧ (h.2.1 24 r).toInt ≤ 20) ∧ (2 ≤ (h.2.1 25 r).toInt ∧ (h.2.1 25 r).toInt ≤ 20)) (sea v2 : Int32) : f_Waves_run_l44e_ok sea v2 zF (0, h) ∧ ∃ h', f_Waves_run_l44e sea v2 zF (0, h) = (1, nI 10, h') ∧ zWr [34, 35] [] h h' ∧ (∀ c, c < 10 → h'.2.1 35 c = rwF S nr (h.2.1 24) (h.2.1 25) (zm_rm sea 1000 / 10) 4 (h.2.1 35) c) ∧ (∀ r, r < 10 → h'.2.1 34 r = rwT S nr (h.2.1 24) (h.2.1 25) (zm_rm sea 1000 / 10) 4 (h.2.1 35) (h.2.1 34) r) := by
  obtain ⟨F, eF, -⟩ := zF_ex
  rw [← eF]
  obtain ⟨per, ep⟩ : ∃ per, per = zm_rm sea 1000 / 10 := ⟨_, rfl⟩
  rw [← ep]
  have key := zlp_k eF (b := fun s => f_Waves_run_l44e_b sea v2 s.1 s.2) (o := fun s => f_Waves_run_l44e_b_ok sea v2 s.1 s.2) 10 (by omega) 0
    (fun j h1 => zWr [34, 35] [] h h1 ∧ (∀ c, c < 10 → h1.2.1 35 c = if c < j then rwF S nr (h.2.1 24) (h.2.1 25) per 4 (h.2.1 35) c else h.2.1 35 c) ∧ (∀ r, r < 10 → h1.2.1 34 r = if (r < nr ∧ S 0 r = 1 ∧ zm_rm (S 1 r) 10 = nI 4) ∧ (S 1 r / 10).toNatClampNeg < j then rwT S nr (h.2.1 24) (h.2.1 25) per 4 (h.2.1 35) (h.2.1 34) r else h.2.1 34 r)) h
    ⟨zWr.refl _ _, fun c _ => by rw [if_neg (by omega)], fun r _ => by rw [if_neg (by omega)]⟩
    (by
      rintro j h1 hj ⟨q1, q2, q3⟩
      rw [Nat.zero_add]
      have e33 : nI j * 10 + 4 = nI (10 * j + 4) := by
        rw [show (10 : Int32) = nI 10 from rfl, show (4 : Int32) = nI 4 from rfl, pk_mul, nI_add, Nat.mul_comm j 10]
      have a33 : zr h1 33 (nI (10 * j + 4)) = rat S (nI (10 * j + 4)) nr := by
        rw [zr_n h1 33 (by omega), zf, q1.arr 33 (by decide) (by decide)]; exact hat _ (by omega)
      have i100 : vp_in (nI (10 * j + 4)) 100 := vp_in_nI (by omega) (by omega)
      have ij : vp_in (nI j) 10 := vp_in_nI hj (by omega)
      have off : ∀ r, r < nr → S 0 r = 1 → zm_rm (S 1 r) 10 = nI 4 → ((S 1 r / 10).toNatClampNeg < j + 1 ↔ ((S 1 r / 10).toNatClampNeg < j ∨ S 1 r = nI (10 * j + 4))) := by
        intro r hr h0 hy
        obtain ⟨p, hp, hp5, epl⟩ := hw.1 r hr h0
        obtain ⟨m1, m2⟩ := pl_n hp
        rw [epl, m1] at hy
        have hpy := nI_inj (by omega) (by omega) hy
        rw [epl, m2, nI_c (by omega)]
        constructor
        · intro z
          rcases (show p / 10 < j ∨ p / 10 = j by omega) with y | y
          · exact Or.inl y
          · right; rw [show p = 10 * j + 4 by omega]
        · rintro (z | z)
          · omega
          · have := nI_inj (by omega) (by omega) z; omega
      rcases rat_c S (nI (10 * j + 4)) nr with ⟨c1, c2⟩ | ⟨q, hq, c1, c2, c3⟩
      · have g : zr h1 33 (nI j * 10 + 4) < 0 := by rw [e33, a33, c1]; decide
        refine ⟨?_, h1, ?_, q1, ?_, ?_⟩
        · dsimp only
          unfold f_Waves_run_l44e_b_ok
          rw [e33] at g ⊢
          exact ⟨fun z => absurd z (g10 hj), fun _ => ⟨i100, fun _ => trivial, fun z => absurd g z⟩⟩
        · dsimp only
          unfold f_Waves_run_l44e_b f_Waves_run_l44e_k82
          rw [if_neg (g10 hj), if_pos g, ← nI_succ]
        · intro x hx
          rw [q2 x hx]
          by_cases y : x < j
          · rw [if_pos y, if_pos (by omega)]
          · rw [if_neg y]
            by_cases ex : x = j
            · subst ex
              rw [if_pos (by omega)]
              unfold rwF
              rw [c1, if_pos (by decide)]
            · rw [if_neg (by omega)]
        · intro r hr
          rw [q3 r hr]
          by_cases y : r < nr ∧ S 0 r = 1 ∧ zm_rm (S 1 r) 10 = nI 4
          · have o := off r y.1 y.2.1 y.2.2
            by_cases y2 : (S 1 r / 10).toNatClampNeg < j
            · rw [if_pos ⟨y, y2⟩, if_pos ⟨y, by omega⟩]
            · rw [if_neg (fun z => y2 z.2), if_neg (fun z => ?_)]
              rcases o.mp z.2 with w | w
              · exact y2 w
              · exact c2 r y.1 ⟨y.2.1, w⟩
          · rw [if_neg (fun z => y z.1), if_neg (fun z => y z.1)]
      · have g : ¬ (zr h1 33 (nI j * 10 + 4) < 0) := by rw [e33, a33, c1, i_lt, i_nI (by omega), i_0]; omega
        have iq : vp_in (nI q) 10 := vp_in_nI (by omega) (by omega)
        obtain ⟨⟨z1, z2⟩, z3, z4⟩ := hz q hq
        have a24 : zr h1 24 (nI q) = h.2.1 24 q := by rw [zr_n h1 24 (by omega), zf, q1.arr 24 (by decide) (by decide)]
        have a25 : zr h1 25 (nI q) = h.2.1 25 q := by rw [zr_n h1 25 (by omega), zf, q1.arr 25 (by decide) (by decide)]
        have aA : zr h1 35 (nI j) = h.2.1 35 j := by rw [zr_n h1 35 (by omega)]; exact (q2 j hj).trans (if_neg (by omega))
        have nz : ¬ h.2.1 24 q + 20 = 0 := fun z => by
          have e20 : (20 : Int32).toInt = 20 := rfl
          have : (h.2.1 24 q + 20).toInt = (h.2.1 24 q).toInt + 20 := by rw [i_add (by rw [e20]; omega) (by rw [e20]; omega), e20]
          rw [z, i_0] at this; omega
        obtain ⟨m1, m2⟩ := pl_n (show 10 * j + 4 < 100 by omega)
        refine ⟨?_, zm_si (zm_si h1 34 q (tkv (h.2.1 35 j) (fitv per (h.2.1 25 q)) (h.2.1 24 q))) 35 j (h.2.1 35 j - tkv (h.2.1 35 j) (fitv per (h.2.1 25 q)) (h.2.1 24 q)), ?_, ?_, ?_, ?_⟩
        · dsimp only
          unfold f_Waves_run_l44e_b_ok f_Waves_take_ok f_Waves_take_k26_ok
          rw [e33] at g ⊢
          rw [a33, c1, a24]
          exact ⟨fun z => absurd z (g10 hj), fun _ => ⟨i100, fun _ => trivial, fun _ => ⟨iq, ij, iq, iq, nz, iq, ij, iq, ij⟩⟩⟩
        · dsimp only
          unfold f_Waves_run_l44e_b f_Waves_run_l44e_k82
          rw [if_neg (g10 hj), if_neg g, e33, a33, c1, ← nI_succ, ← ep]
          unfold f_Waves_take f_Waves_take_k26
          rw [a24, a25, aA, zs_n _ 34 _ (by omega), zs_n _ 35 _ (by omega), zr_n _ 34 (by omega)]
          have ez : ∀ V, zf (zm_si h1 34 q V) 34 q = V := fun V => zm_in _ _ _ _
          rw [ez]
          rfl
        · exact zWr_si (by decide) (zWr_si (by decide) q1)
        · intro x hx
          rw [za_si, if_pos rfl, za_si, if_neg (by decide)]
          by_cases ex : x = j
          · subst ex
            rw [pk_us, if_pos (by omega)]
            unfold rwF
            rw [c1, if_neg (by rw [i_lt, i_nI (by omega), i_0]; omega), nI_c (by omega)]
          · rw [pk_un ex, q2 x hx]
            by_cases y : x < j
            · rw [if_pos y, if_pos (by omega)]
            · rw [if_neg y, if_neg (by omega)]
        · intro r hr
          rw [za_si, if_neg (by decide), za_si, if_pos rfl]
          by_cases ex : r = q
          · subst ex
            have cond : r < nr ∧ S 0 r = 1 ∧ zm_rm (S 1 r) 10 = nI 4 := ⟨hq, c2, by rw [c3, m1, show (10 * j + 4) % 10 = 4 by omega]⟩
            rw [pk_us, if_pos ⟨cond, (off r hq c2 cond.2.2).mpr (Or.inr c3)⟩]
            unfold rwT
            rw [if_pos cond, c3, m2, nI_c (by omega), show (10 * j + 4) / 10 = j by omega]
          · rw [pk_un ex, q3 r hr]
            by_cases y : r < nr ∧ S 0 r = 1 ∧ zm_rm (S 1 r) 10 = nI 4
            · have o := off r y.1 y.2.1 y.2.2
              by_cases y2 : (S 1 r / 10).toNatClampNeg < j
              · rw [if_pos ⟨y, y2⟩, if_pos ⟨y, by omega⟩]
              · rw [if_neg (fun z => y2 z.2), if_neg (fun z => ?_)]
                rcases o.mp z.2 with w | w
                · exact y2 w
                · exact ex (hw.2 r q y.1 hq y.2.1 c2 (by rw [w, c3]))
            · rw [if_neg (fun z => y z.1), if_neg (fun z => y z.1)])
    (by
      rintro h1 ⟨q1, q2, q3⟩
      rw [Nat.zero_add]
      have g0 : (10 : Int32) ≤ nI 10 := by decide
      dsimp only
      unfold f_Waves_run_l44e_b f_Waves_run_l44e_b_ok
      rw [if_pos g0]
      exact ⟨⟨fun _ => trivial, fun z => absurd g0 z⟩, rfl⟩)
  rw [Nat.zero_add] at key
  obtain ⟨k1, h', k2, k3, k4, k5⟩ := key
  refine ⟨k1, h', k2, k3, fun c hc => ?_, fun r hr => ?_⟩
  · rw [k4 c hc, if_pos hc]
  · rw [k5 r hr]
    by_cases y : r < nr ∧ S 0 r = 1 ∧ zm_rm (S 1 r) 10 = nI 4
    · obtain ⟨p, hp, hp5, epl⟩ := hw.1 r y.1 y.2.1
      rw [if_pos ⟨y, by rw [epl, (pl_n hp).2, nI_c (by omega)]; omega⟩]
    · rw [if_neg (fun z => y z.1)]
      unfold rwT
      rw [if_neg y]
