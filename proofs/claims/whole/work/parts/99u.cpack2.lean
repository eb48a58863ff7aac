/-! ===== a PLAN: the class packs from a JOB on ===== -/
theorem fl_80 (v : Int32) (h : zm_H) : f_Arrays_fill_80_ok v h ∧ zWr [80] [] h (f_Arrays_fill_80 v h) ∧ ∀ k, k < 64 → (f_Arrays_fill_80 v h).2.1 80 k = v := by
  unfold f_Arrays_fill_80_ok f_Arrays_fill_80 f_Arrays_fill_80_a5 f_Arrays_fill_80_k20
  obtain ⟨k1, h1, k2, k3, k4⟩ := zfill rfl (b := fun s => f_Arrays_fill_80_l5_b v s.1 (Int32.ofNat 64) s.2) (o := fun s => f_Arrays_fill_80_l5_b_ok v s.1 (Int32.ofNat 64) s.2) 80 64 (by omega) (fun _ => v) h
    (fun k g hk _ => by
      have g0 : ¬ (Int32.ofNat 64 ≤ nI k) := by rw [show Int32.ofNat 64 = nI 64 from rfl, nx_le (by omega) (by omega)]; omega
      refine ⟨⟨fun z => absurd z g0, fun _ => vp_in_nI hk (by omega)⟩, ?_⟩
      dsimp only
      unfold f_Arrays_fill_80_l5_b
      rw [if_neg g0, zs_n _ 80 _ (by omega), ← nI_succ])
    (fun g _ => by
      have g0 : Int32.ofNat 64 ≤ nI 64 := i_le_r _
      refine ⟨⟨fun _ => trivial, fun z => absurd g0 z⟩, ?_⟩
      dsimp only
      unfold f_Arrays_fill_80_l5_b
      rw [if_pos g0])
  have k2 : f_Arrays_fill_80_l5 v (Int32.ofNat 64) zF (0, h) = (1, nI 64, h1) := k2
  rw [k2]
  exact ⟨⟨k1, trivial⟩, k3, fun k hk => by rw [k4 k, if_pos hk]⟩
abbrev fzT (J : Nat) (L Q : Nat → Nat) (k s : Nat) : Prop := fz J L (fun _ _ => True) Q k s.testBit
theorem pk_N {J m job : Nat} (hJ : J ≤ 6) (hm : m ≤ 40) (hjob : job ≤ J) {L Q : Nat → Nat} (hL : ∀ j, j < J → L j ≤ 16) (hQ : ∀ w, w < m → Q w < 1000) {h : zm_H} (eJ : zf h 72 2 = nI J) (em : zf h 72 5 = nI m) (e77 : ∀ w, w < m → h.2.1 77 w = nI (Q w)) (e78 : ∀ s, s < 2 ^ J → h.2.1 78 s = nI (sm L s.testBit J)) : f_Planner_packFrom_ok (nI job) h ∧ zWr [80] [] h (f_Planner_packFrom (nI job) h) ∧ ∀ s, s < 2 ^ J → s % 2 ^ job = 0 → ((f_Planner_packFrom (nI job) h).2.1 80 s = 1 ↔ fzT J L Q m s) := by
  have h64 := p2_le hJ
  unfold f_Planner_packFrom_ok f_Planner_packFrom f_Planner_packFrom_k8_ok f_Planner_packFrom_k8 f_Planner_packFrom_a17 f_Planner_packFrom_k85
  obtain ⟨a1, a2, a3⟩ := fl_80 0 h
  generalize f_Arrays_fill_80 0 h = h1 at a2 a3
  have ez : zs h1 80 0 1 = zm_si h1 80 0 1 := zs_n h1 80 (k := 0) 1 (by omega)
  rw [ez]
  obtain ⟨h2, e2⟩ : ∃ h2, h2 = zm_si h1 80 0 1 := ⟨_, rfl⟩
  rw [← e2]
  have w2 : zWr [80] [] h h2 := by rw [e2]; exact zWr_si (by decide) a2
  have v2 : ∀ s, s < 64 → h2.2.1 80 s = if s = 0 then 1 else 0 := fun s hs => by
    rw [e2, za_si, if_pos rfl]
    unfold upd
    by_cases c : s = 0
    · rw [if_pos c, if_pos c]
    · rw [if_neg c, if_neg c]; exact a3 s hs
  obtain ⟨F, eF, -⟩ := zF_ex
  rw [← eF]
  obtain ⟨D, eD⟩ : ∃ D, D = 2 ^ job := ⟨_, rfl⟩
  have hD : 0 < D := by rw [eD]; exact Nat.pow_pos (by omega)
  obtain ⟨N, eN⟩ : ∃ N, 2 ^ J = (N + 1) * D := by
    refine ⟨2 ^ (J - job) - 1, ?_⟩
    have : 0 < 2 ^ (J - job) := Nat.pow_pos (by omega)
    rw [show 2 ^ (J - job) - 1 + 1 = 2 ^ (J - job) by omega, eD, ← Nat.pow_add, show J - job + job = J by omega]
  have hND : (N + 1) * D = N * D + D := by rw [Nat.succ_mul]
  have hN : N ≤ 63 := by
    have : N * 1 ≤ N * D := Nat.mul_le_mul_left N hD
    omega
  rw [← eD]
  have key := zlp_k eF (b := fun s => f_Planner_packFrom_l17_b (nI job) s.1 s.2) (o := fun s => f_Planner_packFrom_l17_b_ok (nI job) s.1 s.2) m (by omega) 0
    (fun k x => zWr [80] [] h x ∧ ∀ s, s < 2 ^ J → s % D = 0 → (x.2.1 80 s = 1 ↔ fzT J L Q k s) ∧ (x.2.1 80 s = 0 ∨ x.2.1 80 s = 1)) h2
    ⟨w2, fun s hs _ => by
      rw [v2 s (by omega), fzT, fz_z hs]
      by_cases c : s = 0
      · rw [if_pos c]; exact ⟨⟨fun _ => c, fun _ => rfl⟩, Or.inr rfl⟩
      · rw [if_neg c]; exact ⟨⟨fun z => absurd z (by decide), fun z => absurd z c⟩, Or.inl rfl⟩⟩
    (by
      rintro k x hk ⟨p1, p2⟩
      rw [Nat.zero_add]
      have xm : zf x 72 5 = nI m := (p1.fld 72 5 (by decide) (by decide)).trans em
      have xJ : zf x 72 2 = nI J := (p1.fld 72 2 (by decide) (by decide)).trans eJ
      have g0 : ¬ (zf x 72 5 ≤ nI k) := by rw [xm, nx_le (by omega) (by omega)]; omega
      have es0 : (1 : Int32) <<< (zf x 72 2 &&& 31) - (1 : Int32) <<< (nI job &&& 31) = nI (N * D) := by
        rw [xJ, b_shl J (by omega), b_shl job (by omega), nI_s0 _ _ (by omega), ← eD, show 2 ^ J - D = N * D by omega]
      have key2 := zlpF eF (b := fun t => f_Planner_packFrom_l17_l36_b (nI job) (nI k) t.1 t.2) (o := fun t => f_Planner_packFrom_l17_l36_b_ok (nI job) (nI k) t.1 t.2) N (by omega)
        (fun c t => t.1 = nI ((N - c) * D) ∧ zWr [80] [] h t.2 ∧ ∀ s, s < 2 ^ J → s % D = 0 → (if (N - c) * D < s then ((t.2.2.1 80 s = 1 ↔ fzT J L Q (k + 1) s) ∧ (t.2.2.1 80 s = 0 ∨ t.2.2.1 80 s = 1)) else t.2.2.1 80 s = x.2.1 80 s))
        (fun r => zWr [80] [] h r.2.2 ∧ ∀ s, s < 2 ^ J → s % D = 0 → (r.2.2.2.1 80 s = 1 ↔ fzT J L Q (k + 1) s) ∧ (r.2.2.2.1 80 s = 0 ∨ r.2.2.2.1 80 s = 1)) (nI (N * D), x)
        ⟨rfl, p1, fun s hs hd => by
          rw [Nat.sub_zero]
          by_cases c : N * D < s
          · exfalso
            have e1 := Nat.div_add_mod s D
            rw [hd, Nat.add_zero, Nat.mul_comm] at e1
            have n1 : s / D < N + 1 := Nat.div_lt_of_lt_mul (by rw [Nat.mul_comm, ← eN]; exact hs)
            have n2 : s / D * D ≤ N * D := Nat.mul_le_mul_right D (by omega)
            omega
          · rw [if_neg c]⟩
        (by
          rintro c ⟨t1, y⟩ hc ⟨q1, q2, q3⟩
          dsimp only at q1 q2 q3
          subst q1
          obtain ⟨s, es⟩ : ∃ s, s = (N - c) * D := ⟨_, rfl⟩
          have hs0 : 0 < s := by rw [es]; exact Nat.mul_pos (by omega) hD
          have hsJ : s < 2 ^ J := by
            have : (N - c) * D ≤ N * D := Nat.mul_le_mul_right D (by omega)
            omega
          have hsd : s % D = 0 := by rw [es]; exact Nat.mul_mod_left _ _
          have hnx : (N - (c + 1)) * D + D = s := by
            rw [es, ← Nat.succ_mul, show (N - (c + 1)).succ = N - c by omega]
          rw [← es] at q3 ⊢
          have g1 : ¬ (nI s ≤ 0) := by rw [i_le, i_nI (by omega), i_0]; omega
          have is : vp_in (nI s) 64 := vp_in_nI (by omega) (by omega)
          have old : ∀ u, u < 2 ^ J → u % D = 0 → u ≤ s → (y.2.1 80 u = 1 ↔ fzT J L Q k u) ∧ (y.2.1 80 u = 0 ∨ y.2.1 80 u = 1) := by
            intro u hu hd hle
            have := q3 u hu hd
            rw [if_neg (by omega)] at this
            rw [this]
            exact p2 u hu hd
          have y77 : zr y 77 (nI k) = nI (Q k) := by rw [zr_n y 77 (by omega), zf, q2.arr 77 (by decide) (by decide)]; exact e77 k hk
          obtain ⟨d1, d2⟩ := gi_N hJ hL (h := y) (fun u hu => by rw [q2.arr 78 (by decide) (by decide)]; exact e78 u hu) hsJ (hQ k hk)
          have ik : vp_in (nI k) 40 := vp_in_nI (by omega) (by omega)
          have esub : nI s - (1 : Int32) <<< (nI job &&& 31) = nI ((N - (c + 1)) * D) := by
            rw [b_shl job (by omega), ← eD, nI_s0 _ _ (by omega), show s - D = (N - (c + 1)) * D by omega]
          have fs : fzT J L Q (k + 1) s ↔ (y.2.1 80 s = 1 ∨ ∃ p, p < 2 ^ J ∧ 0 < p ∧ p &&& s = p ∧ sm L p.testBit J ≤ Q k ∧ y.2.1 80 (s ^^^ p) = 1) := by
            rw [fzT, fz_n hsJ, (old s hsJ hsd (Nat.le_refl _)).1]
            have sub : ∀ p, p < 2 ^ J → 0 < p → p &&& s = p → (y.2.1 80 (s ^^^ p) = 1 ↔ fzT J L Q k (s ^^^ p)) := by
              intro p hp h0 hps
              have l1 := b_sx s (by omega) p (by omega) ⟨hps, h0⟩
              have l2 := b_lx job (by omega) s (by omega) (by rw [← eD]; exact hsd) p (by omega) hps
              rw [← eD] at l2
              exact (old (s ^^^ p) (by omega) l2 (by omega)).1
            constructor
            · rintro (z | ⟨p, z1, z2, z3, -, z4, z5⟩)
              · exact Or.inl z
              · exact Or.inr ⟨p, z1, z2, z3, z4, (sub p z1 z2 z3).mpr z5⟩
            · rintro (z | ⟨p, z1, z2, z3, z4, z5⟩)
              · exact Or.inl z
              · exact Or.inr ⟨p, z1, z2, z3, fun _ _ _ => trivial, z4, (sub p z1 z2 z3).mp z5⟩
          have fin : ∀ z : zm_H, zWr [80] [] h z → (z.2.1 80 s = 1 ↔ fzT J L Q (k + 1) s) ∧ (z.2.1 80 s = 0 ∨ z.2.1 80 s = 1) → (∀ u, ¬ u = s → z.2.1 80 u = y.2.1 80 u) → ∀ u, u < 2 ^ J → u % D = 0 → (if (N - (c + 1)) * D < u then ((z.2.1 80 u = 1 ↔ fzT J L Q (k + 1) u) ∧ (z.2.1 80 u = 0 ∨ z.2.1 80 u = 1)) else z.2.1 80 u = x.2.1 80 u) := by
            intro z wz zs zo u hu hd
            by_cases e : u = s
            · subst e
              rw [if_pos (by omega)]; exact zs
            · have := q3 u hu hd
              rw [zo u e]
              by_cases l : s < u
              · rw [if_pos l] at this
                rw [if_pos (by omega)]; exact this
              · rw [if_neg l] at this
                have nl : ¬ (N - (c + 1)) * D < u := by
                  intro l2
                  have e1 := Nat.div_add_mod u D
                  rw [hd, Nat.add_zero, Nat.mul_comm] at e1
                  have n1 : N - (c + 1) < u / D := by
                    rcases Nat.lt_or_ge (N - (c + 1)) (u / D) with v | v
                    · exact v
                    · have := Nat.mul_le_mul_right D v
                      omega
                  have n2 := Nat.mul_le_mul_right D (show N - (c + 1) + 1 ≤ u / D by omega)
                  rw [Nat.succ_mul] at n2
                  omega
                rw [if_neg nl]; exact this
          show f_Planner_packFrom_l17_l36_b_ok (nI job) (nI k) (nI s) y ∧ _
          unfold f_Planner_packFrom_l17_l36_b f_Planner_packFrom_l17_l36_b_ok
          dsimp only
          rw [if_neg g1, esub, y77, zr_n y 80 (by omega), zs_n _ _ _ (by omega)]
          refine ⟨⟨fun z => absurd z g1, fun _ => ⟨is, fun _ => ⟨ik, d1, fun _ => trivial, fun _ => is⟩, fun _ => trivial⟩⟩, Or.inl ⟨rfl, rfl, ?_⟩⟩
          by_cases z0 : zf y 80 s = 0
          · rw [if_pos z0]
            have z0' : y.2.1 80 s = 0 := z0
            by_cases z1 : f_Planner_goesInWith (nI s) (nI (Q k)) y = 0
            · rw [if_pos z1]
              refine ⟨q2, fin y q2 ⟨?_, Or.inl z0⟩ (fun _ _ => rfl)⟩
              rw [fs]
              constructor
              · intro v; exact Or.inl v
              · rintro (v | v)
                · exact v
                · exact absurd v (d2.mp z1)
            · rw [if_neg z1]
              have ws : zWr [80] [] h (zm_si y 80 s 1) := zWr_si (by decide) q2
              refine ⟨ws, fin _ ws ⟨?_, Or.inr (zm_in _ _ _ _)⟩ (fun u hu => by rw [zf_si, if_pos rfl, if_neg hu])⟩
              rw [fs]
              exact ⟨fun _ => Or.inr (Decidable.byContradiction (fun v => z1 (d2.mpr v))), fun _ => zm_in _ _ _ _⟩
          · rw [if_neg z0]
            have v1 : y.2.1 80 s = 1 := by
              rcases (old s hsJ hsd (Nat.le_refl _)).2 with v | v
              · exact absurd v z0
              · exact v
            exact ⟨q2, fin y q2 ⟨by rw [fs]; exact ⟨fun v => Or.inl v, fun _ => v1⟩, Or.inr v1⟩ (fun _ _ => rfl)⟩)
        (by
          rintro ⟨t1, y⟩ ⟨q1, q2, q3⟩
          dsimp only at q1 q2 q3
          subst q1
          have e0 : (N - N) * D = 0 := by rw [Nat.sub_self, Nat.zero_mul]
          rw [e0] at q3 ⊢
          have g1 : nI 0 ≤ 0 := by decide
          show f_Planner_packFrom_l17_l36_b_ok (nI job) (nI k) (nI 0) y ∧ _
          unfold f_Planner_packFrom_l17_l36_b f_Planner_packFrom_l17_l36_b_ok
          dsimp only
          rw [if_pos g1]
          refine ⟨⟨fun _ => trivial, fun z => absurd g1 z⟩, by simp, q2, fun s hs hd => ?_⟩
          have := q3 s hs hd
          by_cases c : 0 < s
          · rw [if_pos c] at this; exact this
          · rw [if_neg c] at this
            have s0 : s = 0 := by omega
            subst s0
            have v1 : x.2.1 80 0 = 1 := (p2 0 hs hd).1.mpr (by
              refine ⟨fun _ => 0, fun i _ ht => ?_, fun w _ => ?_⟩
              · rw [Nat.zero_testBit] at ht; cases ht
              · rw [sm_0 J (fun i _ => by rw [Nat.zero_testBit]; rfl)]; exact Nat.zero_le _)
            dsimp only
            rw [this, v1]
            refine ⟨⟨fun _ => ?_, fun _ => rfl⟩, Or.inr rfl⟩
            refine ⟨fun _ => 0, fun i _ ht => ?_, fun w _ => ?_⟩
            · rw [Nat.zero_testBit] at ht; cases ht
            · rw [sm_0 J (fun i _ => by rw [Nat.zero_testBit]; rfl)]; exact Nat.zero_le _)
      obtain ⟨k1, k2, k3⟩ := key2
      obtain ⟨r, er⟩ : ∃ r, r = f_Planner_packFrom_l17_l36 (nI job) (nI k) F (nI (N * D), x) := ⟨_, rfl⟩
      have k2 : zWr [80] [] h r.2.2 := by rw [er]; exact k2
      have k3 : ∀ s, s < 2 ^ J → s % D = 0 → (r.2.2.2.1 80 s = 1 ↔ fzT J L Q (k + 1) s) ∧ (r.2.2.2.1 80 s = 0 ∨ r.2.2.2.1 80 s = 1) := by rw [er]; exact k3
      dsimp only
      unfold f_Planner_packFrom_l17_b f_Planner_packFrom_l17_b_ok f_Planner_packFrom_l17_a36 f_Planner_packFrom_l17_k79
      rw [if_neg g0, es0, ← eF, ← er, ← nI_succ]
      exact ⟨⟨fun z => absurd z g0, fun _ => ⟨k1, trivial⟩⟩, _, rfl, k2, k3⟩)
    (by
      rintro x ⟨p1, p2⟩
      rw [Nat.zero_add]
      have xm : zf x 72 5 = nI m := (p1.fld 72 5 (by decide) (by decide)).trans em
      have g0 : zf x 72 5 ≤ nI m := by rw [xm]; exact i_le_r _
      dsimp only
      unfold f_Planner_packFrom_l17_b f_Planner_packFrom_l17_b_ok
      rw [if_pos g0]
      exact ⟨⟨fun _ => trivial, fun z => absurd g0 z⟩, rfl⟩)
  obtain ⟨k1, x, k2, k3, k4⟩ := key
  have k2 : f_Planner_packFrom_l17 (nI job) F (0, h2) = (1, nI (0 + m), x) := k2
  rw [k2]
  exact ⟨⟨a1, k1, trivial⟩, k3, fun s hs hd => (k4 s hs hd).1⟩
