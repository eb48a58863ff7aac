/-! ===== a PLAN: bits; the class packs ===== -/
theorem b_shl : ∀ j, j < 7 → (1 : Int32) <<< (nI j &&& 31) = nI (2 ^ j) := by decide +kernel
theorem b_or : ∀ a, a < 64 → ∀ b, b < 64 → nI a ||| nI b = nI (a ||| b) := by decide +kernel
theorem b_and : ∀ a, a < 64 → ∀ b, b < 64 → nI a &&& nI b = nI (a &&& b) := by decide +kernel
theorem b_xor : ∀ a, a < 64 → ∀ b, b < 64 → nI a ^^^ nI b = nI (a ^^^ b) := by decide +kernel
theorem b_bit : ∀ s, s < 64 → ∀ j, j < 6 → (((nI s >>> (nI j &&& 31)) &&& 1) = 0 ↔ s.testBit j = false) := by decide +kernel
theorem b_orp : ∀ j, j < 6 → ∀ s, s < 64 → s < 2 ^ j → s ||| 2 ^ j = 2 ^ j + s := by decide +kernel
def b_chk (s p : Nat) : Bool := (List.range 64).all fun q => (!(q &&& s == q)) || (!(Nat.blt q p)) || Nat.ble q ((p - 1) &&& s)
theorem b_sub0 : ∀ s, s < 64 → ∀ p, p < 64 → p &&& s = p → b_chk s p = true := by decide +kernel
theorem b_sub (s : Nat) (hs : s < 64) (p : Nat) (hp : p < 64) (h : p &&& s = p) (q : Nat) (hq : q < 64) (h2 : q &&& s = q ∧ q < p) : q ≤ (p - 1) &&& s := by
  have a := b_sub0 s hs p hp h
  unfold b_chk at a
  rw [List.all_eq_true] at a
  have b := a q (List.mem_range.mpr hq)
  rw [Bool.or_eq_true, Bool.or_eq_true] at b
  rcases b with (b | b) | b
  · rw [Bool.not_eq_true', beq_eq_false_iff_ne] at b; exact absurd h2.1 b
  · rw [Bool.not_eq_true'] at b
    have := Nat.blt_eq.mpr h2.2
    rw [this] at b; cases b
  · exact Nat.le_of_ble_eq_true b
theorem b_low : ∀ j, j < 7 → ∀ s, s < 64 → (s % 2 ^ j = 0 ↔ ∀ i, i < j → s.testBit i = false) := by decide +kernel
theorem b_sx : ∀ s, s < 64 → ∀ p, p < 64 → (p &&& s = p ∧ 0 < p) → s ^^^ p < s := by decide +kernel
theorem b_lx : ∀ j, j < 7 → ∀ s, s < 64 → s % 2 ^ j = 0 → ∀ p, p < 64 → p &&& s = p → (s ^^^ p) % 2 ^ j = 0 := by decide +kernel
theorem p2_le {J : Nat} (hJ : J ≤ 6) : 2 ^ J ≤ 64 := Nat.pow_le_pow_right (n := 2) (by omega) hJ
theorem fz_n {J : Nat} {L : Nat → Nat} {A : Nat → Nat → Prop} {R : Nat → Nat} {k s : Nat} (hs : s < 2 ^ J) : fz J L A R (k + 1) s.testBit ↔ fz J L A R k s.testBit ∨ ∃ p, p < 2 ^ J ∧ 0 < p ∧ p &&& s = p ∧ (∀ i, i < J → p.testBit i = true → A i k) ∧ sm L p.testBit J ≤ R k ∧ fz J L A R k (s ^^^ p).testBit := by
  rw [fz_m]
  constructor
  · rintro ⟨p, h1, h2, h3, h4⟩
    by_cases c : p = 0
    · left
      subst c
      exact fz_ext (fun i hi => by simp) h4
    · right
      have sub : p &&& s = p := by
        apply Nat.eq_of_testBit_eq
        intro i
        rw [Nat.testBit_and]
        by_cases hi : i < J
        · cases hp : p.testBit i
          · rfl
          · rw [(h2 i hi hp).1]; rfl
        · rw [tb_hi h1 (by omega)]; rfl
      refine ⟨p, h1, by omega, sub, fun i hi hp => (h2 i hi hp).2, h3, fz_ext (fun i hi => ?_) h4⟩
      rw [Nat.testBit_xor]
      cases hp : p.testBit i
      · simp
      · rw [(h2 i hi hp).1]; rfl
  · rintro (h | ⟨p, h1, -, sub, h2, h3, h4⟩)
    · refine ⟨0, Nat.pow_pos (by omega), fun i hi hp => ?_, ?_, fz_ext (fun i hi => by simp) h⟩
      · rw [Nat.zero_testBit] at hp; cases hp
      · rw [sm_0 J (fun i hi => Nat.zero_testBit i)]; exact Nat.zero_le _
    · have sb : ∀ i, p.testBit i = true → s.testBit i = true := fun i hp => by
        have : (p &&& s).testBit i = p.testBit i := by rw [sub]
        rw [Nat.testBit_and, hp] at this
        simpa using this
      refine ⟨p, h1, fun i hi hp => ⟨sb i hp, h2 i hi hp⟩, h3, fz_ext (fun i hi => ?_) h4⟩
      rw [Nat.testBit_xor]
      cases hp : p.testBit i
      · simp
      · rw [sb i hp]; rfl
theorem fz_z {J : Nat} {L : Nat → Nat} {A : Nat → Nat → Prop} {R : Nat → Nat} {s : Nat} (hs : s < 2 ^ J) : fz J L A R 0 s.testBit ↔ s = 0 := by
  rw [fz_0]
  constructor
  · intro h
    apply Nat.eq_of_testBit_eq
    intro i
    rw [Nat.zero_testBit]
    by_cases hi : i < J
    · simpa using h i hi
    · exact tb_hi hs (by omega)
  · intro h i hi
    rw [h, Nat.zero_testBit]; simp
theorem sm_hi {L : Nat → Nat} {s j : Nat} (hs : s < 2 ^ j) : sm L s.testBit (j + 1) = sm L s.testBit j := by
  rw [sm, tb_hi hs (Nat.le_refl _)]; rfl
theorem sm_p2 {L : Nat → Nat} {s j : Nat} (hs : s < 2 ^ j) : sm L (2 ^ j + s).testBit (j + 1) = sm L s.testBit j + L j := by
  rw [sm, Nat.testBit_two_pow_add_eq, tb_hi hs (Nat.le_refl _), sm_ext (Q := s.testBit) j (fun i hi => Nat.testBit_two_pow_add_gt hi s)]
  rfl
/-- all sets are measured -/
theorem ms_N {J : Nat} (hJ : J ≤ 6) {L V : Nat → Nat} {h : zm_H} (eJ : zf h 72 2 = nI J) (e73 : ∀ j, j < J → h.2.1 73 j = nI (L j)) (e74 : ∀ j, j < J → h.2.1 74 j = nI (V j)) (z78 : h.2.1 78 0 = 0) (z79 : h.2.1 79 0 = 0) : f_Planner_measureSets_ok h ∧ zWr [78, 79] [] h (f_Planner_measureSets h) ∧ (∀ s, s < 2 ^ J → (f_Planner_measureSets h).2.1 78 s = nI (sm L s.testBit J) ∧ (f_Planner_measureSets h).2.1 79 s = nI (sm V s.testBit J)) := by
  unfold f_Planner_measureSets_ok f_Planner_measureSets f_Planner_measureSets_a2 f_Planner_measureSets_k77
  obtain ⟨F, eF, -⟩ := zF_ex
  rw [← eF]
  have key := zlp_k eF (b := fun s => f_Planner_measureSets_l2_b s.1 s.2) (o := fun s => f_Planner_measureSets_l2_b_ok s.1 s.2) J (by omega) 0
    (fun j x => zWr [78, 79] [] h x ∧ ∀ s, s < 2 ^ j → x.2.1 78 s = nI (sm L s.testBit j) ∧ x.2.1 79 s = nI (sm V s.testBit j)) h
    ⟨zWr.refl _ _, fun s hs => by
      have : s = 0 := by simpa using hs
      subst this
      exact ⟨z78, z79⟩⟩
    (by
      rintro j x hj ⟨p1, p2⟩
      rw [Nat.zero_add]
      have xJ : zf x 72 2 = nI J := (p1.fld 72 2 (by decide) (by decide)).trans eJ
      have g0 : ¬ (zf x 72 2 ≤ nI j) := by rw [xJ, nx_le (by omega) (by omega)]; omega
      have hp : 2 ^ j ≤ 32 := Nat.pow_le_pow_right (n := 2) (by omega) (show j ≤ 5 by omega)
      have ij : vp_in (nI j) 6 := vp_in_nI (by omega) (by omega)
      have key2 := zlp_k eF (b := fun s => f_Planner_measureSets_l2_l12_b (nI j) s.1 s.2) (o := fun s => f_Planner_measureSets_l2_l12_b_ok (nI j) s.1 s.2) (2 ^ j) (by omega) 0
        (fun k y => zWr [78, 79] [] h y ∧ (∀ s, s < 2 ^ j → y.2.1 78 s = nI (sm L s.testBit j) ∧ y.2.1 79 s = nI (sm V s.testBit j)) ∧ ∀ s, s < k → y.2.1 78 (2 ^ j + s) = nI (sm L s.testBit j + L j) ∧ y.2.1 79 (2 ^ j + s) = nI (sm V s.testBit j + V j)) x
        ⟨p1, p2, fun s hs => by omega⟩
        (by
          rintro k y hk ⟨r1, r2, r3⟩
          rw [Nat.zero_add]
          have g1 : ¬ ((1 : Int32) <<< (nI j &&& 31) ≤ nI k) := by rw [b_shl j (by omega), nx_le (by omega) (by omega)]; omega
          have ik : vp_in (nI k) 64 := vp_in_nI (by omega) (by omega)
          have ex : nI k ||| (1 : Int32) <<< (nI j &&& 31) = nI (2 ^ j + k) := by rw [b_shl j (by omega), b_or k (by omega) _ (by omega), b_orp j (by omega) k (by omega) hk]
          have i2 : vp_in (nI (2 ^ j + k)) 64 := vp_in_nI (by omega) (by omega)
          have y73 : zr y 73 (nI j) = nI (L j) := by rw [zr_n y 73 (by omega), zf, r1.arr 73 (by decide) (by decide)]; exact e73 j hj
          have y74 : zr y 74 (nI j) = nI (V j) := by rw [zr_n y 74 (by omega), zf, r1.arr 74 (by decide) (by decide)]; exact e74 j hj
          dsimp only
          unfold f_Planner_measureSets_l2_l12_b f_Planner_measureSets_l2_l12_b_ok
          rw [if_neg g1, ex, y73, y74, zs_n _ _ _ (by omega), zs_n _ _ _ (by omega), zr_n _ _ (by omega), zr_n _ _ (by omega), ← nI_succ, zf, zf, (r2 k hk).1, (r2 k hk).2, nI_add, nI_add]
          refine ⟨⟨fun z => absurd z g1, fun _ => ⟨ik, ij, i2, ik, ij, i2⟩⟩, _, rfl, zWr_si (by decide) (zWr_si (by decide) r1), fun s hs => ?_, fun s hs => ?_⟩
          · rw [za_si, if_neg (by decide), za_si, if_pos rfl, za_si, if_pos rfl, za_si, if_neg (by decide)]
            unfold upd
            rw [if_neg (by omega), if_neg (by omega)]
            exact r2 s hs
          · rw [za_si, if_neg (by decide), za_si, if_pos rfl, za_si, if_pos rfl, za_si, if_neg (by decide)]
            unfold upd
            by_cases c : s = k
            · subst c; rw [if_pos rfl, if_pos rfl]; exact ⟨rfl, rfl⟩
            · rw [if_neg (by omega), if_neg (by omega)]; exact r3 s (by omega))
        (by
          rintro y ⟨r1, r2, r3⟩
          rw [Nat.zero_add]
          have g1 : (1 : Int32) <<< (nI j &&& 31) ≤ nI (2 ^ j) := by rw [b_shl j (by omega)]; exact i_le_r _
          dsimp only
          unfold f_Planner_measureSets_l2_l12_b f_Planner_measureSets_l2_l12_b_ok
          rw [if_pos g1]
          exact ⟨⟨fun _ => trivial, fun z => absurd g1 z⟩, rfl⟩)
      obtain ⟨k1, y, k2, k3, k4, k5⟩ := key2
      have k2 : f_Planner_measureSets_l2_l12 (nI j) F (0, x) = (1, nI (0 + 2 ^ j), y) := k2
      dsimp only
      unfold f_Planner_measureSets_l2_b f_Planner_measureSets_l2_b_ok f_Planner_measureSets_l2_a12 f_Planner_measureSets_l2_k71
      rw [if_neg g0, ← eF, k2, ← nI_succ]
      refine ⟨⟨fun z => absurd z g0, fun _ => ⟨k1, trivial⟩⟩, _, rfl, k3, fun s hs => ?_⟩
      rw [Nat.pow_succ] at hs
      by_cases c : s < 2 ^ j
      · rw [sm_hi c, sm_hi c]; exact k4 s c
      · have es : s = 2 ^ j + (s - 2 ^ j) := by omega
        have a := k5 (s - 2 ^ j) (by omega)
        rw [← es] at a
        rw [a.1, a.2]
        have b1 := sm_p2 (L := L) (show s - 2 ^ j < 2 ^ j by omega)
        have b2 := sm_p2 (L := V) (show s - 2 ^ j < 2 ^ j by omega)
        rw [← es] at b1 b2
        rw [b1, b2]
        exact ⟨rfl, rfl⟩)
    (by
      rintro x ⟨p1, p2⟩
      rw [Nat.zero_add]
      have xJ : zf x 72 2 = nI J := (p1.fld 72 2 (by decide) (by decide)).trans eJ
      have g0 : zf x 72 2 ≤ nI J := by rw [xJ]; exact i_le_r _
      dsimp only
      unfold f_Planner_measureSets_l2_b f_Planner_measureSets_l2_b_ok
      rw [if_pos g0]
      exact ⟨⟨fun _ => trivial, fun z => absurd g0 z⟩, rfl⟩)
  obtain ⟨k1, x, k2, k3, k4⟩ := key
  have k2 : f_Planner_measureSets_l2 F (0, h) = (1, nI (0 + J), x) := k2
  rw [k2]
  exact ⟨⟨k1, trivial⟩, k3, k4⟩
/-- does a set go in, with what is put into one window more -/
theorem gi_N {J : Nat} (hJ : J ≤ 6) {L : Nat → Nat} (hL : ∀ j, j < J → L j ≤ 16) {h : zm_H} (e78 : ∀ s, s < 2 ^ J → h.2.1 78 s = nI (sm L s.testBit J)) {s : Nat} (hs : s < 2 ^ J) {Q : Nat} (hQ : Q < 1000) : f_Planner_goesInWith_ok (nI s) (nI Q) h ∧ (f_Planner_goesInWith (nI s) (nI Q) h = 0 ↔ ¬ ∃ p, p < 2 ^ J ∧ 0 < p ∧ p &&& s = p ∧ sm L p.testBit J ≤ Q ∧ h.2.1 80 (s ^^^ p) = 1) := by
  have h64 := p2_le hJ
  have hsm : ∀ p : Nat, sm L p.testBit J ≤ 96 := fun p => by have := sm_le (P := p.testBit) J hL; omega
  unfold f_Planner_goesInWith_ok f_Planner_goesInWith f_Planner_goesInWith_a2 f_Planner_goesInWith_k28 f_Planner_goesInWith_k39
  obtain ⟨F, eF, -⟩ := zF_ex
  rw [← eF]
  have key := zlpF eF (b := fun t => f_Planner_goesInWith_l2_b (nI s) (nI Q) t h) (o := fun t => f_Planner_goesInWith_l2_b_ok (nI s) (nI Q) t h) s (by omega)
    (fun k t => ∃ p, t = nI p ∧ p + k ≤ s ∧ p &&& s = p ∧ ∀ q, q < 64 → q &&& s = q → p < q → ¬ (sm L q.testBit J ≤ Q ∧ h.2.1 80 (s ^^^ q) = 1))
    (fun r => (r.1 = 1 ∧ ∃ p, p < 2 ^ J ∧ 0 < p ∧ p &&& s = p ∧ sm L p.testBit J ≤ Q ∧ h.2.1 80 (s ^^^ p) = 1) ∨ (¬ r.1 = 1 ∧ ∀ q, q < 64 → q &&& s = q → 0 < q → ¬ (sm L q.testBit J ≤ Q ∧ h.2.1 80 (s ^^^ q) = 1))) (nI s)
    ⟨s, rfl, by omega, Nat.and_self s, fun q _ hq hlt => by
      have := Nat.and_le_right (n := q) (m := s)
      omega⟩
    (by
      rintro k t hk ⟨p, rfl, h1, h2, h3⟩
      by_cases c : p = 0
      · subst c
        have g0 : nI 0 ≤ 0 := by decide
        show f_Planner_goesInWith_l2_b_ok (nI s) (nI Q) (nI 0) h ∧ _
        unfold f_Planner_goesInWith_l2_b f_Planner_goesInWith_l2_b_ok
        rw [if_pos g0]
        exact ⟨⟨fun _ => trivial, fun z => absurd g0 z⟩, Or.inr ⟨by simp, Or.inr ⟨by simp, fun q a b d => h3 q a b d⟩⟩⟩
      · have g0 : ¬ (nI p ≤ 0) := by rw [i_le, i_nI (by omega), i_0]; omega
        have ip : vp_in (nI p) 64 := vp_in_nI (by omega) (by omega)
        have hx : s ^^^ p < 64 := by have := b_sx s (by omega) p (by omega) ⟨h2, by omega⟩; omega
        have e1 : nI s ^^^ nI p = nI (s ^^^ p) := b_xor s (by omega) p (by omega)
        have ix : vp_in (nI (s ^^^ p)) 64 := vp_in_nI hx (by omega)
        have e2 : (nI p - 1) &&& nI s = nI ((p - 1) &&& s) := by rw [show (1 : Int32) = nI 1 from rfl, nI_s0 _ _ (by omega), b_and (p - 1) (by omega) s (by omega)]
        have ez : zr h 78 (nI p) = nI (sm L p.testBit J) := by rw [zr_n h 78 (by omega)]; exact e78 p (by omega)
        have gl : nI Q < nI (sm L p.testBit J) ↔ ¬ sm L p.testBit J ≤ Q := by rw [i_lt, i_nI (by omega), i_nI (by have := hsm p; omega)]; omega
        have nxt : ¬ (sm L p.testBit J ≤ Q ∧ h.2.1 80 (s ^^^ p) = 1) → ∃ p', nI ((p - 1) &&& s) = nI p' ∧ p' + (k + 1) ≤ s ∧ p' &&& s = p' ∧ ∀ q, q < 64 → q &&& s = q → p' < q → ¬ (sm L q.testBit J ≤ Q ∧ h.2.1 80 (s ^^^ q) = 1) := by
          intro no
          refine ⟨(p - 1) &&& s, rfl, ?_, ?_, fun q a b d => ?_⟩
          · have := Nat.and_le_left (n := p - 1) (m := s)
            omega
          · rw [Nat.and_assoc, Nat.and_self]
          · by_cases e : q = p
            · rw [e]; exact no
            · by_cases e' : p < q
              · exact h3 q a b e'
              · have := b_sub s (by omega) p (by omega) h2 q a ⟨b, by omega⟩
                omega
        show f_Planner_goesInWith_l2_b_ok (nI s) (nI Q) (nI p) h ∧ _
        unfold f_Planner_goesInWith_l2_b f_Planner_goesInWith_l2_b_ok f_Planner_goesInWith_l2_k30
        rw [if_neg g0, e1, e2, ez, zr_n h 80 (by omega)]
        refine ⟨⟨fun z => absurd z g0, fun _ => ⟨ip, fun _ => trivial, fun _ => ix⟩⟩, ?_⟩
        by_cases q1 : nI Q < nI (sm L p.testBit J)
        · rw [if_pos q1]
          exact Or.inl ⟨rfl, nxt (fun z => (gl.mp q1) z.1)⟩
        · rw [if_neg q1]
          by_cases q2 : zf h 80 (s ^^^ p) = 1
          · rw [if_pos q2]
            exact Or.inr ⟨by simp, Or.inl ⟨rfl, p, by omega, by omega, h2, Decidable.byContradiction (fun z => q1 (gl.mpr z)), q2⟩⟩
          · rw [if_neg q2]
            exact Or.inl ⟨rfl, nxt (fun z => q2 z.2)⟩)
    (by
      rintro t ⟨p, rfl, h1, h2, h3⟩
      have : p = 0 := by omega
      subst this
      have g0 : nI 0 ≤ 0 := by decide
      show f_Planner_goesInWith_l2_b_ok (nI s) (nI Q) (nI 0) h ∧ _
      unfold f_Planner_goesInWith_l2_b f_Planner_goesInWith_l2_b_ok
      rw [if_pos g0]
      exact ⟨⟨fun _ => trivial, fun z => absurd g0 z⟩, by simp, Or.inr ⟨by simp, fun q a b d => h3 q a b d⟩⟩)
  obtain ⟨k1, k2⟩ := key
  obtain ⟨r, er⟩ : ∃ r, r = f_Planner_goesInWith_l2 (nI s) (nI Q) h F (nI s) := ⟨_, rfl⟩
  have k2 : (r.1 = 1 ∧ ∃ p, p < 2 ^ J ∧ 0 < p ∧ p &&& s = p ∧ sm L p.testBit J ≤ Q ∧ h.2.1 80 (s ^^^ p) = 1) ∨ (¬ r.1 = 1 ∧ ∀ q, q < 64 → q &&& s = q → 0 < q → ¬ (sm L q.testBit J ≤ Q ∧ h.2.1 80 (s ^^^ q) = 1)) := by rw [er]; exact k2
  rw [← er]
  rcases k2 with ⟨a, b⟩ | ⟨a, b⟩
  · rw [if_pos a]
    exact ⟨⟨k1, fun _ => trivial, fun _ => trivial⟩, fun z => absurd z (by decide), fun z => absurd b z⟩
  · rw [if_neg a]
    refine ⟨⟨k1, fun _ => trivial, fun _ => trivial⟩, fun _ => ?_, fun _ => rfl⟩
    rintro ⟨p, q1, q2, q3, q4⟩
    exact b p (by omega) q3 q2 q4
