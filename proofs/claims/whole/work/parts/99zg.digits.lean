/-! ===== a LAYING: digits, bits; which rafts ===== -/
theorem nI_dv {a b : Nat} (ha : a < 2147483648) (hb : 0 < b) (hb2 : b < 2147483648) : nI a / nI b = nI (a / b) := by
  refine i_mk ?_
  rw [i_div (by rw [i_nI ha]; omega) (by rw [i_nI hb2]; omega), i_nI ha, i_nI hb2]
  exact (Int.natCast_ediv a b).symm
theorem nI_md {a b : Nat} (ha : a < 2147483648) (hb : 0 < b) (hb2 : b < 2147483648) : zm_rm (nI a) (nI b) = nI (a % b) := by
  refine i_mk ?_
  rw [i_rm (by rw [i_nI ha]; omega) (by rw [i_nI hb2]; omega), i_nI ha, i_nI hb2]
  exact (Int.natCast_emod a b).symm
theorem nI_or {a b : Nat} (ha : a < 2147483648) (hb : b < 2147483648) : nI a ||| nI b = nI (a ||| b) := by
  apply Int32.toBitVec_inj.mp
  apply BitVec.eq_of_toNat_eq
  have h1 : (a ||| b) < 2 ^ 31 := Nat.or_lt_two_pow (by omega) (by omega)
  rw [Int32.toBitVec_or, BitVec.toNat_or, pk_tn (by omega), pk_tn (by omega), pk_tn (by omega)]
theorem nI_z0 {a : Nat} (ha : a < 2147483648) : nI a = 0 ↔ a = 0 := by
  rw [i_eq, i_nI ha, i_0]; omega
theorem b_s1 {s r : Nat} (hs : s < 1024) (hr : r < 10) : (((nI s >>> (nI r &&& 31)) &&& 1) = 0 ↔ s.testBit r = false) := by
  have h1 : s / 2 ^ r ≤ s := Nat.div_le_self _ _
  rw [shr_n (by omega) (by omega), show (1 : Int32) = nI 1 from rfl, nI_and (by omega) (by omega), Nat.and_one_is_mod, nI_z0 (by omega), Nat.testBit_eq_decide_div_mod_eq, decide_eq_false_iff_not]
  omega
theorem b_s2a : ∀ j, j < 10 → (1 : Int32) <<< (nI j &&& 31) = nI (2 ^ j) := by decide +kernel
theorem p2_10 {r : Nat} (hr : r < 10) : 2 ^ r < 1024 := Nat.pow_lt_pow_right (a := 2) (by omega) hr
theorem b_s2 {s r : Nat} (hs : s < 1024) (hr : r < 10) : nI s ||| ((1 : Int32) <<< (nI r &&& 31)) = nI (s ||| 2 ^ r) ∧ (s ||| 2 ^ r) < 1024 := by
  have h2 := p2_10 hr
  exact ⟨by rw [b_s2a r hr, nI_or (by omega) (by omega)], Nat.or_lt_two_pow (n := 10) hs h2⟩
theorem b_s3 (s r k : Nat) : (s ||| 2 ^ r).testBit k = true ↔ s.testBit k = true ∨ r = k := by
  rw [Nat.testBit_or, Nat.testBit_two_pow, Bool.or_eq_true, decide_eq_true_eq]
def qv (B D j : Nat) : Nat := D / B ^ j
def qd (B D j : Nat) : Nat := qv B D j % B
theorem qv_0 (B D : Nat) : qv B D 0 = D := by unfold qv; rw [Nat.pow_zero, Nat.div_one]
theorem qv_le (B D j : Nat) : qv B D j ≤ D := Nat.div_le_self _ _
theorem qd_n {B D : Nat} (hB : 0 < B) (hB2 : B ≤ 10) (hD : D < 2147483648) (j : Nat) : zm_rm (nI (qv B D j)) (nI B) = nI (qd B D j) ∧ nI (qv B D j) / nI B = nI (qv B D (j + 1)) ∧ qd B D j < B ∧ qv B D j < 2147483648 := by
  have h1 := qv_le B D j
  refine ⟨nI_md (by omega) hB (by omega), ?_, Nat.mod_lt _ hB, by omega⟩
  rw [nI_dv (by omega) hB (by omega)]
  unfold qv
  rw [Nat.div_div_eq_div_mul, Nat.pow_succ]
/-- a counter that goes down -/
def dnI (v : Int32) (m k : Nat) : Prop := v.toInt = (m : Int) - 1 - k
theorem dn_c1 {v : Int32} {m k : Nat} (hk : k < m) (hm : m ≤ 3) (e : dnI v m k) : v = nI (m - 1 - k) ∧ ¬ (v < 0) ∧ dnI (v + (-1)) m (k + 1) ∧ vp_in v 3 := by
  unfold dnI at e ⊢
  have a : v = nI (m - 1 - k) := i_mk (by omega)
  refine ⟨a, by rw [i_lt, i_0]; omega, ?_, by rw [a]; exact vp_in_nI (by omega) (by omega)⟩
  rw [i_add (by rw [i_m1]; omega) (by rw [i_m1]; omega), i_m1]
  omega
theorem dn_c0 {v : Int32} {m : Nat} (e : dnI v m m) : v < 0 := by unfold dnI at e; rw [i_lt, i_0]; omega
def crG (nr : Nat) (S : Nat → Int32) (D j : Nat) : Prop := ∀ k, k < j → qd 10 D k < nr ∧ S (qd 10 D k) = 0 ∧ ∀ i, i < k → ¬ qd 10 D i = qd 10 D k
theorem crG_s {nr : Nat} {S : Nat → Int32} {D j : Nat} : crG nr S D (j + 1) ↔ crG nr S D j ∧ qd 10 D j < nr ∧ S (qd 10 D j) = 0 ∧ ∀ i, i < j → ¬ qd 10 D i = qd 10 D j := by
  constructor
  · intro h; exact ⟨fun k hk => h k (by omega), h j (by omega)⟩
  · rintro ⟨h1, h2⟩ k hk
    by_cases e : k = j
    · rw [e]; exact h2
    · exact h1 k (by omega)
theorem crG_m {nr : Nat} {S : Nat → Int32} {D j m : Nat} (h : j ≤ m) (g : crG nr S D m) : crG nr S D j := fun k hk => g k (by omega)
def crP (nr : Nat) (S : Nat → Int32) (p : Int32) (m : Nat) : Prop := 0 ≤ p.toInt ∧ crG nr S p.toNatClampNeg m ∧ qv 10 p.toNatClampNeg m = 0
theorem i_min {m : Nat} (hm : m ≤ 3) : (if (3 : Int32) < nI m then (3 : Int32) else nI m) = nI m := by
  rw [if_neg]
  rw [show (3 : Int32) = nI 3 from rfl, i_lt, i_nI (by omega), i_nI (by omega)]; omega
theorem i_pr {m : Nat} (h1 : 1 ≤ m) (hm : m ≤ 3) : dnI (nI m - 1) m 0 := by
  unfold dnI
  rw [i_sub (by rw [i_nI (by omega), i_1]; omega) (by rw [i_nI (by omega), i_1]; omega), i_nI (by omega), i_1]; omega
theorem cr_N {nr m : Nat} (hnr : nr ≤ 10) (h1 : 1 ≤ m) (hm : m ≤ 3) {h : zm_H} (e23 : zf h 23 0 = nI nr) (p1 : Int32) : f_Ground_chooseRafts_ok p1 (nI m) h ∧ zf (f_Ground_chooseRafts p1 (nI m) h).2 82 9 = nI m ∧ (((f_Ground_chooseRafts p1 (nI m) h).1 = 0 ∧ ¬ crP nr (h.2.1 38) p1 m) ∨ (¬ (f_Ground_chooseRafts p1 (nI m) h).1 = 0 ∧ crP nr (h.2.1 38) p1 m ∧ ∀ i, i < m → (f_Ground_chooseRafts p1 (nI m) h).2.2.1 87 i = nI (qd 10 p1.toNatClampNeg (m - 1 - i)))) := by
  unfold f_Ground_chooseRafts_ok f_Ground_chooseRafts
  rw [i_min hm]
  obtain ⟨h0, eh0⟩ : ∃ h0, h0 = zp h 82 9 (nI m) := ⟨_, rfl⟩
  have w0 : zWr [] [(82, 9)] h h0 := by rw [eh0]; exact zWr_p (by decide) (zWr.refl _ _)
  have z9 : zf h0 82 9 = nI m := by rw [eh0]; exact zm_in _ _ _ _
  rw [← eh0]
  obtain ⟨F, eF, -⟩ := zF_ex
  rw [← eF]
  have key : f_Ground_chooseRafts_l22_ok F (p1, 0, nI m - 1, h0) ∧ (((f_Ground_chooseRafts_l22 F (p1, 0, nI m - 1, h0)).1 = 1 ∧ ¬ crP nr (h.2.1 38) p1 m ∧ zf (f_Ground_chooseRafts_l22 F (p1, 0, nI m - 1, h0)).2.2.2.2 82 9 = nI m) ∨ (¬ (f_Ground_chooseRafts_l22 F (p1, 0, nI m - 1, h0)).1 = 1 ∧ 0 ≤ p1.toInt ∧ crG nr (h.2.1 38) p1.toNatClampNeg m ∧ (f_Ground_chooseRafts_l22 F (p1, 0, nI m - 1, h0)).2.1 = nI (qv 10 p1.toNatClampNeg m) ∧ zf (f_Ground_chooseRafts_l22 F (p1, 0, nI m - 1, h0)).2.2.2.2 82 9 = nI m ∧ ∀ i, i < m → (f_Ground_chooseRafts_l22 F (p1, 0, nI m - 1, h0)).2.2.2.2.2.1 87 i = nI (qd 10 p1.toNatClampNeg (m - 1 - i)))) := by
    by_cases c0 : p1 < 0
    · have key := zlpF eF (b := fun t => f_Ground_chooseRafts_l22_b t.1 t.2.1 t.2.2.1 t.2.2.2) (o := fun t => f_Ground_chooseRafts_l22_b_ok t.1 t.2.1 t.2.2.1 t.2.2.2) 0 (by omega)
        (fun _ s => s = (p1, 0, nI m - 1, h0)) (fun r => r.1 = 1 ∧ zf r.2.2.2.2 82 9 = nI m) (p1, 0, nI m - 1, h0) rfl
        (by intro k s hk; omega)
        (by
          rintro s rfl
          obtain ⟨-, d2, -, -⟩ := dn_c1 (show 0 < m by omega) hm (i_pr h1 hm)
          show f_Ground_chooseRafts_l22_b_ok p1 0 (nI m - 1) h0 ∧ _
          unfold f_Ground_chooseRafts_l22_b f_Ground_chooseRafts_l22_b_ok
          dsimp only
          rw [if_neg d2, if_pos c0]
          exact ⟨⟨fun _ => trivial, fun _ => ⟨fun _ => trivial, fun z => absurd c0 z⟩⟩, by simp, rfl, z9⟩)
      refine ⟨key.1, Or.inl ⟨key.2.1, fun z => ?_, key.2.2⟩⟩
      rw [i_lt, i_0] at c0
      have := z.1
      omega
    · have c0' : 0 ≤ p1.toInt := by rw [i_lt, i_0] at c0; omega
      obtain ⟨D, eD⟩ : ∃ D, D = p1.toNatClampNeg := ⟨_, rfl⟩
      have ep : p1 = nI D := by rw [eD]; exact i_of c0'
      have hD : D < 2147483648 := by have := i_cl c0'; have := i_hi p1; omega
      rw [← eD]
      have key := zlpF eF (b := fun t => f_Ground_chooseRafts_l22_b t.1 t.2.1 t.2.2.1 t.2.2.2) (o := fun t => f_Ground_chooseRafts_l22_b_ok t.1 t.2.1 t.2.2.1 t.2.2.2) m (by omega)
        (fun k s => s.1 = nI (qv 10 D k) ∧ (∃ M, s.2.1 = nI M ∧ M < 1024 ∧ ∀ r, M.testBit r = true ↔ ∃ i, i < k ∧ qd 10 D i = r) ∧ dnI s.2.2.1 m k ∧ zWr [87] [] h0 s.2.2.2 ∧ (∀ i, i < k → s.2.2.2.2.1 87 (m - 1 - i) = nI (qd 10 D i)) ∧ crG nr (h.2.1 38) D k)
        (fun r => (r.1 = 1 ∧ ¬ crG nr (h.2.1 38) D m ∧ zf r.2.2.2.2 82 9 = nI m) ∨ (¬ r.1 = 1 ∧ crG nr (h.2.1 38) D m ∧ r.2.1 = nI (qv 10 D m) ∧ zf r.2.2.2.2 82 9 = nI m ∧ ∀ i, i < m → r.2.2.2.2.2.1 87 (m - 1 - i) = nI (qd 10 D i))) (p1, 0, nI m - 1, h0)
        ⟨by rw [ep, qv_0], ⟨0, rfl, by omega, fun r => by rw [Nat.zero_testBit]; exact ⟨fun z => absurd z (by decide), fun z => by obtain ⟨i, hi, -⟩ := z; omega⟩⟩, i_pr h1 hm, zWr.refl _ _, fun i hi => by omega, fun k hk => by omega⟩
        (by
          rintro k ⟨v3, v4, v5, x⟩ hk ⟨a1, ⟨M, a2, a3, a4⟩, a5, a6, a7, a8⟩
          dsimp only at a1 a2 a5 a6 a7
          subst a1 a2
          obtain ⟨d1, d2, d3, d4⟩ := dn_c1 hk hm a5
          obtain ⟨q1, q2, q3, q4⟩ := qd_n (B := 10) (by omega) (by omega) hD k
          rw [show nI 10 = (10 : Int32) from rfl] at q1 q2
          have x9 : zf x 82 9 = nI m := (a6.fld 82 9 (by decide) (by decide)).trans z9
          have x23 : zf x 23 0 = nI nr := ((a6.fld 23 0 (by decide) (by decide)).trans (w0.fld 23 0 (by decide) (by decide))).trans e23
          have x38 : zr x 38 (nI (qd 10 D k)) = h.2.1 38 (qd 10 D k) := by rw [zr_n x 38 (by omega), zf, a6.arr 38 (by decide) (by decide), w0.arr 38 (by decide) (by decide)]
          have g0 : ¬ (nI (qv 10 D k) < 0) := by rw [i_lt, i_nI q4, i_0]; omega
          have stp := crG_s (nr := nr) (S := h.2.1 38) (D := D) (j := k)
          have no : ¬ crG nr (h.2.1 38) D (k + 1) → ¬ crG nr (h.2.1 38) D m := fun z y => z (crG_m (Nat.succ_le_of_lt hk) y)
          show f_Ground_chooseRafts_l22_b_ok (nI (qv 10 D k)) (nI M) v5 x ∧ _
          unfold f_Ground_chooseRafts_l22_b f_Ground_chooseRafts_l22_b_ok
          dsimp only
          rw [if_neg d2, if_neg g0, q1, q2, x23, x38]
          by_cases c1 : nI nr ≤ nI (qd 10 D k)
          · rw [if_pos c1]
            rw [nx_le (by omega) (by omega)] at c1
            have c1' : nI nr ≤ nI (qd 10 D k) := by rw [nx_le (by omega) (by omega)]; exact c1
            exact ⟨⟨fun _ => trivial, fun _ => ⟨fun _ => trivial, fun _ => ⟨fun _ => trivial, fun z => absurd c1' z⟩⟩⟩, Or.inr ⟨by simp, Or.inl ⟨rfl, no (fun z => by have := (stp.mp z).2.1; omega), x9⟩⟩⟩
          · rw [if_neg c1]
            have c1' := c1
            rw [nx_le (by omega) (by omega)] at c1'
            have iq : vp_in (nI (qd 10 D k)) 10 := vp_in_nI (by omega) (by omega)
            by_cases c2 : h.2.1 38 (qd 10 D k) = 0
            · rw [if_pos c2]
              have bt := b_s1 a3 q3
              by_cases c3 : ((nI M >>> (nI (qd 10 D k) &&& 31)) &&& 1) = 0
              · rw [if_pos c3]
                rw [bt] at c3
                obtain ⟨s1, s2⟩ := b_s2 a3 q3
                have nn : ∀ i, i < k → ¬ qd 10 D i = qd 10 D k := fun i hi z => by
                  have := (a4 (qd 10 D k)).mpr ⟨i, hi, z⟩
                  rw [c3] at this; cases this
                rw [s1, d1, zs_n _ 87 _ (by omega)]
                rw [d1] at d2 d3 d4
                refine ⟨⟨fun _ => trivial, fun _ => ⟨fun z => absurd z g0, fun _ => ⟨fun z => absurd z c1, fun _ => ⟨iq, fun _ => ⟨fun _ => d4, fun _ => trivial⟩, fun z => absurd c2 z⟩⟩⟩⟩, Or.inl ⟨rfl, rfl, ⟨_, rfl, s2, fun r => ?_⟩, d3, zWr_si (by decide) a6, fun i hi => ?_, stp.mpr ⟨a8, by omega, c2, nn⟩⟩⟩
                · rw [b_s3, a4]
                  constructor
                  · rintro (⟨i, hi, z⟩ | z)
                    · exact ⟨i, by omega, z⟩
                    · exact ⟨k, by omega, z⟩
                  · rintro ⟨i, hi, z⟩
                    by_cases e : i = k
                    · rw [e] at z; exact Or.inr z
                    · exact Or.inl ⟨i, by omega, z⟩
                · dsimp only
                  rw [zf_si, if_pos rfl]
                  by_cases e : i = k
                  · rw [e, if_pos rfl]
                  · rw [if_neg (by omega)]; exact a7 i (by omega)
              · rw [if_neg c3]
                have c3' := c3
                rw [bt] at c3'
                have c4 : M.testBit (qd 10 D k) = true := by
                  cases hb : M.testBit (qd 10 D k)
                  · exact absurd hb c3'
                  · rfl
                obtain ⟨i, hi, z⟩ := (a4 _).mp c4
                exact ⟨⟨fun _ => trivial, fun _ => ⟨fun z => absurd z g0, fun _ => ⟨fun z => absurd z c1, fun _ => ⟨iq, fun _ => ⟨fun y => absurd y c3, fun _ => trivial⟩, fun y => absurd c2 y⟩⟩⟩⟩, Or.inr ⟨by simp, Or.inl ⟨rfl, no (fun y => (stp.mp y).2.2.2 i hi z), x9⟩⟩⟩
            · rw [if_neg c2]
              exact ⟨⟨fun _ => trivial, fun _ => ⟨fun z => absurd z g0, fun _ => ⟨fun z => absurd z c1, fun _ => ⟨iq, fun y => absurd y c2, fun _ => trivial⟩⟩⟩⟩, Or.inr ⟨by simp, Or.inl ⟨rfl, no (fun y => c2 (stp.mp y).2.2.1), x9⟩⟩⟩)
        (by
          rintro ⟨v3, v4, v5, x⟩ ⟨a1, -, a5, a6, a7, a8⟩
          dsimp only at a1 a5 a6 a7
          subst a1
          have d0 := dn_c0 a5
          show f_Ground_chooseRafts_l22_b_ok (nI (qv 10 D m)) v4 v5 x ∧ _
          unfold f_Ground_chooseRafts_l22_b f_Ground_chooseRafts_l22_b_ok
          dsimp only
          rw [if_pos d0]
          exact ⟨⟨fun _ => trivial, fun z => absurd d0 z⟩, by simp, Or.inr ⟨by simp, a8, rfl, (a6.fld 82 9 (by decide) (by decide)).trans z9, a7⟩⟩)
      refine ⟨key.1, ?_⟩
      rcases key.2 with ⟨z1, z2, z3⟩ | ⟨z1, z2, z3, z4, z5⟩
      · exact Or.inl ⟨z1, fun y => z2 (by rw [eD]; exact y.2.1), z3⟩
      · refine Or.inr ⟨z1, c0', z2, z3, z4, fun i hi => ?_⟩
        have := z5 (m - 1 - i) (by omega)
        rw [show m - 1 - (m - 1 - i) = i by omega] at this
        exact this
  obtain ⟨k1, k2⟩ := key
  obtain ⟨r, er⟩ : ∃ r, r = f_Ground_chooseRafts_l22 F (p1, 0, nI m - 1, h0) := ⟨_, rfl⟩
  rw [← er] at k2 ⊢
  unfold f_Ground_chooseRafts_a22 f_Ground_chooseRafts_a22_ok f_Ground_chooseRafts_k75 f_Ground_chooseRafts_k106
  refine ⟨⟨k1, fun _ => trivial, fun _ => trivial⟩, ?_⟩
  rcases k2 with ⟨z1, z2, z3⟩ | ⟨z1, z2, z3, z4, z5, z6⟩
  · rw [if_pos z1]
    exact ⟨z3, Or.inl ⟨rfl, z2⟩⟩
  · rw [if_neg z1]
    refine ⟨z5, ?_⟩
    dsimp only
    rw [z4]
    have hq : qv 10 p1.toNatClampNeg m < 2147483648 := by
      have h1 := qv_le 10 p1.toNatClampNeg m
      have := i_cl z2; have := i_hi p1; omega
    by_cases c : nI (qv 10 p1.toNatClampNeg m) = 0
    · rw [if_pos c]
      exact Or.inr ⟨by decide, ⟨z2, z3, (nI_z0 hq).mp c⟩, z6⟩
    · rw [if_neg c]
      exact Or.inl ⟨rfl, fun y => c ((nI_z0 hq).mpr y.2.2)⟩
