/-! ===== TOKENS: the class ===== -/
def byR (B : Nat → Int32) (n : Nat) : Prop := ∀ i, i < n → -128 ≤ (B i).toInt ∧ (B i).toInt ≤ 127
theorem sg_all : ∀ k, k < 256 → (if (zm_ixf (zm_cb ((nI k - 128) &&& 255)) (zm_sx 1) 0) < 0 then (258 : Int32) else ((nI k - 128) &&& 255)) = nI (if isS (nI k - 128) = true then (nI k - 128).toNatClampNeg else 258) := by decide +kernel
theorem sg_b {b : Int32} (h1 : -128 ≤ b.toInt) (h2 : b.toInt ≤ 127) : (if (zm_ixf (zm_cb (b &&& 255)) (zm_sx 1) 0) < 0 then (258 : Int32) else (b &&& 255)) = nI (if isS b = true then b.toNatClampNeg else 258) := by
  have e128 : (128 : Int32).toInt = 128 := rfl
  obtain ⟨k, hk, ek⟩ := i_ex (a := b + 128) (N := 256) (by rw [i_add (by rw [e128]; omega) (by rw [e128]; omega), e128]; omega) (by rw [i_add (by rw [e128]; omega) (by rw [e128]; omega), e128]; omega)
  have e : b = nI k - 128 := by
    rw [← ek]
    apply i_eq.mpr
    have a := i_add (a := b) (b := 128) (by rw [e128]; omega) (by rw [e128]; omega)
    rw [i_sub (by rw [a, e128]; omega) (by rw [a, e128]; omega), a, e128]
    omega
  rw [e]
  exact sg_all k hk
theorem isL_n {b : Int32} (h : isL b = true) : ¬ b = 32 := by
  intro z; rw [z] at h; exact absurd h (by decide)
/-- the loops that look for the end of a row of like bytes, over values -/
theorem scn_loopv {α : Type} {F : Nat} (eF : F = zF) {b : α → Nat × α} {o : α → Prop} {q : Int32 → Bool} {B : Nat → Int32} {n a : Nat} (ha : a ≤ n) (hn : n ≤ 400) (I : Nat → α → Prop) (h0 : α) (i0 : I a h0)
    (hgo : ∀ e x, a ≤ e → e < n → I e x → q (B e) = true → o x ∧ (b x).1 = 0 ∧ I (e + 1) (b x).2)
    (hst : ∀ e x, a ≤ e → e ≤ n → I e x → (e = n ∨ q (B e) = false) → o x ∧ ¬ (b x).1 = 0 ∧ (b x).2 = x) : zwo b o F h0 ∧ I (scn q B n 400 a) (zwh b F h0).2 := by
  have key := zlpF eF (b := b) (o := o) (n - a) (by omega) (fun k x => I (a + k) x ∧ ∀ i, a ≤ i → i < a + k → q (B i) = true) (fun r => I (scn q B n 400 a) r.2) h0 ⟨i0, fun i h1 h2 => by omega⟩
    (by
      rintro k x hk ⟨h1, h2⟩
      cases hq : q (B (a + k))
      · obtain ⟨r1, r2, r3⟩ := hst (a + k) x (by omega) (by omega) h1 (Or.inr hq)
        refine ⟨r1, Or.inr ⟨r2, ?_⟩⟩
        rw [r3, scn_u hn (by omega) (by omega) h2 (Or.inr hq)]
        exact h1
      · obtain ⟨r1, r2, r3⟩ := hgo (a + k) x (by omega) (by omega) h1 hq
        refine ⟨r1, Or.inl ⟨r2, r3, fun i h3 h4 => ?_⟩⟩
        by_cases e : i = a + k
        · rw [e]; exact hq
        · exact h2 i h3 (by omega))
    (by
      rintro x ⟨h1, h2⟩
      have e : a + (n - a) = n := by omega
      rw [e] at h1 h2
      obtain ⟨r1, r2, r3⟩ := hst n x ha (Nat.le_refl _) h1 (Or.inl rfl)
      refine ⟨r1, r2, ?_⟩
      rw [r3, scn_u hn ha (Nat.le_refl _) h2 (Or.inl rfl)]
      exact h1)
  exact key
theorem iw_N {s e w : Nat} {x : zm_H} (hw : w < 16) (he : e ≤ 400) (hs : s ≤ e) (hL : ∀ i, s ≤ i → i < e → isL (x.2.1 11 i) = true) : f_Text_isWord_ok (nI w) (nI s) (nI e) x ∧ (f_Text_isWord (nI w) (nI s) (nI e) x = 0 ↔ ¬ mw (x.2.1 11) s e w) := by
  obtain ⟨B, eB⟩ : ∃ B, B = x.2.1 11 := ⟨_, rfl⟩
  rw [← eB] at hL ⊢
  have d6 := wd6 w hw
  unfold f_Text_isWord_ok f_Text_isWord
  rw [pk_sub hs]
  have g6 : nI (e - s) ≤ 6 ↔ e - s ≤ 6 := by rw [show (6 : Int32) = nI 6 from rfl, nx_le (by omega) (by omega)]
  by_cases c : nI (e - s) ≤ 6
  · have c' := g6.mp c
    rw [if_pos c]
    obtain ⟨F, eF, -⟩ := zF_ex
    rw [← eF]
    obtain ⟨G, eG⟩ : ∃ G : Nat → Prop, G = fun i => wch w i = if e ≤ s + i then (32 : Int32) else B (s + i) := ⟨_, rfl⟩
    have key := zlpF eF (b := fun t => f_Text_isWord_l13_b (nI w) (nI s) (nI e) t x) (o := fun t => f_Text_isWord_l13_b_ok (nI w) (nI s) (nI e) t x) 6 (by omega)
      (fun k t => t = nI k ∧ ∀ i, i < k → G i) (fun r => (r.1 = 1 ∧ ¬ ∀ i, i < 6 → G i) ∨ (¬ r.1 = 1 ∧ ∀ i, i < 6 → G i)) 0 ⟨rfl, fun i hi => by omega⟩
      (by
        rintro k t hk ⟨rfl, q⟩
        have g0 : ¬ ((6 : Int32) ≤ nI k) := by rw [show (6 : Int32) = nI 6 from rfl, nx_le (by omega) (by omega)]; omega
        have ix : nI w * 6 + nI k = nI (6 * w + k) := by rw [show (6 : Int32) = nI 6 from rfl, pk_mul, nI_add, Nat.mul_comm]
        have g1 : nI e ≤ nI (s + k) ↔ e ≤ s + k := nx_le (by omega) (by omega)
        have xk : (if nI e ≤ nI (s + k) then (32 : Int32) else zr x 11 (nI (s + k))) = if e ≤ s + k then (32 : Int32) else B (s + k) := by
          by_cases z : e ≤ s + k
          · rw [if_pos (g1.mpr z), if_pos z]
          · rw [if_neg (fun y => z (g1.mp y)), if_neg z, zr_n x 11 (by omega), eB]
        show f_Text_isWord_l13_b_ok (nI w) (nI s) (nI e) (nI k) x ∧ _
        unfold f_Text_isWord_l13_b f_Text_isWord_l13_b_ok
        rw [if_neg g0, nI_add, xk, ix, nI_c (by omega), ← nI_succ]
        have gk : G k ↔ (zm_sx 0).getD (6 * w + k) 0 = if e ≤ s + k then (32 : Int32) else B (s + k) := by rw [eG]; exact Iff.rfl
        refine ⟨⟨fun z => absurd z g0, fun _ => ⟨⟨fun _ => trivial, fun z => ?_⟩, ?_, by omega⟩⟩, ?_⟩
        · exact vp_in_nI (by have : ¬ e ≤ s + k := fun y => z (g1.mpr y); omega) (by omega)
        · rw [i_le, i_nI (by omega), i_0]; omega
        · by_cases z : (zm_sx 0).getD (6 * w + k) 0 = if e ≤ s + k then (32 : Int32) else B (s + k)
          · rw [if_pos z]
            refine Or.inl ⟨rfl, rfl, fun i hi => ?_⟩
            by_cases y : i = k
            · rw [y]; exact gk.mpr z
            · exact q i (by omega)
          · rw [if_neg z]
            exact Or.inr ⟨by simp, Or.inl ⟨rfl, fun y => z (gk.mp (y k hk))⟩⟩)
      (by
        rintro t ⟨rfl, q⟩
        have g0 : (6 : Int32) ≤ nI 6 := by decide
        show f_Text_isWord_l13_b_ok (nI w) (nI s) (nI e) (nI 6) x ∧ _
        unfold f_Text_isWord_l13_b f_Text_isWord_l13_b_ok
        rw [if_pos g0]
        exact ⟨⟨fun _ => trivial, fun z => absurd g0 z⟩, by simp, Or.inr ⟨by simp, q⟩⟩)
    obtain ⟨k1, k2⟩ := key
    obtain ⟨r, er⟩ : ∃ r, r = f_Text_isWord_l13 (nI w) (nI s) (nI e) x F 0 := ⟨_, rfl⟩
    have k2 : (r.1 = 1 ∧ ¬ ∀ i, i < 6 → G i) ∨ (¬ r.1 = 1 ∧ ∀ i, i < 6 → G i) := by rw [er]; exact k2
    rw [← er]
    have all : (∀ i, i < 6 → G i) ↔ mw B s e w := by
      rw [eG]
      dsimp only
      constructor
      · intro g
        have l1 : e - s = wln w := by
          rcases (show e - s = wln w ∨ e - s < wln w ∨ wln w < e - s by omega) with z | z | z
          · exact z
          · have := g (e - s) (by omega)
            rw [if_pos (by omega), wd1 w hw _ (by omega)] at this
            omega
          · have := g (wln w) (by omega)
            rw [if_neg (by omega), (wd1 w hw _ (by omega)).mpr (Nat.le_refl _)] at this
            exact absurd this.symm (isL_n (hL _ (by omega) (by omega)))
        refine ⟨l1, fun j hj => ?_⟩
        have := g j (by omega)
        rw [if_neg (by omega)] at this
        exact this.symm
      · rintro ⟨l1, l2⟩ i hi
        by_cases z : e ≤ s + i
        · rw [if_pos z]; exact (wd1 w hw i hi).mpr (by omega)
        · rw [if_neg z]; exact (l2 i (by omega)).symm
    rw [← all]
    unfold f_Text_isWord_a13 f_Text_isWord_a13_ok f_Text_isWord_k69 f_Text_isWord_k61
    refine ⟨⟨fun _ => ⟨k1, fun _ => trivial, fun _ => trivial⟩, fun z => absurd c z⟩, ?_⟩
    rcases k2 with ⟨z1, z2⟩ | ⟨z1, z2⟩
    · rw [if_pos z1]; exact ⟨fun _ => z2, fun _ => rfl⟩
    · rw [if_neg z1]; exact ⟨fun z => absurd z (by decide), fun z => absurd z2 z⟩
  · rw [if_neg c]
    refine ⟨⟨fun z => absurd z c, fun _ => trivial⟩, fun _ z => ?_, fun _ => rfl⟩
    have := z.1
    exact c (g6.mpr (by omega))
theorem sw_N {n s m : Nat} {h : zm_H} (hn : n ≤ 400) (hs : s ≤ n) (hm : m ≤ 400) (e1 : zf h 10 1 = nI n) (e6 : zf h 10 6 = nI m) : f_Text_readWord_ok (nI s) h ∧ (f_Text_readWord (nI s) h).1 = nI (scn isL (h.2.1 11) n 400 s) ∧ zWr [162] [] h (f_Text_readWord (nI s) h).2 ∧ (f_Text_readWord (nI s) h).2.2.1 162 m = nI (300 + wI (h.2.1 11) s (scn isL (h.2.1 11) n 400 s)) ∧ ∀ k, ¬ k = m → (f_Text_readWord (nI s) h).2.2.1 162 k = h.2.1 162 k := by
  obtain ⟨B, eB⟩ : ∃ B, B = h.2.1 11 := ⟨_, rfl⟩
  rw [← eB]
  unfold f_Text_readWord_ok f_Text_readWord
  obtain ⟨F, eF, -⟩ := zF_ex
  rw [← eF]
  obtain ⟨k1, k2⟩ := scn_loopv eF (b := fun t => f_Text_readWord_l2_b (nI s) t h) (o := fun t => f_Text_readWord_l2_b_ok (nI s) t h) (q := isL) (B := B) hs hn (fun e t => t = nI e) (nI s) rfl
    (by
      rintro e x he1 he2 rfl hq
      have g0 : ¬ (nI n ≤ nI e) := by rw [nx_le (by omega) (by omega)]; omega
      have xB : zr h 11 (nI e) = B e := by rw [zr_n h 11 (by omega), zf, eB]
      have hq' := hq
      unfold isL at hq'
      rw [decide_eq_true_eq] at hq'
      unfold f_Text_readWord_l2_b f_Text_readWord_l2_b_ok
      rw [e1, if_neg g0, xB, if_pos hq', ← nI_succ]
      exact ⟨⟨fun z => absurd z g0, fun _ => vp_in_nI (by omega) (by omega)⟩, rfl, rfl⟩)
    (by
      rintro e x he1 he2 rfl hq
      unfold f_Text_readWord_l2_b f_Text_readWord_l2_b_ok
      rw [e1]
      by_cases c : nI n ≤ nI e
      · rw [if_pos c]; exact ⟨⟨fun _ => trivial, fun z => absurd c z⟩, by simp, rfl⟩
      · have c' : e < n := by rw [nx_le (by omega) (by omega)] at c; omega
        have xB : zr h 11 (nI e) = B e := by rw [zr_n h 11 (by omega), zf, eB]
        have hq' : isL (B e) = false := by rcases hq with z | z; omega; exact z
        unfold isL at hq'
        rw [decide_eq_false_iff_not] at hq'
        rw [if_neg c, xB, if_neg hq']
        exact ⟨⟨fun z => absurd z c, fun _ => vp_in_nI (by omega) (by omega)⟩, by simp, rfl⟩)
  obtain ⟨r, er⟩ : ∃ r, r = f_Text_readWord_l2 (nI s) h F (nI s) := ⟨_, rfl⟩
  have k2 : r.2 = nI (scn isL B n 400 s) := by rw [er]; exact k2
  rw [← er]
  obtain ⟨t1, t2, t3, -⟩ := scn_p (q := isL) (B := B) 400 s hs (by omega)
  obtain ⟨e, ee⟩ : ∃ e, e = scn isL B n 400 s := ⟨_, rfl⟩
  rw [← ee] at k2 t1 t2 t3 ⊢
  unfold f_Text_readWord_a2 f_Text_readWord_a2_ok f_Text_readWord_k28 f_Text_readWord_k28_ok f_Text_readWord_a42 f_Text_readWord_k78
  rw [k2, ← eF, e6, zs_n _ 162 _ (by omega)]
  obtain ⟨y0, ey0⟩ : ∃ y0, y0 = zm_si h 162 m 316 := ⟨_, rfl⟩
  have wy : zWr [162] [] h y0 := by rw [ey0]; exact zWr_si (by decide) (zWr.refl _ _)
  have y4 : y0.2.1 162 m = 316 := by rw [ey0]; exact zm_in _ _ _ _
  have y5 : ∀ k, ¬ k = m → y0.2.1 162 k = h.2.1 162 k := fun k hk => by rw [ey0, zf_si, if_pos rfl, if_neg hk]
  rw [← ey0]
  have key := zlp_k eF (b := fun t => f_Text_readWord_l42_b (nI s) (nI e) t.1 t.2) (o := fun t => f_Text_readWord_l42_b_ok (nI s) (nI e) t.1 t.2) 16 (by omega) 0
    (fun k x => zWr [162] [] h x ∧ ((∃ w, w < k ∧ mw B s e w ∧ x.2.1 162 m = nI (300 + w)) ∨ ((∀ w, w < k → ¬ mw B s e w) ∧ x.2.1 162 m = nI (300 + 16))) ∧ ∀ k, ¬ k = m → x.2.1 162 k = h.2.1 162 k) y0
    ⟨wy, Or.inr ⟨fun w hw => by omega, y4⟩, y5⟩
    (by
      rintro k x hk ⟨r1, r3, r4⟩
      rw [Nat.zero_add]
      have g0 : ¬ ((16 : Int32) ≤ nI k) := by rw [show (16 : Int32) = nI 16 from rfl, nx_le (by omega) (by omega)]; omega
      have xB : x.2.1 11 = B := by rw [r1.arr 11 (by decide) (by decide), eB]
      have x6 : zf x 10 6 = nI m := (r1.fld 10 6 (by decide) (by decide)).trans e6
      obtain ⟨o1, o2⟩ := iw_N (x := x) (w := k) hk (show e ≤ 400 by omega) t1 (by rw [xB]; exact t3)
      rw [xB] at o2
      have im : vp_in (nI m) 401 := vp_in_nI (by omega) (by omega)
      dsimp only
      unfold f_Text_readWord_l42_b f_Text_readWord_l42_b_ok
      rw [if_neg g0, ← nI_succ, x6, zs_n _ 162 _ (by omega)]
      by_cases c : f_Text_isWord (nI k) (nI s) (nI e) x = 0
      · rw [if_pos c]
        have nm := o2.mp c
        refine ⟨⟨fun z => absurd z g0, fun _ => ⟨o1, fun _ => trivial, fun z => absurd c z⟩⟩, _, rfl, r1, ?_, r4⟩
        rcases r3 with ⟨w, a1, a2, a3⟩ | ⟨a1, a2⟩
        · exact Or.inl ⟨w, by omega, a2, a3⟩
        · refine Or.inr ⟨fun w hw => ?_, a2⟩
          by_cases z : w = k
          · rw [z]; exact nm
          · exact a1 w (by omega)
      · rw [if_neg c]
        have ym : mw B s e k := Classical.byContradiction (fun z => c (o2.mpr z))
        refine ⟨⟨fun z => absurd z g0, fun _ => ⟨o1, fun z => absurd z c, fun _ => im⟩⟩, _, rfl, zWr_si (by decide) r1, Or.inl ⟨k, by omega, ym, ?_⟩, fun j hj => ?_⟩
        · rw [zm_in, show (300 : Int32) = nI 300 from rfl, nI_add]
        · rw [zf_si, if_pos rfl, if_neg hj]; exact r4 j hj)
    (by
      rintro x ⟨r1, r3, r4⟩
      rw [Nat.zero_add]
      have g0 : (16 : Int32) ≤ nI 16 := by decide
      dsimp only
      unfold f_Text_readWord_l42_b f_Text_readWord_l42_b_ok
      rw [if_pos g0]
      exact ⟨⟨fun _ => trivial, fun z => absurd g0 z⟩, rfl⟩)
  obtain ⟨m1, x, m2, m3, m4, m5⟩ := key
  have m2 : f_Text_readWord_l42 (nI s) (nI e) F (0, y0) = (1, nI (0 + 16), x) := m2
  rw [m2]
  refine ⟨⟨k1, vp_in_nI (by omega) (by omega), m1, trivial⟩, rfl, m3, ?_, m5⟩
  rcases m4 with ⟨w, a1, a2, a3⟩ | ⟨a1, a2⟩
  · rw [isWI_u (wI_s B s e) (Or.inl ⟨a1, a2⟩)]; exact a3
  · rw [isWI_u (wI_s B s e) (Or.inr ⟨rfl, a1⟩)]; exact a2
