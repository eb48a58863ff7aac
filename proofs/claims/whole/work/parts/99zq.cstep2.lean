/-! ===== TOKENS: the class reads them all ===== -/
theorem sn_N {n s m : Nat} {h : zm_H} (hn : n ≤ 400) (hs : s ≤ n) (hm : m ≤ 400) (e1 : zf h 10 1 = nI n) (e6 : zf h 10 6 = nI m) : f_Text_readNumber_ok (nI s) h ∧ (f_Text_readNumber (nI s) h).1 = nI (scn isD (h.2.1 11) n 400 s) ∧ (f_Text_readNumber (nI s) h).2 = zm_si (zm_si h 162 m 256) 164 m (nI (nvC (h.2.1 11) s (scn isD (h.2.1 11) n 400 s - s))) := by
  obtain ⟨B, eB⟩ : ∃ B, B = h.2.1 11 := ⟨_, rfl⟩
  rw [← eB]
  unfold f_Text_readNumber_ok f_Text_readNumber
  obtain ⟨F, eF, -⟩ := zF_ex
  rw [← eF]
  have le : ∀ k, nvC B s k ≤ 100000 := by
    intro k
    induction k with
    | zero => show (0 : Nat) ≤ 100000; omega
    | succ k ih => rw [nvC]; split <;> omega
  obtain ⟨k1, k2⟩ := scn_loopv eF (b := fun t => f_Text_readNumber_l4_b t.1 t.2 h) (o := fun t => f_Text_readNumber_l4_b_ok t.1 t.2 h) (q := isD) (B := B) hs hn (fun e t => t.1 = nI e ∧ t.2 = nI (nvC B s (e - s))) (nI s, 0) ⟨rfl, by rw [Nat.sub_self]; rfl⟩
    (by
      rintro e ⟨x1, x2⟩ he1 he2 ⟨r2, r3⟩ hq
      dsimp only at r2 r3
      subst r2
      have g0 : ¬ (nI n ≤ nI e) := by rw [nx_le (by omega) (by omega)]; omega
      have xB : zr h 11 (nI e) = B e := by rw [zr_n h 11 (by omega), zf, eB]
      obtain ⟨d1, d2⟩ := dg_n hq
      have hq' := hq
      unfold isD at hq'
      rw [decide_eq_true_eq] at hq'
      have l1 := le (e - s)
      obtain ⟨v, ev⟩ : ∃ v, v = nvC B s (e - s) := ⟨_, rfl⟩
      rw [← ev] at r3 l1
      subst r3
      have nx : nI v * 10 + B e - 48 = nI (v * 10 + dgN (B e)) := by
        rw [d2, show (10 : Int32) = nI 10 from rfl, show (48 : Int32) = nI 48 from rfl, pk_mul, nI_add, pk_sub (by omega)]
        rw [← d2]
        congr 1
      have sv : nvC B s (e + 1 - s) = if 100000 < v * 10 + dgN (B e) then 100000 else v * 10 + dgN (B e) := by
        rw [show e + 1 - s = (e - s) + 1 by omega, nvC, ← ev, show s + (e - s) = e by omega]
      have mn : (if (100000 : Int32) < nI (v * 10 + dgN (B e)) then (100000 : Int32) else nI (v * 10 + dgN (B e))) = nI (nvC B s (e + 1 - s)) := by
        rw [sv]
        have : (100000 : Int32) < nI (v * 10 + dgN (B e)) ↔ 100000 < v * 10 + dgN (B e) := by
          rw [show (100000 : Int32) = nI 100000 from rfl, i_lt, i_nI (by omega), i_nI (by omega)]; omega
        by_cases c : 100000 < v * 10 + dgN (B e)
        · rw [if_pos c, if_pos (this.mpr c)]; rfl
        · rw [if_neg c, if_neg (fun z => c (this.mp z))]
      dsimp only
      unfold f_Text_readNumber_l4_b f_Text_readNumber_l4_b_ok
      rw [e1, if_neg g0, xB, if_pos hq', nx, mn, ← nI_succ]
      exact ⟨⟨fun z => absurd z g0, fun _ => ⟨vp_in_nI (by omega) (by omega), fun _ => vp_in_nI (by omega) (by omega), fun _ => trivial⟩⟩, rfl, rfl, rfl⟩)
    (by
      rintro e ⟨x1, x2⟩ he1 he2 ⟨r2, r3⟩ hq
      dsimp only at r2 r3
      subst r2
      dsimp only
      unfold f_Text_readNumber_l4_b f_Text_readNumber_l4_b_ok
      rw [e1]
      by_cases c : nI n ≤ nI e
      · rw [if_pos c]; exact ⟨⟨fun _ => trivial, fun z => absurd c z⟩, by simp, rfl⟩
      · have c' : e < n := by rw [nx_le (by omega) (by omega)] at c; omega
        have xB : zr h 11 (nI e) = B e := by rw [zr_n h 11 (by omega), zf, eB]
        have hq' : isD (B e) = false := by rcases hq with z | z; omega; exact z
        unfold isD at hq'
        rw [decide_eq_false_iff_not] at hq'
        rw [if_neg c, xB, if_neg hq']
        exact ⟨⟨fun z => absurd z c, fun _ => ⟨vp_in_nI (by omega) (by omega), fun z => absurd z hq', fun _ => trivial⟩⟩, by simp, rfl⟩)
  obtain ⟨r, er⟩ : ∃ r, r = f_Text_readNumber_l4 h F (nI s, 0) := ⟨_, rfl⟩
  have k2 : r.2.1 = nI (scn isD B n 400 s) ∧ r.2.2 = nI (nvC B s (scn isD B n 400 s - s)) := by rw [er]; exact k2
  rw [← er]
  obtain ⟨a2, a3⟩ := k2
  unfold f_Text_readNumber_a4 f_Text_readNumber_a4_ok f_Text_readNumber_k50 f_Text_readNumber_k50_ok
  rw [a2, a3, e6, zs_n _ 162 _ (by omega), zs_n _ 164 _ (by omega)]
  exact ⟨⟨k1, vp_in_nI (by omega) (by omega), vp_in_nI (by omega) (by omega)⟩, rfl, rfl⟩
/-- one TOKEN: p is behind the TOKEN ahead, this one begins at lxS -/
theorem tk_N {n p m : Nat} {h : zm_H} (hn : n ≤ 400) (hp : p ≤ n) (hl : lxS (h.2.1 11) n p < n) (hm : m ≤ 400) (by0 : byR (h.2.1 11) n) (e1 : zf h 10 1 = nI n) (e6 : zf h 10 6 = nI m) : f_Text_readToken_ok (nI (lxS (h.2.1 11) n p)) h ∧ (f_Text_readToken (nI (lxS (h.2.1 11) n p)) h).1 = nI (lxE (h.2.1 11) n p) ∧ zWr [162, 164] [] h (f_Text_readToken (nI (lxS (h.2.1 11) n p)) h).2 ∧ (f_Text_readToken (nI (lxS (h.2.1 11) n p)) h).2.2.1 162 m = nI (tq (h.2.1 11) n p) ∧ (tq (h.2.1 11) n p = 256 → (f_Text_readToken (nI (lxS (h.2.1 11) n p)) h).2.2.1 164 m = nI (tv (h.2.1 11) n p)) ∧ ∀ k, ¬ k = m → (f_Text_readToken (nI (lxS (h.2.1 11) n p)) h).2.2.1 162 k = h.2.1 162 k ∧ (f_Text_readToken (nI (lxS (h.2.1 11) n p)) h).2.2.1 164 k = h.2.1 164 k := by
  obtain ⟨B, eB⟩ : ∃ B, B = h.2.1 11 := ⟨_, rfl⟩
  rw [← eB] at by0 hl ⊢
  obtain ⟨s, es⟩ : ∃ s, s = lxS B n p := ⟨_, rfl⟩
  rw [← es] at hl ⊢
  have s2 : s ≤ n := by omega
  have n1 : ¬ n ≤ s := by omega
  have xB : zr h 11 (nI s) = B s := by rw [zr_n h 11 (by omega), zf, eB]
  have is : vp_in (nI s) 400 := vp_in_nI (by omega) (by omega)
  unfold f_Text_readToken_ok f_Text_readToken
  rw [xB]
  by_cases c2 : ¬ (B s < 97) ∧ (¬ (122 < B s))
  · rw [if_pos c2]
    have l2 : isL (B s) = true := by unfold isL; rw [decide_eq_true_eq]; exact c2
    obtain ⟨a1, a2, a3, a4, a5⟩ := sw_N hn s2 hm e1 e6
    rw [← eB] at a2 a4
    have eE : lxE B n p = scn isL B n 400 s := by unfold lxE; rw [← es, if_neg n1, if_pos l2]
    have eQ : tq B n p = 300 + wI B s (scn isL B n 400 s) := by
      unfold tq; rw [← es, if_neg n1, if_pos l2, eE]
    have w16 := wI_le B s (scn isL B n 400 s)
    rw [eE, eQ]
    exact ⟨⟨is, fun _ => a1, fun z => absurd c2 z⟩, a2, zWr_tr a3 (by decide) (by decide) (zWr.refl _ _), a4, fun z => by omega, fun k hk => ⟨a5 k hk, by rw [a3.arr 164 (by decide) (by decide)]⟩⟩
  · rw [if_neg c2]
    have l2 : ¬ isL (B s) = true := by unfold isL; rw [decide_eq_true_eq]; exact c2
    by_cases c3 : ¬ (B s < 48) ∧ (¬ (57 < B s))
    · rw [if_pos c3]
      have l3 : isD (B s) = true := by unfold isD; rw [decide_eq_true_eq]; exact c3
      obtain ⟨a1, a2, a3⟩ := sn_N hn s2 hm e1 e6
      rw [← eB] at a2 a3
      have eE : lxE B n p = scn isD B n 400 s := by unfold lxE; rw [← es, if_neg n1, if_neg l2, if_pos l3]
      have eQ : tq B n p = 256 := by unfold tq; rw [← es, if_neg n1, if_neg l2, if_pos l3]
      unfold tv
      rw [← es, eE, eQ, a3]
      refine ⟨⟨is, fun z => absurd z c2, fun _ => ⟨is, fun _ => a1, fun z => absurd c3 z⟩⟩, a2, zWr_si (by decide) (zWr_si (by decide) (zWr.refl _ _)), ?_, fun _ => zm_in _ _ _ _, fun k hk => ⟨?_, ?_⟩⟩
      · rw [zf_si, if_neg (by decide)]; exact zm_in _ _ _ _
      · rw [zf_si, if_neg (by decide), zf_si, if_pos rfl, if_neg hk]
      · rw [zf_si, if_pos rfl, if_neg hk, zf_si, if_neg (by decide)]
    · rw [if_neg c3]
      have l3 : ¬ isD (B s) = true := by unfold isD; rw [decide_eq_true_eq]; exact c3
      obtain ⟨b1, b2⟩ := by0 s hl
      rw [sg_b b1 b2, ← nI_succ, e6, zs_n _ 162 _ (by omega)]
      have eE : lxE B n p = s + 1 := by unfold lxE; rw [← es, if_neg n1, if_neg l2, if_neg l3]
      have eQ : tq B n p = if isS (B s) = true then (B s).toNatClampNeg else 258 := by unfold tq; rw [← es, if_neg n1, if_neg l2, if_neg l3]
      rw [eE, ← eQ]
      refine ⟨⟨is, fun z => absurd z c2, fun _ => ⟨is, fun z => absurd z c3, fun _ => ⟨is, vp_in_nI (by omega) (by omega)⟩⟩⟩, rfl, zWr_si (by decide) (zWr.refl _ _), zm_in _ _ _ _, fun z => ?_, fun k hk => ⟨?_, ?_⟩⟩
      · exfalso
        rw [eQ] at z
        by_cases c4 : isS (B s) = true
        · rw [if_pos c4] at z
          rcases (show 0 ≤ (B s).toInt ∨ (B s).toInt < 0 by omega) with q | q
          · have := i_cl q; omega
          · have e0 : (B s).toNatClampNeg = 0 := by
              show (B s).toInt.toNat = 0
              omega
            omega
        · rw [if_neg c4] at z; omega
      · show (zm_si h 162 m _).2.1 162 k = _
        rw [zf_si, if_pos rfl, if_neg hk]
      · show (zm_si h 162 m _).2.1 164 k = _
        rw [zf_si, if_neg (by decide)]
/-- where the TOKENS stand: behind how many bytes the k-th is looked for -/
def tps (B : Nat → Int32) (n : Nat) : Nat → Nat
  | 0 => 0
  | k + 1 => lxE B n (tps B n k)
def tkG (B : Nat → Int32) (n : Nat) (h : zm_H) (k : Nat) : Prop := h.2.1 162 k = nI (tq B n (tps B n k)) ∧ h.2.1 163 k = nI (lxS B n (tps B n k)) ∧ (tq B n (tps B n k) = 256 → h.2.1 164 k = nI (tv B n (tps B n k)))
/-- all TOKENS are told: m of them, and the end -/
def tkA (B : Nat → Int32) (n : Nat) (h : zm_H) (m : Nat) : Prop := m ≤ 400 ∧ zf h 10 6 = nI m ∧ tps B n m ≤ n ∧ tq B n (tps B n m) = 257 ∧ ∀ k, k ≤ m → tkG B n h k
theorem rt_N {n : Nat} {h : zm_H} (hn : n ≤ 400) (by0 : byR (h.2.1 11) n) (e1 : zf h 10 1 = nI n) : f_Text_readTokens_ok h ∧ zWr [162, 163, 164] [(10, 6)] h (f_Text_readTokens h) ∧ ∃ m, tkA (h.2.1 11) n (f_Text_readTokens h) m := by
  obtain ⟨B, eB⟩ : ∃ B, B = h.2.1 11 := ⟨_, rfl⟩
  rw [← eB] at by0 ⊢
  unfold f_Text_readTokens_ok f_Text_readTokens
  obtain ⟨F, eF, -⟩ := zF_ex
  rw [← eF]
  obtain ⟨h0, eh0⟩ : ∃ h0, h0 = zp h 10 6 0 := ⟨_, rfl⟩
  have w0 : zWr [162, 163, 164] [(10, 6)] h h0 := by rw [eh0]; exact zWr_p (by decide) (zWr.refl _ _)
  have z6 : zf h0 10 6 = nI 0 := by rw [eh0]; exact zm_in _ _ _ _
  rw [← eh0]
  have key := zlpF eF (b := fun t => f_Text_readTokens_l9_b t.1 t.2.1 t.2.2) (o := fun t => f_Text_readTokens_l9_b_ok t.1 t.2.1 t.2.2) n (by omega)
    (fun a t => t.2.1 = nI a ∧ zWr [162, 163, 164] [(10, 6)] h t.2.2 ∧ ∃ m, t.1 = nI (tps B n m) ∧ zf t.2.2 10 6 = nI m ∧ m ≤ tps B n m ∧ tps B n m ≤ n ∧ (∀ k, k < m → tkG B n t.2.2 k) ∧ ∀ i, tps B n m ≤ i → i < a → isB (B i) = true)
    (fun r => zWr [162, 163, 164] [(10, 6)] h r.2.2.2 ∧ ∃ m, zf r.2.2.2 10 6 = nI m ∧ m ≤ tps B n m ∧ tps B n m ≤ n ∧ (∀ k, k < m → tkG B n r.2.2.2 k) ∧ lxS B n (tps B n m) = n) (0, 0, h0)
    ⟨rfl, w0, 0, rfl, z6, Nat.le_refl _, Nat.zero_le _, fun k hk => by omega, fun i h1 h2 => by omega⟩
    (by
      rintro a ⟨v1, v2, x⟩ ha ⟨q1, q2, m, q3, q4, q5, q6, q7, q8⟩
      dsimp only at q1 q2 q3 q4 q7
      subst q1 q3
      have x1 : zf x 10 1 = nI n := (q2.fld 10 1 (by decide) (by decide)).trans e1
      have xB : zr x 11 (nI a) = B a := by rw [zr_n x 11 (by omega), zf, q2.arr 11 (by decide) (by decide), eB]
      have g0 : ¬ (nI n ≤ nI a) := by rw [nx_le (by omega) (by omega)]; omega
      have g1 : nI a < nI (tps B n m) ↔ a < tps B n m := by rw [i_lt, i_nI (by omega), i_nI (by omega)]; omega
      have ia : vp_in (nI a) 400 := vp_in_nI (by omega) (by omega)
      dsimp only
      unfold f_Text_readTokens_l9_b f_Text_readTokens_l9_b_ok
      rw [x1, if_neg g0, xB, q4]
      by_cases c1 : nI a < nI (tps B n m)
      · have c1' := g1.mp c1
        rw [if_pos c1]
        unfold f_Text_readTokens_l9_k59
        rw [← nI_succ]
        exact ⟨⟨fun z => absurd z g0, fun _ => ⟨fun _ => trivial, fun z => absurd c1 z⟩⟩, Or.inl ⟨rfl, rfl, q2, m, rfl, q4, q5, q6, q7, fun i h1 h2 => by omega⟩⟩
      · have c1' : tps B n m ≤ a := by
          have : ¬ a < tps B n m := fun z => c1 (g1.mpr z)
          omega
        rw [if_neg c1]
        by_cases c2 : B a = 32
        · rw [if_pos c2]
          unfold f_Text_readTokens_l9_k59
          rw [← nI_succ]
          refine ⟨⟨fun z => absurd z g0, fun _ => ⟨fun z => absurd z c1, fun _ => ⟨ia, fun _ => trivial, fun z => absurd c2 z⟩⟩⟩, Or.inl ⟨rfl, rfl, q2, m, rfl, q4, q5, q6, q7, fun i h1 h2 => ?_⟩⟩
          by_cases e : i = a
          · rw [e]; unfold isB; rw [decide_eq_true_eq]; exact c2
          · exact q8 i h1 (by omega)
        · rw [if_neg c2]
          have nb : isB (B a) = false := by unfold isB; rw [decide_eq_false_iff_not]; exact c2
          have eS : lxS B n (tps B n m) = a := scn_u hn c1' (by omega) q8 (Or.inr nb)
          rw [zs_n _ 163 _ (by omega)]
          obtain ⟨y, ey⟩ : ∃ y, y = zm_si x 163 m (nI a) := ⟨_, rfl⟩
          have wy : zWr [163] [] x y := by rw [ey]; exact zWr_si (by decide) (zWr.refl _ _)
          have y163 : ∀ k, y.2.1 163 k = if k = m then nI a else x.2.1 163 k := fun k => by rw [ey, zf_si, if_pos rfl]
          have yB : y.2.1 11 = B := by rw [wy.arr 11 (by decide) (by decide), q2.arr 11 (by decide) (by decide), eB]
          have y1 : zf y 10 1 = nI n := (wy.fld 10 1 (by decide) (by decide)).trans x1
          have y6 : zf y 10 6 = nI m := (wy.fld 10 6 (by decide) (by decide)).trans q4
          rw [← ey]
          have tk := tk_N (h := y) (p := tps B n m) (m := m) hn q6 (by rw [yB, eS]; exact ha) (by omega) (by rw [yB]; exact by0) y1 y6
          rw [yB, eS] at tk
          obtain ⟨t1, t2, t3, t4, t5, t6⟩ := tk
          obtain ⟨b1, b2, b3, b4, b5⟩ := lx_b (B := B) hn q6
          have lt := b4 (fun z => by have := b5.mpr z; omega)
          rw [eS] at lt
          obtain ⟨z, ez⟩ : ∃ z, z = f_Text_readToken (nI a) y := ⟨_, rfl⟩
          rw [← ez] at t2 t3 t4 t5 t6 ⊢
          have z6' : zf z.2 10 6 = nI m := (t3.fld 10 6 (by decide) (by decide)).trans y6
          unfold f_Text_readTokens_l9_k48 f_Text_readTokens_l9_k59
          rw [z6', t2, ← nI_succ, ← nI_succ]
          obtain ⟨u, eu⟩ : ∃ u, u = zp z.2 10 6 (nI (m + 1)) := ⟨_, rfl⟩
          have wu : zWr [] [(10, 6)] z.2 u := by rw [eu]; exact zWr_p (by decide) (zWr.refl _ _)
          have u6 : zf u 10 6 = nI (m + 1) := by rw [eu]; exact zm_in _ _ _ _
          rw [← eu]
          have wa : zWr [162, 163, 164] [(10, 6)] h u := zWr_tr wu (by decide) (by decide) (zWr_tr t3 (by decide) (by decide) (zWr_tr wy (by decide) (by decide) q2))
          have eT : lxE B n (tps B n m) = tps B n (m + 1) := rfl
          rw [eT] at lt b3 ⊢
          refine ⟨⟨fun z => absurd z g0, fun _ => ⟨fun z => absurd z c1, fun _ => ⟨ia, fun z => absurd z c2, fun _ => ⟨vp_in_nI (by omega) (by omega), t1⟩⟩⟩⟩, Or.inl ⟨rfl, rfl, wa, m + 1, rfl, u6, by omega, b3, fun k hk => ?_, fun i h1 h2 => by omega⟩⟩
          have u162 : u.2.1 162 = z.2.2.1 162 := wu.arr 162 (by decide) (by decide)
          have u163 : u.2.1 163 = y.2.1 163 := by rw [wu.arr 163 (by decide) (by decide), t3.arr 163 (by decide) (by decide)]
          have u164 : u.2.1 164 = z.2.2.1 164 := wu.arr 164 (by decide) (by decide)
          show u.2.1 162 k = _ ∧ u.2.1 163 k = _ ∧ (_ → u.2.1 164 k = _)
          rw [u162, u163, u164, y163 k]
          by_cases e : k = m
          · subst e
            rw [if_pos rfl, eS]
            exact ⟨t4, rfl, t5⟩
          · rw [if_neg e, (t6 k e).1, (t6 k e).2, wy.arr 162 (by decide) (by decide), wy.arr 164 (by decide) (by decide)]
            exact q7 k (by omega))
    (by
      rintro ⟨v1, v2, x⟩ ⟨q1, q2, m, q3, q4, q5, q6, q7, q8⟩
      dsimp only at q1 q2 q3 q4 q7
      subst q1 q3
      have x1 : zf x 10 1 = nI n := (q2.fld 10 1 (by decide) (by decide)).trans e1
      dsimp only
      unfold f_Text_readTokens_l9_b f_Text_readTokens_l9_b_ok
      rw [x1, if_pos (i_le_r _)]
      exact ⟨⟨fun _ => trivial, fun z => absurd (i_le_r _) z⟩, by simp, q2, m, q4, q5, q6, q7, scn_u hn q6 (Nat.le_refl _) q8 (Or.inl rfl)⟩)
  obtain ⟨k1, k2⟩ := key
  obtain ⟨r, er⟩ : ∃ r, r = f_Text_readTokens_l9 F (0, 0, h0) := ⟨_, rfl⟩
  have k2 : zWr [162, 163, 164] [(10, 6)] h r.2.2.2 ∧ ∃ m, zf r.2.2.2 10 6 = nI m ∧ m ≤ tps B n m ∧ tps B n m ≤ n ∧ (∀ k, k < m → tkG B n r.2.2.2 k) ∧ lxS B n (tps B n m) = n := by rw [er]; exact k2
  rw [← er]
  obtain ⟨x, ex⟩ : ∃ x, x = r.2.2.2 := ⟨_, rfl⟩
  rw [← ex] at k2
  obtain ⟨k2, m, k3, k4, k5, k6, k7⟩ := k2
  have x1 : zf x 10 1 = nI n := (k2.fld 10 1 (by decide) (by decide)).trans e1
  unfold f_Text_readTokens_a9 f_Text_readTokens_a9_ok f_Text_readTokens_k65 f_Text_readTokens_k65_ok
  rw [← ex, k3, zs_n _ 162 _ (by omega)]
  have im : vp_in (nI m) 401 := vp_in_nI (by omega) (by omega)
  rw [zs_n _ 163 _ (by omega), x1]
  have q257 : tq B n (tps B n m) = 257 := ((lx_b (B := B) hn k5).2.2.2.2).mp (by omega)
  obtain ⟨u, eu⟩ : ∃ u, u = zm_si (zm_si x 162 m 257) 163 m (nI n) := ⟨_, rfl⟩
  have wu : zWr [162, 163] [] x u := by rw [eu]; exact zWr_si (by decide) (zWr_si (by decide) (zWr.refl _ _))
  rw [← eu]
  have u162 : ∀ k, u.2.1 162 k = if k = m then 257 else x.2.1 162 k := fun k => by rw [eu, zf_si, if_neg (by decide), zf_si, if_pos rfl]
  have u163 : ∀ k, u.2.1 163 k = if k = m then nI n else x.2.1 163 k := fun k => by rw [eu, zf_si, if_pos rfl, zf_si, if_neg (show ¬ (163 : Nat) = 162 by decide)]
  refine ⟨⟨k1, im, ?_⟩, zWr_tr wu (by decide) (by decide) k2, m, by omega, (wu.fld 10 6 (by decide) (by decide)).trans k3, k5, q257, fun k hk => ?_⟩
  · exact im
  · show u.2.1 162 k = _ ∧ u.2.1 163 k = _ ∧ (_ → u.2.1 164 k = _)
    rw [u162 k, u163 k, wu.arr 164 (by decide) (by decide)]
    by_cases e : k = m
    · subst e
      rw [if_pos rfl, if_pos rfl, q257, k7]
      exact ⟨rfl, rfl, fun z => by omega⟩
    · rw [if_neg e, if_neg e]
      exact k6 k (by omega)
