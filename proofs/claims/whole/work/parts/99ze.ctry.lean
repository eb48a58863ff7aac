/-! ===== a LAYING: a trial of the class ===== -/
abbrev opS (sea : Int32) : Int32 := (sea / 1000) * (sea / 1000) * (zm_rm sea 1000 / 10)
def kbP (fl : Nat → Int32) (floor op : Int32) : Prop := ∀ c, c < 10 → floor * op ≤ 100 * fl c
def pwS (S : Nat → Nat → Int32) (tk : Nat → Int32) (n : Nat) (v : Int32) : Int32 := fld (fun r a => a + pwv S tk r) n v
def tsum (T S : Nat → Nat → Int32) (nr : Nat) (sz su seas : Nat → Int32) : Nat → Int32
  | 0 => 0
  | k + 1 => pwS S (wvT T nr sz su (seas k)) nr (tsum T S nr sz su seas k)
def tgood (T : Nat → Nat → Int32) (nr : Nat) (sz su seas : Nat → Int32) (floor : Int32) (k : Nat) : Prop := ∀ i, i < k → kbP (wvF T nr sz su (seas i)) floor (opS (seas i))
def tvl (P : Prop) (s v : Int32) : Prop := (P ∧ v = s) ∨ (¬ P ∧ v = -1)
theorem kb_N (v1 v2 : Int32) (h : zm_H) : f_Ground_keepsBeach_ok v1 v2 h ∧ (f_Ground_keepsBeach v1 v2 h = 0 ↔ ¬ kbP (h.2.1 35) v1 v2) := by
  unfold f_Ground_keepsBeach_ok f_Ground_keepsBeach f_Ground_keepsBeach_a2 f_Ground_keepsBeach_k26 f_Ground_keepsBeach_k34
  obtain ⟨F, eF, -⟩ := zF_ex
  rw [← eF]
  have key := zlpF eF (b := fun t => f_Ground_keepsBeach_l2_b v1 v2 t h) (o := fun t => f_Ground_keepsBeach_l2_b_ok v1 v2 t h) 10 (by omega)
    (fun k t => t = nI k ∧ ∀ c, c < k → v1 * v2 ≤ 100 * h.2.1 35 c)
    (fun r => (r.1 = 1 ∧ ¬ kbP (h.2.1 35) v1 v2) ∨ (¬ r.1 = 1 ∧ kbP (h.2.1 35) v1 v2)) 0
    ⟨rfl, fun c hc => by omega⟩
    (by
      rintro k t hk ⟨rfl, q⟩
      have g0 : ¬ ((10 : Int32) ≤ nI k) := by rw [show (10 : Int32) = nI 10 from rfl, nx_le (by omega) (by omega)]; omega
      have ik : vp_in (nI k) 10 := vp_in_nI hk (by omega)
      show f_Ground_keepsBeach_l2_b_ok v1 v2 (nI k) h ∧ _
      unfold f_Ground_keepsBeach_l2_b f_Ground_keepsBeach_l2_b_ok
      rw [if_neg g0, zr_n h 35 (by omega), ← nI_succ]
      refine ⟨⟨fun z => absurd z g0, fun _ => ik⟩, ?_⟩
      by_cases c : v1 * v2 ≤ 100 * zf h 35 k
      · rw [if_pos c]
        refine Or.inl ⟨rfl, rfl, fun u hu => ?_⟩
        by_cases e : u = k
        · rw [e]; exact c
        · exact q u (by omega)
      · rw [if_neg c]
        exact Or.inr ⟨by simp, Or.inl ⟨rfl, fun z => c (z k hk)⟩⟩)
    (by
      rintro t ⟨rfl, q⟩
      have g0 : (10 : Int32) ≤ nI 10 := by decide
      show f_Ground_keepsBeach_l2_b_ok v1 v2 (nI 10) h ∧ _
      unfold f_Ground_keepsBeach_l2_b f_Ground_keepsBeach_l2_b_ok
      rw [if_pos g0]
      exact ⟨⟨fun _ => trivial, fun z => absurd g0 z⟩, by simp, Or.inr ⟨by simp, q⟩⟩)
  obtain ⟨k1, k2⟩ := key
  obtain ⟨r, er⟩ : ∃ r, r = f_Ground_keepsBeach_l2 v1 v2 h F 0 := ⟨_, rfl⟩
  have k2 : (r.1 = 1 ∧ ¬ kbP (h.2.1 35) v1 v2) ∨ (¬ r.1 = 1 ∧ kbP (h.2.1 35) v1 v2) := by rw [er]; exact k2
  rw [← er]
  rcases k2 with ⟨a, b⟩ | ⟨a, b⟩
  · rw [if_pos a]; exact ⟨⟨k1, fun _ => trivial, fun _ => trivial⟩, fun _ => b, fun _ => rfl⟩
  · rw [if_neg a]; exact ⟨⟨k1, fun _ => trivial, fun _ => trivial⟩, fun z => absurd z (by decide), fun z => absurd b z⟩
theorem kbP_ext {f g : Nat → Int32} {a b : Int32} (e : ∀ c, c < 10 → f c = g c) : kbP f a b ↔ kbP g a b := by
  constructor
  · intro h c hc; rw [← e c hc]; exact h c hc
  · intro h c hc; rw [e c hc]; exact h c hc
theorem pwS_ext {S : Nat → Nat → Int32} {f g : Nat → Int32} (v : Int32) : ∀ n, n ≤ 10 → (∀ r, r < 10 → f r = g r) → pwS S f n v = pwS S g n v := by
  intro n
  induction n with
  | zero => intro _ _; rfl
  | succ n ih =>
    intro hn e
    show pwS S f n v + pwv S f n = pwS S g n v + pwv S g n
    rw [ih (by omega) e]
    unfold pwv
    rw [e n (by omega)]
theorem to_N {nr g many ns np : Nat} (hnr : nr ≤ 10) {h : zm_H} (e23 : zf h 23 0 = nI nr) (V : vOK nr g (vC 38 h)) (hz : ∀ r, r < nr → (1 ≤ (h.2.1 24 r).toInt ∧ (h.2.1 24 r).toInt ≤ 20) ∧ (2 ≤ (h.2.1 25 r).toInt ∧ (h.2.1 25 r).toInt ≤ 20)) {rf pl ix : Nat → Nat} (T : trOK nr (vC 38 h) many rf pl) (e9 : zf h 82 9 = nI many) (e87 : ∀ i, i < many → h.2.1 87 i = nI (rf i)) (hnp : np ≤ 8) (e89 : ∀ i, i < many → ix i < np ∧ h.2.1 89 i = nI (ix i) ∧ h.2.1 86 (ix i) = nI (pl i)) (e11 : zf h 82 11 = nI ns) (hns : ns ≤ 24) {seas : Nat → Int32} (e88 : ∀ i, i < ns → h.2.1 88 i = seas i) (floor : Int32) : f_Ground_tryOut_ok floor h ∧ tvl (tgood (trS (vC 38 h) rf pl many) nr (h.2.1 24) (h.2.1 25) seas floor ns) (tsum (trS (vC 38 h) rf pl many) (vC 38 h) nr (h.2.1 24) (h.2.1 25) seas ns) (f_Ground_tryOut floor h).1 := by
  have hm3 : many ≤ 3 := T.1
  obtain ⟨S, eS⟩ : ∃ S, S = vC 38 h := ⟨_, rfl⟩
  unfold f_Ground_tryOut_ok f_Ground_tryOut
  obtain ⟨a1, a2, a3⟩ := put_37 hnr e23 V
  generalize f_Course_putInto_37 h = h1 at a2 a3
  rw [← eS] at V T a3 ⊢
  unfold f_Ground_tryOut_k11_ok f_Ground_tryOut_k11 f_Ground_tryOut_a13_ok f_Ground_tryOut_a13
  obtain ⟨F, eF, -⟩ := zF_ex
  rw [← eF]
  have key := zlp_k eF (b := fun t => f_Ground_tryOut_l13_b floor t.1 t.2) (o := fun t => f_Ground_tryOut_l13_b_ok floor t.1 t.2) many (by omega) 0
    (fun n x => zWr [33] [] h x ∧ ∀ p, p < 100 → x.2.1 33 p = rat (trS S rf pl n) (nI p) nr) h1
    ⟨a2, fun p hp => by rw [a3 p hp]; exact fEq_rat (trS_0 nr S rf pl) _⟩
    (by
      rintro n x hn ⟨r1, r2⟩
      rw [Nat.zero_add]
      obtain ⟨i1, i2, i3⟩ := e89 n hn
      have hp := T.2.2.2.1 n hn
      have g0 : ¬ (zf x 82 9 ≤ nI n) := by rw [show zf x 82 9 = nI many from (r1.fld 82 9 (by decide) (by decide)).trans e9, nx_le (by omega) (by omega)]; omega
      have in3 : vp_in (nI n) 3 := vp_in_nI (by omega) (by omega)
      have x89 : zr x 89 (nI n) = nI (ix n) := by rw [zr_n x 89 (by omega), zf, r1.arr 89 (by decide) (by decide)]; exact i2
      have x86 : zr x 86 (nI (ix n)) = nI (pl n) := by rw [zr_n x 86 (by omega), zf, r1.arr 86 (by decide) (by decide)]; exact i3
      have x87 : zr x 87 (nI n) = nI (rf n) := by rw [zr_n x 87 (by omega), zf, r1.arr 87 (by decide) (by decide)]; exact e87 n hn
      have ip : (nI (pl n)).toInt = pl n := i_nI (by omega)
      have g1 : ¬ (nI (pl n) < 0) ∧ (¬ (100 ≤ nI (pl n)) ∧ (¬ (5 ≤ (zm_rm (nI (pl n)) 10)))) := by
        rw [(pl_n hp.1).1, i_lt, i_le, i_le, ip, i_0, i_nI (show pl n % 10 < 2147483648 by omega)]
        have e1 : (100 : Int32).toInt = 100 := rfl
        have e2 : (5 : Int32).toInt = 5 := rfl
        rw [e1, e2]
        omega
      have vpp : vp_in (nI (pl n)) 100 := vp_in_nI hp.1 (by omega)
      dsimp only
      unfold f_Ground_tryOut_l13_b f_Ground_tryOut_l13_b_ok f_Ground_tryOut_l13_k45 f_Waves_putIn f_Waves_putIn_ok
      rw [if_neg g0, x89, x86, x87, if_pos g1, zs_n _ 33 _ (by omega), ← nI_succ]
      refine ⟨⟨fun z => absurd z g0, fun _ => ⟨in3, in3, vp_in_nI (by omega) (by omega), fun _ => vpp, fun z => absurd g1 z⟩⟩, _, rfl, zWr_si (by decide) r1, fun p hp2 => ?_⟩
      rw [zf_si, if_pos rfl, tr_rat hnr V T hn hp2, r2 p hp2])
    (by
      rintro x ⟨r1, r2⟩
      rw [Nat.zero_add]
      have g0 : zf x 82 9 ≤ nI many := by rw [show zf x 82 9 = nI many from (r1.fld 82 9 (by decide) (by decide)).trans e9]; exact i_le_r _
      dsimp only
      unfold f_Ground_tryOut_l13_b f_Ground_tryOut_l13_b_ok
      rw [if_pos g0]
      exact ⟨⟨fun _ => trivial, fun z => absurd g0 z⟩, rfl⟩)
  obtain ⟨k1, x, k2, k3, k4⟩ := key
  have k1 : f_Ground_tryOut_l13_ok floor F (0, h1) := k1
  have k2 : f_Ground_tryOut_l13 floor F (0, h1) = (1, nI (0 + many), x) := k2
  rw [k2]
  dsimp only
  unfold f_Ground_tryOut_k51_ok f_Ground_tryOut_k51
  rw [← eF]
  obtain ⟨X, eX⟩ : ∃ X, X = trS S rf pl many := ⟨_, rfl⟩
  rw [← eX] at k4 ⊢
  have wX : wOK nr X := by rw [eX]; exact tr_ok hnr V T (Nat.le_refl _)
  obtain ⟨sz, esz⟩ : ∃ sz, sz = h.2.1 24 := ⟨_, rfl⟩
  obtain ⟨su, esu⟩ : ∃ su, su = h.2.1 25 := ⟨_, rfl⟩
  rw [← esz, ← esu]
  have key2 := zlpF eF (b := fun t => f_Ground_tryOut_l55_b floor t.1 t.2.1 t.2.2) (o := fun t => f_Ground_tryOut_l55_b_ok floor t.1 t.2.1 t.2.2) ns (by omega)
    (fun k t => t.1 = tsum X S nr sz su seas k ∧ t.2.1 = nI k ∧ zWr [32, 33, 34, 35, 36] [] h t.2.2 ∧ t.2.2.2.1 33 = x.2.1 33 ∧ tgood X nr sz su seas floor k)
    (fun r => tvl (tgood X nr sz su seas floor ns) (tsum X S nr sz su seas ns) (if r.1 = 1 then -1 else r.2.1)) (0, 0, x)
    ⟨rfl, rfl, zWr_tr k3 (by decide) (by decide) (zWr.refl _ _), rfl, fun i hi => by omega⟩
    (by
      rintro k ⟨v2, v3, y⟩ hk ⟨q1, q2, q3, q4, q5⟩
      dsimp only at q1 q2 q3 q4
      subst q1 q2
      have g0 : ¬ (zf y 82 11 ≤ nI k) := by rw [show zf y 82 11 = nI ns from (q3.fld 82 11 (by decide) (by decide)).trans e11, nx_le (by omega) (by omega)]; omega
      have ik : vp_in (nI k) 24 := vp_in_nI (by omega) (by omega)
      have y88 : zr y 88 (nI k) = seas k := by rw [zr_n y 88 (by omega), zf, q3.arr 88 (by decide) (by decide)]; exact e88 k hk
      have y24 : y.2.1 24 = sz := by rw [q3.arr 24 (by decide) (by decide)]; exact esz.symm
      have y25 : y.2.1 25 = su := by rw [q3.arr 25 (by decide) (by decide)]; exact esu.symm
      obtain ⟨d1, d2, d3, d4⟩ := run_C (S := X) hnr (h := y) wX (fun p hp => by rw [q4]; exact k4 p hp) (fun r hr => by rw [y24, y25, esz, esu]; exact hz r hr) (seas k)
      rw [y24, y25] at d3 d4
      show f_Ground_tryOut_l55_b_ok floor (tsum X S nr sz su seas k) (nI k) y ∧ _
      unfold f_Ground_tryOut_l55_b f_Ground_tryOut_l55_b_ok
      dsimp only
      rw [if_neg g0, y88]
      generalize f_Waves_run (seas k) y = z at d2 d3 d4 ⊢
      have wz : zWr [32, 33, 34, 35, 36] [] h z := zWr_tr d2 (by decide) (by decide) q3
      have z33 : z.2.1 33 = x.2.1 33 := by rw [d2.arr 33 (by decide) (by decide)]; exact q4
      have z88 : zr z 88 (nI k) = seas k := by rw [zr_n z 88 (by omega), zf, wz.arr 88 (by decide) (by decide)]; exact e88 k hk
      have z23 : zf z 23 0 = nI nr := (wz.fld 23 0 (by decide) (by decide)).trans e23
      obtain ⟨b1, b2⟩ := kb_N floor (opS (seas k)) z
      rw [kbP_ext d3] at b2
      unfold f_Ground_tryOut_l55_k76 f_Ground_tryOut_l55_k76_ok
      rw [z88, ← eF]
      have gs : tgood X nr sz su seas floor (k + 1) ↔ kbP (wvF X nr sz su (seas k)) floor (opS (seas k)) := by
        constructor
        · intro v; exact v k (by omega)
        · intro v i hi
          by_cases e : i = k
          · rw [e]; exact v
          · exact q5 i (by omega)
      by_cases c : f_Ground_keepsBeach floor (opS (seas k)) z = 0
      · rw [if_pos c]
        refine ⟨⟨fun v => absurd v g0, fun _ => ⟨ik, d1, ik, b1, fun _ => trivial, fun v => absurd c v⟩⟩, Or.inr ⟨by simp, ?_⟩⟩
        dsimp only
        rw [if_pos rfl]
        exact Or.inr ⟨fun v => (b2.mp c) (v k hk), rfl⟩
      · rw [if_neg c]
        have good : kbP (wvF X nr sz su (seas k)) floor (opS (seas k)) := Classical.byContradiction (fun v => c (b2.mpr v))
        have e2 : ∀ r, r < 10 → z.2.1 40 r = S 2 r := fun r hr => by
          rw [wz.arr 40 (by decide) (by decide), eS]
          exact (vC_at (b := 38) (h := h) (i := 2) (by omega) (show r < zsz 2 from hr)).symm
        have key3 := zlpF eF (b := fun t => f_Ground_tryOut_l55_l98_b floor t.1 (nI k) t.2 z) (o := fun t => f_Ground_tryOut_l55_l98_b_ok floor t.1 (nI k) t.2 z) nr (by omega)
          (fun r t => t = (pwS S (wvT X nr sz su (seas k)) r (tsum X S nr sz su seas k), nI r))
          (fun r => r.2.1 = pwS S (wvT X nr sz su (seas k)) nr (tsum X S nr sz su seas k)) (tsum X S nr sz su seas k, 0)
          rfl
          (by
            rintro r t hr rfl
            have g2 : ¬ (zf z 23 0 ≤ nI r) := by rw [z23, nx_le (by omega) (by omega)]; omega
            have ir : vp_in (nI r) 10 := vp_in_nI (by omega) (by omega)
            have z34 : zr z 34 (nI r) = wvT X nr sz su (seas k) r := by rw [zr_n z 34 (by omega)]; exact d4 r (by omega)
            have z40 : zr z 40 (nI r) = S 2 r := by rw [zr_n z 40 (by omega)]; exact e2 r (by omega)
            show f_Ground_tryOut_l55_l98_b_ok floor _ (nI k) (nI r) z ∧ _
            unfold f_Ground_tryOut_l55_l98_b f_Ground_tryOut_l55_l98_b_ok f_Course_powerFrom_37 f_Course_powerFrom_37_ok f_Course_leak_37 f_Course_leak_37_ok
            dsimp only
            rw [if_neg g2, z34, z40, ← nI_succ]
            refine ⟨⟨fun v => absurd v g2, fun _ => ⟨ir, ir⟩⟩, Or.inl ⟨rfl, ?_⟩⟩
            show (_, _) = (pwS S (wvT X nr sz su (seas k)) r (tsum X S nr sz su seas k) + pwv S (wvT X nr sz su (seas k)) r, _)
            unfold pwv lek
            rfl)
          (by
            rintro t rfl
            have g2 : zf z 23 0 ≤ nI nr := by rw [z23]; exact i_le_r _
            show f_Ground_tryOut_l55_l98_b_ok floor _ (nI k) (nI nr) z ∧ _
            unfold f_Ground_tryOut_l55_l98_b f_Ground_tryOut_l55_l98_b_ok
            dsimp only
            rw [if_pos g2]
            exact ⟨⟨fun _ => trivial, fun v => absurd g2 v⟩, by simp, rfl⟩)
        obtain ⟨m1, m2⟩ := key3
        obtain ⟨r, er⟩ : ∃ r, r = f_Ground_tryOut_l55_l98 floor (nI k) z F (tsum X S nr sz su seas k, 0) := ⟨_, rfl⟩
        have m2 : r.2.1 = pwS S (wvT X nr sz su (seas k)) nr (tsum X S nr sz su seas k) := by rw [er]; exact m2
        unfold f_Ground_tryOut_l55_a98 f_Ground_tryOut_l55_k141
        rw [← er, m2, ← nI_succ]
        exact ⟨⟨fun v => absurd v g0, fun _ => ⟨ik, d1, ik, b1, fun v => absurd v c, fun _ => ⟨m1, trivial⟩⟩⟩, Or.inl ⟨rfl, rfl, rfl, wz, z33, gs.mpr good⟩⟩)
    (by
      rintro ⟨v2, v3, y⟩ ⟨q1, q2, q3, q4, q5⟩
      dsimp only at q1 q2 q3 q4
      subst q1 q2
      have g0 : zf y 82 11 ≤ nI ns := by rw [show zf y 82 11 = nI ns from (q3.fld 82 11 (by decide) (by decide)).trans e11]; exact i_le_r _
      show f_Ground_tryOut_l55_b_ok floor _ (nI ns) y ∧ _
      unfold f_Ground_tryOut_l55_b f_Ground_tryOut_l55_b_ok
      dsimp only
      rw [if_pos g0]
      refine ⟨⟨fun _ => trivial, fun v => absurd g0 v⟩, by simp, ?_⟩
      dsimp only
      rw [if_neg (by decide)]
      exact Or.inl ⟨q5, rfl⟩)
  obtain ⟨m1, m2⟩ := key2
  obtain ⟨r, er⟩ : ∃ r, r = f_Ground_tryOut_l55 floor F (0, 0, x) := ⟨_, rfl⟩
  have m2 : tvl (tgood X nr sz su seas floor ns) (tsum X S nr sz su seas ns) (if r.1 = 1 then -1 else r.2.1) := by rw [er]; exact m2
  rw [← er]
  unfold f_Ground_tryOut_a55 f_Ground_tryOut_a55_ok f_Ground_tryOut_k93 f_Ground_tryOut_k147
  refine ⟨⟨a1, k1, m1, fun _ => trivial, fun _ => trivial⟩, ?_⟩
  by_cases c : r.1 = 1
  · rw [if_pos c] at m2 ⊢; exact m2
  · rw [if_neg c] at m2 ⊢; exact m2
