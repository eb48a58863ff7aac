/-! ===== a LAYING: the class searches ===== -/
noncomputable def vlc (P : Prop) (s : Int32) : Int32 := @ite Int32 P (Classical.propDecidable P) s (-1)
theorem vlc_t {P : Prop} {s v : Int32} (h : tvl P s v) : v = vlc P s := by
  unfold vlc
  rcases h with ⟨a, b⟩ | ⟨a, b⟩
  · rw [if_pos a]; exact b
  · rw [if_neg a]; exact b
theorem vlc_n {P : Prop} {s : Int32} (h : ¬ P) : vlc P s = -1 := by unfold vlc; rw [if_neg h]
theorem vlc_i {P Q : Prop} {s : Int32} (h : P ↔ Q) : vlc P s = vlc Q s := by rw [show P = Q from propext h]
def plc (np m : Nat) (P : Nat → Nat) (c i : Nat) : Nat := P (qd np c (m - 1 - i))
def cnC (nr : Nat) (S : Nat → Nat → Int32) (m : Nat) (rf pl : Nat → Nat) (sh : Nat → Prop) : Prop := trOK nr S m rf pl ∧ ∀ i, i < m → ¬ sh (pl i)
noncomputable def vlT (nr : Nat) (S : Nat → Nat → Int32) (m : Nat) (rf : Nat → Nat) (np : Nat) (P : Nat → Nat) (sh : Nat → Prop) (sz su seas : Nat → Int32) (ns : Nat) (floor : Int32) (c : Nat) : Int32 :=
  vlc (cnC nr S m rf (plc np m P c) sh ∧ tgood (trS S rf (plc np m P c) m) nr sz su seas floor ns) (tsum (trS S rf (plc np m P c) m) S nr sz su seas ns)
def lyB (vl : Nat → Int32) : Nat → Int32
  | 0 => -1
  | c + 1 => if lyB vl c < vl c then vl c else lyB vl c
def lyP (vl : Nat → Int32) (pl : Nat → Nat → Nat) : Nat → Nat → Nat
  | 0 => fun _ => 0
  | c + 1 => if lyB vl c < vl c then pl c else lyP vl pl c
def dst (np c m : Nat) : Prop := ∀ k, k < m → ∀ i, i < k → ¬ qd np c i = qd np c k
theorem dst_s {np c k : Nat} : dst np c (k + 1) ↔ dst np c k ∧ ∀ i, i < k → ¬ qd np c i = qd np c k := by
  constructor
  · intro h; exact ⟨fun j hj => h j (by omega), h k (by omega)⟩
  · rintro ⟨h1, h2⟩ j hj
    by_cases e : j = k
    · rw [e]; exact h2
    · exact h1 j (by omega)
theorem st_N {np m c : Nat} (hnp : 1 ≤ np) (hnp2 : np ≤ 8) (h1 : 1 ≤ m) (hm : m ≤ 3) (hc : c < 2147483648) {h : zm_H} (e7 : zf h 82 7 = nI np) (e9 : zf h 82 9 = nI m) : f_Ground_setTrial_ok (nI c) h ∧ (((f_Ground_setTrial (nI c) h).1 = 0 ∧ ¬ dst np c m) ∨ (¬ (f_Ground_setTrial (nI c) h).1 = 0 ∧ dst np c m ∧ ∀ i, i < m → (f_Ground_setTrial (nI c) h).2.2.1 89 i = nI (qd np c (m - 1 - i)))) := by
  unfold f_Ground_setTrial_ok f_Ground_setTrial
  obtain ⟨F, eF, -⟩ := zF_ex
  rw [← eF, e9]
  have key := zlpF eF (b := fun t => f_Ground_setTrial_l12_b t.1 t.2.1 t.2.2.1 t.2.2.2) (o := fun t => f_Ground_setTrial_l12_b_ok t.1 t.2.1 t.2.2.1 t.2.2.2) m (by omega)
    (fun k s => s.1 = nI (qv np c k) ∧ (∃ M, s.2.1 = nI M ∧ M < 1024 ∧ ∀ r, M.testBit r = true ↔ ∃ i, i < k ∧ qd np c i = r) ∧ dnI s.2.2.1 m k ∧ zWr [89] [] h s.2.2.2 ∧ (∀ i, i < k → s.2.2.2.2.1 89 (m - 1 - i) = nI (qd np c i)) ∧ dst np c k)
    (fun r => (r.1 = 1 ∧ ¬ dst np c m) ∨ (¬ r.1 = 1 ∧ dst np c m ∧ ∀ i, i < m → r.2.2.2.2.2.1 89 (m - 1 - i) = nI (qd np c i))) (nI c, 0, nI m - 1, h)
    ⟨by rw [qv_0], ⟨0, rfl, by omega, fun r => by rw [Nat.zero_testBit]; exact ⟨fun z => absurd z (by decide), fun z => by obtain ⟨i, hi, -⟩ := z; omega⟩⟩, i_pr h1 hm, zWr.refl _ _, fun i hi => by omega, fun k hk => by omega⟩
    (by
      rintro k ⟨v2, v3, v4, x⟩ hk ⟨a1, ⟨M, a2, a3, a4⟩, a5, a6, a7, a8⟩
      dsimp only at a1 a2 a5 a6 a7
      subst a1 a2
      obtain ⟨d1, d2, d3, d4⟩ := dn_c1 hk hm a5
      obtain ⟨q1, q2, q3, q4⟩ := qd_n (B := np) (by omega) (by omega) hc k
      have x7 : zf x 82 7 = nI np := (a6.fld 82 7 (by decide) (by decide)).trans e7
      have n0 : ¬ nI np = 0 := by rw [nI_z0 (by omega)]; omega
      rw [d1] at d2 d3 d4
      obtain ⟨y, ey⟩ : ∃ y, y = zm_si x 89 (m - 1 - k) (nI (qd np c k)) := ⟨_, rfl⟩
      have wy : zWr [89] [] h y := by rw [ey]; exact zWr_si (by decide) a6
      have y89 : zr y 89 (nI (m - 1 - k)) = nI (qd np c k) := by rw [zr_n y 89 (by omega), ey]; exact zm_in _ _ _ _
      have yall : ∀ i, i < k + 1 → y.2.1 89 (m - 1 - i) = nI (qd np c i) := fun i hi => by
        rw [ey, zf_si, if_pos rfl]
        by_cases e : i = k
        · rw [e, if_pos rfl]
        · rw [if_neg (by omega)]; exact a7 i (by omega)
      have stp := dst_s (np := np) (c := c) (k := k)
      show f_Ground_setTrial_l12_b_ok (nI (qv np c k)) (nI M) v4 x ∧ _
      unfold f_Ground_setTrial_l12_b f_Ground_setTrial_l12_b_ok
      dsimp only
      rw [d1, if_neg d2, x7, if_neg n0, if_neg n0, q1, q2, zs_n _ 89 _ (by omega), ← ey, y89]
      have bt := b_s1 a3 (show qd np c k < 10 by omega)
      obtain ⟨s1, s2⟩ := b_s2 a3 (show qd np c k < 10 by omega)
      have tr : ((nI np = 0 → True) ∧ (¬ nI np = 0 → ¬ nI np = 0)) := ⟨fun _ => trivial, fun z => z⟩
      by_cases c3 : ((nI M >>> (nI (qd np c k) &&& 31)) &&& 1) = 0
      · rw [if_pos c3]
        have c4 := bt.mp c3
        have nn : ∀ i, i < k → ¬ qd np c i = qd np c k := fun i hi z => by
          have := (a4 (qd np c k)).mpr ⟨i, hi, z⟩
          rw [c4] at this; cases this
        rw [s1]
        refine ⟨⟨fun z => absurd z d2, fun _ => ⟨tr, d4, tr, d4, fun _ => d4, fun _ => trivial⟩⟩, Or.inl ⟨rfl, rfl, ⟨_, rfl, s2, fun r => ?_⟩, d3, wy, yall, stp.mpr ⟨a8, nn⟩⟩⟩
        rw [b_s3, a4]
        constructor
        · rintro (⟨i, hi, z⟩ | z)
          · exact ⟨i, by omega, z⟩
          · exact ⟨k, by omega, z⟩
        · rintro ⟨i, hi, z⟩
          by_cases e : i = k
          · rw [e] at z; exact Or.inr z
          · exact Or.inl ⟨i, by omega, z⟩
      · rw [if_neg c3]
        have c4 : M.testBit (qd np c k) = true := by
          cases hb : M.testBit (qd np c k)
          · exact absurd (bt.mpr hb) c3
          · rfl
        obtain ⟨i, hi, z⟩ := (a4 _).mp c4
        exact ⟨⟨fun z => absurd z d2, fun _ => ⟨tr, d4, tr, d4, fun z => absurd z c3, fun _ => trivial⟩⟩, Or.inr ⟨by simp, Or.inl ⟨rfl, fun y => y k hk i hi z⟩⟩⟩)
    (by
      rintro ⟨v2, v3, v4, x⟩ ⟨a1, -, a5, a6, a7, a8⟩
      dsimp only at a1 a5 a6 a7
      subst a1
      have d0 := dn_c0 a5
      show f_Ground_setTrial_l12_b_ok (nI (qv np c m)) v3 v4 x ∧ _
      unfold f_Ground_setTrial_l12_b f_Ground_setTrial_l12_b_ok
      dsimp only
      rw [if_pos d0]
      exact ⟨⟨fun _ => trivial, fun z => absurd d0 z⟩, by simp, Or.inr ⟨by simp, a8, a7⟩⟩)
  obtain ⟨k1, k2⟩ := key
  obtain ⟨r, er⟩ : ∃ r, r = f_Ground_setTrial_l12 F (nI c, 0, nI m - 1, h) := ⟨_, rfl⟩
  have k2 : (r.1 = 1 ∧ ¬ dst np c m) ∨ (¬ r.1 = 1 ∧ dst np c m ∧ ∀ i, i < m → r.2.2.2.2.2.1 89 (m - 1 - i) = nI (qd np c i)) := by rw [er]; exact k2
  rw [← er]
  unfold f_Ground_setTrial_a12 f_Ground_setTrial_a12_ok f_Ground_setTrial_k73 f_Ground_setTrial_k93
  refine ⟨⟨k1, fun _ => trivial, fun _ => trivial⟩, ?_⟩
  rcases k2 with ⟨z1, z2⟩ | ⟨z1, z2, z3⟩
  · rw [if_pos z1]; exact Or.inl ⟨rfl, z2⟩
  · rw [if_neg z1]
    refine Or.inr ⟨(by decide : ¬ (1 : Int32) = 0), z2, fun i hi => ?_⟩
    have := z3 (m - 1 - i) (by omega)
    rw [show m - 1 - (m - 1 - i) = i by omega] at this
    exact this
theorem io_N {np m nl : Nat} (hnp2 : np ≤ 8) (hm : m ≤ 3) {h : zm_H} (Q : I_ln nl h) (e9 : zf h 82 9 = nI m) {ix P : Nat → Nat} (e89 : ∀ i, i < m → ix i < np ∧ h.2.1 89 i = nI (ix i)) (e86 : ∀ k, k < np → h.2.1 86 k = nI (P k)) (day : Int32) : f_Ground_isOpen_ok day h ∧ (f_Ground_isOpen day h = 0 ↔ ¬ ∀ i, i < m → ¬ sht (h.2.1 115) (h.2.1 116) (h.2.1 117) nl (nI (P (ix i)) / 10) day ∧ tkn (vC 38 h) (nI (P (ix i))) 10 = false) := by
  obtain ⟨G, eG⟩ : ∃ G : Nat → Prop, G = fun i => ¬ sht (h.2.1 115) (h.2.1 116) (h.2.1 117) nl (nI (P (ix i)) / 10) day ∧ tkn (vC 38 h) (nI (P (ix i))) 10 = false := ⟨_, rfl⟩
  have eG2 : (∀ i, i < m → ¬ sht (h.2.1 115) (h.2.1 116) (h.2.1 117) nl (nI (P (ix i)) / 10) day ∧ tkn (vC 38 h) (nI (P (ix i))) 10 = false) ↔ ∀ i, i < m → G i := by rw [eG]
  rw [eG2]
  unfold f_Ground_isOpen_ok f_Ground_isOpen
  obtain ⟨F, eF, -⟩ := zF_ex
  rw [← eF]
  have key := zlpF eF (b := fun t => f_Ground_isOpen_l2_b day t h) (o := fun t => f_Ground_isOpen_l2_b_ok day t h) m (by omega)
    (fun k t => t = nI k ∧ ∀ i, i < k → G i) (fun r => (r.1 = 1 ∧ ¬ ∀ i, i < m → G i) ∨ (¬ r.1 = 1 ∧ ∀ i, i < m → G i)) 0 ⟨rfl, fun i hi => by omega⟩
    (by
      rintro k t hk ⟨rfl, q⟩
      have g0 : ¬ (zf h 82 9 ≤ nI k) := by rw [e9, nx_le (by omega) (by omega)]; omega
      have ik : vp_in (nI k) 3 := vp_in_nI (by omega) (by omega)
      obtain ⟨i1, i2⟩ := e89 k hk
      have x89 : zr h 89 (nI k) = nI (ix k) := by rw [zr_n h 89 (by omega)]; exact i2
      have x86 : zr h 86 (nI (ix k)) = nI (P (ix k)) := by rw [zr_n h 86 (by omega)]; exact e86 _ i1
      have ij : vp_in (nI (ix k)) 8 := vp_in_nI (by omega) (by omega)
      obtain ⟨s1, s2⟩ := sh_N Q (nI (P (ix k)) / 10) day
      obtain ⟨f1, f2⟩ := fr_37 (h := h) (nI (P (ix k)))
      have gk : G k ↔ ¬ sht (h.2.1 115) (h.2.1 116) (h.2.1 117) nl (nI (P (ix k)) / 10) day ∧ tkn (vC 38 h) (nI (P (ix k))) 10 = false := by rw [eG]
      show f_Ground_isOpen_l2_b_ok day (nI k) h ∧ _
      unfold f_Ground_isOpen_l2_b f_Ground_isOpen_l2_b_ok
      rw [if_neg g0, x89, x86, ← nI_succ]
      refine ⟨⟨fun z => absurd z g0, fun _ => ⟨ik, ij, s1, fun _ => f1, fun _ => trivial⟩⟩, ?_⟩
      by_cases c1 : f_Ground_isShut (nI (P (ix k)) / 10) day h = 0
      · rw [if_pos c1, f2]
        by_cases c2 : tkn (vC 38 h) (nI (P (ix k))) 10 = true
        · rw [if_pos c2, if_pos rfl]
          refine Or.inr ⟨by simp, Or.inl ⟨rfl, fun y => ?_⟩⟩
          have := (gk.mp (y k hk)).2
          rw [c2] at this; cases this
        · rw [if_neg c2, if_neg (by decide)]
          refine Or.inl ⟨rfl, rfl, fun i hi => ?_⟩
          have c3 : tkn (vC 38 h) (nI (P (ix k))) 10 = false := Bool.eq_false_iff.mpr c2
          by_cases e : i = k
          · rw [e]; exact gk.mpr ⟨s2.mp c1, c3⟩
          · exact q i (by omega)
      · rw [if_neg c1]
        exact Or.inr ⟨by simp, Or.inl ⟨rfl, fun y => c1 (s2.mpr (gk.mp (y k hk)).1)⟩⟩)
    (by
      rintro t ⟨rfl, q⟩
      have g0 : zf h 82 9 ≤ nI m := by rw [e9]; exact i_le_r _
      show f_Ground_isOpen_l2_b_ok day (nI m) h ∧ _
      unfold f_Ground_isOpen_l2_b f_Ground_isOpen_l2_b_ok
      rw [if_pos g0]
      exact ⟨⟨fun _ => trivial, fun z => absurd g0 z⟩, by simp, Or.inr ⟨by simp, q⟩⟩)
  obtain ⟨k1, k2⟩ := key
  obtain ⟨r, er⟩ : ∃ r, r = f_Ground_isOpen_l2 day h F 0 := ⟨_, rfl⟩
  have k2 : (r.1 = 1 ∧ ¬ ∀ i, i < m → G i) ∨ (¬ r.1 = 1 ∧ ∀ i, i < m → G i) := by rw [er]; exact k2
  rw [← er]
  unfold f_Ground_isOpen_a2 f_Ground_isOpen_a2_ok f_Ground_isOpen_k45 f_Ground_isOpen_k53
  refine ⟨⟨k1, fun _ => trivial, fun _ => trivial⟩, ?_⟩
  rcases k2 with ⟨z1, z2⟩ | ⟨z1, z2⟩
  · rw [if_pos z1]; exact ⟨fun _ => z2, fun _ => rfl⟩
  · rw [if_neg z1]; exact ⟨fun z => absurd z (by decide), fun z => absurd z2 z⟩
