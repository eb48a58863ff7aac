/-! ===== laying: both together ===== -/
theorem crG_x {nr : Nat} {S T : Nat → Int32} {D m : Nat} (e : ∀ r, r < 10 → S r = T r) : crG nr S D m ↔ crG nr T D m := by
  have l10 : ∀ i, qd 10 D i < 10 := fun i => Nat.mod_lt _ (by omega)
  constructor
  · intro h k hk; obtain ⟨a, b, c⟩ := h k hk; exact ⟨a, by rw [← e _ (l10 k)]; exact b, c⟩
  · intro h k hk; obtain ⟨a, b, c⟩ := h k hk; exact ⟨a, by rw [e _ (l10 k)]; exact b, c⟩
theorem crG_rf {nr : Nat} {S : Nat → Int32} {S2 : Nat → Nat → Int32} {D m : Nat} (e : ∀ r, r < 10 → S r = S2 0 r) (G : crG nr S D m) : rfO nr S2 m (fun i => qd 10 D (m - 1 - i)) := by
  have l10 : ∀ i, qd 10 D i < 10 := fun i => Nat.mod_lt _ (by omega)
  refine ⟨fun i hi => ?_, fun i j hi hj q => ?_⟩
  · obtain ⟨a, b, -⟩ := G (m - 1 - i) (by omega)
    exact ⟨a, by rw [← e _ (l10 _)]; exact b⟩
  · rcases (show i = j ∨ i < j ∨ j < i by omega) with z | z | z
    · exact z
    · exact absurd q.symm ((G (m - 1 - i) (by omega)).2.2 (m - 1 - j) (by omega))
    · exact absurd q ((G (m - 1 - j) (by omega)).2.2 (m - 1 - i) (by omega))
def lyA (p2 p3 p4 p5 : Int32) : Prop := ¬ (p2 < 1) ∧ ¬ (3 < p2) ∧ ¬ (p5 < (-1)) ∧ ¬ (p2 ≤ p5) ∧ ¬ (p4 < 0) ∧ p4 ≤ 100 ∧ ¬ (p3 < 0) ∧ (¬ ((p3 / 1000) < 0) ∧ (¬ ((zm_rm p3 1000) < (p3 / 1000)) ∧ (¬ (480 ≤ (zm_rm p3 1000)))))
theorem lyN_no {p1 p2 p3 p4 p5 : Int32} {h : zm_H} (n : ¬ lyA p2 p3 p4 p5) : f_N_laying p1 p2 p3 p4 p5 h = (-1, h) := by
  unfold f_N_laying
  by_cases c1 : p2 < 1
  · rw [if_pos c1]
  rw [if_neg c1]
  by_cases c2 : 3 < p2
  · rw [if_pos c2]
  rw [if_neg c2]
  by_cases c3 : p5 < (-1)
  · rw [if_pos c3]
  rw [if_neg c3]
  by_cases c4 : p2 ≤ p5
  · rw [if_pos c4]
  rw [if_neg c4]
  by_cases c5 : p4 < 0
  · rw [if_pos c5]
  rw [if_neg c5]
  by_cases c6 : p4 ≤ 100
  · rw [if_pos c6]
    by_cases c7 : p3 < 0
    · rw [if_pos c7]
    rw [if_neg c7, if_neg (fun c8 => n ⟨c1, c2, c3, c4, c5, c6, c7, c8⟩)]
  · rw [if_neg c6]
def lyC (p1 p2 p3 p4 p5 : Int32) : Prop := ¬ (p1 < 0) ∧ (¬ (p2 < 1) ∧ (¬ (3 < p2))) ∧ ¬ (p3 < 0) ∧ (¬ ((p3 / 1000) < 0) ∧ (¬ (479 < (p3 / 1000)))) ∧ (¬ ((zm_rm p3 1000) < 0) ∧ (¬ (479 < (zm_rm p3 1000)))) ∧ (¬ (((zm_rm p3 1000) - (p3 / 1000)) < 0) ∧ (¬ (23 < ((zm_rm p3 1000) - (p3 / 1000))))) ∧ (¬ (p4 < 0) ∧ (¬ (100 < p4))) ∧ (¬ (p5 < (-1)) ∧ (¬ ((p2 - 1) < p5)))
theorem lyM_no {p1 p2 p3 p4 p5 : Int32} {h : zm_H} (n : ¬ lyC p1 p2 p3 p4 p5) : f_M_laying p1 p2 p3 p4 p5 h = (-1, h) := by
  unfold f_M_laying
  by_cases c1 : p1 < 0
  · rw [if_pos c1]
  rw [if_neg c1]
  by_cases c2 : ¬ (p2 < 1) ∧ (¬ (3 < p2))
  · rw [if_pos c2]
    by_cases c3 : p3 < 0
    · rw [if_pos c3]
    rw [if_neg c3]
    by_cases c4 : ¬ ((p3 / 1000) < 0) ∧ (¬ (479 < (p3 / 1000)))
    · rw [if_pos c4]
      by_cases c5 : ¬ ((zm_rm p3 1000) < 0) ∧ (¬ (479 < (zm_rm p3 1000)))
      · rw [if_pos c5]
        by_cases c6 : ¬ (((zm_rm p3 1000) - (p3 / 1000)) < 0) ∧ (¬ (23 < ((zm_rm p3 1000) - (p3 / 1000))))
        · rw [if_pos c6]
          by_cases c7 : ¬ (p4 < 0) ∧ (¬ (100 < p4))
          · rw [if_pos c7, if_neg (fun c8 => n ⟨c1, c2, c3, c4, c5, c6, c7, c8⟩)]
          · rw [if_neg c7]
        · rw [if_neg c6]
      · rw [if_neg c5]
    · rw [if_neg c4]
  · rw [if_neg c2]
theorem lyM_ok {p1 p2 p3 p4 p5 : Int32} {h : zm_H} (c : lyC p1 p2 p3 p4 p5 → f_M_laying_l92_ok p2 p3 p4 p5 zF (p1, (p2 - 1), h) ∧ f_M_laying_a92_ok p2 p3 p4 p5 (f_M_laying_l92 p2 p3 p4 p5 zF (p1, (p2 - 1), h))) : f_M_laying_ok p1 p2 p3 p4 p5 h := by
  unfold f_M_laying_ok
  exact ⟨fun _ => trivial, fun a1 => ⟨fun a2 => ⟨fun _ => trivial, fun a3 => ⟨fun a4 => ⟨fun a5 => ⟨fun a6 => ⟨fun a7 => ⟨fun a8 => c ⟨a1, a2, a3, a4, a5, a6, a7, a8⟩, fun _ => trivial⟩, fun _ => trivial⟩, fun _ => trivial⟩, fun _ => trivial⟩, fun _ => trivial⟩⟩, fun _ => trivial⟩⟩
theorem lyM_yes {p1 p2 p3 p4 p5 : Int32} {h : zm_H} (c : lyC p1 p2 p3 p4 p5) : f_M_laying p1 p2 p3 p4 p5 h = f_M_laying_a92 p2 p3 p4 p5 (f_M_laying_l92 p2 p3 p4 p5 zF (p1, (p2 - 1), h)) := by
  obtain ⟨c1, c2, c3, c4, c5, c6, c7, c8⟩ := c
  unfold f_M_laying
  rw [if_neg c1, if_pos c2, if_neg c3, if_pos c4, if_pos c5, if_pos c6, if_pos c7, if_pos c8]
theorem lyN_ok {p1 p2 p3 p4 p5 : Int32} {h : zm_H} (c : lyA p2 p3 p4 p5 → f_Ground_chooseRafts_ok p1 p2 h ∧ (f_N_laying_k70_ok p3 p4 p5 (f_Ground_chooseRafts p1 p2 h).1 (f_Ground_chooseRafts p1 p2 h).2)) : f_N_laying_ok p1 p2 p3 p4 p5 h := by
  unfold f_N_laying_ok
  exact ⟨fun _ => trivial, fun a1 => ⟨fun _ => trivial, fun a2 => ⟨fun _ => trivial, fun a3 => ⟨fun _ => trivial, fun a4 => ⟨fun _ => trivial, fun a5 => ⟨fun a6 => ⟨fun _ => trivial, fun a7 => ⟨fun a8 => c ⟨a1, a2, a3, a4, a5, a6, a7, a8⟩, fun _ => trivial⟩⟩, fun _ => trivial⟩⟩⟩⟩⟩⟩
theorem lyN_yes {p1 p2 p3 p4 p5 : Int32} {h : zm_H} (c : lyA p2 p3 p4 p5) : f_N_laying p1 p2 p3 p4 p5 h = f_N_laying_k70 p3 p4 p5 (f_Ground_chooseRafts p1 p2 h).1 (f_Ground_chooseRafts p1 p2 h).2 := by
  obtain ⟨c1, c2, c3, c4, c5, c6, c7, c8⟩ := c
  unfold f_N_laying
  rw [if_neg c1, if_neg c2, if_neg c3, if_neg c4, if_neg c5, if_pos c6, if_neg c7, if_pos c8]
/-- the numbers that are asked with -/
theorem lyA_n {p2 p3 p4 p5 : Int32} (c : lyA p2 p3 p4 p5) : ∃ m f to, 1 ≤ m ∧ m ≤ 3 ∧ p2 = nI m ∧ f ≤ to ∧ to < 480 ∧ p3 / 1000 = nI f ∧ zm_rm p3 1000 = nI to ∧ (p5 = -1 ∨ ∃ i, i < m ∧ p5 = nI i) := by
  obtain ⟨c1, c2, c3, c4, c5, c6, c7, c8, c9, c10⟩ := c
  have e1000 : (1000 : Int32).toInt = 1000 := rfl
  have e480 : (480 : Int32).toInt = 480 := rfl
  have e3 : (3 : Int32).toInt = 3 := rfl
  rw [i_lt, i_1] at c1
  rw [i_lt, e3] at c2
  rw [i_lt, i_m1] at c3
  rw [i_le] at c4
  rw [i_lt, i_0] at c8
  rw [i_lt] at c9
  rw [i_le, e480] at c10
  obtain ⟨m, hm, em⟩ := i_ex (a := p2) (N := 4) (by omega) (by omega)
  obtain ⟨f, hf, ef⟩ := i_ex (a := p3 / 1000) (N := 480) (by omega) (by omega)
  obtain ⟨to, hto, eto⟩ := i_ex (a := zm_rm p3 1000) (N := 480) (by omega) (by omega)
  rw [ef, eto, i_nI (by omega), i_nI (by omega)] at c9
  rw [em, i_nI (by omega)] at c1 c4
  refine ⟨m, f, to, by omega, by omega, em, by omega, hto, ef, eto, ?_⟩
  by_cases z : p5.toInt = -1
  · exact Or.inl (i_eq.mpr (by rw [z, i_m1]))
  · obtain ⟨i, hi, ei⟩ := i_ex (a := p5) (N := m) (by omega) (by omega)
    exact Or.inr ⟨i, hi, ei⟩
theorem lyC_iff {p1 p2 p3 p4 p5 : Int32} {m f to : Nat} (c : lyA p2 p3 p4 p5) (e2 : p2 = nI m) (h1 : 1 ≤ m) (hm : m ≤ 3) (ef : p3 / 1000 = nI f) (eto : zm_rm p3 1000 = nI to) (hf : f ≤ to) (ht : to < 480) : lyC p1 p2 p3 p4 p5 ↔ 0 ≤ p1.toInt ∧ to - f + 1 ≤ 24 := by
  obtain ⟨c1, c2, c3, c4, c5, c6, c7, c8, c9, c10⟩ := c
  have e23 : (23 : Int32).toInt = 23 := rfl
  have e479 : (479 : Int32).toInt = 479 := rfl
  have a4 : ¬ ((p3 / 1000) < 0) ∧ (¬ (479 < (p3 / 1000))) := by rw [ef, i_lt, i_lt, i_nI (by omega), i_0, e479]; omega
  have a5 : ¬ ((zm_rm p3 1000) < 0) ∧ (¬ (479 < (zm_rm p3 1000))) := by rw [eto, i_lt, i_lt, i_nI (by omega), i_0, e479]; omega
  have dv : zm_rm p3 1000 - p3 / 1000 = nI (to - f) := by rw [ef, eto, pk_sub hf]
  have a6 : (¬ (((zm_rm p3 1000) - (p3 / 1000)) < 0) ∧ (¬ (23 < ((zm_rm p3 1000) - (p3 / 1000))))) ↔ to - f + 1 ≤ 24 := by
    rw [dv, i_lt, i_lt, i_nI (by omega), i_0, e23]; omega
  have a7 : ¬ (p4 < 0) ∧ (¬ (100 < p4)) := by
    refine ⟨c5, ?_⟩
    rw [i_lt]; rw [i_le] at c6; omega
  have a8 : ¬ (p5 < (-1)) ∧ (¬ ((p2 - 1) < p5)) := by
    refine ⟨c3, ?_⟩
    rw [i_le] at c4
    rw [i_lt, i_sub (by rw [e2, i_nI (by omega), i_1]; omega) (by rw [e2, i_nI (by omega), i_1]; omega), i_1]
    omega
  have a1 : ¬ (p1 < 0) ↔ 0 ≤ p1.toInt := by rw [i_lt, i_0]; omega
  unfold lyC
  rw [a6, a1]
  exact ⟨fun z => ⟨z.1, z.2.2.2.2.2.1⟩, fun z => ⟨z.1, ⟨c1, c2⟩, c7, a4, a5, z.2, a7, a8⟩⟩
theorem c_laying {nr w n d nl np : Nat} {h : zm_H} (W : I_now w h) (R : I_rf w nr h) (S : I_sw w n d h) (Q : I_ln nl h) (L : I_pl np h) (U : I_pd np h) {g : GS} (B : I_bk nr w g h) (p1 p2 p3 p4 p5 : Int32) : f_N_laying_ok p1 p2 p3 p4 p5 h ∧ f_M_laying_ok p1 p2 p3 p4 p5 (f_N_laying p1 p2 p3 p4 p5 h).2 ∧ (f_N_laying p1 p2 p3 p4 p5 h).1 = (f_M_laying p1 p2 p3 p4 p5 (f_N_laying p1 p2 p3 p4 p5 h).2).1 ∧ vM 0 (f_M_laying p1 p2 p3 p4 p5 (f_N_laying p1 p2 p3 p4 p5 h).2).2 = vM 0 h := by
  obtain ⟨w1, w2, w3⟩ := W
  have hnr := R.1.1
  have V : vOK nr w g.1 := B.1.1
  have vN : vC 38 h = g.1 := B.2.1.1
  have vMh : vM 0 h = g.1 := B.2.2.1.1
  by_cases A : lyA p2 p3 p4 p5
  · obtain ⟨m, f, to, h1, hm, rfl, hf, ht, ef, eto, h5⟩ := lyA_n A
    have iffC := lyC_iff (p1 := p1) A rfl h1 hm ef eto hf ht
    -- a model on any heap that differs in the class's own cells alone
    have st38 : ∀ r, r < 10 → h.2.1 38 r = g.1 0 r := fun r hr => by rw [← vN]; exact (vC_at (b := 38) (h := h) (i := 0) (by omega) (show r < zsz 0 from hr)).symm
    have st123 : ∀ r, r < 10 → h.2.1 123 r = g.1 0 r := fun r hr => by
      rw [← vMh, vM_at0 hr, show 10 * 0 + r = r by omega]
    obtain ⟨F, eF, -⟩ := zF_ex
    -- the model where nothing can be
    have mod : ∀ y, zWr [32, 33, 34, 35, 36, 87, 88, 89, 90] [(82, 9), (82, 11), (82, 14)] h y → (¬ crP nr (h.2.1 38) p1 m ∨ ¬ to - f + 1 ≤ 24) → f_M_laying_ok p1 (nI m) p3 p4 p5 y ∧ (f_M_laying p1 (nI m) p3 p4 p5 y).1 = -1 ∧ vM 0 (f_M_laying p1 (nI m) p3 p4 p5 y).2 = vM 0 h := by
      intro y wy no
      have yv : vM 0 y = vM 0 h := vM_eq (fun i hi => wy.arr i (by simp at hi ⊢; omega) (by simp at hi ⊢; omega)) (wy.2 127 (by simp)).2.1
      by_cases c : lyC p1 (nI m) p3 p4 p5
      · have c' := iffC.mp c
        have no' : ¬ crP nr (h.2.1 38) p1 m := by
          rcases no with z | z
          · exact z
          · exact absurd c'.2 z
        obtain ⟨k1, k2⟩ := cr_M (h := y) hnr h1 hm ((wy.fld 92 33 (by decide) (by decide)).trans R.1.2.2) c'.1 p3 p4 p5 eF
        rw [wy.arr 123 (by decide) (by decide), crG_x (T := h.2.1 38) (fun r hr => by rw [st123 r hr, st38 r hr])] at k2
        have lw := f_M_laying_l92_w (nI m) p3 p4 p5 F (p1, nI m - 1, y)
        have eY := lyM_yes (h := y) c
        rw [← eF] at eY
        have oY := lyM_ok (p1 := p1) (p2 := nI m) (p3 := p3) (p4 := p4) (p5 := p5) (h := y)
        rw [← eF] at oY
        rw [eY]
        obtain ⟨r, er⟩ : ∃ r, r = f_M_laying_l92 (nI m) p3 p4 p5 F (p1, nI m - 1, y) := ⟨_, rfl⟩
        rw [← er] at k2 lw oY ⊢
        dsimp only at lw
        have rv : vM 0 r.2.2.2 = vM 0 h := by
          rw [← yv]; exact vM_eq (fun i hi => lw.arr i (by simp at hi ⊢; omega) (by simp)) (lw.2 127 (by simp)).2.1
        unfold f_M_laying_a92_ok at oY
        unfold f_M_laying_a92 f_M_laying_k145 f_M_laying_k176
        rcases k2 with ⟨z, -⟩ | ⟨z1, z2, z3, -, -⟩
        · rcases z with z | z
          · rw [if_pos z]
            exact ⟨oY (fun _ => ⟨k1, fun _ => trivial, fun q => absurd z q⟩), rfl, rv⟩
          · have n1 : ¬ r.1 = 1 := by rw [z]; decide
            rw [if_neg n1, if_pos z]
            exact ⟨oY (fun _ => ⟨k1, fun _ => trivial, fun _ => ⟨fun _ => trivial, fun q => absurd z q⟩⟩), rfl, rv⟩
        · have n1 : ¬ r.1 = 1 := by rw [z1]; decide
          have n2 : ¬ r.1 = 2 := by rw [z1]; decide
          have hq : qv 10 p1.toNatClampNeg m < 2147483648 := by
            have h1 := qv_le 10 p1.toNatClampNeg m
            have := i_cl c'.1; have := i_hi p1; omega
          have n3 : ¬ (r.2.1 ≤ 0) := by
            rw [z3, show (0 : Int32) = nI 0 from rfl, nx_le hq (by omega)]
            intro q
            exact no' ⟨c'.1, z2, by omega⟩
          unfold f_M_laying_k190_ok at oY
          unfold f_M_laying_k190
          rw [if_neg n1, if_neg n2, if_neg n3]
          exact ⟨oY (fun _ => ⟨k1, fun _ => trivial, fun _ => ⟨fun _ => trivial, fun _ => ⟨fun q => absurd q n3, fun _ => trivial⟩⟩⟩), rfl, rv⟩
      · rw [lyM_no c]
        exact ⟨lyM_ok (fun z => absurd z c), rfl, yv⟩
    obtain ⟨k1, k2, k3⟩ := cr_N (h := h) hnr h1 hm R.1.2.1 p1
    have oN := lyN_ok (p1 := p1) (p2 := nI m) (p3 := p3) (p4 := p4) (p5 := p5) (h := h)
    have eN := lyN_yes (p1 := p1) (h := h) A
    rw [eN]
    have cw := f_Ground_chooseRafts_w p1 (nI m) h
    obtain ⟨r, er⟩ : ∃ r, r = f_Ground_chooseRafts p1 (nI m) h := ⟨_, rfl⟩
    rw [← er] at k2 k3 cw oN ⊢
    obtain ⟨h2, eh2⟩ : ∃ h2, h2 = r.2 := ⟨_, rfl⟩
    rw [← eh2] at k2 k3 cw oN ⊢
    have w2' : zWr [32, 33, 34, 35, 36, 87, 88, 89, 90] [(82, 9), (82, 11), (82, 14)] h h2 := zWr_tr cw (by decide) (by decide) (zWr.refl _ _)
    unfold f_N_laying_k70_ok at oN
    unfold f_N_laying_k70
    rcases k3 with ⟨a, no⟩ | ⟨a, yes, e87⟩
    · rw [if_pos a]
      obtain ⟨m1, m2, m3⟩ := mod h2 w2' (Or.inl no)
      exact ⟨oN (fun _ => ⟨k1, fun _ => trivial, fun z => absurd a z⟩), m1, m2.symm, m3⟩
    · rw [if_neg a, ef, eto]
      obtain ⟨s1, s2, s3⟩ := cs_N (h := h2) (I_sw_z (w2'.eq (by decide) (by decide)) S) hf ht
      have sw := f_Ground_chooseSpells_w (nI f) (nI to) h2
      rw [ef, eto] at oN
      obtain ⟨q, eq⟩ : ∃ q, q = f_Ground_chooseSpells (nI f) (nI to) h2 := ⟨_, rfl⟩
      rw [← eq] at s2 s3 sw oN ⊢
      obtain ⟨h3, eh3⟩ : ∃ h3, h3 = q.2 := ⟨_, rfl⟩
      rw [← eh3] at s2 sw oN ⊢
      have w3' : zWr [32, 33, 34, 35, 36, 87, 88, 89, 90] [(82, 9), (82, 11), (82, 14)] h h3 := zWr_tr sw (by decide) (by decide) w2'
      unfold f_N_laying_k90_ok at oN
      unfold f_N_laying_k90
      by_cases c24 : to - f + 1 ≤ 24
      · obtain ⟨b1, b2, b3⟩ := s2 c24
        rw [if_neg b1]
        -- the numbers of the search
        obtain ⟨D, eD⟩ : ∃ D, D = p1.toNatClampNeg := ⟨_, rfl⟩
        obtain ⟨rf, erf⟩ : ∃ rf : Nat → Nat, rf = fun i => qd 10 D (m - 1 - i) := ⟨_, rfl⟩
        obtain ⟨P, eP⟩ : ∃ P : Nat → Nat, P = fun k => (h.2.1 148 k).toNatClampNeg := ⟨_, rfl⟩
        obtain ⟨⟨l1, l2, l3⟩, l4, l5⟩ := L
        have ePk : ∀ k, k < np → h.2.1 148 k = nI (P k) ∧ P k < 100 ∧ P k % 10 < 5 := fun k hk => by
          obtain ⟨p, hp1, hp2, ep⟩ := l5 k hk
          have : P k = p := by rw [eP]; dsimp only; rw [ep, nI_c (by omega)]
          rw [this]; exact ⟨ep, hp1, hp2⟩
        have O : plO np P := ⟨fun k hk => (ePk k hk).2, fun i j hi hj e => U i j hi hj (by rw [(ePk i hi).1, (ePk j hj).1, e])⟩
        obtain ⟨seas, eseas⟩ : ∃ seas : Nat → Int32, seas = fun i => seaP h n d (f + i) := ⟨_, rfl⟩
        have RO : rfO nr g.1 m rf := by rw [erf, eD]; exact crG_rf st38 yes.2.1
        obtain ⟨vl, evl⟩ : ∃ vl, vl = vlT nr g.1 m rf np P (fun p => sht (h.2.1 115) (h.2.1 116) (h.2.1 117) nl (nI p / 10) (nI w / 8)) (h.2.1 112) (h.2.1 113) seas (to - f + 1) p4 := ⟨_, rfl⟩
        have v3 : vC 38 h3 = g.1 := by rw [← vN]; exact vC_eq (fun i hi => w3'.arr (38 + i) (by simp; omega) (by simp; omega))
        have e2s : ∀ t, seaP h2 n d t = seaP h n d t := fun t => seaP_eq (fun i hi => w2'.arr i (by simp at hi ⊢; omega) (by simp at hi ⊢; omega)) n d t
        have f24 : h3.2.1 24 = h.2.1 112 := by rw [w3'.arr 24 (by decide) (by decide)]; exact R.2.1.1
        have f25 : h3.2.1 25 = h.2.1 113 := by rw [w3'.arr 25 (by decide) (by decide)]; exact R.2.1.2.1
        obtain ⟨t1, t2, t3⟩ := se_N (h := h3) (nr := nr) (g := w) (m := m) (np := np) (ns := to - f + 1) (nl := nl) (P := P) (rf := rf) (seas := seas) (vl := vl) hnr ((w3'.fld 23 0 (by decide) (by decide)).trans R.1.2.1) (by rw [v3]; exact V) (fun r hr => by rw [f24, f25]; exact ⟨(R.2.2 r hr).1, (R.2.2 r hr).2.1⟩) (I_ln_w w3' (by decide) (by decide) Q) l1 ((w3'.fld 82 7 (by decide) (by decide)).trans l2) O (fun k hk => by rw [w3'.arr 86 (by decide) (by decide), l4]; exact (ePk k hk).1) h1 hm ((sw.fld 82 9 (by decide) (by decide)).trans k2) (by rw [v3]; exact RO) (fun i hi => by rw [sw.arr 87 (by decide) (by decide), erf, eD]; exact e87 i hi) b2 c24 (fun i hi => by rw [eseas, b3 i hi, e2s]) p4 (nI w / 8) (by rw [v3, f24, f25, w3'.arr 115 (by decide) (by decide), w3'.arr 116 (by decide) (by decide), w3'.arr 117 (by decide) (by decide)]; exact evl)
        have e00 : zf h3 0 0 = nI w := (w3'.fld 0 0 (by decide) (by decide)).trans w2
        rw [e00] at oN ⊢
        have tw := f_Ground_search_w p4 (nI w / 8) h3
        obtain ⟨h4, eh4⟩ : ∃ h4, h4 = f_Ground_search p4 (nI w / 8) h3 := ⟨_, rfl⟩
        rw [← eh4] at t2 t3 tw oN ⊢
        have w4' : zWr [32, 33, 34, 35, 36, 87, 88, 89, 90] [(82, 9), (82, 11), (82, 14)] h h4 := zWr_tr tw (by decide) (by decide) w3'
        unfold f_N_laying_k111_ok at oN
        unfold f_N_laying_k111
        rw [t2] at oN ⊢
        have i5 : ¬ p5 = -1 → vp_in p5 3 := fun z => by
          rcases h5 with y | ⟨i, hi, y⟩
          · exact absurd y z
          · rw [y]; exact vp_in_nI (by omega) (by omega)
        have oN' := oN (fun _ => ⟨k1, fun z => absurd z a, fun _ => ⟨s1, fun z => absurd z b1, fun _ => ⟨t1, fun _ => trivial, fun z => ⟨fun _ => trivial, fun _ => i5 z⟩⟩⟩⟩)
        refine ⟨oN', ?_⟩
        dsimp only
        -- the model on h4
        have c : lyC p1 (nI m) p3 p4 p5 := iffC.mpr ⟨yes.1, c24⟩
        have yv : vM 0 h4 = g.1 := by
          rw [← vMh]; exact vM_eq (fun i hi => w4'.arr i (by simp at hi ⊢; omega) (by simp at hi ⊢; omega)) (w4'.2 127 (by simp)).2.1
        obtain ⟨m1, m2⟩ := cr_M (h := h4) hnr h1 hm ((w4'.fld 92 33 (by decide) (by decide)).trans R.1.2.2) yes.1 p3 p4 p5 eF
        rw [w4'.arr 123 (by decide) (by decide), crG_x (T := h.2.1 38) (fun r hr => by rw [st123 r hr, st38 r hr])] at m2
        have eY := lyM_yes (h := h4) c
        rw [← eF] at eY
        have oY := lyM_ok (p1 := p1) (p2 := nI m) (p3 := p3) (p4 := p4) (p5 := p5) (h := h4)
        rw [← eF] at oY
        rw [eY]
        obtain ⟨r', er'⟩ : ∃ r', r' = f_M_laying_l92 (nI m) p3 p4 p5 F (p1, nI m - 1, h4) := ⟨_, rfl⟩
        rw [← er'] at m2 oY ⊢
        rcases m2 with ⟨-, z⟩ | ⟨z1, z2, z3, z4, z5⟩
        · exact absurd yes.2.1 z
        · have n1 : ¬ r'.1 = 1 := by rw [z1]; decide
          have n2 : ¬ r'.1 = 2 := by rw [z1]; decide
          have n3 : r'.2.1 ≤ 0 := by rw [z3, yes.2.2]; exact i_le_r _
          unfold f_M_laying_a92_ok f_M_laying_k190_ok at oY
          unfold f_M_laying_a92 f_M_laying_k190
          rw [← eF] at oY
          rw [if_neg n1, if_neg n2, if_pos n3, ← eF]
          obtain ⟨h6, eh6⟩ : ∃ h6, h6 = r'.2.2.2 := ⟨_, rfl⟩
          rw [← eh6] at z4 z5 oY ⊢
          have e75 : zf h6 92 75 = nI np := ((z4.fld 92 75 (by decide) (by decide)).trans (w4'.fld 92 75 (by decide) (by decide))).trans l3
          obtain ⟨o1, o2⟩ := pr_M (h := h6) l1 hm e75 p3 p4 p5 r'.2.1 eF
          obtain ⟨r3, er3⟩ : ∃ r3, r3 = f_M_laying_l203 (nI m) p3 p4 p5 r'.2.1 h6 F (1, 0) := ⟨_, rfl⟩
          rw [← er3] at o2 oY ⊢
          unfold f_M_laying_a203_ok at oY
          unfold f_M_laying_a203
          rw [o2] at oY ⊢
          have x6 : ∀ i, i ≠ 159 → (∀ j ∈ [32, 33, 34, 35, 36, 87, 88, 89, 90, 82], j ≠ i) → h6.2.1 i = h.2.1 i := fun i hi hj => by
            rw [z4.arr i (by simp; exact hi) (by simp), w4'.arr i (by simp at hj ⊢; omega) (by simp at hj ⊢; omega)]
          have v6 : vM 0 h6 = g.1 := by
            rw [← yv]; exact vM_eq (fun i hi => z4.arr i (by simp at hi ⊢; omega) (by simp)) (z4.2 127 (by simp)).2.1
          have e112 := x6 112 (by decide) (by decide)
          have e113 := x6 113 (by decide) (by decide)
          have e115 := x6 115 (by decide) (by decide)
          have e116 := x6 116 (by decide) (by decide)
          have e117 := x6 117 (by decide) (by decide)
          have e148 := x6 148 (by decide) (by decide)
          have e6s : ∀ t, seaP h6 n d t = seaP h n d t := fun t => seaP_eq (fun i hi => x6 i (by simp at hi ⊢; omega) (by simp at hi ⊢; omega)) n d t
          obtain ⟨y1, y2, y3⟩ := sm_M (h := h6) (nr := nr) (g := w) (m := m) (np := np) (ns := to - f + 1) (nl := nl) (w := w) (n := n) (d := d) (f := f) (to := to) (P := P) (rf := rf) (v3 := p3) (seas := seas) (v5 := p5) (vl := vl) hnr w1 (((z4.fld 92 33 (by decide) (by decide)).trans (w4'.fld 92 33 (by decide) (by decide))).trans R.1.2.2) (by rw [v6]; exact V) (fun r hr => by rw [e112, e113]; exact ⟨(R.2.2 r hr).1, (R.2.2 r hr).2.1⟩) (I_ln_w z4 (by decide) (by decide) (I_ln_w w4' (by decide) (by decide) Q)) l1 e75 O (fun k hk => by rw [e148]; exact (ePk k hk).1) h1 hm (by rw [v6]; exact RO) (fun i hi => by rw [erf, eD]; exact z5 i hi) (I_sw_z (z4.eq (by decide) (by decide)) (I_sw_z (w4'.eq (by decide) (by decide)) S)) (((z4.fld 92 23 (by decide) (by decide)).trans (w4'.fld 92 23 (by decide) (by decide))).trans w3) ef eto ht (by omega) (fun i hi => by rw [e6s, eseas]) p4 h5 (by rw [v6, e112, e113, e115, e116, e117]; exact evl)
          refine ⟨oY (fun _ => ⟨m1, fun _ => trivial, fun _ => ⟨fun _ => trivial, fun _ => ⟨fun _ => ⟨o1, y1⟩, fun z => absurd n3 z⟩⟩⟩), ?_, ?_⟩
          · rw [y2]
            by_cases d2 : p5 = -1
            · rw [if_pos d2]
              by_cases d1 : lyB vl (pw np m) = -1
              · rw [if_pos d1]; exact d1
              · rw [if_neg d1, if_pos d2]
            · rw [if_neg d2]
              by_cases d1 : lyB vl (pw np m) = -1
              · rw [if_pos d1, if_pos d1]; exact d1
              · rw [if_neg d1, if_neg d1, if_neg d2]
                rcases h5 with y | ⟨i, hi, y⟩
                · exact absurd y d2
                · rw [y, zr_n h4 90 (by omega), nI_c (by omega)]
                  exact t3 d1 i hi
          · rw [y3, v6, vMh]
      · have b1 := s3 c24
        rw [if_pos b1]
        obtain ⟨m1, m2, m3⟩ := mod h3 w3' (Or.inr c24)
        exact ⟨oN (fun _ => ⟨k1, fun z => absurd z a, fun _ => ⟨s1, fun _ => trivial, fun z => absurd b1 z⟩⟩), m1, m2.symm, m3⟩
  · have nC : ¬ lyC p1 p2 p3 p4 p5 := by
      intro z
      obtain ⟨a1, a2, a3, a4, a5, a6, a7, a8⟩ := z
      have e479 : (479 : Int32).toInt = 479 := rfl
      have e480 : (480 : Int32).toInt = 480 := rfl
      have e100 : (100 : Int32).toInt = 100 := rfl
      have e3 : (3 : Int32).toInt = 3 := rfl
      have b2 := a2
      rw [i_lt, i_lt, i_1, e3] at b2
      have b4 := a4
      rw [i_lt, i_lt, i_0, e479] at b4
      have b5 := a5
      rw [i_lt, i_lt, i_0, e479] at b5
      have b6 := a6.1
      rw [i_lt, i_0, i_sub (by omega) (by omega)] at b6
      have b8 := a8.2
      rw [i_lt, i_sub (by rw [i_1]; omega) (by rw [i_1]; omega), i_1] at b8
      refine A ⟨a2.1, a2.2, a8.1, ?_, a7.1, ?_, a3, a4.1, ?_, ?_⟩
      · rw [i_le]; omega
      · have := a7.2
        rw [i_lt] at this
        rw [i_le]; omega
      · rw [i_lt]; omega
      · rw [i_le, e480]; omega
    rw [lyN_no A]
    dsimp only
    rw [lyM_no nC]
    exact ⟨lyN_ok (fun z => absurd z A), lyM_ok (fun z => absurd z nC), rfl, rfl⟩
