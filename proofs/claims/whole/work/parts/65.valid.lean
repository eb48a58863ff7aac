/-! ===== what the rafts can be ===== -/
abbrev hld (S : Nat → Nat → Int32) (i : Nat) : Prop := ¬ (S 5 i ≤ 0) ∧ S 7 i = -1
def vOK (nr g : Nat) (S : Nat → Nat → Int32) : Prop :=
  (∀ r, r < 10 → S 0 r = 0 ∨ S 0 r = 1 ∨ S 0 r = 2 ∨ S 0 r = 3) ∧
  (∀ r, r < 10 → (S 0 r = 1 ∨ S 0 r = 2) → ∃ p, p < 100 ∧ p % 10 < 5 ∧ S 1 r = nI p) ∧
  (∀ r, r < 10 → ¬ (S 0 r = 1 ∨ S 0 r = 2) → S 1 r = -1 ∧ ∀ c, c < 3 → ¬ hld S (3 * r + c)) ∧
  (∀ r, nr ≤ r → r < 10 → S 0 r = 0) ∧
  (∀ r q, r < 10 → q < 10 → S 1 r = S 1 q → r = q ∨ S 1 r = -1) ∧
  (∀ r, r < 10 → 0 ≤ (S 2 r).toInt ∧ (S 2 r).toInt ≤ g ∧ 0 ≤ (S 3 r).toInt ∧ (S 3 r).toInt ≤ 288000) ∧
  (∀ i, i < 30 → (S 5 i = 0 ∨ (10 ≤ (S 5 i).toInt ∧ (S 5 i).toInt ≤ 5000)) ∧ 0 ≤ (S 6 i).toInt ∧ (S 6 i).toInt ≤ 100 * (S 5 i).toInt + 99 ∧ (S 7 i = -1 ∨ ∃ t, t < 480 ∧ S 7 i = nI t))
theorem rnw_at (S : Nat → Nat → Int32) (r c : Nat) (s : Int32) (i k : Nat) : rnw S r c s i k = if i = 7 ∧ k = 3 * r + c then -1 else if i = 6 ∧ k = 3 * r + c then 0 else if i = 5 ∧ k = 3 * r + c then s else S i k := by
  unfold rnw
  simp only [zu_at]
  repeat' split
  all_goals first | rfl | (exfalso; omega)
theorem rnw3_at (S : Nat → Nat → Int32) (r : Nat) (s : Int32) (i k : Nat) : rnw3 S r s i k = if i = 7 ∧ k / 3 = r then -1 else if i = 6 ∧ k / 3 = r then 0 else if i = 5 ∧ k / 3 = r then s else S i k := by
  unfold rnw3
  simp only [rnw_at]
  by_cases h : k / 3 = r
  · rcases (show k = 3 * r + 0 ∨ k = 3 * r + 1 ∨ k = 3 * r + 2 by omega) with e | e | e <;> subst e <;> simp [h] <;> (repeat' split) <;> first | rfl | (exfalso; omega)
  · have n0 : ¬ k = 3 * r := by omega
    have n1 : ¬ k = 3 * r + 1 := by omega
    have n2 : ¬ k = 3 * r + 2 := by omega
    simp [h, n0, n1, n2]
theorem nI_nm1 {p : Nat} (hp : p < 2147483648) : ¬ nI p = -1 := by rw [i_eq, i_nI hp, i_m1]; omega
theorem vOK_tk {nr g : Nat} {S : Nat → Nat → Int32} (V : vOK nr g S) {p : Nat} (hp : p < 100) (hnr : nr ≤ 10) : tkn S (nI p) nr = tkn S (nI p) 10 := by
  obtain ⟨-, -, v3, v4, -⟩ := V
  apply Bool.eq_iff_iff.mpr
  rw [tkn_iff, tkn_iff]
  constructor
  · rintro ⟨q, h1, h2⟩; exact ⟨q, by omega, h2⟩
  · rintro ⟨q, h1, h2⟩
    refine ⟨q, ?_, h2⟩
    rcases (show q < nr ∨ nr ≤ q by omega) with z | z
    · exact z
    · exfalso
      have e0 := v4 q z h1
      have := (v3 q h1 (by rw [e0]; decide)).1
      rw [this] at h2
      exact nI_nm1 (by omega) h2.symm
/-- what a THING must be -/
def thOK (nr : Nat) (kd : Int32) (r : Nat) (p s : Int32) : Prop := r < nr ∧ ((kd = 5 ∧ (∃ q, q < 100 ∧ q % 10 < 5 ∧ p = nI q) ∧ 10 ≤ s.toInt ∧ s.toInt ≤ 5000) ∨ kd = 4 ∨ kd = 3 ∨ ((∃ c, c < 3 ∧ kd = nI c) ∧ 10 ≤ s.toInt ∧ s.toInt ≤ 5000))
theorem vOK_dot {nr g : Nat} (hnr : nr ≤ 10) {S : Nat → Nat → Int32} (V : vOK nr g S) {kd : Int32} {r : Nat} {p s : Int32} (T : thOK nr kd r p s) (D : dbl S kd r p = true) : vOK nr g (dot S kd r p s) := by
  obtain ⟨v1, v2, v3, v4, v5, v6, v7⟩ := id V
  obtain ⟨hr, T⟩ := T
  unfold dbl at D
  unfold dot
  rcases T with ⟨rfl, ⟨q, hq, hq5, rfl⟩, s1, s2⟩ | rfl | rfl | ⟨⟨c, hc, rfl⟩, s1, s2⟩
  · rw [if_pos rfl] at D ⊢
    rw [Bool.and_eq_true, decide_eq_true_eq, Bool.not_eq_true'] at D
    have nt : ∀ x, x < 10 → ¬ S 1 x = nI q := fun x hx z => by
      have := (tkn_iff S (nI q) 10).mpr ⟨x, hx, z⟩
      rw [D.2] at this; cases this
    obtain ⟨X, eX⟩ : ∃ X, X = rnw3 (zm_u (zm_u S 0 r 1) 1 r (nI q)) r s := ⟨_, rfl⟩
    have x0 : ∀ x, X 0 x = if x = r then 1 else S 0 x := fun x => by rw [eX, rnw3_at]; simp [zu_at]
    have x1 : ∀ x, X 1 x = if x = r then nI q else S 1 x := fun x => by rw [eX, rnw3_at]; simp [zu_at]
    have x2 : ∀ x, X 2 x = S 2 x := fun x => by rw [eX, rnw3_at]; simp [zu_at]
    have x3' : ∀ x, X 3 x = S 3 x := fun x => by rw [eX, rnw3_at]; simp [zu_at]
    have x5 : ∀ x, X 5 x = if x / 3 = r then s else S 5 x := fun x => by rw [eX, rnw3_at]; simp [zu_at]
    have x6 : ∀ x, X 6 x = if x / 3 = r then 0 else S 6 x := fun x => by rw [eX, rnw3_at]; simp [zu_at]
    have x7 : ∀ x, X 7 x = if x / 3 = r then -1 else S 7 x := fun x => by rw [eX, rnw3_at]; simp [zu_at]
    rw [← eX]
    refine ⟨?_, ?_, ?_, ?_, ?_, ?_, ?_⟩
    · intro x hx
      rw [x0]
      by_cases e : x = r
      · rw [if_pos e]; exact Or.inr (Or.inl rfl)
      · rw [if_neg e]; exact v1 x hx
    · intro x hx
      rw [x0, x1]
      by_cases e : x = r
      · rw [if_pos e, if_pos e]; exact fun _ => ⟨q, hq, hq5, rfl⟩
      · rw [if_neg e, if_neg e]; exact v2 x hx
    · intro x hx
      rw [x0, x1]
      by_cases e : x = r
      · rw [if_pos e]; exact fun z => absurd (Or.inl rfl) z
      · rw [if_neg e, if_neg e]
        intro z
        refine ⟨(v3 x hx z).1, fun c hc y => ?_⟩
        have := (v3 x hx z).2 c hc
        unfold hld at y
        rw [x5, x7, if_neg (by omega), if_neg (by omega)] at y
        exact this y
    · intro x hx hx2
      rw [x0, if_neg (by omega)]; exact v4 x hx hx2
    · intro x y hx hy
      rw [x1, x1]
      by_cases e : x = r
      · rw [if_pos e]
        by_cases e2 : y = r
        · intro _; exact Or.inl (by omega)
        · rw [if_neg e2]; intro z; exact absurd z.symm (nt y hy)
      · rw [if_neg e]
        by_cases e2 : y = r
        · rw [if_pos e2]; intro z; exact absurd z (nt x hx)
        · rw [if_neg e2]; exact v5 x y hx hy
    · intro x hx
      rw [x2, x3']; exact v6 x hx
    · intro x hx
      rw [x5, x6, x7]
      by_cases e : x / 3 = r
      · rw [if_pos e, if_pos e, if_pos e]
        exact ⟨Or.inr ⟨s1, s2⟩, by decide, by rw [i_0]; omega, Or.inl rfl⟩
      · rw [if_neg e, if_neg e, if_neg e]; exact v7 x hx
  · rw [if_neg (by decide), if_pos rfl]
    obtain ⟨X, eX⟩ : ∃ X, X = rnw3 (zm_u (zm_u S 0 r 0) 1 r (-1)) r 0 := ⟨_, rfl⟩
    have x0 : ∀ x, X 0 x = if x = r then 0 else S 0 x := fun x => by rw [eX, rnw3_at]; simp [zu_at]
    have x1 : ∀ x, X 1 x = if x = r then -1 else S 1 x := fun x => by rw [eX, rnw3_at]; simp [zu_at]
    have x2 : ∀ x, X 2 x = S 2 x := fun x => by rw [eX, rnw3_at]; simp [zu_at]
    have x3' : ∀ x, X 3 x = S 3 x := fun x => by rw [eX, rnw3_at]; simp [zu_at]
    have x5 : ∀ x, X 5 x = if x / 3 = r then 0 else S 5 x := fun x => by rw [eX, rnw3_at]; simp [zu_at]
    have x6 : ∀ x, X 6 x = if x / 3 = r then 0 else S 6 x := fun x => by rw [eX, rnw3_at]; simp [zu_at]
    have x7 : ∀ x, X 7 x = if x / 3 = r then -1 else S 7 x := fun x => by rw [eX, rnw3_at]; simp [zu_at]
    rw [← eX]
    refine ⟨?_, ?_, ?_, ?_, ?_, ?_, ?_⟩
    · intro x hx
      rw [x0]
      by_cases e : x = r
      · rw [if_pos e]; exact Or.inl rfl
      · rw [if_neg e]; exact v1 x hx
    · intro x hx
      rw [x0, x1]
      by_cases e : x = r
      · rw [if_pos e, if_pos e]; exact fun z => absurd z (by decide)
      · rw [if_neg e, if_neg e]; exact v2 x hx
    · intro x hx
      rw [x0, x1]
      by_cases e : x = r
      · rw [if_pos e, if_pos e]
        refine fun _ => ⟨rfl, fun c hc y => ?_⟩
        unfold hld at y
        rw [x5, if_pos (by omega)] at y
        exact y.1 (by decide)
      · rw [if_neg e, if_neg e]
        intro z
        refine ⟨(v3 x hx z).1, fun c hc y => ?_⟩
        have := (v3 x hx z).2 c hc
        unfold hld at y
        rw [x5, x7, if_neg (by omega), if_neg (by omega)] at y
        exact this y
    · intro x hx hx2
      rw [x0, if_neg (by omega)]; exact v4 x hx hx2
    · intro x y hx hy
      rw [x1, x1]
      by_cases e : x = r
      · rw [if_pos e]; exact fun _ => Or.inr rfl
      · rw [if_neg e]
        by_cases e2 : y = r
        · rw [if_pos e2]; exact fun z => Or.inr z
        · rw [if_neg e2]; exact v5 x y hx hy
    · intro x hx
      rw [x2, x3']; exact v6 x hx
    · intro x hx
      rw [x5, x6, x7]
      by_cases e : x / 3 = r
      · rw [if_pos e, if_pos e, if_pos e]
        exact ⟨Or.inl rfl, by decide, by decide, Or.inl rfl⟩
      · rw [if_neg e, if_neg e, if_neg e]; exact v7 x hx
  · rw [if_neg (by decide), if_neg (by decide), if_pos rfl]
    have x2 : ∀ i x, ¬ i = 2 → zm_u S 2 r 0 i x = S i x := fun i x hi => by rw [zu_at, if_neg hi]
    refine ⟨?_, ?_, ?_, ?_, ?_, ?_, ?_⟩
    · intro x hx; rw [x2 0 x (by decide)]; exact v1 x hx
    · intro x hx; rw [x2 0 x (by decide), x2 1 x (by decide)]; exact v2 x hx
    · intro x hx; rw [x2 0 x (by decide), x2 1 x (by decide)]
      intro z
      refine ⟨(v3 x hx z).1, fun c hc y => (v3 x hx z).2 c hc ?_⟩
      unfold hld at y ⊢
      rw [x2 5 _ (by decide), x2 7 _ (by decide)] at y
      exact y
    · intro x hx hx2; rw [x2 0 x (by decide)]; exact v4 x hx hx2
    · intro x y hx hy; rw [x2 1 x (by decide), x2 1 y (by decide)]; exact v5 x y hx hy
    · intro x hx
      rw [x2 3 x (by decide), zu_at, if_pos rfl]
      by_cases e : x = r
      · rw [if_pos e]; have := v6 x hx; rw [i_0]; omega
      · rw [if_neg e]; exact v6 x hx
    · intro x hx
      rw [x2 5 x (by decide), x2 6 x (by decide), x2 7 x (by decide)]; exact v7 x hx
  · have n5 : ¬ (nI c = 5) := fun z => by have := nI_inj (by omega) (by omega) (show nI c = nI 5 from z); omega
    have n4 : ¬ (nI c = 4) := fun z => by have := nI_inj (by omega) (by omega) (show nI c = nI 4 from z); omega
    have n3 : ¬ (nI c = 3) := fun z => by have := nI_inj (by omega) (by omega) (show nI c = nI 3 from z); omega
    rw [if_neg n5, if_neg n4, decide_eq_true_eq] at D
    rw [if_neg n5, if_neg n4, if_neg n3, nI_c (by omega)]
    obtain ⟨X, eX⟩ : ∃ X, X = rnw S r c s := ⟨_, rfl⟩
    have xo : ∀ i x, i < 5 → X i x = S i x := fun i x hi => by rw [eX, rnw_at, if_neg (by omega), if_neg (by omega), if_neg (by omega)]
    have x5 : ∀ x, X 5 x = if x = 3 * r + c then s else S 5 x := fun x => by rw [eX, rnw_at]; simp
    have x6 : ∀ x, X 6 x = if x = 3 * r + c then 0 else S 6 x := fun x => by rw [eX, rnw_at]; simp
    have x7 : ∀ x, X 7 x = if x = 3 * r + c then -1 else S 7 x := fun x => by rw [eX, rnw_at]; simp
    rw [← eX]
    refine ⟨?_, ?_, ?_, ?_, ?_, ?_, ?_⟩
    · intro x hx; rw [xo 0 x (by omega)]; exact v1 x hx
    · intro x hx; rw [xo 0 x (by omega), xo 1 x (by omega)]; exact v2 x hx
    · intro x hx; rw [xo 0 x (by omega), xo 1 x (by omega)]
      intro z
      refine ⟨(v3 x hx z).1, fun d hd y => (v3 x hx z).2 d hd ?_⟩
      have ne : ¬ 3 * x + d = 3 * r + c := fun w => by
        have : x = r := by omega
        subst this; exact z D
      unfold hld at y ⊢
      rw [x5, x7, if_neg ne, if_neg ne] at y
      exact y
    · intro x hx hx2; rw [xo 0 x (by omega)]; exact v4 x hx hx2
    · intro x y hx hy; rw [xo 1 x (by omega), xo 1 y (by omega)]; exact v5 x y hx hy
    · intro x hx; rw [xo 2 x (by omega), xo 3 x (by omega)]; exact v6 x hx
    · intro x hx
      rw [x5, x6, x7]
      by_cases e : x = 3 * r + c
      · rw [if_pos e, if_pos e, if_pos e]
        exact ⟨Or.inr ⟨s1, s2⟩, by decide, by rw [i_0]; omega, Or.inl rfl⟩
      · rw [if_neg e, if_neg e, if_neg e]; exact v7 x hx
