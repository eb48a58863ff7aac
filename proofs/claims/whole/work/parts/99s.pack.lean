/-! ===== a PLAN: sets of JOBS put into WINDOWS, without cells ===== -/
def eqb (a b : Nat) : Bool := decide (a = b)
def ltb (a b : Nat) : Bool := decide (a < b)
theorem eqb_t {a b : Nat} : eqb a b = true ↔ a = b := decide_eq_true_iff
theorem ltb_t {a b : Nat} : ltb a b = true ↔ a < b := decide_eq_true_iff
theorem eqb_f {a b : Nat} : eqb a b = false ↔ ¬ a = b := decide_eq_false_iff_not
theorem ltb_f {a b : Nat} : ltb a b = false ↔ ¬ a < b := decide_eq_false_iff_not
def sm (L : Nat → Nat) (P : Nat → Bool) : Nat → Nat
  | 0 => 0
  | j + 1 => sm L P j + (if P j = true then L j else 0)
theorem sm_ext {L : Nat → Nat} {P Q : Nat → Bool} : ∀ J, (∀ i, i < J → P i = Q i) → sm L P J = sm L Q J := by
  intro J
  induction J with
  | zero => intro _; rfl
  | succ J ih => intro h; rw [sm, sm, ih (fun i hi => h i (by omega)), h J (by omega)]
theorem sm_le {L : Nat → Nat} {P : Nat → Bool} {B : Nat} : ∀ J, (∀ i, i < J → L i ≤ B) → sm L P J ≤ B * J := by
  intro J
  induction J with
  | zero => intro _; exact Nat.le_refl 0
  | succ J ih =>
    intro h
    have a := ih (fun i hi => h i (by omega))
    have b := h J (by omega)
    rw [sm, Nat.mul_succ]
    split <;> omega
theorem sm_0 {L : Nat → Nat} {P : Nat → Bool} : ∀ J, (∀ i, i < J → P i = false) → sm L P J = 0 := by
  intro J
  induction J with
  | zero => intro _; rfl
  | succ J ih => intro h; rw [sm, ih (fun i hi => h i (by omega)), h J (by omega)]; rfl
/-- two sets without a common one -/
theorem sm_add {L : Nat → Nat} {P Q T : Nat → Bool} : ∀ J, (∀ i, i < J → T i = (P i || Q i) ∧ ¬ (P i = true ∧ Q i = true)) → sm L T J = sm L P J + sm L Q J := by
  intro J
  induction J with
  | zero => intro _; rfl
  | succ J ih =>
    intro h
    obtain ⟨a, b⟩ := h J (by omega)
    rw [sm, sm, sm, ih (fun i hi => h i (by omega)), a]
    cases hp : P J <;> cases hq : Q J <;> simp [eqb, ltb, hp, hq] at b ⊢ <;> omega
def fz (J : Nat) (L : Nat → Nat) (A : Nat → Nat → Prop) (R : Nat → Nat) (k : Nat) (T : Nat → Bool) : Prop := ∃ f : Nat → Nat, (∀ i, i < J → T i = true → f i < k ∧ A i (f i)) ∧ ∀ w, w < k → sm L (fun i => T i && eqb (f i) w) J ≤ R w
theorem fz_0 {J : Nat} {L : Nat → Nat} {A : Nat → Nat → Prop} {R : Nat → Nat} {T : Nat → Bool} : fz J L A R 0 T ↔ ∀ i, i < J → ¬ T i = true := by
  constructor
  · rintro ⟨f, h1, -⟩ i hi ht
    exact absurd (h1 i hi ht).1 (by omega)
  · intro h
    exact ⟨fun _ => 0, fun i hi ht => absurd ht (h i hi), fun w hw => by omega⟩
theorem fz_ext {J : Nat} {L : Nat → Nat} {A : Nat → Nat → Prop} {R : Nat → Nat} {k : Nat} {T T' : Nat → Bool} (e : ∀ i, i < J → T i = T' i) (h : fz J L A R k T) : fz J L A R k T' := by
  obtain ⟨f, h1, h2⟩ := h
  refine ⟨f, fun i hi ht => h1 i hi (by rw [e i hi]; exact ht), fun w hw => ?_⟩
  rw [← sm_ext (P := fun i => T i && eqb (f i) w) J (fun i hi => by rw [e i hi])]
  exact h2 w hw
theorem fz_s {J : Nat} {L : Nat → Nat} {A : Nat → Nat → Prop} {R : Nat → Nat} {k : Nat} {T : Nat → Bool} : fz J L A R (k + 1) T ↔ ∃ P : Nat → Bool, (∀ i, i < J → P i = true → T i = true ∧ A i k) ∧ sm L P J ≤ R k ∧ fz J L A R k (fun i => T i && !P i) := by
  constructor
  · rintro ⟨f, h1, h2⟩
    refine ⟨fun i => T i && eqb (f i) k, fun i hi hp => ?_, h2 k (by omega), f, fun i hi ht => ?_, fun w hw => ?_⟩
    · dsimp only at hp
      rw [Bool.and_eq_true, eqb_t] at hp
      exact ⟨hp.1, hp.2 ▸ (h1 i hi hp.1).2⟩
    · dsimp only at ht
      rw [Bool.and_eq_true, Bool.not_eq_true'] at ht
      obtain ⟨a, b⟩ := ht
      rw [a, Bool.true_and, eqb_f] at b
      exact ⟨by have := (h1 i hi a).1; omega, (h1 i hi a).2⟩
    · rw [sm_ext (Q := fun i => T i && eqb (f i) w) J (fun i hi => ?_)]
      · exact h2 w (by omega)
      · dsimp only
        by_cases c : f i = w
        · have : ¬ f i = k := by omega
          simp [eqb, ltb, c]; intro _; omega
        · simp [eqb, ltb, c]
  · rintro ⟨P, h1, h2, f, h3, h4⟩
    refine ⟨fun i => if P i = true then k else f i, fun i hi ht => ?_, fun w hw => ?_⟩
    · dsimp only
      by_cases c : P i = true
      · rw [if_pos c]; exact ⟨by omega, (h1 i hi c).2⟩
      · rw [if_neg c]
        have := h3 i hi (by dsimp only; rw [ht]; simp [eqb, ltb, c])
        exact ⟨by omega, this.2⟩
    · by_cases e : w = k
      · subst e
        rw [sm_ext (Q := P) J (fun i hi => ?_)]
        · exact h2
        · dsimp only
          by_cases c : P i = true
          · rw [if_pos c, (h1 i hi c).1, c]; simp [eqb]
          · rw [if_neg c]
            by_cases ht : T i = true
            · have := (h3 i hi (by dsimp only; rw [ht]; simp [eqb, ltb, c])).1
              have n : ¬ f i = w := by omega
              simp [eqb, ltb, n, c]
            · simp [eqb, ltb, ht, c]
      · rw [sm_ext (Q := fun i => (T i && !P i) && eqb (f i) w) J (fun i hi => ?_)]
        · exact h4 w (by omega)
        · dsimp only
          by_cases c : P i = true
          · rw [if_pos c]
            have n : ¬ k = w := fun z => e z.symm
            simp [eqb, ltb, n, c]
          · rw [if_neg c]; simp [eqb, ltb, c]
/-! sets as numbers -/
def mkm (P : Nat → Bool) : Nat → Nat
  | 0 => 0
  | j + 1 => (if P j = true then 2 ^ j + mkm P j else mkm P j)
theorem mkm_lt (P : Nat → Bool) : ∀ J, mkm P J < 2 ^ J := by
  intro J
  induction J with
  | zero => exact Nat.one_pos
  | succ J ih =>
    rw [mkm, Nat.pow_succ]
    split <;> omega
theorem mkm_b (P : Nat → Bool) : ∀ J i, i < J → (mkm P J).testBit i = P i := by
  intro J
  induction J with
  | zero => intro i hi; omega
  | succ J ih =>
    intro i hi
    rw [mkm]
    by_cases e : i = J
    · subst e
      have z : (mkm P i).testBit i = false := Nat.testBit_lt_two_pow (mkm_lt P i)
      by_cases c : P i = true
      · rw [if_pos c, Nat.testBit_two_pow_add_eq, z, c]; rfl
      · rw [if_neg c, z]; simp [eqb, ltb, c]
    · by_cases c : P J = true
      · rw [if_pos c, Nat.testBit_two_pow_add_gt (by omega)]; exact ih i (by omega)
      · rw [if_neg c]; exact ih i (by omega)
theorem tb_hi {s J i : Nat} (hs : s < 2 ^ J) (hi : J ≤ i) : s.testBit i = false := Nat.testBit_lt_two_pow (Nat.lt_of_lt_of_le hs (Nat.pow_le_pow_right (by omega) hi))
theorem fz_m {J : Nat} {L : Nat → Nat} {A : Nat → Nat → Prop} {R : Nat → Nat} {k s : Nat} : fz J L A R (k + 1) s.testBit ↔ ∃ p, p < 2 ^ J ∧ (∀ i, i < J → p.testBit i = true → s.testBit i = true ∧ A i k) ∧ sm L p.testBit J ≤ R k ∧ fz J L A R k (fun i => s.testBit i && !p.testBit i) := by
  rw [fz_s]
  constructor
  · rintro ⟨P, h1, h2, h3⟩
    refine ⟨mkm P J, mkm_lt P J, fun i hi hp => h1 i hi (by rw [mkm_b P J i hi] at hp; exact hp), ?_, ?_⟩
    · rw [sm_ext (Q := P) J (fun i hi => mkm_b P J i hi)]; exact h2
    · exact fz_ext (fun i hi => by rw [mkm_b P J i hi]) h3
  · rintro ⟨p, -, h1, h2, h3⟩
    exact ⟨p.testBit, h1, h2, h3⟩
/-! how a plan is reached -/
/-- worth and length of those that have a window -/
def wv (J m : Nat) (V : Nat → Nat) (f : Nat → Nat) : Nat := sm V (fun i => ltb (f i) m) J
/-- all have a window or none (m), the first j ones as said, and it comes to X and Y -/
def Rc (J m : Nat) (L V R : Nat → Nat) (X Y : Nat) (a : Nat → Nat) (j : Nat) : Prop := ∃ f : Nat → Nat, (∀ i, i < j → f i = a i) ∧ (∀ i, i < J → f i ≤ m) ∧ (∀ w, w < m → sm L (fun i => eqb (f i) w) J ≤ R w) ∧ wv J m V f = X ∧ wv J m L f = Y
theorem Rc_next {J m : Nat} {L V R : Nat → Nat} {X Y : Nat} {a : Nat → Nat} {j : Nat} (hj : j < J) : Rc J m L V R X Y a j ↔ ∃ x, x ≤ m ∧ Rc J m L V R X Y (fun i => if i = j then x else a i) (j + 1) := by
  constructor
  · rintro ⟨f, h1, h2, h3⟩
    refine ⟨f j, h2 j hj, f, fun i hi => ?_, h2, h3⟩
    by_cases e : i = j
    · subst e; dsimp only; rw [if_pos rfl]
    · dsimp only; rw [if_neg e]; exact h1 i (by omega)
  · rintro ⟨x, hx, f, h1, h2, h3⟩
    refine ⟨f, fun i hi => ?_, h2, h3⟩
    have := h1 i (by omega)
    dsimp only at this
    rw [if_neg (by omega)] at this
    exact this
/-- the class: those from j on go into what is left -/
theorem Rc_left {J m : Nat} {L V R : Nat → Nat} {X Y : Nat} {a : Nat → Nat} {j : Nat} (hj : j ≤ J) (ha : ∀ i, i < j → a i ≤ m) {Q : Nat → Nat} (hQ : ∀ w, w < m → Q w + sm L (fun i => eqb (a i) w) j = R w) {X' Y' : Nat} (hX : X' + wv j m V a = X) (hY : Y' + wv j m L a = Y) : Rc J m L V R X Y a j ↔ ∃ s, s < 2 ^ J ∧ (∀ i, i < j → s.testBit i = false) ∧ fz J L (fun _ _ => True) Q m s.testBit ∧ sm V s.testBit J = X' ∧ sm L s.testBit J = Y' := by
  -- a sum over all is that over the first j and that over the others
  have cut : ∀ (W : Nat → Nat) (P : Nat → Bool), sm W P J = sm W P j + sm W (fun i => decide (j ≤ i) && P i) J := by
    intro W P
    have k1 : sm W P J = sm W (fun i => decide (i < j) && P i) J + sm W (fun i => decide (j ≤ i) && P i) J := by
      refine sm_add J (fun i hi => ?_)
      by_cases c : i < j
      · have : ¬ j ≤ i := by omega
        simp [eqb, ltb, c, this]
      · have : j ≤ i := by omega
        simp [eqb, ltb, c, this]
    have k2 : ∀ d, sm W (fun i => decide (i < j) && P i) (j + d) = sm W P j := by
      intro d
      induction d with
      | zero => exact sm_ext j (fun i hi => by simp [eqb, ltb, hi])
      | succ d ih =>
        rw [show j + (d + 1) = (j + d) + 1 by omega, sm, ih]
        have : ¬ j + d < j := by omega
        simp [eqb, ltb, this]
    have := k2 (J - j)
    rw [show j + (J - j) = J by omega] at this
    rw [k1, this]
  constructor
  · rintro ⟨f, h1, h2, h3, h4, h5⟩
    obtain ⟨P, eP⟩ : ∃ P : Nat → Bool, P = fun i => decide (j ≤ i) && ltb (f i) m := ⟨_, rfl⟩
    have tb := mkm_b P J
    refine ⟨mkm P J, mkm_lt P J, fun i hi => ?_, ⟨f, fun i hi ht => ?_, fun w hw => ?_⟩, ?_, ?_⟩
    · rw [tb i (by omega), eP]
      have : ¬ j ≤ i := by omega
      simp [eqb, ltb, this]
    · rw [tb i hi, eP] at ht
      dsimp only at ht
      rw [Bool.and_eq_true, decide_eq_true_eq, ltb_t] at ht
      exact ⟨ht.2, trivial⟩
    · have k1 := h3 w hw
      rw [cut] at k1
      have k2 := hQ w hw
      rw [sm_ext (Q := fun i => eqb (a i) w) j (fun i hi => by rw [h1 i hi])] at k1
      rw [sm_ext (Q := fun i => decide (j ≤ i) && eqb (f i) w) J (fun i hi => ?_)]
      · omega
      · rw [tb i hi, eP]
        dsimp only
        by_cases c : f i = w
        · have : f i < m := by omega
          simp [eqb, ltb, c, hw]
        · simp [eqb, ltb, c]
    · unfold wv at h4 hX
      rw [cut, sm_ext (Q := fun i => ltb (a i) m) j (fun i hi => by rw [h1 i hi])] at h4
      rw [sm_ext (Q := fun i => decide (j ≤ i) && ltb (f i) m) J (fun i hi => by rw [tb i hi, eP])]
      omega
    · unfold wv at h5 hY
      rw [cut, sm_ext (Q := fun i => ltb (a i) m) j (fun i hi => by rw [h1 i hi])] at h5
      rw [sm_ext (Q := fun i => decide (j ≤ i) && ltb (f i) m) J (fun i hi => by rw [tb i hi, eP])]
      omega
  · rintro ⟨s, -, h1, ⟨f, h2, h3⟩, h4, h5⟩
    obtain ⟨g, eg⟩ : ∃ g : Nat → Nat, g = fun i => if i < j then a i else if s.testBit i = true then f i else m := ⟨_, rfl⟩
    have g1 : ∀ i, i < j → g i = a i := fun i hi => by rw [eg]; dsimp only; rw [if_pos hi]
    have g2 : ∀ i, j ≤ i → g i = if s.testBit i = true then f i else m := fun i hi => by rw [eg]; dsimp only; rw [if_neg (by omega)]
    have lt : ∀ i, i < J → (decide (j ≤ i) && ltb (g i) m) = s.testBit i := by
      intro i hi
      by_cases c : j ≤ i
      · rw [g2 i c]
        by_cases t : s.testBit i = true
        · rw [if_pos t, t]
          have := (h2 i hi t).1
          simp [eqb, ltb, c, this]
        · rw [if_neg t]; simp [eqb, ltb, t]
      · rw [h1 i (by omega)]; simp [eqb, ltb, c]
    refine ⟨g, g1, fun i hi => ?_, fun w hw => ?_, ?_, ?_⟩
    · by_cases c : i < j
      · rw [g1 i c]; exact ha i c
      · rw [g2 i (by omega)]
        split
        · have := (h2 i hi (by assumption)).1; omega
        · exact Nat.le_refl _
    · rw [cut, sm_ext (Q := fun i => eqb (a i) w) j (fun i hi => by rw [g1 i hi])]
      have k1 := h3 w hw
      have k2 := hQ w hw
      rw [sm_ext (Q := fun i => s.testBit i && eqb (f i) w) (P := fun i => decide (j ≤ i) && eqb (g i) w) J (fun i hi => ?_)]
      · omega
      · skip
        by_cases c : j ≤ i
        · rw [g2 i c]
          by_cases t : s.testBit i = true
          · rw [if_pos t]; simp [eqb, ltb, c, t]
          · rw [if_neg t]
            have : ¬ m = w := by omega
            simp [eqb, ltb, this, t]
        · rw [h1 i (by omega)]; simp [eqb, ltb, c]
    · unfold wv at hX ⊢
      rw [cut, sm_ext (Q := fun i => ltb (a i) m) j (fun i hi => by rw [g1 i hi]), sm_ext (Q := s.testBit) (P := fun i => decide (j ≤ i) && ltb (g i) m) J lt]
      omega
    · unfold wv at hY ⊢
      rw [cut, sm_ext (Q := fun i => ltb (a i) m) j (fun i hi => by rw [g1 i hi]), sm_ext (Q := s.testBit) (P := fun i => decide (j ≤ i) && ltb (g i) m) J lt]
      omega
/-- the model: the first j ones must be where they are said to be -/
theorem Rc_must {J m : Nat} {L V R : Nat → Nat} {X Y : Nat} {a : Nat → Nat} {j : Nat} (hj : j ≤ J) (ha : ∀ i, i < j → a i ≤ m) : Rc J m L V R X Y a j ↔ ∃ s, s < 2 ^ J ∧ fz J L (fun i w => j ≤ i ∨ a i = w) R m s.testBit ∧ (∀ i, i < j → (a i = m ↔ s.testBit i = false)) ∧ sm V s.testBit J = X ∧ sm L s.testBit J = Y := by
  constructor
  · rintro ⟨f, h1, h2, h3, h4, h5⟩
    obtain ⟨P, eP⟩ : ∃ P : Nat → Bool, P = fun i => ltb (f i) m := ⟨_, rfl⟩
    have tb := mkm_b P J
    refine ⟨mkm P J, mkm_lt P J, ⟨f, fun i hi ht => ?_, fun w hw => ?_⟩, fun i hi => ?_, ?_, ?_⟩
    · rw [tb i hi, eP] at ht
      dsimp only at ht
      rw [ltb_t] at ht
      refine ⟨ht, ?_⟩
      by_cases c : j ≤ i
      · exact Or.inl c
      · exact Or.inr (h1 i (by omega)).symm
    · have k1 := h3 w hw
      rw [sm_ext (Q := fun i => eqb (f i) w) J (fun i hi => ?_)]
      · exact k1
      · rw [tb i hi, eP]
        dsimp only
        by_cases c : f i = w
        · have : f i < m := by omega
          simp [eqb, ltb, c, hw]
        · simp [eqb, ltb, c]
    · rw [tb i (by omega), eP]
      dsimp only
      rw [ltb_f, h1 i hi]
      have := ha i hi
      omega
    · rw [sm_ext (Q := fun i => ltb (f i) m) J (fun i hi => by rw [tb i hi, eP])]; exact h4
    · rw [sm_ext (Q := fun i => ltb (f i) m) J (fun i hi => by rw [tb i hi, eP])]; exact h5
  · rintro ⟨s, -, ⟨f, h2, h3⟩, h1, h4, h5⟩
    obtain ⟨g, eg⟩ : ∃ g : Nat → Nat, g = fun i => if s.testBit i = true then f i else m := ⟨_, rfl⟩
    have lt : ∀ i, i < J → ltb (g i) m = s.testBit i := by
      intro i hi
      rw [eg]
      dsimp only
      by_cases t : s.testBit i = true
      · rw [if_pos t, t]
        have := (h2 i hi t).1
        simp [eqb, ltb, this]
      · rw [if_neg t]; simp [eqb, ltb, t]
    refine ⟨g, fun i hi => ?_, fun i hi => ?_, fun w hw => ?_, ?_, ?_⟩
    · rw [eg]
      dsimp only
      by_cases t : s.testBit i = true
      · rw [if_pos t]
        rcases (h2 i (by omega) t).2 with z | z
        · omega
        · exact z.symm
      · rw [if_neg t]
        exact ((h1 i hi).mpr (by simpa using t)).symm
    · rw [eg]
      dsimp only
      split
      · have := (h2 i hi (by assumption)).1; omega
      · exact Nat.le_refl _
    · rw [sm_ext (Q := fun i => s.testBit i && eqb (f i) w) J (fun i hi => ?_)]
      · exact h3 w hw
      · rw [eg]
        dsimp only
        by_cases t : s.testBit i = true
        · rw [if_pos t, t]; simp [eqb]
        · rw [if_neg t]
          have : ¬ m = w := by omega
          simp [eqb, ltb, this, t]
    · unfold wv
      rw [sm_ext (Q := s.testBit) J lt]; exact h4
    · unfold wv
      rw [sm_ext (Q := s.testBit) J lt]; exact h5
