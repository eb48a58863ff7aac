/-! ===== TOKENS as a picture ===== -/
def scn (q : Int32 → Bool) (B : Nat → Int32) (n : Nat) : Nat → Nat → Nat
  | 0, a => a
  | f + 1, a => if a < n ∧ q (B a) = true then scn q B n f (a + 1) else a
theorem scn_p {q : Int32 → Bool} {B : Nat → Int32} {n : Nat} : ∀ f a, a ≤ n → n ≤ a + f → a ≤ scn q B n f a ∧ scn q B n f a ≤ n ∧ (∀ i, a ≤ i → i < scn q B n f a → q (B i) = true) ∧ (scn q B n f a = n ∨ q (B (scn q B n f a)) = false) := by
  intro f
  induction f with
  | zero => intro a h1 h2; exact ⟨Nat.le_refl _, h1, fun i h3 h4 => absurd h4 (Nat.not_lt.mpr h3), Or.inl (by show a = n; omega)⟩
  | succ f ih =>
    intro a h1 h2
    rw [scn]
    by_cases c : a < n ∧ q (B a) = true
    · rw [if_pos c]
      obtain ⟨i1, i2, i3, i4⟩ := ih (a + 1) (by omega) (by omega)
      refine ⟨by omega, i2, fun i h3 h4 => ?_, i4⟩
      by_cases e : i = a
      · rw [e]; exact c.2
      · exact i3 i (by omega) h4
    · rw [if_neg c]
      refine ⟨Nat.le_refl _, h1, fun i h3 h4 => absurd h4 (Nat.not_lt.mpr h3), ?_⟩
      by_cases e : a = n
      · exact Or.inl e
      · right
        cases hq : q (B a)
        · rfl
        · exact absurd ⟨by omega, hq⟩ c
theorem scn_u {q : Int32 → Bool} {B : Nat → Int32} {n a e : Nat} (hn : n ≤ 400) (h1 : a ≤ e) (h2 : e ≤ n) (h3 : ∀ i, a ≤ i → i < e → q (B i) = true) (h4 : e = n ∨ q (B e) = false) : scn q B n 400 a = e := by
  obtain ⟨p1, p2, p3, p4⟩ := scn_p (q := q) (B := B) 400 a (show a ≤ n by omega) (by omega)
  obtain ⟨s, es⟩ : ∃ s, s = scn q B n 400 a := ⟨_, rfl⟩
  rw [← es] at p1 p2 p3 p4 ⊢
  rcases (show s = e ∨ s < e ∨ e < s by omega) with z | z | z
  · exact z
  · rcases p4 with y | y
    · omega
    · rw [h3 s p1 z] at y; cases y
  · rcases h4 with y | y
    · omega
    · rw [p3 e h1 z] at y; cases y
/-- the loops that look for the end of a row of like bytes -/
theorem scn_loop {F : Nat} (eF : F = zF) {b : zm_H → Nat × zm_H} {o : zm_H → Prop} {q : Int32 → Bool} {B : Nat → Int32} {n a : Nat} (ha : a ≤ n) (hn : n ≤ 400) (I : Nat → zm_H → Prop) (h0 : zm_H) (i0 : I a h0)
    (hgo : ∀ e x, a ≤ e → e < n → I e x → q (B e) = true → o x ∧ (b x).1 = 0 ∧ I (e + 1) (b x).2)
    (hst : ∀ e x, a ≤ e → e ≤ n → I e x → (e = n ∨ q (B e) = false) → o x ∧ ¬ (b x).1 = 0 ∧ (b x).2 = x) : zwo b o F h0 ∧ I (scn q B n 400 a) (zwh b F h0).2 := by
  have key := zlpF eF (b := b) (o := o) (n - a) (by omega) (fun k x => I (a + k) x ∧ ∀ i, a ≤ i → i < a + k → q (B i) = true) (fun r => I (scn q B n 400 a) r.2) h0 ⟨i0, fun i h1 h2 => by omega⟩
    (by
      rintro k x hk ⟨h1, h2⟩
      cases hq : q (B (a + k))
      · obtain ⟨r1, r2, r3⟩ := hst (a + k) x (by omega) (by omega) h1 (Or.inr hq)
        refine ⟨r1, Or.inr ⟨r2, ?_⟩⟩
        rw [r3, scn_u hn (by omega) (by omega) h2 (Or.inr hq)]
        exact h1
      · obtain ⟨r1, r2, r3⟩ := hgo (a + k) x (by omega) (by omega) h1 hq
        refine ⟨r1, Or.inl ⟨r2, r3, fun i h3 h4 => ?_⟩⟩
        by_cases e : i = a + k
        · rw [e]; exact hq
        · exact h2 i h3 (by omega))
    (by
      rintro x ⟨h1, h2⟩
      have e : a + (n - a) = n := by omega
      rw [e] at h1 h2
      obtain ⟨r1, r2, r3⟩ := hst n x ha (Nat.le_refl _) h1 (Or.inl rfl)
      refine ⟨r1, r2, ?_⟩
      rw [r3, scn_u hn ha (Nat.le_refl _) h2 (Or.inl rfl)]
      exact h1)
  exact key
def isB (b : Int32) : Bool := decide (b = 32)
def isL (b : Int32) : Bool := decide (¬ (b < 97) ∧ (¬ (122 < b)))
def isD (b : Int32) : Bool := decide (¬ (b < 48) ∧ (¬ (57 < b)))
/-! words -/
def wch (w j : Nat) : Int32 := (zm_sx 0).getD (6 * w + j) 0
def wln (w : Nat) : Nat := [4, 4, 4, 3, 6, 6, 3, 5, 4, 4, 3, 5, 5, 2, 3, 3].getD w 0
def wof (w : Nat) : Nat := [1, 6, 11, 16, 20, 27, 34, 38, 44, 49, 54, 58, 64, 70, 73, 77, 81].getD w 0
theorem wd1 : ∀ w, w < 16 → ∀ j, j < 6 → (wch w j = 32 ↔ wln w ≤ j) := by decide +kernel
theorem wd2 : ∀ w, w < 16 → ∀ j, j < 6 → j < wln w → (zm_sx 2).getD (wof w + j) 0 = wch w j := by decide +kernel
theorem wd3 : ∀ w, w < 16 → (zm_sx 2).getD (wof w + wln w) 0 = 32 := by decide +kernel
theorem wd4 : ∀ w, w < 16 → wof (w + 1) = wof w + wln w + 1 := by decide +kernel
theorem wd5 : ∀ w, w < 16 → ∀ v, v < 16 → wln w = wln v → (∀ j, j < 6 → j < wln w → wch w j = wch v j) → w = v := by decide +kernel
theorem wd6 : ∀ w, w < 16 → 2 ≤ wln w ∧ wln w ≤ 6 ∧ wof w + wln w < 81 ∧ 1 ≤ wof w := by decide +kernel
def mw (B : Nat → Int32) (s e w : Nat) : Prop := e - s = wln w ∧ ∀ j, j < wln w → B (s + j) = wch w j
theorem mw_u {B : Nat → Int32} {s e w v : Nat} (hw : w < 16) (hv : v < 16) (a : mw B s e w) (b : mw B s e v) : w = v :=
  wd5 w hw v hv (a.1.symm.trans b.1) (fun j _ h => (a.2 j h).symm.trans (b.2 j (by have := a.1; have := b.1; omega)))
def isWI (B : Nat → Int32) (s e W : Nat) : Prop := (W < 16 ∧ mw B s e W) ∨ (W = 16 ∧ ∀ w, w < 16 → ¬ mw B s e w)
theorem isWI_u {B : Nat → Int32} {s e W V : Nat} (a : isWI B s e W) (b : isWI B s e V) : W = V := by
  rcases a with ⟨a1, a2⟩ | ⟨a1, a2⟩
  · rcases b with ⟨b1, b2⟩ | ⟨b1, b2⟩
    · exact mw_u a1 b1 a2 b2
    · exact absurd a2 (b2 W a1)
  · rcases b with ⟨b1, b2⟩ | ⟨b1, b2⟩
    · exact absurd b2 (a2 V b1)
    · omega
theorem isWI_ex (B : Nat → Int32) (s e : Nat) : ∃ W, isWI B s e W := by
  by_cases c : ∃ w, w < 16 ∧ mw B s e w
  · obtain ⟨w, h1, h2⟩ := c; exact ⟨w, Or.inl ⟨h1, h2⟩⟩
  · exact ⟨16, Or.inr ⟨rfl, fun w h1 h2 => c ⟨w, h1, h2⟩⟩⟩
noncomputable def wI (B : Nat → Int32) (s e : Nat) : Nat := Classical.choose (isWI_ex B s e)
theorem wI_s (B : Nat → Int32) (s e : Nat) : isWI B s e (wI B s e) := Classical.choose_spec (isWI_ex B s e)
theorem wI_le (B : Nat → Int32) (s e : Nat) : wI B s e ≤ 16 := by rcases wI_s B s e with ⟨a, -⟩ | ⟨a, -⟩ <;> omega
/-! numbers -/
def dgN (b : Int32) : Nat := b.toNatClampNeg - 48
def nvC (B : Nat → Int32) (a : Nat) : Nat → Nat
  | 0 => 0
  | k + 1 => if 100000 < nvC B a k * 10 + dgN (B (a + k)) then 100000 else nvC B a k * 10 + dgN (B (a + k))
def nvM (B : Nat → Int32) (a : Nat) : Nat → Nat
  | 0 => 0
  | k + 1 => if nvM B a k ≤ 1000000 then 10 * nvM B a k + dgN (B (a + k)) else nvM B a k
theorem dg_n {b : Int32} (h : isD b = true) : dgN b ≤ 9 ∧ b = nI (dgN b + 48) := by
  unfold isD at h
  rw [decide_eq_true_eq, i_lt, i_lt] at h
  have e1 : (48 : Int32).toInt = 48 := rfl
  have e2 : (57 : Int32).toInt = 57 := rfl
  rw [e1, e2] at h
  have hc := i_cl (show 0 ≤ b.toInt by omega)
  unfold dgN
  refine ⟨by omega, ?_⟩
  refine i_mk ?_
  omega
theorem nv_rel {B : Nat → Int32} {a : Nat} : ∀ k, (∀ i, i < k → isD (B (a + i)) = true) → (nvC B a k = nvM B a k ∧ nvC B a k ≤ 99999) ∨ (nvC B a k = 100000 ∧ 100000 ≤ nvM B a k ∧ nvM B a k ≤ 10000009) := by
  intro k
  induction k with
  | zero => intro _; exact Or.inl ⟨rfl, by show (0 : Nat) ≤ 99999; omega⟩
  | succ k ih =>
    intro h
    have d := (dg_n (h k (by omega))).1
    rw [nvC, nvM]
    rcases ih (fun i hi => h i (by omega)) with ⟨h1, h2⟩ | ⟨h1, h2, h3⟩
    · rw [if_pos (show nvM B a k ≤ 1000000 by omega)]
      by_cases c : 100000 < nvC B a k * 10 + dgN (B (a + k))
      · rw [if_pos c]; exact Or.inr ⟨rfl, by omega, by omega⟩
      · rw [if_neg c]
        by_cases c2 : nvC B a k * 10 + dgN (B (a + k)) ≤ 99999
        · exact Or.inl ⟨by omega, c2⟩
        · exact Or.inr ⟨by omega, by omega, by omega⟩
    · rw [if_pos (show 100000 < nvC B a k * 10 + dgN (B (a + k)) by omega)]
      by_cases c : nvM B a k ≤ 1000000
      · rw [if_pos c]; exact Or.inr ⟨rfl, by omega, by omega⟩
      · rw [if_neg c]; exact Or.inr ⟨rfl, by omega, h3⟩
/-! the TOKEN behind a place -/
def isS (b : Int32) : Bool := b == 43 || b == 45 || b == 42 || b == 47 || b == 40 || b == 41 || b == 91 || b == 93 || b == 60 || b == 62 || b == 61 || b == 59
def lxS (B : Nat → Int32) (n p : Nat) : Nat := scn isB B n 400 p
def lxE (B : Nat → Int32) (n p : Nat) : Nat := if n ≤ lxS B n p then lxS B n p else if isL (B (lxS B n p)) = true then scn isL B n 400 (lxS B n p) else if isD (B (lxS B n p)) = true then scn isD B n 400 (lxS B n p) else lxS B n p + 1
noncomputable def tq (B : Nat → Int32) (n p : Nat) : Nat := if n ≤ lxS B n p then 257 else if isL (B (lxS B n p)) = true then 300 + wI B (lxS B n p) (lxE B n p) else if isD (B (lxS B n p)) = true then 256 else if isS (B (lxS B n p)) = true then (B (lxS B n p)).toNatClampNeg else 258
def tv (B : Nat → Int32) (n p : Nat) : Nat := nvC B (lxS B n p) (lxE B n p - lxS B n p)
theorem lx_b {B : Nat → Int32} {n p : Nat} (hn : n ≤ 400) (hp : p ≤ n) : p ≤ lxS B n p ∧ lxS B n p ≤ lxE B n p ∧ lxE B n p ≤ n ∧ (¬ tq B n p = 257 → lxS B n p < lxE B n p) ∧ (n ≤ lxS B n p ↔ tq B n p = 257) := by
  obtain ⟨s1, s2, -, -⟩ := scn_p (q := isB) (B := B) 400 p hp (by omega)
  have s1 : p ≤ lxS B n p := s1
  have s2 : lxS B n p ≤ n := s2
  have w16 := wI_le B (lxS B n p) (lxE B n p)
  unfold tq
  by_cases c1 : n ≤ lxS B n p
  · have e : lxE B n p = lxS B n p := by unfold lxE; rw [if_pos c1]
    rw [if_pos c1, e]
    exact ⟨s1, Nat.le_refl _, s2, fun z => absurd rfl z, fun _ => rfl, fun _ => c1⟩
  · rw [if_neg c1]
    by_cases c2 : isL (B (lxS B n p)) = true
    · have e : lxE B n p = scn isL B n 400 (lxS B n p) := by unfold lxE; rw [if_neg c1, if_pos c2]
      obtain ⟨t1, t2, t3, t4⟩ := scn_p (q := isL) (B := B) 400 (lxS B n p) s2 (by omega)
      rw [← e] at t1 t2 t3 t4
      rw [if_pos c2]
      have lt : lxS B n p < lxE B n p := by
        rcases (show lxE B n p = lxS B n p ∨ lxS B n p < lxE B n p by omega) with z | z
        · rw [z] at t4
          rcases t4 with y | y
          · omega
          · rw [c2] at y; cases y
        · exact z
      exact ⟨s1, t1, t2, fun _ => lt, fun z => absurd z c1, fun z => by omega⟩
    · rw [if_neg c2]
      by_cases c3 : isD (B (lxS B n p)) = true
      · have e : lxE B n p = scn isD B n 400 (lxS B n p) := by unfold lxE; rw [if_neg c1, if_neg c2, if_pos c3]
        obtain ⟨t1, t2, t3, t4⟩ := scn_p (q := isD) (B := B) 400 (lxS B n p) s2 (by omega)
        rw [← e] at t1 t2 t3 t4
        rw [if_pos c3]
        have lt : lxS B n p < lxE B n p := by
          rcases (show lxE B n p = lxS B n p ∨ lxS B n p < lxE B n p by omega) with z | z
          · rw [z] at t4
            rcases t4 with y | y
            · omega
            · rw [c3] at y; cases y
          · exact z
        exact ⟨s1, t1, t2, fun _ => lt, fun z => absurd z c1, fun z => by omega⟩
      · have e : lxE B n p = lxS B n p + 1 := by unfold lxE; rw [if_neg c1, if_neg c2, if_neg c3]
        rw [if_neg c3, e]
        refine ⟨s1, by omega, by omega, fun _ => by omega, fun z => absurd z c1, fun z => ?_⟩
        exfalso
        by_cases c4 : isS (B (lxS B n p)) = true
        · rw [if_pos c4] at z
          unfold isS at c4
          simp only [Bool.or_eq_true, beq_iff_eq] at c4
          rcases c4 with (((((((((((c | c) | c) | c) | c) | c) | c) | c) | c) | c) | c) | c) <;> rw [c] at z <;> exact absurd z (by decide)
        · rw [if_neg c4] at z; omega
