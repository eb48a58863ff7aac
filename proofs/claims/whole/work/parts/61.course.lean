/-! ===== a course: what the rafts are, as one function ===== -/
def fld {α : Type} (f : Nat → α → α) : Nat → α → α
  | 0, a => a
  | n + 1, a => f n (fld f n a)
theorem zlf {F : Nat} (hF : F = zF) {b : Int32 × zm_H → Nat × Int32 × zm_H} {o : Int32 × zm_H → Prop} (N : Nat) (hN : N < 99999) (f : Nat → zm_H → zm_H) (I : Nat → zm_H → Prop) (h0 : zm_H) (p0 : I 0 h0)
    (hs : ∀ k h, k < N → I k h → o (nI k, h) ∧ b (nI k, h) = (0, nI (k + 1), f k h) ∧ I (k + 1) (f k h))
    (he : ∀ h, I N h → o (nI N, h) ∧ b (nI N, h) = (1, nI N, h)) : zwo b o F (0, h0) ∧ zwh b F (0, h0) = (1, nI N, fld f N h0) ∧ I N (fld f N h0) := by
  have key := zlpF hF (b := b) (o := o) N hN (fun k s => s = (nI k, fld f k h0) ∧ I k (fld f k h0)) (fun r => r = (1, nI N, fld f N h0) ∧ I N (fld f N h0)) (0, h0) ⟨rfl, p0⟩
    (by
      rintro k s hk ⟨rfl, h2⟩
      obtain ⟨q1, q2, q3⟩ := hs k _ hk h2
      refine ⟨q1, Or.inl ?_⟩
      rw [q2]
      exact ⟨rfl, rfl, q3⟩)
    (by
      rintro s ⟨rfl, h2⟩
      obtain ⟨q1, q2⟩ := he _ h2
      refine ⟨q1, ?_⟩
      rw [q2]
      exact ⟨by simp, rfl, h2⟩)
  exact ⟨key.1, key.2.1, key.2.2⟩
def zsz (i : Nat) : Nat := if i < 5 then 10 else 30
def vC (b : Nat) (h : zm_H) : Nat → Nat → Int32 := fun i k => if i < 8 ∧ k < zsz i then h.2.1 (b + i) k else 0
def vM (L : Nat) (h : zm_H) : Nat → Nat → Int32 := fun i k => if i < 8 ∧ k < zsz i then (if i = 0 then h.2.1 123 (10 * L + k) else if i = 1 then h.2.1 124 (10 * L + k) else if i = 2 then h.2.1 125 (10 * L + k) else if i = 3 then h.2.1 126 (10 * L + k) else if i = 4 then (h.2.2.1 127 (10 * L + k)).toInt32 else if i = 5 then h.2.1 128 (30 * L + k) else if i = 6 then h.2.1 129 (30 * L + k) else h.2.1 130 (30 * L + k)) else 0
theorem vC_at {b : Nat} {h : zm_H} {i k : Nat} (hi : i < 8) (hk : k < zsz i) : vC b h i k = h.2.1 (b + i) k := if_pos ⟨hi, hk⟩
theorem vC_u {b : Nat} {h : zm_H} {i k j : Nat} {v : Int32} (hj : j = b + i) (hi : i < 8) (hk : k < zsz i) : vC b (zm_si h j k v) = zm_u (vC b h) i k v := by
  funext a c
  rw [zu_at]
  unfold vC
  by_cases h1 : a < 8 ∧ c < zsz a
  · rw [if_pos h1, if_pos h1, zf_si, hj]
    by_cases ea : a = i
    · subst ea; rw [if_pos rfl, if_pos rfl]
    · rw [if_neg (by omega), if_neg ea]
  · rw [if_neg h1]
    by_cases ea : a = i
    · subst ea
      rw [if_pos rfl]
      by_cases ec : c = k
      · subst ec; exact absurd ⟨hi, hk⟩ h1
      · rw [if_neg ec, if_neg h1]
    · rw [if_neg ea, if_neg h1]
theorem vC_o {b : Nat} {h : zm_H} {j k : Nat} {v : Int32} (hj : j < b ∨ b + 8 ≤ j) : vC b (zm_si h j k v) = vC b h := by
  funext a c
  unfold vC
  by_cases h1 : a < 8 ∧ c < zsz a
  · rw [if_pos h1, if_pos h1, zf_si, if_neg (by omega)]
  · rw [if_neg h1, if_neg h1]
theorem vC_eq {b : Nat} {h h' : zm_H} (e : ∀ i, i < 8 → h'.2.1 (b + i) = h.2.1 (b + i)) : vC b h' = vC b h := by
  funext a c
  unfold vC
  by_cases h1 : a < 8 ∧ c < zsz a
  · rw [if_pos h1, if_pos h1, e a h1.1]
  · rw [if_neg h1, if_neg h1]
theorem vM_u {L : Nat} {h : zm_H} {i k j q : Nat} {v : Int32} (hi : i < 8) (h4 : ¬ i = 4) (hk : k < zsz i) (hj : j = (if i < 4 then 123 + i else 123 + i)) (hq : q = zsz i * L + k) : vM L (zm_si h j q v) = zm_u (vM L h) i k v := by
  funext a c
  rw [zu_at]
  unfold vM
  rw [zl_si]
  simp only [zf_si]
  subst hj hq
  have hz : zsz i = 10 ∨ zsz i = 30 := by unfold zsz; split <;> simp
  by_cases h1 : a < 8 ∧ c < zsz a
  · rw [if_pos h1, if_pos h1]
    obtain ⟨h1a, h1c⟩ := h1
    rcases (show a = 0 ∨ a = 1 ∨ a = 2 ∨ a = 3 ∨ a = 4 ∨ a = 5 ∨ a = 6 ∨ a = 7 by omega) with e | e | e | e | e | e | e | e <;> subst e <;>
    rcases (show i = 0 ∨ i = 1 ∨ i = 2 ∨ i = 3 ∨ i = 5 ∨ i = 6 ∨ i = 7 by omega) with e | e | e | e | e | e | e <;> subst e <;> simp [zsz]
  · rw [if_neg h1]
    by_cases ea : a = i
    · subst ea
      rw [if_pos rfl]
      by_cases ec : c = k
      · subst ec; exact absurd ⟨hi, hk⟩ h1
      · rw [if_neg ec, if_neg h1]
    · rw [if_neg ea, if_neg h1]
