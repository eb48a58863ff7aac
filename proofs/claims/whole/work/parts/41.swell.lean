/-! ===== what is KNOWN: both sides by one function ===== -/
def lst (f : Nat → Int32) (s : Int32) : Nat → Int32
  | 0 => -1
  | n + 1 => if f n = s then nI n else lst f s n
def ft (f : Nat → Int32) (a : Int32) : Nat → Nat
  | 0 => 0
  | n + 1 => if a < f n then ft f a n else n + 1
theorem ft_le (f : Nat → Int32) (a : Int32) (n : Nat) : ft f a n ≤ n := by
  induction n with
  | zero => exact Nat.le_refl 0
  | succ n ih => rw [ft]; split <;> omega
theorem ft_iff {f : Nat → Int32} {a : Int32} {n : Nat} (hm : ∀ j k, j ≤ k → k < n → f j ≤ f k) {i : Nat} (hi : i < n) : f i ≤ a ↔ i < ft f a n := by
  induction n with
  | zero => omega
  | succ n ih =>
    rw [ft]
    by_cases ha : a < f n
    · rw [if_pos ha]
      by_cases e : i = n
      · subst e
        have h1 := ft_le f a i
        constructor
        · intro h; rw [i_le] at h; rw [i_lt] at ha; omega
        · intro h; omega
      · exact ih (fun j k h1 h2 => hm j k h1 (by omega)) (by omega)
    · rw [if_neg ha]
      constructor
      · intro _; exact hi
      · intro _
        have h1 := hm i n (by omega) (by omega)
        rw [i_le] at h1 ⊢
        rw [i_lt] at ha
        omega
theorem ft_ext {f g : Nat → Int32} {a : Int32} {n : Nat} (h : ∀ k, k < n → f k = g k) : ft f a n = ft g a n := by
  induction n with
  | zero => rfl
  | succ n ih => rw [ft, ft, h n (by omega), ih (fun k hk => h k (by omega))]
theorem lst_ext {f g : Nat → Int32} {s : Int32} {n : Nat} (h : ∀ k, k < n → f k = g k) : lst f s n = lst g s n := by
  induction n with
  | zero => rfl
  | succ n ih => rw [lst, lst, h n (by omega), ih (fun k hk => h k (by omega))]
theorem lst_rng (f : Nat → Int32) (s : Int32) (n : Nat) : lst f s n = -1 ∨ ∃ k, k < n ∧ lst f s n = nI k ∧ f k = s := by
  induction n with
  | zero => exact Or.inl rfl
  | succ n ih =>
    rw [lst]
    by_cases h : f n = s
    · rw [if_pos h]; exact Or.inr ⟨n, by omega, rfl, h⟩
    · rw [if_neg h]
      rcases ih with h1 | ⟨k, h1, h2, h3⟩
      · exact Or.inl h1
      · exact Or.inr ⟨k, by omega, h2, h3⟩
theorem lst_stop {f : Nat → Int32} {s : Int32} {m q : Nat} (hm : m < 2147483648) (hq : q ≤ m) (h : lst f s m < nI q) : lst f s q = lst f s m := by
  induction m with
  | zero => have : q = 0 := by omega
            subst this; rfl
  | succ m ih =>
    by_cases e : q = m + 1
    · rw [e]
    · rw [lst] at h ⊢
      by_cases hf : f m = s
      · rw [if_pos hf, i_lt, i_nI (by omega), i_nI (by omega)] at h
        omega
      · rw [if_neg hf] at h ⊢
        exact ih (by omega) (by omega) h
def rdOK (x : Int32) : Prop := 0 ≤ x.toInt ∧ x.toInt / 1000 ≤ 120 ∧ 2 ≤ x.toInt % 1000 / 10 ∧ x.toInt % 1000 / 10 ≤ 20 ∧ x.toInt % 10 ≤ 2
def I_sw (w n d : Nat) (h : zm_H) : Prop :=
  (n ≤ 400 ∧ d ≤ 30 ∧ zf h 1 0 = nI n ∧ zf h 92 24 = nI n ∧ zf h 1 1 = nI d ∧ zf h 92 28 = nI d) ∧
  (∀ k, k < n → zf h 4 k = zf h 106 k ∧ zf h 5 k = zf h 107 k ∧ (∃ s, s < 480 ∧ zf h 105 k = nI s) ∧ rdOK (zf h 106 k) ∧ (∃ t, t ≤ w ∧ t < 480 ∧ zf h 107 k = nI t) ∧ zf h 3 k = lst (h.2.1 105) (zf h 105 k) k) ∧
  (∀ s, s < 480 → zf h 2 s = lst (h.2.1 105) (nI s) n) ∧
  (∀ k, k < d → zf h 6 k = zf h 108 k ∧ zf h 7 k = zf h 109 k ∧ zf h 8 k = zf h 110 k ∧ zf h 9 k = zf h 111 k ∧ (∃ t, t ≤ w ∧ t < 480 ∧ zf h 111 k = nI t) ∧ -30 ≤ (zf h 110 k).toInt ∧ (zf h 110 k).toInt ≤ 30) ∧
  (∀ j k, j ≤ k → k < n → zf h 107 j ≤ zf h 107 k) ∧ (∀ j k, j ≤ k → k < d → zf h 111 j ≤ zf h 111 k)
/-- the class's row of a SPELL's READINGS -/
theorem sw_rf {w n d : Nat} {h : zm_H} (H : I_sw w n d h) {sp q : Nat} (hsp : sp < 480) (hq : q ≤ n) : f_Swell_readingFor_ok (nI sp) (nI q) h ∧ f_Swell_readingFor (nI sp) (nI q) h = lst (h.2.1 105) (nI sp) q := by
  obtain ⟨⟨hn, -⟩, hR, hL, -⟩ := H
  have e0 : zr h 2 (nI sp) = lst (h.2.1 105) (nI sp) n := by
    show h.2.1 2 (nI sp).toNatClampNeg = _
    rw [nI_c (by omega)]; exact hL sp hsp
  have key := zlp (b := fun t => f_Swell_readingFor_l12_b (nI q) t.1 t.2 h) (o := fun t => f_Swell_readingFor_l12_b_ok (nI q) t.1 t.2 h) 400 (by omega)
    (fun k s => s.2 = nI (400 - k) ∧ k ≤ 400 ∧ ∃ m, q ≤ m ∧ m ≤ n ∧ m + k ≤ 400 ∧ s.1 = lst (h.2.1 105) (nI sp) m) (fun r => r.2.1 = lst (h.2.1 105) (nI sp) q) (zr h 2 (nI sp), 400)
    ⟨rfl, by omega, n, hq, by omega, by omega, e0⟩
    (by
      rintro k ⟨v3, v4⟩ hk ⟨h1, -, m, h2, h3, h4, h5⟩
      dsimp only at h1 h5
      subst h1 h5
      have g0 : ¬ (nI (400 - k) ≤ 0) := by rw [i_le, i_nI (by omega)]; show ¬ ((400 - k : Nat) : Int) ≤ 0; omega
      by_cases hc : lst (h.2.1 105) (nI sp) m < nI q
      · have e : f_Swell_readingFor_l12_b (nI q) (lst (h.2.1 105) (nI sp) m) (nI (400 - k)) h = (1, lst (h.2.1 105) (nI sp) m, nI (400 - k)) := by
          unfold f_Swell_readingFor_l12_b
          rw [if_neg g0, if_pos hc]
        dsimp only
        rw [e]
        refine ⟨?_, Or.inr ⟨by simp, (lst_stop (by omega) h2 hc).symm⟩⟩
        exact ⟨fun z => absurd z g0, fun _ => ⟨fun _ => trivial, fun z => absurd hc z⟩⟩
      · rcases lst_rng (h.2.1 105) (nI sp) m with hx | ⟨j, h6, h7, h8⟩
        · exfalso
          rw [hx, i_lt, i_nI (by omega), i_m1] at hc
          omega
        · have h9 : q ≤ j := by
            rw [h7, i_lt, i_nI (by omega), i_nI (by omega)] at hc
            omega
          have e : f_Swell_readingFor_l12_b (nI q) (lst (h.2.1 105) (nI sp) m) (nI (400 - k)) h = (0, zf h 3 j, nI (400 - k) + (-1)) := by
            unfold f_Swell_readingFor_l12_b
            rw [if_neg g0, if_neg hc, h7]
            show (0, h.2.1 3 (nI j).toNatClampNeg, nI (400 - k) + (-1)) = _
            rw [nI_c (by omega)]
          dsimp only
          rw [e]
          refine ⟨⟨fun z => absurd z g0, fun _ => ⟨fun z => absurd z hc, fun _ => ?_⟩⟩, Or.inl ⟨rfl, ?_, by omega, j, h9, by omega, by omega, ?_⟩⟩
          · rw [h7]; exact vp_in_nI (by omega) (by omega)
          · dsimp only
            rw [show 400 - k = (400 - (k + 1)) + 1 by omega]
            exact pk_m1 _
          · dsimp only
            rw [(hR j (by omega)).2.2.2.2.2, show zf h 105 j = nI sp from h8])
    (by
      rintro ⟨v3, v4⟩ ⟨h1, -, m, h2, h3, h4, h5⟩
      dsimp only at h1 h5
      subst h1 h5
      have m0 : m = 0 := by omega
      subst m0
      have q0 : q = 0 := by omega
      subst q0
      have e : f_Swell_readingFor_l12_b (nI 0) (lst (h.2.1 105) (nI sp) 0) (nI (400 - 400)) h = (1, lst (h.2.1 105) (nI sp) 0, nI (400 - 400)) := by
        unfold f_Swell_readingFor_l12_b
        rw [if_pos (by decide)]
      dsimp only
      rw [e]
      exact ⟨⟨fun _ => trivial, fun z => absurd (by decide) z⟩, by simp, rfl⟩)
  exact ⟨⟨vp_in_nI hsp (by omega), key.1, trivial⟩, key.2⟩
