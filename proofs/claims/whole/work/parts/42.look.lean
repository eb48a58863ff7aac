/-! ===== KNOWN, the class's side ===== -/
def fnd (f : Nat → Int32) (q : Nat) : Nat → Nat → Nat × Int32
  | 0, t => (t, -1)
  | m + 1, t => if 0 ≤ lst f (nI t) q then (t, lst f (nI t) q) else if t = 0 then (0, -1) else fnd f q m (t - 1)
theorem fnd_rng (f : Nat → Int32) (q : Nat) : ∀ (m t : Nat), (fnd f q m t).1 ≤ t ∧ ((fnd f q m t).2 = -1 ∨ ∃ k, k < q ∧ (fnd f q m t).2 = nI k) := by
  intro m
  induction m with
  | zero => intro t; exact ⟨Nat.le_refl _, Or.inl rfl⟩
  | succ m ih =>
    intro t
    rw [fnd]
    by_cases h : 0 ≤ lst f (nI t) q
    · rw [if_pos h]
      refine ⟨Nat.le_refl _, ?_⟩
      rcases lst_rng f (nI t) q with h1 | ⟨k, h1, h2, -⟩
      · exact Or.inl h1
      · exact Or.inr ⟨k, h1, h2⟩
    · rw [if_neg h]
      by_cases h0 : t = 0
      · rw [if_pos h0]; exact ⟨by omega, Or.inl rfl⟩
      · rw [if_neg h0]
        obtain ⟨h1, h2⟩ := ih (t - 1)
        exact ⟨by omega, h2⟩
def dsm (a b c : Nat → Int32) (s x : Int32) : Nat → Int32
  | 0 => x
  | n + 1 => if s < a n then dsm a b c s x n else if b n < s then dsm a b c s x n else dsm a b c s x n + c n
def clp (x : Int32) : Int32 := if x < 0 then 0 else if 120 < x then 120 else x
def seaP (h : zm_H) (q e t : Nat) : Int32 := if (fnd (h.2.1 105) q 9 t).2 < 0 then 81 else clp (dsm (h.2.1 108) (h.2.1 109) (h.2.1 110) (nI (fnd (h.2.1 105) q 9 t).1) (zr h 106 (fnd (h.2.1 105) q 9 t).2 / 1000) e) * 1000 + zm_rm (zr h 106 (fnd (h.2.1 105) q 9 t).2) 1000
theorem dsm_ext {a b c a' b' c' : Nat → Int32} {s x : Int32} {n : Nat} (h : ∀ k, k < n → a k = a' k ∧ b k = b' k ∧ c k = c' k) : dsm a b c s x n = dsm a' b' c' s x n := by
  induction n with
  | zero => rfl
  | succ n ih =>
    obtain ⟨h1, h2, h3⟩ := h n (by omega)
    rw [dsm, dsm, h1, h2, h3, ih (fun k hk => h k (by omega))]
theorem clp_cl (x : Int32) : (if 0 < (if 120 < x then 120 else x) then (if 120 < x then 120 else x) else 0) = clp x := by
  unfold clp
  by_cases h1 : 120 < x
  · rw [if_pos h1, if_pos (by decide), if_neg (by rw [i_lt] at h1 ⊢; have : (120 : Int32).toInt = 120 := rfl; have := i_0; omega)]
  · rw [if_neg h1]
    by_cases h2 : 0 < x
    · rw [if_pos h2, if_neg (by rw [i_lt] at h2 ⊢; omega)]
    · rw [if_neg h2]
      by_cases h3 : x < 0
      · rw [if_pos h3]
      · rw [if_neg h3]
        rw [i_lt] at h2 h3
        rw [i_eq]
        omega
theorem sw_dr {w n d : Nat} {h : zm_H} (H : I_sw w n d h) {e sp : Nat} (hsp : sp < 480) (he : e ≤ d) (x : Int32) : f_Swell_drifted_ok x (nI sp) (nI e) h ∧ f_Swell_drifted x (nI sp) (nI e) h = clp (dsm (h.2.1 108) (h.2.1 109) (h.2.1 110) (nI sp) (x / 1000) e) * 1000 + zm_rm x 1000 := by
  obtain ⟨⟨-, hd, -⟩, -, -, hD, -⟩ := H
  have key := zlp (b := fun t => f_Swell_drifted_l9_b x (nI sp) (nI e) t.1 t.2 h) (o := fun t => f_Swell_drifted_l9_b_ok x (nI sp) (nI e) t.1 t.2 h) e (by omega)
    (fun k s => s.2 = nI k ∧ s.1 = dsm (h.2.1 6) (h.2.1 7) (h.2.1 8) (nI sp) (x / 1000) k) (fun r => r.2.1 = dsm (h.2.1 6) (h.2.1 7) (h.2.1 8) (nI sp) (x / 1000) e) (x / 1000, 0) ⟨rfl, rfl⟩
    (by
      rintro k ⟨v4, v5⟩ hk ⟨h1, h2⟩
      dsimp only at h1 h2
      subst h1 h2
      have g0 : ¬ (nI e ≤ nI k) := by rw [i_le, i_nI (by omega), i_nI (by omega)]; omega
      have hin : vp_in (nI k) 30 := vp_in_nI (by omega) (by omega)
      refine ⟨⟨fun z => absurd z g0, fun _ => ⟨hin, fun _ => trivial, fun _ => ⟨hin, fun _ => trivial, fun _ => hin⟩⟩⟩, Or.inl ?_⟩
      dsimp only
      unfold f_Swell_drifted_l9_b
      rw [if_neg g0]
      refine ⟨rfl, (nI_succ k).symm, ?_⟩
      dsimp only
      rw [dsm]
      show (if nI sp < h.2.1 6 (nI k).toNatClampNeg then _ else if h.2.1 7 (nI k).toNatClampNeg < nI sp then _ else _ + h.2.1 8 (nI k).toNatClampNeg) = _
      rw [nI_c (by omega)])
    (by
      rintro ⟨v4, v5⟩ ⟨h1, h2⟩
      dsimp only at h1 h2
      subst h1 h2
      have g0 : nI e ≤ nI e := i_le.mpr (Int.le_refl _)
      refine ⟨⟨fun _ => trivial, fun z => absurd g0 z⟩, ?_⟩
      dsimp only
      unfold f_Swell_drifted_l9_b
      rw [if_pos g0]
      exact ⟨by simp, rfl⟩)
  refine ⟨⟨key.1, trivial⟩, ?_⟩
  show ((if 0 < (if 120 < _ then 120 else _) then (if 120 < _ then 120 else _) else 0) * 1000 + zm_rm x 1000) = _
  have k2 : (f_Swell_drifted_l9 x (nI sp) (nI e) h zF (x / 1000, 0)).2.1 = _ := key.2
  rw [clp_cl, k2, dsm_ext (fun k hk => by have := hD k (by omega); exact ⟨this.1, this.2.1, this.2.2.1⟩)]
theorem nI_s0 (t k : Nat) (hk : k ≤ t) : nI t - nI k = nI (t - k) := pk_sub hk
theorem sw_lk {w n d : Nat} {h : zm_H} (H : I_sw w n d h) {t q e : Nat} (ht : t < 480) (hq : q ≤ n) (he : e ≤ d) : f_Swell_look_ok (nI t) (nI q) (nI e) h ∧ f_Swell_look (nI t) (nI q) (nI e) h = seaP h q e t := by
  have hn : n ≤ 400 := H.1.1
  obtain ⟨F, eF⟩ : ∃ F, F = fnd (h.2.1 105) q 9 t := ⟨_, rfl⟩
  have key := zlp (b := fun s => f_Swell_look_l3_b (nI t) (nI q) (nI e) s.1 s.2 h) (o := fun s => f_Swell_look_l3_b_ok (nI t) (nI q) (nI e) s.1 s.2 h) (min 9 (t + 1)) (by omega)
    (fun k s => s.1 = nI k ∧ k ≤ t + 1 ∧ (k ≤ t → F = fnd (h.2.1 105) q (9 - k) (t - k)) ∧ (k = t + 1 → (F).2 = -1))
    (fun r => (r.1 = 1 ∧ ∃ sp j, sp ≤ t ∧ j < q ∧ nI t - r.2.1 = nI sp ∧ r.2.2 = nI j ∧ F = (sp, nI j)) ∨ (r.1 = 2 ∧ (F).2 = -1)) (0, 0)
    ⟨rfl, by omega, fun _ => eF, fun z => by omega⟩
    (by
      rintro k ⟨v4, v5⟩ hk ⟨h1, -, h2, -⟩
      dsimp only at h1
      subst h1
      have hk9 : k < 9 := by omega
      have hkt : k ≤ t := by omega
      have g1 : ¬ (8 < nI k) := by rw [i_lt, i_nI (by omega)]; show ¬ (8 : Int) < k; omega
      have g2 : ¬ (nI t < nI k) := by rw [i_lt, i_nI (by omega), i_nI (by omega)]; omega
      have e1 : nI t - nI k = nI (t - k) := nI_s0 t k hkt
      obtain ⟨r1, r2⟩ := sw_rf H (sp := t - k) (q := q) (by omega) hq
      refine ⟨⟨fun z => absurd z g1, fun _ => ⟨fun z => absurd z g2, fun _ => by rw [e1]; exact r1⟩⟩, ?_⟩
      dsimp only
      unfold f_Swell_look_l3_b
      rw [if_neg g1, if_neg g2, e1, r2]
      have h3 := h2 hkt
      rw [show 9 - k = (8 - k) + 1 by omega, fnd] at h3
      rcases lst_rng (h.2.1 105) (nI (t - k)) q with hx | ⟨j, h6, h7, h8⟩
      · left
        rw [hx, if_neg (by decide)] at h3
        rw [hx, if_pos (by decide)]
        refine ⟨rfl, (nI_succ k).symm, by omega, fun z => ?_, fun z => ?_⟩
        · rw [if_neg (by omega)] at h3
          rw [h3, show 9 - (k + 1) = 8 - k by omega, show t - (k + 1) = t - k - 1 by omega]
        · rw [if_pos (by omega)] at h3
          rw [h3]
      · right
        have g3 : ¬ (nI j < 0) := by rw [i_lt, i_nI (by omega)]; show ¬ (j : Int) < 0; omega
        have g4 : 0 ≤ nI j := by rw [i_le, i_nI (by omega)]; show (0 : Int) ≤ j; omega
        rw [h7, if_pos g4] at h3
        rw [h7, if_neg g3]
        exact ⟨by simp, Or.inl ⟨rfl, t - k, j, by omega, h6, e1, rfl, h3⟩⟩)
    (by
      rintro ⟨v4, v5⟩ ⟨h1, -, h2, h4⟩
      dsimp only at h1
      subst h1
      by_cases h9 : 9 ≤ t
      · have e9 : min 9 (t + 1) = 9 := by omega
        rw [e9] at h2 h4 ⊢
        have g1 : (8 : Int32) < nI 9 := by decide
        refine ⟨⟨fun _ => trivial, fun z => absurd g1 z⟩, ?_⟩
        dsimp only
        unfold f_Swell_look_l3_b
        rw [if_pos g1]
        refine ⟨by simp, Or.inr ⟨rfl, ?_⟩⟩
        rw [h2 (by omega)]
        rfl
      · have e9 : min 9 (t + 1) = t + 1 := by omega
        rw [e9] at h2 h4 ⊢
        have g2 : nI t < nI (t + 1) := by rw [i_lt, i_nI (by omega), i_nI (by omega)]; omega
        refine ⟨⟨fun _ => trivial, fun _ => ⟨fun _ => trivial, fun z => absurd g2 z⟩⟩, ?_⟩
        dsimp only
        unfold f_Swell_look_l3_b
        by_cases g1 : (8 : Int32) < nI (t + 1)
        · rw [if_pos g1]
          exact ⟨by simp, Or.inr ⟨rfl, h4 rfl⟩⟩
        · rw [if_neg g1, if_pos g2]
          exact ⟨by simp, Or.inr ⟨rfl, h4 rfl⟩⟩)
  rw [eF] at key
  obtain ⟨k1, k2⟩ := key
  have k2 : ((f_Swell_look_l3 (nI t) (nI q) (nI e) h zF (0, 0)).1 = 1 ∧ ∃ sp j, sp ≤ t ∧ j < q ∧ nI t - (f_Swell_look_l3 (nI t) (nI q) (nI e) h zF (0, 0)).2.1 = nI sp ∧ (f_Swell_look_l3 (nI t) (nI q) (nI e) h zF (0, 0)).2.2 = nI j ∧ fnd (h.2.1 105) q 9 t = (sp, nI j)) ∨ ((f_Swell_look_l3 (nI t) (nI q) (nI e) h zF (0, 0)).1 = 2 ∧ (fnd (h.2.1 105) q 9 t).2 = -1) := k2
  unfold f_Swell_look_ok f_Swell_look f_Swell_look_a3 f_Swell_look_a3_ok seaP
  rcases k2 with ⟨a1, sp, j, a2, a3, a4, a5, a6⟩ | ⟨a1, a2⟩
  · have g3 : ¬ (nI j < 0) := by rw [i_lt, i_nI (by omega)]; show ¬ (j : Int) < 0; omega
    obtain ⟨r1, r2⟩ := sw_dr H (sp := sp) (e := e) (by omega) he (zr h 4 (nI j))
    have e4 : zr h 4 (nI j) = zr h 106 (nI j) := by
      show h.2.1 4 (nI j).toNatClampNeg = h.2.1 106 (nI j).toNatClampNeg
      rw [nI_c (by omega)]
      exact (H.2.1 j (by omega)).1
    rw [if_pos a1, a6]
    dsimp only
    rw [if_neg g3]
    unfold f_Swell_look_k32 f_Swell_look_k32_ok
    rw [a4, a5]
    refine ⟨⟨k1, fun _ => ⟨vp_in_nI (by omega) (by omega), r1⟩, fun z => absurd a1 z⟩, ?_⟩
    rw [r2, e4]
  · have a3 : ¬ (f_Swell_look_l3 (nI t) (nI q) (nI e) h zF (0, 0)).1 = 1 := by rw [a1]; decide
    rw [if_neg a3, a2, if_pos (by decide)]
    exact ⟨⟨k1, fun z => absurd z a3, fun _ => trivial⟩, rfl⟩
