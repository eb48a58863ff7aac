/-! ===== a PLAN: the model's best ===== -/
def gsP (P : Prop) (n : Nat) (v : Int32) : Prop := (P ∧ v = nI n) ∨ (¬ P ∧ v = -1)
theorem gsP_iff {P Q : Prop} {n : Nat} {v : Int32} (e : P ↔ Q) (h : gsP P n v) : gsP Q n v := by
  rcases h with ⟨a, b⟩ | ⟨a, b⟩
  · exact Or.inl ⟨e.mp a, b⟩
  · exact Or.inr ⟨fun z => a (e.mpr z), b⟩
theorem b_x1 : ∀ u, u < 64 → ∀ p, p < 64 → p &&& u = p → (p &&& (u ^^^ p) = 0 ∧ (u ^^^ p) ||| p = u) := by decide +kernel
theorem b_x2 : ∀ s, s < 64 → ∀ p, p < 64 → p &&& s = 0 → (p &&& (s ||| p) = p ∧ (s ||| p) ^^^ p = s) := by decide +kernel
theorem sm_or {G : Nat → Nat} {J s p : Nat} (h : p &&& s = 0) : sm G (s ||| p).testBit J = sm G s.testBit J + sm G p.testBit J := by
  refine sm_add J (fun i hi => ⟨Nat.testBit_or .., fun z => ?_⟩)
  have : (p &&& s).testBit i = false := by rw [h, Nat.zero_testBit]
  rw [Nat.testBit_and, z.1, z.2] at this
  cases this
abbrev fzM (J : Nat) (L S : Nat → Nat) (mu : Nat → Int32) (k s : Nat) : Prop := fz J L (aM mu) S k s.testBit
def dpM (J : Nat) (L S : Nat → Nat) (mu : Nat → Int32) (k s q u : Nat) : Prop := fzM J L S mu k u ∨ ∃ s' p, s' < 2 ^ J ∧ p < 2 ^ J ∧ 0 < p ∧ (s' < s ∨ (s' = s ∧ p < q)) ∧ p &&& s' = 0 ∧ s' ||| p = u ∧ fzM J L S mu k s' ∧ alwP J L S mu k p
theorem dpM_0 {J : Nat} {L S : Nat → Nat} {mu : Nat → Int32} {k u : Nat} : fzM J L S mu k u ↔ dpM J L S mu k 0 1 u := by
  constructor
  · exact Or.inl
  · rintro (z | ⟨s', p, -, -, z1, z2, -⟩)
    · exact z
    · omega
theorem dpM_e {J : Nat} (hJ : J ≤ 6) {L S : Nat → Nat} {mu : Nat → Int32} {k u : Nat} (hu : u < 2 ^ J) : dpM J L S mu k (2 ^ J) 1 u ↔ fzM J L S mu (k + 1) u := by
  have h64 := p2_le hJ
  rw [fzM, fz_n hu]
  constructor
  · rintro (z | ⟨s', p, a1, a2, a3, -, a5, a6, a7, a8⟩)
    · exact Or.inl z
    · have b := b_x2 s' (by omega) p (by omega) a5
      rw [a6] at b
      refine Or.inr ⟨p, a2, a3, b.1, a8.1, a8.2, ?_⟩
      rw [b.2]; exact a7
  · rintro (z | ⟨p, a1, a2, a3, a4, a5, a6⟩)
    · exact Or.inl z
    · have b := b_x1 u (by omega) p (by omega) a3
      have c := b_sx u (by omega) p (by omega) ⟨a3, a2⟩
      exact Or.inr ⟨u ^^^ p, p, by omega, a1, a2, Or.inl (by omega), b.1, b.2, a6, a4, a5⟩
theorem dpM_s {J : Nat} {L S : Nat → Nat} {mu : Nat → Int32} {k s p u : Nat} (hs : s < 2 ^ J) (hp : p < 2 ^ J) (h0 : 0 < p) : dpM J L S mu k s (p + 1) u ↔ dpM J L S mu k s p u ∨ (p &&& s = 0 ∧ s ||| p = u ∧ fzM J L S mu k s ∧ alwP J L S mu k p) := by
  constructor
  · rintro (z | ⟨s', q, a1, a2, a3, a4, a5, a6, a7, a8⟩)
    · exact Or.inl (Or.inl z)
    · by_cases c : s' = s ∧ q = p
      · obtain ⟨rfl, rfl⟩ := c
        exact Or.inr ⟨a5, a6, a7, a8⟩
      · exact Or.inl (Or.inr ⟨s', q, a1, a2, a3, by omega, a5, a6, a7, a8⟩)
  · rintro ((z | ⟨s', q, a1, a2, a3, a4, a5, a6, a7, a8⟩) | ⟨a5, a6, a7, a8⟩)
    · exact Or.inl z
    · exact Or.inr ⟨s', q, a1, a2, a3, by omega, a5, a6, a7, a8⟩
    · exact Or.inr ⟨s, p, hs, hp, h0, by omega, a5, a6, a7, a8⟩
theorem dpM_n {J : Nat} {L S : Nat → Nat} {mu : Nat → Int32} {k s u : Nat} : dpM J L S mu k s (2 ^ J) u ↔ dpM J L S mu k (s + 1) 1 u := by
  constructor
  · rintro (z | ⟨s', q, a1, a2, a3, a4, a5, a6, a7, a8⟩)
    · exact Or.inl z
    · exact Or.inr ⟨s', q, a1, a2, a3, by omega, a5, a6, a7, a8⟩
  · rintro (z | ⟨s', q, a1, a2, a3, a4, a5, a6, a7, a8⟩)
    · exact Or.inl z
    · exact Or.inr ⟨s', q, a1, a2, a3, by omega, a5, a6, a7, a8⟩
theorem dpM_k {J : Nat} {L S : Nat → Nat} {mu : Nat → Int32} {k s u : Nat} (no : ¬ fzM J L S mu k s) : dpM J L S mu k s 1 u ↔ dpM J L S mu k (s + 1) 1 u := by
  constructor
  · rintro (z | ⟨s', q, a1, a2, a3, a4, a5, a6, a7, a8⟩)
    · exact Or.inl z
    · exact Or.inr ⟨s', q, a1, a2, a3, by omega, a5, a6, a7, a8⟩
  · rintro (z | ⟨s', q, a1, a2, a3, a4, a5, a6, a7, a8⟩)
    · exact Or.inl z
    · by_cases e : s' = s
      · subst e; exact absurd a7 no
      · exact Or.inr ⟨s', q, a1, a2, a3, by omega, a5, a6, a7, a8⟩
theorem gv_le {J : Nat} (hJ : J ≤ 6) {L V : Nat → Nat} (hV : ∀ j, j < J → 1 ≤ V j ∧ V j ≤ 999) (p : Nat) : sm (gvl L V) p.testBit J ≤ 5994000 := by
  have := sm_le (L := gvl L V) (P := p.testBit) (B := 999000) J (fun i hi => by have := hV i hi; show 1000 * V i - L i ≤ _; omega)
  omega
theorem gv_pos {J : Nat} {L V : Nat → Nat} (hL : ∀ j, j < J → L j ≤ 16) (hV : ∀ j, j < J → 1 ≤ V j ∧ V j ≤ 999) {p : Nat} (hp : p < 2 ^ J) (h0 : 0 < p) : 1 ≤ sm (gvl L V) p.testBit J := by
  obtain ⟨i, hi, hb⟩ := bit_ex hp h0
  refine sm_pos J i hi hb ?_
  have := hL i hi
  have := hV i hi
  show 1 ≤ 1000 * V i - L i
  omega
/-- one set more is put into window k, by all others -/
theorem bo_h {J m : Nat} (hJ : J ≤ 6) (hm : m ≤ 40) {L V S : Nat → Nat} {mu : Nat → Int32} (hL : ∀ j, j < J → L j ≤ 16) (hV : ∀ j, j < J → 1 ≤ V j ∧ V j ≤ 999) (hS : ∀ w, w < m → S w < 1000) {x : zm_H} (H : I_mj J m L V S mu x) {k : Nat} (hk : k < m) {s : Nat} (hs : s < 2 ^ J) (fs : fzM J L S mu k s) (es : x.2.1 157 s = nI (sm (gvl L V) s.testBit J)) (p0 : ∀ u, u < 2 ^ J → gsP (dpM J L S mu k s 1 u) (sm (gvl L V) u.testBit J) (x.2.1 158 u)) {F : Nat} (eF : F = zF) (v1 : Int32) : f_M_bestOf_l37_l74_l96_ok v1 (nI (2 ^ J)) (nI k) (nI s) F (1, x) ∧ ∃ y, f_M_bestOf_l37_l74_l96 v1 (nI (2 ^ J)) (nI k) (nI s) F (1, x) = (1, nI (1 + (2 ^ J - 1)), y) ∧ zWr [158] [] x y ∧ ∀ u, u < 2 ^ J → gsP (dpM J L S mu k (s + 1) 1 u) (sm (gvl L V) u.testBit J) (y.2.1 158 u) := by
  have h64 := p2_le hJ
  have h0 : 0 < 2 ^ J := Nat.pow_pos (by omega)
  have key := zlp_k eF (b := fun t => f_M_bestOf_l37_l74_l96_b v1 (nI (2 ^ J)) (nI k) (nI s) t.1 t.2) (o := fun t => f_M_bestOf_l37_l74_l96_b_ok v1 (nI (2 ^ J)) (nI k) (nI s) t.1 t.2) (2 ^ J - 1) (by omega) 1
    (fun q y => zWr [158] [] x y ∧ ∀ u, u < 2 ^ J → gsP (dpM J L S mu k s (1 + q) u) (sm (gvl L V) u.testBit J) (y.2.1 158 u)) x ⟨zWr.refl _ _, p0⟩
    (by
      rintro q y hq ⟨r1, r2⟩
      obtain ⟨p, ep⟩ : ∃ p, p = 1 + q := ⟨_, rfl⟩
      rw [show 1 + (q + 1) = p + 1 by omega]
      rw [← ep] at r2 ⊢
      have hp : p < 2 ^ J := by omega
      have g0 : ¬ (nI (2 ^ J) ≤ nI p) := by rw [nx_le (by omega) (by omega)]; omega
      have is : vp_in (nI s) 64 := vp_in_nI (by omega) (by omega)
      have hu : s ||| p < 2 ^ J := Nat.or_lt_two_pow hs hp
      have iu : vp_in (nI (s ||| p)) 64 := vp_in_nI (by omega) (by omega)
      have eo : nI s ||| nI p = nI (s ||| p) := b_or s (by omega) p (by omega)
      have ea : nI p &&& nI s = nI (p &&& s) := b_and p (by omega) s (by omega)
      have ha : p &&& s ≤ p := Nat.and_le_left
      have e0 : nI (p &&& s) = 0 ↔ p &&& s = 0 := by rw [i_eq, i_nI (by omega), i_0]; omega
      obtain ⟨v1', v2, v3⟩ := vi_M hJ hm hL hV hS (I_mj_w (zWr_tr r1 (by decide) (by decide) (zWr.refl _ _)) H) hp hk
      have y7 : zr y 157 (nI s) = nI (sm (gvl L V) s.testBit J) := by rw [zr_n y 157 (by omega), zf, r1.arr 157 (by decide) (by decide)]; exact es
      have gp := gv_pos hL hV hp (by omega)
      have gl1 := gv_le (L := L) hJ hV s
      have gl2 := gv_le (L := L) hJ hV p
      have gl3 := gv_le (L := L) hJ hV (s ||| p)
      dsimp only
      unfold f_M_bestOf_l37_l74_l96_b f_M_bestOf_l37_l74_l96_b_ok
      rw [if_neg g0, eo, ea, y7, zr_n y 158 (show s ||| p < 2147483648 by omega), zs_n y 158 _ (show s ||| p < 2147483648 by omega), ← nI_succ]
      refine ⟨⟨fun z => absurd z g0, fun _ => ⟨fun _ => ⟨is, v1', v1', fun _ => trivial, fun _ => ⟨iu, fun _ => trivial, fun _ => iu⟩⟩, fun _ => trivial⟩⟩, _, rfl, ?_⟩
      have same : ∀ z : zm_H, (∀ u, u < 2 ^ J → z.2.1 158 u = y.2.1 158 u) → ¬ (p &&& s = 0 ∧ alwP J L S mu k p) → ∀ u, u < 2 ^ J → gsP (dpM J L S mu k s (p + 1) u) (sm (gvl L V) u.testBit J) (z.2.1 158 u) := by
        intro z hz no u hu2
        rw [hz u hu2]
        refine gsP_iff ?_ (r2 u hu2)
        rw [dpM_s hs hp (by omega)]
        constructor
        · exact Or.inl
        · rintro (w | ⟨w1, w2, w3, w4⟩)
          · exact w
          · exact absurd ⟨w1, w4⟩ no
      by_cases c : p &&& s = 0
      · rw [if_pos (e0.mpr c)]
        by_cases d : alwP J L S mu k p
        · rw [v2 d, nI_add, ← sm_or c]
          have n1 : ¬ (nI (sm (gvl L V) p.testBit J) ≤ 0) := by rw [i_le, i_nI (by omega), i_0]; omega
          rw [if_neg n1]
          have fin : ∀ z : zm_H, z.2.1 158 (s ||| p) = nI (sm (gvl L V) (s ||| p).testBit J) → (∀ u, ¬ u = s ||| p → z.2.1 158 u = y.2.1 158 u) → ∀ u, u < 2 ^ J → gsP (dpM J L S mu k s (p + 1) u) (sm (gvl L V) u.testBit J) (z.2.1 158 u) := by
            intro z z1 z2 u hu2
            by_cases e : u = s ||| p
            · rw [e]
              exact Or.inl ⟨(dpM_s hs hp (by omega)).mpr (Or.inr ⟨c, rfl, fs, d⟩), z1⟩
            · rw [z2 u e]
              refine gsP_iff ?_ (r2 u hu2)
              rw [dpM_s hs hp (by omega)]
              constructor
              · exact Or.inl
              · rintro (w | ⟨w1, w2, w3, w4⟩)
                · exact w
                · exact absurd w2.symm e
          by_cases n2 : nI (sm (gvl L V) (s ||| p).testBit J) ≤ zf y 158 (s ||| p)
          · rw [if_pos n2]
            refine ⟨r1, fin y ?_ (fun _ _ => rfl)⟩
            rcases r2 (s ||| p) hu with ⟨-, w⟩ | ⟨-, w⟩
            · exact w
            · rw [zf, w, i_le, i_nI (by omega), i_m1] at n2; omega
          · rw [if_neg n2]
            exact ⟨zWr_si (by decide) r1, fin _ (zm_in _ _ _ _) (fun u hu2 => by rw [zf_si, if_pos rfl, if_neg hu2])⟩
        · rw [v3 d, if_pos (by decide)]
          exact ⟨r1, same y (fun _ _ => rfl) (fun z => d z.2)⟩
      · rw [if_neg (fun z => c (e0.mp z))]
        exact ⟨r1, same y (fun _ _ => rfl) (fun z => c z.1)⟩)
    (by
      rintro y ⟨r1, r2⟩
      have g0 : nI (2 ^ J) ≤ nI (1 + (2 ^ J - 1)) := by rw [nx_le (by omega) (by omega)]; omega
      dsimp only
      unfold f_M_bestOf_l37_l74_l96_b f_M_bestOf_l37_l74_l96_b_ok
      rw [if_pos g0]
      exact ⟨⟨fun _ => trivial, fun z => absurd g0 z⟩, rfl⟩)
  obtain ⟨k1, y, k2, k3, k4⟩ := key
  refine ⟨k1, y, k2, k3, fun u hu => gsP_iff dpM_n ?_⟩
  have := k4 u hu
  rw [show 1 + (2 ^ J - 1) = 2 ^ J by omega] at this
  exact this
