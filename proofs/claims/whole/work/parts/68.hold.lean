/-! ===== HOLD ===== -/
def hd (S : Nat → Nat → Int32) (i : Nat) : Int32 := S 5 i - S 6 i / 100
def lhI (S : Nat → Nat → Int32) (r : Nat) : Nat → Int32
  | 0 => -1
  | k + 1 => if hld S (3 * r + k) then (if lhI S r k = -1 then hd S (3 * r + k) else if lhI S r k ≤ hd S (3 * r + k) then lhI S r k else hd S (3 * r + k)) else lhI S r k
def lh (S : Nat → Nat → Int32) (r : Nat) : Int32 := if lhI S r 3 < 0 then 0 else lhI S r 3
theorem hd_n {nr g : Nat} {S : Nat → Nat → Int32} (V : vOK nr g S) {i : Nat} (hi : i < 30) : (hd S i).toInt = (S 5 i).toInt - (S 6 i).toInt / 100 ∧ 0 ≤ (hd S i).toInt ∧ (hd S i).toInt ≤ 5000 := by
  obtain ⟨-, -, -, -, -, -, v7⟩ := V
  obtain ⟨a, b, c, -⟩ := v7 i hi
  have h5 : 0 ≤ (S 5 i).toInt ∧ (S 5 i).toInt ≤ 5000 := by
    rcases a with z | z
    · rw [z]; decide
    · omega
  have hdv : (S 6 i / 100).toInt = (S 6 i).toInt / 100 := by rw [i_div b (by decide), i_100]
  have e : (hd S i).toInt = (S 5 i).toInt - (S 6 i).toInt / 100 := by
    unfold hd
    rw [i_sub (by rw [hdv]; omega) (by rw [hdv]; omega), hdv]
  exact ⟨e, by rw [e]; omega, by rw [e]; omega⟩
theorem lhI_n {nr g : Nat} {S : Nat → Nat → Int32} (V : vOK nr g S) {r : Nat} (hr : r < 10) : ∀ k, k ≤ 3 → lhI S r k = -1 ∨ (0 ≤ (lhI S r k).toInt ∧ (lhI S r k).toInt ≤ 5000) := by
  intro k
  induction k with
  | zero => intro _; exact Or.inl rfl
  | succ k ih =>
    intro hk
    rw [lhI]
    have h1 := hd_n V (show 3 * r + k < 30 by omega)
    by_cases c : hld S (3 * r + k)
    · rw [if_pos c]
      right
      by_cases c2 : lhI S r k = -1
      · rw [if_pos c2]; exact h1.2
      · rw [if_neg c2]
        by_cases c3 : lhI S r k ≤ hd S (3 * r + k)
        · rw [if_pos c3]; exact (ih (by omega)).resolve_left c2
        · rw [if_neg c3]; exact h1.2
    · rw [if_neg c]; exact ih (by omega)
theorem lh_n {nr g : Nat} {S : Nat → Nat → Int32} (V : vOK nr g S) {r : Nat} (hr : r < 10) : 0 ≤ (lh S r).toInt ∧ (lh S r).toInt ≤ 5000 := by
  unfold lh
  rcases lhI_n V hr 3 (by omega) with z | z
  · rw [z]; decide
  · by_cases c : lhI S r 3 < 0
    · rw [if_pos c]; decide
    · rw [if_neg c]; exact z
theorem lh_off {nr g : Nat} {S : Nat → Nat → Int32} (V : vOK nr g S) {r : Nat} (hr : r < 10) (ho : ¬ (S 0 r = 1 ∨ S 0 r = 2)) : lh S r = 0 := by
  have h3 := (V.2.2.1 r hr ho).2
  have : ∀ k, k ≤ 3 → lhI S r k = -1 := by
    intro k
    induction k with
    | zero => intro _; rfl
    | succ k ih => intro hk; rw [lhI, if_neg (h3 k (by omega))]; exact ih (by omega)
  unfold lh
  rw [this 3 (by omega)]
  rfl
theorem ch_M {h : zm_H} {L i : Nat} (hL : L < 2) (hi : i < 30) : f_M_chainHolds_ok (nI (30 * L + i)) h ∧ f_M_chainHolds (nI (30 * L + i)) h = if hld (vM L h) i then 1 else 0 := by
  have i1 : vp_in (nI (30 * L + i)) 60 := vp_in_nI (by omega) (by omega)
  unfold f_M_chainHolds_ok f_M_chainHolds
  rw [zr_n h 128 (by omega), zr_n h 130 (by omega)]
  refine ⟨⟨i1, fun _ => trivial, fun _ => i1⟩, ?_⟩
  unfold hld
  rw [vM_at5 hi, vM_at7 hi]
theorem lh_M {h : zm_H} {nr g L r : Nat} (hL : L < 2) (hr : r < 10) (V : vOK nr g (vM L h)) : f_M_leastHold_ok (nI L) (nI r) h ∧ f_M_leastHold (nI L) (nI r) h = lh (vM L h) r := by
  have i20 : vp_in (nI (10 * L + r)) 20 := vp_in_nI (by omega) (by omega)
  have a0 : zr h 123 (nI (10 * L + r)) = vM L h 0 r := by rw [zr_n h 123 (by omega), vM_at0 hr]
  have loop : f_M_leastHold_k37_ok (nI L) (nI r) (-1) 0 h ∧ f_M_leastHold_k37 (nI L) (nI r) (-1) 0 h = lh (vM L h) r := by
    unfold f_M_leastHold_k37_ok f_M_leastHold_k37 f_M_leastHold_a40 f_M_leastHold_k114
    obtain ⟨F, eF, -⟩ := zF_ex
    rw [← eF]
    have key := zlpF eF (b := fun t => f_M_leastHold_l40_b (nI L) (nI r) t.1 t.2.1 t.2.2 h) (o := fun t => f_M_leastHold_l40_b_ok (nI L) (nI r) t.1 t.2.1 t.2.2 h) 3 (by omega)
      (fun k s => s.2.2 = nI k ∧ ((s.2.1 = 0 ∧ lhI (vM L h) r k = -1) ∨ (s.2.1 = 1 ∧ s.1 = lhI (vM L h) r k ∧ ¬ lhI (vM L h) r k = -1)))
      (fun q => (q.2.2.1 = 0 ∧ lhI (vM L h) r 3 = -1) ∨ (q.2.2.1 = 1 ∧ q.2.1 = lhI (vM L h) r 3 ∧ ¬ lhI (vM L h) r 3 = -1)) (-1, 0, 0) ⟨rfl, Or.inl ⟨rfl, rfl⟩⟩
      (by
        rintro k ⟨v3, v4, v5⟩ hk ⟨h1, h2⟩
        dsimp only at h1 h2
        subst h1
        obtain ⟨c1, c2⟩ := ch_M (h := h) hL (show 3 * r + k < 30 by omega)
        have i60 : vp_in (nI (30 * L + (3 * r + k))) 60 := vp_in_nI (by omega) (by omega)
        have eh : zr h 128 (nI (30 * L + (3 * r + k))) - zr h 129 (nI (30 * L + (3 * r + k))) / 100 = hd (vM L h) (3 * r + k) := by
          unfold hd
          rw [zr_n h 128 (by omega), zr_n h 129 (by omega), vM_at5 (by omega), vM_at6 (by omega)]
        have hn := hd_n V (show 3 * r + k < 30 by omega)
        have hne : ¬ hd (vM L h) (3 * r + k) = -1 := fun z => by rw [z, i_m1] at hn; omega
        refine ⟨?_, Or.inl ?_⟩
        · dsimp only
          unfold f_M_leastHold_l40_b_ok
          rw [x30]
          exact ⟨fun z => absurd z (g3 hk), fun _ => ⟨c1, fun _ => trivial, fun _ => ⟨i60, i60⟩⟩⟩
        · dsimp only
          unfold f_M_leastHold_l40_b
          rw [if_neg (g3 hk), x30, c2, eh]
          dsimp only
          refine ⟨rfl, (nI_succ k).symm, ?_⟩
          rw [lhI]
          by_cases c : hld (vM L h) (3 * r + k)
          · simp only [if_pos c, if_neg (show ¬ (1 : Int32) = 0 by decide)]
            right
            rcases h2 with ⟨h2, h3⟩ | ⟨h2, h3, h4⟩
            · simp only [if_pos h2, if_pos h3]
              exact ⟨trivial, trivial, hne⟩
            · have n0 : ¬ v4 = 0 := by rw [h2]; decide
              simp only [if_neg n0, if_neg h4]
              refine ⟨trivial, ?_, ?_⟩
              · rw [← h3]
                by_cases q1 : v3 ≤ hd (vM L h) (3 * r + k)
                · rw [if_pos q1]
                  by_cases q2 : hd (vM L h) (3 * r + k) ≤ v3
                  · rw [if_pos q2, i_eq]; rw [i_le] at q1 q2; omega
                  · rw [if_neg q2]
                · rw [if_neg q1, if_pos (by rw [i_le] at q1 ⊢; omega)]
              · by_cases q1 : lhI (vM L h) r k ≤ hd (vM L h) (3 * r + k)
                · rw [if_pos q1]; exact h4
                · rw [if_neg q1]; exact hne
          · simp only [if_neg c, if_true]
            exact h2)
      (by
        rintro ⟨v3, v4, v5⟩ ⟨h1, h2⟩
        dsimp only at h1 h2
        subst h1
        refine ⟨⟨fun _ => trivial, fun z => absurd (by decide : (3 : Int32) ≤ nI 3) z⟩, ?_⟩
        dsimp only
        unfold f_M_leastHold_l40_b
        rw [if_pos (by decide)]
        exact ⟨by simp, h2⟩)
    obtain ⟨k1, k2⟩ := key
    have k1 : f_M_leastHold_l40_ok (nI L) (nI r) h F (-1, 0, 0) := k1
    have k2 : ((f_M_leastHold_l40 (nI L) (nI r) h F (-1, 0, 0)).2.2.1 = 0 ∧ lhI (vM L h) r 3 = -1) ∨ ((f_M_leastHold_l40 (nI L) (nI r) h F (-1, 0, 0)).2.2.1 = 1 ∧ (f_M_leastHold_l40 (nI L) (nI r) h F (-1, 0, 0)).2.1 = lhI (vM L h) r 3 ∧ ¬ lhI (vM L h) r 3 = -1) := k2
    generalize f_M_leastHold_l40 (nI L) (nI r) h F (-1, 0, 0) = R at k2
    refine ⟨⟨k1, trivial⟩, ?_⟩
    unfold lh
    rcases k2 with ⟨a, b⟩ | ⟨a, b, c⟩
    · rw [if_pos a, b]; rfl
    · rw [if_neg (by rw [a]; decide), b]
      have := (lhI_n V hr 3 (by omega)).resolve_left c
      rw [if_neg (by rw [i_lt, i_0]; omega)]
  unfold f_M_leastHold_ok f_M_leastHold
  rw [x10, a0]
  refine ⟨⟨i20, fun _ => loop.1, fun _ => ⟨i20, fun _ => loop.1, fun _ => trivial⟩⟩, ?_⟩
  by_cases c1 : vM L h 0 r = 1
  · rw [if_pos c1]; exact loop.2
  · rw [if_neg c1]
    by_cases c2 : vM L h 0 r = 2
    · rw [if_pos c2]; exact loop.2
    · rw [if_neg c2, lh_off V hr (fun z => z.elim c1 c2)]
