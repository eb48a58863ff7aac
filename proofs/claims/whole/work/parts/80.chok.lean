/-! ===== CHAINS: what stays ===== -/
theorem zu_n {S : Nat → Nat → Int32} {i k a b : Nat} {v : Int32} (h : ¬ a = i) : zm_u S i k v a b = S a b := by rw [zu_at, if_neg h]
theorem zu_h {S : Nat → Nat → Int32} {i k b : Nat} {v : Int32} : zm_u S i k v i b = if b = k then v else S i b := by rw [zu_at, if_pos rfl]
def isW (way : Int32) : Prop := way = -1 ∨ way = 0 ∨ way = 1
theorem sea_w {sea : Int32} (h : rdOK sea) : isW (zm_rm sea 10 - 1) := by
  obtain ⟨-, -, -, s4⟩ := sea_rng h
  obtain ⟨h1, h2, h3, h4, h5⟩ := h
  unfold isW
  rw [i_eq, i_eq, i_eq, s4, i_m1, i_0, i_1]
  omega
theorem wtv_n {way : Int32} (hw : isW way) {c : Nat} (hc : c < 3) : 1 ≤ (wtv way c).toInt ∧ (wtv way c).toInt ≤ 3 := by
  rcases hw with e | e | e <;> subst e <;> (rcases (show c = 0 ∨ c = 1 ∨ c = 2 by omega) with e | e | e <;> subst e <;> decide)
theorem wtv_M {way : Int32} (hw : isW way) {c : Nat} (hc : c < 3) {h : zm_H} (e : zf h 92 81 = way) : f_M_weight (nI c) h = wtv way c := by
  unfold f_M_weight
  rw [e]
  rcases hw with e | e | e <;> subst e <;> (rcases (show c = 0 ∨ c = 1 ∨ c = 2 by omega) with e | e | e <;> subst e <;> rfl)
theorem wtv_in {way : Int32} (hw : isW way) {c : Nat} (hc : c < 3) : vp_in ((way + 1) * 3 + nI c) 9 := by
  rw [vp_in_iff]
  rcases hw with e | e | e <;> subst e <;> (rcases (show c = 0 ∨ c = 1 ∨ c = 2 by omega) with e | e | e <;> subst e <;> decide)
theorem alw_n {S : Nat → Nat → Int32} {way : Int32} (hw : isW way) (r : Nat) : ∀ k, k ≤ 3 → 0 ≤ (alw S r way k).toInt ∧ (alw S r way k).toInt ≤ 3 * k ∧ ∀ c, c < k → hld S (3 * r + c) → 1 ≤ (alw S r way k).toInt := by
  intro k
  induction k with
  | zero => intro _; exact ⟨by rw [alw, i_0]; omega, by rw [alw, i_0]; omega, fun c hc => by omega⟩
  | succ k ih =>
    intro hk
    obtain ⟨a, b, d⟩ := ih (by omega)
    have wn := wtv_n hw (show k < 3 by omega)
    have hc : 0 ≤ (wtc S r way k).toInt ∧ (wtc S r way k).toInt ≤ 3 ∧ (hld S (3 * r + k) → 1 ≤ (wtc S r way k).toInt) := by
      unfold wtc
      by_cases c : hld S (3 * r + k)
      · rw [if_pos c]; exact ⟨by omega, by omega, fun _ => by omega⟩
      · rw [if_neg c]; exact ⟨by decide, by decide, fun z => absurd z c⟩
    have e : (alw S r way (k + 1)).toInt = (alw S r way k).toInt + (wtc S r way k).toInt := by rw [alw]; exact i_add (by omega) (by omega)
    refine ⟨by omega, by omega, fun c hck hh => ?_⟩
    rcases (show c < k ∨ c = k by omega) with z | z
    · have := d c z hh; omega
    · subst z; have := hc.2.2 hh; omega
theorem bor_n {S : Nat → Nat → Int32} {way load : Int32} (hw : isW way) (l1 : 0 ≤ load.toInt) (l2 : load.toInt ≤ 3000) (r : Nat) {c : Nat} (hc : c < 3) : 0 ≤ (bor S r load way c).toInt ∧ (hld S (3 * r + c) → ¬ alw S r way 3 = 0 ∧ bor S r load way c = load * wtv way c / alw S r way 3) := by
  obtain ⟨a, b, d⟩ := alw_n (S := S) hw r 3 (by omega)
  have wn := wtv_n hw hc
  unfold bor
  by_cases z : alw S r way 3 = 0
  · rw [if_pos z]
    refine ⟨by decide, fun hh => ?_⟩
    have := d c hc hh
    rw [z, i_0] at this; omega
  · rw [if_neg z]
    have hp : 0 < (alw S r way 3).toInt := by rw [i_eq, i_0] at z; omega
    have hcn : 0 ≤ (wtc S r way c).toInt ∧ (wtc S r way c).toInt ≤ 3 := by
      unfold wtc
      by_cases q : hld S (3 * r + c)
      · rw [if_pos q]; omega
      · rw [if_neg q]; decide
    have b1 : 0 ≤ load.toInt * (wtc S r way c).toInt := Int.mul_nonneg l1 hcn.1
    have b2 : load.toInt * (wtc S r way c).toInt ≤ load.toInt * 3 := Int.mul_le_mul_of_nonneg_left hcn.2 l1
    have m : (load * wtc S r way c).toInt = load.toInt * (wtc S r way c).toInt := i_mul (by omega) (by omega)
    refine ⟨?_, fun hh => ⟨z, ?_⟩⟩
    · rw [i_div (by rw [m]; omega) hp, m]; exact Int.ediv_nonneg b1 (by omega)
    · unfold wtc; rw [if_pos hh]
theorem stn_o {S : Nat → Nat → Int32} {i : Nat} {load t : Int32} {a b : Nat} (h : ¬ ((a = 6 ∨ a = 7) ∧ b = i)) : stn S i load t a b = S a b := by
  unfold stn
  repeat' split
  all_goals first | rfl | (rw [zu_at]; by_cases ha : a = 6 <;> by_cases hb : b = i <;> simp [ha, hb] <;> (exfalso; omega)) | (rw [zu_at]; by_cases ha : a = 7 <;> by_cases hb : b = i <;> simp [ha, hb] <;> (exfalso; omega))
theorem st3_o {S : Nat → Nat → Int32} {r : Nat} {load way t : Int32} : ∀ k {a b : Nat}, ¬ ((a = 6 ∨ a = 7) ∧ 3 * r ≤ b ∧ b < 3 * r + k) → st3 S r load way t k a b = S a b := by
  intro k
  induction k with
  | zero => intro a b _; rfl
  | succ k ih =>
    intro a b h
    rw [st3, stn_o (by omega), ih (by omega)]
theorem st3_at {S : Nat → Nat → Int32} {r : Nat} {load way t : Int32} (k : Nat) : (hld (st3 S r load way t k) (3 * r + k) ↔ hld S (3 * r + k)) ∧ hd (st3 S r load way t k) (3 * r + k) = hd S (3 * r + k) ∧ st3 S r load way t k 6 (3 * r + k) = S 6 (3 * r + k) := by
  have e5 : st3 S r load way t k 5 (3 * r + k) = S 5 (3 * r + k) := st3_o k (by omega)
  have e6 : st3 S r load way t k 6 (3 * r + k) = S 6 (3 * r + k) := st3_o k (by omega)
  have e7 : st3 S r load way t k 7 (3 * r + k) = S 7 (3 * r + k) := st3_o k (by omega)
  refine ⟨?_, ?_, e6⟩
  · unfold hld; rw [e5, e7]
  · unfold hd; rw [e5, e6]
def chOK (S : Nat → Nat → Int32) : Prop := ∀ i, i < 30 → (S 5 i = 0 ∨ (10 ≤ (S 5 i).toInt ∧ (S 5 i).toInt ≤ 5000)) ∧ 0 ≤ (S 6 i).toInt ∧ (S 6 i).toInt ≤ 100 * (S 5 i).toInt + 99 ∧ (S 7 i = -1 ∨ ∃ t, t < 480 ∧ S 7 i = nI t)
theorem stn_ok {S : Nat → Nat → Int32} (H : chOK S) {i : Nat} (hi : i < 30) {load : Int32} (l1 : 0 ≤ load.toInt) {t : Nat} (ht : t < 480) : chOK (stn S i load (nI t)) := by
  obtain ⟨a, b, c, d⟩ := H i hi
  have h5 : 0 ≤ (S 5 i).toInt ∧ (S 5 i).toInt ≤ 5000 := by
    rcases a with z | z
    · rw [z]; decide
    · omega
  have hdv : (S 6 i / 100).toInt = (S 6 i).toInt / 100 := by rw [i_div b (by decide), i_100]
  have e : (hd S i).toInt = (S 5 i).toInt - (S 6 i).toInt / 100 := by
    unfold hd
    rw [i_sub (by rw [hdv]; omega) (by rw [hdv]; omega), hdv]
  unfold stn
  by_cases q : hld S i
  · rw [if_pos q]
    by_cases q2 : load ≤ hd S i
    · rw [if_pos q2]
      rw [i_le, e] at q2
      have e1 : (load - 100).toInt = load.toInt - 100 := by rw [i_sub (by rw [i_100]; omega) (by rw [i_100]; omega), i_100]
      obtain ⟨D, eD⟩ : ∃ D, D = (if 0 < load - 100 then load - 100 else 0) := ⟨_, rfl⟩
      have hD : 0 ≤ D.toInt ∧ D.toInt ≤ load.toInt := by
        rw [eD]
        by_cases y : 0 < load - 100
        · rw [if_pos y, e1]; rw [i_lt, e1, i_0] at y; omega
        · rw [if_neg y, i_0]; omega
      have hD2 : D.toInt = 0 ∨ D.toInt = load.toInt - 100 := by
        rw [eD]
        by_cases y : 0 < load - 100
        · rw [if_pos y, e1]; exact Or.inr rfl
        · rw [if_neg y, i_0]; exact Or.inl rfl
      rw [← eD]
      have e6 : (S 6 i + D).toInt = (S 6 i).toInt + D.toInt := i_add (by omega) (by omega)
      intro x hx
      rw [zu_n (a := 5) (by decide), zu_n (a := 7) (by decide), zu_h]
      by_cases ex : x = i
      · subst ex
        rw [if_pos rfl, e6]
        exact ⟨a, by omega, by omega, d⟩
      · rw [if_neg ex]; exact H x hx
    · rw [if_neg q2]
      intro x hx
      rw [zu_n (a := 5) (by decide), zu_n (a := 6) (by decide), zu_h]
      by_cases ex : x = i
      · subst ex; rw [if_pos rfl]; exact ⟨a, b, c, Or.inr ⟨t, ht, rfl⟩⟩
      · rw [if_neg ex]; exact H x hx
  · rw [if_neg q]; exact H
theorem st3_ok {S : Nat → Nat → Int32} (H : chOK S) {r : Nat} (hr : r < 10) {way load : Int32} (hw : isW way) (l1 : 0 ≤ load.toInt) (l2 : load.toInt ≤ 3000) {t : Nat} (ht : t < 480) : ∀ k, k ≤ 3 → chOK (st3 S r load way (nI t) k) := by
  intro k
  induction k with
  | zero => intro _; exact H
  | succ k ih =>
    intro hk
    rw [st3]
    exact stn_ok (ih (by omega)) (by omega) (bor_n hw l1 l2 r (by omega)).1 ht
theorem load_n {sea s : Int32} (h : rdOK sea) (s1 : 1 ≤ s.toInt) (s2 : s.toInt ≤ 20) : 0 ≤ (sea / 1000 * (s + 5)).toInt ∧ (sea / 1000 * (s + 5)).toInt ≤ 3000 := by
  obtain ⟨q1, -⟩ := sea_rng h
  obtain ⟨h1, h2, -⟩ := h
  have e5 : (5 : Int32).toInt = 5 := rfl
  have e : (s + 5).toInt = s.toInt + 5 := by rw [i_add (by rw [e5]; omega) (by rw [e5]; omega), e5]
  have b1 : 0 ≤ (sea / 1000).toInt * (s + 5).toInt := Int.mul_nonneg (by omega) (by omega)
  have b2 : (sea / 1000).toInt * (s + 5).toInt ≤ (sea / 1000).toInt * 25 := Int.mul_le_mul_of_nonneg_left (by omega) (by omega)
  rw [i_mul (by omega) (by omega)]
  omega
theorem vOK_chn {nr g : Nat} {S : Nat → Nat → Int32} (V : vOK nr g S) {sz : Nat → Int32} {sea : Int32} (hs : rdOK sea) {t : Nat} (ht : t < 480) {r : Nat} (hr : r < 10) (z1 : 1 ≤ (sz r).toInt) (z2 : (sz r).toInt ≤ 20) : vOK nr g (chn sz sea (nI t) r S) := by
  obtain ⟨l1, l2⟩ := load_n hs z1 z2
  have hw := sea_w hs
  unfold chn
  obtain ⟨v1, v2, v3, v4, v5, v6, v7⟩ := id V
  by_cases c : S 0 r = 1
  · rw [if_pos c]
    have c7 := st3_ok v7 hr hw l1 l2 ht 3 (Nat.le_refl _)
    have o : ∀ a b, ¬ ((a = 6 ∨ a = 7) ∧ 3 * r ≤ b ∧ b < 3 * r + 3) → st3 S r (sea / 1000 * (sz r + 5)) (zm_rm sea 10 - 1) (nI t) 3 a b = S a b := fun a b h => st3_o 3 h
    generalize st3 S r (sea / 1000 * (sz r + 5)) (zm_rm sea 10 - 1) (nI t) 3 = X at c7 o
    have hh : ∀ x d, d < 3 → ¬ x = r → (hld X (3 * x + d) ↔ hld S (3 * x + d)) := fun x d hd hx => by unfold hld; rw [o 5 _ (by omega), o 7 _ (by omega)]
    by_cases c2 : hld X (3 * r + 0) ∨ hld X (3 * r + 1) ∨ hld X (3 * r + 2)
    · rw [if_pos c2]
      refine ⟨?_, ?_, ?_, ?_, ?_, ?_, c7⟩
      · intro x hx; rw [o 0 _ (by omega)]; exact v1 x hx
      · intro x hx; rw [o 0 _ (by omega), o 1 _ (by omega)]; exact v2 x hx
      · intro x hx; rw [o 0 _ (by omega), o 1 _ (by omega)]
        intro z
        refine ⟨(v3 x hx z).1, fun d hd y => ?_⟩
        have hxr : ¬ x = r := fun e => z (by rw [e]; exact Or.inl c)
        exact (v3 x hx z).2 d hd ((hh x d hd hxr).mp y)
      · intro x hx hx2; rw [o 0 _ (by omega)]; exact v4 x hx hx2
      · intro x y hx hy; rw [o 1 x (by omega), o 1 y (by omega)]; exact v5 x y hx hy
      · intro x hx; rw [o 2 _ (by omega), o 3 _ (by omega)]; exact v6 x hx
    · rw [if_neg c2]
      have x0 : ∀ x, zm_u (zm_u X 0 r 3) 1 r (-1) 0 x = if x = r then 3 else S 0 x := fun x => by
        rw [zu_n (by decide), zu_h, o 0 _ (by omega)]
      have x1 : ∀ x, zm_u (zm_u X 0 r 3) 1 r (-1) 1 x = if x = r then -1 else S 1 x := fun x => by
        rw [zu_h, zu_n (by decide), o 1 _ (by omega)]
      have xo : ∀ i x, ¬ (i = 0 ∨ i = 1) → zm_u (zm_u X 0 r 3) 1 r (-1) i x = X i x := fun i x hi => by
        rw [zu_n (by omega), zu_n (by omega)]
      refine ⟨?_, ?_, ?_, ?_, ?_, ?_, ?_⟩
      · intro x hx
        rw [x0]
        by_cases e : x = r
        · rw [if_pos e]; exact Or.inr (Or.inr (Or.inr rfl))
        · rw [if_neg e]; exact v1 x hx
      · intro x hx
        rw [x0, x1]
        by_cases e : x = r
        · rw [if_pos e]; exact fun z => absurd z (by decide)
        · rw [if_neg e, if_neg e]; exact v2 x hx
      · intro x hx
        rw [x0, x1]
        by_cases e : x = r
        · rw [if_pos e, if_pos e]
          refine fun _ => ⟨rfl, fun d hd y => c2 ?_⟩
          subst e
          unfold hld at y
          rw [xo 5 _ (by omega), xo 7 _ (by omega)] at y
          rcases (show d = 0 ∨ d = 1 ∨ d = 2 by omega) with q | q | q <;> subst q
          · exact Or.inl y
          · exact Or.inr (Or.inl y)
          · exact Or.inr (Or.inr y)
        · rw [if_neg e, if_neg e]
          intro z
          refine ⟨(v3 x hx z).1, fun d hd y => ?_⟩
          unfold hld at y
          rw [xo 5 _ (by omega), xo 7 _ (by omega)] at y
          exact (v3 x hx z).2 d hd ((hh x d hd e).mp y)
      · intro x hx hx2
        rw [x0]
        by_cases e : x = r
        · exfalso
          subst e
          have := v4 x hx hx2
          rw [c] at this
          exact absurd this (by decide)
        · rw [if_neg e]; exact v4 x hx hx2
      · intro x y hx hy
        rw [x1, x1]
        by_cases e : x = r
        · rw [if_pos e]; exact fun _ => Or.inr rfl
        · rw [if_neg e]
          by_cases e2 : y = r
          · rw [if_pos e2]; exact fun z => Or.inr z
          · rw [if_neg e2]; exact v5 x y hx hy
      · intro x hx; rw [xo 2 _ (by omega), xo 3 _ (by omega), o 2 _ (by omega), o 3 _ (by omega)]; exact v6 x hx
      · intro x hx
        rw [xo 5 _ (by omega), xo 6 _ (by omega), xo 7 _ (by omega)]; exact c7 x hx
  · rw [if_neg c]; exact V
theorem vOK_pwr {nr g : Nat} (hg : g < 480) {S : Nat → Nat → Int32} {q : Nat} (V : vOK nr (g + 1) S) (Vg : ∀ r, q ≤ r → r < 10 → (S 2 r).toInt ≤ g) {tk : Nat → Int32} (hq : q < 10) (t1 : 0 ≤ (tk q).toInt) (t2 : (tk q).toInt ≤ 288000) : vOK nr (g + 1) (pwr tk q S) ∧ ∀ r, q + 1 ≤ r → r < 10 → (pwr tk q S 2 r).toInt ≤ g := by
  obtain ⟨v1, v2, v3, v4, v5, v6, v7⟩ := V
  have x : ∀ i, ¬ (i = 2 ∨ i = 3 ∨ i = 4) → pwr tk q S i = S i := pwr_eqC tk q S
  have x2 : ∀ r, pwr tk q S 2 r = if r = q then S 2 q + (if ¬ tk q ≤ 0 then 1 else 0) else S 2 r := fun r => by
    unfold pwr
    rw [zu_n (by decide), zu_h, zu_n (by decide)]
  have x3' : ∀ r, pwr tk q S 3 r = if r = q then pwv S tk q else S 3 r := fun r => by
    unfold pwr
    rw [zu_n (by decide), zu_n (by decide), zu_h]
  have b0 := v6 q hq
  have bg := Vg q (Nat.le_refl _) hq
  have e2 : 0 ≤ (S 2 q + (if ¬ tk q ≤ 0 then 1 else 0)).toInt ∧ (S 2 q + (if ¬ tk q ≤ 0 then 1 else 0)).toInt ≤ g + 1 := by
    by_cases c : ¬ tk q ≤ 0
    · rw [if_pos c, i_add (by rw [i_1]; omega) (by rw [i_1]; omega), i_1]; omega
    · rw [if_neg c, i_add (by rw [i_0]; omega) (by rw [i_0]; omega), i_0]; omega
  obtain ⟨k1, k2⟩ := lek_n b0.1
  have e3 := pw_n t1 t2 k1 k2
  refine ⟨⟨?_, ?_, ?_, ?_, ?_, ?_, ?_⟩, ?_⟩
  · rw [x 0 (by decide)]; exact v1
  · rw [x 0 (by decide), x 1 (by decide)]; exact v2
  · rw [x 0 (by decide), x 1 (by decide)]
    intro r hr z
    refine ⟨(v3 r hr z).1, fun c hc y => (v3 r hr z).2 c hc ?_⟩
    unfold hld at y ⊢
    rw [x 5 (by decide), x 7 (by decide)] at y
    exact y
  · rw [x 0 (by decide)]; exact v4
  · rw [x 1 (by decide)]; exact v5
  · intro r hr
    rw [x2, x3']
    by_cases e : r = q
    · rw [if_pos e, if_pos e]
      exact ⟨e2.1, e2.2, e3.1, e3.2⟩
    · rw [if_neg e, if_neg e]; exact v6 r hr
  · rw [x 5 (by decide), x 6 (by decide), x 7 (by decide)]; exact v7
  · intro r hr1 hr2
    rw [x2, if_neg (by omega)]
    exact Vg r (by omega) hr2
