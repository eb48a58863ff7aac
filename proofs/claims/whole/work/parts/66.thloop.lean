/-! ===== THINGS up to a SPELL ===== -/
theorem zlp_k {F : Nat} (hF : F = zF) {b : Int32 × zm_H → Nat × Int32 × zm_H} {o : Int32 × zm_H → Prop} (N : Nat) (hN : N < 99999) (i0 : Nat) (P : Nat → zm_H → Prop) (h0 : zm_H) (p0 : P 0 h0)
    (hs : ∀ k h, k < N → P k h → o (nI (i0 + k), h) ∧ ∃ h', b (nI (i0 + k), h) = (0, nI (i0 + k + 1), h') ∧ P (k + 1) h')
    (he : ∀ h, P N h → o (nI (i0 + N), h) ∧ b (nI (i0 + N), h) = (1, nI (i0 + N), h)) : zwo b o F (nI i0, h0) ∧ ∃ h', zwh b F (nI i0, h0) = (1, nI (i0 + N), h') ∧ P N h' := by
  have key := zlpF hF (b := b) (o := o) N hN (fun k s => s.1 = nI (i0 + k) ∧ P k s.2) (fun r => ∃ h', r = (1, nI (i0 + N), h') ∧ P N h') (nI i0, h0) ⟨rfl, p0⟩
    (by
      rintro k ⟨v, h⟩ hk ⟨h1, h2⟩
      dsimp only at h1 h2
      subst h1
      obtain ⟨q1, h', q2, q3⟩ := hs k h hk h2
      refine ⟨q1, Or.inl ?_⟩
      rw [q2]
      exact ⟨rfl, by rw [show i0 + (k + 1) = i0 + k + 1 by omega], q3⟩)
    (by
      rintro ⟨v, h⟩ ⟨h1, h2⟩
      dsimp only at h1 h2
      subst h1
      obtain ⟨q1, q2⟩ := he h h2
      refine ⟨q1, ?_⟩
      rw [q2]
      exact ⟨by simp, h, rfl, h2⟩)
  exact key
def thS (T : Nat → Nat → Int32) (k : Nat) (S : Nat → Nat → Int32) : Nat → Nat → Int32 := if dbl S (T 1 k) (T 2 k).toNatClampNeg (T 3 k) = true then dot S (T 1 k) (T 2 k).toNatClampNeg (T 3 k) (T 4 k) else S
def thn (T : Nat → Nat → Int32) (nt : Nat) (t : Int32) (k : Nat) : Nat → Nat
  | 0 => 0
  | f + 1 => if k < nt ∧ T 0 k ≤ t then thn T nt t (k + 1) f + 1 else 0
def thI (T : Nat → Nat → Int32) (k m : Nat) (S : Nat → Nat → Int32) : Nat → Nat → Int32 := fld (fun j X => thS T (k + j) X) m S
theorem thn_spec (T : Nat → Nat → Int32) (nt : Nat) (t : Int32) : ∀ f k, nt < k + f → k ≤ nt → (∀ j, j < thn T nt t k f → k + j < nt ∧ T 0 (k + j) ≤ t) ∧ ¬ (k + thn T nt t k f < nt ∧ T 0 (k + thn T nt t k f) ≤ t) ∧ k + thn T nt t k f ≤ nt := by
  intro f
  induction f with
  | zero => intro k h1 h2; omega
  | succ f ih =>
    intro k h1 h2
    rw [thn]
    by_cases c : k < nt ∧ T 0 k ≤ t
    · rw [if_pos c]
      obtain ⟨a, b, d⟩ := ih (k + 1) (by omega) (by omega)
      refine ⟨fun j hj => ?_, ?_, by omega⟩
      · cases j with
        | zero => exact c
        | succ j =>
          have := a j (by omega)
          rw [show k + 1 + j = k + (j + 1) by omega] at this
          exact this
      · rw [show k + (thn T nt t (k + 1) f + 1) = k + 1 + thn T nt t (k + 1) f by omega]; exact b
    · rw [if_neg c]
      exact ⟨fun j hj => by omega, c, by omega⟩
/-- the THINGS as kept, on both sides -/
def I_th (nr nt : Nat) (h : zm_H) : Prop := (nt ≤ 200 ∧ zf h 23 4 = nI nt ∧ zf h 92 41 = nI nt) ∧ (h.2.1 27 = h.2.1 118 ∧ h.2.1 29 = h.2.1 120 ∧ h.2.1 31 = h.2.1 122) ∧ ∀ k, k < nt → (∃ r, h.2.1 29 k = nI r ∧ thOK nr (h.2.1 28 k) r (h.2.1 30 k) (h.2.1 31 k)) ∧ kdR (h.2.1 119 k) (h.2.1 28 k) (h.2.1 121 k) (h.2.1 30 k)
def tT (h : zm_H) : Nat → Nat → Int32 := fun i k => h.2.1 (27 + i) k
theorem vOK_th {nr nt g : Nat} (hnr : nr ≤ 10) {h : zm_H} (H : I_th nr nt h) {S : Nat → Nat → Int32} (V : vOK nr g S) {k : Nat} (hk : k < nt) : vOK nr g (thS (tT h) k S) := by
  obtain ⟨⟨r, e1, e2⟩, -⟩ := H.2.2 k hk
  have hr : r < nr := e2.1
  unfold thS
  have er : (tT h 2 k).toNatClampNeg = r := by
    show (h.2.1 29 k).toNatClampNeg = r
    rw [e1, nI_c (by omega)]
  rw [er]
  by_cases c : dbl S (tT h 1 k) r (tT h 3 k) = true
  · rw [if_pos c]; exact vOK_dot hnr V e2 c
  · rw [if_neg c]; exact V
theorem thI_s (T : Nat → Nat → Int32) (k m : Nat) (S : Nat → Nat → Int32) : thI T k (m + 1) S = thS T (k + m) (thI T k m S) := rfl
theorem vOK_thI {nr nt g : Nat} (hnr : nr ≤ 10) {h : zm_H} (H : I_th nr nt h) {S : Nat → Nat → Int32} (V : vOK nr g S) {k : Nat} : ∀ m, k + m ≤ nt → vOK nr g (thI (tT h) k m S) := by
  intro m
  induction m with
  | zero => intro _; exact V
  | succ m ih => intro hm; rw [thI_s]; exact vOK_th hnr H (ih (by omega)) (by omega)
theorem kd4 {nr : Nat} {kd : Int32} {r : Nat} {p s : Int32} (T : thOK nr kd r p s) : kd = 5 ∨ kd = 4 ∨ kd = 3 ∨ ∃ c, c < 3 ∧ kd = nI c := by
  rcases T.2 with ⟨a, -⟩ | a | a | ⟨a, -⟩
  · exact Or.inl a
  · exact Or.inr (Or.inl a)
  · exact Or.inr (Or.inr (Or.inl a))
  · exact Or.inr (Or.inr (Or.inr a))
/-- the model's loop over THINGS in anew -/
theorem an_th {nr nt g : Nat} (hnr : nr ≤ 10) {h : zm_H} (e33 : zf h 92 33 = nI nr) (H : I_th nr nt h) (V : vOK nr g (vM 1 h)) (v1 v2 t : Int32) {k : Nat} (hk : k ≤ nt) : f_M_anew_l89_l95_ok v1 v2 t zF (nI k, h) ∧ (f_M_anew_l89_l95 v1 v2 t zF (nI k, h)).2.1 = nI (k + thn (tT h) nt t k 201) ∧ vM 1 (f_M_anew_l89_l95 v1 v2 t zF (nI k, h)).2.2 = thI (tT h) k (thn (tT h) nt t k 201) (vM 1 h) ∧ vM 0 (f_M_anew_l89_l95 v1 v2 t zF (nI k, h)).2.2 = vM 0 h := by
  obtain ⟨⟨hnt, -, e41⟩, ⟨a27, a29, a31⟩, hT⟩ := id H
  obtain ⟨F, eF, -⟩ := zF_ex
  rw [← eF]
  obtain ⟨n1, n2, n3⟩ := thn_spec (tT h) nt t 201 k (by omega) hk
  obtain ⟨m, em⟩ : ∃ m, m = thn (tT h) nt t k 201 := ⟨_, rfl⟩
  rw [← em] at n1 n2 n3 ⊢
  have key := zlp_k eF (b := fun s => f_M_anew_l89_l95_b v1 v2 s.1 t s.2) (o := fun s => f_M_anew_l89_l95_b_ok v1 v2 s.1 t s.2) m (by omega) k
    (fun j h1 => zWr [123, 124, 125, 128, 129, 130] [] h h1 ∧ vM 1 h1 = thI (tT h) k j (vM 1 h) ∧ vM 0 h1 = vM 0 h) h ⟨zWr.refl _ _, rfl, rfl⟩
    (by
      rintro j h1 hj ⟨p1, p2, p3⟩
      obtain ⟨q1, q2⟩ := n1 j hj
      obtain ⟨⟨r, r1, r2⟩, r3⟩ := hT (k + j) q1
      have hr : r < nr := r2.1
      have f41 : zf h1 92 41 = nI nt := (p1.fld 92 41 (by decide) (by decide)).trans e41
      have f33 : zf h1 92 33 = nI nr := (p1.fld 92 33 (by decide) (by decide)).trans e33
      have a : ∀ i, i ∉ [123, 124, 125, 128, 129, 130] → ∀ x, x < 2147483648 → zr h1 i (nI x) = h.2.1 i x := fun i hi x hx => by
        rw [zr_n h1 i hx]
        exact congrFun (p1.arr i hi (by simp)) x
      have b118 : zr h1 118 (nI (k + j)) = h.2.1 27 (k + j) := by rw [a 118 (by decide) _ (by omega), a27]
      have b119 : zr h1 119 (nI (k + j)) = h.2.1 119 (k + j) := a 119 (by decide) _ (by omega)
      have b120 : zr h1 120 (nI (k + j)) = nI r := by rw [a 120 (by decide) _ (by omega), ← a29]; exact r1
      have b121 : zr h1 121 (nI (k + j)) = h.2.1 121 (k + j) := a 121 (by decide) _ (by omega)
      have b122 : zr h1 122 (nI (k + j)) = h.2.1 31 (k + j) := by rw [a 122 (by decide) _ (by omega), a31]
      have g1 : ¬ (zf h1 92 41 ≤ nI (k + j)) := by rw [f41, nx_le (by omega) (by omega)]; omega
      have g2 : ¬ (t < zr h1 118 (nI (k + j))) := by
        rw [b118]
        have q2 : h.2.1 27 (k + j) ≤ t := q2
        rw [i_lt]; rw [i_le] at q2; omega
      have vj : vOK nr g (vM 1 h1) := by rw [p2]; exact vOK_thI hnr H V j (by omega)
      have hds := ds_M (h := h1) hnr f33 (L := 1) (by omega) (show r < 10 by omega) (s := h.2.1 31 (k + j)) r3 (fun e5 => by
        rcases r2.2 with ⟨-, ⟨q, hq, -, eq⟩, -⟩ | z | z | ⟨⟨c, hc, z⟩, -⟩
        · rw [eq]; exact vOK_tk vj hq hnr
        · rw [e5] at z; exact absurd z (by decide)
        · rw [e5] at z; exact absurd z (by decide)
        · rw [e5] at z; exact absurd (nI_inj (by omega) (by omega) (show nI 5 = nI c from z)) (by omega))
      obtain ⟨d1, d2, d3, d4⟩ := hds
      have i200 : vp_in (nI (k + j)) 200 := vp_in_nI (by omega) (by omega)
      refine ⟨?_, (f_M_does 1 (h.2.1 119 (k + j)) (nI r) (h.2.1 121 (k + j)) (h.2.1 31 (k + j)) h1).2, ?_, ?_, ?_, ?_⟩
      · dsimp only
        unfold f_M_anew_l89_l95_b_ok
        rw [b119, b120, b121, b122]
        refine ⟨fun z => absurd z g1, fun _ => ⟨i200, fun z => absurd z g2, fun _ => ?_⟩⟩
        exact ⟨i200, i200, i200, i200, d1⟩
      · dsimp only
        unfold f_M_anew_l89_l95_b f_M_anew_l89_l95_k143
        rw [if_neg g1, if_neg g2, b119, b120, b121, b122, ← nI_succ]
      · exact zWr_tr (f_M_does_w _ _ _ _ _ h1) (by decide) (by decide) p1
      · rw [thI_s, ← p2]
        unfold thS
        have er : (tT h 2 (k + j)).toNatClampNeg = r := by
          show (h.2.1 29 (k + j)).toNatClampNeg = r
          rw [r1, nI_c (by omega)]
        rw [er]
        exact d3
      · exact (d4 0 (by omega) (by omega)).trans p3)
    (by
      rintro h1 ⟨p1, p2, p3⟩
      have f41 : zf h1 92 41 = nI nt := (p1.fld 92 41 (by decide) (by decide)).trans e41
      dsimp only
      unfold f_M_anew_l89_l95_b f_M_anew_l89_l95_b_ok
      by_cases c1 : zf h1 92 41 ≤ nI (k + m)
      · rw [if_pos c1]; exact ⟨⟨fun _ => trivial, fun z => absurd c1 z⟩, rfl⟩
      · have hkm : k + m < nt := by rw [f41, nx_le (by omega) (by omega)] at c1; omega
        have b118 : zr h1 118 (nI (k + m)) = h.2.1 27 (k + m) := by
          rw [zr_n h1 118 (by omega), zf, p1.arr 118 (by decide) (by decide), a27]
        have c2 : t < zr h1 118 (nI (k + m)) := by
          rw [b118]
          have := fun z => n2 ⟨hkm, z⟩
          have this : ¬ h.2.1 27 (k + m) ≤ t := this
          rw [i_lt]; rw [i_le] at this; omega
        rw [if_neg c1, if_pos c2]
        exact ⟨⟨fun z => absurd z c1, fun _ => ⟨vp_in_nI (by omega) (by omega), fun _ => trivial, fun z => absurd c2 z⟩⟩, rfl⟩)
  obtain ⟨k1, h', k2, -, k3, k4⟩ := key
  have k2 : f_M_anew_l89_l95 v1 v2 t F (nI k, h) = (1, nI (k + m), h') := k2
  rw [k2]
  exact ⟨k1, rfl, k3, k4⟩
