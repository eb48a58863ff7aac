/-! ===== sink and rise ===== -/
def snk (E : Nat → (Nat → Int32) → Int32) (sz : Nat → Int32) (sea t : Int32) (r : Nat) (S : Nat → Nat → Int32) : Nat → Nat → Int32 := if S 0 r = 1 then zm_u S 0 r (if E 0 (nmR S sz sea t r) = 0 then 1 else 2) else if S 0 r = 2 then zm_u S 0 r (if E 1 (nmR S sz sea t r) = 0 then 2 else 1) else S
theorem zu_self {S : Nat → Nat → Int32} {i k : Nat} {v : Int32} (e : S i k = v) : zm_u S i k v = S := by
  funext a b
  rw [zu_at]
  by_cases h1 : a = i
  · subst h1
    rw [if_pos rfl]
    by_cases h2 : b = k
    · subst h2; rw [if_pos rfl, e]
    · rw [if_neg h2]
  · rw [if_neg h1]
theorem vOK_st {nr g : Nat} {S : Nat → Nat → Int32} (V : vOK nr g S) {r : Nat} (hr : r < 10) (h1 : S 0 r = 1 ∨ S 0 r = 2) {v : Int32} (hv : v = 1 ∨ v = 2) : vOK nr g (zm_u S 0 r v) := by
  obtain ⟨v1, v2, v3, v4, v5, v6, v7⟩ := V
  have x0 : ∀ x, zm_u S 0 r v 0 x = if x = r then v else S 0 x := fun x => by rw [zu_at, if_pos rfl]
  have xo : ∀ i x, ¬ i = 0 → zm_u S 0 r v i x = S i x := fun i x hi => by rw [zu_at, if_neg hi]
  refine ⟨?_, ?_, ?_, ?_, ?_, ?_, ?_⟩
  · intro x hx
    rw [x0]
    by_cases e : x = r
    · rw [if_pos e]; rcases hv with z | z
      · exact Or.inr (Or.inl z)
      · exact Or.inr (Or.inr (Or.inl z))
    · rw [if_neg e]; exact v1 x hx
  · intro x hx
    rw [x0, xo 1 x (by decide)]
    by_cases e : x = r
    · subst e; exact fun _ => v2 x hx h1
    · rw [if_neg e]; exact v2 x hx
  · intro x hx
    rw [x0, xo 1 x (by decide)]
    by_cases e : x = r
    · rw [if_pos e]; exact fun z => absurd hv z
    · rw [if_neg e]
      intro z
      refine ⟨(v3 x hx z).1, fun c hc y => (v3 x hx z).2 c hc ?_⟩
      unfold hld at y ⊢
      rw [xo 5 _ (by decide), xo 7 _ (by decide)] at y
      exact y
  · intro x hx hx2
    rw [x0]
    by_cases e : x = r
    · exfalso
      subst e
      have := v4 x hx hx2
      rw [this] at h1
      exact absurd h1 (by decide)
    · rw [if_neg e]; exact v4 x hx hx2
  · intro x y hx hy; rw [xo 1 x (by decide), xo 1 y (by decide)]; exact v5 x y hx hy
  · intro x hx; rw [xo 2 x (by decide), xo 3 x (by decide)]; exact v6 x hx
  · intro x hx; rw [xo 5 x (by decide), xo 6 x (by decide), xo 7 x (by decide)]; exact v7 x hx
theorem vOK_snk {nr g : Nat} {S : Nat → Nat → Int32} (V : vOK nr g S) (E : Nat → (Nat → Int32) → Int32) (sz : Nat → Int32) (sea t : Int32) {r : Nat} (hr : r < 10) : vOK nr g (snk E sz sea t r S) := by
  unfold snk
  by_cases c1 : S 0 r = 1
  · rw [if_pos c1]
    exact vOK_st V hr (Or.inl c1) (by split <;> simp)
  · rw [if_neg c1]
    by_cases c2 : S 0 r = 2
    · rw [if_pos c2]
      exact vOK_st V hr (Or.inr c2) (by split <;> simp)
    · rw [if_neg c2]; exact V
theorem vOK_snks {nr g : Nat} {S : Nat → Nat → Int32} (V : vOK nr g S) (E : Nat → (Nat → Int32) → Int32) (sz : Nat → Int32) (sea t : Int32) : ∀ n, n ≤ 10 → vOK nr g (fld (snk E sz sea t) n S) := by
  intro n
  induction n with
  | zero => intro _; exact V
  | succ n ih => intro hn; exact vOK_snk (ih (by omega)) E sz sea t (by omega)
/-- the rafts as they came, on both sides -/
def I_rf (w nr : Nat) (h : zm_H) : Prop := (nr ≤ 10 ∧ zf h 23 0 = nI nr ∧ zf h 92 33 = nI nr) ∧ (h.2.1 24 = h.2.1 112 ∧ h.2.1 25 = h.2.1 113 ∧ h.2.1 26 = h.2.1 114) ∧ ∀ r, r < nr → (1 ≤ (h.2.1 112 r).toInt ∧ (h.2.1 112 r).toInt ≤ 20) ∧ (2 ≤ (h.2.1 113 r).toInt ∧ (h.2.1 113 r).toInt ≤ 20) ∧ ∃ c, c ≤ w ∧ h.2.1 114 r = nI c
theorem snk_M {ns nf nr g w L : Nat} {h : zm_H} (H : I_rl ns nf h) (R : I_rf w nr h) (hL : L < 2) (V : vOK nr g (vM L h)) {t : Nat} {sea : Int32} (hs : rdOK sea) (ht : t < 480) (hS : isSea h sea) : f_M_goes_l2_ok (nI L) (nI t) zF (0, h) ∧ ∃ h', f_M_goes_l2 (nI L) (nI t) zF (0, h) = (1, nI nr, h') ∧ zWr [123, 149, 150] [] h h' ∧ vM L h' = fld (snk (fun c nm => Ev nf h c (nI t) nm) (h.2.1 112) sea (nI t)) nr (vM L h) ∧ ∀ L', L' < 2 → ¬ L = L' → vM L' h' = vM L' h := by
  obtain ⟨⟨hnr, -, e33⟩, -, hR⟩ := R
  obtain ⟨F, eF, -⟩ := zF_ex
  rw [← eF]
  have key := zlp_k eF (b := fun s => f_M_goes_l2_b (nI L) (nI t) s.1 s.2) (o := fun s => f_M_goes_l2_b_ok (nI L) (nI t) s.1 s.2) nr (by omega) 0
    (fun j h1 => zWr [123, 149, 150] [] h h1 ∧ vM L h1 = fld (snk (fun c nm => Ev nf h c (nI t) nm) (h.2.1 112) sea (nI t)) j (vM L h) ∧ ∀ L', L' < 2 → ¬ L = L' → vM L' h1 = vM L' h) h ⟨zWr.refl _ _, rfl, fun _ _ _ => rfl⟩
    (by
      rintro j h1 hj ⟨p1, p2, p3⟩
      rw [Nat.zero_add]
      have hj10 : j < 10 := by omega
      have f33 : zf h1 92 33 = nI nr := (p1.fld 92 33 (by decide) (by decide)).trans e33
      have g0 : ¬ (zf h1 92 33 ≤ nI j) := by rw [f33, nx_le (by omega) (by omega)]; omega
      have V1 : vOK nr g (vM L h1) := by rw [p2]; exact vOK_snks V _ _ _ _ j (by omega)
      have S1 : isSea h1 sea := ⟨(p1.fld 92 79 (by decide) (by decide)).trans hS.1, (p1.fld 92 80 (by decide) (by decide)).trans hS.2.1, (p1.fld 92 81 (by decide) (by decide)).trans hS.2.2⟩
      have e112 : h1.2.1 112 = h.2.1 112 := p1.arr 112 (by decide) (by decide)
      obtain ⟨a1, a2, a3⟩ := ask_M (t := t) hL V1 S1 hj10
      rw [e112] at a3
      obtain ⟨h2, e2⟩ : ∃ h2, h2 = f_M_asks (nI L) (nI j) (nI t) h1 := ⟨_, rfl⟩
      rw [← e2] at a2 a3
      have hw1 : wfR [123, 149, 150] [] = true := by decide
      have p12 : zWr [123, 149, 150] [] h h2 := zWr_tr a2 (by decide) (by decide) p1
      have H2 : I_rl ns nf h2 := I_rl_w hw1 p12 H
      have v2 : ∀ L', vM L' h2 = vM L' h1 := fun L' => vM_eq (fun i hi => a2.arr i (by simp at hi ⊢; omega) (by simp)) (a2.2 127 (by decide)).2.1
      have nmo : nmOK (h2.2.1 149) := nmOK_ext a3 (nmR_ok V1 hs ht hj10 (by have := (hR j hj).1; omega))
      have a0 : zr h2 123 (nI (10 * L + j)) = vM L h1 0 j := by rw [zr_n h2 123 (by omega), ← v2 L, vM_at0 hj10]
      have i20 : vp_in (nI (10 * L + j)) 20 := vp_in_nI (by omega) (by omega)
      have tel : ∀ c, c < 4 → f_M_tells_ok (nI c) (nI t) h2 ∧ (f_M_tells (nI c) (nI t) h2).1 = Ev nf h c (nI t) (nmR (vM L h1) (h.2.1 112) sea (nI t) j) ∧ zWr [150] [] h2 (f_M_tells (nI c) (nI t) h2).2 := by
        intro c hc
        obtain ⟨q1, q2, q3⟩ := te_M H2 nmo hc (nI t)
        exact ⟨q1, by rw [q2, Ev_ext H2 hc (nI t) a3, Ev_w hw1 p12], q3⟩
      obtain ⟨k1, k2, k3⟩ := tel 0 (by omega)
      obtain ⟨m1, m2, m3⟩ := tel 1 (by omega)
      have k1 : f_M_tells_ok 0 (nI t) h2 := k1
      have k2 : (f_M_tells 0 (nI t) h2).1 = Ev nf h 0 (nI t) (nmR (vM L h1) (h.2.1 112) sea (nI t) j) := k2
      have k3 : zWr [150] [] h2 (f_M_tells 0 (nI t) h2).2 := k3
      have m1 : f_M_tells_ok 1 (nI t) h2 := m1
      have m2 : (f_M_tells 1 (nI t) h2).1 = Ev nf h 1 (nI t) (nmR (vM L h1) (h.2.1 112) sea (nI t) j) := m2
      have m3 : zWr [150] [] h2 (f_M_tells 1 (nI t) h2).2 := m3
      have eS : fld (snk (fun c nm => Ev nf h c (nI t) nm) (h.2.1 112) sea (nI t)) (j + 1) (vM L h) = snk (fun c nm => Ev nf h c (nI t) nm) (h.2.1 112) sea (nI t) j (vM L h1) := by rw [p2]; rfl
      have fin : ∀ (h3 : zm_H) (x : Int32) (v : Int32), zWr [150] [] h2 h3 → (v = vM L h1 0 j ∨ True) → zWr [123, 149, 150] [] h (zs h3 123 (nI (10 * L + j)) v) ∧ vM L (zs h3 123 (nI (10 * L + j)) v) = zm_u (vM L h1) 0 j v ∧ ∀ L', L' < 2 → ¬ L = L' → vM L' (zs h3 123 (nI (10 * L + j)) v) = vM L' h := by
        intro h3 x v w3 _
        have v3 : ∀ L', vM L' h3 = vM L' h1 := fun L' => (vM_eq (fun i hi => w3.arr i (by simp at hi ⊢; omega) (by simp)) (w3.2 127 (by decide)).2.1).trans (v2 L')
        rw [zs_n _ 123 _ (by omega)]
        refine ⟨zWr_si (by decide) (zWr_tr w3 (by decide) (by decide) p12), ?_, ?_⟩
        · rw [vM_u10 (i := 0) (j := 123) rfl (by omega) hj10, v3]
        · intro L' hL' hne
          rw [vM_x10 hne (i := 0) (j := 123) rfl (by omega) hj10, v3]; exact p3 L' hL' hne
      have sam : ∀ (h3 : zm_H), zWr [150] [] h2 h3 → zWr [123, 149, 150] [] h h3 ∧ vM L h3 = vM L h1 ∧ ∀ L', L' < 2 → ¬ L = L' → vM L' h3 = vM L' h := by
        intro h3 w3
        have v3 : ∀ L', vM L' h3 = vM L' h1 := fun L' => (vM_eq (fun i hi => w3.arr i (by simp at hi ⊢; omega) (by simp)) (w3.2 127 (by decide)).2.1).trans (v2 L')
        exact ⟨zWr_tr w3 (by decide) (by decide) p12, v3 L, fun L' hL' hne => (v3 L').trans (p3 L' hL' hne)⟩
      refine ⟨?_, ?_⟩
      · dsimp only
        unfold f_M_goes_l2_b_ok f_M_goes_l2_k25_ok
        rw [← e2, x10, a0]
        exact ⟨fun z => absurd z g0, fun _ => ⟨a1, i20, fun _ => ⟨k1, fun _ => trivial, fun _ => i20⟩, fun _ => ⟨i20, fun _ => ⟨m1, fun _ => trivial, fun _ => i20⟩, fun _ => trivial⟩⟩⟩
      · dsimp only
        unfold f_M_goes_l2_b f_M_goes_l2_k25 f_M_goes_l2_k42 f_M_goes_l2_k73 f_M_goes_l2_k84
        rw [if_neg g0, ← e2, x10, a0, k2, m2, ← nI_succ, eS]
        unfold snk
        by_cases c1 : vM L h1 0 j = 1
        · simp only [if_pos c1]
          by_cases ce : Ev nf h 0 (nI t) (nmR (vM L h1) (h.2.1 112) sea (nI t) j) = 0
          · simp only [if_pos ce]
            refine ⟨_, rfl, ?_⟩
            rw [zu_self c1]
            exact sam _ k3
          · simp only [if_neg ce]
            exact ⟨_, rfl, fin _ 0 2 k3 (Or.inr trivial)⟩
        · simp only [if_neg c1]
          by_cases c2 : vM L h1 0 j = 2
          · simp only [if_pos c2]
            by_cases ce : Ev nf h 1 (nI t) (nmR (vM L h1) (h.2.1 112) sea (nI t) j) = 0
            · simp only [if_pos ce]
              refine ⟨_, rfl, ?_⟩
              rw [zu_self c2]
              exact sam _ m3
            · simp only [if_neg ce]
              exact ⟨_, rfl, fin _ 0 1 m3 (Or.inr trivial)⟩
          · simp only [if_neg c2]
            exact ⟨_, rfl, sam _ (zWr.refl _ _)⟩)
    (by
      rintro h1 ⟨p1, p2, p3⟩
      rw [Nat.zero_add]
      have f33 : zf h1 92 33 = nI nr := (p1.fld 92 33 (by decide) (by decide)).trans e33
      have g0 : zf h1 92 33 ≤ nI nr := by rw [f33]; exact i_le_r _
      dsimp only
      unfold f_M_goes_l2_b f_M_goes_l2_b_ok
      rw [if_pos g0]
      exact ⟨⟨fun _ => trivial, fun z => absurd g0 z⟩, rfl⟩)
  rw [Nat.zero_add] at key
  exact key
