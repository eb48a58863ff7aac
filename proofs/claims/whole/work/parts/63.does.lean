/-! ===== THINGS, the model ===== -/
/-- the model's kinds against the class's -/
def kdR (km kc : Int32) (wh p : Int32) : Prop := (km = 0 ∧ kc = 5 ∧ wh = p) ∨ (km = 3 ∧ kc = 4) ∨ (km = 2 ∧ kc = 3) ∨ (km = 1 ∧ wh = kc ∧ ∃ c, c < 3 ∧ kc = nI c)
theorem zwh_e {F : Nat} {S : Type} {b : S → Nat × S} {s : S} {x : Nat × S} (h : zwh b F s = x) : zwh b F s = x := h
theorem vM_at0 {L : Nat} {h : zm_H} {k : Nat} (hk : k < 10) : vM L h 0 k = h.2.1 123 (10 * L + k) := by unfold vM; rw [if_pos ⟨by omega, hk⟩]; rfl
theorem vM_at1 {L : Nat} {h : zm_H} {k : Nat} (hk : k < 10) : vM L h 1 k = h.2.1 124 (10 * L + k) := by unfold vM; rw [if_pos ⟨by omega, hk⟩]; rfl
theorem vM_at2 {L : Nat} {h : zm_H} {k : Nat} (hk : k < 10) : vM L h 2 k = h.2.1 125 (10 * L + k) := by unfold vM; rw [if_pos ⟨by omega, hk⟩]; rfl
theorem vM_at3 {L : Nat} {h : zm_H} {k : Nat} (hk : k < 10) : vM L h 3 k = h.2.1 126 (10 * L + k) := by unfold vM; rw [if_pos ⟨by omega, hk⟩]; rfl
theorem vM_at5 {L : Nat} {h : zm_H} {k : Nat} (hk : k < 30) : vM L h 5 k = h.2.1 128 (30 * L + k) := by unfold vM; rw [if_pos ⟨by omega, hk⟩]; rfl
theorem vM_at6 {L : Nat} {h : zm_H} {k : Nat} (hk : k < 30) : vM L h 6 k = h.2.1 129 (30 * L + k) := by unfold vM; rw [if_pos ⟨by omega, hk⟩]; rfl
theorem vM_at7 {L : Nat} {h : zm_H} {k : Nat} (hk : k < 30) : vM L h 7 k = h.2.1 130 (30 * L + k) := by unfold vM; rw [if_pos ⟨by omega, hk⟩]; rfl
theorem ds_M {h : zm_H} {nr L r : Nat} (hnr : nr ≤ 10) (e : zf h 92 33 = nI nr) (hL : L < 2) (hr : r < 10) {km kc wh p s : Int32} (hk : kdR km kc wh p) (htk : kc = 5 → tkn (vM L h) p nr = tkn (vM L h) p 10) : f_M_does_ok (nI L) km (nI r) wh s h ∧ (f_M_does (nI L) km (nI r) wh s h).1 = (if dbl (vM L h) kc r p = true then 1 else 0) ∧ vM L (f_M_does (nI L) km (nI r) wh s h).2 = (if dbl (vM L h) kc r p = true then dot (vM L h) kc r p s else vM L h) ∧ (∀ L', L' < 2 → ¬ L = L' → vM L' (f_M_does (nI L) km (nI r) wh s h).2 = vM L' h) := by
  have i20 : vp_in (nI (10 * L + r)) 20 := vp_in_nI (by omega) (by omega)
  have a0 : zr h 123 (nI (10 * L + r)) = vM L h 0 r := by rw [zr_n h 123 (by omega), vM_at0 hr]
  obtain ⟨t1, t2⟩ := tk_M hnr e hL wh
  have loop : ∀ (b : Int32 × zm_H → Nat × Int32 × zm_H) (o : Int32 × zm_H → Prop) (s' : Int32) (h0 : zm_H), (∀ k g, k < 3 → o (nI k, g) ∧ b (nI k, g) = (0, nI (k + 1), f_M_newChain (nI L) (nI r) (nI k) s' g)) → (∀ g, o (nI 3, g) ∧ b (nI 3, g) = (1, nI 3, g)) → zwo b o zF (0, h0) ∧ vM L (zwh b zF (0, h0)).2.2 = rnw3 (vM L h0) r s' ∧ (∀ L', L' < 2 → ¬ L = L' → vM L' (zwh b zF (0, h0)).2.2 = vM L' h0) := by
    intro b o s' h0 q1 q2
    obtain ⟨k1, k2, -⟩ := zlf rfl (b := b) (o := o) 3 (by omega) (fun k g => f_M_newChain (nI L) (nI r) (nI k) s' g) (fun _ _ => True) h0 trivial (fun k g hk _ => ⟨(q1 k g hk).1, (q1 k g hk).2, trivial⟩) (fun g _ => q2 g)
    rw [k2]
    obtain ⟨m1, m2⟩ := nc3_M hL hr s' (h := h0) (f := fun k g => f_M_newChain (nI L) (nI r) (nI k) s' g) (fun _ _ _ => rfl)
    exact ⟨k1, m1, m2⟩
  obtain ⟨O, eO⟩ : ∃ O : Int32, O = (if vM L h 0 r = 1 ∨ vM L h 0 r = 2 then 1 else 0) := ⟨_, rfl⟩
  have okbase : ((vM L h 0 r = 1 → True) ∧ (¬ vM L h 0 r = 1 → vp_in (nI (10 * L + r)) 20)) := ⟨fun _ => trivial, fun _ => i20⟩
  rcases hk with ⟨h1, h2, h3⟩ | ⟨h1, h2⟩ | ⟨h1, h2⟩ | ⟨h1, h3, c, hc, h2⟩
  · subst h1 h2 h3
    have ek := htk rfl
    rw [ek] at t2
    obtain ⟨l1, l2, l3⟩ := loop (fun t => f_M_does_l83_b (nI L) (nI r) s O t.1 t.2) (fun t => f_M_does_l83_b_ok (nI L) (nI r) s O t.1 t.2) s (zs (zs h 123 (nI (10 * L + r)) 1) 124 (nI (10 * L + r)) wh)
          (fun k g hk => ⟨⟨fun z => absurd z (g3 hk), fun _ => (nc_M hL hr hk s).1⟩, by
            dsimp only
            unfold f_M_does_l83_b f_M_does_l83_k99
            rw [if_neg (g3 hk), ← nI_succ]⟩)
          (fun g => ⟨⟨fun _ => trivial, fun z => absurd (by decide : (3 : Int32) ≤ nI 3) z⟩, by
            dsimp only
            unfold f_M_does_l83_b
            rw [if_pos (by decide)]⟩)
    have ok : f_M_does_ok (nI L) 0 (nI r) wh s h := by
      unfold f_M_does_ok
      rw [x10, a0, ← eO]
      exact ⟨i20, okbase, fun _ => ⟨i20, fun _ => ⟨t1, fun _ => ⟨i20, i20, l1, trivial⟩, fun _ => trivial⟩, fun _ => trivial⟩, fun z => absurd rfl z⟩
    refine ⟨ok, ?_⟩
    have eD : dbl (vM L h) 5 r wh = (decide (vM L h 0 r = 0) && !tkn (vM L h) wh 10) := by unfold dbl; rw [if_pos rfl]
    have eT : dot (vM L h) 5 r wh s = rnw3 (zm_u (zm_u (vM L h) 0 r 1) 1 r wh) r s := by unfold dot; rw [if_pos rfl]
    rw [eD, eT]
    unfold f_M_does
    rw [x10, a0, ← eO, if_pos (rfl : (0 : Int32) = 0), t2]
    by_cases c0 : vM L h 0 r = 0
    · rw [if_pos c0]
      cases c1 : tkn (vM L h) wh 10 with
      | true =>
        simp only [if_true, Bool.not_true, Bool.and_false]
        refine ⟨rfl, rfl, fun _ _ _ => rfl⟩
      | false =>
        simp only [c0, decide_true, Bool.not_false, Bool.and_true, if_true]
        refine ⟨rfl, ?_, ?_⟩
        · refine Eq.trans l2 ?_
          rw [zs_n _ 124 _ (by omega), zs_n _ 123 _ (by omega), vM_u10 (i := 1) (j := 124) rfl (by omega) hr, vM_u10 (i := 0) (j := 123) rfl (by omega) hr]
        · intro L' hL' hne
          refine Eq.trans (l3 L' hL' hne) ?_
          rw [zs_n _ 124 _ (by omega), zs_n _ 123 _ (by omega), vM_x10 hne (i := 1) (j := 124) rfl (by omega) hr, vM_x10 hne (i := 0) (j := 123) rfl (by omega) hr]
    · rw [if_neg c0]
      simp only [c0, decide_false, Bool.false_and]
      exact ⟨rfl, rfl, fun _ _ _ => trivial⟩
  · subst h1 h2
    obtain ⟨l1, l2, l3⟩ := loop (fun t => f_M_does_l144_b (nI L) (nI r) O t.1 t.2) (fun t => f_M_does_l144_b_ok (nI L) (nI r) O t.1 t.2) 0 (zs (zs h 123 (nI (10 * L + r)) 0) 124 (nI (10 * L + r)) (-1))
          (fun k g hk => ⟨⟨fun z => absurd z (g3 hk), fun _ => (nc_M hL hr hk 0).1⟩, by
            dsimp only
            unfold f_M_does_l144_b f_M_does_l144_k159
            rw [if_neg (g3 hk), ← nI_succ]⟩)
          (fun g => ⟨⟨fun _ => trivial, fun z => absurd (by decide : (3 : Int32) ≤ nI 3) z⟩, by
            dsimp only
            unfold f_M_does_l144_b
            rw [if_pos (by decide)]⟩)
    have ok : f_M_does_ok (nI L) 3 (nI r) wh s h := by
      unfold f_M_does_ok
      rw [x10, a0, ← eO]
      exact ⟨i20, okbase, fun z => absurd z (by decide), fun _ => ⟨fun _ => ⟨i20, fun _ => trivial, fun _ => ⟨i20, i20, l1, trivial⟩⟩, fun z => absurd rfl z⟩⟩
    refine ⟨ok, ?_⟩
    have eD : dbl (vM L h) 4 r p = decide (¬ vM L h 0 r = 0) := by unfold dbl; rw [if_neg (by decide), if_pos rfl]
    have eT : dot (vM L h) 4 r p s = rnw3 (zm_u (zm_u (vM L h) 0 r 0) 1 r (-1)) r 0 := by unfold dot; rw [if_neg (by decide), if_pos rfl]
    rw [eD, eT]
    unfold f_M_does
    rw [x10, a0, ← eO, if_neg (show ¬ (3 : Int32) = 0 by decide), if_pos (rfl : (3 : Int32) = 3)]
    by_cases c0 : vM L h 0 r = 0
    · rw [if_pos c0]
      simp only [c0, not_true_eq_false, decide_false]
      exact ⟨rfl, rfl, fun _ _ _ => trivial⟩
    · rw [if_neg c0]
      simp only [c0, not_false_eq_true, decide_true, if_true]
      refine ⟨rfl, ?_, ?_⟩
      · refine Eq.trans l2 ?_
        rw [zs_n _ 124 _ (by omega), zs_n _ 123 _ (by omega), vM_u10 (i := 1) (j := 124) rfl (by omega) hr, vM_u10 (i := 0) (j := 123) rfl (by omega) hr]
      · intro L' hL' hne
        refine Eq.trans (l3 L' hL' hne) ?_
        rw [zs_n _ 124 _ (by omega), zs_n _ 123 _ (by omega), vM_x10 hne (i := 1) (j := 124) rfl (by omega) hr, vM_x10 hne (i := 0) (j := 123) rfl (by omega) hr]
  · subst h1 h2
    have ok : f_M_does_ok (nI L) 2 (nI r) wh s h := by
      unfold f_M_does_ok
      rw [x10, a0]
      exact ⟨i20, okbase, fun z => absurd z (by decide), fun _ => ⟨fun z => absurd z (by decide), fun _ => ⟨fun _ => ⟨fun z => absurd z (by decide), fun _ => i20⟩, fun _ => trivial⟩⟩⟩
    refine ⟨ok, ?_⟩
    have eD : dbl (vM L h) 3 r p = decide (vM L h 0 r = 1 ∨ vM L h 0 r = 2) := by unfold dbl; rw [if_neg (by decide), if_neg (by decide)]
    have eT : dot (vM L h) 3 r p s = zm_u (vM L h) 2 r 0 := by unfold dot; rw [if_neg (by decide), if_neg (by decide), if_pos rfl]
    rw [eD, eT]
    unfold f_M_does
    rw [x10, a0, if_neg (show ¬ (2 : Int32) = 0 by decide), if_neg (show ¬ (2 : Int32) = 3 by decide)]
    by_cases c0 : vM L h 0 r = 1 ∨ vM L h 0 r = 2
    · rw [if_pos c0, if_neg (show ¬ (2 : Int32) = 1 by decide), decide_eq_true c0]
      simp only [if_true]
      refine ⟨trivial, ?_, ?_⟩
      · rw [zs_n _ 125 _ (by omega), vM_u10 (i := 2) (j := 125) rfl (by omega) hr]
      · intro L' hL' hne
        rw [zs_n _ 125 _ (by omega), vM_x10 hne (i := 2) (j := 125) rfl (by omega) hr]
    · rw [if_neg c0, decide_eq_false c0]
      exact ⟨rfl, rfl, fun _ _ _ => rfl⟩
  · subst h1 h3 h2
    have n5 : ¬ (nI c = 5) := fun z => by have := nI_inj (by omega) (by omega) (show nI c = nI 5 from z); omega
    have n4 : ¬ (nI c = 4) := fun z => by have := nI_inj (by omega) (by omega) (show nI c = nI 4 from z); omega
    have n3 : ¬ (nI c = 3) := fun z => by have := nI_inj (by omega) (by omega) (show nI c = nI 3 from z); omega
    obtain ⟨m1, m2, m3⟩ := nc_M hL hr hc s (h := h)
    have ok : f_M_does_ok (nI L) 1 (nI r) (nI c) s h := by
      unfold f_M_does_ok
      rw [x10, a0]
      exact ⟨i20, okbase, fun z => absurd z (by decide), fun _ => ⟨fun z => absurd z (by decide), fun _ => ⟨fun _ => ⟨fun _ => m1, fun z => absurd rfl z⟩, fun _ => trivial⟩⟩⟩
    refine ⟨ok, ?_⟩
    have eD : dbl (vM L h) (nI c) r p = decide (vM L h 0 r = 1 ∨ vM L h 0 r = 2) := by unfold dbl; rw [if_neg n5, if_neg n4]
    have eT : dot (vM L h) (nI c) r p s = rnw (vM L h) r c s := by unfold dot; rw [if_neg n5, if_neg n4, if_neg n3, nI_c (by omega)]
    rw [eD, eT]
    unfold f_M_does
    rw [x10, a0, if_neg (show ¬ (1 : Int32) = 0 by decide), if_neg (show ¬ (1 : Int32) = 3 by decide)]
    by_cases c0 : vM L h 0 r = 1 ∨ vM L h 0 r = 2
    · rw [if_pos c0, if_pos (rfl : (1 : Int32) = 1), decide_eq_true c0]
      simp only [if_true]
      exact ⟨trivial, m2, m3⟩
    · rw [if_neg c0, decide_eq_false c0]
      exact ⟨rfl, rfl, fun _ _ _ => rfl⟩
