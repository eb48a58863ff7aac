/-! ===== code worked out, in cells ===== -/
def sAt (f : Nat → Int32) : List Int32 → Prop
  | [] => True
  | a :: r => f r.length = a ∧ sAt f r
theorem sAt_up {f : Nat → Int32} {n : Nat} {v : Int32} : ∀ {st : List Int32}, sAt f st → st.length ≤ n → sAt (upd f n v) st
  | [], _, _ => trivial
  | a :: r, h, hn => by
    rw [List.length_cons] at hn
    exact ⟨(pk_un (by omega)).trans h.1, sAt_up h.2 (by omega)⟩
def WT (W V : Nat → Int32) (b e : Nat) (t : Bool) : Prop := b ≤ e ∧ tyk W V b (e - b) = some [t] ∧ ∀ j ts, j ≤ e - b → tyk W V b j = some ts → ts.length ≤ 60
theorem tyk_some {W V : Nat → Int32} {b : Nat} : ∀ {m : Nat} {ts : List Bool}, tyk W V b m = some ts → ∀ j, j ≤ m → ∃ us, tyk W V b j = some us := by
  intro m
  induction m with
  | zero => intro ts h j hj; exact ⟨ts, by rw [show j = 0 by omega]; exact h⟩
  | succ m ih =>
    intro ts h j hj
    by_cases e : j = m + 1
    · exact ⟨ts, by rw [e]; exact h⟩
    · rw [tyk] at h
      cases hq : tyk W V b m with
      | none => rw [hq] at h; cases h
      | some us => exact ih hq j (by omega)
theorem WT.at {W V : Nat → Int32} {b e : Nat} {t : Bool} (H : WT W V b e t) {j : Nat} (hj : j < e - b) : ∃ ts us, tyk W V b j = some ts ∧ tyk W V b (j + 1) = some us ∧ tst (W (b + j)) (V (b + j)) ts = some us ∧ ts.length ≤ 60 := by
  obtain ⟨us, hu⟩ := tyk_some H.2.1 (j + 1) (by omega)
  have h2 := hu
  rw [tyk] at h2
  cases hq : tyk W V b j with
  | none => rw [hq] at h2; cases h2
  | some ts =>
    rw [hq] at h2
    exact ⟨ts, us, rfl, hu, h2, H.2.2 j ts (by omega) hq⟩
theorem stk_vty {W V nm : Nat → Int32} {b e : Nat} {t : Bool} (H : WT W V b e t) (hn : ∀ j, j < 9 → -1000000 ≤ (nm j).toInt ∧ (nm j).toInt ≤ 1000000) : ∀ j, j ≤ e - b → ∀ ts, tyk W V b j = some ts → vty ts (stk W V nm b j) := by
  intro j
  induction j with
  | zero => intro _ ts h; cases h; trivial
  | succ j ih =>
    intro hj ts h
    obtain ⟨us, vs, h1, h2, h3, -⟩ := H.at (show j < e - b by omega)
    rw [h2] at h
    cases h
    rw [stk]
    exact est_ok hn h3 (ih (by omega) us h1)
def evv (W V nm : Nat → Int32) (b e : Nat) : Int32 := (stk W V nm b (e - b)).headD 0
theorem push_n {h : zm_H} {n : Nat} (hn : n ≤ 60) (e : zf h 15 9 = nI n) (x : Int32) : f_Rules_push_ok x h ∧ f_Rules_push x h = zm_si (zm_si h 22 n x) 15 9 (nI (n + 1)) := by
  have g0 : ¬ ((64 : Int32) ≤ zf h 15 9) := by rw [e, show (64 : Int32) = nI 64 from rfl, nx_le (by omega) (by omega)]; omega
  refine ⟨⟨fun z => absurd z g0, fun _ => by rw [e]; exact vp_in_nI (by omega) (by omega)⟩, ?_⟩
  unfold f_Rules_push
  rw [if_neg g0, e, zs_n _ 22 _ (by omega), ← nI_succ]
theorem k134_b {h : zm_H} {m : Nat} (hm : m + 2 ≤ 60) (e : zf h 15 9 = nI (m + 2)) {c : Int32} (hc : ¬ c = 315) (r : Nat) (v4 v5 : Int32) : (f_Rules_join_ok c (h.2.1 22 m) (h.2.1 22 (m + 1)) (zp h 15 9 (nI (m + 1))) → f_Rules_work_l68_k134_ok r v4 v5 c h) ∧ f_Rules_work_l68_k134 r v4 v5 c h = (0, v5 + 1, zm_si (zm_si h 15 9 (nI (m + 1))) 22 m (f_Rules_join c (h.2.1 22 m) (h.2.1 22 (m + 1)) (zp h 15 9 (nI (m + 1))))) := by
  have g1 : ¬ (nI (m + 2) < 2) := by rw [i_lt, i_nI (by omega)]; simp only [Int32.reduceToInt]; omega
  have s1 : nI (m + 2) - 1 = nI (m + 1) := nI_pred (m + 1)
  have s2 : nI (m + 1) - 1 = nI m := nI_pred m
  have i1 : vp_in (nI m) 64 := vp_in_nI (by omega) (by omega)
  have i2 : vp_in (nI (m + 1)) 64 := vp_in_nI (by omega) (by omega)
  have r1 : zr h 22 (nI m) = h.2.1 22 m := zr_n h 22 (by omega)
  have r2 : zr h 22 (nI (m + 1)) = h.2.1 22 (m + 1) := zr_n h 22 (by omega)
  constructor
  · intro hj
    unfold f_Rules_work_l68_k134_ok
    rw [e, s1, s2, r1, r2]
    exact ⟨fun z => absurd z hc, fun _ => ⟨fun z => absurd z g1, fun _ => ⟨i1, i2, hj, i1⟩⟩⟩
  · unfold f_Rules_work_l68_k134
    rw [if_neg hc, e, if_neg g1, s1, s2, r1, r2, zs_n _ 22 _ (by omega)]
theorem k134_n {h : zm_H} {m : Nat} (hm : m + 1 ≤ 60) (e : zf h 15 9 = nI (m + 1)) (r : Nat) (v4 v5 : Int32) : f_Rules_work_l68_k134_ok r v4 v5 315 h ∧ f_Rules_work_l68_k134 r v4 v5 315 h = (0, v5 + 1, zm_si h 22 m (1 - h.2.1 22 m)) := by
  have g1 : ¬ (nI (m + 1) < 1) := by rw [i_lt, i_nI (by omega)]; simp only [Int32.reduceToInt]; omega
  have s2 : nI (m + 1) - 1 = nI m := nI_pred m
  have i1 : vp_in (nI m) 64 := vp_in_nI (by omega) (by omega)
  have r1 : zr h 22 (nI m) = h.2.1 22 m := zr_n h 22 (by omega)
  constructor
  · unfold f_Rules_work_l68_k134_ok
    rw [e, s2]
    exact ⟨fun _ => ⟨fun z => absurd z g1, fun _ => ⟨i1, i1⟩⟩, fun z => absurd rfl z⟩
  · unfold f_Rules_work_l68_k134
    rw [if_pos rfl, e, if_neg g1, s2, r1, zs_n _ 22 _ (by omega)]
theorem join_ok (w a b : Int32) (h : zm_H) : f_Rules_join_ok w a b h := by
  unfold f_Rules_join_ok
  simp only [implies_true, and_true, true_and]
  intro _ _ _ _ z
  exact z
/-- the class's code, a member's number less 100000 -/
theorem enO_rng {w : Int32} (h1 : 2 ≤ w.toInt) (h2 : w.toInt ≤ 10) : enC w 0 - 100000 = enO w ∧ (∀ v, enC w v = enC w 0) ∧ (0 ≤ (enO w)) ∧ ¬ enO w = 315 ∧ ((enO w) < 304 ∨ 312 < enO w) := by
  rcases (show w.toInt = 2 ∨ w.toInt = 3 ∨ w.toInt = 4 ∨ w.toInt = 5 ∨ w.toInt = 6 ∨ w.toInt = 7 ∨ w.toInt = 8 ∨ w.toInt = 9 ∨ w.toInt = 10 by omega) with q | q | q | q | q | q | q | q | q
  · have e : w = 2 := i_eq.mpr q
    subst e; exact ⟨rfl, fun _ => rfl, by decide, by decide, by decide⟩
  · have e : w = 3 := i_eq.mpr q
    subst e; exact ⟨rfl, fun _ => rfl, by decide, by decide, by decide⟩
  · have e : w = 4 := i_eq.mpr q
    subst e; exact ⟨rfl, fun _ => rfl, by decide, by decide, by decide⟩
  · have e : w = 5 := i_eq.mpr q
    subst e; exact ⟨rfl, fun _ => rfl, by decide, by decide, by decide⟩
  · have e : w = 6 := i_eq.mpr q
    subst e; exact ⟨rfl, fun _ => rfl, by decide, by decide, by decide⟩
  · have e : w = 7 := i_eq.mpr q
    subst e; exact ⟨rfl, fun _ => rfl, by decide, by decide, by decide⟩
  · have e : w = 8 := i_eq.mpr q
    subst e; exact ⟨rfl, fun _ => rfl, by decide, by decide, by decide⟩
  · have e : w = 9 := i_eq.mpr q
    subst e; exact ⟨rfl, fun _ => rfl, by decide, by decide, by decide⟩
  · have e : w = 10 := i_eq.mpr q
    subst e; exact ⟨rfl, fun _ => rfl, by decide, by decide, by decide⟩
/-- one step of the class over one member of the code -/
theorem wk_step {h : zm_H} {r n : Nat} {v4 : Int32} {w v : Int32} {k : Nat} (hk : k < 400) (hlt : ¬ v4 ≤ nI k) (hz : zia h r ∧ vp_in (nI k) (zln h r)) (eK : h.2.1 r k = enC w v) {ts us : List Bool} {st : List Int32} (ht : tst w v ts = some us) (hv : vty ts st) (hn : ts.length = n) (h60 : n ≤ 60) (e : zf h 15 9 = nI n) (hs : sAt (h.2.1 22) st) : f_Rules_work_l68_b_ok r v4 (nI k) h ∧ ∃ h2, f_Rules_work_l68_b r v4 (nI k) h = (0, nI (k + 1), h2) ∧ zWr [22] [(15, 9)] h h2 ∧ zf h2 15 9 = nI (est (h.2.1 21) w v st).length ∧ sAt (h2.2.1 22) (est (h.2.1 21) w v st) := by
  have hl : st.length = n := by rw [← vty_len hv]; exact hn
  have eR : zr h r (nI k) = enC w v := by rw [zr_n h r (by omega)]; exact eK
  have pushed : ∀ x, zWr [22] [(15, 9)] h (zm_si (zm_si h 22 n x) 15 9 (nI (n + 1))) ∧ zf (zm_si (zm_si h 22 n x) 15 9 (nI (n + 1))) 15 9 = nI (x :: st).length ∧ sAt ((zm_si (zm_si h 22 n x) 15 9 (nI (n + 1))).2.1 22) (x :: st) := by
    intro x
    refine ⟨zWr_p (by decide) (zWr_si (by decide) (zWr.refl _ _)), ?_, ?_⟩
    · rw [List.length_cons, hl]; exact zm_in _ _ _ _
    · rw [za_si, if_neg (by decide), za_si, if_pos rfl]
      refine ⟨?_, sAt_up hs (by omega)⟩
      rw [hl]; exact pk_us
  unfold f_Rules_work_l68_b_ok f_Rules_work_l68_b
  rw [if_neg hlt, eR]
  unfold tst at ht
  by_cases w0 : w = 0
  · rw [if_pos w0] at ht
    by_cases q : 0 ≤ v.toInt ∧ v.toInt ≤ 99999
    · have eC : enC w v = v := by unfold enC; rw [if_pos w0]
      have eE : est (h.2.1 21) w v st = v :: st := by
        unfold est
        rw [if_pos (by rw [w0]; decide), if_pos w0]
      have g : ¬ (0 ≤ v - 100000) := by
        have e1 : (100000 : Int32).toInt = 100000 := rfl
        rw [i_le, i_sub (by rw [e1]; omega) (by rw [e1]; omega), e1, i_0]
        omega
      obtain ⟨p1, p2⟩ := push_n h60 e v
      rw [eC, eE, if_neg g, p2]
      exact ⟨⟨fun z => absurd z hlt, fun _ => ⟨hz, fun z => absurd z g, fun _ => ⟨hz, p1⟩⟩⟩, _, by unfold f_Rules_work_l68_k97 f_Rules_work_l68_k231; rw [← nI_succ], pushed v⟩
    · rw [if_neg q] at ht; cases ht
  rw [if_neg w0] at ht
  by_cases w1 : w = 1
  · rw [if_pos w1] at ht
    by_cases q : 0 ≤ v.toInt ∧ v.toInt < 9
    · obtain ⟨u, hu, rfl⟩ := i_ex (N := 9) q.1 q.2
      have eC : enC w (nI u) - 100000 = nI (304 + u) := by
        unfold enC
        rw [if_neg w0, if_pos w1, show (100304 : Int32) = nI 100304 from rfl, show (100000 : Int32) = nI 100000 from rfl, nI_add, pk_sub (by omega), show 100304 + u - 100000 = 304 + u by omega]
      have eE : est (h.2.1 21) w (nI u) st = h.2.1 21 u :: st := by
        unfold est
        rw [if_pos (by rw [w1]; decide), if_neg w0, nI_c (by omega)]
      have g : (0 : Int32) ≤ nI (304 + u) := by rw [i_le, i_nI (by omega), i_0]; omega
      have g2 : ¬ (nI (304 + u) < 304) := by rw [i_lt, i_nI (by omega)]; simp only [Int32.reduceToInt]; omega
      have g3 : ¬ (312 < nI (304 + u)) := by rw [i_lt, i_nI (by omega)]; simp only [Int32.reduceToInt]; omega
      have g4 : nI (304 + u) - 304 = nI u := by
        rw [show (304 : Int32) = nI 304 from rfl, pk_sub (by omega), show 304 + u - 304 = u by omega]
      have e21 : zr h 21 (nI u) = h.2.1 21 u := zr_n h 21 (by omega)
      obtain ⟨p1, p2⟩ := push_n h60 e (h.2.1 21 u)
      rw [eC, eE, if_pos g, if_neg g2, if_neg g3, g4, e21, p2]
      exact ⟨⟨fun z => absurd z hlt, fun _ => ⟨hz, fun _ => ⟨fun z => absurd z g2, fun _ => ⟨fun z => absurd z g3, fun _ => ⟨vp_in_nI (by omega) (by omega), p1⟩⟩⟩, fun z => absurd g z⟩⟩, _, by unfold f_Rules_work_l68_k131 f_Rules_work_l68_k231; rw [← nI_succ], pushed _⟩
    · rw [if_neg q] at ht; cases ht
  rw [if_neg w1] at ht
  by_cases w11 : w = 11
  · rw [if_pos w11] at ht
    subst w11
    match ts, st, hv, ht, hn, hl, hs with
    | true :: t', a :: s', hv, ht, hn, hl, hs =>
      rw [List.length_cons] at hl
      obtain ⟨m, rfl⟩ : ∃ m, n = m + 1 := ⟨s'.length, by omega⟩
      have hlm : s'.length = m := by omega
      have ea : h.2.1 22 m = a := by rw [← hlm]; exact hs.1
      obtain ⟨p1, p2⟩ := k134_n (by omega) e r v4 (nI k)
      have e11 : enC 11 v - 100000 = 315 := by
        unfold enC
        rw [if_neg (by decide), if_neg (by decide)]
        rfl
      rw [e11, if_pos (by decide), if_neg (by decide), if_pos (by decide), p2, ea]
      have eE : est (h.2.1 21) 11 v (a :: s') = (1 - a) :: s' := rfl
      rw [eE]
      refine ⟨⟨fun z => absurd z hlt, fun _ => ⟨hz, fun _ => ⟨fun _ => p1, fun _ => ⟨fun _ => p1, fun z => absurd (by decide) z⟩⟩, fun z => absurd (by decide) z⟩⟩, _, by rw [← nI_succ], zWr_si (by decide) (zWr.refl _ _), ?_, ?_⟩
      · rw [zf, zf_si, if_neg (by decide), List.length_cons, hlm]; exact e
      · rw [za_si, if_pos rfl]
        refine ⟨?_, sAt_up hs.2 (by omega)⟩
        rw [hlm]; exact pk_us
    | false :: _, _ :: _, _, ht, _, _, _ => cases ht
  rw [if_neg w11] at ht
  have bin : ∀ (a b : Int32) (s' : List Int32), st = b :: a :: s' → (2 ≤ w.toInt ∧ w.toInt ≤ 10) → f_Rules_join (enO w) a b (zp h 15 9 (nI (s'.length + 1))) = ofP w a b → (((v4 ≤ nI k → True) ∧ (¬ v4 ≤ nI k → (zia h r ∧ vp_in (nI k) (zln h r)) ∧ ((0 ≤ enC w v - 100000 → ((enC w v - 100000 < 304 → f_Rules_work_l68_k134_ok r v4 (nI k) (enC w v - 100000) h) ∧ (¬ enC w v - 100000 < 304 → (312 < enC w v - 100000 → f_Rules_work_l68_k134_ok r v4 (nI k) (enC w v - 100000) h) ∧ (¬ 312 < enC w v - 100000 → vp_in (enC w v - 100000 - 304) 9 ∧ f_Rules_push_ok (zr h 21 (enC w v - 100000 - 304)) h)))) ∧ (¬ 0 ≤ enC w v - 100000 → (zia h r ∧ vp_in (nI k) (zln h r)) ∧ f_Rules_push_ok (enC w v) h)))) ∧ ∃ h2, (if 0 ≤ enC w v - 100000 then if enC w v - 100000 < 304 then f_Rules_work_l68_k134 r v4 (nI k) (enC w v - 100000) h else if 312 < enC w v - 100000 then f_Rules_work_l68_k134 r v4 (nI k) (enC w v - 100000) h else f_Rules_work_l68_k131 r v4 (nI k) (f_Rules_push (zr h 21 (enC w v - 100000 - 304)) h) else f_Rules_work_l68_k97 r v4 (nI k) (f_Rules_push (enC w v) h)) = (0, nI (k + 1), h2) ∧ zWr [22] [(15, 9)] h h2 ∧ zf h2 15 9 = nI (est (h.2.1 21) w v st).length ∧ sAt (h2.2.1 22) (est (h.2.1 21) w v st)) := by
    intro a b s' est0 hw hj
    obtain ⟨c1, c2, c3, c4, c5⟩ := enO_rng hw.1 hw.2
    subst est0
    rw [List.length_cons, List.length_cons] at hl
    obtain ⟨m, em⟩ : ∃ m, m = s'.length := ⟨_, rfl⟩
    have en : n = m + 2 := by omega
    subst en
    have ea : h.2.1 22 m = a := by rw [em]; exact hs.2.1
    have eb : h.2.1 22 (m + 1) = b := by
      have := hs.1
      rw [List.length_cons, ← em] at this
      exact this
    obtain ⟨p1, p2⟩ := k134_b h60 e c4 r v4 (nI k)
    have p3 := p1 (join_ok _ _ _ _)
    rw [c2 v, c1]
    have eV : (if 0 ≤ enO w then if enO w < 304 then f_Rules_work_l68_k134 r v4 (nI k) (enO w) h else if 312 < enO w then f_Rules_work_l68_k134 r v4 (nI k) (enO w) h else f_Rules_work_l68_k131 r v4 (nI k) (f_Rules_push (zr h 21 (enO w - 304)) h) else f_Rules_work_l68_k97 r v4 (nI k) (f_Rules_push (enC w 0) h)) = f_Rules_work_l68_k134 r v4 (nI k) (enO w) h := by
      rw [if_pos c3]
      by_cases z : enO w < 304
      · rw [if_pos z]
      · rw [if_neg z, if_pos (c5.resolve_left z)]
    rw [eV, p2, ea, eb]
    rw [← em] at hj
    rw [hj]
    have b1 : (1 : Int32).toInt = 1 := rfl
    have eE : est (h.2.1 21) w v (b :: a :: s') = ofP w a b :: s' := by
      unfold est
      rw [if_neg (by rw [i_le, b1]; omega), if_neg w11]
    rw [eE]
    refine ⟨⟨fun z => absurd z hlt, fun _ => ⟨hz, fun _ => ⟨fun _ => p3, fun q => ⟨fun _ => p3, fun z => absurd (c5.resolve_left q) z⟩⟩, fun z => absurd c3 z⟩⟩, _, by rw [← nI_succ], zWr_si (by decide) (zWr_p (by decide) (zWr.refl _ _)), ?_, ?_⟩
    · rw [zf, zf_si, if_neg (by decide), List.length_cons, ← em]; exact zm_in _ _ _ _
    · rw [za_si, if_pos rfl, za_si, if_neg (by decide)]
      refine ⟨?_, sAt_up hs.2.2 (by omega)⟩
      rw [← em]; exact pk_us
  by_cases w2 : 2 ≤ w.toInt ∧ w.toInt ≤ 5
  · rw [if_pos w2] at ht
    match ts, st, hv, ht, bin with
    | false :: false :: t', b :: a :: s', hv, ht, bin =>
      have hb := hv.1
      have ha := hv.2.1
      unfold vt1 at ha hb
      rw [if_neg (by decide)] at ha hb
      exact bin a b s' rfl (by omega) (join_2 _ ha.1 ha.2 hb.1 hb.2 (by omega) (by omega))
    | [], [], _, ht, _ => cases ht
    | [t], [_], _, ht, _ => cases t <;> cases ht
    | true :: _ :: _, _ :: _ :: _, _, ht, _ => cases ht
    | false :: true :: _, _ :: _ :: _, _, ht, _ => cases ht
  rw [if_neg w2] at ht
  by_cases w6 : 6 ≤ w.toInt ∧ w.toInt ≤ 8
  · rw [if_pos w6] at ht
    match ts, st, hv, ht, bin with
    | false :: false :: t', b :: a :: s', hv, ht, bin =>
      have hb := hv.1
      have ha := hv.2.1
      unfold vt1 at ha hb
      rw [if_neg (by decide)] at ha hb
      exact bin a b s' rfl (by omega) (join_2 _ ha.1 ha.2 hb.1 hb.2 (by omega) (by omega))
    | [], [], _, ht, _ => cases ht
    | [t], [_], _, ht, _ => cases t <;> cases ht
    | true :: _ :: _, _ :: _ :: _, _, ht, _ => cases ht
    | false :: true :: _, _ :: _ :: _, _, ht, _ => cases ht
  rw [if_neg w6] at ht
  by_cases w9 : 9 ≤ w.toInt ∧ w.toInt ≤ 10
  · rw [if_pos w9] at ht
    match ts, st, hv, ht, bin with
    | true :: true :: t', b :: a :: s', hv, ht, bin =>
      have hb := hv.1
      have ha := hv.2.1
      unfold vt1 at ha hb
      rw [if_pos rfl] at ha hb
      exact bin a b s' rfl (by omega) (join_b _ ha hb (by omega) (by omega))
    | [], [], _, ht, _ => cases ht
    | [t], [_], _, ht, _ => cases t <;> cases ht
    | false :: _ :: _, _ :: _ :: _, _, ht, _ => cases ht
    | true :: false :: _, _ :: _ :: _, _, ht, _ => cases ht
  rw [if_neg w9] at ht
  cases ht
