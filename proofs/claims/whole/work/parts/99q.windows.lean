/-! ===== WINDOWS, both ===== -/
abbrev WS := Nat × Bool × (Nat → Nat) × (Nat → Nat)
def wst (b : Bool) (t : Nat) (s : WS) : WS := if b = true then (if s.2.1 = true then (s.1, true, s.2.2.1, fun j => if j = s.1 - 1 then s.2.2.2 j + 1 else s.2.2.2 j) else (s.1 + 1, true, (fun j => if j = s.1 then t else s.2.2.1 j), fun j => if j = s.1 then 1 else s.2.2.2 j)) else (s.1, false, s.2.2.1, s.2.2.2)
def wnd (o : Nat → Bool) (w : Nat) : Nat → WS
  | 0 => (0, false, (fun _ => 0), fun _ => 0)
  | k + 1 => wst (o (w + k)) (w + k) (wnd o w k)
theorem wnd_ok (o : Nat → Bool) (w : Nat) : ∀ k, (wnd o w k).1 ≤ k ∧ ((wnd o w k).2.1 = true → 1 ≤ (wnd o w k).1) ∧ ∀ j, j < (wnd o w k).1 → (wnd o w k).2.2.1 j < w + k ∧ 1 ≤ (wnd o w k).2.2.2 j ∧ (wnd o w k).2.2.2 j ≤ k := by
  intro k
  induction k with
  | zero => exact ⟨Nat.le_refl _, fun z => absurd (show false = true from z) (by decide), fun j hj => absurd hj (by show ¬ j < 0; omega)⟩
  | succ k ih =>
    obtain ⟨a, b, c⟩ := ih
    rw [wnd]
    generalize wnd o w k = s at a b c
    unfold wst
    by_cases hb : o (w + k) = true
    · rw [if_pos hb]
      by_cases hs : s.2.1 = true
      · rw [if_pos hs]
        refine ⟨by dsimp only; omega, fun _ => b hs, fun j hj => ?_⟩
        dsimp only at hj ⊢
        obtain ⟨c1, c2, c3⟩ := c j hj
        refine ⟨by omega, ?_, ?_⟩
        · split <;> omega
        · split <;> omega
      · rw [if_neg hs]
        refine ⟨by dsimp only; omega, fun _ => by dsimp only; omega, fun j hj => ?_⟩
        dsimp only at hj ⊢
        by_cases e : j = s.1
        · rw [if_pos e, if_pos e]; omega
        · rw [if_neg e, if_neg e]
          obtain ⟨c1, c2, c3⟩ := c j (by omega)
          omega
    · rw [if_neg hb]
      refine ⟨by dsimp only; omega, fun z => absurd (show false = true from z) (by decide), fun j hj => ?_⟩
      dsimp only at hj ⊢
      obtain ⟨c1, c2, c3⟩ := c j hj
      omega
def rlW (a b : Nat) (s : WS) (h : zm_H) : Prop := ∀ j, j < s.1 → h.2.1 a j = nI (s.2.2.1 j) ∧ h.2.1 b j = nI (s.2.2.2 j)
theorem rlW_new {a b t : Nat} {s : WS} {h x : zm_H} (H : rlW a b s h) (hs : ¬ s.2.1 = true) (xa : x.2.1 a = upd (h.2.1 a) s.1 (nI t)) (xb : x.2.1 b = upd (h.2.1 b) s.1 (nI 1)) : rlW a b (wst true t s) x := by
  unfold wst
  rw [if_pos rfl, if_neg hs]
  intro j hj
  dsimp only at hj ⊢
  rw [xa, xb]
  unfold upd
  by_cases e : j = s.1
  · rw [if_pos e, if_pos e, if_pos e, if_pos e]; exact ⟨rfl, rfl⟩
  · rw [if_neg e, if_neg e, if_neg e, if_neg e]; exact H j (by omega)
theorem rlW_more {a b t : Nat} {s : WS} {h x : zm_H} (H : rlW a b s h) (hs : s.2.1 = true) (h1 : 1 ≤ s.1) (xa : x.2.1 a = h.2.1 a) (xb : x.2.1 b = upd (h.2.1 b) (s.1 - 1) (h.2.1 b (s.1 - 1) + 1)) : rlW a b (wst true t s) x := by
  unfold wst
  rw [if_pos rfl, if_pos hs]
  intro j hj
  dsimp only at hj ⊢
  rw [xa, xb]
  unfold upd
  by_cases e : j = s.1 - 1
  · subst e
    rw [if_pos rfl, if_pos rfl, (H (s.1 - 1) (by omega)).2]
    exact ⟨(H (s.1 - 1) (by omega)).1, (nI_succ _).symm⟩
  · rw [if_neg e, if_neg e]; exact H j hj
theorem rlW_no {a b t : Nat} {s : WS} {h x : zm_H} (H : rlW a b s h) (xa : x.2.1 a = h.2.1 a) (xb : x.2.1 b = h.2.1 b) : rlW a b (wst false t s) x := by
  unfold wst
  rw [if_neg (by decide)]
  intro j hj
  dsimp only at hj ⊢
  rw [xa, xb]; exact H j hj
def ouT (nf n e : Nat) (h : zm_H) : Nat → Bool := fun t => decide (¬ Ev nf h 2 (nI t) (nmZ (seaP h n e t) (nI t)) = 0)
theorem fw_N {ns nf n e w w0 : Nat} (hw : w ≤ 480) {h : zm_H} (H : I_rl ns nf h) (S : I_sw w0 n e h) {p m : Nat} (hp : p ≤ 40) (em : m = min p (480 - w)) {s : WS} (es : s = wnd (ouT nf n e h) w m) : f_Planner_findWindows_ok (nI w) (nI p) h ∧ zWr [21, 22, 75, 76] [(15, 9), (72, 5)] h (f_Planner_findWindows (nI w) (nI p) h) ∧ zf (f_Planner_findWindows (nI w) (nI p) h) 72 5 = nI s.1 ∧ rlW 75 76 s (f_Planner_findWindows (nI w) (nI p) h) := by
  unfold f_Planner_findWindows_ok f_Planner_findWindows f_Planner_findWindows_a10 f_Planner_findWindows_k131
  obtain ⟨F, eF, -⟩ := zF_ex
  rw [← eF]
  obtain ⟨o, eo⟩ : ∃ o, o = ouT nf n e h := ⟨_, rfl⟩
  rw [← eo] at es
  have hF2 : wfR [21, 22, 75, 76] [(15, 9), (72, 5)] = true := by decide
  have ewp : nI w + nI p = nI (w + p) := nI_add _ _
  have key := zlpF eF (b := fun s => f_Planner_findWindows_l10_b (nI w) (nI p) s.1 s.2.1 s.2.2) (o := fun s => f_Planner_findWindows_l10_b_ok (nI w) (nI p) s.1 s.2.1 s.2.2) m (by omega)
    (fun k t => (t.1 = 0 ↔ ¬ (wnd o w k).2.1 = true) ∧ t.2.1 = nI (w + k) ∧ zWr [21, 22, 75, 76] [(15, 9), (72, 5)] h t.2.2 ∧ zf t.2.2 72 5 = nI (wnd o w k).1 ∧ rlW 75 76 (wnd o w k) t.2.2)
    (fun r => zWr [21, 22, 75, 76] [(15, 9), (72, 5)] h r.2.2.2 ∧ zf r.2.2.2 72 5 = nI s.1 ∧ rlW 75 76 s r.2.2.2) (0, nI w, zp h 72 5 0)
    ⟨⟨fun _ => show ¬ false = true by decide, fun _ => rfl⟩, rfl, zWr_p (by decide) (zWr.refl _ _), zm_in _ _ _ _, fun j hj => absurd hj (by show ¬ j < 0; omega)⟩
    (by
      rintro k ⟨v3, v4, x⟩ hk ⟨p0, p1, p2, p3, p4⟩
      dsimp only at p0 p1 p2 p3 p4
      subst p1
      obtain ⟨k1, k2, -⟩ := wnd_ok o w k
      have ht : w + k < 480 := by omega
      have g1 : ¬ (nI w + nI p ≤ nI (w + k)) := by rw [ewp, nx_le (by omega) (by omega)]; omega
      have g2 : ¬ ((480 : Int32) ≤ nI (w + k)) := by rw [show (480 : Int32) = nI 480 from rfl, nx_le (by omega) (by omega)]; omega
      have Sx := I_sw_z (p2.eq (by decide) (by decide)) S
      obtain ⟨l1, l2⟩ := sw_lk Sx ht (Nat.le_refl n) (Nat.le_refl e)
      have eS : seaP x n e (w + k) = seaP h n e (w + k) := seaP_eq (fun i hi => p2.arr i (by simp at hi ⊢; omega) (by simp at hi ⊢; omega)) n e (w + k)
      rw [eS] at l2
      have eL : f_Swell_lookNow (nI (w + k)) x = seaP h n e (w + k) := by
        unfold f_Swell_lookNow
        rw [Sx.1.2.2.1, Sx.1.2.2.2.2.1, l2]
      have oL : f_Swell_lookNow_ok (nI (w + k)) x := by
        unfold f_Swell_lookNow_ok
        rw [Sx.1.2.2.1, Sx.1.2.2.2.2.1]
        exact l1
      obtain ⟨b1, b2, b3⟩ := lbo_N (I_rl_w hF2 p2 H) (sea_ok S (Nat.le_refl n) (e := e) (t := w + k)) ht
      rw [Ev_w hF2 p2] at b2
      have b2 : (f_Rules_letsBoatsOut (nI (w + k)) (seaP h n e (w + k)) x).1 = 0 ↔ ¬ o (w + k) = true := by
        rw [b2, eo]
        unfold ouT
        rw [decide_eq_true_eq]
        exact ⟨fun z y => y z, fun z => Decidable.byContradiction z⟩
      obtain ⟨br, ebr⟩ : ∃ br, br = f_Rules_letsBoatsOut (nI (w + k)) (seaP h n e (w + k)) x := ⟨_, rfl⟩
      rw [← ebr] at b2 b3
      obtain ⟨y, ey⟩ : ∃ y, y = br.2 := ⟨_, rfl⟩
      rw [← ey] at b3
      have w2 : zWr [21, 22, 75, 76] [(15, 9), (72, 5)] h y := zWr_tr b3 (by decide) (by decide) p2
      have y5 : zf y 72 5 = nI (wnd o w k).1 := (b3.fld 72 5 (by decide) (by decide)).trans p3
      have ya : y.2.1 75 = x.2.1 75 := b3.arr 75 (by decide) (by decide)
      have yb : y.2.1 76 = x.2.1 76 := b3.arr 76 (by decide) (by decide)
      have y4 : rlW 75 76 (wnd o w k) y := fun j hj => by rw [ya, yb]; exact p4 j hj
      have eb : f_Planner_findWindows_l10_b (nI w) (nI p) v3 (nI (w + k)) x = f_Planner_findWindows_l10_k44 (nI w) (nI p) v3 (nI (w + k)) br.1 y := by
        unfold f_Planner_findWindows_l10_b
        rw [if_neg g1, if_neg g2, eL, ← ebr, ← ey]
      have ok : f_Planner_findWindows_l10_k44_ok (nI w) (nI p) v3 (nI (w + k)) br.1 y → f_Planner_findWindows_l10_b_ok (nI w) (nI p) v3 (nI (w + k)) x := by
        intro z
        unfold f_Planner_findWindows_l10_b_ok
        rw [eL, ← ebr, ← ey]
        exact ⟨fun y => absurd y g1, fun _ => ⟨fun y => absurd y g2, fun _ => ⟨oL, b1, z⟩⟩⟩
      have hm40 : (wnd o w k).1 < 40 := by omega
      obtain ⟨M, eM⟩ : ∃ M, M = (wnd o w k).1 := ⟨_, rfl⟩
      rw [← eM] at hm40 y5 k1 k2
      have im : vp_in (nI M) 40 := vp_in_nI hm40 (by omega)
      have g40 : ¬ ((40 : Int32) ≤ nI M) := by rw [show (40 : Int32) = nI 40 from rfl, nx_le (by omega) (by omega)]; omega
      dsimp only
      rw [eb]
      have goal : f_Planner_findWindows_l10_k44_ok (nI w) (nI p) v3 (nI (w + k)) br.1 y ∧ (f_Planner_findWindows_l10_k44 (nI w) (nI p) v3 (nI (w + k)) br.1 y).1 = 0 ∧ (f_Planner_findWindows_l10_k44 (nI w) (nI p) v3 (nI (w + k)) br.1 y).2.1 = br.1 ∧ (f_Planner_findWindows_l10_k44 (nI w) (nI p) v3 (nI (w + k)) br.1 y).2.2.1 = nI (w + (k + 1)) ∧ zWr [21, 22, 75, 76] [(15, 9), (72, 5)] h (f_Planner_findWindows_l10_k44 (nI w) (nI p) v3 (nI (w + k)) br.1 y).2.2.2 ∧ zf (f_Planner_findWindows_l10_k44 (nI w) (nI p) v3 (nI (w + k)) br.1 y).2.2.2 72 5 = nI (wnd o w (k + 1)).1 ∧ rlW 75 76 (wnd o w (k + 1)) (f_Planner_findWindows_l10_k44 (nI w) (nI p) v3 (nI (w + k)) br.1 y).2.2.2 := by
        rw [wnd]
        unfold f_Planner_findWindows_l10_k44 f_Planner_findWindows_l10_k44_ok
        rw [show w + (k + 1) = w + k + 1 by omega, nI_succ]
        by_cases ho : o (w + k) = true
        · have hb : ¬ br.1 = 0 := fun z => (b2.mp z) ho
          simp only [if_neg hb]
          rw [ho]
          by_cases hr : (wnd o w k).2.1 = true
          · have hv : ¬ v3 = 0 := fun z => (p0.mp z) hr
            have h1 := k2 hr
            simp only [if_neg hv]
            have g0 : ¬ (zf y 72 5 ≤ 0) := by rw [y5, i_le, i_nI (by omega), i_0]; omega
            have e1 : nI M - 1 = nI (M - 1) := by rw [show (1 : Int32) = nI 1 from rfl, nI_s0 _ _ (by omega)]
            have i1 : vp_in (nI (M - 1)) 40 := vp_in_nI (by omega) (by omega)
            rw [if_neg g0, y5, e1, zs_n _ _ _ (by omega), zr_n _ _ (by omega)]
            refine ⟨⟨⟨fun z => absurd z hb, fun _ => ⟨fun z => absurd z hv, fun _ => trivial⟩⟩, fun z => absurd z hb, fun _ => ⟨fun _ => trivial, fun _ => ⟨i1, i1⟩⟩⟩, trivial, trivial, trivial, zWr_si (by decide) w2, ?_, ?_⟩
            · unfold wst
              rw [if_pos rfl, if_pos hr]
              dsimp only
              rw [← eM, ← y5]
              show (zm_si y 76 (M - 1) _).2.1 72 5 = y.2.1 72 5
              rw [zf_si, if_neg (by decide)]
            · refine rlW_more y4 hr (by omega) ?_ ?_
              · rw [za_si, if_neg (by decide)]
              · rw [za_si, if_pos rfl, ← eM]
          · have hv : v3 = 0 := p0.mpr hr
            simp only [if_pos hv]
            rw [y5]
            simp only [if_neg g40]
            obtain ⟨z, ez⟩ : ∃ z, z = zp (zs (zs y 75 (nI M) (nI (w + k))) 76 (nI M) 0) 72 5 (nI M + 1) := ⟨_, rfl⟩
            rw [← ez]
            have ez2 : z = zm_si (zm_si (zm_si y 75 M (nI (w + k))) 76 M 0) 72 5 (nI (M + 1)) := by rw [ez, zs_n _ _ _ (by omega), zs_n _ _ _ (by omega), nI_succ]
            have z5 : zf z 72 5 = nI (M + 1) := by rw [ez2]; exact zm_in _ _ _ _
            have g0 : ¬ (zf z 72 5 ≤ 0) := by rw [z5, i_le, i_nI (by omega), i_0]; omega
            have e1 : nI (M + 1) - 1 = nI M := by rw [show (1 : Int32) = nI 1 from rfl, nI_s0 _ _ (by omega)]; rfl
            rw [if_neg g0, z5, e1, zs_n _ _ _ (by omega), zr_n _ _ (by omega)]
            have zb : zf z 76 M = 0 := by rw [ez2]; show (zm_si (zm_si (zm_si y 75 M (nI (w + k))) 76 M 0) 72 5 (nI (M + 1))).2.1 76 M = 0; rw [zf_si, if_neg (by decide), zf_si, if_pos rfl, if_pos rfl]
            have wz : zWr [21, 22, 75, 76] [(15, 9), (72, 5)] h z := by rw [ez2]; exact zWr_p (by decide) (zWr_si (by decide) (zWr_si (by decide) w2))
            refine ⟨⟨⟨fun z => absurd z hb, fun _ => ⟨fun _ => ⟨fun z => absurd z g40, fun _ => ⟨im, im⟩⟩, fun z => absurd hv z⟩⟩, fun z => absurd z hb, fun _ => ⟨fun z => absurd z (by rw [z5] at g0; exact g0), fun _ => ⟨im, im⟩⟩⟩, trivial, trivial, trivial, zWr_si (by decide) wz, ?_, ?_⟩
            · unfold wst
              rw [if_pos rfl, if_neg hr]
              dsimp only
              rw [← eM, ← z5]
              show (zm_si z 76 M _).2.1 72 5 = z.2.1 72 5
              rw [zf_si, if_neg (by decide)]
            · rw [zb]
              refine rlW_new y4 hr ?_ ?_
              · rw [za_si, if_neg (by decide), ez2, za_si, if_neg (by decide), za_si, if_neg (by decide), za_si, if_pos rfl, ← eM]
              · rw [za_si, if_pos rfl, ez2, za_si, if_neg (by decide), za_si, if_pos rfl, za_si, if_neg (by decide), ← eM]
                funext j
                unfold upd
                by_cases c : j = M
                · rw [if_pos c, if_pos c]; rfl
                · rw [if_neg c, if_neg c, if_neg c]
        · have hb : br.1 = 0 := b2.mpr ho
          have ho2 : o (w + k) = false := by cases hh : o (w + k) with
            | true => exact absurd hh ho
            | false => rfl
          simp only [if_pos hb]
          rw [ho2]
          refine ⟨⟨⟨fun _ => trivial, fun z => absurd hb z⟩, fun _ => trivial, fun z => absurd hb z⟩, trivial, trivial, trivial, w2, ?_, rlW_no y4 rfl rfl⟩
          unfold wst
          rw [if_neg (by decide)]
          dsimp only
          rw [← eM]; exact y5
      obtain ⟨r1, r2, r3, r4, r5, r6, r7⟩ := goal
      refine ⟨ok r1, Or.inl ⟨r2, ?_, r4, r5, r6, r7⟩⟩
      rw [r3, b2, wnd]
      unfold wst
      by_cases ho : o (w + k) = true
      · rw [if_pos ho]
        by_cases hr : (wnd o w k).2.1 = true
        · rw [if_pos hr]; exact ⟨fun z => absurd ho z, fun z => absurd rfl z⟩
        · rw [if_neg hr]; exact ⟨fun z => absurd ho z, fun z => absurd rfl z⟩
      · rw [if_neg ho]; exact ⟨fun _ => show ¬ false = true by decide, fun _ => ho⟩)
    (by
      rintro ⟨v3, v4, x⟩ ⟨p0, p1, p2, p3, p4⟩
      dsimp only at p0 p1 p2 p3 p4
      subst p1
      dsimp only
      unfold f_Planner_findWindows_l10_b f_Planner_findWindows_l10_b_ok
      rw [← es] at p3 p4
      by_cases c : nI w + nI p ≤ nI (w + m)
      · rw [if_pos c]; exact ⟨⟨fun _ => trivial, fun z => absurd c z⟩, by simp, p2, p3, p4⟩
      · have c2 : (480 : Int32) ≤ nI (w + m) := by
          rw [ewp, nx_le (by omega) (by omega)] at c
          rw [show (480 : Int32) = nI 480 from rfl, nx_le (by omega) (by omega)]; omega
        rw [if_neg c, if_pos c2]
        exact ⟨⟨fun z => absurd z c, fun _ => ⟨fun _ => trivial, fun z => absurd c2 z⟩⟩, by simp, p2, p3, p4⟩)
  exact ⟨⟨key.1, trivial⟩, key.2⟩
