/-! ===== the END of a SPELL: boats, both ===== -/
abbrev GS := (Nat → Nat → Int32) × (Nat → Nat → Int32) × Nat × (Nat → Nat → Int32)
def trp (t b : Nat) (g : GS) : GS :=
  if g.2.1 2 b = nI t then
    (if g.2.2.1 < 200 ∧ dbl g.1 (g.2.1 4 b) (g.2.1 3 b).toNatClampNeg (-1) = true then
      (dot g.1 (g.2.1 4 b) (g.2.1 3 b).toNatClampNeg (-1) (g.2.1 5 b), zm_u (dn g.2.1 b) 2 b (-1), g.2.2.1 + 1, tad g.2.2.2 g.2.2.1 (nI (t + 1)) (g.2.1 4 b) (g.2.1 3 b) (-1) (g.2.1 5 b))
    else (g.1, zm_u (zm_u g.2.1 7 b (g.2.1 7 b + 1)) 2 b (-1), g.2.2.1, g.2.2.2))
  else g
def hbOK (nr w : Nat) (U : Nat → Nat → Int32) : Prop := (∀ k, k < 3 → 0 ≤ (U 0 k).toInt ∧ (U 0 k).toInt ≤ 99) ∧ (∀ k, k < 9 → 0 ≤ (U 1 k).toInt ∧ (U 1 k).toInt ≤ 9) ∧ ∀ b, b < 3 → U 2 b = -1 ∨ ∃ t r j, (U 2 b = nI t ∧ w ≤ t ∧ t < 480) ∧ (U 3 b = nI r ∧ r < nr) ∧ (U 4 b = nI j ∧ j ≤ 4) ∧ (j < 3 → 10 ≤ (U 5 b).toInt ∧ (U 5 b).toInt ≤ 5000) ∧ ¬ U 1 (3 * b + prt (nI j)) = 0
theorem zuu_at (U : Nat → Nat → Int32) (i k : Nat) (v : Int32) (x y : Nat) : zm_u U i k v x y = if x = i ∧ y = k then v else U x y := by
  unfold zm_u
  by_cases a : x = i
  · by_cases c : y = k
    · rw [if_pos a, if_pos c, if_pos ⟨a, c⟩]
    · rw [if_pos a, if_neg c, if_neg (fun z => c z.2)]
  · rw [if_neg a, if_neg (fun z => a z.1)]
theorem dn_at (U : Nat → Nat → Int32) (b x y : Nat) : dn U b x y = if x = 6 ∧ y = b then U 6 b + 1 else if x = 1 ∧ ¬ prt (U 4 b) = 2 ∧ y = 3 * b + prt (U 4 b) then U 1 y - 1 else U x y := by
  unfold dn
  by_cases c : prt (U 4 b) = 2
  · rw [if_pos c, zuu_at]
    by_cases d : x = 6 ∧ y = b
    · rw [if_pos d, if_pos d]
    · rw [if_neg d, if_neg d, if_neg (fun z => z.2.1 c)]
  · rw [if_neg c, zuu_at, zuu_at]
    by_cases d : x = 6 ∧ y = b
    · rw [if_pos d, if_pos d, if_neg (by omega)]
    · rw [if_neg d, if_neg d]
      by_cases e : x = 1 ∧ y = 3 * b + prt (U 4 b)
      · rw [if_pos e, if_pos ⟨e.1, c, e.2⟩, e.2]
      · rw [if_neg e, if_neg (fun z => e ⟨z.1, z.2.2⟩)]
theorem hbOK_fail {nr w : Nat} {U : Nat → Nat → Int32} (H : hbOK nr w U) (b : Nat) : hbOK nr w (zm_u (zm_u U 7 b (U 7 b + 1)) 2 b (-1)) := by
  have a : ∀ x y, ¬ x = 7 → ¬ x = 2 → zm_u (zm_u U 7 b (U 7 b + 1)) 2 b (-1) x y = U x y := fun x y h7 h2 => by
    rw [zuu_at, zuu_at, if_neg (fun z => h2 z.1), if_neg (fun z => h7 z.1)]
  refine ⟨fun k hk => by rw [a 0 k (by omega) (by omega)]; exact H.1 k hk, fun k hk => by rw [a 1 k (by omega) (by omega)]; exact H.2.1 k hk, fun c hc => ?_⟩
  rw [a 3 c (by omega) (by omega), a 4 c (by omega) (by omega), a 5 c (by omega) (by omega), zuu_at]
  by_cases d : c = b
  · exact Or.inl (if_pos ⟨rfl, d⟩)
  · rw [if_neg (fun z => d z.2), zuu_at, if_neg (by omega)]
    rcases H.2.2 c hc with z | ⟨t, r, j, z1, z2, z3, z4, z5⟩
    · exact Or.inl z
    · exact Or.inr ⟨t, r, j, z1, z2, z3, z4, by rw [a 1 _ (by omega) (by omega)]; exact z5⟩
theorem hbOK_rc {nr w : Nat} {U : Nat → Nat → Int32} (H : hbOK nr w U) : ∀ n, hbOK nr w (fld rc1 n U) := by
  intro n
  induction n with
  | zero => simp only [fld]; exact H
  | succ n ih =>
    rw [fld]
    generalize fld rc1 n U = Y at ih
    unfold rc1
    by_cases c : Y 2 n = -1
    · rw [if_pos c]; exact ih
    · rw [if_neg c]; exact hbOK_fail ih n
theorem hbOK_rcl {nr w : Nat} {U : Nat → Nat → Int32} (H : hbOK nr w U) (E : Nat → (Nat → Int32) → Int32) (sea t : Int32) : hbOK nr w (rcl E sea t U) := by
  unfold rcl
  by_cases c : E 2 (nmZ sea t) = 0
  · rw [if_pos c]; exact hbOK_rc H 3
  · rw [if_neg c]; exact H
theorem hbOK_dn {nr w : Nat} {U : Nat → Nat → Int32} (H : hbOK nr w U) {b r j t : Nat} (hb : b < 3) (e4 : U 4 b = nI j) (hj : j ≤ 4) (h1 : ¬ U 1 (3 * b + prt (nI j)) = 0) : hbOK nr w (zm_u (dn U b) 2 b (-1)) := by
  have a : ∀ x y, ¬ x = 1 → ¬ x = 6 → ¬ x = 2 → zm_u (dn U b) 2 b (-1) x y = U x y := fun x y h1 h6 h2 => by
    rw [zuu_at, dn_at, if_neg (fun z => h2 z.1), if_neg (fun z => h6 z.1), if_neg (fun z => h1 z.1)]
  have p3 := (prt_j hj).1
  refine ⟨fun k hk => by rw [a 0 k (by omega) (by omega) (by omega)]; exact H.1 k hk, fun k hk => ?_, fun c hc => ?_⟩
  · rw [zuu_at, dn_at, if_neg (by omega), if_neg (by omega), e4]
    have b1 := H.2.1 k hk
    by_cases d : 1 = 1 ∧ ¬ prt (nI j) = 2 ∧ k = 3 * b + prt (nI j)
    · rw [if_pos d]
      rw [← d.2.2, i_eq, i_0] at h1
      rw [i_sub (by rw [i_1]; omega) (by rw [i_1]; omega), i_1]
      omega
    · rw [if_neg d]; exact b1
  · rw [a 3 c (by omega) (by omega) (by omega), a 4 c (by omega) (by omega) (by omega), a 5 c (by omega) (by omega) (by omega), zuu_at]
    by_cases d : c = b
    · exact Or.inl (if_pos ⟨rfl, d⟩)
    · rw [if_neg (fun z => d z.2), dn_at, if_neg (by omega), if_neg (by omega)]
      rcases H.2.2 c hc with z | ⟨t, r, j', z1, z2, z3, z4, z5⟩
      · exact Or.inl z
      · refine Or.inr ⟨t, r, j', z1, z2, z3, z4, ?_⟩
        have q3 := (prt_j z3.2).1
        rw [zuu_at, if_neg (by omega), dn_at, if_neg (by omega), e4, if_neg (by omega)]
        exact z5
def gOK (nr w q : Nat) (g : GS) : Prop := vOK nr q g.1 ∧ hbOK nr w g.2.1 ∧ g.2.2.1 ≤ 200
theorem trp_ok {nr w q : Nat} (hnr : nr ≤ 10) {g : GS} (G : gOK nr w q g) {b : Nat} (hb : b < 3) (hw : w < 480) : gOK nr w q (trp w b g) ∧ (¬ (trp w b g).2.1 2 b = nI w) ∧ ∀ c, ¬ c = b → (trp w b g).2.1 2 c = g.2.1 2 c := by
  obtain ⟨V, H, n⟩ := G
  unfold trp
  by_cases c : g.2.1 2 b = nI w
  · rw [if_pos c]
    rcases H.2.2 b hb with z | ⟨t, r, j, ⟨z1, -, -⟩, ⟨z2, hr⟩, ⟨z3, hj⟩, z4, z5⟩
    · rw [z] at c
      exact absurd c.symm (nI_nm1 (by omega))
    · have nm : ¬ (-1 : Int32) = nI w := fun z => nI_nm1 (p := w) (by omega) z.symm
      by_cases d : g.2.2.1 < 200 ∧ dbl g.1 (g.2.1 4 b) (g.2.1 3 b).toNatClampNeg (-1) = true
      · rw [if_pos d]
        rw [z2, z3, nI_c (by omega)] at d
        refine ⟨⟨?_, hbOK_dn (r := r) (t := t) H hb z3 hj z5, by dsimp only; omega⟩, by dsimp only; rw [zuu_at, if_pos ⟨rfl, rfl⟩]; exact nm, fun c hc => by dsimp only; rw [zuu_at, if_neg (fun z => hc z.2), dn_at, if_neg (by omega), if_neg (by omega)]⟩
        dsimp only
        rw [z2, z3, nI_c (by omega)]
        exact vOK_dot hnr V (thOK_j hr hj z4) d.2
      · rw [if_neg d]
        exact ⟨⟨V, hbOK_fail H b, n⟩, by dsimp only; rw [zuu_at, if_pos ⟨rfl, rfl⟩]; exact nm, fun c hc => by dsimp only; rw [zuu_at, if_neg (fun z => hc z.2), zuu_at, if_neg (by omega)]⟩
  · rw [if_neg c]
    exact ⟨⟨V, H, n⟩, c, fun _ _ => rfl⟩
theorem trps_ok {nr w q : Nat} (hnr : nr ≤ 10) {g : GS} (G : gOK nr w q g) (hw : w < 480) : ∀ n, n ≤ 3 → gOK nr w q (fld (trp w) n g) ∧ ∀ b, b < n → ¬ (fld (trp w) n g).2.1 2 b = nI w := by
  intro n
  induction n with
  | zero => intro _; simp only [fld]; exact ⟨G, fun b hb => by omega⟩
  | succ n ih =>
    intro hn
    obtain ⟨a, b⟩ := ih (by omega)
    rw [fld]
    obtain ⟨c, d, e⟩ := trp_ok hnr a (show n < 3 by omega) hw
    refine ⟨c, fun x hx => ?_⟩
    by_cases y : x = n
    · subst y; exact d
    · rw [e x y]; exact b x (by omega)
theorem trps_up {nr w q : Nat} (hnr : nr ≤ 10) {g : GS} (G : gOK nr w q g) (hw : w < 480) : gOK nr (w + 1) q (fld (trp w) 3 g) := by
  obtain ⟨⟨a, h, n⟩, b⟩ := trps_ok hnr G hw 3 (by omega)
  refine ⟨a, ⟨h.1, h.2.1, fun c hc => ?_⟩, n⟩
  rcases h.2.2 c hc with z | ⟨t, r, j, ⟨z1, y1, y2⟩, z2⟩
  · exact Or.inl z
  · refine Or.inr ⟨t, r, j, ⟨z1, ?_, y2⟩, z2⟩
    have : ¬ t = w := fun e => b c hc (by rw [z1, e])
    omega
def rlN (nr : Nat) (g : GS) (h : zm_H) : Prop := vC 38 h = g.1 ∧ uN h = g.2.1 ∧ zf h 37 4 = nI g.2.2.1 ∧ tB h = g.2.2.2 ∧ J_th nr g.2.2.1 h
def rlM (g : GS) (h : zm_H) : Prop := vM 0 h = g.1 ∧ uM h = g.2.1 ∧ mB h ∧ zf h 92 41 = nI g.2.2.1 ∧ (h.2.1 118 = g.2.2.2 0 ∧ h.2.1 120 = g.2.2.2 2 ∧ h.2.1 122 = g.2.2.2 4) ∧ ∀ k, k < g.2.2.1 → kdR (h.2.1 119 k) (g.2.2.2 1 k) (h.2.1 121 k) (g.2.2.2 3 k)
theorem rlN_w {W : List Nat} {F : List (Nat × Nat)} {h h' : zm_H} (w : zWr W F h h') {nr : Nat} {g : GS} (h1 : (W.all (fun i => decide (i < 23) || (decide (31 < i) && decide (i < 37)) || (decide (45 < i) && decide (i < 64)) || decide (71 < i)) && F.all (fun p => (decide (p.1 < 23) || p.1 == 23 || (decide (31 < p.1) && decide (p.1 < 37)) || p.1 == 37 || (decide (45 < p.1) && decide (p.1 < 64)) || decide (71 < p.1)) && p != (23, 4) && p != (37, 4))) = true) (R : rlN nr g h) : rlN nr g h' := by
  rw [Bool.and_eq_true, List.all_eq_true, List.all_eq_true] at h1
  obtain ⟨hW, hF⟩ := h1
  have ar : ∀ i, (27 ≤ i ∧ i ≤ 31) ∨ (38 ≤ i ∧ i ≤ 45) ∨ (64 ≤ i ∧ i ≤ 71) → h'.2.1 i = h.2.1 i := fun i hi => w.arr i (fun z => by have := hW i z; simp at this; omega) (fun p hp e => by have := hF p hp; simp at this; omega)
  have fl : ∀ p, p = (23, 4) ∨ p = (37, 4) → zf h' p.1 p.2 = zf h p.1 p.2 := fun p hp => w.fld p.1 p.2 (fun z => by have := hW _ z; rcases hp with e | e <;> subst e <;> simp at this) (fun z => by have := hF _ z; rcases hp with e | e <;> subst e <;> simp at this)
  obtain ⟨r1, r2, r3, r4, r5⟩ := R
  refine ⟨by rw [← r1]; exact vC_eq (fun i hi => ar (38 + i) (by omega)), by rw [← r2]; exact uN_eq (fun i hi => ar (64 + i) (by omega)), by rw [← r3]; exact fl (37, 4) (Or.inr rfl), by rw [← r4]; exact tB_eq (fun i hi => ar (27 + i) (by omega)), r5.1, by rw [← r5.2.1]; exact fl (23, 4) (Or.inl rfl), fun k hk => ?_⟩
  rw [ar 28 (by omega), ar 29 (by omega), ar 30 (by omega), ar 31 (by omega)]
  exact r5.2.2 k hk
theorem ends_N {nr w q : Nat} (hnr : nr ≤ 10) (hw : w < 480) {g : GS} {h : zm_H} (G : gOK nr w q g) (R : rlN nr g h) : f_Harbour_endSpell_ok (nI w) h ∧ zWr [27, 28, 29, 30, 31, 38, 39, 40, 43, 44, 45, 65, 66, 70, 71] [(23, 4), (37, 4)] h (f_Harbour_endSpell (nI w) h) ∧ rlN nr (fld (trp w) 3 g) (f_Harbour_endSpell (nI w) h) := by
  unfold f_Harbour_endSpell_ok f_Harbour_endSpell f_Harbour_endSpell_a2 f_Harbour_endSpell_k38
  obtain ⟨F, eF, -⟩ := zF_ex
  rw [← eF]
  have key := zlp_k eF (b := fun s => f_Harbour_endSpell_l2_b (nI w) s.1 s.2) (o := fun s => f_Harbour_endSpell_l2_b_ok (nI w) s.1 s.2) 3 (by omega) 0
    (fun j x => zWr [27, 28, 29, 30, 31, 38, 39, 40, 43, 44, 45, 65, 66, 70, 71] [(23, 4), (37, 4)] h x ∧ rlN nr (fld (trp w) j g) x) h ⟨zWr.refl _ _, by simp only [fld]; exact R⟩
    (by
      rintro b x hb ⟨p1, p2⟩
      rw [Nat.zero_add]
      have G1 := (trps_ok hnr G hw b (by omega)).1
      rw [fld]
      generalize fld (trp w) b g = g1 at p2 G1
      obtain ⟨X, U, nt, T⟩ := g1
      obtain ⟨r1, r2, r3, r4, r5⟩ := p2
      obtain ⟨V, H, hn⟩ := G1
      dsimp only at r1 r2 r3 r4 r5 V H hn
      have ib : vp_in (nI b) 3 := vp_in_nI hb (by omega)
      have z66 : zr x 66 (nI b) = U 2 b := by rw [zr_n x 66 (by omega), ← r2, uN_at x (by omega)]
      dsimp only
      unfold f_Harbour_endSpell_l2_b f_Harbour_endSpell_l2_b_ok f_Harbour_endSpell_l2_k25 f_Harbour_endSpell_l2_k25_ok f_Harbour_endSpell_l2_k32 trp
      rw [if_neg (g3 hb), z66, ← nI_succ, ← nI_succ]
      dsimp only
      by_cases c : U 2 b = nI w
      · rw [if_pos c, if_pos c]
        rcases H.2.2 b hb with z | ⟨t, r, j, ⟨z1, -, -⟩, ⟨z2, hr⟩, ⟨z3, hj⟩, z4, z5⟩
        · rw [z] at c
          exact absurd c.symm (nI_nm1 (by omega))
        · obtain ⟨e1, e2, e3⟩ := et_N hnr r5 r3 (by rw [r1]; exact V) hb hr hj (by rw [r2]; exact z2) (by rw [r2]; exact z3) (by rw [r2]; exact z4) (nI (w + 1))
          rw [r1, r2, r4] at e3
          generalize f_Harbour_endTrip (nI b) (nI (w + 1)) x = y at e2 e3
          simp only [z2, z3, nI_c (show r < 2147483648 by omega)]
          rw [zs_n _ 66 _ (by omega)]
          refine ⟨⟨fun z => absurd z (g3 hb), fun _ => ⟨ib, fun _ => ⟨e1, ib⟩, fun z => absurd c z⟩⟩, _, rfl, zWr_si (by decide) (zWr_tr e2 (by decide) (by decide) p1), ?_⟩
          by_cases d : nt < 200 ∧ dbl X (nI j) r (-1) = true
          · rw [if_pos d] at e3 ⊢
            obtain ⟨f1, f2, f3, f4, f5, -⟩ := e3
            refine ⟨by rw [vC_o (by omega)]; exact f1, by rw [uN_u (i := 2) (j := 66) rfl (by omega), f4], by rw [← f2]; exact (zWr_si (W := [66]) (F := []) (by decide) (zWr.refl _ y)).fld 37 4 (by decide) (by decide), by rw [tB_o (by omega), f3], f5.1, ?_, ?_⟩
            · rw [← f5.2.1]; exact (zWr_si (W := [66]) (F := []) (by decide) (zWr.refl _ y)).fld 23 4 (by decide) (by decide)
            · intro k hk
              rw [za_si, za_si, za_si, za_si, if_neg (by decide), if_neg (by decide), if_neg (by decide), if_neg (by decide)]
              exact f5.2.2 k hk
          · rw [if_neg d] at e3 ⊢
            rw [e3]
            refine ⟨by rw [vC_o (by omega), vC_o (by omega)]; exact r1, by rw [uN_u (i := 2) (j := 66) rfl (by omega), uN_u (i := 7) (j := 71) rfl (by omega), r2], ?_, by rw [tB_o (by omega), tB_o (by omega), r4], r5.1, ?_, ?_⟩
            · rw [← r3]; exact (zWr_si (W := [66, 71]) (F := []) (by decide) (zWr_si (by decide) (zWr.refl _ x))).fld 37 4 (by decide) (by decide)
            · rw [← r5.2.1]; exact (zWr_si (W := [66, 71]) (F := []) (by decide) (zWr_si (by decide) (zWr.refl _ x))).fld 23 4 (by decide) (by decide)
            · intro k hk
              simp only [za_si]
              simpa using r5.2.2 k hk
      · rw [if_neg c, if_neg c]
        exact ⟨⟨fun z => absurd z (g3 hb), fun _ => ⟨ib, fun z => absurd z c, fun _ => trivial⟩⟩, _, rfl, p1, r1, r2, r3, r4, r5⟩)
    (by
      rintro x ⟨p1, p2⟩
      rw [Nat.zero_add]
      dsimp only
      unfold f_Harbour_endSpell_l2_b f_Harbour_endSpell_l2_b_ok
      rw [if_pos (by decide)]
      exact ⟨⟨fun _ => trivial, fun z => absurd (by decide : (3 : Int32) ≤ nI 3) z⟩, rfl⟩)
  rw [Nat.zero_add] at key
  obtain ⟨k1, h3, k2, k3, k4⟩ := key
  have k2 : f_Harbour_endSpell_l2 (nI w) F (0, h) = (1, nI 3, h3) := k2
  rw [k2]
  exact ⟨⟨k1, trivial⟩, k3, k4⟩
