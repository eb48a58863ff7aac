/-! ===== CHAINS, the model ===== -/
theorem stn_hld {S : Nat → Nat → Int32} {i : Nat} {load : Int32} {t : Nat} (ht : t < 480) : hld (stn S i load (nI t)) i ↔ (hld S i ∧ load ≤ hd S i) := by
  unfold stn
  by_cases c : hld S i
  · rw [if_pos c]
    by_cases c2 : load ≤ hd S i
    · rw [if_pos c2]
      refine ⟨fun _ => ⟨c, c2⟩, fun _ => ?_⟩
      unfold hld
      rw [zu_n (a := 5) (by decide), zu_n (a := 7) (by decide)]
      exact c
    · rw [if_neg c2]
      refine ⟨fun z => ?_, fun z => absurd z.2 c2⟩
      unfold hld at z
      rw [zu_n (a := 5) (by decide), zu_h, if_pos rfl] at z
      exact absurd z.2 (nI_nm1 (by omega))
  · rw [if_neg c]
    exact ⟨fun z => absurd z c, fun z => absurd z.1 c⟩
theorem stn_hldo {S : Nat → Nat → Int32} {i j : Nat} (hj : ¬ j = i) {load t : Int32} : hld (stn S i load t) j ↔ hld S j := by
  unfold hld
  rw [stn_o (by omega), stn_o (by omega)]
theorem chs_M {nr g L : Nat} (hL : L < 2) {h : zm_H} (V : vOK nr g (vM L h)) {sea : Int32} (hs : rdOK sea) (hS : isSea h sea) {t r : Nat} (ht : t < 480) (hr : r < 10) (z1 : 1 ≤ (h.2.1 112 r).toInt) (z2 : (h.2.1 112 r).toInt ≤ 20) (h1 : vM L h 0 r = 1) : f_M_chains_ok (nI L) (nI r) (nI t) h ∧ vM L (f_M_chains (nI L) (nI r) (nI t) h) = chn (h.2.1 112) sea (nI t) r (vM L h) ∧ ∀ L', L' < 2 → ¬ L = L' → vM L' (f_M_chains (nI L) (nI r) (nI t) h) = vM L' h := by
  obtain ⟨l1, l2⟩ := load_n hs z1 z2
  have hw := sea_w hs
  have i10 : vp_in (nI r) 10 := vp_in_nI hr (by omega)
  have i20 : vp_in (nI (10 * L + r)) 20 := vp_in_nI (by omega) (by omega)
  obtain ⟨load, el⟩ : ∃ load, load = sea / 1000 * (h.2.1 112 r + 5) := ⟨_, rfl⟩
  obtain ⟨way, ew⟩ : ∃ way, way = zm_rm sea 10 - 1 := ⟨_, rfl⟩
  obtain ⟨S, eS⟩ : ∃ S, S = vM L h := ⟨_, rfl⟩
  have elo : zf h 92 79 * (zr h 112 (nI r) + 5) = load := by rw [hS.1, zr_n h 112 (by omega), el]
  have e81 : zf h 92 81 = way := by rw [hS.2.2, ew]
  unfold chn
  rw [← eS] at V h1 ⊢
  rw [if_pos h1, ← el, ← ew]
  rw [← el] at l1 l2
  rw [← ew] at hw
  unfold f_M_chains_ok f_M_chains f_M_chains_a21 f_M_chains_a21_ok f_M_chains_k62 f_M_chains_k62_ok f_M_chains_a68 f_M_chains_a68_ok f_M_chains_k178 f_M_chains_k178_ok
  rw [elo, x10]
  obtain ⟨F, eF, -⟩ := zF_ex
  rw [← eF]
  have key := zlpF eF (b := fun s => f_M_chains_l21_b (nI L) (nI r) (nI t) load s.1 s.2 h) (o := fun s => f_M_chains_l21_b_ok (nI L) (nI r) (nI t) load s.1 s.2 h) 3 (by omega)
    (fun k s => s = (alw S r way k, nI k)) (fun q => q.2.1 = alw S r way 3) (0, 0) rfl
    (by
      rintro k s hk rfl
      obtain ⟨c1, c2⟩ := ch_M (h := h) hL (show 3 * r + k < 30 by omega)
      rw [← eS] at c2
      dsimp only
      unfold f_M_chains_l21_b f_M_chains_l21_b_ok
      rw [if_neg (g3 hk), x30, c2, wtv_M hw hk e81]
      refine ⟨⟨fun z => absurd z (g3 hk), fun _ => c1⟩, Or.inl ⟨rfl, ?_⟩⟩
      dsimp only
      rw [alw, ← nI_succ]
      unfold wtc
      by_cases c : hld S (3 * r + k)
      · simp only [if_pos c, if_neg (show ¬ (1 : Int32) = 0 by decide)]
      · simp only [if_neg c, if_true])
    (by
      rintro s rfl
      dsimp only
      unfold f_M_chains_l21_b f_M_chains_l21_b_ok
      rw [if_pos (by decide)]
      exact ⟨⟨fun _ => trivial, fun z => absurd (by decide : (3 : Int32) ≤ nI 3) z⟩, by simp, rfl⟩)
  obtain ⟨k1, k2⟩ := key
  have k1 : f_M_chains_l21_ok (nI L) (nI r) (nI t) load h F (0, 0) := k1
  have k2 : (f_M_chains_l21 (nI L) (nI r) (nI t) load h F (0, 0)).2.1 = alw S r way 3 := k2
  rw [k2]
  have key2 := zlpF eF (b := fun s => f_M_chains_l68_b (nI L) (nI r) (nI t) load (alw S r way 3) s.1 s.2.1 s.2.2) (o := fun s => f_M_chains_l68_b_ok (nI L) (nI r) (nI t) load (alw S r way 3) s.1 s.2.1 s.2.2) 3 (by omega)
    (fun k s => s.2.1 = nI k ∧ (∃ m, m ≤ k ∧ s.1 = nI m ∧ (m = 0 ↔ ∀ j, j < k → ¬ hld (st3 S r load way (nI t) k) (3 * r + j))) ∧ zWr [129, 130] [] h s.2.2 ∧ vM L s.2.2 = st3 S r load way (nI t) k ∧ ∀ L', L' < 2 → ¬ L = L' → vM L' s.2.2 = vM L' h)
    (fun q => (∃ m, m ≤ 3 ∧ q.2.1 = nI m ∧ (m = 0 ↔ ∀ j, j < 3 → ¬ hld (st3 S r load way (nI t) 3) (3 * r + j))) ∧ vM L q.2.2.2 = st3 S r load way (nI t) 3 ∧ ∀ L', L' < 2 → ¬ L = L' → vM L' q.2.2.2 = vM L' h) (0, 0, h)
    ⟨rfl, ⟨0, by omega, rfl, ⟨fun _ j hj => by omega, fun _ => rfl⟩⟩, zWr.refl _ _, eS.symm, fun _ _ _ => rfl⟩
    (by
      rintro k ⟨v6, v7, q⟩ hk ⟨p1, ⟨m, m1, m2, m3⟩, p2, p3, p4⟩
      dsimp only at p1 m2 p2 p3 p4
      subst p1 m2
      have hk30 : 3 * r + k < 30 := by omega
      obtain ⟨c1, c2⟩ := ch_M (h := q) hL hk30
      rw [p3] at c2
      obtain ⟨a1, a2, a3⟩ := st3_at (S := S) (r := r) (load := load) (way := way) (t := nI t) k
      have i60 : vp_in (nI (30 * L + (3 * r + k))) 60 := vp_in_nI (by omega) (by omega)
      have q81 : zf q 92 81 = way := (p2.fld 92 81 (by decide) (by decide)).trans e81
      have eh : zr q 128 (nI (30 * L + (3 * r + k))) - zr q 129 (nI (30 * L + (3 * r + k))) / 100 = hd S (3 * r + k) := by
        rw [← a2, ← p3]
        unfold hd
        rw [zr_n q 128 (by omega), zr_n q 129 (by omega), vM_at5 hk30, vM_at6 hk30]
      have e6 : zr q 129 (nI (30 * L + (3 * r + k))) = st3 S r load way (nI t) k 6 (3 * r + k) := by
        rw [zr_n q 129 (by omega), ← p3, vM_at6 hk30]
      obtain ⟨-, b2⟩ := bor_n (S := S) hw l1 l2 r hk
      dsimp only
      unfold f_M_chains_l68_b f_M_chains_l68_b_ok
      rw [if_neg (g3 hk), x30, c2, wtv_M hw hk q81, eh]
      by_cases c : hld (st3 S r load way (nI t) k) (3 * r + k)
      · obtain ⟨b3, b4⟩ := b2 (a1.mp c)
        simp only [if_pos c, if_neg (show ¬ (1 : Int32) = 0 by decide), ← b4]
        refine ⟨⟨fun z => absurd z (g3 hk), fun _ => ⟨c1, fun z => absurd z (by decide), fun _ => ⟨b3, i60, i60, fun _ => ⟨i60, i60⟩, fun _ => i60⟩⟩⟩, Or.inl ⟨trivial, (nI_succ k).symm, ?_⟩⟩
        by_cases c3 : bor S r load way k ≤ hd S (3 * r + k)
        · have eX : st3 S r load way (nI t) (k + 1) = zm_u (st3 S r load way (nI t) k) 6 (3 * r + k) (st3 S r load way (nI t) k 6 (3 * r + k) + (if bor S r load way k ≤ 100 then 0 else bor S r load way k - 100)) := by
            rw [st3, stn, if_pos c, a2, if_pos c3]
            congr 2
            have bn := (bor_n (S := S) hw l1 l2 r hk).1
            have bh := (hd_n V hk30).2.2
            rw [i_le] at c3
            have es : (bor S r load way k - 100).toInt = (bor S r load way k).toInt - 100 := by rw [i_sub (by rw [i_100]; omega) (by rw [i_100]; omega), i_100]
            by_cases y : bor S r load way k ≤ 100
            · rw [if_pos y, if_neg (by rw [i_lt, es, i_0]; rw [i_le, i_100] at y; omega)]
            · rw [if_neg y, if_pos (by rw [i_lt, es, i_0]; rw [i_le, i_100] at y; omega)]
          simp only [if_pos c3]
          refine ⟨⟨m + 1, by omega, (nI_succ m).symm, ?_⟩, ?_, ?_, ?_⟩
          · refine ⟨fun z => by omega, fun z => ?_⟩
            exfalso
            refine z k (by omega) ?_
            rw [st3]
            exact (stn_hld ht).mpr ⟨c, by rw [a2]; exact c3⟩
          · exact zWr_si (by decide) p2
          · rw [e6, zs_n _ 129 _ (by omega), vM_u30 (i := 6) (j := 129) rfl (by omega) hk30, p3, eX]
          · intro L' hL' hne
            rw [zs_n _ 129 _ (by omega), vM_x30 hne (i := 6) (j := 129) rfl (by omega) hk30]
            exact p4 L' hL' hne
        · have eX : st3 S r load way (nI t) (k + 1) = zm_u (st3 S r load way (nI t) k) 7 (3 * r + k) (nI t) := by
            rw [st3, stn, if_pos c, a2, if_neg c3]
          simp only [if_neg c3]
          refine ⟨⟨m, by omega, rfl, ?_⟩, ?_, ?_, ?_⟩
          · rw [m3]
            constructor
            · intro z j hj y
              rcases (show j < k ∨ j = k by omega) with w | w
              · refine z j w ?_
                rw [st3] at y
                exact (stn_hldo (by omega)).mp y
              · subst w
                rw [st3] at y
                have := ((stn_hld ht).mp y).2
                rw [a2] at this
                exact c3 this
            · intro z j hj y
              refine z j (by omega) ?_
              rw [st3]
              exact (stn_hldo (by omega)).mpr y
          · exact zWr_si (by decide) p2
          · rw [zs_n _ 130 _ (by omega), vM_u30 (i := 7) (j := 130) rfl (by omega) hk30, p3, eX]
          · intro L' hL' hne
            rw [zs_n _ 130 _ (by omega), vM_x30 hne (i := 7) (j := 130) rfl (by omega) hk30]
            exact p4 L' hL' hne
      · have eX : st3 S r load way (nI t) (k + 1) = st3 S r load way (nI t) k := by rw [st3, stn, if_neg c]
        simp only [if_neg c, if_true]
        refine ⟨⟨fun z => absurd z (g3 hk), fun _ => ⟨c1, fun _ => trivial, fun z => absurd trivial z⟩⟩, Or.inl ⟨trivial, (nI_succ k).symm, ⟨m, by omega, rfl, ?_⟩, p2, by rw [eX]; exact p3, p4⟩⟩
        rw [m3, eX]
        constructor
        · intro z j hj y
          rcases (show j < k ∨ j = k by omega) with w | w
          · exact z j w y
          · subst w; exact c y
        · intro z j hj y
          exact z j (by omega) y)
    (by
      rintro ⟨v6, v7, q⟩ ⟨p1, p2, p3, p4, p5⟩
      dsimp only at p1 p2 p3 p4 p5
      subst p1
      dsimp only
      unfold f_M_chains_l68_b f_M_chains_l68_b_ok
      rw [if_pos (by decide)]
      exact ⟨⟨fun _ => trivial, fun z => absurd (by decide : (3 : Int32) ≤ nI 3) z⟩, by simp, p2, p4, p5⟩)
  obtain ⟨j1, ⟨m, m1, m2, m3⟩, j3, j4⟩ := key2
  have j1 : f_M_chains_l68_ok (nI L) (nI r) (nI t) load (alw S r way 3) F (0, 0, h) := j1
  have m2 : (f_M_chains_l68 (nI L) (nI r) (nI t) load (alw S r way 3) F (0, 0, h)).2.1 = nI m := m2
  have j3 : vM L (f_M_chains_l68 (nI L) (nI r) (nI t) load (alw S r way 3) F (0, 0, h)).2.2.2 = st3 S r load way (nI t) 3 := j3
  have j4 : ∀ L', L' < 2 → ¬ L = L' → vM L' (f_M_chains_l68 (nI L) (nI r) (nI t) load (alw S r way 3) F (0, 0, h)).2.2.2 = vM L' h := j4
  generalize f_M_chains_l68 (nI L) (nI r) (nI t) load (alw S r way 3) F (0, 0, h) = R at m2 j3 j4
  refine ⟨⟨i10, k1, j1, fun _ => ⟨i20, i20⟩, fun _ => trivial⟩, ?_⟩
  by_cases m0 : m = 0
  · have g0 : R.2.1 ≤ 0 := by rw [m2, m0]; decide
    have nh := m3.mp m0
    rw [if_pos g0, if_neg (fun z => by
      rcases z with z | z | z
      · exact nh 0 (by omega) z
      · exact nh 1 (by omega) z
      · exact nh 2 (by omega) z)]
    rw [zs_n _ 124 _ (by omega), zs_n _ 123 _ (by omega)]
    refine ⟨?_, ?_⟩
    · rw [vM_u10 (i := 1) (j := 124) rfl (by omega) hr, vM_u10 (i := 0) (j := 123) rfl (by omega) hr, j3]
    · intro L' hL' hne
      rw [vM_x10 hne (i := 1) (j := 124) rfl (by omega) hr, vM_x10 hne (i := 0) (j := 123) rfl (by omega) hr]
      exact j4 L' hL' hne
  · have g0 : ¬ R.2.1 ≤ 0 := by rw [m2, i_le, i_nI (by omega), i_0]; omega
    have ex : hld (st3 S r load way (nI t) 3) (3 * r + 0) ∨ hld (st3 S r load way (nI t) 3) (3 * r + 1) ∨ hld (st3 S r load way (nI t) 3) (3 * r + 2) := by
      refine Decidable.byContradiction (fun z => m0 (m3.mpr (fun j hj y => z ?_)))
      rcases (show j = 0 ∨ j = 1 ∨ j = 2 by omega) with e | e | e <;> subst e
      · exact Or.inl y
      · exact Or.inr (Or.inl y)
      · exact Or.inr (Or.inr y)
    rw [if_neg g0, if_pos ex]
    exact ⟨j3, j4⟩
