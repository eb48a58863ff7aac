/-! ===== CHAINS, the class: course 37 ===== -/
theorem wei_37 {h : zm_H} {way : Int32} (hw : isW way) {r c : Nat} (hr : r < 10) (hc : c < 3) : f_Course_weight_37_ok (nI r) (nI c) way h ∧ f_Course_weight_37 (nI r) (nI c) way h = wtc (vC 38 h) r way c := by
  obtain ⟨c1, c2, -, -⟩ := ho_37 (h := h) (show 3 * r + c < 30 by omega)
  unfold f_Course_weight_37_ok f_Course_weight_37 wtc wtv
  rw [x3, c2]
  refine ⟨⟨c1, fun _ => trivial, fun _ => wtv_in hw hc⟩, ?_⟩
  by_cases z : hld (vC 38 h) (3 * r + c)
  · rw [if_pos z, if_pos z, if_neg (by decide)]
  · rw [if_neg z, if_neg z, if_pos rfl]
theorem shl_37 {h : zm_H} {way load : Int32} (hw : isW way) {r : Nat} (hr : r < 10) : f_Course_shareLoad_37_ok (nI r) load way h ∧ zWr [46] [] h (f_Course_shareLoad_37 (nI r) load way h) ∧ ∀ k, k < 3 → (f_Course_shareLoad_37 (nI r) load way h).2.1 46 k = bor (vC 38 h) r load way k := by
  unfold f_Course_shareLoad_37_ok f_Course_shareLoad_37 f_Course_shareLoad_37_a6 f_Course_shareLoad_37_a6_ok f_Course_shareLoad_37_k31 f_Course_shareLoad_37_k31_ok f_Course_shareLoad_37_a34 f_Course_shareLoad_37_k75
  obtain ⟨F, eF, -⟩ := zF_ex
  rw [← eF]
  have key := zlpF eF (b := fun s => f_Course_shareLoad_37_l6_b (nI r) load way s.1 s.2 h) (o := fun s => f_Course_shareLoad_37_l6_b_ok (nI r) load way s.1 s.2 h) 3 (by omega)
    (fun k s => s = (alw (vC 38 h) r way k, nI k)) (fun q => q.2.1 = alw (vC 38 h) r way 3) (0, 0) rfl
    (by
      rintro k s hk rfl
      obtain ⟨c1, c2⟩ := wei_37 (h := h) hw hr hk
      dsimp only
      unfold f_Course_shareLoad_37_l6_b f_Course_shareLoad_37_l6_b_ok
      rw [if_neg (g3 hk), c2]
      exact ⟨⟨fun z => absurd z (g3 hk), fun _ => c1⟩, Or.inl ⟨rfl, by rw [alw, ← nI_succ]⟩⟩)
    (by
      rintro s rfl
      dsimp only
      unfold f_Course_shareLoad_37_l6_b f_Course_shareLoad_37_l6_b_ok
      rw [if_pos (by decide)]
      exact ⟨⟨fun _ => trivial, fun z => absurd (by decide : (3 : Int32) ≤ nI 3) z⟩, by simp, rfl⟩)
  obtain ⟨k1, k2⟩ := key
  have k1 : f_Course_shareLoad_37_l6_ok (nI r) load way h F (0, 0) := k1
  have k2 : (f_Course_shareLoad_37_l6 (nI r) load way h F (0, 0)).2.1 = alw (vC 38 h) r way 3 := k2
  rw [k2]
  obtain ⟨m1, h1, m2, m3, m4⟩ := zfill eF (b := fun s => f_Course_shareLoad_37_l34_b (nI r) load way (alw (vC 38 h) r way 3) s.1 s.2) (o := fun s => f_Course_shareLoad_37_l34_b_ok (nI r) load way (alw (vC 38 h) r way 3) s.1 s.2) 46 3 (by omega) (bor (vC 38 h) r load way) h
    (fun k q hk wq => by
      obtain ⟨c1, c2⟩ := wei_37 (h := q) hw hr hk
      have ev : vC 38 q = vC 38 h := vC_eq (fun i hi => wq.arr (38 + i) (by simp; omega) (by simp))
      rw [ev] at c2
      dsimp only
      unfold f_Course_shareLoad_37_l34_b f_Course_shareLoad_37_l34_b_ok
      rw [if_neg (g3 hk), c2, zs_n _ 46 _ (by omega), ← nI_succ]
      exact ⟨⟨fun z => absurd z (g3 hk), fun _ => ⟨⟨fun _ => trivial, fun z => ⟨c1, z⟩⟩, vp_in_nI hk (by omega)⟩⟩, rfl⟩)
    (fun q _ => ⟨⟨fun _ => trivial, fun z => absurd (by decide : (3 : Int32) ≤ nI 3) z⟩, by
      dsimp only
      unfold f_Course_shareLoad_37_l34_b
      rw [if_pos (by decide)]⟩)
  have m2 : f_Course_shareLoad_37_l34 (nI r) load way (alw (vC 38 h) r way 3) F (0, h) = (1, nI 3, h1) := m2
  rw [m2]
  exact ⟨⟨k1, m1, trivial⟩, m3, fun k hk => by rw [m4 k, if_pos hk]⟩
theorem str_37 {h : zm_H} {i : Nat} (hi : i < 30) (load t : Int32) : f_Course_strain_37_ok (nI i) load t h ∧ zWr [44, 45] [] h (f_Course_strain_37 (nI i) load t h) ∧ vC 38 (f_Course_strain_37 (nI i) load t h) = stn (vC 38 h) i load t := by
  obtain ⟨c1, c2, c3, c4⟩ := ho_37 (h := h) hi
  have ii : vp_in (nI i) 30 := vp_in_nI hi (by omega)
  have z6 : zsz 6 = 30 := rfl
  have z7 : zsz 7 = 30 := rfl
  have e44 : zr h 44 (nI i) = vC 38 h 6 i := by rw [zr_n h 44 (by omega), vC_at (b := 38) (i := 6) (by omega) (by omega)]
  unfold f_Course_strain_37_ok f_Course_strain_37 stn
  rw [c2, c4, e44, zs_n _ 44 _ (by omega), zs_n _ 45 _ (by omega)]
  refine ⟨⟨c1, fun _ => trivial, fun _ => ⟨c3, fun _ => ⟨ii, ii⟩, fun _ => ii⟩⟩, ?_⟩
  by_cases z : hld (vC 38 h) i
  · rw [if_pos z, if_pos z, if_neg (by decide)]
    by_cases y : load ≤ hd (vC 38 h) i
    · rw [if_pos y, if_pos y]
      exact ⟨zWr_si (by decide) (zWr.refl _ _), vC_u (b := 38) (i := 6) (j := 44) rfl (by omega) (by omega)⟩
    · rw [if_neg y, if_neg y]
      exact ⟨zWr_si (by decide) (zWr.refl _ _), vC_u (b := 38) (i := 7) (j := 45) rfl (by omega) (by omega)⟩
  · rw [if_neg z, if_neg z, if_pos rfl]
    exact ⟨zWr.refl _ _, rfl⟩
def hbI_37 (S : Nat → Nat → Int32) (r : Nat) : Nat → Int32
  | 0 => 0
  | k + 1 => hbI_37 S r k ||| (if hld S (3 * r + k) then 1 <<< (nI k &&& 31) else 0)
theorem hb_37 {h : zm_H} {r : Nat} (hr : r < 10) : f_Course_holdBits_37_ok (nI r) h ∧ f_Course_holdBits_37 (nI r) h = hbI_37 (vC 38 h) r 3 := by
  unfold f_Course_holdBits_37_ok f_Course_holdBits_37 f_Course_holdBits_37_a4 f_Course_holdBits_37_k37
  obtain ⟨F, eF, -⟩ := zF_ex
  rw [← eF]
  have key := zlpF eF (b := fun s => f_Course_holdBits_37_l4_b (nI r) s.1 s.2 h) (o := fun s => f_Course_holdBits_37_l4_b_ok (nI r) s.1 s.2 h) 3 (by omega)
    (fun k s => s = (hbI_37 (vC 38 h) r k, nI k)) (fun q => q.2.1 = hbI_37 (vC 38 h) r 3) (0, 0) rfl
    (by
      rintro k s hk rfl
      obtain ⟨c1, c2, -, -⟩ := ho_37 (h := h) (show 3 * r + k < 30 by omega)
      dsimp only
      unfold f_Course_holdBits_37_l4_b f_Course_holdBits_37_l4_b_ok
      rw [if_neg (g3 hk), x3, c2]
      refine ⟨⟨fun z => absurd z (g3 hk), fun _ => c1⟩, Or.inl ⟨rfl, ?_⟩⟩
      dsimp only
      rw [hbI_37, ← nI_succ]
      by_cases c : hld (vC 38 h) (3 * r + k)
      · simp only [if_pos c, if_neg (show ¬ (1 : Int32) = 0 by decide)]
      · simp only [if_neg c, if_true])
    (by
      rintro s rfl
      dsimp only
      unfold f_Course_holdBits_37_l4_b f_Course_holdBits_37_l4_b_ok
      rw [if_pos (by decide)]
      exact ⟨⟨fun _ => trivial, fun z => absurd (by decide : (3 : Int32) ≤ nI 3) z⟩, by simp, rfl⟩)
  exact ⟨⟨key.1, trivial⟩, key.2⟩
theorem hb0_37 (S : Nat → Nat → Int32) (r : Nat) : hbI_37 S r 3 = 0 ↔ ¬ (hld S (3 * r + 0) ∨ hld S (3 * r + 1) ∨ hld S (3 * r + 2)) := by
  show (((0 : Int32) ||| (if hld S (3 * r + 0) then 1 <<< (nI 0 &&& 31) else 0)) ||| (if hld S (3 * r + 1) then 1 <<< (nI 1 &&& 31) else 0)) ||| (if hld S (3 * r + 2) then 1 <<< (nI 2 &&& 31) else 0) = 0 ↔ _
  constructor
  · intro z y
    by_cases a : hld S (3 * r + 0) <;> by_cases b : hld S (3 * r + 1) <;> by_cases c : hld S (3 * r + 2) <;> (first | rw [if_pos a] at z | rw [if_neg a] at z) <;> (first | rw [if_pos b] at z | rw [if_neg b] at z) <;> (first | rw [if_pos c] at z | rw [if_neg c] at z) <;> first | exact absurd z (by decide) | (exfalso; rcases y with y | y | y <;> contradiction)
  · intro y
    rw [if_neg (fun z => y (Or.inl z)), if_neg (fun z => y (Or.inr (Or.inl z))), if_neg (fun z => y (Or.inr (Or.inr z)))]
    decide
theorem chs_37 {nr g w : Nat} {h : zm_H} (R : I_rf w nr h) (V : vOK nr g (vC 38 h)) {sea : Int32} (hs : rdOK sea) {t : Nat} (ht : t < 480) : f_Course_strainChains_37_ok (nI t) sea h ∧ zWr [38, 39, 44, 45, 46] [] h (f_Course_strainChains_37 (nI t) sea h) ∧ vC 38 (f_Course_strainChains_37 (nI t) sea h) = fld (chn (h.2.1 112) sea (nI t)) nr (vC 38 h) := by
  have hnr := R.1.1
  have hz := szOK_of R
  have a24 := R.2.1.1
  have e23 := R.1.2.1
  have hw := sea_w hs
  unfold f_Course_strainChains_37_ok f_Course_strainChains_37 f_Course_strainChains_37_a2 f_Course_strainChains_37_k109
  obtain ⟨F, eF, -⟩ := zF_ex
  rw [← eF]
  have key := zlp_k eF (b := fun s => f_Course_strainChains_37_l2_b (nI t) sea s.1 s.2) (o := fun s => f_Course_strainChains_37_l2_b_ok (nI t) sea s.1 s.2) nr (by omega) 0
    (fun j q => zWr [38, 39, 44, 45, 46] [] h q ∧ vC 38 q = fld (chn (h.2.1 112) sea (nI t)) j (vC 38 h)) h ⟨zWr.refl _ _, by simp only [fld]⟩
    (by
      rintro j q hj ⟨p1, p2⟩
      rw [Nat.zero_add]
      have hj10 : j < 10 := by omega
      have i10 : vp_in (nI j) 10 := vp_in_nI hj10 (by omega)
      have f23 : zf q 23 0 = nI nr := (p1.fld 23 0 (by decide) (by decide)).trans e23
      have g0 : ¬ (zf q 23 0 ≤ nI j) := by rw [f23, nx_le (by omega) (by omega)]; omega
      have b24 : zr q 24 (nI j) = h.2.1 112 j := by rw [zr_n q 24 (by omega), zf, p1.arr 24 (by decide) (by decide), a24]
      have a0 : zr q 38 (nI j) = vC 38 q 0 j := by rw [zr_n q 38 (by omega), vC_at (b := 38) (i := 0) (by omega) (show j < zsz 0 from hj10)]
      have eS : fld (chn (h.2.1 112) sea (nI t)) (j + 1) (vC 38 h) = chn (h.2.1 112) sea (nI t) j (vC 38 q) := by rw [fld, p2]
      obtain ⟨load, el⟩ : ∃ load, load = sea / 1000 * (h.2.1 112 j + 5) := ⟨_, rfl⟩
      obtain ⟨way, ew⟩ : ∃ way, way = zm_rm sea 10 - 1 := ⟨_, rfl⟩
      rw [← ew] at hw
      obtain ⟨s1, s2, s3⟩ := shl_37 (h := q) (load := load) hw hj10
      dsimp only
      unfold f_Course_strainChains_37_l2_b f_Course_strainChains_37_l2_b_ok
      rw [if_neg g0, a0, b24, ← el, ← ew, eS]
      by_cases c : vC 38 q 0 j = 1
      · rw [if_pos c]
        generalize f_Course_shareLoad_37 (nI j) load way q = q1 at s2 s3
        have ev1 : vC 38 q1 = vC 38 q := vC_eq (fun i hi => s2.arr (38 + i) (by simp; omega) (by simp))
        unfold f_Course_strainChains_37_l2_k48 f_Course_strainChains_37_l2_k48_ok f_Course_strainChains_37_l2_a51 f_Course_strainChains_37_l2_a51_ok f_Course_strainChains_37_l2_k81 f_Course_strainChains_37_l2_k81_ok
        have key2 := zlp_k rfl (b := fun s => f_Course_strainChains_37_l2_l51_b (nI t) sea (nI j) s.1 s.2) (o := fun s => f_Course_strainChains_37_l2_l51_b_ok (nI t) sea (nI j) s.1 s.2) 3 (by omega) 0
          (fun k x => zWr [44, 45] [] q1 x ∧ vC 38 x = st3 (vC 38 q) j load way (nI t) k) q1 ⟨zWr.refl _ _, ev1⟩
          (by
            rintro k x hk ⟨y1, y2⟩
            rw [Nat.zero_add]
            have b46 : zr x 46 (nI k) = bor (vC 38 q) j load way k := by rw [zr_n x 46 (by omega), zf, y1.arr 46 (by decide) (by decide)]; exact s3 k hk
            obtain ⟨u1, u2, u3⟩ := str_37 (h := x) (show 3 * j + k < 30 by omega) (bor (vC 38 q) j load way k) (nI t)
            dsimp only
            unfold f_Course_strainChains_37_l2_l51_b f_Course_strainChains_37_l2_l51_b_ok f_Course_strainChains_37_l2_l51_k75
            rw [if_neg (g3 hk), x3, b46, ← nI_succ]
            exact ⟨⟨fun z => absurd z (g3 hk), fun _ => ⟨vp_in_nI hk (by omega), u1⟩⟩, _, rfl, zWr_tr u2 (by decide) (by decide) y1, by rw [u3, y2, st3]⟩)
          (by
            rintro x ⟨y1, y2⟩
            rw [Nat.zero_add]
            dsimp only
            unfold f_Course_strainChains_37_l2_l51_b f_Course_strainChains_37_l2_l51_b_ok
            rw [if_pos (by decide)]
            exact ⟨⟨fun _ => trivial, fun z => absurd (by decide : (3 : Int32) ≤ nI 3) z⟩, rfl⟩)
        rw [Nat.zero_add] at key2
        obtain ⟨m1, q2, m2, m3, m4⟩ := key2
        have m2 : f_Course_strainChains_37_l2_l51 (nI t) sea (nI j) zF (0, q1) = (1, nI 3, q2) := m2
        rw [m2]
        dsimp only
        obtain ⟨n1, n2⟩ := hb_37 (h := q2) hj10
        rw [m4] at n2
        have w2 : zWr [38, 39, 44, 45, 46] [] h q2 := zWr_tr m3 (by decide) (by decide) (zWr_tr s2 (by decide) (by decide) p1)
        refine ⟨⟨fun z => absurd z g0, fun _ => ⟨i10, fun _ => ⟨i10, s1, m1, n1, fun _ => ⟨i10, i10⟩, fun _ => trivial⟩, fun z => absurd c z⟩⟩, ?_⟩
        unfold chn
        rw [if_pos c, ← el, ← ew, n2, ← nI_succ]
        by_cases y : hld (st3 (vC 38 q) j load way (nI t) 3) (3 * j + 0) ∨ hld (st3 (vC 38 q) j load way (nI t) 3) (3 * j + 1) ∨ hld (st3 (vC 38 q) j load way (nI t) 3) (3 * j + 2)
        · rw [if_pos y, if_neg (fun z => (hb0_37 _ _).mp z y)]
          exact ⟨_, rfl, w2, m4⟩
        · rw [if_neg y, if_pos ((hb0_37 _ _).mpr y), zs_n _ 39 _ (by omega), zs_n _ 38 _ (by omega)]
          refine ⟨_, rfl, zWr_si (by decide) (zWr_si (by decide) w2), ?_⟩
          rw [vC_u (b := 38) (i := 1) (j := 39) rfl (by omega) (show j < zsz 1 from hj10), vC_u (b := 38) (i := 0) (j := 38) rfl (by omega) (show j < zsz 0 from hj10), m4]
      · rw [if_neg c]
        unfold f_Course_strainChains_37_l2_k103
        refine ⟨⟨fun z => absurd z g0, fun _ => ⟨i10, fun z => absurd z c, fun _ => trivial⟩⟩, q, by rw [← nI_succ], p1, ?_⟩
        unfold chn
        rw [if_neg c])
    (by
      rintro q ⟨p1, p2⟩
      rw [Nat.zero_add]
      have f23 : zf q 23 0 = nI nr := (p1.fld 23 0 (by decide) (by decide)).trans e23
      have g0 : zf q 23 0 ≤ nI nr := by rw [f23]; exact i_le_r _
      dsimp only
      unfold f_Course_strainChains_37_l2_b f_Course_strainChains_37_l2_b_ok
      rw [if_pos g0]
      exact ⟨⟨fun _ => trivial, fun z => absurd g0 z⟩, rfl⟩)
  rw [Nat.zero_add] at key
  obtain ⟨k1, h3, k2, k3, k4⟩ := key
  have k2 : f_Course_strainChains_37_l2 (nI t) sea F (0, h) = (1, nI nr, h3) := k2
  rw [k2]
  exact ⟨⟨k1, trivial⟩, k3, k4⟩
/-! ===== CHAINS, the class: course 50 ===== -/
theorem wei_50 {h : zm_H} {way : Int32} (hw : isW way) {r c : Nat} (hr : r < 10) (hc : c < 3) : f_Course_weight_50_ok (nI r) (nI c) way h ∧ f_Course_weight_50 (nI r) (nI c) way h = wtc (vC 51 h) r way c := by
  obtain ⟨c1, c2, -, -⟩ := ho_50 (h := h) (show 3 * r + c < 30 by omega)
  unfold f_Course_weight_50_ok f_Course_weight_50 wtc wtv
  rw [x3, c2]
  refine ⟨⟨c1, fun _ => trivial, fun _ => wtv_in hw hc⟩, ?_⟩
  by_cases z : hld (vC 51 h) (3 * r + c)
  · rw [if_pos z, if_pos z, if_neg (by decide)]
  · rw [if_neg z, if_neg z, if_pos rfl]
theorem shl_50 {h : zm_H} {way load : Int32} (hw : isW way) {r : Nat} (hr : r < 10) : f_Course_shareLoad_50_ok (nI r) load way h ∧ zWr [59] [] h (f_Course_shareLoad_50 (nI r) load way h) ∧ ∀ k, k < 3 → (f_Course_shareLoad_50 (nI r) load way h).2.1 59 k = bor (vC 51 h) r load way k := by
  unfold f_Course_shareLoad_50_ok f_Course_shareLoad_50 f_Course_shareLoad_50_a6 f_Course_shareLoad_50_a6_ok f_Course_shareLoad_50_k31 f_Course_shareLoad_50_k31_ok f_Course_shareLoad_50_a34 f_Course_shareLoad_50_k75
  obtain ⟨F, eF, -⟩ := zF_ex
  rw [← eF]
  have key := zlpF eF (b := fun s => f_Course_shareLoad_50_l6_b (nI r) load way s.1 s.2 h) (o := fun s => f_Course_shareLoad_50_l6_b_ok (nI r) load way s.1 s.2 h) 3 (by omega)
    (fun k s => s = (alw (vC 51 h) r way k, nI k)) (fun q => q.2.1 = alw (vC 51 h) r way 3) (0, 0) rfl
    (by
      rintro k s hk rfl
      obtain ⟨c1, c2⟩ := wei_50 (h := h) hw hr hk
      dsimp only
      unfold f_Course_shareLoad_50_l6_b f_Course_shareLoad_50_l6_b_ok
      rw [if_neg (g3 hk), c2]
      exact ⟨⟨fun z => absurd z (g3 hk), fun _ => c1⟩, Or.inl ⟨rfl, by rw [alw, ← nI_succ]⟩⟩)
    (by
      rintro s rfl
      dsimp only
      unfold f_Course_shareLoad_50_l6_b f_Course_shareLoad_50_l6_b_ok
      rw [if_pos (by decide)]
      exact ⟨⟨fun _ => trivial, fun z => absurd (by decide : (3 : Int32) ≤ nI 3) z⟩, by simp, rfl⟩)
  obtain ⟨k1, k2⟩ := key
  have k1 : f_Course_shareLoad_50_l6_ok (nI r) load way h F (0, 0) := k1
  have k2 : (f_Course_shareLoad_50_l6 (nI r) load way h F (0, 0)).2.1 = alw (vC 51 h) r way 3 := k2
  rw [k2]
  obtain ⟨m1, h1, m2, m3, m4⟩ := zfill eF (b := fun s => f_Course_shareLoad_50_l34_b (nI r) load way (alw (vC 51 h) r way 3) s.1 s.2) (o := fun s => f_Course_shareLoad_50_l34_b_ok (nI r) load way (alw (vC 51 h) r way 3) s.1 s.2) 59 3 (by omega) (bor (vC 51 h) r load way) h
    (fun k q hk wq => by
      obtain ⟨c1, c2⟩ := wei_50 (h := q) hw hr hk
      have ev : vC 51 q = vC 51 h := vC_eq (fun i hi => wq.arr (51 + i) (by simp; omega) (by simp))
      rw [ev] at c2
      dsimp only
      unfold f_Course_shareLoad_50_l34_b f_Course_shareLoad_50_l34_b_ok
      rw [if_neg (g3 hk), c2, zs_n _ 59 _ (by omega), ← nI_succ]
      exact ⟨⟨fun z => absurd z (g3 hk), fun _ => ⟨⟨fun _ => trivial, fun z => ⟨c1, z⟩⟩, vp_in_nI hk (by omega)⟩⟩, rfl⟩)
    (fun q _ => ⟨⟨fun _ => trivial, fun z => absurd (by decide : (3 : Int32) ≤ nI 3) z⟩, by
      dsimp only
      unfold f_Course_shareLoad_50_l34_b
      rw [if_pos (by decide)]⟩)
  have m2 : f_Course_shareLoad_50_l34 (nI r) load way (alw (vC 51 h) r way 3) F (0, h) = (1, nI 3, h1) := m2
  rw [m2]
  exact ⟨⟨k1, m1, trivial⟩, m3, fun k hk => by rw [m4 k, if_pos hk]⟩
theorem str_50 {h : zm_H} {i : Nat} (hi : i < 30) (load t : Int32) : f_Course_strain_50_ok (nI i) load t h ∧ zWr [57, 58] [] h (f_Course_strain_50 (nI i) load t h) ∧ vC 51 (f_Course_strain_50 (nI i) load t h) = stn (vC 51 h) i load t := by
  obtain ⟨c1, c2, c3, c4⟩ := ho_50 (h := h) hi
  have ii : vp_in (nI i) 30 := vp_in_nI hi (by omega)
  have z6 : zsz 6 = 30 := rfl
  have z7 : zsz 7 = 30 := rfl
  have e44 : zr h 57 (nI i) = vC 51 h 6 i := by rw [zr_n h 57 (by omega), vC_at (b := 51) (i := 6) (by omega) (by omega)]
  unfold f_Course_strain_50_ok f_Course_strain_50 stn
  rw [c2, c4, e44, zs_n _ 57 _ (by omega), zs_n _ 58 _ (by omega)]
  refine ⟨⟨c1, fun _ => trivial, fun _ => ⟨c3, fun _ => ⟨ii, ii⟩, fun _ => ii⟩⟩, ?_⟩
  by_cases z : hld (vC 51 h) i
  · rw [if_pos z, if_pos z, if_neg (by decide)]
    by_cases y : load ≤ hd (vC 51 h) i
    · rw [if_pos y, if_pos y]
      exact ⟨zWr_si (by decide) (zWr.refl _ _), vC_u (b := 51) (i := 6) (j := 57) rfl (by omega) (by omega)⟩
    · rw [if_neg y, if_neg y]
      exact ⟨zWr_si (by decide) (zWr.refl _ _), vC_u (b := 51) (i := 7) (j := 58) rfl (by omega) (by omega)⟩
  · rw [if_neg z, if_neg z, if_pos rfl]
    exact ⟨zWr.refl _ _, rfl⟩
def hbI_50 (S : Nat → Nat → Int32) (r : Nat) : Nat → Int32
  | 0 => 0
  | k + 1 => hbI_50 S r k ||| (if hld S (3 * r + k) then 1 <<< (nI k &&& 31) else 0)
theorem hb_50 {h : zm_H} {r : Nat} (hr : r < 10) : f_Course_holdBits_50_ok (nI r) h ∧ f_Course_holdBits_50 (nI r) h = hbI_50 (vC 51 h) r 3 := by
  unfold f_Course_holdBits_50_ok f_Course_holdBits_50 f_Course_holdBits_50_a4 f_Course_holdBits_50_k37
  obtain ⟨F, eF, -⟩ := zF_ex
  rw [← eF]
  have key := zlpF eF (b := fun s => f_Course_holdBits_50_l4_b (nI r) s.1 s.2 h) (o := fun s => f_Course_holdBits_50_l4_b_ok (nI r) s.1 s.2 h) 3 (by omega)
    (fun k s => s = (hbI_50 (vC 51 h) r k, nI k)) (fun q => q.2.1 = hbI_50 (vC 51 h) r 3) (0, 0) rfl
    (by
      rintro k s hk rfl
      obtain ⟨c1, c2, -, -⟩ := ho_50 (h := h) (show 3 * r + k < 30 by omega)
      dsimp only
      unfold f_Course_holdBits_50_l4_b f_Course_holdBits_50_l4_b_ok
      rw [if_neg (g3 hk), x3, c2]
      refine ⟨⟨fun z => absurd z (g3 hk), fun _ => c1⟩, Or.inl ⟨rfl, ?_⟩⟩
      dsimp only
      rw [hbI_50, ← nI_succ]
      by_cases c : hld (vC 51 h) (3 * r + k)
      · simp only [if_pos c, if_neg (show ¬ (1 : Int32) = 0 by decide)]
      · simp only [if_neg c, if_true])
    (by
      rintro s rfl
      dsimp only
      unfold f_Course_holdBits_50_l4_b f_Course_holdBits_50_l4_b_ok
      rw [if_pos (by decide)]
      exact ⟨⟨fun _ => trivial, fun z => absurd (by decide : (3 : Int32) ≤ nI 3) z⟩, by simp, rfl⟩)
  exact ⟨⟨key.1, trivial⟩, key.2⟩
theorem hb0_50 (S : Nat → Nat → Int32) (r : Nat) : hbI_50 S r 3 = 0 ↔ ¬ (hld S (3 * r + 0) ∨ hld S (3 * r + 1) ∨ hld S (3 * r + 2)) := by
  show (((0 : Int32) ||| (if hld S (3 * r + 0) then 1 <<< (nI 0 &&& 31) else 0)) ||| (if hld S (3 * r + 1) then 1 <<< (nI 1 &&& 31) else 0)) ||| (if hld S (3 * r + 2) then 1 <<< (nI 2 &&& 31) else 0) = 0 ↔ _
  constructor
  · intro z y
    by_cases a : hld S (3 * r + 0) <;> by_cases b : hld S (3 * r + 1) <;> by_cases c : hld S (3 * r + 2) <;> (first | rw [if_pos a] at z | rw [if_neg a] at z) <;> (first | rw [if_pos b] at z | rw [if_neg b] at z) <;> (first | rw [if_pos c] at z | rw [if_neg c] at z) <;> first | exact absurd z (by decide) | (exfalso; rcases y with y | y | y <;> contradiction)
  · intro y
    rw [if_neg (fun z => y (Or.inl z)), if_neg (fun z => y (Or.inr (Or.inl z))), if_neg (fun z => y (Or.inr (Or.inr z)))]
    decide
theorem chs_50 {nr g w : Nat} {h : zm_H} (R : I_rf w nr h) (V : vOK nr g (vC 51 h)) {sea : Int32} (hs : rdOK sea) {t : Nat} (ht : t < 480) : f_Course_strainChains_50_ok (nI t) sea h ∧ zWr [51, 52, 57, 58, 59] [] h (f_Course_strainChains_50 (nI t) sea h) ∧ vC 51 (f_Course_strainChains_50 (nI t) sea h) = fld (chn (h.2.1 112) sea (nI t)) nr (vC 51 h) := by
  have hnr := R.1.1
  have hz := szOK_of R
  have a24 := R.2.1.1
  have e23 := R.1.2.1
  have hw := sea_w hs
  unfold f_Course_strainChains_50_ok f_Course_strainChains_50 f_Course_strainChains_50_a2 f_Course_strainChains_50_k109
  obtain ⟨F, eF, -⟩ := zF_ex
  rw [← eF]
  have key := zlp_k eF (b := fun s => f_Course_strainChains_50_l2_b (nI t) sea s.1 s.2) (o := fun s => f_Course_strainChains_50_l2_b_ok (nI t) sea s.1 s.2) nr (by omega) 0
    (fun j q => zWr [51, 52, 57, 58, 59] [] h q ∧ vC 51 q = fld (chn (h.2.1 112) sea (nI t)) j (vC 51 h)) h ⟨zWr.refl _ _, by simp only [fld]⟩
    (by
      rintro j q hj ⟨p1, p2⟩
      rw [Nat.zero_add]
      have hj10 : j < 10 := by omega
      have i10 : vp_in (nI j) 10 := vp_in_nI hj10 (by omega)
      have f23 : zf q 23 0 = nI nr := (p1.fld 23 0 (by decide) (by decide)).trans e23
      have g0 : ¬ (zf q 23 0 ≤ nI j) := by rw [f23, nx_le (by omega) (by omega)]; omega
      have b24 : zr q 24 (nI j) = h.2.1 112 j := by rw [zr_n q 24 (by omega), zf, p1.arr 24 (by decide) (by decide), a24]
      have a0 : zr q 51 (nI j) = vC 51 q 0 j := by rw [zr_n q 51 (by omega), vC_at (b := 51) (i := 0) (by omega) (show j < zsz 0 from hj10)]
      have eS : fld (chn (h.2.1 112) sea (nI t)) (j + 1) (vC 51 h) = chn (h.2.1 112) sea (nI t) j (vC 51 q) := by rw [fld, p2]
      obtain ⟨load, el⟩ : ∃ load, load = sea / 1000 * (h.2.1 112 j + 5) := ⟨_, rfl⟩
      obtain ⟨way, ew⟩ : ∃ way, way = zm_rm sea 10 - 1 := ⟨_, rfl⟩
      rw [← ew] at hw
      obtain ⟨s1, s2, s3⟩ := shl_50 (h := q) (load := load) hw hj10
      dsimp only
      unfold f_Course_strainChains_50_l2_b f_Course_strainChains_50_l2_b_ok
      rw [if_neg g0, a0, b24, ← el, ← ew, eS]
      by_cases c : vC 51 q 0 j = 1
      · rw [if_pos c]
        generalize f_Course_shareLoad_50 (nI j) load way q = q1 at s2 s3
        have ev1 : vC 51 q1 = vC 51 q := vC_eq (fun i hi => s2.arr (51 + i) (by simp; omega) (by simp))
        unfold f_Course_strainChains_50_l2_k48 f_Course_strainChains_50_l2_k48_ok f_Course_strainChains_50_l2_a51 f_Course_strainChains_50_l2_a51_ok f_Course_strainChains_50_l2_k81 f_Course_strainChains_50_l2_k81_ok
        have key2 := zlp_k rfl (b := fun s => f_Course_strainChains_50_l2_l51_b (nI t) sea (nI j) s.1 s.2) (o := fun s => f_Course_strainChains_50_l2_l51_b_ok (nI t) sea (nI j) s.1 s.2) 3 (by omega) 0
          (fun k x => zWr [57, 58] [] q1 x ∧ vC 51 x = st3 (vC 51 q) j load way (nI t) k) q1 ⟨zWr.refl _ _, ev1⟩
          (by
            rintro k x hk ⟨y1, y2⟩
            rw [Nat.zero_add]
            have b46 : zr x 59 (nI k) = bor (vC 51 q) j load way k := by rw [zr_n x 59 (by omega), zf, y1.arr 59 (by decide) (by decide)]; exact s3 k hk
            obtain ⟨u1, u2, u3⟩ := str_50 (h := x) (show 3 * j + k < 30 by omega) (bor (vC 51 q) j load way k) (nI t)
            dsimp only
            unfold f_Course_strainChains_50_l2_l51_b f_Course_strainChains_50_l2_l51_b_ok f_Course_strainChains_50_l2_l51_k75
            rw [if_neg (g3 hk), x3, b46, ← nI_succ]
            exact ⟨⟨fun z => absurd z (g3 hk), fun _ => ⟨vp_in_nI hk (by omega), u1⟩⟩, _, rfl, zWr_tr u2 (by decide) (by decide) y1, by rw [u3, y2, st3]⟩)
          (by
            rintro x ⟨y1, y2⟩
            rw [Nat.zero_add]
            dsimp only
            unfold f_Course_strainChains_50_l2_l51_b f_Course_strainChains_50_l2_l51_b_ok
            rw [if_pos (by decide)]
            exact ⟨⟨fun _ => trivial, fun z => absurd (by decide : (3 : Int32) ≤ nI 3) z⟩, rfl⟩)
        rw [Nat.zero_add] at key2
        obtain ⟨m1, q2, m2, m3, m4⟩ := key2
        have m2 : f_Course_strainChains_50_l2_l51 (nI t) sea (nI j) zF (0, q1) = (1, nI 3, q2) := m2
        rw [m2]
        dsimp only
        obtain ⟨n1, n2⟩ := hb_50 (h := q2) hj10
        rw [m4] at n2
        have w2 : zWr [51, 52, 57, 58, 59] [] h q2 := zWr_tr m3 (by decide) (by decide) (zWr_tr s2 (by decide) (by decide) p1)
        refine ⟨⟨fun z => absurd z g0, fun _ => ⟨i10, fun _ => ⟨i10, s1, m1, n1, fun _ => ⟨i10, i10⟩, fun _ => trivial⟩, fun z => absurd c z⟩⟩, ?_⟩
        unfold chn
        rw [if_pos c, ← el, ← ew, n2, ← nI_succ]
        by_cases y : hld (st3 (vC 51 q) j load way (nI t) 3) (3 * j + 0) ∨ hld (st3 (vC 51 q) j load way (nI t) 3) (3 * j + 1) ∨ hld (st3 (vC 51 q) j load way (nI t) 3) (3 * j + 2)
        · rw [if_pos y, if_neg (fun z => (hb0_50 _ _).mp z y)]
          exact ⟨_, rfl, w2, m4⟩
        · rw [if_neg y, if_pos ((hb0_50 _ _).mpr y), zs_n _ 52 _ (by omega), zs_n _ 51 _ (by omega)]
          refine ⟨_, rfl, zWr_si (by decide) (zWr_si (by decide) w2), ?_⟩
          rw [vC_u (b := 51) (i := 1) (j := 52) rfl (by omega) (show j < zsz 1 from hj10), vC_u (b := 51) (i := 0) (j := 51) rfl (by omega) (show j < zsz 0 from hj10), m4]
      · rw [if_neg c]
        unfold f_Course_strainChains_50_l2_k103
        refine ⟨⟨fun z => absurd z g0, fun _ => ⟨i10, fun z => absurd z c, fun _ => trivial⟩⟩, q, by rw [← nI_succ], p1, ?_⟩
        unfold chn
        rw [if_neg c])
    (by
      rintro q ⟨p1, p2⟩
      rw [Nat.zero_add]
      have f23 : zf q 23 0 = nI nr := (p1.fld 23 0 (by decide) (by decide)).trans e23
      have g0 : zf q 23 0 ≤ nI nr := by rw [f23]; exact i_le_r _
      dsimp only
      unfold f_Course_strainChains_50_l2_b f_Course_strainChains_50_l2_b_ok
      rw [if_pos g0]
      exact ⟨⟨fun _ => trivial, fun z => absurd g0 z⟩, rfl⟩)
  rw [Nat.zero_add] at key
  obtain ⟨k1, h3, k2, k3, k4⟩ := key
  have k2 : f_Course_strainChains_50_l2 (nI t) sea F (0, h) = (1, nI nr, h3) := k2
  rw [k2]
  exact ⟨⟨k1, trivial⟩, k3, k4⟩
