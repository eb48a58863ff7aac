/-! ===== the HARBOUR: views of both ===== -/
def uN (h : zm_H) : Nat → Nat → Int32 := fun i k => if i < 8 then h.2.1 (64 + i) k else 0
def uMi (i : Nat) : Nat := if i = 0 then 137 else if i = 1 then 138 else if i = 2 then 142 else if i = 3 then 140 else if i = 4 then 141 else if i = 5 then 143 else if i = 6 then 144 else 145
def uM (h : zm_H) : Nat → Nat → Int32 := fun i k => if i < 8 then (if i = 2 ∧ h.2.1 139 k = 0 ∧ k < 3 then -1 else h.2.1 (uMi i) k) else 0
theorem uMi_m (i : Nat) : uMi i ∈ [137, 138, 140, 141, 142, 143, 144, 145] := by
  unfold uMi
  (repeat' split) <;> simp
theorem uMi_9 (i : Nat) : ¬ uMi i = 139 := fun z => absurd (z ▸ uMi_m i) (by decide)
def mB (h : zm_H) : Prop := ∀ b, b < 3 → ¬ h.2.1 139 b = 0 → ¬ h.2.1 142 b = -1
theorem uN_eq {h h' : zm_H} (e : ∀ i, i < 8 → h'.2.1 (64 + i) = h.2.1 (64 + i)) : uN h' = uN h := by
  funext i k
  unfold uN
  by_cases c : i < 8
  · rw [if_pos c, if_pos c, e i c]
  · rw [if_neg c, if_neg c]
theorem uN_u {h : zm_H} {i j k : Nat} {v : Int32} (hj : j = 64 + i) (hi : i < 8) : uN (zm_si h j k v) = zm_u (uN h) i k v := by
  subst hj
  funext a b
  unfold uN zm_u
  rw [za_si]
  by_cases c : a = i
  · subst c
    rw [if_pos hi, if_pos rfl, if_pos rfl]
    unfold upd
    by_cases d : b = k
    · rw [if_pos d, if_pos d]
    · rw [if_neg d, if_neg d]; dsimp only; rw [if_pos hi]
  · rw [if_neg (show ¬ (64 + a = 64 + i) by omega), if_neg c]
theorem uN_o {h : zm_H} {j k : Nat} {v : Int32} (hj : j < 64 ∨ 71 < j) : uN (zm_si h j k v) = uN h := uN_eq (fun i hi => by rw [za_si, if_neg (by omega)])
theorem uM_eq {h h' : zm_H} (e : ∀ i, i ∈ [137, 138, 139, 140, 141, 142, 143, 144, 145] → h'.2.1 i = h.2.1 i) : uM h' = uM h := by
  funext i k
  unfold uM
  rw [e 139 (by simp), e (uMi i) (by have := uMi_m i; simp at this ⊢; omega)]
theorem mB_eq {h h' : zm_H} (e : ∀ i, i ∈ [139, 142] → h'.2.1 i = h.2.1 i) (H : mB h) : mB h' := fun b hb => by rw [e 139 (by simp), e 142 (by simp)]; exact H b hb
theorem uM_o {h : zm_H} {j k : Nat} {v : Int32} (hj : j < 137 ∨ 145 < j) : uM (zm_si h j k v) = uM h := uM_eq (fun i hi => by rw [za_si, if_neg (by simp at hi; omega)])
theorem uM_u {h : zm_H} {i j k : Nat} {v : Int32} (hj : j = uMi i) (hi : i < 8) (h2 : ¬ i = 2) : uM (zm_si h j k v) = zm_u (uM h) i k v := by
  subst hj
  have h9 : ¬ (139 = uMi i) := fun z => uMi_9 i z.symm
  funext a b
  unfold uM zm_u
  rw [za_si, za_si, if_neg h9]
  by_cases c : a = i
  · subst c
    rw [if_pos hi, if_pos rfl, if_pos rfl, if_neg (fun z => h2 z.1)]
    unfold upd
    by_cases d : b = k
    · rw [if_pos d, if_pos d]
    · rw [if_neg d, if_neg d]; dsimp only; rw [if_pos hi, if_neg (fun z => h2 z.1)]
  · rw [if_neg c]
    by_cases a8 : a < 8
    · have : ¬ uMi a = uMi i := by
        intro z
        apply c
        unfold uMi at z
        rcases (show a = 0 ∨ a = 1 ∨ a = 2 ∨ a = 3 ∨ a = 4 ∨ a = 5 ∨ a = 6 ∨ a = 7 by omega) with h | h | h | h | h | h | h | h <;> subst h <;> rcases (show i = 0 ∨ i = 1 ∨ i = 2 ∨ i = 3 ∨ i = 4 ∨ i = 5 ∨ i = 6 ∨ i = 7 by omega) with h | h | h | h | h | h | h | h <;> subst h <;> first | rfl | (revert z; decide)
      rw [if_neg this]
    · rw [if_neg a8]; dsimp only; rw [if_neg a8]
theorem uM_in {h : zm_H} {k : Nat} (hk : k < 3) : uM (zm_si h 139 k 0) = zm_u (uM h) 2 k (-1) := by
  funext a b
  unfold uM zm_u
  rw [za_si, za_si, if_pos rfl]
  unfold upd
  have h9 : ¬ (uMi a = 139) := uMi_9 a
  rw [if_neg h9]
  by_cases c : a = 2
  · subst c
    rw [if_pos rfl]
    by_cases d : b = k
    · subst d; simp [hk]
    · rw [if_neg d, if_neg d]
  · simp [c]
theorem mB_in {h : zm_H} {k : Nat} (H : mB h) : mB (zm_si h 139 k 0) := by
  intro b hb
  rw [za_si, za_si, if_pos rfl, if_neg (by decide)]
  unfold upd
  by_cases c : b = k
  · rw [if_pos c]; exact fun z => absurd rfl z
  · rw [if_neg c]; exact H b hb
theorem uN_at (h : zm_H) {i : Nat} (hi : i < 8) (k : Nat) : uN h i k = h.2.1 (64 + i) k := by unfold uN; rw [if_pos hi]
theorem uM_at (h : zm_H) {i : Nat} (hi : i < 8) (h2 : ¬ i = 2) (k : Nat) : uM h i k = h.2.1 (uMi i) k := by unfold uM; rw [if_pos hi, if_neg (fun z => h2 z.1)]
theorem uM_2 {h : zm_H} (H : mB h) {b : Nat} (hb : b < 3) : (h.2.1 139 b = 0 ↔ uM h 2 b = -1) := by
  unfold uM
  rw [if_pos (by omega)]
  by_cases c : h.2.1 139 b = 0
  · rw [if_pos ⟨rfl, c, hb⟩]; exact ⟨fun _ => rfl, fun _ => c⟩
  · rw [if_neg (fun z => c z.2.1)]
    exact ⟨fun z => absurd z c, fun z => absurd z (H b hb c)⟩
/-! ===== are BOATS let out: both ===== -/
theorem lbo_N {ns nf : Nat} {h : zm_H} (H : I_rl ns nf h) {sea : Int32} (hs : rdOK sea) {t : Nat} (ht : t < 480) : f_Rules_letsBoatsOut_ok (nI t) sea h ∧ ((f_Rules_letsBoatsOut (nI t) sea h).1 = 0 ↔ Ev nf h 2 (nI t) (nmZ sea (nI t)) = 0) ∧ zWr [21, 22] [(15, 9)] h (f_Rules_letsBoatsOut (nI t) sea h).2 := by
  obtain ⟨n1, n2⟩ := nms_37 h sea (nI t)
  unfold f_Rules_letsBoatsOut_ok f_Rules_letsBoatsOut f_Rules_letsBoatsOut_k20_ok f_Rules_letsBoatsOut_k20 f_Rules_letsBoatsOut_k28_ok f_Rules_letsBoatsOut_k28 f_Rules_letsBoatsOut_k34
  obtain ⟨f1, f2⟩ := fc_N H.1 (c := 2) (by omega) (nI t)
  have f1 : f_Rules_ruling_ok 2 (nI t) h := f1
  have f2 : f_Rules_ruling 2 (nI t) h = (inf (h.2.1 103) (h.2.1 104) (h.2.1 101) 2 (nI t) nf).1 := f2
  generalize f_Rules_nameSea (nI t) sea h = h1 at n1 n2
  obtain ⟨h2, e2⟩ : ∃ h2, h2 = f_Rules_nameRaft 0 0 0 0 h1 := ⟨_, rfl⟩
  rw [← e2]
  have w2 : zWr [21, 22] [(15, 9)] h h2 ∧ ∀ j, j < 9 → h2.2.1 21 j = nmZ sea (nI t) j := by
    rw [e2]
    unfold f_Rules_nameRaft
    rw [show (3 : Int32) = nI 3 from rfl, show (4 : Int32) = nI 4 from rfl, show (5 : Int32) = nI 5 from rfl, show (8 : Int32) = nI 8 from rfl, zs_n _ 21 _ (by omega), zs_n _ 21 _ (by omega), zs_n _ 21 _ (by omega), zs_n _ 21 _ (by omega)]
    refine ⟨zWr_si (by decide) (zWr_si (by decide) (zWr_si (by decide) (zWr_si (by decide) (zWr_tr n1 (by decide) (by decide) (zWr.refl _ _))))), ?_⟩
    obtain ⟨s1, s2, s3, s4, s5⟩ := n2
    intro j hj
    simp only [za_si, if_true, upd]
    unfold nmZ
    rcases (show j = 0 ∨ j = 1 ∨ j = 2 ∨ j = 3 ∨ j = 4 ∨ j = 5 ∨ j = 6 ∨ j = 7 ∨ j = 8 by omega) with z | z | z | z | z | z | z | z | z <;> subst z <;> simp [s1, s2, s3, s4, s5]
  obtain ⟨w2, a2⟩ := w2
  have hw : wfR [21, 22] [(15, 9)] = true := by decide
  have H2 := I_rl_w hw w2 H
  have nmo : nmOK (h2.2.1 21) := nmOK_ext a2 (nmZ_ok hs ht)
  obtain ⟨-, r2⟩ := te_N H2 nmo (c := 2) (by omega) (nI t)
  obtain ⟨-, g2⟩ := fc_N H2.1 (c := 2) (by omega) (nI t)
  have g2 : f_Rules_ruling 2 (nI t) h2 = f_Rules_ruling 2 (nI t) h := by
    rw [f2]
    have g2 : f_Rules_ruling 2 (nI t) h2 = _ := g2
    rw [g2, inf_w hw w2]
  rcases r2 with ⟨q1, q2⟩ | ⟨q1, q2, q3, q4⟩
  · have q1 : f_Rules_ruling 2 (nI t) h2 = -1 := q1
    rw [g2] at q1
    rw [if_pos q1]
    have := q2 (nmZ sea (nI t))
    rw [Ev_w hw w2, if_pos rfl] at this
    rw [this]
    exact ⟨⟨f1, fun _ => trivial, fun z => absurd q1 z⟩, Iff.rfl, zWr.refl _ _⟩
  · have q1 : ¬ f_Rules_ruling 2 (nI t) h2 = -1 := q1
    have q2 : f_Rules_work_ok (f_Rules_ruling 2 (nI t) h2) 2 h2 := q2
    have q3 : (f_Rules_work (f_Rules_ruling 2 (nI t) h2) 2 h2).1 = _ := q3
    have q4 : zWr [22] [(15, 9)] h2 (f_Rules_work (f_Rules_ruling 2 (nI t) h2) 2 h2).2 := q4
    rw [g2] at q1 q2 q3 q4
    rw [Ev_ext H2 (by omega) (nI t) a2, Ev_w hw w2] at q3
    rw [if_neg q1, q3]
    refine ⟨⟨f1, fun z => absurd z q1, fun _ => q2⟩, ?_, zWr_tr q4 (by decide) (by decide) w2⟩
    dsimp only
    by_cases c : Ev nf h 2 (nI t) (nmZ sea (nI t)) = 0
    · rw [if_neg (fun z => z c)]; exact ⟨fun _ => c, fun _ => rfl⟩
    · rw [if_pos c]; exact ⟨fun z => absurd z (by decide), fun z => absurd z c⟩
/-! ===== boats are RECALLED ===== -/
def rc1 (b : Nat) (U : Nat → Nat → Int32) : Nat → Nat → Int32 := if U 2 b = -1 then U else zm_u (zm_u U 7 b (U 7 b + 1)) 2 b (-1)
def rcl (E : Nat → (Nat → Int32) → Int32) (sea t : Int32) (U : Nat → Nat → Int32) : Nat → Nat → Int32 := if E 2 (nmZ sea t) = 0 then fld rc1 3 U else U
theorem bsp_N {ns nf : Nat} {h : zm_H} (H : I_rl ns nf h) {sea : Int32} (hs : rdOK sea) {t : Nat} (ht : t < 480) : f_Harbour_beginSpell_ok (nI t) sea h ∧ zWr [21, 22, 66, 71] [(15, 9)] h (f_Harbour_beginSpell (nI t) sea h) ∧ uN (f_Harbour_beginSpell (nI t) sea h) = rcl (fun c nm => Ev nf h c (nI t) nm) sea (nI t) (uN h) := by
  obtain ⟨a1, a2, a3⟩ := lbo_N H hs ht
  unfold f_Harbour_beginSpell_ok f_Harbour_beginSpell f_Harbour_beginSpell_k9_ok f_Harbour_beginSpell_k9 f_Harbour_beginSpell_a15 f_Harbour_beginSpell_k53 rcl
  generalize f_Rules_letsBoatsOut (nI t) sea h = q at a2 a3
  obtain ⟨v, h1⟩ := q
  dsimp only at a2 a3 ⊢
  have e1 : uN h1 = uN h := uN_eq (fun i hi => a3.arr (64 + i) (by simp; omega) (by simp; omega))
  by_cases c : v = 0
  · rw [if_pos c, if_pos (a2.mp c)]
    obtain ⟨F, eF, -⟩ := zF_ex
    rw [← eF]
    have key := zlp_k eF (b := fun s => f_Harbour_beginSpell_l15_b s.1 s.2) (o := fun s => f_Harbour_beginSpell_l15_b_ok s.1 s.2) 3 (by omega) 0
      (fun j g => zWr [21, 22, 66, 71] [(15, 9)] h g ∧ uN g = fld rc1 j (uN h)) h1 ⟨zWr_tr a3 (by decide) (by decide) (zWr.refl _ _), by simp only [fld]; exact e1⟩
      (by
        rintro j g hj ⟨p1, p2⟩
        rw [Nat.zero_add]
        have ij : vp_in (nI j) 3 := vp_in_nI hj (by omega)
        dsimp only
        unfold f_Harbour_beginSpell_l15_b f_Harbour_beginSpell_l15_b_ok
        have z66 : zr g 66 (nI j) = uN g 2 j := by rw [zr_n g 66 (by omega), uN_at g (by omega)]
        have z71 : zr g 71 (nI j) = uN g 7 j := by rw [zr_n g 71 (by omega), uN_at g (by omega)]
        rw [if_neg (g3 hj), z66, z71, zs_n _ 71 _ (by omega), zs_n _ 66 _ (by omega), ← nI_succ, fld, ← p2]
        unfold rc1
        refine ⟨⟨fun z => absurd z (g3 hj), fun _ => ?_⟩, _, rfl, ?_, ?_⟩
        · simp only [ij, implies_true, and_true, true_and]
        · by_cases d : uN g 2 j = -1
          · rw [if_pos d]; exact p1
          · rw [if_neg d]; exact zWr_si (by decide) (zWr_si (by decide) p1)
        · by_cases d : uN g 2 j = -1
          · rw [if_pos d, if_pos d]
          · rw [if_neg d, if_neg d, uN_u (i := 2) rfl (by omega), uN_u (i := 7) rfl (by omega)])
      (by
        rintro g ⟨p1, p2⟩
        rw [Nat.zero_add]
        dsimp only
        unfold f_Harbour_beginSpell_l15_b f_Harbour_beginSpell_l15_b_ok
        rw [if_pos (by decide)]
        exact ⟨⟨fun _ => trivial, fun z => absurd (by decide : (3 : Int32) ≤ nI 3) z⟩, rfl⟩)
    rw [Nat.zero_add] at key
    obtain ⟨k1, h3, k2, k3, k4⟩ := key
    have k2 : f_Harbour_beginSpell_l15 F (0, h1) = (1, nI 3, h3) := k2
    rw [k2]
    exact ⟨⟨a1, fun _ => ⟨k1, trivial⟩, fun z => absurd c z⟩, k3, k4⟩
  · rw [if_neg c, if_neg (fun z => c (a2.mpr z))]
    exact ⟨⟨a1, fun z => absurd z c, fun _ => trivial⟩, zWr_tr a3 (by decide) (by decide) (zWr.refl _ _), e1⟩
theorem bsp_M {ns nf w : Nat} {h : zm_H} (H : I_rl ns nf h) {sea : Int32} (hs : rdOK sea) {t : Nat} (ht : t < 480) (et : zf h 92 23 = nI t) (hn : ∀ j, j < 9 → h.2.1 149 j = nmZ sea (nI t) j) (B : mB h) : f_M_spell_l24_ok zF (0, h) ∧ ∃ h', f_M_spell_l24 zF (0, h) = (1, nI 3, h') ∧ zWr [139, 145, 150] [] h h' ∧ uM h' = rcl (fun c nm => Ev nf h c (nI t) nm) sea (nI t) (uM h) ∧ mB h' := by
  obtain ⟨F, eF, -⟩ := zF_ex
  rw [← eF]
  have hw : wfR [139, 145, 150] [] = true := by decide
  have key := zlp_k eF (b := fun s => f_M_spell_l24_b s.1 s.2) (o := fun s => f_M_spell_l24_b_ok s.1 s.2) 3 (by omega) 0
    (fun j g => zWr [139, 145, 150] [] h g ∧ uM g = (if Ev nf h 2 (nI t) (nmZ sea (nI t)) = 0 then fld rc1 j (uM h) else uM h) ∧ mB g) h ⟨zWr.refl _ _, by simp only [fld]; split <;> rfl, B⟩
    (by
      rintro j g hj ⟨p1, p2, p3⟩
      rw [Nat.zero_add]
      have ij : vp_in (nI j) 3 := vp_in_nI hj (by omega)
      have z139 : zr g 139 (nI j) = h.2.1 139 j ∨ True := Or.inr trivial
      have iff2 := uM_2 p3 hj
      have z139 : zr g 139 (nI j) = g.2.1 139 j := zr_n g 139 (by omega)
      have eg : zf g 92 23 = nI t := (p1.fld 92 23 (by decide) (by decide)).trans et
      have ng : ∀ j, j < 9 → g.2.1 149 j = nmZ sea (nI t) j := fun j hj => by rw [p1.arr 149 (by decide) (by decide)]; exact hn j hj
      have Hg := I_rl_w hw p1 H
      obtain ⟨t1, t2, t3⟩ := te_M Hg (nmOK_ext ng (nmZ_ok hs ht)) (c := 2) (by omega) (nI t)
      rw [Ev_ext Hg (by omega) (nI t) ng, Ev_w hw p1] at t2
      have t1 : f_M_tells_ok 2 (nI t) g := t1
      have t2 : (f_M_tells 2 (nI t) g).1 = Ev nf h 2 (nI t) (nmZ sea (nI t)) := t2
      have t3 : zWr [150] [] g (f_M_tells 2 (nI t) g).2 := t3
      dsimp only
      unfold f_M_spell_l24_b f_M_spell_l24_b_ok f_M_spell_l24_k47 f_M_spell_l24_k47_ok f_M_spell_l24_k70
      rw [if_neg (g3 hj), eg, t2, z139, ← nI_succ]
      generalize (f_M_tells 2 (nI t) g).2 = g2 at t3
      have ug : uM g2 = uM g := uM_eq (fun i hi => t3.arr i (by simp at hi ⊢; omega) (by simp))
      have bg : mB g2 := mB_eq (fun i hi => t3.arr i (by simp at hi ⊢; omega) (by simp)) p3
      have z145 : zr g2 145 (nI j) = uM g 7 j := by rw [← ug, zr_n g2 145 (by omega), uM_at g2 (i := 7) (by omega) (by omega)]; rfl
      refine ⟨⟨fun z => absurd z (g3 hj), fun _ => ?_⟩, ?_⟩
      · simp only [ij, t1, implies_true, and_true, true_and]
      · by_cases d : g.2.1 139 j = 0
        · rw [if_pos d]
          refine ⟨g, rfl, p1, ?_, p3⟩
          rw [p2]
          by_cases c : Ev nf h 2 (nI t) (nmZ sea (nI t)) = 0
          · rw [if_pos c, if_pos c, fld]
            rw [if_pos c] at p2
            rw [← p2]
            unfold rc1
            rw [if_pos (iff2.mp d)]
          · rw [if_neg c, if_neg c]
        · rw [if_neg d]
          by_cases c : Ev nf h 2 (nI t) (nmZ sea (nI t)) = 0
          · rw [if_pos c, z145, nb0, zs_n _ 139 _ (by omega), zs_n _ 145 _ (by omega)]
            refine ⟨_, rfl, zWr_si (by decide) (zWr_si (by decide) (zWr_tr t3 (by decide) (by decide) p1)), ?_, ?_⟩
            · rw [if_pos c] at p2
              rw [if_pos c, fld, ← p2, uM_u (i := 7) (j := 145) rfl (by omega) (by omega), uM_in hj, ug]
              unfold rc1
              rw [if_neg (fun z => d (iff2.mpr z))]
              funext x y
              unfold zm_u
              by_cases x7 : x = 7 <;> by_cases x2 : x = 2 <;> simp [x7, x2]
              all_goals first | omega | skip
            · exact mB_eq (h := zm_si g2 139 j 0) (fun i hi => by rw [za_si, if_neg (by simp at hi; omega)]) (mB_in bg)
          · rw [if_neg c]
            refine ⟨_, rfl, zWr_tr t3 (by decide) (by decide) p1, ?_, bg⟩
            rw [ug, p2, if_neg c, if_neg c])
    (by
      rintro g ⟨p1, p2⟩
      rw [Nat.zero_add]
      dsimp only
      unfold f_M_spell_l24_b f_M_spell_l24_b_ok
      rw [if_pos (by decide)]
      exact ⟨⟨fun _ => trivial, fun z => absurd (by decide : (3 : Int32) ≤ nI 3) z⟩, rfl⟩)
  rw [Nat.zero_add] at key
  exact key
