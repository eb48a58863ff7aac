/-! ===== a PLAN: the class chooses ===== -/
def rdu (Q : Nat → Nat) (w l : Nat) : Nat → Nat := fun u => if u = w then Q u - l else Q u
def lds (J m job : Nat) (L V Q : Nat → Nat) (x y : Int32) (w : Nat) : Prop := L job ≤ Q w ∧ cmT J m (job + 1) L V (rdu Q w (L job)) x y
theorem wf_N {J m job : Nat} (hJ : J ≤ 6) (hm : m ≤ 40) (hjob : job < J) {L V Q : Nat → Nat} (hL : ∀ j, j < J → L j ≤ 16) (hQ : ∀ w, w < m → Q w < 1000) {h : zm_H} (eJ : zf h 72 2 = nI J) (em : zf h 72 5 = nI m) (e73 : ∀ j, j < J → h.2.1 73 j = nI (L j)) (e77 : ∀ w, w < m → h.2.1 77 w = nI (Q w)) (e78 : ∀ s, s < 2 ^ J → h.2.1 78 s = nI (sm L s.testBit J)) (e79 : ∀ s, s < 2 ^ J → h.2.1 79 s = nI (sm V s.testBit J)) (x y : Int32) : f_Planner_windowFor_ok (nI job) x y h ∧ zWr [77, 80] [] h (f_Planner_windowFor (nI job) x y h).2 ∧ (∀ w, w < m → (f_Planner_windowFor (nI job) x y h).2.2.1 77 w = nI (Q w)) ∧ ∃ a, a ≤ m ∧ (f_Planner_windowFor (nI job) x y h).1 = (if a = m then -1 else nI a) ∧ (a < m → lds J m job L V Q x y a) ∧ ∀ w, w < a → ¬ lds J m job L V Q x y w := by
  unfold f_Planner_windowFor_ok f_Planner_windowFor f_Planner_windowFor_a3 f_Planner_windowFor_k76 f_Planner_windowFor_k85
  obtain ⟨F, eF, -⟩ := zF_ex
  rw [← eF]
  have key := zlpF eF (b := fun t => f_Planner_windowFor_l3_b (nI job) x y t.1 t.2) (o := fun t => f_Planner_windowFor_l3_b_ok (nI job) x y t.1 t.2) m (by omega)
    (fun k t => t.1 = nI k ∧ zWr [77, 80] [] h t.2 ∧ (∀ w, w < m → t.2.2.1 77 w = nI (Q w)) ∧ ∀ w, w < k → ¬ lds J m job L V Q x y w)
    (fun r => zWr [77, 80] [] h r.2.2 ∧ (∀ w, w < m → r.2.2.2.1 77 w = nI (Q w)) ∧ ∃ a, a ≤ m ∧ ((r.1 = 1 ∧ a < m ∧ r.2.1 = nI a ∧ lds J m job L V Q x y a) ∨ (¬ r.1 = 1 ∧ a = m)) ∧ ∀ w, w < a → ¬ lds J m job L V Q x y w) (0, h)
    ⟨rfl, zWr.refl _ _, e77, fun w hw => by omega⟩
    (by
      rintro k ⟨v4, z⟩ hk ⟨q0, q1, q2, q3⟩
      dsimp only at q0 q1 q2 q3
      subst q0
      have zm : zf z 72 5 = nI m := (q1.fld 72 5 (by decide) (by decide)).trans em
      have zJ : zf z 72 2 = nI J := (q1.fld 72 2 (by decide) (by decide)).trans eJ
      have g0 : ¬ (zf z 72 5 ≤ nI k) := by rw [zm, nx_le (by omega) (by omega)]; omega
      have ik : vp_in (nI k) 40 := vp_in_nI (by omega) (by omega)
      have ij : vp_in (nI job) 6 := vp_in_nI (by omega) (by omega)
      have z77 : zr z 77 (nI k) = nI (Q k) := by rw [zr_n z 77 (by omega)]; exact q2 k hk
      have z73 : zr z 73 (nI job) = nI (L job) := by rw [zr_n z 73 (by omega), zf, q1.arr 73 (by decide) (by decide)]; exact e73 job hjob
      have hq := hQ k hk
      have hl := hL job hjob
      have gl : nI (Q k) < nI (L job) ↔ ¬ L job ≤ Q k := by rw [i_lt, i_nI (by omega), i_nI (by omega)]; omega
      show f_Planner_windowFor_l3_b_ok (nI job) x y (nI k) z ∧ _
      unfold f_Planner_windowFor_l3_b f_Planner_windowFor_l3_b_ok f_Planner_windowFor_l3_k79
      dsimp only
      rw [if_neg g0, z77, z73]
      by_cases c : nI (Q k) < nI (L job)
      · rw [if_pos c]
        refine ⟨⟨fun v => absurd v g0, fun _ => ⟨ik, ij, fun _ => trivial, fun v => absurd c v⟩⟩, Or.inl ⟨rfl, (nI_succ k).symm, q1, q2, fun w hw => ?_⟩⟩
        by_cases e : w = k
        · subst e; exact fun v => (gl.mp c) v.1
        · exact q3 w (by omega)
      · have c' : L job ≤ Q k := Decidable.byContradiction (fun v => c (gl.mpr v))
        rw [if_neg c]
        have esub : nI (Q k) - nI (L job) = nI (Q k - L job) := nI_s0 _ _ (by omega)
        rw [esub, zs_n _ _ _ (by omega), show nI job + 1 = nI (job + 1) from (nI_succ _).symm]
        obtain ⟨z1, ez1⟩ : ∃ z1, z1 = zm_si z 77 k (nI (Q k - L job)) := ⟨_, rfl⟩
        rw [← ez1]
        have w1 : zWr [77, 80] [] h z1 := by rw [ez1]; exact zWr_si (by decide) q1
        obtain ⟨d1, d2, d3⟩ := ct_N (V := V) (Q := rdu Q k (L job)) hJ hm (show job + 1 ≤ J by omega) hL (fun w hw => by unfold rdu; have := hQ w hw; split <;> omega) (h := z1) ((w1.fld 72 2 (by decide) (by decide)).trans eJ) ((w1.fld 72 5 (by decide) (by decide)).trans em) (fun w hw => by
            rw [ez1, zf_si, if_pos rfl]
            unfold rdu
            by_cases e : w = k
            · rw [if_pos e, if_pos e, e]
            · rw [if_neg e, if_neg e]; exact q2 w hw) (fun s hs => by rw [w1.arr 78 (by decide) (by decide)]; exact e78 s hs) (fun s hs => by rw [w1.arr 79 (by decide) (by decide)]; exact e79 s hs) x y
        obtain ⟨cr, ecr⟩ : ∃ cr, cr = f_Planner_comesTo (nI (job + 1)) x y z1 := ⟨_, rfl⟩
        rw [← ecr] at d2 d3
        rw [← ecr]
        have w2 : zWr [77, 80] [] h cr.2 := zWr_tr d2 (by decide) (by decide) w1
        have k77 : zr cr.2 77 (nI k) = nI (Q k - L job) := by rw [zr_n _ 77 (by omega), zf, d2.arr 77 (by decide) (by decide), ez1]; exact zm_in _ _ _ _
        have k73 : zr cr.2 73 (nI job) = nI (L job) := by rw [zr_n _ 73 (by omega), zf, w2.arr 73 (by decide) (by decide)]; exact e73 job hjob
        have eadd : nI (Q k - L job) + nI (L job) = nI (Q k) := by rw [nI_add, show Q k - L job + L job = Q k by omega]
        unfold f_Planner_windowFor_l3_k53 f_Planner_windowFor_l3_k53_ok f_Planner_windowFor_l3_k79
        rw [k77, k73, eadd, zs_n _ _ _ (by omega)]
        have w3 : zWr [77, 80] [] h (zm_si cr.2 77 k (nI (Q k))) := zWr_si (by decide) w2
        have r3 : ∀ w, w < m → (zm_si cr.2 77 k (nI (Q k))).2.1 77 w = nI (Q w) := fun w hw => by
          rw [zf_si, if_pos rfl]
          by_cases e : w = k
          · rw [if_pos e, e]
          · rw [if_neg e, d2.arr 77 (by decide) (by decide), ez1, zf_si, if_pos rfl, if_neg e]; exact q2 w hw
        refine ⟨⟨fun v => absurd v g0, fun _ => ⟨ik, ij, fun v => absurd v c, fun _ => ⟨ik, ij, ik, d1, ik, ij, ik⟩⟩⟩, ?_⟩
        by_cases f : cr.1 = 0
        · rw [if_pos f, ← nI_succ]
          refine Or.inl ⟨rfl, rfl, w3, r3, fun w hw => ?_⟩
          by_cases e : w = k
          · subst e; exact fun v => (d3.mp f) v.2
          · exact q3 w (by omega)
        · rw [if_neg f]
          refine Or.inr ⟨by simp, w3, r3, k, by omega, Or.inl ⟨rfl, hk, rfl, c', Classical.byContradiction (fun v => f (d3.mpr v))⟩, q3⟩)
    (by
      rintro ⟨v4, z⟩ ⟨q0, q1, q2, q3⟩
      dsimp only at q0 q1 q2 q3
      subst q0
      have zm : zf z 72 5 = nI m := (q1.fld 72 5 (by decide) (by decide)).trans em
      have g0 : zf z 72 5 ≤ nI m := by rw [zm]; exact i_le_r _
      show f_Planner_windowFor_l3_b_ok (nI job) x y (nI m) z ∧ _
      unfold f_Planner_windowFor_l3_b f_Planner_windowFor_l3_b_ok
      dsimp only
      rw [if_pos g0]
      exact ⟨⟨fun _ => trivial, fun v => absurd g0 v⟩, by simp, q1, q2, m, Nat.le_refl _, Or.inr ⟨by simp, rfl⟩, q3⟩)
  obtain ⟨k1, k2⟩ := key
  obtain ⟨r, er⟩ : ∃ r, r = f_Planner_windowFor_l3 (nI job) x y F (0, h) := ⟨_, rfl⟩
  have k2 : zWr [77, 80] [] h r.2.2 ∧ (∀ w, w < m → r.2.2.2.1 77 w = nI (Q w)) ∧ ∃ a, a ≤ m ∧ ((r.1 = 1 ∧ a < m ∧ r.2.1 = nI a ∧ lds J m job L V Q x y a) ∨ (¬ r.1 = 1 ∧ a = m)) ∧ ∀ w, w < a → ¬ lds J m job L V Q x y w := by rw [er]; exact k2
  rw [← er]
  obtain ⟨r1, r2, a, a1, a2, a3⟩ := k2
  rcases a2 with ⟨b1, b2, b3, b4⟩ | ⟨b1, b2⟩
  · rw [if_pos b1]
    refine ⟨⟨k1, fun _ => trivial, fun _ => trivial⟩, r1, r2, a, a1, ?_, fun _ => b4, a3⟩
    rw [if_neg (by omega)]; exact b3
  · rw [if_neg b1]
    refine ⟨⟨k1, fun _ => trivial, fun _ => trivial⟩, r1, r2, a, a1, ?_, fun z => by omega, a3⟩
    rw [if_pos b2]
theorem sm_mono {L : Nat → Nat} {P : Nat → Bool} {j : Nat} : ∀ d, sm L P j ≤ sm L P (j + d) := by
  intro d
  induction d with
  | zero => exact Nat.le_refl _
  | succ d ih => rw [← Nat.add_assoc, sm]; omega
theorem Rc_ext {J m : Nat} {L V R : Nat → Nat} {X Y : Nat} {a b : Nat → Nat} {j : Nat} (e : ∀ i, i < j → a i = b i) (h : Rc J m L V R X Y a j) : Rc J m L V R X Y b j := by
  obtain ⟨f, h1, h2⟩ := h
  exact ⟨f, fun i hi => by rw [h1 i hi, e i hi], h2⟩
theorem Rc_low {J m : Nat} {L V R : Nat → Nat} {X Y : Nat} {a : Nat → Nat} {j : Nat} (hj : j ≤ J) (h : Rc J m L V R X Y a j) : wv j m V a ≤ X ∧ wv j m L a ≤ Y ∧ ∀ w, w < m → sm L (fun i => eqb (a i) w) j ≤ R w := by
  obtain ⟨f, h1, h2, h3, h4, h5⟩ := h
  have mono : ∀ (W : Nat → Nat) (P : Nat → Bool), sm W P j ≤ sm W P J := fun W P => by
    have := sm_mono (L := W) (P := P) (j := j) (J - j)
    rw [show j + (J - j) = J by omega] at this
    exact this
  refine ⟨?_, ?_, fun w hw => ?_⟩
  · rw [← h4]
    unfold wv
    rw [sm_ext (Q := fun i => ltb (f i) m) j (fun i hi => by rw [h1 i hi])]
    exact mono _ _
  · rw [← h5]
    unfold wv
    rw [sm_ext (Q := fun i => ltb (f i) m) j (fun i hi => by rw [h1 i hi])]
    exact mono _ _
  · refine Nat.le_trans ?_ (h3 w hw)
    rw [sm_ext (Q := fun i => eqb (f i) w) j (fun i hi => by rw [h1 i hi])]
    exact mono _ _
abbrev asg (a : Nat → Nat) (j x : Nat) : Nat → Nat := fun i => if i = j then x else a i
theorem wv_asg {m : Nat} {V a : Nat → Nat} {j x : Nat} : wv (j + 1) m V (asg a j x) = wv j m V a + (if x < m then V j else 0) := by
  unfold wv
  rw [sm, sm_ext (Q := fun i => ltb (a i) m) j (fun i hi => by rw [show asg a j x i = a i from if_neg (by omega)])]
  rw [show asg a j x j = x from if_pos rfl]
  by_cases c : x < m
  · rw [if_pos c, if_pos (ltb_t.mpr c)]
  · rw [if_neg c, if_neg (fun z => c (ltb_t.mp z))]
theorem ld_asg {L a : Nat → Nat} {j x w : Nat} : sm L (fun i => eqb (asg a j x i) w) (j + 1) = sm L (fun i => eqb (a i) w) j + (if x = w then L j else 0) := by
  rw [sm, sm_ext (Q := fun i => eqb (a i) w) j (fun i hi => by rw [show asg a j x i = a i from if_neg (by omega)])]
  rw [show asg a j x j = x from if_pos rfl]
  by_cases c : x = w
  · rw [if_pos c, if_pos (eqb_t.mpr c)]
  · rw [if_neg c, if_neg (fun z => c (eqb_t.mp z))]
/-- what leads, in terms of plans -/
theorem lds_iff {J m j : Nat} (hJ : J ≤ 6) (hj : j < J) {L V R Q : Nat → Nat} (hL : ∀ j, j < J → L j ≤ 16) (hV : ∀ j, j < J → V j ≤ 999) {X Y X' Y' : Nat} (hX' : X' ≤ 5994) (hY' : Y' ≤ 96) {a : Nat → Nat} (ha : ∀ i, i < j → a i ≤ m) (hQ : ∀ w, w < m → Q w + sm L (fun i => eqb (a i) w) j = R w) (hX : X' + wv j m V a = X) (hY : Y' + wv j m L a = Y) {w : Nat} (hw : w < m) : lds J m j L V Q (nI X' - nI (V j)) (nI Y' - nI (L j)) w ↔ Rc J m L V R X Y (asg a j w) (j + 1) := by
  have h64 := p2_le hJ
  have hl := hL j hj
  have hv := hV j hj
  have bX : (nI X').toInt = X' := i_nI (by omega)
  have bY : (nI Y').toInt = Y' := i_nI (by omega)
  have bV : (nI (V j)).toInt = V j := i_nI (by omega)
  have bL : (nI (L j)).toInt = L j := i_nI (by omega)
  have sX : (nI X' - nI (V j)).toInt = X' - V j := by rw [i_sub (by rw [bX, bV]; omega) (by rw [bX, bV]; omega), bX, bV]
  have sY : (nI Y' - nI (L j)).toInt = Y' - L j := by rw [i_sub (by rw [bY, bL]; omega) (by rw [bY, bL]; omega), bY, bL]
  have hsL : ∀ s : Nat, sm L s.testBit J ≤ 96 := fun s => by have := sm_le (P := s.testBit) J hL; omega
  have hsV : ∀ s : Nat, sm V s.testBit J ≤ 5994 := fun s => by have := sm_le (P := s.testBit) J hV; omega
  have ha' : ∀ i, i < j + 1 → asg a j w i ≤ m := fun i hi => by
    by_cases e : i = j
    · rw [show asg a j w i = w from if_pos e]; omega
    · rw [show asg a j w i = a i from if_neg e]; exact ha i (by omega)
  have main : L j ≤ Q w → V j ≤ X' → L j ≤ Y' → ((∃ s, s < 2 ^ J ∧ s % 2 ^ (j + 1) = 0 ∧ fzT J L (rdu Q w (L j)) m s ∧ nI (sm V s.testBit J) = nI X' - nI (V j) ∧ nI (sm L s.testBit J) = nI Y' - nI (L j)) ↔ Rc J m L V R X Y (asg a j w) (j + 1)) := by
    intro q1 q2 q3
    rw [Rc_left (Q := rdu Q w (L j)) (X' := X' - V j) (Y' := Y' - L j) (by omega) ha' (fun u hu => ?_) ?_ ?_]
    · have eX : nI X' - nI (V j) = nI (X' - V j) := nI_s0 _ _ (by omega)
      have eY : nI Y' - nI (L j) = nI (Y' - L j) := nI_s0 _ _ (by omega)
      rw [eX, eY]
      constructor
      · rintro ⟨s, s1, s2, s3, s4, s5⟩
        exact ⟨s, s1, (b_low (j + 1) (by omega) s (by omega)).mp s2, s3, nI_inj (by have := hsV s; omega) (by omega) s4, nI_inj (by have := hsL s; omega) (by omega) s5⟩
      · rintro ⟨s, s1, s2, s3, s4, s5⟩
        exact ⟨s, s1, (b_low (j + 1) (by omega) s (by omega)).mpr s2, s3, by rw [s4], by rw [s5]⟩
    · rw [wv_asg, if_pos hw]; omega
    · rw [wv_asg, if_pos hw]; omega
    · rw [ld_asg]
      have := hQ u hu
      unfold rdu
      by_cases e : u = w
      · subst e; rw [if_pos rfl, if_pos rfl]; omega
      · rw [if_neg e, if_neg (fun z => e z.symm)]; omega
  unfold lds cmT
  constructor
  · rintro ⟨q1, q2, q3, q4⟩
    rw [sX] at q2
    rw [sY] at q3
    exact (main q1 (by omega) (by omega)).mp q4
  · intro r
    obtain ⟨l1, l2, l3⟩ := Rc_low (by omega) r
    rw [wv_asg, if_pos hw] at l1 l2
    have l3 := l3 w hw
    rw [ld_asg, if_pos rfl] at l3
    have := hQ w hw
    refine ⟨by omega, by rw [sX]; omega, by rw [sY]; omega, (main (by omega) (by omega) (by omega)).mpr r⟩
