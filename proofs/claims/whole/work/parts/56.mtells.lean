/-! ===== tells of the model ===== -/
def tup3 (v : Int32) (i : Nat) (h : zm_H) : Int32 × Int32 × zm_H := (v, nI i, h)
theorem mt_step {h : zm_H} {n k : Nat} {v1 v3 E : Int32} {w v : Int32} (hk : k < 4000) (hE : 400 * v3 + zr h 102 (4 * v3 + v1) = E) (hlt : ¬ E ≤ nI k) (h40 : vp_in (4 * v3 + v1) 40) (ew : h.2.1 99 k = w) (ev : h.2.1 100 k = v) {ts us : List Bool} {st : List Int32} (ht : tst w v ts = some us) (hv : vty ts st) (hn : ts.length = n) (h60 : n ≤ 60) (hs : sAt (h.2.1 150) st) : f_M_tells_l44_b_ok v1 v3 (nI n) (nI k) h ∧ ∃ h2, f_M_tells_l44_b v1 v3 (nI n) (nI k) h = (0, nI (est (h.2.1 149) w v st).length, nI (k + 1), h2) ∧ zWr [150] [] h h2 ∧ sAt (h2.2.1 150) (est (h.2.1 149) w v st) := by
  have hl : st.length = n := by rw [← vty_len hv]; exact hn
  have rw99 : zr h 99 (nI k) = w := by rw [zr_n h 99 (by omega)]; exact ew
  have rw100 : zr h 100 (nI k) = v := by rw [zr_n h 100 (by omega)]; exact ev
  have ik : vp_in (nI k) 4000 := vp_in_nI hk (by omega)
  have b1 : (1 : Int32).toInt = 1 := rfl
  unfold f_M_tells_l44_b_ok f_M_tells_l44_b
  rw [hE, if_neg hlt, rw99, rw100]
  unfold tst at ht
  have pushed : ∀ x, zWr [150] [] h (zm_si h 150 n x) ∧ sAt ((zm_si h 150 n x).2.1 150) (x :: st) := by
    intro x
    refine ⟨zWr_si (by decide) (zWr.refl _ _), ?_⟩
    rw [za_si, if_pos rfl]
    refine ⟨?_, sAt_up hs (by omega)⟩
    rw [hl]; exact pk_us
  have lp : ∀ x : Int32, (x :: st).length = n + 1 := fun x => by rw [List.length_cons, hl]
  have i400 : vp_in (nI n) 400 := vp_in_nI (by omega) (by omega)
  by_cases w0 : w = 0
  · rw [if_pos w0] at ht
    by_cases q : 0 ≤ v.toInt ∧ v.toInt ≤ 99999
    · have g : ¬ (1 < w) := by rw [w0]; decide
      have eE : est (h.2.1 149) w v st = v :: st := by
        unfold est
        rw [if_pos (by rw [w0]; decide), if_pos w0]
      rw [if_neg g, if_neg g, if_pos w0, eE, lp, zs_n _ 150 _ (by omega), ← nI_succ, ← nI_succ]
      exact ⟨⟨h40, fun z => absurd z hlt, fun _ => ⟨ik, fun z => absurd z g, fun _ => ⟨⟨fun _ => ik, fun z => absurd w0 z⟩, i400⟩⟩⟩, _, rfl, pushed v⟩
    · rw [if_neg q] at ht; cases ht
  rw [if_neg w0] at ht
  by_cases w1 : w = 1
  · rw [if_pos w1] at ht
    by_cases q : 0 ≤ v.toInt ∧ v.toInt < 9
    · have g : ¬ (1 < w) := by rw [w1]; decide
      have eE : est (h.2.1 149) w v st = h.2.1 149 v.toNatClampNeg :: st := by
        unfold est
        rw [if_pos (by rw [w1]; decide), if_neg w0]
      have iv : vp_in v 9 := by rw [vp_in_iff]; omega
      rw [if_neg g, if_neg g, if_neg w0, eE, lp, zs_n _ 150 _ (by omega), ← nI_succ, ← nI_succ]
      exact ⟨⟨h40, fun z => absurd z hlt, fun _ => ⟨ik, fun z => absurd z g, fun _ => ⟨⟨fun z => absurd z w0, fun _ => ⟨ik, iv⟩⟩, i400⟩⟩⟩, _, rfl, pushed _⟩
    · rw [if_neg q] at ht; cases ht
  rw [if_neg w1] at ht
  by_cases w11 : w = 11
  · rw [if_pos w11] at ht
    have g : 1 < w := by rw [w11]; decide
    match ts, st, hv, ht, hn, hl, hs with
    | true :: t', a :: s', hv, ht, hn, hl, hs =>
      rw [List.length_cons] at hl
      obtain ⟨m, rfl⟩ : ∃ m, n = m + 1 := ⟨s'.length, by omega⟩
      have hlm : s'.length = m := by omega
      have ea : zr h 150 (nI m) = a := by rw [zr_n h 150 (by omega), ← hlm]; exact hs.1
      have s1 : nI (m + 1) - 1 = nI m := nI_pred m
      have im : vp_in (nI m) 400 := vp_in_nI (by omega) (by omega)
      have eE : est (h.2.1 149) w v (a :: s') = (1 - a) :: s' := by
        unfold est
        rw [if_neg (by rw [w11]; decide), if_pos w11]
      rw [if_pos g, if_pos w11, if_pos g, if_pos w11, eE, s1, ea, zs_n _ 150 _ (by omega), List.length_cons, hlm, ← nI_succ k]
      refine ⟨⟨h40, fun z => absurd z hlt, fun _ => ⟨ik, fun _ => ⟨fun _ => ⟨im, im⟩, fun z => absurd w11 z⟩, fun z => absurd g z⟩⟩, _, rfl, zWr_si (by decide) (zWr.refl _ _), ?_⟩
      rw [za_si, if_pos rfl]
      refine ⟨?_, sAt_up hs.2 (by omega)⟩
      rw [hlm]; exact pk_us
    | false :: _, _ :: _, _, ht, _, _, _ => cases ht
  rw [if_neg w11] at ht
  have w2 : 2 ≤ w.toInt := by
    rcases (show 2 ≤ w.toInt ∨ w.toInt < 2 by omega) with z | z
    · exact z
    · exfalso
      rw [if_neg (by omega), if_neg (by omega), if_neg (by omega)] at ht
      cases ht
  have g : 1 < w := by rw [i_lt, b1]; omega
  have bin : ∃ a b s', st = b :: a :: s' := by
    match ts, st, hv, ht with
    | _ :: _ :: _, b :: a :: s', _, _ => exact ⟨a, b, s', rfl⟩
    | [], [], _, ht => simp at ht
    | [t], [_], _, ht => cases t <;> simp at ht
  obtain ⟨a, b, s', rfl⟩ := bin
  rw [List.length_cons, List.length_cons] at hl
  obtain ⟨m, em⟩ : ∃ m, m = s'.length := ⟨_, rfl⟩
  have en : n = m + 2 := by omega
  subst en
  have ea : zr h 150 (nI m) = a := by rw [zr_n h 150 (by omega), em]; exact hs.2.1
  have eb : zr h 150 (nI (m + 1)) = b := by
    have := hs.1
    rw [List.length_cons, ← em] at this
    rw [zr_n h 150 (by omega)]; exact this
  have s1 : nI (m + 2) + (-1) = nI (m + 1) := pk_m1 (m + 1)
  have s2 : nI (m + 1) - 1 = nI m := nI_pred m
  have im : vp_in (nI m) 400 := vp_in_nI (by omega) (by omega)
  have im1 : vp_in (nI (m + 1)) 400 := vp_in_nI (by omega) (by omega)
  have eE : est (h.2.1 149) w v (b :: a :: s') = ofP w a b :: s' := by
    unfold est
    rw [if_neg (by rw [i_le, b1]; omega), if_neg w11]
  have okof : f_M_of_ok w a b h := by
    unfold f_M_of_ok
    simp only [implies_true, and_true, true_and]
    intro _ _ _ _ z
    exact z
  rw [if_pos g, if_neg w11, if_pos g, if_neg w11, eE, s1, s2, ea, eb, of_h, zs_n _ 150 _ (by omega), List.length_cons, ← em, ← nI_succ k]
  refine ⟨⟨h40, fun z => absurd z hlt, fun _ => ⟨ik, fun _ => ⟨fun z => absurd z w11, fun _ => ⟨im, im1, okof, im⟩⟩, fun z => absurd g z⟩⟩, _, rfl, zWr_si (by decide) (zWr.refl _ _), ?_⟩
  rw [za_si, if_pos rfl]
  refine ⟨?_, sAt_up hs.2.2 (by omega)⟩
  rw [← em]; exact pk_us
/-- what a CLAUSE comes to in a SPELL -/
def Ev (nf : Nat) (h : zm_H) (c : Nat) (t : Int32) (nm : Nat → Int32) : Int32 := if (inf (h.2.1 103) (h.2.1 104) (h.2.1 101) c t nf).1 = -1 then (if c = 2 then 1 else 0) else evC h (inf (h.2.1 103) (h.2.1 104) (h.2.1 101) c t nf).1.toNatClampNeg c nm
theorem te_M {ns nf : Nat} {h : zm_H} (H : I_rl ns nf h) (hnm : nmOK (h.2.1 149)) {c : Nat} (hc : c < 4) (t : Int32) : f_M_tells_ok (nI c) t h ∧ (f_M_tells (nI c) t h).1 = Ev nf h c t (h.2.1 149) ∧ zWr [150] [] h (f_M_tells (nI c) t h).2 := by
  obtain ⟨Hf, hcl⟩ := H
  obtain ⟨f1, f2⟩ := fc_M Hf hc t
  obtain ⟨hns, -, -⟩ := Hf.1
  unfold f_M_tells_ok f_M_tells Ev
  rw [f2]
  rcases inf_rng Hf c t nf (Nat.le_refl _) with z | ⟨s, u, hs, hu, z, hn⟩
  · rw [z]
    have e2 : (if nI c = 2 then (1 : Int32) else 0) = if c = 2 then 1 else 0 := by
      by_cases q : c = 2
      · subst q; rfl
      · rw [if_neg q, if_neg (show ¬ nI c = 2 from fun y => q (nI_inj (by omega) (by omega) (show nI c = nI 2 from y)))]
    rw [if_pos rfl, if_pos rfl]
    exact ⟨⟨f1, fun _ => trivial, fun y => absurd rfl y⟩, e2, zWr.refl _ _⟩
  · rw [z]
    dsimp only
    have g : ¬ (nI s = -1) := by rw [i_eq, i_nI (by omega), i_m1]; omega
    rw [if_neg g, if_neg g, nI_c (by omega)]
    obtain ⟨b, e, he, eb, ee, -, hW, -⟩ := hcl s c hs hc hn
    have hbe := hW.1
    obtain ⟨W, eW⟩ : ∃ W, W = fun k => h.2.1 99 (400 * s + k) := ⟨_, rfl⟩
    obtain ⟨V, eV⟩ : ∃ V, V = fun k => h.2.1 100 (400 * s + k) := ⟨_, rfl⟩
    rw [← eW, ← eV] at hW
    have eC : evC h s c (h.2.1 149) = evv W V (h.2.1 149) b e := by unfold evC; rw [eb, ee, nI_c (by omega), nI_c (by omega), eW, eV]
    have e101 : zr h 101 (4 * nI s + nI c) = nI b := by rw [x4.2, zr_n h 101 (by omega)]; exact eb
    have i40 : vp_in (4 * nI s + nI c) 40 := by rw [x4.2]; exact vp_in_nI (by omega) (by omega)
    have e400 : ∀ q, 400 * nI s + nI q = nI (400 * s + q) := fun q => by
      rw [show (400 : Int32) = nI 400 from rfl, pk_mul, nI_add]
    rw [eC, e101, e400]
    obtain ⟨F, eF, -⟩ := zF_ex
    rw [← eF]
    have key := zlpF eF (b := fun q => f_M_tells_l44_b (nI c) (nI s) q.1 q.2.1 q.2.2) (o := fun q => f_M_tells_l44_b_ok (nI c) (nI s) q.1 q.2.1 q.2.2) (e - b) (by omega)
      (fun j q => q.2.1 = nI (400 * s + b + j) ∧ q.1 = nI (stk W V (h.2.1 149) b j).length ∧ zWr [150] [] h q.2.2 ∧ sAt (q.2.2.2.1 150) (stk W V (h.2.1 149) b j))
      (fun r => zWr [150] [] h r.2.2.2 ∧ sAt (r.2.2.2.2.1 150) (stk W V (h.2.1 149) b (e - b))) (0, nI (400 * s + b), h) ⟨rfl, rfl, zWr.refl _ _, trivial⟩
      (by
        rintro j ⟨v4, v5, h1⟩ hj ⟨p1, p2, p3, p4⟩
        dsimp only at p1 p2 p3 p4
        obtain ⟨ts, us, t1, t2, t3, t4⟩ := hW.at hj
        have vt := stk_vty hW hnm j (by omega) ts t1
        have e149 : h1.2.1 149 = h.2.1 149 := p3.arr 149 (by decide) (by decide)
        have e102 : zr h1 102 (4 * nI s + nI c) = nI e := by
          rw [x4.2, zr_n h1 102 (by omega), zf, p3.arr 102 (by decide) (by decide)]; exact ee
        rw [← vty_len vt] at p2
        subst p1 p2
        have w99 : h1.2.1 99 (400 * s + b + j) = W (b + j) := by rw [p3.arr 99 (by decide) (by decide), eW, show 400 * s + b + j = 400 * s + (b + j) by omega]
        have w100 : h1.2.1 100 (400 * s + b + j) = V (b + j) := by rw [p3.arr 100 (by decide) (by decide), eV, show 400 * s + b + j = 400 * s + (b + j) by omega]
        obtain ⟨q1, h2, q2, q3, q4⟩ := mt_step (h := h1) (k := 400 * s + b + j) (v1 := nI c) (v3 := nI s) (by omega) (by rw [e102, e400]) (by rw [nx_le (by omega) (by omega)]; omega) i40 w99 w100 t3 vt rfl t4 p4
        rw [e149] at q2 q4
        refine ⟨q1, Or.inl ?_⟩
        dsimp only
        rw [q2]
        exact ⟨rfl, rfl, rfl, zWr_tr q3 (fun _ z => z) (fun _ z => z) p3, q4⟩)
      (by
        rintro ⟨v4, v5, h1⟩ ⟨p1, p2, p3, p4⟩
        dsimp only at p1 p2 p3 p4
        have e102 : zr h1 102 (4 * nI s + nI c) = nI e := by
          rw [x4.2, zr_n h1 102 (by omega), zf, p3.arr 102 (by decide) (by decide)]; exact ee
        subst p1
        have gg : 400 * nI s + zr h1 102 (4 * nI s + nI c) ≤ nI (400 * s + b + (e - b)) := by
          rw [e102, e400, show 400 * s + b + (e - b) = 400 * s + e by omega]; exact i_le_r _
        refine ⟨⟨i40, fun _ => trivial, fun z => absurd gg z⟩, ?_⟩
        dsimp only
        unfold f_M_tells_l44_b
        rw [if_pos gg]
        exact ⟨by simp, p3, p4⟩)
    obtain ⟨k1, k2, k3⟩ := key
    have hlen : (stk W V (h.2.1 149) b (e - b)).length = 1 := by
      have := vty_len (stk_vty hW hnm (e - b) (by omega) _ hW.2.1)
      rw [← this]; rfl
    obtain ⟨x, ex⟩ : ∃ x, stk W V (h.2.1 149) b (e - b) = [x] := List.length_eq_one_iff.mp hlen
    have k1 : f_M_tells_l44_ok (nI c) (nI s) F (0, nI (400 * s + b), h) := k1
    have k2 : zWr [150] [] h (f_M_tells_l44 (nI c) (nI s) F (0, nI (400 * s + b), h)).2.2.2 := k2
    have k3 : (f_M_tells_l44 (nI c) (nI s) F (0, nI (400 * s + b), h)).2.2.2.2.1 150 0 = x := by rw [ex] at k3; exact k3.1
    refine ⟨⟨f1, fun y => absurd y g, fun _ => ⟨i40, k1, trivial⟩⟩, ?_, k2⟩
    unfold f_M_tells_a44 f_M_tells_k189 evv
    rw [ex]
    exact k3
/-- what a CLAUSE comes to, on the class's side: where there is none of it, else -/
theorem te_N {ns nf : Nat} {h : zm_H} (H : I_rl ns nf h) (hnm : nmOK (h.2.1 21)) {c : Nat} (hc : c < 4) (t : Int32) : f_Rules_ruling_ok (nI c) t h ∧ ((f_Rules_ruling (nI c) t h = -1 ∧ ∀ nm, Ev nf h c t nm = if c = 2 then 1 else 0) ∨ (¬ f_Rules_ruling (nI c) t h = -1 ∧ f_Rules_work_ok (f_Rules_ruling (nI c) t h) (nI c) h ∧ (f_Rules_work (f_Rules_ruling (nI c) t h) (nI c) h).1 = Ev nf h c t (h.2.1 21) ∧ zWr [22] [(15, 9)] h (f_Rules_work (f_Rules_ruling (nI c) t h) (nI c) h).2)) := by
  obtain ⟨f1, f2⟩ := fc_N H.1 hc t
  have hns := H.1.1.1
  refine ⟨f1, ?_⟩
  unfold Ev
  rw [f2]
  rcases inf_rng H.1 c t nf (Nat.le_refl _) with z | ⟨s, u, hs, hu, z, hn⟩
  · rw [z]
    exact Or.inl ⟨rfl, fun _ => if_pos rfl⟩
  · rw [z]
    dsimp only
    have g : ¬ (nI s = -1) := by rw [i_eq, i_nI (by omega), i_m1]; omega
    obtain ⟨w1, w2, w3⟩ := wk_N H hnm hs hc hn
    exact Or.inr ⟨g, w1, by rw [if_neg g, nI_c (by omega)]; exact w2, w3⟩
