/-! ===== all forgotten; the class's RIGHT ===== -/
theorem fl_53 (v : Int32) (h : zm_H) : f_Arrays_fill_53_ok v h ∧ zWr [53] [] h (f_Arrays_fill_53 v h) ∧ ∀ k, k < 10 → (f_Arrays_fill_53 v h).2.1 53 k = v := by
  unfold f_Arrays_fill_53_ok f_Arrays_fill_53 f_Arrays_fill_53_a5 f_Arrays_fill_53_k20
  obtain ⟨k1, h1, k2, k3, k4⟩ := zfill rfl (b := fun s => f_Arrays_fill_53_l5_b v s.1 (Int32.ofNat 10) s.2) (o := fun s => f_Arrays_fill_53_l5_b_ok v s.1 (Int32.ofNat 10) s.2) 53 10 (by omega) (fun _ => v) h
    (fun k g hk _ => by
      have g0 : ¬ (Int32.ofNat 10 ≤ nI k) := by rw [show Int32.ofNat 10 = nI 10 from rfl, nx_le (by omega) (by omega)]; omega
      refine ⟨⟨fun z => absurd z g0, fun _ => vp_in_nI hk (by omega)⟩, ?_⟩
      dsimp only
      unfold f_Arrays_fill_53_l5_b
      rw [if_neg g0, zs_n _ 53 _ (by omega), ← nI_succ])
    (fun g _ => by
      have g0 : Int32.ofNat 10 ≤ nI 10 := i_le_r _
      refine ⟨⟨fun _ => trivial, fun z => absurd g0 z⟩, ?_⟩
      dsimp only
      unfold f_Arrays_fill_53_l5_b
      rw [if_pos g0])
  have k2 : f_Arrays_fill_53_l5 v (Int32.ofNat 10) zF (0, h) = (1, nI 10, h1) := k2
  rw [k2]
  exact ⟨⟨k1, trivial⟩, k3, fun k hk => by rw [k4 k, if_pos hk]⟩
theorem fl_54 (v : Int32) (h : zm_H) : f_Arrays_fill_54_ok v h ∧ zWr [54] [] h (f_Arrays_fill_54 v h) ∧ ∀ k, k < 10 → (f_Arrays_fill_54 v h).2.1 54 k = v := by
  unfold f_Arrays_fill_54_ok f_Arrays_fill_54 f_Arrays_fill_54_a5 f_Arrays_fill_54_k20
  obtain ⟨k1, h1, k2, k3, k4⟩ := zfill rfl (b := fun s => f_Arrays_fill_54_l5_b v s.1 (Int32.ofNat 10) s.2) (o := fun s => f_Arrays_fill_54_l5_b_ok v s.1 (Int32.ofNat 10) s.2) 54 10 (by omega) (fun _ => v) h
    (fun k g hk _ => by
      have g0 : ¬ (Int32.ofNat 10 ≤ nI k) := by rw [show Int32.ofNat 10 = nI 10 from rfl, nx_le (by omega) (by omega)]; omega
      refine ⟨⟨fun z => absurd z g0, fun _ => vp_in_nI hk (by omega)⟩, ?_⟩
      dsimp only
      unfold f_Arrays_fill_54_l5_b
      rw [if_neg g0, zs_n _ 54 _ (by omega), ← nI_succ])
    (fun g _ => by
      have g0 : Int32.ofNat 10 ≤ nI 10 := i_le_r _
      refine ⟨⟨fun _ => trivial, fun z => absurd g0 z⟩, ?_⟩
      dsimp only
      unfold f_Arrays_fill_54_l5_b
      rw [if_pos g0])
  have k2 : f_Arrays_fill_54_l5 v (Int32.ofNat 10) zF (0, h) = (1, nI 10, h1) := k2
  rw [k2]
  exact ⟨⟨k1, trivial⟩, k3, fun k hk => by rw [k4 k, if_pos hk]⟩
theorem fl_55 (v : Int32) (h : zm_H) : f_Arrays_fill_55_ok v h ∧ zWr [55] [] h (f_Arrays_fill_55 v h) ∧ ∀ k, k < 10 → (f_Arrays_fill_55 v h).2.1 55 k = v := by
  unfold f_Arrays_fill_55_ok f_Arrays_fill_55 f_Arrays_fill_55_a5 f_Arrays_fill_55_k20
  obtain ⟨k1, h1, k2, k3, k4⟩ := zfill rfl (b := fun s => f_Arrays_fill_55_l5_b v s.1 (Int32.ofNat 10) s.2) (o := fun s => f_Arrays_fill_55_l5_b_ok v s.1 (Int32.ofNat 10) s.2) 55 10 (by omega) (fun _ => v) h
    (fun k g hk _ => by
      have g0 : ¬ (Int32.ofNat 10 ≤ nI k) := by rw [show Int32.ofNat 10 = nI 10 from rfl, nx_le (by omega) (by omega)]; omega
      refine ⟨⟨fun z => absurd z g0, fun _ => vp_in_nI hk (by omega)⟩, ?_⟩
      dsimp only
      unfold f_Arrays_fill_55_l5_b
      rw [if_neg g0, zs_n _ 55 _ (by omega), ← nI_succ])
    (fun g _ => by
      have g0 : Int32.ofNat 10 ≤ nI 10 := i_le_r _
      refine ⟨⟨fun _ => trivial, fun z => absurd g0 z⟩, ?_⟩
      dsimp only
      unfold f_Arrays_fill_55_l5_b
      rw [if_pos g0])
  have k2 : f_Arrays_fill_55_l5 v (Int32.ofNat 10) zF (0, h) = (1, nI 10, h1) := k2
  rw [k2]
  exact ⟨⟨k1, trivial⟩, k3, fun k hk => by rw [k4 k, if_pos hk]⟩
def hm (r : Nat) (S : Nat → Nat → Int32) : Nat → Nat → Int32 := rnw3 (zm_u (zm_u S 0 r 0) 1 r (-1)) r 0
theorem hm_at (r : Nat) (S : Nat → Nat → Int32) (i k : Nat) : hm r S i k = if i = 0 ∧ k = r then 0 else if i = 1 ∧ k = r then -1 else if i = 5 ∧ k / 3 = r then 0 else if i = 6 ∧ k / 3 = r then 0 else if i = 7 ∧ k / 3 = r then -1 else S i k := by
  unfold hm
  rw [rnw3_at]
  simp only [zu_at]
  repeat' split
  all_goals first | rfl | (exfalso; omega)
theorem hms_at (S : Nat → Nat → Int32) : ∀ n i k, fld hm n S i k = if i = 0 ∧ k < n then 0 else if i = 1 ∧ k < n then -1 else if i = 5 ∧ k / 3 < n then 0 else if i = 6 ∧ k / 3 < n then 0 else if i = 7 ∧ k / 3 < n then -1 else S i k := by
  intro n
  induction n with
  | zero =>
    intro i k
    simp only [fld]
    rw [if_neg (by omega), if_neg (by omega), if_neg (by omega), if_neg (by omega), if_neg (by omega)]
  | succ n ih =>
    intro i k
    rw [fld, hm_at, ih]
    repeat' split
    all_goals first | rfl | (exfalso; omega)
theorem an0_of {S : Nat → Nat → Int32} (h2 : ∀ k, k < 10 → S 2 k = 0 ∧ S 3 k = 0 ∧ S 4 k = 0) (ho : ∀ i k, ¬ (i < 8 ∧ k < zsz i) → S i k = 0) : fld hm 10 S = an0 := by
  funext i k
  rw [hms_at]
  unfold an0
  by_cases c : i < 8 ∧ k < zsz i
  · rw [if_pos c]
    obtain ⟨c1, c2⟩ := c
    rcases (show i = 0 ∨ i = 1 ∨ i = 2 ∨ i = 3 ∨ i = 4 ∨ i = 5 ∨ i = 6 ∨ i = 7 by omega) with e | e | e | e | e | e | e | e <;> subst e
    · have : k < 10 := c2
      rw [if_pos ⟨rfl, this⟩]; rfl
    · have : k < 10 := c2
      rw [if_neg (by omega), if_pos ⟨rfl, this⟩]; rfl
    · have : k < 10 := c2
      rw [if_neg (by omega), if_neg (by omega), if_neg (by omega), if_neg (by omega), if_neg (by omega), (h2 k this).1]; rfl
    · have : k < 10 := c2
      rw [if_neg (by omega), if_neg (by omega), if_neg (by omega), if_neg (by omega), if_neg (by omega), (h2 k this).2.1]; rfl
    · have : k < 10 := c2
      rw [if_neg (by omega), if_neg (by omega), if_neg (by omega), if_neg (by omega), if_neg (by omega), (h2 k this).2.2]; rfl
    · have : k < 30 := c2
      rw [if_neg (by omega), if_neg (by omega), if_pos ⟨rfl, by omega⟩]; rfl
    · have : k < 30 := c2
      rw [if_neg (by omega), if_neg (by omega), if_neg (by omega), if_pos ⟨rfl, by omega⟩]; rfl
    · have : k < 30 := c2
      rw [if_neg (by omega), if_neg (by omega), if_neg (by omega), if_neg (by omega), if_pos ⟨rfl, by omega⟩]; rfl
  · rw [if_neg c]
    have q : ∀ j, (j < 5 → zsz j = 10) ∧ (¬ j < 5 → zsz j = 30) := fun j => ⟨fun z => by unfold zsz; rw [if_pos z], fun z => by unfold zsz; rw [if_neg z]⟩
    obtain ⟨q1, q2⟩ := q i
    have hk : i < 8 → zsz i ≤ k := fun z => by omega
    rw [if_neg (by rintro ⟨y, z⟩; have := q1 (by omega); have := hk (by omega); omega), if_neg (by rintro ⟨y, z⟩; have := q1 (by omega); have := hk (by omega); omega), if_neg (by rintro ⟨y, z⟩; have := q2 (by omega); have := hk (by omega); omega), if_neg (by rintro ⟨y, z⟩; have := q2 (by omega); have := hk (by omega); omega), if_neg (by rintro ⟨y, z⟩; have := q2 (by omega); have := hk (by omega); omega), ho i k c]
theorem vC_out {b : Nat} {h : zm_H} {i k : Nat} (c : ¬ (i < 8 ∧ k < zsz i)) : vC b h i k = 0 := if_neg c
theorem vM_out {L : Nat} {h : zm_H} {i k : Nat} (c : ¬ (i < 8 ∧ k < zsz i)) : vM L h i k = 0 := if_neg c
theorem fga_N (h : zm_H) : f_Course_forgetAll_50_ok h ∧ zf (f_Course_forgetAll_50 h) 50 3 = nI 0 ∧ zf (f_Course_forgetAll_50 h) 50 4 = nI 0 ∧ vC 51 (f_Course_forgetAll_50 h) = an0 := by
  unfold f_Course_forgetAll_50_ok f_Course_forgetAll_50 f_Course_forgetAll_50_k18_ok f_Course_forgetAll_50_k18 f_Course_forgetAll_50_k26_ok f_Course_forgetAll_50_k26 f_Course_forgetAll_50_k34_ok f_Course_forgetAll_50_k34 f_Course_forgetAll_50_a36 f_Course_forgetAll_50_k53
  obtain ⟨h0, e0⟩ : ∃ h0, h0 = zp (zp h 50 3 0) 50 4 0 := ⟨_, rfl⟩
  rw [← e0]
  have z3 : zf h0 50 3 = nI 0 := by rw [e0]; show (zm_si (zm_si h 50 3 0) 50 4 0).2.1 50 3 = _; rw [zf_si, if_pos rfl, if_neg (by decide), zf_si, if_pos rfl, if_pos rfl]; rfl
  have z4 : zf h0 50 4 = nI 0 := by rw [e0]; exact zm_in _ _ _ _
  obtain ⟨a1, a2, a3⟩ := fl_53 0 h0
  generalize f_Arrays_fill_53 0 h0 = h1 at a2 a3
  obtain ⟨b1, b2, b3⟩ := fl_54 0 h1
  generalize f_Arrays_fill_54 0 h1 = h2 at b2 b3
  obtain ⟨c1, c2, c3⟩ := fl_55 0 h2
  generalize f_Arrays_fill_55 0 h2 = h3 at c2 c3
  obtain ⟨F, eF, -⟩ := zF_ex
  rw [← eF]
  have key := zlp_k eF (b := fun s => f_Course_forgetAll_50_l36_b s.1 s.2) (o := fun s => f_Course_forgetAll_50_l36_b_ok s.1 s.2) 10 (by omega) 0
    (fun j x => zWr [51, 52, 56, 57, 58] [] h3 x ∧ vC 51 x = fld hm j (vC 51 h3)) h3 ⟨zWr.refl _ _, rfl⟩
    (by
      rintro j x hj ⟨p1, p2⟩
      rw [Nat.zero_add]
      have g := g10 hj
      obtain ⟨d1, d2⟩ := bh_50 (h := x) hj
      dsimp only
      unfold f_Course_forgetAll_50_l36_b f_Course_forgetAll_50_l36_b_ok f_Course_forgetAll_50_l36_k47
      rw [if_neg g, ← nI_succ]
      refine ⟨⟨fun z => absurd z g, fun _ => d1⟩, _, rfl, zWr_tr (f_Course_bringHome_50_w (nI j) x) (by decide) (by decide) p1, ?_⟩
      rw [d2, p2, fld]
      rfl)
    (by
      rintro x ⟨p1, p2⟩
      dsimp only
      unfold f_Course_forgetAll_50_l36_b f_Course_forgetAll_50_l36_b_ok
      rw [if_pos (by decide)]
      exact ⟨⟨fun _ => trivial, fun z => absurd (by decide) z⟩, rfl⟩)
  obtain ⟨k1, h4, k2, k3, k4⟩ := key
  have k2 : f_Course_forgetAll_50_l36 F (0, h3) = (1, nI (0 + 10), h4) := k2
  have k1 : f_Course_forgetAll_50_l36_ok F (0, h3) := k1
  rw [k2]
  refine ⟨⟨a1, b1, c1, k1, trivial⟩, ?_, ?_, ?_⟩
  · dsimp only
    rw [← z3]
    exact (k3.fld 50 3 (by decide) (by decide)).trans ((c2.fld 50 3 (by decide) (by decide)).trans ((b2.fld 50 3 (by decide) (by decide)).trans (a2.fld 50 3 (by decide) (by decide))))
  · dsimp only
    rw [← z4]
    exact (k3.fld 50 4 (by decide) (by decide)).trans ((c2.fld 50 4 (by decide) (by decide)).trans ((b2.fld 50 4 (by decide) (by decide)).trans (a2.fld 50 4 (by decide) (by decide))))
  · dsimp only
    rw [k4]
    refine an0_of (fun k hk => ⟨?_, ?_, ?_⟩) (fun i k c => vC_out c)
    · rw [vC_at (by omega) (by unfold zsz; rw [if_pos (by omega)]; exact hk), c2.arr 53 (by decide) (by decide), b2.arr 53 (by decide) (by decide)]; exact a3 k hk
    · rw [vC_at (by omega) (by unfold zsz; rw [if_pos (by omega)]; exact hk), c2.arr 54 (by decide) (by decide)]; exact b3 k hk
    · rw [vC_at (by omega) (by unfold zsz; rw [if_pos (by omega)]; exact hk)]; exact c3 k hk
/-- the second course of the class: by the first q READINGS and d DRIFTS, up to G -/
def I_an (nf nr nt n e w : Nat) (h : zm_H) : Prop := ∃ q d G, q ≤ n ∧ d ≤ e ∧ G ≤ w ∧ zf h 0 10 = nI q ∧ zf h 0 11 = nI d ∧ rA nf nr nt q d G h h
theorem gan_N {ns nf nr nt n e w : Nat} {h : zm_H} (W : I_now w h) (H : I_rl ns nf h) (R : I_rf w nr h) (S : I_sw w n e h) (T : I_th nr nt h) (A : I_an nf nr nt n e w h) {sp : Nat} (hsp : sp < w) (a : Int32) {q d : Nat} (eq : q = ft (h.2.1 107) a n) (ed : d = ft (h.2.1 111) a e) :
    f_N_goAnew_ok (nI sp) a h ∧ ∃ G, sp < G ∧ G ≤ w ∧ zf (f_N_goAnew (nI sp) a h) 0 10 = nI q ∧ zf (f_N_goAnew (nI sp) a h) 0 11 = nI d ∧ rA nf nr nt q d G h (f_N_goAnew (nI sp) a h) := by
  obtain ⟨w1, w2, w3⟩ := W
  obtain ⟨u1, u2, u3, u4⟩ := upto_N S a
  rw [← eq] at u3
  rw [← ed] at u4
  have hq : q ≤ n := by rw [eq]; exact ft_le _ _ _
  have hd : d ≤ e := by rw [ed]; exact ft_le _ _ _
  have hn : n ≤ 400 := S.1.1
  have he : e ≤ 30 := S.1.2.1
  obtain ⟨q0, d0, G0, c1, c2, c3, c4, c5, c6⟩ := A
  unfold f_N_goAnew_ok f_N_goAnew
  rw [u3, u4, c4, c5]
  -- all is forgotten
  have new : f_N_goAnew_k36_ok (nI sp) (nI q) (nI d) h ∧ ∃ G, sp < G ∧ G ≤ w ∧ zf (f_N_goAnew_k36 (nI sp) (nI q) (nI d) h) 0 10 = nI q ∧ zf (f_N_goAnew_k36 (nI sp) (nI q) (nI d) h) 0 11 = nI d ∧ rA nf nr nt q d G h (f_N_goAnew_k36 (nI sp) (nI q) (nI d) h) := by
    unfold f_N_goAnew_k36_ok f_N_goAnew_k36 f_N_goAnew_k43_ok f_N_goAnew_k43 f_N_goAnew_k54_ok f_N_goAnew_k54 f_N_goAnew_a63 f_N_goAnew_k104
    obtain ⟨f1, f2, f3, f4⟩ := fga_N h
    have fw := f_Course_forgetAll_50_w h
    generalize f_Course_forgetAll_50 h = h1 at f2 f3 f4 fw
    obtain ⟨h2, e2⟩ : ∃ h2, h2 = zp (zp h1 0 10 (nI q)) 0 11 (nI d) := ⟨_, rfl⟩
    rw [← e2]
    have w2' : zWr [51, 52, 53, 54, 55, 56, 57, 58] [(0, 10), (0, 11), (50, 3), (50, 4)] h h2 := by
      rw [e2]; exact zWr_p (by decide) (zWr_p (by decide) (zWr_tr fw (by decide) (by decide) (zWr.refl _ _)))
    have g10' : zf h2 0 10 = nI q := by rw [e2]; show (zm_si (zm_si h1 0 10 (nI q)) 0 11 (nI d)).2.1 0 10 = _; rw [zf_si, if_pos rfl, if_neg (by decide), zf_si, if_pos rfl, if_pos rfl]
    have g11 : zf h2 0 11 = nI d := by rw [e2]; exact zm_in _ _ _ _
    have g3 : zf h2 50 3 = nI 0 := by rw [e2]; show (zm_si (zm_si h1 0 10 (nI q)) 0 11 (nI d)).2.1 50 3 = _; rw [zf_si, if_neg (by decide), zf_si, if_neg (by decide)]; exact f2
    have g4 : zf h2 50 4 = nI 0 := by rw [e2]; show (zm_si (zm_si h1 0 10 (nI q)) 0 11 (nI d)).2.1 50 4 = _; rw [zf_si, if_neg (by decide), zf_si, if_neg (by decide)]; exact f3
    have g5 : vC 51 h2 = an0 := by rw [e2]; show vC 51 (zm_si (zm_si h1 0 10 (nI q)) 0 11 (nI d)) = an0; rw [vC_o (by omega), vC_o (by omega)]; exact f4
    have A2 : rA nf nr nt q d 0 h2 h2 := ⟨g3, g4, g5, fun t ht => by omega⟩
    obtain ⟨k1, h3, k2, k3, k4⟩ := gl_N (ns := ns) (I_rl_w (by decide) w2' H) (I_rf_w w2' (by decide) R) (I_sw_z (w2'.eq (by decide) (by decide)) S) (I_th_w w2' (by decide) T) hq hd (by omega) A2 (show sp < 480 by omega)
    rw [k2]
    dsimp only
    refine ⟨⟨f1, k1, trivial⟩, 0 + (sp + 1 - 0), by omega, by omega, (k3.fld 0 10 (by decide) (by decide)).trans g10', (k3.fld 0 11 (by decide) (by decide)).trans g11, ?_⟩
    obtain ⟨x1, x2, x3, x4⟩ := k4
    have hw : anF [51, 52, 53, 54, 55, 56, 57, 58] [(0, 10), (0, 11), (50, 3), (50, 4)] = true := by decide
    refine ⟨x1, ?_, ?_, fun t ht => ?_⟩
    · rw [← (anH_w hw w2' _).1]; exact x2
    · rw [← (anH_w hw w2' _).1]; exact x3
    · rw [← (anH_w hw w2' t).2.2.1, ← (anH_w hw w2' t).2.2.2.1, ← (anH_w hw w2' t).2.2.2.2]; exact x4 t ht
  by_cases b1 : nI q = nI q0
  · by_cases b2 : nI d = nI d0
    · have r1 : q = q0 := nI_inj (by omega) (by omega) b1
      have r2 : d = d0 := nI_inj (by omega) (by omega) b2
      subst r1 r2
      rw [if_pos rfl, if_pos rfl]
      obtain ⟨k1, h3, k2, k3, k4⟩ := gl_N H R S T hq hd (show G0 ≤ 480 by omega) c6 (show sp < 480 by omega)
      have hk : f_N_goAnew_k54_ok (nI sp) (nI q) (nI d) h := ⟨k1, trivial⟩
      have ek : f_N_goAnew_k54 (nI sp) (nI q) (nI d) h = h3 := by
        unfold f_N_goAnew_k54 f_N_goAnew_a63 f_N_goAnew_k104
        rw [k2]
      rw [ek]
      exact ⟨⟨u1, u2, fun _ => ⟨fun _ => hk, fun z => absurd rfl z⟩, fun z => absurd rfl z⟩, G0 + (sp + 1 - G0), by omega, by omega, (k3.fld 0 10 (by decide) (by decide)).trans c4, (k3.fld 0 11 (by decide) (by decide)).trans c5, k4⟩
    · rw [if_pos b1, if_neg b2]
      exact ⟨⟨u1, u2, fun _ => ⟨fun z => absurd z b2, fun _ => new.1⟩, fun z => absurd b1 z⟩, new.2⟩
  · rw [if_neg b1]
    exact ⟨⟨u1, u2, fun z => absurd z b1, fun _ => new.1⟩, new.2⟩
