/-! ===== GO ===== -/
theorem seaP_eq {h h' : zm_H} (e : ∀ i, i ∈ [105, 106, 108, 109, 110] → h'.2.1 i = h.2.1 i) (q d t : Nat) : seaP h' q d t = seaP h q d t := by
  have r : ∀ v, zr h' 106 v = zr h 106 v := fun v => by
    show h'.2.1 106 _ = h.2.1 106 _
    rw [e 106 (by simp)]
  unfold seaP
  rw [e 105 (by simp), e 108 (by simp), e 109 (by simp), e 110 (by simp), r]
def gos (nf n d nr : Nat) (h : zm_H) (w : Nat) : Nat → GS → GS
  | 0, g => g
  | k + 1, g => spl (fun c nm => Ev nf h c (nI (w + k)) nm) (h.2.1 112) (h.2.1 113) (seaP h n d (w + k)) (w + k) nr (gos nf n d nr h w k g)
def gpw (nf n d nr : Nat) (h : zm_H) (w : Nat) (g : GS) : Nat → (Nat → Int32) → (Nat → Int32)
  | 0, f => f
  | k + 1, f => upd (gpw nf n d nr h w g k f) (w + k) (pTot (fun c nm => Ev nf h c (nI (w + k)) nm) (h.2.1 112) (h.2.1 113) (seaP h n d (w + k)) (nI (w + k)) nr (gos nf n d nr h w k g).1)
def gpy (nf n d nr : Nat) (h : zm_H) (w : Nat) (g : GS) : Nat → (Nat → Int32) → (Nat → Int32)
  | 0, f => f
  | k + 1, f => upd (gpy nf n d nr h w g k f) (w + k) (pPay (fun c nm => Ev nf h c (nI (w + k)) nm) (h.2.1 112) (h.2.1 113) (h.2.1 114) (seaP h n d (w + k)) (nI (w + k)) nr (gos nf n d nr h w k g).1)
def gps (nf n d nr : Nat) (h : zm_H) (w : Nat) (g : GS) : Nat → (Nat → Int32) → (Nat → Int32)
  | 0, f => f
  | k + 1, f => fun j => if 10 * (w + k) ≤ j ∧ j < 10 * (w + k) + 10 then pFl (fun c nm => Ev nf h c (nI (w + k)) nm) (h.2.1 112) (h.2.1 113) (seaP h n d (w + k)) (nI (w + k)) nr (gos nf n d nr h w k g).1 (j - 10 * (w + k)) else gps nf n d nr h w g k f j
def goF (W : List Nat) (F : List (Nat × Nat)) : Bool := wfR W F && W.all (fun i => !([105, 106, 108, 109, 110, 112, 113, 114] : List Nat).contains i) && F.all (fun p => !([105, 106, 108, 109, 110, 112, 113, 114] : List Nat).contains p.1)
theorem goF_a {W : List Nat} {F : List (Nat × Nat)} (hw : goF W F = true) {h h' : zm_H} (w : zWr W F h h') {i : Nat} (hi : i ∈ [105, 106, 108, 109, 110, 112, 113, 114]) : h'.2.1 i = h.2.1 i := by
  unfold goF at hw
  rw [Bool.and_eq_true, Bool.and_eq_true, List.all_eq_true, List.all_eq_true] at hw
  refine w.arr i (fun z => ?_) (fun p hp e => ?_)
  · have := hw.1.2 i z
    rw [List.contains_iff_mem.mpr hi] at this
    exact absurd this (by decide)
  · have := hw.2 p hp
    rw [e, List.contains_iff_mem.mpr hi] at this
    exact absurd this (by decide)
theorem gos_w {nf n d nr : Nat} {W : List Nat} {F : List (Nat × Nat)} (hw : goF W F = true) {h h' : zm_H} (z : zWr W F h h') (w : Nat) (g : GS) : ∀ k, gos nf n d nr h' w k g = gos nf n d nr h w k g ∧ (∀ f, gpw nf n d nr h' w g k f = gpw nf n d nr h w g k f ∧ gpy nf n d nr h' w g k f = gpy nf n d nr h w g k f ∧ gps nf n d nr h' w g k f = gps nf n d nr h w g k f) := by
  have hw2 : wfR W F = true := by
    unfold goF at hw
    rw [Bool.and_eq_true, Bool.and_eq_true] at hw
    exact hw.1.1
  have eE : ∀ k, (fun c nm => Ev nf h' c (nI k) nm) = (fun c nm => Ev nf h c (nI k) nm) := fun k => by funext c nm; exact Ev_w hw2 z c (nI k) nm
  have eS : ∀ k, seaP h' n d k = seaP h n d k := fun k => seaP_eq (fun i hi => goF_a hw z (by simp at hi ⊢; omega)) n d k
  intro k
  induction k with
  | zero => exact ⟨rfl, fun _ => ⟨rfl, rfl, rfl⟩⟩
  | succ k ih =>
    obtain ⟨a, b⟩ := ih
    refine ⟨?_, fun f => ⟨?_, ?_, ?_⟩⟩
    · rw [gos, gos, a, eE, eS, goF_a hw z (i := 112) (by simp), goF_a hw z (i := 113) (by simp)]
    · rw [gpw, gpw, a, (b f).1, eE, eS, goF_a hw z (i := 112) (by simp), goF_a hw z (i := 113) (by simp)]
    · rw [gpy, gpy, a, (b f).2.1, eE, eS, goF_a hw z (i := 112) (by simp), goF_a hw z (i := 113) (by simp), goF_a hw z (i := 114) (by simp)]
    · rw [gps, gps, a, (b f).2.2, eE, eS, goF_a hw z (i := 112) (by simp), goF_a hw z (i := 113) (by simp)]
theorem gos_ok {nf n d nr w w0 : Nat} {h : zm_H} (R : I_rf w0 nr h) (S : I_sw w0 n d h) {g : GS} (G : gOK nr w w g) : ∀ k, w + k ≤ 480 → gOK nr (w + k) (w + k) (gos nf n d nr h w k g) := by
  intro k
  induction k with
  | zero => intro _; exact G
  | succ k ih => intro hk; rw [gos]; exact (spl_ok R.1.1 (by omega) (ih (by omega)) (szOK_of R) (sea_ok S (Nat.le_refl _)) _).2
theorem go_N {ns nf nr w n d : Nat} (hw : w ≤ 480) {h : zm_H} (H : I_rl ns nf h) (R : I_rf w nr h) (S : I_sw w n d h) (et : zf h 0 0 = nI w) (e3 : zf h 37 3 = nI w) {g : GS} (G : gOK nr w w g) (L : rlN nr g h) {p : Nat} (hp : p ≤ 80) {m : Nat} (em : m = min p (480 - w)) :
    f_N_go_l14_ok (nI p) zF (0, h) ∧ ∃ h', f_N_go_l14 (nI p) zF (0, h) = (1, nI m, h') ∧ zWr [21, 22, 27, 28, 29, 30, 31, 32, 33, 34, 35, 36, 38, 39, 40, 41, 42, 43, 44, 45, 46, 47, 48, 49, 65, 66, 70, 71] [(0, 0), (15, 9), (23, 4), (37, 3), (37, 4)] h h' ∧ zf h' 0 0 = nI (w + m) ∧ zf h' 37 3 = nI (w + m) ∧ rlN nr (gos nf n d nr h w m g) h' ∧ h'.2.1 47 = gpw nf n d nr h w g m (h.2.1 47) ∧ h'.2.1 48 = gpy nf n d nr h w g m (h.2.1 48) ∧ h'.2.1 49 = gps nf n d nr h w g m (h.2.1 49) := by
  obtain ⟨F, eF, -⟩ := zF_ex
  rw [← eF]
  have hF : goF [21, 22, 27, 28, 29, 30, 31, 32, 33, 34, 35, 36, 38, 39, 40, 41, 42, 43, 44, 45, 46, 47, 48, 49, 65, 66, 70, 71] [(0, 0), (15, 9), (23, 4), (37, 3), (37, 4)] = true := by decide
  have hF2 : wfR [21, 22, 27, 28, 29, 30, 31, 32, 33, 34, 35, 36, 38, 39, 40, 41, 42, 43, 44, 45, 46, 47, 48, 49, 65, 66, 70, 71] [(0, 0), (15, 9), (23, 4), (37, 3), (37, 4)] = true := by decide
  have key := zlp_k eF (b := fun s => f_N_go_l14_b (nI p) s.1 s.2) (o := fun s => f_N_go_l14_b_ok (nI p) s.1 s.2) m (by omega) 0
    (fun j x => zWr [21, 22, 27, 28, 29, 30, 31, 32, 33, 34, 35, 36, 38, 39, 40, 41, 42, 43, 44, 45, 46, 47, 48, 49, 65, 66, 70, 71] [(0, 0), (15, 9), (23, 4), (37, 3), (37, 4)] h x ∧ zf x 0 0 = nI (w + j) ∧ zf x 37 3 = nI (w + j) ∧ rlN nr (gos nf n d nr h w j g) x ∧ x.2.1 47 = gpw nf n d nr h w g j (h.2.1 47) ∧ x.2.1 48 = gpy nf n d nr h w g j (h.2.1 48) ∧ x.2.1 49 = gps nf n d nr h w g j (h.2.1 49)) h ⟨zWr.refl _ _, et, e3, L, rfl, rfl, rfl⟩
    (by
      rintro j x hj ⟨p1, p2, p3, p4, p5, p6, p7⟩
      rw [Nat.zero_add]
      have g1 : ¬ (nI p ≤ nI j) := by rw [nx_le (by omega) (by omega)]; omega
      have g2 : ¬ ((480 : Int32) ≤ nI (w + j)) := by rw [show (480 : Int32) = nI 480 from rfl, nx_le (by omega) (by omega)]; omega
      obtain ⟨a1, a2, a3, a4, a5, a6, a7⟩ := pn_N (w := w + j) (w0 := w) (n := n) (d := d) (by omega) (I_rl_w hF2 p1 H) (I_rf_w p1 (by decide) R) (I_sw_z (p1.eq (by decide) (by decide)) S) p2 (gos_ok R S G j (by omega)) p4 rfl rfl
      have aw := f_N_passNow_w x
      have eE : (fun c nm => Ev nf x c (nI (w + j)) nm) = (fun c nm => Ev nf h c (nI (w + j)) nm) := by funext c nm; exact Ev_w hF2 p1 c _ nm
      have eS : seaP x n d (w + j) = seaP h n d (w + j) := seaP_eq (fun i hi => goF_a hF p1 (by simp at hi ⊢; omega)) n d (w + j)
      rw [eE, eS, goF_a hF p1 (i := 112) (by simp), goF_a hF p1 (i := 113) (by simp)] at a4 a5 a7
      rw [eE, eS, goF_a hF p1 (i := 112) (by simp), goF_a hF p1 (i := 113) (by simp), goF_a hF p1 (i := 114) (by simp)] at a6
      dsimp only
      unfold f_N_go_l14_b f_N_go_l14_b_ok f_N_go_l14_k33
      rw [if_neg g1, p2, if_neg g2, ← nI_succ]
      refine ⟨⟨fun z => absurd z g1, fun _ => ⟨fun z => absurd z g2, fun _ => a1⟩⟩, _, rfl, zWr_tr aw (by decide) (by decide) p1, a2, a3, by rw [gos]; exact a4, by rw [gpw, ← p5]; exact a5, by rw [gpy, ← p6]; exact a6, ?_⟩
      rw [gps, ← p7]
      funext i
      exact a7 i)
    (by
      rintro x ⟨p1, p2, -⟩
      rw [Nat.zero_add]
      dsimp only
      unfold f_N_go_l14_b f_N_go_l14_b_ok
      rw [p2]
      by_cases c : nI p ≤ nI m
      · rw [if_pos c]; exact ⟨⟨fun _ => trivial, fun z => absurd c z⟩, rfl⟩
      · have c2 : (480 : Int32) ≤ nI (w + m) := by
          rw [nx_le (by omega) (by omega)] at c
          rw [show (480 : Int32) = nI 480 from rfl, nx_le (by omega) (by omega)]; omega
        rw [if_neg c, if_pos c2]
        exact ⟨⟨fun z => absurd z c, fun _ => ⟨fun _ => trivial, fun z => absurd c2 z⟩⟩, rfl⟩)
  rw [Nat.zero_add] at key
  exact key
theorem go_M {ns nf nr w n d : Nat} (hw : w ≤ 480) {h : zm_H} (H : I_rl ns nf h) (R : I_rf w nr h) (S : I_sw w n d h) (et : zf h 92 23 = nI w) {g : GS} (G : gOK nr w w g) (L : rlM g h) {p : Nat} (hp : p ≤ 80) {m : Nat} (em : m = min p (480 - w)) :
    f_M_go_l14_ok (nI p) zF (0, h) ∧ ∃ h', f_M_go_l14 (nI p) zF (0, h) = (1, nI m, h') ∧ zWr [118, 119, 120, 121, 122, 123, 124, 125, 126, 127, 128, 129, 130, 131, 132, 133, 138, 139, 144, 145, 149, 150, 151, 152, 153] [(92, 23), (92, 41), (92, 79), (92, 80), (92, 81), (92, 87), (92, 88)] h h' ∧ zf h' 92 23 = nI (w + m) ∧ rlM (gos nf n d nr h w m g) h' ∧ vM 1 h' = vM 1 h ∧ h'.2.1 131 = gpw nf n d nr h w g m (h.2.1 131) ∧ h'.2.1 132 = gpy nf n d nr h w g m (h.2.1 132) ∧ h'.2.1 133 = gps nf n d nr h w g m (h.2.1 133) := by
  obtain ⟨F, eF, -⟩ := zF_ex
  rw [← eF]
  have hF : goF [118, 119, 120, 121, 122, 123, 124, 125, 126, 127, 128, 129, 130, 131, 132, 133, 138, 139, 144, 145, 149, 150, 151, 152, 153] [(92, 23), (92, 41), (92, 79), (92, 80), (92, 81), (92, 87), (92, 88)] = true := by decide
  have hF2 : wfR [118, 119, 120, 121, 122, 123, 124, 125, 126, 127, 128, 129, 130, 131, 132, 133, 138, 139, 144, 145, 149, 150, 151, 152, 153] [(92, 23), (92, 41), (92, 79), (92, 80), (92, 81), (92, 87), (92, 88)] = true := by decide
  have key := zlp_k eF (b := fun s => f_M_go_l14_b (nI p) s.1 s.2) (o := fun s => f_M_go_l14_b_ok (nI p) s.1 s.2) m (by omega) 0
    (fun j x => zWr [118, 119, 120, 121, 122, 123, 124, 125, 126, 127, 128, 129, 130, 131, 132, 133, 138, 139, 144, 145, 149, 150, 151, 152, 153] [(92, 23), (92, 41), (92, 79), (92, 80), (92, 81), (92, 87), (92, 88)] h x ∧ zf x 92 23 = nI (w + j) ∧ rlM (gos nf n d nr h w j g) x ∧ vM 1 x = vM 1 h ∧ x.2.1 131 = gpw nf n d nr h w g j (h.2.1 131) ∧ x.2.1 132 = gpy nf n d nr h w g j (h.2.1 132) ∧ x.2.1 133 = gps nf n d nr h w g j (h.2.1 133)) h ⟨zWr.refl _ _, et, L, rfl, rfl, rfl, rfl⟩
    (by
      rintro j x hj ⟨p1, p2, p4, p3, p5, p6, p7⟩
      rw [Nat.zero_add]
      have g1 : ¬ (nI p ≤ nI j) := by rw [nx_le (by omega) (by omega)]; omega
      have g2 : ¬ ((480 : Int32) ≤ nI (w + j)) := by rw [show (480 : Int32) = nI 480 from rfl, nx_le (by omega) (by omega)]; omega
      obtain ⟨a1, a2, a4, a3, a5, a6, a7⟩ := sp_M (w := w + j) (w0 := w) (n := n) (d := d) (by omega) (by omega) (I_rl_w hF2 p1 H) (I_rf_w p1 (by decide) R) (I_sw_z (p1.eq (by decide) (by decide)) S) p2 (gos_ok R S G j (by omega)) p4 rfl rfl
      have aw := f_M_spell_w x
      have eE : (fun c nm => Ev nf x c (nI (w + j)) nm) = (fun c nm => Ev nf h c (nI (w + j)) nm) := by funext c nm; exact Ev_w hF2 p1 c _ nm
      have eS : seaP x n d (w + j) = seaP h n d (w + j) := seaP_eq (fun i hi => goF_a hF p1 (by simp at hi ⊢; omega)) n d (w + j)
      rw [eE, eS, goF_a hF p1 (i := 112) (by simp), goF_a hF p1 (i := 113) (by simp)] at a4 a5 a7
      rw [eE, eS, goF_a hF p1 (i := 112) (by simp), goF_a hF p1 (i := 113) (by simp), goF_a hF p1 (i := 114) (by simp)] at a6
      dsimp only
      unfold f_M_go_l14_b f_M_go_l14_b_ok f_M_go_l14_k33
      rw [if_neg g1, p2, if_neg g2, ← nI_succ]
      refine ⟨⟨fun z => absurd z g1, fun _ => ⟨fun z => absurd z g2, fun _ => a1⟩⟩, _, rfl, zWr_tr aw (by decide) (by decide) p1, a2, by rw [gos]; exact a4, a3.trans p3, by rw [gpw, ← p5]; exact a5, by rw [gpy, ← p6]; exact a6, ?_⟩
      rw [gps, ← p7]
      funext i
      exact a7 i)
    (by
      rintro x ⟨p1, p2, -⟩
      rw [Nat.zero_add]
      dsimp only
      unfold f_M_go_l14_b f_M_go_l14_b_ok
      rw [p2]
      by_cases c : nI p ≤ nI m
      · rw [if_pos c]; exact ⟨⟨fun _ => trivial, fun z => absurd c z⟩, rfl⟩
      · have c2 : (480 : Int32) ≤ nI (w + m) := by
          rw [nx_le (by omega) (by omega)] at c
          rw [show (480 : Int32) = nI 480 from rfl, nx_le (by omega) (by omega)]; omega
        rw [if_neg c, if_pos c2]
        exact ⟨⟨fun z => absurd z c, fun _ => ⟨fun _ => trivial, fun z => absurd c2 z⟩⟩, rfl⟩)
  rw [Nat.zero_add] at key
  exact key
