/-! ===== all SPELLS anew, as one function ===== -/
def an0 : Nat → Nat → Int32 := fun i k => if i < 8 ∧ k < zsz i then (if i = 1 ∨ i = 7 then -1 else 0) else 0
def anR (E : Nat → Nat → (Nat → Int32) → Int32) (sz su sea : Nat → Int32) (T : Nat → Nat → Int32) (nt nr : Nat) : Nat → (Nat → Nat → Int32) × Nat
  | 0 => (an0, 0)
  | t + 1 => (pS3 (E t) sz su (sea t) (nI t) nr (thI T (anR E sz su sea T nt nr t).2 (thn T nt (nI t) (anR E sz su sea T nt nr t).2 201) (anR E sz su sea T nt nr t).1), (anR E sz su sea T nt nr t).2 + thn T nt (nI t) (anR E sz su sea T nt nr t).2 201)
def anH (nf nr nt q d : Nat) (h : zm_H) (t : Nat) : (Nat → Nat → Int32) × Nat := anR (fun t c nm => Ev nf h c (nI t) nm) (h.2.1 112) (h.2.1 113) (seaP h q d) (tB h) nt nr t
def bnH (nf nr nt q d : Nat) (h : zm_H) (t : Nat) : Nat → Nat → Int32 := thI (tB h) (anH nf nr nt q d h t).2 (thn (tB h) nt (nI t) (anH nf nr nt q d h t).2 201) (anH nf nr nt q d h t).1
def oT (nf nr nt q d : Nat) (h : zm_H) (t : Nat) : Int32 := pTot (fun c nm => Ev nf h c (nI t) nm) (h.2.1 112) (h.2.1 113) (seaP h q d t) (nI t) nr (bnH nf nr nt q d h t)
def oP (nf nr nt q d : Nat) (h : zm_H) (t : Nat) : Int32 := pPay (fun c nm => Ev nf h c (nI t) nm) (h.2.1 112) (h.2.1 113) (h.2.1 114) (seaP h q d t) (nI t) nr (bnH nf nr nt q d h t)
def oF (nf nr nt q d : Nat) (h : zm_H) (t : Nat) : Nat → Int32 := pFl (fun c nm => Ev nf h c (nI t) nm) (h.2.1 112) (h.2.1 113) (seaP h q d t) (nI t) nr (bnH nf nr nt q d h t)
theorem anH_s (nf nr nt q d : Nat) (h : zm_H) (t : Nat) : anH nf nr nt q d h (t + 1) = (pS3 (fun c nm => Ev nf h c (nI t) nm) (h.2.1 112) (h.2.1 113) (seaP h q d t) (nI t) nr (bnH nf nr nt q d h t), (anH nf nr nt q d h t).2 + thn (tB h) nt (nI t) (anH nf nr nt q d h t).2 201) := rfl
theorem thS_B (h : zm_H) (k : Nat) (S : Nat → Nat → Int32) : thS (tT h) k S = thS (tB h) k S := rfl
theorem thI_B (h : zm_H) (k : Nat) : ∀ m S, thI (tT h) k m S = thI (tB h) k m S := by
  intro m
  induction m with
  | zero => intro S; rfl
  | succ m ih => intro S; rw [thI_s, thI_s, ih S, thS_B]
theorem thn_B (h : zm_H) (nt : Nat) (t : Int32) : ∀ f k, thn (tT h) nt t k f = thn (tB h) nt t k f := by
  intro f
  induction f with
  | zero => intro k; rfl
  | succ f ih =>
    intro k
    rw [thn, thn, ih (k + 1)]
    rfl
theorem an0_ok (nr : Nat) : vOK nr 0 an0 := by
  have a : ∀ i k, i < 8 → k < zsz i → an0 i k = if i = 1 ∨ i = 7 then -1 else 0 := fun i k h1 h2 => by unfold an0; rw [if_pos ⟨h1, h2⟩]
  have e0 : ∀ r, r < 10 → an0 0 r = 0 := fun r hr => by rw [a 0 r (by omega) hr]; rfl
  have e1 : ∀ r, r < 10 → an0 1 r = -1 := fun r hr => by rw [a 1 r (by omega) hr]; rfl
  have e2 : ∀ r, r < 10 → an0 2 r = 0 := fun r hr => by rw [a 2 r (by omega) hr]; rfl
  have e3 : ∀ r, r < 10 → an0 3 r = 0 := fun r hr => by rw [a 3 r (by omega) hr]; rfl
  have e5 : ∀ r, r < 30 → an0 5 r = 0 := fun r hr => by rw [a 5 r (by omega) hr]; rfl
  have e6 : ∀ r, r < 30 → an0 6 r = 0 := fun r hr => by rw [a 6 r (by omega) hr]; rfl
  have e7 : ∀ r, r < 30 → an0 7 r = -1 := fun r hr => by rw [a 7 r (by omega) hr]; rfl
  refine ⟨fun r hr => Or.inl (e0 r hr), fun r hr z => ?_, fun r hr _ => ⟨e1 r hr, fun c hc z => ?_⟩, fun r _ hr => e0 r hr, fun r q hr hq _ => Or.inr (e1 r hr), fun r hr => ?_, fun i hi => ?_⟩
  · rw [e0 r hr] at z; exact absurd z (by decide)
  · unfold hld at z; rw [e5 _ (by omega)] at z; exact z.1 (by decide)
  · rw [e2 r hr, e3 r hr]; decide
  · rw [e5 i hi, e6 i hi, e7 i hi]; exact ⟨Or.inl rfl, by decide, by decide, Or.inl rfl⟩
theorem bnH_ok {w nf nr nt q d : Nat} {h : zm_H} (R : I_rf w nr h) (T : I_th nr nt h) {t : Nat} (V : vOK nr t (anH nf nr nt q d h t).1 ∧ (anH nf nr nt q d h t).2 ≤ nt) : vOK nr t (bnH nf nr nt q d h t) ∧ (anH nf nr nt q d h t).2 + thn (tB h) nt (nI t) (anH nf nr nt q d h t).2 201 ≤ nt := by
  obtain ⟨v1, v2⟩ := V
  have a := (thn_spec (tT h) nt (nI t) 201 (anH nf nr nt q d h t).2 (by have := T.1.1; omega) v2).2.2
  have b := vOK_thI R.1.1 T v1 (k := (anH nf nr nt q d h t).2) (thn (tT h) nt (nI t) (anH nf nr nt q d h t).2 201) a
  rw [thI_B, thn_B] at b
  rw [thn_B] at a
  exact ⟨b, a⟩
theorem anH_ok {w w0 nf nr nt q d n e : Nat} {h : zm_H} (R : I_rf w nr h) (S : I_sw w0 n e h) (T : I_th nr nt h) (hq : q ≤ n) : ∀ t, t ≤ 480 → vOK nr t (anH nf nr nt q d h t).1 ∧ (anH nf nr nt q d h t).2 ≤ nt := by
  intro t
  induction t with
  | zero => intro _; exact ⟨an0_ok nr, Nat.zero_le _⟩
  | succ t ih =>
    intro ht
    obtain ⟨a, b⟩ := bnH_ok R T (ih (by omega))
    rw [anH_s]
    exact ⟨(vOK_p R.1.1 (by omega) a (szOK_of R) (sea_ok S hq) (by omega) _).2.2.2, b⟩
def anF (W : List Nat) (F : List (Nat × Nat)) : Bool := goF W F && W.all (fun i => !([27, 28, 29, 30, 31] : List Nat).contains i) && F.all (fun p => !([27, 28, 29, 30, 31] : List Nat).contains p.1)
theorem anF_t {W : List Nat} {F : List (Nat × Nat)} (hw : anF W F = true) {h h' : zm_H} (w : zWr W F h h') : tB h' = tB h := by
  unfold anF at hw
  rw [Bool.and_eq_true, Bool.and_eq_true, List.all_eq_true, List.all_eq_true] at hw
  refine tB_eq (fun i hi => w.arr (27 + i) (fun z => ?_) (fun p hp e => ?_))
  · have := hw.1.2 _ z
    simp at this
    omega
  · have := hw.2 p hp
    rw [e] at this
    simp at this
    omega
theorem anH_w {nf nr nt q d : Nat} {W : List Nat} {F : List (Nat × Nat)} (hw : anF W F = true) {h h' : zm_H} (z : zWr W F h h') (t : Nat) : anH nf nr nt q d h' t = anH nf nr nt q d h t ∧ bnH nf nr nt q d h' t = bnH nf nr nt q d h t ∧ oT nf nr nt q d h' t = oT nf nr nt q d h t ∧ oP nf nr nt q d h' t = oP nf nr nt q d h t ∧ oF nf nr nt q d h' t = oF nf nr nt q d h t := by
  have hg : goF W F = true := by
    unfold anF at hw
    rw [Bool.and_eq_true, Bool.and_eq_true] at hw
    exact hw.1.1
  have hw2 : wfR W F = true := by
    have hg' := hg
    unfold goF at hg'
    rw [Bool.and_eq_true, Bool.and_eq_true] at hg'
    exact hg'.1.1
  have eE : ∀ k, (fun c nm => Ev nf h' c (nI k) nm) = (fun c nm => Ev nf h c (nI k) nm) := fun k => by funext c nm; exact Ev_w hw2 z c (nI k) nm
  have eE2 : (fun t c nm => Ev nf h' c (nI t) nm) = (fun t c nm => Ev nf h c (nI t) nm) := by funext k c nm; exact Ev_w hw2 z c (nI k) nm
  have eS : seaP h' q d = seaP h q d := by funext k; exact seaP_eq (fun i hi => goF_a hg z (by simp at hi ⊢; omega)) q d k
  have eT := anF_t hw z
  have a : anH nf nr nt q d h' t = anH nf nr nt q d h t := by
    unfold anH
    rw [eE2, eS, eT, goF_a hg z (i := 112) (by simp), goF_a hg z (i := 113) (by simp)]
  have b : bnH nf nr nt q d h' t = bnH nf nr nt q d h t := by
    unfold bnH
    rw [a, eT]
  refine ⟨a, b, ?_, ?_, ?_⟩
  · unfold oT; rw [b, eE, eS, goF_a hg z (i := 112) (by simp), goF_a hg z (i := 113) (by simp)]
  · unfold oP; rw [b, eE, eS, goF_a hg z (i := 112) (by simp), goF_a hg z (i := 113) (by simp), goF_a hg z (i := 114) (by simp)]
  · unfold oF; rw [b, eE, eS, goF_a hg z (i := 112) (by simp), goF_a hg z (i := 113) (by simp)]
/-- the class's second course x stands at G, by what h says -/
def rA (nf nr nt q d G : Nat) (h x : zm_H) : Prop := zf x 50 3 = nI G ∧ zf x 50 4 = nI (anH nf nr nt q d h G).2 ∧ vC 51 x = (anH nf nr nt q d h G).1 ∧ ∀ t, t < G → x.2.1 60 t = oT nf nr nt q d h t ∧ x.2.1 61 t = oP nf nr nt q d h t ∧ ∀ c, c < 10 → x.2.1 62 (10 * t + c) = oF nf nr nt q d h t c
theorem rA_w {nf nr nt q d G : Nat} {W : List Nat} {F : List (Nat × Nat)} (hw : anF W F = true) {h h' x : zm_H} (z : zWr W F h h') (A : rA nf nr nt q d G h x) : rA nf nr nt q d G h' x := by
  obtain ⟨a, b, c, e⟩ := A
  refine ⟨a, ?_, ?_, fun t ht => ?_⟩
  · rw [(anH_w hw z G).1]; exact b
  · rw [(anH_w hw z G).1]; exact c
  · rw [(anH_w hw z t).2.2.1, (anH_w hw z t).2.2.2.1, (anH_w hw z t).2.2.2.2]; exact e t ht
theorem I_th_w {W : List Nat} {F : List (Nat × Nat)} {h h' : zm_H} (w : zWr W F h h') {nr nt : Nat} (h1 : (W.all (fun i => ![23, 27, 28, 29, 30, 31, 92, 118, 119, 120, 121, 122].contains i) && F.all (fun p => ![27, 28, 29, 30, 31, 118, 119, 120, 121, 122].contains p.1 && p != (23, 4) && p != (92, 41))) = true) (T : I_th nr nt h) : I_th nr nt h' := by
  rw [Bool.and_eq_true, List.all_eq_true, List.all_eq_true] at h1
  have a : ∀ i, i ∈ [27, 28, 29, 30, 31, 118, 119, 120, 121, 122] → h'.2.1 i = h.2.1 i := by
    intro i hi
    refine w.arr i (fun z => ?_) (fun p hp z => ?_)
    · have := h1.1 i z
      simp at this hi
      omega
    · have := h1.2 p hp
      rw [z] at this
      simp at this hi
      omega
  have f : ∀ i k, ((i, k) = (23, 4) ∨ (i, k) = (92, 41)) → h'.2.1 i k = h.2.1 i k := by
    intro i k hik
    refine w.fld i k (fun z => ?_) (fun z => ?_)
    · have := h1.1 i z
      simp at this hik
      omega
    · have := h1.2 _ z
      simp at this hik
      omega
  obtain ⟨⟨r1, r2, r3⟩, ⟨r4, r5, r6⟩, r7⟩ := T
  refine ⟨⟨r1, (f 23 4 (Or.inl rfl)).trans r2, (f 92 41 (Or.inr rfl)).trans r3⟩, ⟨?_, ?_, ?_⟩, ?_⟩
  · rw [a 27 (by decide), a 118 (by decide)]; exact r4
  · rw [a 29 (by decide), a 120 (by decide)]; exact r5
  · rw [a 31 (by decide), a 122 (by decide)]; exact r6
  · rw [a 28 (by decide), a 29 (by decide), a 30 (by decide), a 31 (by decide), a 119 (by decide), a 121 (by decide)]; exact r7
/-- the class goes on up to a SPELL -/
theorem gl_N {ns nf nr nt n e w q d : Nat} {h : zm_H} (H : I_rl ns nf h) (R : I_rf w nr h) (S : I_sw w n e h) (T : I_th nr nt h) (hq : q ≤ n) (hd : d ≤ e) {G sp : Nat} (hG : G ≤ 480) (A : rA nf nr nt q d G h h) (hsp : sp < 480) :
    f_N_goAnew_l63_ok (nI sp) (nI q) (nI d) zF (zf h 50 3, h) ∧ ∃ h', f_N_goAnew_l63 (nI sp) (nI q) (nI d) zF (zf h 50 3, h) = (1, nI (G + (sp + 1 - G)), h') ∧ zWr [21, 22, 32, 33, 34, 35, 36, 51, 52, 53, 54, 55, 56, 57, 58, 59, 60, 61, 62] [(15, 9), (50, 3), (50, 4)] h h' ∧ rA nf nr nt q d (G + (sp + 1 - G)) h h' := by
  obtain ⟨F, eF, -⟩ := zF_ex
  rw [← eF, A.1]
  have hF : anF [21, 22, 32, 33, 34, 35, 36, 51, 52, 53, 54, 55, 56, 57, 58, 59, 60, 61, 62] [(15, 9), (50, 3), (50, 4)] = true := by decide
  have hF1 : goF [21, 22, 32, 33, 34, 35, 36, 51, 52, 53, 54, 55, 56, 57, 58, 59, 60, 61, 62] [(15, 9), (50, 3), (50, 4)] = true := by decide
  have hF2 : wfR [21, 22, 32, 33, 34, 35, 36, 51, 52, 53, 54, 55, 56, 57, 58, 59, 60, 61, 62] [(15, 9), (50, 3), (50, 4)] = true := by decide
  refine zlp_k eF (b := fun s => f_N_goAnew_l63_b (nI sp) (nI q) (nI d) s.1 s.2) (o := fun s => f_N_goAnew_l63_b_ok (nI sp) (nI q) (nI d) s.1 s.2) (sp + 1 - G) (by omega) G
    (fun j x => zWr [21, 22, 32, 33, 34, 35, 36, 51, 52, 53, 54, 55, 56, 57, 58, 59, 60, 61, 62] [(15, 9), (50, 3), (50, 4)] h x ∧ rA nf nr nt q d (G + j) h x) h ⟨zWr.refl _ _, A⟩ ?_ ?_
  · rintro j x hj ⟨p1, p2, p3, p4, p5⟩
    have g1 : ¬ (nI sp < nI (G + j)) := by rw [i_lt, i_nI (by omega), i_nI (by omega)]; omega
    have g2 : ¬ ((480 : Int32) ≤ nI (G + j)) := by rw [show (480 : Int32) = nI 480 from rfl, nx_le (by omega) (by omega)]; omega
    have ht : G + j < 480 := by omega
    obtain ⟨t, et⟩ : ∃ t, t = G + j := ⟨_, rfl⟩
    rw [← et] at p2 p3 p4 p5 g1 g2 ht ⊢
    obtain ⟨l1, l2⟩ := sw_lk (I_sw_z (p1.eq (by decide) (by decide)) S) ht hq hd
    obtain ⟨V, hk⟩ := anH_ok (nf := nf) (d := d) R S T hq t (by omega)
    have eE : (fun c nm => Ev nf x c (nI t) nm) = (fun c nm => Ev nf h c (nI t) nm) := by funext c nm; exact Ev_w hF2 p1 c _ nm
    have eS : seaP x q d t = seaP h q d t := seaP_eq (fun i hi => goF_a hF1 p1 (by simp at hi ⊢; omega)) q d t
    have eT := anF_t hF p1
    rw [eS] at l2
    have hs : rdOK (seaP h q d t) := sea_ok S hq
    obtain ⟨a1, a2, a3, a4, a5, a6, a7, a8⟩ := pas_50 ht (I_rl_w hF2 p1 H) (I_rf_w p1 (by decide) R) (I_th_w p1 (by decide) T) (by rw [p4]; exact V) hs ht hk p3
    have hb : thI (tB h) (anH nf nr nt q d h t).2 (thn (tB h) nt (nI t) (anH nf nr nt q d h t).2 201) (anH nf nr nt q d h t).1 = bnH nf nr nt q d h t := by unfold bnH; rfl
    rw [eE, thI_B, thn_B, eT, goF_a hF1 p1 (i := 112) (by simp), goF_a hF1 p1 (i := 113) (by simp), p4, hb] at a5 a6
    rw [eE, thI_B, thn_B, eT, goF_a hF1 p1 (i := 112) (by simp), goF_a hF1 p1 (i := 113) (by simp), goF_a hF1 p1 (i := 114) (by simp), p4, hb] at a7
    have a8' : ∀ c, (f_Course_pass_50 (nI t) (seaP h q d t) x).2.1 62 c = if 10 * t ≤ c ∧ c < 10 * t + 10 then oF nf nr nt q d h t (c - 10 * t) else x.2.1 62 c := fun c => by
      rw [a8 c, eE, thI_B, thn_B, eT, goF_a hF1 p1 (i := 112) (by simp), goF_a hF1 p1 (i := 113) (by simp), p4, hb]
      unfold oF
      rfl
    rw [thn_B, eT] at a4
    dsimp only
    unfold f_N_goAnew_l63_b f_N_goAnew_l63_b_ok f_N_goAnew_l63_k98
    rw [if_neg g1, if_neg g2, l2, ← nI_succ]
    refine ⟨⟨fun z => absurd z g1, fun _ => ⟨fun z => absurd z g2, fun _ => ⟨l1, a1⟩⟩⟩, _, rfl, zWr_tr a2 (by decide) (by decide) p1, ?_⟩
    rw [show G + (j + 1) = t + 1 by omega]
    have q4 : zf (f_Course_pass_50 (nI t) (seaP h q d t) x) 50 4 = nI (anH nf nr nt q d h (t + 1)).2 := by rw [a4, anH_s]
    have q5 : vC 51 (f_Course_pass_50 (nI t) (seaP h q d t) x) = (anH nf nr nt q d h (t + 1)).1 := by rw [a5, anH_s]
    generalize f_Course_pass_50 (nI t) (seaP h q d t) x = X at a2 a3 a6 a7 a8' q4 q5
    refine ⟨a3, q4, q5, fun u hu => ?_⟩
    by_cases cu : u = t
    · subst cu
      refine ⟨?_, ?_, fun c hc => ?_⟩
      · rw [a6]; unfold upd; rw [if_pos rfl]; unfold oT; rfl
      · rw [a7]; unfold upd; rw [if_pos rfl]; unfold oP; rfl
      · rw [a8', if_pos ⟨by omega, by omega⟩, show 10 * u + c - 10 * u = c by omega]
    · obtain ⟨b1, b2, b3⟩ := p5 u (by omega)
      refine ⟨?_, ?_, fun c hc => ?_⟩
      · rw [a6]; unfold upd; rw [if_neg cu]; exact b1
      · rw [a7]; unfold upd; rw [if_neg cu]; exact b2
      · rw [a8', if_neg (by omega)]; exact b3 c hc
  · rintro x ⟨p1, p2⟩
    dsimp only
    unfold f_N_goAnew_l63_b f_N_goAnew_l63_b_ok
    have g1 : nI sp < nI (G + (sp + 1 - G)) := by rw [i_lt, i_nI (by omega), i_nI (by omega)]; omega
    rw [if_pos g1]
    exact ⟨⟨fun _ => trivial, fun z => absurd g1 z⟩, rfl⟩
