/-! ===== what is told later changes no SPELL that was gone through ===== -/
theorem fld_x {α : Type} {f g : Nat → α → α} : ∀ n, (∀ k, k < n → ∀ a, f k a = g k a) → ∀ a, fld f n a = fld g n a := by
  intro n
  induction n with
  | zero => intro _ a; rfl
  | succ n ih =>
    intro h a
    rw [fld, fld, ih (fun k hk => h k (by omega)), h n (by omega)]
theorem nmR_x {S : Nat → Nat → Int32} {sz sz' : Nat → Int32} {sea t : Int32} {r : Nat} (e : sz' r = sz r) : nmR S sz' sea t r = nmR S sz sea t r := by
  unfold nmR
  rw [e]
theorem snk_x {E E' : Nat → (Nat → Int32) → Int32} {sz sz' : Nat → Int32} {sea t : Int32} {r : Nat} (hE : ∀ c nm, c < 4 → E' c nm = E c nm) (e : sz' r = sz r) (S : Nat → Nat → Int32) : snk E' sz' sea t r S = snk E sz sea t r S := by
  unfold snk
  rw [nmR_x e, hE 0 _ (by omega), hE 1 _ (by omega)]
theorem rwF_x {S : Nat → Nat → Int32} {nr : Nat} (hnr : nr ≤ 10) {sz su sz' su' : Nat → Int32} (e : ∀ r, r < nr → sz' r = sz r ∧ su' r = su r) (per : Int32) (y : Nat) (fl : Nat → Int32) : rwF S nr sz' su' per y fl = rwF S nr sz su per y fl := by
  funext c
  unfold rwF
  rcases rat_c S (nI (10 * c + y)) nr with ⟨a, -⟩ | ⟨q, hq, a, -, -⟩
  · rw [a, if_pos (by decide), if_pos (by decide)]
  · rw [a, nI_c (by omega), (e q hq).1, (e q hq).2]
theorem rwT_x {S : Nat → Nat → Int32} {nr : Nat} {sz su sz' su' : Nat → Int32} (e : ∀ r, r < nr → sz' r = sz r ∧ su' r = su r) (per : Int32) (y : Nat) (fl tk : Nat → Int32) : rwT S nr sz' su' per y fl tk = rwT S nr sz su per y fl tk := by
  funext r
  unfold rwT
  by_cases c : r < nr ∧ S 0 r = 1 ∧ zm_rm (S 1 r) 10 = nI y
  · rw [if_pos c, if_pos c, (e r c.1).1, (e r c.1).2]
  · rw [if_neg c, if_neg c]
theorem wvs_x {S : Nat → Nat → Int32} {nr : Nat} (hnr : nr ≤ 10) {sz su sz' su' : Nat → Int32} (e : ∀ r, r < nr → sz' r = sz r ∧ su' r = su r) (sea : Int32) : ∀ y, wvs S nr sz' su' sea y = wvs S nr sz su sea y := by
  intro y
  induction y with
  | zero => rfl
  | succ y ih => rw [wvs, wvs, ih, rwF_x hnr e, rwT_x e]
theorem wv_x {S : Nat → Nat → Int32} {nr : Nat} (hnr : nr ≤ 10) {sz su sz' su' : Nat → Int32} (e : ∀ r, r < nr → sz' r = sz r ∧ su' r = su r) (sea : Int32) : wvF S nr sz' su' sea = wvF S nr sz su sea ∧ wvT S nr sz' su' sea = wvT S nr sz su sea := by
  unfold wvF wvT
  rw [wvs_x hnr e, rwF_x hnr e, rwT_x e]
  exact ⟨rfl, rfl⟩
theorem chn_x {sz sz' : Nat → Int32} {sea t : Int32} {r : Nat} (e : sz' r = sz r) (S : Nat → Nat → Int32) : chn sz' sea t r S = chn sz sea t r S := by
  unfold chn
  rw [e]
theorem pys_x {E E' : Nat → (Nat → Int32) → Int32} {S : Nat → Nat → Int32} {sz cm sz' cm' : Nat → Int32} {sea t : Int32} (hE : ∀ c nm, c < 4 → E' c nm = E c nm) : ∀ n, (∀ r, r < n → sz' r = sz r ∧ cm' r = cm r) → pys E' S sz' cm' sea t n = pys E S sz cm sea t n := by
  intro n
  induction n with
  | zero => intro _; rfl
  | succ n ih =>
    intro e
    rw [pys, pys, ih (fun r hr => e r (by omega)), (e n (by omega)).2, nmR_x (e n (by omega)).1, hE 3 _ (by omega)]
theorem p_x {E E' : Nat → (Nat → Int32) → Int32} {nr : Nat} (hnr : nr ≤ 10) {sz su cm sz' su' cm' : Nat → Int32} (hE : ∀ c nm, c < 4 → E' c nm = E c nm) (e : ∀ r, r < nr → sz' r = sz r ∧ su' r = su r ∧ cm' r = cm r) (sea t : Int32) (S : Nat → Nat → Int32) : pS3 E' sz' su' sea t nr S = pS3 E sz su sea t nr S ∧ pTot E' sz' su' sea t nr S = pTot E sz su sea t nr S ∧ pPay E' sz' su' cm' sea t nr S = pPay E sz su cm sea t nr S ∧ pFl E' sz' su' sea t nr S = pFl E sz su sea t nr S := by
  have e2 : ∀ r, r < nr → sz' r = sz r ∧ su' r = su r := fun r hr => ⟨(e r hr).1, (e r hr).2.1⟩
  have s1 : pS1 E' sz' sea t nr S = pS1 E sz sea t nr S := fld_x nr (fun k hk a => snk_x hE (e k hk).1 a) S
  have tk : pTk E' sz' su' sea t nr S = pTk E sz su sea t nr S := by unfold pTk; rw [s1, (wv_x hnr e2 sea).2]
  have s2 : pS2 E' sz' su' sea t nr S = pS2 E sz su sea t nr S := by unfold pS2; rw [s1, tk]
  have s3 : pS3 E' sz' su' sea t nr S = pS3 E sz su sea t nr S := by
    unfold pS3
    rw [s2]
    exact fld_x nr (fun k hk a => chn_x (e k hk).1 a) _
  refine ⟨s3, ?_, ?_, ?_⟩
  · unfold pTot; rw [s1, tk]
  · unfold pPay; rw [s3]; exact pys_x hE nr (fun r hr => ⟨(e r hr).1, (e r hr).2.2⟩)
  · unfold pFl; rw [s1, (wv_x hnr e2 sea).1]
theorem thn_x {T T' : Nat → Nat → Int32} {nt nt' : Nat} {t : Int32} (hn : nt ≤ nt') (hT : ∀ k, k < nt → T' 0 k = T 0 k) (hl : ∀ k, nt ≤ k → k < nt' → ¬ (T' 0 k ≤ t)) : ∀ f k, k ≤ nt → thn T' nt' t k f = thn T nt t k f := by
  intro f
  induction f with
  | zero => intro k _; rfl
  | succ f ih =>
    intro k hk
    rw [thn, thn]
    by_cases c : k < nt
    · rw [hT k c]
      by_cases d : T 0 k ≤ t
      · rw [if_pos ⟨by omega, d⟩, if_pos ⟨c, d⟩, ih (k + 1) (by omega)]
      · rw [if_neg (fun z => d z.2), if_neg (fun z => d z.2)]
    · have a : ¬ (k < nt' ∧ T' 0 k ≤ t) := fun z => hl k (by omega) z.1 z.2
      rw [if_neg a, if_neg (fun z => c z.1)]
theorem thI_x {T T' : Nat → Nat → Int32} {nt k : Nat} (hT : ∀ i j, j < nt → T' i j = T i j) : ∀ m, k + m ≤ nt → ∀ S, thI T' k m S = thI T k m S := by
  intro m hm S
  unfold thI
  refine fld_x m (fun j hj a => ?_) S
  unfold thS
  rw [hT 1 _ (by omega), hT 2 _ (by omega), hT 3 _ (by omega), hT 4 _ (by omega)]
theorem thn_le (T : Nat → Nat → Int32) (nt : Nat) (t : Int32) : ∀ f k, k ≤ nt → k + thn T nt t k f ≤ nt := by
  intro f
  induction f with
  | zero => intro k hk; rw [thn]; exact hk
  | succ f ih =>
    intro k hk
    rw [thn]
    by_cases c : k < nt ∧ T 0 k ≤ t
    · rw [if_pos c]; have := ih (k + 1) (by omega); omega
    · rw [if_neg c]; exact hk
/-- the course gone through anew is the same, as far as it went -/
def sLt (nf nr nt q d nf' nt' G : Nat) (h h' : zm_H) : Prop := (∀ t, t < G → ∀ c nm, c < 4 → Ev nf' h' c (nI t) nm = Ev nf h c (nI t) nm) ∧ (∀ t, t < G → seaP h' q d t = seaP h q d t) ∧ (∀ r, r < nr → h'.2.1 112 r = h.2.1 112 r ∧ h'.2.1 113 r = h.2.1 113 r ∧ h'.2.1 114 r = h.2.1 114 r) ∧ (∀ i k, k < nt → tB h' i k = tB h i k) ∧ nt ≤ nt' ∧ ∀ t, t < G → ∀ k, nt ≤ k → k < nt' → ¬ (tB h' 0 k ≤ nI t)
theorem an_x {nf nr nt q d nf' nt' G : Nat} (hnr : nr ≤ 10) {h h' : zm_H} (L : sLt nf nr nt q d nf' nt' G h h') : ∀ t, t ≤ G → (anH nf nr nt q d h t).2 ≤ nt ∧ anH nf' nr nt' q d h' t = anH nf nr nt q d h t ∧ (t < G → bnH nf' nr nt' q d h' t = bnH nf nr nt q d h t ∧ oT nf' nr nt' q d h' t = oT nf nr nt q d h t ∧ oP nf' nr nt' q d h' t = oP nf nr nt q d h t ∧ oF nf' nr nt' q d h' t = oF nf nr nt q d h t) := by
  obtain ⟨l1, l2, l3, l4, l5, l6⟩ := L
  -- one SPELL
  have one : ∀ t, t < G → (anH nf nr nt q d h t).2 ≤ nt → anH nf' nr nt' q d h' t = anH nf nr nt q d h t → (bnH nf' nr nt' q d h' t = bnH nf nr nt q d h t ∧ oT nf' nr nt' q d h' t = oT nf nr nt q d h t ∧ oP nf' nr nt' q d h' t = oP nf nr nt q d h t ∧ oF nf' nr nt' q d h' t = oF nf nr nt q d h t) ∧ thn (tB h') nt' (nI t) (anH nf nr nt q d h t).2 201 = thn (tB h) nt (nI t) (anH nf nr nt q d h t).2 201 ∧ pS3 (fun c nm => Ev nf' h' c (nI t) nm) (h'.2.1 112) (h'.2.1 113) (seaP h' q d t) (nI t) nr (bnH nf nr nt q d h t) = pS3 (fun c nm => Ev nf h c (nI t) nm) (h.2.1 112) (h.2.1 113) (seaP h q d t) (nI t) nr (bnH nf nr nt q d h t) := by
    intro t ht hk e
    have et := thn_x (T := tB h) (T' := tB h') (t := nI t) l5 (fun k hk => l4 0 k hk) (l6 t ht) 201 (anH nf nr nt q d h t).2 hk
    have eb : bnH nf' nr nt' q d h' t = bnH nf nr nt q d h t := by
      unfold bnH
      rw [e, et, thI_x l4 _ (thn_le _ _ _ _ _ hk)]
    obtain ⟨x1, x2, x3, x4⟩ := p_x (E := fun c nm => Ev nf h c (nI t) nm) (E' := fun c nm => Ev nf' h' c (nI t) nm) hnr (fun c nm hc => l1 t ht c nm hc) l3 (seaP h q d t) (nI t) (bnH nf nr nt q d h t)
    refine ⟨⟨eb, ?_, ?_, ?_⟩, et, ?_⟩
    · unfold oT; rw [eb, l2 t ht, x2]
    · unfold oP; rw [eb, l2 t ht, x3]
    · unfold oF; rw [eb, l2 t ht, x4]
    · rw [l2 t ht, x1]
  intro t
  induction t with
  | zero => intro _; exact ⟨Nat.zero_le _, rfl, fun z => (one 0 z (Nat.zero_le _) rfl).1⟩
  | succ t ih =>
    intro ht
    obtain ⟨i1, i2, i3⟩ := ih (by omega)
    obtain ⟨o1, o2, o3⟩ := one t (by omega) i1 i2
    have le : (anH nf nr nt q d h (t + 1)).2 ≤ nt := by rw [anH_s]; exact thn_le _ _ _ _ _ i1
    have e : anH nf' nr nt' q d h' (t + 1) = anH nf nr nt q d h (t + 1) := by
      rw [anH_s, anH_s, o1.1, i2, o2, o3]
    exact ⟨le, e, fun z => (one (t + 1) z le e).1⟩
theorem rA_l {nf nr nt q d nf' nt' G : Nat} (hnr : nr ≤ 10) {h h' x : zm_H} (L : sLt nf nr nt q d nf' nt' G h h') (A : rA nf nr nt q d G h x) : rA nf' nr nt' q d G h' x := by
  obtain ⟨a1, a2, a3, a4⟩ := A
  have X := an_x hnr L
  refine ⟨a1, ?_, ?_, fun t ht => ?_⟩
  · rw [(X G (Nat.le_refl _)).2.1]; exact a2
  · rw [(X G (Nat.le_refl _)).2.1]; exact a3
  · obtain ⟨-, -, y⟩ := X t (by omega)
    obtain ⟨-, y2, y3, y4⟩ := y ht
    rw [y2, y3, y4]; exact a4 t ht
/-- the class's own cells of the second course stay, and what is told later comes later -/
theorem I_an_l {nf nr nt n e w nf' nt' n' e' w' : Nat} (hnr : nr ≤ 10) (hn : n ≤ n') (he : e ≤ e') (hw : w ≤ w') {h h' : zm_H} (c0 : zf h' 0 10 = zf h 0 10 ∧ zf h' 0 11 = zf h 0 11 ∧ zf h' 50 3 = zf h 50 3 ∧ zf h' 50 4 = zf h 50 4) (c1 : ∀ i, i < 12 → h'.2.1 (51 + i) = h.2.1 (51 + i)) (L : ∀ q d G, q ≤ n → d ≤ e → G ≤ w → sLt nf nr nt q d nf' nt' G h h') (A : I_an nf nr nt n e w h) : I_an nf' nr nt' n' e' w' h' := by
  obtain ⟨q, d, G, h1, h2, h3, h4, h5, h6⟩ := A
  refine ⟨q, d, G, by omega, by omega, by omega, c0.1.trans h4, c0.2.1.trans h5, ?_⟩
  obtain ⟨a1, a2, a3, a4⟩ := rA_l hnr (L q d G h1 h2 h3) h6
  refine ⟨c0.2.2.1.trans a1, c0.2.2.2.trans a2, ?_, fun t ht => ?_⟩
  · rw [vC_eq (h := h) (h' := h') (b := 51) (fun i hi => c1 i (by omega))]; exact a3
  · rw [show h'.2.1 60 = h.2.1 60 from c1 9 (by omega), show h'.2.1 61 = h.2.1 61 from c1 10 (by omega), show h'.2.1 62 = h.2.1 62 from c1 11 (by omega)]
    exact a4 t ht
