/-! ===== rows: rows of rows, new arrays, the script, exchanged rows ===== -/
def zln (h : zm_H) (c : Nat) : Nat := match h.1[c]? with
  | some (.inl z) => z.2
  | _ => 0
def zia (h : zm_H) (c : Nat) : Prop := h.1[c]? = some (.inl (0, zln h c))
abbrev zrf (h : zm_H) (i : Nat) (j : Int32) : Option Nat := h.2.2.2 i j.toNatClampNeg
abbrev zsr (h : zm_H) (i : Nat) (j : Int32) (b : Nat) : zm_H := zm_sr h i j.toNatClampNeg (some b)
def znw (h : zm_H) (n : Int32) : zm_H := zm_nx h (.inl (0, n.toNatClampNeg))
def zcp (h : zm_H) (a : Nat) (sp : Int32) (b : Nat) (dp n : Int32) : zm_H := (h.1, zm_w h.2.1 b (va_cpy (h.2.1 a) (h.2.1 b) sp.toNatClampNeg dp.toNatClampNeg n.toNatClampNeg), h.2.2.1, h.2.2.2)
section ZRX
variable {x : zm_X} {T : zT} {d m : Nat} {cd : List (Nat × zm_I)} {Q : Option Value → zm_H → Prop} {pc : Nat} {ls : zm_L} {st : List Value} {h : zm_H}
theorem zg_aal (hs : zSh T h) (hcd : zm_cd m = cd) {a a' b n : Nat} {v j : Int32} (hq : cd.lookup pc = some (1, .aaload, a', b, v)) (hk : T.1[a]? = some (.inl (4, n))) (hin : vp_in j n) (k : zg x d m (pc + 1) ls (zm_rv (h.2.2.2 a j.toNatClampNeg) :: st) h Q) : zg x d m pc ls (.int j :: .ref a :: st) h Q := by
  refine zg_step1 (q := (1, .aaload, a', b, v)) (t := (pc + 1, ls, zm_rv (h.2.2.2 a j.toNatClampNeg) :: st, h)) (by unfold zm_lk; rw [hcd]; exact hq) (fun _ => rfl) rfl ?_ k
  show zm_aal pc ls (.int j :: .ref a :: st) h = _
  simp only [zm_aal, hs.1 a _ hk, if_true]
  rw [if_neg hin]
theorem zg_aald (hs : zSh T h) (hcd : zm_cd m = cd) {a a' b n : Nat} {v j : Int32} (hq : cd.lookup pc = some (1, .aaload, a', b, v)) (hk : T.1[a]? = some (.inl (4, n))) (hin : vp_in j n ∧ (h.2.2.2 a j.toNatClampNeg).isSome = true) (k : zg x d m (pc + 1) ls (.ref ((h.2.2.2 a j.toNatClampNeg).getD 0) :: st) h Q) : zg x d m pc ls (.int j :: .ref a :: st) h Q := by
  refine zg_aal hs hcd hq hk hin.1 ?_
  have h2 := hin.2
  revert h2 k
  cases h.2.2.2 a j.toNatClampNeg with
  | none => intro _ h2; cases h2
  | some c => intro k _; exact k
theorem zg_ald (hcd : zm_cd m = cd) {a' b c : Nat} {v : Int32} (hq : cd.lookup pc = some (1, .arraylength, a', b, v)) (hin : zia h c) (k : zg x d m (pc + 1) ls (.int (Int32.ofNat (zln h c)) :: st) h Q) : zg x d m pc ls (.ref c :: st) h Q := by
  refine zg_step1 (q := (1, .arraylength, a', b, v)) (t := (pc + 1, ls, .int (Int32.ofNat (zln h c)) :: st, h)) (by unfold zm_lk; rw [hcd]; exact hq) (fun _ => rfl) rfl ?_ k
  unfold zia at hin
  simp only [zm_S, zm_al, hin]
theorem zg_iald (hcd : zm_cd m = cd) {a' b c : Nat} {v j : Int32} (hq : cd.lookup pc = some (1, .iaload, a', b, v)) (hin : zia h c ∧ vp_in j (zln h c)) (k : zg x d m (pc + 1) ls (.int (h.2.1 c j.toNatClampNeg) :: st) h Q) : zg x d m pc ls (.int j :: .ref c :: st) h Q := by
  refine zg_step1 (q := (1, .iaload, a', b, v)) (t := (pc + 1, ls, .int (h.2.1 c j.toNatClampNeg) :: st, h)) (by unfold zm_lk; rw [hcd]; exact hq) (fun _ => rfl) rfl ?_ k
  show zm_ial x pc ls (.int j :: .ref c :: st) h = _
  have h1 := hin.1
  unfold zia at h1
  simp only [zm_ial, zm_ia, h1, if_true]
  rw [if_neg hin.2]
theorem zg_nn (hcd : zm_cd m = cd) {off : Int} {tg b : Nat} {v : Int32} {t : Option Nat} (hq : cd.lookup pc = some (3, .ifnonnull off, tg, b, v)) (kt : ¬ t = none → zg x d m tg ls st h Q) (kf : t = none → zg x d m (pc + 3) ls st h Q) : zg x d m pc ls (zm_rv t :: st) h Q := by
  cases t with
  | none => exact zg_step1 (q := (3, .ifnonnull off, tg, b, v)) (t := (pc + 3, ls, st, h)) (by unfold zm_lk; rw [hcd]; exact hq) (fun _ => rfl) rfl rfl (kf rfl)
  | some c => exact zg_step1 (q := (3, .ifnonnull off, tg, b, v)) (t := (tg, ls, st, h)) (by unfold zm_lk; rw [hcd]; exact hq) (fun _ => rfl) rfl rfl (kt (fun z => by cases z))
theorem zSh_sr {a k : Nat} {o : Option Nat} (hs : zSh T h) (hT : T.2[a]? = some []) : zSh T (zm_sr h a k o) := by
  refine ⟨hs.1, ?_, hs.2.2⟩
  intro i q j hz
  show zm_u h.2.2.2 a k o i q = some j
  unfold zm_u
  by_cases hi : i = a
  · subst hi
    exfalso
    unfold zlk at hz
    rw [List.getD_eq_getElem?_getD (l := T.2), hT] at hz
    simp at hz
  · rw [if_neg hi]; exact hs.2.1 i q j hz
theorem zg_aas (hs : zSh T h) (hcd : zm_cd m = cd) {a a' b n c : Nat} {v j : Int32} (hq : cd.lookup pc = some (1, .aastore, a', b, v)) (hk : T.1[a]? = some (.inl (4, n))) (hT : T.2[a]? = some []) (hin : vp_in j n ∧ zm_isA h c = true) (k : zSh T (zm_sr h a j.toNatClampNeg (some c)) → zg x d m (pc + 1) ls st (zm_sr h a j.toNatClampNeg (some c)) Q) : zg x d m pc ls (.ref c :: .int j :: .ref a :: st) h Q := by
  refine zg_step1 (q := (1, .aastore, a', b, v)) (t := (pc + 1, ls, st, zm_sr h a j.toNatClampNeg (some c))) (by unfold zm_lk; rw [hcd]; exact hq) (fun _ => rfl) rfl ?_ (k (zSh_sr hs hT))
  show zm_aas pc ls (.ref c :: .int j :: .ref a :: st) h = _
  simp only [zm_aas, hs.1 a _ hk, hin.2]
  rw [if_pos ⟨trivial, trivial⟩, if_neg hin.1]
theorem zSh_nx {q : zm_K} (hs : zSh T h) (hl : T.2.length ≤ T.1.length) (hh : h.1.length < 1000000) : zSh T (zm_nx h q) := by
  refine ⟨?_, ?_, ?_⟩
  · intro i z hz
    have h1 := hs.1 i z hz
    show (h.1 ++ [q])[i]? = some z
    rw [List.getElem?_append_left (List.getElem?_eq_some_iff.mp h1).1]
    exact h1
  · intro i k j hz
    have h1 := hs.2.1 i k j hz
    have h2 : i < T.1.length := by
      refine Nat.lt_of_lt_of_le ?_ hl
      refine Decidable.byContradiction (fun hn => ?_)
      unfold zlk at hz
      rw [List.getD_eq_getElem?_getD (l := T.2), List.getElem?_eq_none_iff.mpr (Nat.le_of_not_lt hn)] at hz
      simp at hz
    have h3 := hs.1 i _ (List.getElem?_eq_getElem h2)
    have h4 := (List.getElem?_eq_some_iff.mp h3).1
    show zm_w h.2.2.2 h.1.length (fun _ => none) i k = some j
    unfold zm_w
    rw [if_neg (Nat.ne_of_lt h4)]
    exact h1
  · show (h.1 ++ [q]).length ≤ 1000000
    rw [List.length_append]
    exact hh
theorem zg_scr (hs : zSh T h) (hcd : zm_cd m = cd) {a' b : Nat} {v j : Int32} (hq : cd.lookup pc = some (1, .iaload, a', b, v)) (hin : vp_in j x.1) (k : zg x d m (pc + 1) ls (.int (x.2 j.toNatClampNeg) :: st) h Q) : zg x d m pc ls (.int j :: .ref 1000001 :: st) h Q := by
  refine zg_step1 (q := (1, .iaload, a', b, v)) (t := (pc + 1, ls, .int (x.2 j.toNatClampNeg) :: st, h)) (by unfold zm_lk; rw [hcd]; exact hq) (fun _ => rfl) rfl ?_ k
  show zm_ial x pc ls (.int j :: .ref 1000001 :: st) h = _
  have hn : h.1[1000001]? = none := List.getElem?_eq_none_iff.mpr (Nat.le_trans hs.2.2 (by decide))
  have hr : zm_ro x 1000001 = some x := rfl
  simp only [zm_ial, zm_ia, hn, hr]
  rw [if_neg hin]
theorem zg_sln (hs : zSh T h) (hcd : zm_cd m = cd) {a' b : Nat} {v : Int32} (hq : cd.lookup pc = some (1, .arraylength, a', b, v)) (k : zg x d m (pc + 1) ls (.int (Int32.ofNat x.1) :: st) h Q) : zg x d m pc ls (.ref 1000001 :: st) h Q := by
  refine zg_step1 (q := (1, .arraylength, a', b, v)) (t := (pc + 1, ls, .int (Int32.ofNat x.1) :: st, h)) (by unfold zm_lk; rw [hcd]; exact hq) (fun _ => rfl) rfl ?_ k
  have hn : h.1[1000001]? = none := List.getElem?_eq_none_iff.mpr (Nat.le_trans hs.2.2 (by decide))
  have hr : zm_ro x 1000001 = some x := rfl
  simp only [zm_S, zm_al, hn, hr, Option.map]
theorem zx_ch (i : Nat) (hi : i < 3) {n : Nat} (hn : (zm_sx i).length = n) {j : Int32} (hob : 0 ≤ j ∧ j.toNatClampNeg < n) : zm_xc 1002 [.ref (2000000 + i), .int j] h = some (some (.int ((zm_sx i).getD j.toNatClampNeg 0)), h) := by
  unfold zm_xc
  rw [if_neg (by decide), if_neg (by decide), if_pos rfl]
  have e : 2000000 + i - 2000000 = i := by omega
  show (if 2000000 ≤ 2000000 + i ∧ 2000000 + i < 2000003 ∧ 0 ≤ j ∧ j.toNatClampNeg < (zm_sx (2000000 + i - 2000000)).length then some (some (Value.int ((zm_sx (2000000 + i - 2000000)).getD j.toNatClampNeg 0)), h) else none) = _
  rw [e]
  have h1 : 2000000 ≤ 2000000 + i := Nat.le_add_right _ _
  have h2 : 2000000 + i < 2000003 := by omega
  have h3 : j.toNatClampNeg < (zm_sx i).length := by rw [hn]; exact hob.2
  rw [if_pos ⟨h1, h2, hob.1, h3⟩]
theorem zx_cp (hs : zSh T h) {a b na nb : Nat} {sp dp n : Int32} (ha : T.1[a]? = some (.inl (0, na))) (hb : T.1[b]? = some (.inl (0, nb))) (hob : ¬ sp < 0 ∧ ¬ dp < 0 ∧ ¬ n < 0 ∧ sp.toNatClampNeg + n.toNatClampNeg ≤ na ∧ dp.toNatClampNeg + n.toNatClampNeg ≤ nb) : zm_xc 1001 [.ref a, .int sp, .ref b, .int dp, .int n] h = some (none, zcp h a sp b dp n) := by
  unfold zm_xc
  rw [if_neg (by decide), if_pos rfl]
  simp only [hs.1 a _ ha, hs.1 b _ hb]
  rw [if_pos ⟨trivial, trivial, hob⟩]
  rfl
theorem zx_cpd (hs : zSh T h) {a b na : Nat} {sp dp n : Int32} (ha : T.1[a]? = some (.inl (0, na))) (hob : zia h b ∧ ¬ sp < 0 ∧ ¬ dp < 0 ∧ ¬ n < 0 ∧ sp.toNatClampNeg + n.toNatClampNeg ≤ na ∧ dp.toNatClampNeg + n.toNatClampNeg ≤ zln h b) : zm_xc 1001 [.ref a, .int sp, .ref b, .int dp, .int n] h = some (none, zcp h a sp b dp n) := by
  unfold zm_xc
  rw [if_neg (by decide), if_pos rfl]
  have h1 := hob.1
  unfold zia at h1
  simp only [hs.1 a _ ha, h1]
  rw [if_pos ⟨trivial, trivial, hob.2⟩]
  rfl
theorem zx_cps {a b : Nat} {sp dp n : Int32} (hs : zSh T h) : zSh T (zcp h a sp b dp n) := hs.of rfl rfl
end ZRX
theorem zsw_out {y : Int32} {lo hi : Int} (_ : -2147483648 ≤ lo) (_ : hi ≤ 2147483647) (h3 : ∀ v : Int, lo ≤ v → v ≤ hi → ¬ y = Int32.ofInt v) : y.toInt < lo ∨ hi < y.toInt := by
  refine Decidable.byContradiction (fun hn => ?_)
  have hn := not_or.mp hn
  exact h3 y.toInt (by omega) (by omega) (Int32.ofInt_toInt y).symm
/-! ===== loops ===== -/
def zwh {S : Type} (b : S → Nat × S) : Nat → S → Nat × S
  | 0, s => (0, s)
  | n + 1, s => if (b s).1 = 0 then zwh b n (b s).2 else b s
def zwo {S : Type} (b : S → Nat × S) (o : S → Prop) : Nat → S → Prop
  | 0, _ => False
  | n + 1, s => o s ∧ ((b s).1 = 0 → zwo b o n (b s).2)
/-- what a loop comes to: an invariant and a measure -/
theorem zwh_rule {S : Type} {b : S → Nat × S} {o : S → Prop} (I : S → Prop) (μ : S → Nat) (P : Nat × S → Prop) (hb : ∀ s, I s → o s ∧ ((b s).1 = 0 → I (b s).2 ∧ μ (b s).2 < μ s) ∧ (¬ (b s).1 = 0 → P (b s))) : ∀ (n : Nat) (s : S), μ s < n → I s → zwo b o n s ∧ P (zwh b n s) := by
  intro n
  induction n with
  | zero => intro s hm; omega
  | succ n ih =>
    intro s hm hi
    obtain ⟨h1, h2, h3⟩ := hb s hi
    rw [zwo, zwh]
    by_cases hc : (b s).1 = 0
    · rw [if_pos hc]
      obtain ⟨h4, h5⟩ := h2 hc
      obtain ⟨h6, h7⟩ := ih (b s).2 (by omega) h4
      exact ⟨⟨h1, fun _ => h6⟩, h7⟩
    · rw [if_neg hc]
      exact ⟨⟨h1, fun z => absurd z hc⟩, h3 hc⟩
/-! ===== which rows are left as they were ===== -/
def zWr (W : List Nat) (F : List (Nat × Nat)) (h h' : zm_H) : Prop := h'.1 = h.1 ∧ ∀ i, i ∉ W → (∀ k, (i, k) ∉ F → h'.2.1 i k = h.2.1 i k) ∧ h'.2.2.1 i = h.2.2.1 i ∧ h'.2.2.2 i = h.2.2.2 i
theorem zWr.refl {F : List (Nat × Nat)} (W : List Nat) (h : zm_H) : zWr W F h h := ⟨rfl, fun _ _ => ⟨fun _ _ => rfl, rfl, rfl⟩⟩
theorem zWr_si {W : List Nat} {F : List (Nat × Nat)} {h0 h : zm_H} {i k : Nat} {v : Int32} (hi : i ∈ W) (hw : zWr W F h0 h) : zWr W F h0 (zm_si h i k v) := by
  refine ⟨hw.1, fun a ha => ⟨fun b hb => ?_, (hw.2 a ha).2.1, (hw.2 a ha).2.2⟩⟩
  show zm_u h.2.1 i k v a b = _
  unfold zm_u
  rw [if_neg (fun z => ha (by rw [z]; exact hi))]
  exact (hw.2 a ha).1 b hb
theorem zWr_p {W : List Nat} {F : List (Nat × Nat)} {h0 h : zm_H} {i k : Nat} {v : Int32} (hi : (i, k) ∈ F) (hw : zWr W F h0 h) : zWr W F h0 (zm_si h i k v) := by
  refine ⟨hw.1, fun a ha => ⟨fun b hb => ?_, (hw.2 a ha).2.1, (hw.2 a ha).2.2⟩⟩
  show zm_u h.2.1 i k v a b = _
  unfold zm_u
  by_cases hai : a = i
  · rw [if_pos hai]
    rw [if_neg (fun z => hb (by rw [hai, z]; exact hi))]
    exact (hw.2 a ha).1 b hb
  · rw [if_neg hai]
    exact (hw.2 a ha).1 b hb
theorem zWr_sl {W : List Nat} {F : List (Nat × Nat)} {h0 h : zm_H} {i k : Nat} {v : Int64} (hi : i ∈ W) (hw : zWr W F h0 h) : zWr W F h0 (zm_sl h i k v) := by
  refine ⟨hw.1, fun a ha => ⟨(hw.2 a ha).1, ?_, (hw.2 a ha).2.2⟩⟩
  show zm_u h.2.2.1 i k v a = _
  unfold zm_u
  rw [if_neg (fun z => ha (by rw [z]; exact hi))]
  exact (hw.2 a ha).2.1
theorem zWr_sr {W : List Nat} {F : List (Nat × Nat)} {h0 h : zm_H} {i k : Nat} {v : Option Nat} (hi : i ∈ W) (hw : zWr W F h0 h) : zWr W F h0 (zm_sr h i k v) := by
  refine ⟨hw.1, fun a ha => ⟨(hw.2 a ha).1, (hw.2 a ha).2.1, ?_⟩⟩
  show zm_u h.2.2.2 i k v a = _
  unfold zm_u
  rw [if_neg (fun z => ha (by rw [z]; exact hi))]
  exact (hw.2 a ha).2.2
theorem zWr_cp {W : List Nat} {F : List (Nat × Nat)} {h0 h : zm_H} {a b : Nat} {sp dp n : Int32} (hi : b ∈ W) (hw : zWr W F h0 h) : zWr W F h0 (zcp h a sp b dp n) := by
  refine ⟨hw.1, fun c hc => ⟨fun q hq => ?_, (hw.2 c hc).2.1, (hw.2 c hc).2.2⟩⟩
  show zm_w h.2.1 b _ c q = _
  unfold zm_w
  rw [if_neg (fun z => hc (by rw [z]; exact hi))]
  exact (hw.2 c hc).1 q hq
theorem zWr_ite {W : List Nat} {F : List (Nat × Nat)} {h : zm_H} {α : Type} {c : Prop} [Decidable c] {a b : α} (φ : α → zm_H) (ha : zWr W F h (φ a)) (hb : zWr W F h (φ b)) : zWr W F h (φ (if c then a else b)) := by
  by_cases hc : c
  · rw [if_pos hc]; exact ha
  · rw [if_neg hc]; exact hb
theorem zWr_tr {W1 W : List Nat} {F1 F : List (Nat × Nat)} {h0 h1 h2 : zm_H} (hw : zWr W1 F1 h1 h2) (hs : ∀ i ∈ W1, i ∈ W) (hf : ∀ i ∈ F1, i ∈ F) (h : zWr W F h0 h1) : zWr W F h0 h2 := by
  refine ⟨hw.1.trans h.1, fun a ha => ?_⟩
  obtain ⟨e1, e2, e3⟩ := hw.2 a (fun z => ha (hs a z))
  obtain ⟨f1, f2, f3⟩ := h.2 a ha
  exact ⟨fun k hk => (e1 k (fun z => hk (hf _ z))).trans (f1 k hk), e2.trans f2, e3.trans f3⟩
theorem zWr_zwh {W : List Nat} {F : List (Nat × Nat)} {S : Type} {b : S → Nat × S} (φ : S → zm_H) (hb : ∀ t, zWr W F (φ t) (φ (b t).2)) {n : Nat} {t : S} : zWr W F (φ t) (φ (zwh b n t).2) := by
  induction n generalizing t with
  | zero => exact zWr.refl _ _
  | succ n ih =>
    rw [zwh]
    by_cases hc : (b t).1 = 0
    · rw [if_pos hc]; exact zWr_tr ih (fun _ z => z) (fun _ z => z) (hb t)
    · rw [if_neg hc]; exact hb t
theorem zWr.arr {W : List Nat} {F : List (Nat × Nat)} {h h' : zm_H} (w : zWr W F h h') (i : Nat) (hi : i ∉ W) (hf : ∀ p ∈ F, ¬ p.1 = i) : h'.2.1 i = h.2.1 i := by
  funext k
  exact (w.2 i hi).1 k (fun z => hf _ z rfl)
theorem zWr.fld {W : List Nat} {F : List (Nat × Nat)} {h h' : zm_H} (w : zWr W F h h') (i k : Nat) (hi : i ∉ W) (hf : (i, k) ∉ F) : h'.2.1 i k = h.2.1 i k := (w.2 i hi).1 k hf
/-! ===== short words for cells, and the table of cells behind the two makers ===== -/
abbrev zf (h : zm_H) (i k : Nat) : Int32 := h.2.1 i k
abbrev zr (h : zm_H) (i : Nat) (j : Int32) : Int32 := h.2.1 i j.toNatClampNeg
abbrev zp (h : zm_H) (i k : Nat) (v : Int32) : zm_H := zm_si h i k v
abbrev zs (h : zm_H) (i : Nat) (j : Int32) (v : Int32) : zm_H := zm_si h i j.toNatClampNeg v
abbrev zrl (h : zm_H) (i : Nat) (j : Int32) : Int64 := h.2.2.1 i j.toNatClampNeg
abbrev zsl (h : zm_H) (i : Nat) (j : Int32) (v : Int64) : zm_H := zm_sl h i j.toNatClampNeg v
/-- how often a loop may go round -/
def zF : Nat := 100000
theorem zb_and_t {a b : Prop} [Decidable a] [Decidable b] (h : a) : (if (a ∧ b) then (1 : Int32) else 0) = if b then 1 else 0 := by simp [h]
theorem zb_and_f {a b : Prop} [Decidable a] [Decidable b] (h : ¬ a) : (if (a ∧ b) then (1 : Int32) else 0) = 0 := by simp [h]
theorem zb_nand_t {a b : Prop} [Decidable a] [Decidable b] (h : a) : (if (¬ a ∧ b) then (1 : Int32) else 0) = 0 := by simp [h]
theorem zb_nand_f {a b : Prop} [Decidable a] [Decidable b] (h : ¬ a) : (if (¬ a ∧ b) then (1 : Int32) else 0) = if b then 1 else 0 := by simp [h]
theorem zb_or_t {a b : Prop} [Decidable a] [Decidable b] (h : a) : (if (a ∨ b) then (1 : Int32) else 0) = 1 := by simp [h]
theorem zb_or_f {a b : Prop} [Decidable a] [Decidable b] (h : ¬ a) : (if (a ∨ b) then (1 : Int32) else 0) = if b then 1 else 0 := by simp [h]
theorem zb_nor_t {a b : Prop} [Decidable a] [Decidable b] (h : a) : (if (¬ a ∨ b) then (1 : Int32) else 0) = if b then 1 else 0 := by simp [h]
theorem zb_nor_f {a b : Prop} [Decidable a] [Decidable b] (h : ¬ a) : (if (¬ a ∨ b) then (1 : Int32) else 0) = 1 := by simp [h]
theorem zb_not_t {a : Prop} [Decidable a] (h : a) : (if ¬ a then (1 : Int32) else 0) = 0 := by simp [h]
theorem zb_not_f {a : Prop} [Decidable a] (h : ¬ a) : (if ¬ a then (1 : Int32) else 0) = 1 := by simp [h]
def zTw (a b : Nat) : zT := ([.inr 10, .inr 7, .inl (0, 480), .inl (0, 400), .inl (0, 400), .inl (0, 400), .inl (0, 30), .inl (0, 30), .inl (0, 30), .inl (0, 30), .inr 8, .inl (1, 400), .inl (0, 400), .inl (0, 4), .inl (0, 4), .inr 6, .inl (4, 10), .inl (0, 40), .inl (0, 40), .inl (0, 15), .inl (0, 15), .inl (0, 9), .inl (0, 64), .inr 4, .inl (0, 10), .inl (0, 10), .inl (0, 10), .inl (0, 200), .inl (0, 200), .inl (0, 200), .inl (0, 200), .inl (0, 200), .inr 9, .inl (0, 100), .inl (0, 10), .inl (0, 10), .inl (0, 10), .inr 1, .inl (0, 10), .inl (0, 10), .inl (0, 10), .inl (0, 10), .inl (0, 10), .inl (0, 30), .inl (0, 30), .inl (0, 30), .inl (0, 3), .inl (0, 480), .inl (0, 480), .inl (0, 4800), .inr 1, .inl (0, 10), .inl (0, 10), .inl (0, 10), .inl (0, 10), .inl (0, 10), .inl (0, 30), .inl (0, 30), .inl (0, 30), .inl (0, 3), .inl (0, 480), .inl (0, 480), .inl (0, 4800), .inr 3, .inl (0, 3), .inl (0, 9), .inl (0, 3), .inl (0, 3), .inl (0, 3), .inl (0, 3), .inl (0, 3), .inl (0, 3), .inr 5, .inl (0, 6), .inl (0, 6), .inl (0, 40), .inl (0, 40), .inl (0, 40), .inl (0, 64), .inl (0, 64), .inl (0, 64), .inl (0, 6), .inr 2, .inl (0, 10), .inl (0, 10), .inl (0, 10), .inl (0, 8), .inl (0, 3), .inl (0, 24), .inl (0, 3), .inl (0, 3), .inr 0, .inr 11, .inl (1, 400), .inl (0, 800), .inl (0, 400), .inl (0, 400), .inl (0, 4), .inl (0, 4), .inl (0, 4000), .inl (0, 4000), .inl (0, 40), .inl (0, 40), .inl (0, 15), .inl (0, 15), .inl (0, 400), .inl (0, 400), .inl (0, 400), .inl (0, 30), .inl (0, 30), .inl (0, 30), .inl (0, 30), .inl (0, 10), .inl (0, 10), .inl (0, 10), .inl (0, 10), .inl (0, 10), .inl (0, 10), .inl (0, 200), .inl (0, 200), .inl (0, 200), .inl (0, 200), .inl (0, 200), .inl (0, 20), .inl (0, 20), .inl (0, 20), .inl (0, 20), .inl (3, 20), .inl (0, 60), .inl (0, 60), .inl (0, 60), .inl (0, 480), .inl (0, 480), .inl (0, 4800), .inl (0, 480), .inl (0, 480), .inl (0, 4800), .inl (0, 3), .inl (0, 9), .inl (2, 3), .inl (0, 3), .inl (0, 3), .inl (0, 3), .inl (0, 3), .inl (0, 3), .inl (0, 3), .inl (0, 8), .inl (0, 8), .inl (0, 8), .inl (0, 9), .inl (0, 400), .inl (0, 10), .inl (0, 10), .inl (0, 10), .inl (0, 41), .inl (0, 41), .inl (0, 6), .inl (0, 64), .inl (0, 64), .inl (0, 3), .inl (0, 3), .inl (0, 3), .inl (0, 401), .inl (0, 401), .inl (0, 401)], [[none, none, none, some 1, some 10, some 15, some 23, some 32, some 37, some 50, none, none, some 63, some 72, some 82, some 91], [none, none, some 2, some 3, some 4, some 5, some 6, some 7, some 8, some 9], [], [], [], [], [], [], [], [], [some 11, none, none, some 162, some 163, some 164, none, none, none, some 12, none, some 13, some 14], [], [], [], [], [none, some 16, some 17, some 18, none, some 19, some 20, some 21, some 22, none], [], [], [], [], [], [], [], [none, some 24, some 25, some 26, none, some 27, some 28, some 29, some 30, some 31], [], [], [], [], [], [], [], [], [some 23, some 33, some 34, some a, some b], [], [], [], [], [some 23, some 15, some 32, none, none, some 38, some 39, some 40, some 41, some 42, some 43, some 44, some 45, some 46, some 47, some 48, some 49], [], [], [], [], [], [], [], [], [], [], [], [], [some 23, some 15, some 32, none, none, some 51, some 52, some 53, some 54, some 55, some 56, some 57, some 58, some 59, some 60, some 61, some 62], [], [], [], [], [], [], [], [], [], [], [], [], [some 23, some 15, some 37, some 64, some 65, some 66, some 67, some 68, some 69, some 70, some 71], [], [], [], [], [], [], [], [], [some 1, some 15, none, some 73, some 74, none, some 75, some 76, some 77, some 78, some 79, some 80, none, none, some 81], [], [], [], [], [], [], [], [], [], [some 1, some 37, some 32, none, some 83, some 84, some 85, none, some 86, none, some 87, none, some 88, some 89, none, some 90], [], [], [], [], [], [], [], [], [none, none], [some 93, none, none, none, none, none, some 94, none, none, none, some 95, some 96, none, some 97, some 98, none, some 99, some 100, some 101, some 102, none, some 103, some 104, none, none, some 105, some 106, some 107, none, some 108, some 109, some 110, some 111, none, some 112, some 113, some 114, none, some 115, some 116, some 117, none, some 118, some 119, some 120, some 121, some 122, none, none, some 123, some 124, some 125, some 126, some 127, some 128, some 129, some 130, some 131, some 132, some 133, some 134, some 135, some 136, some 137, some 138, some 139, some 140, some 141, some 142, some 143, some 144, some 145, none, some 146, some 147, none, some 148, none, none, none, none, none, some 149, some 150, some 151, some 152, some 153, none, none, some 154, some 155, some 156, some 157, some 158, some 159, some 160, some 161], [], [], [], [], [], [], [], [], [], [], [], [], [], [], [], [], [], [], [], [], [], [], [], [], [], [], [], [], [], [], [], [], [], [], [], [], [], [], [], [], [], [], [], [], [], [], [], [], [], [], [], [], [], [], [], [], [], [], [], [], [], [], [], [], [], [], [], [], [], [], [], []])
def zT0 : zT := zTw 35 36
def zT1 : zT := zTw 36 35
def zT2 : zT := zTw 36 36
def zT3 : zT := zTw 35 35
def zTA : List (List (Option Nat)) := [[none, none, none, some 1, some 10, some 15, some 23, some 32, some 37, some 50, none, none, some 63, some 72, some 82, some 91], [none, none, some 2, some 3, some 4, some 5, some 6, some 7, some 8, some 9], [], [], [], [], [], [], [], [], [some 11, none, none, some 162, some 163, some 164, none, none, none, some 12, none, some 13, some 14], [], [], [], [], [none, some 16, some 17, some 18, none, some 19, some 20, some 21, some 22, none], [], [], [], [], [], [], [], [none, some 24, some 25, some 26, none, some 27, some 28, some 29, some 30, some 31], [], [], [], [], [], [], [], []]
def zTB : List (List (Option Nat)) := [[], [], [], [], [some 23, some 15, some 32, none, none, some 38, some 39, some 40, some 41, some 42, some 43, some 44, some 45, some 46, some 47, some 48, some 49], [], [], [], [], [], [], [], [], [], [], [], [], [some 23, some 15, some 32, none, none, some 51, some 52, some 53, some 54, some 55, some 56, some 57, some 58, some 59, some 60, some 61, some 62], [], [], [], [], [], [], [], [], [], [], [], [], [some 23, some 15, some 37, some 64, some 65, some 66, some 67, some 68, some 69, some 70, some 71], [], [], [], [], [], [], [], [], [some 1, some 15, none, some 73, some 74, none, some 75, some 76, some 77, some 78, some 79, some 80, none, none, some 81], [], [], [], [], [], [], [], [], [], [some 1, some 37, some 32, none, some 83, some 84, some 85, none, some 86, none, some 87, none, some 88, some 89, none, some 90], [], [], [], [], [], [], [], [], [none, none], [some 93, none, none, none, none, none, some 94, none, none, none, some 95, some 96, none, some 97, some 98, none, some 99, some 100, some 101, some 102, none, some 103, some 104, none, none, some 105, some 106, some 107, none, some 108, some 109, some 110, some 111, none, some 112, some 113, some 114, none, some 115, some 116, some 117, none, some 118, some 119, some 120, some 121, some 122, none, none, some 123, some 124, some 125, some 126, some 127, some 128, some 129, some 130, some 131, some 132, some 133, some 134, some 135, some 136, some 137, some 138, some 139, some 140, some 141, some 142, some 143, some 144, some 145, none, some 146, some 147, none, some 148, none, none, none, none, none, some 149, some 150, some 151, some 152, some 153, none, none, some 154, some 155, some 156, some 157, some 158, some 159, some 160, some 161], [], [], [], [], [], [], [], [], [], [], [], [], [], [], [], [], [], [], [], [], [], [], [], [], [], [], [], [], [], [], [], [], [], [], [], [], [], [], [], [], [], [], [], [], [], [], [], [], [], [], [], [], [], [], [], [], [], [], [], [], [], [], [], [], [], [], [], [], [], [], [], []]
theorem zTw_2 (a b : Nat) : (zTw a b).2 = zTA ++ [some 23, some 33, some 34, some a, some b] :: zTB := rfl
theorem zTw_lk {a b a' b' i k : Nat} (h : ¬ (i = 32 ∧ (k = 3 ∨ k = 4))) : zlk (zTw a b).2 i k = zlk (zTw a' b').2 i k := by
  unfold zlk
  rw [zTw_2, zTw_2]
  have key : ∀ (r : List (Option Nat)), (zTA ++ r :: zTB).getD i [] = if i < 32 then zTA.getD i [] else if i = 32 then r else zTB.getD (i - 33) [] := by
    intro r
    have hl : zTA.length = 32 := rfl
    rw [List.getD_eq_getElem?_getD]
    by_cases hi : i < 32
    · rw [if_pos hi, List.getElem?_append_left (by rw [hl]; exact hi), ← List.getD_eq_getElem?_getD]
    · rw [if_neg hi, List.getElem?_append_right (by rw [hl]; omega), hl]
      by_cases h0 : i = 32
      · subst h0; rfl
      · obtain ⟨q, hq⟩ : ∃ q, i - 32 = q + 1 := ⟨i - 33, by omega⟩
        rw [if_neg h0, hq, List.getElem?_cons_succ, ← List.getD_eq_getElem?_getD, show i - 33 = q by omega]
  rw [key, key]
  by_cases hi : i < 32
  · rw [if_pos hi, if_pos hi]
  · rw [if_neg hi, if_neg hi]
    by_cases h0 : i = 32
    · rw [if_pos h0, if_pos h0]
      have hk : ¬ (k = 3 ∨ k = 4) := fun z => h ⟨h0, z⟩
      match k, hk with
      | 0, _ => rfl
      | 1, _ => rfl
      | 2, _ => rfl
      | 3, hk => exact absurd (Or.inl rfl) hk
      | 4, hk => exact absurd (Or.inr rfl) hk
      | k + 5, _ => rfl
    · rw [if_neg h0, if_neg h0]
section ZPF
variable {x : zm_X} {d m : Nat} {cd : List (Nat × zm_I)} {Q : Option Value → zm_H → Prop} {pc : Nat} {ls : zm_L} {st : List Value} {h : zm_H}
theorem zSh_pf3 {a b n : Nat} (hs : zSh (zTw a b) h) : zSh (zTw n b) (zm_sr h 32 3 (some n)) := by
  refine ⟨hs.1, ?_, hs.2.2⟩
  intro i k j hz
  show zm_u h.2.2.2 32 3 (some n) i k = some j
  unfold zm_u
  by_cases hi : i = 32
  · subst hi
    rw [if_pos rfl]
    by_cases hk : k = 3
    · subst hk; rw [if_pos rfl]; exact hz
    · rw [if_neg hk]
      by_cases h4 : k = 4
      · subst h4; exact hs.2.1 32 4 j hz
      · exact hs.2.1 32 k j (by rw [zTw_lk (a' := n) (b' := b) (fun z => z.2.elim hk h4)]; exact hz)
  · rw [if_neg hi]
    exact hs.2.1 i k j (by rw [zTw_lk (a' := n) (b' := b) (fun z => hi z.1)]; exact hz)
theorem zSh_pf4 {a b n : Nat} (hs : zSh (zTw a b) h) : zSh (zTw a n) (zm_sr h 32 4 (some n)) := by
  refine ⟨hs.1, ?_, hs.2.2⟩
  intro i k j hz
  show zm_u h.2.2.2 32 4 (some n) i k = some j
  unfold zm_u
  by_cases hi : i = 32
  · subst hi
    rw [if_pos rfl]
    by_cases hk : k = 4
    · subst hk; rw [if_pos rfl]; exact hz
    · rw [if_neg hk]
      by_cases h4 : k = 3
      · subst h4; exact hs.2.1 32 3 j hz
      · exact hs.2.1 32 k j (by rw [zTw_lk (a' := a) (b' := n) (fun z => z.2.elim h4 hk)]; exact hz)
  · rw [if_neg hi]
    exact hs.2.1 i k j (by rw [zTw_lk (a' := a) (b' := n) (fun z => hi z.1)]; exact hz)
theorem zg_pfr3 {a b n : Nat} (hs : zSh (zTw a b) h) (hcd : zm_cd m = cd) {i : Nat} {v : Int32} (hq : cd.lookup pc = some (3, .putfield i, 9, 3, v)) (k : zSh (zTw n b) (zm_sr h 32 3 (some n)) → zg x d m (pc + 3) ls st (zm_sr h 32 3 (some n)) Q) : zg x d m pc ls (.ref n :: .ref 32 :: st) h Q := by
  refine zg_step1 (q := (3, .putfield i, 9, 3, v)) (t := (pc + 3, ls, st, zm_sr h 32 3 (some n))) (by unfold zm_lk; rw [hcd]; exact hq) (fun _ => rfl) rfl ?_ (k (zSh_pf3 hs))
  have hk : h.1[32]? = some (.inr 9) := hs.1 32 _ rfl
  show zm_pf 9 3 pc ls (.ref n :: .ref 32 :: st) h = _
  simp only [zm_pf, hk]
  rw [if_pos ⟨trivial, rfl⟩]
theorem zg_pfr4 {a b n : Nat} (hs : zSh (zTw a b) h) (hcd : zm_cd m = cd) {i : Nat} {v : Int32} (hq : cd.lookup pc = some (3, .putfield i, 9, 4, v)) (k : zSh (zTw a n) (zm_sr h 32 4 (some n)) → zg x d m (pc + 3) ls st (zm_sr h 32 4 (some n)) Q) : zg x d m pc ls (.ref n :: .ref 32 :: st) h Q := by
  refine zg_step1 (q := (3, .putfield i, 9, 4, v)) (t := (pc + 3, ls, st, zm_sr h 32 4 (some n))) (by unfold zm_lk; rw [hcd]; exact hq) (fun _ => rfl) rfl ?_ (k (zSh_pf4 hs))
  have hk : h.1[32]? = some (.inr 9) := hs.1 32 _ rfl
  show zm_pf 9 4 pc ls (.ref n :: .ref 32 :: st) h = _
  simp only [zm_pf, hk]
  rw [if_pos ⟨trivial, rfl⟩]
theorem zT0_len : zT0.2.length ≤ zT0.1.length := Nat.le_refl 165
theorem zg_nwi (hs : zSh zT0 h) (hcd : zm_cd m = cd) {a' b : Nat} {v n : Int32} (hq : cd.lookup pc = some (2, .newarray .int, a', b, v)) (hob : h.1.length < 1000000 ∧ 0 ≤ n ∧ n ≤ 10000) (k : zSh zT0 (znw h n) → zg x d m (pc + 2) ls (.ref h.1.length :: st) (znw h n) Q) : zg x d m pc ls (.int n :: st) h Q := by
  refine zg_step1 (q := (2, .newarray .int, a', b, v)) (t := (pc + 2, ls, .ref h.1.length :: st, znw h n)) (by unfold zm_lk; rw [hcd]; exact hq) (fun _ => rfl) rfl ?_ (k (zSh_nx hs zT0_len hob.1))
  show zm_nwa 0 (pc + 2) ls (.int n :: st) h = _
  simp only [zm_nwa]
  rw [if_pos hob]
  rfl
end ZPF
theorem zx_ch0 {h : zm_H} {j : Int32} (hob : 0 ≤ j ∧ j.toNatClampNeg < 96) : zm_xc 1002 [.ref 2000000, .int j] h = some (some (.int ((zm_sx 0).getD j.toNatClampNeg 0)), h) := zx_ch 0 (by decide) rfl hob
theorem zx_ch1 {h : zm_H} {j : Int32} (hob : 0 ≤ j ∧ j.toNatClampNeg < 12) : zm_xc 1002 [.ref 2000001, .int j] h = some (some (.int ((zm_sx 1).getD j.toNatClampNeg 0)), h) := zx_ch 1 (by decide) rfl hob
theorem zx_ch2 {h : zm_H} {j : Int32} (hob : 0 ≤ j ∧ j.toNatClampNeg < 81) : zm_xc 1002 [.ref 2000002, .int j] h = some (some (.int ((zm_sx 2).getD j.toNatClampNeg 0)), h) := zx_ch 2 (by decide) rfl hob
