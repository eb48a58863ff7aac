/-! ===== one step of the small machine is a step of the JVM ===== -/
theorem zm_and {a b : Bool} (h : (a && b) = true) : a = true ∧ b = true := by simpa using h
theorem zm_beq {a b : Nat} (h : (a == b) = true) : a = b := by simpa using h
theorem zm_b2_inv {f : Int32 → Int32 → Int32} {pc : Nat} {ls : zm_L} {h : zm_H} {st : List Value} {t : zm_T} (hs : zm_pv pc ls h (zm_b2 f st) = some t) : ∃ (x y : Int32) (r : List Value), st = .int y :: .int x :: r ∧ t = (pc, ls, .int (f x y) :: r, h) := by
  match st, hs with
  | .int y :: .int x :: r, hs => exact ⟨x, y, r, rfl, by simpa [zm_pv, zm_b2] using hs.symm⟩
theorem zm_d2_inv {f : Int32 → Int32 → Int32} {pc : Nat} {ls : zm_L} {h : zm_H} {st : List Value} {t : zm_T} (hs : zm_pv pc ls h (zm_d2 f st) = some t) : ∃ (x y : Int32) (r : List Value), st = .int y :: .int x :: r ∧ ¬ y = 0 ∧ t = (pc, ls, .int (f x y) :: r, h) := by
  match st, hs with
  | .int y :: .int x :: r, hs =>
    by_cases hy : y = 0
    · simp [zm_pv, zm_d2, hy] at hs
    · exact ⟨x, y, r, rfl, hy, by simpa [zm_pv, zm_d2, hy] using hs.symm⟩
theorem zm_m1_inv {f : Int32 → Int32} {pc : Nat} {ls : zm_L} {h : zm_H} {st : List Value} {t : zm_T} (hs : zm_pv pc ls h (zm_m1 f st) = some t) : ∃ (x : Int32) (r : List Value), st = .int x :: r ∧ t = (pc, ls, .int (f x) :: r, h) := by
  match st, hs with
  | .int x :: r, hs => exact ⟨x, r, rfl, by simpa [zm_pv, zm_m1] using hs.symm⟩
theorem zm_l2_inv {f : Int64 → Int64 → Int64} {pc : Nat} {ls : zm_L} {h : zm_H} {st : List Value} {t : zm_T} (hs : zm_pv pc ls h (zm_l2 f st) = some t) : ∃ (x y : Int64) (r : List Value), st = .long y :: .long x :: r ∧ t = (pc, ls, .long (f x y) :: r, h) := by
  match st, hs with
  | .long y :: .long x :: r, hs => exact ⟨x, y, r, rfl, by simpa [zm_pv, zm_l2] using hs.symm⟩
theorem zm_ld1_inv {ls : zm_L} {k n pc : Nat} {st : List Value} {h : zm_H} {t : zm_T} (hs : zm_ld1 ls k n pc st h = some t) : ∃ x : Int32, zm_ld ls k = some (.int x) ∧ t = (pc + n, ls, .int x :: st, h) := by
  unfold zm_ld1 at hs
  split at hs
  · next x hx => exact ⟨x, hx, (Option.some.inj hs).symm⟩
  · cases hs
theorem zm_ldl_inv {ls : zm_L} {k n pc : Nat} {st : List Value} {h : zm_H} {t : zm_T} (hs : zm_ldl ls k n pc st h = some t) : ∃ x : Int64, zm_ld ls k = some (.long x) ∧ t = (pc + n, ls, .long x :: st, h) := by
  unfold zm_ldl at hs
  split at hs
  · next x hx => exact ⟨x, hx, (Option.some.inj hs).symm⟩
  · cases hs
theorem zm_lda_inv {ls : zm_L} {k n pc : Nat} {st : List Value} {h : zm_H} {t : zm_T} (hs : zm_lda ls k n pc st h = some t) : ∃ x : Nat, zm_ld ls k = some (.ref x) ∧ t = (pc + n, ls, .ref x :: st, h) := by
  unfold zm_lda at hs
  split at hs
  · next x hx => exact ⟨x, hx, (Option.some.inj hs).symm⟩
  · cases hs
theorem zm_omap {α β : Type} {o : Option α} {f : α → β} {t : β} (h : o.map f = some t) : ∃ a, o = some a ∧ f a = t := by
  cases o with
  | none => cases h
  | some a => exact ⟨a, rfl, Option.some.inj h⟩
theorem zm_st1_inv {ls : zm_L} {k n pc : Nat} {st : List Value} {h : zm_H} {t : zm_T} (hs : zm_st1 ls k n pc st h = some t) : ∃ (x : Int32) (r : List Value) (l' : zm_L), st = .int x :: r ∧ zm_so ls k (.int x) = some l' ∧ t = (pc + n, l', r, h) := by
  match st, hs with
  | .int x :: r, hs =>
    obtain ⟨l', h1, h2⟩ := zm_omap hs
    exact ⟨x, r, l', rfl, h1, h2.symm⟩
theorem zm_sta_inv {ls : zm_L} {k n pc : Nat} {st : List Value} {h : zm_H} {t : zm_T} (hs : zm_sta ls k n pc st h = some t) : ∃ (x : Nat) (r : List Value) (l' : zm_L), st = .ref x :: r ∧ zm_so ls k (.ref x) = some l' ∧ t = (pc + n, l', r, h) := by
  match st, hs with
  | .ref x :: r, hs =>
    obtain ⟨l', h1, h2⟩ := zm_omap hs
    exact ⟨x, r, l', rfl, h1, h2.symm⟩
theorem zm_iin_inv {ls : zm_L} {k pc : Nat} {v : Int32} {st : List Value} {h : zm_H} {t : zm_T} (hs : zm_iin ls k v pc st h = some t) : ∃ (x : Int32) (l' : zm_L), zm_ld ls k = some (.int x) ∧ zm_so ls k (.int (x + v)) = some l' ∧ t = (pc + 3, l', st, h) := by
  unfold zm_iin at hs
  split at hs
  · next x hx =>
    obtain ⟨l', h1, h2⟩ := zm_omap hs
    exact ⟨x, l', hx, h1, h2.symm⟩
  · cases hs
theorem zm_if1_inv {c : Jvm.ClassFile.Cond} {tg pc : Nat} {ls : zm_L} {st : List Value} {h : zm_H} {t : zm_T} (hs : zm_if1 c tg pc ls st h = some t) : ∃ (x : Int32) (r : List Value), st = .int x :: r ∧ t = (if zm_c1 c x = true then tg else pc + 3, ls, r, h) := by
  match st, hs with
  | .int x :: r, hs => exact ⟨x, r, rfl, (Option.some.inj hs).symm⟩
theorem zm_if2_inv {c : Jvm.ClassFile.Cond} {tg pc : Nat} {ls : zm_L} {st : List Value} {h : zm_H} {t : zm_T} (hs : zm_if2 c tg pc ls st h = some t) : ∃ (x y : Int32) (r : List Value), st = .int y :: .int x :: r ∧ t = (if zm_c2 c x y = true then tg else pc + 3, ls, r, h) := by
  match st, hs with
  | .int y :: .int x :: r, hs => exact ⟨x, y, r, rfl, (Option.some.inj hs).symm⟩
theorem zm_bnd {α : Type} {j : Int32} {n : Nat} {a : α} {t : α} (h : (if j < 0 ∨ n ≤ j.toNatClampNeg then none else some a) = some t) : vp_in j n ∧ a = t := by
  by_cases hc : j < 0 ∨ n ≤ j.toNatClampNeg
  · rw [if_pos hc] at h; cases h
  · rw [if_neg hc] at h; exact ⟨hc, Option.some.inj h⟩
theorem zm_ifs {α : Type} {P : Prop} [Decidable P] {o : Option α} {t : α} (h : (if P then o else none) = some t) : P ∧ o = some t := by
  by_cases hc : P
  · rw [if_pos hc] at h; exact ⟨hc, h⟩
  · rw [if_neg hc] at h; cases h
theorem zm_ial_inv {x : zm_X} {pc : Nat} {ls : zm_L} {st : List Value} {h : zm_H} {t : zm_T} (hs : zm_ial x pc ls st h = some t) : ∃ (j : Int32) (a n : Nat) (f : Nat → Int32) (r : List Value), st = .int j :: .ref a :: r ∧ zm_ia x h a = some (n, f) ∧ vp_in j n ∧ t = (pc + 1, ls, .int (f j.toNatClampNeg) :: r, h) := by
  match st, hs with
  | .int j :: .ref a :: r, hs =>
    simp only [zm_ial] at hs
    split at hs
    · next n f hf =>
      obtain ⟨h1, h2⟩ := zm_bnd hs
      exact ⟨j, a, n, f, r, rfl, hf, h1, h2.symm⟩
    · cases hs

theorem zm_arr_inv {h : zm_H} {a : Nat} {P : Nat → Nat → Prop} [∀ t n, Decidable (P t n)] {g : Nat → Nat → Option zm_T} {t : zm_T} (hs : (match h.1[a]? with | some (.inl (ty, n)) => if P ty n then g ty n else none | _ => none) = some t) : ∃ ty n, h.1[a]? = some (.inl (ty, n)) ∧ P ty n ∧ g ty n = some t := by
  split at hs
  · next ty n hk =>
    obtain ⟨h1, h2⟩ := zm_ifs hs
    exact ⟨ty, n, hk, h1, h2⟩
  · cases hs
theorem zm_bal_inv {pc : Nat} {ls : zm_L} {st : List Value} {h : zm_H} {t : zm_T} (hs : zm_bal pc ls st h = some t) : ∃ (j : Int32) (a ty n : Nat) (r : List Value), st = .int j :: .ref a :: r ∧ h.1[a]? = some (.inl (ty, n)) ∧ (ty = 1 ∨ ty = 2) ∧ vp_in j n ∧ t = (pc + 1, ls, .int (h.2.1 a j.toNatClampNeg) :: r, h) := by
  match st, hs with
  | .int j :: .ref a :: r, hs =>
    obtain ⟨ty, n, h1, h2, h3⟩ := zm_arr_inv (P := fun ty _ => ty = 1 ∨ ty = 2) (g := fun _ n => if j < 0 ∨ n ≤ j.toNatClampNeg then none else some (pc + 1, ls, .int (h.2.1 a j.toNatClampNeg) :: r, h)) hs
    obtain ⟨h4, h5⟩ := zm_bnd h3
    exact ⟨j, a, ty, n, r, rfl, h1, h2, h4, h5.symm⟩
theorem zm_lal_inv {pc : Nat} {ls : zm_L} {st : List Value} {h : zm_H} {t : zm_T} (hs : zm_lal pc ls st h = some t) : ∃ (j : Int32) (a n : Nat) (r : List Value), st = .int j :: .ref a :: r ∧ h.1[a]? = some (.inl (3, n)) ∧ vp_in j n ∧ t = (pc + 1, ls, .long (h.2.2.1 a j.toNatClampNeg) :: r, h) := by
  match st, hs with
  | .int j :: .ref a :: r, hs =>
    obtain ⟨ty, n, h1, h2, h3⟩ := zm_arr_inv (P := fun ty _ => ty = 3) (g := fun _ n => if j < 0 ∨ n ≤ j.toNatClampNeg then none else some (pc + 1, ls, .long (h.2.2.1 a j.toNatClampNeg) :: r, h)) hs
    obtain ⟨h4, h5⟩ := zm_bnd h3
    subst h2
    exact ⟨j, a, n, r, rfl, h1, h4, h5.symm⟩
theorem zm_aal_inv {pc : Nat} {ls : zm_L} {st : List Value} {h : zm_H} {t : zm_T} (hs : zm_aal pc ls st h = some t) : ∃ (j : Int32) (a n : Nat) (r : List Value), st = .int j :: .ref a :: r ∧ h.1[a]? = some (.inl (4, n)) ∧ vp_in j n ∧ t = (pc + 1, ls, zm_rv (h.2.2.2 a j.toNatClampNeg) :: r, h) := by
  match st, hs with
  | .int j :: .ref a :: r, hs =>
    obtain ⟨ty, n, h1, h2, h3⟩ := zm_arr_inv (P := fun ty _ => ty = 4) (g := fun _ n => if j < 0 ∨ n ≤ j.toNatClampNeg then none else some (pc + 1, ls, zm_rv (h.2.2.2 a j.toNatClampNeg) :: r, h)) hs
    obtain ⟨h4, h5⟩ := zm_bnd h3
    subst h2
    exact ⟨j, a, n, r, rfl, h1, h4, h5.symm⟩
theorem zm_ias_inv {pc : Nat} {ls : zm_L} {st : List Value} {h : zm_H} {t : zm_T} (hs : zm_ias pc ls st h = some t) : ∃ (v j : Int32) (a n : Nat) (r : List Value), st = .int v :: .int j :: .ref a :: r ∧ h.1[a]? = some (.inl (0, n)) ∧ vp_in j n ∧ t = (pc + 1, ls, r, zm_si h a j.toNatClampNeg v) := by
  match st, hs with
  | .int v :: .int j :: .ref a :: r, hs =>
    obtain ⟨ty, n, h1, h2, h3⟩ := zm_arr_inv (P := fun ty _ => ty = 0) (g := fun _ n => if j < 0 ∨ n ≤ j.toNatClampNeg then none else some (pc + 1, ls, r, zm_si h a j.toNatClampNeg v)) hs
    obtain ⟨h4, h5⟩ := zm_bnd h3
    subst h2
    exact ⟨v, j, a, n, r, rfl, h1, h4, h5.symm⟩
theorem zm_bas_inv {pc : Nat} {ls : zm_L} {st : List Value} {h : zm_H} {t : zm_T} (hs : zm_bas pc ls st h = some t) : ∃ (v j : Int32) (a ty n : Nat) (r : List Value), st = .int v :: .int j :: .ref a :: r ∧ h.1[a]? = some (.inl (ty, n)) ∧ (ty = 1 ∨ ty = 2) ∧ vp_in j n ∧ t = (pc + 1, ls, r, zm_si h a j.toNatClampNeg (zm_nb ty v)) := by
  match st, hs with
  | .int v :: .int j :: .ref a :: r, hs =>
    obtain ⟨ty, n, h1, h2, h3⟩ := zm_arr_inv (P := fun ty _ => ty = 1 ∨ ty = 2) (g := fun ty n => if j < 0 ∨ n ≤ j.toNatClampNeg then none else some (pc + 1, ls, r, zm_si h a j.toNatClampNeg (zm_nb ty v))) hs
    obtain ⟨h4, h5⟩ := zm_bnd h3
    exact ⟨v, j, a, ty, n, r, rfl, h1, h2, h4, h5.symm⟩
theorem zm_las_inv {pc : Nat} {ls : zm_L} {st : List Value} {h : zm_H} {t : zm_T} (hs : zm_las pc ls st h = some t) : ∃ (v : Int64) (j : Int32) (a n : Nat) (r : List Value), st = .long v :: .int j :: .ref a :: r ∧ h.1[a]? = some (.inl (3, n)) ∧ vp_in j n ∧ t = (pc + 1, ls, r, zm_sl h a j.toNatClampNeg v) := by
  match st, hs with
  | .long v :: .int j :: .ref a :: r, hs =>
    obtain ⟨ty, n, h1, h2, h3⟩ := zm_arr_inv (P := fun ty _ => ty = 3) (g := fun _ n => if j < 0 ∨ n ≤ j.toNatClampNeg then none else some (pc + 1, ls, r, zm_sl h a j.toNatClampNeg v)) hs
    obtain ⟨h4, h5⟩ := zm_bnd h3
    subst h2
    exact ⟨v, j, a, n, r, rfl, h1, h4, h5.symm⟩
theorem zm_isA_at {h : zm_H} {b : Nat} (hb : zm_isA h b = true) : ∃ n, h.1[b]? = some (.inl (0, n)) := by
  unfold zm_isA at hb
  split at hb
  · next t n hk =>
    have := zm_beq hb
    subst this
    exact ⟨n, hk⟩
  · cases hb
theorem zm_aas_inv {pc : Nat} {ls : zm_L} {st : List Value} {h : zm_H} {t : zm_T} (hs : zm_aas pc ls st h = some t) : ∃ (b : Nat) (j : Int32) (a n nb : Nat) (r : List Value), st = .ref b :: .int j :: .ref a :: r ∧ h.1[a]? = some (.inl (4, n)) ∧ h.1[b]? = some (.inl (0, nb)) ∧ vp_in j n ∧ t = (pc + 1, ls, r, zm_sr h a j.toNatClampNeg (some b)) := by
  match st, hs with
  | .ref b :: .int j :: .ref a :: r, hs =>
    obtain ⟨ty, n, h1, ⟨h2, h2'⟩, h3⟩ := zm_arr_inv (P := fun ty _ => ty = 4 ∧ zm_isA h b = true) (g := fun _ n => if j < 0 ∨ n ≤ j.toNatClampNeg then none else some (pc + 1, ls, r, zm_sr h a j.toNatClampNeg (some b))) hs
    obtain ⟨h4, h5⟩ := zm_bnd h3
    obtain ⟨nb, h6⟩ := zm_isA_at h2'
    subst h2
    exact ⟨b, j, a, n, nb, r, rfl, h1, h6, h4, h5.symm⟩
theorem zm_gf_inv {c k pc : Nat} {ls : zm_L} {st : List Value} {h : zm_H} {t : zm_T} (hs : zm_gf c k pc ls st h = some t) : ∃ (i : Nat) (r : List Value), st = .ref i :: r ∧ h.1[i]? = some (.inr c) ∧ t = (pc + 3, ls, (if zm_ft c k = 0 then Value.int (h.2.1 i k) else zm_rv (h.2.2.2 i k)) :: r, h) := by
  match st, hs with
  | .ref i :: r, hs =>
    simp only [zm_gf] at hs
    split at hs
    · next c' hc =>
      obtain ⟨h1, h2⟩ := zm_ifs hs
      subst h1
      exact ⟨i, r, rfl, hc, (Option.some.inj h2).symm⟩
    · cases hs
theorem zm_pf_inv {c k pc : Nat} {ls : zm_L} {st : List Value} {h : zm_H} {t : zm_T} (hs : zm_pf c k pc ls st h = some t) : ∃ (i : Nat) (r : List Value), h.1[i]? = some (.inr c) ∧ ((∃ v : Int32, st = .int v :: .ref i :: r ∧ zm_ft c k = 0 ∧ t = (pc + 3, ls, r, zm_si h i k v)) ∨ ∃ v : Nat, st = .ref v :: .ref i :: r ∧ zm_ft c k = 1 ∧ t = (pc + 3, ls, r, zm_sr h i k (some v))) := by
  match st, hs with
  | .int v :: .ref i :: r, hs =>
    simp only [zm_pf] at hs
    split at hs
    · next c' hc =>
      obtain ⟨⟨h1, h1'⟩, h2⟩ := zm_ifs hs
      subst h1
      exact ⟨i, r, hc, Or.inl ⟨v, rfl, h1', (Option.some.inj h2).symm⟩⟩
    · cases hs
  | .ref v :: .ref i :: r, hs =>
    simp only [zm_pf] at hs
    split at hs
    · next c' hc =>
      obtain ⟨⟨h1, h1'⟩, h2⟩ := zm_ifs hs
      subst h1
      exact ⟨i, r, hc, Or.inr ⟨v, rfl, h1', (Option.some.inj h2).symm⟩⟩
    · cases hs
theorem zm_nwa_inv {ty pc : Nat} {ls : zm_L} {st : List Value} {h : zm_H} {t : zm_T} (hs : zm_nwa ty pc ls st h = some t) : ∃ (n : Int32) (r : List Value), st = .int n :: r ∧ h.1.length < 1000000 ∧ 0 ≤ n ∧ n ≤ 10000 ∧ t = (pc, ls, .ref h.1.length :: r, zm_nx h (.inl (ty, n.toNatClampNeg))) := by
  match st, hs with
  | .int n :: r, hs =>
    obtain ⟨⟨h1, h2, h3⟩, h4⟩ := zm_ifs hs
    exact ⟨n, r, rfl, h1, h2, h3, (Option.some.inj h4).symm⟩
theorem zm_new_inv {c pc : Nat} {ls : zm_L} {st : List Value} {h : zm_H} {t : zm_T} (hs : zm_new c pc ls st h = some t) : h.1.length < 1000000 ∧ t = (pc + 3, ls, .ref h.1.length :: st, zm_nx h (.inr c)) := by
  obtain ⟨h1, h4⟩ := zm_ifs hs
  exact ⟨h1, (Option.some.inj h4).symm⟩
