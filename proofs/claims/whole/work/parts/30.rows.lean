/-! ===== runs of the small machine, goal first ===== -/
def zg (x : zm_X) (d m pc : Nat) (ls : zm_L) (st : List Value) (h : zm_H) (Q : Option Value → zm_H → Prop) : Prop := ∃ (n : Nat) (v : Option Value) (h' : zm_H), zm_run x n d m pc ls st h = some (v, h') ∧ Q v h'
theorem zg.mono {x : zm_X} {d m pc : Nat} {ls : zm_L} {st : List Value} {h : zm_H} {Q Q' : Option Value → zm_H → Prop} (hg : zg x d m pc ls st h Q) (hq : ∀ v h', Q v h' → Q' v h') : zg x d m pc ls st h Q' := by
  obtain ⟨n, v, h', h1, h2⟩ := hg
  exact ⟨n, v, h', h1, hq v h' h2⟩
theorem zm_run_up {x : zm_X} : ∀ (n d m pc : Nat) (ls : zm_L) (st : List Value) (h : zm_H) (r : Option Value × zm_H), zm_run x n d m pc ls st h = some r → zm_run x (n + 1) d m pc ls st h = some r := by
  intro n
  induction n with
  | zero => intro d m pc ls st h r hr; cases hr
  | succ n ih =>
    intro d m pc ls st h r hr
    rw [zm_run] at hr
    rw [zm_run]
    cases hq : zm_lk m pc with
    | none => simp [hq] at hr
    | some q =>
      simp only [hq] at hr ⊢
      cases hret : zm_ret m q.2.1 st h with
      | some r' => simp only [hret] at hr ⊢; exact hr
      | none =>
        simp only [hret] at hr ⊢
        by_cases hrd : zm_rd q.2.1 = true
        · rw [if_pos hrd] at hr ⊢
          by_cases hb : q.2.2.2.1 ≤ st.length ∧ ((st.drop q.2.2.2.1).map Value.category).sum ≤ 8
          · rw [if_pos hb] at hr ⊢
            cases d with
            | zero => cases hr
            | succ d' =>
              dsimp only at hr ⊢
              by_cases ha : 1000 ≤ q.2.2.1
              · rw [if_pos ha] at hr ⊢
                cases hx : zm_xc q.2.2.1 (st.take q.2.2.2.1).reverse h with
                | none => simp [hx] at hr
                | some z =>
                  simp only [hx] at hr ⊢
                  exact ih _ _ _ _ _ _ _ hr
              · rw [if_neg ha] at hr ⊢
                by_cases hc : (zm_iv q.2.1 = true → zm_rk q.2.2.1 (st.take q.2.2.2.1).reverse h = true) ∧ (zm_el (st.take q.2.2.2.1).reverse).length ≤ zm_ml q.2.2.1
                · rw [if_pos hc] at hr ⊢
                  cases hx : zm_run x n d' q.2.2.1 0 (zm_en q.2.2.1 (st.take q.2.2.2.1).reverse) [] h with
                  | none => simp [hx] at hr
                  | some z =>
                    simp only [hx] at hr
                    simp only [ih _ _ _ _ _ _ _ hx]
                    exact ih _ _ _ _ _ _ _ hr
                · rw [if_neg hc] at hr; cases hr
          · rw [if_neg hb] at hr; cases hr
        · rw [if_neg hrd] at hr ⊢
          cases ht : zm_S x q pc ls st h with
          | none => simp [ht] at hr
          | some t =>
            simp only [ht] at hr ⊢
            exact ih _ _ _ _ _ _ _ hr
theorem zm_run_le {x : zm_X} {n n' d m pc : Nat} {ls : zm_L} {st : List Value} {h : zm_H} {r : Option Value × zm_H} (hn : n ≤ n') (hr : zm_run x n d m pc ls st h = some r) : zm_run x n' d m pc ls st h = some r := by
  induction hn with
  | refl => exact hr
  | step _ ih => exact zm_run_up _ _ _ _ _ _ _ _ ih
abbrev zT : Type := List zm_K × List (List (Option Nat))
def zlk (T : List (List (Option Nat))) (i k : Nat) : Option Nat := (T.getD i []).getD k none
def zSh (T : zT) (h : zm_H) : Prop := (∀ (i : Nat) (q : zm_K), T.1[i]? = some q → h.1[i]? = some q) ∧ (∀ (i k j : Nat), zlk T.2 i k = some j → h.2.2.2 i k = some j) ∧ h.1.length ≤ 1000000
theorem zSh.of {T : zT} {h h' : zm_H} (hs : zSh T h) (h1 : h'.1 = h.1) (h2 : h'.2.2.2 = h.2.2.2) : zSh T h' := by
  unfold zSh
  rw [h1, h2]
  exact hs
def zm_ps : Instr → Bool
  | .iconst _ | .bipush _ | .sipush _ | .ldc _ | .ldc_w _ | .ldc2_w _ | .lconst _ | .iload_n _ | .iload _ | .lload_n _ | .aload_n _ | .istore_n _ | .istore _ | .astore_n _ | .iinc _ _ => true
  | .iadd | .isub | .imul | .iand | .ior | .ixor | .ishl | .ishr | .iushr | .idiv | .irem | .ineg | .i2b | .i2c | .ladd | .lsub | .lmul | .lcmp | .i2l | .l2i | .dup | .dup2 | .pop | .goto _ | .getstatic _ => true
  | _ => false
def zb_g (T : zT) (c k pc : Nat) (ls : zm_L) (st : List Value) (h : zm_H) : Option zm_T := match st with
  | .ref i :: r => (match T.1[i]? with
    | some (.inr c') => if c' = c then (if zm_ft c k = 0 then some (pc + 3, ls, .int (h.2.1 i k) :: r, h) else (match zlk T.2 i k with
      | some j => some (pc + 3, ls, .ref j :: r, h)
      | none => none)) else none
    | _ => none)
  | _ => none
def zb_p (T : zT) (c k pc : Nat) (ls : zm_L) (st : List Value) (h : zm_H) : Option zm_T := match st with
  | .int v :: .ref i :: r => (match T.1[i]? with
    | some (.inr c') => if c' = c ∧ zm_ft c k = 0 then some (pc + 3, ls, r, zm_si h i k v) else none
    | _ => none)
  | _ => none
def zb_l (T : zT) (pc : Nat) (ls : zm_L) (st : List Value) (h : zm_H) : Option zm_T := match st with
  | .ref i :: r => (match T.1[i]? with
    | some (.inl z) => some (pc + 1, ls, .int (Int32.ofNat z.2) :: r, h)
    | _ => none)
  | _ => none
def zb1 (x : zm_X) (T : zT) (q : zm_I) (pc : Nat) (ls : zm_L) (st : List Value) (h : zm_H) : Option zm_T := match q.2.1 with
  | .getfield _ => zb_g T q.2.2.1 q.2.2.2.1 pc ls st h
  | .putfield _ => zb_p T q.2.2.1 q.2.2.2.1 pc ls st h
  | .arraylength => zb_l T pc ls st h
  | ins => if zm_ps ins = true then zm_S x q pc ls st h else none
def zb (x : zm_X) (T : zT) (cd : List (Nat × zm_I)) : Nat → zm_T → Option zm_T
  | 0, t => some t
  | k + 1, (pc, ls, st, h) => match cd.lookup pc with
    | some q => (match zb1 x T q pc ls st h with
      | some t => zb x T cd k t
      | none => none)
    | none => none
theorem zS_keep {x : zm_X} {q : zm_I} {pc : Nat} {ls : zm_L} {st : List Value} {h : zm_H} {t : zm_T} (hp : zm_ps q.2.1 = true) (hs : zm_S x q pc ls st h = some t) : t.2.2.2 = h ∧ zm_rd q.2.1 = false ∧ ∀ m, zm_ret m q.2.1 st h = none := by
  obtain ⟨len, ins, a, b, v⟩ := q
  dsimp only at hp ⊢
  have pv : ∀ {pc' : Nat} {o : Option (List Value)}, zm_pv pc' ls h o = some t → t.2.2.2 = h := by
    intro pc' o ho
    cases o with
    | none => cases ho
    | some z => cases ho; rfl
  cases ins with
  | ldc i => refine ⟨?_, rfl, fun _ => rfl⟩; have hs : (if b = 0 then some (pc + 2, ls, Value.int v :: st, h) else some (pc + 2, ls, Value.ref (2000000 + a) :: st, h)) = some t := hs; split at hs <;> cases hs <;> rfl
  | ldc_w i => refine ⟨?_, rfl, fun _ => rfl⟩; have hs : (if b = 0 then some (pc + 3, ls, Value.int v :: st, h) else some (pc + 3, ls, Value.ref (2000000 + a) :: st, h)) = some t := hs; split at hs <;> cases hs <;> rfl
  | iload_n k => obtain ⟨y, -, ht⟩ := zm_ld1_inv hs; subst ht; exact ⟨rfl, rfl, fun _ => rfl⟩
  | iload k => obtain ⟨y, -, ht⟩ := zm_ld1_inv hs; subst ht; exact ⟨rfl, rfl, fun _ => rfl⟩
  | lload_n k => obtain ⟨y, -, ht⟩ := zm_ldl_inv hs; subst ht; exact ⟨rfl, rfl, fun _ => rfl⟩
  | aload_n k => obtain ⟨y, -, ht⟩ := zm_lda_inv hs; subst ht; exact ⟨rfl, rfl, fun _ => rfl⟩
  | istore_n k => obtain ⟨y, r, l', -, -, ht⟩ := zm_st1_inv hs; subst ht; exact ⟨rfl, rfl, fun _ => rfl⟩
  | istore k => obtain ⟨y, r, l', -, -, ht⟩ := zm_st1_inv hs; subst ht; exact ⟨rfl, rfl, fun _ => rfl⟩
  | astore_n k => obtain ⟨y, r, l', -, -, ht⟩ := zm_sta_inv hs; subst ht; exact ⟨rfl, rfl, fun _ => rfl⟩
  | iinc k n => obtain ⟨y, l', -, -, ht⟩ := zm_iin_inv hs; subst ht; exact ⟨rfl, rfl, fun _ => rfl⟩
  | dup =>
    refine ⟨?_, rfl, fun _ => rfl⟩
    (match st, hs with
    | .int y :: r, hs => cases hs; rfl
    | .ref y :: r, hs => cases hs; rfl)
  | dup2 =>
    refine ⟨?_, rfl, fun _ => rfl⟩
    (match st, hs with
    | .int y :: .ref z :: r, hs => cases hs; rfl)
  | iconst n => cases hs; exact ⟨rfl, rfl, fun _ => rfl⟩
  | bipush n => cases hs; exact ⟨rfl, rfl, fun _ => rfl⟩
  | sipush n => cases hs; exact ⟨rfl, rfl, fun _ => rfl⟩
  | ldc2_w n => cases hs; exact ⟨rfl, rfl, fun _ => rfl⟩
  | lconst n => cases hs; exact ⟨rfl, rfl, fun _ => rfl⟩
  | goto n => cases hs; exact ⟨rfl, rfl, fun _ => rfl⟩
  | getstatic n => cases hs; exact ⟨rfl, rfl, fun _ => rfl⟩
  | iadd => exact ⟨pv hs, rfl, fun _ => rfl⟩
  | isub => exact ⟨pv hs, rfl, fun _ => rfl⟩
  | imul => exact ⟨pv hs, rfl, fun _ => rfl⟩
  | iand => exact ⟨pv hs, rfl, fun _ => rfl⟩
  | ior => exact ⟨pv hs, rfl, fun _ => rfl⟩
  | ixor => exact ⟨pv hs, rfl, fun _ => rfl⟩
  | ishl => exact ⟨pv hs, rfl, fun _ => rfl⟩
  | ishr => exact ⟨pv hs, rfl, fun _ => rfl⟩
  | iushr => exact ⟨pv hs, rfl, fun _ => rfl⟩
  | idiv => exact ⟨pv hs, rfl, fun _ => rfl⟩
  | irem => exact ⟨pv hs, rfl, fun _ => rfl⟩
  | ineg => exact ⟨pv hs, rfl, fun _ => rfl⟩
  | i2b => exact ⟨pv hs, rfl, fun _ => rfl⟩
  | i2c => exact ⟨pv hs, rfl, fun _ => rfl⟩
  | ladd => exact ⟨pv hs, rfl, fun _ => rfl⟩
  | lsub => exact ⟨pv hs, rfl, fun _ => rfl⟩
  | lmul => exact ⟨pv hs, rfl, fun _ => rfl⟩
  | lcmp => exact ⟨pv hs, rfl, fun _ => rfl⟩
  | i2l => exact ⟨pv hs, rfl, fun _ => rfl⟩
  | l2i => exact ⟨pv hs, rfl, fun _ => rfl⟩
  | pop => exact ⟨pv hs, rfl, fun _ => rfl⟩
  | _ => cases hp
theorem zb1_ok {x : zm_X} {T : zT} {q : zm_I} {pc : Nat} {ls : zm_L} {st : List Value} {h : zm_H} {t : zm_T} (hs : zSh T h) (hb : zb1 x T q pc ls st h = some t) : zm_S x q pc ls st h = some t ∧ zSh T t.2.2.2 ∧ zm_rd q.2.1 = false ∧ ∀ m, zm_ret m q.2.1 st h = none := by
  have gen : ∀ {P : Prop} [Decidable P] {o : Option zm_T}, (if P then o else none) = some t → P ∧ o = some t := fun h => zm_ifs h
  have fin : (if zm_ps q.2.1 = true then zm_S x q pc ls st h else none) = some t → zm_S x q pc ls st h = some t ∧ zSh T t.2.2.2 ∧ zm_rd q.2.1 = false ∧ ∀ m, zm_ret m q.2.1 st h = none := by
    intro hb
    obtain ⟨h1, h2⟩ := gen hb
    obtain ⟨h3, h4, h5⟩ := zS_keep h1 h2
    exact ⟨h2, by rw [h3]; exact hs, h4, h5⟩
  obtain ⟨len, ins, a, b, v⟩ := q
  cases ins with
  | getfield i =>
    refine ⟨?_, ?_, rfl, fun _ => rfl⟩ <;>
    (match st, hb with
    | .ref y :: r, hb =>
      have hb : (match T.1[y]? with | some (.inr c') => if c' = a then (if zm_ft a b = 0 then some (pc + 3, ls, Value.int (h.2.1 y b) :: r, h) else (match zlk T.2 y b with | some j => some (pc + 3, ls, Value.ref j :: r, h) | none => none)) else none | _ => none) = some t := hb
      cases hk : T.1[y]? with
      | none => simp [hk] at hb
      | some z =>
        cases z with
        | inl z => simp [hk] at hb
        | inr c' =>
          simp only [hk] at hb
          obtain ⟨h1, h2⟩ := zm_ifs hb
          subst h1
          have hk' := hs.1 y _ hk
          by_cases h0 : zm_ft c' b = 0
          · rw [if_pos h0] at h2
            cases h2
            first | exact hs | simp [zm_S, zm_gf, hk', h0]
          · rw [if_neg h0] at h2
            cases hz : zlk T.2 y b with
            | none => simp [hz] at h2
            | some j =>
              simp only [hz] at h2
              cases h2
              first | exact hs | simp [zm_S, zm_gf, hk', h0, hs.2.1 y b j hz, zm_rv])
  | putfield i =>
    refine ⟨?_, ?_, rfl, fun _ => rfl⟩ <;>
    (match st, hb with
    | .int u :: .ref y :: r, hb =>
      have hb : (match T.1[y]? with | some (.inr c') => if c' = a ∧ zm_ft a b = 0 then some (pc + 3, ls, r, zm_si h y b u) else none | _ => none) = some t := hb
      cases hk : T.1[y]? with
      | none => simp [hk] at hb
      | some z =>
        cases z with
        | inl z => simp [hk] at hb
        | inr c' =>
          simp only [hk] at hb
          obtain ⟨⟨h1, h0⟩, h2⟩ := zm_ifs hb
          subst h1
          have hk' := hs.1 y _ hk
          cases h2
          first | exact hs | simp [zm_S, zm_pf, hk', h0])
  | arraylength =>
    refine ⟨?_, ?_, rfl, fun _ => rfl⟩ <;>
    (match st, hb with
    | .ref y :: r, hb =>
      have hb : (match T.1[y]? with | some (.inl z) => some (pc + 1, ls, Value.int (Int32.ofNat z.2) :: r, h) | _ => none) = some t := hb
      cases hk : T.1[y]? with
      | none => simp [hk] at hb
      | some z =>
        cases z with
        | inr c' => simp [hk] at hb
        | inl z =>
          simp only [hk] at hb
          have hk' := hs.1 y _ hk
          cases hb
          obtain ⟨z1, z2⟩ := z
          first | exact hs | simp [zm_S, zm_al, hk'])
  | _ => exact fin hb
theorem zg_step1 {x : zm_X} {d m pc : Nat} {ls : zm_L} {st : List Value} {h : zm_H} {Q : Option Value → zm_H → Prop} {q : zm_I} {t : zm_T} (hq : zm_lk m pc = some q) (hr : ∀ m, zm_ret m q.2.1 st h = none) (hrd : zm_rd q.2.1 = false) (hs : zm_S x q pc ls st h = some t) (hg : zg x d m t.1 t.2.1 t.2.2.1 t.2.2.2 Q) : zg x d m pc ls st h Q := by
  obtain ⟨n, v, h', h1, h2⟩ := hg
  refine ⟨n + 1, v, h', ?_, h2⟩
  rw [zm_run]
  simp only [hq, hr, hrd, hs]
  exact h1
theorem zg_blk {x : zm_X} {T : zT} {d m : Nat} {cd : List (Nat × zm_I)} {Q : Option Value → zm_H → Prop} (hcd : zm_cd m = cd) : ∀ (k : Nat) {pc : Nat} {ls : zm_L} {st : List Value} {h : zm_H} {pc' : Nat} {ls' : zm_L} {st' : List Value} {h' : zm_H}, zSh T h → zb x T cd k (pc, ls, st, h) = some (pc', ls', st', h') → (zSh T h' → zg x d m pc' ls' st' h' Q) → zg x d m pc ls st h Q := by
  intro k
  induction k with
  | zero => intro pc ls st h pc' ls' st' h' hs hb hg; cases hb; exact hg hs
  | succ k ih =>
    intro pc ls st h pc' ls' st' h' hs hb hg
    rw [zb] at hb
    split at hb
    · next q hq =>
      split at hb
      · next t ht =>
        obtain ⟨h1, h2, h3, h4⟩ := zb1_ok hs ht
        exact zg_step1 (by unfold zm_lk; rw [hcd]; exact hq) h4 h3 h1 (ih h2 hb hg)
      · cases hb
    · cases hb
