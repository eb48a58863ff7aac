/-! ===== cells by other names: the machine does not look at what a cell is called ===== -/
/-- a cell's name (as the parts ahead have it) and its number (as it came); since the class keeps TOKENS in three arrays these differ -/
def rnm (i : Nat) : Nat := if i < 12 then i else if i < 162 then i + 3 else if i < 165 then i - 150 else i
def rni (i : Nat) : Nat := if i < 12 then i else if i < 15 then i + 150 else if i < 165 then i - 3 else i
theorem rnm_cs (i : Nat) : (i < 12 ∧ rnm i = i) ∨ (12 ≤ i ∧ i < 162 ∧ rnm i = i + 3) ∨ (162 ≤ i ∧ i < 165 ∧ rnm i = i - 150) ∨ (165 ≤ i ∧ rnm i = i) := by
  unfold rnm
  repeat' split
  all_goals omega
theorem rni_cs (i : Nat) : (i < 12 ∧ rni i = i) ∨ (12 ≤ i ∧ i < 15 ∧ rni i = i + 150) ∨ (15 ≤ i ∧ i < 165 ∧ rni i = i - 3) ∨ (165 ≤ i ∧ rni i = i) := by
  unfold rni
  repeat' split
  all_goals omega
theorem rni_m (i : Nat) : rni (rnm i) = i := by have := rnm_cs i; have := rni_cs (rnm i); omega
theorem rnm_i (i : Nat) : rnm (rni i) = i := by have := rni_cs i; have := rnm_cs (rni i); omega
theorem rnm_b {i : Nat} (h : 165 ≤ i) : rnm i = i := by have := rnm_cs i; omega
theorem rnm_lt {i n : Nat} (h : 165 ≤ n) : rnm i < n ↔ i < n := by have := rnm_cs i; omega
def rnK (l : List zm_K) : List zm_K := (List.range l.length).map (fun i => l.getD (rni i) (.inr 0))
theorem rnK_l (l : List zm_K) : (rnK l).length = l.length := by unfold rnK; rw [List.length_map, List.length_range]
theorem rnK_at {l : List zm_K} (h : 165 ≤ l.length) (i : Nat) : (rnK l)[rnm i]? = l[i]? := by
  unfold rnK
  rw [List.getElem?_map]
  by_cases c : i < l.length
  · rw [List.getElem?_range ((rnm_lt h).mpr c)]
    show some (l.getD (rni (rnm i)) _) = _
    rw [rni_m, List.getD_eq_getElem?_getD, List.getElem?_eq_getElem c]
    rfl
  · have c2 : ¬ rnm i < l.length := fun z => c ((rnm_lt h).mp z)
    rw [List.getElem?_eq_none (by rw [List.length_range]; omega), List.getElem?_eq_none (by omega)]
    rfl
theorem rnK_s {l : List zm_K} (h : 165 ≤ l.length) (q : zm_K) : rnK (l ++ [q]) = rnK l ++ [q] := by
  apply List.ext_getElem?
  intro i
  obtain ⟨j, hj⟩ : ∃ j, i = rnm j := ⟨rni i, (rnm_i i).symm⟩
  rw [hj, rnK_at (by rw [List.length_append]; omega)]
  by_cases c : j < l.length
  · rw [List.getElem?_append_left c, List.getElem?_append_left (by rw [rnK_l]; exact (rnm_lt h).mpr c), rnK_at h]
  · rw [rnm_b (by omega), List.getElem?_append_right (by omega), List.getElem?_append_right (by rw [rnK_l]; omega), rnK_l]
def rnH (h : zm_H) : zm_H := (rnK h.1, fun i => h.2.1 (rni i), fun i => h.2.2.1 (rni i), fun i k => (h.2.2.2 (rni i) k).map rnm)
def rnV : Value → Value
  | .ref a => .ref (rnm a)
  | v => v
def rnT (st : List Value) : List Value := st.map rnV
def rnL (ls : zm_L) : zm_L := ls.map (Option.map rnV)
theorem rn_k {h : zm_H} (hl : 165 ≤ h.1.length) (a : Nat) : (rnH h).1[rnm a]? = h.1[a]? := rnK_at hl a
theorem rn_ln (h : zm_H) : (rnH h).1.length = h.1.length := rnK_l _
theorem rn_a (h : zm_H) (a : Nat) : (rnH h).2.1 (rnm a) = h.2.1 a := by show h.2.1 (rni (rnm a)) = _; rw [rni_m]
theorem rn_j (h : zm_H) (a : Nat) : (rnH h).2.2.1 (rnm a) = h.2.2.1 a := by show h.2.2.1 (rni (rnm a)) = _; rw [rni_m]
theorem rn_r (h : zm_H) (a k : Nat) : (rnH h).2.2.2 (rnm a) k = (h.2.2.2 a k).map rnm := by show (h.2.2.2 (rni (rnm a)) k).map rnm = _; rw [rni_m]
theorem rn_u {α : Type} (f : Nat → Nat → α) (a k : Nat) (v : α) : zm_u (fun i => f (rni i)) (rnm a) k v = fun i => zm_u f a k v (rni i) := by
  funext i
  unfold zm_u
  dsimp only
  by_cases c : i = rnm a
  · rw [if_pos c, if_pos (by rw [c, rni_m])]
  · rw [if_neg c, if_neg (fun z => c (by rw [← z, rnm_i]))]
theorem rn_w {α : Type} (f : Nat → Nat → α) (a : Nat) (g : Nat → α) : zm_w (fun i => f (rni i)) (rnm a) g = fun i => zm_w f a g (rni i) := by
  funext i
  unfold zm_w
  dsimp only
  by_cases c : i = rnm a
  · rw [if_pos c, if_pos (by rw [c, rni_m])]
  · rw [if_neg c, if_neg (fun z => c (by rw [← z, rnm_i]))]
theorem rn_si (h : zm_H) (a k : Nat) (v : Int32) : zm_si (rnH h) (rnm a) k v = rnH (zm_si h a k v) := by
  unfold zm_si rnH
  dsimp only
  rw [rn_u]
theorem rn_sl (h : zm_H) (a k : Nat) (v : Int64) : zm_sl (rnH h) (rnm a) k v = rnH (zm_sl h a k v) := by
  unfold zm_sl rnH
  dsimp only
  rw [rn_u]
theorem rn_sr (h : zm_H) (a k b : Nat) : zm_sr (rnH h) (rnm a) k (some (rnm b)) = rnH (zm_sr h a k (some b)) := by
  unfold zm_sr rnH
  dsimp only
  have e := rn_u (fun i k => (h.2.2.2 i k).map rnm) a k (some (rnm b))
  have e2 : (fun i => zm_u (fun i k => (h.2.2.2 i k).map rnm) a k (some (rnm b)) (rni i)) = fun i j => (zm_u h.2.2.2 a k (some b) (rni i) j).map rnm := by
    funext i j
    unfold zm_u
    dsimp only
    by_cases c : rni i = a
    · rw [if_pos c, if_pos c]
      by_cases c2 : j = k
      · rw [if_pos c2, if_pos c2]; rfl
      · rw [if_neg c2, if_neg c2]
    · rw [if_neg c, if_neg c]
  rw [e2] at e
  rw [e]
theorem rn_nx {h : zm_H} (hl : 165 ≤ h.1.length) (q : zm_K) : zm_nx (rnH h) q = rnH (zm_nx h q) := by
  have e0 := rnm_b hl
  have e1 := rn_w h.2.1 h.1.length (fun _ => 0)
  have e2 := rn_w h.2.2.1 h.1.length (fun _ => 0)
  have e3 := rn_w (fun i k => (h.2.2.2 i k).map rnm) h.1.length (fun _ => none)
  have e4 : (fun i => zm_w (fun i k => (h.2.2.2 i k).map rnm) h.1.length (fun _ => none) (rni i)) = fun i j => (zm_w h.2.2.2 h.1.length (fun _ => none) (rni i) j).map rnm := by
    funext i j
    unfold zm_w
    dsimp only
    by_cases c : rni i = h.1.length
    · rw [if_pos c, if_pos c]; rfl
    · rw [if_neg c, if_neg c]
  rw [e4] at e3
  rw [e0] at e1 e2 e3
  unfold zm_nx
  rw [rn_ln]
  unfold rnH
  dsimp only
  rw [e1, e2, e3, rnK_s hl]
/-! locals -/
theorem rn_ld (ls : zm_L) (k : Nat) : zm_ld (rnL ls) k = (zm_ld ls k).map rnV := by
  unfold zm_ld rnL
  rw [List.getElem?_map]
  cases ls[k]? with
  | none => rfl
  | some o => cases o <;> rfl
theorem rn_n2 (ls : zm_L) (k : Nat) : zm_n2 (rnL ls) k = zm_n2 ls k := by
  cases k with
  | zero => rfl
  | succ k =>
    show (match (rnL ls)[k]? with | some (some (.long _)) => false | some (some (.double _)) => false | _ => true) = (match ls[k]? with | some (some (.long _)) => false | some (some (.double _)) => false | _ => true)
    unfold rnL
    rw [List.getElem?_map]
    cases ls[k]? with
    | none => rfl
    | some o =>
      cases o with
      | none => rfl
      | some v => cases v <;> rfl
theorem rn_so {ls : zm_L} {k : Nat} {v : Value} {l : zm_L} (h : zm_so ls k v = some l) : zm_so (rnL ls) k (rnV v) = some (rnL l) := by
  unfold zm_so at h ⊢
  rw [rn_n2, show (rnL ls).length = ls.length from List.length_map ..]
  obtain ⟨c, e⟩ := zm_ifs h
  cases e
  rw [if_pos c]
  unfold rnL
  rw [List.map_set]
  rfl
theorem rn_ia {x : zm_X} {h : zm_H} (hl : 165 ≤ h.1.length) (a : Nat) : zm_ia x (rnH h) (rnm a) = zm_ia x h a := by
  unfold zm_ia
  rw [rn_k hl, rn_a]
  cases e : h.1[a]? with
  | some z => cases z <;> rfl
  | none =>
    have : rnm a = a := rnm_b (by have := List.getElem?_eq_none_iff.mp e; omega)
    rw [this]
theorem rn_al {x : zm_X} {h : zm_H} (hl : 165 ≤ h.1.length) (a : Nat) : zm_al x (rnH h) (rnm a) = zm_al x h a := by
  unfold zm_al
  rw [rn_k hl]
  cases e : h.1[a]? with
  | some z => cases z <;> rfl
  | none =>
    have : rnm a = a := rnm_b (by have := List.getElem?_eq_none_iff.mp e; omega)
    rw [this]
theorem rn_isA {h : zm_H} (hl : 165 ≤ h.1.length) (a : Nat) : zm_isA (rnH h) (rnm a) = zm_isA h a := by
  unfold zm_isA
  rw [rn_k hl]
theorem rn_rv (o : Option Nat) : zm_rv (o.map rnm) = rnV (zm_rv o) := by cases o <;> rfl
theorem rn_nwa {ty pc : Nat} {ls : zm_L} {st : List Value} {h : zm_H} {t : zm_T} (hl : 165 ≤ h.1.length) (hs : zm_nwa ty pc ls st h = some t) : zm_nwa ty pc (rnL ls) (rnT st) (rnH h) = some (t.1, rnL t.2.1, rnT t.2.2.1, rnH t.2.2.2) ∧ 165 ≤ t.2.2.2.1.length := by
  obtain ⟨n, r, e, c1, c2, c3, ht⟩ := zm_nwa_inv hs
  subst e ht
  refine ⟨?_, ?_⟩
  · show zm_nwa ty pc (rnL ls) (.int n :: rnT r) (rnH h) = some (pc, rnL ls, .ref (rnm h.1.length) :: rnT r, rnH (zm_nx h (.inl (ty, n.toNatClampNeg))))
    unfold zm_nwa
    dsimp only
    rw [rn_ln, if_pos ⟨c1, c2, c3⟩, rn_nx hl, rnm_b hl]
  · show 165 ≤ (h.1 ++ [_]).length
    rw [List.length_append]; omega
set_option maxHeartbeats 2000000 in
theorem rn_S {x : zm_X} {q : zm_I} {pc : Nat} {ls : zm_L} {st : List Value} {h : zm_H} {t : zm_T} (hl : 165 ≤ h.1.length) (hs : zm_S x q pc ls st h = some t) : zm_S x q pc (rnL ls) (rnT st) (rnH h) = some (t.1, rnL t.2.1, rnT t.2.2.1, rnH t.2.2.2) ∧ 165 ≤ t.2.2.2.1.length := by
  obtain ⟨len, ins, a, b, v⟩ := q
  cases ins with
  | iconst n => cases hs; exact ⟨rfl, hl⟩
  | bipush n => cases hs; exact ⟨rfl, hl⟩
  | sipush n => cases hs; exact ⟨rfl, hl⟩
  | ldc2_w n => cases hs; exact ⟨rfl, hl⟩
  | lconst n => cases hs; exact ⟨rfl, hl⟩
  | goto n => cases hs; exact ⟨rfl, hl⟩
  | getstatic n =>
    cases hs
    refine ⟨?_, hl⟩
    show some (pc + 3, rnL ls, Value.ref 1000000 :: rnT st, rnH h) = some (pc + 3, rnL ls, Value.ref (rnm 1000000) :: rnT st, rnH h)
    rw [rnm_b (by omega)]
  | ldc i =>
    have hs : (if b = 0 then some (pc + 2, ls, Value.int v :: st, h) else some (pc + 2, ls, Value.ref (2000000 + a) :: st, h)) = some t := hs
    show (if b = 0 then some (pc + 2, rnL ls, Value.int v :: rnT st, rnH h) else some (pc + 2, rnL ls, Value.ref (2000000 + a) :: rnT st, rnH h)) = _ ∧ _
    by_cases hb : b = 0
    · rw [if_pos hb] at hs ⊢; cases hs; exact ⟨rfl, hl⟩
    · rw [if_neg hb] at hs ⊢
      cases hs
      refine ⟨?_, hl⟩
      show _ = some (pc + 2, rnL ls, Value.ref (rnm (2000000 + a)) :: rnT st, rnH h)
      rw [rnm_b (by omega)]
  | ldc_w i =>
    have hs : (if b = 0 then some (pc + 3, ls, Value.int v :: st, h) else some (pc + 3, ls, Value.ref (2000000 + a) :: st, h)) = some t := hs
    show (if b = 0 then some (pc + 3, rnL ls, Value.int v :: rnT st, rnH h) else some (pc + 3, rnL ls, Value.ref (2000000 + a) :: rnT st, rnH h)) = _ ∧ _
    by_cases hb : b = 0
    · rw [if_pos hb] at hs ⊢; cases hs; exact ⟨rfl, hl⟩
    · rw [if_neg hb] at hs ⊢
      cases hs
      refine ⟨?_, hl⟩
      show _ = some (pc + 3, rnL ls, Value.ref (rnm (2000000 + a)) :: rnT st, rnH h)
      rw [rnm_b (by omega)]
  | iload_n k =>
    obtain ⟨y, hy, ht⟩ := zm_ld1_inv hs
    subst ht
    refine ⟨?_, hl⟩
    show zm_ld1 (rnL ls) k 1 pc (rnT st) (rnH h) = _
    unfold zm_ld1
    rw [rn_ld, hy]
    rfl
  | iload k =>
    obtain ⟨y, hy, ht⟩ := zm_ld1_inv hs
    subst ht
    refine ⟨?_, hl⟩
    show zm_ld1 (rnL ls) k 2 pc (rnT st) (rnH h) = _
    unfold zm_ld1
    rw [rn_ld, hy]
    rfl
  | lload_n k =>
    obtain ⟨y, hy, ht⟩ := zm_ldl_inv hs
    subst ht
    refine ⟨?_, hl⟩
    show zm_ldl (rnL ls) k 1 pc (rnT st) (rnH h) = _
    unfold zm_ldl
    rw [rn_ld, hy]
    rfl
  | aload_n k =>
    obtain ⟨y, hy, ht⟩ := zm_lda_inv hs
    subst ht
    refine ⟨?_, hl⟩
    show zm_lda (rnL ls) k 1 pc (rnT st) (rnH h) = _
    unfold zm_lda
    rw [rn_ld, hy]
    rfl
  | istore_n k =>
    obtain ⟨y, r, l', e1, e2, ht⟩ := zm_st1_inv hs
    subst ht e1
    refine ⟨?_, hl⟩
    show zm_st1 (rnL ls) k 1 pc (.int y :: rnT r) (rnH h) = _
    unfold zm_st1
    dsimp only
    rw [show zm_so (rnL ls) k (.int y) = some (rnL l') from rn_so e2]
    rfl
  | istore k =>
    obtain ⟨y, r, l', e1, e2, ht⟩ := zm_st1_inv hs
    subst ht e1
    refine ⟨?_, hl⟩
    show zm_st1 (rnL ls) k 2 pc (.int y :: rnT r) (rnH h) = _
    unfold zm_st1
    dsimp only
    rw [show zm_so (rnL ls) k (.int y) = some (rnL l') from rn_so e2]
    rfl
  | astore_n k =>
    obtain ⟨y, r, l', e1, e2, ht⟩ := zm_sta_inv hs
    subst ht e1
    refine ⟨?_, hl⟩
    show zm_sta (rnL ls) k 1 pc (.ref (rnm y) :: rnT r) (rnH h) = _
    unfold zm_sta
    dsimp only
    rw [show zm_so (rnL ls) k (.ref (rnm y)) = some (rnL l') from rn_so e2]
    rfl
  | iinc k n =>
    obtain ⟨y, l', e1, e2, ht⟩ := zm_iin_inv hs
    subst ht
    refine ⟨?_, hl⟩
    show zm_iin (rnL ls) k v pc (rnT st) (rnH h) = _
    unfold zm_iin
    rw [rn_ld, e1]
    show (zm_so (rnL ls) k (.int (y + v))).map _ = _
    rw [show zm_so (rnL ls) k (.int (y + v)) = some (rnL l') from rn_so e2]
    rfl
  | iadd => obtain ⟨y, z, r, e, ht⟩ := zm_b2_inv hs; subst e ht; exact ⟨rfl, hl⟩
  | isub => obtain ⟨y, z, r, e, ht⟩ := zm_b2_inv hs; subst e ht; exact ⟨rfl, hl⟩
  | imul => obtain ⟨y, z, r, e, ht⟩ := zm_b2_inv hs; subst e ht; exact ⟨rfl, hl⟩
  | iand => obtain ⟨y, z, r, e, ht⟩ := zm_b2_inv hs; subst e ht; exact ⟨rfl, hl⟩
  | ior => obtain ⟨y, z, r, e, ht⟩ := zm_b2_inv hs; subst e ht; exact ⟨rfl, hl⟩
  | ixor => obtain ⟨y, z, r, e, ht⟩ := zm_b2_inv hs; subst e ht; exact ⟨rfl, hl⟩
  | ishl => obtain ⟨y, z, r, e, ht⟩ := zm_b2_inv hs; subst e ht; exact ⟨rfl, hl⟩
  | ishr => obtain ⟨y, z, r, e, ht⟩ := zm_b2_inv hs; subst e ht; exact ⟨rfl, hl⟩
  | iushr => obtain ⟨y, z, r, e, ht⟩ := zm_b2_inv hs; subst e ht; exact ⟨rfl, hl⟩
  | idiv =>
    obtain ⟨y, z, r, e, hy, ht⟩ := zm_d2_inv hs
    subst e ht
    refine ⟨?_, hl⟩
    show zm_pv (pc + 1) (rnL ls) (rnH h) (if z = 0 then none else some _) = _
    rw [if_neg hy]
    rfl
  | irem =>
    obtain ⟨y, z, r, e, hy, ht⟩ := zm_d2_inv hs
    subst e ht
    refine ⟨?_, hl⟩
    show zm_pv (pc + 1) (rnL ls) (rnH h) (if z = 0 then none else some _) = _
    rw [if_neg hy]
    rfl
  | ineg => obtain ⟨y, r, e, ht⟩ := zm_m1_inv hs; subst e ht; exact ⟨rfl, hl⟩
  | i2b => obtain ⟨y, r, e, ht⟩ := zm_m1_inv hs; subst e ht; exact ⟨rfl, hl⟩
  | i2c => obtain ⟨y, r, e, ht⟩ := zm_m1_inv hs; subst e ht; exact ⟨rfl, hl⟩
  | ladd => obtain ⟨y, z, r, e, ht⟩ := zm_l2_inv hs; subst e ht; exact ⟨rfl, hl⟩
  | lsub => obtain ⟨y, z, r, e, ht⟩ := zm_l2_inv hs; subst e ht; exact ⟨rfl, hl⟩
  | lmul => obtain ⟨y, z, r, e, ht⟩ := zm_l2_inv hs; subst e ht; exact ⟨rfl, hl⟩
  | lcmp =>
    (match st, hs with
    | .long y :: .long z :: r, hs => cases hs; exact ⟨rfl, hl⟩)
  | i2l =>
    (match st, hs with
    | .int y :: r, hs => cases hs; exact ⟨rfl, hl⟩)
  | l2i =>
    (match st, hs with
    | .long y :: r, hs => cases hs; exact ⟨rfl, hl⟩)
  | pop =>
    (match st, hs with
    | .int y :: r, hs => cases hs; exact ⟨rfl, hl⟩)
  | dup =>
    (match st, hs with
    | .int y :: r, hs => cases hs; exact ⟨rfl, hl⟩
    | .ref y :: r, hs => cases hs; exact ⟨rfl, hl⟩)
  | dup2 =>
    (match st, hs with
    | .int y :: .ref z :: r, hs => cases hs; exact ⟨rfl, hl⟩)
  | ifCond c o => obtain ⟨y, r, e, ht⟩ := zm_if1_inv hs; subst e ht; exact ⟨rfl, hl⟩
  | if_icmp c o => obtain ⟨y, z, r, e, ht⟩ := zm_if2_inv hs; subst e ht; exact ⟨rfl, hl⟩
  | ifnonnull o =>
    (match st, hs with
    | .ref y :: r, hs => cases hs; exact ⟨rfl, hl⟩
    | .null :: r, hs => cases hs; exact ⟨rfl, hl⟩)
  | tableswitch o1 o2 o3 o4 =>
    (match st, hs with
    | .int y :: r, hs => cases hs; exact ⟨rfl, hl⟩)
  | lookupswitch o1 o2 =>
    (match st, hs with
    | .int y :: r, hs => cases hs; exact ⟨rfl, hl⟩)
  | arraylength =>
    (match st, hs with
    | .ref i :: r, hs =>
      have hs : (match zm_al x h i with | some n => some (pc + 1, ls, Value.int (Int32.ofNat n) :: r, h) | none => none) = some t := hs
      show (match zm_al x (rnH h) (rnm i) with | some n => some (pc + 1, rnL ls, Value.int (Int32.ofNat n) :: rnT r, rnH h) | none => none) = _ ∧ _
      rw [rn_al hl]
      cases e : zm_al x h i with
      | none => rw [e] at hs; cases hs
      | some n => rw [e] at hs; cases hs; exact ⟨rfl, hl⟩)
  | iaload =>
    obtain ⟨j, i, n, f, r, e, e2, hin, ht⟩ := zm_ial_inv hs
    subst e ht
    refine ⟨?_, hl⟩
    show zm_ial x pc (rnL ls) (.int j :: .ref (rnm i) :: rnT r) (rnH h) = _
    unfold zm_ial
    dsimp only
    rw [rn_ia hl, e2]
    dsimp only
    rw [if_neg hin]
    rfl
  | baload =>
    obtain ⟨j, i, ty, n, r, e, e2, e3, hin, ht⟩ := zm_bal_inv hs
    subst e ht
    refine ⟨?_, hl⟩
    show zm_bal pc (rnL ls) (.int j :: .ref (rnm i) :: rnT r) (rnH h) = _
    unfold zm_bal
    dsimp only
    rw [rn_k hl, e2]
    dsimp only
    rw [if_pos e3, if_neg hin, rn_a]
    rfl
  | laload =>
    obtain ⟨j, i, n, r, e, e2, hin, ht⟩ := zm_lal_inv hs
    subst e ht
    refine ⟨?_, hl⟩
    show zm_lal pc (rnL ls) (.int j :: .ref (rnm i) :: rnT r) (rnH h) = _
    unfold zm_lal
    dsimp only
    rw [rn_k hl, e2]
    dsimp only
    rw [if_pos rfl, if_neg hin, rn_j]
    rfl
  | aaload =>
    obtain ⟨j, i, n, r, e, e2, hin, ht⟩ := zm_aal_inv hs
    subst e ht
    refine ⟨?_, hl⟩
    show zm_aal pc (rnL ls) (.int j :: .ref (rnm i) :: rnT r) (rnH h) = _
    unfold zm_aal
    dsimp only
    rw [rn_k hl, e2]
    dsimp only
    rw [if_pos rfl, if_neg hin, rn_r, rn_rv]
    rfl
  | iastore =>
    obtain ⟨u, j, i, n, r, e, e2, hin, ht⟩ := zm_ias_inv hs
    subst e ht
    refine ⟨?_, hl⟩
    show zm_ias pc (rnL ls) (.int u :: .int j :: .ref (rnm i) :: rnT r) (rnH h) = _
    unfold zm_ias
    dsimp only
    rw [rn_k hl, e2]
    dsimp only
    rw [if_pos rfl, if_neg hin, rn_si]
  | bastore =>
    obtain ⟨u, j, i, ty, n, r, e, e2, e3, hin, ht⟩ := zm_bas_inv hs
    subst e ht
    refine ⟨?_, hl⟩
    show zm_bas pc (rnL ls) (.int u :: .int j :: .ref (rnm i) :: rnT r) (rnH h) = _
    unfold zm_bas
    dsimp only
    rw [rn_k hl, e2]
    dsimp only
    rw [if_pos e3, if_neg hin, rn_si]
  | lastore =>
    obtain ⟨u, j, i, n, r, e, e2, hin, ht⟩ := zm_las_inv hs
    subst e ht
    refine ⟨?_, hl⟩
    show zm_las pc (rnL ls) (.long u :: .int j :: .ref (rnm i) :: rnT r) (rnH h) = _
    unfold zm_las
    dsimp only
    rw [rn_k hl, e2]
    dsimp only
    rw [if_pos rfl, if_neg hin, rn_sl]
  | aastore =>
    obtain ⟨u, j, i, n, nb, r, e, e2, e3, hin, ht⟩ := zm_aas_inv hs
    subst e ht
    refine ⟨?_, hl⟩
    show zm_aas pc (rnL ls) (.ref (rnm u) :: .int j :: .ref (rnm i) :: rnT r) (rnH h) = _
    have ia : zm_isA h u = true := by unfold zm_isA; rw [e3]; rfl
    unfold zm_aas
    dsimp only
    rw [rn_k hl, e2]
    dsimp only
    rw [rn_isA hl, if_pos ⟨rfl, ia⟩, if_neg hin, rn_sr]
  | getfield o =>
    obtain ⟨i, r, e, e2, ht⟩ := zm_gf_inv hs
    subst e ht
    refine ⟨?_, hl⟩
    show zm_gf a b pc (rnL ls) (.ref (rnm i) :: rnT r) (rnH h) = some (pc + 3, rnL ls, rnV (if zm_ft a b = 0 then Value.int (h.2.1 i b) else zm_rv (h.2.2.2 i b)) :: rnT r, rnH h)
    unfold zm_gf
    dsimp only
    rw [rn_k hl, e2]
    dsimp only
    rw [if_pos rfl, rn_a, rn_r, rn_rv]
    by_cases c : zm_ft a b = 0
    · rw [if_pos c, if_pos c]; rfl
    · rw [if_neg c, if_neg c]
  | putfield o =>
    obtain ⟨i, r, e2, ⟨u, e, c, ht⟩ | ⟨u, e, c, ht⟩⟩ := zm_pf_inv hs
    · subst e ht
      refine ⟨?_, hl⟩
      show zm_pf a b pc (rnL ls) (.int u :: .ref (rnm i) :: rnT r) (rnH h) = _
      unfold zm_pf
      dsimp only
      rw [rn_k hl, e2]
      dsimp only
      rw [if_pos ⟨rfl, c⟩, rn_si]
    · subst e ht
      refine ⟨?_, hl⟩
      show zm_pf a b pc (rnL ls) (.ref (rnm u) :: .ref (rnm i) :: rnT r) (rnH h) = _
      unfold zm_pf
      dsimp only
      rw [rn_k hl, e2]
      dsimp only
      rw [if_pos ⟨rfl, c⟩, rn_sr]
  | new o =>
    obtain ⟨c, ht⟩ := zm_new_inv hs
    subst ht
    refine ⟨?_, ?_⟩
    · show zm_new a pc (rnL ls) (rnT st) (rnH h) = some (pc + 3, rnL ls, .ref (rnm h.1.length) :: rnT st, rnH (zm_nx h (.inr a)))
      unfold zm_new
      rw [rn_ln, if_pos c, rn_nx hl, rnm_b hl]
    · show 165 ≤ (h.1 ++ [_]).length
      rw [List.length_append]; omega
  | newarray ty =>
    have hs : (match zm_ta ty with | some k => zm_nwa k (pc + 2) ls st h | none => none) = some t := hs
    show (match zm_ta ty with | some k => zm_nwa k (pc + 2) (rnL ls) (rnT st) (rnH h) | none => none) = _ ∧ _
    cases e : zm_ta ty with
    | none => rw [e] at hs; cases hs
    | some k =>
      rw [e] at hs
      exact rn_nwa hl hs
  | anewarray o => exact rn_nwa hl hs
  | _ => cases hs
theorem rn_rk {m : Nat} {h : zm_H} (hl : 165 ≤ h.1.length) (as : List Value) : zm_rk m (rnT as) (rnH h) = zm_rk m as h := by
  cases as with
  | nil => rfl
  | cons v r =>
    cases v with
    | ref i =>
      show (match (rnH h).1[rnm i]? with | some (.inr c) => c == zm_oc m | _ => false) = (match h.1[i]? with | some (.inr c) => c == zm_oc m | _ => false)
      rw [rn_k hl]
    | _ => rfl
theorem rn_el : ∀ as : List Value, zm_el (rnT as) = rnL (zm_el as) := by
  intro as
  induction as with
  | nil => rfl
  | cons v r ih =>
    have e : rnT (v :: r) = rnV v :: rnT r := rfl
    rw [e]
    cases v with
    | long y => show some (Value.long y) :: none :: zm_el (rnT r) = _; rw [ih]; rfl
    | int y => show some (Value.int y) :: zm_el (rnT r) = _; rw [ih]; rfl
    | float y => show some (Value.float y) :: zm_el (rnT r) = _; rw [ih]; rfl
    | double y => show some (Value.double y) :: zm_el (rnT r) = _; rw [ih]; rfl
    | null => show some Value.null :: zm_el (rnT r) = _; rw [ih]; rfl
    | ref y => show some (Value.ref (rnm y)) :: zm_el (rnT r) = _; rw [ih]; rfl
    | retAddr y => show some (Value.retAddr y) :: zm_el (rnT r) = _; rw [ih]; rfl
theorem rnL_l (l : zm_L) : (rnL l).length = l.length := List.length_map ..
theorem rn_en (m : Nat) (as : List Value) : zm_en m (rnT as) = rnL (zm_en m as) := by
  unfold zm_en
  rw [rn_el, rnL_l]
  unfold rnL
  rw [List.map_append, List.map_replicate]
  rfl
theorem rn_cat (l : List Value) : (rnT l).map Value.category = l.map Value.category := by
  unfold rnT
  rw [List.map_map]
  apply List.map_congr_left
  intro v _
  cases v <;> rfl
set_option maxHeartbeats 1000000 in
theorem rn_xc {k : Nat} {as : List Value} {h h1 : zm_H} {w : Option Value} (hl : 165 ≤ h.1.length) (hx : zm_xc k as h = some (w, h1)) : zm_xc k (rnT as) (rnH h) = some (w.map rnV, rnH h1) ∧ 165 ≤ h1.1.length := by
  have e1 := (zm_xc_inv hx).1
  refine ⟨?_, by rw [e1]; exact hl⟩
  unfold zm_xc at hx ⊢
  by_cases c0 : k = 1000
  · rw [if_pos c0] at hx ⊢
    (match as, hx with
    | [.ref s], hx => cases hx; rfl)
  rw [if_neg c0] at hx ⊢
  by_cases c1 : k = 1001
  · rw [if_pos c1] at hx ⊢
    (match as, hx with
    | [.ref a, .int sp, .ref b, .int dp, .int n], hx =>
      dsimp only at hx
      show (match (rnH h).1[rnm a]?, (rnH h).1[rnm b]? with | some (.inl (ta, na)), some (.inl (tb, nb)) => if ta = 0 ∧ tb = 0 ∧ ¬ sp < 0 ∧ ¬ dp < 0 ∧ ¬ n < 0 ∧ sp.toNatClampNeg + n.toNatClampNeg ≤ na ∧ dp.toNatClampNeg + n.toNatClampNeg ≤ nb then some ((none : Option Value), ((rnH h).1, zm_w (rnH h).2.1 (rnm b) (va_cpy ((rnH h).2.1 (rnm a)) ((rnH h).2.1 (rnm b)) sp.toNatClampNeg dp.toNatClampNeg n.toNatClampNeg), (rnH h).2.2.1, (rnH h).2.2.2)) else none | _, _ => none) = _
      rw [rn_k hl, rn_k hl, rn_a, rn_a]
      split at hx
      · next ta na tb nb ha hb =>
        obtain ⟨c, e⟩ := zm_ifs hx
        cases e
        rw [ha, hb]
        dsimp only
        rw [if_pos c]
        have e := rn_w h.2.1 b (va_cpy (h.2.1 a) (h.2.1 b) sp.toNatClampNeg dp.toNatClampNeg n.toNatClampNeg)
        show some (none, (rnK h.1, zm_w (fun i => h.2.1 (rni i)) (rnm b) _, _, _)) = _
        rw [e]
        rfl
      · cases hx)
  rw [if_neg c1] at hx ⊢
  by_cases c2 : k = 1002
  · rw [if_pos c2] at hx ⊢
    (match as, hx with
    | [.ref s, .int j], hx =>
      dsimp only at hx
      obtain ⟨c, e⟩ := zm_ifs hx
      cases e
      have es : rnm s = s := rnm_b (Nat.le_trans (by omega) (show (2000000 : Nat) ≤ s from c.1))
      show (if 2000000 ≤ rnm s ∧ rnm s < 2000003 ∧ 0 ≤ j ∧ j.toNatClampNeg < (zm_sx (rnm s - 2000000)).length then some (some (Value.int ((zm_sx (rnm s - 2000000)).getD j.toNatClampNeg 0)), rnH h) else none) = _
      rw [es, if_pos c]
      rfl)
  rw [if_neg c2] at hx ⊢
  by_cases c3 : k = 1003
  · rw [if_pos c3] at hx ⊢
    (match as, hx with
    | [.ref s], hx =>
      dsimp only at hx
      obtain ⟨c, e⟩ := zm_ifs hx
      cases e
      have es : rnm s = s := rnm_b (Nat.le_trans (by omega) (show (2000000 : Nat) ≤ s from c.1))
      show (if 2000000 ≤ rnm s ∧ rnm s < 2000003 then some (some (Value.int (Int32.ofNat (zm_sx (rnm s - 2000000)).length)), rnH h) else none) = _
      rw [es, if_pos c]
      rfl)
  rw [if_neg c3] at hx ⊢
  by_cases c4 : k = 1004
  · rw [if_pos c4] at hx ⊢
    (match as, hx with
    | [.ref s, .int j], hx =>
      dsimp only at hx
      obtain ⟨c, e⟩ := zm_ifs hx
      cases e
      have es : rnm s = s := rnm_b (Nat.le_trans (by omega) (show (2000000 : Nat) ≤ s from c.1))
      show (if 2000000 ≤ rnm s ∧ rnm s < 2000003 then some (some (Value.int (zm_ixf j (zm_sx (rnm s - 2000000)) 0)), rnH h) else none) = _
      rw [es, if_pos c]
      rfl)
  rw [if_neg c4] at hx ⊢
  by_cases c5 : k = 1005
  · rw [if_pos c5] at hx ⊢
    (match as, hx with
    | [.int y, .int z], hx => cases hx; rfl)
  rw [if_neg c5] at hx ⊢
  by_cases c6 : k = 1006
  · rw [if_pos c6] at hx ⊢
    (match as, hx with
    | [.int y, .int z], hx => cases hx; rfl)
  rw [if_neg c6] at hx ⊢
  by_cases c7 : k = 1007
  · rw [if_pos c7] at hx ⊢
    (match as, hx with
    | [.int y], hx => cases hx; rfl)
  rw [if_neg c7] at hx ⊢
  by_cases c8 : k = 1008
  · rw [if_pos c8] at hx ⊢
    (match as, hx with
    | [.long y, .long z], hx => cases hx; rfl)
  rw [if_neg c8] at hx ⊢
  by_cases c9 : k = 1009
  · rw [if_pos c9] at hx ⊢
    (match as, hx with
    | [.long y, .long z], hx => cases hx; rfl)
  rw [if_neg c9] at hx
  cases hx
theorem rn_ret1 {m : Nat} {q : Instr} {st : List Value} {h h1 : zm_H} {v : Option Value} (hr : zm_ret m q st h = some (some (v, h1))) : zm_ret m q (rnT st) (rnH h) = some (some (v.map rnV, rnH h1)) := by
  cases q with
  | ireturn =>
    unfold zm_ret at hr ⊢
    (match st, hr with
    | [.int y], hr =>
      dsimp only at hr
      split at hr
      · next c => cases hr; exact if_pos c
      · cases hr)
  | lreturn =>
    unfold zm_ret at hr ⊢
    (match st, hr with
    | [.long y], hr =>
      dsimp only at hr
      split at hr
      · next c => cases hr; exact if_pos c
      · cases hr)
  | areturn =>
    unfold zm_ret at hr ⊢
    (match st, hr with
    | [.ref y], hr =>
      dsimp only at hr
      split at hr
      · next c => cases hr; exact if_pos c
      · cases hr)
  | return_ =>
    unfold zm_ret at hr ⊢
    (match st, hr with
    | [], hr =>
      dsimp only at hr
      split at hr
      · next c => cases hr; exact if_pos c
      · cases hr)
  | _ => cases hr
theorem rn_ret0 {m : Nat} {q : Instr} {st : List Value} {h : zm_H} (hr : zm_ret m q st h = none) (st' : List Value) (h' : zm_H) : zm_ret m q st' h' = none := by
  cases q with
  | ireturn => exfalso; unfold zm_ret at hr; dsimp only at hr; (repeat' split at hr) <;> cases hr
  | lreturn => exfalso; unfold zm_ret at hr; dsimp only at hr; (repeat' split at hr) <;> cases hr
  | areturn => exfalso; unfold zm_ret at hr; dsimp only at hr; (repeat' split at hr) <;> cases hr
  | return_ => exfalso; unfold zm_ret at hr; dsimp only at hr; (repeat' split at hr) <;> cases hr
  | _ => rfl
theorem rnT_take (st : List Value) (n : Nat) : ((rnT st).take n).reverse = rnT (st.take n).reverse := by
  unfold rnT
  rw [List.map_reverse, List.map_take]
theorem rnT_drop (st : List Value) (n : Nat) : (rnT st).drop n = rnT (st.drop n) := by
  unfold rnT
  rw [List.map_drop]
theorem rnT_app (w : Option Value) (l : List Value) : (w.map rnV).toList ++ rnT l = rnT (w.toList ++ l) := by cases w <;> rfl
set_option maxHeartbeats 1000000 in
theorem rn_run {x : zm_X} : ∀ (n d m pc : Nat) (ls : zm_L) (st : List Value) (h : zm_H) (v : Option Value) (h1 : zm_H), zm_run x n d m pc ls st h = some (v, h1) → 165 ≤ h.1.length → zm_run x n d m pc (rnL ls) (rnT st) (rnH h) = some (v.map rnV, rnH h1) ∧ 165 ≤ h1.1.length := by
  intro n
  induction n with
  | zero => intro d m pc ls st h v h1 hr; cases hr
  | succ n ih =>
    intro d m pc ls st h v h1 hr hl
    rw [zm_run] at hr
    rw [zm_run]
    cases hq : zm_lk m pc with
    | none => simp [hq] at hr
    | some q =>
      simp only [hq] at hr ⊢
      cases hret : zm_ret m q.2.1 st h with
      | some r' =>
        simp only [hret] at hr
        subst hr
        rw [rn_ret1 hret]
        exact ⟨rfl, by rw [(zm_ret_inv hret).1]; exact hl⟩
      | none =>
        simp only [hret] at hr
        rw [rn_ret0 hret (rnT st) (rnH h)]
        dsimp only
        by_cases hrd : zm_rd q.2.1 = true
        · rw [if_pos hrd] at hr ⊢
          by_cases hb : q.2.2.2.1 ≤ st.length ∧ ((st.drop q.2.2.2.1).map Value.category).sum ≤ 8
          · rw [if_pos hb] at hr
            rw [rnT_drop, rn_cat, rnT_take, show (rnT st).length = st.length from List.length_map .., if_pos hb]
            cases d with
            | zero => cases hr
            | succ d' =>
              dsimp only at hr ⊢
              by_cases ha : 1000 ≤ q.2.2.1
              · rw [if_pos ha] at hr ⊢
                cases hx : zm_xc q.2.2.1 (st.take q.2.2.2.1).reverse h with
                | none => simp [hx] at hr
                | some z =>
                  obtain ⟨w, h2⟩ := z
                  simp only [hx] at hr
                  obtain ⟨x1, x2⟩ := rn_xc hl hx
                  rw [x1]
                  dsimp only
                  rw [rnT_app]
                  exact ih _ _ _ _ _ _ _ _ hr x2
              · rw [if_neg ha] at hr ⊢
                rw [rn_rk hl, rn_el, rnL_l, rn_en]
                by_cases hc : (zm_iv q.2.1 = true → zm_rk q.2.2.1 (st.take q.2.2.2.1).reverse h = true) ∧ (zm_el (st.take q.2.2.2.1).reverse).length ≤ zm_ml q.2.2.1
                · rw [if_pos hc] at hr ⊢
                  cases hx : zm_run x n d' q.2.2.1 0 (zm_en q.2.2.1 (st.take q.2.2.2.1).reverse) [] h with
                  | none => simp [hx] at hr
                  | some z =>
                    obtain ⟨w, h2⟩ := z
                    simp only [hx] at hr
                    obtain ⟨x1, x2⟩ := ih _ _ _ _ _ _ _ _ hx hl
                    rw [show ([] : List Value) = rnT [] from rfl, x1]
                    dsimp only
                    rw [rnT_app]
                    exact ih _ _ _ _ _ _ _ _ hr x2
                · rw [if_neg hc] at hr; cases hr
          · rw [if_neg hb] at hr; cases hr
        · rw [if_neg hrd] at hr ⊢
          cases ht : zm_S x q pc ls st h with
          | none => simp [ht] at hr
          | some t =>
            simp only [ht] at hr
            obtain ⟨s1, s2⟩ := rn_S hl ht
            rw [s1]
            dsimp only
            exact ih _ _ _ _ _ _ _ _ hr s2
theorem rn_zg {x : zm_X} {d m pc : Nat} {ls : zm_L} {st : List Value} {h : zm_H} {Q : Option Value → zm_H → Prop} (hl : 165 ≤ h.1.length) (hg : zg x d m pc ls st h Q) : zg x d m pc (rnL ls) (rnT st) (rnH h) (fun v h => ∃ v' h', v = v'.map rnV ∧ h = rnH h' ∧ Q v' h') := by
  obtain ⟨n, v, h', hr, hq⟩ := hg
  exact ⟨n, _, _, (rn_run _ _ _ _ _ _ _ _ _ hr hl).1, v, h', rfl, rfl, hq⟩
