/-! ===== the two makers, worked out on data ===== -/
abbrev zkW : Type := (Nat × Nat) × (Int32 ⊕ Nat)
abbrev zkD : Type := List zm_K × List zkW
def zkI : List zkW → Nat → Nat → Int32
  | [], _, _ => 0
  | (p, .inl v) :: r, i, j => if i = p.1 then (if j = p.2 then v else zkI r i j) else zkI r i j
  | (_, .inr _) :: r, i, j => zkI r i j
def zkR : List zkW → Nat → Nat → Option Nat
  | [], _, _ => none
  | (p, .inr v) :: r, i, j => if i = p.1 then (if j = p.2 then some v else zkR r i j) else zkR r i j
  | (_, .inl _) :: r, i, j => zkR r i j
def zkH (D : zkD) : zm_H := (D.1, zkI D.2, fun _ _ => 0, zkR D.2)
def zkO (D : zkD) : Prop := ∀ w ∈ D.2, w.1.1 < D.1.length
theorem zkH_si (K : List zm_K) (ws : List zkW) (a k : Nat) (v : Int32) : zm_si (zkH (K, ws)) a k v = zkH (K, ((a, k), .inl v) :: ws) := by
  have e : zm_u (zkI ws) a k v = zkI (((a, k), .inl v) :: ws) := by
    funext i j
    unfold zm_u
    rw [zkI]
    by_cases c : i = a
    · rw [if_pos c, if_pos c]
    · rw [if_neg c, if_neg c]
  have e2 : zkR (((a, k), .inl v) :: ws) = zkR ws := by funext i j; rw [zkR]
  unfold zm_si zkH
  dsimp only
  rw [e, e2]
theorem zkH_sr (K : List zm_K) (ws : List zkW) (a k v : Nat) : zm_sr (zkH (K, ws)) a k (some v) = zkH (K, ((a, k), .inr v) :: ws) := by
  have e : zm_u (zkR ws) a k (some v) = zkR (((a, k), .inr v) :: ws) := by
    funext i j
    unfold zm_u
    rw [zkR]
    by_cases c : i = a
    · rw [if_pos c, if_pos c]
    · rw [if_neg c, if_neg c]
  have e2 : zkI (((a, k), .inr v) :: ws) = zkI ws := by funext i j; rw [zkI]
  unfold zm_sr zkH
  dsimp only
  rw [e, e2]
theorem zkI_0 {n : Nat} : ∀ (ws : List zkW), (∀ w ∈ ws, ¬ w.1.1 = n) → ∀ j, zkI ws n j = 0 := by
  intro ws
  induction ws with
  | nil => intro _ j; rfl
  | cons w r ih =>
    intro h j
    have hr := ih (fun q hq => h q (List.mem_cons_of_mem _ hq)) j
    obtain ⟨p, s⟩ := w
    have hw : ¬ p.1 = n := h (p, s) List.mem_cons_self
    cases s with
    | inl v => rw [zkI, if_neg (fun z => hw z.symm)]; exact hr
    | inr v => rw [zkI]; exact hr
theorem zkR_0 {n : Nat} : ∀ (ws : List zkW), (∀ w ∈ ws, ¬ w.1.1 = n) → ∀ j, zkR ws n j = none := by
  intro ws
  induction ws with
  | nil => intro _ j; rfl
  | cons w r ih =>
    intro h j
    have hr := ih (fun q hq => h q (List.mem_cons_of_mem _ hq)) j
    obtain ⟨p, s⟩ := w
    have hw : ¬ p.1 = n := h (p, s) List.mem_cons_self
    cases s with
    | inr v => rw [zkR, if_neg (fun z => hw z.symm)]; exact hr
    | inl v => rw [zkR]; exact hr
theorem zkH_nx {K : List zm_K} {ws : List zkW} (h : zkO (K, ws)) (q : zm_K) : zm_nx (zkH (K, ws)) q = zkH (K ++ [q], ws) := by
  have hn : ∀ w ∈ ws, ¬ w.1.1 = K.length := fun w hw z => by have := h w hw; dsimp only at this; omega
  have e1 : zm_w (zkI ws) K.length (fun _ => 0) = zkI ws := by
    funext i j
    unfold zm_w
    by_cases c : i = K.length
    · rw [if_pos c, c, zkI_0 ws hn]
    · rw [if_neg c]
  have e2 : zm_w (fun _ _ => (0 : Int64)) K.length (fun _ => 0) = fun _ _ => (0 : Int64) := by
    funext i j
    unfold zm_w
    by_cases c : i = K.length
    · rw [if_pos c]
    · rw [if_neg c]
  have e3 : zm_w (zkR ws) K.length (fun _ => none) = zkR ws := by
    funext i j
    unfold zm_w
    by_cases c : i = K.length
    · rw [if_pos c, c, zkR_0 ws hn]
    · rw [if_neg c]
  unfold zm_nx zkH
  dsimp only
  rw [e1, e2, e3]
def zk_p : Instr → Bool
  | .iconst _ | .bipush _ | .sipush _ | .ldc _ | .iload_n _ | .aload_n _ | .istore_n _ | .astore_n _ | .iinc _ _ | .dup | .goto _ => true
  | _ => false
theorem zkP_ok {x x0 : zm_X} {q : zm_I} {pc : Nat} {ls : zm_L} {st : List Value} {h0 : zm_H} {t : zm_T} (hp : zk_p q.2.1 = true) (hs : zm_S x0 q pc ls st h0 = some t) (h : zm_H) : zm_S x q pc ls st h = some (t.1, t.2.1, t.2.2.1, h) ∧ zm_rd q.2.1 = false ∧ ∀ m h, zm_ret m q.2.1 st h = none := by
  obtain ⟨len, ins, a, b, v⟩ := q
  dsimp only at hp ⊢
  cases ins with
  | iconst n => cases hs; exact ⟨rfl, rfl, fun _ _ => rfl⟩
  | bipush n => cases hs; exact ⟨rfl, rfl, fun _ _ => rfl⟩
  | sipush n => cases hs; exact ⟨rfl, rfl, fun _ _ => rfl⟩
  | goto n => cases hs; exact ⟨rfl, rfl, fun _ _ => rfl⟩
  | ldc i =>
    refine ⟨?_, rfl, fun _ _ => rfl⟩
    have hs : (if b = 0 then some (pc + 2, ls, Value.int v :: st, h0) else some (pc + 2, ls, Value.ref (2000000 + a) :: st, h0)) = some t := hs
    show (if b = 0 then some (pc + 2, ls, Value.int v :: st, h) else some (pc + 2, ls, Value.ref (2000000 + a) :: st, h)) = _
    by_cases hb : b = 0
    · rw [if_pos hb] at hs ⊢; cases hs; rfl
    · rw [if_neg hb] at hs ⊢; cases hs; rfl
  | iload_n k =>
    obtain ⟨y, hy, ht⟩ := zm_ld1_inv hs
    subst ht
    refine ⟨?_, rfl, fun _ _ => rfl⟩
    show zm_ld1 ls k 1 pc st h = _
    unfold zm_ld1
    rw [hy]
  | aload_n k =>
    obtain ⟨y, hy, ht⟩ := zm_lda_inv hs
    subst ht
    refine ⟨?_, rfl, fun _ _ => rfl⟩
    show zm_lda ls k 1 pc st h = _
    unfold zm_lda
    rw [hy]
  | istore_n k =>
    obtain ⟨y, r, l', h1, h2, ht⟩ := zm_st1_inv hs
    subst ht h1
    refine ⟨?_, rfl, fun _ _ => rfl⟩
    show zm_st1 ls k 1 pc (.int y :: r) h = _
    unfold zm_st1
    dsimp only
    rw [h2]
    rfl
  | astore_n k =>
    obtain ⟨y, r, l', h1, h2, ht⟩ := zm_sta_inv hs
    subst ht h1
    refine ⟨?_, rfl, fun _ _ => rfl⟩
    show zm_sta ls k 1 pc (.ref y :: r) h = _
    unfold zm_sta
    dsimp only
    rw [h2]
    rfl
  | iinc k n =>
    obtain ⟨y, l', h1, h2, ht⟩ := zm_iin_inv hs
    subst ht
    refine ⟨?_, rfl, fun _ _ => rfl⟩
    show zm_iin ls k v pc st h = _
    unfold zm_iin
    rw [h1]
    dsimp only
    rw [h2]
    rfl
  | dup =>
    refine ⟨?_, rfl, fun _ _ => rfl⟩
    (match st, hs with
    | .int y :: r, hs => cases hs; rfl
    | .ref y :: r, hs => cases hs; rfl)
  | _ => cases hp
/-- one instruction, on data -/
def zkS (q : zm_I) (pc : Nat) (ls : zm_L) (st : List Value) (D : zkD) : Option (Nat × zm_L × List Value × zkD) := match q.2.1 with
  | .getfield _ => (match st with
    | .ref i :: r => (match D.1[i]? with
      | some (.inr c') => if c' = q.2.2.1 then some (pc + 3, ls, (if zm_ft q.2.2.1 q.2.2.2.1 = 0 then Value.int (zkI D.2 i q.2.2.2.1) else zm_rv (zkR D.2 i q.2.2.2.1)) :: r, D) else none
      | _ => none)
    | _ => none)
  | .putfield _ => (match st with
    | .int v :: .ref i :: r => (match D.1[i]? with
      | some (.inr c') => if c' = q.2.2.1 ∧ zm_ft q.2.2.1 q.2.2.2.1 = 0 then some (pc + 3, ls, r, (D.1, ((i, q.2.2.2.1), .inl v) :: D.2)) else none
      | _ => none)
    | .ref v :: .ref i :: r => (match D.1[i]? with
      | some (.inr c') => if c' = q.2.2.1 ∧ zm_ft q.2.2.1 q.2.2.2.1 = 1 then some (pc + 3, ls, r, (D.1, ((i, q.2.2.2.1), .inr v) :: D.2)) else none
      | _ => none)
    | _ => none)
  | .new _ => if D.1.length < 1000000 then some (pc + 3, ls, .ref D.1.length :: st, (D.1 ++ [.inr q.2.2.1], D.2)) else none
  | .newarray a => (match st with
    | .int n :: r => (match zm_ta a with
      | some t => if D.1.length < 1000000 ∧ 0 ≤ n ∧ n ≤ 10000 then some (pc + 2, ls, .ref D.1.length :: r, (D.1 ++ [.inl (t, n.toNatClampNeg)], D.2)) else none
      | none => none)
    | _ => none)
  | .anewarray _ => (match st with
    | .int n :: r => if D.1.length < 1000000 ∧ 0 ≤ n ∧ n ≤ 10000 then some (pc + 3, ls, .ref D.1.length :: r, (D.1 ++ [.inl (4, n.toNatClampNeg)], D.2)) else none
    | _ => none)
  | .arraylength => (match st with
    | .ref i :: r => (match D.1[i]? with
      | some (.inl (_, n)) => some (pc + 1, ls, .int (Int32.ofNat n) :: r, D)
      | _ => none)
    | _ => none)
  | .iastore => (match st with
    | .int v :: .int j :: .ref a :: r => (match D.1[a]? with
      | some (.inl (t, n)) => if t = 0 then (if j < 0 ∨ n ≤ j.toNatClampNeg then none else some (pc + 1, ls, r, (D.1, ((a, j.toNatClampNeg), .inl v) :: D.2))) else none
      | _ => none)
    | _ => none)
  | .if_icmp c _ => (match st with
    | .int y :: .int x :: r => some (if zm_c2 c x y = true then q.2.2.1 else pc + 3, ls, r, D)
    | _ => none)
  | ins => if zk_p ins = true then (match zm_S (0, fun _ => 0) q pc ls st zm_h0 with
    | some t => some (t.1, t.2.1, t.2.2.1, D)
    | none => none) else none
theorem zkS_ok {x : zm_X} {q : zm_I} {pc : Nat} {ls : zm_L} {st : List Value} {D : zkD} {t : Nat × zm_L × List Value × zkD} (hs : zkS q pc ls st D = some t) (hO : zkO D) : zm_S x q pc ls st (zkH D) = some (t.1, t.2.1, t.2.2.1, zkH t.2.2.2) ∧ zkO t.2.2.2 ∧ zm_rd q.2.1 = false ∧ ∀ m h, zm_ret m q.2.1 st h = none := by
  have fin : (if zk_p q.2.1 = true then (match zm_S (0, fun _ => 0) q pc ls st zm_h0 with
    | some t => some (t.1, t.2.1, t.2.2.1, D)
    | none => none) else none) = some t → zm_S x q pc ls st (zkH D) = some (t.1, t.2.1, t.2.2.1, zkH t.2.2.2) ∧ zkO t.2.2.2 ∧ zm_rd q.2.1 = false ∧ ∀ m h, zm_ret m q.2.1 st h = none := by
    intro hb
    obtain ⟨h1, h2⟩ := zm_ifs hb
    cases hc : zm_S (0, fun _ => 0) q pc ls st zm_h0 with
    | none => rw [hc] at h2; cases h2
    | some z =>
      rw [hc] at h2
      cases h2
      obtain ⟨a, b, c⟩ := zkP_ok (x := x) h1 hc (zkH D)
      exact ⟨a, hO, b, c⟩
  obtain ⟨len, ins, a, b, v⟩ := q
  obtain ⟨K, ws⟩ := D
  have lt : ∀ {i : Nat} {z : zm_K}, K[i]? = some z → i < K.length := fun e => (List.getElem?_eq_some_iff.mp e).1
  have put : ∀ {i k : Nat} {z : zm_K} {s : Int32 ⊕ Nat}, K[i]? = some z → zkO (K, ((i, k), s) :: ws) := by
    intro i k z s e w hw
    rcases List.mem_cons.mp hw with y | y
    · subst y; exact lt e
    · exact hO w y
  have nw : ∀ z : zm_K, zkO (K ++ [z], ws) := fun z w hw => by
    have := hO w hw
    dsimp only at this ⊢
    rw [List.length_append]
    exact Nat.lt_of_lt_of_le this (Nat.le_add_right _ _)
  cases ins with
  | getfield i =>
    (match st, hs with
    | .ref y :: r, hs =>
      have hs : (match K[y]? with | some (.inr c') => if c' = a then some (pc + 3, ls, (if zm_ft a b = 0 then Value.int (zkI ws y b) else zm_rv (zkR ws y b)) :: r, (K, ws)) else none | _ => none) = some t := hs
      cases hk : K[y]? with
      | none => simp [hk] at hs
      | some z =>
        cases z with
        | inl z => simp [hk] at hs
        | inr c' =>
          simp only [hk] at hs
          obtain ⟨h1, h2⟩ := zm_ifs hs
          subst h1
          cases h2
          refine ⟨?_, hO, rfl, fun _ _ => rfl⟩
          show zm_gf c' b pc ls (.ref y :: r) (zkH (K, ws)) = _
          have hk' : (zkH (K, ws)).1[y]? = some (.inr c') := hk
          simp only [zm_gf, hk', if_true]
          rfl)
  | putfield i =>
    (match st, hs with
    | .int u :: .ref y :: r, hs =>
      have hs : (match K[y]? with | some (.inr c') => if c' = a ∧ zm_ft a b = 0 then some (pc + 3, ls, r, (K, ((y, b), Sum.inl u) :: ws)) else none | _ => none) = some t := hs
      cases hk : K[y]? with
      | none => simp [hk] at hs
      | some z =>
        cases z with
        | inl z => simp [hk] at hs
        | inr c' =>
          simp only [hk] at hs
          obtain ⟨h1, h2⟩ := zm_ifs hs
          cases h2
          refine ⟨?_, put hk, rfl, fun _ _ => rfl⟩
          show zm_pf a b pc ls (.int u :: .ref y :: r) (zkH (K, ws)) = _
          have hk' : (zkH (K, ws)).1[y]? = some (.inr c') := hk
          simp only [zm_pf, hk']
          rw [if_pos h1, zkH_si]
    | .ref u :: .ref y :: r, hs =>
      have hs : (match K[y]? with | some (.inr c') => if c' = a ∧ zm_ft a b = 1 then some (pc + 3, ls, r, (K, ((y, b), Sum.inr u) :: ws)) else none | _ => none) = some t := hs
      cases hk : K[y]? with
      | none => simp [hk] at hs
      | some z =>
        cases z with
        | inl z => simp [hk] at hs
        | inr c' =>
          simp only [hk] at hs
          obtain ⟨h1, h2⟩ := zm_ifs hs
          cases h2
          refine ⟨?_, put hk, rfl, fun _ _ => rfl⟩
          show zm_pf a b pc ls (.ref u :: .ref y :: r) (zkH (K, ws)) = _
          have hk' : (zkH (K, ws)).1[y]? = some (.inr c') := hk
          simp only [zm_pf, hk']
          rw [if_pos h1, zkH_sr])
  | new i =>
    have hs : (if K.length < 1000000 then some (pc + 3, ls, Value.ref K.length :: st, (K ++ [.inr a], ws)) else none) = some t := hs
    obtain ⟨h1, h2⟩ := zm_ifs hs
    cases h2
    refine ⟨?_, nw _, rfl, fun _ _ => rfl⟩
    show zm_new a pc ls st (zkH (K, ws)) = _
    have e : (zkH (K, ws)).1.length = K.length := rfl
    unfold zm_new
    rw [e, if_pos h1, zkH_nx hO]
  | newarray ty =>
    (match st, hs with
    | .int n :: r, hs =>
      have hs : (match zm_ta ty with | some t => if K.length < 1000000 ∧ 0 ≤ n ∧ n ≤ 10000 then some (pc + 2, ls, Value.ref K.length :: r, (K ++ [Sum.inl (t, n.toNatClampNeg)], ws)) else none | none => none) = some t := hs
      cases hty : zm_ta ty with
      | none => simp [hty] at hs
      | some k =>
        simp only [hty] at hs
        obtain ⟨h1, h2⟩ := zm_ifs hs
        cases h2
        refine ⟨?_, nw _, rfl, fun _ _ => rfl⟩
        show (match zm_ta ty with | some t => zm_nwa t (pc + 2) ls (.int n :: r) (zkH (K, ws)) | none => none) = _
        simp only [hty]
        have e : (zkH (K, ws)).1.length = K.length := rfl
        unfold zm_nwa
        dsimp only
        rw [e, if_pos h1, zkH_nx hO])
  | anewarray i =>
    (match st, hs with
    | .int n :: r, hs =>
      have hs : (if K.length < 1000000 ∧ 0 ≤ n ∧ n ≤ 10000 then some (pc + 3, ls, Value.ref K.length :: r, (K ++ [Sum.inl (4, n.toNatClampNeg)], ws)) else none) = some t := hs
      obtain ⟨h1, h2⟩ := zm_ifs hs
      cases h2
      refine ⟨?_, nw _, rfl, fun _ _ => rfl⟩
      show zm_nwa 4 (pc + 3) ls (.int n :: r) (zkH (K, ws)) = _
      have e : (zkH (K, ws)).1.length = K.length := rfl
      unfold zm_nwa
      dsimp only
      rw [e, if_pos h1, zkH_nx hO])
  | arraylength =>
    (match st, hs with
    | .ref y :: r, hs =>
      have hs : (match K[y]? with | some (.inl (_, n)) => some (pc + 1, ls, Value.int (Int32.ofNat n) :: r, (K, ws)) | _ => none) = some t := hs
      cases hk : K[y]? with
      | none => simp [hk] at hs
      | some z =>
        cases z with
        | inr c' => simp [hk] at hs
        | inl z =>
          obtain ⟨z1, z2⟩ := z
          simp only [hk] at hs
          cases hs
          refine ⟨?_, hO, rfl, fun _ _ => rfl⟩
          have hk' : (zkH (K, ws)).1[y]? = some (.inl (z1, z2)) := hk
          simp [zm_S, zm_al, hk'])
  | iastore =>
    (match st, hs with
    | .int u :: .int j :: .ref y :: r, hs =>
      have hs : (match K[y]? with | some (.inl (t, n)) => if t = 0 then (if j < 0 ∨ n ≤ j.toNatClampNeg then none else some (pc + 1, ls, r, (K, ((y, j.toNatClampNeg), Sum.inl u) :: ws))) else none | _ => none) = some t := hs
      cases hk : K[y]? with
      | none => simp [hk] at hs
      | some z =>
        cases z with
        | inr c' => simp [hk] at hs
        | inl z =>
          obtain ⟨z1, z2⟩ := z
          simp only [hk] at hs
          obtain ⟨h1, h2⟩ := zm_ifs hs
          by_cases h3 : j < 0 ∨ z2 ≤ j.toNatClampNeg
          · rw [if_pos h3] at h2; cases h2
          · rw [if_neg h3] at h2
            cases h2
            refine ⟨?_, put hk, rfl, fun _ _ => rfl⟩
            show zm_ias pc ls (.int u :: .int j :: .ref y :: r) (zkH (K, ws)) = _
            have hk' : (zkH (K, ws)).1[y]? = some (.inl (z1, z2)) := hk
            simp only [zm_ias, hk']
            rw [if_pos h1, if_neg h3, zkH_si])
  | if_icmp c i =>
    (match st, hs with
    | .int y :: .int z :: r, hs =>
      cases hs
      exact ⟨rfl, hO, rfl, fun _ _ => rfl⟩)
  | _ => exact fin hs
/-- Arrays.fill, on data -/
def zkF (i : Nat) (v : Int32) : Nat → List zkW → List zkW
  | 0, ws => ws
  | k + 1, ws => ((i, k), .inl v) :: zkF i v k ws
theorem zkF_O {K : List zm_K} {ws : List zkW} {i k : Nat} {v : Int32} {z : zm_K} (hO : zkO (K, ws)) (hk : K[i]? = some z) : zkO (K, zkF i v k ws) := by
  induction k with
  | zero => exact hO
  | succ k ih =>
    intro w hw
    rcases List.mem_cons.mp hw with y | y
    · subst y; exact (List.getElem?_eq_some_iff.mp hk).1
    · exact ih w y
theorem zkF_ok {x : zm_X} {d : Nat} {K : List zm_K} {ws : List zkW} {i n : Nat} {v : Int32} (hk : K[i]? = some (.inl (0, n))) (hn : n ≤ 10000) (hK : K.length ≤ 1000000) {Q : Option Value → zm_H → Prop} (hq : Q none (zkH (K, zkF i v n ws))) : zg x d 265 0 (zm_en 265 [.ref i, .int v]) [] (zkH (K, ws)) Q := by
  have sh : ∀ ws, zSh (K, []) (zkH (K, ws)) := fun ws => ⟨fun i q h => h, fun i k j h => by simp [zlk] at h, hK⟩
  have loop : ∀ m j, j + m = n → zg x d 265 5 [some (.ref i), some (.int v), some (.int (nI j)), some (.int (nI n))] [] (zkH (K, zkF i v j ws)) Q := by
    intro m
    induction m with
    | zero =>
      intro j hj
      have e : j = n := by omega
      subst e
      refine zg_blk zd_265 2 (sh _) (rfl : zb x (K, []) zc_265 2 (5, [some (.ref i), some (.int v), some (.int (nI j)), some (.int (nI j))], [], zkH (K, zkF i v j ws)) = some (7, [some (.ref i), some (.int v), some (.int (nI j)), some (.int (nI j))], [.int (nI j), .int (nI j)], zkH (K, zkF i v j ws))) (fun hs => ?_)
      refine zg_i_ge zd_265 rfl (fun _ => ?_) (fun hc => absurd ((nx_le (by omega) (by omega)).mpr (Nat.le_refl j)) hc)
      exact zg_ret zd_265 rfl rfl hq
    | succ m ih =>
      intro j hj
      refine zg_blk zd_265 2 (sh _) (rfl : zb x (K, []) zc_265 2 (5, [some (.ref i), some (.int v), some (.int (nI j)), some (.int (nI n))], [], zkH (K, zkF i v j ws)) = some (7, [some (.ref i), some (.int v), some (.int (nI j)), some (.int (nI n))], [.int (nI n), .int (nI j)], zkH (K, zkF i v j ws))) (fun hs => ?_)
      refine zg_i_ge zd_265 rfl (fun hc => absurd ((nx_le (by omega) (by omega)).mp hc) (by omega)) (fun _ => ?_)
      refine zg_blk zd_265 3 hs (rfl : zb x (K, []) zc_265 3 (10, [some (.ref i), some (.int v), some (.int (nI j)), some (.int (nI n))], [], zkH (K, zkF i v j ws)) = some (13, [some (.ref i), some (.int v), some (.int (nI j)), some (.int (nI n))], [.int v, .int (nI j), .ref i], zkH (K, zkF i v j ws))) (fun hs => ?_)
      refine zg_ias hs zd_265 rfl hk (vp_in_nI (by omega) (by omega)) (fun hs => ?_)
      rw [nI_c (by omega), zkH_si] at hs ⊢
      refine zg_blk zd_265 2 hs (rfl : zb x (K, []) zc_265 2 (14, [some (.ref i), some (.int v), some (.int (nI j)), some (.int (nI n))], [], zkH (K, ((i, j), .inl v) :: zkF i v j ws)) = some (5, [some (.ref i), some (.int v), some (.int (nI j + 1)), some (.int (nI n))], [], zkH (K, ((i, j), .inl v) :: zkF i v j ws))) (fun hs => ?_)
      rw [← nI_succ]
      exact ih (j + 1) (by omega)
  have e0 : zm_en 265 [.ref i, .int v] = [some (.ref i), some (.int v), none, none] := rfl
  rw [e0]
  refine zg_blk zd_265 3 (sh _) (rfl : zb x (K, []) zc_265 3 (0, [some (.ref i), some (.int v), none, none], [], zkH (K, ws)) = some (3, [some (.ref i), some (.int v), some (.int 0), none], [.ref i], zkH (K, ws))) (fun hs => ?_)
  have hk' : (zkH (K, ws)).1[i]? = some (.inl (0, n)) := hk
  refine zg_step1 (q := (1, .arraylength, 0, 0, 0)) (t := (4, [some (.ref i), some (.int v), some (.int 0), none], [.int (nI n)], zkH (K, ws))) (by unfold zm_lk; rw [zd_265]; rfl) (fun _ => rfl) rfl (by simp [zm_S, zm_al, hk', nI]) ?_
  refine zg_blk zd_265 1 hs (rfl : zb x (K, []) zc_265 1 (4, [some (.ref i), some (.int v), some (.int 0), none], [.int (nI n)], zkH (K, ws)) = some (5, [some (.ref i), some (.int v), some (.int 0), some (.int (nI n))], [], zkH (K, ws))) (fun hs => ?_)
  exact loop n 0 (by omega)
def zk_R : Nat → Nat → Nat → Nat → zm_L → List Value → zkD → Option zkD
  | 0, _, _, _, _, _, _ => none
  | n + 1, d, m, pc, ls, st, D => match zm_lk m pc with
    | none => none
    | some q => match zm_ret m q.2.1 st (zkH D) with
      | some (some (none, _)) => some D
      | some _ => none
      | none => if zm_rd q.2.1 = true then
          (if q.2.2.2.1 ≤ st.length ∧ ((st.drop q.2.2.2.1).map Value.category).sum ≤ 8 then
            match d with
            | 0 => none
            | d' + 1 => if 1000 ≤ q.2.2.1 then
                (if q.2.2.1 = 1000 then (match (st.take q.2.2.2.1).reverse with
                  | [.ref _] => zk_R n (d' + 1) m (pc + 3) ls (st.drop q.2.2.2.1) D
                  | _ => none) else none)
              else if (zm_iv q.2.1 = true → zm_rk q.2.2.1 (st.take q.2.2.2.1).reverse (zkH D) = true) ∧ (zm_el (st.take q.2.2.2.1).reverse).length ≤ zm_ml q.2.2.1 then
                (if q.2.2.1 = 265 then (match (st.take q.2.2.2.1).reverse with
                  | [.ref i, .int v] => (match D.1[i]? with
                    | some (.inl (t, k)) => if t = 0 ∧ k ≤ 10000 ∧ D.1.length ≤ 1000000 then zk_R n (d' + 1) m (pc + 3) ls (st.drop q.2.2.2.1) (D.1, zkF i v k D.2) else none
                    | _ => none)
                  | _ => none)
                else (match zk_R n d' q.2.2.1 0 (zm_en q.2.2.1 (st.take q.2.2.2.1).reverse) [] D with
                  | some D1 => zk_R n (d' + 1) m (pc + 3) ls (st.drop q.2.2.2.1) D1
                  | none => none))
              else none
          else none)
        else match zkS q pc ls st D with
          | some t => zk_R n d m t.1 t.2.1 t.2.2.1 t.2.2.2
          | none => none
theorem zk_ret {m : Nat} {ins : Instr} {st : List Value} {h h' : zm_H} {v : Option Value} (hr : zm_ret m ins st h = some (some (v, h'))) : h' = h := by
  unfold zm_ret at hr
  split at hr
  · split at hr
    · split at hr <;> cases hr; rfl
    · cases hr
  · split at hr
    · split at hr <;> cases hr; rfl
    · cases hr
  · split at hr
    · split at hr <;> cases hr; rfl
    · cases hr
  · split at hr
    · split at hr <;> cases hr; rfl
    · cases hr
  · cases hr
theorem zk_R_ok {x : zm_X} : ∀ (n d m pc : Nat) (ls : zm_L) (st : List Value) (D D' : zkD), zk_R n d m pc ls st D = some D' → zkO D → (∃ n', zm_run x n' d m pc ls st (zkH D) = some (none, zkH D')) ∧ zkO D' := by
  intro n
  induction n with
  | zero => intro d m pc ls st D D' hr; cases hr
  | succ n ih =>
    intro d m pc ls st D D' hr hO
    rw [zk_R] at hr
    cases hq : zm_lk m pc with
    | none => simp [hq] at hr
    | some q =>
      simp only [hq] at hr
      cases hret : zm_ret m q.2.1 st (zkH D) with
      | some r' =>
        simp only [hret] at hr
        (match r', hret, hr with
        | some (none, h'), hret, hr =>
          cases hr
          refine ⟨⟨1, ?_⟩, hO⟩
          rw [zm_run]
          simp only [hq, hret]
          rw [zk_ret hret])
      | none =>
        simp only [hret] at hr
        by_cases hrd : zm_rd q.2.1 = true
        · rw [if_pos hrd] at hr
          by_cases hb : q.2.2.2.1 ≤ st.length ∧ ((st.drop q.2.2.2.1).map Value.category).sum ≤ 8
          · rw [if_pos hb] at hr
            cases d with
            | zero => cases hr
            | succ d' =>
              dsimp only at hr
              by_cases ha : 1000 ≤ q.2.2.1
              · rw [if_pos ha] at hr
                obtain ⟨h1, h2⟩ := zm_ifs hr
                clear hr
                generalize hz : (st.take q.2.2.2.1).reverse = z at h2
                (match z, hz, h2 with
                | [.ref y], hz, h2 =>
                  obtain ⟨⟨n', a1⟩, a2⟩ := ih _ _ _ _ _ _ _ h2 hO
                  refine ⟨⟨n' + 1, ?_⟩, a2⟩
                  have e : zm_xc 1000 [.ref y] (zkH D) = some (none, zkH D) := rfl
                  rw [zm_run]
                  simp only [hq, hret]
                  rw [if_pos hrd, if_pos hb, if_pos ha, hz, h1]
                  simp only [e]
                  exact a1)
              · rw [if_neg ha] at hr
                by_cases hc : (zm_iv q.2.1 = true → zm_rk q.2.2.1 (st.take q.2.2.2.1).reverse (zkH D) = true) ∧ (zm_el (st.take q.2.2.2.1).reverse).length ≤ zm_ml q.2.2.1
                · rw [if_pos hc] at hr
                  have go : ∀ D1 n1, zm_run x n1 d' q.2.2.1 0 (zm_en q.2.2.1 (st.take q.2.2.2.1).reverse) [] (zkH D) = some (none, zkH D1) → zkO D1 → zk_R n (d' + 1) m (pc + 3) ls (st.drop q.2.2.2.1) D1 = some D' → (∃ n', zm_run x n' (d' + 1) m pc ls st (zkH D) = some (none, zkH D')) ∧ zkO D' := by
                    intro D1 n1 a1 a2 a3
                    obtain ⟨⟨n2, b1⟩, b2⟩ := ih _ _ _ _ _ _ _ a3 a2
                    refine ⟨⟨n1 + n2 + 1, ?_⟩, b2⟩
                    rw [zm_run]
                    simp only [hq, hret]
                    rw [if_pos hrd, if_pos hb, if_neg ha, if_pos hc]
                    simp only [zm_run_le (show n1 ≤ n1 + n2 by omega) a1]
                    exact zm_run_le (show n2 ≤ n1 + n2 by omega) b1
                  by_cases h5 : q.2.2.1 = 265
                  · rw [if_pos h5] at hr
                    generalize hz : (st.take q.2.2.2.1).reverse = z at hr go
                    (match z, hr, go with
                    | [.ref i, .int v], hr, go =>
                      have hr : (match D.1[i]? with | some (.inl (t, k)) => if t = 0 ∧ k ≤ 10000 ∧ D.1.length ≤ 1000000 then zk_R n (d' + 1) m (pc + 3) ls (st.drop q.2.2.2.1) (D.1, zkF i v k D.2) else none | _ => none) = some D' := hr
                      cases hk : D.1[i]? with
                      | none => simp [hk] at hr
                      | some y =>
                        cases y with
                        | inr c => simp [hk] at hr
                        | inl y =>
                          obtain ⟨t, k⟩ := y
                          simp only [hk] at hr
                          obtain ⟨⟨h6, h7, h8⟩, h9⟩ := zm_ifs hr
                          subst h6
                          obtain ⟨n1, w, h1, r1, r2, r3⟩ := zkF_ok (x := x) (d := d') (K := D.1) (ws := D.2) (v := v) hk h7 h8 (Q := fun w h => w = none ∧ h = zkH (D.1, zkF i v k D.2)) ⟨rfl, rfl⟩
                          rw [r2, r3] at r1
                          refine go _ n1 ?_ (zkF_O hO hk) h9
                          rw [h5]
                          exact r1)
                  · rw [if_neg h5] at hr
                    cases hx : zk_R n d' q.2.2.1 0 (zm_en q.2.2.1 (st.take q.2.2.2.1).reverse) [] D with
                    | none => simp [hx] at hr
                    | some D1 =>
                      simp only [hx] at hr
                      obtain ⟨⟨n1, a1⟩, a2⟩ := ih _ _ _ _ _ _ _ hx hO
                      exact go D1 n1 a1 a2 hr
                · rw [if_neg hc] at hr; cases hr
          · rw [if_neg hb] at hr; cases hr
        · rw [if_neg hrd] at hr
          cases ht : zkS q pc ls st D with
          | none => simp [ht] at hr
          | some t =>
            simp only [ht] at hr
            obtain ⟨b1, b2, -, -⟩ := zkS_ok (x := x) ht hO
            obtain ⟨⟨n1, a1⟩, a2⟩ := ih _ _ _ _ _ _ _ hr b2
            refine ⟨⟨n1 + 1, ?_⟩, a2⟩
            rw [zm_run]
            simp only [hq, hret]
            rw [if_neg hrd]
            simp only [b1]
            exact a1
def zk_U (tgt : Nat) : Nat → Nat → Nat → Nat → zm_L → List Value → zkD → Option (zm_L × List Value × zkD)
  | 0, _, _, _, _, _, _ => none
  | n + 1, d, m, pc, ls, st, D => if pc = tgt then some (ls, st, D) else match zm_lk m pc with
    | none => none
    | some q => match zm_ret m q.2.1 st (zkH D) with
      | some _ => none
      | none => if zm_rd q.2.1 = true then
          (if q.2.2.2.1 ≤ st.length ∧ ((st.drop q.2.2.2.1).map Value.category).sum ≤ 8 then
            match d with
            | 0 => none
            | d' + 1 => if 1000 ≤ q.2.2.1 then none
              else if (zm_iv q.2.1 = true → zm_rk q.2.2.1 (st.take q.2.2.2.1).reverse (zkH D) = true) ∧ (zm_el (st.take q.2.2.2.1).reverse).length ≤ zm_ml q.2.2.1 then
                (match zk_R n d' q.2.2.1 0 (zm_en q.2.2.1 (st.take q.2.2.2.1).reverse) [] D with
                | some D1 => zk_U tgt n (d' + 1) m (pc + 3) ls (st.drop q.2.2.2.1) D1
                | none => none)
              else none
          else none)
        else match zkS q pc ls st D with
          | some t => zk_U tgt n d m t.1 t.2.1 t.2.2.1 t.2.2.2
          | none => none
theorem zk_U_ok {x : zm_X} {tgt : Nat} {Q : Option Value → zm_H → Prop} {ls' : zm_L} {st' : List Value} {D' : zkD} : ∀ (n d m pc : Nat) (ls : zm_L) (st : List Value) (D : zkD), zk_U tgt n d m pc ls st D = some (ls', st', D') → zkO D → (zkO D' → zg x d m tgt ls' st' (zkH D') Q) → zg x d m pc ls st (zkH D) Q := by
  intro n
  induction n with
  | zero => intro d m pc ls st D hr; cases hr
  | succ n ih =>
    intro d m pc ls st D hr hO hg
    rw [zk_U] at hr
    by_cases hp : pc = tgt
    · rw [if_pos hp] at hr
      cases hr
      rw [hp]
      exact hg hO
    · rw [if_neg hp] at hr
      cases hq : zm_lk m pc with
      | none => simp [hq] at hr
      | some q =>
        simp only [hq] at hr
        cases hret : zm_ret m q.2.1 st (zkH D) with
        | some r' => simp [hret] at hr
        | none =>
          simp only [hret] at hr
          by_cases hrd : zm_rd q.2.1 = true
          · rw [if_pos hrd] at hr
            by_cases hb : q.2.2.2.1 ≤ st.length ∧ ((st.drop q.2.2.2.1).map Value.category).sum ≤ 8
            · rw [if_pos hb] at hr
              cases d with
              | zero => cases hr
              | succ d' =>
                dsimp only at hr
                by_cases ha : 1000 ≤ q.2.2.1
                · rw [if_pos ha] at hr; cases hr
                · rw [if_neg ha] at hr
                  by_cases hc : (zm_iv q.2.1 = true → zm_rk q.2.2.1 (st.take q.2.2.2.1).reverse (zkH D) = true) ∧ (zm_el (st.take q.2.2.2.1).reverse).length ≤ zm_ml q.2.2.1
                  · rw [if_pos hc] at hr
                    cases hx : zk_R n d' q.2.2.1 0 (zm_en q.2.2.1 (st.take q.2.2.2.1).reverse) [] D with
                    | none => simp [hx] at hr
                    | some D1 =>
                      simp only [hx] at hr
                      obtain ⟨⟨n1, a1⟩, a2⟩ := zk_R_ok (x := x) _ _ _ _ _ _ _ _ hx hO
                      obtain ⟨n2, v, h', r2, hQ⟩ := ih _ _ _ _ _ _ hr a2 hg
                      refine ⟨n1 + n2 + 1, v, h', ?_, hQ⟩
                      rw [zm_run]
                      simp only [hq, hret]
                      rw [if_pos hrd, if_pos hb, if_neg ha, if_pos hc]
                      simp only [zm_run_le (show n1 ≤ n1 + n2 by omega) a1]
                      exact zm_run_le (show n2 ≤ n1 + n2 by omega) r2
                  · rw [if_neg hc] at hr; cases hr
            · rw [if_neg hb] at hr; cases hr
          · rw [if_neg hrd] at hr
            cases ht : zkS q pc ls st D with
            | none => simp [ht] at hr
            | some t =>
              simp only [ht] at hr
              obtain ⟨b1, b2, b3, b4⟩ := zkS_ok (x := x) ht hO
              exact zg_step1 hq (fun m => b4 m _) b3 b1 (ih _ _ _ _ _ _ hr b2 hg)
/-! what the cells hold behind the makers -/
def zk_ex (a k : Nat) : Int32 := if a = 2 ∧ k < 480 then -1 else if (a = 39 ∨ a = 52) ∧ k < 10 then -1 else if (a = 45 ∨ a = 58) ∧ k < 30 then -1 else if a = 66 ∧ k < 3 then -1 else if a = 124 ∧ k < 20 then -1 else if a = 130 ∧ k < 60 then -1 else if (a = 0 ∧ k = 1) ∨ (a = 92 ∧ k = 47) then 50000 else if (a = 0 ∧ k = 2) ∨ (a = 92 ∧ k = 48) then 60 else if (a = 91 ∧ k = 1) ∨ (a = 92 ∧ k = 78) then 65535 else 0
def zk_ks (a : Nat) : List zkW → List Nat
  | [] => []
  | (p, .inl _) :: r => if p.1 = a then p.2 :: zk_ks a r else zk_ks a r
  | (_, .inr _) :: r => zk_ks a r
def zk_iv (w : zkW) : Bool := match w.2 with
  | .inl v => decide (v = zk_ex w.1.1 w.1.2)
  | .inr _ => true
def zk_rf (T : List (List (Option Nat))) (ws : List zkW) : Bool := (List.range T.length).all (fun i => (List.range (T.getD i []).length).all (fun k => match zlk T i k with
  | none => true
  | some j => decide (zkR ws i k = some j)))
def zk_ck (D : zkD) : Bool := decide (D.1 = zT0.1) && (D.2.all zk_iv && (([(2, 480), (39, 10), (52, 10), (45, 30), (58, 30), (66, 3), (124, 20), (130, 60)] : List (Nat × Nat)).all (fun p => decide (zk_ks p.1 D.2 = (List.range p.2).reverse)) && (([(0, 1), (0, 2), (92, 47), (92, 48), (91, 1), (92, 78)] : List (Nat × Nat)).all (fun p => (zk_ks p.1 D.2).contains p.2) && zk_rf zT0.2 D.2)))
def zk_lc (ls : zm_L) (st : List Value) : Bool := match ls, st with
  | [some (.ref a), some (.ref b), some (.ref c), some (.int i)], [] => decide (a = 1000001) && (decide (b = 0) && (decide (c = 95) && decide (i = 0)))
  | _, _ => false
theorem zk_lc_ok {ls : zm_L} {st : List Value} (h : zk_lc ls st = true) : ls = [some (.ref 1000001), some (.ref 0), some (.ref 95), some (.int 0)] ∧ st = [] := by
  (match ls, st, h with
  | [some (.ref a), some (.ref b), some (.ref c), some (.int i)], [], h =>
    have h : (decide (a = 1000001) && (decide (b = 0) && (decide (c = 95) && decide (i = 0)))) = true := h
    simp only [Bool.and_eq_true, decide_eq_true_eq] at h
    obtain ⟨h1, h2, h3, h4⟩ := h
    subst h1 h2 h3 h4
    exact ⟨rfl, rfl⟩)
/-- the writes by their cells' names -/
def zk_rw (w : zkW) : zkW := ((rni w.1.1, w.1.2), match w.2 with
  | .inl v => .inl v
  | .inr j => .inr (rni j))
def zk_rd (D : zkD) : zkD := (zT0.1, D.2.map zk_rw)
theorem zkI_rn (i j : Nat) : ∀ ws : List zkW, zkI ws i j = zkI (ws.map zk_rw) (rni i) j := by
  intro ws
  induction ws with
  | nil => rfl
  | cons w r ih =>
    obtain ⟨p, s⟩ := w
    have e : (p, s) :: r = [(p, s)] ++ r := rfl
    rw [List.map_cons]
    have c : i = p.1 ↔ rni i = rni p.1 := ⟨fun z => by rw [z], fun z => by rw [← rnm_i i, z, rnm_i]⟩
    cases s with
    | inr v => rw [zkI]; show _ = zkI (((rni p.1, p.2), Sum.inr (rni v)) :: r.map zk_rw) (rni i) j; rw [zkI]; exact ih
    | inl v =>
      rw [zkI]
      show _ = zkI (((rni p.1, p.2), Sum.inl v) :: r.map zk_rw) (rni i) j
      rw [zkI]
      dsimp only
      by_cases z : i = p.1
      · rw [if_pos z, if_pos (c.mp z), ih]
      · rw [if_neg z, if_neg (fun y => z (c.mpr y)), ih]
theorem zkR_rn (i j : Nat) : ∀ ws : List zkW, zkR ws i j = (zkR (ws.map zk_rw) (rni i) j).map rnm := by
  intro ws
  induction ws with
  | nil => rfl
  | cons w r ih =>
    obtain ⟨p, s⟩ := w
    rw [List.map_cons]
    have c : i = p.1 ↔ rni i = rni p.1 := ⟨fun z => by rw [z], fun z => by rw [← rnm_i i, z, rnm_i]⟩
    cases s with
    | inl v => rw [zkR]; show _ = (zkR (((rni p.1, p.2), Sum.inl v) :: r.map zk_rw) (rni i) j).map rnm; rw [zkR]; exact ih
    | inr v =>
      rw [zkR]
      show _ = (zkR (((rni p.1, p.2), Sum.inr (rni v)) :: r.map zk_rw) (rni i) j).map rnm
      rw [zkR]
      dsimp only
      by_cases z : i = p.1
      · rw [if_pos z, if_pos (c.mp z)]
        by_cases y : j = p.2
        · rw [if_pos y, if_pos y]
          show some v = some (rnm (rni v))
          rw [rnm_i]
        · rw [if_neg y, if_neg y, ih]
      · rw [if_neg z, if_neg (fun y => z (c.mpr y)), ih]
theorem zkH_rn {D : zkD} (h : D.1 = rnK zT0.1) : zkH D = rnH (zkH (zk_rd D)) := by
  have e1 : zkI D.2 = fun i => zkI (D.2.map zk_rw) (rni i) := by funext i j; exact zkI_rn i j D.2
  have e2 : zkR D.2 = fun i k => (zkR (D.2.map zk_rw) (rni i) k).map rnm := by funext i j; exact zkR_rn i j D.2
  unfold zkH rnH zk_rd
  dsimp only
  rw [h, e1, e2]
/-! the same looked up by numbers, so that nothing is named anew while the kernel works -/
def zk_et (a k : Nat) : Int32 := if a = 2 ∧ k < 480 then -1 else if (a = 42 ∨ a = 55) ∧ k < 10 then -1 else if (a = 48 ∨ a = 61) ∧ k < 30 then -1 else if a = 69 ∧ k < 3 then -1 else if a = 127 ∧ k < 20 then -1 else if a = 133 ∧ k < 60 then -1 else if (a = 0 ∧ k = 1) ∨ (a = 95 ∧ k = 47) then 50000 else if (a = 0 ∧ k = 2) ∨ (a = 95 ∧ k = 48) then 60 else if (a = 94 ∧ k = 1) ∨ (a = 95 ∧ k = 78) then 65535 else 0
theorem zk_et_e (a k : Nat) : zk_et a k = zk_ex (rni a) k := by
  have c := rni_cs a
  have d1 : a = 2 ↔ rni a = 2 := by omega
  have d2 : a = 42 ↔ rni a = 39 := by omega
  have d3 : a = 55 ↔ rni a = 52 := by omega
  have d4 : a = 48 ↔ rni a = 45 := by omega
  have d5 : a = 61 ↔ rni a = 58 := by omega
  have d6 : a = 69 ↔ rni a = 66 := by omega
  have d7 : a = 127 ↔ rni a = 124 := by omega
  have d8 : a = 133 ↔ rni a = 130 := by omega
  have d9 : a = 0 ↔ rni a = 0 := by omega
  have d10 : a = 95 ↔ rni a = 92 := by omega
  have d11 : a = 94 ↔ rni a = 91 := by omega
  unfold zk_et zk_ex
  simp only [d1, d2, d3, d4, d5, d6, d7, d8, d9, d10, d11]
def zk_it (w : zkW) : Bool := match w.2 with
  | .inl v => decide (v = zk_et w.1.1 w.1.2)
  | .inr _ => true
theorem zk_it_e (w : zkW) : zk_iv (zk_rw w) = zk_it w := by
  obtain ⟨⟨a, k⟩, s⟩ := w
  cases s with
  | inr j => rfl
  | inl v =>
    show decide (v = zk_ex (rni a) k) = decide (v = zk_et a k)
    rw [zk_et_e]
theorem zk_ks_rn (a : Nat) : ∀ ws : List zkW, zk_ks a (ws.map zk_rw) = zk_ks (rnm a) ws := by
  intro ws
  induction ws with
  | nil => rfl
  | cons w r ih =>
    obtain ⟨⟨p1, p2⟩, s⟩ := w
    rw [List.map_cons]
    have c : rni p1 = a ↔ p1 = rnm a := ⟨fun z => by rw [← z, rnm_i], fun z => by rw [z, rni_m]⟩
    cases s with
    | inr j => show zk_ks a (((rni p1, p2), Sum.inr (rni j)) :: r.map zk_rw) = _; rw [zk_ks, zk_ks]; exact ih
    | inl v =>
      show zk_ks a (((rni p1, p2), Sum.inl v) :: r.map zk_rw) = _
      rw [zk_ks, zk_ks]
      dsimp only
      by_cases z : p1 = rnm a
      · rw [if_pos z, if_pos (c.mpr z), ih]
      · rw [if_neg z, if_neg (fun y => z (c.mp y)), ih]
/-- all that point to another, by numbers -/
def zk_rt : List (Nat × Nat × Nat) := [(0, 3, 1), (0, 4, 10), (0, 5, 18), (0, 6, 26), (0, 7, 35), (0, 8, 40), (0, 9, 53), (0, 12, 66), (0, 13, 75), (0, 14, 85), (0, 15, 94), (1, 2, 2), (1, 3, 3), (1, 4, 4), (1, 5, 5), (1, 6, 6), (1, 7, 7), (1, 8, 8), (1, 9, 9), (10, 0, 11), (10, 3, 12), (10, 4, 13), (10, 5, 14), (10, 9, 15), (10, 11, 16), (10, 12, 17), (18, 1, 19), (18, 2, 20), (18, 3, 21), (18, 5, 22), (18, 6, 23), (18, 7, 24), (18, 8, 25), (26, 1, 27), (26, 2, 28), (26, 3, 29), (26, 5, 30), (26, 6, 31), (26, 7, 32), (26, 8, 33), (26, 9, 34), (35, 0, 26), (35, 1, 36), (35, 2, 37), (35, 3, 38), (35, 4, 39), (40, 0, 26), (40, 1, 18), (40, 2, 35), (40, 5, 41), (40, 6, 42), (40, 7, 43), (40, 8, 44), (40, 9, 45), (40, 10, 46), (40, 11, 47), (40, 12, 48), (40, 13, 49), (40, 14, 50), (40, 15, 51), (40, 16, 52), (53, 0, 26), (53, 1, 18), (53, 2, 35), (53, 5, 54), (53, 6, 55), (53, 7, 56), (53, 8, 57), (53, 9, 58), (53, 10, 59), (53, 11, 60), (53, 12, 61), (53, 13, 62), (53, 14, 63), (53, 15, 64), (53, 16, 65), (66, 0, 26), (66, 1, 18), (66, 2, 40), (66, 3, 67), (66, 4, 68), (66, 5, 69), (66, 6, 70), (66, 7, 71), (66, 8, 72), (66, 9, 73), (66, 10, 74), (75, 0, 1), (75, 1, 18), (75, 3, 76), (75, 4, 77), (75, 6, 78), (75, 7, 79), (75, 8, 80), (75, 9, 81), (75, 10, 82), (75, 11, 83), (75, 14, 84), (85, 0, 1), (85, 1, 40), (85, 2, 35), (85, 4, 86), (85, 5, 87), (85, 6, 88), (85, 8, 89), (85, 10, 90), (85, 12, 91), (85, 13, 92), (85, 15, 93), (95, 0, 96), (95, 6, 97), (95, 10, 98), (95, 11, 99), (95, 13, 100), (95, 14, 101), (95, 16, 102), (95, 17, 103), (95, 18, 104), (95, 19, 105), (95, 21, 106), (95, 22, 107), (95, 25, 108), (95, 26, 109), (95, 27, 110), (95, 29, 111), (95, 30, 112), (95, 31, 113), (95, 32, 114), (95, 34, 115), (95, 35, 116), (95, 36, 117), (95, 38, 118), (95, 39, 119), (95, 40, 120), (95, 42, 121), (95, 43, 122), (95, 44, 123), (95, 45, 124), (95, 46, 125), (95, 49, 126), (95, 50, 127), (95, 51, 128), (95, 52, 129), (95, 53, 130), (95, 54, 131), (95, 55, 132), (95, 56, 133), (95, 57, 134), (95, 58, 135), (95, 59, 136), (95, 60, 137), (95, 61, 138), (95, 62, 139), (95, 63, 140), (95, 64, 141), (95, 65, 142), (95, 66, 143), (95, 67, 144), (95, 68, 145), (95, 69, 146), (95, 70, 147), (95, 71, 148), (95, 73, 149), (95, 74, 150), (95, 76, 151), (95, 82, 152), (95, 83, 153), (95, 84, 154), (95, 85, 155), (95, 86, 156), (95, 89, 157), (95, 90, 158), (95, 91, 159), (95, 92, 160), (95, 93, 161), (95, 94, 162), (95, 95, 163), (95, 96, 164)]
def zk_rs : Bool := (List.range zT0.2.length).all (fun i => (List.range (zT0.2.getD i []).length).all (fun k => match zlk zT0.2 i k with
  | none => true
  | some j => zk_rt.contains (rnm i, k, rnm j)))
set_option maxRecDepth 100000 in
theorem zk_rs_ok : zk_rs = true := by decide +kernel
def zk_rg (ws : List zkW) : Bool := zk_rt.all (fun p => decide (zkR ws p.1 p.2.1 = some p.2.2))
def zk_cn (D : zkD) : Bool := decide (D.1 = rnK zT0.1) && (D.2.all zk_it && (([(2, 480), (42, 10), (55, 10), (48, 30), (61, 30), (69, 3), (127, 20), (133, 60)] : List (Nat × Nat)).all (fun p => decide (zk_ks p.1 D.2 = (List.range p.2).reverse)) && (([(0, 1), (0, 2), (95, 47), (95, 48), (94, 1), (95, 78)] : List (Nat × Nat)).all (fun p => (zk_ks p.1 D.2).contains p.2) && zk_rg D.2)))
theorem zk_cn_ok {D : zkD} (h : zk_cn D = true) : D.1 = rnK zT0.1 ∧ zk_ck (zk_rd D) = true := by
  unfold zk_cn at h
  simp only [Bool.and_eq_true, decide_eq_true_eq] at h
  obtain ⟨h1, h2, h3, h4, h5⟩ := h
  refine ⟨h1, ?_⟩
  unfold zk_ck zk_rd
  dsimp only
  rw [Bool.and_eq_true, Bool.and_eq_true, Bool.and_eq_true, Bool.and_eq_true]
  refine ⟨decide_eq_true rfl, ?_, ?_, ?_, ?_⟩
  · rw [List.all_eq_true] at h2 ⊢
    intro w hw
    obtain ⟨u, hu, eu⟩ := List.mem_map.mp hw
    rw [← eu, zk_it_e]
    exact h2 u hu
  · have m : ∀ p ∈ ([(2, 480), (39, 10), (52, 10), (45, 30), (58, 30), (66, 3), (124, 20), (130, 60)] : List (Nat × Nat)), (rnm p.1, p.2) ∈ ([(2, 480), (42, 10), (55, 10), (48, 30), (61, 30), (69, 3), (127, 20), (133, 60)] : List (Nat × Nat)) := by decide
    rw [List.all_eq_true] at h3 ⊢
    intro p hp
    have := h3 _ (m p hp)
    dsimp only at this ⊢
    rw [zk_ks_rn]
    exact this
  · have m : ∀ p ∈ ([(0, 1), (0, 2), (92, 47), (92, 48), (91, 1), (92, 78)] : List (Nat × Nat)), (rnm p.1, p.2) ∈ ([(0, 1), (0, 2), (95, 47), (95, 48), (94, 1), (95, 78)] : List (Nat × Nat)) := by decide
    rw [List.all_eq_true] at h4 ⊢
    intro p hp
    have := h4 _ (m p hp)
    dsimp only at this ⊢
    rw [zk_ks_rn]
    exact this
  · unfold zk_rg at h5
    unfold zk_rf
    have h0 := zk_rs_ok
    unfold zk_rs at h0
    rw [List.all_eq_true] at h5 h0 ⊢
    intro i hi
    have h6 := h0 i hi
    rw [List.all_eq_true] at h6 ⊢
    intro k hk
    have h7 := h6 k hk
    cases e : zlk zT0.2 i k with
    | none => rfl
    | some j =>
      rw [e] at h7
      have h8 : zkR D.2 (rnm i) k = some (rnm j) := of_decide_eq_true (h5 _ (List.contains_iff_mem.mp h7))
      have h9 := zkR_rn (rnm i) k D.2
      rw [rni_m, h8] at h9
      refine decide_eq_true ?_
      cases e3 : zkR (D.2.map zk_rw) i k with
      | none => rw [e3] at h9; cases h9
      | some v =>
        rw [e3] at h9
        have h10 : rnm j = rnm v := Option.some.inj h9
        have : j = v := by rw [← rni_m j, h10, rni_m]
        rw [this]
/-! in two halves: the class's maker, then the reference's; what stands between them is printed -/
def zk_K1 : List zm_K := [.inr 10, .inr 7, .inl (0, 480), .inl (0, 400), .inl (0, 400), .inl (0, 400), .inl (0, 30), .inl (0, 30), .inl (0, 30), .inl (0, 30), .inr 8, .inl (1, 400), .inl (0, 401), .inl (0, 401), .inl (0, 401), .inl (0, 400), .inl (0, 4), .inl (0, 4), .inr 6, .inl (4, 10), .inl (0, 40), .inl (0, 40), .inl (0, 15), .inl (0, 15), .inl (0, 9), .inl (0, 64), .inr 4, .inl (0, 10), .inl (0, 10), .inl (0, 10), .inl (0, 200), .inl (0, 200), .inl (0, 200), .inl (0, 200), .inl (0, 200), .inr 9, .inl (0, 100), .inl (0, 10), .inl (0, 10), .inl (0, 10), .inr 1, .inl (0, 10), .inl (0, 10), .inl (0, 10), .inl (0, 10), .inl (0, 10), .inl (0, 30), .inl (0, 30), .inl (0, 30), .inl (0, 3), .inl (0, 480), .inl (0, 480), .inl (0, 4800), .inr 1, .inl (0, 10), .inl (0, 10), .inl (0, 10), .inl (0, 10), .inl (0, 10), .inl (0, 30), .inl (0, 30), .inl (0, 30), .inl (0, 3), .inl (0, 480), .inl (0, 480), .inl (0, 4800), .inr 3, .inl (0, 3), .inl (0, 9), .inl (0, 3), .inl (0, 3), .inl (0, 3), .inl (0, 3), .inl (0, 3), .inl (0, 3), .inr 5, .inl (0, 6), .inl (0, 6), .inl (0, 40), .inl (0, 40), .inl (0, 40), .inl (0, 64), .inl (0, 64), .inl (0, 64), .inl (0, 6), .inr 2, .inl (0, 10), .inl (0, 10), .inl (0, 10), .inl (0, 8), .inl (0, 3), .inl (0, 24), .inl (0, 3), .inl (0, 3), .inr 0]
def zk_W1_0 : List zkW := [((0, 15), .inr 94), ((94, 1), .inl 65535), ((0, 14), .inr 85), ((85, 2), .inr 35), ((85, 1), .inr 40), ((85, 0), .inr 1), ((85, 15), .inr 93), ((85, 13), .inr 92), ((85, 12), .inr 91), ((85, 10), .inr 90), ((85, 8), .inr 89), ((85, 6), .inr 88), ((85, 5), .inr 87), ((85, 4), .inr 86), ((0, 13), .inr 75), ((75, 1), .inr 18), ((75, 0), .inr 1), ((75, 14), .inr 84), ((75, 11), .inr 83), ((75, 10), .inr 82), ((75, 9), .inr 81), ((75, 8), .inr 80), ((75, 7), .inr 79), ((75, 6), .inr 78), ((75, 4), .inr 77), ((75, 3), .inr 76), ((0, 12), .inr 66), ((69, 2), .inl (-1)), ((69, 1), .inl (-1)), ((69, 0), .inl (-1)), ((66, 2), .inr 40), ((66, 1), .inr 18), ((66, 0), .inr 26), ((66, 10), .inr 74), ((66, 9), .inr 73), ((66, 8), .inr 72), ((66, 7), .inr 71), ((66, 6), .inr 70), ((66, 5), .inr 69), ((66, 4), .inr 68), ((66, 3), .inr 67), ((0, 9), .inr 53), ((61, 29), .inl (-1)), ((61, 28), .inl (-1)), ((61, 27), .inl (-1)), ((61, 26), .inl (-1)), ((61, 25), .inl (-1)), ((61, 24), .inl (-1)), ((61, 23), .inl (-1)), ((61, 22), .inl (-1)), ((61, 21), .inl (-1)), ((61, 20), .inl (-1)), ((61, 19), .inl (-1)), ((61, 18), .inl (-1)), ((61, 17), .inl (-1)), ((61, 16), .inl (-1)), ((61, 15), .inl (-1)), ((61, 14), .inl (-1)), ((61, 13), .inl (-1)), ((61, 12), .inl (-1))]
def zk_W1_1 : List zkW := [((61, 11), .inl (-1)), ((61, 10), .inl (-1)), ((61, 9), .inl (-1)), ((61, 8), .inl (-1)), ((61, 7), .inl (-1)), ((61, 6), .inl (-1)), ((61, 5), .inl (-1)), ((61, 4), .inl (-1)), ((61, 3), .inl (-1)), ((61, 2), .inl (-1)), ((61, 1), .inl (-1)), ((61, 0), .inl (-1)), ((55, 9), .inl (-1)), ((55, 8), .inl (-1)), ((55, 7), .inl (-1)), ((55, 6), .inl (-1)), ((55, 5), .inl (-1)), ((55, 4), .inl (-1)), ((55, 3), .inl (-1)), ((55, 2), .inl (-1)), ((55, 1), .inl (-1)), ((55, 0), .inl (-1)), ((53, 2), .inr 35), ((53, 1), .inr 18), ((53, 0), .inr 26), ((53, 16), .inr 65), ((53, 15), .inr 64), ((53, 14), .inr 63), ((53, 13), .inr 62), ((53, 12), .inr 61), ((53, 11), .inr 60), ((53, 10), .inr 59), ((53, 9), .inr 58), ((53, 8), .inr 57), ((53, 7), .inr 56), ((53, 6), .inr 55), ((53, 5), .inr 54), ((0, 8), .inr 40), ((48, 29), .inl (-1)), ((48, 28), .inl (-1)), ((48, 27), .inl (-1)), ((48, 26), .inl (-1)), ((48, 25), .inl (-1)), ((48, 24), .inl (-1)), ((48, 23), .inl (-1)), ((48, 22), .inl (-1)), ((48, 21), .inl (-1)), ((48, 20), .inl (-1)), ((48, 19), .inl (-1)), ((48, 18), .inl (-1)), ((48, 17), .inl (-1)), ((48, 16), .inl (-1)), ((48, 15), .inl (-1)), ((48, 14), .inl (-1)), ((48, 13), .inl (-1)), ((48, 12), .inl (-1)), ((48, 11), .inl (-1)), ((48, 10), .inl (-1)), ((48, 9), .inl (-1)), ((48, 8), .inl (-1))]
def zk_W1_2 : List zkW := [((48, 7), .inl (-1)), ((48, 6), .inl (-1)), ((48, 5), .inl (-1)), ((48, 4), .inl (-1)), ((48, 3), .inl (-1)), ((48, 2), .inl (-1)), ((48, 1), .inl (-1)), ((48, 0), .inl (-1)), ((42, 9), .inl (-1)), ((42, 8), .inl (-1)), ((42, 7), .inl (-1)), ((42, 6), .inl (-1)), ((42, 5), .inl (-1)), ((42, 4), .inl (-1)), ((42, 3), .inl (-1)), ((42, 2), .inl (-1)), ((42, 1), .inl (-1)), ((42, 0), .inl (-1)), ((40, 2), .inr 35), ((40, 1), .inr 18), ((40, 0), .inr 26), ((40, 16), .inr 52), ((40, 15), .inr 51), ((40, 14), .inr 50), ((40, 13), .inr 49), ((40, 12), .inr 48), ((40, 11), .inr 47), ((40, 10), .inr 46), ((40, 9), .inr 45), ((40, 8), .inr 44), ((40, 7), .inr 43), ((40, 6), .inr 42), ((40, 5), .inr 41), ((0, 7), .inr 35), ((35, 0), .inr 26), ((35, 4), .inr 39), ((35, 3), .inr 38), ((35, 2), .inr 37), ((35, 1), .inr 36), ((0, 6), .inr 26), ((26, 9), .inr 34), ((26, 8), .inr 33), ((26, 7), .inr 32), ((26, 6), .inr 31), ((26, 5), .inr 30), ((26, 3), .inr 29), ((26, 2), .inr 28), ((26, 1), .inr 27), ((0, 5), .inr 18), ((18, 8), .inr 25), ((18, 7), .inr 24), ((18, 6), .inr 23), ((18, 5), .inr 22), ((18, 3), .inr 21), ((18, 2), .inr 20), ((18, 1), .inr 19), ((0, 4), .inr 10), ((10, 12), .inr 17), ((10, 11), .inr 16), ((10, 9), .inr 15)]
def zk_W1_3 : List zkW := [((10, 5), .inr 14), ((10, 4), .inr 13), ((10, 3), .inr 12), ((10, 0), .inr 11), ((0, 3), .inr 1), ((2, 479), .inl (-1)), ((2, 478), .inl (-1)), ((2, 477), .inl (-1)), ((2, 476), .inl (-1)), ((2, 475), .inl (-1)), ((2, 474), .inl (-1)), ((2, 473), .inl (-1)), ((2, 472), .inl (-1)), ((2, 471), .inl (-1)), ((2, 470), .inl (-1)), ((2, 469), .inl (-1)), ((2, 468), .inl (-1)), ((2, 467), .inl (-1)), ((2, 466), .inl (-1)), ((2, 465), .inl (-1)), ((2, 464), .inl (-1)), ((2, 463), .inl (-1)), ((2, 462), .inl (-1)), ((2, 461), .inl (-1)), ((2, 460), .inl (-1)), ((2, 459), .inl (-1)), ((2, 458), .inl (-1)), ((2, 457), .inl (-1)), ((2, 456), .inl (-1)), ((2, 455), .inl (-1)), ((2, 454), .inl (-1)), ((2, 453), .inl (-1)), ((2, 452), .inl (-1)), ((2, 451), .inl (-1)), ((2, 450), .inl (-1)), ((2, 449), .inl (-1)), ((2, 448), .inl (-1)), ((2, 447), .inl (-1)), ((2, 446), .inl (-1)), ((2, 445), .inl (-1)), ((2, 444), .inl (-1)), ((2, 443), .inl (-1)), ((2, 442), .inl (-1)), ((2, 441), .inl (-1)), ((2, 440), .inl (-1)), ((2, 439), .inl (-1)), ((2, 438), .inl (-1)), ((2, 437), .inl (-1)), ((2, 436), .inl (-1)), ((2, 435), .inl (-1)), ((2, 434), .inl (-1)), ((2, 433), .inl (-1)), ((2, 432), .inl (-1)), ((2, 431), .inl (-1)), ((2, 430), .inl (-1)), ((2, 429), .inl (-1)), ((2, 428), .inl (-1)), ((2, 427), .inl (-1)), ((2, 426), .inl (-1)), ((2, 425), .inl (-1))]
def zk_W1_4 : List zkW := [((2, 424), .inl (-1)), ((2, 423), .inl (-1)), ((2, 422), .inl (-1)), ((2, 421), .inl (-1)), ((2, 420), .inl (-1)), ((2, 419), .inl (-1)), ((2, 418), .inl (-1)), ((2, 417), .inl (-1)), ((2, 416), .inl (-1)), ((2, 415), .inl (-1)), ((2, 414), .inl (-1)), ((2, 413), .inl (-1)), ((2, 412), .inl (-1)), ((2, 411), .inl (-1)), ((2, 410), .inl (-1)), ((2, 409), .inl (-1)), ((2, 408), .inl (-1)), ((2, 407), .inl (-1)), ((2, 406), .inl (-1)), ((2, 405), .inl (-1)), ((2, 404), .inl (-1)), ((2, 403), .inl (-1)), ((2, 402), .inl (-1)), ((2, 401), .inl (-1)), ((2, 400), .inl (-1)), ((2, 399), .inl (-1)), ((2, 398), .inl (-1)), ((2, 397), .inl (-1)), ((2, 396), .inl (-1)), ((2, 395), .inl (-1)), ((2, 394), .inl (-1)), ((2, 393), .inl (-1)), ((2, 392), .inl (-1)), ((2, 391), .inl (-1)), ((2, 390), .inl (-1)), ((2, 389), .inl (-1)), ((2, 388), .inl (-1)), ((2, 387), .inl (-1)), ((2, 386), .inl (-1)), ((2, 385), .inl (-1)), ((2, 384), .inl (-1)), ((2, 383), .inl (-1)), ((2, 382), .inl (-1)), ((2, 381), .inl (-1)), ((2, 380), .inl (-1)), ((2, 379), .inl (-1)), ((2, 378), .inl (-1)), ((2, 377), .inl (-1)), ((2, 376), .inl (-1)), ((2, 375), .inl (-1)), ((2, 374), .inl (-1)), ((2, 373), .inl (-1)), ((2, 372), .inl (-1)), ((2, 371), .inl (-1)), ((2, 370), .inl (-1)), ((2, 369), .inl (-1)), ((2, 368), .inl (-1)), ((2, 367), .inl (-1)), ((2, 366), .inl (-1)), ((2, 365), .inl (-1))]
def zk_W1_5 : List zkW := [((2, 364), .inl (-1)), ((2, 363), .inl (-1)), ((2, 362), .inl (-1)), ((2, 361), .inl (-1)), ((2, 360), .inl (-1)), ((2, 359), .inl (-1)), ((2, 358), .inl (-1)), ((2, 357), .inl (-1)), ((2, 356), .inl (-1)), ((2, 355), .inl (-1)), ((2, 354), .inl (-1)), ((2, 353), .inl (-1)), ((2, 352), .inl (-1)), ((2, 351), .inl (-1)), ((2, 350), .inl (-1)), ((2, 349), .inl (-1)), ((2, 348), .inl (-1)), ((2, 347), .inl (-1)), ((2, 346), .inl (-1)), ((2, 345), .inl (-1)), ((2, 344), .inl (-1)), ((2, 343), .inl (-1)), ((2, 342), .inl (-1)), ((2, 341), .inl (-1)), ((2, 340), .inl (-1)), ((2, 339), .inl (-1)), ((2, 338), .inl (-1)), ((2, 337), .inl (-1)), ((2, 336), .inl (-1)), ((2, 335), .inl (-1)), ((2, 334), .inl (-1)), ((2, 333), .inl (-1)), ((2, 332), .inl (-1)), ((2, 331), .inl (-1)), ((2, 330), .inl (-1)), ((2, 329), .inl (-1)), ((2, 328), .inl (-1)), ((2, 327), .inl (-1)), ((2, 326), .inl (-1)), ((2, 325), .inl (-1)), ((2, 324), .inl (-1)), ((2, 323), .inl (-1)), ((2, 322), .inl (-1)), ((2, 321), .inl (-1)), ((2, 320), .inl (-1)), ((2, 319), .inl (-1)), ((2, 318), .inl (-1)), ((2, 317), .inl (-1)), ((2, 316), .inl (-1)), ((2, 315), .inl (-1)), ((2, 314), .inl (-1)), ((2, 313), .inl (-1)), ((2, 312), .inl (-1)), ((2, 311), .inl (-1)), ((2, 310), .inl (-1)), ((2, 309), .inl (-1)), ((2, 308), .inl (-1)), ((2, 307), .inl (-1)), ((2, 306), .inl (-1)), ((2, 305), .inl (-1))]
def zk_W1_6 : List zkW := [((2, 304), .inl (-1)), ((2, 303), .inl (-1)), ((2, 302), .inl (-1)), ((2, 301), .inl (-1)), ((2, 300), .inl (-1)), ((2, 299), .inl (-1)), ((2, 298), .inl (-1)), ((2, 297), .inl (-1)), ((2, 296), .inl (-1)), ((2, 295), .inl (-1)), ((2, 294), .inl (-1)), ((2, 293), .inl (-1)), ((2, 292), .inl (-1)), ((2, 291), .inl (-1)), ((2, 290), .inl (-1)), ((2, 289), .inl (-1)), ((2, 288), .inl (-1)), ((2, 287), .inl (-1)), ((2, 286), .inl (-1)), ((2, 285), .inl (-1)), ((2, 284), .inl (-1)), ((2, 283), .inl (-1)), ((2, 282), .inl (-1)), ((2, 281), .inl (-1)), ((2, 280), .inl (-1)), ((2, 279), .inl (-1)), ((2, 278), .inl (-1)), ((2, 277), .inl (-1)), ((2, 276), .inl (-1)), ((2, 275), .inl (-1)), ((2, 274), .inl (-1)), ((2, 273), .inl (-1)), ((2, 272), .inl (-1)), ((2, 271), .inl (-1)), ((2, 270), .inl (-1)), ((2, 269), .inl (-1)), ((2, 268), .inl (-1)), ((2, 267), .inl (-1)), ((2, 266), .inl (-1)), ((2, 265), .inl (-1)), ((2, 264), .inl (-1)), ((2, 263), .inl (-1)), ((2, 262), .inl (-1)), ((2, 261), .inl (-1)), ((2, 260), .inl (-1)), ((2, 259), .inl (-1)), ((2, 258), .inl (-1)), ((2, 257), .inl (-1)), ((2, 256), .inl (-1)), ((2, 255), .inl (-1)), ((2, 254), .inl (-1)), ((2, 253), .inl (-1)), ((2, 252), .inl (-1)), ((2, 251), .inl (-1)), ((2, 250), .inl (-1)), ((2, 249), .inl (-1)), ((2, 248), .inl (-1)), ((2, 247), .inl (-1)), ((2, 246), .inl (-1)), ((2, 245), .inl (-1))]
def zk_W1_7 : List zkW := [((2, 244), .inl (-1)), ((2, 243), .inl (-1)), ((2, 242), .inl (-1)), ((2, 241), .inl (-1)), ((2, 240), .inl (-1)), ((2, 239), .inl (-1)), ((2, 238), .inl (-1)), ((2, 237), .inl (-1)), ((2, 236), .inl (-1)), ((2, 235), .inl (-1)), ((2, 234), .inl (-1)), ((2, 233), .inl (-1)), ((2, 232), .inl (-1)), ((2, 231), .inl (-1)), ((2, 230), .inl (-1)), ((2, 229), .inl (-1)), ((2, 228), .inl (-1)), ((2, 227), .inl (-1)), ((2, 226), .inl (-1)), ((2, 225), .inl (-1)), ((2, 224), .inl (-1)), ((2, 223), .inl (-1)), ((2, 222), .inl (-1)), ((2, 221), .inl (-1)), ((2, 220), .inl (-1)), ((2, 219), .inl (-1)), ((2, 218), .inl (-1)), ((2, 217), .inl (-1)), ((2, 216), .inl (-1)), ((2, 215), .inl (-1)), ((2, 214), .inl (-1)), ((2, 213), .inl (-1)), ((2, 212), .inl (-1)), ((2, 211), .inl (-1)), ((2, 210), .inl (-1)), ((2, 209), .inl (-1)), ((2, 208), .inl (-1)), ((2, 207), .inl (-1)), ((2, 206), .inl (-1)), ((2, 205), .inl (-1)), ((2, 204), .inl (-1)), ((2, 203), .inl (-1)), ((2, 202), .inl (-1)), ((2, 201), .inl (-1)), ((2, 200), .inl (-1)), ((2, 199), .inl (-1)), ((2, 198), .inl (-1)), ((2, 197), .inl (-1)), ((2, 196), .inl (-1)), ((2, 195), .inl (-1)), ((2, 194), .inl (-1)), ((2, 193), .inl (-1)), ((2, 192), .inl (-1)), ((2, 191), .inl (-1)), ((2, 190), .inl (-1)), ((2, 189), .inl (-1)), ((2, 188), .inl (-1)), ((2, 187), .inl (-1)), ((2, 186), .inl (-1)), ((2, 185), .inl (-1))]
def zk_W1_8 : List zkW := [((2, 184), .inl (-1)), ((2, 183), .inl (-1)), ((2, 182), .inl (-1)), ((2, 181), .inl (-1)), ((2, 180), .inl (-1)), ((2, 179), .inl (-1)), ((2, 178), .inl (-1)), ((2, 177), .inl (-1)), ((2, 176), .inl (-1)), ((2, 175), .inl (-1)), ((2, 174), .inl (-1)), ((2, 173), .inl (-1)), ((2, 172), .inl (-1)), ((2, 171), .inl (-1)), ((2, 170), .inl (-1)), ((2, 169), .inl (-1)), ((2, 168), .inl (-1)), ((2, 167), .inl (-1)), ((2, 166), .inl (-1)), ((2, 165), .inl (-1)), ((2, 164), .inl (-1)), ((2, 163), .inl (-1)), ((2, 162), .inl (-1)), ((2, 161), .inl (-1)), ((2, 160), .inl (-1)), ((2, 159), .inl (-1)), ((2, 158), .inl (-1)), ((2, 157), .inl (-1)), ((2, 156), .inl (-1)), ((2, 155), .inl (-1)), ((2, 154), .inl (-1)), ((2, 153), .inl (-1)), ((2, 152), .inl (-1)), ((2, 151), .inl (-1)), ((2, 150), .inl (-1)), ((2, 149), .inl (-1)), ((2, 148), .inl (-1)), ((2, 147), .inl (-1)), ((2, 146), .inl (-1)), ((2, 145), .inl (-1)), ((2, 144), .inl (-1)), ((2, 143), .inl (-1)), ((2, 142), .inl (-1)), ((2, 141), .inl (-1)), ((2, 140), .inl (-1)), ((2, 139), .inl (-1)), ((2, 138), .inl (-1)), ((2, 137), .inl (-1)), ((2, 136), .inl (-1)), ((2, 135), .inl (-1)), ((2, 134), .inl (-1)), ((2, 133), .inl (-1)), ((2, 132), .inl (-1)), ((2, 131), .inl (-1)), ((2, 130), .inl (-1)), ((2, 129), .inl (-1)), ((2, 128), .inl (-1)), ((2, 127), .inl (-1)), ((2, 126), .inl (-1)), ((2, 125), .inl (-1))]
def zk_W1_9 : List zkW := [((2, 124), .inl (-1)), ((2, 123), .inl (-1)), ((2, 122), .inl (-1)), ((2, 121), .inl (-1)), ((2, 120), .inl (-1)), ((2, 119), .inl (-1)), ((2, 118), .inl (-1)), ((2, 117), .inl (-1)), ((2, 116), .inl (-1)), ((2, 115), .inl (-1)), ((2, 114), .inl (-1)), ((2, 113), .inl (-1)), ((2, 112), .inl (-1)), ((2, 111), .inl (-1)), ((2, 110), .inl (-1)), ((2, 109), .inl (-1)), ((2, 108), .inl (-1)), ((2, 107), .inl (-1)), ((2, 106), .inl (-1)), ((2, 105), .inl (-1)), ((2, 104), .inl (-1)), ((2, 103), .inl (-1)), ((2, 102), .inl (-1)), ((2, 101), .inl (-1)), ((2, 100), .inl (-1)), ((2, 99), .inl (-1)), ((2, 98), .inl (-1)), ((2, 97), .inl (-1)), ((2, 96), .inl (-1)), ((2, 95), .inl (-1)), ((2, 94), .inl (-1)), ((2, 93), .inl (-1)), ((2, 92), .inl (-1)), ((2, 91), .inl (-1)), ((2, 90), .inl (-1)), ((2, 89), .inl (-1)), ((2, 88), .inl (-1)), ((2, 87), .inl (-1)), ((2, 86), .inl (-1)), ((2, 85), .inl (-1)), ((2, 84), .inl (-1)), ((2, 83), .inl (-1)), ((2, 82), .inl (-1)), ((2, 81), .inl (-1)), ((2, 80), .inl (-1)), ((2, 79), .inl (-1)), ((2, 78), .inl (-1)), ((2, 77), .inl (-1)), ((2, 76), .inl (-1)), ((2, 75), .inl (-1)), ((2, 74), .inl (-1)), ((2, 73), .inl (-1)), ((2, 72), .inl (-1)), ((2, 71), .inl (-1)), ((2, 70), .inl (-1)), ((2, 69), .inl (-1)), ((2, 68), .inl (-1)), ((2, 67), .inl (-1)), ((2, 66), .inl (-1)), ((2, 65), .inl (-1))]
def zk_W1_10 : List zkW := [((2, 64), .inl (-1)), ((2, 63), .inl (-1)), ((2, 62), .inl (-1)), ((2, 61), .inl (-1)), ((2, 60), .inl (-1)), ((2, 59), .inl (-1)), ((2, 58), .inl (-1)), ((2, 57), .inl (-1)), ((2, 56), .inl (-1)), ((2, 55), .inl (-1)), ((2, 54), .inl (-1)), ((2, 53), .inl (-1)), ((2, 52), .inl (-1)), ((2, 51), .inl (-1)), ((2, 50), .inl (-1)), ((2, 49), .inl (-1)), ((2, 48), .inl (-1)), ((2, 47), .inl (-1)), ((2, 46), .inl (-1)), ((2, 45), .inl (-1)), ((2, 44), .inl (-1)), ((2, 43), .inl (-1)), ((2, 42), .inl (-1)), ((2, 41), .inl (-1)), ((2, 40), .inl (-1)), ((2, 39), .inl (-1)), ((2, 38), .inl (-1)), ((2, 37), .inl (-1)), ((2, 36), .inl (-1)), ((2, 35), .inl (-1)), ((2, 34), .inl (-1)), ((2, 33), .inl (-1)), ((2, 32), .inl (-1)), ((2, 31), .inl (-1)), ((2, 30), .inl (-1)), ((2, 29), .inl (-1)), ((2, 28), .inl (-1)), ((2, 27), .inl (-1)), ((2, 26), .inl (-1)), ((2, 25), .inl (-1)), ((2, 24), .inl (-1)), ((2, 23), .inl (-1)), ((2, 22), .inl (-1)), ((2, 21), .inl (-1)), ((2, 20), .inl (-1)), ((2, 19), .inl (-1)), ((2, 18), .inl (-1)), ((2, 17), .inl (-1)), ((2, 16), .inl (-1)), ((2, 15), .inl (-1)), ((2, 14), .inl (-1)), ((2, 13), .inl (-1)), ((2, 12), .inl (-1)), ((2, 11), .inl (-1)), ((2, 10), .inl (-1)), ((2, 9), .inl (-1)), ((2, 8), .inl (-1)), ((2, 7), .inl (-1)), ((2, 6), .inl (-1)), ((2, 5), .inl (-1))]
def zk_W1_11 : List zkW := [((2, 4), .inl (-1)), ((2, 3), .inl (-1)), ((2, 2), .inl (-1)), ((2, 1), .inl (-1)), ((2, 0), .inl (-1)), ((1, 9), .inr 9), ((1, 8), .inr 8), ((1, 7), .inr 7), ((1, 6), .inr 6), ((1, 5), .inr 5), ((1, 4), .inr 4), ((1, 3), .inr 3), ((1, 2), .inr 2), ((0, 2), .inl 60), ((0, 1), .inl 50000)]
def zk_W1 : List zkW := zk_W1_0 ++ (zk_W1_1 ++ (zk_W1_2 ++ (zk_W1_3 ++ (zk_W1_4 ++ (zk_W1_5 ++ (zk_W1_6 ++ (zk_W1_7 ++ (zk_W1_8 ++ (zk_W1_9 ++ (zk_W1_10 ++ (zk_W1_11)))))))))))
def zk_L1 : zm_L := [some (.ref 1000001), some (.ref 0), none, none]
def zk_k1 (o : Option (zm_L × List Value × zkD)) : Bool := match o with
  | some (ls, st, D) => decide (ls = zk_L1) && (decide (st = []) && (decide (D.1 = zk_K1) && decide (D.2 = zk_W1)))
  | none => false
theorem zk_g1 {o : Option (zm_L × List Value × zkD)} (h : zk_k1 o = true) : o = some (zk_L1, [], (zk_K1, zk_W1)) := by
  (match o, h with
  | some (ls, st, (K, W)), h =>
    have h : (decide (ls = zk_L1) && (decide (st = []) && (decide (K = zk_K1) && decide (W = zk_W1)))) = true := h
    simp only [Bool.and_eq_true, decide_eq_true_eq] at h
    obtain ⟨h1, h2, h3, h4⟩ := h
    rw [h1, h2, h3, h4])
set_option maxRecDepth 100000 in
theorem zk_c1_ok : zk_k1 (zk_U 8 8000 300 268 0 (zm_en 268 [.ref 1000001]) [] ([], [])) = true := by decide +kernel
