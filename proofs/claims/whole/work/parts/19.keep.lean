/-! ===== a run, and what a step keeps ===== -/
def zm_iv : Instr → Bool
  | .invokevirtual _ => true
  | .invokespecial _ => true
  | _ => false
def zm_run (x : zm_X) : Nat → Nat → Nat → Nat → zm_L → List Value → zm_H → Option (Option Value × zm_H)
  | 0, _, _, _, _, _, _ => none
  | n + 1, d, m, pc, ls, st, h => match zm_lk m pc with
    | none => none
    | some q => match zm_ret m q.2.1 st h with
      | some r => r
      | none => if zm_rd q.2.1 = true then
          (if q.2.2.2.1 ≤ st.length ∧ ((st.drop q.2.2.2.1).map Value.category).sum ≤ 8 then
            match d with
            | 0 => none
            | d' + 1 => if 1000 ≤ q.2.2.1 then
                (match zm_xc q.2.2.1 (st.take q.2.2.2.1).reverse h with
                | some (v, h1) => zm_run x n (d' + 1) m (pc + 3) ls (v.toList ++ st.drop q.2.2.2.1) h1
                | none => none)
              else if (zm_iv q.2.1 = true → zm_rk q.2.2.1 (st.take q.2.2.2.1).reverse h = true) ∧ (zm_el (st.take q.2.2.2.1).reverse).length ≤ zm_ml q.2.2.1 then
                (match zm_run x n d' q.2.2.1 0 (zm_en q.2.2.1 (st.take q.2.2.2.1).reverse) [] h with
                | some (v, h1) => zm_run x n (d' + 1) m (pc + 3) ls (v.toList ++ st.drop q.2.2.2.1) h1
                | none => none)
              else none
          else none)
        else match zm_S x q pc ls st h with
          | some t => zm_run x n d m t.1 t.2.1 t.2.2.1 t.2.2.2
          | none => none
theorem zm_wv_le {n n' : Nat} (h : n ≤ n') {v : Value} (hv : zm_wv n v) : zm_wv n' v := by
  cases v with
  | ref j => exact hv.elim (fun z => Or.inl (Nat.lt_of_lt_of_le z h)) Or.inr
  | _ => exact hv
theorem zm_sw1_le {n n' : Nat} (h : n ≤ n') {st : List Value} (hs : zm_sw1 n st) : zm_sw1 n' st := fun v hv => zm_wv_le h (hs v hv)
theorem zm_lw1_le {n n' : Nat} (h : n ≤ n') {ls : zm_L} (hs : zm_lw1 n ls) : zm_lw1 n' ls := fun i v hv => zm_wv_le h (hs i v hv)
theorem zm_sw_tl {n : Nat} {v : Value} {st : List Value} (h : zm_sw1 n (v :: st)) : zm_sw1 n st := fun w hw => h w (List.mem_cons_of_mem _ hw)
theorem zm_sw_hd {n : Nat} {v : Value} {st : List Value} (h : zm_sw1 n (v :: st)) : zm_wv n v := h v List.mem_cons_self
theorem zm_sw_co {n : Nat} {v : Value} {st : List Value} (hv : zm_wv n v) (h : zm_sw1 n st) : zm_sw1 n (v :: st) := fun w hw => (List.mem_cons.mp hw).elim (fun e => e ▸ hv) (h w)
def zm_Kp (h : zm_H) (t : zm_T) : Prop := zm_hw t.2.2.2 ∧ zm_lw1 t.2.2.2.1.length t.2.1 ∧ zm_sw1 t.2.2.2.1.length t.2.2.1 ∧ h.1.length ≤ t.2.2.2.1.length ∧ zm_sz h ≤ zm_sz t.2.2.2
theorem zm_hw_si {h : zm_H} (hw : zm_hw h) (i k : Nat) (v : Int32) : zm_hw (zm_si h i k v) := hw
theorem zm_hw_sl {h : zm_H} (hw : zm_hw h) (i k : Nat) (v : Int64) : zm_hw (zm_sl h i k v) := hw
theorem zm_hw_sr {h : zm_H} (hw : zm_hw h) (i k b : Nat) (hb : zm_wn h.1.length b) : zm_hw (zm_sr h i k (some b)) := by
  refine ⟨fun i' k' j hj => ?_, hw.2⟩
  simp only [zm_sr, zm_u] at hj
  split at hj
  · dsimp only at hj
    split at hj
    · cases hj; exact hb
    · exact hw.1 _ _ _ hj
  · exact hw.1 _ _ _ hj
theorem zm_hw_nx {h : zm_H} (hw : zm_hw h) (hl : h.1.length < 1000000) (q : zm_K) (hq : ∀ t n, q = .inl (t, n) → t < 5) : zm_hw (zm_nx h q) := by
  refine ⟨fun i k j hj => ?_, by rw [zm_len_nx]; omega, fun i t n hi => ?_⟩
  · simp only [zm_nx, zm_w] at hj
    split at hj
    · cases hj
    · rw [zm_len_nx]
      exact (hw.1 _ _ _ hj).elim (fun z => Or.inl (by omega)) Or.inr
  · have hi : (h.1 ++ [q])[i]? = some (.inl (t, n)) := hi
    by_cases hlt : i < h.1.length
    · rw [List.getElem?_append_left hlt] at hi
      exact hw.2.2 i t n hi
    · rw [List.getElem?_append_right (by omega)] at hi
      have hz : i - h.1.length < 1 := (List.getElem?_eq_some_iff.mp hi).1
      rw [show i - h.1.length = 0 by omega] at hi
      cases hi
      exact hq t n rfl
theorem zm_rv_wv {h : zm_H} (hw : zm_hw h) (i k : Nat) : zm_wv h.1.length (zm_rv (h.2.2.2 i k)) := by
  cases hr : h.2.2.2 i k with
  | none => exact trivial
  | some j => exact hw.1 i k j hr
set_option maxHeartbeats 2000000 in
set_option maxRecDepth 100000 in
theorem zm_S_wf {x : zm_X} {q : zm_I} {pc : Nat} {ls : zm_L} {st : List Value} {h : zm_H} {t : zm_T} (hs : zm_S x q pc ls st h = some t) (hw : zm_hw h) (hwl : zm_lw1 h.1.length ls) (hwst : zm_sw1 h.1.length st) : zm_Kp h t := by
  obtain ⟨len, ins, a, b, v⟩ := q
  have same : ∀ (pc' : Nat) (st' : List Value), zm_sw1 h.1.length st' → zm_Kp h (pc', ls, st', h) := fun pc' st' h9 => ⟨hw, hwl, h9, Nat.le_refl _, Nat.le_refl _⟩
  have sameI : ∀ (pc' : Nat) (st' : List Value) (i k : Nat) (u : Int32), zm_sw1 h.1.length st' → zm_Kp h (pc', ls, st', zm_si h i k u) := fun pc' st' i k u h9 => ⟨hw, hwl, h9, Nat.le_refl _, Nat.le_refl _⟩
  have tt : ∀ (y : Int32), zm_wv h.1.length (.int y) := fun _ => trivial
  have tl : ∀ (y : Int64), zm_wv h.1.length (.long y) := fun _ => trivial
  cases ins with
  | iconst n =>
    have hs : some (pc + 1, ls, Value.int v :: st, h) = some t := hs
    cases hs
    exact same _ _ (zm_sw_co (tt _) hwst)
  | bipush n =>
    have hs : some (pc + 2, ls, Value.int v :: st, h) = some t := hs
    cases hs
    exact same _ _ (zm_sw_co (tt _) hwst)
  | sipush n =>
    have hs : some (pc + 3, ls, Value.int v :: st, h) = some t := hs
    cases hs
    exact same _ _ (zm_sw_co (tt _) hwst)
  | lconst n =>
    have hs : some (pc + 1, ls, Value.long v.toInt64 :: st, h) = some t := hs
    cases hs
    exact same _ _ (zm_sw_co (tl _) hwst)
  | ldc2_w n =>
    have hs : some (pc + 3, ls, Value.long v.toInt64 :: st, h) = some t := hs
    cases hs
    exact same _ _ (zm_sw_co (tl _) hwst)
  | ldc n =>
    have hs : (if b = 0 then some (pc + 2, ls, Value.int v :: st, h) else some (pc + 2, ls, Value.ref (2000000 + a) :: st, h)) = some t := hs
    split at hs
    · cases hs
      exact same _ _ (zm_sw_co (tt _) hwst)
    · cases hs
      exact same _ _ (zm_sw_co (show zm_wn _ _ from Or.inr (by omega)) hwst)
  | ldc_w n =>
    have hs : (if b = 0 then some (pc + 3, ls, Value.int v :: st, h) else some (pc + 3, ls, Value.ref (2000000 + a) :: st, h)) = some t := hs
    split at hs
    · cases hs
      exact same _ _ (zm_sw_co (tt _) hwst)
    · cases hs
      exact same _ _ (zm_sw_co (show zm_wn _ _ from Or.inr (by omega)) hwst)
  | iload_n k =>
    obtain ⟨y, hy, ht⟩ := zm_ld1_inv hs
    subst ht
    exact same _ _ (zm_sw_co (hwl _ _ (zm_ld_at hy)) hwst)
  | iload k =>
    obtain ⟨y, hy, ht⟩ := zm_ld1_inv hs
    subst ht
    exact same _ _ (zm_sw_co (hwl _ _ (zm_ld_at hy)) hwst)
  | lload_n k =>
    obtain ⟨y, hy, ht⟩ := zm_ldl_inv hs
    subst ht
    exact same _ _ (zm_sw_co (hwl _ _ (zm_ld_at hy)) hwst)
  | aload_n k =>
    obtain ⟨y, hy, ht⟩ := zm_lda_inv hs
    subst ht
    exact same _ _ (zm_sw_co (hwl _ _ (zm_ld_at hy)) hwst)
  | istore_n k =>
    obtain ⟨y, r, l', hst, hso, ht⟩ := zm_st1_inv hs
    subst hst
    subst ht
    exact ⟨hw, zm_lw1_so hwl (zm_sw_hd hwst) hso, zm_sw_tl hwst, Nat.le_refl _, Nat.le_refl _⟩
  | istore k =>
    obtain ⟨y, r, l', hst, hso, ht⟩ := zm_st1_inv hs
    subst hst
    subst ht
    exact ⟨hw, zm_lw1_so hwl (zm_sw_hd hwst) hso, zm_sw_tl hwst, Nat.le_refl _, Nat.le_refl _⟩
  | astore_n k =>
    obtain ⟨y, r, l', hst, hso, ht⟩ := zm_sta_inv hs
    subst hst
    subst ht
    exact ⟨hw, zm_lw1_so hwl (zm_sw_hd hwst) hso, zm_sw_tl hwst, Nat.le_refl _, Nat.le_refl _⟩
  | iinc k n =>
    obtain ⟨y, l', hy, hso, ht⟩ := zm_iin_inv hs
    subst ht
    exact ⟨hw, zm_lw1_so hwl (tt _) hso, hwst, Nat.le_refl _, Nat.le_refl _⟩
  | iadd =>
    obtain ⟨y, z, r, hst, ht⟩ := zm_b2_inv hs
    subst hst
    subst ht
    exact same _ _ (zm_sw_co (tt _) (zm_sw_tl (zm_sw_tl hwst)))
  | isub =>
    obtain ⟨y, z, r, hst, ht⟩ := zm_b2_inv hs
    subst hst
    subst ht
    exact same _ _ (zm_sw_co (tt _) (zm_sw_tl (zm_sw_tl hwst)))
  | imul =>
    obtain ⟨y, z, r, hst, ht⟩ := zm_b2_inv hs
    subst hst
    subst ht
    exact same _ _ (zm_sw_co (tt _) (zm_sw_tl (zm_sw_tl hwst)))
  | iand =>
    obtain ⟨y, z, r, hst, ht⟩ := zm_b2_inv hs
    subst hst
    subst ht
    exact same _ _ (zm_sw_co (tt _) (zm_sw_tl (zm_sw_tl hwst)))
  | ior =>
    obtain ⟨y, z, r, hst, ht⟩ := zm_b2_inv hs
    subst hst
    subst ht
    exact same _ _ (zm_sw_co (tt _) (zm_sw_tl (zm_sw_tl hwst)))
  | ixor =>
    obtain ⟨y, z, r, hst, ht⟩ := zm_b2_inv hs
    subst hst
    subst ht
    exact same _ _ (zm_sw_co (tt _) (zm_sw_tl (zm_sw_tl hwst)))
  | ishl =>
    obtain ⟨y, z, r, hst, ht⟩ := zm_b2_inv hs
    subst hst
    subst ht
    exact same _ _ (zm_sw_co (tt _) (zm_sw_tl (zm_sw_tl hwst)))
  | ishr =>
    obtain ⟨y, z, r, hst, ht⟩ := zm_b2_inv hs
    subst hst
    subst ht
    exact same _ _ (zm_sw_co (tt _) (zm_sw_tl (zm_sw_tl hwst)))
  | iushr =>
    obtain ⟨y, z, r, hst, ht⟩ := zm_b2_inv hs
    subst hst
    subst ht
    exact same _ _ (zm_sw_co (tt _) (zm_sw_tl (zm_sw_tl hwst)))
  | idiv =>
    obtain ⟨y, z, r, hst, hne, ht⟩ := zm_d2_inv hs
    subst hst
    subst ht
    exact same _ _ (zm_sw_co (tt _) (zm_sw_tl (zm_sw_tl hwst)))
  | irem =>
    obtain ⟨y, z, r, hst, hne, ht⟩ := zm_d2_inv hs
    subst hst
    subst ht
    exact same _ _ (zm_sw_co (tt _) (zm_sw_tl (zm_sw_tl hwst)))
  | ineg =>
    obtain ⟨y, r, hst, ht⟩ := zm_m1_inv hs
    subst hst
    subst ht
    exact same _ _ (zm_sw_co (tt _) (zm_sw_tl hwst))
  | i2b =>
    obtain ⟨y, r, hst, ht⟩ := zm_m1_inv hs
    subst hst
    subst ht
    exact same _ _ (zm_sw_co (tt _) (zm_sw_tl hwst))
  | i2c =>
    obtain ⟨y, r, hst, ht⟩ := zm_m1_inv hs
    subst hst
    subst ht
    exact same _ _ (zm_sw_co (tt _) (zm_sw_tl hwst))
  | ladd =>
    obtain ⟨y, z, r, hst, ht⟩ := zm_l2_inv hs
    subst hst
    subst ht
    exact same _ _ (zm_sw_co (tl _) (zm_sw_tl (zm_sw_tl hwst)))
  | lsub =>
    obtain ⟨y, z, r, hst, ht⟩ := zm_l2_inv hs
    subst hst
    subst ht
    exact same _ _ (zm_sw_co (tl _) (zm_sw_tl (zm_sw_tl hwst)))
  | lmul =>
    obtain ⟨y, z, r, hst, ht⟩ := zm_l2_inv hs
    subst hst
    subst ht
    exact same _ _ (zm_sw_co (tl _) (zm_sw_tl (zm_sw_tl hwst)))
  | lcmp =>
    (match st, hs with
    | .long z :: .long y :: r, hs =>
      have hs : some (pc + 1, ls, Value.int (lg_cmp y z) :: r, h) = some t := hs
      cases hs
      exact same _ _ (zm_sw_co (tt _) (zm_sw_tl (zm_sw_tl hwst))))
  | i2l =>
    (match st, hs with
    | .int y :: r, hs =>
      have hs : some (pc + 1, ls, Value.long y.toInt64 :: r, h) = some t := hs
      cases hs
      exact same _ _ (zm_sw_co (tl _) (zm_sw_tl hwst)))
  | l2i =>
    (match st, hs with
    | .long y :: r, hs =>
      have hs : some (pc + 1, ls, Value.int y.toInt32 :: r, h) = some t := hs
      cases hs
      exact same _ _ (zm_sw_co (tt _) (zm_sw_tl hwst)))
  | pop =>
    (match st, hs with
    | .int y :: r, hs =>
      have hs : some (pc + 1, ls, r, h) = some t := hs
      cases hs
      exact same _ _ (zm_sw_tl hwst))
  | dup =>
    (match st, hs with
    | .int y :: r, hs =>
      have hs : some (pc + 1, ls, Value.int y :: Value.int y :: r, h) = some t := hs
      cases hs
      exact same _ _ (zm_sw_co (tt _) hwst)
    | .ref y :: r, hs =>
      have hs : some (pc + 1, ls, Value.ref y :: Value.ref y :: r, h) = some t := hs
      cases hs
      exact same _ _ (zm_sw_co (zm_sw_hd hwst) hwst))
  | dup2 =>
    (match st, hs with
    | .int y :: .ref z :: r, hs =>
      have hs : some (pc + 1, ls, Value.int y :: Value.ref z :: Value.int y :: Value.ref z :: r, h) = some t := hs
      cases hs
      exact same _ _ (zm_sw_co (tt _) (zm_sw_co (zm_sw_hd (zm_sw_tl hwst)) hwst)))
  | ifCond cd off =>
    obtain ⟨y, r, hst, ht⟩ := zm_if1_inv hs
    subst hst
    subst ht
    exact same _ _ (zm_sw_tl hwst)
  | if_icmp cd off =>
    obtain ⟨y, z, r, hst, ht⟩ := zm_if2_inv hs
    subst hst
    subst ht
    exact same _ _ (zm_sw_tl (zm_sw_tl hwst))
  | goto off =>
    have hs : some (a, ls, st, h) = some t := hs
    cases hs
    exact same _ _ hwst
  | ifnonnull off =>
    (match st, hs with
    | .ref y :: r, hs =>
      have hs : some (a, ls, r, h) = some t := hs
      cases hs
      exact same _ _ (zm_sw_tl hwst)
    | .null :: r, hs =>
      have hs : some (pc + 3, ls, r, h) = some t := hs
      cases hs
      exact same _ _ (zm_sw_tl hwst))
  | arraylength =>
    (match st, hs with
    | .ref i :: r, hs =>
      have hs : (match zm_al x h i with | some n => some (pc + 1, ls, Value.int (Int32.ofNat n) :: r, h) | none => none) = some t := hs
      cases hal : zm_al x h i with
      | none => rw [hal] at hs; cases hs
      | some n =>
        rw [hal] at hs
        cases hs
        exact same _ _ (zm_sw_co (tt _) (zm_sw_tl hwst)))
  | iaload =>
    obtain ⟨j, i, n, f, r, hst, hia, hin, ht⟩ := zm_ial_inv hs
    subst hst
    subst ht
    exact same _ _ (zm_sw_co (tt _) (zm_sw_tl (zm_sw_tl hwst)))
  | baload =>
    obtain ⟨j, i, ty, n, r, hst, hk, hty, hin, ht⟩ := zm_bal_inv hs
    subst hst
    subst ht
    exact same _ _ (zm_sw_co (tt _) (zm_sw_tl (zm_sw_tl hwst)))
  | laload =>
    obtain ⟨j, i, n, r, hst, hk, hin, ht⟩ := zm_lal_inv hs
    subst hst
    subst ht
    exact same _ _ (zm_sw_co (tl _) (zm_sw_tl (zm_sw_tl hwst)))
  | aaload =>
    obtain ⟨j, i, n, r, hst, hk, hin, ht⟩ := zm_aal_inv hs
    subst hst
    subst ht
    exact same _ _ (zm_sw_co (zm_rv_wv hw _ _) (zm_sw_tl (zm_sw_tl hwst)))
  | iastore =>
    obtain ⟨y, j, i, n, r, hst, hk, hin, ht⟩ := zm_ias_inv hs
    subst hst
    subst ht
    exact sameI _ _ _ _ _ (zm_sw_tl (zm_sw_tl (zm_sw_tl hwst)))
  | bastore =>
    obtain ⟨y, j, i, ty, n, r, hst, hk, hty, hin, ht⟩ := zm_bas_inv hs
    subst hst
    subst ht
    exact sameI _ _ _ _ _ (zm_sw_tl (zm_sw_tl (zm_sw_tl hwst)))
  | lastore =>
    obtain ⟨y, j, i, n, r, hst, hk, hin, ht⟩ := zm_las_inv hs
    subst hst
    subst ht
    exact ⟨hw, hwl, zm_sw_tl (zm_sw_tl (zm_sw_tl hwst)), Nat.le_refl _, Nat.le_refl _⟩
  | aastore =>
    obtain ⟨y, j, i, n, nb, r, hst, hk, hky, hin, ht⟩ := zm_aas_inv hs
    subst hst
    subst ht
    exact ⟨zm_hw_sr hw _ _ _ (zm_sw_hd hwst), hwl, zm_sw_tl (zm_sw_tl (zm_sw_tl hwst)), Nat.le_refl _, Nat.le_refl _⟩
  | getfield i =>
    obtain ⟨y, r, hst, hk, ht⟩ := zm_gf_inv hs
    subst hst
    subst ht
    refine same _ _ (zm_sw_co ?_ (zm_sw_tl hwst))
    split
    · exact tt _
    · exact zm_rv_wv hw _ _
  | putfield i =>
    obtain ⟨y, r, hk, hc⟩ := zm_pf_inv hs
    rcases hc with ⟨u, hst, h0, ht⟩ | ⟨u, hst, h0, ht⟩
    · subst hst
      subst ht
      exact sameI _ _ _ _ _ (zm_sw_tl (zm_sw_tl hwst))
    · subst hst
      subst ht
      exact ⟨zm_hw_sr hw _ _ _ (zm_sw_hd hwst), hwl, zm_sw_tl (zm_sw_tl hwst), Nat.le_refl _, Nat.le_refl _⟩
  | getstatic i =>
    have hs : some (pc + 3, ls, Value.ref 1000000 :: st, h) = some t := hs
    cases hs
    exact same _ _ (zm_sw_co (show zm_wn _ _ from Or.inr (by omega)) hwst)
  | new i =>
    obtain ⟨hlt, ht⟩ := zm_new_inv hs
    subst ht
    refine ⟨zm_hw_nx hw hlt _ (fun t n z => by cases z), ?_, ?_, ?_, ?_⟩
    · dsimp only
      rw [zm_len_nx]
      exact zm_lw1_le (Nat.le_succ _) hwl
    · dsimp only
      rw [zm_len_nx]
      exact zm_sw_co (show zm_wn _ _ from Or.inl (by omega)) (zm_sw1_le (Nat.le_succ _) hwst)
    · dsimp only
      rw [zm_len_nx]
      omega
    · dsimp only
      rw [zm_sz_nx]
      omega
  | newarray aty =>
    have hs : (match zm_ta aty with | some ty => zm_nwa ty (pc + 2) ls st h | none => none) = some t := hs
    (cases hta : zm_ta aty with
    | none => rw [hta] at hs; cases hs
    | some ty =>
      rw [hta] at hs
      obtain ⟨n, r, hst, hlt, hn0, hn1, ht⟩ := zm_nwa_inv hs
      subst hst
      subst ht
      refine ⟨zm_hw_nx hw hlt _ (fun t n z => by cases z; exact Nat.lt_trans (zm_ta_ok hta).2.2.1 (by decide)), ?_, ?_, ?_, ?_⟩
      · dsimp only
        rw [zm_len_nx]
        exact zm_lw1_le (Nat.le_succ _) hwl
      · dsimp only
        rw [zm_len_nx]
        exact zm_sw_co (show zm_wn _ _ from Or.inl (by omega)) (zm_sw1_le (Nat.le_succ _) (zm_sw_tl hwst))
      · dsimp only
        rw [zm_len_nx]
        omega
      · dsimp only
        rw [zm_sz_nx]
        omega)
  | anewarray i =>
    obtain ⟨n, r, hst, hlt, hn0, hn1, ht⟩ := zm_nwa_inv (show zm_nwa 4 (pc + 3) ls st h = some t from hs)
    subst hst
    subst ht
    refine ⟨zm_hw_nx hw hlt _ (fun t n z => by cases z; decide), ?_, ?_, ?_, ?_⟩
    · dsimp only
      rw [zm_len_nx]
      exact zm_lw1_le (Nat.le_succ _) hwl
    · dsimp only
      rw [zm_len_nx]
      exact zm_sw_co (show zm_wn _ _ from Or.inl (by omega)) (zm_sw1_le (Nat.le_succ _) (zm_sw_tl hwst))
    · dsimp only
      rw [zm_len_nx]
      omega
    · dsimp only
      rw [zm_sz_nx]
      omega
  | tableswitch dflt lo hi offs =>
    (match st, hs with
    | .int y :: r, hs =>
      have hs : some (_, ls, r, h) = some t := hs
      cases hs
      exact same _ _ (zm_sw_tl hwst))
  | lookupswitch dflt ps =>
    (match st, hs with
    | .int y :: r, hs =>
      have hs : some (_, ls, r, h) = some t := hs
      cases hs
      exact same _ _ (zm_sw_tl hwst))
  | _ => exact absurd hs (by intro z; cases z)

theorem zm_ret_inv {mi : Nat} {q : Instr} {st : List Value} {h h' : zm_H} {v : Option Value} (hr : zm_ret mi q st h = some (some (v, h'))) : h' = h ∧ st = v.toList := by
  unfold zm_ret at hr
  split at hr
  · split at hr
    · split at hr
      · cases hr; exact ⟨rfl, rfl⟩
      · cases hr
    · cases hr
  · split at hr
    · split at hr
      · cases hr; exact ⟨rfl, rfl⟩
      · cases hr
    · cases hr
  · split at hr
    · split at hr
      · cases hr; exact ⟨rfl, rfl⟩
      · cases hr
    · cases hr
  · split at hr
    · split at hr
      · cases hr; exact ⟨rfl, rfl⟩
      · cases hr
    · cases hr
  · cases hr
/-- calls that are no rows of code: the heap's kinds stay, what comes is a number -/
theorem zm_xc_inv {k : Nat} {as : List Value} {h h1 : zm_H} {v : Option Value} (hx : zm_xc k as h = some (v, h1)) : h1.1 = h.1 ∧ h1.2.2.2 = h.2.2.2 ∧ h1.2.2.1 = h.2.2.1 ∧ (∀ w, v = some w → ∀ n, zm_wv n w) := by
  unfold zm_xc at hx
  have fin : ∀ {w : Option Value} {z : zm_H}, some (w, z) = some (v, h1) → z = h → (∀ u, w = some u → ∀ n, zm_wv n u) → h1.1 = h.1 ∧ h1.2.2.2 = h.2.2.2 ∧ h1.2.2.1 = h.2.2.1 ∧ (∀ w, v = some w → ∀ n, zm_wv n w) := by
    intro w z e1 e2 e3
    cases e1
    subst e2
    exact ⟨rfl, rfl, rfl, e3⟩
  split at hx
  · split at hx
    · exact fin hx rfl (fun u hu => by cases hu)
    · cases hx
  split at hx
  · split at hx
    · split at hx
      · split at hx
        · cases hx
          exact ⟨rfl, rfl, rfl, fun u hu => by cases hu⟩
        · cases hx
      · cases hx
    · cases hx
  split at hx
  · split at hx
    · split at hx
      · exact fin hx rfl (fun u hu n => by cases hu; exact trivial)
      · cases hx
    · cases hx
  split at hx
  · split at hx
    · split at hx
      · exact fin hx rfl (fun u hu n => by cases hu; exact trivial)
      · cases hx
    · cases hx
  split at hx
  · split at hx
    · split at hx
      · exact fin hx rfl (fun u hu n => by cases hu; exact trivial)
      · cases hx
    · cases hx
  split at hx
  · split at hx
    · exact fin hx rfl (fun u hu n => by cases hu; exact trivial)
    · cases hx
  split at hx
  · split at hx
    · exact fin hx rfl (fun u hu n => by cases hu; exact trivial)
    · cases hx
  split at hx
  · split at hx
    · exact fin hx rfl (fun u hu n => by cases hu; exact trivial)
    · cases hx
  split at hx
  · split at hx
    · exact fin hx rfl (fun u hu n => by cases hu; exact trivial)
    · cases hx
  split at hx
  · split at hx
    · exact fin hx rfl (fun u hu n => by cases hu; exact trivial)
    · cases hx
  · cases hx
theorem zm_el_wf {n : Nat} : ∀ {as : List Value}, zm_sw1 n as → zm_lw1 n (zm_el as)
  | [], _ => fun i v hv => by simp [zm_el] at hv
  | .long u :: r, hs => by
    intro i v hv
    simp only [zm_el] at hv
    match i with
    | 0 => simp at hv; rw [← hv]; exact trivial
    | 1 => simp at hv
    | i + 2 => simp at hv; exact zm_el_wf (zm_sw_tl hs) i v hv
  | .int u :: r, hs => by
    intro i v hv
    simp only [zm_el] at hv
    match i with
    | 0 => simp at hv; rw [← hv]; exact trivial
    | i + 1 => simp at hv; exact zm_el_wf (zm_sw_tl hs) i v hv
  | .ref u :: r, hs => by
    intro i v hv
    simp only [zm_el] at hv
    match i with
    | 0 => simp at hv; rw [← hv]; exact zm_sw_hd hs
    | i + 1 => simp at hv; exact zm_el_wf (zm_sw_tl hs) i v hv
  | .null :: r, hs => by
    intro i v hv
    simp only [zm_el] at hv
    match i with
    | 0 => simp at hv; rw [← hv]; exact trivial
    | i + 1 => simp at hv; exact zm_el_wf (zm_sw_tl hs) i v hv
  | .float u :: r, hs => by
    intro i v hv
    simp only [zm_el] at hv
    match i with
    | 0 => simp at hv; rw [← hv]; exact trivial
    | i + 1 => simp at hv; exact zm_el_wf (zm_sw_tl hs) i v hv
  | .double u :: r, hs => by
    intro i v hv
    simp only [zm_el] at hv
    match i with
    | 0 => simp at hv; rw [← hv]; exact zm_sw_hd hs
    | i + 1 => simp at hv; exact zm_el_wf (zm_sw_tl hs) i v hv
  | .retAddr u :: r, hs => by
    intro i v hv
    simp only [zm_el] at hv
    match i with
    | 0 => simp at hv; rw [← hv]; exact trivial
    | i + 1 => simp at hv; exact zm_el_wf (zm_sw_tl hs) i v hv
theorem zm_en_wf {n m : Nat} {as : List Value} (h : zm_sw1 n as) : zm_lw1 n (zm_en m as) := by
  intro i v hv
  unfold zm_en at hv
  by_cases hi : i < (zm_el as).length
  · rw [List.getElem?_append_left hi] at hv
    exact zm_el_wf h i v hv
  · rw [List.getElem?_append_right (by omega)] at hv
    have := List.mem_of_getElem? hv
    rw [List.mem_replicate] at this
    cases this.2
theorem zm_sw_args {n k : Nat} {st : List Value} (h : zm_sw1 n st) : zm_sw1 n (st.take k).reverse := fun v hv => h v (List.mem_of_mem_take (List.mem_reverse.mp hv))
theorem zm_sw_rest {n k : Nat} {st : List Value} {v : Option Value} (h : zm_sw1 n st) (hv : ∀ w, v = some w → zm_wv n w) : zm_sw1 n (v.toList ++ st.drop k) := fun u hu => (List.mem_append.mp hu).elim (fun z => hv u (by cases v with | none => simp at z | some w => simp at z; rw [z])) (fun z => h u (List.mem_of_mem_drop z))
def zm_Kr (h h1 : zm_H) (v : Option Value) : Prop := zm_hw h1 ∧ (∀ w, v = some w → zm_wv h1.1.length w) ∧ h.1.length ≤ h1.1.length ∧ zm_sz h ≤ zm_sz h1
set_option maxHeartbeats 1000000 in
theorem zm_R_wf {x : zm_X} : ∀ (n d m pc : Nat) (ls : zm_L) (st : List Value) (h : zm_H) (v : Option Value) (h1 : zm_H), zm_run x n d m pc ls st h = some (v, h1) → zm_hw h → zm_lw1 h.1.length ls → zm_sw1 h.1.length st → zm_Kr h h1 v := by
  intro n
  induction n with
  | zero => intro d m pc ls st h v h1 hr; cases hr
  | succ n ih =>
    intro d m pc ls st h v h1 hr hw hwl hws
    rw [zm_run] at hr
    split at hr
    · cases hr
    · next q hq =>
      split at hr
      · next r hret =>
        subst hr
        obtain ⟨e1, e2⟩ := zm_ret_inv hret
        subst e1
        exact ⟨hw, fun w hv => hws w (by rw [e2, hv]; exact List.mem_cons_self), Nat.le_refl _, Nat.le_refl _⟩
      · split at hr
        · split at hr
          · split at hr
            · cases hr
            · split at hr
              · split at hr
                · next v2 h2 hx =>
                  obtain ⟨e1, e2, e3, e4⟩ := zm_xc_inv hx
                  have hw2 : zm_hw h2 := ⟨fun i k j hj => by rw [e2] at hj; rw [e1]; exact hw.1 i k j hj, by rw [e1]; exact hw.2.1, fun i t n hi => by rw [e1] at hi; exact hw.2.2 i t n hi⟩
                  have hz : zm_sz h2 = zm_sz h := by simp [zm_sz, e1]
                  have k9 := ih _ _ _ _ _ _ _ _ hr hw2 (by rw [e1]; exact hwl) (by rw [e1]; exact zm_sw_rest hws (fun w hv => e4 w hv _))
                  exact ⟨k9.1, k9.2.1, by rw [← e1]; exact k9.2.2.1, by rw [← hz]; exact k9.2.2.2⟩
                · cases hr
              · split at hr
                · split at hr
                  · next v2 h2 hx =>
                    obtain ⟨g1, g2, g3, g4⟩ := ih _ _ _ _ _ _ _ _ hx hw (zm_en_wf (zm_sw_args hws)) (fun _ z => by cases z)
                    have k9 := ih _ _ _ _ _ _ _ _ hr g1 (zm_lw1_le g3 hwl) (zm_sw_rest (zm_sw1_le g3 hws) g2)
                    exact ⟨k9.1, k9.2.1, Nat.le_trans g3 k9.2.2.1, Nat.le_trans g4 k9.2.2.2⟩
                  · cases hr
                · cases hr
          · cases hr
        · split at hr
          · next t ht =>
            obtain ⟨g1, g2, g3, g4, g5⟩ := zm_S_wf ht hw hwl hws
            have k9 := ih _ _ _ _ _ _ _ _ hr g1 g2 g3
            exact ⟨k9.1, k9.2.1, Nat.le_trans g4 k9.2.2.1, Nat.le_trans g5 k9.2.2.2⟩
          · cases hr
