/-! ===== the law's loop, and the goal ===== -/
def zcs_h : List (Nat × zm_I) := [(18, 1, .iload_n 3, 0, 0, 0), (19, 1, .aload_n 0, 0, 0, 0), (20, 1, .arraylength, 0, 0, 0), (21, 2, .bipush 6, 0, 0, 6), (23, 1, .isub, 0, 0, 0), (24, 3, .if_icmp .gt 1424, 1448, 0, 0), (27, 1, .aload_n 0, 0, 0, 0), (28, 1, .iload_n 3, 0, 0, 0), (29, 1, .iaload, 0, 0, 0), (30, 2, .bipush 63, 0, 0, 63), (32, 1, .iand, 0, 0, 0), (33, 159, .tableswitch 1409 0 35 #[159, 192, 235, 278, 341, 364, 377, 390, 423, 456, 489, 532, 575, 598, 621, 644, 677, 710, 753, 786, 819, 888, 921, 964, 1027, 1060, 1093, 1106, 1149, 1182, 1205, 1218, 1281, 1314, 1373, 1386], 0, 0, 0)]
set_option maxRecDepth 100000 in
theorem zcs_h_ok : ∀ e ∈ zcs_h, zc_268.lookup e.1 = some e.2 := by decide +kernel
def zcs_t : List (Nat × zm_I) := [(1442, 3, .iinc 3 6, 0, 0, 6), (1445, 3, .goto (-1427), 18, 0, 0), (1448, 1, .iconst 1, 0, 0, 1), (1449, 1, .ireturn, 0, 0, 0)]
set_option maxRecDepth 100000 in
theorem zcs_t_ok : ∀ e ∈ zcs_t, zc_268.lookup e.1 = some e.2 := by decide +kernel
theorem lw_sw {y : Int32} (h : ∀ v : Int, 0 ≤ v → v ≤ 35 → ¬ y = Int32.ofInt v) : y.toInt < 0 ∨ 35 < y.toInt := zsw_out (lo := 0) (hi := 35) (by decide) (by decide) h
set_option maxRecDepth 100000 in
set_option maxHeartbeats 4000000 in
theorem lw_loop {x : zm_X} (hx : x.1 ≤ 3072) {Q : Option Value → zm_H → Prop} (hQ : ∀ h, Inv h → Q (some (.int 1)) h) : ∀ n i h, x.1 + 1 ≤ i + n → i ≤ x.1 → zSh zT0 h → Inv h → zg x 300 268 18 (lwL i) [] h Q := by
  have q : ∀ pc q, zcs_h.lookup pc = some q → zc_268.lookup pc = some q := fun pc q h => zcs_h_ok _ (zm_lk_mem _ _ _ h)
  have qt : ∀ pc q, zcs_t.lookup pc = some q → zc_268.lookup pc = some q := fun pc q h => zcs_t_ok _ (zm_lk_mem _ _ _ h)
  intro n
  induction n with
  | zero => intro i h h1 h2; omega
  | succ n ih =>
    intro i h h1 h2 hs I
    refine lw_st (t := (19, lwL i, [.int (nI i)], h)) (q _ _ rfl) (fun _ => rfl) rfl rfl ?_
    refine lw_al (pc := 19) (r := 1000001) (q _ _ rfl) rfl ?_
    refine lw_sln (pc := 20) hs (q _ _ rfl) ?_
    refine lw_st (t := (23, lwL i, [.int 6, .int (nI x.1), .int (nI i)], h)) (q _ _ rfl) (fun _ => rfl) rfl rfl ?_
    refine lw_st (t := (24, lwL i, [.int (nI x.1 - 6), .int (nI i)], h)) (q _ _ rfl) (fun _ => rfl) rfl rfl ?_
    have e6 : (nI x.1 - 6).toInt = (x.1 : Int) - 6 := by
      have l6 : (6 : Int32).toInt = 6 := rfl
      rw [i_sub (by rw [i_nI (by omega), l6]; omega) (by rw [i_nI (by omega), l6]; omega), i_nI (by omega), l6]
    refine zg_i_gt zd_268 (q _ _ rfl) (fun c => ?_) (fun c => ?_)
    · refine lw_st (t := (1449, lwL i, [.int 1], h)) (qt _ _ rfl) (fun _ => rfl) rfl rfl ?_
      exact zg_ret zd_268 (qt _ _ rfl) rfl (hQ h I)
    · have hi : i + 6 ≤ x.1 := by
        rw [i_lt, e6, i_nI (by omega)] at c
        omega
      have kk : ∀ h', zSh zT0 h' → Inv h' → zg x 300 268 1442 (lwL i) [] h' Q := by
        intro h' hs' I'
        refine lw_st (t := (1445, [some (.ref 1000001), some (.ref 0), some (.ref 92), some (.int (nI i + 6))], [], h')) (qt _ _ rfl) (fun _ => rfl) rfl rfl ?_
        refine lw_st (t := (18, [some (.ref 1000001), some (.ref 0), some (.ref 92), some (.int (nI i + 6))], [], h')) (qt _ _ rfl) (fun _ => rfl) rfl rfl ?_
        have e : nI i + 6 = nI (i + 6) := by rw [show (6 : Int32) = nI 6 from rfl, nI_add]
        show zg x 300 268 18 [some (.ref 1000001), some (.ref 0), some (.ref 92), some (.int (nI i + 6))] [] h' Q
        rw [e]
        exact ih (i + 6) h' (by omega) hi hs' I'
      refine lw_al (pc := 27) (r := 1000001) (q _ _ rfl) rfl ?_
      refine lw_st (t := (29, lwL i, [.int (nI i), .ref 1000001], h)) (q _ _ rfl) (fun _ => rfl) rfl rfl ?_
      refine lw_sld (pc := 29) hs (show i < x.1 by omega) hx (q _ _ rfl) ?_
      refine lw_st (t := (32, lwL i, [.int 63, .int (x.2 i)], h)) (q _ _ rfl) (fun _ => rfl) rfl rfl ?_
      refine lw_st (t := (33, lwL i, [.int (x.2 i &&& 63)], h)) (q _ _ rfl) (fun _ => rfl) rfl rfl ?_
      show zg x 300 268 33 (lwL i) [.int (x.2 i &&& 63)] h Q
      generalize x.2 i &&& 63 = y
      by_cases c0 : y = 0
      · exact zg_tsw zd_268 (q _ _ rfl) (tg := 192) (by rw [c0]; rfl) (lw_c0 hs I hi hx kk)
      by_cases c1 : y = 1
      · exact zg_tsw zd_268 (q _ _ rfl) (tg := 225) (by rw [c1]; rfl) (lw_c1 hs I hi hx kk)
      by_cases c2 : y = 2
      · exact zg_tsw zd_268 (q _ _ rfl) (tg := 268) (by rw [c2]; rfl) (lw_c2 hs I hi hx kk)
      by_cases c3 : y = 3
      · exact zg_tsw zd_268 (q _ _ rfl) (tg := 311) (by rw [c3]; rfl) (lw_c3 hs I hi hx kk)
      by_cases c4 : y = 4
      · exact zg_tsw zd_268 (q _ _ rfl) (tg := 374) (by rw [c4]; rfl) (lw_c4 hs I hi hx kk)
      by_cases c5 : y = 5
      · exact zg_tsw zd_268 (q _ _ rfl) (tg := 397) (by rw [c5]; rfl) (lw_c5 hs I hi hx kk)
      by_cases c6 : y = 6
      · exact zg_tsw zd_268 (q _ _ rfl) (tg := 410) (by rw [c6]; rfl) (lw_c6 hs I hi hx kk)
      by_cases c7 : y = 7
      · exact zg_tsw zd_268 (q _ _ rfl) (tg := 423) (by rw [c7]; rfl) (lw_c7 hs I hi hx kk)
      by_cases c8 : y = 8
      · exact zg_tsw zd_268 (q _ _ rfl) (tg := 456) (by rw [c8]; rfl) (lw_c8 hs I hi hx kk)
      by_cases c9 : y = 9
      · exact zg_tsw zd_268 (q _ _ rfl) (tg := 489) (by rw [c9]; rfl) (lw_c9 hs I hi hx kk)
      by_cases c10 : y = 10
      · exact zg_tsw zd_268 (q _ _ rfl) (tg := 522) (by rw [c10]; rfl) (lw_c10 hs I hi hx kk)
      by_cases c11 : y = 11
      · exact zg_tsw zd_268 (q _ _ rfl) (tg := 565) (by rw [c11]; rfl) (lw_c11 hs I hi hx kk)
      by_cases c12 : y = 12
      · exact zg_tsw zd_268 (q _ _ rfl) (tg := 608) (by rw [c12]; rfl) (lw_c12 hs I hi hx kk)
      by_cases c13 : y = 13
      · exact zg_tsw zd_268 (q _ _ rfl) (tg := 631) (by rw [c13]; rfl) (lw_c13 hs I hi hx kk)
      by_cases c14 : y = 14
      · exact zg_tsw zd_268 (q _ _ rfl) (tg := 654) (by rw [c14]; rfl) (lw_c14 hs I hi hx kk)
      by_cases c15 : y = 15
      · exact zg_tsw zd_268 (q _ _ rfl) (tg := 677) (by rw [c15]; rfl) (lw_c15 hs I hi hx kk)
      by_cases c16 : y = 16
      · exact zg_tsw zd_268 (q _ _ rfl) (tg := 710) (by rw [c16]; rfl) (lw_c16 hs I hi hx kk)
      by_cases c17 : y = 17
      · exact zg_tsw zd_268 (q _ _ rfl) (tg := 743) (by rw [c17]; rfl) (lw_c17 hs I hi hx kk)
      by_cases c18 : y = 18
      · exact zg_tsw zd_268 (q _ _ rfl) (tg := 786) (by rw [c18]; rfl) (lw_c18 hs I hi hx kk)
      by_cases c19 : y = 19
      · exact zg_tsw zd_268 (q _ _ rfl) (tg := 819) (by rw [c19]; rfl) (lw_c19 hs I hi hx kk)
      by_cases c20 : y = 20
      · exact zg_tsw zd_268 (q _ _ rfl) (tg := 852) (by rw [c20]; rfl) (lw_c20 hs I hi hx kk)
      by_cases c21 : y = 21
      · exact zg_tsw zd_268 (q _ _ rfl) (tg := 921) (by rw [c21]; rfl) (lw_c21 hs I hi hx kk)
      by_cases c22 : y = 22
      · exact zg_tsw zd_268 (q _ _ rfl) (tg := 954) (by rw [c22]; rfl) (lw_c22 hs I hi hx kk)
      by_cases c23 : y = 23
      · exact zg_tsw zd_268 (q _ _ rfl) (tg := 997) (by rw [c23]; rfl) (lw_c23 hs I hi hx kk)
      by_cases c24 : y = 24
      · exact zg_tsw zd_268 (q _ _ rfl) (tg := 1060) (by rw [c24]; rfl) (lw_c24 hs I hi hx kk)
      by_cases c25 : y = 25
      · exact zg_tsw zd_268 (q _ _ rfl) (tg := 1093) (by rw [c25]; rfl) (lw_c25 hs I hi hx kk)
      by_cases c26 : y = 26
      · exact zg_tsw zd_268 (q _ _ rfl) (tg := 1126) (by rw [c26]; rfl) (lw_c26 hs I hi hx kk)
      by_cases c27 : y = 27
      · exact zg_tsw zd_268 (q _ _ rfl) (tg := 1139) (by rw [c27]; rfl) (lw_c27 hs I hi hx kk)
      by_cases c28 : y = 28
      · exact zg_tsw zd_268 (q _ _ rfl) (tg := 1182) (by rw [c28]; rfl) (lw_c28 hs I hi hx kk)
      by_cases c29 : y = 29
      · exact zg_tsw zd_268 (q _ _ rfl) (tg := 1215) (by rw [c29]; rfl) (lw_c29 hs I hi hx kk)
      by_cases c30 : y = 30
      · exact zg_tsw zd_268 (q _ _ rfl) (tg := 1238) (by rw [c30]; rfl) (lw_c30 hs I hi hx kk)
      by_cases c31 : y = 31
      · exact zg_tsw zd_268 (q _ _ rfl) (tg := 1251) (by rw [c31]; rfl) (lw_c31 hs I hi hx kk)
      by_cases c32 : y = 32
      · exact zg_tsw zd_268 (q _ _ rfl) (tg := 1314) (by rw [c32]; rfl) (lw_c32 hs I hi hx kk)
      by_cases c33 : y = 33
      · exact zg_tsw zd_268 (q _ _ rfl) (tg := 1347) (by rw [c33]; rfl) (lw_c33 hs I hi hx kk)
      by_cases c34 : y = 34
      · exact zg_tsw zd_268 (q _ _ rfl) (tg := 1406) (by rw [c34]; rfl) (lw_c34 hs I hi hx kk)
      by_cases c35 : y = 35
      · exact zg_tsw zd_268 (q _ _ rfl) (tg := 1419) (by rw [c35]; rfl) (lw_c35 hs I hi hx kk)
      refine zg_tsw zd_268 (q _ _ rfl) (tg := 1442) (if_pos (lw_sw (fun v h1 h2 => ?_))) (kk h hs I)
      rcases (show v = 0 ∨ v = 1 ∨ v = 2 ∨ v = 3 ∨ v = 4 ∨ v = 5 ∨ v = 6 ∨ v = 7 ∨ v = 8 ∨ v = 9 ∨ v = 10 ∨ v = 11 ∨ v = 12 ∨ v = 13 ∨ v = 14 ∨ v = 15 ∨ v = 16 ∨ v = 17 ∨ v = 18 ∨ v = 19 ∨ v = 20 ∨ v = 21 ∨ v = 22 ∨ v = 23 ∨ v = 24 ∨ v = 25 ∨ v = 26 ∨ v = 27 ∨ v = 28 ∨ v = 29 ∨ v = 30 ∨ v = 31 ∨ v = 32 ∨ v = 33 ∨ v = 34 ∨ v = 35 by omega) with e | e | e | e | e | e | e | e | e | e | e | e | e | e | e | e | e | e | e | e | e | e | e | e | e | e | e | e | e | e | e | e | e | e | e | e <;> subst e
      · exact c0
      · exact c1
      · exact c2
      · exact c3
      · exact c4
      · exact c5
      · exact c6
      · exact c7
      · exact c8
      · exact c9
      · exact c10
      · exact c11
      · exact c12
      · exact c13
      · exact c14
      · exact c15
      · exact c16
      · exact c17
      · exact c18
      · exact c19
      · exact c20
      · exact c21
      · exact c22
      · exact c23
      · exact c24
      · exact c25
      · exact c26
      · exact c27
      · exact c28
      · exact c29
      · exact c30
      · exact c31
      · exact c32
      · exact c33
      · exact c34
      · exact c35
/-! how much room a run takes -/
def zB (h : zm_H) : Prop := ∀ z ∈ h.1, zm_zs z ≤ 10000
theorem zB_nf (c : Nat) : zm_nf c ≤ 10000 := by
  unfold zm_nf
  match c with
  | 0 => decide
  | 1 => decide
  | 2 => decide
  | 3 => decide
  | 4 => decide
  | 5 => decide
  | 6 => decide
  | 7 => decide
  | 8 => decide
  | 9 => decide
  | 10 => decide
  | 11 => decide
  | n + 12 => exact Nat.zero_le _

theorem zB_nx {h : zm_H} (hB : zB h) {q : zm_K} (hz : zm_zs q ≤ 10000) : zB (zm_nx h q) := by
  intro z hz'
  rcases List.mem_append.mp (show z ∈ h.1 ++ [q] from hz') with y | y
  · exact hB z y
  · rw [List.mem_singleton.mp y]; exact hz
theorem zB_nwa {t pc : Nat} {ls : zm_L} {st : List Value} {h : zm_H} {r : zm_T} (hs : zm_nwa t pc ls st h = some r) (hB : zB h) : zB r.2.2.2 := by
  unfold zm_nwa at hs
  split at hs
  · next n r' =>
    obtain ⟨hc, h2⟩ := zm_ifs hs
    cases h2
    refine zB_nx hB ?_
    show n.toNatClampNeg ≤ 10000
    have h1 := i_le.mp hc.2.2
    have h0 := i_le.mp hc.2.1
    have l : (10000 : Int32).toInt = 10000 := rfl
    have l0 : (0 : Int32).toInt = 0 := rfl
    have := i_cl (a := n) (by omega)
    omega
  · cases hs
set_option maxHeartbeats 1000000 in
theorem zB_S {x : zm_X} {q : zm_I} {pc : Nat} {ls : zm_L} {st : List Value} {h : zm_H} {t : zm_T} (hs : zm_S x q pc ls st h = some t) (hB : zB h) : zB t.2.2.2 := by
  by_cases hp : zm_ps q.2.1 = true
  · rw [(zS_keep hp hs).1]; exact hB
  · obtain ⟨len, ins, a, b, v⟩ := q
    cases ins with
    | ifCond c o =>
      have hs : zm_if1 c a pc ls st h = some t := hs
      unfold zm_if1 at hs
      (repeat' split at hs) <;> first | (cases hs; exact hB) | cases hs
    | if_icmp c o =>
      have hs : zm_if2 c a pc ls st h = some t := hs
      unfold zm_if2 at hs
      (repeat' split at hs) <;> first | (cases hs; exact hB) | cases hs
    | ifnonnull o =>
      unfold zm_S at hs
      dsimp only at hs
      (repeat' split at hs) <;> first | (cases hs; exact hB) | cases hs
    | arraylength =>
      unfold zm_S at hs
      dsimp only at hs
      (repeat' split at hs) <;> first | (cases hs; exact hB) | cases hs
    | iaload =>
      have hs : zm_ial x pc ls st h = some t := hs
      unfold zm_ial at hs
      (repeat' split at hs) <;> first | (cases hs; exact hB) | cases hs
    | baload =>
      have hs : zm_bal pc ls st h = some t := hs
      unfold zm_bal at hs
      (repeat' split at hs) <;> first | (cases hs; exact hB) | cases hs
    | laload =>
      have hs : zm_lal pc ls st h = some t := hs
      unfold zm_lal at hs
      (repeat' split at hs) <;> first | (cases hs; exact hB) | cases hs
    | aaload =>
      have hs : zm_aal pc ls st h = some t := hs
      unfold zm_aal at hs
      (repeat' split at hs) <;> first | (cases hs; exact hB) | cases hs
    | iastore =>
      have hs : zm_ias pc ls st h = some t := hs
      unfold zm_ias at hs
      (repeat' split at hs) <;> first | (cases hs; exact hB) | cases hs
    | bastore =>
      have hs : zm_bas pc ls st h = some t := hs
      unfold zm_bas at hs
      (repeat' split at hs) <;> first | (cases hs; exact hB) | cases hs
    | lastore =>
      have hs : zm_las pc ls st h = some t := hs
      unfold zm_las at hs
      (repeat' split at hs) <;> first | (cases hs; exact hB) | cases hs
    | aastore =>
      have hs : zm_aas pc ls st h = some t := hs
      unfold zm_aas at hs
      (repeat' split at hs) <;> first | (cases hs; exact hB) | cases hs
    | getfield o =>
      have hs : zm_gf a b pc ls st h = some t := hs
      unfold zm_gf at hs
      (repeat' split at hs) <;> first | (cases hs; exact hB) | cases hs
    | putfield o =>
      have hs : zm_pf a b pc ls st h = some t := hs
      unfold zm_pf at hs
      (repeat' split at hs) <;> first | (cases hs; exact hB) | cases hs
    | new o =>
      have hs : zm_new a pc ls st h = some t := hs
      unfold zm_new at hs
      obtain ⟨-, h2⟩ := zm_ifs hs
      cases h2
      exact zB_nx hB (zB_nf a)
    | newarray ty =>
      have hs : (match zm_ta ty with | some k => zm_nwa k (pc + 2) ls st h | none => none) = some t := hs
      split at hs
      · exact zB_nwa hs hB
      · cases hs
    | anewarray o =>
      have hs : zm_nwa 4 (pc + 3) ls st h = some t := hs
      exact zB_nwa hs hB
    | tableswitch o1 o2 o3 o4 =>
      have hs : zm_tsw o1 o2 o3 o4 pc ls st h = some t := hs
      unfold zm_tsw at hs
      (repeat' split at hs) <;> first | (cases hs; exact hB) | cases hs
    | lookupswitch o1 o2 =>
      have hs : zm_lsw o1 o2 pc ls st h = some t := hs
      unfold zm_lsw at hs
      (repeat' split at hs) <;> first | (cases hs; exact hB) | cases hs
    | _ => first | exact absurd rfl hp | cases hs
theorem zB_run {x : zm_X} : ∀ (n d m pc : Nat) (ls : zm_L) (st : List Value) (h : zm_H) (v : Option Value) (h1 : zm_H), zm_run x n d m pc ls st h = some (v, h1) → zB h → zB h1 := by
  intro n
  induction n with
  | zero => intro d m pc ls st h v h1 hr; cases hr
  | succ n ih =>
    intro d m pc ls st h v h1 hr hB
    rw [zm_run] at hr
    split at hr
    · cases hr
    · next q hq =>
      split at hr
      · next r hret =>
        subst hr
        rw [zk_ret hret]
        exact hB
      · split at hr
        · split at hr
          · split at hr
            · cases hr
            · split at hr
              · split at hr
                · next v2 h2 hx =>
                  obtain ⟨e1, -⟩ := zm_xc_inv hx
                  exact ih _ _ _ _ _ _ _ _ hr (by unfold zB; rw [e1]; exact hB)
                · cases hr
              · split at hr
                · split at hr
                  · next v2 h2 hx => exact ih _ _ _ _ _ _ _ _ hr (ih _ _ _ _ _ _ _ _ hx hB)
                  · cases hr
                · cases hr
          · cases hr
        · split at hr
          · next t ht => exact ih _ _ _ _ _ _ _ _ hr (zB_S ht hB)
          · cases hr
theorem zB_sum : ∀ l : List zm_K, (∀ z ∈ l, zm_zs z ≤ 10000) → (l.map zm_zs).sum ≤ 10000 * l.length := by
  intro l
  induction l with
  | nil => intro _; exact Nat.le_refl _
  | cons a r ih =>
    intro h
    have h1 := h a List.mem_cons_self
    have h2 := ih (fun z hz => h z (List.mem_cons_of_mem _ hz))
    rw [List.map_cons, List.sum_cons, List.length_cons]
    omega
theorem zp_goal : zp_Goal := by
  intro L xs hL
  have main : zg (L, xs) 300 268 0 (zm_en 268 [.ref 1000001]) [] zm_h0 (fun v h => ∃ v' h', v = v'.map rnV ∧ h = rnH h' ∧ v' = some (.int 1) ∧ Inv h') :=
    zk_first (fun h hs I => lw_loop (x := (L, xs)) hL (fun h I => ⟨rfl, I⟩) (L + 1) 0 h (by show L + 1 ≤ 0 + (L + 1); omega) (Nat.zero_le _) hs I)
  obtain ⟨n, v, h', hr, v', h2, rfl, e2, rfl, I⟩ := main
  have hl : h'.1.length ≤ 175 := by
    rw [e2, rn_ln]
    obtain ⟨w, n, e, nx, ns, nf, nr, nl, np, J, L, V, g, I⟩ := I
    obtain ⟨i1, i2, i3, i4, i5, i6, i7⟩ := I
    have := i5.1.1.1
    have := i6.2
    omega
  have hB : zB h' := zB_run _ _ _ _ _ _ _ _ _ hr (fun z hz => by cases hz)
  have hz := zB_sum h'.1 hB
  refine ⟨n, h', hr, by omega, ?_⟩
  show (h'.1.map zm_zs).sum ≤ 7302250
  omega
