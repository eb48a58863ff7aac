/-! ===== the law's own rows ===== -/
theorem zd_268 : zm_cd 268 = zc_268 := by rfl
abbrev lwL (i : Nat) : zm_L := [some (.ref 1000001), some (.ref 0), some (.ref 92), some (.int (nI i))]
section LAWS
variable {x : zm_X} {d pc : Nat} {st : List Value} {h : zm_H} {Q : Option Value → zm_H → Prop} {i : Nat}
theorem lw_st {q : zm_I} {t : zm_T} {ls : zm_L} (hq : zc_268.lookup pc = some q) (hr : ∀ m, zm_ret m q.2.1 st h = none) (hrd : zm_rd q.2.1 = false) (hs : zm_S x q pc ls st h = some t) (hg : zg x d 268 t.1 t.2.1 t.2.2.1 t.2.2.2 Q) : zg x d 268 pc ls st h Q := zg_step1 (by unfold zm_lk; rw [zd_268]; exact hq) hr hrd hs hg
theorem lw_al {k : Fin 4} {r : Nat} (hq : zc_268.lookup pc = some (1, .aload_n k, 0, 0, 0)) (hk : zm_ld (lwL i) k = some (.ref r)) (hg : zg x d 268 (pc + 1) (lwL i) (.ref r :: st) h Q) : zg x d 268 pc (lwL i) st h Q :=
  lw_st (t := (pc + 1, lwL i, .ref r :: st, h)) hq (fun _ => rfl) rfl (by show zm_lda (lwL i) k 1 pc st h = _; unfold zm_lda; rw [hk]) hg
theorem lw_ro (hs : zSh zT0 h) : h.1[1000001]? = none ∧ zm_ro x 1000001 = some x := by
  refine ⟨List.getElem?_eq_none_iff.mpr (Nat.le_trans hs.2.2 (by omega)), ?_⟩
  unfold zm_ro
  rw [if_neg (by decide), if_pos rfl]
theorem lw_sld (hs : zSh zT0 h) {j : Nat} (hj : j < x.1) (hx : x.1 ≤ 3072) {ls : zm_L} (hq : zc_268.lookup pc = some (1, .iaload, 0, 0, 0)) (hg : zg x d 268 (pc + 1) ls (.int (x.2 j) :: st) h Q) : zg x d 268 pc ls (.int (nI j) :: .ref 1000001 :: st) h Q := by
  refine lw_st (t := (pc + 1, ls, .int (x.2 j) :: st, h)) hq (fun _ => rfl) rfl ?_ hg
  obtain ⟨hn, e⟩ := lw_ro (x := x) hs
  show zm_ial x pc ls (.int (nI j) :: .ref 1000001 :: st) h = _
  simp only [zm_ial, zm_ia, hn, e]
  rw [if_neg (vp_in_nI hj (by omega)), nI_c (by omega)]
theorem lw_sln (hs : zSh zT0 h) {ls : zm_L} (hq : zc_268.lookup pc = some (1, .arraylength, 0, 0, 0)) (hg : zg x d 268 (pc + 1) ls (.int (nI x.1) :: st) h Q) : zg x d 268 pc ls (.ref 1000001 :: st) h Q := by
  refine lw_st (t := (pc + 1, ls, .int (nI x.1) :: st, h)) hq (fun _ => rfl) rfl ?_ hg
  obtain ⟨hn, e⟩ := lw_ro (x := x) hs
  simp [zm_S, zm_al, hn, e, nI]
theorem lw_ar {k : Nat} (hs : zSh zT0 h) (hi : i + k < x.1) (hx : x.1 ≤ 3072) {v : Int32} (hv : v = nI k) {kk : Int} (q1 : zc_268.lookup pc = some (1, .aload_n 0, 0, 0, 0)) (q2 : zc_268.lookup (pc + 1) = some (1, .iload_n 3, 0, 0, 0)) (q3 : zc_268.lookup (pc + 2) = some (1, .iconst kk, 0, 0, v)) (q4 : zc_268.lookup (pc + 3) = some (1, .iadd, 0, 0, 0)) (q5 : zc_268.lookup (pc + 4) = some (1, .iaload, 0, 0, 0)) (hg : zg x d 268 (pc + 5) (lwL i) (.int (x.2 (i + k)) :: st) h Q) : zg x d 268 pc (lwL i) st h Q := by
  refine lw_al (r := 1000001) q1 rfl ?_
  refine lw_st (t := (pc + 2, lwL i, .int (nI i) :: .ref 1000001 :: st, h)) q2 (fun _ => rfl) rfl rfl ?_
  refine lw_st (t := (pc + 3, lwL i, .int v :: .int (nI i) :: .ref 1000001 :: st, h)) q3 (fun _ => rfl) rfl rfl ?_
  refine lw_st (t := (pc + 4, lwL i, .int (nI i + v) :: .ref 1000001 :: st, h)) q4 (fun _ => rfl) rfl rfl ?_
  subst hv
  show zg x d 268 (pc + 4) (lwL i) (.int (nI i + nI k) :: .ref 1000001 :: st) h Q
  rw [nI_add]
  exact lw_sld hs hi hx q5 hg
theorem lw_bo {v : Int32} {o1 o2 : Int} (q1 : zc_268.lookup pc = some (3, .ifCond .eq o1, pc + 7, 0, 0)) (q2 : zc_268.lookup (pc + 3) = some (1, .iconst 1, 0, 0, 1)) (q3 : zc_268.lookup (pc + 4) = some (3, .goto o2, pc + 8, 0, 0)) (q4 : zc_268.lookup (pc + 7) = some (1, .iconst 0, 0, 0, 0)) (hg : zg x d 268 (pc + 8) (lwL i) (.int (if v = 0 then 0 else 1) :: st) h Q) : zg x d 268 pc (lwL i) (.int v :: st) h Q := by
  refine zg_f_eq zd_268 q1 (fun c => ?_) (fun c => ?_)
  · rw [if_pos c] at hg
    exact lw_st (t := (pc + 8, lwL i, .int 0 :: st, h)) q4 (fun _ => rfl) rfl rfl hg
  · rw [if_neg c] at hg
    refine lw_st (t := (pc + 4, lwL i, .int 1 :: st, h)) q2 (fun _ => rfl) rfl rfl ?_
    exact lw_st (t := (pc + 8, lwL i, .int 1 :: st, h)) q3 (fun _ => rfl) rfl rfl hg
end LAWS
def zcs_0 : List (Nat × zm_I) := [(192, 1, .aload_n 1, 0, 0, 0), (193, 1, .aload_n 0, 0, 0, 0), (194, 1, .iload_n 3, 0, 0, 0), (195, 1, .iconst 1, 0, 0, 1), (196, 1, .iadd, 0, 0, 0), (197, 1, .iaload, 0, 0, 0), (198, 1, .aload_n 0, 0, 0, 0), (199, 1, .iload_n 3, 0, 0, 0), (200, 1, .iconst 2, 0, 0, 2), (201, 1, .iadd, 0, 0, 0), (202, 1, .iaload, 0, 0, 0), (203, 3, .invokevirtual 13, 118, 3, 0), (206, 1, .aload_n 2, 0, 0, 0), (207, 1, .aload_n 0, 0, 0, 0), (208, 1, .iload_n 3, 0, 0, 0), (209, 1, .iconst 1, 0, 0, 1), (210, 1, .iadd, 0, 0, 0), (211, 1, .iaload, 0, 0, 0), (212, 1, .aload_n 0, 0, 0, 0), (213, 1, .iload_n 3, 0, 0, 0), (214, 1, .iconst 2, 0, 0, 2), (215, 1, .iadd, 0, 0, 0), (216, 1, .iaload, 0, 0, 0), (217, 3, .invokevirtual 17, 170, 3, 0), (220, 3, .if_icmp .eq 1222, 1442, 0, 0), (223, 1, .iconst 0, 0, 0, 0), (224, 1, .ireturn, 0, 0, 0)]
set_option maxRecDepth 100000 in
theorem zcs_0_ok : ∀ e ∈ zcs_0, zc_268.lookup e.1 = some e.2 := by decide +kernel
set_option maxRecDepth 100000 in
set_option maxHeartbeats 2000000 in
theorem lw_c0 {x : zm_X} {i : Nat} {h : zm_H} {Q : Option Value → zm_H → Prop} (hs : zSh zT0 h) (I : Inv h) (hi : i + 6 ≤ x.1) (hx : x.1 ≤ 3072) (kk : ∀ h', zSh zT0 h' → Inv h' → zg x 300 268 1442 (lwL i) [] h' Q) : zg x 300 268 192 (lwL i) [] h Q := by
  have q : ∀ pc q, zcs_0.lookup pc = some q → zc_268.lookup pc = some q := fun pc q h => zcs_0_ok _ (zm_lk_mem _ _ _ h)
  obtain ⟨o1, o2, o3, I'⟩ := K_reading I (x.2 (i + 1)) (x.2 (i + 2))
  refine lw_al (pc := 192) (r := 0) (q _ _ rfl) rfl ?_
  refine lw_ar (pc := 193) (k := 1) hs (by omega) hx rfl (q _ _ rfl) (q _ _ rfl) (q _ _ rfl) (q _ _ rfl) (q _ _ rfl) ?_
  refine lw_ar (pc := 198) (k := 2) hs (by omega) hx rfl (q _ _ rfl) (q _ _ rfl) (q _ _ rfl) (q _ _ rfl) (q _ _ rfl) ?_
  refine zg_call (pc := 203) hs zd_268 (q _ _ rfl) rfl rfl rfl (as := [.ref 0, .int (x.2 (i + 1)), .int (x.2 (i + 2))]) (rest := []) (en := [some (.ref 0), some (.int (x.2 (i + 1))), some (.int (x.2 (i + 2)))]) rfl rfl rfl rfl rfl ?_
  refine f_N_reading_t (x.2 (i + 1)) (x.2 (i + 2)) h hs o1 (fun hs => ?_)
  show zg x 300 268 206 (lwL i) [.int (f_N_reading (x.2 (i + 1)) (x.2 (i + 2)) h).1] (f_N_reading (x.2 (i + 1)) (x.2 (i + 2)) h).2 Q
  refine lw_al (pc := 206) (r := 92) (q _ _ rfl) rfl ?_
  refine lw_ar (pc := 207) (k := 1) hs (by omega) hx rfl (q _ _ rfl) (q _ _ rfl) (q _ _ rfl) (q _ _ rfl) (q _ _ rfl) ?_
  refine lw_ar (pc := 212) (k := 2) hs (by omega) hx rfl (q _ _ rfl) (q _ _ rfl) (q _ _ rfl) (q _ _ rfl) (q _ _ rfl) ?_
  refine zg_call (pc := 217) hs zd_268 (q _ _ rfl) rfl rfl rfl (as := [.ref 92, .int (x.2 (i + 1)), .int (x.2 (i + 2))]) (rest := [.int (f_N_reading (x.2 (i + 1)) (x.2 (i + 2)) h).1]) (en := [some (.ref 92), some (.int (x.2 (i + 1))), some (.int (x.2 (i + 2)))]) rfl rfl rfl rfl rfl ?_
  refine f_M_reading_t (x.2 (i + 1)) (x.2 (i + 2)) (f_N_reading (x.2 (i + 1)) (x.2 (i + 2)) h).2 hs o2 (fun hs => ?_)
  show zg x 300 268 220 (lwL i) [.int (f_M_reading (x.2 (i + 1)) (x.2 (i + 2)) (f_N_reading (x.2 (i + 1)) (x.2 (i + 2)) h).2).1, .int (f_N_reading (x.2 (i + 1)) (x.2 (i + 2)) h).1] (f_M_reading (x.2 (i + 1)) (x.2 (i + 2)) (f_N_reading (x.2 (i + 1)) (x.2 (i + 2)) h).2).2 Q
  exact zg_i_eq zd_268 (q _ _ rfl) (fun _ => kk _ hs I') (fun z => absurd o3 z)
def zcs_1 : List (Nat × zm_I) := [(225, 1, .aload_n 1, 0, 0, 0), (226, 1, .aload_n 0, 0, 0, 0), (227, 1, .iload_n 3, 0, 0, 0), (228, 1, .iconst 1, 0, 0, 1), (229, 1, .iadd, 0, 0, 0), (230, 1, .iaload, 0, 0, 0), (231, 1, .aload_n 0, 0, 0, 0), (232, 1, .iload_n 3, 0, 0, 0), (233, 1, .iconst 2, 0, 0, 2), (234, 1, .iadd, 0, 0, 0), (235, 1, .iaload, 0, 0, 0), (236, 1, .aload_n 0, 0, 0, 0), (237, 1, .iload_n 3, 0, 0, 0), (238, 1, .iconst 3, 0, 0, 3), (239, 1, .iadd, 0, 0, 0), (240, 1, .iaload, 0, 0, 0), (241, 3, .invokevirtual 18, 121, 4, 0), (244, 1, .aload_n 2, 0, 0, 0), (245, 1, .aload_n 0, 0, 0, 0), (246, 1, .iload_n 3, 0, 0, 0), (247, 1, .iconst 1, 0, 0, 1), (248, 1, .iadd, 0, 0, 0), (249, 1, .iaload, 0, 0, 0), (250, 1, .aload_n 0, 0, 0, 0), (251, 1, .iload_n 3, 0, 0, 0), (252, 1, .iconst 2, 0, 0, 2), (253, 1, .iadd, 0, 0, 0), (254, 1, .iaload, 0, 0, 0), (255, 1, .aload_n 0, 0, 0, 0), (256, 1, .iload_n 3, 0, 0, 0), (257, 1, .iconst 3, 0, 0, 3), (258, 1, .iadd, 0, 0, 0), (259, 1, .iaload, 0, 0, 0), (260, 3, .invokevirtual 22, 173, 4, 0), (263, 3, .if_icmp .eq 1179, 1442, 0, 0), (266, 1, .iconst 0, 0, 0, 0), (267, 1, .ireturn, 0, 0, 0)]
set_option maxRecDepth 100000 in
theorem zcs_1_ok : ∀ e ∈ zcs_1, zc_268.lookup e.1 = some e.2 := by decide +kernel
set_option maxRecDepth 100000 in
set_option maxHeartbeats 2000000 in
theorem lw_c1 {x : zm_X} {i : Nat} {h : zm_H} {Q : Option Value → zm_H → Prop} (hs : zSh zT0 h) (I : Inv h) (hi : i + 6 ≤ x.1) (hx : x.1 ≤ 3072) (kk : ∀ h', zSh zT0 h' → Inv h' → zg x 300 268 1442 (lwL i) [] h' Q) : zg x 300 268 225 (lwL i) [] h Q := by
  have q : ∀ pc q, zcs_1.lookup pc = some q → zc_268.lookup pc = some q := fun pc q h => zcs_1_ok _ (zm_lk_mem _ _ _ h)
  obtain ⟨o1, o2, o3, I'⟩ := K_drift I (x.2 (i + 1)) (x.2 (i + 2)) (x.2 (i + 3))
  refine lw_al (pc := 225) (r := 0) (q _ _ rfl) rfl ?_
  refine lw_ar (pc := 226) (k := 1) hs (by omega) hx rfl (q _ _ rfl) (q _ _ rfl) (q _ _ rfl) (q _ _ rfl) (q _ _ rfl) ?_
  refine lw_ar (pc := 231) (k := 2) hs (by omega) hx rfl (q _ _ rfl) (q _ _ rfl) (q _ _ rfl) (q _ _ rfl) (q _ _ rfl) ?_
  refine lw_ar (pc := 236) (k := 3) hs (by omega) hx rfl (q _ _ rfl) (q _ _ rfl) (q _ _ rfl) (q _ _ rfl) (q _ _ rfl) ?_
  refine zg_call (pc := 241) hs zd_268 (q _ _ rfl) rfl rfl rfl (as := [.ref 0, .int (x.2 (i + 1)), .int (x.2 (i + 2)), .int (x.2 (i + 3))]) (rest := []) (en := [some (.ref 0), some (.int (x.2 (i + 1))), some (.int (x.2 (i + 2))), some (.int (x.2 (i + 3)))]) rfl rfl rfl rfl rfl ?_
  refine f_N_drift_t (x.2 (i + 1)) (x.2 (i + 2)) (x.2 (i + 3)) h hs o1 (fun hs => ?_)
  show zg x 300 268 244 (lwL i) [.int (f_N_drift (x.2 (i + 1)) (x.2 (i + 2)) (x.2 (i + 3)) h).1] (f_N_drift (x.2 (i + 1)) (x.2 (i + 2)) (x.2 (i + 3)) h).2 Q
  refine lw_al (pc := 244) (r := 92) (q _ _ rfl) rfl ?_
  refine lw_ar (pc := 245) (k := 1) hs (by omega) hx rfl (q _ _ rfl) (q _ _ rfl) (q _ _ rfl) (q _ _ rfl) (q _ _ rfl) ?_
  refine lw_ar (pc := 250) (k := 2) hs (by omega) hx rfl (q _ _ rfl) (q _ _ rfl) (q _ _ rfl) (q _ _ rfl) (q _ _ rfl) ?_
  refine lw_ar (pc := 255) (k := 3) hs (by omega) hx rfl (q _ _ rfl) (q _ _ rfl) (q _ _ rfl) (q _ _ rfl) (q _ _ rfl) ?_
  refine zg_call (pc := 260) hs zd_268 (q _ _ rfl) rfl rfl rfl (as := [.ref 92, .int (x.2 (i + 1)), .int (x.2 (i + 2)), .int (x.2 (i + 3))]) (rest := [.int (f_N_drift (x.2 (i + 1)) (x.2 (i + 2)) (x.2 (i + 3)) h).1]) (en := [some (.ref 92), some (.int (x.2 (i + 1))), some (.int (x.2 (i + 2))), some (.int (x.2 (i + 3)))]) rfl rfl rfl rfl rfl ?_
  refine f_M_drift_t (x.2 (i + 1)) (x.2 (i + 2)) (x.2 (i + 3)) (f_N_drift (x.2 (i + 1)) (x.2 (i + 2)) (x.2 (i + 3)) h).2 hs o2 (fun hs => ?_)
  show zg x 300 268 263 (lwL i) [.int (f_M_drift (x.2 (i + 1)) (x.2 (i + 2)) (x.2 (i + 3)) (f_N_drift (x.2 (i + 1)) (x.2 (i + 2)) (x.2 (i + 3)) h).2).1, .int (f_N_drift (x.2 (i + 1)) (x.2 (i + 2)) (x.2 (i + 3)) h).1] (f_M_drift (x.2 (i + 1)) (x.2 (i + 2)) (x.2 (i + 3)) (f_N_drift (x.2 (i + 1)) (x.2 (i + 2)) (x.2 (i + 3)) h).2).2 Q
  exact zg_i_eq zd_268 (q _ _ rfl) (fun _ => kk _ hs I') (fun z => absurd o3 z)
def zcs_2 : List (Nat × zm_I) := [(268, 1, .aload_n 1, 0, 0, 0), (269, 1, .aload_n 0, 0, 0, 0), (270, 1, .iload_n 3, 0, 0, 0), (271, 1, .iconst 1, 0, 0, 1), (272, 1, .iadd, 0, 0, 0), (273, 1, .iaload, 0, 0, 0), (274, 1, .aload_n 0, 0, 0, 0), (275, 1, .iload_n 3, 0, 0, 0), (276, 1, .iconst 2, 0, 0, 2), (277, 1, .iadd, 0, 0, 0), (278, 1, .iaload, 0, 0, 0), (279, 1, .aload_n 0, 0, 0, 0), (280, 1, .iload_n 3, 0, 0, 0), (281, 1, .iconst 3, 0, 0, 3), (282, 1, .iadd, 0, 0, 0), (283, 1, .iaload, 0, 0, 0), (284, 3, .invokevirtual 23, 123, 4, 0), (287, 1, .aload_n 2, 0, 0, 0), (288, 1, .aload_n 0, 0, 0, 0), (289, 1, .iload_n 3, 0, 0, 0), (290, 1, .iconst 1, 0, 0, 1), (291, 1, .iadd, 0, 0, 0), (292, 1, .iaload, 0, 0, 0), (293, 1, .aload_n 0, 0, 0, 0), (294, 1, .iload_n 3, 0, 0, 0), (295, 1, .iconst 2, 0, 0, 2), (296, 1, .iadd, 0, 0, 0), (297, 1, .iaload, 0, 0, 0), (298, 1, .aload_n 0, 0, 0, 0), (299, 1, .iload_n 3, 0, 0, 0), (300, 1, .iconst 3, 0, 0, 3), (301, 1, .iadd, 0, 0, 0), (302, 1, .iaload, 0, 0, 0), (303, 3, .invokevirtual 26, 174, 4, 0), (306, 3, .if_icmp .eq 1136, 1442, 0, 0), (309, 1, .iconst 0, 0, 0, 0), (310, 1, .ireturn, 0, 0, 0)]
set_option maxRecDepth 100000 in
theorem zcs_2_ok : ∀ e ∈ zcs_2, zc_268.lookup e.1 = some e.2 := by decide +kernel
set_option maxRecDepth 100000 in
set_option maxHeartbeats 2000000 in
theorem lw_c2 {x : zm_X} {i : Nat} {h : zm_H} {Q : Option Value → zm_H → Prop} (hs : zSh zT0 h) (I : Inv h) (hi : i + 6 ≤ x.1) (hx : x.1 ≤ 3072) (kk : ∀ h', zSh zT0 h' → Inv h' → zg x 300 268 1442 (lwL i) [] h' Q) : zg x 300 268 268 (lwL i) [] h Q := by
  have q : ∀ pc q, zcs_2.lookup pc = some q → zc_268.lookup pc = some q := fun pc q h => zcs_2_ok _ (zm_lk_mem _ _ _ h)
  obtain ⟨o1, o2, o3, I'⟩ := K_known I (x.2 (i + 1)) (x.2 (i + 2)) (x.2 (i + 3))
  refine lw_al (pc := 268) (r := 0) (q _ _ rfl) rfl ?_
  refine lw_ar (pc := 269) (k := 1) hs (by omega) hx rfl (q _ _ rfl) (q _ _ rfl) (q _ _ rfl) (q _ _ rfl) (q _ _ rfl) ?_
  refine lw_ar (pc := 274) (k := 2) hs (by omega) hx rfl (q _ _ rfl) (q _ _ rfl) (q _ _ rfl) (q _ _ rfl) (q _ _ rfl) ?_
  refine lw_ar (pc := 279) (k := 3) hs (by omega) hx rfl (q _ _ rfl) (q _ _ rfl) (q _ _ rfl) (q _ _ rfl) (q _ _ rfl) ?_
  refine zg_call (pc := 284) hs zd_268 (q _ _ rfl) rfl rfl rfl (as := [.ref 0, .int (x.2 (i + 1)), .int (x.2 (i + 2)), .int (x.2 (i + 3))]) (rest := []) (en := [some (.ref 0), some (.int (x.2 (i + 1))), some (.int (x.2 (i + 2))), some (.int (x.2 (i + 3))), none]) rfl rfl rfl rfl rfl ?_
  refine f_N_known_t (x.2 (i + 1)) (x.2 (i + 2)) (x.2 (i + 3)) h hs o1 ?_
  show zg x 300 268 287 (lwL i) [.int (f_N_known (x.2 (i + 1)) (x.2 (i + 2)) (x.2 (i + 3)) h)] h Q
  refine lw_al (pc := 287) (r := 92) (q _ _ rfl) rfl ?_
  refine lw_ar (pc := 288) (k := 1) hs (by omega) hx rfl (q _ _ rfl) (q _ _ rfl) (q _ _ rfl) (q _ _ rfl) (q _ _ rfl) ?_
  refine lw_ar (pc := 293) (k := 2) hs (by omega) hx rfl (q _ _ rfl) (q _ _ rfl) (q _ _ rfl) (q _ _ rfl) (q _ _ rfl) ?_
  refine lw_ar (pc := 298) (k := 3) hs (by omega) hx rfl (q _ _ rfl) (q _ _ rfl) (q _ _ rfl) (q _ _ rfl) (q _ _ rfl) ?_
  refine zg_call (pc := 303) hs zd_268 (q _ _ rfl) rfl rfl rfl (as := [.ref 92, .int (x.2 (i + 1)), .int (x.2 (i + 2)), .int (x.2 (i + 3))]) (rest := [.int (f_N_known (x.2 (i + 1)) (x.2 (i + 2)) (x.2 (i + 3)) h)]) (en := [some (.ref 92), some (.int (x.2 (i + 1))), some (.int (x.2 (i + 2))), some (.int (x.2 (i + 3)))]) rfl rfl rfl rfl rfl ?_
  refine f_M_known_t (x.2 (i + 1)) (x.2 (i + 2)) (x.2 (i + 3)) h hs o2 (fun hs => ?_)
  show zg x 300 268 306 (lwL i) [.int (f_M_known (x.2 (i + 1)) (x.2 (i + 2)) (x.2 (i + 3)) h).1, .int (f_N_known (x.2 (i + 1)) (x.2 (i + 2)) (x.2 (i + 3)) h)] (f_M_known (x.2 (i + 1)) (x.2 (i + 2)) (x.2 (i + 3)) h).2 Q
  exact zg_i_eq zd_268 (q _ _ rfl) (fun _ => kk _ hs I') (fun z => absurd o3 z)
def zcs_3 : List (Nat × zm_I) := [(311, 1, .aload_n 1, 0, 0, 0), (312, 1, .aload_n 0, 0, 0, 0), (313, 1, .iload_n 3, 0, 0, 0), (314, 1, .iconst 1, 0, 0, 1), (315, 1, .iadd, 0, 0, 0), (316, 1, .iaload, 0, 0, 0), (317, 1, .aload_n 0, 0, 0, 0), (318, 1, .iload_n 3, 0, 0, 0), (319, 1, .iconst 2, 0, 0, 2), (320, 1, .iadd, 0, 0, 0), (321, 1, .iaload, 0, 0, 0), (322, 1, .aload_n 0, 0, 0, 0), (323, 1, .iload_n 3, 0, 0, 0), (324, 1, .iconst 3, 0, 0, 3), (325, 1, .iadd, 0, 0, 0), (326, 1, .iaload, 0, 0, 0), (327, 1, .aload_n 0, 0, 0, 0), (328, 1, .iload_n 3, 0, 0, 0), (329, 1, .iconst 4, 0, 0, 4), (330, 1, .iadd, 0, 0, 0), (331, 1, .iaload, 0, 0, 0), (332, 1, .aload_n 0, 0, 0, 0), (333, 1, .iload_n 3, 0, 0, 0), (334, 1, .iconst 5, 0, 0, 5), (335, 1, .iadd, 0, 0, 0), (336, 1, .iaload, 0, 0, 0), (337, 3, .invokevirtual 27, 128, 6, 0), (340, 1, .aload_n 2, 0, 0, 0), (341, 1, .aload_n 0, 0, 0, 0), (342, 1, .iload_n 3, 0, 0, 0), (343, 1, .iconst 1, 0, 0, 1), (344, 1, .iadd, 0, 0, 0), (345, 1, .iaload, 0, 0, 0), (346, 1, .aload_n 0, 0, 0, 0), (347, 1, .iload_n 3, 0, 0, 0), (348, 1, .iconst 2, 0, 0, 2), (349, 1, .iadd, 0, 0, 0), (350, 1, .iaload, 0, 0, 0), (351, 1, .aload_n 0, 0, 0, 0), (352, 1, .iload_n 3, 0, 0, 0), (353, 1, .iconst 3, 0, 0, 3), (354, 1, .iadd, 0, 0, 0), (355, 1, .iaload, 0, 0, 0), (356, 1, .aload_n 0, 0, 0, 0), (357, 1, .iload_n 3, 0, 0, 0), (358, 1, .iconst 4, 0, 0, 4), (359, 1, .iadd, 0, 0, 0), (360, 1, .iaload, 0, 0, 0), (361, 1, .aload_n 0, 0, 0, 0), (362, 1, .iload_n 3, 0, 0, 0), (363, 1, .iconst 5, 0, 0, 5), (364, 1, .iadd, 0, 0, 0), (365, 1, .iaload, 0, 0, 0), (366, 3, .invokevirtual 31, 176, 6, 0), (369, 3, .if_icmp .eq 1073, 1442, 0, 0), (372, 1, .iconst 0, 0, 0, 0), (373, 1, .ireturn, 0, 0, 0)]
set_option maxRecDepth 100000 in
theorem zcs_3_ok : ∀ e ∈ zcs_3, zc_268.lookup e.1 = some e.2 := by decide +kernel
set_option maxRecDepth 100000 in
set_option maxHeartbeats 2000000 in
theorem lw_c3 {x : zm_X} {i : Nat} {h : zm_H} {Q : Option Value → zm_H → Prop} (hs : zSh zT0 h) (I : Inv h) (hi : i + 6 ≤ x.1) (hx : x.1 ≤ 3072) (kk : ∀ h', zSh zT0 h' → Inv h' → zg x 300 268 1442 (lwL i) [] h' Q) : zg x 300 268 311 (lwL i) [] h Q := by
  have q : ∀ pc q, zcs_3.lookup pc = some q → zc_268.lookup pc = some q := fun pc q h => zcs_3_ok _ (zm_lk_mem _ _ _ h)
  obtain ⟨o1, o2, o3, I'⟩ := K_feed I (x.2 (i + 1)) (x.2 (i + 2)) (x.2 (i + 3)) (x.2 (i + 4)) (x.2 (i + 5))
  refine lw_al (pc := 311) (r := 0) (q _ _ rfl) rfl ?_
  refine lw_ar (pc := 312) (k := 1) hs (by omega) hx rfl (q _ _ rfl) (q _ _ rfl) (q _ _ rfl) (q _ _ rfl) (q _ _ rfl) ?_
  refine lw_ar (pc := 317) (k := 2) hs (by omega) hx rfl (q _ _ rfl) (q _ _ rfl) (q _ _ rfl) (q _ _ rfl) (q _ _ rfl) ?_
  refine lw_ar (pc := 322) (k := 3) hs (by omega) hx rfl (q _ _ rfl) (q _ _ rfl) (q _ _ rfl) (q _ _ rfl) (q _ _ rfl) ?_
  refine lw_ar (pc := 327) (k := 4) hs (by omega) hx rfl (q _ _ rfl) (q _ _ rfl) (q _ _ rfl) (q _ _ rfl) (q _ _ rfl) ?_
  refine lw_ar (pc := 332) (k := 5) hs (by omega) hx rfl (q _ _ rfl) (q _ _ rfl) (q _ _ rfl) (q _ _ rfl) (q _ _ rfl) ?_
  refine zg_call (pc := 337) hs zd_268 (q _ _ rfl) rfl rfl rfl (as := [.ref 0, .int (x.2 (i + 1)), .int (x.2 (i + 2)), .int (x.2 (i + 3)), .int (x.2 (i + 4)), .int (x.2 (i + 5))]) (rest := []) (en := [some (.ref 0), some (.int (x.2 (i + 1))), some (.int (x.2 (i + 2))), some (.int (x.2 (i + 3))), some (.int (x.2 (i + 4))), some (.int (x.2 (i + 5)))]) rfl rfl rfl rfl rfl ?_
  refine f_N_feed_t (x.2 (i + 1)) (x.2 (i + 2)) (x.2 (i + 3)) (x.2 (i + 4)) (x.2 (i + 5)) h hs o1 (fun hs => ?_)
  show zg x 300 268 340 (lwL i) [.int (f_N_feed (x.2 (i + 1)) (x.2 (i + 2)) (x.2 (i + 3)) (x.2 (i + 4)) (x.2 (i + 5)) h).1] (f_N_feed (x.2 (i + 1)) (x.2 (i + 2)) (x.2 (i + 3)) (x.2 (i + 4)) (x.2 (i + 5)) h).2 Q
  refine lw_al (pc := 340) (r := 92) (q _ _ rfl) rfl ?_
  refine lw_ar (pc := 341) (k := 1) hs (by omega) hx rfl (q _ _ rfl) (q _ _ rfl) (q _ _ rfl) (q _ _ rfl) (q _ _ rfl) ?_
  refine lw_ar (pc := 346) (k := 2) hs (by omega) hx rfl (q _ _ rfl) (q _ _ rfl) (q _ _ rfl) (q _ _ rfl) (q _ _ rfl) ?_
  refine lw_ar (pc := 351) (k := 3) hs (by omega) hx rfl (q _ _ rfl) (q _ _ rfl) (q _ _ rfl) (q _ _ rfl) (q _ _ rfl) ?_
  refine lw_ar (pc := 356) (k := 4) hs (by omega) hx rfl (q _ _ rfl) (q _ _ rfl) (q _ _ rfl) (q _ _ rfl) (q _ _ rfl) ?_
  refine lw_ar (pc := 361) (k := 5) hs (by omega) hx rfl (q _ _ rfl) (q _ _ rfl) (q _ _ rfl) (q _ _ rfl) (q _ _ rfl) ?_
  refine zg_call (pc := 366) hs zd_268 (q _ _ rfl) rfl rfl rfl (as := [.ref 92, .int (x.2 (i + 1)), .int (x.2 (i + 2)), .int (x.2 (i + 3)), .int (x.2 (i + 4)), .int (x.2 (i + 5))]) (rest := [.int (f_N_feed (x.2 (i + 1)) (x.2 (i + 2)) (x.2 (i + 3)) (x.2 (i + 4)) (x.2 (i + 5)) h).1]) (en := [some (.ref 92), some (.int (x.2 (i + 1))), some (.int (x.2 (i + 2))), some (.int (x.2 (i + 3))), some (.int (x.2 (i + 4))), some (.int (x.2 (i + 5))), none, none]) rfl rfl rfl rfl rfl ?_
  refine f_M_feed_t (x.2 (i + 1)) (x.2 (i + 2)) (x.2 (i + 3)) (x.2 (i + 4)) (x.2 (i + 5)) (f_N_feed (x.2 (i + 1)) (x.2 (i + 2)) (x.2 (i + 3)) (x.2 (i + 4)) (x.2 (i + 5)) h).2 hs o2 (fun hs => ?_)
  show zg x 300 268 369 (lwL i) [.int (f_M_feed (x.2 (i + 1)) (x.2 (i + 2)) (x.2 (i + 3)) (x.2 (i + 4)) (x.2 (i + 5)) (f_N_feed (x.2 (i + 1)) (x.2 (i + 2)) (x.2 (i + 3)) (x.2 (i + 4)) (x.2 (i + 5)) h).2).1, .int (f_N_feed (x.2 (i + 1)) (x.2 (i + 2)) (x.2 (i + 3)) (x.2 (i + 4)) (x.2 (i + 5)) h).1] (f_M_feed (x.2 (i + 1)) (x.2 (i + 2)) (x.2 (i + 3)) (x.2 (i + 4)) (x.2 (i + 5)) (f_N_feed (x.2 (i + 1)) (x.2 (i + 2)) (x.2 (i + 3)) (x.2 (i + 4)) (x.2 (i + 5)) h).2).2 Q
  exact zg_i_eq zd_268 (q _ _ rfl) (fun _ => kk _ hs I') (fun z => absurd o3 z)
def zcs_4 : List (Nat × zm_I) := [(374, 1, .aload_n 1, 0, 0, 0), (375, 1, .aload_n 0, 0, 0, 0), (376, 1, .iload_n 3, 0, 0, 0), (377, 1, .iconst 1, 0, 0, 1), (378, 1, .iadd, 0, 0, 0), (379, 1, .iaload, 0, 0, 0), (380, 3, .invokevirtual 32, 129, 2, 0), (383, 1, .aload_n 2, 0, 0, 0), (384, 1, .aload_n 0, 0, 0, 0), (385, 1, .iload_n 3, 0, 0, 0), (386, 1, .iconst 1, 0, 0, 1), (387, 1, .iadd, 0, 0, 0), (388, 1, .iaload, 0, 0, 0), (389, 3, .invokevirtual 36, 177, 2, 0), (392, 3, .if_icmp .eq 1050, 1442, 0, 0), (395, 1, .iconst 0, 0, 0, 0), (396, 1, .ireturn, 0, 0, 0)]
set_option maxRecDepth 100000 in
theorem zcs_4_ok : ∀ e ∈ zcs_4, zc_268.lookup e.1 = some e.2 := by decide +kernel
set_option maxRecDepth 100000 in
set_option maxHeartbeats 2000000 in
theorem lw_c4 {x : zm_X} {i : Nat} {h : zm_H} {Q : Option Value → zm_H → Prop} (hs : zSh zT0 h) (I : Inv h) (hi : i + 6 ≤ x.1) (hx : x.1 ≤ 3072) (kk : ∀ h', zSh zT0 h' → Inv h' → zg x 300 268 1442 (lwL i) [] h' Q) : zg x 300 268 374 (lwL i) [] h Q := by
  have q : ∀ pc q, zcs_4.lookup pc = some q → zc_268.lookup pc = some q := fun pc q h => zcs_4_ok _ (zm_lk_mem _ _ _ h)
  obtain ⟨o1, o2, o3, I'⟩ := K_end I (x.2 (i + 1))
  refine lw_al (pc := 374) (r := 0) (q _ _ rfl) rfl ?_
  refine lw_ar (pc := 375) (k := 1) hs (by omega) hx rfl (q _ _ rfl) (q _ _ rfl) (q _ _ rfl) (q _ _ rfl) (q _ _ rfl) ?_
  refine zg_call (pc := 380) hs zd_268 (q _ _ rfl) rfl rfl rfl (as := [.ref 0, .int (x.2 (i + 1))]) (rest := []) (en := [some (.ref 0), some (.int (x.2 (i + 1)))]) rfl rfl rfl rfl rfl ?_
  refine f_N_end_t (x.2 (i + 1)) h hs o1 (fun hs => ?_)
  show zg x 300 268 383 (lwL i) [.int (f_N_end (x.2 (i + 1)) h).1] (f_N_end (x.2 (i + 1)) h).2 Q
  refine lw_al (pc := 383) (r := 92) (q _ _ rfl) rfl ?_
  refine lw_ar (pc := 384) (k := 1) hs (by omega) hx rfl (q _ _ rfl) (q _ _ rfl) (q _ _ rfl) (q _ _ rfl) (q _ _ rfl) ?_
  refine zg_call (pc := 389) hs zd_268 (q _ _ rfl) rfl rfl rfl (as := [.ref 92, .int (x.2 (i + 1))]) (rest := [.int (f_N_end (x.2 (i + 1)) h).1]) (en := [some (.ref 92), some (.int (x.2 (i + 1)))]) rfl rfl rfl rfl rfl ?_
  refine f_M_end_t (x.2 (i + 1)) (f_N_end (x.2 (i + 1)) h).2 hs o2 (fun hs => ?_)
  show zg x 300 268 392 (lwL i) [.int (f_M_end (x.2 (i + 1)) (f_N_end (x.2 (i + 1)) h).2).1, .int (f_N_end (x.2 (i + 1)) h).1] (f_M_end (x.2 (i + 1)) (f_N_end (x.2 (i + 1)) h).2).2 Q
  exact zg_i_eq zd_268 (q _ _ rfl) (fun _ => kk _ hs I') (fun z => absurd o3 z)
def zcs_5 : List (Nat × zm_I) := [(397, 1, .aload_n 1, 0, 0, 0), (398, 3, .invokevirtual 37, 130, 1, 0), (401, 1, .aload_n 2, 0, 0, 0), (402, 3, .invokevirtual 41, 178, 1, 0), (405, 3, .if_icmp .eq 1037, 1442, 0, 0), (408, 1, .iconst 0, 0, 0, 0), (409, 1, .ireturn, 0, 0, 0)]
set_option maxRecDepth 100000 in
theorem zcs_5_ok : ∀ e ∈ zcs_5, zc_268.lookup e.1 = some e.2 := by decide +kernel
set_option maxRecDepth 100000 in
set_option maxHeartbeats 2000000 in
theorem lw_c5 {x : zm_X} {i : Nat} {h : zm_H} {Q : Option Value → zm_H → Prop} (hs : zSh zT0 h) (I : Inv h) (hi : i + 6 ≤ x.1) (hx : x.1 ≤ 3072) (kk : ∀ h', zSh zT0 h' → Inv h' → zg x 300 268 1442 (lwL i) [] h' Q) : zg x 300 268 397 (lwL i) [] h Q := by
  have q : ∀ pc q, zcs_5.lookup pc = some q → zc_268.lookup pc = some q := fun pc q h => zcs_5_ok _ (zm_lk_mem _ _ _ h)
  obtain ⟨o1, o2, o3, I'⟩ := K_fault I
  refine lw_al (pc := 397) (r := 0) (q _ _ rfl) rfl ?_
  refine zg_call (pc := 398) hs zd_268 (q _ _ rfl) rfl rfl rfl (as := [.ref 0]) (rest := []) (en := [some (.ref 0)]) rfl rfl rfl rfl rfl ?_
  refine f_N_fault_t h hs o1 (fun hs => ?_)
  show zg x 300 268 401 (lwL i) [.int (f_N_fault h).1] (f_N_fault h).2 Q
  refine lw_al (pc := 401) (r := 92) (q _ _ rfl) rfl ?_
  refine zg_call (pc := 402) hs zd_268 (q _ _ rfl) rfl rfl rfl (as := [.ref 92]) (rest := [.int (f_N_fault h).1]) (en := [some (.ref 92)]) rfl rfl rfl rfl rfl ?_
  refine f_M_fault_t (f_N_fault h).2 hs o2 (fun hs => ?_)
  show zg x 300 268 405 (lwL i) [.int (f_M_fault (f_N_fault h).2).1, .int (f_N_fault h).1] (f_M_fault (f_N_fault h).2).2 Q
  exact zg_i_eq zd_268 (q _ _ rfl) (fun _ => kk _ hs I') (fun z => absurd o3 z)
def zcs_6 : List (Nat × zm_I) := [(410, 1, .aload_n 1, 0, 0, 0), (411, 3, .invokevirtual 42, 131, 1, 0), (414, 1, .aload_n 2, 0, 0, 0), (415, 3, .invokevirtual 45, 198, 1, 0), (418, 3, .if_icmp .eq 1024, 1442, 0, 0), (421, 1, .iconst 0, 0, 0, 0), (422, 1, .ireturn, 0, 0, 0)]
set_option maxRecDepth 100000 in
theorem zcs_6_ok : ∀ e ∈ zcs_6, zc_268.lookup e.1 = some e.2 := by decide +kernel
set_option maxRecDepth 100000 in
set_option maxHeartbeats 2000000 in
theorem lw_c6 {x : zm_X} {i : Nat} {h : zm_H} {Q : Option Value → zm_H → Prop} (hs : zSh zT0 h) (I : Inv h) (hi : i + 6 ≤ x.1) (hx : x.1 ≤ 3072) (kk : ∀ h', zSh zT0 h' → Inv h' → zg x 300 268 1442 (lwL i) [] h' Q) : zg x 300 268 410 (lwL i) [] h Q := by
  have q : ∀ pc q, zcs_6.lookup pc = some q → zc_268.lookup pc = some q := fun pc q h => zcs_6_ok _ (zm_lk_mem _ _ _ h)
  obtain ⟨o1, o2, o3, I'⟩ := K_sheet I
  refine lw_al (pc := 410) (r := 0) (q _ _ rfl) rfl ?_
  refine zg_call (pc := 411) hs zd_268 (q _ _ rfl) rfl rfl rfl (as := [.ref 0]) (rest := []) (en := [some (.ref 0), none]) rfl rfl rfl rfl rfl ?_
  refine f_N_sheet_t h hs o1 (fun hs => ?_)
  show zg x 300 268 414 (lwL i) [.int (f_N_sheet h).1] (f_N_sheet h).2 Q
  refine lw_al (pc := 414) (r := 92) (q _ _ rfl) rfl ?_
  refine zg_call (pc := 415) hs zd_268 (q _ _ rfl) rfl rfl rfl (as := [.ref 92]) (rest := [.int (f_N_sheet h).1]) (en := [some (.ref 92), none]) rfl rfl rfl rfl rfl ?_
  refine f_M_sheet_t (f_N_sheet h).2 hs o2 (fun hs => ?_)
  show zg x 300 268 418 (lwL i) [.int (f_M_sheet (f_N_sheet h).2).1, .int (f_N_sheet h).1] (f_M_sheet (f_N_sheet h).2).2 Q
  exact zg_i_eq zd_268 (q _ _ rfl) (fun _ => kk _ hs I') (fun z => absurd o3 z)
def zcs_7 : List (Nat × zm_I) := [(423, 1, .aload_n 1, 0, 0, 0), (424, 1, .aload_n 0, 0, 0, 0), (425, 1, .iload_n 3, 0, 0, 0), (426, 1, .iconst 1, 0, 0, 1), (427, 1, .iadd, 0, 0, 0), (428, 1, .iaload, 0, 0, 0), (429, 1, .aload_n 0, 0, 0, 0), (430, 1, .iload_n 3, 0, 0, 0), (431, 1, .iconst 2, 0, 0, 2), (432, 1, .iadd, 0, 0, 0), (433, 1, .iaload, 0, 0, 0), (434, 3, .invokevirtual 46, 132, 3, 0), (437, 1, .aload_n 2, 0, 0, 0), (438, 1, .aload_n 0, 0, 0, 0), (439, 1, .iload_n 3, 0, 0, 0), (440, 1, .iconst 1, 0, 0, 1), (441, 1, .iadd, 0, 0, 0), (442, 1, .iaload, 0, 0, 0), (443, 1, .aload_n 0, 0, 0, 0), (444, 1, .iload_n 3, 0, 0, 0), (445, 1, .iconst 2, 0, 0, 2), (446, 1, .iadd, 0, 0, 0), (447, 1, .iaload, 0, 0, 0), (448, 3, .invokevirtual 49, 199, 3, 0), (451, 3, .if_icmp .eq 991, 1442, 0, 0), (454, 1, .iconst 0, 0, 0, 0), (455, 1, .ireturn, 0, 0, 0)]
set_option maxRecDepth 100000 in
theorem zcs_7_ok : ∀ e ∈ zcs_7, zc_268.lookup e.1 = some e.2 := by decide +kernel
set_option maxRecDepth 100000 in
set_option maxHeartbeats 2000000 in
theorem lw_c7 {x : zm_X} {i : Nat} {h : zm_H} {Q : Option Value → zm_H → Prop} (hs : zSh zT0 h) (I : Inv h) (hi : i + 6 ≤ x.1) (hx : x.1 ≤ 3072) (kk : ∀ h', zSh zT0 h' → Inv h' → zg x 300 268 1442 (lwL i) [] h' Q) : zg x 300 268 423 (lwL i) [] h Q := by
  have q : ∀ pc q, zcs_7.lookup pc = some q → zc_268.lookup pc = some q := fun pc q h => zcs_7_ok _ (zm_lk_mem _ _ _ h)
  obtain ⟨o1, o2, o3, I'⟩ := K_force I (x.2 (i + 1)) (x.2 (i + 2))
  refine lw_al (pc := 423) (r := 0) (q _ _ rfl) rfl ?_
  refine lw_ar (pc := 424) (k := 1) hs (by omega) hx rfl (q _ _ rfl) (q _ _ rfl) (q _ _ rfl) (q _ _ rfl) (q _ _ rfl) ?_
  refine lw_ar (pc := 429) (k := 2) hs (by omega) hx rfl (q _ _ rfl) (q _ _ rfl) (q _ _ rfl) (q _ _ rfl) (q _ _ rfl) ?_
  refine zg_call (pc := 434) hs zd_268 (q _ _ rfl) rfl rfl rfl (as := [.ref 0, .int (x.2 (i + 1)), .int (x.2 (i + 2))]) (rest := []) (en := [some (.ref 0), some (.int (x.2 (i + 1))), some (.int (x.2 (i + 2)))]) rfl rfl rfl rfl rfl ?_
  refine f_N_force_t (x.2 (i + 1)) (x.2 (i + 2)) h hs o1 (fun hs => ?_)
  show zg x 300 268 437 (lwL i) [.int (f_N_force (x.2 (i + 1)) (x.2 (i + 2)) h).1] (f_N_force (x.2 (i + 1)) (x.2 (i + 2)) h).2 Q
  refine lw_al (pc := 437) (r := 92) (q _ _ rfl) rfl ?_
  refine lw_ar (pc := 438) (k := 1) hs (by omega) hx rfl (q _ _ rfl) (q _ _ rfl) (q _ _ rfl) (q _ _ rfl) (q _ _ rfl) ?_
  refine lw_ar (pc := 443) (k := 2) hs (by omega) hx rfl (q _ _ rfl) (q _ _ rfl) (q _ _ rfl) (q _ _ rfl) (q _ _ rfl) ?_
  refine zg_call (pc := 448) hs zd_268 (q _ _ rfl) rfl rfl rfl (as := [.ref 92, .int (x.2 (i + 1)), .int (x.2 (i + 2))]) (rest := [.int (f_N_force (x.2 (i + 1)) (x.2 (i + 2)) h).1]) (en := [some (.ref 92), some (.int (x.2 (i + 1))), some (.int (x.2 (i + 2)))]) rfl rfl rfl rfl rfl ?_
  refine f_M_force_t (x.2 (i + 1)) (x.2 (i + 2)) (f_N_force (x.2 (i + 1)) (x.2 (i + 2)) h).2 hs o2 (fun hs => ?_)
  show zg x 300 268 451 (lwL i) [.int (f_M_force (x.2 (i + 1)) (x.2 (i + 2)) (f_N_force (x.2 (i + 1)) (x.2 (i + 2)) h).2).1, .int (f_N_force (x.2 (i + 1)) (x.2 (i + 2)) h).1] (f_M_force (x.2 (i + 1)) (x.2 (i + 2)) (f_N_force (x.2 (i + 1)) (x.2 (i + 2)) h).2).2 Q
  exact zg_i_eq zd_268 (q _ _ rfl) (fun _ => kk _ hs I') (fun z => absurd o3 z)
def zcs_8 : List (Nat × zm_I) := [(456, 1, .aload_n 1, 0, 0, 0), (457, 1, .aload_n 0, 0, 0, 0), (458, 1, .iload_n 3, 0, 0, 0), (459, 1, .iconst 1, 0, 0, 1), (460, 1, .iadd, 0, 0, 0), (461, 1, .iaload, 0, 0, 0), (462, 1, .aload_n 0, 0, 0, 0), (463, 1, .iload_n 3, 0, 0, 0), (464, 1, .iconst 2, 0, 0, 2), (465, 1, .iadd, 0, 0, 0), (466, 1, .iaload, 0, 0, 0), (467, 3, .invokevirtual 50, 133, 3, 0), (470, 1, .aload_n 2, 0, 0, 0), (471, 1, .aload_n 0, 0, 0, 0), (472, 1, .iload_n 3, 0, 0, 0), (473, 1, .iconst 1, 0, 0, 1), (474, 1, .iadd, 0, 0, 0), (475, 1, .iaload, 0, 0, 0), (476, 1, .aload_n 0, 0, 0, 0), (477, 1, .iload_n 3, 0, 0, 0), (478, 1, .iconst 2, 0, 0, 2), (479, 1, .iadd, 0, 0, 0), (480, 1, .iaload, 0, 0, 0), (481, 3, .invokevirtual 53, 200, 3, 0), (484, 3, .if_icmp .eq 958, 1442, 0, 0), (487, 1, .iconst 0, 0, 0, 0), (488, 1, .ireturn, 0, 0, 0)]
set_option maxRecDepth 100000 in
theorem zcs_8_ok : ∀ e ∈ zcs_8, zc_268.lookup e.1 = some e.2 := by decide +kernel
set_option maxRecDepth 100000 in
set_option maxHeartbeats 2000000 in
theorem lw_c8 {x : zm_X} {i : Nat} {h : zm_H} {Q : Option Value → zm_H → Prop} (hs : zSh zT0 h) (I : Inv h) (hi : i + 6 ≤ x.1) (hx : x.1 ≤ 3072) (kk : ∀ h', zSh zT0 h' → Inv h' → zg x 300 268 1442 (lwL i) [] h' Q) : zg x 300 268 456 (lwL i) [] h Q := by
  have q : ∀ pc q, zcs_8.lookup pc = some q → zc_268.lookup pc = some q := fun pc q h => zcs_8_ok _ (zm_lk_mem _ _ _ h)
  obtain ⟨o1, o2, o3⟩ := K_why I (x.2 (i + 1)) (x.2 (i + 2))
  refine lw_al (pc := 456) (r := 0) (q _ _ rfl) rfl ?_
  refine lw_ar (pc := 457) (k := 1) hs (by omega) hx rfl (q _ _ rfl) (q _ _ rfl) (q _ _ rfl) (q _ _ rfl) (q _ _ rfl) ?_
  refine lw_ar (pc := 462) (k := 2) hs (by omega) hx rfl (q _ _ rfl) (q _ _ rfl) (q _ _ rfl) (q _ _ rfl) (q _ _ rfl) ?_
  refine zg_call (pc := 467) hs zd_268 (q _ _ rfl) rfl rfl rfl (as := [.ref 0, .int (x.2 (i + 1)), .int (x.2 (i + 2))]) (rest := []) (en := [some (.ref 0), some (.int (x.2 (i + 1))), some (.int (x.2 (i + 2)))]) rfl rfl rfl rfl rfl ?_
  refine f_N_why_t (x.2 (i + 1)) (x.2 (i + 2)) h hs o1 ?_
  show zg x 300 268 470 (lwL i) [.int (f_N_why (x.2 (i + 1)) (x.2 (i + 2)) h)] h Q
  refine lw_al (pc := 470) (r := 92) (q _ _ rfl) rfl ?_
  refine lw_ar (pc := 471) (k := 1) hs (by omega) hx rfl (q _ _ rfl) (q _ _ rfl) (q _ _ rfl) (q _ _ rfl) (q _ _ rfl) ?_
  refine lw_ar (pc := 476) (k := 2) hs (by omega) hx rfl (q _ _ rfl) (q _ _ rfl) (q _ _ rfl) (q _ _ rfl) (q _ _ rfl) ?_
  refine zg_call (pc := 481) hs zd_268 (q _ _ rfl) rfl rfl rfl (as := [.ref 92, .int (x.2 (i + 1)), .int (x.2 (i + 2))]) (rest := [.int (f_N_why (x.2 (i + 1)) (x.2 (i + 2)) h)]) (en := [some (.ref 92), some (.int (x.2 (i + 1))), some (.int (x.2 (i + 2)))]) rfl rfl rfl rfl rfl ?_
  refine f_M_why_t (x.2 (i + 1)) (x.2 (i + 2)) h hs o2 ?_
  show zg x 300 268 484 (lwL i) [.int (f_M_why (x.2 (i + 1)) (x.2 (i + 2)) h), .int (f_N_why (x.2 (i + 1)) (x.2 (i + 2)) h)] h Q
  exact zg_i_eq zd_268 (q _ _ rfl) (fun _ => kk _ hs I) (fun z => absurd o3 z)
def zcs_9 : List (Nat × zm_I) := [(489, 1, .aload_n 1, 0, 0, 0), (490, 1, .aload_n 0, 0, 0, 0), (491, 1, .iload_n 3, 0, 0, 0), (492, 1, .iconst 1, 0, 0, 1), (493, 1, .iadd, 0, 0, 0), (494, 1, .iaload, 0, 0, 0), (495, 1, .aload_n 0, 0, 0, 0), (496, 1, .iload_n 3, 0, 0, 0), (497, 1, .iconst 2, 0, 0, 2), (498, 1, .iadd, 0, 0, 0), (499, 1, .iaload, 0, 0, 0), (500, 3, .invokevirtual 54, 134, 3, 0), (503, 1, .aload_n 2, 0, 0, 0), (504, 1, .aload_n 0, 0, 0, 0), (505, 1, .iload_n 3, 0, 0, 0), (506, 1, .iconst 1, 0, 0, 1), (507, 1, .iadd, 0, 0, 0), (508, 1, .iaload, 0, 0, 0), (509, 1, .aload_n 0, 0, 0, 0), (510, 1, .iload_n 3, 0, 0, 0), (511, 1, .iconst 2, 0, 0, 2), (512, 1, .iadd, 0, 0, 0), (513, 1, .iaload, 0, 0, 0), (514, 3, .invokevirtual 57, 202, 3, 0), (517, 3, .if_icmp .eq 925, 1442, 0, 0), (520, 1, .iconst 0, 0, 0, 0), (521, 1, .ireturn, 0, 0, 0)]
set_option maxRecDepth 100000 in
theorem zcs_9_ok : ∀ e ∈ zcs_9, zc_268.lookup e.1 = some e.2 := by decide +kernel
set_option maxRecDepth 100000 in
set_option maxHeartbeats 2000000 in
theorem lw_c9 {x : zm_X} {i : Nat} {h : zm_H} {Q : Option Value → zm_H → Prop} (hs : zSh zT0 h) (I : Inv h) (hi : i + 6 ≤ x.1) (hx : x.1 ≤ 3072) (kk : ∀ h', zSh zT0 h' → Inv h' → zg x 300 268 1442 (lwL i) [] h' Q) : zg x 300 268 489 (lwL i) [] h Q := by
  have q : ∀ pc q, zcs_9.lookup pc = some q → zc_268.lookup pc = some q := fun pc q h => zcs_9_ok _ (zm_lk_mem _ _ _ h)
  obtain ⟨o1, o2, o3, I'⟩ := K_raft I (x.2 (i + 1)) (x.2 (i + 2))
  refine lw_al (pc := 489) (r := 0) (q _ _ rfl) rfl ?_
  refine lw_ar (pc := 490) (k := 1) hs (by omega) hx rfl (q _ _ rfl) (q _ _ rfl) (q _ _ rfl) (q _ _ rfl) (q _ _ rfl) ?_
  refine lw_ar (pc := 495) (k := 2) hs (by omega) hx rfl (q _ _ rfl) (q _ _ rfl) (q _ _ rfl) (q _ _ rfl) (q _ _ rfl) ?_
  refine zg_call (pc := 500) hs zd_268 (q _ _ rfl) rfl rfl rfl (as := [.ref 0, .int (x.2 (i + 1)), .int (x.2 (i + 2))]) (rest := []) (en := [some (.ref 0), some (.int (x.2 (i + 1))), some (.int (x.2 (i + 2)))]) rfl rfl rfl rfl rfl ?_
  refine f_N_raft_t (x.2 (i + 1)) (x.2 (i + 2)) h hs o1 (fun hs => ?_)
  show zg x 300 268 503 (lwL i) [.int (f_N_raft (x.2 (i + 1)) (x.2 (i + 2)) h).1] (f_N_raft (x.2 (i + 1)) (x.2 (i + 2)) h).2 Q
  refine lw_al (pc := 503) (r := 92) (q _ _ rfl) rfl ?_
  refine lw_ar (pc := 504) (k := 1) hs (by omega) hx rfl (q _ _ rfl) (q _ _ rfl) (q _ _ rfl) (q _ _ rfl) (q _ _ rfl) ?_
  refine lw_ar (pc := 509) (k := 2) hs (by omega) hx rfl (q _ _ rfl) (q _ _ rfl) (q _ _ rfl) (q _ _ rfl) (q _ _ rfl) ?_
  refine zg_call (pc := 514) hs zd_268 (q _ _ rfl) rfl rfl rfl (as := [.ref 92, .int (x.2 (i + 1)), .int (x.2 (i + 2))]) (rest := [.int (f_N_raft (x.2 (i + 1)) (x.2 (i + 2)) h).1]) (en := [some (.ref 92), some (.int (x.2 (i + 1))), some (.int (x.2 (i + 2)))]) rfl rfl rfl rfl rfl ?_
  refine f_M_raft_t (x.2 (i + 1)) (x.2 (i + 2)) (f_N_raft (x.2 (i + 1)) (x.2 (i + 2)) h).2 hs o2 (fun hs => ?_)
  show zg x 300 268 517 (lwL i) [.int (f_M_raft (x.2 (i + 1)) (x.2 (i + 2)) (f_N_raft (x.2 (i + 1)) (x.2 (i + 2)) h).2).1, .int (f_N_raft (x.2 (i + 1)) (x.2 (i + 2)) h).1] (f_M_raft (x.2 (i + 1)) (x.2 (i + 2)) (f_N_raft (x.2 (i + 1)) (x.2 (i + 2)) h).2).2 Q
  exact zg_i_eq zd_268 (q _ _ rfl) (fun _ => kk _ hs I') (fun z => absurd o3 z)
def zcs_10 : List (Nat × zm_I) := [(522, 1, .aload_n 1, 0, 0, 0), (523, 1, .aload_n 0, 0, 0, 0), (524, 1, .iload_n 3, 0, 0, 0), (525, 1, .iconst 1, 0, 0, 1), (526, 1, .iadd, 0, 0, 0), (527, 1, .iaload, 0, 0, 0), (528, 1, .aload_n 0, 0, 0, 0), (529, 1, .iload_n 3, 0, 0, 0), (530, 1, .iconst 2, 0, 0, 2), (531, 1, .iadd, 0, 0, 0), (532, 1, .iaload, 0, 0, 0), (533, 1, .aload_n 0, 0, 0, 0), (534, 1, .iload_n 3, 0, 0, 0), (535, 1, .iconst 3, 0, 0, 3), (536, 1, .iadd, 0, 0, 0), (537, 1, .iaload, 0, 0, 0), (538, 3, .invokevirtual 58, 135, 4, 0), (541, 1, .aload_n 2, 0, 0, 0), (542, 1, .aload_n 0, 0, 0, 0), (543, 1, .iload_n 3, 0, 0, 0), (544, 1, .iconst 1, 0, 0, 1), (545, 1, .iadd, 0, 0, 0), (546, 1, .iaload, 0, 0, 0), (547, 1, .aload_n 0, 0, 0, 0), (548, 1, .iload_n 3, 0, 0, 0), (549, 1, .iconst 2, 0, 0, 2), (550, 1, .iadd, 0, 0, 0), (551, 1, .iaload, 0, 0, 0), (552, 1, .aload_n 0, 0, 0, 0), (553, 1, .iload_n 3, 0, 0, 0), (554, 1, .iconst 3, 0, 0, 3), (555, 1, .iadd, 0, 0, 0), (556, 1, .iaload, 0, 0, 0), (557, 3, .invokevirtual 61, 203, 4, 0), (560, 3, .if_icmp .eq 882, 1442, 0, 0), (563, 1, .iconst 0, 0, 0, 0), (564, 1, .ireturn, 0, 0, 0)]
set_option maxRecDepth 100000 in
theorem zcs_10_ok : ∀ e ∈ zcs_10, zc_268.lookup e.1 = some e.2 := by decide +kernel
set_option maxRecDepth 100000 in
set_option maxHeartbeats 2000000 in
theorem lw_c10 {x : zm_X} {i : Nat} {h : zm_H} {Q : Option Value → zm_H → Prop} (hs : zSh zT0 h) (I : Inv h) (hi : i + 6 ≤ x.1) (hx : x.1 ≤ 3072) (kk : ∀ h', zSh zT0 h' → Inv h' → zg x 300 268 1442 (lwL i) [] h' Q) : zg x 300 268 522 (lwL i) [] h Q := by
  have q : ∀ pc q, zcs_10.lookup pc = some q → zc_268.lookup pc = some q := fun pc q h => zcs_10_ok _ (zm_lk_mem _ _ _ h)
  obtain ⟨o1, o2, o3, I'⟩ := K_lane I (x.2 (i + 1)) (x.2 (i + 2)) (x.2 (i + 3))
  refine lw_al (pc := 522) (r := 0) (q _ _ rfl) rfl ?_
  refine lw_ar (pc := 523) (k := 1) hs (by omega) hx rfl (q _ _ rfl) (q _ _ rfl) (q _ _ rfl) (q _ _ rfl) (q _ _ rfl) ?_
  refine lw_ar (pc := 528) (k := 2) hs (by omega) hx rfl (q _ _ rfl) (q _ _ rfl) (q _ _ rfl) (q _ _ rfl) (q _ _ rfl) ?_
  refine lw_ar (pc := 533) (k := 3) hs (by omega) hx rfl (q _ _ rfl) (q _ _ rfl) (q _ _ rfl) (q _ _ rfl) (q _ _ rfl) ?_
  refine zg_call (pc := 538) hs zd_268 (q _ _ rfl) rfl rfl rfl (as := [.ref 0, .int (x.2 (i + 1)), .int (x.2 (i + 2)), .int (x.2 (i + 3))]) (rest := []) (en := [some (.ref 0), some (.int (x.2 (i + 1))), some (.int (x.2 (i + 2))), some (.int (x.2 (i + 3)))]) rfl rfl rfl rfl rfl ?_
  refine f_N_lane_t (x.2 (i + 1)) (x.2 (i + 2)) (x.2 (i + 3)) h hs o1 (fun hs => ?_)
  show zg x 300 268 541 (lwL i) [.int (f_N_lane (x.2 (i + 1)) (x.2 (i + 2)) (x.2 (i + 3)) h).1] (f_N_lane (x.2 (i + 1)) (x.2 (i + 2)) (x.2 (i + 3)) h).2 Q
  refine lw_al (pc := 541) (r := 92) (q _ _ rfl) rfl ?_
  refine lw_ar (pc := 542) (k := 1) hs (by omega) hx rfl (q _ _ rfl) (q _ _ rfl) (q _ _ rfl) (q _ _ rfl) (q _ _ rfl) ?_
  refine lw_ar (pc := 547) (k := 2) hs (by omega) hx rfl (q _ _ rfl) (q _ _ rfl) (q _ _ rfl) (q _ _ rfl) (q _ _ rfl) ?_
  refine lw_ar (pc := 552) (k := 3) hs (by omega) hx rfl (q _ _ rfl) (q _ _ rfl) (q _ _ rfl) (q _ _ rfl) (q _ _ rfl) ?_
  refine zg_call (pc := 557) hs zd_268 (q _ _ rfl) rfl rfl rfl (as := [.ref 92, .int (x.2 (i + 1)), .int (x.2 (i + 2)), .int (x.2 (i + 3))]) (rest := [.int (f_N_lane (x.2 (i + 1)) (x.2 (i + 2)) (x.2 (i + 3)) h).1]) (en := [some (.ref 92), some (.int (x.2 (i + 1))), some (.int (x.2 (i + 2))), some (.int (x.2 (i + 3)))]) rfl rfl rfl rfl rfl ?_
  refine f_M_lane_t (x.2 (i + 1)) (x.2 (i + 2)) (x.2 (i + 3)) (f_N_lane (x.2 (i + 1)) (x.2 (i + 2)) (x.2 (i + 3)) h).2 hs o2 (fun hs => ?_)
  show zg x 300 268 560 (lwL i) [.int (f_M_lane (x.2 (i + 1)) (x.2 (i + 2)) (x.2 (i + 3)) (f_N_lane (x.2 (i + 1)) (x.2 (i + 2)) (x.2 (i + 3)) h).2).1, .int (f_N_lane (x.2 (i + 1)) (x.2 (i + 2)) (x.2 (i + 3)) h).1] (f_M_lane (x.2 (i + 1)) (x.2 (i + 2)) (x.2 (i + 3)) (f_N_lane (x.2 (i + 1)) (x.2 (i + 2)) (x.2 (i + 3)) h).2).2 Q
  exact zg_i_eq zd_268 (q _ _ rfl) (fun _ => kk _ hs I') (fun z => absurd o3 z)
def zcs_11 : List (Nat × zm_I) := [(565, 1, .aload_n 1, 0, 0, 0), (566, 1, .aload_n 0, 0, 0, 0), (567, 1, .iload_n 3, 0, 0, 0), (568, 1, .iconst 1, 0, 0, 1), (569, 1, .iadd, 0, 0, 0), (570, 1, .iaload, 0, 0, 0), (571, 1, .aload_n 0, 0, 0, 0), (572, 1, .iload_n 3, 0, 0, 0), (573, 1, .iconst 2, 0, 0, 2), (574, 1, .iadd, 0, 0, 0), (575, 1, .iaload, 0, 0, 0), (576, 1, .aload_n 0, 0, 0, 0), (577, 1, .iload_n 3, 0, 0, 0), (578, 1, .iconst 3, 0, 0, 3), (579, 1, .iadd, 0, 0, 0), (580, 1, .iaload, 0, 0, 0), (581, 3, .invokevirtual 62, 137, 4, 0), (584, 1, .aload_n 2, 0, 0, 0), (585, 1, .aload_n 0, 0, 0, 0), (586, 1, .iload_n 3, 0, 0, 0), (587, 1, .iconst 1, 0, 0, 1), (588, 1, .iadd, 0, 0, 0), (589, 1, .iaload, 0, 0, 0), (590, 1, .aload_n 0, 0, 0, 0), (591, 1, .iload_n 3, 0, 0, 0), (592, 1, .iconst 2, 0, 0, 2), (593, 1, .iadd, 0, 0, 0), (594, 1, .iaload, 0, 0, 0), (595, 1, .aload_n 0, 0, 0, 0), (596, 1, .iload_n 3, 0, 0, 0), (597, 1, .iconst 3, 0, 0, 3), (598, 1, .iadd, 0, 0, 0), (599, 1, .iaload, 0, 0, 0), (600, 3, .invokevirtual 65, 204, 4, 0), (603, 3, .if_icmp .eq 839, 1442, 0, 0), (606, 1, .iconst 0, 0, 0, 0), (607, 1, .ireturn, 0, 0, 0)]
set_option maxRecDepth 100000 in
theorem zcs_11_ok : ∀ e ∈ zcs_11, zc_268.lookup e.1 = some e.2 := by decide +kernel
set_option maxRecDepth 100000 in
set_option maxHeartbeats 2000000 in
theorem lw_c11 {x : zm_X} {i : Nat} {h : zm_H} {Q : Option Value → zm_H → Prop} (hs : zSh zT0 h) (I : Inv h) (hi : i + 6 ≤ x.1) (hx : x.1 ≤ 3072) (kk : ∀ h', zSh zT0 h' → Inv h' → zg x 300 268 1442 (lwL i) [] h' Q) : zg x 300 268 565 (lwL i) [] h Q := by
  have q : ∀ pc q, zcs_11.lookup pc = some q → zc_268.lookup pc = some q := fun pc q h => zcs_11_ok _ (zm_lk_mem _ _ _ h)
  obtain ⟨o1, o2, o3, I'⟩ := K_lay I (x.2 (i + 1)) (x.2 (i + 2)) (x.2 (i + 3))
  refine lw_al (pc := 565) (r := 0) (q _ _ rfl) rfl ?_
  refine lw_ar (pc := 566) (k := 1) hs (by omega) hx rfl (q _ _ rfl) (q _ _ rfl) (q _ _ rfl) (q _ _ rfl) (q _ _ rfl) ?_
  refine lw_ar (pc := 571) (k := 2) hs (by omega) hx rfl (q _ _ rfl) (q _ _ rfl) (q _ _ rfl) (q _ _ rfl) (q _ _ rfl) ?_
  refine lw_ar (pc := 576) (k := 3) hs (by omega) hx rfl (q _ _ rfl) (q _ _ rfl) (q _ _ rfl) (q _ _ rfl) (q _ _ rfl) ?_
  refine zg_call (pc := 581) hs zd_268 (q _ _ rfl) rfl rfl rfl (as := [.ref 0, .int (x.2 (i + 1)), .int (x.2 (i + 2)), .int (x.2 (i + 3))]) (rest := []) (en := [some (.ref 0), some (.int (x.2 (i + 1))), some (.int (x.2 (i + 2))), some (.int (x.2 (i + 3)))]) rfl rfl rfl rfl rfl ?_
  refine f_N_lay_t (x.2 (i + 1)) (x.2 (i + 2)) (x.2 (i + 3)) h hs o1 (fun hs => ?_)
  show zg x 300 268 584 (lwL i) [.int (f_N_lay (x.2 (i + 1)) (x.2 (i + 2)) (x.2 (i + 3)) h).1] (f_N_lay (x.2 (i + 1)) (x.2 (i + 2)) (x.2 (i + 3)) h).2 Q
  refine lw_al (pc := 584) (r := 92) (q _ _ rfl) rfl ?_
  refine lw_ar (pc := 585) (k := 1) hs (by omega) hx rfl (q _ _ rfl) (q _ _ rfl) (q _ _ rfl) (q _ _ rfl) (q _ _ rfl) ?_
  refine lw_ar (pc := 590) (k := 2) hs (by omega) hx rfl (q _ _ rfl) (q _ _ rfl) (q _ _ rfl) (q _ _ rfl) (q _ _ rfl) ?_
  refine lw_ar (pc := 595) (k := 3) hs (by omega) hx rfl (q _ _ rfl) (q _ _ rfl) (q _ _ rfl) (q _ _ rfl) (q _ _ rfl) ?_
  refine zg_call (pc := 600) hs zd_268 (q _ _ rfl) rfl rfl rfl (as := [.ref 92, .int (x.2 (i + 1)), .int (x.2 (i + 2)), .int (x.2 (i + 3))]) (rest := [.int (f_N_lay (x.2 (i + 1)) (x.2 (i + 2)) (x.2 (i + 3)) h).1]) (en := [some (.ref 92), some (.int (x.2 (i + 1))), some (.int (x.2 (i + 2))), some (.int (x.2 (i + 3)))]) rfl rfl rfl rfl rfl ?_
  refine f_M_lay_t (x.2 (i + 1)) (x.2 (i + 2)) (x.2 (i + 3)) (f_N_lay (x.2 (i + 1)) (x.2 (i + 2)) (x.2 (i + 3)) h).2 hs o2 (fun hs => ?_)
  show zg x 300 268 603 (lwL i) [.int (f_M_lay (x.2 (i + 1)) (x.2 (i + 2)) (x.2 (i + 3)) (f_N_lay (x.2 (i + 1)) (x.2 (i + 2)) (x.2 (i + 3)) h).2).1, .int (f_N_lay (x.2 (i + 1)) (x.2 (i + 2)) (x.2 (i + 3)) h).1] (f_M_lay (x.2 (i + 1)) (x.2 (i + 2)) (x.2 (i + 3)) (f_N_lay (x.2 (i + 1)) (x.2 (i + 2)) (x.2 (i + 3)) h).2).2 Q
  exact zg_i_eq zd_268 (q _ _ rfl) (fun _ => kk _ hs I') (fun z => absurd o3 z)
def zcs_12 : List (Nat × zm_I) := [(608, 1, .aload_n 1, 0, 0, 0), (609, 1, .aload_n 0, 0, 0, 0), (610, 1, .iload_n 3, 0, 0, 0), (611, 1, .iconst 1, 0, 0, 1), (612, 1, .iadd, 0, 0, 0), (613, 1, .iaload, 0, 0, 0), (614, 3, .invokevirtual 66, 141, 2, 0), (617, 1, .aload_n 2, 0, 0, 0), (618, 1, .aload_n 0, 0, 0, 0), (619, 1, .iload_n 3, 0, 0, 0), (620, 1, .iconst 1, 0, 0, 1), (621, 1, .iadd, 0, 0, 0), (622, 1, .iaload, 0, 0, 0), (623, 3, .invokevirtual 69, 214, 2, 0), (626, 3, .if_icmp .eq 816, 1442, 0, 0), (629, 1, .iconst 0, 0, 0, 0), (630, 1, .ireturn, 0, 0, 0)]
set_option maxRecDepth 100000 in
theorem zcs_12_ok : ∀ e ∈ zcs_12, zc_268.lookup e.1 = some e.2 := by decide +kernel
set_option maxRecDepth 100000 in
set_option maxHeartbeats 2000000 in
theorem lw_c12 {x : zm_X} {i : Nat} {h : zm_H} {Q : Option Value → zm_H → Prop} (hs : zSh zT0 h) (I : Inv h) (hi : i + 6 ≤ x.1) (hx : x.1 ≤ 3072) (kk : ∀ h', zSh zT0 h' → Inv h' → zg x 300 268 1442 (lwL i) [] h' Q) : zg x 300 268 608 (lwL i) [] h Q := by
  have q : ∀ pc q, zcs_12.lookup pc = some q → zc_268.lookup pc = some q := fun pc q h => zcs_12_ok _ (zm_lk_mem _ _ _ h)
  obtain ⟨o1, o2, o3, I'⟩ := K_base I (x.2 (i + 1))
  refine lw_al (pc := 608) (r := 0) (q _ _ rfl) rfl ?_
  refine lw_ar (pc := 609) (k := 1) hs (by omega) hx rfl (q _ _ rfl) (q _ _ rfl) (q _ _ rfl) (q _ _ rfl) (q _ _ rfl) ?_
  refine zg_call (pc := 614) hs zd_268 (q _ _ rfl) rfl rfl rfl (as := [.ref 0, .int (x.2 (i + 1))]) (rest := []) (en := [some (.ref 0), some (.int (x.2 (i + 1)))]) rfl rfl rfl rfl rfl ?_
  refine f_N_base_t (x.2 (i + 1)) h hs o1 (fun hs => ?_)
  show zg x 300 268 617 (lwL i) [.int (f_N_base (x.2 (i + 1)) h).1] (f_N_base (x.2 (i + 1)) h).2 Q
  refine lw_al (pc := 617) (r := 92) (q _ _ rfl) rfl ?_
  refine lw_ar (pc := 618) (k := 1) hs (by omega) hx rfl (q _ _ rfl) (q _ _ rfl) (q _ _ rfl) (q _ _ rfl) (q _ _ rfl) ?_
  refine zg_call (pc := 623) hs zd_268 (q _ _ rfl) rfl rfl rfl (as := [.ref 92, .int (x.2 (i + 1))]) (rest := [.int (f_N_base (x.2 (i + 1)) h).1]) (en := [some (.ref 92), some (.int (x.2 (i + 1)))]) rfl rfl rfl rfl rfl ?_
  refine f_M_base_t (x.2 (i + 1)) (f_N_base (x.2 (i + 1)) h).2 hs o2 (fun hs => ?_)
  show zg x 300 268 626 (lwL i) [.int (f_M_base (x.2 (i + 1)) (f_N_base (x.2 (i + 1)) h).2).1, .int (f_N_base (x.2 (i + 1)) h).1] (f_M_base (x.2 (i + 1)) (f_N_base (x.2 (i + 1)) h).2).2 Q
  exact zg_i_eq zd_268 (q _ _ rfl) (fun _ => kk _ hs I') (fun z => absurd o3 z)
def zcs_13 : List (Nat × zm_I) := [(631, 1, .aload_n 1, 0, 0, 0), (632, 1, .aload_n 0, 0, 0, 0), (633, 1, .iload_n 3, 0, 0, 0), (634, 1, .iconst 1, 0, 0, 1), (635, 1, .iadd, 0, 0, 0), (636, 1, .iaload, 0, 0, 0), (637, 3, .invokevirtual 70, 142, 2, 0), (640, 1, .aload_n 2, 0, 0, 0), (641, 1, .aload_n 0, 0, 0, 0), (642, 1, .iload_n 3, 0, 0, 0), (643, 1, .iconst 1, 0, 0, 1), (644, 1, .iadd, 0, 0, 0), (645, 1, .iaload, 0, 0, 0), (646, 3, .invokevirtual 73, 215, 2, 0), (649, 3, .if_icmp .eq 793, 1442, 0, 0), (652, 1, .iconst 0, 0, 0, 0), (653, 1, .ireturn, 0, 0, 0)]
set_option maxRecDepth 100000 in
theorem zcs_13_ok : ∀ e ∈ zcs_13, zc_268.lookup e.1 = some e.2 := by decide +kernel
set_option maxRecDepth 100000 in
set_option maxHeartbeats 2000000 in
theorem lw_c13 {x : zm_X} {i : Nat} {h : zm_H} {Q : Option Value → zm_H → Prop} (hs : zSh zT0 h) (I : Inv h) (hi : i + 6 ≤ x.1) (hx : x.1 ≤ 3072) (kk : ∀ h', zSh zT0 h' → Inv h' → zg x 300 268 1442 (lwL i) [] h' Q) : zg x 300 268 631 (lwL i) [] h Q := by
  have q : ∀ pc q, zcs_13.lookup pc = some q → zc_268.lookup pc = some q := fun pc q h => zcs_13_ok _ (zm_lk_mem _ _ _ h)
  obtain ⟨o1, o2, o3, I'⟩ := K_rated I (x.2 (i + 1))
  refine lw_al (pc := 631) (r := 0) (q _ _ rfl) rfl ?_
  refine lw_ar (pc := 632) (k := 1) hs (by omega) hx rfl (q _ _ rfl) (q _ _ rfl) (q _ _ rfl) (q _ _ rfl) (q _ _ rfl) ?_
  refine zg_call (pc := 637) hs zd_268 (q _ _ rfl) rfl rfl rfl (as := [.ref 0, .int (x.2 (i + 1))]) (rest := []) (en := [some (.ref 0), some (.int (x.2 (i + 1)))]) rfl rfl rfl rfl rfl ?_
  refine f_N_rated_t (x.2 (i + 1)) h hs o1 (fun hs => ?_)
  show zg x 300 268 640 (lwL i) [.int (f_N_rated (x.2 (i + 1)) h).1] (f_N_rated (x.2 (i + 1)) h).2 Q
  refine lw_al (pc := 640) (r := 92) (q _ _ rfl) rfl ?_
  refine lw_ar (pc := 641) (k := 1) hs (by omega) hx rfl (q _ _ rfl) (q _ _ rfl) (q _ _ rfl) (q _ _ rfl) (q _ _ rfl) ?_
  refine zg_call (pc := 646) hs zd_268 (q _ _ rfl) rfl rfl rfl (as := [.ref 92, .int (x.2 (i + 1))]) (rest := [.int (f_N_rated (x.2 (i + 1)) h).1]) (en := [some (.ref 92), some (.int (x.2 (i + 1)))]) rfl rfl rfl rfl rfl ?_
  refine f_M_rated_t (x.2 (i + 1)) (f_N_rated (x.2 (i + 1)) h).2 hs o2 (fun hs => ?_)
  show zg x 300 268 649 (lwL i) [.int (f_M_rated (x.2 (i + 1)) (f_N_rated (x.2 (i + 1)) h).2).1, .int (f_N_rated (x.2 (i + 1)) h).1] (f_M_rated (x.2 (i + 1)) (f_N_rated (x.2 (i + 1)) h).2).2 Q
  exact zg_i_eq zd_268 (q _ _ rfl) (fun _ => kk _ hs I') (fun z => absurd o3 z)
def zcs_14 : List (Nat × zm_I) := [(654, 1, .aload_n 1, 0, 0, 0), (655, 1, .aload_n 0, 0, 0, 0), (656, 1, .iload_n 3, 0, 0, 0), (657, 1, .iconst 1, 0, 0, 1), (658, 1, .iadd, 0, 0, 0), (659, 1, .iaload, 0, 0, 0), (660, 3, .invokevirtual 74, 143, 2, 0), (663, 1, .aload_n 2, 0, 0, 0), (664, 1, .aload_n 0, 0, 0, 0), (665, 1, .iload_n 3, 0, 0, 0), (666, 1, .iconst 1, 0, 0, 1), (667, 1, .iadd, 0, 0, 0), (668, 1, .iaload, 0, 0, 0), (669, 3, .invokevirtual 78, 216, 2, 0), (672, 3, .if_icmp .eq 770, 1442, 0, 0), (675, 1, .iconst 0, 0, 0, 0), (676, 1, .ireturn, 0, 0, 0)]
set_option maxRecDepth 100000 in
theorem zcs_14_ok : ∀ e ∈ zcs_14, zc_268.lookup e.1 = some e.2 := by decide +kernel
set_option maxRecDepth 100000 in
set_option maxHeartbeats 2000000 in
theorem lw_c14 {x : zm_X} {i : Nat} {h : zm_H} {Q : Option Value → zm_H → Prop} (hs : zSh zT0 h) (I : Inv h) (hi : i + 6 ≤ x.1) (hx : x.1 ≤ 3072) (kk : ∀ h', zSh zT0 h' → Inv h' → zg x 300 268 1442 (lwL i) [] h' Q) : zg x 300 268 654 (lwL i) [] h Q := by
  have q : ∀ pc q, zcs_14.lookup pc = some q → zc_268.lookup pc = some q := fun pc q h => zcs_14_ok _ (zm_lk_mem _ _ _ h)
  obtain ⟨o1, o2, o3, I'⟩ := K_go I (x.2 (i + 1))
  refine lw_al (pc := 654) (r := 0) (q _ _ rfl) rfl ?_
  refine lw_ar (pc := 655) (k := 1) hs (by omega) hx rfl (q _ _ rfl) (q _ _ rfl) (q _ _ rfl) (q _ _ rfl) (q _ _ rfl) ?_
  refine zg_call (pc := 660) hs zd_268 (q _ _ rfl) rfl rfl rfl (as := [.ref 0, .int (x.2 (i + 1))]) (rest := []) (en := [some (.ref 0), some (.int (x.2 (i + 1))), none]) rfl rfl rfl rfl rfl ?_
  refine f_N_go_t (x.2 (i + 1)) h hs o1 (fun hs => ?_)
  show zg x 300 268 663 (lwL i) [.int (f_N_go (x.2 (i + 1)) h).1] (f_N_go (x.2 (i + 1)) h).2 Q
  refine lw_al (pc := 663) (r := 92) (q _ _ rfl) rfl ?_
  refine lw_ar (pc := 664) (k := 1) hs (by omega) hx rfl (q _ _ rfl) (q _ _ rfl) (q _ _ rfl) (q _ _ rfl) (q _ _ rfl) ?_
  refine zg_call (pc := 669) hs zd_268 (q _ _ rfl) rfl rfl rfl (as := [.ref 92, .int (x.2 (i + 1))]) (rest := [.int (f_N_go (x.2 (i + 1)) h).1]) (en := [some (.ref 92), some (.int (x.2 (i + 1))), none]) rfl rfl rfl rfl rfl ?_
  refine f_M_go_t (x.2 (i + 1)) (f_N_go (x.2 (i + 1)) h).2 hs o2 (fun hs => ?_)
  show zg x 300 268 672 (lwL i) [.int (f_M_go (x.2 (i + 1)) (f_N_go (x.2 (i + 1)) h).2).1, .int (f_N_go (x.2 (i + 1)) h).1] (f_M_go (x.2 (i + 1)) (f_N_go (x.2 (i + 1)) h).2).2 Q
  exact zg_i_eq zd_268 (q _ _ rfl) (fun _ => kk _ hs I') (fun z => absurd o3 z)
def zcs_15 : List (Nat × zm_I) := [(677, 1, .aload_n 1, 0, 0, 0), (678, 1, .aload_n 0, 0, 0, 0), (679, 1, .iload_n 3, 0, 0, 0), (680, 1, .iconst 1, 0, 0, 1), (681, 1, .iadd, 0, 0, 0), (682, 1, .iaload, 0, 0, 0), (683, 1, .aload_n 0, 0, 0, 0), (684, 1, .iload_n 3, 0, 0, 0), (685, 1, .iconst 2, 0, 0, 2), (686, 1, .iadd, 0, 0, 0), (687, 1, .iaload, 0, 0, 0), (688, 3, .invokevirtual 79, 145, 3, 0), (691, 1, .aload_n 2, 0, 0, 0), (692, 1, .aload_n 0, 0, 0, 0), (693, 1, .iload_n 3, 0, 0, 0), (694, 1, .iconst 1, 0, 0, 1), (695, 1, .iadd, 0, 0, 0), (696, 1, .iaload, 0, 0, 0), (697, 1, .aload_n 0, 0, 0, 0), (698, 1, .iload_n 3, 0, 0, 0), (699, 1, .iconst 2, 0, 0, 2), (700, 1, .iadd, 0, 0, 0), (701, 1, .iaload, 0, 0, 0), (702, 3, .invokevirtual 82, 231, 3, 0), (705, 3, .if_icmp .eq 737, 1442, 0, 0), (708, 1, .iconst 0, 0, 0, 0), (709, 1, .ireturn, 0, 0, 0)]
set_option maxRecDepth 100000 in
theorem zcs_15_ok : ∀ e ∈ zcs_15, zc_268.lookup e.1 = some e.2 := by decide +kernel
set_option maxRecDepth 100000 in
set_option maxHeartbeats 2000000 in
theorem lw_c15 {x : zm_X} {i : Nat} {h : zm_H} {Q : Option Value → zm_H → Prop} (hs : zSh zT0 h) (I : Inv h) (hi : i + 6 ≤ x.1) (hx : x.1 ≤ 3072) (kk : ∀ h', zSh zT0 h' → Inv h' → zg x 300 268 1442 (lwL i) [] h' Q) : zg x 300 268 677 (lwL i) [] h Q := by
  have q : ∀ pc q, zcs_15.lookup pc = some q → zc_268.lookup pc = some q := fun pc q h => zcs_15_ok _ (zm_lk_mem _ _ _ h)
  obtain ⟨o1, o2, o3⟩ := K_told I (x.2 (i + 1)) (x.2 (i + 2))
  refine lw_al (pc := 677) (r := 0) (q _ _ rfl) rfl ?_
  refine lw_ar (pc := 678) (k := 1) hs (by omega) hx rfl (q _ _ rfl) (q _ _ rfl) (q _ _ rfl) (q _ _ rfl) (q _ _ rfl) ?_
  refine lw_ar (pc := 683) (k := 2) hs (by omega) hx rfl (q _ _ rfl) (q _ _ rfl) (q _ _ rfl) (q _ _ rfl) (q _ _ rfl) ?_
  refine zg_call (pc := 688) hs zd_268 (q _ _ rfl) rfl rfl rfl (as := [.ref 0, .int (x.2 (i + 1)), .int (x.2 (i + 2))]) (rest := []) (en := [some (.ref 0), some (.int (x.2 (i + 1))), some (.int (x.2 (i + 2)))]) rfl rfl rfl rfl rfl ?_
  refine f_N_told_t (x.2 (i + 1)) (x.2 (i + 2)) h hs o1 ?_
  show zg x 300 268 691 (lwL i) [.int (f_N_told (x.2 (i + 1)) (x.2 (i + 2)) h)] h Q
  refine lw_al (pc := 691) (r := 92) (q _ _ rfl) rfl ?_
  refine lw_ar (pc := 692) (k := 1) hs (by omega) hx rfl (q _ _ rfl) (q _ _ rfl) (q _ _ rfl) (q _ _ rfl) (q _ _ rfl) ?_
  refine lw_ar (pc := 697) (k := 2) hs (by omega) hx rfl (q _ _ rfl) (q _ _ rfl) (q _ _ rfl) (q _ _ rfl) (q _ _ rfl) ?_
  refine zg_call (pc := 702) hs zd_268 (q _ _ rfl) rfl rfl rfl (as := [.ref 92, .int (x.2 (i + 1)), .int (x.2 (i + 2))]) (rest := [.int (f_N_told (x.2 (i + 1)) (x.2 (i + 2)) h)]) (en := [some (.ref 92), some (.int (x.2 (i + 1))), some (.int (x.2 (i + 2)))]) rfl rfl rfl rfl rfl ?_
  refine f_M_told_t (x.2 (i + 1)) (x.2 (i + 2)) h hs o2 ?_
  show zg x 300 268 705 (lwL i) [.int (f_M_told (x.2 (i + 1)) (x.2 (i + 2)) h), .int (f_N_told (x.2 (i + 1)) (x.2 (i + 2)) h)] h Q
  exact zg_i_eq zd_268 (q _ _ rfl) (fun _ => kk _ hs I) (fun z => absurd o3 z)
def zcs_16 : List (Nat × zm_I) := [(710, 1, .aload_n 1, 0, 0, 0), (711, 1, .aload_n 0, 0, 0, 0), (712, 1, .iload_n 3, 0, 0, 0), (713, 1, .iconst 1, 0, 0, 1), (714, 1, .iadd, 0, 0, 0), (715, 1, .iaload, 0, 0, 0), (716, 1, .aload_n 0, 0, 0, 0), (717, 1, .iload_n 3, 0, 0, 0), (718, 1, .iconst 2, 0, 0, 2), (719, 1, .iadd, 0, 0, 0), (720, 1, .iaload, 0, 0, 0), (721, 3, .invokevirtual 83, 146, 3, 0), (724, 1, .aload_n 2, 0, 0, 0), (725, 1, .aload_n 0, 0, 0, 0), (726, 1, .iload_n 3, 0, 0, 0), (727, 1, .iconst 1, 0, 0, 1), (728, 1, .iadd, 0, 0, 0), (729, 1, .iaload, 0, 0, 0), (730, 1, .aload_n 0, 0, 0, 0), (731, 1, .iload_n 3, 0, 0, 0), (732, 1, .iconst 2, 0, 0, 2), (733, 1, .iadd, 0, 0, 0), (734, 1, .iaload, 0, 0, 0), (735, 3, .invokevirtual 86, 233, 3, 0), (738, 3, .if_icmp .eq 704, 1442, 0, 0), (741, 1, .iconst 0, 0, 0, 0), (742, 1, .ireturn, 0, 0, 0)]
set_option maxRecDepth 100000 in
theorem zcs_16_ok : ∀ e ∈ zcs_16, zc_268.lookup e.1 = some e.2 := by decide +kernel
set_option maxRecDepth 100000 in
set_option maxHeartbeats 2000000 in
theorem lw_c16 {x : zm_X} {i : Nat} {h : zm_H} {Q : Option Value → zm_H → Prop} (hs : zSh zT0 h) (I : Inv h) (hi : i + 6 ≤ x.1) (hx : x.1 ≤ 3072) (kk : ∀ h', zSh zT0 h' → Inv h' → zg x 300 268 1442 (lwL i) [] h' Q) : zg x 300 268 710 (lwL i) [] h Q := by
  have q : ∀ pc q, zcs_16.lookup pc = some q → zc_268.lookup pc = some q := fun pc q h => zcs_16_ok _ (zm_lk_mem _ _ _ h)
  obtain ⟨o1, o2, o3⟩ := K_booked I (x.2 (i + 1)) (x.2 (i + 2))
  refine lw_al (pc := 710) (r := 0) (q _ _ rfl) rfl ?_
  refine lw_ar (pc := 711) (k := 1) hs (by omega) hx rfl (q _ _ rfl) (q _ _ rfl) (q _ _ rfl) (q _ _ rfl) (q _ _ rfl) ?_
  refine lw_ar (pc := 716) (k := 2) hs (by omega) hx rfl (q _ _ rfl) (q _ _ rfl) (q _ _ rfl) (q _ _ rfl) (q _ _ rfl) ?_
  refine zg_call (pc := 721) hs zd_268 (q _ _ rfl) rfl rfl rfl (as := [.ref 0, .int (x.2 (i + 1)), .int (x.2 (i + 2))]) (rest := []) (en := [some (.ref 0), some (.int (x.2 (i + 1))), some (.int (x.2 (i + 2)))]) rfl rfl rfl rfl rfl ?_
  refine f_N_booked_t (x.2 (i + 1)) (x.2 (i + 2)) h hs o1 ?_
  show zg x 300 268 724 (lwL i) [.int (f_N_booked (x.2 (i + 1)) (x.2 (i + 2)) h)] h Q
  refine lw_al (pc := 724) (r := 92) (q _ _ rfl) rfl ?_
  refine lw_ar (pc := 725) (k := 1) hs (by omega) hx rfl (q _ _ rfl) (q _ _ rfl) (q _ _ rfl) (q _ _ rfl) (q _ _ rfl) ?_
  refine lw_ar (pc := 730) (k := 2) hs (by omega) hx rfl (q _ _ rfl) (q _ _ rfl) (q _ _ rfl) (q _ _ rfl) (q _ _ rfl) ?_
  refine zg_call (pc := 735) hs zd_268 (q _ _ rfl) rfl rfl rfl (as := [.ref 92, .int (x.2 (i + 1)), .int (x.2 (i + 2))]) (rest := [.int (f_N_booked (x.2 (i + 1)) (x.2 (i + 2)) h)]) (en := [some (.ref 92), some (.int (x.2 (i + 1))), some (.int (x.2 (i + 2)))]) rfl rfl rfl rfl rfl ?_
  refine f_M_booked_t (x.2 (i + 1)) (x.2 (i + 2)) h hs o2 ?_
  show zg x 300 268 738 (lwL i) [.int (f_M_booked (x.2 (i + 1)) (x.2 (i + 2)) h), .int (f_N_booked (x.2 (i + 1)) (x.2 (i + 2)) h)] h Q
  exact zg_i_eq zd_268 (q _ _ rfl) (fun _ => kk _ hs I) (fun z => absurd o3 z)
def zcs_17 : List (Nat × zm_I) := [(743, 1, .aload_n 1, 0, 0, 0), (744, 1, .aload_n 0, 0, 0, 0), (745, 1, .iload_n 3, 0, 0, 0), (746, 1, .iconst 1, 0, 0, 1), (747, 1, .iadd, 0, 0, 0), (748, 1, .iaload, 0, 0, 0), (749, 1, .aload_n 0, 0, 0, 0), (750, 1, .iload_n 3, 0, 0, 0), (751, 1, .iconst 2, 0, 0, 2), (752, 1, .iadd, 0, 0, 0), (753, 1, .iaload, 0, 0, 0), (754, 1, .aload_n 0, 0, 0, 0), (755, 1, .iload_n 3, 0, 0, 0), (756, 1, .iconst 3, 0, 0, 3), (757, 1, .iadd, 0, 0, 0), (758, 1, .iaload, 0, 0, 0), (759, 3, .invokevirtual 87, 148, 4, 0), (762, 1, .aload_n 2, 0, 0, 0), (763, 1, .aload_n 0, 0, 0, 0), (764, 1, .iload_n 3, 0, 0, 0), (765, 1, .iconst 1, 0, 0, 1), (766, 1, .iadd, 0, 0, 0), (767, 1, .iaload, 0, 0, 0), (768, 1, .aload_n 0, 0, 0, 0), (769, 1, .iload_n 3, 0, 0, 0), (770, 1, .iconst 2, 0, 0, 2), (771, 1, .iadd, 0, 0, 0), (772, 1, .iaload, 0, 0, 0), (773, 1, .aload_n 0, 0, 0, 0), (774, 1, .iload_n 3, 0, 0, 0), (775, 1, .iconst 3, 0, 0, 3), (776, 1, .iadd, 0, 0, 0), (777, 1, .iaload, 0, 0, 0), (778, 3, .invokevirtual 90, 236, 4, 0), (781, 3, .if_icmp .eq 661, 1442, 0, 0), (784, 1, .iconst 0, 0, 0, 0), (785, 1, .ireturn, 0, 0, 0)]
set_option maxRecDepth 100000 in
theorem zcs_17_ok : ∀ e ∈ zcs_17, zc_268.lookup e.1 = some e.2 := by decide +kernel
set_option maxRecDepth 100000 in
set_option maxHeartbeats 2000000 in
theorem lw_c17 {x : zm_X} {i : Nat} {h : zm_H} {Q : Option Value → zm_H → Prop} (hs : zSh zT0 h) (I : Inv h) (hi : i + 6 ≤ x.1) (hx : x.1 ≤ 3072) (kk : ∀ h', zSh zT0 h' → Inv h' → zg x 300 268 1442 (lwL i) [] h' Q) : zg x 300 268 743 (lwL i) [] h Q := by
  have q : ∀ pc q, zcs_17.lookup pc = some q → zc_268.lookup pc = some q := fun pc q h => zcs_17_ok _ (zm_lk_mem _ _ _ h)
  obtain ⟨o1, o2, o3, I'⟩ := K_right I (x.2 (i + 1)) (x.2 (i + 2)) (x.2 (i + 3))
  refine lw_al (pc := 743) (r := 0) (q _ _ rfl) rfl ?_
  refine lw_ar (pc := 744) (k := 1) hs (by omega) hx rfl (q _ _ rfl) (q _ _ rfl) (q _ _ rfl) (q _ _ rfl) (q _ _ rfl) ?_
  refine lw_ar (pc := 749) (k := 2) hs (by omega) hx rfl (q _ _ rfl) (q _ _ rfl) (q _ _ rfl) (q _ _ rfl) (q _ _ rfl) ?_
  refine lw_ar (pc := 754) (k := 3) hs (by omega) hx rfl (q _ _ rfl) (q _ _ rfl) (q _ _ rfl) (q _ _ rfl) (q _ _ rfl) ?_
  refine zg_call (pc := 759) hs zd_268 (q _ _ rfl) rfl rfl rfl (as := [.ref 0, .int (x.2 (i + 1)), .int (x.2 (i + 2)), .int (x.2 (i + 3))]) (rest := []) (en := [some (.ref 0), some (.int (x.2 (i + 1))), some (.int (x.2 (i + 2))), some (.int (x.2 (i + 3)))]) rfl rfl rfl rfl rfl ?_
  refine f_N_right_t (x.2 (i + 1)) (x.2 (i + 2)) (x.2 (i + 3)) h hs o1 (fun hs => ?_)
  show zg x 300 268 762 (lwL i) [.int (f_N_right (x.2 (i + 1)) (x.2 (i + 2)) (x.2 (i + 3)) h).1] (f_N_right (x.2 (i + 1)) (x.2 (i + 2)) (x.2 (i + 3)) h).2 Q
  refine lw_al (pc := 762) (r := 92) (q _ _ rfl) rfl ?_
  refine lw_ar (pc := 763) (k := 1) hs (by omega) hx rfl (q _ _ rfl) (q _ _ rfl) (q _ _ rfl) (q _ _ rfl) (q _ _ rfl) ?_
  refine lw_ar (pc := 768) (k := 2) hs (by omega) hx rfl (q _ _ rfl) (q _ _ rfl) (q _ _ rfl) (q _ _ rfl) (q _ _ rfl) ?_
  refine lw_ar (pc := 773) (k := 3) hs (by omega) hx rfl (q _ _ rfl) (q _ _ rfl) (q _ _ rfl) (q _ _ rfl) (q _ _ rfl) ?_
  refine zg_call (pc := 778) hs zd_268 (q _ _ rfl) rfl rfl rfl (as := [.ref 92, .int (x.2 (i + 1)), .int (x.2 (i + 2)), .int (x.2 (i + 3))]) (rest := [.int (f_N_right (x.2 (i + 1)) (x.2 (i + 2)) (x.2 (i + 3)) h).1]) (en := [some (.ref 92), some (.int (x.2 (i + 1))), some (.int (x.2 (i + 2))), some (.int (x.2 (i + 3)))]) rfl rfl rfl rfl rfl ?_
  refine f_M_right_t (x.2 (i + 1)) (x.2 (i + 2)) (x.2 (i + 3)) (f_N_right (x.2 (i + 1)) (x.2 (i + 2)) (x.2 (i + 3)) h).2 hs o2 (fun hs => ?_)
  show zg x 300 268 781 (lwL i) [.int (f_M_right (x.2 (i + 1)) (x.2 (i + 2)) (x.2 (i + 3)) (f_N_right (x.2 (i + 1)) (x.2 (i + 2)) (x.2 (i + 3)) h).2).1, .int (f_N_right (x.2 (i + 1)) (x.2 (i + 2)) (x.2 (i + 3)) h).1] (f_M_right (x.2 (i + 1)) (x.2 (i + 2)) (x.2 (i + 3)) (f_N_right (x.2 (i + 1)) (x.2 (i + 2)) (x.2 (i + 3)) h).2).2 Q
  exact zg_i_eq zd_268 (q _ _ rfl) (fun _ => kk _ hs I') (fun z => absurd o3 z)
def zcs_18 : List (Nat × zm_I) := [(786, 1, .aload_n 1, 0, 0, 0), (787, 1, .aload_n 0, 0, 0, 0), (788, 1, .iload_n 3, 0, 0, 0), (789, 1, .iconst 1, 0, 0, 1), (790, 1, .iadd, 0, 0, 0), (791, 1, .iaload, 0, 0, 0), (792, 1, .aload_n 0, 0, 0, 0), (793, 1, .iload_n 3, 0, 0, 0), (794, 1, .iconst 2, 0, 0, 2), (795, 1, .iadd, 0, 0, 0), (796, 1, .iaload, 0, 0, 0), (797, 3, .invokevirtual 91, 150, 3, 0), (800, 1, .aload_n 2, 0, 0, 0), (801, 1, .aload_n 0, 0, 0, 0), (802, 1, .iload_n 3, 0, 0, 0), (803, 1, .iconst 1, 0, 0, 1), (804, 1, .iadd, 0, 0, 0), (805, 1, .iaload, 0, 0, 0), (806, 1, .aload_n 0, 0, 0, 0), (807, 1, .iload_n 3, 0, 0, 0), (808, 1, .iconst 2, 0, 0, 2), (809, 1, .iadd, 0, 0, 0), (810, 1, .iaload, 0, 0, 0), (811, 3, .invokevirtual 94, 239, 3, 0), (814, 3, .if_icmp .eq 628, 1442, 0, 0), (817, 1, .iconst 0, 0, 0, 0), (818, 1, .ireturn, 0, 0, 0)]
set_option maxRecDepth 100000 in
theorem zcs_18_ok : ∀ e ∈ zcs_18, zc_268.lookup e.1 = some e.2 := by decide +kernel
set_option maxRecDepth 100000 in
set_option maxHeartbeats 2000000 in
theorem lw_c18 {x : zm_X} {i : Nat} {h : zm_H} {Q : Option Value → zm_H → Prop} (hs : zSh zT0 h) (I : Inv h) (hi : i + 6 ≤ x.1) (hx : x.1 ≤ 3072) (kk : ∀ h', zSh zT0 h' → Inv h' → zg x 300 268 1442 (lwL i) [] h' Q) : zg x 300 268 786 (lwL i) [] h Q := by
  have q : ∀ pc q, zcs_18.lookup pc = some q → zc_268.lookup pc = some q := fun pc q h => zcs_18_ok _ (zm_lk_mem _ _ _ h)
  obtain ⟨o1, o2, o3, I'⟩ := K_owed I (x.2 (i + 1)) (x.2 (i + 2))
  refine lw_al (pc := 786) (r := 0) (q _ _ rfl) rfl ?_
  refine lw_ar (pc := 787) (k := 1) hs (by omega) hx rfl (q _ _ rfl) (q _ _ rfl) (q _ _ rfl) (q _ _ rfl) (q _ _ rfl) ?_
  refine lw_ar (pc := 792) (k := 2) hs (by omega) hx rfl (q _ _ rfl) (q _ _ rfl) (q _ _ rfl) (q _ _ rfl) (q _ _ rfl) ?_
  refine zg_call (pc := 797) hs zd_268 (q _ _ rfl) rfl rfl rfl (as := [.ref 0, .int (x.2 (i + 1)), .int (x.2 (i + 2))]) (rest := []) (en := [some (.ref 0), some (.int (x.2 (i + 1))), some (.int (x.2 (i + 2))), none, none]) rfl rfl rfl rfl rfl ?_
  refine f_N_owed_t (x.2 (i + 1)) (x.2 (i + 2)) h hs o1 (fun hs => ?_)
  show zg x 300 268 800 (lwL i) [.int (f_N_owed (x.2 (i + 1)) (x.2 (i + 2)) h).1] (f_N_owed (x.2 (i + 1)) (x.2 (i + 2)) h).2 Q
  refine lw_al (pc := 800) (r := 92) (q _ _ rfl) rfl ?_
  refine lw_ar (pc := 801) (k := 1) hs (by omega) hx rfl (q _ _ rfl) (q _ _ rfl) (q _ _ rfl) (q _ _ rfl) (q _ _ rfl) ?_
  refine lw_ar (pc := 806) (k := 2) hs (by omega) hx rfl (q _ _ rfl) (q _ _ rfl) (q _ _ rfl) (q _ _ rfl) (q _ _ rfl) ?_
  refine zg_call (pc := 811) hs zd_268 (q _ _ rfl) rfl rfl rfl (as := [.ref 92, .int (x.2 (i + 1)), .int (x.2 (i + 2))]) (rest := [.int (f_N_owed (x.2 (i + 1)) (x.2 (i + 2)) h).1]) (en := [some (.ref 92), some (.int (x.2 (i + 1))), some (.int (x.2 (i + 2))), none, none]) rfl rfl rfl rfl rfl ?_
  refine f_M_owed_t (x.2 (i + 1)) (x.2 (i + 2)) (f_N_owed (x.2 (i + 1)) (x.2 (i + 2)) h).2 hs o2 (fun hs => ?_)
  show zg x 300 268 814 (lwL i) [.int (f_M_owed (x.2 (i + 1)) (x.2 (i + 2)) (f_N_owed (x.2 (i + 1)) (x.2 (i + 2)) h).2).1, .int (f_N_owed (x.2 (i + 1)) (x.2 (i + 2)) h).1] (f_M_owed (x.2 (i + 1)) (x.2 (i + 2)) (f_N_owed (x.2 (i + 1)) (x.2 (i + 2)) h).2).2 Q
  exact zg_i_eq zd_268 (q _ _ rfl) (fun _ => kk _ hs I') (fun z => absurd o3 z)
def zcs_19 : List (Nat × zm_I) := [(819, 1, .aload_n 1, 0, 0, 0), (820, 1, .aload_n 0, 0, 0, 0), (821, 1, .iload_n 3, 0, 0, 0), (822, 1, .iconst 1, 0, 0, 1), (823, 1, .iadd, 0, 0, 0), (824, 1, .iaload, 0, 0, 0), (825, 1, .aload_n 0, 0, 0, 0), (826, 1, .iload_n 3, 0, 0, 0), (827, 1, .iconst 2, 0, 0, 2), (828, 1, .iadd, 0, 0, 0), (829, 1, .iaload, 0, 0, 0), (830, 3, .invokevirtual 95, 151, 3, 0), (833, 1, .aload_n 2, 0, 0, 0), (834, 1, .aload_n 0, 0, 0, 0), (835, 1, .iload_n 3, 0, 0, 0), (836, 1, .iconst 1, 0, 0, 1), (837, 1, .iadd, 0, 0, 0), (838, 1, .iaload, 0, 0, 0), (839, 1, .aload_n 0, 0, 0, 0), (840, 1, .iload_n 3, 0, 0, 0), (841, 1, .iconst 2, 0, 0, 2), (842, 1, .iadd, 0, 0, 0), (843, 1, .iaload, 0, 0, 0), (844, 3, .invokevirtual 98, 240, 3, 0), (847, 3, .if_icmp .eq 595, 1442, 0, 0), (850, 1, .iconst 0, 0, 0, 0), (851, 1, .ireturn, 0, 0, 0)]
set_option maxRecDepth 100000 in
theorem zcs_19_ok : ∀ e ∈ zcs_19, zc_268.lookup e.1 = some e.2 := by decide +kernel
set_option maxRecDepth 100000 in
set_option maxHeartbeats 2000000 in
theorem lw_c19 {x : zm_X} {i : Nat} {h : zm_H} {Q : Option Value → zm_H → Prop} (hs : zSh zT0 h) (I : Inv h) (hi : i + 6 ≤ x.1) (hx : x.1 ≤ 3072) (kk : ∀ h', zSh zT0 h' → Inv h' → zg x 300 268 1442 (lwL i) [] h' Q) : zg x 300 268 819 (lwL i) [] h Q := by
  have q : ∀ pc q, zcs_19.lookup pc = some q → zc_268.lookup pc = some q := fun pc q h => zcs_19_ok _ (zm_lk_mem _ _ _ h)
  obtain ⟨o1, o2, o3, I'⟩ := K_would I (x.2 (i + 1)) (x.2 (i + 2))
  refine lw_al (pc := 819) (r := 0) (q _ _ rfl) rfl ?_
  refine lw_ar (pc := 820) (k := 1) hs (by omega) hx rfl (q _ _ rfl) (q _ _ rfl) (q _ _ rfl) (q _ _ rfl) (q _ _ rfl) ?_
  refine lw_ar (pc := 825) (k := 2) hs (by omega) hx rfl (q _ _ rfl) (q _ _ rfl) (q _ _ rfl) (q _ _ rfl) (q _ _ rfl) ?_
  refine zg_call (pc := 830) hs zd_268 (q _ _ rfl) rfl rfl rfl (as := [.ref 0, .int (x.2 (i + 1)), .int (x.2 (i + 2))]) (rest := []) (en := [some (.ref 0), some (.int (x.2 (i + 1))), some (.int (x.2 (i + 2)))]) rfl rfl rfl rfl rfl ?_
  refine f_N_would_t (x.2 (i + 1)) (x.2 (i + 2)) h hs o1 (fun hs => ?_)
  show zg x 300 268 833 (lwL i) [.int (f_N_would (x.2 (i + 1)) (x.2 (i + 2)) h).1] (f_N_would (x.2 (i + 1)) (x.2 (i + 2)) h).2 Q
  refine lw_al (pc := 833) (r := 92) (q _ _ rfl) rfl ?_
  refine lw_ar (pc := 834) (k := 1) hs (by omega) hx rfl (q _ _ rfl) (q _ _ rfl) (q _ _ rfl) (q _ _ rfl) (q _ _ rfl) ?_
  refine lw_ar (pc := 839) (k := 2) hs (by omega) hx rfl (q _ _ rfl) (q _ _ rfl) (q _ _ rfl) (q _ _ rfl) (q _ _ rfl) ?_
  refine zg_call (pc := 844) hs zd_268 (q _ _ rfl) rfl rfl rfl (as := [.ref 92, .int (x.2 (i + 1)), .int (x.2 (i + 2))]) (rest := [.int (f_N_would (x.2 (i + 1)) (x.2 (i + 2)) h).1]) (en := [some (.ref 92), some (.int (x.2 (i + 1))), some (.int (x.2 (i + 2)))]) rfl rfl rfl rfl rfl ?_
  refine f_M_would_t (x.2 (i + 1)) (x.2 (i + 2)) (f_N_would (x.2 (i + 1)) (x.2 (i + 2)) h).2 hs o2 (fun hs => ?_)
  show zg x 300 268 847 (lwL i) [.int (f_M_would (x.2 (i + 1)) (x.2 (i + 2)) (f_N_would (x.2 (i + 1)) (x.2 (i + 2)) h).2).1, .int (f_N_would (x.2 (i + 1)) (x.2 (i + 2)) h).1] (f_M_would (x.2 (i + 1)) (x.2 (i + 2)) (f_N_would (x.2 (i + 1)) (x.2 (i + 2)) h).2).2 Q
  exact zg_i_eq zd_268 (q _ _ rfl) (fun _ => kk _ hs I') (fun z => absurd o3 z)
def zcs_20 : List (Nat × zm_I) := [(852, 1, .aload_n 1, 0, 0, 0), (853, 1, .aload_n 0, 0, 0, 0), (854, 1, .iload_n 3, 0, 0, 0), (855, 1, .iconst 1, 0, 0, 1), (856, 1, .iadd, 0, 0, 0), (857, 1, .iaload, 0, 0, 0), (858, 1, .aload_n 0, 0, 0, 0), (859, 1, .iload_n 3, 0, 0, 0), (860, 1, .iconst 2, 0, 0, 2), (861, 1, .iadd, 0, 0, 0), (862, 1, .iaload, 0, 0, 0), (863, 1, .aload_n 0, 0, 0, 0), (864, 1, .iload_n 3, 0, 0, 0), (865, 1, .iconst 3, 0, 0, 3), (866, 1, .iadd, 0, 0, 0), (867, 1, .iaload, 0, 0, 0), (868, 1, .aload_n 0, 0, 0, 0), (869, 1, .iload_n 3, 0, 0, 0), (870, 1, .iconst 4, 0, 0, 4), (871, 1, .iadd, 0, 0, 0), (872, 1, .iaload, 0, 0, 0), (873, 3, .ifCond .eq 7, 880, 0, 0), (876, 1, .iconst 1, 0, 0, 1), (877, 3, .goto 4, 881, 0, 0), (880, 1, .iconst 0, 0, 0, 0), (881, 3, .invokevirtual 99, 152, 5, 0), (884, 1, .aload_n 2, 0, 0, 0), (885, 1, .aload_n 0, 0, 0, 0), (886, 1, .iload_n 3, 0, 0, 0), (887, 1, .iconst 1, 0, 0, 1), (888, 1, .iadd, 0, 0, 0), (889, 1, .iaload, 0, 0, 0), (890, 1, .aload_n 0, 0, 0, 0), (891, 1, .iload_n 3, 0, 0, 0), (892, 1, .iconst 2, 0, 0, 2), (893, 1, .iadd, 0, 0, 0), (894, 1, .iaload, 0, 0, 0), (895, 1, .aload_n 0, 0, 0, 0), (896, 1, .iload_n 3, 0, 0, 0), (897, 1, .iconst 3, 0, 0, 3), (898, 1, .iadd, 0, 0, 0), (899, 1, .iaload, 0, 0, 0), (900, 1, .aload_n 0, 0, 0, 0), (901, 1, .iload_n 3, 0, 0, 0), (902, 1, .iconst 4, 0, 0, 4), (903, 1, .iadd, 0, 0, 0), (904, 1, .iaload, 0, 0, 0), (905, 3, .ifCond .eq 7, 912, 0, 0), (908, 1, .iconst 1, 0, 0, 1), (909, 3, .goto 4, 913, 0, 0), (912, 1, .iconst 0, 0, 0, 0), (913, 3, .invokevirtual 103, 241, 5, 0), (916, 3, .if_icmp .eq 526, 1442, 0, 0), (919, 1, .iconst 0, 0, 0, 0), (920, 1, .ireturn, 0, 0, 0)]
set_option maxRecDepth 100000 in
theorem zcs_20_ok : ∀ e ∈ zcs_20, zc_268.lookup e.1 = some e.2 := by decide +kernel
set_option maxRecDepth 100000 in
set_option maxHeartbeats 2000000 in
theorem lw_c20 {x : zm_X} {i : Nat} {h : zm_H} {Q : Option Value → zm_H → Prop} (hs : zSh zT0 h) (I : Inv h) (hi : i + 6 ≤ x.1) (hx : x.1 ≤ 3072) (kk : ∀ h', zSh zT0 h' → Inv h' → zg x 300 268 1442 (lwL i) [] h' Q) : zg x 300 268 852 (lwL i) [] h Q := by
  have q : ∀ pc q, zcs_20.lookup pc = some q → zc_268.lookup pc = some q := fun pc q h => zcs_20_ok _ (zm_lk_mem _ _ _ h)
  have hb4 : ((if (x.2 (i + 4)) = 0 then (0 : Int32) else 1) : Int32) = 0 ∨ ((if (x.2 (i + 4)) = 0 then (0 : Int32) else 1) : Int32) = 1 := by
    split
    · exact Or.inl rfl
    · exact Or.inr rfl
  obtain ⟨o1, o2, o3⟩ := K_beach I (x.2 (i + 1)) (x.2 (i + 2)) (x.2 (i + 3)) hb4
  refine lw_al (pc := 852) (r := 0) (q _ _ rfl) rfl ?_
  refine lw_ar (pc := 853) (k := 1) hs (by omega) hx rfl (q _ _ rfl) (q _ _ rfl) (q _ _ rfl) (q _ _ rfl) (q _ _ rfl) ?_
  refine lw_ar (pc := 858) (k := 2) hs (by omega) hx rfl (q _ _ rfl) (q _ _ rfl) (q _ _ rfl) (q _ _ rfl) (q _ _ rfl) ?_
  refine lw_ar (pc := 863) (k := 3) hs (by omega) hx rfl (q _ _ rfl) (q _ _ rfl) (q _ _ rfl) (q _ _ rfl) (q _ _ rfl) ?_
  refine lw_ar (pc := 868) (k := 4) hs (by omega) hx rfl (q _ _ rfl) (q _ _ rfl) (q _ _ rfl) (q _ _ rfl) (q _ _ rfl) ?_
  refine lw_bo (pc := 873) (q _ _ rfl) (q _ _ rfl) (q _ _ rfl) (q _ _ rfl) ?_
  refine zg_call (pc := 881) hs zd_268 (q _ _ rfl) rfl rfl rfl (as := [.ref 0, .int (x.2 (i + 1)), .int (x.2 (i + 2)), .int (x.2 (i + 3)), .int (if (x.2 (i + 4)) = 0 then (0 : Int32) else 1)]) (rest := []) (en := [some (.ref 0), some (.int (x.2 (i + 1))), some (.int (x.2 (i + 2))), some (.int (x.2 (i + 3))), some (.int (if (x.2 (i + 4)) = 0 then (0 : Int32) else 1)), none, none, none, none, none]) rfl rfl rfl rfl rfl ?_
  refine f_N_beach_t (x.2 (i + 1)) (x.2 (i + 2)) (x.2 (i + 3)) (if (x.2 (i + 4)) = 0 then (0 : Int32) else 1) h hs o1 ?_
  show zg x 300 268 884 (lwL i) [.int (f_N_beach (x.2 (i + 1)) (x.2 (i + 2)) (x.2 (i + 3)) (if (x.2 (i + 4)) = 0 then (0 : Int32) else 1) h)] h Q
  refine lw_al (pc := 884) (r := 92) (q _ _ rfl) rfl ?_
  refine lw_ar (pc := 885) (k := 1) hs (by omega) hx rfl (q _ _ rfl) (q _ _ rfl) (q _ _ rfl) (q _ _ rfl) (q _ _ rfl) ?_
  refine lw_ar (pc := 890) (k := 2) hs (by omega) hx rfl (q _ _ rfl) (q _ _ rfl) (q _ _ rfl) (q _ _ rfl) (q _ _ rfl) ?_
  refine lw_ar (pc := 895) (k := 3) hs (by omega) hx rfl (q _ _ rfl) (q _ _ rfl) (q _ _ rfl) (q _ _ rfl) (q _ _ rfl) ?_
  refine lw_ar (pc := 900) (k := 4) hs (by omega) hx rfl (q _ _ rfl) (q _ _ rfl) (q _ _ rfl) (q _ _ rfl) (q _ _ rfl) ?_
  refine lw_bo (pc := 905) (q _ _ rfl) (q _ _ rfl) (q _ _ rfl) (q _ _ rfl) ?_
  refine zg_call (pc := 913) hs zd_268 (q _ _ rfl) rfl rfl rfl (as := [.ref 92, .int (x.2 (i + 1)), .int (x.2 (i + 2)), .int (x.2 (i + 3)), .int (if (x.2 (i + 4)) = 0 then (0 : Int32) else 1)]) (rest := [.int (f_N_beach (x.2 (i + 1)) (x.2 (i + 2)) (x.2 (i + 3)) (if (x.2 (i + 4)) = 0 then (0 : Int32) else 1) h)]) (en := [some (.ref 92), some (.int (x.2 (i + 1))), some (.int (x.2 (i + 2))), some (.int (x.2 (i + 3))), some (.int (if (x.2 (i + 4)) = 0 then (0 : Int32) else 1)), none, none, none, none, none]) rfl rfl rfl rfl rfl ?_
  refine f_M_beach_t (x.2 (i + 1)) (x.2 (i + 2)) (x.2 (i + 3)) (if (x.2 (i + 4)) = 0 then (0 : Int32) else 1) h hs o2 ?_
  show zg x 300 268 916 (lwL i) [.int (f_M_beach (x.2 (i + 1)) (x.2 (i + 2)) (x.2 (i + 3)) (if (x.2 (i + 4)) = 0 then (0 : Int32) else 1) h), .int (f_N_beach (x.2 (i + 1)) (x.2 (i + 2)) (x.2 (i + 3)) (if (x.2 (i + 4)) = 0 then (0 : Int32) else 1) h)] h Q
  exact zg_i_eq zd_268 (q _ _ rfl) (fun _ => kk _ hs I) (fun z => absurd o3 z)
def zcs_21 : List (Nat × zm_I) := [(921, 1, .aload_n 1, 0, 0, 0), (922, 1, .aload_n 0, 0, 0, 0), (923, 1, .iload_n 3, 0, 0, 0), (924, 1, .iconst 1, 0, 0, 1), (925, 1, .iadd, 0, 0, 0), (926, 1, .iaload, 0, 0, 0), (927, 1, .aload_n 0, 0, 0, 0), (928, 1, .iload_n 3, 0, 0, 0), (929, 1, .iconst 2, 0, 0, 2), (930, 1, .iadd, 0, 0, 0), (931, 1, .iaload, 0, 0, 0), (932, 3, .invokevirtual 104, 153, 3, 0), (935, 1, .aload_n 2, 0, 0, 0), (936, 1, .aload_n 0, 0, 0, 0), (937, 1, .iload_n 3, 0, 0, 0), (938, 1, .iconst 1, 0, 0, 1), (939, 1, .iadd, 0, 0, 0), (940, 1, .iaload, 0, 0, 0), (941, 1, .aload_n 0, 0, 0, 0), (942, 1, .iload_n 3, 0, 0, 0), (943, 1, .iconst 2, 0, 0, 2), (944, 1, .iadd, 0, 0, 0), (945, 1, .iaload, 0, 0, 0), (946, 3, .invokevirtual 107, 242, 3, 0), (949, 3, .if_icmp .eq 493, 1442, 0, 0), (952, 1, .iconst 0, 0, 0, 0), (953, 1, .ireturn, 0, 0, 0)]
set_option maxRecDepth 100000 in
theorem zcs_21_ok : ∀ e ∈ zcs_21, zc_268.lookup e.1 = some e.2 := by decide +kernel
set_option maxRecDepth 100000 in
set_option maxHeartbeats 2000000 in
theorem lw_c21 {x : zm_X} {i : Nat} {h : zm_H} {Q : Option Value → zm_H → Prop} (hs : zSh zT0 h) (I : Inv h) (hi : i + 6 ≤ x.1) (hx : x.1 ≤ 3072) (kk : ∀ h', zSh zT0 h' → Inv h' → zg x 300 268 1442 (lwL i) [] h' Q) : zg x 300 268 921 (lwL i) [] h Q := by
  have q : ∀ pc q, zcs_21.lookup pc = some q → zc_268.lookup pc = some q := fun pc q h => zcs_21_ok _ (zm_lk_mem _ _ _ h)
  obtain ⟨o1, o2, o3, I'⟩ := K_parts I (x.2 (i + 1)) (x.2 (i + 2))
  refine lw_al (pc := 921) (r := 0) (q _ _ rfl) rfl ?_
  refine lw_ar (pc := 922) (k := 1) hs (by omega) hx rfl (q _ _ rfl) (q _ _ rfl) (q _ _ rfl) (q _ _ rfl) (q _ _ rfl) ?_
  refine lw_ar (pc := 927) (k := 2) hs (by omega) hx rfl (q _ _ rfl) (q _ _ rfl) (q _ _ rfl) (q _ _ rfl) (q _ _ rfl) ?_
  refine zg_call (pc := 932) hs zd_268 (q _ _ rfl) rfl rfl rfl (as := [.ref 0, .int (x.2 (i + 1)), .int (x.2 (i + 2))]) (rest := []) (en := [some (.ref 0), some (.int (x.2 (i + 1))), some (.int (x.2 (i + 2)))]) rfl rfl rfl rfl rfl ?_
  refine f_N_parts_t (x.2 (i + 1)) (x.2 (i + 2)) h hs o1 (fun hs => ?_)
  show zg x 300 268 935 (lwL i) [.int (f_N_parts (x.2 (i + 1)) (x.2 (i + 2)) h).1] (f_N_parts (x.2 (i + 1)) (x.2 (i + 2)) h).2 Q
  refine lw_al (pc := 935) (r := 92) (q _ _ rfl) rfl ?_
  refine lw_ar (pc := 936) (k := 1) hs (by omega) hx rfl (q _ _ rfl) (q _ _ rfl) (q _ _ rfl) (q _ _ rfl) (q _ _ rfl) ?_
  refine lw_ar (pc := 941) (k := 2) hs (by omega) hx rfl (q _ _ rfl) (q _ _ rfl) (q _ _ rfl) (q _ _ rfl) (q _ _ rfl) ?_
  refine zg_call (pc := 946) hs zd_268 (q _ _ rfl) rfl rfl rfl (as := [.ref 92, .int (x.2 (i + 1)), .int (x.2 (i + 2))]) (rest := [.int (f_N_parts (x.2 (i + 1)) (x.2 (i + 2)) h).1]) (en := [some (.ref 92), some (.int (x.2 (i + 1))), some (.int (x.2 (i + 2)))]) rfl rfl rfl rfl rfl ?_
  refine f_M_parts_t (x.2 (i + 1)) (x.2 (i + 2)) (f_N_parts (x.2 (i + 1)) (x.2 (i + 2)) h).2 hs o2 (fun hs => ?_)
  show zg x 300 268 949 (lwL i) [.int (f_M_parts (x.2 (i + 1)) (x.2 (i + 2)) (f_N_parts (x.2 (i + 1)) (x.2 (i + 2)) h).2).1, .int (f_N_parts (x.2 (i + 1)) (x.2 (i + 2)) h).1] (f_M_parts (x.2 (i + 1)) (x.2 (i + 2)) (f_N_parts (x.2 (i + 1)) (x.2 (i + 2)) h).2).2 Q
  exact zg_i_eq zd_268 (q _ _ rfl) (fun _ => kk _ hs I') (fun z => absurd o3 z)
def zcs_22 : List (Nat × zm_I) := [(954, 1, .aload_n 1, 0, 0, 0), (955, 1, .aload_n 0, 0, 0, 0), (956, 1, .iload_n 3, 0, 0, 0), (957, 1, .iconst 1, 0, 0, 1), (958, 1, .iadd, 0, 0, 0), (959, 1, .iaload, 0, 0, 0), (960, 1, .aload_n 0, 0, 0, 0), (961, 1, .iload_n 3, 0, 0, 0), (962, 1, .iconst 2, 0, 0, 2), (963, 1, .iadd, 0, 0, 0), (964, 1, .iaload, 0, 0, 0), (965, 1, .aload_n 0, 0, 0, 0), (966, 1, .iload_n 3, 0, 0, 0), (967, 1, .iconst 3, 0, 0, 3), (968, 1, .iadd, 0, 0, 0), (969, 1, .iaload, 0, 0, 0), (970, 3, .invokevirtual 108, 154, 4, 0), (973, 1, .aload_n 2, 0, 0, 0), (974, 1, .aload_n 0, 0, 0, 0), (975, 1, .iload_n 3, 0, 0, 0), (976, 1, .iconst 1, 0, 0, 1), (977, 1, .iadd, 0, 0, 0), (978, 1, .iaload, 0, 0, 0), (979, 1, .aload_n 0, 0, 0, 0), (980, 1, .iload_n 3, 0, 0, 0), (981, 1, .iconst 2, 0, 0, 2), (982, 1, .iadd, 0, 0, 0), (983, 1, .iaload, 0, 0, 0), (984, 1, .aload_n 0, 0, 0, 0), (985, 1, .iload_n 3, 0, 0, 0), (986, 1, .iconst 3, 0, 0, 3), (987, 1, .iadd, 0, 0, 0), (988, 1, .iaload, 0, 0, 0), (989, 3, .invokevirtual 111, 243, 4, 0), (992, 3, .if_icmp .eq 450, 1442, 0, 0), (995, 1, .iconst 0, 0, 0, 0), (996, 1, .ireturn, 0, 0, 0)]
set_option maxRecDepth 100000 in
theorem zcs_22_ok : ∀ e ∈ zcs_22, zc_268.lookup e.1 = some e.2 := by decide +kernel
set_option maxRecDepth 100000 in
set_option maxHeartbeats 2000000 in
theorem lw_c22 {x : zm_X} {i : Nat} {h : zm_H} {Q : Option Value → zm_H → Prop} (hs : zSh zT0 h) (I : Inv h) (hi : i + 6 ≤ x.1) (hx : x.1 ≤ 3072) (kk : ∀ h', zSh zT0 h' → Inv h' → zg x 300 268 1442 (lwL i) [] h' Q) : zg x 300 268 954 (lwL i) [] h Q := by
  have q : ∀ pc q, zcs_22.lookup pc = some q → zc_268.lookup pc = some q := fun pc q h => zcs_22_ok _ (zm_lk_mem _ _ _ h)
  obtain ⟨o1, o2, o3, I'⟩ := K_load I (x.2 (i + 1)) (x.2 (i + 2)) (x.2 (i + 3))
  refine lw_al (pc := 954) (r := 0) (q _ _ rfl) rfl ?_
  refine lw_ar (pc := 955) (k := 1) hs (by omega) hx rfl (q _ _ rfl) (q _ _ rfl) (q _ _ rfl) (q _ _ rfl) (q _ _ rfl) ?_
  refine lw_ar (pc := 960) (k := 2) hs (by omega) hx rfl (q _ _ rfl) (q _ _ rfl) (q _ _ rfl) (q _ _ rfl) (q _ _ rfl) ?_
  refine lw_ar (pc := 965) (k := 3) hs (by omega) hx rfl (q _ _ rfl) (q _ _ rfl) (q _ _ rfl) (q _ _ rfl) (q _ _ rfl) ?_
  refine zg_call (pc := 970) hs zd_268 (q _ _ rfl) rfl rfl rfl (as := [.ref 0, .int (x.2 (i + 1)), .int (x.2 (i + 2)), .int (x.2 (i + 3))]) (rest := []) (en := [some (.ref 0), some (.int (x.2 (i + 1))), some (.int (x.2 (i + 2))), some (.int (x.2 (i + 3)))]) rfl rfl rfl rfl rfl ?_
  refine f_N_load_t (x.2 (i + 1)) (x.2 (i + 2)) (x.2 (i + 3)) h hs o1 (fun hs => ?_)
  show zg x 300 268 973 (lwL i) [.int (f_N_load (x.2 (i + 1)) (x.2 (i + 2)) (x.2 (i + 3)) h).1] (f_N_load (x.2 (i + 1)) (x.2 (i + 2)) (x.2 (i + 3)) h).2 Q
  refine lw_al (pc := 973) (r := 92) (q _ _ rfl) rfl ?_
  refine lw_ar (pc := 974) (k := 1) hs (by omega) hx rfl (q _ _ rfl) (q _ _ rfl) (q _ _ rfl) (q _ _ rfl) (q _ _ rfl) ?_
  refine lw_ar (pc := 979) (k := 2) hs (by omega) hx rfl (q _ _ rfl) (q _ _ rfl) (q _ _ rfl) (q _ _ rfl) (q _ _ rfl) ?_
  refine lw_ar (pc := 984) (k := 3) hs (by omega) hx rfl (q _ _ rfl) (q _ _ rfl) (q _ _ rfl) (q _ _ rfl) (q _ _ rfl) ?_
  refine zg_call (pc := 989) hs zd_268 (q _ _ rfl) rfl rfl rfl (as := [.ref 92, .int (x.2 (i + 1)), .int (x.2 (i + 2)), .int (x.2 (i + 3))]) (rest := [.int (f_N_load (x.2 (i + 1)) (x.2 (i + 2)) (x.2 (i + 3)) h).1]) (en := [some (.ref 92), some (.int (x.2 (i + 1))), some (.int (x.2 (i + 2))), some (.int (x.2 (i + 3))), none]) rfl rfl rfl rfl rfl ?_
  refine f_M_load_t (x.2 (i + 1)) (x.2 (i + 2)) (x.2 (i + 3)) (f_N_load (x.2 (i + 1)) (x.2 (i + 2)) (x.2 (i + 3)) h).2 hs o2 (fun hs => ?_)
  show zg x 300 268 992 (lwL i) [.int (f_M_load (x.2 (i + 1)) (x.2 (i + 2)) (x.2 (i + 3)) (f_N_load (x.2 (i + 1)) (x.2 (i + 2)) (x.2 (i + 3)) h).2).1, .int (f_N_load (x.2 (i + 1)) (x.2 (i + 2)) (x.2 (i + 3)) h).1] (f_M_load (x.2 (i + 1)) (x.2 (i + 2)) (x.2 (i + 3)) (f_N_load (x.2 (i + 1)) (x.2 (i + 2)) (x.2 (i + 3)) h).2).2 Q
  exact zg_i_eq zd_268 (q _ _ rfl) (fun _ => kk _ hs I') (fun z => absurd o3 z)
def zcs_23 : List (Nat × zm_I) := [(997, 1, .aload_n 1, 0, 0, 0), (998, 1, .aload_n 0, 0, 0, 0), (999, 1, .iload_n 3, 0, 0, 0), (1000, 1, .iconst 1, 0, 0, 1), (1001, 1, .iadd, 0, 0, 0), (1002, 1, .iaload, 0, 0, 0), (1003, 1, .aload_n 0, 0, 0, 0), (1004, 1, .iload_n 3, 0, 0, 0), (1005, 1, .iconst 2, 0, 0, 2), (1006, 1, .iadd, 0, 0, 0), (1007, 1, .iaload, 0, 0, 0), (1008, 1, .aload_n 0, 0, 0, 0), (1009, 1, .iload_n 3, 0, 0, 0), (1010, 1, .iconst 3, 0, 0, 3), (1011, 1, .iadd, 0, 0, 0), (1012, 1, .iaload, 0, 0, 0), (1013, 1, .aload_n 0, 0, 0, 0), (1014, 1, .iload_n 3, 0, 0, 0), (1015, 1, .iconst 4, 0, 0, 4), (1016, 1, .iadd, 0, 0, 0), (1017, 1, .iaload, 0, 0, 0), (1018, 1, .aload_n 0, 0, 0, 0), (1019, 1, .iload_n 3, 0, 0, 0), (1020, 1, .iconst 5, 0, 0, 5), (1021, 1, .iadd, 0, 0, 0), (1022, 1, .iaload, 0, 0, 0), (1023, 3, .invokevirtual 112, 156, 6, 0), (1026, 1, .aload_n 2, 0, 0, 0), (1027, 1, .aload_n 0, 0, 0, 0), (1028, 1, .iload_n 3, 0, 0, 0), (1029, 1, .iconst 1, 0, 0, 1), (1030, 1, .iadd, 0, 0, 0), (1031, 1, .iaload, 0, 0, 0), (1032, 1, .aload_n 0, 0, 0, 0), (1033, 1, .iload_n 3, 0, 0, 0), (1034, 1, .iconst 2, 0, 0, 2), (1035, 1, .iadd, 0, 0, 0), (1036, 1, .iaload, 0, 0, 0), (1037, 1, .aload_n 0, 0, 0, 0), (1038, 1, .iload_n 3, 0, 0, 0), (1039, 1, .iconst 3, 0, 0, 3), (1040, 1, .iadd, 0, 0, 0), (1041, 1, .iaload, 0, 0, 0), (1042, 1, .aload_n 0, 0, 0, 0), (1043, 1, .iload_n 3, 0, 0, 0), (1044, 1, .iconst 4, 0, 0, 4), (1045, 1, .iadd, 0, 0, 0), (1046, 1, .iaload, 0, 0, 0), (1047, 1, .aload_n 0, 0, 0, 0), (1048, 1, .iload_n 3, 0, 0, 0), (1049, 1, .iconst 5, 0, 0, 5), (1050, 1, .iadd, 0, 0, 0), (1051, 1, .iaload, 0, 0, 0), (1052, 3, .invokevirtual 115, 245, 6, 0), (1055, 3, .if_icmp .eq 387, 1442, 0, 0), (1058, 1, .iconst 0, 0, 0, 0), (1059, 1, .ireturn, 0, 0, 0)]
set_option maxRecDepth 100000 in
theorem zcs_23_ok : ∀ e ∈ zcs_23, zc_268.lookup e.1 = some e.2 := by decide +kernel
set_option maxRecDepth 100000 in
set_option maxHeartbeats 2000000 in
theorem lw_c23 {x : zm_X} {i : Nat} {h : zm_H} {Q : Option Value → zm_H → Prop} (hs : zSh zT0 h) (I : Inv h) (hi : i + 6 ≤ x.1) (hx : x.1 ≤ 3072) (kk : ∀ h', zSh zT0 h' → Inv h' → zg x 300 268 1442 (lwL i) [] h' Q) : zg x 300 268 997 (lwL i) [] h Q := by
  have q : ∀ pc q, zcs_23.lookup pc = some q → zc_268.lookup pc = some q := fun pc q h => zcs_23_ok _ (zm_lk_mem _ _ _ h)
  obtain ⟨o1, o2, o3, I'⟩ := K_send I (x.2 (i + 1)) (x.2 (i + 2)) (x.2 (i + 3)) (x.2 (i + 4)) (x.2 (i + 5))
  refine lw_al (pc := 997) (r := 0) (q _ _ rfl) rfl ?_
  refine lw_ar (pc := 998) (k := 1) hs (by omega) hx rfl (q _ _ rfl) (q _ _ rfl) (q _ _ rfl) (q _ _ rfl) (q _ _ rfl) ?_
  refine lw_ar (pc := 1003) (k := 2) hs (by omega) hx rfl (q _ _ rfl) (q _ _ rfl) (q _ _ rfl) (q _ _ rfl) (q _ _ rfl) ?_
  refine lw_ar (pc := 1008) (k := 3) hs (by omega) hx rfl (q _ _ rfl) (q _ _ rfl) (q _ _ rfl) (q _ _ rfl) (q _ _ rfl) ?_
  refine lw_ar (pc := 1013) (k := 4) hs (by omega) hx rfl (q _ _ rfl) (q _ _ rfl) (q _ _ rfl) (q _ _ rfl) (q _ _ rfl) ?_
  refine lw_ar (pc := 1018) (k := 5) hs (by omega) hx rfl (q _ _ rfl) (q _ _ rfl) (q _ _ rfl) (q _ _ rfl) (q _ _ rfl) ?_
  refine zg_call (pc := 1023) hs zd_268 (q _ _ rfl) rfl rfl rfl (as := [.ref 0, .int (x.2 (i + 1)), .int (x.2 (i + 2)), .int (x.2 (i + 3)), .int (x.2 (i + 4)), .int (x.2 (i + 5))]) (rest := []) (en := [some (.ref 0), some (.int (x.2 (i + 1))), some (.int (x.2 (i + 2))), some (.int (x.2 (i + 3))), some (.int (x.2 (i + 4))), some (.int (x.2 (i + 5)))]) rfl rfl rfl rfl rfl ?_
  refine f_N_send_t (x.2 (i + 1)) (x.2 (i + 2)) (x.2 (i + 3)) (x.2 (i + 4)) (x.2 (i + 5)) h hs o1 (fun hs => ?_)
  show zg x 300 268 1026 (lwL i) [.int (f_N_send (x.2 (i + 1)) (x.2 (i + 2)) (x.2 (i + 3)) (x.2 (i + 4)) (x.2 (i + 5)) h).1] (f_N_send (x.2 (i + 1)) (x.2 (i + 2)) (x.2 (i + 3)) (x.2 (i + 4)) (x.2 (i + 5)) h).2 Q
  refine lw_al (pc := 1026) (r := 92) (q _ _ rfl) rfl ?_
  refine lw_ar (pc := 1027) (k := 1) hs (by omega) hx rfl (q _ _ rfl) (q _ _ rfl) (q _ _ rfl) (q _ _ rfl) (q _ _ rfl) ?_
  refine lw_ar (pc := 1032) (k := 2) hs (by omega) hx rfl (q _ _ rfl) (q _ _ rfl) (q _ _ rfl) (q _ _ rfl) (q _ _ rfl) ?_
  refine lw_ar (pc := 1037) (k := 3) hs (by omega) hx rfl (q _ _ rfl) (q _ _ rfl) (q _ _ rfl) (q _ _ rfl) (q _ _ rfl) ?_
  refine lw_ar (pc := 1042) (k := 4) hs (by omega) hx rfl (q _ _ rfl) (q _ _ rfl) (q _ _ rfl) (q _ _ rfl) (q _ _ rfl) ?_
  refine lw_ar (pc := 1047) (k := 5) hs (by omega) hx rfl (q _ _ rfl) (q _ _ rfl) (q _ _ rfl) (q _ _ rfl) (q _ _ rfl) ?_
  refine zg_call (pc := 1052) hs zd_268 (q _ _ rfl) rfl rfl rfl (as := [.ref 92, .int (x.2 (i + 1)), .int (x.2 (i + 2)), .int (x.2 (i + 3)), .int (x.2 (i + 4)), .int (x.2 (i + 5))]) (rest := [.int (f_N_send (x.2 (i + 1)) (x.2 (i + 2)) (x.2 (i + 3)) (x.2 (i + 4)) (x.2 (i + 5)) h).1]) (en := [some (.ref 92), some (.int (x.2 (i + 1))), some (.int (x.2 (i + 2))), some (.int (x.2 (i + 3))), some (.int (x.2 (i + 4))), some (.int (x.2 (i + 5)))]) rfl rfl rfl rfl rfl ?_
  refine f_M_send_t (x.2 (i + 1)) (x.2 (i + 2)) (x.2 (i + 3)) (x.2 (i + 4)) (x.2 (i + 5)) (f_N_send (x.2 (i + 1)) (x.2 (i + 2)) (x.2 (i + 3)) (x.2 (i + 4)) (x.2 (i + 5)) h).2 hs o2 (fun hs => ?_)
  show zg x 300 268 1055 (lwL i) [.int (f_M_send (x.2 (i + 1)) (x.2 (i + 2)) (x.2 (i + 3)) (x.2 (i + 4)) (x.2 (i + 5)) (f_N_send (x.2 (i + 1)) (x.2 (i + 2)) (x.2 (i + 3)) (x.2 (i + 4)) (x.2 (i + 5)) h).2).1, .int (f_N_send (x.2 (i + 1)) (x.2 (i + 2)) (x.2 (i + 3)) (x.2 (i + 4)) (x.2 (i + 5)) h).1] (f_M_send (x.2 (i + 1)) (x.2 (i + 2)) (x.2 (i + 3)) (x.2 (i + 4)) (x.2 (i + 5)) (f_N_send (x.2 (i + 1)) (x.2 (i + 2)) (x.2 (i + 3)) (x.2 (i + 4)) (x.2 (i + 5)) h).2).2 Q
  exact zg_i_eq zd_268 (q _ _ rfl) (fun _ => kk _ hs I') (fun z => absurd o3 z)
def zcs_24 : List (Nat × zm_I) := [(1060, 1, .aload_n 1, 0, 0, 0), (1061, 1, .aload_n 0, 0, 0, 0), (1062, 1, .iload_n 3, 0, 0, 0), (1063, 1, .iconst 1, 0, 0, 1), (1064, 1, .iadd, 0, 0, 0), (1065, 1, .iaload, 0, 0, 0), (1066, 1, .aload_n 0, 0, 0, 0), (1067, 1, .iload_n 3, 0, 0, 0), (1068, 1, .iconst 2, 0, 0, 2), (1069, 1, .iadd, 0, 0, 0), (1070, 1, .iaload, 0, 0, 0), (1071, 3, .invokevirtual 116, 157, 3, 0), (1074, 1, .aload_n 2, 0, 0, 0), (1075, 1, .aload_n 0, 0, 0, 0), (1076, 1, .iload_n 3, 0, 0, 0), (1077, 1, .iconst 1, 0, 0, 1), (1078, 1, .iadd, 0, 0, 0), (1079, 1, .iaload, 0, 0, 0), (1080, 1, .aload_n 0, 0, 0, 0), (1081, 1, .iload_n 3, 0, 0, 0), (1082, 1, .iconst 2, 0, 0, 2), (1083, 1, .iadd, 0, 0, 0), (1084, 1, .iaload, 0, 0, 0), (1085, 3, .invokevirtual 119, 246, 3, 0), (1088, 3, .if_icmp .eq 354, 1442, 0, 0), (1091, 1, .iconst 0, 0, 0, 0), (1092, 1, .ireturn, 0, 0, 0)]
set_option maxRecDepth 100000 in
theorem zcs_24_ok : ∀ e ∈ zcs_24, zc_268.lookup e.1 = some e.2 := by decide +kernel
set_option maxRecDepth 100000 in
set_option maxHeartbeats 2000000 in
theorem lw_c24 {x : zm_X} {i : Nat} {h : zm_H} {Q : Option Value → zm_H → Prop} (hs : zSh zT0 h) (I : Inv h) (hi : i + 6 ≤ x.1) (hx : x.1 ≤ 3072) (kk : ∀ h', zSh zT0 h' → Inv h' → zg x 300 268 1442 (lwL i) [] h' Q) : zg x 300 268 1060 (lwL i) [] h Q := by
  have q : ∀ pc q, zcs_24.lookup pc = some q → zc_268.lookup pc = some q := fun pc q h => zcs_24_ok _ (zm_lk_mem _ _ _ h)
  obtain ⟨o1, o2, o3⟩ := K_boat I (x.2 (i + 1)) (x.2 (i + 2))
  refine lw_al (pc := 1060) (r := 0) (q _ _ rfl) rfl ?_
  refine lw_ar (pc := 1061) (k := 1) hs (by omega) hx rfl (q _ _ rfl) (q _ _ rfl) (q _ _ rfl) (q _ _ rfl) (q _ _ rfl) ?_
  refine lw_ar (pc := 1066) (k := 2) hs (by omega) hx rfl (q _ _ rfl) (q _ _ rfl) (q _ _ rfl) (q _ _ rfl) (q _ _ rfl) ?_
  refine zg_call (pc := 1071) hs zd_268 (q _ _ rfl) rfl rfl rfl (as := [.ref 0, .int (x.2 (i + 1)), .int (x.2 (i + 2))]) (rest := []) (en := [some (.ref 0), some (.int (x.2 (i + 1))), some (.int (x.2 (i + 2)))]) rfl rfl rfl rfl rfl ?_
  refine f_N_boat_t (x.2 (i + 1)) (x.2 (i + 2)) h hs o1 ?_
  show zg x 300 268 1074 (lwL i) [.int (f_N_boat (x.2 (i + 1)) (x.2 (i + 2)) h)] h Q
  refine lw_al (pc := 1074) (r := 92) (q _ _ rfl) rfl ?_
  refine lw_ar (pc := 1075) (k := 1) hs (by omega) hx rfl (q _ _ rfl) (q _ _ rfl) (q _ _ rfl) (q _ _ rfl) (q _ _ rfl) ?_
  refine lw_ar (pc := 1080) (k := 2) hs (by omega) hx rfl (q _ _ rfl) (q _ _ rfl) (q _ _ rfl) (q _ _ rfl) (q _ _ rfl) ?_
  refine zg_call (pc := 1085) hs zd_268 (q _ _ rfl) rfl rfl rfl (as := [.ref 92, .int (x.2 (i + 1)), .int (x.2 (i + 2))]) (rest := [.int (f_N_boat (x.2 (i + 1)) (x.2 (i + 2)) h)]) (en := [some (.ref 92), some (.int (x.2 (i + 1))), some (.int (x.2 (i + 2)))]) rfl rfl rfl rfl rfl ?_
  refine f_M_boat_t (x.2 (i + 1)) (x.2 (i + 2)) h hs o2 ?_
  show zg x 300 268 1088 (lwL i) [.int (f_M_boat (x.2 (i + 1)) (x.2 (i + 2)) h), .int (f_N_boat (x.2 (i + 1)) (x.2 (i + 2)) h)] h Q
  exact zg_i_eq zd_268 (q _ _ rfl) (fun _ => kk _ hs I) (fun z => absurd o3 z)
def zcs_25 : List (Nat × zm_I) := [(1093, 1, .aload_n 1, 0, 0, 0), (1094, 1, .aload_n 0, 0, 0, 0), (1095, 1, .iload_n 3, 0, 0, 0), (1096, 1, .iconst 1, 0, 0, 1), (1097, 1, .iadd, 0, 0, 0), (1098, 1, .iaload, 0, 0, 0), (1099, 1, .aload_n 0, 0, 0, 0), (1100, 1, .iload_n 3, 0, 0, 0), (1101, 1, .iconst 2, 0, 0, 2), (1102, 1, .iadd, 0, 0, 0), (1103, 1, .iaload, 0, 0, 0), (1104, 3, .invokevirtual 120, 158, 3, 0), (1107, 1, .aload_n 2, 0, 0, 0), (1108, 1, .aload_n 0, 0, 0, 0), (1109, 1, .iload_n 3, 0, 0, 0), (1110, 1, .iconst 1, 0, 0, 1), (1111, 1, .iadd, 0, 0, 0), (1112, 1, .iaload, 0, 0, 0), (1113, 1, .aload_n 0, 0, 0, 0), (1114, 1, .iload_n 3, 0, 0, 0), (1115, 1, .iconst 2, 0, 0, 2), (1116, 1, .iadd, 0, 0, 0), (1117, 1, .iaload, 0, 0, 0), (1118, 3, .invokevirtual 123, 247, 3, 0), (1121, 3, .if_icmp .eq 321, 1442, 0, 0), (1124, 1, .iconst 0, 0, 0, 0), (1125, 1, .ireturn, 0, 0, 0)]
set_option maxRecDepth 100000 in
theorem zcs_25_ok : ∀ e ∈ zcs_25, zc_268.lookup e.1 = some e.2 := by decide +kernel
set_option maxRecDepth 100000 in
set_option maxHeartbeats 2000000 in
theorem lw_c25 {x : zm_X} {i : Nat} {h : zm_H} {Q : Option Value → zm_H → Prop} (hs : zSh zT0 h) (I : Inv h) (hi : i + 6 ≤ x.1) (hx : x.1 ≤ 3072) (kk : ∀ h', zSh zT0 h' → Inv h' → zg x 300 268 1442 (lwL i) [] h' Q) : zg x 300 268 1093 (lwL i) [] h Q := by
  have q : ∀ pc q, zcs_25.lookup pc = some q → zc_268.lookup pc = some q := fun pc q h => zcs_25_ok _ (zm_lk_mem _ _ _ h)
  obtain ⟨o1, o2, o3, I'⟩ := K_want I (x.2 (i + 1)) (x.2 (i + 2))
  refine lw_al (pc := 1093) (r := 0) (q _ _ rfl) rfl ?_
  refine lw_ar (pc := 1094) (k := 1) hs (by omega) hx rfl (q _ _ rfl) (q _ _ rfl) (q _ _ rfl) (q _ _ rfl) (q _ _ rfl) ?_
  refine lw_ar (pc := 1099) (k := 2) hs (by omega) hx rfl (q _ _ rfl) (q _ _ rfl) (q _ _ rfl) (q _ _ rfl) (q _ _ rfl) ?_
  refine zg_call (pc := 1104) hs zd_268 (q _ _ rfl) rfl rfl rfl (as := [.ref 0, .int (x.2 (i + 1)), .int (x.2 (i + 2))]) (rest := []) (en := [some (.ref 0), some (.int (x.2 (i + 1))), some (.int (x.2 (i + 2)))]) rfl rfl rfl rfl rfl ?_
  refine f_N_want_t (x.2 (i + 1)) (x.2 (i + 2)) h hs o1 (fun hs => ?_)
  show zg x 300 268 1107 (lwL i) [.int (f_N_want (x.2 (i + 1)) (x.2 (i + 2)) h).1] (f_N_want (x.2 (i + 1)) (x.2 (i + 2)) h).2 Q
  refine lw_al (pc := 1107) (r := 92) (q _ _ rfl) rfl ?_
  refine lw_ar (pc := 1108) (k := 1) hs (by omega) hx rfl (q _ _ rfl) (q _ _ rfl) (q _ _ rfl) (q _ _ rfl) (q _ _ rfl) ?_
  refine lw_ar (pc := 1113) (k := 2) hs (by omega) hx rfl (q _ _ rfl) (q _ _ rfl) (q _ _ rfl) (q _ _ rfl) (q _ _ rfl) ?_
  refine zg_call (pc := 1118) hs zd_268 (q _ _ rfl) rfl rfl rfl (as := [.ref 92, .int (x.2 (i + 1)), .int (x.2 (i + 2))]) (rest := [.int (f_N_want (x.2 (i + 1)) (x.2 (i + 2)) h).1]) (en := [some (.ref 92), some (.int (x.2 (i + 1))), some (.int (x.2 (i + 2)))]) rfl rfl rfl rfl rfl ?_
  refine f_M_want_t (x.2 (i + 1)) (x.2 (i + 2)) (f_N_want (x.2 (i + 1)) (x.2 (i + 2)) h).2 hs o2 (fun hs => ?_)
  show zg x 300 268 1121 (lwL i) [.int (f_M_want (x.2 (i + 1)) (x.2 (i + 2)) (f_N_want (x.2 (i + 1)) (x.2 (i + 2)) h).2).1, .int (f_N_want (x.2 (i + 1)) (x.2 (i + 2)) h).1] (f_M_want (x.2 (i + 1)) (x.2 (i + 2)) (f_N_want (x.2 (i + 1)) (x.2 (i + 2)) h).2).2 Q
  exact zg_i_eq zd_268 (q _ _ rfl) (fun _ => kk _ hs I') (fun z => absurd o3 z)
def zcs_26 : List (Nat × zm_I) := [(1126, 1, .aload_n 1, 0, 0, 0), (1127, 3, .invokevirtual 124, 159, 1, 0), (1130, 1, .aload_n 2, 0, 0, 0), (1131, 3, .invokevirtual 127, 248, 1, 0), (1134, 3, .if_icmp .eq 308, 1442, 0, 0), (1137, 1, .iconst 0, 0, 0, 0), (1138, 1, .ireturn, 0, 0, 0)]
set_option maxRecDepth 100000 in
theorem zcs_26_ok : ∀ e ∈ zcs_26, zc_268.lookup e.1 = some e.2 := by decide +kernel
set_option maxRecDepth 100000 in
set_option maxHeartbeats 2000000 in
theorem lw_c26 {x : zm_X} {i : Nat} {h : zm_H} {Q : Option Value → zm_H → Prop} (hs : zSh zT0 h) (I : Inv h) (hi : i + 6 ≤ x.1) (hx : x.1 ≤ 3072) (kk : ∀ h', zSh zT0 h' → Inv h' → zg x 300 268 1442 (lwL i) [] h' Q) : zg x 300 268 1126 (lwL i) [] h Q := by
  have q : ∀ pc q, zcs_26.lookup pc = some q → zc_268.lookup pc = some q := fun pc q h => zcs_26_ok _ (zm_lk_mem _ _ _ h)
  obtain ⟨o1, o2, o3, I'⟩ := K_forget I
  refine lw_al (pc := 1126) (r := 0) (q _ _ rfl) rfl ?_
  refine zg_call (pc := 1127) hs zd_268 (q _ _ rfl) rfl rfl rfl (as := [.ref 0]) (rest := []) (en := [some (.ref 0), none]) rfl rfl rfl rfl rfl ?_
  refine f_N_forget_t h hs o1 (fun hs => ?_)
  show zg x 300 268 1130 (lwL i) [.int (f_N_forget h).1] (f_N_forget h).2 Q
  refine lw_al (pc := 1130) (r := 92) (q _ _ rfl) rfl ?_
  refine zg_call (pc := 1131) hs zd_268 (q _ _ rfl) rfl rfl rfl (as := [.ref 92]) (rest := [.int (f_N_forget h).1]) (en := [some (.ref 92), none]) rfl rfl rfl rfl rfl ?_
  refine f_M_forget_t (f_N_forget h).2 hs o2 (fun hs => ?_)
  show zg x 300 268 1134 (lwL i) [.int (f_M_forget (f_N_forget h).2).1, .int (f_N_forget h).1] (f_M_forget (f_N_forget h).2).2 Q
  exact zg_i_eq zd_268 (q _ _ rfl) (fun _ => kk _ hs I') (fun z => absurd o3 z)
def zcs_27 : List (Nat × zm_I) := [(1139, 1, .aload_n 1, 0, 0, 0), (1140, 1, .aload_n 0, 0, 0, 0), (1141, 1, .iload_n 3, 0, 0, 0), (1142, 1, .iconst 1, 0, 0, 1), (1143, 1, .iadd, 0, 0, 0), (1144, 1, .iaload, 0, 0, 0), (1145, 1, .aload_n 0, 0, 0, 0), (1146, 1, .iload_n 3, 0, 0, 0), (1147, 1, .iconst 2, 0, 0, 2), (1148, 1, .iadd, 0, 0, 0), (1149, 1, .iaload, 0, 0, 0), (1150, 1, .aload_n 0, 0, 0, 0), (1151, 1, .iload_n 3, 0, 0, 0), (1152, 1, .iconst 3, 0, 0, 3), (1153, 1, .iadd, 0, 0, 0), (1154, 1, .iaload, 0, 0, 0), (1155, 3, .invokevirtual 128, 160, 4, 0), (1158, 1, .aload_n 2, 0, 0, 0), (1159, 1, .aload_n 0, 0, 0, 0), (1160, 1, .iload_n 3, 0, 0, 0), (1161, 1, .iconst 1, 0, 0, 1), (1162, 1, .iadd, 0, 0, 0), (1163, 1, .iaload, 0, 0, 0), (1164, 1, .aload_n 0, 0, 0, 0), (1165, 1, .iload_n 3, 0, 0, 0), (1166, 1, .iconst 2, 0, 0, 2), (1167, 1, .iadd, 0, 0, 0), (1168, 1, .iaload, 0, 0, 0), (1169, 1, .aload_n 0, 0, 0, 0), (1170, 1, .iload_n 3, 0, 0, 0), (1171, 1, .iconst 3, 0, 0, 3), (1172, 1, .iadd, 0, 0, 0), (1173, 1, .iaload, 0, 0, 0), (1174, 3, .invokevirtual 131, 249, 4, 0), (1177, 3, .if_icmp .eq 265, 1442, 0, 0), (1180, 1, .iconst 0, 0, 0, 0), (1181, 1, .ireturn, 0, 0, 0)]
set_option maxRecDepth 100000 in
theorem zcs_27_ok : ∀ e ∈ zcs_27, zc_268.lookup e.1 = some e.2 := by decide +kernel
set_option maxRecDepth 100000 in
set_option maxHeartbeats 2000000 in
theorem lw_c27 {x : zm_X} {i : Nat} {h : zm_H} {Q : Option Value → zm_H → Prop} (hs : zSh zT0 h) (I : Inv h) (hi : i + 6 ≤ x.1) (hx : x.1 ≤ 3072) (kk : ∀ h', zSh zT0 h' → Inv h' → zg x 300 268 1442 (lwL i) [] h' Q) : zg x 300 268 1139 (lwL i) [] h Q := by
  have q : ∀ pc q, zcs_27.lookup pc = some q → zc_268.lookup pc = some q := fun pc q h => zcs_27_ok _ (zm_lk_mem _ _ _ h)
  obtain ⟨o1, o2, o3, I'⟩ := K_window I (x.2 (i + 1)) (x.2 (i + 2)) (x.2 (i + 3))
  refine lw_al (pc := 1139) (r := 0) (q _ _ rfl) rfl ?_
  refine lw_ar (pc := 1140) (k := 1) hs (by omega) hx rfl (q _ _ rfl) (q _ _ rfl) (q _ _ rfl) (q _ _ rfl) (q _ _ rfl) ?_
  refine lw_ar (pc := 1145) (k := 2) hs (by omega) hx rfl (q _ _ rfl) (q _ _ rfl) (q _ _ rfl) (q _ _ rfl) (q _ _ rfl) ?_
  refine lw_ar (pc := 1150) (k := 3) hs (by omega) hx rfl (q _ _ rfl) (q _ _ rfl) (q _ _ rfl) (q _ _ rfl) (q _ _ rfl) ?_
  refine zg_call (pc := 1155) hs zd_268 (q _ _ rfl) rfl rfl rfl (as := [.ref 0, .int (x.2 (i + 1)), .int (x.2 (i + 2)), .int (x.2 (i + 3))]) (rest := []) (en := [some (.ref 0), some (.int (x.2 (i + 1))), some (.int (x.2 (i + 2))), some (.int (x.2 (i + 3)))]) rfl rfl rfl rfl rfl ?_
  refine f_N_window_t (x.2 (i + 1)) (x.2 (i + 2)) (x.2 (i + 3)) h hs o1 (fun hs => ?_)
  show zg x 300 268 1158 (lwL i) [.int (f_N_window (x.2 (i + 1)) (x.2 (i + 2)) (x.2 (i + 3)) h).1] (f_N_window (x.2 (i + 1)) (x.2 (i + 2)) (x.2 (i + 3)) h).2 Q
  refine lw_al (pc := 1158) (r := 92) (q _ _ rfl) rfl ?_
  refine lw_ar (pc := 1159) (k := 1) hs (by omega) hx rfl (q _ _ rfl) (q _ _ rfl) (q _ _ rfl) (q _ _ rfl) (q _ _ rfl) ?_
  refine lw_ar (pc := 1164) (k := 2) hs (by omega) hx rfl (q _ _ rfl) (q _ _ rfl) (q _ _ rfl) (q _ _ rfl) (q _ _ rfl) ?_
  refine lw_ar (pc := 1169) (k := 3) hs (by omega) hx rfl (q _ _ rfl) (q _ _ rfl) (q _ _ rfl) (q _ _ rfl) (q _ _ rfl) ?_
  refine zg_call (pc := 1174) hs zd_268 (q _ _ rfl) rfl rfl rfl (as := [.ref 92, .int (x.2 (i + 1)), .int (x.2 (i + 2)), .int (x.2 (i + 3))]) (rest := [.int (f_N_window (x.2 (i + 1)) (x.2 (i + 2)) (x.2 (i + 3)) h).1]) (en := [some (.ref 92), some (.int (x.2 (i + 1))), some (.int (x.2 (i + 2))), some (.int (x.2 (i + 3)))]) rfl rfl rfl rfl rfl ?_
  refine f_M_window_t (x.2 (i + 1)) (x.2 (i + 2)) (x.2 (i + 3)) (f_N_window (x.2 (i + 1)) (x.2 (i + 2)) (x.2 (i + 3)) h).2 hs o2 (fun hs => ?_)
  show zg x 300 268 1177 (lwL i) [.int (f_M_window (x.2 (i + 1)) (x.2 (i + 2)) (x.2 (i + 3)) (f_N_window (x.2 (i + 1)) (x.2 (i + 2)) (x.2 (i + 3)) h).2).1, .int (f_N_window (x.2 (i + 1)) (x.2 (i + 2)) (x.2 (i + 3)) h).1] (f_M_window (x.2 (i + 1)) (x.2 (i + 2)) (x.2 (i + 3)) (f_N_window (x.2 (i + 1)) (x.2 (i + 2)) (x.2 (i + 3)) h).2).2 Q
  exact zg_i_eq zd_268 (q _ _ rfl) (fun _ => kk _ hs I') (fun z => absurd o3 z)
def zcs_28 : List (Nat × zm_I) := [(1182, 1, .aload_n 1, 0, 0, 0), (1183, 1, .aload_n 0, 0, 0, 0), (1184, 1, .iload_n 3, 0, 0, 0), (1185, 1, .iconst 1, 0, 0, 1), (1186, 1, .iadd, 0, 0, 0), (1187, 1, .iaload, 0, 0, 0), (1188, 1, .aload_n 0, 0, 0, 0), (1189, 1, .iload_n 3, 0, 0, 0), (1190, 1, .iconst 2, 0, 0, 2), (1191, 1, .iadd, 0, 0, 0), (1192, 1, .iaload, 0, 0, 0), (1193, 3, .invokevirtual 132, 161, 3, 0), (1196, 1, .aload_n 2, 0, 0, 0), (1197, 1, .aload_n 0, 0, 0, 0), (1198, 1, .iload_n 3, 0, 0, 0), (1199, 1, .iconst 1, 0, 0, 1), (1200, 1, .iadd, 0, 0, 0), (1201, 1, .iaload, 0, 0, 0), (1202, 1, .aload_n 0, 0, 0, 0), (1203, 1, .iload_n 3, 0, 0, 0), (1204, 1, .iconst 2, 0, 0, 2), (1205, 1, .iadd, 0, 0, 0), (1206, 1, .iaload, 0, 0, 0), (1207, 3, .invokevirtual 135, 251, 3, 0), (1210, 3, .if_icmp .eq 232, 1442, 0, 0), (1213, 1, .iconst 0, 0, 0, 0), (1214, 1, .ireturn, 0, 0, 0)]
set_option maxRecDepth 100000 in
theorem zcs_28_ok : ∀ e ∈ zcs_28, zc_268.lookup e.1 = some e.2 := by decide +kernel
set_option maxRecDepth 100000 in
set_option maxHeartbeats 2000000 in
theorem lw_c28 {x : zm_X} {i : Nat} {h : zm_H} {Q : Option Value → zm_H → Prop} (hs : zSh zT0 h) (I : Inv h) (hi : i + 6 ≤ x.1) (hx : x.1 ≤ 3072) (kk : ∀ h', zSh zT0 h' → Inv h' → zg x 300 268 1442 (lwL i) [] h' Q) : zg x 300 268 1182 (lwL i) [] h Q := by
  have q : ∀ pc q, zcs_28.lookup pc = some q → zc_268.lookup pc = some q := fun pc q h => zcs_28_ok _ (zm_lk_mem _ _ _ h)
  obtain ⟨o1, o2, o3, I'⟩ := K_plan I (x.2 (i + 1)) (x.2 (i + 2))
  refine lw_al (pc := 1182) (r := 0) (q _ _ rfl) rfl ?_
  refine lw_ar (pc := 1183) (k := 1) hs (by omega) hx rfl (q _ _ rfl) (q _ _ rfl) (q _ _ rfl) (q _ _ rfl) (q _ _ rfl) ?_
  refine lw_ar (pc := 1188) (k := 2) hs (by omega) hx rfl (q _ _ rfl) (q _ _ rfl) (q _ _ rfl) (q _ _ rfl) (q _ _ rfl) ?_
  refine zg_call (pc := 1193) hs zd_268 (q _ _ rfl) rfl rfl rfl (as := [.ref 0, .int (x.2 (i + 1)), .int (x.2 (i + 2))]) (rest := []) (en := [some (.ref 0), some (.int (x.2 (i + 1))), some (.int (x.2 (i + 2)))]) rfl rfl rfl rfl rfl ?_
  refine f_N_plan_t (x.2 (i + 1)) (x.2 (i + 2)) h hs o1 (fun hs => ?_)
  show zg x 300 268 1196 (lwL i) [.int (f_N_plan (x.2 (i + 1)) (x.2 (i + 2)) h).1] (f_N_plan (x.2 (i + 1)) (x.2 (i + 2)) h).2 Q
  refine lw_al (pc := 1196) (r := 92) (q _ _ rfl) rfl ?_
  refine lw_ar (pc := 1197) (k := 1) hs (by omega) hx rfl (q _ _ rfl) (q _ _ rfl) (q _ _ rfl) (q _ _ rfl) (q _ _ rfl) ?_
  refine lw_ar (pc := 1202) (k := 2) hs (by omega) hx rfl (q _ _ rfl) (q _ _ rfl) (q _ _ rfl) (q _ _ rfl) (q _ _ rfl) ?_
  refine zg_call (pc := 1207) hs zd_268 (q _ _ rfl) rfl rfl rfl (as := [.ref 92, .int (x.2 (i + 1)), .int (x.2 (i + 2))]) (rest := [.int (f_N_plan (x.2 (i + 1)) (x.2 (i + 2)) h).1]) (en := [some (.ref 92), some (.int (x.2 (i + 1))), some (.int (x.2 (i + 2))), none, none, none]) rfl rfl rfl rfl rfl ?_
  refine f_M_plan_t (x.2 (i + 1)) (x.2 (i + 2)) (f_N_plan (x.2 (i + 1)) (x.2 (i + 2)) h).2 hs o2 (fun hs => ?_)
  show zg x 300 268 1210 (lwL i) [.int (f_M_plan (x.2 (i + 1)) (x.2 (i + 2)) (f_N_plan (x.2 (i + 1)) (x.2 (i + 2)) h).2).1, .int (f_N_plan (x.2 (i + 1)) (x.2 (i + 2)) h).1] (f_M_plan (x.2 (i + 1)) (x.2 (i + 2)) (f_N_plan (x.2 (i + 1)) (x.2 (i + 2)) h).2).2 Q
  exact zg_i_eq zd_268 (q _ _ rfl) (fun _ => kk _ hs I') (fun z => absurd o3 z)
def zcs_29 : List (Nat × zm_I) := [(1215, 1, .aload_n 1, 0, 0, 0), (1216, 1, .aload_n 0, 0, 0, 0), (1217, 1, .iload_n 3, 0, 0, 0), (1218, 1, .iconst 1, 0, 0, 1), (1219, 1, .iadd, 0, 0, 0), (1220, 1, .iaload, 0, 0, 0), (1221, 3, .invokevirtual 136, 162, 2, 0), (1224, 1, .aload_n 2, 0, 0, 0), (1225, 1, .aload_n 0, 0, 0, 0), (1226, 1, .iload_n 3, 0, 0, 0), (1227, 1, .iconst 1, 0, 0, 1), (1228, 1, .iadd, 0, 0, 0), (1229, 1, .iaload, 0, 0, 0), (1230, 3, .invokevirtual 139, 254, 2, 0), (1233, 3, .if_icmp .eq 209, 1442, 0, 0), (1236, 1, .iconst 0, 0, 0, 0), (1237, 1, .ireturn, 0, 0, 0)]
set_option maxRecDepth 100000 in
theorem zcs_29_ok : ∀ e ∈ zcs_29, zc_268.lookup e.1 = some e.2 := by decide +kernel
set_option maxRecDepth 100000 in
set_option maxHeartbeats 2000000 in
theorem lw_c29 {x : zm_X} {i : Nat} {h : zm_H} {Q : Option Value → zm_H → Prop} (hs : zSh zT0 h) (I : Inv h) (hi : i + 6 ≤ x.1) (hx : x.1 ≤ 3072) (kk : ∀ h', zSh zT0 h' → Inv h' → zg x 300 268 1442 (lwL i) [] h' Q) : zg x 300 268 1215 (lwL i) [] h Q := by
  have q : ∀ pc q, zcs_29.lookup pc = some q → zc_268.lookup pc = some q := fun pc q h => zcs_29_ok _ (zm_lk_mem _ _ _ h)
  obtain ⟨o1, o2, o3, I'⟩ := K_place I (x.2 (i + 1))
  refine lw_al (pc := 1215) (r := 0) (q _ _ rfl) rfl ?_
  refine lw_ar (pc := 1216) (k := 1) hs (by omega) hx rfl (q _ _ rfl) (q _ _ rfl) (q _ _ rfl) (q _ _ rfl) (q _ _ rfl) ?_
  refine zg_call (pc := 1221) hs zd_268 (q _ _ rfl) rfl rfl rfl (as := [.ref 0, .int (x.2 (i + 1))]) (rest := []) (en := [some (.ref 0), some (.int (x.2 (i + 1)))]) rfl rfl rfl rfl rfl ?_
  refine f_N_place_t (x.2 (i + 1)) h hs o1 (fun hs => ?_)
  show zg x 300 268 1224 (lwL i) [.int (f_N_place (x.2 (i + 1)) h).1] (f_N_place (x.2 (i + 1)) h).2 Q
  refine lw_al (pc := 1224) (r := 92) (q _ _ rfl) rfl ?_
  refine lw_ar (pc := 1225) (k := 1) hs (by omega) hx rfl (q _ _ rfl) (q _ _ rfl) (q _ _ rfl) (q _ _ rfl) (q _ _ rfl) ?_
  refine zg_call (pc := 1230) hs zd_268 (q _ _ rfl) rfl rfl rfl (as := [.ref 92, .int (x.2 (i + 1))]) (rest := [.int (f_N_place (x.2 (i + 1)) h).1]) (en := [some (.ref 92), some (.int (x.2 (i + 1))), none]) rfl rfl rfl rfl rfl ?_
  refine f_M_place_t (x.2 (i + 1)) (f_N_place (x.2 (i + 1)) h).2 hs o2 (fun hs => ?_)
  show zg x 300 268 1233 (lwL i) [.int (f_M_place (x.2 (i + 1)) (f_N_place (x.2 (i + 1)) h).2).1, .int (f_N_place (x.2 (i + 1)) h).1] (f_M_place (x.2 (i + 1)) (f_N_place (x.2 (i + 1)) h).2).2 Q
  exact zg_i_eq zd_268 (q _ _ rfl) (fun _ => kk _ hs I') (fun z => absurd o3 z)
def zcs_30 : List (Nat × zm_I) := [(1238, 1, .aload_n 1, 0, 0, 0), (1239, 3, .invokevirtual 140, 163, 1, 0), (1242, 1, .aload_n 2, 0, 0, 0), (1243, 3, .invokevirtual 143, 255, 1, 0), (1246, 3, .if_icmp .eq 196, 1442, 0, 0), (1249, 1, .iconst 0, 0, 0, 0), (1250, 1, .ireturn, 0, 0, 0)]
set_option maxRecDepth 100000 in
theorem zcs_30_ok : ∀ e ∈ zcs_30, zc_268.lookup e.1 = some e.2 := by decide +kernel
set_option maxRecDepth 100000 in
set_option maxHeartbeats 2000000 in
theorem lw_c30 {x : zm_X} {i : Nat} {h : zm_H} {Q : Option Value → zm_H → Prop} (hs : zSh zT0 h) (I : Inv h) (hi : i + 6 ≤ x.1) (hx : x.1 ≤ 3072) (kk : ∀ h', zSh zT0 h' → Inv h' → zg x 300 268 1442 (lwL i) [] h' Q) : zg x 300 268 1238 (lwL i) [] h Q := by
  have q : ∀ pc q, zcs_30.lookup pc = some q → zc_268.lookup pc = some q := fun pc q h => zcs_30_ok _ (zm_lk_mem _ _ _ h)
  obtain ⟨o1, o2, o3, I'⟩ := K_clear I
  refine lw_al (pc := 1238) (r := 0) (q _ _ rfl) rfl ?_
  refine zg_call (pc := 1239) hs zd_268 (q _ _ rfl) rfl rfl rfl (as := [.ref 0]) (rest := []) (en := [some (.ref 0), none]) rfl rfl rfl rfl rfl ?_
  refine f_N_clear_t h hs o1 (fun hs => ?_)
  show zg x 300 268 1242 (lwL i) [.int (f_N_clear h).1] (f_N_clear h).2 Q
  refine lw_al (pc := 1242) (r := 92) (q _ _ rfl) rfl ?_
  refine zg_call (pc := 1243) hs zd_268 (q _ _ rfl) rfl rfl rfl (as := [.ref 92]) (rest := [.int (f_N_clear h).1]) (en := [some (.ref 92), none]) rfl rfl rfl rfl rfl ?_
  refine f_M_clear_t (f_N_clear h).2 hs o2 (fun hs => ?_)
  show zg x 300 268 1246 (lwL i) [.int (f_M_clear (f_N_clear h).2).1, .int (f_N_clear h).1] (f_M_clear (f_N_clear h).2).2 Q
  exact zg_i_eq zd_268 (q _ _ rfl) (fun _ => kk _ hs I') (fun z => absurd o3 z)
def zcs_31 : List (Nat × zm_I) := [(1251, 1, .aload_n 1, 0, 0, 0), (1252, 1, .aload_n 0, 0, 0, 0), (1253, 1, .iload_n 3, 0, 0, 0), (1254, 1, .iconst 1, 0, 0, 1), (1255, 1, .iadd, 0, 0, 0), (1256, 1, .iaload, 0, 0, 0), (1257, 1, .aload_n 0, 0, 0, 0), (1258, 1, .iload_n 3, 0, 0, 0), (1259, 1, .iconst 2, 0, 0, 2), (1260, 1, .iadd, 0, 0, 0), (1261, 1, .iaload, 0, 0, 0), (1262, 1, .aload_n 0, 0, 0, 0), (1263, 1, .iload_n 3, 0, 0, 0), (1264, 1, .iconst 3, 0, 0, 3), (1265, 1, .iadd, 0, 0, 0), (1266, 1, .iaload, 0, 0, 0), (1267, 1, .aload_n 0, 0, 0, 0), (1268, 1, .iload_n 3, 0, 0, 0), (1269, 1, .iconst 4, 0, 0, 4), (1270, 1, .iadd, 0, 0, 0), (1271, 1, .iaload, 0, 0, 0), (1272, 1, .aload_n 0, 0, 0, 0), (1273, 1, .iload_n 3, 0, 0, 0), (1274, 1, .iconst 5, 0, 0, 5), (1275, 1, .iadd, 0, 0, 0), (1276, 1, .iaload, 0, 0, 0), (1277, 3, .invokevirtual 144, 164, 6, 0), (1280, 1, .aload_n 2, 0, 0, 0), (1281, 1, .aload_n 0, 0, 0, 0), (1282, 1, .iload_n 3, 0, 0, 0), (1283, 1, .iconst 1, 0, 0, 1), (1284, 1, .iadd, 0, 0, 0), (1285, 1, .iaload, 0, 0, 0), (1286, 1, .aload_n 0, 0, 0, 0), (1287, 1, .iload_n 3, 0, 0, 0), (1288, 1, .iconst 2, 0, 0, 2), (1289, 1, .iadd, 0, 0, 0), (1290, 1, .iaload, 0, 0, 0), (1291, 1, .aload_n 0, 0, 0, 0), (1292, 1, .iload_n 3, 0, 0, 0), (1293, 1, .iconst 3, 0, 0, 3), (1294, 1, .iadd, 0, 0, 0), (1295, 1, .iaload, 0, 0, 0), (1296, 1, .aload_n 0, 0, 0, 0), (1297, 1, .iload_n 3, 0, 0, 0), (1298, 1, .iconst 4, 0, 0, 4), (1299, 1, .iadd, 0, 0, 0), (1300, 1, .iaload, 0, 0, 0), (1301, 1, .aload_n 0, 0, 0, 0), (1302, 1, .iload_n 3, 0, 0, 0), (1303, 1, .iconst 5, 0, 0, 5), (1304, 1, .iadd, 0, 0, 0), (1305, 1, .iaload, 0, 0, 0), (1306, 3, .invokevirtual 147, 256, 6, 0), (1309, 3, .if_icmp .eq 133, 1442, 0, 0), (1312, 1, .iconst 0, 0, 0, 0), (1313, 1, .ireturn, 0, 0, 0)]
set_option maxRecDepth 100000 in
theorem zcs_31_ok : ∀ e ∈ zcs_31, zc_268.lookup e.1 = some e.2 := by decide +kernel
set_option maxRecDepth 100000 in
set_option maxHeartbeats 2000000 in
theorem lw_c31 {x : zm_X} {i : Nat} {h : zm_H} {Q : Option Value → zm_H → Prop} (hs : zSh zT0 h) (I : Inv h) (hi : i + 6 ≤ x.1) (hx : x.1 ≤ 3072) (kk : ∀ h', zSh zT0 h' → Inv h' → zg x 300 268 1442 (lwL i) [] h' Q) : zg x 300 268 1251 (lwL i) [] h Q := by
  have q : ∀ pc q, zcs_31.lookup pc = some q → zc_268.lookup pc = some q := fun pc q h => zcs_31_ok _ (zm_lk_mem _ _ _ h)
  obtain ⟨o1, o2, o3, I'⟩ := K_laying I (x.2 (i + 1)) (x.2 (i + 2)) (x.2 (i + 3)) (x.2 (i + 4)) (x.2 (i + 5))
  refine lw_al (pc := 1251) (r := 0) (q _ _ rfl) rfl ?_
  refine lw_ar (pc := 1252) (k := 1) hs (by omega) hx rfl (q _ _ rfl) (q _ _ rfl) (q _ _ rfl) (q _ _ rfl) (q _ _ rfl) ?_
  refine lw_ar (pc := 1257) (k := 2) hs (by omega) hx rfl (q _ _ rfl) (q _ _ rfl) (q _ _ rfl) (q _ _ rfl) (q _ _ rfl) ?_
  refine lw_ar (pc := 1262) (k := 3) hs (by omega) hx rfl (q _ _ rfl) (q _ _ rfl) (q _ _ rfl) (q _ _ rfl) (q _ _ rfl) ?_
  refine lw_ar (pc := 1267) (k := 4) hs (by omega) hx rfl (q _ _ rfl) (q _ _ rfl) (q _ _ rfl) (q _ _ rfl) (q _ _ rfl) ?_
  refine lw_ar (pc := 1272) (k := 5) hs (by omega) hx rfl (q _ _ rfl) (q _ _ rfl) (q _ _ rfl) (q _ _ rfl) (q _ _ rfl) ?_
  refine zg_call (pc := 1277) hs zd_268 (q _ _ rfl) rfl rfl rfl (as := [.ref 0, .int (x.2 (i + 1)), .int (x.2 (i + 2)), .int (x.2 (i + 3)), .int (x.2 (i + 4)), .int (x.2 (i + 5))]) (rest := []) (en := [some (.ref 0), some (.int (x.2 (i + 1))), some (.int (x.2 (i + 2))), some (.int (x.2 (i + 3))), some (.int (x.2 (i + 4))), some (.int (x.2 (i + 5)))]) rfl rfl rfl rfl rfl ?_
  refine f_N_laying_t (x.2 (i + 1)) (x.2 (i + 2)) (x.2 (i + 3)) (x.2 (i + 4)) (x.2 (i + 5)) h hs o1 (fun hs => ?_)
  show zg x 300 268 1280 (lwL i) [.int (f_N_laying (x.2 (i + 1)) (x.2 (i + 2)) (x.2 (i + 3)) (x.2 (i + 4)) (x.2 (i + 5)) h).1] (f_N_laying (x.2 (i + 1)) (x.2 (i + 2)) (x.2 (i + 3)) (x.2 (i + 4)) (x.2 (i + 5)) h).2 Q
  refine lw_al (pc := 1280) (r := 92) (q _ _ rfl) rfl ?_
  refine lw_ar (pc := 1281) (k := 1) hs (by omega) hx rfl (q _ _ rfl) (q _ _ rfl) (q _ _ rfl) (q _ _ rfl) (q _ _ rfl) ?_
  refine lw_ar (pc := 1286) (k := 2) hs (by omega) hx rfl (q _ _ rfl) (q _ _ rfl) (q _ _ rfl) (q _ _ rfl) (q _ _ rfl) ?_
  refine lw_ar (pc := 1291) (k := 3) hs (by omega) hx rfl (q _ _ rfl) (q _ _ rfl) (q _ _ rfl) (q _ _ rfl) (q _ _ rfl) ?_
  refine lw_ar (pc := 1296) (k := 4) hs (by omega) hx rfl (q _ _ rfl) (q _ _ rfl) (q _ _ rfl) (q _ _ rfl) (q _ _ rfl) ?_
  refine lw_ar (pc := 1301) (k := 5) hs (by omega) hx rfl (q _ _ rfl) (q _ _ rfl) (q _ _ rfl) (q _ _ rfl) (q _ _ rfl) ?_
  refine zg_call (pc := 1306) hs zd_268 (q _ _ rfl) rfl rfl rfl (as := [.ref 92, .int (x.2 (i + 1)), .int (x.2 (i + 2)), .int (x.2 (i + 3)), .int (x.2 (i + 4)), .int (x.2 (i + 5))]) (rest := [.int (f_N_laying (x.2 (i + 1)) (x.2 (i + 2)) (x.2 (i + 3)) (x.2 (i + 4)) (x.2 (i + 5)) h).1]) (en := [some (.ref 92), some (.int (x.2 (i + 1))), some (.int (x.2 (i + 2))), some (.int (x.2 (i + 3))), some (.int (x.2 (i + 4))), some (.int (x.2 (i + 5))), none, none, none, none, none, none, none, none]) rfl rfl rfl rfl rfl ?_
  refine f_M_laying_t (x.2 (i + 1)) (x.2 (i + 2)) (x.2 (i + 3)) (x.2 (i + 4)) (x.2 (i + 5)) (f_N_laying (x.2 (i + 1)) (x.2 (i + 2)) (x.2 (i + 3)) (x.2 (i + 4)) (x.2 (i + 5)) h).2 hs o2 (fun hs => ?_)
  show zg x 300 268 1309 (lwL i) [.int (f_M_laying (x.2 (i + 1)) (x.2 (i + 2)) (x.2 (i + 3)) (x.2 (i + 4)) (x.2 (i + 5)) (f_N_laying (x.2 (i + 1)) (x.2 (i + 2)) (x.2 (i + 3)) (x.2 (i + 4)) (x.2 (i + 5)) h).2).1, .int (f_N_laying (x.2 (i + 1)) (x.2 (i + 2)) (x.2 (i + 3)) (x.2 (i + 4)) (x.2 (i + 5)) h).1] (f_M_laying (x.2 (i + 1)) (x.2 (i + 2)) (x.2 (i + 3)) (x.2 (i + 4)) (x.2 (i + 5)) (f_N_laying (x.2 (i + 1)) (x.2 (i + 2)) (x.2 (i + 3)) (x.2 (i + 4)) (x.2 (i + 5)) h).2).2 Q
  exact zg_i_eq zd_268 (q _ _ rfl) (fun _ => kk _ hs I') (fun z => absurd o3 z)
def zcs_32 : List (Nat × zm_I) := [(1314, 1, .aload_n 1, 0, 0, 0), (1315, 1, .aload_n 0, 0, 0, 0), (1316, 1, .iload_n 3, 0, 0, 0), (1317, 1, .iconst 1, 0, 0, 1), (1318, 1, .iadd, 0, 0, 0), (1319, 1, .iaload, 0, 0, 0), (1320, 1, .aload_n 0, 0, 0, 0), (1321, 1, .iload_n 3, 0, 0, 0), (1322, 1, .iconst 2, 0, 0, 2), (1323, 1, .iadd, 0, 0, 0), (1324, 1, .iaload, 0, 0, 0), (1325, 3, .invokevirtual 148, 165, 3, 0), (1328, 1, .aload_n 2, 0, 0, 0), (1329, 1, .aload_n 0, 0, 0, 0), (1330, 1, .iload_n 3, 0, 0, 0), (1331, 1, .iconst 1, 0, 0, 1), (1332, 1, .iadd, 0, 0, 0), (1333, 1, .iaload, 0, 0, 0), (1334, 1, .aload_n 0, 0, 0, 0), (1335, 1, .iload_n 3, 0, 0, 0), (1336, 1, .iconst 2, 0, 0, 2), (1337, 1, .iadd, 0, 0, 0), (1338, 1, .iaload, 0, 0, 0), (1339, 3, .invokevirtual 151, 258, 3, 0), (1342, 3, .if_icmp .eq 100, 1442, 0, 0), (1345, 1, .iconst 0, 0, 0, 0), (1346, 1, .ireturn, 0, 0, 0)]
set_option maxRecDepth 100000 in
theorem zcs_32_ok : ∀ e ∈ zcs_32, zc_268.lookup e.1 = some e.2 := by decide +kernel
set_option maxRecDepth 100000 in
set_option maxHeartbeats 2000000 in
theorem lw_c32 {x : zm_X} {i : Nat} {h : zm_H} {Q : Option Value → zm_H → Prop} (hs : zSh zT0 h) (I : Inv h) (hi : i + 6 ≤ x.1) (hx : x.1 ≤ 3072) (kk : ∀ h', zSh zT0 h' → Inv h' → zg x 300 268 1442 (lwL i) [] h' Q) : zg x 300 268 1314 (lwL i) [] h Q := by
  have q : ∀ pc q, zcs_32.lookup pc = some q → zc_268.lookup pc = some q := fun pc q h => zcs_32_ok _ (zm_lk_mem _ _ _ h)
  obtain ⟨o1, o2, o3, I'⟩ := K_blame I (x.2 (i + 1)) (x.2 (i + 2))
  refine lw_al (pc := 1314) (r := 0) (q _ _ rfl) rfl ?_
  refine lw_ar (pc := 1315) (k := 1) hs (by omega) hx rfl (q _ _ rfl) (q _ _ rfl) (q _ _ rfl) (q _ _ rfl) (q _ _ rfl) ?_
  refine lw_ar (pc := 1320) (k := 2) hs (by omega) hx rfl (q _ _ rfl) (q _ _ rfl) (q _ _ rfl) (q _ _ rfl) (q _ _ rfl) ?_
  refine zg_call (pc := 1325) hs zd_268 (q _ _ rfl) rfl rfl rfl (as := [.ref 0, .int (x.2 (i + 1)), .int (x.2 (i + 2))]) (rest := []) (en := [some (.ref 0), some (.int (x.2 (i + 1))), some (.int (x.2 (i + 2))), none]) rfl rfl rfl rfl rfl ?_
  refine f_N_blame_t (x.2 (i + 1)) (x.2 (i + 2)) h hs o1 ?_
  show zg x 300 268 1328 (lwL i) [.int (f_N_blame (x.2 (i + 1)) (x.2 (i + 2)) h)] h Q
  refine lw_al (pc := 1328) (r := 92) (q _ _ rfl) rfl ?_
  refine lw_ar (pc := 1329) (k := 1) hs (by omega) hx rfl (q _ _ rfl) (q _ _ rfl) (q _ _ rfl) (q _ _ rfl) (q _ _ rfl) ?_
  refine lw_ar (pc := 1334) (k := 2) hs (by omega) hx rfl (q _ _ rfl) (q _ _ rfl) (q _ _ rfl) (q _ _ rfl) (q _ _ rfl) ?_
  refine zg_call (pc := 1339) hs zd_268 (q _ _ rfl) rfl rfl rfl (as := [.ref 92, .int (x.2 (i + 1)), .int (x.2 (i + 2))]) (rest := [.int (f_N_blame (x.2 (i + 1)) (x.2 (i + 2)) h)]) (en := [some (.ref 92), some (.int (x.2 (i + 1))), some (.int (x.2 (i + 2))), none]) rfl rfl rfl rfl rfl ?_
  refine f_M_blame_t (x.2 (i + 1)) (x.2 (i + 2)) h hs o2 (fun hs => ?_)
  show zg x 300 268 1342 (lwL i) [.int (f_M_blame (x.2 (i + 1)) (x.2 (i + 2)) h).1, .int (f_N_blame (x.2 (i + 1)) (x.2 (i + 2)) h)] (f_M_blame (x.2 (i + 1)) (x.2 (i + 2)) h).2 Q
  exact zg_i_eq zd_268 (q _ _ rfl) (fun _ => kk _ hs I') (fun z => absurd o3 z)
def zcs_33 : List (Nat × zm_I) := [(1347, 1, .aload_n 1, 0, 0, 0), (1348, 1, .aload_n 0, 0, 0, 0), (1349, 1, .iload_n 3, 0, 0, 0), (1350, 1, .iconst 1, 0, 0, 1), (1351, 1, .iadd, 0, 0, 0), (1352, 1, .iaload, 0, 0, 0), (1353, 1, .aload_n 0, 0, 0, 0), (1354, 1, .iload_n 3, 0, 0, 0), (1355, 1, .iconst 2, 0, 0, 2), (1356, 1, .iadd, 0, 0, 0), (1357, 1, .iaload, 0, 0, 0), (1358, 1, .aload_n 0, 0, 0, 0), (1359, 1, .iload_n 3, 0, 0, 0), (1360, 1, .iconst 3, 0, 0, 3), (1361, 1, .iadd, 0, 0, 0), (1362, 1, .iaload, 0, 0, 0), (1363, 3, .ifCond .eq 7, 1370, 0, 0), (1366, 1, .iconst 1, 0, 0, 1), (1367, 3, .goto 4, 1371, 0, 0), (1370, 1, .iconst 0, 0, 0, 0), (1371, 3, .invokevirtual 152, 166, 4, 0), (1374, 1, .aload_n 2, 0, 0, 0), (1375, 1, .aload_n 0, 0, 0, 0), (1376, 1, .iload_n 3, 0, 0, 0), (1377, 1, .iconst 1, 0, 0, 1), (1378, 1, .iadd, 0, 0, 0), (1379, 1, .iaload, 0, 0, 0), (1380, 1, .aload_n 0, 0, 0, 0), (1381, 1, .iload_n 3, 0, 0, 0), (1382, 1, .iconst 2, 0, 0, 2), (1383, 1, .iadd, 0, 0, 0), (1384, 1, .iaload, 0, 0, 0), (1385, 1, .aload_n 0, 0, 0, 0), (1386, 1, .iload_n 3, 0, 0, 0), (1387, 1, .iconst 3, 0, 0, 3), (1388, 1, .iadd, 0, 0, 0), (1389, 1, .iaload, 0, 0, 0), (1390, 3, .ifCond .eq 7, 1397, 0, 0), (1393, 1, .iconst 1, 0, 0, 1), (1394, 3, .goto 4, 1398, 0, 0), (1397, 1, .iconst 0, 0, 0, 0), (1398, 3, .invokevirtual 156, 259, 4, 0), (1401, 3, .if_icmp .eq 41, 1442, 0, 0), (1404, 1, .iconst 0, 0, 0, 0), (1405, 1, .ireturn, 0, 0, 0)]
set_option maxRecDepth 100000 in
theorem zcs_33_ok : ∀ e ∈ zcs_33, zc_268.lookup e.1 = some e.2 := by decide +kernel
set_option maxRecDepth 100000 in
set_option maxHeartbeats 2000000 in
theorem lw_c33 {x : zm_X} {i : Nat} {h : zm_H} {Q : Option Value → zm_H → Prop} (hs : zSh zT0 h) (I : Inv h) (hi : i + 6 ≤ x.1) (hx : x.1 ≤ 3072) (kk : ∀ h', zSh zT0 h' → Inv h' → zg x 300 268 1442 (lwL i) [] h' Q) : zg x 300 268 1347 (lwL i) [] h Q := by
  have q : ∀ pc q, zcs_33.lookup pc = some q → zc_268.lookup pc = some q := fun pc q h => zcs_33_ok _ (zm_lk_mem _ _ _ h)
  obtain ⟨o1, o2, o3, I'⟩ := K_test I (x.2 (i + 1)) (x.2 (i + 2)) (if (x.2 (i + 3)) = 0 then (0 : Int32) else 1)
  refine lw_al (pc := 1347) (r := 0) (q _ _ rfl) rfl ?_
  refine lw_ar (pc := 1348) (k := 1) hs (by omega) hx rfl (q _ _ rfl) (q _ _ rfl) (q _ _ rfl) (q _ _ rfl) (q _ _ rfl) ?_
  refine lw_ar (pc := 1353) (k := 2) hs (by omega) hx rfl (q _ _ rfl) (q _ _ rfl) (q _ _ rfl) (q _ _ rfl) (q _ _ rfl) ?_
  refine lw_ar (pc := 1358) (k := 3) hs (by omega) hx rfl (q _ _ rfl) (q _ _ rfl) (q _ _ rfl) (q _ _ rfl) (q _ _ rfl) ?_
  refine lw_bo (pc := 1363) (q _ _ rfl) (q _ _ rfl) (q _ _ rfl) (q _ _ rfl) ?_
  refine zg_call (pc := 1371) hs zd_268 (q _ _ rfl) rfl rfl rfl (as := [.ref 0, .int (x.2 (i + 1)), .int (x.2 (i + 2)), .int (if (x.2 (i + 3)) = 0 then (0 : Int32) else 1)]) (rest := []) (en := [some (.ref 0), some (.int (x.2 (i + 1))), some (.int (x.2 (i + 2))), some (.int (if (x.2 (i + 3)) = 0 then (0 : Int32) else 1))]) rfl rfl rfl rfl rfl ?_
  refine f_N_test_t (x.2 (i + 1)) (x.2 (i + 2)) (if (x.2 (i + 3)) = 0 then (0 : Int32) else 1) h hs o1 (fun hs => ?_)
  show zg x 300 268 1374 (lwL i) [.int (f_N_test (x.2 (i + 1)) (x.2 (i + 2)) (if (x.2 (i + 3)) = 0 then (0 : Int32) else 1) h).1] (f_N_test (x.2 (i + 1)) (x.2 (i + 2)) (if (x.2 (i + 3)) = 0 then (0 : Int32) else 1) h).2 Q
  refine lw_al (pc := 1374) (r := 92) (q _ _ rfl) rfl ?_
  refine lw_ar (pc := 1375) (k := 1) hs (by omega) hx rfl (q _ _ rfl) (q _ _ rfl) (q _ _ rfl) (q _ _ rfl) (q _ _ rfl) ?_
  refine lw_ar (pc := 1380) (k := 2) hs (by omega) hx rfl (q _ _ rfl) (q _ _ rfl) (q _ _ rfl) (q _ _ rfl) (q _ _ rfl) ?_
  refine lw_ar (pc := 1385) (k := 3) hs (by omega) hx rfl (q _ _ rfl) (q _ _ rfl) (q _ _ rfl) (q _ _ rfl) (q _ _ rfl) ?_
  refine lw_bo (pc := 1390) (q _ _ rfl) (q _ _ rfl) (q _ _ rfl) (q _ _ rfl) ?_
  refine zg_call (pc := 1398) hs zd_268 (q _ _ rfl) rfl rfl rfl (as := [.ref 92, .int (x.2 (i + 1)), .int (x.2 (i + 2)), .int (if (x.2 (i + 3)) = 0 then (0 : Int32) else 1)]) (rest := [.int (f_N_test (x.2 (i + 1)) (x.2 (i + 2)) (if (x.2 (i + 3)) = 0 then (0 : Int32) else 1) h).1]) (en := [some (.ref 92), some (.int (x.2 (i + 1))), some (.int (x.2 (i + 2))), some (.int (if (x.2 (i + 3)) = 0 then (0 : Int32) else 1))]) rfl rfl rfl rfl rfl ?_
  refine f_M_test_t (x.2 (i + 1)) (x.2 (i + 2)) (if (x.2 (i + 3)) = 0 then (0 : Int32) else 1) (f_N_test (x.2 (i + 1)) (x.2 (i + 2)) (if (x.2 (i + 3)) = 0 then (0 : Int32) else 1) h).2 hs o2 (fun hs => ?_)
  show zg x 300 268 1401 (lwL i) [.int (f_M_test (x.2 (i + 1)) (x.2 (i + 2)) (if (x.2 (i + 3)) = 0 then (0 : Int32) else 1) (f_N_test (x.2 (i + 1)) (x.2 (i + 2)) (if (x.2 (i + 3)) = 0 then (0 : Int32) else 1) h).2).1, .int (f_N_test (x.2 (i + 1)) (x.2 (i + 2)) (if (x.2 (i + 3)) = 0 then (0 : Int32) else 1) h).1] (f_M_test (x.2 (i + 1)) (x.2 (i + 2)) (if (x.2 (i + 3)) = 0 then (0 : Int32) else 1) (f_N_test (x.2 (i + 1)) (x.2 (i + 2)) (if (x.2 (i + 3)) = 0 then (0 : Int32) else 1) h).2).2 Q
  exact zg_i_eq zd_268 (q _ _ rfl) (fun _ => kk _ hs I') (fun z => absurd o3 z)
def zcs_34 : List (Nat × zm_I) := [(1406, 1, .aload_n 1, 0, 0, 0), (1407, 3, .invokevirtual 157, 167, 1, 0), (1410, 1, .aload_n 2, 0, 0, 0), (1411, 3, .invokevirtual 160, 261, 1, 0), (1414, 3, .if_icmp .eq 28, 1442, 0, 0), (1417, 1, .iconst 0, 0, 0, 0), (1418, 1, .ireturn, 0, 0, 0)]
set_option maxRecDepth 100000 in
theorem zcs_34_ok : ∀ e ∈ zcs_34, zc_268.lookup e.1 = some e.2 := by decide +kernel
set_option maxRecDepth 100000 in
set_option maxHeartbeats 2000000 in
theorem lw_c34 {x : zm_X} {i : Nat} {h : zm_H} {Q : Option Value → zm_H → Prop} (hs : zSh zT0 h) (I : Inv h) (hi : i + 6 ≤ x.1) (hx : x.1 ≤ 3072) (kk : ∀ h', zSh zT0 h' → Inv h' → zg x 300 268 1442 (lwL i) [] h' Q) : zg x 300 268 1406 (lwL i) [] h Q := by
  have q : ∀ pc q, zcs_34.lookup pc = some q → zc_268.lookup pc = some q := fun pc q h => zcs_34_ok _ (zm_lk_mem _ _ _ h)
  obtain ⟨o1, o2, o3⟩ := K_next I
  refine lw_al (pc := 1406) (r := 0) (q _ _ rfl) rfl ?_
  refine zg_call (pc := 1407) hs zd_268 (q _ _ rfl) rfl rfl rfl (as := [.ref 0]) (rest := []) (en := [some (.ref 0)]) rfl rfl rfl rfl rfl ?_
  refine f_N_next_t h hs o1 ?_
  show zg x 300 268 1410 (lwL i) [.int (f_N_next h)] h Q
  refine lw_al (pc := 1410) (r := 92) (q _ _ rfl) rfl ?_
  refine zg_call (pc := 1411) hs zd_268 (q _ _ rfl) rfl rfl rfl (as := [.ref 92]) (rest := [.int (f_N_next h)]) (en := [some (.ref 92), none, none, none, none, none, none, none]) rfl rfl rfl rfl rfl ?_
  refine f_M_next_t h hs o2 ?_
  show zg x 300 268 1414 (lwL i) [.int (f_M_next h), .int (f_N_next h)] h Q
  exact zg_i_eq zd_268 (q _ _ rfl) (fun _ => kk _ hs I) (fun z => absurd o3 z)
def zcs_35 : List (Nat × zm_I) := [(1419, 1, .aload_n 1, 0, 0, 0), (1420, 1, .aload_n 0, 0, 0, 0), (1421, 1, .iload_n 3, 0, 0, 0), (1422, 1, .iconst 1, 0, 0, 1), (1423, 1, .iadd, 0, 0, 0), (1424, 1, .iaload, 0, 0, 0), (1425, 3, .invokevirtual 161, 168, 2, 0), (1428, 1, .aload_n 2, 0, 0, 0), (1429, 1, .aload_n 0, 0, 0, 0), (1430, 1, .iload_n 3, 0, 0, 0), (1431, 1, .iconst 1, 0, 0, 1), (1432, 1, .iadd, 0, 0, 0), (1433, 1, .iaload, 0, 0, 0), (1434, 3, .invokevirtual 164, 263, 2, 0), (1437, 3, .if_icmp .eq 5, 1442, 0, 0), (1440, 1, .iconst 0, 0, 0, 0), (1441, 1, .ireturn, 0, 0, 0)]
set_option maxRecDepth 100000 in
theorem zcs_35_ok : ∀ e ∈ zcs_35, zc_268.lookup e.1 = some e.2 := by decide +kernel
set_option maxRecDepth 100000 in
set_option maxHeartbeats 2000000 in
theorem lw_c35 {x : zm_X} {i : Nat} {h : zm_H} {Q : Option Value → zm_H → Prop} (hs : zSh zT0 h) (I : Inv h) (hi : i + 6 ≤ x.1) (hx : x.1 ≤ 3072) (kk : ∀ h', zSh zT0 h' → Inv h' → zg x 300 268 1442 (lwL i) [] h' Q) : zg x 300 268 1419 (lwL i) [] h Q := by
  have q : ∀ pc q, zcs_35.lookup pc = some q → zc_268.lookup pc = some q := fun pc q h => zcs_35_ok _ (zm_lk_mem _ _ _ h)
  obtain ⟨o1, o2, o3⟩ := K_count I (x.2 (i + 1))
  refine lw_al (pc := 1419) (r := 0) (q _ _ rfl) rfl ?_
  refine lw_ar (pc := 1420) (k := 1) hs (by omega) hx rfl (q _ _ rfl) (q _ _ rfl) (q _ _ rfl) (q _ _ rfl) (q _ _ rfl) ?_
  refine zg_call (pc := 1425) hs zd_268 (q _ _ rfl) rfl rfl rfl (as := [.ref 0, .int (x.2 (i + 1))]) (rest := []) (en := [some (.ref 0), some (.int (x.2 (i + 1)))]) rfl rfl rfl rfl rfl ?_
  refine f_N_count_t (x.2 (i + 1)) h hs o1 ?_
  show zg x 300 268 1428 (lwL i) [.int (f_N_count (x.2 (i + 1)) h)] h Q
  refine lw_al (pc := 1428) (r := 92) (q _ _ rfl) rfl ?_
  refine lw_ar (pc := 1429) (k := 1) hs (by omega) hx rfl (q _ _ rfl) (q _ _ rfl) (q _ _ rfl) (q _ _ rfl) (q _ _ rfl) ?_
  refine zg_call (pc := 1434) hs zd_268 (q _ _ rfl) rfl rfl rfl (as := [.ref 92, .int (x.2 (i + 1))]) (rest := [.int (f_N_count (x.2 (i + 1)) h)]) (en := [some (.ref 92), some (.int (x.2 (i + 1)))]) rfl rfl rfl rfl rfl ?_
  refine f_M_count_t (x.2 (i + 1)) h hs o2 ?_
  show zg x 300 268 1437 (lwL i) [.int (f_M_count (x.2 (i + 1)) h), .int (f_N_count (x.2 (i + 1)) h)] h Q
  exact zg_i_eq zd_268 (q _ _ rfl) (fun _ => kk _ hs I) (fun z => absurd o3 z)
