/-! ===== the code does what its functions say, 2 ===== -/
set_option maxRecDepth 100000 in
set_option maxHeartbeats 400000 in
theorem f_M_sheet_t {x : zm_X} {d : Nat} (h : zm_H) {Q : Option Value → zm_H → Prop} (hs : zSh zT0 h) (ho : f_M_sheet_ok h) (hF : (zSh zT0 (f_M_sheet h).2 → Q (some (.int (f_M_sheet h).1)) (f_M_sheet h).2)) : zg x (d + 7) 198 0 [some (.ref 92), none] [] h Q := by
  unfold f_M_sheet at hF
  unfold f_M_sheet_ok at ho
  refine zg_blk zd_198 3 hs (rfl : zb x zT0 zc_198 3 (0, [some (.ref 92), none], [], h) = some (6, [some (.ref 92), none], [.int 10, .int (zf h 92 15)], h)) (fun hs => ?_)
  refine zg_i_eq zd_198 rfl (fun (hc : ((zf h 92 15) = 10)) => ?_) (fun (hc : ¬ ((zf h 92 15) = 10)) => ?_)
  · have ho := ho.1 hc
    rw [if_pos hc] at hF
    refine zg_blk zd_198 1 hs (rfl : zb x zT0 zc_198 1 (17, [some (.ref 92), none], [], h) = some (18, [some (.ref 92), none], [.int (-1)], h)) (fun hs => ?_)
    exact zg_ret zd_198 rfl rfl (hF hs)
  · have ho := ho.2 hc
    rw [if_neg hc] at hF
    refine zg_blk zd_198 1 hs (rfl : zb x zT0 zc_198 1 (9, [some (.ref 92), none], [], h) = some (10, [some (.ref 92), none], [.ref 92], h)) (fun hs => ?_)
    obtain ⟨hob, ho⟩ := ho
    refine zg_call hs zd_198 rfl rfl rfl rfl (as := [.ref 92]) (rest := []) (en := [some (.ref 92), none]) rfl rfl rfl rfl rfl ?_
    refine f_M_reads_t  h hs hob (fun hs => ?_)
    show zg x (d + 7) 198 13 [some (.ref 92), none] [.int (f_M_reads h).1] (f_M_reads h).2 Q
    exact f_M_sheet_k13_t (f_M_reads h).1 (f_M_reads h).2 (none) hs ho hF
theorem zd_132 : zm_cd 132 = zc_132 := by rfl
theorem zd_71 : zm_cd 71 = zc_71 := by rfl
set_option maxRecDepth 100000 in
set_option maxHeartbeats 400000 in
theorem f_Rules_putInForce_t {x : zm_X} {d : Nat} (p1 : Int32) (p2 : Int32) (h : zm_H) {Q : Option Value → zm_H → Prop} (hs : zSh zT0 h) (ho : f_Rules_putInForce_ok p1 p2 h) (hF : (zSh zT0 (f_Rules_putInForce p1 p2 h).2 → Q (some (.int (f_Rules_putInForce p1 p2 h).1)) (f_Rules_putInForce p1 p2 h).2)) : zg x (d + 1) 71 0 [some (.ref 15), some (.int p1), some (.int p2)] [] h Q := by
  unfold f_Rules_putInForce at hF
  unfold f_Rules_putInForce_ok at ho
  refine zg_blk zd_71 3 hs (rfl : zb x zT0 zc_71 3 (0, [some (.ref 15), some (.int p1), some (.int p2)], [], h) = some (6, [some (.ref 15), some (.int p1), some (.int p2)], [.int 15, .int (zf h 15 4)], h)) (fun hs => ?_)
  refine zg_i_lt zd_71 rfl (fun (hc : ((zf h 15 4) < 15)) => ?_) (fun (hc : ¬ ((zf h 15 4) < 15)) => ?_)
  · have ho := ho.1 hc
    rw [if_pos hc] at hF
    refine zg_blk zd_71 5 hs (rfl : zb x zT0 zc_71 5 (11, [some (.ref 15), some (.int p1), some (.int p2)], [], h) = some (20, [some (.ref 15), some (.int p1), some (.int p2)], [.int p1, .int (zf h 15 4), .ref 19], h)) (fun hs => ?_)
    obtain ⟨hob, ho⟩ := ho
    refine zg_ias hs zd_71 rfl rfl hob (fun hs => ?_)
    refine zg_blk zd_71 5 hs (rfl : zb x zT0 zc_71 5 (21, [some (.ref 15), some (.int p1), some (.int p2)], [], (zs h 19 (zf h 15 4) p1)) = some (30, [some (.ref 15), some (.int p1), some (.int p2)], [.int p2, .int (zf h 15 4), .ref 20], (zs h 19 (zf h 15 4) p1))) (fun hs => ?_)
    have hob := ho
    refine zg_ias hs zd_71 rfl rfl hob (fun hs => ?_)
    refine zg_blk zd_71 8 hs (rfl : zb x zT0 zc_71 8 (31, [some (.ref 15), some (.int p1), some (.int p2)], [], (zs (zs h 19 (zf h 15 4) p1) 20 (zf h 15 4) p2)) = some (45, [some (.ref 15), some (.int p1), some (.int p2)], [.int ((zf h 15 4) + 1)], (zp (zs (zs h 19 (zf h 15 4) p1) 20 (zf h 15 4) p2) 15 4 ((zf h 15 4) + 1)))) (fun hs => ?_)
    exact zg_ret zd_71 rfl rfl (hF hs)
  · have ho := ho.2 hc
    rw [if_neg hc] at hF
    refine zg_blk zd_71 1 hs (rfl : zb x zT0 zc_71 1 (9, [some (.ref 15), some (.int p1), some (.int p2)], [], h) = some (10, [some (.ref 15), some (.int p1), some (.int p2)], [.int (-1)], h)) (fun hs => ?_)
    exact zg_ret zd_71 rfl rfl (hF hs)
set_option maxRecDepth 100000 in
set_option maxHeartbeats 400000 in
theorem f_N_force_t {x : zm_X} {d : Nat} (p1 : Int32) (p2 : Int32) (h : zm_H) {Q : Option Value → zm_H → Prop} (hs : zSh zT0 h) (ho : f_N_force_ok p1 p2 h) (hF : (zSh zT0 (f_N_force p1 p2 h).2 → Q (some (.int (f_N_force p1 p2 h).1)) (f_N_force p1 p2 h).2)) : zg x (d + 2) 132 0 [some (.ref 0), some (.int p1), some (.int p2)] [] h Q := by
  unfold f_N_force at hF
  unfold f_N_force_ok at ho
  refine zg_blk zd_132 1 hs (rfl : zb x zT0 zc_132 1 (0, [some (.ref 0), some (.int p1), some (.int p2)], [], h) = some (1, [some (.ref 0), some (.int p1), some (.int p2)], [.int p1], h)) (fun hs => ?_)
  refine zg_f_lt zd_132 rfl (fun (hc : (p1 < 0)) => ?_) (fun (hc : ¬ (p1 < 0)) => ?_)
  · have ho := ho.1 hc
    rw [if_pos hc] at hF
    refine zg_blk zd_132 1 hs (rfl : zb x zT0 zc_132 1 (30, [some (.ref 0), some (.int p1), some (.int p2)], [], h) = some (31, [some (.ref 0), some (.int p1), some (.int p2)], [.int (-1)], h)) (fun hs => ?_)
    exact zg_ret zd_132 rfl rfl (hF hs)
  · have ho := ho.2 hc
    rw [if_neg hc] at hF
    refine zg_blk zd_132 4 hs (rfl : zb x zT0 zc_132 4 (4, [some (.ref 0), some (.int p1), some (.int p2)], [], h) = some (12, [some (.ref 0), some (.int p1), some (.int p2)], [.int (zf h 15 0), .int p1], h)) (fun hs => ?_)
    refine zg_i_ge zd_132 rfl (fun (hc : ((zf h 15 0) ≤ p1)) => ?_) (fun (hc : ¬ ((zf h 15 0) ≤ p1)) => ?_)
    · have ho := ho.1 hc
      rw [if_pos hc] at hF
      refine zg_blk zd_132 1 hs (rfl : zb x zT0 zc_132 1 (30, [some (.ref 0), some (.int p1), some (.int p2)], [], h) = some (31, [some (.ref 0), some (.int p1), some (.int p2)], [.int (-1)], h)) (fun hs => ?_)
      exact zg_ret zd_132 rfl rfl (hF hs)
    · have ho := ho.2 hc
      rw [if_neg hc] at hF
      refine zg_blk zd_132 1 hs (rfl : zb x zT0 zc_132 1 (15, [some (.ref 0), some (.int p1), some (.int p2)], [], h) = some (16, [some (.ref 0), some (.int p1), some (.int p2)], [.int p2], h)) (fun hs => ?_)
      refine zg_call hs zd_132 rfl rfl rfl rfl (as := [.int p2]) (rest := []) (en := [some (.int p2)]) rfl rfl rfl rfl rfl ?_
      refine f_N_isSpell_t p2 h hs trivial ?_
      show zg x (d + 2) 132 19 [some (.ref 0), some (.int p1), some (.int p2)] [.int (if (¬ (p2 < 0) ∧ (¬ (480 ≤ p2))) then (1 : Int32) else 0)] h Q
      refine zg_b_eq zd_132 rfl (fun (hc : ¬ (¬ (p2 < 0) ∧ (¬ (480 ≤ p2)))) => ?_) (fun (hc : (¬ (p2 < 0) ∧ (¬ (480 ≤ p2)))) => ?_)
      · have ho := ho.2 hc
        rw [if_neg hc] at hF
        refine zg_blk zd_132 1 hs (rfl : zb x zT0 zc_132 1 (30, [some (.ref 0), some (.int p1), some (.int p2)], [], h) = some (31, [some (.ref 0), some (.int p1), some (.int p2)], [.int (-1)], h)) (fun hs => ?_)
        exact zg_ret zd_132 rfl rfl (hF hs)
      · have ho := ho.1 hc
        rw [if_pos hc] at hF
        refine zg_blk zd_132 3 hs (rfl : zb x zT0 zc_132 3 (22, [some (.ref 0), some (.int p1), some (.int p2)], [], h) = some (27, [some (.ref 0), some (.int p1), some (.int p2)], [.int (zf h 0 0), .int p2], h)) (fun hs => ?_)
        refine zg_i_ge zd_132 rfl (fun (hc : ((zf h 0 0) ≤ p2)) => ?_) (fun (hc : ¬ ((zf h 0 0) ≤ p2)) => ?_)
        · have ho := ho.1 hc
          rw [if_pos hc] at hF
          refine zg_blk zd_132 4 hs (rfl : zb x zT0 zc_132 4 (32, [some (.ref 0), some (.int p1), some (.int p2)], [], h) = some (38, [some (.ref 0), some (.int p1), some (.int p2)], [.int p2, .int p1, .ref 15], h)) (fun hs => ?_)
          have hob := ho
          refine zg_call hs zd_132 rfl rfl rfl rfl (as := [.ref 15, .int p1, .int p2]) (rest := []) (en := [some (.ref 15), some (.int p1), some (.int p2)]) rfl rfl rfl rfl rfl ?_
          refine f_Rules_putInForce_t p1 p2 h hs hob (fun hs => ?_)
          show zg x (d + 2) 132 41 [some (.ref 0), some (.int p1), some (.int p2)] [.int (f_Rules_putInForce p1 p2 h).1] (f_Rules_putInForce p1 p2 h).2 Q
          exact zg_ret zd_132 rfl rfl (hF hs)
        · have ho := ho.2 hc
          rw [if_neg hc] at hF
          refine zg_blk zd_132 1 hs (rfl : zb x zT0 zc_132 1 (30, [some (.ref 0), some (.int p1), some (.int p2)], [], h) = some (31, [some (.ref 0), some (.int p1), some (.int p2)], [.int (-1)], h)) (fun hs => ?_)
          exact zg_ret zd_132 rfl rfl (hF hs)
theorem zd_199 : zm_cd 199 = zc_199 := by rfl
set_option maxRecDepth 100000 in
set_option maxHeartbeats 400000 in
theorem f_M_force_t {x : zm_X} {d : Nat} (p1 : Int32) (p2 : Int32) (h : zm_H) {Q : Option Value → zm_H → Prop} (hs : zSh zT0 h) (ho : f_M_force_ok p1 p2 h) (hF : (zSh zT0 (f_M_force p1 p2 h).2 → Q (some (.int (f_M_force p1 p2 h).1)) (f_M_force p1 p2 h).2)) : zg x (d + 2) 199 0 [some (.ref 92), some (.int p1), some (.int p2)] [] h Q := by
  unfold f_M_force at hF
  unfold f_M_force_ok at ho
  refine zg_blk zd_199 6 hs (rfl : zb x zT0 zc_199 6 (0, [some (.ref 92), some (.int p1), some (.int p2)], [], h) = some (8, [some (.ref 92), some (.int p1), some (.int p2)], [.int ((zf h 92 15) - 1), .int 0, .int p1], h)) (fun hs => ?_)
  refine zg_call hs zd_199 rfl rfl rfl rfl (as := [.int p1, .int 0, .int ((zf h 92 15) - 1)]) (rest := []) (en := [some (.int p1), some (.int 0), some (.int ((zf h 92 15) - 1))]) rfl rfl rfl rfl rfl ?_
  refine f_M_in_t p1 0 ((zf h 92 15) - 1) h hs trivial ?_
  show zg x (d + 2) 199 11 [some (.ref 92), some (.int p1), some (.int p2)] [.int (if (¬ (p1 < 0) ∧ (¬ (((zf h 92 15) - 1) < p1))) then (1 : Int32) else 0)] h Q
  refine zg_b_eq zd_199 rfl (fun (hc : ¬ (¬ (p1 < 0) ∧ (¬ (((zf h 92 15) - 1) < p1)))) => ?_) (fun (hc : (¬ (p1 < 0) ∧ (¬ (((zf h 92 15) - 1) < p1)))) => ?_)
  · have ho := ho.2 hc
    rw [if_neg hc] at hF
    refine zg_blk zd_199 1 hs (rfl : zb x zT0 zc_199 1 (37, [some (.ref 92), some (.int p1), some (.int p2)], [], h) = some (38, [some (.ref 92), some (.int p1), some (.int p2)], [.int (-1)], h)) (fun hs => ?_)
    exact zg_ret zd_199 rfl rfl (hF hs)
  · have ho := ho.1 hc
    rw [if_pos hc] at hF
    refine zg_blk zd_199 4 hs (rfl : zb x zT0 zc_199 4 (14, [some (.ref 92), some (.int p1), some (.int p2)], [], h) = some (22, [some (.ref 92), some (.int p1), some (.int p2)], [.int 479, .int (zf h 92 23), .int p2], h)) (fun hs => ?_)
    refine zg_call hs zd_199 rfl rfl rfl rfl (as := [.int p2, .int (zf h 92 23), .int 479]) (rest := []) (en := [some (.int p2), some (.int (zf h 92 23)), some (.int 479)]) rfl rfl rfl rfl rfl ?_
    refine f_M_in_t p2 (zf h 92 23) 479 h hs trivial ?_
    show zg x (d + 2) 199 25 [some (.ref 92), some (.int p1), some (.int p2)] [.int (if (¬ (p2 < (zf h 92 23)) ∧ (¬ (479 < p2))) then (1 : Int32) else 0)] h Q
    refine zg_b_eq zd_199 rfl (fun (hc : ¬ (¬ (p2 < (zf h 92 23)) ∧ (¬ (479 < p2)))) => ?_) (fun (hc : (¬ (p2 < (zf h 92 23)) ∧ (¬ (479 < p2)))) => ?_)
    · have ho := ho.2 hc
      rw [if_neg hc] at hF
      refine zg_blk zd_199 1 hs (rfl : zb x zT0 zc_199 1 (37, [some (.ref 92), some (.int p1), some (.int p2)], [], h) = some (38, [some (.ref 92), some (.int p1), some (.int p2)], [.int (-1)], h)) (fun hs => ?_)
      exact zg_ret zd_199 rfl rfl (hF hs)
    · have ho := ho.1 hc
      rw [if_pos hc] at hF
      refine zg_blk zd_199 3 hs (rfl : zb x zT0 zc_199 3 (28, [some (.ref 92), some (.int p1), some (.int p2)], [], h) = some (34, [some (.ref 92), some (.int p1), some (.int p2)], [.int 15, .int (zf h 92 20)], h)) (fun hs => ?_)
      refine zg_i_ne zd_199 rfl (fun (hc : ¬ ((zf h 92 20) = 15)) => ?_) (fun (hc : ((zf h 92 20) = 15)) => ?_)
      · have ho := ho.2 hc
        rw [if_neg hc] at hF
        refine zg_blk zd_199 5 hs (rfl : zb x zT0 zc_199 5 (39, [some (.ref 92), some (.int p1), some (.int p2)], [], h) = some (48, [some (.ref 92), some (.int p1), some (.int p2)], [.int p1, .int (zf h 92 20), .ref 103], h)) (fun hs => ?_)
        obtain ⟨hob, ho⟩ := ho
        refine zg_ias hs zd_199 rfl rfl hob (fun hs => ?_)
        refine zg_blk zd_199 5 hs (rfl : zb x zT0 zc_199 5 (49, [some (.ref 92), some (.int p1), some (.int p2)], [], (zs h 103 (zf h 92 20) p1)) = some (58, [some (.ref 92), some (.int p1), some (.int p2)], [.int p2, .int (zf h 92 20), .ref 104], (zs h 103 (zf h 92 20) p1))) (fun hs => ?_)
        have hob := ho
        refine zg_ias hs zd_199 rfl rfl hob (fun hs => ?_)
        refine zg_blk zd_199 8 hs (rfl : zb x zT0 zc_199 8 (59, [some (.ref 92), some (.int p1), some (.int p2)], [], (zs (zs h 103 (zf h 92 20) p1) 104 (zf h 92 20) p2)) = some (73, [some (.ref 92), some (.int p1), some (.int p2)], [.int ((zf h 92 20) + 1)], (zp (zs (zs h 103 (zf h 92 20) p1) 104 (zf h 92 20) p2) 92 20 ((zf h 92 20) + 1)))) (fun hs => ?_)
        exact zg_ret zd_199 rfl rfl (hF hs)
      · have ho := ho.1 hc
        rw [if_pos hc] at hF
        refine zg_blk zd_199 1 hs (rfl : zb x zT0 zc_199 1 (37, [some (.ref 92), some (.int p1), some (.int p2)], [], h) = some (38, [some (.ref 92), some (.int p1), some (.int p2)], [.int (-1)], h)) (fun hs => ?_)
        exact zg_ret zd_199 rfl rfl (hF hs)
theorem zd_133 : zm_cd 133 = zc_133 := by rfl
theorem zd_72 : zm_cd 72 = zc_72 := by rfl
set_option maxRecDepth 100000 in
set_option maxHeartbeats 400000 in
theorem f_Rules_ruling_l8_b_t {x : zm_X} {d : Nat} (v1 : Int32) (v2 : Int32) (v3 : Int32) (v4 : Int32) (v5 : Int32) (h : zm_H) (o6 : Option Value) {Q : Option Value → zm_H → Prop} {FN : Nat × Int32 × Int32 × Int32 → Prop} (hs : zSh zT0 h) (ho : f_Rules_ruling_l8_b_ok v1 v2 v3 v4 v5 h) (hF : FN (f_Rules_ruling_l8_b v1 v2 v3 v4 v5 h)) (hl0 : ∀ (v3 : Int32) (v4 : Int32) (v5 : Int32) (o6 : Option Value), zSh zT0 h → FN (0, v3, v4, v5) → zg x (d + 1) 72 8 [some (.ref 15), some (.int v1), some (.int v2), some (.int v3), some (.int v4), some (.int v5), o6] [] h Q) (hl1 : ∀ (v3 : Int32) (v4 : Int32) (v5 : Int32) (o4 : Option Value) (o5 : Option Value) (o6 : Option Value), zSh zT0 h → FN (1, v3, v4, v5) → zg x (d + 1) 72 95 [some (.ref 15), some (.int v1), some (.int v2), some (.int v3), o4, o5, o6] [] h Q) : zg x (d + 1) 72 8 [some (.ref 15), some (.int v1), some (.int v2), some (.int v3), some (.int v4), some (.int v5), o6] [] h Q := by
  unfold f_Rules_ruling_l8_b at hF
  unfold f_Rules_ruling_l8_b_ok at ho
  refine zg_blk zd_72 3 hs (rfl : zb x zT0 zc_72 3 (8, [some (.ref 15), some (.int v1), some (.int v2), some (.int v3), some (.int v4), some (.int v5), o6], [], h) = some (14, [some (.ref 15), some (.int v1), some (.int v2), some (.int v3), some (.int v4), some (.int v5), o6], [.int (zf h 15 4), .int v5], h)) (fun hs => ?_)
  refine zg_i_ge zd_72 rfl (fun (hc : ((zf h 15 4) ≤ v5)) => ?_) (fun (hc : ¬ ((zf h 15 4) ≤ v5)) => ?_)
  · have ho := ho.1 hc
    rw [if_pos hc] at hF
    exact hl1 v3 v4 v5 (some (.int v4)) (some (.int v5)) (o6) hs hF
  · have ho := ho.2 hc
    rw [if_neg hc] at hF
    refine zg_blk zd_72 5 hs (rfl : zb x zT0 zc_72 5 (17, [some (.ref 15), some (.int v1), some (.int v2), some (.int v3), some (.int v4), some (.int v5), o6], [], h) = some (27, [some (.ref 15), some (.int v1), some (.int v2), some (.int v3), some (.int v4), some (.int v5), o6], [.int v5, .ref 19, .ref 17], h)) (fun hs => ?_)
    obtain ⟨hob, ho⟩ := ho
    refine zg_ial hs zd_72 rfl rfl hob ?_
    refine zg_blk zd_72 4 hs (rfl : zb x zT0 zc_72 4 (28, [some (.ref 15), some (.int v1), some (.int v2), some (.int v3), some (.int v4), some (.int v5), o6], [.int (zr h 19 v5), .ref 17], h) = some (32, [some (.ref 15), some (.int v1), some (.int v2), some (.int v3), some (.int v4), some (.int v5), o6], [.int (((zr h 19 v5) * 4) + v1), .ref 17], h)) (fun hs => ?_)
    obtain ⟨hob, ho⟩ := ho
    refine zg_ial hs zd_72 rfl rfl hob ?_
    refine zg_blk zd_72 1 hs (rfl : zb x zT0 zc_72 1 (33, [some (.ref 15), some (.int v1), some (.int v2), some (.int v3), some (.int v4), some (.int v5), o6], [.int (zr h 17 (((zr h 19 v5) * 4) + v1))], h) = some (34, [some (.ref 15), some (.int v1), some (.int v2), some (.int v3), some (.int v4), some (.int v5), o6], [.int (-1), .int (zr h 17 (((zr h 19 v5) * 4) + v1))], h)) (fun hs => ?_)
    have K32 : zSh zT0 h → zg x (d + 1) 72 42 [some (.ref 15), some (.int v1), some (.int v2), some (.int v3), some (.int v4), some (.int v5), o6] [.int (if (¬ ((zr h 17 (((zr h 19 v5) * 4) + v1)) = (-1))) then (1 : Int32) else 0)] h Q := fun hs => by
      refine zg_blk zd_72 2 hs (rfl : zb x zT0 zc_72 2 (42, [some (.ref 15), some (.int v1), some (.int v2), some (.int v3), some (.int v4), some (.int v5), o6], [.int (if (¬ ((zr h 17 (((zr h 19 v5) * 4) + v1)) = (-1))) then (1 : Int32) else 0)], h) = some (46, [some (.ref 15), some (.int v1), some (.int v2), some (.int v3), some (.int v4), some (.int v5), some (.int (if (¬ ((zr h 17 (((zr h 19 v5) * 4) + v1)) = (-1))) then (1 : Int32) else 0))], [.int (if (¬ ((zr h 17 (((zr h 19 v5) * 4) + v1)) = (-1))) then (1 : Int32) else 0)], h)) (fun hs => ?_)
      have hom := ho
      have K33 : zSh zT0 h → zg x (d + 1) 72 89 [some (.ref 15), some (.int v1), some (.int v2), some (.int (if (¬ ((zr h 17 (((zr h 19 v5) * 4) + v1)) = (-1))) then ((if (v2 < (zr h 20 v5)) then (v3 : Int32) else (if ((zr h 20 v5) < v4) then (v3 : Int32) else (zr h 19 v5))) : Int32) else v3)), some (.int (if (¬ ((zr h 17 (((zr h 19 v5) * 4) + v1)) = (-1))) then ((if (v2 < (zr h 20 v5)) then (v4 : Int32) else (if ((zr h 20 v5) < v4) then (v4 : Int32) else (zr h 20 v5))) : Int32) else v4)), some (.int v5), some (.int (if (¬ ((zr h 17 (((zr h 19 v5) * 4) + v1)) = (-1))) then (1 : Int32) else 0))] [] h Q := fun hs => by
        refine zg_blk zd_72 2 hs (rfl : zb x zT0 zc_72 2 (89, [some (.ref 15), some (.int v1), some (.int v2), some (.int (if (¬ ((zr h 17 (((zr h 19 v5) * 4) + v1)) = (-1))) then ((if (v2 < (zr h 20 v5)) then (v3 : Int32) else (if ((zr h 20 v5) < v4) then (v3 : Int32) else (zr h 19 v5))) : Int32) else v3)), some (.int (if (¬ ((zr h 17 (((zr h 19 v5) * 4) + v1)) = (-1))) then ((if (v2 < (zr h 20 v5)) then (v4 : Int32) else (if ((zr h 20 v5) < v4) then (v4 : Int32) else (zr h 20 v5))) : Int32) else v4)), some (.int v5), some (.int (if (¬ ((zr h 17 (((zr h 19 v5) * 4) + v1)) = (-1))) then (1 : Int32) else 0))], [], h) = some (8, [some (.ref 15), some (.int v1), some (.int v2), some (.int (if (¬ ((zr h 17 (((zr h 19 v5) * 4) + v1)) = (-1))) then ((if (v2 < (zr h 20 v5)) then (v3 : Int32) else (if ((zr h 20 v5) < v4) then (v3 : Int32) else (zr h 19 v5))) : Int32) else v3)), some (.int (if (¬ ((zr h 17 (((zr h 19 v5) * 4) + v1)) = (-1))) then ((if (v2 < (zr h 20 v5)) then (v4 : Int32) else (if ((zr h 20 v5) < v4) then (v4 : Int32) else (zr h 20 v5))) : Int32) else v4)), some (.int (v5 + 1)), some (.int (if (¬ ((zr h 17 (((zr h 19 v5) * 4) + v1)) = (-1))) then (1 : Int32) else 0))], [], h)) (fun hs => ?_)
        exact hl0 (if (¬ ((zr h 17 (((zr h 19 v5) * 4) + v1)) = (-1))) then ((if (v2 < (zr h 20 v5)) then (v3 : Int32) else (if ((zr h 20 v5) < v4) then (v3 : Int32) else (zr h 19 v5))) : Int32) else v3) (if (¬ ((zr h 17 (((zr h 19 v5) * 4) + v1)) = (-1))) then ((if (v2 < (zr h 20 v5)) then (v4 : Int32) else (if ((zr h 20 v5) < v4) then (v4 : Int32) else (zr h 20 v5))) : Int32) else v4) (v5 + 1) (some (.int (if (¬ ((zr h 17 (((zr h 19 v5) * 4) + v1)) = (-1))) then (1 : Int32) else 0))) hs hF
      refine zg_b_eq zd_72 rfl (fun (hc : ¬ (¬ ((zr h 17 (((zr h 19 v5) * 4) + v1)) = (-1)))) => ?_) (fun (hc : (¬ ((zr h 17 (((zr h 19 v5) * 4) + v1)) = (-1)))) => ?_)
      · have ho := hom.2 hc
        rw [show ((if (¬ ((zr h 17 (((zr h 19 v5) * 4) + v1)) = (-1))) then ((if (v2 < (zr h 20 v5)) then (v3 : Int32) else (if ((zr h 20 v5) < v4) then (v3 : Int32) else (zr h 19 v5))) : Int32) else v3) : Int32) = v3 from if_neg hc] at K33
        rw [show ((if (¬ ((zr h 17 (((zr h 19 v5) * 4) + v1)) = (-1))) then ((if (v2 < (zr h 20 v5)) then (v4 : Int32) else (if ((zr h 20 v5) < v4) then (v4 : Int32) else (zr h 20 v5))) : Int32) else v4) : Int32) = v4 from if_neg hc] at K33
        exact K33 hs
      · have ho := hom.1 hc
        rw [show ((if (¬ ((zr h 17 (((zr h 19 v5) * 4) + v1)) = (-1))) then ((if (v2 < (zr h 20 v5)) then (v3 : Int32) else (if ((zr h 20 v5) < v4) then (v3 : Int32) else (zr h 19 v5))) : Int32) else v3) : Int32) = (if (v2 < (zr h 20 v5)) then (v3 : Int32) else (if ((zr h 20 v5) < v4) then (v3 : Int32) else (zr h 19 v5))) from if_pos hc] at K33
        rw [show ((if (¬ ((zr h 17 (((zr h 19 v5) * 4) + v1)) = (-1))) then ((if (v2 < (zr h 20 v5)) then (v4 : Int32) else (if ((zr h 20 v5) < v4) then (v4 : Int32) else (zr h 20 v5))) : Int32) else v4) : Int32) = (if (v2 < (zr h 20 v5)) then (v4 : Int32) else (if ((zr h 20 v5) < v4) then (v4 : Int32) else (zr h 20 v5))) from if_pos hc] at K33
        refine zg_blk zd_72 3 hs (rfl : zb x zT0 zc_72 3 (49, [some (.ref 15), some (.int v1), some (.int v2), some (.int v3), some (.int v4), some (.int v5), some (.int (if (¬ ((zr h 17 (((zr h 19 v5) * 4) + v1)) = (-1))) then (1 : Int32) else 0))], [], h) = some (55, [some (.ref 15), some (.int v1), some (.int v2), some (.int v3), some (.int v4), some (.int v5), some (.int (if (¬ ((zr h 17 (((zr h 19 v5) * 4) + v1)) = (-1))) then (1 : Int32) else 0))], [.int v5, .ref 20], h)) (fun hs => ?_)
        obtain ⟨hob, ho⟩ := ho
        refine zg_ial hs zd_72 rfl rfl hob ?_
        refine zg_blk zd_72 1 hs (rfl : zb x zT0 zc_72 1 (56, [some (.ref 15), some (.int v1), some (.int v2), some (.int v3), some (.int v4), some (.int v5), some (.int (if (¬ ((zr h 17 (((zr h 19 v5) * 4) + v1)) = (-1))) then (1 : Int32) else 0))], [.int (zr h 20 v5)], h) = some (57, [some (.ref 15), some (.int v1), some (.int v2), some (.int v3), some (.int v4), some (.int v5), some (.int (if (¬ ((zr h 17 (((zr h 19 v5) * 4) + v1)) = (-1))) then (1 : Int32) else 0))], [.int v2, .int (zr h 20 v5)], h)) (fun hs => ?_)
        refine zg_i_gt zd_72 rfl (fun (hc : (v2 < (zr h 20 v5))) => ?_) (fun (hc : ¬ (v2 < (zr h 20 v5))) => ?_)
        · have ho := ho.1 hc
          rw [show ((if (v2 < (zr h 20 v5)) then (v3 : Int32) else (if ((zr h 20 v5) < v4) then (v3 : Int32) else (zr h 19 v5))) : Int32) = v3 from if_pos hc] at K33
          rw [show ((if (v2 < (zr h 20 v5)) then (v4 : Int32) else (if ((zr h 20 v5) < v4) then (v4 : Int32) else (zr h 20 v5))) : Int32) = v4 from if_pos hc] at K33
          exact K33 hs
        · have ho := ho.2 hc
          rw [show ((if (v2 < (zr h 20 v5)) then (v3 : Int32) else (if ((zr h 20 v5) < v4) then (v3 : Int32) else (zr h 19 v5))) : Int32) = (if ((zr h 20 v5) < v4) then (v3 : Int32) else (zr h 19 v5)) from if_neg hc] at K33
          rw [show ((if (v2 < (zr h 20 v5)) then (v4 : Int32) else (if ((zr h 20 v5) < v4) then (v4 : Int32) else (zr h 20 v5))) : Int32) = (if ((zr h 20 v5) < v4) then (v4 : Int32) else (zr h 20 v5)) from if_neg hc] at K33
          refine zg_blk zd_72 3 hs (rfl : zb x zT0 zc_72 3 (60, [some (.ref 15), some (.int v1), some (.int v2), some (.int v3), some (.int v4), some (.int v5), some (.int (if (¬ ((zr h 17 (((zr h 19 v5) * 4) + v1)) = (-1))) then (1 : Int32) else 0))], [], h) = some (66, [some (.ref 15), some (.int v1), some (.int v2), some (.int v3), some (.int v4), some (.int v5), some (.int (if (¬ ((zr h 17 (((zr h 19 v5) * 4) + v1)) = (-1))) then (1 : Int32) else 0))], [.int v5, .ref 20], h)) (fun hs => ?_)
          obtain ⟨hob, ho⟩ := ho
          refine zg_ial hs zd_72 rfl rfl hob ?_
          refine zg_blk zd_72 1 hs (rfl : zb x zT0 zc_72 1 (67, [some (.ref 15), some (.int v1), some (.int v2), some (.int v3), some (.int v4), some (.int v5), some (.int (if (¬ ((zr h 17 (((zr h 19 v5) * 4) + v1)) = (-1))) then (1 : Int32) else 0))], [.int (zr h 20 v5)], h) = some (69, [some (.ref 15), some (.int v1), some (.int v2), some (.int v3), some (.int v4), some (.int v5), some (.int (if (¬ ((zr h 17 (((zr h 19 v5) * 4) + v1)) = (-1))) then (1 : Int32) else 0))], [.int v4, .int (zr h 20 v5)], h)) (fun hs => ?_)
          refine zg_i_lt zd_72 rfl (fun (hc : ((zr h 20 v5) < v4)) => ?_) (fun (hc : ¬ ((zr h 20 v5) < v4)) => ?_)
          · have ho := ho.1 hc
            rw [show ((if ((zr h 20 v5) < v4) then (v3 : Int32) else (zr h 19 v5)) : Int32) = v3 from if_pos hc] at K33
            rw [show ((if ((zr h 20 v5) < v4) then (v4 : Int32) else (zr h 20 v5)) : Int32) = v4 from if_pos hc] at K33
            exact K33 hs
          · have ho := ho.2 hc
            rw [show ((if ((zr h 20 v5) < v4) then (v3 : Int32) else (zr h 19 v5)) : Int32) = (zr h 19 v5) from if_neg hc] at K33
            rw [show ((if ((zr h 20 v5) < v4) then (v4 : Int32) else (zr h 20 v5)) : Int32) = (zr h 20 v5) from if_neg hc] at K33
            refine zg_blk zd_72 3 hs (rfl : zb x zT0 zc_72 3 (72, [some (.ref 15), some (.int v1), some (.int v2), some (.int v3), some (.int v4), some (.int v5), some (.int (if (¬ ((zr h 17 (((zr h 19 v5) * 4) + v1)) = (-1))) then (1 : Int32) else 0))], [], h) = some (78, [some (.ref 15), some (.int v1), some (.int v2), some (.int v3), some (.int v4), some (.int v5), some (.int (if (¬ ((zr h 17 (((zr h 19 v5) * 4) + v1)) = (-1))) then (1 : Int32) else 0))], [.int v5, .ref 19], h)) (fun hs => ?_)
            obtain ⟨hob, ho⟩ := ho
            refine zg_ial hs zd_72 rfl rfl hob ?_
            refine zg_blk zd_72 4 hs (rfl : zb x zT0 zc_72 4 (79, [some (.ref 15), some (.int v1), some (.int v2), some (.int v3), some (.int v4), some (.int v5), some (.int (if (¬ ((zr h 17 (((zr h 19 v5) * 4) + v1)) = (-1))) then (1 : Int32) else 0))], [.int (zr h 19 v5)], h) = some (86, [some (.ref 15), some (.int v1), some (.int v2), some (.int (zr h 19 v5)), some (.int v4), some (.int v5), some (.int (if (¬ ((zr h 17 (((zr h 19 v5) * 4) + v1)) = (-1))) then (1 : Int32) else 0))], [.int v5, .ref 20], h)) (fun hs => ?_)
            have hob := ho
            refine zg_ial hs zd_72 rfl rfl hob ?_
            refine zg_blk zd_72 1 hs (rfl : zb x zT0 zc_72 1 (87, [some (.ref 15), some (.int v1), some (.int v2), some (.int (zr h 19 v5)), some (.int v4), some (.int v5), some (.int (if (¬ ((zr h 17 (((zr h 19 v5) * 4) + v1)) = (-1))) then (1 : Int32) else 0))], [.int (zr h 20 v5)], h) = some (89, [some (.ref 15), some (.int v1), some (.int v2), some (.int (zr h 19 v5)), some (.int (zr h 20 v5)), some (.int v5), some (.int (if (¬ ((zr h 17 (((zr h 19 v5) * 4) + v1)) = (-1))) then (1 : Int32) else 0))], [], h)) (fun hs => ?_)
            exact K33 hs
    refine zg_i_eq zd_72 rfl (fun (hc : ((zr h 17 (((zr h 19 v5) * 4) + v1)) = (-1))) => ?_) (fun (hc : ¬ ((zr h 17 (((zr h 19 v5) * 4) + v1)) = (-1))) => ?_)
    · skip
      rw [show ((if (¬ ((zr h 17 (((zr h 19 v5) * 4) + v1)) = (-1))) then (1 : Int32) else 0) : Int32) = 0 from zb_not_t hc] at K32
      refine zg_blk zd_72 1 hs (rfl : zb x zT0 zc_72 1 (41, [some (.ref 15), some (.int v1), some (.int v2), some (.int v3), some (.int v4), some (.int v5), o6], [], h) = some (42, [some (.ref 15), some (.int v1), some (.int v2), some (.int v3), some (.int v4), some (.int v5), o6], [.int 0], h)) (fun hs => ?_)
      exact K32 hs
    · skip
      rw [show ((if (¬ ((zr h 17 (((zr h 19 v5) * 4) + v1)) = (-1))) then (1 : Int32) else 0) : Int32) = 1 from zb_not_f hc] at K32
      refine zg_blk zd_72 2 hs (rfl : zb x zT0 zc_72 2 (37, [some (.ref 15), some (.int v1), some (.int v2), some (.int v3), some (.int v4), some (.int v5), o6], [], h) = some (42, [some (.ref 15), some (.int v1), some (.int v2), some (.int v3), some (.int v4), some (.int v5), o6], [.int 1], h)) (fun hs => ?_)
      exact K32 hs
theorem f_Rules_ruling_l8_t {x : zm_X} {d : Nat} (v1 : Int32) (v2 : Int32) (h : zm_H) {Q : Option Value → zm_H → Prop} (G : Nat × Int32 × Int32 × Int32 → Prop) (hx1 : ∀ (v3 : Int32) (v4 : Int32) (v5 : Int32) (o4 : Option Value) (o5 : Option Value) (o6 : Option Value), zSh zT0 h → G (1, v3, v4, v5) → zg x (d + 1) 72 95 [some (.ref 15), some (.int v1), some (.int v2), some (.int v3), o4, o5, o6] [] h Q) : ∀ (n : Nat) (v3 : Int32) (v4 : Int32) (v5 : Int32) (o6 : Option Value), zSh zT0 h → f_Rules_ruling_l8_ok v1 v2 h n (v3, v4, v5) → G (f_Rules_ruling_l8 v1 v2 h n (v3, v4, v5)) → zg x (d + 1) 72 8 [some (.ref 15), some (.int v1), some (.int v2), some (.int v3), some (.int v4), some (.int v5), o6] [] h Q := by
  intro n
  induction n with
  | zero => intro v3 v4 v5 o6 hs ho hG; exact ho.elim
  | succ n ih =>
    intro v3 v4 v5 o6 hs ho hG
    refine f_Rules_ruling_l8_b_t (FN := fun r => (r.1 = 0 → f_Rules_ruling_l8_ok v1 v2 h n r.2) ∧ G (if r.1 = 0 then f_Rules_ruling_l8 v1 v2 h n r.2 else r)) v1 v2 v3 v4 v5 h o6 hs ho.1 ⟨ho.2, hG⟩ ?_ ?_
    · intro v3 v4 v5 o6 hs hF
      exact ih v3 v4 v5 o6 hs (hF.1 rfl) hF.2
    · intro v3 v4 v5 o4 o5 o6 hs hF
      exact hx1 v3 v4 v5 o4 o5 o6 hs hF.2

set_option maxRecDepth 100000 in
set_option maxHeartbeats 400000 in
theorem f_Rules_ruling_k95_t {x : zm_X} {d : Nat} (v3 : Int32) (h : zm_H) (o0 : Option Value) (o1 : Option Value) (z2 : Int32) (o4 : Option Value) (o5 : Option Value) (o6 : Option Value) {Q : Option Value → zm_H → Prop} (hs : zSh zT0 h) (ho : f_Rules_ruling_k95_ok v3 h) (hF : Q (some (.int (f_Rules_ruling_k95 v3 h))) h) : zg x (d + 1) 72 95 [o0, o1, some (.int z2), some (.int v3), o4, o5, o6] [] h Q := by
  unfold f_Rules_ruling_k95 at hF
  unfold f_Rules_ruling_k95_ok at ho
  refine zg_blk zd_72 1 hs (rfl : zb x zT0 zc_72 1 (95, [o0, o1, some (.int z2), some (.int v3), o4, o5, o6], [], h) = some (96, [o0, o1, some (.int z2), some (.int v3), o4, o5, o6], [.int v3], h)) (fun hs => ?_)
  exact zg_ret zd_72 rfl rfl hF
set_option maxRecDepth 100000 in
set_option maxHeartbeats 400000 in
theorem f_Rules_ruling_t {x : zm_X} {d : Nat} (p1 : Int32) (p2 : Int32) (h : zm_H) {Q : Option Value → zm_H → Prop} (hs : zSh zT0 h) (ho : f_Rules_ruling_ok p1 p2 h) (hF : Q (some (.int (f_Rules_ruling p1 p2 h))) h) : zg x (d + 1) 72 0 [some (.ref 15), some (.int p1), some (.int p2), none, none, none, none] [] h Q := by
  unfold f_Rules_ruling at hF
  unfold f_Rules_ruling_ok at ho
  refine zg_blk zd_72 6 hs (rfl : zb x zT0 zc_72 6 (0, [some (.ref 15), some (.int p1), some (.int p2), none, none, none, none], [], h) = some (8, [some (.ref 15), some (.int p1), some (.int p2), some (.int (-1)), some (.int 0), some (.int 0), none], [], h)) (fun hs => ?_)
  refine f_Rules_ruling_l8_t p1 p2 h (fun r => f_Rules_ruling_a8_ok r h ∧ Q (some (.int (f_Rules_ruling_a8 r h))) h) ?_ zF (-1) 0 0 (none) hs ho.1 ⟨ho.2, hF⟩
  · intro v3_ v4_ v5_ o4_ o5_ o6_ hs hG
    have ho : True := trivial
    have hF : Q (some (.int ((f_Rules_ruling_k95 v3_ h)))) h := hG.2
    exact f_Rules_ruling_k95_t v3_ h (some (.ref 15)) (some (.int p1)) p2 (o4_) (o5_) (o6_) hs trivial hF
set_option maxRecDepth 100000 in
set_option maxHeartbeats 400000 in
theorem f_N_why_t {x : zm_X} {d : Nat} (p1 : Int32) (p2 : Int32) (h : zm_H) {Q : Option Value → zm_H → Prop} (hs : zSh zT0 h) (ho : f_N_why_ok p1 p2 h) (hF : Q (some (.int (f_N_why p1 p2 h))) h) : zg x (d + 2) 133 0 [some (.ref 0), some (.int p1), some (.int p2)] [] h Q := by
  unfold f_N_why at hF
  unfold f_N_why_ok at ho
  refine zg_blk zd_133 1 hs (rfl : zb x zT0 zc_133 1 (0, [some (.ref 0), some (.int p1), some (.int p2)], [], h) = some (1, [some (.ref 0), some (.int p1), some (.int p2)], [.int p1], h)) (fun hs => ?_)
  refine zg_f_lt zd_133 rfl (fun (hc : (p1 < 0)) => ?_) (fun (hc : ¬ (p1 < 0)) => ?_)
  · have ho := ho.1 hc
    rw [show ((if (p1 < 0) then ((-1) : Int32) else (if (4 ≤ p1) then ((-1) : Int32) else (if (¬ (p2 < 0) ∧ (¬ (480 ≤ p2))) then ((f_Rules_ruling p1 p2 h) : Int32) else (-1)))) : Int32) = (-1) from if_pos hc] at hF
    refine zg_blk zd_133 1 hs (rfl : zb x zT0 zc_133 1 (16, [some (.ref 0), some (.int p1), some (.int p2)], [], h) = some (17, [some (.ref 0), some (.int p1), some (.int p2)], [.int (-1)], h)) (fun hs => ?_)
    exact zg_ret zd_133 rfl rfl hF
  · have ho := ho.2 hc
    rw [show ((if (p1 < 0) then ((-1) : Int32) else (if (4 ≤ p1) then ((-1) : Int32) else (if (¬ (p2 < 0) ∧ (¬ (480 ≤ p2))) then ((f_Rules_ruling p1 p2 h) : Int32) else (-1)))) : Int32) = (if (4 ≤ p1) then ((-1) : Int32) else (if (¬ (p2 < 0) ∧ (¬ (480 ≤ p2))) then ((f_Rules_ruling p1 p2 h) : Int32) else (-1))) from if_neg hc] at hF
    refine zg_blk zd_133 2 hs (rfl : zb x zT0 zc_133 2 (4, [some (.ref 0), some (.int p1), some (.int p2)], [], h) = some (6, [some (.ref 0), some (.int p1), some (.int p2)], [.int 4, .int p1], h)) (fun hs => ?_)
    refine zg_i_ge zd_133 rfl (fun (hc : (4 ≤ p1)) => ?_) (fun (hc : ¬ (4 ≤ p1)) => ?_)
    · have ho := ho.1 hc
      rw [show ((if (4 ≤ p1) then ((-1) : Int32) else (if (¬ (p2 < 0) ∧ (¬ (480 ≤ p2))) then ((f_Rules_ruling p1 p2 h) : Int32) else (-1))) : Int32) = (-1) from if_pos hc] at hF
      refine zg_blk zd_133 1 hs (rfl : zb x zT0 zc_133 1 (16, [some (.ref 0), some (.int p1), some (.int p2)], [], h) = some (17, [some (.ref 0), some (.int p1), some (.int p2)], [.int (-1)], h)) (fun hs => ?_)
      exact zg_ret zd_133 rfl rfl hF
    · have ho := ho.2 hc
      rw [show ((if (4 ≤ p1) then ((-1) : Int32) else (if (¬ (p2 < 0) ∧ (¬ (480 ≤ p2))) then ((f_Rules_ruling p1 p2 h) : Int32) else (-1))) : Int32) = (if (¬ (p2 < 0) ∧ (¬ (480 ≤ p2))) then ((f_Rules_ruling p1 p2 h) : Int32) else (-1)) from if_neg hc] at hF
      refine zg_blk zd_133 1 hs (rfl : zb x zT0 zc_133 1 (9, [some (.ref 0), some (.int p1), some (.int p2)], [], h) = some (10, [some (.ref 0), some (.int p1), some (.int p2)], [.int p2], h)) (fun hs => ?_)
      refine zg_call hs zd_133 rfl rfl rfl rfl (as := [.int p2]) (rest := []) (en := [some (.int p2)]) rfl rfl rfl rfl rfl ?_
      refine f_N_isSpell_t p2 h hs trivial ?_
      show zg x (d + 2) 133 13 [some (.ref 0), some (.int p1), some (.int p2)] [.int (if (¬ (p2 < 0) ∧ (¬ (480 ≤ p2))) then (1 : Int32) else 0)] h Q
      refine zg_b_ne zd_133 rfl (fun (hc : (¬ (p2 < 0) ∧ (¬ (480 ≤ p2)))) => ?_) (fun (hc : ¬ (¬ (p2 < 0) ∧ (¬ (480 ≤ p2)))) => ?_)
      · have ho := ho.1 hc
        rw [show ((if (¬ (p2 < 0) ∧ (¬ (480 ≤ p2))) then ((f_Rules_ruling p1 p2 h) : Int32) else (-1)) : Int32) = (f_Rules_ruling p1 p2 h) from if_pos hc] at hF
        refine zg_blk zd_133 4 hs (rfl : zb x zT0 zc_133 4 (18, [some (.ref 0), some (.int p1), some (.int p2)], [], h) = some (24, [some (.ref 0), some (.int p1), some (.int p2)], [.int p2, .int p1, .ref 15], h)) (fun hs => ?_)
        have hob := ho
        refine zg_call hs zd_133 rfl rfl rfl rfl (as := [.ref 15, .int p1, .int p2]) (rest := []) (en := [some (.ref 15), some (.int p1), some (.int p2), none, none, none, none]) rfl rfl rfl rfl rfl ?_
        refine f_Rules_ruling_t p1 p2 h hs hob ?_
        show zg x (d + 2) 133 27 [some (.ref 0), some (.int p1), some (.int p2)] [.int (f_Rules_ruling p1 p2 h)] h Q
        exact zg_ret zd_133 rfl rfl hF
      · have ho := ho.2 hc
        rw [show ((if (¬ (p2 < 0) ∧ (¬ (480 ≤ p2))) then ((f_Rules_ruling p1 p2 h) : Int32) else (-1)) : Int32) = (-1) from if_neg hc] at hF
        refine zg_blk zd_133 1 hs (rfl : zb x zT0 zc_133 1 (16, [some (.ref 0), some (.int p1), some (.int p2)], [], h) = some (17, [some (.ref 0), some (.int p1), some (.int p2)], [.int (-1)], h)) (fun hs => ?_)
        exact zg_ret zd_133 rfl rfl hF
theorem zd_200 : zm_cd 200 = zc_200 := by rfl
theorem zd_201 : zm_cd 201 = zc_201 := by rfl
set_option maxRecDepth 100000 in
set_option maxHeartbeats 400000 in
theorem f_M_inForce_l8_b_t {x : zm_X} {d : Nat} (v1 : Int32) (v2 : Int32) (v3 : Int32) (v4 : Int32) (v5 : Int32) (h : zm_H) {Q : Option Value → zm_H → Prop} {FN : Nat × Int32 × Int32 × Int32 → Prop} (hs : zSh zT0 h) (ho : f_M_inForce_l8_b_ok v1 v2 v3 v4 v5 h) (hF : FN (f_M_inForce_l8_b v1 v2 v3 v4 v5 h)) (hl0 : ∀ (v3 : Int32) (v4 : Int32) (v5 : Int32), zSh zT0 h → FN (0, v3, v4, v5) → zg x (d + 1) 201 8 [some (.ref 92), some (.int v1), some (.int v2), some (.int v3), some (.int v4), some (.int v5)] [] h Q) (hl1 : ∀ (v3 : Int32) (v4 : Int32) (v5 : Int32) (o4 : Option Value) (o5 : Option Value), zSh zT0 h → FN (1, v3, v4, v5) → zg x (d + 1) 201 86 [some (.ref 92), some (.int v1), some (.int v2), some (.int v3), o4, o5] [] h Q) : zg x (d + 1) 201 8 [some (.ref 92), some (.int v1), some (.int v2), some (.int v3), some (.int v4), some (.int v5)] [] h Q := by
  unfold f_M_inForce_l8_b at hF
  unfold f_M_inForce_l8_b_ok at ho
  refine zg_blk zd_201 3 hs (rfl : zb x zT0 zc_201 3 (8, [some (.ref 92), some (.int v1), some (.int v2), some (.int v3), some (.int v4), some (.int v5)], [], h) = some (14, [some (.ref 92), some (.int v1), some (.int v2), some (.int v3), some (.int v4), some (.int v5)], [.int (zf h 92 20), .int v5], h)) (fun hs => ?_)
  refine zg_i_ge zd_201 rfl (fun (hc : ((zf h 92 20) ≤ v5)) => ?_) (fun (hc : ¬ ((zf h 92 20) ≤ v5)) => ?_)
  · have ho := ho.1 hc
    rw [if_pos hc] at hF
    exact hl1 v3 v4 v5 (some (.int v4)) (some (.int v5)) hs hF
  · have ho := ho.2 hc
    rw [if_neg hc] at hF
    refine zg_blk zd_201 3 hs (rfl : zb x zT0 zc_201 3 (17, [some (.ref 92), some (.int v1), some (.int v2), some (.int v3), some (.int v4), some (.int v5)], [], h) = some (23, [some (.ref 92), some (.int v1), some (.int v2), some (.int v3), some (.int v4), some (.int v5)], [.int v5, .ref 104], h)) (fun hs => ?_)
    obtain ⟨hob, ho⟩ := ho
    refine zg_ial hs zd_201 rfl rfl hob ?_
    refine zg_blk zd_201 1 hs (rfl : zb x zT0 zc_201 1 (24, [some (.ref 92), some (.int v1), some (.int v2), some (.int v3), some (.int v4), some (.int v5)], [.int (zr h 104 v5)], h) = some (25, [some (.ref 92), some (.int v1), some (.int v2), some (.int v3), some (.int v4), some (.int v5)], [.int v2, .int (zr h 104 v5)], h)) (fun hs => ?_)
    have hom := ho
    have K34 : zSh zT0 h → zg x (d + 1) 201 80 [some (.ref 92), some (.int v1), some (.int v2), some (.int (if (v2 < (zr h 104 v5)) then (v3 : Int32) else (if ((zr h 104 v5) < v4) then (v3 : Int32) else (if ((zr h 101 ((4 * (zr h 103 v5)) + v1)) = (-1)) then (v3 : Int32) else (zr h 103 v5))))), some (.int (if (v2 < (zr h 104 v5)) then (v4 : Int32) else (if ((zr h 104 v5) < v4) then (v4 : Int32) else (if ((zr h 101 ((4 * (zr h 103 v5)) + v1)) = (-1)) then (v4 : Int32) else (zr h 104 v5))))), some (.int v5)] [] h Q := fun hs => by
      refine zg_blk zd_201 2 hs (rfl : zb x zT0 zc_201 2 (80, [some (.ref 92), some (.int v1), some (.int v2), some (.int (if (v2 < (zr h 104 v5)) then (v3 : Int32) else (if ((zr h 104 v5) < v4) then (v3 : Int32) else (if ((zr h 101 ((4 * (zr h 103 v5)) + v1)) = (-1)) then (v3 : Int32) else (zr h 103 v5))))), some (.int (if (v2 < (zr h 104 v5)) then (v4 : Int32) else (if ((zr h 104 v5) < v4) then (v4 : Int32) else (if ((zr h 101 ((4 * (zr h 103 v5)) + v1)) = (-1)) then (v4 : Int32) else (zr h 104 v5))))), some (.int v5)], [], h) = some (8, [some (.ref 92), some (.int v1), some (.int v2), some (.int (if (v2 < (zr h 104 v5)) then (v3 : Int32) else (if ((zr h 104 v5) < v4) then (v3 : Int32) else (if ((zr h 101 ((4 * (zr h 103 v5)) + v1)) = (-1)) then (v3 : Int32) else (zr h 103 v5))))), some (.int (if (v2 < (zr h 104 v5)) then (v4 : Int32) else (if ((zr h 104 v5) < v4) then (v4 : Int32) else (if ((zr h 101 ((4 * (zr h 103 v5)) + v1)) = (-1)) then (v4 : Int32) else (zr h 104 v5))))), some (.int (v5 + 1))], [], h)) (fun hs => ?_)
      exact hl0 (if (v2 < (zr h 104 v5)) then (v3 : Int32) else (if ((zr h 104 v5) < v4) then (v3 : Int32) else (if ((zr h 101 ((4 * (zr h 103 v5)) + v1)) = (-1)) then (v3 : Int32) else (zr h 103 v5)))) (if (v2 < (zr h 104 v5)) then (v4 : Int32) else (if ((zr h 104 v5) < v4) then (v4 : Int32) else (if ((zr h 101 ((4 * (zr h 103 v5)) + v1)) = (-1)) then (v4 : Int32) else (zr h 104 v5)))) (v5 + 1) hs hF
    refine zg_i_gt zd_201 rfl (fun (hc : (v2 < (zr h 104 v5))) => ?_) (fun (hc : ¬ (v2 < (zr h 104 v5))) => ?_)
    · have ho := hom.1 hc
      rw [show ((if (v2 < (zr h 104 v5)) then (v3 : Int32) else (if ((zr h 104 v5) < v4) then (v3 : Int32) else (if ((zr h 101 ((4 * (zr h 103 v5)) + v1)) = (-1)) then (v3 : Int32) else (zr h 103 v5)))) : Int32) = v3 from if_pos hc] at K34
      rw [show ((if (v2 < (zr h 104 v5)) then (v4 : Int32) else (if ((zr h 104 v5) < v4) then (v4 : Int32) else (if ((zr h 101 ((4 * (zr h 103 v5)) + v1)) = (-1)) then (v4 : Int32) else (zr h 104 v5)))) : Int32) = v4 from if_pos hc] at K34
      exact K34 hs
    · have ho := hom.2 hc
      rw [show ((if (v2 < (zr h 104 v5)) then (v3 : Int32) else (if ((zr h 104 v5) < v4) then (v3 : Int32) else (if ((zr h 101 ((4 * (zr h 103 v5)) + v1)) = (-1)) then (v3 : Int32) else (zr h 103 v5)))) : Int32) = (if ((zr h 104 v5) < v4) then (v3 : Int32) else (if ((zr h 101 ((4 * (zr h 103 v5)) + v1)) = (-1)) then (v3 : Int32) else (zr h 103 v5))) from if_neg hc] at K34
      rw [show ((if (v2 < (zr h 104 v5)) then (v4 : Int32) else (if ((zr h 104 v5) < v4) then (v4 : Int32) else (if ((zr h 101 ((4 * (zr h 103 v5)) + v1)) = (-1)) then (v4 : Int32) else (zr h 104 v5)))) : Int32) = (if ((zr h 104 v5) < v4) then (v4 : Int32) else (if ((zr h 101 ((4 * (zr h 103 v5)) + v1)) = (-1)) then (v4 : Int32) else (zr h 104 v5))) from if_neg hc] at K34
      refine zg_blk zd_201 3 hs (rfl : zb x zT0 zc_201 3 (28, [some (.ref 92), some (.int v1), some (.int v2), some (.int v3), some (.int v4), some (.int v5)], [], h) = some (34, [some (.ref 92), some (.int v1), some (.int v2), some (.int v3), some (.int v4), some (.int v5)], [.int v5, .ref 104], h)) (fun hs => ?_)
      obtain ⟨hob, ho⟩ := ho
      refine zg_ial hs zd_201 rfl rfl hob ?_
      refine zg_blk zd_201 1 hs (rfl : zb x zT0 zc_201 1 (35, [some (.ref 92), some (.int v1), some (.int v2), some (.int v3), some (.int v4), some (.int v5)], [.int (zr h 104 v5)], h) = some (37, [some (.ref 92), some (.int v1), some (.int v2), some (.int v3), some (.int v4), some (.int v5)], [.int v4, .int (zr h 104 v5)], h)) (fun hs => ?_)
      refine zg_i_lt zd_201 rfl (fun (hc : ((zr h 104 v5) < v4)) => ?_) (fun (hc : ¬ ((zr h 104 v5) < v4)) => ?_)
      · have ho := ho.1 hc
        rw [show ((if ((zr h 104 v5) < v4) then (v3 : Int32) else (if ((zr h 101 ((4 * (zr h 103 v5)) + v1)) = (-1)) then (v3 : Int32) else (zr h 103 v5))) : Int32) = v3 from if_pos hc] at K34
        rw [show ((if ((zr h 104 v5) < v4) then (v4 : Int32) else (if ((zr h 101 ((4 * (zr h 103 v5)) + v1)) = (-1)) then (v4 : Int32) else (zr h 104 v5))) : Int32) = v4 from if_pos hc] at K34
        exact K34 hs
      · have ho := ho.2 hc
        rw [show ((if ((zr h 104 v5) < v4) then (v3 : Int32) else (if ((zr h 101 ((4 * (zr h 103 v5)) + v1)) = (-1)) then (v3 : Int32) else (zr h 103 v5))) : Int32) = (if ((zr h 101 ((4 * (zr h 103 v5)) + v1)) = (-1)) then (v3 : Int32) else (zr h 103 v5)) from if_neg hc] at K34
        rw [show ((if ((zr h 104 v5) < v4) then (v4 : Int32) else (if ((zr h 101 ((4 * (zr h 103 v5)) + v1)) = (-1)) then (v4 : Int32) else (zr h 104 v5))) : Int32) = (if ((zr h 101 ((4 * (zr h 103 v5)) + v1)) = (-1)) then (v4 : Int32) else (zr h 104 v5)) from if_neg hc] at K34
        refine zg_blk zd_201 6 hs (rfl : zb x zT0 zc_201 6 (40, [some (.ref 92), some (.int v1), some (.int v2), some (.int v3), some (.int v4), some (.int v5)], [], h) = some (51, [some (.ref 92), some (.int v1), some (.int v2), some (.int v3), some (.int v4), some (.int v5)], [.int v5, .ref 103, .int 4, .ref 101], h)) (fun hs => ?_)
        obtain ⟨hob, ho⟩ := ho
        refine zg_ial hs zd_201 rfl rfl hob ?_
        refine zg_blk zd_201 3 hs (rfl : zb x zT0 zc_201 3 (52, [some (.ref 92), some (.int v1), some (.int v2), some (.int v3), some (.int v4), some (.int v5)], [.int (zr h 103 v5), .int 4, .ref 101], h) = some (55, [some (.ref 92), some (.int v1), some (.int v2), some (.int v3), some (.int v4), some (.int v5)], [.int ((4 * (zr h 103 v5)) + v1), .ref 101], h)) (fun hs => ?_)
        obtain ⟨hob, ho⟩ := ho
        refine zg_ial hs zd_201 rfl rfl hob ?_
        refine zg_blk zd_201 1 hs (rfl : zb x zT0 zc_201 1 (56, [some (.ref 92), some (.int v1), some (.int v2), some (.int v3), some (.int v4), some (.int v5)], [.int (zr h 101 ((4 * (zr h 103 v5)) + v1))], h) = some (57, [some (.ref 92), some (.int v1), some (.int v2), some (.int v3), some (.int v4), some (.int v5)], [.int (-1), .int (zr h 101 ((4 * (zr h 103 v5)) + v1))], h)) (fun hs => ?_)
        refine zg_i_ne zd_201 rfl (fun (hc : ¬ ((zr h 101 ((4 * (zr h 103 v5)) + v1)) = (-1))) => ?_) (fun (hc : ((zr h 101 ((4 * (zr h 103 v5)) + v1)) = (-1))) => ?_)
        · have ho := ho.2 hc
          rw [show ((if ((zr h 101 ((4 * (zr h 103 v5)) + v1)) = (-1)) then (v3 : Int32) else (zr h 103 v5)) : Int32) = (zr h 103 v5) from if_neg hc] at K34
          rw [show ((if ((zr h 101 ((4 * (zr h 103 v5)) + v1)) = (-1)) then (v4 : Int32) else (zr h 104 v5)) : Int32) = (zr h 104 v5) from if_neg hc] at K34
          refine zg_blk zd_201 3 hs (rfl : zb x zT0 zc_201 3 (63, [some (.ref 92), some (.int v1), some (.int v2), some (.int v3), some (.int v4), some (.int v5)], [], h) = some (69, [some (.ref 92), some (.int v1), some (.int v2), some (.int v3), some (.int v4), some (.int v5)], [.int v5, .ref 103], h)) (fun hs => ?_)
          obtain ⟨hob, ho⟩ := ho
          refine zg_ial hs zd_201 rfl rfl hob ?_
          refine zg_blk zd_201 4 hs (rfl : zb x zT0 zc_201 4 (70, [some (.ref 92), some (.int v1), some (.int v2), some (.int v3), some (.int v4), some (.int v5)], [.int (zr h 103 v5)], h) = some (77, [some (.ref 92), some (.int v1), some (.int v2), some (.int (zr h 103 v5)), some (.int v4), some (.int v5)], [.int v5, .ref 104], h)) (fun hs => ?_)
          have hob := ho
          refine zg_ial hs zd_201 rfl rfl hob ?_
          refine zg_blk zd_201 1 hs (rfl : zb x zT0 zc_201 1 (78, [some (.ref 92), some (.int v1), some (.int v2), some (.int (zr h 103 v5)), some (.int v4), some (.int v5)], [.int (zr h 104 v5)], h) = some (80, [some (.ref 92), some (.int v1), some (.int v2), some (.int (zr h 103 v5)), some (.int (zr h 104 v5)), some (.int v5)], [], h)) (fun hs => ?_)
          exact K34 hs
        · have ho := ho.1 hc
          rw [show ((if ((zr h 101 ((4 * (zr h 103 v5)) + v1)) = (-1)) then (v3 : Int32) else (zr h 103 v5)) : Int32) = v3 from if_pos hc] at K34
          rw [show ((if ((zr h 101 ((4 * (zr h 103 v5)) + v1)) = (-1)) then (v4 : Int32) else (zr h 104 v5)) : Int32) = v4 from if_pos hc] at K34
          refine zg_blk zd_201 1 hs (rfl : zb x zT0 zc_201 1 (60, [some (.ref 92), some (.int v1), some (.int v2), some (.int v3), some (.int v4), some (.int v5)], [], h) = some (80, [some (.ref 92), some (.int v1), some (.int v2), some (.int v3), some (.int v4), some (.int v5)], [], h)) (fun hs => ?_)
          exact K34 hs
theorem f_M_inForce_l8_t {x : zm_X} {d : Nat} (v1 : Int32) (v2 : Int32) (h : zm_H) {Q : Option Value → zm_H → Prop} (G : Nat × Int32 × Int32 × Int32 → Prop) (hx1 : ∀ (v3 : Int32) (v4 : Int32) (v5 : Int32) (o4 : Option Value) (o5 : Option Value), zSh zT0 h → G (1, v3, v4, v5) → zg x (d + 1) 201 86 [some (.ref 92), some (.int v1), some (.int v2), some (.int v3), o4, o5] [] h Q) : ∀ (n : Nat) (v3 : Int32) (v4 : Int32) (v5 : Int32), zSh zT0 h → f_M_inForce_l8_ok v1 v2 h n (v3, v4, v5) → G (f_M_inForce_l8 v1 v2 h n (v3, v4, v5)) → zg x (d + 1) 201 8 [some (.ref 92), some (.int v1), some (.int v2), some (.int v3), some (.int v4), some (.int v5)] [] h Q := by
  intro n
  induction n with
  | zero => intro v3 v4 v5 hs ho hG; exact ho.elim
  | succ n ih =>
    intro v3 v4 v5 hs ho hG
    refine f_M_inForce_l8_b_t (FN := fun r => (r.1 = 0 → f_M_inForce_l8_ok v1 v2 h n r.2) ∧ G (if r.1 = 0 then f_M_inForce_l8 v1 v2 h n r.2 else r)) v1 v2 v3 v4 v5 h hs ho.1 ⟨ho.2, hG⟩ ?_ ?_
    · intro v3 v4 v5 hs hF
      exact ih v3 v4 v5 hs (hF.1 rfl) hF.2
    · intro v3 v4 v5 o4 o5 hs hF
      exact hx1 v3 v4 v5 o4 o5 hs hF.2

set_option maxRecDepth 100000 in
set_option maxHeartbeats 400000 in
theorem f_M_inForce_k86_t {x : zm_X} {d : Nat} (v3 : Int32) (h : zm_H) (o0 : Option Value) (o1 : Option Value) (z2 : Int32) (o4 : Option Value) (o5 : Option Value) {Q : Option Value → zm_H → Prop} (hs : zSh zT0 h) (ho : f_M_inForce_k86_ok v3 h) (hF : Q (some (.int (f_M_inForce_k86 v3 h))) h) : zg x (d + 1) 201 86 [o0, o1, some (.int z2), some (.int v3), o4, o5] [] h Q := by
  unfold f_M_inForce_k86 at hF
  unfold f_M_inForce_k86_ok at ho
  refine zg_blk zd_201 1 hs (rfl : zb x zT0 zc_201 1 (86, [o0, o1, some (.int z2), some (.int v3), o4, o5], [], h) = some (87, [o0, o1, some (.int z2), some (.int v3), o4, o5], [.int v3], h)) (fun hs => ?_)
  exact zg_ret zd_201 rfl rfl hF
set_option maxRecDepth 100000 in
set_option maxHeartbeats 400000 in
theorem f_M_inForce_t {x : zm_X} {d : Nat} (p1 : Int32) (p2 : Int32) (h : zm_H) {Q : Option Value → zm_H → Prop} (hs : zSh zT0 h) (ho : f_M_inForce_ok p1 p2 h) (hF : Q (some (.int (f_M_inForce p1 p2 h))) h) : zg x (d + 1) 201 0 [some (.ref 92), some (.int p1), some (.int p2), none, none, none] [] h Q := by
  unfold f_M_inForce at hF
  unfold f_M_inForce_ok at ho
  refine zg_blk zd_201 6 hs (rfl : zb x zT0 zc_201 6 (0, [some (.ref 92), some (.int p1), some (.int p2), none, none, none], [], h) = some (8, [some (.ref 92), some (.int p1), some (.int p2), some (.int (-1)), some (.int (-1)), some (.int 0)], [], h)) (fun hs => ?_)
  refine f_M_inForce_l8_t p1 p2 h (fun r => f_M_inForce_a8_ok r h ∧ Q (some (.int (f_M_inForce_a8 r h))) h) ?_ zF (-1) (-1) 0 hs ho.1 ⟨ho.2, hF⟩
  · intro v3_ v4_ v5_ o4_ o5_ hs hG
    have ho : True := trivial
    have hF : Q (some (.int ((f_M_inForce_k86 v3_ h)))) h := hG.2
    exact f_M_inForce_k86_t v3_ h (some (.ref 92)) (some (.int p1)) p2 (o4_) (o5_) hs trivial hF
set_option maxRecDepth 100000 in
set_option maxHeartbeats 400000 in
theorem f_M_why_t {x : zm_X} {d : Nat} (p1 : Int32) (p2 : Int32) (h : zm_H) {Q : Option Value → zm_H → Prop} (hs : zSh zT0 h) (ho : f_M_why_ok p1 p2 h) (hF : Q (some (.int (f_M_why p1 p2 h))) h) : zg x (d + 3) 200 0 [some (.ref 92), some (.int p1), some (.int p2)] [] h Q := by
  unfold f_M_why at hF
  unfold f_M_why_ok at ho
  refine zg_blk zd_200 3 hs (rfl : zb x zT0 zc_200 3 (0, [some (.ref 92), some (.int p1), some (.int p2)], [], h) = some (3, [some (.ref 92), some (.int p1), some (.int p2)], [.int 3, .int 0, .int p1], h)) (fun hs => ?_)
  refine zg_call hs zd_200 rfl rfl rfl rfl (as := [.int p1, .int 0, .int 3]) (rest := []) (en := [some (.int p1), some (.int 0), some (.int 3)]) rfl rfl rfl rfl rfl ?_
  refine f_M_in_t p1 0 3 h hs trivial ?_
  show zg x (d + 3) 200 6 [some (.ref 92), some (.int p1), some (.int p2)] [.int (if (¬ (p1 < 0) ∧ (¬ (3 < p1))) then (1 : Int32) else 0)] h Q
  have hom := ho
  have K35 : zSh zT0 h → zg x (d + 3) 200 26 [some (.ref 92), some (.int p1), some (.int p2)] [.int (if (¬ (p1 < 0) ∧ (¬ (3 < p1))) then ((if (¬ (p2 < 0) ∧ (¬ (479 < p2))) then ((f_M_inForce p1 p2 h) : Int32) else (-1)) : Int32) else (-1))] h Q := fun hs => by
    exact zg_ret zd_200 rfl rfl hF
  refine zg_b_eq zd_200 rfl (fun (hc : ¬ (¬ (p1 < 0) ∧ (¬ (3 < p1)))) => ?_) (fun (hc : (¬ (p1 < 0) ∧ (¬ (3 < p1)))) => ?_)
  · have ho := hom.2 hc
    rw [show ((if (¬ (p1 < 0) ∧ (¬ (3 < p1))) then ((if (¬ (p2 < 0) ∧ (¬ (479 < p2))) then ((f_M_inForce p1 p2 h) : Int32) else (-1)) : Int32) else (-1)) : Int32) = (-1) from if_neg hc] at K35
    refine zg_blk zd_200 1 hs (rfl : zb x zT0 zc_200 1 (25, [some (.ref 92), some (.int p1), some (.int p2)], [], h) = some (26, [some (.ref 92), some (.int p1), some (.int p2)], [.int (-1)], h)) (fun hs => ?_)
    exact K35 hs
  · have ho := hom.1 hc
    rw [show ((if (¬ (p1 < 0) ∧ (¬ (3 < p1))) then ((if (¬ (p2 < 0) ∧ (¬ (479 < p2))) then ((f_M_inForce p1 p2 h) : Int32) else (-1)) : Int32) else (-1)) : Int32) = (if (¬ (p2 < 0) ∧ (¬ (479 < p2))) then ((f_M_inForce p1 p2 h) : Int32) else (-1)) from if_pos hc] at K35
    refine zg_blk zd_200 1 hs (rfl : zb x zT0 zc_200 1 (9, [some (.ref 92), some (.int p1), some (.int p2)], [], h) = some (10, [some (.ref 92), some (.int p1), some (.int p2)], [.int p2], h)) (fun hs => ?_)
    refine zg_call hs zd_200 rfl rfl rfl rfl (as := [.int p2]) (rest := []) (en := [some (.int p2)]) rfl rfl rfl rfl rfl ?_
    refine f_M_isSpell_t p2 h hs trivial ?_
    show zg x (d + 3) 200 13 [some (.ref 92), some (.int p1), some (.int p2)] [.int (if (¬ (p2 < 0) ∧ (¬ (479 < p2))) then (1 : Int32) else 0)] h Q
    refine zg_b_eq zd_200 rfl (fun (hc : ¬ (¬ (p2 < 0) ∧ (¬ (479 < p2)))) => ?_) (fun (hc : (¬ (p2 < 0) ∧ (¬ (479 < p2)))) => ?_)
    · have ho := ho.2 hc
      rw [show ((if (¬ (p2 < 0) ∧ (¬ (479 < p2))) then ((f_M_inForce p1 p2 h) : Int32) else (-1)) : Int32) = (-1) from if_neg hc] at K35
      refine zg_blk zd_200 1 hs (rfl : zb x zT0 zc_200 1 (25, [some (.ref 92), some (.int p1), some (.int p2)], [], h) = some (26, [some (.ref 92), some (.int p1), some (.int p2)], [.int (-1)], h)) (fun hs => ?_)
      exact K35 hs
    · have ho := ho.1 hc
      rw [show ((if (¬ (p2 < 0) ∧ (¬ (479 < p2))) then ((f_M_inForce p1 p2 h) : Int32) else (-1)) : Int32) = (f_M_inForce p1 p2 h) from if_pos hc] at K35
      refine zg_blk zd_200 3 hs (rfl : zb x zT0 zc_200 3 (16, [some (.ref 92), some (.int p1), some (.int p2)], [], h) = some (19, [some (.ref 92), some (.int p1), some (.int p2)], [.int p2, .int p1, .ref 92], h)) (fun hs => ?_)
      have hob := ho
      refine zg_call hs zd_200 rfl rfl rfl rfl (as := [.ref 92, .int p1, .int p2]) (rest := []) (en := [some (.ref 92), some (.int p1), some (.int p2), none, none, none]) rfl rfl rfl rfl rfl ?_
      refine f_M_inForce_t p1 p2 h hs hob ?_
      show zg x (d + 3) 200 22 [some (.ref 92), some (.int p1), some (.int p2)] [.int (f_M_inForce p1 p2 h)] h Q
      refine zg_blk zd_200 1 hs (rfl : zb x zT0 zc_200 1 (22, [some (.ref 92), some (.int p1), some (.int p2)], [.int (f_M_inForce p1 p2 h)], h) = some (26, [some (.ref 92), some (.int p1), some (.int p2)], [.int (f_M_inForce p1 p2 h)], h)) (fun hs => ?_)
      exact K35 hs
theorem zd_134 : zm_cd 134 = zc_134 := by rfl
theorem zd_54 : zm_cd 54 = zc_54 := by rfl
set_option maxRecDepth 100000 in
set_option maxHeartbeats 400000 in
theorem f_Log_addRaft_t {x : zm_X} {d : Nat} (p1 : Int32) (p2 : Int32) (p3 : Int32) (h : zm_H) {Q : Option Value → zm_H → Prop} (hs : zSh zT0 h) (ho : f_Log_addRaft_ok p1 p2 p3 h) (hF : (zSh zT0 (f_Log_addRaft p1 p2 p3 h).2 → Q (some (.int (f_Log_addRaft p1 p2 p3 h).1)) (f_Log_addRaft p1 p2 p3 h).2)) : zg x (d + 1) 54 0 [some (.ref 23), some (.int p1), some (.int p2), some (.int p3)] [] h Q := by
  unfold f_Log_addRaft at hF
  unfold f_Log_addRaft_ok at ho
  refine zg_blk zd_54 3 hs (rfl : zb x zT0 zc_54 3 (0, [some (.ref 23), some (.int p1), some (.int p2), some (.int p3)], [], h) = some (6, [some (.ref 23), some (.int p1), some (.int p2), some (.int p3)], [.int 10, .int (zf h 23 0)], h)) (fun hs => ?_)
  refine zg_i_lt zd_54 rfl (fun (hc : ((zf h 23 0) < 10)) => ?_) (fun (hc : ¬ ((zf h 23 0) < 10)) => ?_)
  · have ho := ho.1 hc
    rw [if_pos hc] at hF
    refine zg_blk zd_54 5 hs (rfl : zb x zT0 zc_54 5 (11, [some (.ref 23), some (.int p1), some (.int p2), some (.int p3)], [], h) = some (20, [some (.ref 23), some (.int p1), some (.int p2), some (.int p3)], [.int p2, .int (zf h 23 0), .ref 24], h)) (fun hs => ?_)
    obtain ⟨hob, ho⟩ := ho
    refine zg_ias hs zd_54 rfl rfl hob (fun hs => ?_)
    refine zg_blk zd_54 5 hs (rfl : zb x zT0 zc_54 5 (21, [some (.ref 23), some (.int p1), some (.int p2), some (.int p3)], [], (zs h 24 (zf h 23 0) p2)) = some (30, [some (.ref 23), some (.int p1), some (.int p2), some (.int p3)], [.int p3, .int (zf h 23 0), .ref 25], (zs h 24 (zf h 23 0) p2))) (fun hs => ?_)
    obtain ⟨hob, ho⟩ := ho
    refine zg_ias hs zd_54 rfl rfl hob (fun hs => ?_)
    refine zg_blk zd_54 5 hs (rfl : zb x zT0 zc_54 5 (31, [some (.ref 23), some (.int p1), some (.int p2), some (.int p3)], [], (zs (zs h 24 (zf h 23 0) p2) 25 (zf h 23 0) p3)) = some (40, [some (.ref 23), some (.int p1), some (.int p2), some (.int p3)], [.int p1, .int (zf h 23 0), .ref 26], (zs (zs h 24 (zf h 23 0) p2) 25 (zf h 23 0) p3))) (fun hs => ?_)
    have hob := ho
    refine zg_ias hs zd_54 rfl rfl hob (fun hs => ?_)
    refine zg_blk zd_54 10 hs (rfl : zb x zT0 zc_54 10 (41, [some (.ref 23), some (.int p1), some (.int p2), some (.int p3)], [], (zs (zs (zs h 24 (zf h 23 0) p2) 25 (zf h 23 0) p3) 26 (zf h 23 0) p1)) = some (57, [some (.ref 23), some (.int p1), some (.int p2), some (.int p3)], [.int (((zf h 23 0) + 1) - 1)], (zp (zs (zs (zs h 24 (zf h 23 0) p2) 25 (zf h 23 0) p3) 26 (zf h 23 0) p1) 23 0 ((zf h 23 0) + 1)))) (fun hs => ?_)
    exact zg_ret zd_54 rfl rfl (hF hs)
  · have ho := ho.2 hc
    rw [if_neg hc] at hF
    refine zg_blk zd_54 1 hs (rfl : zb x zT0 zc_54 1 (9, [some (.ref 23), some (.int p1), some (.int p2), some (.int p3)], [], h) = some (10, [some (.ref 23), some (.int p1), some (.int p2), some (.int p3)], [.int (-1)], h)) (fun hs => ?_)
    exact zg_ret zd_54 rfl rfl (hF hs)
set_option maxRecDepth 100000 in
set_option maxHeartbeats 400000 in
theorem f_N_raft_t {x : zm_X} {d : Nat} (p1 : Int32) (p2 : Int32) (h : zm_H) {Q : Option Value → zm_H → Prop} (hs : zSh zT0 h) (ho : f_N_raft_ok p1 p2 h) (hF : (zSh zT0 (f_N_raft p1 p2 h).2 → Q (some (.int (f_N_raft p1 p2 h).1)) (f_N_raft p1 p2 h).2)) : zg x (d + 2) 134 0 [some (.ref 0), some (.int p1), some (.int p2)] [] h Q := by
  unfold f_N_raft at hF
  unfold f_N_raft_ok at ho
  refine zg_blk zd_134 2 hs (rfl : zb x zT0 zc_134 2 (0, [some (.ref 0), some (.int p1), some (.int p2)], [], h) = some (2, [some (.ref 0), some (.int p1), some (.int p2)], [.int 1, .int p1], h)) (fun hs => ?_)
  refine zg_i_lt zd_134 rfl (fun (hc : (p1 < 1)) => ?_) (fun (hc : ¬ (p1 < 1)) => ?_)
  · have ho := ho.1 hc
    rw [if_pos hc] at hF
    refine zg_blk zd_134 1 hs (rfl : zb x zT0 zc_134 1 (22, [some (.ref 0), some (.int p1), some (.int p2)], [], h) = some (23, [some (.ref 0), some (.int p1), some (.int p2)], [.int (-1)], h)) (fun hs => ?_)
    exact zg_ret zd_134 rfl rfl (hF hs)
  · have ho := ho.2 hc
    rw [if_neg hc] at hF
    refine zg_blk zd_134 2 hs (rfl : zb x zT0 zc_134 2 (5, [some (.ref 0), some (.int p1), some (.int p2)], [], h) = some (8, [some (.ref 0), some (.int p1), some (.int p2)], [.int 20, .int p1], h)) (fun hs => ?_)
    refine zg_i_gt zd_134 rfl (fun (hc : (20 < p1)) => ?_) (fun (hc : ¬ (20 < p1)) => ?_)
    · have ho := ho.1 hc
      rw [if_pos hc] at hF
      refine zg_blk zd_134 1 hs (rfl : zb x zT0 zc_134 1 (22, [some (.ref 0), some (.int p1), some (.int p2)], [], h) = some (23, [some (.ref 0), some (.int p1), some (.int p2)], [.int (-1)], h)) (fun hs => ?_)
      exact zg_ret zd_134 rfl rfl (hF hs)
    · have ho := ho.2 hc
      rw [if_neg hc] at hF
      refine zg_blk zd_134 2 hs (rfl : zb x zT0 zc_134 2 (11, [some (.ref 0), some (.int p1), some (.int p2)], [], h) = some (13, [some (.ref 0), some (.int p1), some (.int p2)], [.int 2, .int p2], h)) (fun hs => ?_)
      refine zg_i_lt zd_134 rfl (fun (hc : (p2 < 2)) => ?_) (fun (hc : ¬ (p2 < 2)) => ?_)
      · have ho := ho.1 hc
        rw [if_pos hc] at hF
        refine zg_blk zd_134 1 hs (rfl : zb x zT0 zc_134 1 (22, [some (.ref 0), some (.int p1), some (.int p2)], [], h) = some (23, [some (.ref 0), some (.int p1), some (.int p2)], [.int (-1)], h)) (fun hs => ?_)
        exact zg_ret zd_134 rfl rfl (hF hs)
      · have ho := ho.2 hc
        rw [if_neg hc] at hF
        refine zg_blk zd_134 2 hs (rfl : zb x zT0 zc_134 2 (16, [some (.ref 0), some (.int p1), some (.int p2)], [], h) = some (19, [some (.ref 0), some (.int p1), some (.int p2)], [.int 20, .int p2], h)) (fun hs => ?_)
        refine zg_i_le zd_134 rfl (fun (hc : (p2 ≤ 20)) => ?_) (fun (hc : ¬ (p2 ≤ 20)) => ?_)
        · have ho := ho.1 hc
          rw [if_pos hc] at hF
          refine zg_blk zd_134 6 hs (rfl : zb x zT0 zc_134 6 (24, [some (.ref 0), some (.int p1), some (.int p2)], [], h) = some (34, [some (.ref 0), some (.int p1), some (.int p2)], [.int p2, .int p1, .int (zf h 0 0), .ref 23], h)) (fun hs => ?_)
          have hob := ho
          refine zg_call hs zd_134 rfl rfl rfl rfl (as := [.ref 23, .int (zf h 0 0), .int p1, .int p2]) (rest := []) (en := [some (.ref 23), some (.int (zf h 0 0)), some (.int p1), some (.int p2)]) rfl rfl rfl rfl rfl ?_
          refine f_Log_addRaft_t (zf h 0 0) p1 p2 h hs hob (fun hs => ?_)
          show zg x (d + 2) 134 37 [some (.ref 0), some (.int p1), some (.int p2)] [.int (f_Log_addRaft (zf h 0 0) p1 p2 h).1] (f_Log_addRaft (zf h 0 0) p1 p2 h).2 Q
          exact zg_ret zd_134 rfl rfl (hF hs)
        · have ho := ho.2 hc
          rw [if_neg hc] at hF
          refine zg_blk zd_134 1 hs (rfl : zb x zT0 zc_134 1 (22, [some (.ref 0), some (.int p1), some (.int p2)], [], h) = some (23, [some (.ref 0), some (.int p1), some (.int p2)], [.int (-1)], h)) (fun hs => ?_)
          exact zg_ret zd_134 rfl rfl (hF hs)
theorem zd_202 : zm_cd 202 = zc_202 := by rfl
set_option maxRecDepth 100000 in
set_option maxHeartbeats 400000 in
theorem f_M_raft_t {x : zm_X} {d : Nat} (p1 : Int32) (p2 : Int32) (h : zm_H) {Q : Option Value → zm_H → Prop} (hs : zSh zT0 h) (ho : f_M_raft_ok p1 p2 h) (hF : (zSh zT0 (f_M_raft p1 p2 h).2 → Q (some (.int (f_M_raft p1 p2 h).1)) (f_M_raft p1 p2 h).2)) : zg x (d + 2) 202 0 [some (.ref 92), some (.int p1), some (.int p2)] [] h Q := by
  unfold f_M_raft at hF
  unfold f_M_raft_ok at ho
  refine zg_blk zd_202 3 hs (rfl : zb x zT0 zc_202 3 (0, [some (.ref 92), some (.int p1), some (.int p2)], [], h) = some (4, [some (.ref 92), some (.int p1), some (.int p2)], [.int 20, .int 1, .int p1], h)) (fun hs => ?_)
  refine zg_call hs zd_202 rfl rfl rfl rfl (as := [.int p1, .int 1, .int 20]) (rest := []) (en := [some (.int p1), some (.int 1), some (.int 20)]) rfl rfl rfl rfl rfl ?_
  refine f_M_in_t p1 1 20 h hs trivial ?_
  show zg x (d + 2) 202 7 [some (.ref 92), some (.int p1), some (.int p2)] [.int (if (¬ (p1 < 1) ∧ (¬ (20 < p1))) then (1 : Int32) else 0)] h Q
  refine zg_b_eq zd_202 rfl (fun (hc : ¬ (¬ (p1 < 1) ∧ (¬ (20 < p1)))) => ?_) (fun (hc : (¬ (p1 < 1) ∧ (¬ (20 < p1)))) => ?_)
  · have ho := ho.2 hc
    rw [if_neg hc] at hF
    refine zg_blk zd_202 1 hs (rfl : zb x zT0 zc_202 1 (29, [some (.ref 92), some (.int p1), some (.int p2)], [], h) = some (30, [some (.ref 92), some (.int p1), some (.int p2)], [.int (-1)], h)) (fun hs => ?_)
    exact zg_ret zd_202 rfl rfl (hF hs)
  · have ho := ho.1 hc
    rw [if_pos hc] at hF
    refine zg_blk zd_202 3 hs (rfl : zb x zT0 zc_202 3 (10, [some (.ref 92), some (.int p1), some (.int p2)], [], h) = some (14, [some (.ref 92), some (.int p1), some (.int p2)], [.int 20, .int 2, .int p2], h)) (fun hs => ?_)
    refine zg_call hs zd_202 rfl rfl rfl rfl (as := [.int p2, .int 2, .int 20]) (rest := []) (en := [some (.int p2), some (.int 2), some (.int 20)]) rfl rfl rfl rfl rfl ?_
    refine f_M_in_t p2 2 20 h hs trivial ?_
    show zg x (d + 2) 202 17 [some (.ref 92), some (.int p1), some (.int p2)] [.int (if (¬ (p2 < 2) ∧ (¬ (20 < p2))) then (1 : Int32) else 0)] h Q
    refine zg_b_eq zd_202 rfl (fun (hc : ¬ (¬ (p2 < 2) ∧ (¬ (20 < p2)))) => ?_) (fun (hc : (¬ (p2 < 2) ∧ (¬ (20 < p2)))) => ?_)
    · have ho := ho.2 hc
      rw [if_neg hc] at hF
      refine zg_blk zd_202 1 hs (rfl : zb x zT0 zc_202 1 (29, [some (.ref 92), some (.int p1), some (.int p2)], [], h) = some (30, [some (.ref 92), some (.int p1), some (.int p2)], [.int (-1)], h)) (fun hs => ?_)
      exact zg_ret zd_202 rfl rfl (hF hs)
    · have ho := ho.1 hc
      rw [if_pos hc] at hF
      refine zg_blk zd_202 3 hs (rfl : zb x zT0 zc_202 3 (20, [some (.ref 92), some (.int p1), some (.int p2)], [], h) = some (26, [some (.ref 92), some (.int p1), some (.int p2)], [.int 10, .int (zf h 92 33)], h)) (fun hs => ?_)
      refine zg_i_ne zd_202 rfl (fun (hc : ¬ ((zf h 92 33) = 10)) => ?_) (fun (hc : ((zf h 92 33) = 10)) => ?_)
      · have ho := ho.2 hc
        rw [if_neg hc] at hF
        refine zg_blk zd_202 5 hs (rfl : zb x zT0 zc_202 5 (31, [some (.ref 92), some (.int p1), some (.int p2)], [], h) = some (40, [some (.ref 92), some (.int p1), some (.int p2)], [.int p1, .int (zf h 92 33), .ref 112], h)) (fun hs => ?_)
        obtain ⟨hob, ho⟩ := ho
        refine zg_ias hs zd_202 rfl rfl hob (fun hs => ?_)
        refine zg_blk zd_202 5 hs (rfl : zb x zT0 zc_202 5 (41, [some (.ref 92), some (.int p1), some (.int p2)], [], (zs h 112 (zf h 92 33) p1)) = some (50, [some (.ref 92), some (.int p1), some (.int p2)], [.int p2, .int (zf h 92 33), .ref 113], (zs h 112 (zf h 92 33) p1))) (fun hs => ?_)
        obtain ⟨hob, ho⟩ := ho
        refine zg_ias hs zd_202 rfl rfl hob (fun hs => ?_)
        refine zg_blk zd_202 6 hs (rfl : zb x zT0 zc_202 6 (51, [some (.ref 92), some (.int p1), some (.int p2)], [], (zs (zs h 112 (zf h 92 33) p1) 113 (zf h 92 33) p2)) = some (63, [some (.ref 92), some (.int p1), some (.int p2)], [.int (zf h 92 23), .int (zf h 92 33), .ref 114], (zs (zs h 112 (zf h 92 33) p1) 113 (zf h 92 33) p2))) (fun hs => ?_)
        have hob := ho
        refine zg_ias hs zd_202 rfl rfl hob (fun hs => ?_)
        refine zg_blk zd_202 10 hs (rfl : zb x zT0 zc_202 10 (64, [some (.ref 92), some (.int p1), some (.int p2)], [], (zs (zs (zs h 112 (zf h 92 33) p1) 113 (zf h 92 33) p2) 114 (zf h 92 33) (zf h 92 23))) = some (80, [some (.ref 92), some (.int p1), some (.int p2)], [.int (((zf h 92 33) + 1) - 1)], (zp (zs (zs (zs h 112 (zf h 92 33) p1) 113 (zf h 92 33) p2) 114 (zf h 92 33) (zf h 92 23)) 92 33 ((zf h 92 33) + 1)))) (fun hs => ?_)
        exact zg_ret zd_202 rfl rfl (hF hs)
      · have ho := ho.1 hc
        rw [if_pos hc] at hF
        refine zg_blk zd_202 1 hs (rfl : zb x zT0 zc_202 1 (29, [some (.ref 92), some (.int p1), some (.int p2)], [], h) = some (30, [some (.ref 92), some (.int p1), some (.int p2)], [.int (-1)], h)) (fun hs => ?_)
        exact zg_ret zd_202 rfl rfl (hF hs)
theorem zd_135 : zm_cd 135 = zc_135 := by rfl
theorem zd_136 : zm_cd 136 = zc_136 := by rfl
set_option maxRecDepth 100000 in
set_option maxHeartbeats 400000 in
theorem f_N_isColumn_t {x : zm_X} {d : Nat} (p0 : Int32) (h : zm_H) {Q : Option Value → zm_H → Prop} (hs : zSh zT0 h) (ho : f_N_isColumn_ok p0 h) (hF : Q (some (.int (f_N_isColumn p0 h))) h) : zg x (d + 1) 136 0 [some (.int p0)] [] h Q := by
  unfold f_N_isColumn at hF
  unfold f_N_isColumn_ok at ho
  refine zg_blk zd_136 1 hs (rfl : zb x zT0 zc_136 1 (0, [some (.int p0)], [], h) = some (1, [some (.int p0)], [.int p0], h)) (fun hs => ?_)
  have K36 : zSh zT0 h → zg x (d + 1) 136 15 [some (.int p0)] [.int (if (¬ (p0 < 0) ∧ (¬ (10 ≤ p0))) then (1 : Int32) else 0)] h Q := fun hs => by
    exact zg_rtz zd_136 rfl rfl zm_nb01 hF
  refine zg_f_lt zd_136 rfl (fun (hc : (p0 < 0)) => ?_) (fun (hc : ¬ (p0 < 0)) => ?_)
  · skip
    rw [show ((if (¬ (p0 < 0) ∧ (¬ (10 ≤ p0))) then (1 : Int32) else 0) : Int32) = 0 from zb_nand_t hc] at K36
    refine zg_blk zd_136 1 hs (rfl : zb x zT0 zc_136 1 (14, [some (.int p0)], [], h) = some (15, [some (.int p0)], [.int 0], h)) (fun hs => ?_)
    exact K36 hs
  · skip
    rw [show ((if (¬ (p0 < 0) ∧ (¬ (10 ≤ p0))) then (1 : Int32) else 0) : Int32) = (if (¬ (10 ≤ p0)) then (1 : Int32) else 0) from zb_nand_f hc] at K36
    refine zg_blk zd_136 2 hs (rfl : zb x zT0 zc_136 2 (4, [some (.int p0)], [], h) = some (7, [some (.int p0)], [.int 10, .int p0], h)) (fun hs => ?_)
    refine zg_i_ge zd_136 rfl (fun (hc : (10 ≤ p0)) => ?_) (fun (hc : ¬ (10 ≤ p0)) => ?_)
    · skip
      rw [show ((if (¬ (10 ≤ p0)) then (1 : Int32) else 0) : Int32) = 0 from zb_not_t hc] at K36
      refine zg_blk zd_136 1 hs (rfl : zb x zT0 zc_136 1 (14, [some (.int p0)], [], h) = some (15, [some (.int p0)], [.int 0], h)) (fun hs => ?_)
      exact K36 hs
    · skip
      rw [show ((if (¬ (10 ≤ p0)) then (1 : Int32) else 0) : Int32) = 1 from zb_not_f hc] at K36
      refine zg_blk zd_136 2 hs (rfl : zb x zT0 zc_136 2 (10, [some (.int p0)], [], h) = some (15, [some (.int p0)], [.int 1], h)) (fun hs => ?_)
      exact K36 hs
theorem zd_33 : zm_cd 33 = zc_33 := by rfl
set_option maxRecDepth 100000 in
set_option maxHeartbeats 400000 in
theorem f_Ground_shut_t {x : zm_X} {d : Nat} (p1 : Int32) (p2 : Int32) (p3 : Int32) (h : zm_H) {Q : Option Value → zm_H → Prop} (hs : zSh zT0 h) (ho : f_Ground_shut_ok p1 p2 p3 h) (hF : (zSh zT0 (f_Ground_shut p1 p2 p3 h).2 → Q (some (.int (f_Ground_shut p1 p2 p3 h).1)) (f_Ground_shut p1 p2 p3 h).2)) : zg x (d + 1) 33 0 [some (.ref 82), some (.int p1), some (.int p2), some (.int p3)] [] h Q := by
  unfold f_Ground_shut at hF
  unfold f_Ground_shut_ok at ho
  refine zg_blk zd_33 3 hs (rfl : zb x zT0 zc_33 3 (0, [some (.ref 82), some (.int p1), some (.int p2), some (.int p3)], [], h) = some (6, [some (.ref 82), some (.int p1), some (.int p2), some (.int p3)], [.int 10, .int (zf h 82 3)], h)) (fun hs => ?_)
  refine zg_i_lt zd_33 rfl (fun (hc : ((zf h 82 3) < 10)) => ?_) (fun (hc : ¬ ((zf h 82 3) < 10)) => ?_)
  · have ho := ho.1 hc
    rw [if_pos hc] at hF
    refine zg_blk zd_33 5 hs (rfl : zb x zT0 zc_33 5 (11, [some (.ref 82), some (.int p1), some (.int p2), some (.int p3)], [], h) = some (20, [some (.ref 82), some (.int p1), some (.int p2), some (.int p3)], [.int p1, .int (zf h 82 3), .ref 83], h)) (fun hs => ?_)
    obtain ⟨hob, ho⟩ := ho
    refine zg_ias hs zd_33 rfl rfl hob (fun hs => ?_)
    refine zg_blk zd_33 5 hs (rfl : zb x zT0 zc_33 5 (21, [some (.ref 82), some (.int p1), some (.int p2), some (.int p3)], [], (zs h 83 (zf h 82 3) p1)) = some (30, [some (.ref 82), some (.int p1), some (.int p2), some (.int p3)], [.int p2, .int (zf h 82 3), .ref 84], (zs h 83 (zf h 82 3) p1))) (fun hs => ?_)
    obtain ⟨hob, ho⟩ := ho
    refine zg_ias hs zd_33 rfl rfl hob (fun hs => ?_)
    refine zg_blk zd_33 5 hs (rfl : zb x zT0 zc_33 5 (31, [some (.ref 82), some (.int p1), some (.int p2), some (.int p3)], [], (zs (zs h 83 (zf h 82 3) p1) 84 (zf h 82 3) p2)) = some (40, [some (.ref 82), some (.int p1), some (.int p2), some (.int p3)], [.int p3, .int (zf h 82 3), .ref 85], (zs (zs h 83 (zf h 82 3) p1) 84 (zf h 82 3) p2))) (fun hs => ?_)
    have hob := ho
    refine zg_ias hs zd_33 rfl rfl hob (fun hs => ?_)
    refine zg_blk zd_33 8 hs (rfl : zb x zT0 zc_33 8 (41, [some (.ref 82), some (.int p1), some (.int p2), some (.int p3)], [], (zs (zs (zs h 83 (zf h 82 3) p1) 84 (zf h 82 3) p2) 85 (zf h 82 3) p3)) = some (55, [some (.ref 82), some (.int p1), some (.int p2), some (.int p3)], [.int ((zf h 82 3) + 1)], (zp (zs (zs (zs h 83 (zf h 82 3) p1) 84 (zf h 82 3) p2) 85 (zf h 82 3) p3) 82 3 ((zf h 82 3) + 1)))) (fun hs => ?_)
    exact zg_ret zd_33 rfl rfl (hF hs)
  · have ho := ho.2 hc
    rw [if_neg hc] at hF
    refine zg_blk zd_33 1 hs (rfl : zb x zT0 zc_33 1 (9, [some (.ref 82), some (.int p1), some (.int p2), some (.int p3)], [], h) = some (10, [some (.ref 82), some (.int p1), some (.int p2), some (.int p3)], [.int (-1)], h)) (fun hs => ?_)
    exact zg_ret zd_33 rfl rfl (hF hs)
set_option maxRecDepth 100000 in
set_option maxHeartbeats 400000 in
theorem f_N_lane_t {x : zm_X} {d : Nat} (p1 : Int32) (p2 : Int32) (p3 : Int32) (h : zm_H) {Q : Option Value → zm_H → Prop} (hs : zSh zT0 h) (ho : f_N_lane_ok p1 p2 p3 h) (hF : (zSh zT0 (f_N_lane p1 p2 p3 h).2 → Q (some (.int (f_N_lane p1 p2 p3 h).1)) (f_N_lane p1 p2 p3 h).2)) : zg x (d + 2) 135 0 [some (.ref 0), some (.int p1), some (.int p2), some (.int p3)] [] h Q := by
  unfold f_N_lane at hF
  unfold f_N_lane_ok at ho
  refine zg_blk zd_135 1 hs (rfl : zb x zT0 zc_135 1 (0, [some (.ref 0), some (.int p1), some (.int p2), some (.int p3)], [], h) = some (1, [some (.ref 0), some (.int p1), some (.int p2), some (.int p3)], [.int p1], h)) (fun hs => ?_)
  refine zg_call hs zd_135 rfl rfl rfl rfl (as := [.int p1]) (rest := []) (en := [some (.int p1)]) rfl rfl rfl rfl rfl ?_
  refine f_N_isColumn_t p1 h hs trivial ?_
  show zg x (d + 2) 135 4 [some (.ref 0), some (.int p1), some (.int p2), some (.int p3)] [.int (if (¬ (p1 < 0) ∧ (¬ (10 ≤ p1))) then (1 : Int32) else 0)] h Q
  refine zg_b_eq zd_135 rfl (fun (hc : ¬ (¬ (p1 < 0) ∧ (¬ (10 ≤ p1)))) => ?_) (fun (hc : (¬ (p1 < 0) ∧ (¬ (10 ≤ p1)))) => ?_)
  · have ho := ho.2 hc
    rw [if_neg hc] at hF
    refine zg_blk zd_135 1 hs (rfl : zb x zT0 zc_135 1 (17, [some (.ref 0), some (.int p1), some (.int p2), some (.int p3)], [], h) = some (18, [some (.ref 0), some (.int p1), some (.int p2), some (.int p3)], [.int (-1)], h)) (fun hs => ?_)
    exact zg_ret zd_135 rfl rfl (hF hs)
  · have ho := ho.1 hc
    rw [if_pos hc] at hF
    refine zg_blk zd_135 3 hs (rfl : zb x zT0 zc_135 3 (7, [some (.ref 0), some (.int p1), some (.int p2), some (.int p3)], [], h) = some (11, [some (.ref 0), some (.int p1), some (.int p2), some (.int p3)], [.int 60, .int p3, .int p2], h)) (fun hs => ?_)
    refine zg_call hs zd_135 rfl rfl rfl rfl (as := [.int p2, .int p3, .int 60]) (rest := []) (en := [some (.int p2), some (.int p3), some (.int 60)]) rfl rfl rfl rfl rfl ?_
    refine f_N_isRange_t p2 p3 60 h hs trivial ?_
    show zg x (d + 2) 135 14 [some (.ref 0), some (.int p1), some (.int p2), some (.int p3)] [.int (if (¬ (p2 < 0) ∧ (¬ (p3 < p2) ∧ (¬ (60 ≤ p3)))) then (1 : Int32) else 0)] h Q
    refine zg_b_ne zd_135 rfl (fun (hc : (¬ (p2 < 0) ∧ (¬ (p3 < p2) ∧ (¬ (60 ≤ p3))))) => ?_) (fun (hc : ¬ (¬ (p2 < 0) ∧ (¬ (p3 < p2) ∧ (¬ (60 ≤ p3))))) => ?_)
    · have ho := ho.1 hc
      rw [if_pos hc] at hF
      refine zg_blk zd_135 5 hs (rfl : zb x zT0 zc_135 5 (19, [some (.ref 0), some (.int p1), some (.int p2), some (.int p3)], [], h) = some (26, [some (.ref 0), some (.int p1), some (.int p2), some (.int p3)], [.int p3, .int p2, .int p1, .ref 82], h)) (fun hs => ?_)
      have hob := ho
      refine zg_call hs zd_135 rfl rfl rfl rfl (as := [.ref 82, .int p1, .int p2, .int p3]) (rest := []) (en := [some (.ref 82), some (.int p1), some (.int p2), some (.int p3)]) rfl rfl rfl rfl rfl ?_
      refine f_Ground_shut_t p1 p2 p3 h hs hob (fun hs => ?_)
      show zg x (d + 2) 135 29 [some (.ref 0), some (.int p1), some (.int p2), some (.int p3)] [.int (f_Ground_shut p1 p2 p3 h).1] (f_Ground_shut p1 p2 p3 h).2 Q
      exact zg_ret zd_135 rfl rfl (hF hs)
    · have ho := ho.2 hc
      rw [if_neg hc] at hF
      refine zg_blk zd_135 1 hs (rfl : zb x zT0 zc_135 1 (17, [some (.ref 0), some (.int p1), some (.int p2), some (.int p3)], [], h) = some (18, [some (.ref 0), some (.int p1), some (.int p2), some (.int p3)], [.int (-1)], h)) (fun hs => ?_)
      exact zg_ret zd_135 rfl rfl (hF hs)
theorem zd_203 : zm_cd 203 = zc_203 := by rfl
set_option maxRecDepth 100000 in
set_option maxHeartbeats 400000 in
theorem f_M_lane_t {x : zm_X} {d : Nat} (p1 : Int32) (p2 : Int32) (p3 : Int32) (h : zm_H) {Q : Option Value → zm_H → Prop} (hs : zSh zT0 h) (ho : f_M_lane_ok p1 p2 p3 h) (hF : (zSh zT0 (f_M_lane p1 p2 p3 h).2 → Q (some (.int (f_M_lane p1 p2 p3 h).1)) (f_M_lane p1 p2 p3 h).2)) : zg x (d + 2) 203 0 [some (.ref 92), some (.int p1), some (.int p2), some (.int p3)] [] h Q := by
  unfold f_M_lane at hF
  unfold f_M_lane_ok at ho
  refine zg_blk zd_203 3 hs (rfl : zb x zT0 zc_203 3 (0, [some (.ref 92), some (.int p1), some (.int p2), some (.int p3)], [], h) = some (4, [some (.ref 92), some (.int p1), some (.int p2), some (.int p3)], [.int 9, .int 0, .int p1], h)) (fun hs => ?_)
  refine zg_call hs zd_203 rfl rfl rfl rfl (as := [.int p1, .int 0, .int 9]) (rest := []) (en := [some (.int p1), some (.int 0), some (.int 9)]) rfl rfl rfl rfl rfl ?_
  refine f_M_in_t p1 0 9 h hs trivial ?_
  show zg x (d + 2) 203 7 [some (.ref 92), some (.int p1), some (.int p2), some (.int p3)] [.int (if (¬ (p1 < 0) ∧ (¬ (9 < p1))) then (1 : Int32) else 0)] h Q
  refine zg_b_eq zd_203 rfl (fun (hc : ¬ (¬ (p1 < 0) ∧ (¬ (9 < p1)))) => ?_) (fun (hc : (¬ (p1 < 0) ∧ (¬ (9 < p1)))) => ?_)
  · have ho := ho.2 hc
    rw [if_neg hc] at hF
    refine zg_blk zd_203 1 hs (rfl : zb x zT0 zc_203 1 (39, [some (.ref 92), some (.int p1), some (.int p2), some (.int p3)], [], h) = some (40, [some (.ref 92), some (.int p1), some (.int p2), some (.int p3)], [.int (-1)], h)) (fun hs => ?_)
    exact zg_ret zd_203 rfl rfl (hF hs)
  · have ho := ho.1 hc
    rw [if_pos hc] at hF
    refine zg_blk zd_203 3 hs (rfl : zb x zT0 zc_203 3 (10, [some (.ref 92), some (.int p1), some (.int p2), some (.int p3)], [], h) = some (14, [some (.ref 92), some (.int p1), some (.int p2), some (.int p3)], [.int 59, .int 0, .int p2], h)) (fun hs => ?_)
    refine zg_call hs zd_203 rfl rfl rfl rfl (as := [.int p2, .int 0, .int 59]) (rest := []) (en := [some (.int p2), some (.int 0), some (.int 59)]) rfl rfl rfl rfl rfl ?_
    refine f_M_in_t p2 0 59 h hs trivial ?_
    show zg x (d + 2) 203 17 [some (.ref 92), some (.int p1), some (.int p2), some (.int p3)] [.int (if (¬ (p2 < 0) ∧ (¬ (59 < p2))) then (1 : Int32) else 0)] h Q
    refine zg_b_eq zd_203 rfl (fun (hc : ¬ (¬ (p2 < 0) ∧ (¬ (59 < p2)))) => ?_) (fun (hc : (¬ (p2 < 0) ∧ (¬ (59 < p2)))) => ?_)
    · have ho := ho.2 hc
      rw [if_neg hc] at hF
      refine zg_blk zd_203 1 hs (rfl : zb x zT0 zc_203 1 (39, [some (.ref 92), some (.int p1), some (.int p2), some (.int p3)], [], h) = some (40, [some (.ref 92), some (.int p1), some (.int p2), some (.int p3)], [.int (-1)], h)) (fun hs => ?_)
      exact zg_ret zd_203 rfl rfl (hF hs)
    · have ho := ho.1 hc
      rw [if_pos hc] at hF
      refine zg_blk zd_203 3 hs (rfl : zb x zT0 zc_203 3 (20, [some (.ref 92), some (.int p1), some (.int p2), some (.int p3)], [], h) = some (24, [some (.ref 92), some (.int p1), some (.int p2), some (.int p3)], [.int 59, .int p2, .int p3], h)) (fun hs => ?_)
      refine zg_call hs zd_203 rfl rfl rfl rfl (as := [.int p3, .int p2, .int 59]) (rest := []) (en := [some (.int p3), some (.int p2), some (.int 59)]) rfl rfl rfl rfl rfl ?_
      refine f_M_in_t p3 p2 59 h hs trivial ?_
      show zg x (d + 2) 203 27 [some (.ref 92), some (.int p1), some (.int p2), some (.int p3)] [.int (if (¬ (p3 < p2) ∧ (¬ (59 < p3))) then (1 : Int32) else 0)] h Q
      refine zg_b_eq zd_203 rfl (fun (hc : ¬ (¬ (p3 < p2) ∧ (¬ (59 < p3)))) => ?_) (fun (hc : (¬ (p3 < p2) ∧ (¬ (59 < p3)))) => ?_)
      · have ho := ho.2 hc
        rw [if_neg hc] at hF
        refine zg_blk zd_203 1 hs (rfl : zb x zT0 zc_203 1 (39, [some (.ref 92), some (.int p1), some (.int p2), some (.int p3)], [], h) = some (40, [some (.ref 92), some (.int p1), some (.int p2), some (.int p3)], [.int (-1)], h)) (fun hs => ?_)
        exact zg_ret zd_203 rfl rfl (hF hs)
      · have ho := ho.1 hc
        rw [if_pos hc] at hF
        refine zg_blk zd_203 3 hs (rfl : zb x zT0 zc_203 3 (30, [some (.ref 92), some (.int p1), some (.int p2), some (.int p3)], [], h) = some (36, [some (.ref 92), some (.int p1), some (.int p2), some (.int p3)], [.int 10, .int (zf h 92 37)], h)) (fun hs => ?_)
        refine zg_i_ne zd_203 rfl (fun (hc : ¬ ((zf h 92 37) = 10)) => ?_) (fun (hc : ((zf h 92 37) = 10)) => ?_)
        · have ho := ho.2 hc
          rw [if_neg hc] at hF
          refine zg_blk zd_203 5 hs (rfl : zb x zT0 zc_203 5 (41, [some (.ref 92), some (.int p1), some (.int p2), some (.int p3)], [], h) = some (50, [some (.ref 92), some (.int p1), some (.int p2), some (.int p3)], [.int p1, .int (zf h 92 37), .ref 115], h)) (fun hs => ?_)
          obtain ⟨hob, ho⟩ := ho
          refine zg_ias hs zd_203 rfl rfl hob (fun hs => ?_)
          refine zg_blk zd_203 5 hs (rfl : zb x zT0 zc_203 5 (51, [some (.ref 92), some (.int p1), some (.int p2), some (.int p3)], [], (zs h 115 (zf h 92 37) p1)) = some (60, [some (.ref 92), some (.int p1), some (.int p2), some (.int p3)], [.int p2, .int (zf h 92 37), .ref 116], (zs h 115 (zf h 92 37) p1))) (fun hs => ?_)
          obtain ⟨hob, ho⟩ := ho
          refine zg_ias hs zd_203 rfl rfl hob (fun hs => ?_)
          refine zg_blk zd_203 5 hs (rfl : zb x zT0 zc_203 5 (61, [some (.ref 92), some (.int p1), some (.int p2), some (.int p3)], [], (zs (zs h 115 (zf h 92 37) p1) 116 (zf h 92 37) p2)) = some (70, [some (.ref 92), some (.int p1), some (.int p2), some (.int p3)], [.int p3, .int (zf h 92 37), .ref 117], (zs (zs h 115 (zf h 92 37) p1) 116 (zf h 92 37) p2))) (fun hs => ?_)
          have hob := ho
          refine zg_ias hs zd_203 rfl rfl hob (fun hs => ?_)
          refine zg_blk zd_203 8 hs (rfl : zb x zT0 zc_203 8 (71, [some (.ref 92), some (.int p1), some (.int p2), some (.int p3)], [], (zs (zs (zs h 115 (zf h 92 37) p1) 116 (zf h 92 37) p2) 117 (zf h 92 37) p3)) = some (85, [some (.ref 92), some (.int p1), some (.int p2), some (.int p3)], [.int ((zf h 92 37) + 1)], (zp (zs (zs (zs h 115 (zf h 92 37) p1) 116 (zf h 92 37) p2) 117 (zf h 92 37) p3) 92 37 ((zf h 92 37) + 1)))) (fun hs => ?_)
          exact zg_ret zd_203 rfl rfl (hF hs)
        · have ho := ho.1 hc
          rw [if_pos hc] at hF
          refine zg_blk zd_203 1 hs (rfl : zb x zT0 zc_203 1 (39, [some (.ref 92), some (.int p1), some (.int p2), some (.int p3)], [], h) = some (40, [some (.ref 92), some (.int p1), some (.int p2), some (.int p3)], [.int (-1)], h)) (fun hs => ?_)
          exact zg_ret zd_203 rfl rfl (hF hs)
theorem zd_137 : zm_cd 137 = zc_137 := by rfl
theorem zd_138 : zm_cd 138 = zc_138 := by rfl
set_option maxRecDepth 100000 in
set_option maxHeartbeats 400000 in
theorem f_N_isRaft_t {x : zm_X} {d : Nat} (p1 : Int32) (h : zm_H) {Q : Option Value → zm_H → Prop} (hs : zSh zT0 h) (ho : f_N_isRaft_ok p1 h) (hF : Q (some (.int (f_N_isRaft p1 h))) h) : zg x (d + 1) 138 0 [some (.ref 0), some (.int p1)] [] h Q := by
  unfold f_N_isRaft at hF
  unfold f_N_isRaft_ok at ho
  refine zg_blk zd_138 1 hs (rfl : zb x zT0 zc_138 1 (0, [some (.ref 0), some (.int p1)], [], h) = some (1, [some (.ref 0), some (.int p1)], [.int p1], h)) (fun hs => ?_)
  have K37 : zSh zT0 h → zg x (d + 1) 138 20 [some (.ref 0), some (.int p1)] [.int (if (¬ (p1 < 0) ∧ (¬ ((zf h 23 0) ≤ p1))) then (1 : Int32) else 0)] h Q := fun hs => by
    exact zg_rtz zd_138 rfl rfl zm_nb01 hF
  refine zg_f_lt zd_138 rfl (fun (hc : (p1 < 0)) => ?_) (fun (hc : ¬ (p1 < 0)) => ?_)
  · skip
    rw [show ((if (¬ (p1 < 0) ∧ (¬ ((zf h 23 0) ≤ p1))) then (1 : Int32) else 0) : Int32) = 0 from zb_nand_t hc] at K37
    refine zg_blk zd_138 1 hs (rfl : zb x zT0 zc_138 1 (19, [some (.ref 0), some (.int p1)], [], h) = some (20, [some (.ref 0), some (.int p1)], [.int 0], h)) (fun hs => ?_)
    exact K37 hs
  · skip
    rw [show ((if (¬ (p1 < 0) ∧ (¬ ((zf h 23 0) ≤ p1))) then (1 : Int32) else 0) : Int32) = (if (¬ ((zf h 23 0) ≤ p1)) then (1 : Int32) else 0) from zb_nand_f hc] at K37
    refine zg_blk zd_138 4 hs (rfl : zb x zT0 zc_138 4 (4, [some (.ref 0), some (.int p1)], [], h) = some (12, [some (.ref 0), some (.int p1)], [.int (zf h 23 0), .int p1], h)) (fun hs => ?_)
    refine zg_i_ge zd_138 rfl (fun (hc : ((zf h 23 0) ≤ p1)) => ?_) (fun (hc : ¬ ((zf h 23 0) ≤ p1)) => ?_)
    · skip
      rw [show ((if (¬ ((zf h 23 0) ≤ p1)) then (1 : Int32) else 0) : Int32) = 0 from zb_not_t hc] at K37
      refine zg_blk zd_138 1 hs (rfl : zb x zT0 zc_138 1 (19, [some (.ref 0), some (.int p1)], [], h) = some (20, [some (.ref 0), some (.int p1)], [.int 0], h)) (fun hs => ?_)
      exact K37 hs
    · skip
      rw [show ((if (¬ ((zf h 23 0) ≤ p1)) then (1 : Int32) else 0) : Int32) = 1 from zb_not_f hc] at K37
      refine zg_blk zd_138 2 hs (rfl : zb x zT0 zc_138 2 (15, [some (.ref 0), some (.int p1)], [], h) = some (20, [some (.ref 0), some (.int p1)], [.int 1], h)) (fun hs => ?_)
      exact K37 hs
theorem zd_139 : zm_cd 139 = zc_139 := by rfl
set_option maxRecDepth 100000 in
set_option maxHeartbeats 400000 in
theorem f_N_isPlace_t {x : zm_X} {d : Nat} (p0 : Int32) (h : zm_H) {Q : Option Value → zm_H → Prop} (hs : zSh zT0 h) (ho : f_N_isPlace_ok p0 h) (hF : Q (some (.int (f_N_isPlace p0 h))) h) : zg x (d + 1) 139 0 [some (.int p0)] [] h Q := by
  unfold f_N_isPlace at hF
  unfold f_N_isPlace_ok at ho
  refine zg_blk zd_139 1 hs (rfl : zb x zT0 zc_139 1 (0, [some (.int p0)], [], h) = some (1, [some (.int p0)], [.int p0], h)) (fun hs => ?_)
  have K38 : zSh zT0 h → zg x (d + 1) 139 23 [some (.int p0)] [.int (if (¬ (p0 < 0) ∧ (¬ (100 ≤ p0) ∧ (¬ (5 ≤ (zm_rm p0 10))))) then (1 : Int32) else 0)] h Q := fun hs => by
    exact zg_rtz zd_139 rfl rfl zm_nb01 hF
  refine zg_f_lt zd_139 rfl (fun (hc : (p0 < 0)) => ?_) (fun (hc : ¬ (p0 < 0)) => ?_)
  · skip
    rw [show ((if (¬ (p0 < 0) ∧ (¬ (100 ≤ p0) ∧ (¬ (5 ≤ (zm_rm p0 10))))) then (1 : Int32) else 0) : Int32) = 0 from zb_nand_t hc] at K38
    refine zg_blk zd_139 1 hs (rfl : zb x zT0 zc_139 1 (22, [some (.int p0)], [], h) = some (23, [some (.int p0)], [.int 0], h)) (fun hs => ?_)
    exact K38 hs
  · skip
    rw [show ((if (¬ (p0 < 0) ∧ (¬ (100 ≤ p0) ∧ (¬ (5 ≤ (zm_rm p0 10))))) then (1 : Int32) else 0) : Int32) = (if (¬ (100 ≤ p0) ∧ (¬ (5 ≤ (zm_rm p0 10)))) then (1 : Int32) else 0) from zb_nand_f hc] at K38
    refine zg_blk zd_139 2 hs (rfl : zb x zT0 zc_139 2 (4, [some (.int p0)], [], h) = some (7, [some (.int p0)], [.int 100, .int p0], h)) (fun hs => ?_)
    refine zg_i_ge zd_139 rfl (fun (hc : (100 ≤ p0)) => ?_) (fun (hc : ¬ (100 ≤ p0)) => ?_)
    · skip
      rw [show ((if (¬ (100 ≤ p0) ∧ (¬ (5 ≤ (zm_rm p0 10)))) then (1 : Int32) else 0) : Int32) = 0 from zb_nand_t hc] at K38
      refine zg_blk zd_139 1 hs (rfl : zb x zT0 zc_139 1 (22, [some (.int p0)], [], h) = some (23, [some (.int p0)], [.int 0], h)) (fun hs => ?_)
      exact K38 hs
    · skip
      rw [show ((if (¬ (100 ≤ p0) ∧ (¬ (5 ≤ (zm_rm p0 10)))) then (1 : Int32) else 0) : Int32) = (if (¬ (5 ≤ (zm_rm p0 10))) then (1 : Int32) else 0) from zb_nand_f hc] at K38
      refine zg_blk zd_139 4 hs (rfl : zb x zT0 zc_139 4 (10, [some (.int p0)], [], h) = some (15, [some (.int p0)], [.int 5, .int (zm_rm p0 10)], h)) (fun hs => ?_)
      refine zg_i_ge zd_139 rfl (fun (hc : (5 ≤ (zm_rm p0 10))) => ?_) (fun (hc : ¬ (5 ≤ (zm_rm p0 10))) => ?_)
      · skip
        rw [show ((if (¬ (5 ≤ (zm_rm p0 10))) then (1 : Int32) else 0) : Int32) = 0 from zb_not_t hc] at K38
        refine zg_blk zd_139 1 hs (rfl : zb x zT0 zc_139 1 (22, [some (.int p0)], [], h) = some (23, [some (.int p0)], [.int 0], h)) (fun hs => ?_)
        exact K38 hs
      · skip
        rw [show ((if (¬ (5 ≤ (zm_rm p0 10))) then (1 : Int32) else 0) : Int32) = 1 from zb_not_f hc] at K38
        refine zg_blk zd_139 2 hs (rfl : zb x zT0 zc_139 2 (18, [some (.int p0)], [], h) = some (23, [some (.int p0)], [.int 1], h)) (fun hs => ?_)
        exact K38 hs
theorem zd_140 : zm_cd 140 = zc_140 := by rfl
set_option maxRecDepth 100000 in
set_option maxHeartbeats 400000 in
theorem f_N_isStrength_t {x : zm_X} {d : Nat} (p0 : Int32) (h : zm_H) {Q : Option Value → zm_H → Prop} (hs : zSh zT0 h) (ho : f_N_isStrength_ok p0 h) (hF : Q (some (.int (f_N_isStrength p0 h))) h) : zg x (d + 1) 140 0 [some (.int p0)] [] h Q := by
  unfold f_N_isStrength at hF
  unfold f_N_isStrength_ok at ho
  refine zg_blk zd_140 2 hs (rfl : zb x zT0 zc_140 2 (0, [some (.int p0)], [], h) = some (3, [some (.int p0)], [.int 10, .int p0], h)) (fun hs => ?_)
  have K39 : zSh zT0 h → zg x (d + 1) 140 18 [some (.int p0)] [.int (if (¬ (p0 < 10) ∧ (¬ (5000 < p0))) then (1 : Int32) else 0)] h Q := fun hs => by
    exact zg_rtz zd_140 rfl rfl zm_nb01 hF
  refine zg_i_lt zd_140 rfl (fun (hc : (p0 < 10)) => ?_) (fun (hc : ¬ (p0 < 10)) => ?_)
  · skip
    rw [show ((if (¬ (p0 < 10) ∧ (¬ (5000 < p0))) then (1 : Int32) else 0) : Int32) = 0 from zb_nand_t hc] at K39
    refine zg_blk zd_140 1 hs (rfl : zb x zT0 zc_140 1 (17, [some (.int p0)], [], h) = some (18, [some (.int p0)], [.int 0], h)) (fun hs => ?_)
    exact K39 hs
  · skip
    rw [show ((if (¬ (p0 < 10) ∧ (¬ (5000 < p0))) then (1 : Int32) else 0) : Int32) = (if (¬ (5000 < p0)) then (1 : Int32) else 0) from zb_nand_f hc] at K39
    refine zg_blk zd_140 2 hs (rfl : zb x zT0 zc_140 2 (6, [some (.int p0)], [], h) = some (10, [some (.int p0)], [.int 5000, .int p0], h)) (fun hs => ?_)
    refine zg_i_gt zd_140 rfl (fun (hc : (5000 < p0)) => ?_) (fun (hc : ¬ (5000 < p0)) => ?_)
    · skip
      rw [show ((if (¬ (5000 < p0)) then (1 : Int32) else 0) : Int32) = 0 from zb_not_t hc] at K39
      refine zg_blk zd_140 1 hs (rfl : zb x zT0 zc_140 1 (17, [some (.int p0)], [], h) = some (18, [some (.int p0)], [.int 0], h)) (fun hs => ?_)
      exact K39 hs
    · skip
      rw [show ((if (¬ (5000 < p0)) then (1 : Int32) else 0) : Int32) = 1 from zb_not_f hc] at K39
      refine zg_blk zd_140 2 hs (rfl : zb x zT0 zc_140 2 (13, [some (.int p0)], [], h) = some (18, [some (.int p0)], [.int 1], h)) (fun hs => ?_)
      exact K39 hs
theorem zd_55 : zm_cd 55 = zc_55 := by rfl
set_option maxRecDepth 100000 in
set_option maxHeartbeats 400000 in
theorem f_Log_hasRoomForThing_t {x : zm_X} {d : Nat} (h : zm_H) {Q : Option Value → zm_H → Prop} (hs : zSh zT0 h) (ho : f_Log_hasRoomForThing_ok h) (hF : Q (some (.int (f_Log_hasRoomForThing h))) h) : zg x (d + 1) 55 0 [some (.ref 23)] [] h Q := by
  unfold f_Log_hasRoomForThing at hF
  unfold f_Log_hasRoomForThing_ok at ho
  refine zg_blk zd_55 3 hs (rfl : zb x zT0 zc_55 3 (0, [some (.ref 23)], [], h) = some (7, [some (.ref 23)], [.int 200, .int (zf h 23 4)], h)) (fun hs => ?_)
  have K40 : zSh zT0 h → zg x (d + 1) 55 15 [some (.ref 23)] [.int (if (¬ (200 ≤ (zf h 23 4))) then (1 : Int32) else 0)] h Q := fun hs => by
    exact zg_rtz zd_55 rfl rfl zm_nb01 hF
  refine zg_i_ge zd_55 rfl (fun (hc : (200 ≤ (zf h 23 4))) => ?_) (fun (hc : ¬ (200 ≤ (zf h 23 4))) => ?_)
  · skip
    rw [show ((if (¬ (200 ≤ (zf h 23 4))) then (1 : Int32) else 0) : Int32) = 0 from zb_not_t hc] at K40
    refine zg_blk zd_55 1 hs (rfl : zb x zT0 zc_55 1 (14, [some (.ref 23)], [], h) = some (15, [some (.ref 23)], [.int 0], h)) (fun hs => ?_)
    exact K40 hs
  · skip
    rw [show ((if (¬ (200 ≤ (zf h 23 4))) then (1 : Int32) else 0) : Int32) = 1 from zb_not_f hc] at K40
    refine zg_blk zd_55 2 hs (rfl : zb x zT0 zc_55 2 (10, [some (.ref 23)], [], h) = some (15, [some (.ref 23)], [.int 1], h)) (fun hs => ?_)
    exact K40 hs
theorem zd_5 : zm_cd 5 = zc_5 := by rfl
theorem zd_7 : zm_cd 7 = zc_7 := by rfl
set_option maxRecDepth 100000 in
set_option maxHeartbeats 400000 in
theorem f_Course_isReady_37_t {x : zm_X} {d : Nat} (p1 : Int32) (h : zm_H) {Q : Option Value → zm_H → Prop} (hs : zSh zT0 h) (ho : f_Course_isReady_37_ok p1 h) (hF : Q (some (.int (f_Course_isReady_37 p1 h))) h) : zg x (d + 1) 7 0 [some (.ref 37), some (.int p1)] [] h Q := by
  unfold f_Course_isReady_37 at hF
  unfold f_Course_isReady_37_ok at ho
  refine zg_blk zd_7 3 hs (rfl : zb x zT0 zc_7 3 (0, [some (.ref 37), some (.int p1)], [], h) = some (5, [some (.ref 37), some (.int p1)], [.int p1, .ref 38], h)) (fun hs => ?_)
  obtain ⟨hob, ho⟩ := ho
  refine zg_ial hs zd_7 rfl rfl hob ?_
  refine zg_blk zd_7 1 hs (rfl : zb x zT0 zc_7 1 (6, [some (.ref 37), some (.int p1)], [.int (zr h 38 p1)], h) = some (7, [some (.ref 37), some (.int p1)], [.int 1, .int (zr h 38 p1)], h)) (fun hs => ?_)
  have hom := ho
  have K41 : zSh zT0 h → zg x (d + 1) 7 25 [some (.ref 37), some (.int p1)] [.int (if (((zr h 38 p1) = 1) ∨ ((zr h 38 p1) = 2)) then (1 : Int32) else 0)] h Q := fun hs => by
    exact zg_rtz zd_7 rfl rfl zm_nb01 hF
  refine zg_i_eq zd_7 rfl (fun (hc : ((zr h 38 p1) = 1)) => ?_) (fun (hc : ¬ ((zr h 38 p1) = 1)) => ?_)
  · have ho := hom.1 hc
    rw [show ((if (((zr h 38 p1) = 1) ∨ ((zr h 38 p1) = 2)) then (1 : Int32) else 0) : Int32) = 1 from zb_or_t hc] at K41
    refine zg_blk zd_7 2 hs (rfl : zb x zT0 zc_7 2 (20, [some (.ref 37), some (.int p1)], [], h) = some (25, [some (.ref 37), some (.int p1)], [.int 1], h)) (fun hs => ?_)
    exact K41 hs
  · have ho := hom.2 hc
    rw [show ((if (((zr h 38 p1) = 1) ∨ ((zr h 38 p1) = 2)) then (1 : Int32) else 0) : Int32) = (if ((zr h 38 p1) = 2) then (1 : Int32) else 0) from zb_or_f hc] at K41
    refine zg_blk zd_7 3 hs (rfl : zb x zT0 zc_7 3 (10, [some (.ref 37), some (.int p1)], [], h) = some (15, [some (.ref 37), some (.int p1)], [.int p1, .ref 38], h)) (fun hs => ?_)
    have hob := ho
    refine zg_ial hs zd_7 rfl rfl hob ?_
    refine zg_blk zd_7 1 hs (rfl : zb x zT0 zc_7 1 (16, [some (.ref 37), some (.int p1)], [.int (zr h 38 p1)], h) = some (17, [some (.ref 37), some (.int p1)], [.int 2, .int (zr h 38 p1)], h)) (fun hs => ?_)
    refine zg_i_ne zd_7 rfl (fun (hc : ¬ ((zr h 38 p1) = 2)) => ?_) (fun (hc : ((zr h 38 p1) = 2)) => ?_)
    · skip
      rw [show ((if ((zr h 38 p1) = 2) then (1 : Int32) else 0) : Int32) = 0 from if_neg hc] at K41
      refine zg_blk zd_7 1 hs (rfl : zb x zT0 zc_7 1 (24, [some (.ref 37), some (.int p1)], [], h) = some (25, [some (.ref 37), some (.int p1)], [.int 0], h)) (fun hs => ?_)
      exact K41 hs
    · skip
      rw [show ((if ((zr h 38 p1) = 2) then (1 : Int32) else 0) : Int32) = 1 from if_pos hc] at K41
      refine zg_blk zd_7 2 hs (rfl : zb x zT0 zc_7 2 (20, [some (.ref 37), some (.int p1)], [], h) = some (25, [some (.ref 37), some (.int p1)], [.int 1], h)) (fun hs => ?_)
      exact K41 hs
theorem zd_6 : zm_cd 6 = zc_6 := by rfl
set_option maxRecDepth 100000 in
set_option maxHeartbeats 400000 in
theorem f_Course_isFree_37_l2_b_t {x : zm_X} {d : Nat} (v1 : Int32) (v2 : Int32) (h : zm_H) {Q : Option Value → zm_H → Prop} {FN : Nat × Int32 → Prop} (hs : zSh zT0 h) (ho : f_Course_isFree_37_l2_b_ok v1 v2 h) (hF : FN (f_Course_isFree_37_l2_b v1 v2 h)) (hl0 : ∀ (v2 : Int32), zSh zT0 h → FN (0, v2) → zg x (d + 1) 6 2 [some (.ref 37), some (.int v1), some (.int v2)] [] h Q) (hl1 : ∀ (v2 : Int32) (o2 : Option Value), zSh zT0 h → FN (1, v2) → zg x (d + 1) 6 18 [some (.ref 37), some (.int v1), o2] [] h Q) (hl2 : ∀ (v2 : Int32) (o2 : Option Value), zSh zT0 h → FN (2, v2) → zg x (d + 1) 6 26 [some (.ref 37), some (.int v1), o2] [] h Q) : zg x (d + 1) 6 2 [some (.ref 37), some (.int v1), some (.int v2)] [] h Q := by
  unfold f_Course_isFree_37_l2_b at hF
  unfold f_Course_isFree_37_l2_b_ok at ho
  refine zg_blk zd_6 2 hs (rfl : zb x zT0 zc_6 2 (2, [some (.ref 37), some (.int v1), some (.int v2)], [], h) = some (5, [some (.ref 37), some (.int v1), some (.int v2)], [.int 10, .int v2], h)) (fun hs => ?_)
  refine zg_i_ge zd_6 rfl (fun (hc : (10 ≤ v2)) => ?_) (fun (hc : ¬ (10 ≤ v2)) => ?_)
  · have ho := ho.1 hc
    rw [if_pos hc] at hF
    exact hl2 v2 (some (.int v2)) hs hF
  · have ho := ho.2 hc
    rw [if_neg hc] at hF
    refine zg_blk zd_6 3 hs (rfl : zb x zT0 zc_6 3 (8, [some (.ref 37), some (.int v1), some (.int v2)], [], h) = some (13, [some (.ref 37), some (.int v1), some (.int v2)], [.int v2, .ref 39], h)) (fun hs => ?_)
    have hob := ho
    refine zg_ial hs zd_6 rfl rfl hob ?_
    refine zg_blk zd_6 1 hs (rfl : zb x zT0 zc_6 1 (14, [some (.ref 37), some (.int v1), some (.int v2)], [.int (zr h 39 v2)], h) = some (15, [some (.ref 37), some (.int v1), some (.int v2)], [.int v1, .int (zr h 39 v2)], h)) (fun hs => ?_)
    refine zg_i_ne zd_6 rfl (fun (hc : ¬ ((zr h 39 v2) = v1)) => ?_) (fun (hc : ((zr h 39 v2) = v1)) => ?_)
    · skip
      rw [if_neg hc] at hF
      refine zg_blk zd_6 2 hs (rfl : zb x zT0 zc_6 2 (20, [some (.ref 37), some (.int v1), some (.int v2)], [], h) = some (2, [some (.ref 37), some (.int v1), some (.int (v2 + 1))], [], h)) (fun hs => ?_)
      exact hl0 (v2 + 1) hs hF
    · skip
      rw [if_pos hc] at hF
      exact hl1 v2 (some (.int v2)) hs hF
theorem f_Course_isFree_37_l2_t {x : zm_X} {d : Nat} (v1 : Int32) (h : zm_H) {Q : Option Value → zm_H → Prop} (G : Nat × Int32 → Prop) (hx1 : ∀ (v2 : Int32) (o2 : Option Value), zSh zT0 h → G (1, v2) → zg x (d + 1) 6 18 [some (.ref 37), some (.int v1), o2] [] h Q) (hx2 : ∀ (v2 : Int32) (o2 : Option Value), zSh zT0 h → G (2, v2) → zg x (d + 1) 6 26 [some (.ref 37), some (.int v1), o2] [] h Q) : ∀ (n : Nat) (v2 : Int32), zSh zT0 h → f_Course_isFree_37_l2_ok v1 h n v2 → G (f_Course_isFree_37_l2 v1 h n v2) → zg x (d + 1) 6 2 [some (.ref 37), some (.int v1), some (.int v2)] [] h Q := by
  intro n
  induction n with
  | zero => intro v2 hs ho hG; exact ho.elim
  | succ n ih =>
    intro v2 hs ho hG
    refine f_Course_isFree_37_l2_b_t (FN := fun r => (r.1 = 0 → f_Course_isFree_37_l2_ok v1 h n r.2) ∧ G (if r.1 = 0 then f_Course_isFree_37_l2 v1 h n r.2 else r)) v1 v2 h hs ho.1 ⟨ho.2, hG⟩ ?_ ?_ ?_
    · intro v2 hs hF
      exact ih v2 hs (hF.1 rfl) hF.2
    · intro v2 o2 hs hF
      exact hx1 v2 o2 hs hF.2
    · intro v2 o2 hs hF
      exact hx2 v2 o2 hs hF.2

set_option maxRecDepth 100000 in
set_option maxHeartbeats 400000 in
theorem f_Course_isFree_37_k18_t {x : zm_X} {d : Nat} (h : zm_H) (o0 : Option Value) (z1 : Int32) (o2 : Option Value) {Q : Option Value → zm_H → Prop} (hs : zSh zT0 h) (ho : f_Course_isFree_37_k18_ok h) (hF : Q (some (.int (f_Course_isFree_37_k18 h))) h) : zg x (d + 1) 6 18 [o0, some (.int z1), o2] [] h Q := by
  unfold f_Course_isFree_37_k18 at hF
  unfold f_Course_isFree_37_k18_ok at ho
  refine zg_blk zd_6 1 hs (rfl : zb x zT0 zc_6 1 (18, [o0, some (.int z1), o2], [], h) = some (19, [o0, some (.int z1), o2], [.int 0], h)) (fun hs => ?_)
  exact zg_rtz zd_6 rfl rfl rfl hF
set_option maxRecDepth 100000 in
set_option maxHeartbeats 400000 in
theorem f_Course_isFree_37_k26_t {x : zm_X} {d : Nat} (h : zm_H) (o0 : Option Value) (z1 : Int32) (o2 : Option Value) {Q : Option Value → zm_H → Prop} (hs : zSh zT0 h) (ho : f_Course_isFree_37_k26_ok h) (hF : Q (some (.int (f_Course_isFree_37_k26 h))) h) : zg x (d + 1) 6 26 [o0, some (.int z1), o2] [] h Q := by
  unfold f_Course_isFree_37_k26 at hF
  unfold f_Course_isFree_37_k26_ok at ho
  refine zg_blk zd_6 1 hs (rfl : zb x zT0 zc_6 1 (26, [o0, some (.int z1), o2], [], h) = some (27, [o0, some (.int z1), o2], [.int 1], h)) (fun hs => ?_)
  exact zg_rtz zd_6 rfl rfl rfl hF
set_option maxRecDepth 100000 in
set_option maxHeartbeats 400000 in
theorem f_Course_isFree_37_t {x : zm_X} {d : Nat} (p1 : Int32) (h : zm_H) {Q : Option Value → zm_H → Prop} (hs : zSh zT0 h) (ho : f_Course_isFree_37_ok p1 h) (hF : Q (some (.int (f_Course_isFree_37 p1 h))) h) : zg x (d + 1) 6 0 [some (.ref 37), some (.int p1), none] [] h Q := by
  unfold f_Course_isFree_37 at hF
  unfold f_Course_isFree_37_ok at ho
  refine zg_blk zd_6 2 hs (rfl : zb x zT0 zc_6 2 (0, [some (.ref 37), some (.int p1), none], [], h) = some (2, [some (.ref 37), some (.int p1), some (.int 0)], [], h)) (fun hs => ?_)
  refine f_Course_isFree_37_l2_t p1 h (fun r => f_Course_isFree_37_a2_ok r h ∧ Q (some (.int (f_Course_isFree_37_a2 r h))) h) ?_ ?_ zF 0 hs ho.1 ⟨ho.2, hF⟩
  · intro v2_ o2_ hs hG
    have ho : True := trivial
    have hF : Q (some (.int ((f_Course_isFree_37_k18 h)))) h := hG.2
    exact f_Course_isFree_37_k18_t h (some (.ref 37)) p1 (o2_) hs trivial hF
  · intro v2_ o2_ hs hG
    have ho : True := trivial
    have hF : Q (some (.int ((f_Course_isFree_37_k26 h)))) h := hG.2
    exact f_Course_isFree_37_k26_t h (some (.ref 37)) p1 (o2_) hs trivial hF
set_option maxRecDepth 100000 in
set_option maxHeartbeats 400000 in
theorem f_Course_isDoable_37_t {x : zm_X} {d : Nat} (p1 : Int32) (p2 : Int32) (p3 : Int32) (h : zm_H) {Q : Option Value → zm_H → Prop} (hs : zSh zT0 h) (ho : f_Course_isDoable_37_ok p1 p2 p3 h) (hF : Q (some (.int (f_Course_isDoable_37 p1 p2 p3 h))) h) : zg x (d + 2) 5 0 [some (.ref 37), some (.int p1), some (.int p2), some (.int p3)] [] h Q := by
  unfold f_Course_isDoable_37 at hF
  unfold f_Course_isDoable_37_ok at ho
  refine zg_blk zd_5 2 hs (rfl : zb x zT0 zc_5 2 (0, [some (.ref 37), some (.int p1), some (.int p2), some (.int p3)], [], h) = some (2, [some (.ref 37), some (.int p1), some (.int p2), some (.int p3)], [.int 5, .int p1], h)) (fun hs => ?_)
  refine zg_i_ne zd_5 rfl (fun (hc : ¬ (p1 = 5)) => ?_) (fun (hc : (p1 = 5)) => ?_)
  · have ho := ho.2 hc
    rw [show ((if (p1 = 5) then ((if (((zr h 38 p2) = 0) ∧ (¬ ((f_Course_isFree_37 p3 h) = 0))) then (1 : Int32) else 0) : Int32) else (if (p1 = 4) then ((if (¬ ((zr h 38 p2) = 0)) then (1 : Int32) else 0) : Int32) else (f_Course_isReady_37 p2 h))) : Int32) = (if (p1 = 4) then ((if (¬ ((zr h 38 p2) = 0)) then (1 : Int32) else 0) : Int32) else (f_Course_isReady_37 p2 h)) from if_neg hc] at hF
    refine zg_blk zd_5 2 hs (rfl : zb x zT0 zc_5 2 (28, [some (.ref 37), some (.int p1), some (.int p2), some (.int p3)], [], h) = some (30, [some (.ref 37), some (.int p1), some (.int p2), some (.int p3)], [.int 4, .int p1], h)) (fun hs => ?_)
    obtain ⟨hom, ho⟩ := ho
    have K42 : zSh zT0 h → zg x (d + 2) 5 55 [some (.ref 37), some (.int p1), some (.int p2), some (.int p3)] [.int (if (p1 = 4) then ((if (¬ ((zr h 38 p2) = 0)) then (1 : Int32) else 0) : Int32) else (f_Course_isReady_37 p2 h))] h Q := fun hs => by
      exact zg_rtz zd_5 rfl rfl ho hF
    refine zg_i_ne zd_5 rfl (fun (hc : ¬ (p1 = 4)) => ?_) (fun (hc : (p1 = 4)) => ?_)
    · have ho := hom.2 hc
      rw [show ((if (p1 = 4) then ((if (¬ ((zr h 38 p2) = 0)) then (1 : Int32) else 0) : Int32) else (f_Course_isReady_37 p2 h)) : Int32) = (f_Course_isReady_37 p2 h) from if_neg hc] at K42
      refine zg_blk zd_5 2 hs (rfl : zb x zT0 zc_5 2 (50, [some (.ref 37), some (.int p1), some (.int p2), some (.int p3)], [], h) = some (52, [some (.ref 37), some (.int p1), some (.int p2), some (.int p3)], [.int p2, .ref 37], h)) (fun hs => ?_)
      have hob := ho
      refine zg_call hs zd_5 rfl rfl rfl rfl (as := [.ref 37, .int p2]) (rest := []) (en := [some (.ref 37), some (.int p2)]) rfl rfl rfl rfl rfl ?_
      refine f_Course_isReady_37_t p2 h hs hob ?_
      show zg x (d + 2) 5 55 [some (.ref 37), some (.int p1), some (.int p2), some (.int p3)] [.int (f_Course_isReady_37 p2 h)] h Q
      exact K42 hs
    · have ho := hom.1 hc
      rw [show ((if (p1 = 4) then ((if (¬ ((zr h 38 p2) = 0)) then (1 : Int32) else 0) : Int32) else (f_Course_isReady_37 p2 h)) : Int32) = (if (¬ ((zr h 38 p2) = 0)) then (1 : Int32) else 0) from if_pos hc] at K42
      refine zg_blk zd_5 3 hs (rfl : zb x zT0 zc_5 3 (33, [some (.ref 37), some (.int p1), some (.int p2), some (.int p3)], [], h) = some (38, [some (.ref 37), some (.int p1), some (.int p2), some (.int p3)], [.int p2, .ref 38], h)) (fun hs => ?_)
      have hob := ho
      refine zg_ial hs zd_5 rfl rfl hob ?_
      refine zg_f_eq zd_5 rfl (fun (hc : ((zr h 38 p2) = 0)) => ?_) (fun (hc : ¬ ((zr h 38 p2) = 0)) => ?_)
      · skip
        rw [show ((if (¬ ((zr h 38 p2) = 0)) then (1 : Int32) else 0) : Int32) = 0 from zb_not_t hc] at K42
        refine zg_blk zd_5 2 hs (rfl : zb x zT0 zc_5 2 (46, [some (.ref 37), some (.int p1), some (.int p2), some (.int p3)], [], h) = some (55, [some (.ref 37), some (.int p1), some (.int p2), some (.int p3)], [.int 0], h)) (fun hs => ?_)
        exact K42 hs
      · skip
        rw [show ((if (¬ ((zr h 38 p2) = 0)) then (1 : Int32) else 0) : Int32) = 1 from zb_not_f hc] at K42
        refine zg_blk zd_5 2 hs (rfl : zb x zT0 zc_5 2 (42, [some (.ref 37), some (.int p1), some (.int p2), some (.int p3)], [], h) = some (55, [some (.ref 37), some (.int p1), some (.int p2), some (.int p3)], [.int 1], h)) (fun hs => ?_)
        exact K42 hs
  · have ho := ho.1 hc
    rw [show ((if (p1 = 5) then ((if (((zr h 38 p2) = 0) ∧ (¬ ((f_Course_isFree_37 p3 h) = 0))) then (1 : Int32) else 0) : Int32) else (if (p1 = 4) then ((if (¬ ((zr h 38 p2) = 0)) then (1 : Int32) else 0) : Int32) else (f_Course_isReady_37 p2 h))) : Int32) = (if (((zr h 38 p2) = 0) ∧ (¬ ((f_Course_isFree_37 p3 h) = 0))) then (1 : Int32) else 0) from if_pos hc] at hF
    refine zg_blk zd_5 3 hs (rfl : zb x zT0 zc_5 3 (5, [some (.ref 37), some (.int p1), some (.int p2), some (.int p3)], [], h) = some (10, [some (.ref 37), some (.int p1), some (.int p2), some (.int p3)], [.int p2, .ref 38], h)) (fun hs => ?_)
    obtain ⟨hob, ho⟩ := ho
    refine zg_ial hs zd_5 rfl rfl hob ?_
    have hom := ho
    have K43 : zSh zT0 h → zg x (d + 2) 5 27 [some (.ref 37), some (.int p1), some (.int p2), some (.int p3)] [.int (if (((zr h 38 p2) = 0) ∧ (¬ ((f_Course_isFree_37 p3 h) = 0))) then (1 : Int32) else 0)] h Q := fun hs => by
      exact zg_rtz zd_5 rfl rfl zm_nb01 hF
    refine zg_f_ne zd_5 rfl (fun (hc : ¬ ((zr h 38 p2) = 0)) => ?_) (fun (hc : ((zr h 38 p2) = 0)) => ?_)
    · have ho := hom.2 hc
      rw [show ((if (((zr h 38 p2) = 0) ∧ (¬ ((f_Course_isFree_37 p3 h) = 0))) then (1 : Int32) else 0) : Int32) = 0 from zb_and_f hc] at K43
      refine zg_blk zd_5 1 hs (rfl : zb x zT0 zc_5 1 (26, [some (.ref 37), some (.int p1), some (.int p2), some (.int p3)], [], h) = some (27, [some (.ref 37), some (.int p1), some (.int p2), some (.int p3)], [.int 0], h)) (fun hs => ?_)
      exact K43 hs
    · have ho := hom.1 hc
      rw [show ((if (((zr h 38 p2) = 0) ∧ (¬ ((f_Course_isFree_37 p3 h) = 0))) then (1 : Int32) else 0) : Int32) = (if (¬ ((f_Course_isFree_37 p3 h) = 0)) then (1 : Int32) else 0) from zb_and_t hc] at K43
      refine zg_blk zd_5 2 hs (rfl : zb x zT0 zc_5 2 (14, [some (.ref 37), some (.int p1), some (.int p2), some (.int p3)], [], h) = some (16, [some (.ref 37), some (.int p1), some (.int p2), some (.int p3)], [.int p3, .ref 37], h)) (fun hs => ?_)
      have hob := ho
      refine zg_call hs zd_5 rfl rfl rfl rfl (as := [.ref 37, .int p3]) (rest := []) (en := [some (.ref 37), some (.int p3), none]) rfl rfl rfl rfl rfl ?_
      refine f_Course_isFree_37_t p3 h hs hob ?_
      show zg x (d + 2) 5 19 [some (.ref 37), some (.int p1), some (.int p2), some (.int p3)] [.int (f_Course_isFree_37 p3 h)] h Q
      refine zg_f_eq zd_5 rfl (fun (hc : ((f_Course_isFree_37 p3 h) = 0)) => ?_) (fun (hc : ¬ ((f_Course_isFree_37 p3 h) = 0)) => ?_)
      · skip
        rw [show ((if (¬ ((f_Course_isFree_37 p3 h) = 0)) then (1 : Int32) else 0) : Int32) = 0 from zb_not_t hc] at K43
        refine zg_blk zd_5 1 hs (rfl : zb x zT0 zc_5 1 (26, [some (.ref 37), some (.int p1), some (.int p2), some (.int p3)], [], h) = some (27, [some (.ref 37), some (.int p1), some (.int p2), some (.int p3)], [.int 0], h)) (fun hs => ?_)
        exact K43 hs
      · skip
        rw [show ((if (¬ ((f_Course_isFree_37 p3 h) = 0)) then (1 : Int32) else 0) : Int32) = 1 from zb_not_f hc] at K43
        refine zg_blk zd_5 2 hs (rfl : zb x zT0 zc_5 2 (22, [some (.ref 37), some (.int p1), some (.int p2), some (.int p3)], [], h) = some (27, [some (.ref 37), some (.int p1), some (.int p2), some (.int p3)], [.int 1], h)) (fun hs => ?_)
        exact K43 hs
theorem zd_34 : zm_cd 34 = zc_34 := by rfl
set_option maxRecDepth 100000 in
set_option maxHeartbeats 400000 in
theorem f_Ground_isShut_l2_k42_t {x : zm_X} {d : Nat} (v1 : Int32) (v2 : Int32) (v3 : Int32) (h : zm_H) {Q : Option Value → zm_H → Prop} {FN : Nat × Int32 → Prop} (hs : zSh zT0 h) (ho : f_Ground_isShut_l2_k42_ok v1 v2 v3 h) (hF : FN (f_Ground_isShut_l2_k42 v1 v2 v3 h)) (hl0 : ∀ (v3 : Int32), zSh zT0 h → FN (0, v3) → zg x (d + 1) 34 2 [some (.ref 82), some (.int v1), some (.int v2), some (.int v3)] [] h Q) (hl1 : ∀ (v3 : Int32) (o3 : Option Value), zSh zT0 h → FN (1, v3) → zg x (d + 1) 34 40 [some (.ref 82), some (.int v1), some (.int v2), o3] [] h Q) (hl2 : ∀ (v3 : Int32) (o3 : Option Value), zSh zT0 h → FN (2, v3) → zg x (d + 1) 34 48 [some (.ref 82), some (.int v1), some (.int v2), o3] [] h Q) : zg x (d + 1) 34 42 [some (.ref 82), some (.int v1), some (.int v2), some (.int v3)] [] h Q := by
  unfold f_Ground_isShut_l2_k42 at hF
  unfold f_Ground_isShut_l2_k42_ok at ho
  refine zg_blk zd_34 2 hs (rfl : zb x zT0 zc_34 2 (42, [some (.ref 82), some (.int v1), some (.int v2), some (.int v3)], [], h) = some (2, [some (.ref 82), some (.int v1), some (.int v2), some (.int (v3 + 1))], [], h)) (fun hs => ?_)
  exact hl0 (v3 + 1) hs hF
set_option maxRecDepth 100000 in
set_option maxHeartbeats 400000 in
theorem f_Ground_isShut_l2_b_t {x : zm_X} {d : Nat} (v1 : Int32) (v2 : Int32) (v3 : Int32) (h : zm_H) {Q : Option Value → zm_H → Prop} {FN : Nat × Int32 → Prop} (hs : zSh zT0 h) (ho : f_Ground_isShut_l2_b_ok v1 v2 v3 h) (hF : FN (f_Ground_isShut_l2_b v1 v2 v3 h)) (hl0 : ∀ (v3 : Int32), zSh zT0 h → FN (0, v3) → zg x (d + 1) 34 2 [some (.ref 82), some (.int v1), some (.int v2), some (.int v3)] [] h Q) (hl1 : ∀ (v3 : Int32) (o3 : Option Value), zSh zT0 h → FN (1, v3) → zg x (d + 1) 34 40 [some (.ref 82), some (.int v1), some (.int v2), o3] [] h Q) (hl2 : ∀ (v3 : Int32) (o3 : Option Value), zSh zT0 h → FN (2, v3) → zg x (d + 1) 34 48 [some (.ref 82), some (.int v1), some (.int v2), o3] [] h Q) : zg x (d + 1) 34 2 [some (.ref 82), some (.int v1), some (.int v2), some (.int v3)] [] h Q := by
  unfold f_Ground_isShut_l2_b at hF
  unfold f_Ground_isShut_l2_b_ok at ho
  refine zg_blk zd_34 3 hs (rfl : zb x zT0 zc_34 3 (2, [some (.ref 82), some (.int v1), some (.int v2), some (.int v3)], [], h) = some (7, [some (.ref 82), some (.int v1), some (.int v2), some (.int v3)], [.int (zf h 82 3), .int v3], h)) (fun hs => ?_)
  refine zg_i_ge zd_34 rfl (fun (hc : ((zf h 82 3) ≤ v3)) => ?_) (fun (hc : ¬ ((zf h 82 3) ≤ v3)) => ?_)
  · have ho := ho.1 hc
    rw [if_pos hc] at hF
    exact hl2 v3 (some (.int v3)) hs hF
  · have ho := ho.2 hc
    rw [if_neg hc] at hF
    refine zg_blk zd_34 3 hs (rfl : zb x zT0 zc_34 3 (10, [some (.ref 82), some (.int v1), some (.int v2), some (.int v3)], [], h) = some (15, [some (.ref 82), some (.int v1), some (.int v2), some (.int v3)], [.int v3, .ref 83], h)) (fun hs => ?_)
    obtain ⟨hob, ho⟩ := ho
    refine zg_ial hs zd_34 rfl rfl hob ?_
    refine zg_blk zd_34 1 hs (rfl : zb x zT0 zc_34 1 (16, [some (.ref 82), some (.int v1), some (.int v2), some (.int v3)], [.int (zr h 83 v3)], h) = some (17, [some (.ref 82), some (.int v1), some (.int v2), some (.int v3)], [.int v1, .int (zr h 83 v3)], h)) (fun hs => ?_)
    refine zg_i_ne zd_34 rfl (fun (hc : ¬ ((zr h 83 v3) = v1)) => ?_) (fun (hc : ((zr h 83 v3) = v1)) => ?_)
    · have ho := ho.2 hc
      rw [if_neg hc] at hF
      exact f_Ground_isShut_l2_k42_t v1 v2 v3 h hs trivial hF hl0 hl1 hl2
    · have ho := ho.1 hc
      rw [if_pos hc] at hF
      refine zg_blk zd_34 3 hs (rfl : zb x zT0 zc_34 3 (20, [some (.ref 82), some (.int v1), some (.int v2), some (.int v3)], [], h) = some (25, [some (.ref 82), some (.int v1), some (.int v2), some (.int v3)], [.int v3, .ref 84], h)) (fun hs => ?_)
      obtain ⟨hob, ho⟩ := ho
      refine zg_ial hs zd_34 rfl rfl hob ?_
      refine zg_blk zd_34 1 hs (rfl : zb x zT0 zc_34 1 (26, [some (.ref 82), some (.int v1), some (.int v2), some (.int v3)], [.int (zr h 84 v3)], h) = some (27, [some (.ref 82), some (.int v1), some (.int v2), some (.int v3)], [.int v2, .int (zr h 84 v3)], h)) (fun hs => ?_)
      refine zg_i_gt zd_34 rfl (fun (hc : (v2 < (zr h 84 v3))) => ?_) (fun (hc : ¬ (v2 < (zr h 84 v3))) => ?_)
      · have ho := ho.1 hc
        rw [if_pos hc] at hF
        exact f_Ground_isShut_l2_k42_t v1 v2 v3 h hs trivial hF hl0 hl1 hl2
      · have ho := ho.2 hc
        rw [if_neg hc] at hF
        refine zg_blk zd_34 4 hs (rfl : zb x zT0 zc_34 4 (30, [some (.ref 82), some (.int v1), some (.int v2), some (.int v3)], [], h) = some (36, [some (.ref 82), some (.int v1), some (.int v2), some (.int v3)], [.int v3, .ref 85, .int v2], h)) (fun hs => ?_)
        have hob := ho
        refine zg_ial hs zd_34 rfl rfl hob ?_
        refine zg_i_gt zd_34 rfl (fun (hc : ((zr h 85 v3) < v2)) => ?_) (fun (hc : ¬ ((zr h 85 v3) < v2)) => ?_)
        · skip
          rw [if_pos hc] at hF
          exact f_Ground_isShut_l2_k42_t v1 v2 v3 h hs trivial hF hl0 hl1 hl2
        · skip
          rw [if_neg hc] at hF
          exact hl1 v3 (some (.int v3)) hs hF
theorem f_Ground_isShut_l2_t {x : zm_X} {d : Nat} (v1 : Int32) (v2 : Int32) (h : zm_H) {Q : Option Value → zm_H → Prop} (G : Nat × Int32 → Prop) (hx1 : ∀ (v3 : Int32) (o3 : Option Value), zSh zT0 h → G (1, v3) → zg x (d + 1) 34 40 [some (.ref 82), some (.int v1), some (.int v2), o3] [] h Q) (hx2 : ∀ (v3 : Int32) (o3 : Option Value), zSh zT0 h → G (2, v3) → zg x (d + 1) 34 48 [some (.ref 82), some (.int v1), some (.int v2), o3] [] h Q) : ∀ (n : Nat) (v3 : Int32), zSh zT0 h → f_Ground_isShut_l2_ok v1 v2 h n v3 → G (f_Ground_isShut_l2 v1 v2 h n v3) → zg x (d + 1) 34 2 [some (.ref 82), some (.int v1), some (.int v2), some (.int v3)] [] h Q := by
  intro n
  induction n with
  | zero => intro v3 hs ho hG; exact ho.elim
  | succ n ih =>
    intro v3 hs ho hG
    refine f_Ground_isShut_l2_b_t (FN := fun r => (r.1 = 0 → f_Ground_isShut_l2_ok v1 v2 h n r.2) ∧ G (if r.1 = 0 then f_Ground_isShut_l2 v1 v2 h n r.2 else r)) v1 v2 v3 h hs ho.1 ⟨ho.2, hG⟩ ?_ ?_ ?_
    · intro v3 hs hF
      exact ih v3 hs (hF.1 rfl) hF.2
    · intro v3 o3 hs hF
      exact hx1 v3 o3 hs hF.2
    · intro v3 o3 hs hF
      exact hx2 v3 o3 hs hF.2

set_option maxRecDepth 100000 in
set_option maxHeartbeats 400000 in
theorem f_Ground_isShut_k40_t {x : zm_X} {d : Nat} (h : zm_H) (o0 : Option Value) (o1 : Option Value) (z2 : Int32) (o3 : Option Value) {Q : Option Value → zm_H → Prop} (hs : zSh zT0 h) (ho : f_Ground_isShut_k40_ok h) (hF : Q (some (.int (f_Ground_isShut_k40 h))) h) : zg x (d + 1) 34 40 [o0, o1, some (.int z2), o3] [] h Q := by
  unfold f_Ground_isShut_k40 at hF
  unfold f_Ground_isShut_k40_ok at ho
  refine zg_blk zd_34 1 hs (rfl : zb x zT0 zc_34 1 (40, [o0, o1, some (.int z2), o3], [], h) = some (41, [o0, o1, some (.int z2), o3], [.int 1], h)) (fun hs => ?_)
  exact zg_rtz zd_34 rfl rfl rfl hF
set_option maxRecDepth 100000 in
set_option maxHeartbeats 400000 in
theorem f_Ground_isShut_k48_t {x : zm_X} {d : Nat} (h : zm_H) (o0 : Option Value) (o1 : Option Value) (z2 : Int32) (o3 : Option Value) {Q : Option Value → zm_H → Prop} (hs : zSh zT0 h) (ho : f_Ground_isShut_k48_ok h) (hF : Q (some (.int (f_Ground_isShut_k48 h))) h) : zg x (d + 1) 34 48 [o0, o1, some (.int z2), o3] [] h Q := by
  unfold f_Ground_isShut_k48 at hF
  unfold f_Ground_isShut_k48_ok at ho
  refine zg_blk zd_34 1 hs (rfl : zb x zT0 zc_34 1 (48, [o0, o1, some (.int z2), o3], [], h) = some (49, [o0, o1, some (.int z2), o3], [.int 0], h)) (fun hs => ?_)
  exact zg_rtz zd_34 rfl rfl rfl hF
set_option maxRecDepth 100000 in
set_option maxHeartbeats 400000 in
theorem f_Ground_isShut_t {x : zm_X} {d : Nat} (p1 : Int32) (p2 : Int32) (h : zm_H) {Q : Option Value → zm_H → Prop} (hs : zSh zT0 h) (ho : f_Ground_isShut_ok p1 p2 h) (hF : Q (some (.int (f_Ground_isShut p1 p2 h))) h) : zg x (d + 1) 34 0 [some (.ref 82), some (.int p1), some (.int p2), none] [] h Q := by
  unfold f_Ground_isShut at hF
  unfold f_Ground_isShut_ok at ho
  refine zg_blk zd_34 2 hs (rfl : zb x zT0 zc_34 2 (0, [some (.ref 82), some (.int p1), some (.int p2), none], [], h) = some (2, [some (.ref 82), some (.int p1), some (.int p2), some (.int 0)], [], h)) (fun hs => ?_)
  refine f_Ground_isShut_l2_t p1 p2 h (fun r => f_Ground_isShut_a2_ok r h ∧ Q (some (.int (f_Ground_isShut_a2 r h))) h) ?_ ?_ zF 0 hs ho.1 ⟨ho.2, hF⟩
  · intro v3_ o3_ hs hG
    have ho : True := trivial
    have hF : Q (some (.int ((f_Ground_isShut_k40 h)))) h := hG.2
    exact f_Ground_isShut_k40_t h (some (.ref 82)) (some (.int p1)) p2 (o3_) hs trivial hF
  · intro v3_ o3_ hs hG
    have ho : True := trivial
    have hF : Q (some (.int ((f_Ground_isShut_k48 h)))) h := hG.2
    exact f_Ground_isShut_k48_t h (some (.ref 82)) (some (.int p1)) p2 (o3_) hs trivial hF
theorem zd_56 : zm_cd 56 = zc_56 := by rfl
set_option maxRecDepth 100000 in
set_option maxHeartbeats 400000 in
theorem f_Log_addThing_t {x : zm_X} {d : Nat} (p1 : Int32) (p2 : Int32) (p3 : Int32) (p4 : Int32) (p5 : Int32) (h : zm_H) {Q : Option Value → zm_H → Prop} (hs : zSh zT0 h) (ho : f_Log_addThing_ok p1 p2 p3 p4 p5 h) (hF : (zSh zT0 (f_Log_addThing p1 p2 p3 p4 p5 h) → Q none (f_Log_addThing p1 p2 p3 p4 p5 h))) : zg x (d + 1) 56 0 [some (.ref 23), some (.int p1), some (.int p2), some (.int p3), some (.int p4), some (.int p5)] [] h Q := by
  unfold f_Log_addThing at hF
  unfold f_Log_addThing_ok at ho
  refine zg_blk zd_56 3 hs (rfl : zb x zT0 zc_56 3 (0, [some (.ref 23), some (.int p1), some (.int p2), some (.int p3), some (.int p4), some (.int p5)], [], h) = some (7, [some (.ref 23), some (.int p1), some (.int p2), some (.int p3), some (.int p4), some (.int p5)], [.int 200, .int (zf h 23 4)], h)) (fun hs => ?_)
  have hom := ho
  have K44 : zSh zT0 (if (200 ≤ (zf h 23 4)) then h else (zp (zs (zs (zs (zs (zs h 27 (zf h 23 4) p1) 28 (zf h 23 4) p2) 29 (zf h 23 4) p3) 30 (zf h 23 4) p4) 31 (zf h 23 4) p5) 23 4 ((zf h 23 4) + 1))) → zg x (d + 1) 56 72 [some (.ref 23), some (.int p1), some (.int p2), some (.int p3), some (.int p4), some (.int p5)] [] (if (200 ≤ (zf h 23 4)) then h else (zp (zs (zs (zs (zs (zs h 27 (zf h 23 4) p1) 28 (zf h 23 4) p2) 29 (zf h 23 4) p3) 30 (zf h 23 4) p4) 31 (zf h 23 4) p5) 23 4 ((zf h 23 4) + 1))) Q := fun hs => by
    exact zg_ret zd_56 rfl rfl (hF hs)
  refine zg_i_ge zd_56 rfl (fun (hc : (200 ≤ (zf h 23 4))) => ?_) (fun (hc : ¬ (200 ≤ (zf h 23 4))) => ?_)
  · have ho := hom.1 hc
    rw [show (if (200 ≤ (zf h 23 4)) then h else (zp (zs (zs (zs (zs (zs h 27 (zf h 23 4) p1) 28 (zf h 23 4) p2) 29 (zf h 23 4) p3) 30 (zf h 23 4) p4) 31 (zf h 23 4) p5) 23 4 ((zf h 23 4) + 1))) = h from if_pos hc] at K44
    exact K44 hs
  · have ho := hom.2 hc
    rw [show (if (200 ≤ (zf h 23 4)) then h else (zp (zs (zs (zs (zs (zs h 27 (zf h 23 4) p1) 28 (zf h 23 4) p2) 29 (zf h 23 4) p3) 30 (zf h 23 4) p4) 31 (zf h 23 4) p5) 23 4 ((zf h 23 4) + 1))) = (zp (zs (zs (zs (zs (zs h 27 (zf h 23 4) p1) 28 (zf h 23 4) p2) 29 (zf h 23 4) p3) 30 (zf h 23 4) p4) 31 (zf h 23 4) p5) 23 4 ((zf h 23 4) + 1)) from if_neg hc] at K44
    refine zg_blk zd_56 5 hs (rfl : zb x zT0 zc_56 5 (10, [some (.ref 23), some (.int p1), some (.int p2), some (.int p3), some (.int p4), some (.int p5)], [], h) = some (19, [some (.ref 23), some (.int p1), some (.int p2), some (.int p3), some (.int p4), some (.int p5)], [.int p1, .int (zf h 23 4), .ref 27], h)) (fun hs => ?_)
    obtain ⟨hob, ho⟩ := ho
    refine zg_ias hs zd_56 rfl rfl hob (fun hs => ?_)
    refine zg_blk zd_56 5 hs (rfl : zb x zT0 zc_56 5 (20, [some (.ref 23), some (.int p1), some (.int p2), some (.int p3), some (.int p4), some (.int p5)], [], (zs h 27 (zf h 23 4) p1)) = some (29, [some (.ref 23), some (.int p1), some (.int p2), some (.int p3), some (.int p4), some (.int p5)], [.int p2, .int (zf h 23 4), .ref 28], (zs h 27 (zf h 23 4) p1))) (fun hs => ?_)
    obtain ⟨hob, ho⟩ := ho
    refine zg_ias hs zd_56 rfl rfl hob (fun hs => ?_)
    refine zg_blk zd_56 5 hs (rfl : zb x zT0 zc_56 5 (30, [some (.ref 23), some (.int p1), some (.int p2), some (.int p3), some (.int p4), some (.int p5)], [], (zs (zs h 27 (zf h 23 4) p1) 28 (zf h 23 4) p2)) = some (39, [some (.ref 23), some (.int p1), some (.int p2), some (.int p3), some (.int p4), some (.int p5)], [.int p3, .int (zf h 23 4), .ref 29], (zs (zs h 27 (zf h 23 4) p1) 28 (zf h 23 4) p2))) (fun hs => ?_)
    obtain ⟨hob, ho⟩ := ho
    refine zg_ias hs zd_56 rfl rfl hob (fun hs => ?_)
    refine zg_blk zd_56 5 hs (rfl : zb x zT0 zc_56 5 (40, [some (.ref 23), some (.int p1), some (.int p2), some (.int p3), some (.int p4), some (.int p5)], [], (zs (zs (zs h 27 (zf h 23 4) p1) 28 (zf h 23 4) p2) 29 (zf h 23 4) p3)) = some (50, [some (.ref 23), some (.int p1), some (.int p2), some (.int p3), some (.int p4), some (.int p5)], [.int p4, .int (zf h 23 4), .ref 30], (zs (zs (zs h 27 (zf h 23 4) p1) 28 (zf h 23 4) p2) 29 (zf h 23 4) p3))) (fun hs => ?_)
    obtain ⟨hob, ho⟩ := ho
    refine zg_ias hs zd_56 rfl rfl hob (fun hs => ?_)
    refine zg_blk zd_56 5 hs (rfl : zb x zT0 zc_56 5 (51, [some (.ref 23), some (.int p1), some (.int p2), some (.int p3), some (.int p4), some (.int p5)], [], (zs (zs (zs (zs h 27 (zf h 23 4) p1) 28 (zf h 23 4) p2) 29 (zf h 23 4) p3) 30 (zf h 23 4) p4)) = some (61, [some (.ref 23), some (.int p1), some (.int p2), some (.int p3), some (.int p4), some (.int p5)], [.int p5, .int (zf h 23 4), .ref 31], (zs (zs (zs (zs h 27 (zf h 23 4) p1) 28 (zf h 23 4) p2) 29 (zf h 23 4) p3) 30 (zf h 23 4) p4))) (fun hs => ?_)
    have hob := ho
    refine zg_ias hs zd_56 rfl rfl hob (fun hs => ?_)
    refine zg_blk zd_56 6 hs (rfl : zb x zT0 zc_56 6 (62, [some (.ref 23), some (.int p1), some (.int p2), some (.int p3), some (.int p4), some (.int p5)], [], (zs (zs (zs (zs (zs h 27 (zf h 23 4) p1) 28 (zf h 23 4) p2) 29 (zf h 23 4) p3) 30 (zf h 23 4) p4) 31 (zf h 23 4) p5)) = some (72, [some (.ref 23), some (.int p1), some (.int p2), some (.int p3), some (.int p4), some (.int p5)], [], (zp (zs (zs (zs (zs (zs h 27 (zf h 23 4) p1) 28 (zf h 23 4) p2) 29 (zf h 23 4) p3) 30 (zf h 23 4) p4) 31 (zf h 23 4) p5) 23 4 ((zf h 23 4) + 1)))) (fun hs => ?_)
    exact K44 hs
theorem zd_8 : zm_cd 8 = zc_8 := by rfl
set_option maxRecDepth 100000 in
set_option maxHeartbeats 400000 in
theorem f_Course_doThings_37_l0_k109_t {x : zm_X} {d : Nat} (v1 : Int32) (h : zm_H) (o2 : Option Value) {Q : Option Value → zm_H → Prop} {FN : Nat × zm_H → Prop} (hs : zSh zT0 h) (ho : f_Course_doThings_37_l0_k109_ok v1 h) (hF : FN (f_Course_doThings_37_l0_k109 v1 h)) (hl0 : ∀ (h : zm_H) (o2 : Option Value), zSh zT0 h → FN (0, h) → zg x (d + 4) 8 0 [some (.ref 37), some (.int v1), o2] [] h Q) (hl1 : ∀ (h : zm_H) (o2 : Option Value), zSh zT0 h → FN (1, h) → zg x (d + 4) 8 122 [some (.ref 37), some (.int v1), o2] [] h Q) : zg x (d + 4) 8 109 [some (.ref 37), some (.int v1), o2] [] h Q := by
  unfold f_Course_doThings_37_l0_k109 at hF
  unfold f_Course_doThings_37_l0_k109_ok at ho
  refine zg_blk zd_8 7 hs (rfl : zb x zT0 zc_8 7 (109, [some (.ref 37), some (.int v1), o2], [], h) = some (0, [some (.ref 37), some (.int v1), o2], [], (zp h 37 4 ((zf h 37 4) + 1)))) (fun hs => ?_)
  exact hl0 (zp h 37 4 ((zf h 37 4) + 1)) (o2) hs hF
theorem zd_9 : zm_cd 9 = zc_9 := by rfl
theorem zd_10 : zm_cd 10 = zc_10 := by rfl
set_option maxRecDepth 100000 in
set_option maxHeartbeats 400000 in
theorem f_Course_renewChain_37_t {x : zm_X} {d : Nat} (p1 : Int32) (p2 : Int32) (p3 : Int32) (h : zm_H) {Q : Option Value → zm_H → Prop} (hs : zSh zT0 h) (ho : f_Course_renewChain_37_ok p1 p2 p3 h) (hF : (zSh zT0 (f_Course_renewChain_37 p1 p2 p3 h) → Q none (f_Course_renewChain_37 p1 p2 p3 h))) : zg x (d + 1) 10 0 [some (.ref 37), some (.int p1), some (.int p2), some (.int p3)] [] h Q := by
  unfold f_Course_renewChain_37 at hF
  unfold f_Course_renewChain_37_ok at ho
  refine zg_blk zd_10 8 hs (rfl : zb x zT0 zc_10 8 (0, [some (.ref 37), some (.int p1), some (.int p2), some (.int p3)], [], h) = some (10, [some (.ref 37), some (.int p1), some (.int p2), some (.int p3)], [.int p3, .int ((p1 * 3) + p2), .ref 43], h)) (fun hs => ?_)
  obtain ⟨hob, ho⟩ := ho
  refine zg_ias hs zd_10 rfl rfl hob (fun hs => ?_)
  refine zg_blk zd_10 8 hs (rfl : zb x zT0 zc_10 8 (11, [some (.ref 37), some (.int p1), some (.int p2), some (.int p3)], [], (zs h 43 ((p1 * 3) + p2) p3)) = some (21, [some (.ref 37), some (.int p1), some (.int p2), some (.int p3)], [.int 0, .int ((p1 * 3) + p2), .ref 44], (zs h 43 ((p1 * 3) + p2) p3))) (fun hs => ?_)
  obtain ⟨hob, ho⟩ := ho
  refine zg_ias hs zd_10 rfl rfl hob (fun hs => ?_)
  refine zg_blk zd_10 8 hs (rfl : zb x zT0 zc_10 8 (22, [some (.ref 37), some (.int p1), some (.int p2), some (.int p3)], [], (zs (zs h 43 ((p1 * 3) + p2) p3) 44 ((p1 * 3) + p2) 0)) = some (32, [some (.ref 37), some (.int p1), some (.int p2), some (.int p3)], [.int (-1), .int ((p1 * 3) + p2), .ref 45], (zs (zs h 43 ((p1 * 3) + p2) p3) 44 ((p1 * 3) + p2) 0))) (fun hs => ?_)
  have hob := ho
  refine zg_ias hs zd_10 rfl rfl hob (fun hs => ?_)
  exact zg_ret zd_10 rfl rfl (hF hs)
theorem zd_11 : zm_cd 11 = zc_11 := by rfl
set_option maxRecDepth 100000 in
set_option maxHeartbeats 400000 in
theorem f_Course_bringHome_37_l16_k28_t {x : zm_X} {d : Nat} (v1 : Int32) (v2 : Int32) (h : zm_H) {Q : Option Value → zm_H → Prop} {FN : Nat × Int32 × zm_H → Prop} (hs : zSh zT0 h) (ho : f_Course_bringHome_37_l16_k28_ok v1 v2 h) (hF : FN (f_Course_bringHome_37_l16_k28 v1 v2 h)) (hl0 : ∀ (v2 : Int32) (h : zm_H), zSh zT0 h → FN (0, v2, h) → zg x (d + 2) 11 16 [some (.ref 37), some (.int v1), some (.int v2)] [] h Q) (hl1 : ∀ (v2 : Int32) (h : zm_H) (o2 : Option Value), zSh zT0 h → FN (1, v2, h) → zg x (d + 2) 11 34 [some (.ref 37), some (.int v1), o2] [] h Q) : zg x (d + 2) 11 28 [some (.ref 37), some (.int v1), some (.int v2)] [] h Q := by
  unfold f_Course_bringHome_37_l16_k28 at hF
  unfold f_Course_bringHome_37_l16_k28_ok at ho
  refine zg_blk zd_11 2 hs (rfl : zb x zT0 zc_11 2 (28, [some (.ref 37), some (.int v1), some (.int v2)], [], h) = some (16, [some (.ref 37), some (.int v1), some (.int (v2 + 1))], [], h)) (fun hs => ?_)
  exact hl0 (v2 + 1) h hs hF
set_option maxRecDepth 100000 in
set_option maxHeartbeats 400000 in
theorem f_Course_bringHome_37_l16_b_t {x : zm_X} {d : Nat} (v1 : Int32) (v2 : Int32) (h : zm_H) {Q : Option Value → zm_H → Prop} {FN : Nat × Int32 × zm_H → Prop} (hs : zSh zT0 h) (ho : f_Course_bringHome_37_l16_b_ok v1 v2 h) (hF : FN (f_Course_bringHome_37_l16_b v1 v2 h)) (hl0 : ∀ (v2 : Int32) (h : zm_H), zSh zT0 h → FN (0, v2, h) → zg x (d + 2) 11 16 [some (.ref 37), some (.int v1), some (.int v2)] [] h Q) (hl1 : ∀ (v2 : Int32) (h : zm_H) (o2 : Option Value), zSh zT0 h → FN (1, v2, h) → zg x (d + 2) 11 34 [some (.ref 37), some (.int v1), o2] [] h Q) : zg x (d + 2) 11 16 [some (.ref 37), some (.int v1), some (.int v2)] [] h Q := by
  unfold f_Course_bringHome_37_l16_b at hF
  unfold f_Course_bringHome_37_l16_b_ok at ho
  refine zg_blk zd_11 2 hs (rfl : zb x zT0 zc_11 2 (16, [some (.ref 37), some (.int v1), some (.int v2)], [], h) = some (18, [some (.ref 37), some (.int v1), some (.int v2)], [.int 3, .int v2], h)) (fun hs => ?_)
  refine zg_i_ge zd_11 rfl (fun (hc : (3 ≤ v2)) => ?_) (fun (hc : ¬ (3 ≤ v2)) => ?_)
  · have ho := ho.1 hc
    rw [if_pos hc] at hF
    exact hl1 v2 h (some (.int v2)) hs hF
  · have ho := ho.2 hc
    rw [if_neg hc] at hF
    refine zg_blk zd_11 4 hs (rfl : zb x zT0 zc_11 4 (21, [some (.ref 37), some (.int v1), some (.int v2)], [], h) = some (25, [some (.ref 37), some (.int v1), some (.int v2)], [.int 0, .int v2, .int v1, .ref 37], h)) (fun hs => ?_)
    have hob := ho
    refine zg_call hs zd_11 rfl rfl rfl rfl (as := [.ref 37, .int v1, .int v2, .int 0]) (rest := []) (en := [some (.ref 37), some (.int v1), some (.int v2), some (.int 0)]) rfl rfl rfl rfl rfl ?_
    refine f_Course_renewChain_37_t v1 v2 0 h hs hob (fun hs => ?_)
    show zg x (d + 2) 11 28 [some (.ref 37), some (.int v1), some (.int v2)] [] (f_Course_renewChain_37 v1 v2 0 h) Q
    exact f_Course_bringHome_37_l16_k28_t v1 v2 (f_Course_renewChain_37 v1 v2 0 h) hs trivial hF hl0 hl1
theorem f_Course_bringHome_37_l16_t {x : zm_X} {d : Nat} (v1 : Int32) {Q : Option Value → zm_H → Prop} (G : Nat × Int32 × zm_H → Prop) (hx1 : ∀ (v2 : Int32) (h : zm_H) (o2 : Option Value), zSh zT0 h → G (1, v2, h) → zg x (d + 2) 11 34 [some (.ref 37), some (.int v1), o2] [] h Q) : ∀ (n : Nat) (v2 : Int32) (h : zm_H), zSh zT0 h → f_Course_bringHome_37_l16_ok v1 n (v2, h) → G (f_Course_bringHome_37_l16 v1 n (v2, h)) → zg x (d + 2) 11 16 [some (.ref 37), some (.int v1), some (.int v2)] [] h Q := by
  intro n
  induction n with
  | zero => intro v2 h hs ho hG; exact ho.elim
  | succ n ih =>
    intro v2 h hs ho hG
    refine f_Course_bringHome_37_l16_b_t (FN := fun r => (r.1 = 0 → f_Course_bringHome_37_l16_ok v1 n r.2) ∧ G (if r.1 = 0 then f_Course_bringHome_37_l16 v1 n r.2 else r)) v1 v2 h hs ho.1 ⟨ho.2, hG⟩ ?_ ?_
    · intro v2 h hs hF
      exact ih v2 h hs (hF.1 rfl) hF.2
    · intro v2 h o2 hs hF
      exact hx1 v2 h o2 hs hF.2

set_option maxRecDepth 100000 in
set_option maxHeartbeats 400000 in
theorem f_Course_bringHome_37_k34_t {x : zm_X} {d : Nat} (h : zm_H) (o0 : Option Value) (z1 : Int32) (o2 : Option Value) {Q : Option Value → zm_H → Prop} (hs : zSh zT0 h) (ho : f_Course_bringHome_37_k34_ok h) (hF : (zSh zT0 (f_Course_bringHome_37_k34 h) → Q none (f_Course_bringHome_37_k34 h))) : zg x (d + 2) 11 34 [o0, some (.int z1), o2] [] h Q := by
  unfold f_Course_bringHome_37_k34 at hF
  unfold f_Course_bringHome_37_k34_ok at ho
  exact zg_ret zd_11 rfl rfl (hF hs)
set_option maxRecDepth 100000 in
set_option maxHeartbeats 400000 in
theorem f_Course_bringHome_37_t {x : zm_X} {d : Nat} (p1 : Int32) (h : zm_H) {Q : Option Value → zm_H → Prop} (hs : zSh zT0 h) (ho : f_Course_bringHome_37_ok p1 h) (hF : (zSh zT0 (f_Course_bringHome_37 p1 h) → Q none (f_Course_bringHome_37 p1 h))) : zg x (d + 2) 11 0 [some (.ref 37), some (.int p1), none] [] h Q := by
  unfold f_Course_bringHome_37 at hF
  unfold f_Course_bringHome_37_ok at ho
  refine zg_blk zd_11 4 hs (rfl : zb x zT0 zc_11 4 (0, [some (.ref 37), some (.int p1), none], [], h) = some (6, [some (.ref 37), some (.int p1), none], [.int 0, .int p1, .ref 38], h)) (fun hs => ?_)
  obtain ⟨hob, ho⟩ := ho
  refine zg_ias hs zd_11 rfl rfl hob (fun hs => ?_)
  refine zg_blk zd_11 4 hs (rfl : zb x zT0 zc_11 4 (7, [some (.ref 37), some (.int p1), none], [], (zs h 38 p1 0)) = some (13, [some (.ref 37), some (.int p1), none], [.int (-1), .int p1, .ref 39], (zs h 38 p1 0))) (fun hs => ?_)
  obtain ⟨hob, ho⟩ := ho
  refine zg_ias hs zd_11 rfl rfl hob (fun hs => ?_)
  refine zg_blk zd_11 2 hs (rfl : zb x zT0 zc_11 2 (14, [some (.ref 37), some (.int p1), none], [], (zs (zs h 38 p1 0) 39 p1 (-1))) = some (16, [some (.ref 37), some (.int p1), some (.int 0)], [], (zs (zs h 38 p1 0) 39 p1 (-1)))) (fun hs => ?_)
  refine f_Course_bringHome_37_l16_t p1 (fun r => f_Course_bringHome_37_a16_ok r ∧ (zSh zT0 (f_Course_bringHome_37_a16 r) → Q none (f_Course_bringHome_37_a16 r))) ?_ zF 0 (zs (zs h 38 p1 0) 39 p1 (-1)) hs ho.1 ⟨ho.2, hF⟩
  · intro v2_ h_ o2_ hs hG
    have ho : True := trivial
    have hF : (zSh zT0 ((f_Course_bringHome_37_k34 h_)) → Q none ((f_Course_bringHome_37_k34 h_))) := hG.2
    exact f_Course_bringHome_37_k34_t h_ (some (.ref 37)) p1 (o2_) hs trivial hF
set_option maxRecDepth 100000 in
set_option maxHeartbeats 400000 in
theorem f_Course_doThing_37_l22_k37_t {x : zm_X} {d : Nat} (v2 : Int32) (v4 : Int32) (v5 : Int32) (h : zm_H) (o1 : Option Value) (o3 : Option Value) {Q : Option Value → zm_H → Prop} {FN : Nat × Int32 × zm_H → Prop} (hs : zSh zT0 h) (ho : f_Course_doThing_37_l22_k37_ok v2 v4 v5 h) (hF : FN (f_Course_doThing_37_l22_k37 v2 v4 v5 h)) (hl0 : ∀ (v5 : Int32) (h : zm_H) (o1 : Option Value) (o3 : Option Value), zSh zT0 h → FN (0, v5, h) → zg x (d + 3) 9 22 [some (.ref 37), o1, some (.int v2), o3, some (.int v4), some (.int v5)] [] h Q) (hl1 : ∀ (v5 : Int32) (h : zm_H) (o1 : Option Value) (o3 : Option Value) (o5 : Option Value), zSh zT0 h → FN (1, v5, h) → zg x (d + 3) 9 43 [some (.ref 37), o1, some (.int v2), o3, some (.int v4), o5] [] h Q) : zg x (d + 3) 9 37 [some (.ref 37), o1, some (.int v2), o3, some (.int v4), some (.int v5)] [] h Q := by
  unfold f_Course_doThing_37_l22_k37 at hF
  unfold f_Course_doThing_37_l22_k37_ok at ho
  refine zg_blk zd_9 2 hs (rfl : zb x zT0 zc_9 2 (37, [some (.ref 37), o1, some (.int v2), o3, some (.int v4), some (.int v5)], [], h) = some (22, [some (.ref 37), o1, some (.int v2), o3, some (.int v4), some (.int (v5 + 1))], [], h)) (fun hs => ?_)
  exact hl0 (v5 + 1) h (o1) (o3) hs hF
set_option maxRecDepth 100000 in
set_option maxHeartbeats 400000 in
theorem f_Course_doThing_37_l22_b_t {x : zm_X} {d : Nat} (v2 : Int32) (v4 : Int32) (v5 : Int32) (h : zm_H) (o1 : Option Value) (o3 : Option Value) {Q : Option Value → zm_H → Prop} {FN : Nat × Int32 × zm_H → Prop} (hs : zSh zT0 h) (ho : f_Course_doThing_37_l22_b_ok v2 v4 v5 h) (hF : FN (f_Course_doThing_37_l22_b v2 v4 v5 h)) (hl0 : ∀ (v5 : Int32) (h : zm_H) (o1 : Option Value) (o3 : Option Value), zSh zT0 h → FN (0, v5, h) → zg x (d + 3) 9 22 [some (.ref 37), o1, some (.int v2), o3, some (.int v4), some (.int v5)] [] h Q) (hl1 : ∀ (v5 : Int32) (h : zm_H) (o1 : Option Value) (o3 : Option Value) (o5 : Option Value), zSh zT0 h → FN (1, v5, h) → zg x (d + 3) 9 43 [some (.ref 37), o1, some (.int v2), o3, some (.int v4), o5] [] h Q) : zg x (d + 3) 9 22 [some (.ref 37), o1, some (.int v2), o3, some (.int v4), some (.int v5)] [] h Q := by
  unfold f_Course_doThing_37_l22_b at hF
  unfold f_Course_doThing_37_l22_b_ok at ho
  refine zg_blk zd_9 2 hs (rfl : zb x zT0 zc_9 2 (22, [some (.ref 37), o1, some (.int v2), o3, some (.int v4), some (.int v5)], [], h) = some (25, [some (.ref 37), o1, some (.int v2), o3, some (.int v4), some (.int v5)], [.int 3, .int v5], h)) (fun hs => ?_)
  refine zg_i_ge zd_9 rfl (fun (hc : (3 ≤ v5)) => ?_) (fun (hc : ¬ (3 ≤ v5)) => ?_)
  · have ho := ho.1 hc
    rw [if_pos hc] at hF
    exact hl1 v5 h (o1) (o3) (some (.int v5)) hs hF
  · have ho := ho.2 hc
    rw [if_neg hc] at hF
    refine zg_blk zd_9 4 hs (rfl : zb x zT0 zc_9 4 (28, [some (.ref 37), o1, some (.int v2), o3, some (.int v4), some (.int v5)], [], h) = some (34, [some (.ref 37), o1, some (.int v2), o3, some (.int v4), some (.int v5)], [.int v4, .int v5, .int v2, .ref 37], h)) (fun hs => ?_)
    have hob := ho
    refine zg_call hs zd_9 rfl rfl rfl rfl (as := [.ref 37, .int v2, .int v5, .int v4]) (rest := []) (en := [some (.ref 37), some (.int v2), some (.int v5), some (.int v4)]) rfl rfl rfl rfl rfl ?_
    refine f_Course_renewChain_37_t v2 v5 v4 h hs hob (fun hs => ?_)
    show zg x (d + 3) 9 37 [some (.ref 37), o1, some (.int v2), o3, some (.int v4), some (.int v5)] [] (f_Course_renewChain_37 v2 v5 v4 h) Q
    exact f_Course_doThing_37_l22_k37_t v2 v4 v5 (f_Course_renewChain_37 v2 v5 v4 h) (o1) (o3) hs trivial hF hl0 hl1
theorem f_Course_doThing_37_l22_t {x : zm_X} {d : Nat} (v2 : Int32) (v4 : Int32) {Q : Option Value → zm_H → Prop} (G : Nat × Int32 × zm_H → Prop) (hx1 : ∀ (v5 : Int32) (h : zm_H) (o1 : Option Value) (o3 : Option Value) (o5 : Option Value), zSh zT0 h → G (1, v5, h) → zg x (d + 3) 9 43 [some (.ref 37), o1, some (.int v2), o3, some (.int v4), o5] [] h Q) : ∀ (n : Nat) (v5 : Int32) (h : zm_H) (o1 : Option Value) (o3 : Option Value), zSh zT0 h → f_Course_doThing_37_l22_ok v2 v4 n (v5, h) → G (f_Course_doThing_37_l22 v2 v4 n (v5, h)) → zg x (d + 3) 9 22 [some (.ref 37), o1, some (.int v2), o3, some (.int v4), some (.int v5)] [] h Q := by
  intro n
  induction n with
  | zero => intro v5 h o1 o3 hs ho hG; exact ho.elim
  | succ n ih =>
    intro v5 h o1 o3 hs ho hG
    refine f_Course_doThing_37_l22_b_t (FN := fun r => (r.1 = 0 → f_Course_doThing_37_l22_ok v2 v4 n r.2) ∧ G (if r.1 = 0 then f_Course_doThing_37_l22 v2 v4 n r.2 else r)) v2 v4 v5 h o1 o3 hs ho.1 ⟨ho.2, hG⟩ ?_ ?_
    · intro v5 h o1 o3 hs hF
      exact ih v5 h o1 o3 hs (hF.1 rfl) hF.2
    · intro v5 h o1 o3 o5 hs hF
      exact hx1 v5 h o1 o3 o5 hs hF.2

set_option maxRecDepth 100000 in
set_option maxHeartbeats 400000 in
theorem f_Course_doThing_37_k43_t {x : zm_X} {d : Nat} (h : zm_H) (o0 : Option Value) (o1 : Option Value) (o2 : Option Value) (o3 : Option Value) (z4 : Int32) (o5 : Option Value) {Q : Option Value → zm_H → Prop} (hs : zSh zT0 h) (ho : f_Course_doThing_37_k43_ok h) (hF : (zSh zT0 (f_Course_doThing_37_k43 h) → Q none (f_Course_doThing_37_k43 h))) : zg x (d + 3) 9 43 [o0, o1, o2, o3, some (.int z4), o5] [] h Q := by
  unfold f_Course_doThing_37_k43 at hF
  unfold f_Course_doThing_37_k43_ok at ho
  refine zg_blk zd_9 1 hs (rfl : zb x zT0 zc_9 1 (43, [o0, o1, o2, o3, some (.int z4), o5], [], h) = some (82, [o0, o1, o2, o3, some (.int z4), o5], [], h)) (fun hs => ?_)
  exact zg_ret zd_9 rfl rfl (hF hs)
set_option maxRecDepth 100000 in
set_option maxHeartbeats 400000 in
theorem f_Course_doThing_37_t {x : zm_X} {d : Nat} (p1 : Int32) (p2 : Int32) (p3 : Int32) (p4 : Int32) (h : zm_H) {Q : Option Value → zm_H → Prop} (hs : zSh zT0 h) (ho : f_Course_doThing_37_ok p1 p2 p3 p4 h) (hF : (zSh zT0 (f_Course_doThing_37 p1 p2 p3 p4 h) → Q none (f_Course_doThing_37 p1 p2 p3 p4 h))) : zg x (d + 3) 9 0 [some (.ref 37), some (.int p1), some (.int p2), some (.int p3), some (.int p4), none] [] h Q := by
  unfold f_Course_doThing_37 at hF
  unfold f_Course_doThing_37_ok at ho
  refine zg_blk zd_9 2 hs (rfl : zb x zT0 zc_9 2 (0, [some (.ref 37), some (.int p1), some (.int p2), some (.int p3), some (.int p4), none], [], h) = some (2, [some (.ref 37), some (.int p1), some (.int p2), some (.int p3), some (.int p4), none], [.int 5, .int p1], h)) (fun hs => ?_)
  refine zg_i_ne zd_9 rfl (fun (hc : ¬ (p1 = 5)) => ?_) (fun (hc : (p1 = 5)) => ?_)
  · have ho := ho.2 hc
    rw [if_neg hc] at hF
    refine zg_blk zd_9 2 hs (rfl : zb x zT0 zc_9 2 (46, [some (.ref 37), some (.int p1), some (.int p2), some (.int p3), some (.int p4), none], [], h) = some (48, [some (.ref 37), some (.int p1), some (.int p2), some (.int p3), some (.int p4), none], [.int 4, .int p1], h)) (fun hs => ?_)
    refine zg_i_ne zd_9 rfl (fun (hc : ¬ (p1 = 4)) => ?_) (fun (hc : (p1 = 4)) => ?_)
    · have ho := ho.2 hc
      rw [if_neg hc] at hF
      refine zg_blk zd_9 2 hs (rfl : zb x zT0 zc_9 2 (59, [some (.ref 37), some (.int p1), some (.int p2), some (.int p3), some (.int p4), none], [], h) = some (61, [some (.ref 37), some (.int p1), some (.int p2), some (.int p3), some (.int p4), none], [.int 3, .int p1], h)) (fun hs => ?_)
      refine zg_i_ne zd_9 rfl (fun (hc : ¬ (p1 = 3)) => ?_) (fun (hc : (p1 = 3)) => ?_)
      · have ho := ho.2 hc
        rw [if_neg hc] at hF
        refine zg_blk zd_9 4 hs (rfl : zb x zT0 zc_9 4 (74, [some (.ref 37), some (.int p1), some (.int p2), some (.int p3), some (.int p4), none], [], h) = some (79, [some (.ref 37), some (.int p1), some (.int p2), some (.int p3), some (.int p4), none], [.int p4, .int p1, .int p2, .ref 37], h)) (fun hs => ?_)
        have hob := ho
        refine zg_call hs zd_9 rfl rfl rfl rfl (as := [.ref 37, .int p2, .int p1, .int p4]) (rest := []) (en := [some (.ref 37), some (.int p2), some (.int p1), some (.int p4)]) rfl rfl rfl rfl rfl ?_
        refine f_Course_renewChain_37_t p2 p1 p4 h hs hob (fun hs => ?_)
        show zg x (d + 3) 9 82 [some (.ref 37), some (.int p1), some (.int p2), some (.int p3), some (.int p4), none] [] (f_Course_renewChain_37 p2 p1 p4 h) Q
        exact zg_ret zd_9 rfl rfl (hF hs)
      · have ho := ho.1 hc
        rw [if_pos hc] at hF
        refine zg_blk zd_9 4 hs (rfl : zb x zT0 zc_9 4 (64, [some (.ref 37), some (.int p1), some (.int p2), some (.int p3), some (.int p4), none], [], h) = some (70, [some (.ref 37), some (.int p1), some (.int p2), some (.int p3), some (.int p4), none], [.int 0, .int p2, .ref 40], h)) (fun hs => ?_)
        have hob := ho
        refine zg_ias hs zd_9 rfl rfl hob (fun hs => ?_)
        refine zg_blk zd_9 1 hs (rfl : zb x zT0 zc_9 1 (71, [some (.ref 37), some (.int p1), some (.int p2), some (.int p3), some (.int p4), none], [], (zs h 40 p2 0)) = some (82, [some (.ref 37), some (.int p1), some (.int p2), some (.int p3), some (.int p4), none], [], (zs h 40 p2 0))) (fun hs => ?_)
        exact zg_ret zd_9 rfl rfl (hF hs)
    · have ho := ho.1 hc
      rw [if_pos hc] at hF
      refine zg_blk zd_9 2 hs (rfl : zb x zT0 zc_9 2 (51, [some (.ref 37), some (.int p1), some (.int p2), some (.int p3), some (.int p4), none], [], h) = some (53, [some (.ref 37), some (.int p1), some (.int p2), some (.int p3), some (.int p4), none], [.int p2, .ref 37], h)) (fun hs => ?_)
      have hob := ho
      refine zg_call hs zd_9 rfl rfl rfl rfl (as := [.ref 37, .int p2]) (rest := []) (en := [some (.ref 37), some (.int p2), none]) rfl rfl rfl rfl rfl ?_
      refine f_Course_bringHome_37_t p2 h hs hob (fun hs => ?_)
      show zg x (d + 3) 9 56 [some (.ref 37), some (.int p1), some (.int p2), some (.int p3), some (.int p4), none] [] (f_Course_bringHome_37 p2 h) Q
      refine zg_blk zd_9 1 hs (rfl : zb x zT0 zc_9 1 (56, [some (.ref 37), some (.int p1), some (.int p2), some (.int p3), some (.int p4), none], [], (f_Course_bringHome_37 p2 h)) = some (82, [some (.ref 37), some (.int p1), some (.int p2), some (.int p3), some (.int p4), none], [], (f_Course_bringHome_37 p2 h))) (fun hs => ?_)
      exact zg_ret zd_9 rfl rfl (hF hs)
  · have ho := ho.1 hc
    rw [if_pos hc] at hF
    refine zg_blk zd_9 4 hs (rfl : zb x zT0 zc_9 4 (5, [some (.ref 37), some (.int p1), some (.int p2), some (.int p3), some (.int p4), none], [], h) = some (11, [some (.ref 37), some (.int p1), some (.int p2), some (.int p3), some (.int p4), none], [.int 1, .int p2, .ref 38], h)) (fun hs => ?_)
    obtain ⟨hob, ho⟩ := ho
    refine zg_ias hs zd_9 rfl rfl hob (fun hs => ?_)
    refine zg_blk zd_9 4 hs (rfl : zb x zT0 zc_9 4 (12, [some (.ref 37), some (.int p1), some (.int p2), some (.int p3), some (.int p4), none], [], (zs h 38 p2 1)) = some (18, [some (.ref 37), some (.int p1), some (.int p2), some (.int p3), some (.int p4), none], [.int p3, .int p2, .ref 39], (zs h 38 p2 1))) (fun hs => ?_)
    obtain ⟨hob, ho⟩ := ho
    refine zg_ias hs zd_9 rfl rfl hob (fun hs => ?_)
    refine zg_blk zd_9 2 hs (rfl : zb x zT0 zc_9 2 (19, [some (.ref 37), some (.int p1), some (.int p2), some (.int p3), some (.int p4), none], [], (zs (zs h 38 p2 1) 39 p2 p3)) = some (22, [some (.ref 37), some (.int p1), some (.int p2), some (.int p3), some (.int p4), some (.int 0)], [], (zs (zs h 38 p2 1) 39 p2 p3))) (fun hs => ?_)
    refine f_Course_doThing_37_l22_t p2 p4 (fun r => f_Course_doThing_37_a22_ok r ∧ (zSh zT0 (f_Course_doThing_37_a22 r) → Q none (f_Course_doThing_37_a22 r))) ?_ zF 0 (zs (zs h 38 p2 1) 39 p2 p3) (some (.int p1)) (some (.int p3)) hs ho.1 ⟨ho.2, hF⟩
    · intro v5_ h_ o1_ o3_ o5_ hs hG
      have ho : True := trivial
      have hF : (zSh zT0 ((f_Course_doThing_37_k43 h_)) → Q none ((f_Course_doThing_37_k43 h_))) := hG.2
      exact f_Course_doThing_37_k43_t h_ (some (.ref 37)) (o1_) (some (.int p2)) (o3_) p4 (o5_) hs trivial hF
set_option maxRecDepth 100000 in
set_option maxHeartbeats 400000 in
theorem f_Course_doThings_37_l0_b_t {x : zm_X} {d : Nat} (v1 : Int32) (h : zm_H) (o2 : Option Value) {Q : Option Value → zm_H → Prop} {FN : Nat × zm_H → Prop} (hs : zSh zT0 h) (ho : f_Course_doThings_37_l0_b_ok v1 h) (hF : FN (f_Course_doThings_37_l0_b v1 h)) (hl0 : ∀ (h : zm_H) (o2 : Option Value), zSh zT0 h → FN (0, h) → zg x (d + 4) 8 0 [some (.ref 37), some (.int v1), o2] [] h Q) (hl1 : ∀ (h : zm_H) (o2 : Option Value), zSh zT0 h → FN (1, h) → zg x (d + 4) 8 122 [some (.ref 37), some (.int v1), o2] [] h Q) : zg x (d + 4) 8 0 [some (.ref 37), some (.int v1), o2] [] h Q := by
  unfold f_Course_doThings_37_l0_b at hF
  unfold f_Course_doThings_37_l0_b_ok at ho
  refine zg_blk zd_8 5 hs (rfl : zb x zT0 zc_8 5 (0, [some (.ref 37), some (.int v1), o2], [], h) = some (11, [some (.ref 37), some (.int v1), o2], [.int (zf h 23 4), .int (zf h 37 4)], h)) (fun hs => ?_)
  refine zg_i_ge zd_8 rfl (fun (hc : ((zf h 23 4) ≤ (zf h 37 4))) => ?_) (fun (hc : ¬ ((zf h 23 4) ≤ (zf h 37 4))) => ?_)
  · have ho := ho.1 hc
    rw [if_pos hc] at hF
    exact hl1 h (o2) hs hF
  · have ho := ho.2 hc
    rw [if_neg hc] at hF
    refine zg_blk zd_8 5 hs (rfl : zb x zT0 zc_8 5 (14, [some (.ref 37), some (.int v1), o2], [], h) = some (25, [some (.ref 37), some (.int v1), o2], [.int (zf h 37 4), .ref 27], h)) (fun hs => ?_)
    obtain ⟨hob, ho⟩ := ho
    refine zg_ial hs zd_8 rfl rfl hob ?_
    refine zg_blk zd_8 1 hs (rfl : zb x zT0 zc_8 1 (26, [some (.ref 37), some (.int v1), o2], [.int (zr h 27 (zf h 37 4))], h) = some (27, [some (.ref 37), some (.int v1), o2], [.int v1, .int (zr h 27 (zf h 37 4))], h)) (fun hs => ?_)
    refine zg_i_gt zd_8 rfl (fun (hc : (v1 < (zr h 27 (zf h 37 4)))) => ?_) (fun (hc : ¬ (v1 < (zr h 27 (zf h 37 4)))) => ?_)
    · have ho := ho.1 hc
      rw [if_pos hc] at hF
      exact hl1 h (o2) hs hF
    · have ho := ho.2 hc
      rw [if_neg hc] at hF
      refine zg_blk zd_8 8 hs (rfl : zb x zT0 zc_8 8 (30, [some (.ref 37), some (.int v1), o2], [], h) = some (44, [some (.ref 37), some (.int v1), some (.int (zf h 37 4))], [.int (zf h 37 4), .ref 28, .ref 37], h)) (fun hs => ?_)
      obtain ⟨hob, ho⟩ := ho
      refine zg_ial hs zd_8 rfl rfl hob ?_
      refine zg_blk zd_8 4 hs (rfl : zb x zT0 zc_8 4 (45, [some (.ref 37), some (.int v1), some (.int (zf h 37 4))], [.int (zr h 28 (zf h 37 4)), .ref 37], h) = some (53, [some (.ref 37), some (.int v1), some (.int (zf h 37 4))], [.int (zf h 37 4), .ref 29, .int (zr h 28 (zf h 37 4)), .ref 37], h)) (fun hs => ?_)
      obtain ⟨hob, ho⟩ := ho
      refine zg_ial hs zd_8 rfl rfl hob ?_
      refine zg_blk zd_8 4 hs (rfl : zb x zT0 zc_8 4 (54, [some (.ref 37), some (.int v1), some (.int (zf h 37 4))], [.int (zr h 29 (zf h 37 4)), .int (zr h 28 (zf h 37 4)), .ref 37], h) = some (62, [some (.ref 37), some (.int v1), some (.int (zf h 37 4))], [.int (zf h 37 4), .ref 30, .int (zr h 29 (zf h 37 4)), .int (zr h 28 (zf h 37 4)), .ref 37], h)) (fun hs => ?_)
      obtain ⟨hob, ho⟩ := ho
      refine zg_ial hs zd_8 rfl rfl hob ?_
      obtain ⟨hob, ho⟩ := ho
      refine zg_call hs zd_8 rfl rfl rfl rfl (as := [.ref 37, .int (zr h 28 (zf h 37 4)), .int (zr h 29 (zf h 37 4)), .int (zr h 30 (zf h 37 4))]) (rest := []) (en := [some (.ref 37), some (.int (zr h 28 (zf h 37 4))), some (.int (zr h 29 (zf h 37 4))), some (.int (zr h 30 (zf h 37 4)))]) rfl rfl rfl rfl rfl ?_
      refine f_Course_isDoable_37_t (zr h 28 (zf h 37 4)) (zr h 29 (zf h 37 4)) (zr h 30 (zf h 37 4)) h hs hob ?_
      show zg x (d + 4) 8 66 [some (.ref 37), some (.int v1), some (.int (zf h 37 4))] [.int (f_Course_isDoable_37 (zr h 28 (zf h 37 4)) (zr h 29 (zf h 37 4)) (zr h 30 (zf h 37 4)) h)] h Q
      refine zg_f_eq zd_8 rfl (fun (hc : ((f_Course_isDoable_37 (zr h 28 (zf h 37 4)) (zr h 29 (zf h 37 4)) (zr h 30 (zf h 37 4)) h) = 0)) => ?_) (fun (hc : ¬ ((f_Course_isDoable_37 (zr h 28 (zf h 37 4)) (zr h 29 (zf h 37 4)) (zr h 30 (zf h 37 4)) h) = 0)) => ?_)
      · have ho := ho.1 hc
        rw [if_pos hc] at hF
        exact f_Course_doThings_37_l0_k109_t v1 h (some (.int (zf h 37 4))) hs trivial hF hl0 hl1
      · have ho := ho.2 hc
        rw [if_neg hc] at hF
        refine zg_blk zd_8 5 hs (rfl : zb x zT0 zc_8 5 (69, [some (.ref 37), some (.int v1), some (.int (zf h 37 4))], [], h) = some (78, [some (.ref 37), some (.int v1), some (.int (zf h 37 4))], [.int (zf h 37 4), .ref 28, .ref 37], h)) (fun hs => ?_)
        obtain ⟨hob, ho⟩ := ho
        refine zg_ial hs zd_8 rfl rfl hob ?_
        refine zg_blk zd_8 4 hs (rfl : zb x zT0 zc_8 4 (79, [some (.ref 37), some (.int v1), some (.int (zf h 37 4))], [.int (zr h 28 (zf h 37 4)), .ref 37], h) = some (87, [some (.ref 37), some (.int v1), some (.int (zf h 37 4))], [.int (zf h 37 4), .ref 29, .int (zr h 28 (zf h 37 4)), .ref 37], h)) (fun hs => ?_)
        obtain ⟨hob, ho⟩ := ho
        refine zg_ial hs zd_8 rfl rfl hob ?_
        refine zg_blk zd_8 4 hs (rfl : zb x zT0 zc_8 4 (88, [some (.ref 37), some (.int v1), some (.int (zf h 37 4))], [.int (zr h 29 (zf h 37 4)), .int (zr h 28 (zf h 37 4)), .ref 37], h) = some (96, [some (.ref 37), some (.int v1), some (.int (zf h 37 4))], [.int (zf h 37 4), .ref 30, .int (zr h 29 (zf h 37 4)), .int (zr h 28 (zf h 37 4)), .ref 37], h)) (fun hs => ?_)
        obtain ⟨hob, ho⟩ := ho
        refine zg_ial hs zd_8 rfl rfl hob ?_
        refine zg_blk zd_8 4 hs (rfl : zb x zT0 zc_8 4 (97, [some (.ref 37), some (.int v1), some (.int (zf h 37 4))], [.int (zr h 30 (zf h 37 4)), .int (zr h 29 (zf h 37 4)), .int (zr h 28 (zf h 37 4)), .ref 37], h) = some (105, [some (.ref 37), some (.int v1), some (.int (zf h 37 4))], [.int (zf h 37 4), .ref 31, .int (zr h 30 (zf h 37 4)), .int (zr h 29 (zf h 37 4)), .int (zr h 28 (zf h 37 4)), .ref 37], h)) (fun hs => ?_)
        obtain ⟨hob, ho⟩ := ho
        refine zg_ial hs zd_8 rfl rfl hob ?_
        have hob := ho
        refine zg_call hs zd_8 rfl rfl rfl rfl (as := [.ref 37, .int (zr h 28 (zf h 37 4)), .int (zr h 29 (zf h 37 4)), .int (zr h 30 (zf h 37 4)), .int (zr h 31 (zf h 37 4))]) (rest := []) (en := [some (.ref 37), some (.int (zr h 28 (zf h 37 4))), some (.int (zr h 29 (zf h 37 4))), some (.int (zr h 30 (zf h 37 4))), some (.int (zr h 31 (zf h 37 4))), none]) rfl rfl rfl rfl rfl ?_
        refine f_Course_doThing_37_t (zr h 28 (zf h 37 4)) (zr h 29 (zf h 37 4)) (zr h 30 (zf h 37 4)) (zr h 31 (zf h 37 4)) h hs hob (fun hs => ?_)
        show zg x (d + 4) 8 109 [some (.ref 37), some (.int v1), some (.int (zf h 37 4))] [] (f_Course_doThing_37 (zr h 28 (zf h 37 4)) (zr h 29 (zf h 37 4)) (zr h 30 (zf h 37 4)) (zr h 31 (zf h 37 4)) h) Q
        exact f_Course_doThings_37_l0_k109_t v1 (f_Course_doThing_37 (zr h 28 (zf h 37 4)) (zr h 29 (zf h 37 4)) (zr h 30 (zf h 37 4)) (zr h 31 (zf h 37 4)) h) (some (.int (zf h 37 4))) hs trivial hF hl0 hl1
theorem f_Course_doThings_37_l0_t {x : zm_X} {d : Nat} (v1 : Int32) {Q : Option Value → zm_H → Prop} (G : Nat × zm_H → Prop) (hx1 : ∀ (h : zm_H) (o2 : Option Value), zSh zT0 h → G (1, h) → zg x (d + 4) 8 122 [some (.ref 37), some (.int v1), o2] [] h Q) : ∀ (n : Nat) (h : zm_H) (o2 : Option Value), zSh zT0 h → f_Course_doThings_37_l0_ok v1 n h → G (f_Course_doThings_37_l0 v1 n h) → zg x (d + 4) 8 0 [some (.ref 37), some (.int v1), o2] [] h Q := by
  intro n
  induction n with
  | zero => intro h o2 hs ho hG; exact ho.elim
  | succ n ih =>
    intro h o2 hs ho hG
    refine f_Course_doThings_37_l0_b_t (FN := fun r => (r.1 = 0 → f_Course_doThings_37_l0_ok v1 n r.2) ∧ G (if r.1 = 0 then f_Course_doThings_37_l0 v1 n r.2 else r)) v1 h o2 hs ho.1 ⟨ho.2, hG⟩ ?_ ?_
    · intro h o2 hs hF
      exact ih h o2 hs (hF.1 rfl) hF.2
    · intro h o2 hs hF
      exact hx1 h o2 hs hF.2

set_option maxRecDepth 100000 in
set_option maxHeartbeats 400000 in
theorem f_Course_doThings_37_k122_t {x : zm_X} {d : Nat} (h : zm_H) (o0 : Option Value) (z1 : Int32) (o2 : Option Value) {Q : Option Value → zm_H → Prop} (hs : zSh zT0 h) (ho : f_Course_doThings_37_k122_ok h) (hF : (zSh zT0 (f_Course_doThings_37_k122 h) → Q none (f_Course_doThings_37_k122 h))) : zg x (d + 4) 8 122 [o0, some (.int z1), o2] [] h Q := by
  unfold f_Course_doThings_37_k122 at hF
  unfold f_Course_doThings_37_k122_ok at ho
  exact zg_ret zd_8 rfl rfl (hF hs)
set_option maxRecDepth 100000 in
set_option maxHeartbeats 400000 in
theorem f_Course_doThings_37_t {x : zm_X} {d : Nat} (p1 : Int32) (h : zm_H) {Q : Option Value → zm_H → Prop} (hs : zSh zT0 h) (ho : f_Course_doThings_37_ok p1 h) (hF : (zSh zT0 (f_Course_doThings_37 p1 h) → Q none (f_Course_doThings_37 p1 h))) : zg x (d + 4) 8 0 [some (.ref 37), some (.int p1), none] [] h Q := by
  unfold f_Course_doThings_37 at hF
  unfold f_Course_doThings_37_ok at ho
  refine f_Course_doThings_37_l0_t p1 (fun r => f_Course_doThings_37_a0_ok r ∧ (zSh zT0 (f_Course_doThings_37_a0 r) → Q none (f_Course_doThings_37_a0 r))) ?_ zF h (none) hs ho.1 ⟨ho.2, hF⟩
  · intro h_ o2_ hs hG
    have ho : True := trivial
    have hF : (zSh zT0 ((f_Course_doThings_37_k122 h_)) → Q none ((f_Course_doThings_37_k122 h_))) := hG.2
    exact f_Course_doThings_37_k122_t h_ (some (.ref 37)) p1 (o2_) hs trivial hF
set_option maxRecDepth 100000 in
set_option maxHeartbeats 400000 in
theorem f_N_lay_k97_t {x : zm_X} {d : Nat} (h : zm_H) (o1 : Option Value) (o2 : Option Value) (o3 : Option Value) {Q : Option Value → zm_H → Prop} (hs : zSh zT0 h) (ho : f_N_lay_k97_ok h) (hF : (zSh zT0 (f_N_lay_k97 h).2 → Q (some (.int (f_N_lay_k97 h).1)) (f_N_lay_k97 h).2)) : zg x (d + 5) 137 97 [some (.ref 0), o1, o2, o3] [] h Q := by
  unfold f_N_lay_k97 at hF
  unfold f_N_lay_k97_ok at ho
  refine zg_blk zd_137 4 hs (rfl : zb x zT0 zc_137 4 (97, [some (.ref 0), o1, o2, o3], [], h) = some (105, [some (.ref 0), o1, o2, o3], [.int (zf h 0 0), .ref 37], h)) (fun hs => ?_)
  have hob := ho
  refine zg_call hs zd_137 rfl rfl rfl rfl (as := [.ref 37, .int (zf h 0 0)]) (rest := []) (en := [some (.ref 37), some (.int (zf h 0 0)), none]) rfl rfl rfl rfl rfl ?_
  refine f_Course_doThings_37_t (zf h 0 0) h hs hob (fun hs => ?_)
  show zg x (d + 5) 137 108 [some (.ref 0), o1, o2, o3] [] (f_Course_doThings_37 (zf h 0 0) h) Q
  refine zg_blk zd_137 3 hs (rfl : zb x zT0 zc_137 3 (108, [some (.ref 0), o1, o2, o3], [], (f_Course_doThings_37 (zf h 0 0) h)) = some (115, [some (.ref 0), o1, o2, o3], [.int (zf (f_Course_doThings_37 (zf h 0 0) h) 23 4)], (f_Course_doThings_37 (zf h 0 0) h))) (fun hs => ?_)
  exact zg_ret zd_137 rfl rfl (hF hs)
set_option maxRecDepth 100000 in
set_option maxHeartbeats 400000 in
theorem f_N_lay_t {x : zm_X} {d : Nat} (p1 : Int32) (p2 : Int32) (p3 : Int32) (h : zm_H) {Q : Option Value → zm_H → Prop} (hs : zSh zT0 h) (ho : f_N_lay_ok p1 p2 p3 h) (hF : (zSh zT0 (f_N_lay p1 p2 p3 h).2 → Q (some (.int (f_N_lay p1 p2 p3 h).1)) (f_N_lay p1 p2 p3 h).2)) : zg x (d + 5) 137 0 [some (.ref 0), some (.int p1), some (.int p2), some (.int p3)] [] h Q := by
  unfold f_N_lay at hF
  unfold f_N_lay_ok at ho
  refine zg_blk zd_137 2 hs (rfl : zb x zT0 zc_137 2 (0, [some (.ref 0), some (.int p1), some (.int p2), some (.int p3)], [], h) = some (2, [some (.ref 0), some (.int p1), some (.int p2), some (.int p3)], [.int p1, .ref 0], h)) (fun hs => ?_)
  refine zg_call hs zd_137 rfl rfl rfl rfl (as := [.ref 0, .int p1]) (rest := []) (en := [some (.ref 0), some (.int p1)]) rfl rfl rfl rfl rfl ?_
  refine f_N_isRaft_t p1 h hs trivial ?_
  show zg x (d + 5) 137 5 [some (.ref 0), some (.int p1), some (.int p2), some (.int p3)] [.int (if (¬ (p1 < 0) ∧ (¬ ((zf h 23 0) ≤ p1))) then (1 : Int32) else 0)] h Q
  refine zg_b_eq zd_137 rfl (fun (hc : ¬ (¬ (p1 < 0) ∧ (¬ ((zf h 23 0) ≤ p1)))) => ?_) (fun (hc : (¬ (p1 < 0) ∧ (¬ ((zf h 23 0) ≤ p1)))) => ?_)
  · have ho := ho.2 hc
    rw [if_neg hc] at hF
    refine zg_blk zd_137 1 hs (rfl : zb x zT0 zc_137 1 (22, [some (.ref 0), some (.int p1), some (.int p2), some (.int p3)], [], h) = some (23, [some (.ref 0), some (.int p1), some (.int p2), some (.int p3)], [.int (-1)], h)) (fun hs => ?_)
    exact zg_ret zd_137 rfl rfl (hF hs)
  · have ho := ho.1 hc
    rw [if_pos hc] at hF
    refine zg_blk zd_137 1 hs (rfl : zb x zT0 zc_137 1 (8, [some (.ref 0), some (.int p1), some (.int p2), some (.int p3)], [], h) = some (9, [some (.ref 0), some (.int p1), some (.int p2), some (.int p3)], [.int p2], h)) (fun hs => ?_)
    refine zg_call hs zd_137 rfl rfl rfl rfl (as := [.int p2]) (rest := []) (en := [some (.int p2)]) rfl rfl rfl rfl rfl ?_
    refine f_N_isPlace_t p2 h hs trivial ?_
    show zg x (d + 5) 137 12 [some (.ref 0), some (.int p1), some (.int p2), some (.int p3)] [.int (if (¬ (p2 < 0) ∧ (¬ (100 ≤ p2) ∧ (¬ (5 ≤ (zm_rm p2 10))))) then (1 : Int32) else 0)] h Q
    refine zg_b_eq zd_137 rfl (fun (hc : ¬ (¬ (p2 < 0) ∧ (¬ (100 ≤ p2) ∧ (¬ (5 ≤ (zm_rm p2 10)))))) => ?_) (fun (hc : (¬ (p2 < 0) ∧ (¬ (100 ≤ p2) ∧ (¬ (5 ≤ (zm_rm p2 10)))))) => ?_)
    · have ho := ho.2 hc
      rw [if_neg hc] at hF
      refine zg_blk zd_137 1 hs (rfl : zb x zT0 zc_137 1 (22, [some (.ref 0), some (.int p1), some (.int p2), some (.int p3)], [], h) = some (23, [some (.ref 0), some (.int p1), some (.int p2), some (.int p3)], [.int (-1)], h)) (fun hs => ?_)
      exact zg_ret zd_137 rfl rfl (hF hs)
    · have ho := ho.1 hc
      rw [if_pos hc] at hF
      refine zg_blk zd_137 1 hs (rfl : zb x zT0 zc_137 1 (15, [some (.ref 0), some (.int p1), some (.int p2), some (.int p3)], [], h) = some (16, [some (.ref 0), some (.int p1), some (.int p2), some (.int p3)], [.int p3], h)) (fun hs => ?_)
      refine zg_call hs zd_137 rfl rfl rfl rfl (as := [.int p3]) (rest := []) (en := [some (.int p3)]) rfl rfl rfl rfl rfl ?_
      refine f_N_isStrength_t p3 h hs trivial ?_
      show zg x (d + 5) 137 19 [some (.ref 0), some (.int p1), some (.int p2), some (.int p3)] [.int (if (¬ (p3 < 10) ∧ (¬ (5000 < p3))) then (1 : Int32) else 0)] h Q
      refine zg_b_ne zd_137 rfl (fun (hc : (¬ (p3 < 10) ∧ (¬ (5000 < p3)))) => ?_) (fun (hc : ¬ (¬ (p3 < 10) ∧ (¬ (5000 < p3)))) => ?_)
      · have ho := ho.1 hc
        rw [if_pos hc] at hF
        refine zg_blk zd_137 3 hs (rfl : zb x zT0 zc_137 3 (24, [some (.ref 0), some (.int p1), some (.int p2), some (.int p3)], [], h) = some (31, [some (.ref 0), some (.int p1), some (.int p2), some (.int p3)], [.int 480, .int (zf h 0 0)], h)) (fun hs => ?_)
        refine zg_i_ge zd_137 rfl (fun (hc : (480 ≤ (zf h 0 0))) => ?_) (fun (hc : ¬ (480 ≤ (zf h 0 0))) => ?_)
        · have ho := ho.1 hc
          rw [if_pos hc] at hF
          refine zg_blk zd_137 1 hs (rfl : zb x zT0 zc_137 1 (44, [some (.ref 0), some (.int p1), some (.int p2), some (.int p3)], [], h) = some (45, [some (.ref 0), some (.int p1), some (.int p2), some (.int p3)], [.int (-1)], h)) (fun hs => ?_)
          exact zg_ret zd_137 rfl rfl (hF hs)
        · have ho := ho.2 hc
          rw [if_neg hc] at hF
          refine zg_blk zd_137 2 hs (rfl : zb x zT0 zc_137 2 (34, [some (.ref 0), some (.int p1), some (.int p2), some (.int p3)], [], h) = some (38, [some (.ref 0), some (.int p1), some (.int p2), some (.int p3)], [.ref 23], h)) (fun hs => ?_)
          refine zg_call hs zd_137 rfl rfl rfl rfl (as := [.ref 23]) (rest := []) (en := [some (.ref 23)]) rfl rfl rfl rfl rfl ?_
          refine f_Log_hasRoomForThing_t  h hs trivial ?_
          show zg x (d + 5) 137 41 [some (.ref 0), some (.int p1), some (.int p2), some (.int p3)] [.int (if (¬ (200 ≤ (zf h 23 4))) then (1 : Int32) else 0)] h Q
          refine zg_b_ne zd_137 rfl (fun (hc : (¬ (200 ≤ (zf h 23 4)))) => ?_) (fun (hc : ¬ (¬ (200 ≤ (zf h 23 4)))) => ?_)
          · have ho := ho.1 hc
            rw [if_pos hc] at hF
            refine zg_blk zd_137 5 hs (rfl : zb x zT0 zc_137 5 (46, [some (.ref 0), some (.int p1), some (.int p2), some (.int p3)], [], h) = some (53, [some (.ref 0), some (.int p1), some (.int p2), some (.int p3)], [.int p2, .int p1, .int 5, .ref 37], h)) (fun hs => ?_)
            obtain ⟨hob, ho⟩ := ho
            refine zg_call hs zd_137 rfl rfl rfl rfl (as := [.ref 37, .int 5, .int p1, .int p2]) (rest := []) (en := [some (.ref 37), some (.int 5), some (.int p1), some (.int p2)]) rfl rfl rfl rfl rfl ?_
            refine f_Course_isDoable_37_t 5 p1 p2 h hs hob ?_
            show zg x (d + 5) 137 56 [some (.ref 0), some (.int p1), some (.int p2), some (.int p3)] [.int (f_Course_isDoable_37 5 p1 p2 h)] h Q
            refine zg_f_eq zd_137 rfl (fun (hc : ((f_Course_isDoable_37 5 p1 p2 h) = 0)) => ?_) (fun (hc : ¬ ((f_Course_isDoable_37 5 p1 p2 h) = 0)) => ?_)
            · have ho := ho.1 hc
              rw [if_pos hc] at hF
              refine zg_blk zd_137 1 hs (rfl : zb x zT0 zc_137 1 (80, [some (.ref 0), some (.int p1), some (.int p2), some (.int p3)], [], h) = some (81, [some (.ref 0), some (.int p1), some (.int p2), some (.int p3)], [.int (-1)], h)) (fun hs => ?_)
              exact zg_ret zd_137 rfl rfl (hF hs)
            · have ho := ho.2 hc
              rw [if_neg hc] at hF
              refine zg_blk zd_137 9 hs (rfl : zb x zT0 zc_137 9 (59, [some (.ref 0), some (.int p1), some (.int p2), some (.int p3)], [], h) = some (74, [some (.ref 0), some (.int p1), some (.int p2), some (.int p3)], [.int ((zf h 0 0) / 8), .int (p2 / 10), .ref 82], h)) (fun hs => ?_)
              obtain ⟨hob, ho⟩ := ho
              refine zg_call hs zd_137 rfl rfl rfl rfl (as := [.ref 82, .int (p2 / 10), .int ((zf h 0 0) / 8)]) (rest := []) (en := [some (.ref 82), some (.int (p2 / 10)), some (.int ((zf h 0 0) / 8)), none]) rfl rfl rfl rfl rfl ?_
              refine f_Ground_isShut_t (p2 / 10) ((zf h 0 0) / 8) h hs hob ?_
              show zg x (d + 5) 137 77 [some (.ref 0), some (.int p1), some (.int p2), some (.int p3)] [.int (f_Ground_isShut (p2 / 10) ((zf h 0 0) / 8) h)] h Q
              refine zg_f_eq zd_137 rfl (fun (hc : ((f_Ground_isShut (p2 / 10) ((zf h 0 0) / 8) h) = 0)) => ?_) (fun (hc : ¬ ((f_Ground_isShut (p2 / 10) ((zf h 0 0) / 8) h) = 0)) => ?_)
              · have ho := ho.1 hc
                rw [if_pos hc] at hF
                refine zg_blk zd_137 8 hs (rfl : zb x zT0 zc_137 8 (82, [some (.ref 0), some (.int p1), some (.int p2), some (.int p3)], [], h) = some (94, [some (.ref 0), some (.int p1), some (.int p2), some (.int p3)], [.int p3, .int p2, .int p1, .int 5, .int (zf h 0 0), .ref 23], h)) (fun hs => ?_)
                obtain ⟨hob, ho⟩ := ho
                refine zg_call hs zd_137 rfl rfl rfl rfl (as := [.ref 23, .int (zf h 0 0), .int 5, .int p1, .int p2, .int p3]) (rest := []) (en := [some (.ref 23), some (.int (zf h 0 0)), some (.int 5), some (.int p1), some (.int p2), some (.int p3)]) rfl rfl rfl rfl rfl ?_
                refine f_Log_addThing_t (zf h 0 0) 5 p1 p2 p3 h hs hob (fun hs => ?_)
                show zg x (d + 5) 137 97 [some (.ref 0), some (.int p1), some (.int p2), some (.int p3)] [] (f_Log_addThing (zf h 0 0) 5 p1 p2 p3 h) Q
                exact f_N_lay_k97_t (f_Log_addThing (zf h 0 0) 5 p1 p2 p3 h) (some (.int p1)) (some (.int p2)) (some (.int p3)) hs ho hF
              · have ho := ho.2 hc
                rw [if_neg hc] at hF
                refine zg_blk zd_137 1 hs (rfl : zb x zT0 zc_137 1 (80, [some (.ref 0), some (.int p1), some (.int p2), some (.int p3)], [], h) = some (81, [some (.ref 0), some (.int p1), some (.int p2), some (.int p3)], [.int (-1)], h)) (fun hs => ?_)
                exact zg_ret zd_137 rfl rfl (hF hs)
          · have ho := ho.2 hc
            rw [if_neg hc] at hF
            refine zg_blk zd_137 1 hs (rfl : zb x zT0 zc_137 1 (44, [some (.ref 0), some (.int p1), some (.int p2), some (.int p3)], [], h) = some (45, [some (.ref 0), some (.int p1), some (.int p2), some (.int p3)], [.int (-1)], h)) (fun hs => ?_)
            exact zg_ret zd_137 rfl rfl (hF hs)
      · have ho := ho.2 hc
        rw [if_neg hc] at hF
        refine zg_blk zd_137 1 hs (rfl : zb x zT0 zc_137 1 (22, [some (.ref 0), some (.int p1), some (.int p2), some (.int p3)], [], h) = some (23, [some (.ref 0), some (.int p1), some (.int p2), some (.int p3)], [.int (-1)], h)) (fun hs => ?_)
        exact zg_ret zd_137 rfl rfl (hF hs)
theorem zd_204 : zm_cd 204 = zc_204 := by rfl
theorem zd_205 : zm_cd 205 = zc_205 := by rfl
set_option maxRecDepth 100000 in
set_option maxHeartbeats 400000 in
theorem f_M_isRaft_t {x : zm_X} {d : Nat} (p1 : Int32) (h : zm_H) {Q : Option Value → zm_H → Prop} (hs : zSh zT0 h) (ho : f_M_isRaft_ok p1 h) (hF : Q (some (.int (f_M_isRaft p1 h))) h) : zg x (d + 2) 205 0 [some (.ref 92), some (.int p1)] [] h Q := by
  unfold f_M_isRaft at hF
  unfold f_M_isRaft_ok at ho
  refine zg_blk zd_205 6 hs (rfl : zb x zT0 zc_205 6 (0, [some (.ref 92), some (.int p1)], [], h) = some (8, [some (.ref 92), some (.int p1)], [.int ((zf h 92 33) - 1), .int 0, .int p1], h)) (fun hs => ?_)
  refine zg_call hs zd_205 rfl rfl rfl rfl (as := [.int p1, .int 0, .int ((zf h 92 33) - 1)]) (rest := []) (en := [some (.int p1), some (.int 0), some (.int ((zf h 92 33) - 1))]) rfl rfl rfl rfl rfl ?_
  refine f_M_in_t p1 0 ((zf h 92 33) - 1) h hs trivial ?_
  show zg x (d + 2) 205 11 [some (.ref 92), some (.int p1)] [.int (if (¬ (p1 < 0) ∧ (¬ (((zf h 92 33) - 1) < p1))) then (1 : Int32) else 0)] h Q
  exact zg_rtz zd_205 rfl rfl zm_nb01 hF
theorem zd_206 : zm_cd 206 = zc_206 := by rfl
set_option maxRecDepth 100000 in
set_option maxHeartbeats 400000 in
theorem f_M_isPlace_t {x : zm_X} {d : Nat} (p0 : Int32) (h : zm_H) {Q : Option Value → zm_H → Prop} (hs : zSh zT0 h) (ho : f_M_isPlace_ok p0 h) (hF : Q (some (.int (f_M_isPlace p0 h))) h) : zg x (d + 1) 206 0 [some (.int p0)] [] h Q := by
  unfold f_M_isPlace at hF
  unfold f_M_isPlace_ok at ho
  refine zg_blk zd_206 1 hs (rfl : zb x zT0 zc_206 1 (0, [some (.int p0)], [], h) = some (1, [some (.int p0)], [.int p0], h)) (fun hs => ?_)
  have K45 : zSh zT0 h → zg x (d + 1) 206 26 [some (.int p0)] [.int (if (¬ (p0 < 0) ∧ (¬ (10 ≤ (p0 / 10)) ∧ (¬ (5 ≤ (zm_rm p0 10))))) then (1 : Int32) else 0)] h Q := fun hs => by
    exact zg_rtz zd_206 rfl rfl zm_nb01 hF
  refine zg_f_lt zd_206 rfl (fun (hc : (p0 < 0)) => ?_) (fun (hc : ¬ (p0 < 0)) => ?_)
  · skip
    rw [show ((if (¬ (p0 < 0) ∧ (¬ (10 ≤ (p0 / 10)) ∧ (¬ (5 ≤ (zm_rm p0 10))))) then (1 : Int32) else 0) : Int32) = 0 from zb_nand_t hc] at K45
    refine zg_blk zd_206 1 hs (rfl : zb x zT0 zc_206 1 (25, [some (.int p0)], [], h) = some (26, [some (.int p0)], [.int 0], h)) (fun hs => ?_)
    exact K45 hs
  · skip
    rw [show ((if (¬ (p0 < 0) ∧ (¬ (10 ≤ (p0 / 10)) ∧ (¬ (5 ≤ (zm_rm p0 10))))) then (1 : Int32) else 0) : Int32) = (if (¬ (10 ≤ (p0 / 10)) ∧ (¬ (5 ≤ (zm_rm p0 10)))) then (1 : Int32) else 0) from zb_nand_f hc] at K45
    refine zg_blk zd_206 4 hs (rfl : zb x zT0 zc_206 4 (4, [some (.int p0)], [], h) = some (10, [some (.int p0)], [.int 10, .int (p0 / 10)], h)) (fun hs => ?_)
    refine zg_i_ge zd_206 rfl (fun (hc : (10 ≤ (p0 / 10))) => ?_) (fun (hc : ¬ (10 ≤ (p0 / 10))) => ?_)
    · skip
      rw [show ((if (¬ (10 ≤ (p0 / 10)) ∧ (¬ (5 ≤ (zm_rm p0 10)))) then (1 : Int32) else 0) : Int32) = 0 from zb_nand_t hc] at K45
      refine zg_blk zd_206 1 hs (rfl : zb x zT0 zc_206 1 (25, [some (.int p0)], [], h) = some (26, [some (.int p0)], [.int 0], h)) (fun hs => ?_)
      exact K45 hs
    · skip
      rw [show ((if (¬ (10 ≤ (p0 / 10)) ∧ (¬ (5 ≤ (zm_rm p0 10)))) then (1 : Int32) else 0) : Int32) = (if (¬ (5 ≤ (zm_rm p0 10))) then (1 : Int32) else 0) from zb_nand_f hc] at K45
      refine zg_blk zd_206 4 hs (rfl : zb x zT0 zc_206 4 (13, [some (.int p0)], [], h) = some (18, [some (.int p0)], [.int 5, .int (zm_rm p0 10)], h)) (fun hs => ?_)
      refine zg_i_ge zd_206 rfl (fun (hc : (5 ≤ (zm_rm p0 10))) => ?_) (fun (hc : ¬ (5 ≤ (zm_rm p0 10))) => ?_)
      · skip
        rw [show ((if (¬ (5 ≤ (zm_rm p0 10))) then (1 : Int32) else 0) : Int32) = 0 from zb_not_t hc] at K45
        refine zg_blk zd_206 1 hs (rfl : zb x zT0 zc_206 1 (25, [some (.int p0)], [], h) = some (26, [some (.int p0)], [.int 0], h)) (fun hs => ?_)
        exact K45 hs
      · skip
        rw [show ((if (¬ (5 ≤ (zm_rm p0 10))) then (1 : Int32) else 0) : Int32) = 1 from zb_not_f hc] at K45
        refine zg_blk zd_206 2 hs (rfl : zb x zT0 zc_206 2 (21, [some (.int p0)], [], h) = some (26, [some (.int p0)], [.int 1], h)) (fun hs => ?_)
        exact K45 hs
theorem zd_207 : zm_cd 207 = zc_207 := by rfl
set_option maxRecDepth 100000 in
set_option maxHeartbeats 400000 in
theorem f_M_isShut_l2_k50_t {x : zm_X} {d : Nat} (v1 : Int32) (v2 : Int32) (h : zm_H) {Q : Option Value → zm_H → Prop} {FN : Nat × Int32 → Prop} (hs : zSh zT0 h) (ho : f_M_isShut_l2_k50_ok v1 v2 h) (hF : FN (f_M_isShut_l2_k50 v1 v2 h)) (hl0 : ∀ (v2 : Int32), zSh zT0 h → FN (0, v2) → zg x (d + 2) 207 2 [some (.ref 92), some (.int v1), some (.int v2)] [] h Q) (hl1 : ∀ (v2 : Int32) (o2 : Option Value), zSh zT0 h → FN (1, v2) → zg x (d + 2) 207 48 [some (.ref 92), some (.int v1), o2] [] h Q) (hl2 : ∀ (v2 : Int32) (o2 : Option Value), zSh zT0 h → FN (2, v2) → zg x (d + 2) 207 56 [some (.ref 92), some (.int v1), o2] [] h Q) : zg x (d + 2) 207 50 [some (.ref 92), some (.int v1), some (.int v2)] [] h Q := by
  unfold f_M_isShut_l2_k50 at hF
  unfold f_M_isShut_l2_k50_ok at ho
  refine zg_blk zd_207 2 hs (rfl : zb x zT0 zc_207 2 (50, [some (.ref 92), some (.int v1), some (.int v2)], [], h) = some (2, [some (.ref 92), some (.int v1), some (.int (v2 + 1))], [], h)) (fun hs => ?_)
  exact hl0 (v2 + 1) hs hF
set_option maxRecDepth 100000 in
set_option maxHeartbeats 400000 in
theorem f_M_isShut_l2_b_t {x : zm_X} {d : Nat} (v1 : Int32) (v2 : Int32) (h : zm_H) {Q : Option Value → zm_H → Prop} {FN : Nat × Int32 → Prop} (hs : zSh zT0 h) (ho : f_M_isShut_l2_b_ok v1 v2 h) (hF : FN (f_M_isShut_l2_b v1 v2 h)) (hl0 : ∀ (v2 : Int32), zSh zT0 h → FN (0, v2) → zg x (d + 2) 207 2 [some (.ref 92), some (.int v1), some (.int v2)] [] h Q) (hl1 : ∀ (v2 : Int32) (o2 : Option Value), zSh zT0 h → FN (1, v2) → zg x (d + 2) 207 48 [some (.ref 92), some (.int v1), o2] [] h Q) (hl2 : ∀ (v2 : Int32) (o2 : Option Value), zSh zT0 h → FN (2, v2) → zg x (d + 2) 207 56 [some (.ref 92), some (.int v1), o2] [] h Q) : zg x (d + 2) 207 2 [some (.ref 92), some (.int v1), some (.int v2)] [] h Q := by
  unfold f_M_isShut_l2_b at hF
  unfold f_M_isShut_l2_b_ok at ho
  refine zg_blk zd_207 3 hs (rfl : zb x zT0 zc_207 3 (2, [some (.ref 92), some (.int v1), some (.int v2)], [], h) = some (7, [some (.ref 92), some (.int v1), some (.int v2)], [.int (zf h 92 37), .int v2], h)) (fun hs => ?_)
  refine zg_i_ge zd_207 rfl (fun (hc : ((zf h 92 37) ≤ v2)) => ?_) (fun (hc : ¬ ((zf h 92 37) ≤ v2)) => ?_)
  · have ho := ho.1 hc
    rw [if_pos hc] at hF
    exact hl2 v2 (some (.int v2)) hs hF
  · have ho := ho.2 hc
    rw [if_neg hc] at hF
    refine zg_blk zd_207 3 hs (rfl : zb x zT0 zc_207 3 (10, [some (.ref 92), some (.int v1), some (.int v2)], [], h) = some (15, [some (.ref 92), some (.int v1), some (.int v2)], [.int v2, .ref 115], h)) (fun hs => ?_)
    obtain ⟨hob, ho⟩ := ho
    refine zg_ial hs zd_207 rfl rfl hob ?_
    refine zg_blk zd_207 3 hs (rfl : zb x zT0 zc_207 3 (16, [some (.ref 92), some (.int v1), some (.int v2)], [.int (zr h 115 v2)], h) = some (20, [some (.ref 92), some (.int v1), some (.int v2)], [.int (v1 / 10), .int (zr h 115 v2)], h)) (fun hs => ?_)
    refine zg_i_ne zd_207 rfl (fun (hc : ¬ ((zr h 115 v2) = (v1 / 10))) => ?_) (fun (hc : ((zr h 115 v2) = (v1 / 10))) => ?_)
    · have ho := ho.2 hc
      rw [if_neg hc] at hF
      exact f_M_isShut_l2_k50_t v1 v2 h hs trivial hF hl0 hl1 hl2
    · have ho := ho.1 hc
      rw [if_pos hc] at hF
      refine zg_blk zd_207 7 hs (rfl : zb x zT0 zc_207 7 (23, [some (.ref 92), some (.int v1), some (.int v2)], [], h) = some (35, [some (.ref 92), some (.int v1), some (.int v2)], [.int v2, .ref 116, .int ((zf h 92 23) / 8)], h)) (fun hs => ?_)
      obtain ⟨hob, ho⟩ := ho
      refine zg_ial hs zd_207 rfl rfl hob ?_
      refine zg_blk zd_207 3 hs (rfl : zb x zT0 zc_207 3 (36, [some (.ref 92), some (.int v1), some (.int v2)], [.int (zr h 116 v2), .int ((zf h 92 23) / 8)], h) = some (41, [some (.ref 92), some (.int v1), some (.int v2)], [.int v2, .ref 117, .int (zr h 116 v2), .int ((zf h 92 23) / 8)], h)) (fun hs => ?_)
      have hob := ho
      refine zg_ial hs zd_207 rfl rfl hob ?_
      refine zg_call hs zd_207 rfl rfl rfl rfl (as := [.int ((zf h 92 23) / 8), .int (zr h 116 v2), .int (zr h 117 v2)]) (rest := []) (en := [some (.int ((zf h 92 23) / 8)), some (.int (zr h 116 v2)), some (.int (zr h 117 v2))]) rfl rfl rfl rfl rfl ?_
      refine f_M_in_t ((zf h 92 23) / 8) (zr h 116 v2) (zr h 117 v2) h hs trivial ?_
      show zg x (d + 2) 207 45 [some (.ref 92), some (.int v1), some (.int v2)] [.int (if (¬ (((zf h 92 23) / 8) < (zr h 116 v2)) ∧ (¬ ((zr h 117 v2) < ((zf h 92 23) / 8)))) then (1 : Int32) else 0)] h Q
      refine zg_b_eq zd_207 rfl (fun (hc : ¬ (¬ (((zf h 92 23) / 8) < (zr h 116 v2)) ∧ (¬ ((zr h 117 v2) < ((zf h 92 23) / 8))))) => ?_) (fun (hc : (¬ (((zf h 92 23) / 8) < (zr h 116 v2)) ∧ (¬ ((zr h 117 v2) < ((zf h 92 23) / 8))))) => ?_)
      · skip
        rw [if_neg hc] at hF
        exact f_M_isShut_l2_k50_t v1 v2 h hs trivial hF hl0 hl1 hl2
      · skip
        rw [if_pos hc] at hF
        exact hl1 v2 (some (.int v2)) hs hF
theorem f_M_isShut_l2_t {x : zm_X} {d : Nat} (v1 : Int32) (h : zm_H) {Q : Option Value → zm_H → Prop} (G : Nat × Int32 → Prop) (hx1 : ∀ (v2 : Int32) (o2 : Option Value), zSh zT0 h → G (1, v2) → zg x (d + 2) 207 48 [some (.ref 92), some (.int v1), o2] [] h Q) (hx2 : ∀ (v2 : Int32) (o2 : Option Value), zSh zT0 h → G (2, v2) → zg x (d + 2) 207 56 [some (.ref 92), some (.int v1), o2] [] h Q) : ∀ (n : Nat) (v2 : Int32), zSh zT0 h → f_M_isShut_l2_ok v1 h n v2 → G (f_M_isShut_l2 v1 h n v2) → zg x (d + 2) 207 2 [some (.ref 92), some (.int v1), some (.int v2)] [] h Q := by
  intro n
  induction n with
  | zero => intro v2 hs ho hG; exact ho.elim
  | succ n ih =>
    intro v2 hs ho hG
    refine f_M_isShut_l2_b_t (FN := fun r => (r.1 = 0 → f_M_isShut_l2_ok v1 h n r.2) ∧ G (if r.1 = 0 then f_M_isShut_l2 v1 h n r.2 else r)) v1 v2 h hs ho.1 ⟨ho.2, hG⟩ ?_ ?_ ?_
    · intro v2 hs hF
      exact ih v2 hs (hF.1 rfl) hF.2
    · intro v2 o2 hs hF
      exact hx1 v2 o2 hs hF.2
    · intro v2 o2 hs hF
      exact hx2 v2 o2 hs hF.2

set_option maxRecDepth 100000 in
set_option maxHeartbeats 400000 in
theorem f_M_isShut_k48_t {x : zm_X} {d : Nat} (h : zm_H) (o0 : Option Value) (z1 : Int32) (o2 : Option Value) {Q : Option Value → zm_H → Prop} (hs : zSh zT0 h) (ho : f_M_isShut_k48_ok h) (hF : Q (some (.int (f_M_isShut_k48 h))) h) : zg x (d + 2) 207 48 [o0, some (.int z1), o2] [] h Q := by
  unfold f_M_isShut_k48 at hF
  unfold f_M_isShut_k48_ok at ho
  refine zg_blk zd_207 1 hs (rfl : zb x zT0 zc_207 1 (48, [o0, some (.int z1), o2], [], h) = some (49, [o0, some (.int z1), o2], [.int 1], h)) (fun hs => ?_)
  exact zg_rtz zd_207 rfl rfl rfl hF
set_option maxRecDepth 100000 in
set_option maxHeartbeats 400000 in
theorem f_M_isShut_k56_t {x : zm_X} {d : Nat} (h : zm_H) (o0 : Option Value) (z1 : Int32) (o2 : Option Value) {Q : Option Value → zm_H → Prop} (hs : zSh zT0 h) (ho : f_M_isShut_k56_ok h) (hF : Q (some (.int (f_M_isShut_k56 h))) h) : zg x (d + 2) 207 56 [o0, some (.int z1), o2] [] h Q := by
  unfold f_M_isShut_k56 at hF
  unfold f_M_isShut_k56_ok at ho
  refine zg_blk zd_207 1 hs (rfl : zb x zT0 zc_207 1 (56, [o0, some (.int z1), o2], [], h) = some (57, [o0, some (.int z1), o2], [.int 0], h)) (fun hs => ?_)
  exact zg_rtz zd_207 rfl rfl rfl hF
set_option maxRecDepth 100000 in
set_option maxHeartbeats 400000 in
theorem f_M_isShut_t {x : zm_X} {d : Nat} (p1 : Int32) (h : zm_H) {Q : Option Value → zm_H → Prop} (hs : zSh zT0 h) (ho : f_M_isShut_ok p1 h) (hF : Q (some (.int (f_M_isShut p1 h))) h) : zg x (d + 2) 207 0 [some (.ref 92), some (.int p1), none] [] h Q := by
  unfold f_M_isShut at hF
  unfold f_M_isShut_ok at ho
  refine zg_blk zd_207 2 hs (rfl : zb x zT0 zc_207 2 (0, [some (.ref 92), some (.int p1), none], [], h) = some (2, [some (.ref 92), some (.int p1), some (.int 0)], [], h)) (fun hs => ?_)
  refine f_M_isShut_l2_t p1 h (fun r => f_M_isShut_a2_ok r h ∧ Q (some (.int (f_M_isShut_a2 r h))) h) ?_ ?_ zF 0 hs ho.1 ⟨ho.2, hF⟩
  · intro v2_ o2_ hs hG
    have ho : True := trivial
    have hF : Q (some (.int ((f_M_isShut_k48 h)))) h := hG.2
    exact f_M_isShut_k48_t h (some (.ref 92)) p1 (o2_) hs trivial hF
  · intro v2_ o2_ hs hG
    have ho : True := trivial
    have hF : Q (some (.int ((f_M_isShut_k56 h)))) h := hG.2
    exact f_M_isShut_k56_t h (some (.ref 92)) p1 (o2_) hs trivial hF
theorem zd_208 : zm_cd 208 = zc_208 := by rfl
set_option maxRecDepth 100000 in
set_option maxHeartbeats 400000 in
theorem f_M_isStrength_t {x : zm_X} {d : Nat} (p0 : Int32) (h : zm_H) {Q : Option Value → zm_H → Prop} (hs : zSh zT0 h) (ho : f_M_isStrength_ok p0 h) (hF : Q (some (.int (f_M_isStrength p0 h))) h) : zg x (d + 2) 208 0 [some (.int p0)] [] h Q := by
  unfold f_M_isStrength at hF
  unfold f_M_isStrength_ok at ho
  refine zg_blk zd_208 3 hs (rfl : zb x zT0 zc_208 3 (0, [some (.int p0)], [], h) = some (6, [some (.int p0)], [.int 5000, .int 10, .int p0], h)) (fun hs => ?_)
  refine zg_call hs zd_208 rfl rfl rfl rfl (as := [.int p0, .int 10, .int 5000]) (rest := []) (en := [some (.int p0), some (.int 10), some (.int 5000)]) rfl rfl rfl rfl rfl ?_
  refine f_M_in_t p0 10 5000 h hs trivial ?_
  show zg x (d + 2) 208 9 [some (.int p0)] [.int (if (¬ (p0 < 10) ∧ (¬ (5000 < p0))) then (1 : Int32) else 0)] h Q
  exact zg_rtz zd_208 rfl rfl zm_nb01 hF
theorem zd_209 : zm_cd 209 = zc_209 := by rfl
theorem zd_211 : zm_cd 211 = zc_211 := by rfl
theorem zd_212 : zm_cd 212 = zc_212 := by rfl
set_option maxRecDepth 100000 in
set_option maxHeartbeats 400000 in
theorem f_M_chainAt_t {x : zm_X} {d : Nat} (p0 : Int32) (p1 : Int32) (p2 : Int32) (h : zm_H) {Q : Option Value → zm_H → Prop} (hs : zSh zT0 h) (ho : f_M_chainAt_ok p0 p1 p2 h) (hF : Q (some (.int (f_M_chainAt p0 p1 p2 h))) h) : zg x (d + 1) 212 0 [some (.int p0), some (.int p1), some (.int p2)] [] h Q := by
  unfold f_M_chainAt at hF
  unfold f_M_chainAt_ok at ho
  refine zg_blk zd_212 9 hs (rfl : zb x zT0 zc_212 9 (0, [some (.int p0), some (.int p1), some (.int p2)], [], h) = some (10, [some (.int p0), some (.int p1), some (.int p2)], [.int ((3 * ((10 * p0) + p1)) + p2)], h)) (fun hs => ?_)
  exact zg_ret zd_212 rfl rfl hF
set_option maxRecDepth 100000 in
set_option maxHeartbeats 400000 in
theorem f_M_newChain_t {x : zm_X} {d : Nat} (p1 : Int32) (p2 : Int32) (p3 : Int32) (p4 : Int32) (h : zm_H) {Q : Option Value → zm_H → Prop} (hs : zSh zT0 h) (ho : f_M_newChain_ok p1 p2 p3 p4 h) (hF : (zSh zT0 (f_M_newChain p1 p2 p3 p4 h) → Q none (f_M_newChain p1 p2 p3 p4 h))) : zg x (d + 2) 211 0 [some (.ref 92), some (.int p1), some (.int p2), some (.int p3), some (.int p4), none] [] h Q := by
  unfold f_M_newChain at hF
  unfold f_M_newChain_ok at ho
  refine zg_blk zd_211 3 hs (rfl : zb x zT0 zc_211 3 (0, [some (.ref 92), some (.int p1), some (.int p2), some (.int p3), some (.int p4), none], [], h) = some (3, [some (.ref 92), some (.int p1), some (.int p2), some (.int p3), some (.int p4), none], [.int p3, .int p2, .int p1], h)) (fun hs => ?_)
  refine zg_call hs zd_211 rfl rfl rfl rfl (as := [.int p1, .int p2, .int p3]) (rest := []) (en := [some (.int p1), some (.int p2), some (.int p3)]) rfl rfl rfl rfl rfl ?_
  refine f_M_chainAt_t p1 p2 p3 h hs trivial ?_
  show zg x (d + 2) 211 6 [some (.ref 92), some (.int p1), some (.int p2), some (.int p3), some (.int p4), none] [.int ((3 * ((10 * p1) + p2)) + p3)] h Q
  refine zg_blk zd_211 5 hs (rfl : zb x zT0 zc_211 5 (6, [some (.ref 92), some (.int p1), some (.int p2), some (.int p3), some (.int p4), none], [.int ((3 * ((10 * p1) + p2)) + p3)], h) = some (16, [some (.ref 92), some (.int p1), some (.int p2), some (.int p3), some (.int p4), some (.int ((3 * ((10 * p1) + p2)) + p3))], [.int p4, .int ((3 * ((10 * p1) + p2)) + p3), .ref 128], h)) (fun hs => ?_)
  obtain ⟨hob, ho⟩ := ho
  refine zg_ias hs zd_211 rfl rfl hob (fun hs => ?_)
  refine zg_blk zd_211 4 hs (rfl : zb x zT0 zc_211 4 (17, [some (.ref 92), some (.int p1), some (.int p2), some (.int p3), some (.int p4), some (.int ((3 * ((10 * p1) + p2)) + p3))], [], (zs h 128 ((3 * ((10 * p1) + p2)) + p3) p4)) = some (24, [some (.ref 92), some (.int p1), some (.int p2), some (.int p3), some (.int p4), some (.int ((3 * ((10 * p1) + p2)) + p3))], [.int 0, .int ((3 * ((10 * p1) + p2)) + p3), .ref 129], (zs h 128 ((3 * ((10 * p1) + p2)) + p3) p4))) (fun hs => ?_)
  obtain ⟨hob, ho⟩ := ho
  refine zg_ias hs zd_211 rfl rfl hob (fun hs => ?_)
  refine zg_blk zd_211 4 hs (rfl : zb x zT0 zc_211 4 (25, [some (.ref 92), some (.int p1), some (.int p2), some (.int p3), some (.int p4), some (.int ((3 * ((10 * p1) + p2)) + p3))], [], (zs (zs h 128 ((3 * ((10 * p1) + p2)) + p3) p4) 129 ((3 * ((10 * p1) + p2)) + p3) 0)) = some (32, [some (.ref 92), some (.int p1), some (.int p2), some (.int p3), some (.int p4), some (.int ((3 * ((10 * p1) + p2)) + p3))], [.int (-1), .int ((3 * ((10 * p1) + p2)) + p3), .ref 130], (zs (zs h 128 ((3 * ((10 * p1) + p2)) + p3) p4) 129 ((3 * ((10 * p1) + p2)) + p3) 0))) (fun hs => ?_)
  have hob := ho
  refine zg_ias hs zd_211 rfl rfl hob (fun hs => ?_)
  exact zg_ret zd_211 rfl rfl (hF hs)
set_option maxRecDepth 100000 in
set_option maxHeartbeats 400000 in
theorem f_M_does_l144_k159_t {x : zm_X} {d : Nat} (v1 : Int32) (v3 : Int32) (v7 : Int32) (v8 : Int32) (h : zm_H) (o2 : Option Value) (o4 : Option Value) (z5 : Int32) (o6 : Option Value) {Q : Option Value → zm_H → Prop} {FN : Nat × Int32 × zm_H → Prop} (hs : zSh zT0 h) (ho : f_M_does_l144_k159_ok v1 v3 v7 v8 h) (hF : FN (f_M_does_l144_k159 v1 v3 v7 v8 h)) (hl0 : ∀ (v8 : Int32) (h : zm_H) (o2 : Option Value) (o4 : Option Value) (z5 : Int32) (o6 : Option Value), zSh zT0 h → FN (0, v8, h) → zg x (d + 3) 209 144 [some (.ref 92), some (.int v1), o2, some (.int v3), o4, some (.int z5), o6, some (.int v7), some (.int v8)] [] h Q) (hl1 : ∀ (v8 : Int32) (h : zm_H) (o2 : Option Value) (o4 : Option Value) (z5 : Int32) (o6 : Option Value) (o8 : Option Value), zSh zT0 h → FN (1, v8, h) → zg x (d + 3) 209 165 [some (.ref 92), some (.int v1), o2, some (.int v3), o4, some (.int z5), o6, some (.int v7), o8] [] h Q) : zg x (d + 3) 209 159 [some (.ref 92), some (.int v1), o2, some (.int v3), o4, some (.int z5), o6, some (.int v7), some (.int v8)] [] h Q := by
  unfold f_M_does_l144_k159 at hF
  unfold f_M_does_l144_k159_ok at ho
  refine zg_blk zd_209 2 hs (rfl : zb x zT0 zc_209 2 (159, [some (.ref 92), some (.int v1), o2, some (.int v3), o4, some (.int z5), o6, some (.int v7), some (.int v8)], [], h) = some (144, [some (.ref 92), some (.int v1), o2, some (.int v3), o4, some (.int z5), o6, some (.int v7), some (.int (v8 + 1))], [], h)) (fun hs => ?_)
  exact hl0 (v8 + 1) h (o2) (o4) z5 (o6) hs hF
set_option maxRecDepth 100000 in
set_option maxHeartbeats 400000 in
theorem f_M_does_l144_b_t {x : zm_X} {d : Nat} (v1 : Int32) (v3 : Int32) (v7 : Int32) (v8 : Int32) (h : zm_H) (o2 : Option Value) (o4 : Option Value) (z5 : Int32) (o6 : Option Value) {Q : Option Value → zm_H → Prop} {FN : Nat × Int32 × zm_H → Prop} (hs : zSh zT0 h) (ho : f_M_does_l144_b_ok v1 v3 v7 v8 h) (hF : FN (f_M_does_l144_b v1 v3 v7 v8 h)) (hl0 : ∀ (v8 : Int32) (h : zm_H) (o2 : Option Value) (o4 : Option Value) (z5 : Int32) (o6 : Option Value), zSh zT0 h → FN (0, v8, h) → zg x (d + 3) 209 144 [some (.ref 92), some (.int v1), o2, some (.int v3), o4, some (.int z5), o6, some (.int v7), some (.int v8)] [] h Q) (hl1 : ∀ (v8 : Int32) (h : zm_H) (o2 : Option Value) (o4 : Option Value) (z5 : Int32) (o6 : Option Value) (o8 : Option Value), zSh zT0 h → FN (1, v8, h) → zg x (d + 3) 209 165 [some (.ref 92), some (.int v1), o2, some (.int v3), o4, some (.int z5), o6, some (.int v7), o8] [] h Q) : zg x (d + 3) 209 144 [some (.ref 92), some (.int v1), o2, some (.int v3), o4, some (.int z5), o6, some (.int v7), some (.int v8)] [] h Q := by
  unfold f_M_does_l144_b at hF
  unfold f_M_does_l144_b_ok at ho
  refine zg_blk zd_209 2 hs (rfl : zb x zT0 zc_209 2 (144, [some (.ref 92), some (.int v1), o2, some (.int v3), o4, some (.int z5), o6, some (.int v7), some (.int v8)], [], h) = some (147, [some (.ref 92), some (.int v1), o2, some (.int v3), o4, some (.int z5), o6, some (.int v7), some (.int v8)], [.int 3, .int v8], h)) (fun hs => ?_)
  refine zg_i_ge zd_209 rfl (fun (hc : (3 ≤ v8)) => ?_) (fun (hc : ¬ (3 ≤ v8)) => ?_)
  · have ho := ho.1 hc
    rw [if_pos hc] at hF
    exact hl1 v8 h (o2) (o4) z5 (o6) (some (.int v8)) hs hF
  · have ho := ho.2 hc
    rw [if_neg hc] at hF
    refine zg_blk zd_209 5 hs (rfl : zb x zT0 zc_209 5 (150, [some (.ref 92), some (.int v1), o2, some (.int v3), o4, some (.int z5), o6, some (.int v7), some (.int v8)], [], h) = some (156, [some (.ref 92), some (.int v1), o2, some (.int v3), o4, some (.int z5), o6, some (.int v7), some (.int v8)], [.int 0, .int v8, .int v3, .int v1, .ref 92], h)) (fun hs => ?_)
    have hob := ho
    refine zg_call hs zd_209 rfl rfl rfl rfl (as := [.ref 92, .int v1, .int v3, .int v8, .int 0]) (rest := []) (en := [some (.ref 92), some (.int v1), some (.int v3), some (.int v8), some (.int 0), none]) rfl rfl rfl rfl rfl ?_
    refine f_M_newChain_t v1 v3 v8 0 h hs hob (fun hs => ?_)
    show zg x (d + 3) 209 159 [some (.ref 92), some (.int v1), o2, some (.int v3), o4, some (.int z5), o6, some (.int v7), some (.int v8)] [] (f_M_newChain v1 v3 v8 0 h) Q
    exact f_M_does_l144_k159_t v1 v3 v7 v8 (f_M_newChain v1 v3 v8 0 h) (o2) (o4) z5 (o6) hs trivial hF hl0 hl1
theorem f_M_does_l144_t {x : zm_X} {d : Nat} (v1 : Int32) (v3 : Int32) (v7 : Int32) {Q : Option Value → zm_H → Prop} (G : Nat × Int32 × zm_H → Prop) (hx1 : ∀ (v8 : Int32) (h : zm_H) (o2 : Option Value) (o4 : Option Value) (z5 : Int32) (o6 : Option Value) (o8 : Option Value), zSh zT0 h → G (1, v8, h) → zg x (d + 3) 209 165 [some (.ref 92), some (.int v1), o2, some (.int v3), o4, some (.int z5), o6, some (.int v7), o8] [] h Q) : ∀ (n : Nat) (v8 : Int32) (h : zm_H) (o2 : Option Value) (o4 : Option Value) (z5 : Int32) (o6 : Option Value), zSh zT0 h → f_M_does_l144_ok v1 v3 v7 n (v8, h) → G (f_M_does_l144 v1 v3 v7 n (v8, h)) → zg x (d + 3) 209 144 [some (.ref 92), some (.int v1), o2, some (.int v3), o4, some (.int z5), o6, some (.int v7), some (.int v8)] [] h Q := by
  intro n
  induction n with
  | zero => intro v8 h o2 o4 z5 o6 hs ho hG; exact ho.elim
  | succ n ih =>
    intro v8 h o2 o4 z5 o6 hs ho hG
    refine f_M_does_l144_b_t (FN := fun r => (r.1 = 0 → f_M_does_l144_ok v1 v3 v7 n r.2) ∧ G (if r.1 = 0 then f_M_does_l144 v1 v3 v7 n r.2 else r)) v1 v3 v7 v8 h o2 o4 z5 o6 hs ho.1 ⟨ho.2, hG⟩ ?_ ?_
    · intro v8 h o2 o4 z5 o6 hs hF
      exact ih v8 h o2 o4 z5 o6 hs (hF.1 rfl) hF.2
    · intro v8 h o2 o4 z5 o6 o8 hs hF
      exact hx1 v8 h o2 o4 z5 o6 o8 hs hF.2

theorem zd_210 : zm_cd 210 = zc_210 := by rfl
set_option maxRecDepth 100000 in
set_option maxHeartbeats 400000 in
theorem f_M_isTaken_l2_b_t {x : zm_X} {d : Nat} (v1 : Int32) (v2 : Int32) (v3 : Int32) (h : zm_H) {Q : Option Value → zm_H → Prop} {FN : Nat × Int32 → Prop} (hs : zSh zT0 h) (ho : f_M_isTaken_l2_b_ok v1 v2 v3 h) (hF : FN (f_M_isTaken_l2_b v1 v2 v3 h)) (hl0 : ∀ (v3 : Int32), zSh zT0 h → FN (0, v3) → zg x (d + 1) 210 2 [some (.ref 92), some (.int v1), some (.int v2), some (.int v3)] [] h Q) (hl1 : ∀ (v3 : Int32) (o3 : Option Value), zSh zT0 h → FN (1, v3) → zg x (d + 1) 210 25 [some (.ref 92), some (.int v1), some (.int v2), o3] [] h Q) (hl2 : ∀ (v3 : Int32) (o3 : Option Value), zSh zT0 h → FN (2, v3) → zg x (d + 1) 210 33 [some (.ref 92), some (.int v1), some (.int v2), o3] [] h Q) : zg x (d + 1) 210 2 [some (.ref 92), some (.int v1), some (.int v2), some (.int v3)] [] h Q := by
  unfold f_M_isTaken_l2_b at hF
  unfold f_M_isTaken_l2_b_ok at ho
  refine zg_blk zd_210 3 hs (rfl : zb x zT0 zc_210 3 (2, [some (.ref 92), some (.int v1), some (.int v2), some (.int v3)], [], h) = some (7, [some (.ref 92), some (.int v1), some (.int v2), some (.int v3)], [.int (zf h 92 33), .int v3], h)) (fun hs => ?_)
  refine zg_i_ge zd_210 rfl (fun (hc : ((zf h 92 33) ≤ v3)) => ?_) (fun (hc : ¬ ((zf h 92 33) ≤ v3)) => ?_)
  · have ho := ho.1 hc
    rw [if_pos hc] at hF
    exact hl2 v3 (some (.int v3)) hs hF
  · have ho := ho.2 hc
    rw [if_neg hc] at hF
    refine zg_blk zd_210 7 hs (rfl : zb x zT0 zc_210 7 (10, [some (.ref 92), some (.int v1), some (.int v2), some (.int v3)], [], h) = some (20, [some (.ref 92), some (.int v1), some (.int v2), some (.int v3)], [.int ((10 * v1) + v3), .ref 124], h)) (fun hs => ?_)
    have hob := ho
    refine zg_ial hs zd_210 rfl rfl hob ?_
    refine zg_blk zd_210 1 hs (rfl : zb x zT0 zc_210 1 (21, [some (.ref 92), some (.int v1), some (.int v2), some (.int v3)], [.int (zr h 124 ((10 * v1) + v3))], h) = some (22, [some (.ref 92), some (.int v1), some (.int v2), some (.int v3)], [.int v2, .int (zr h 124 ((10 * v1) + v3))], h)) (fun hs => ?_)
    refine zg_i_ne zd_210 rfl (fun (hc : ¬ ((zr h 124 ((10 * v1) + v3)) = v2)) => ?_) (fun (hc : ((zr h 124 ((10 * v1) + v3)) = v2)) => ?_)
    · skip
      rw [if_neg hc] at hF
      refine zg_blk zd_210 2 hs (rfl : zb x zT0 zc_210 2 (27, [some (.ref 92), some (.int v1), some (.int v2), some (.int v3)], [], h) = some (2, [some (.ref 92), some (.int v1), some (.int v2), some (.int (v3 + 1))], [], h)) (fun hs => ?_)
      exact hl0 (v3 + 1) hs hF
    · skip
      rw [if_pos hc] at hF
      exact hl1 v3 (some (.int v3)) hs hF
theorem f_M_isTaken_l2_t {x : zm_X} {d : Nat} (v1 : Int32) (v2 : Int32) (h : zm_H) {Q : Option Value → zm_H → Prop} (G : Nat × Int32 → Prop) (hx1 : ∀ (v3 : Int32) (o3 : Option Value), zSh zT0 h → G (1, v3) → zg x (d + 1) 210 25 [some (.ref 92), some (.int v1), some (.int v2), o3] [] h Q) (hx2 : ∀ (v3 : Int32) (o3 : Option Value), zSh zT0 h → G (2, v3) → zg x (d + 1) 210 33 [some (.ref 92), some (.int v1), some (.int v2), o3] [] h Q) : ∀ (n : Nat) (v3 : Int32), zSh zT0 h → f_M_isTaken_l2_ok v1 v2 h n v3 → G (f_M_isTaken_l2 v1 v2 h n v3) → zg x (d + 1) 210 2 [some (.ref 92), some (.int v1), some (.int v2), some (.int v3)] [] h Q := by
  intro n
  induction n with
  | zero => intro v3 hs ho hG; exact ho.elim
  | succ n ih =>
    intro v3 hs ho hG
    refine f_M_isTaken_l2_b_t (FN := fun r => (r.1 = 0 → f_M_isTaken_l2_ok v1 v2 h n r.2) ∧ G (if r.1 = 0 then f_M_isTaken_l2 v1 v2 h n r.2 else r)) v1 v2 v3 h hs ho.1 ⟨ho.2, hG⟩ ?_ ?_ ?_
    · intro v3 hs hF
      exact ih v3 hs (hF.1 rfl) hF.2
    · intro v3 o3 hs hF
      exact hx1 v3 o3 hs hF.2
    · intro v3 o3 hs hF
      exact hx2 v3 o3 hs hF.2

set_option maxRecDepth 100000 in
set_option maxHeartbeats 400000 in
theorem f_M_isTaken_k25_t {x : zm_X} {d : Nat} (h : zm_H) (o0 : Option Value) (o1 : Option Value) (z2 : Int32) (o3 : Option Value) {Q : Option Value → zm_H → Prop} (hs : zSh zT0 h) (ho : f_M_isTaken_k25_ok h) (hF : Q (some (.int (f_M_isTaken_k25 h))) h) : zg x (d + 1) 210 25 [o0, o1, some (.int z2), o3] [] h Q := by
  unfold f_M_isTaken_k25 at hF
  unfold f_M_isTaken_k25_ok at ho
  refine zg_blk zd_210 1 hs (rfl : zb x zT0 zc_210 1 (25, [o0, o1, some (.int z2), o3], [], h) = some (26, [o0, o1, some (.int z2), o3], [.int 1], h)) (fun hs => ?_)
  exact zg_rtz zd_210 rfl rfl rfl hF
set_option maxRecDepth 100000 in
set_option maxHeartbeats 400000 in
theorem f_M_isTaken_k33_t {x : zm_X} {d : Nat} (h : zm_H) (o0 : Option Value) (o1 : Option Value) (z2 : Int32) (o3 : Option Value) {Q : Option Value → zm_H → Prop} (hs : zSh zT0 h) (ho : f_M_isTaken_k33_ok h) (hF : Q (some (.int (f_M_isTaken_k33 h))) h) : zg x (d + 1) 210 33 [o0, o1, some (.int z2), o3] [] h Q := by
  unfold f_M_isTaken_k33 at hF
  unfold f_M_isTaken_k33_ok at ho
  refine zg_blk zd_210 1 hs (rfl : zb x zT0 zc_210 1 (33, [o0, o1, some (.int z2), o3], [], h) = some (34, [o0, o1, some (.int z2), o3], [.int 0], h)) (fun hs => ?_)
  exact zg_rtz zd_210 rfl rfl rfl hF
set_option maxRecDepth 100000 in
set_option maxHeartbeats 400000 in
theorem f_M_isTaken_t {x : zm_X} {d : Nat} (p1 : Int32) (p2 : Int32) (h : zm_H) {Q : Option Value → zm_H → Prop} (hs : zSh zT0 h) (ho : f_M_isTaken_ok p1 p2 h) (hF : Q (some (.int (f_M_isTaken p1 p2 h))) h) : zg x (d + 1) 210 0 [some (.ref 92), some (.int p1), some (.int p2), none] [] h Q := by
  unfold f_M_isTaken at hF
  unfold f_M_isTaken_ok at ho
  refine zg_blk zd_210 2 hs (rfl : zb x zT0 zc_210 2 (0, [some (.ref 92), some (.int p1), some (.int p2), none], [], h) = some (2, [some (.ref 92), some (.int p1), some (.int p2), some (.int 0)], [], h)) (fun hs => ?_)
  refine f_M_isTaken_l2_t p1 p2 h (fun r => f_M_isTaken_a2_ok r h ∧ Q (some (.int (f_M_isTaken_a2 r h))) h) ?_ ?_ zF 0 hs ho.1 ⟨ho.2, hF⟩
  · intro v3_ o3_ hs hG
    have ho : True := trivial
    have hF : Q (some (.int ((f_M_isTaken_k25 h)))) h := hG.2
    exact f_M_isTaken_k25_t h (some (.ref 92)) (some (.int p1)) p2 (o3_) hs trivial hF
  · intro v3_ o3_ hs hG
    have ho : True := trivial
    have hF : Q (some (.int ((f_M_isTaken_k33 h)))) h := hG.2
    exact f_M_isTaken_k33_t h (some (.ref 92)) (some (.int p1)) p2 (o3_) hs trivial hF
set_option maxRecDepth 100000 in
set_option maxHeartbeats 400000 in
theorem f_M_does_l83_k99_t {x : zm_X} {d : Nat} (v1 : Int32) (v3 : Int32) (v5 : Int32) (v7 : Int32) (v8 : Int32) (h : zm_H) (o2 : Option Value) (o4 : Option Value) (o6 : Option Value) {Q : Option Value → zm_H → Prop} {FN : Nat × Int32 × zm_H → Prop} (hs : zSh zT0 h) (ho : f_M_does_l83_k99_ok v1 v3 v5 v7 v8 h) (hF : FN (f_M_does_l83_k99 v1 v3 v5 v7 v8 h)) (hl0 : ∀ (v8 : Int32) (h : zm_H) (o2 : Option Value) (o4 : Option Value) (o6 : Option Value), zSh zT0 h → FN (0, v8, h) → zg x (d + 3) 209 83 [some (.ref 92), some (.int v1), o2, some (.int v3), o4, some (.int v5), o6, some (.int v7), some (.int v8)] [] h Q) (hl1 : ∀ (v8 : Int32) (h : zm_H) (o2 : Option Value) (o4 : Option Value) (o6 : Option Value) (o8 : Option Value), zSh zT0 h → FN (1, v8, h) → zg x (d + 3) 209 105 [some (.ref 92), some (.int v1), o2, some (.int v3), o4, some (.int v5), o6, some (.int v7), o8] [] h Q) : zg x (d + 3) 209 99 [some (.ref 92), some (.int v1), o2, some (.int v3), o4, some (.int v5), o6, some (.int v7), some (.int v8)] [] h Q := by
  unfold f_M_does_l83_k99 at hF
  unfold f_M_does_l83_k99_ok at ho
  refine zg_blk zd_209 2 hs (rfl : zb x zT0 zc_209 2 (99, [some (.ref 92), some (.int v1), o2, some (.int v3), o4, some (.int v5), o6, some (.int v7), some (.int v8)], [], h) = some (83, [some (.ref 92), some (.int v1), o2, some (.int v3), o4, some (.int v5), o6, some (.int v7), some (.int (v8 + 1))], [], h)) (fun hs => ?_)
  exact hl0 (v8 + 1) h (o2) (o4) (o6) hs hF
set_option maxRecDepth 100000 in
set_option maxHeartbeats 400000 in
theorem f_M_does_l83_b_t {x : zm_X} {d : Nat} (v1 : Int32) (v3 : Int32) (v5 : Int32) (v7 : Int32) (v8 : Int32) (h : zm_H) (o2 : Option Value) (o4 : Option Value) (o6 : Option Value) {Q : Option Value → zm_H → Prop} {FN : Nat × Int32 × zm_H → Prop} (hs : zSh zT0 h) (ho : f_M_does_l83_b_ok v1 v3 v5 v7 v8 h) (hF : FN (f_M_does_l83_b v1 v3 v5 v7 v8 h)) (hl0 : ∀ (v8 : Int32) (h : zm_H) (o2 : Option Value) (o4 : Option Value) (o6 : Option Value), zSh zT0 h → FN (0, v8, h) → zg x (d + 3) 209 83 [some (.ref 92), some (.int v1), o2, some (.int v3), o4, some (.int v5), o6, some (.int v7), some (.int v8)] [] h Q) (hl1 : ∀ (v8 : Int32) (h : zm_H) (o2 : Option Value) (o4 : Option Value) (o6 : Option Value) (o8 : Option Value), zSh zT0 h → FN (1, v8, h) → zg x (d + 3) 209 105 [some (.ref 92), some (.int v1), o2, some (.int v3), o4, some (.int v5), o6, some (.int v7), o8] [] h Q) : zg x (d + 3) 209 83 [some (.ref 92), some (.int v1), o2, some (.int v3), o4, some (.int v5), o6, some (.int v7), some (.int v8)] [] h Q := by
  unfold f_M_does_l83_b at hF
  unfold f_M_does_l83_b_ok at ho
  refine zg_blk zd_209 2 hs (rfl : zb x zT0 zc_209 2 (83, [some (.ref 92), some (.int v1), o2, some (.int v3), o4, some (.int v5), o6, some (.int v7), some (.int v8)], [], h) = some (86, [some (.ref 92), some (.int v1), o2, some (.int v3), o4, some (.int v5), o6, some (.int v7), some (.int v8)], [.int 3, .int v8], h)) (fun hs => ?_)
  refine zg_i_ge zd_209 rfl (fun (hc : (3 ≤ v8)) => ?_) (fun (hc : ¬ (3 ≤ v8)) => ?_)
  · have ho := ho.1 hc
    rw [if_pos hc] at hF
    exact hl1 v8 h (o2) (o4) (o6) (some (.int v8)) hs hF
  · have ho := ho.2 hc
    rw [if_neg hc] at hF
    refine zg_blk zd_209 5 hs (rfl : zb x zT0 zc_209 5 (89, [some (.ref 92), some (.int v1), o2, some (.int v3), o4, some (.int v5), o6, some (.int v7), some (.int v8)], [], h) = some (96, [some (.ref 92), some (.int v1), o2, some (.int v3), o4, some (.int v5), o6, some (.int v7), some (.int v8)], [.int v5, .int v8, .int v3, .int v1, .ref 92], h)) (fun hs => ?_)
    have hob := ho
    refine zg_call hs zd_209 rfl rfl rfl rfl (as := [.ref 92, .int v1, .int v3, .int v8, .int v5]) (rest := []) (en := [some (.ref 92), some (.int v1), some (.int v3), some (.int v8), some (.int v5), none]) rfl rfl rfl rfl rfl ?_
    refine f_M_newChain_t v1 v3 v8 v5 h hs hob (fun hs => ?_)
    show zg x (d + 3) 209 99 [some (.ref 92), some (.int v1), o2, some (.int v3), o4, some (.int v5), o6, some (.int v7), some (.int v8)] [] (f_M_newChain v1 v3 v8 v5 h) Q
    exact f_M_does_l83_k99_t v1 v3 v5 v7 v8 (f_M_newChain v1 v3 v8 v5 h) (o2) (o4) (o6) hs trivial hF hl0 hl1
theorem f_M_does_l83_t {x : zm_X} {d : Nat} (v1 : Int32) (v3 : Int32) (v5 : Int32) (v7 : Int32) {Q : Option Value → zm_H → Prop} (G : Nat × Int32 × zm_H → Prop) (hx1 : ∀ (v8 : Int32) (h : zm_H) (o2 : Option Value) (o4 : Option Value) (o6 : Option Value) (o8 : Option Value), zSh zT0 h → G (1, v8, h) → zg x (d + 3) 209 105 [some (.ref 92), some (.int v1), o2, some (.int v3), o4, some (.int v5), o6, some (.int v7), o8] [] h Q) : ∀ (n : Nat) (v8 : Int32) (h : zm_H) (o2 : Option Value) (o4 : Option Value) (o6 : Option Value), zSh zT0 h → f_M_does_l83_ok v1 v3 v5 v7 n (v8, h) → G (f_M_does_l83 v1 v3 v5 v7 n (v8, h)) → zg x (d + 3) 209 83 [some (.ref 92), some (.int v1), o2, some (.int v3), o4, some (.int v5), o6, some (.int v7), some (.int v8)] [] h Q := by
  intro n
  induction n with
  | zero => intro v8 h o2 o4 o6 hs ho hG; exact ho.elim
  | succ n ih =>
    intro v8 h o2 o4 o6 hs ho hG
    refine f_M_does_l83_b_t (FN := fun r => (r.1 = 0 → f_M_does_l83_ok v1 v3 v5 v7 n r.2) ∧ G (if r.1 = 0 then f_M_does_l83 v1 v3 v5 v7 n r.2 else r)) v1 v3 v5 v7 v8 h o2 o4 o6 hs ho.1 ⟨ho.2, hG⟩ ?_ ?_
    · intro v8 h o2 o4 o6 hs hF
      exact ih v8 h o2 o4 o6 hs (hF.1 rfl) hF.2
    · intro v8 h o2 o4 o6 o8 hs hF
      exact hx1 v8 h o2 o4 o6 o8 hs hF.2

set_option maxRecDepth 100000 in
set_option maxHeartbeats 400000 in
theorem f_M_does_k165_t {x : zm_X} {d : Nat} (h : zm_H) (o0 : Option Value) (o1 : Option Value) (o2 : Option Value) (o3 : Option Value) (o4 : Option Value) (z5 : Int32) (o6 : Option Value) (o7 : Option Value) (o8 : Option Value) {Q : Option Value → zm_H → Prop} (hs : zSh zT0 h) (ho : f_M_does_k165_ok h) (hF : (zSh zT0 (f_M_does_k165 h).2 → Q (some (.int (f_M_does_k165 h).1)) (f_M_does_k165 h).2)) : zg x (d + 3) 209 165 [o0, o1, o2, o3, o4, some (.int z5), o6, o7, o8] [] h Q := by
  unfold f_M_does_k165 at hF
  unfold f_M_does_k165_ok at ho
  refine zg_blk zd_209 2 hs (rfl : zb x zT0 zc_209 2 (165, [o0, o1, o2, o3, o4, some (.int z5), o6, o7, o8], [], h) = some (202, [o0, o1, o2, o3, o4, some (.int z5), o6, o7, o8], [.int 1], h)) (fun hs => ?_)
  exact zg_rtz zd_209 rfl rfl rfl (hF hs)
set_option maxRecDepth 100000 in
set_option maxHeartbeats 400000 in
theorem f_M_does_k105_t {x : zm_X} {d : Nat} (h : zm_H) (o0 : Option Value) (o1 : Option Value) (o2 : Option Value) (o3 : Option Value) (o4 : Option Value) (z5 : Int32) (o6 : Option Value) (o7 : Option Value) (o8 : Option Value) {Q : Option Value → zm_H → Prop} (hs : zSh zT0 h) (ho : f_M_does_k105_ok h) (hF : (zSh zT0 (f_M_does_k105 h).2 → Q (some (.int (f_M_does_k105 h).1)) (f_M_does_k105 h).2)) : zg x (d + 3) 209 105 [o0, o1, o2, o3, o4, some (.int z5), o6, o7, o8] [] h Q := by
  unfold f_M_does_k105 at hF
  unfold f_M_does_k105_ok at ho
  refine zg_blk zd_209 2 hs (rfl : zb x zT0 zc_209 2 (105, [o0, o1, o2, o3, o4, some (.int z5), o6, o7, o8], [], h) = some (202, [o0, o1, o2, o3, o4, some (.int z5), o6, o7, o8], [.int 1], h)) (fun hs => ?_)
  exact zg_rtz zd_209 rfl rfl rfl (hF hs)
set_option maxRecDepth 100000 in
set_option maxHeartbeats 400000 in
theorem f_M_does_t {x : zm_X} {d : Nat} (p1 : Int32) (p2 : Int32) (p3 : Int32) (p4 : Int32) (p5 : Int32) (h : zm_H) {Q : Option Value → zm_H → Prop} (hs : zSh zT0 h) (ho : f_M_does_ok p1 p2 p3 p4 p5 h) (hF : (zSh zT0 (f_M_does p1 p2 p3 p4 p5 h).2 → Q (some (.int (f_M_does p1 p2 p3 p4 p5 h).1)) (f_M_does p1 p2 p3 p4 p5 h).2)) : zg x (d + 3) 209 0 [some (.ref 92), some (.int p1), some (.int p2), some (.int p3), some (.int p4), some (.int p5), none, none, none] [] h Q := by
  unfold f_M_does at hF
  unfold f_M_does_ok at ho
  refine zg_blk zd_209 9 hs (rfl : zb x zT0 zc_209 9 (0, [some (.ref 92), some (.int p1), some (.int p2), some (.int p3), some (.int p4), some (.int p5), none, none, none], [], h) = some (14, [some (.ref 92), some (.int p1), some (.int p2), some (.int p3), some (.int p4), some (.int p5), some (.int ((10 * p1) + p3)), none, none], [.int ((10 * p1) + p3), .ref 123], h)) (fun hs => ?_)
  obtain ⟨hob, ho⟩ := ho
  refine zg_ial hs zd_209 rfl rfl hob ?_
  refine zg_blk zd_209 1 hs (rfl : zb x zT0 zc_209 1 (15, [some (.ref 92), some (.int p1), some (.int p2), some (.int p3), some (.int p4), some (.int p5), some (.int ((10 * p1) + p3)), none, none], [.int (zr h 123 ((10 * p1) + p3))], h) = some (16, [some (.ref 92), some (.int p1), some (.int p2), some (.int p3), some (.int p4), some (.int p5), some (.int ((10 * p1) + p3)), none, none], [.int 1, .int (zr h 123 ((10 * p1) + p3))], h)) (fun hs => ?_)
  obtain ⟨hom, ho⟩ := ho
  have K46 : zSh zT0 h → zg x (d + 3) 209 35 [some (.ref 92), some (.int p1), some (.int p2), some (.int p3), some (.int p4), some (.int p5), some (.int ((10 * p1) + p3)), none, none] [.int (if (((zr h 123 ((10 * p1) + p3)) = 1) ∨ ((zr h 123 ((10 * p1) + p3)) = 2)) then (1 : Int32) else 0)] h Q := fun hs => by
    refine zg_blk zd_209 2 hs (rfl : zb x zT0 zc_209 2 (35, [some (.ref 92), some (.int p1), some (.int p2), some (.int p3), some (.int p4), some (.int p5), some (.int ((10 * p1) + p3)), none, none], [.int (if (((zr h 123 ((10 * p1) + p3)) = 1) ∨ ((zr h 123 ((10 * p1) + p3)) = 2)) then (1 : Int32) else 0)], h) = some (38, [some (.ref 92), some (.int p1), some (.int p2), some (.int p3), some (.int p4), some (.int p5), some (.int ((10 * p1) + p3)), some (.int (if (((zr h 123 ((10 * p1) + p3)) = 1) ∨ ((zr h 123 ((10 * p1) + p3)) = 2)) then (1 : Int32) else 0)), none], [.int p2], h)) (fun hs => ?_)
    refine zg_f_ne zd_209 rfl (fun (hc : ¬ (p2 = 0)) => ?_) (fun (hc : (p2 = 0)) => ?_)
    · have ho := ho.2 hc
      rw [if_neg hc] at hF
      refine zg_blk zd_209 2 hs (rfl : zb x zT0 zc_209 2 (108, [some (.ref 92), some (.int p1), some (.int p2), some (.int p3), some (.int p4), some (.int p5), some (.int ((10 * p1) + p3)), some (.int (if (((zr h 123 ((10 * p1) + p3)) = 1) ∨ ((zr h 123 ((10 * p1) + p3)) = 2)) then (1 : Int32) else 0)), none], [], h) = some (110, [some (.ref 92), some (.int p1), some (.int p2), some (.int p3), some (.int p4), some (.int p5), some (.int ((10 * p1) + p3)), some (.int (if (((zr h 123 ((10 * p1) + p3)) = 1) ∨ ((zr h 123 ((10 * p1) + p3)) = 2)) then (1 : Int32) else 0)), none], [.int 3, .int p2], h)) (fun hs => ?_)
      refine zg_i_ne zd_209 rfl (fun (hc : ¬ (p2 = 3)) => ?_) (fun (hc : (p2 = 3)) => ?_)
      · have ho := ho.2 hc
        rw [if_neg hc] at hF
        refine zg_blk zd_209 1 hs (rfl : zb x zT0 zc_209 1 (168, [some (.ref 92), some (.int p1), some (.int p2), some (.int p3), some (.int p4), some (.int p5), some (.int ((10 * p1) + p3)), some (.int (if (((zr h 123 ((10 * p1) + p3)) = 1) ∨ ((zr h 123 ((10 * p1) + p3)) = 2)) then (1 : Int32) else 0)), none], [], h) = some (170, [some (.ref 92), some (.int p1), some (.int p2), some (.int p3), some (.int p4), some (.int p5), some (.int ((10 * p1) + p3)), some (.int (if (((zr h 123 ((10 * p1) + p3)) = 1) ∨ ((zr h 123 ((10 * p1) + p3)) = 2)) then (1 : Int32) else 0)), none], [.int (if (((zr h 123 ((10 * p1) + p3)) = 1) ∨ ((zr h 123 ((10 * p1) + p3)) = 2)) then (1 : Int32) else 0)], h)) (fun hs => ?_)
        refine zg_b_ne zd_209 rfl (fun (hc : (((zr h 123 ((10 * p1) + p3)) = 1) ∨ ((zr h 123 ((10 * p1) + p3)) = 2))) => ?_) (fun (hc : ¬ (((zr h 123 ((10 * p1) + p3)) = 1) ∨ ((zr h 123 ((10 * p1) + p3)) = 2))) => ?_)
        · have ho := ho.1 hc
          rw [if_pos hc] at hF
          refine zg_blk zd_209 2 hs (rfl : zb x zT0 zc_209 2 (175, [some (.ref 92), some (.int p1), some (.int p2), some (.int p3), some (.int p4), some (.int p5), some (.int ((10 * p1) + p3)), some (.int (if (((zr h 123 ((10 * p1) + p3)) = 1) ∨ ((zr h 123 ((10 * p1) + p3)) = 2)) then (1 : Int32) else 0)), none], [], h) = some (177, [some (.ref 92), some (.int p1), some (.int p2), some (.int p3), some (.int p4), some (.int p5), some (.int ((10 * p1) + p3)), some (.int (if (((zr h 123 ((10 * p1) + p3)) = 1) ∨ ((zr h 123 ((10 * p1) + p3)) = 2)) then (1 : Int32) else 0)), none], [.int 1, .int p2], h)) (fun hs => ?_)
          refine zg_i_ne zd_209 rfl (fun (hc : ¬ (p2 = 1)) => ?_) (fun (hc : (p2 = 1)) => ?_)
          · have ho := ho.2 hc
            rw [if_neg hc] at hF
            refine zg_blk zd_209 4 hs (rfl : zb x zT0 zc_209 4 (193, [some (.ref 92), some (.int p1), some (.int p2), some (.int p3), some (.int p4), some (.int p5), some (.int ((10 * p1) + p3)), some (.int (if (((zr h 123 ((10 * p1) + p3)) = 1) ∨ ((zr h 123 ((10 * p1) + p3)) = 2)) then (1 : Int32) else 0)), none], [], h) = some (200, [some (.ref 92), some (.int p1), some (.int p2), some (.int p3), some (.int p4), some (.int p5), some (.int ((10 * p1) + p3)), some (.int (if (((zr h 123 ((10 * p1) + p3)) = 1) ∨ ((zr h 123 ((10 * p1) + p3)) = 2)) then (1 : Int32) else 0)), none], [.int 0, .int ((10 * p1) + p3), .ref 125], h)) (fun hs => ?_)
            have hob := ho
            refine zg_ias hs zd_209 rfl rfl hob (fun hs => ?_)
            refine zg_blk zd_209 1 hs (rfl : zb x zT0 zc_209 1 (201, [some (.ref 92), some (.int p1), some (.int p2), some (.int p3), some (.int p4), some (.int p5), some (.int ((10 * p1) + p3)), some (.int (if (((zr h 123 ((10 * p1) + p3)) = 1) ∨ ((zr h 123 ((10 * p1) + p3)) = 2)) then (1 : Int32) else 0)), none], [], (zs h 125 ((10 * p1) + p3) 0)) = some (202, [some (.ref 92), some (.int p1), some (.int p2), some (.int p3), some (.int p4), some (.int p5), some (.int ((10 * p1) + p3)), some (.int (if (((zr h 123 ((10 * p1) + p3)) = 1) ∨ ((zr h 123 ((10 * p1) + p3)) = 2)) then (1 : Int32) else 0)), none], [.int 1], (zs h 125 ((10 * p1) + p3) 0))) (fun hs => ?_)
            exact zg_rtz zd_209 rfl rfl rfl (hF hs)
          · have ho := ho.1 hc
            rw [if_pos hc] at hF
            refine zg_blk zd_209 5 hs (rfl : zb x zT0 zc_209 5 (180, [some (.ref 92), some (.int p1), some (.int p2), some (.int p3), some (.int p4), some (.int p5), some (.int ((10 * p1) + p3)), some (.int (if (((zr h 123 ((10 * p1) + p3)) = 1) ∨ ((zr h 123 ((10 * p1) + p3)) = 2)) then (1 : Int32) else 0)), none], [], h) = some (187, [some (.ref 92), some (.int p1), some (.int p2), some (.int p3), some (.int p4), some (.int p5), some (.int ((10 * p1) + p3)), some (.int (if (((zr h 123 ((10 * p1) + p3)) = 1) ∨ ((zr h 123 ((10 * p1) + p3)) = 2)) then (1 : Int32) else 0)), none], [.int p5, .int p4, .int p3, .int p1, .ref 92], h)) (fun hs => ?_)
            have hob := ho
            refine zg_call hs zd_209 rfl rfl rfl rfl (as := [.ref 92, .int p1, .int p3, .int p4, .int p5]) (rest := []) (en := [some (.ref 92), some (.int p1), some (.int p3), some (.int p4), some (.int p5), none]) rfl rfl rfl rfl rfl ?_
            refine f_M_newChain_t p1 p3 p4 p5 h hs hob (fun hs => ?_)
            show zg x (d + 3) 209 190 [some (.ref 92), some (.int p1), some (.int p2), some (.int p3), some (.int p4), some (.int p5), some (.int ((10 * p1) + p3)), some (.int (if (((zr h 123 ((10 * p1) + p3)) = 1) ∨ ((zr h 123 ((10 * p1) + p3)) = 2)) then (1 : Int32) else 0)), none] [] (f_M_newChain p1 p3 p4 p5 h) Q
            refine zg_blk zd_209 2 hs (rfl : zb x zT0 zc_209 2 (190, [some (.ref 92), some (.int p1), some (.int p2), some (.int p3), some (.int p4), some (.int p5), some (.int ((10 * p1) + p3)), some (.int (if (((zr h 123 ((10 * p1) + p3)) = 1) ∨ ((zr h 123 ((10 * p1) + p3)) = 2)) then (1 : Int32) else 0)), none], [], (f_M_newChain p1 p3 p4 p5 h)) = some (202, [some (.ref 92), some (.int p1), some (.int p2), some (.int p3), some (.int p4), some (.int p5), some (.int ((10 * p1) + p3)), some (.int (if (((zr h 123 ((10 * p1) + p3)) = 1) ∨ ((zr h 123 ((10 * p1) + p3)) = 2)) then (1 : Int32) else 0)), none], [.int 1], (f_M_newChain p1 p3 p4 p5 h))) (fun hs => ?_)
            exact zg_rtz zd_209 rfl rfl rfl (hF hs)
        · have ho := ho.2 hc
          rw [if_neg hc] at hF
          refine zg_blk zd_209 1 hs (rfl : zb x zT0 zc_209 1 (173, [some (.ref 92), some (.int p1), some (.int p2), some (.int p3), some (.int p4), some (.int p5), some (.int ((10 * p1) + p3)), some (.int (if (((zr h 123 ((10 * p1) + p3)) = 1) ∨ ((zr h 123 ((10 * p1) + p3)) = 2)) then (1 : Int32) else 0)), none], [], h) = some (174, [some (.ref 92), some (.int p1), some (.int p2), some (.int p3), some (.int p4), some (.int p5), some (.int ((10 * p1) + p3)), some (.int (if (((zr h 123 ((10 * p1) + p3)) = 1) ∨ ((zr h 123 ((10 * p1) + p3)) = 2)) then (1 : Int32) else 0)), none], [.int 0], h)) (fun hs => ?_)
          exact zg_rtz zd_209 rfl rfl rfl (hF hs)
      · have ho := ho.1 hc
        rw [if_pos hc] at hF
        refine zg_blk zd_209 3 hs (rfl : zb x zT0 zc_209 3 (113, [some (.ref 92), some (.int p1), some (.int p2), some (.int p3), some (.int p4), some (.int p5), some (.int ((10 * p1) + p3)), some (.int (if (((zr h 123 ((10 * p1) + p3)) = 1) ∨ ((zr h 123 ((10 * p1) + p3)) = 2)) then (1 : Int32) else 0)), none], [], h) = some (119, [some (.ref 92), some (.int p1), some (.int p2), some (.int p3), some (.int p4), some (.int p5), some (.int ((10 * p1) + p3)), some (.int (if (((zr h 123 ((10 * p1) + p3)) = 1) ∨ ((zr h 123 ((10 * p1) + p3)) = 2)) then (1 : Int32) else 0)), none], [.int ((10 * p1) + p3), .ref 123], h)) (fun hs => ?_)
        obtain ⟨hob, ho⟩ := ho
        refine zg_ial hs zd_209 rfl rfl hob ?_
        refine zg_f_ne zd_209 rfl (fun (hc : ¬ ((zr h 123 ((10 * p1) + p3)) = 0)) => ?_) (fun (hc : ((zr h 123 ((10 * p1) + p3)) = 0)) => ?_)
        · have ho := ho.2 hc
          rw [if_neg hc] at hF
          refine zg_blk zd_209 4 hs (rfl : zb x zT0 zc_209 4 (125, [some (.ref 92), some (.int p1), some (.int p2), some (.int p3), some (.int p4), some (.int p5), some (.int ((10 * p1) + p3)), some (.int (if (((zr h 123 ((10 * p1) + p3)) = 1) ∨ ((zr h 123 ((10 * p1) + p3)) = 2)) then (1 : Int32) else 0)), none], [], h) = some (132, [some (.ref 92), some (.int p1), some (.int p2), some (.int p3), some (.int p4), some (.int p5), some (.int ((10 * p1) + p3)), some (.int (if (((zr h 123 ((10 * p1) + p3)) = 1) ∨ ((zr h 123 ((10 * p1) + p3)) = 2)) then (1 : Int32) else 0)), none], [.int 0, .int ((10 * p1) + p3), .ref 123], h)) (fun hs => ?_)
          obtain ⟨hob, ho⟩ := ho
          refine zg_ias hs zd_209 rfl rfl hob (fun hs => ?_)
          refine zg_blk zd_209 4 hs (rfl : zb x zT0 zc_209 4 (133, [some (.ref 92), some (.int p1), some (.int p2), some (.int p3), some (.int p4), some (.int p5), some (.int ((10 * p1) + p3)), some (.int (if (((zr h 123 ((10 * p1) + p3)) = 1) ∨ ((zr h 123 ((10 * p1) + p3)) = 2)) then (1 : Int32) else 0)), none], [], (zs h 123 ((10 * p1) + p3) 0)) = some (140, [some (.ref 92), some (.int p1), some (.int p2), some (.int p3), some (.int p4), some (.int p5), some (.int ((10 * p1) + p3)), some (.int (if (((zr h 123 ((10 * p1) + p3)) = 1) ∨ ((zr h 123 ((10 * p1) + p3)) = 2)) then (1 : Int32) else 0)), none], [.int (-1), .int ((10 * p1) + p3), .ref 124], (zs h 123 ((10 * p1) + p3) 0))) (fun hs => ?_)
          obtain ⟨hob, ho⟩ := ho
          refine zg_ias hs zd_209 rfl rfl hob (fun hs => ?_)
          refine zg_blk zd_209 2 hs (rfl : zb x zT0 zc_209 2 (141, [some (.ref 92), some (.int p1), some (.int p2), some (.int p3), some (.int p4), some (.int p5), some (.int ((10 * p1) + p3)), some (.int (if (((zr h 123 ((10 * p1) + p3)) = 1) ∨ ((zr h 123 ((10 * p1) + p3)) = 2)) then (1 : Int32) else 0)), none], [], (zs (zs h 123 ((10 * p1) + p3) 0) 124 ((10 * p1) + p3) (-1))) = some (144, [some (.ref 92), some (.int p1), some (.int p2), some (.int p3), some (.int p4), some (.int p5), some (.int ((10 * p1) + p3)), some (.int (if (((zr h 123 ((10 * p1) + p3)) = 1) ∨ ((zr h 123 ((10 * p1) + p3)) = 2)) then (1 : Int32) else 0)), some (.int 0)], [], (zs (zs h 123 ((10 * p1) + p3) 0) 124 ((10 * p1) + p3) (-1)))) (fun hs => ?_)
          refine f_M_does_l144_t p1 p3 (if (((zr h 123 ((10 * p1) + p3)) = 1) ∨ ((zr h 123 ((10 * p1) + p3)) = 2)) then (1 : Int32) else 0) (fun r => f_M_does_a144_ok r ∧ (zSh zT0 (f_M_does_a144 r).2 → Q (some (.int (f_M_does_a144 r).1)) (f_M_does_a144 r).2)) ?_ zF 0 (zs (zs h 123 ((10 * p1) + p3) 0) 124 ((10 * p1) + p3) (-1)) (some (.int p2)) (some (.int p4)) p5 (some (.int ((10 * p1) + p3))) hs ho.1 ⟨ho.2, hF⟩
          · intro v8_ h_ o2_ o4_ z5_ o6_ o8_ hs hG
            have ho : True := trivial
            have hF : (zSh zT0 ((f_M_does_k165 h_)).2 → Q (some (.int ((f_M_does_k165 h_)).1)) ((f_M_does_k165 h_)).2) := hG.2
            exact f_M_does_k165_t h_ (some (.ref 92)) (some (.int p1)) (o2_) (some (.int p3)) (o4_) z5_ (o6_) (some (.int (if (((zr h 123 ((10 * p1) + p3)) = 1) ∨ ((zr h 123 ((10 * p1) + p3)) = 2)) then (1 : Int32) else 0))) (o8_) hs trivial hF
        · have ho := ho.1 hc
          rw [if_pos hc] at hF
          refine zg_blk zd_209 1 hs (rfl : zb x zT0 zc_209 1 (123, [some (.ref 92), some (.int p1), some (.int p2), some (.int p3), some (.int p4), some (.int p5), some (.int ((10 * p1) + p3)), some (.int (if (((zr h 123 ((10 * p1) + p3)) = 1) ∨ ((zr h 123 ((10 * p1) + p3)) = 2)) then (1 : Int32) else 0)), none], [], h) = some (124, [some (.ref 92), some (.int p1), some (.int p2), some (.int p3), some (.int p4), some (.int p5), some (.int ((10 * p1) + p3)), some (.int (if (((zr h 123 ((10 * p1) + p3)) = 1) ∨ ((zr h 123 ((10 * p1) + p3)) = 2)) then (1 : Int32) else 0)), none], [.int 0], h)) (fun hs => ?_)
          exact zg_rtz zd_209 rfl rfl rfl (hF hs)
    · have ho := ho.1 hc
      rw [if_pos hc] at hF
      refine zg_blk zd_209 3 hs (rfl : zb x zT0 zc_209 3 (41, [some (.ref 92), some (.int p1), some (.int p2), some (.int p3), some (.int p4), some (.int p5), some (.int ((10 * p1) + p3)), some (.int (if (((zr h 123 ((10 * p1) + p3)) = 1) ∨ ((zr h 123 ((10 * p1) + p3)) = 2)) then (1 : Int32) else 0)), none], [], h) = some (47, [some (.ref 92), some (.int p1), some (.int p2), some (.int p3), some (.int p4), some (.int p5), some (.int ((10 * p1) + p3)), some (.int (if (((zr h 123 ((10 * p1) + p3)) = 1) ∨ ((zr h 123 ((10 * p1) + p3)) = 2)) then (1 : Int32) else 0)), none], [.int ((10 * p1) + p3), .ref 123], h)) (fun hs => ?_)
      obtain ⟨hob, ho⟩ := ho
      refine zg_ial hs zd_209 rfl rfl hob ?_
      refine zg_f_ne zd_209 rfl (fun (hc : ¬ ((zr h 123 ((10 * p1) + p3)) = 0)) => ?_) (fun (hc : ((zr h 123 ((10 * p1) + p3)) = 0)) => ?_)
      · have ho := ho.2 hc
        rw [if_neg hc] at hF
        refine zg_blk zd_209 1 hs (rfl : zb x zT0 zc_209 1 (61, [some (.ref 92), some (.int p1), some (.int p2), some (.int p3), some (.int p4), some (.int p5), some (.int ((10 * p1) + p3)), some (.int (if (((zr h 123 ((10 * p1) + p3)) = 1) ∨ ((zr h 123 ((10 * p1) + p3)) = 2)) then (1 : Int32) else 0)), none], [], h) = some (62, [some (.ref 92), some (.int p1), some (.int p2), some (.int p3), some (.int p4), some (.int p5), some (.int ((10 * p1) + p3)), some (.int (if (((zr h 123 ((10 * p1) + p3)) = 1) ∨ ((zr h 123 ((10 * p1) + p3)) = 2)) then (1 : Int32) else 0)), none], [.int 0], h)) (fun hs => ?_)
        exact zg_rtz zd_209 rfl rfl rfl (hF hs)
      · have ho := ho.1 hc
        rw [if_pos hc] at hF
        refine zg_blk zd_209 3 hs (rfl : zb x zT0 zc_209 3 (51, [some (.ref 92), some (.int p1), some (.int p2), some (.int p3), some (.int p4), some (.int p5), some (.int ((10 * p1) + p3)), some (.int (if (((zr h 123 ((10 * p1) + p3)) = 1) ∨ ((zr h 123 ((10 * p1) + p3)) = 2)) then (1 : Int32) else 0)), none], [], h) = some (55, [some (.ref 92), some (.int p1), some (.int p2), some (.int p3), some (.int p4), some (.int p5), some (.int ((10 * p1) + p3)), some (.int (if (((zr h 123 ((10 * p1) + p3)) = 1) ∨ ((zr h 123 ((10 * p1) + p3)) = 2)) then (1 : Int32) else 0)), none], [.int p4, .int p1, .ref 92], h)) (fun hs => ?_)
        obtain ⟨hob, ho⟩ := ho
        refine zg_call hs zd_209 rfl rfl rfl rfl (as := [.ref 92, .int p1, .int p4]) (rest := []) (en := [some (.ref 92), some (.int p1), some (.int p4), none]) rfl rfl rfl rfl rfl ?_
        refine f_M_isTaken_t p1 p4 h hs hob ?_
        show zg x (d + 3) 209 58 [some (.ref 92), some (.int p1), some (.int p2), some (.int p3), some (.int p4), some (.int p5), some (.int ((10 * p1) + p3)), some (.int (if (((zr h 123 ((10 * p1) + p3)) = 1) ∨ ((zr h 123 ((10 * p1) + p3)) = 2)) then (1 : Int32) else 0)), none] [.int (f_M_isTaken p1 p4 h)] h Q
        refine zg_f_eq zd_209 rfl (fun (hc : ((f_M_isTaken p1 p4 h) = 0)) => ?_) (fun (hc : ¬ ((f_M_isTaken p1 p4 h) = 0)) => ?_)
        · have ho := ho.1 hc
          rw [if_pos hc] at hF
          refine zg_blk zd_209 4 hs (rfl : zb x zT0 zc_209 4 (63, [some (.ref 92), some (.int p1), some (.int p2), some (.int p3), some (.int p4), some (.int p5), some (.int ((10 * p1) + p3)), some (.int (if (((zr h 123 ((10 * p1) + p3)) = 1) ∨ ((zr h 123 ((10 * p1) + p3)) = 2)) then (1 : Int32) else 0)), none], [], h) = some (70, [some (.ref 92), some (.int p1), some (.int p2), some (.int p3), some (.int p4), some (.int p5), some (.int ((10 * p1) + p3)), some (.int (if (((zr h 123 ((10 * p1) + p3)) = 1) ∨ ((zr h 123 ((10 * p1) + p3)) = 2)) then (1 : Int32) else 0)), none], [.int 1, .int ((10 * p1) + p3), .ref 123], h)) (fun hs => ?_)
          obtain ⟨hob, ho⟩ := ho
          refine zg_ias hs zd_209 rfl rfl hob (fun hs => ?_)
          refine zg_blk zd_209 4 hs (rfl : zb x zT0 zc_209 4 (71, [some (.ref 92), some (.int p1), some (.int p2), some (.int p3), some (.int p4), some (.int p5), some (.int ((10 * p1) + p3)), some (.int (if (((zr h 123 ((10 * p1) + p3)) = 1) ∨ ((zr h 123 ((10 * p1) + p3)) = 2)) then (1 : Int32) else 0)), none], [], (zs h 123 ((10 * p1) + p3) 1)) = some (79, [some (.ref 92), some (.int p1), some (.int p2), some (.int p3), some (.int p4), some (.int p5), some (.int ((10 * p1) + p3)), some (.int (if (((zr h 123 ((10 * p1) + p3)) = 1) ∨ ((zr h 123 ((10 * p1) + p3)) = 2)) then (1 : Int32) else 0)), none], [.int p4, .int ((10 * p1) + p3), .ref 124], (zs h 123 ((10 * p1) + p3) 1))) (fun hs => ?_)
          obtain ⟨hob, ho⟩ := ho
          refine zg_ias hs zd_209 rfl rfl hob (fun hs => ?_)
          refine zg_blk zd_209 2 hs (rfl : zb x zT0 zc_209 2 (80, [some (.ref 92), some (.int p1), some (.int p2), some (.int p3), some (.int p4), some (.int p5), some (.int ((10 * p1) + p3)), some (.int (if (((zr h 123 ((10 * p1) + p3)) = 1) ∨ ((zr h 123 ((10 * p1) + p3)) = 2)) then (1 : Int32) else 0)), none], [], (zs (zs h 123 ((10 * p1) + p3) 1) 124 ((10 * p1) + p3) p4)) = some (83, [some (.ref 92), some (.int p1), some (.int p2), some (.int p3), some (.int p4), some (.int p5), some (.int ((10 * p1) + p3)), some (.int (if (((zr h 123 ((10 * p1) + p3)) = 1) ∨ ((zr h 123 ((10 * p1) + p3)) = 2)) then (1 : Int32) else 0)), some (.int 0)], [], (zs (zs h 123 ((10 * p1) + p3) 1) 124 ((10 * p1) + p3) p4))) (fun hs => ?_)
          refine f_M_does_l83_t p1 p3 p5 (if (((zr h 123 ((10 * p1) + p3)) = 1) ∨ ((zr h 123 ((10 * p1) + p3)) = 2)) then (1 : Int32) else 0) (fun r => f_M_does_a83_ok r ∧ (zSh zT0 (f_M_does_a83 r).2 → Q (some (.int (f_M_does_a83 r).1)) (f_M_does_a83 r).2)) ?_ zF 0 (zs (zs h 123 ((10 * p1) + p3) 1) 124 ((10 * p1) + p3) p4) (some (.int p2)) (some (.int p4)) (some (.int ((10 * p1) + p3))) hs ho.1 ⟨ho.2, hF⟩
          · intro v8_ h_ o2_ o4_ o6_ o8_ hs hG
            have ho : True := trivial
            have hF : (zSh zT0 ((f_M_does_k105 h_)).2 → Q (some (.int ((f_M_does_k105 h_)).1)) ((f_M_does_k105 h_)).2) := hG.2
            exact f_M_does_k105_t h_ (some (.ref 92)) (some (.int p1)) (o2_) (some (.int p3)) (o4_) p5 (o6_) (some (.int (if (((zr h 123 ((10 * p1) + p3)) = 1) ∨ ((zr h 123 ((10 * p1) + p3)) = 2)) then (1 : Int32) else 0))) (o8_) hs trivial hF
        · have ho := ho.2 hc
          rw [if_neg hc] at hF
          refine zg_blk zd_209 1 hs (rfl : zb x zT0 zc_209 1 (61, [some (.ref 92), some (.int p1), some (.int p2), some (.int p3), some (.int p4), some (.int p5), some (.int ((10 * p1) + p3)), some (.int (if (((zr h 123 ((10 * p1) + p3)) = 1) ∨ ((zr h 123 ((10 * p1) + p3)) = 2)) then (1 : Int32) else 0)), none], [], h) = some (62, [some (.ref 92), some (.int p1), some (.int p2), some (.int p3), some (.int p4), some (.int p5), some (.int ((10 * p1) + p3)), some (.int (if (((zr h 123 ((10 * p1) + p3)) = 1) ∨ ((zr h 123 ((10 * p1) + p3)) = 2)) then (1 : Int32) else 0)), none], [.int 0], h)) (fun hs => ?_)
          exact zg_rtz zd_209 rfl rfl rfl (hF hs)
  refine zg_i_eq zd_209 rfl (fun (hc : ((zr h 123 ((10 * p1) + p3)) = 1)) => ?_) (fun (hc : ¬ ((zr h 123 ((10 * p1) + p3)) = 1)) => ?_)
  · have ho := hom.1 hc
    rw [show ((if (((zr h 123 ((10 * p1) + p3)) = 1) ∨ ((zr h 123 ((10 * p1) + p3)) = 2)) then (1 : Int32) else 0) : Int32) = 1 from zb_or_t hc] at K46
    refine zg_blk zd_209 2 hs (rfl : zb x zT0 zc_209 2 (30, [some (.ref 92), some (.int p1), some (.int p2), some (.int p3), some (.int p4), some (.int p5), some (.int ((10 * p1) + p3)), none, none], [], h) = some (35, [some (.ref 92), some (.int p1), some (.int p2), some (.int p3), some (.int p4), some (.int p5), some (.int ((10 * p1) + p3)), none, none], [.int 1], h)) (fun hs => ?_)
    exact K46 hs
  · have ho := hom.2 hc
    rw [show ((if (((zr h 123 ((10 * p1) + p3)) = 1) ∨ ((zr h 123 ((10 * p1) + p3)) = 2)) then (1 : Int32) else 0) : Int32) = (if ((zr h 123 ((10 * p1) + p3)) = 2) then (1 : Int32) else 0) from zb_or_f hc] at K46
    refine zg_blk zd_209 3 hs (rfl : zb x zT0 zc_209 3 (19, [some (.ref 92), some (.int p1), some (.int p2), some (.int p3), some (.int p4), some (.int p5), some (.int ((10 * p1) + p3)), none, none], [], h) = some (25, [some (.ref 92), some (.int p1), some (.int p2), some (.int p3), some (.int p4), some (.int p5), some (.int ((10 * p1) + p3)), none, none], [.int ((10 * p1) + p3), .ref 123], h)) (fun hs => ?_)
    have hob := ho
    refine zg_ial hs zd_209 rfl rfl hob ?_
    refine zg_blk zd_209 1 hs (rfl : zb x zT0 zc_209 1 (26, [some (.ref 92), some (.int p1), some (.int p2), some (.int p3), some (.int p4), some (.int p5), some (.int ((10 * p1) + p3)), none, none], [.int (zr h 123 ((10 * p1) + p3))], h) = some (27, [some (.ref 92), some (.int p1), some (.int p2), some (.int p3), some (.int p4), some (.int p5), some (.int ((10 * p1) + p3)), none, none], [.int 2, .int (zr h 123 ((10 * p1) + p3))], h)) (fun hs => ?_)
    refine zg_i_ne zd_209 rfl (fun (hc : ¬ ((zr h 123 ((10 * p1) + p3)) = 2)) => ?_) (fun (hc : ((zr h 123 ((10 * p1) + p3)) = 2)) => ?_)
    · skip
      rw [show ((if ((zr h 123 ((10 * p1) + p3)) = 2) then (1 : Int32) else 0) : Int32) = 0 from if_neg hc] at K46
      refine zg_blk zd_209 1 hs (rfl : zb x zT0 zc_209 1 (34, [some (.ref 92), some (.int p1), some (.int p2), some (.int p3), some (.int p4), some (.int p5), some (.int ((10 * p1) + p3)), none, none], [], h) = some (35, [some (.ref 92), some (.int p1), some (.int p2), some (.int p3), some (.int p4), some (.int p5), some (.int ((10 * p1) + p3)), none, none], [.int 0], h)) (fun hs => ?_)
      exact K46 hs
    · skip
      rw [show ((if ((zr h 123 ((10 * p1) + p3)) = 2) then (1 : Int32) else 0) : Int32) = 1 from if_pos hc] at K46
      refine zg_blk zd_209 2 hs (rfl : zb x zT0 zc_209 2 (30, [some (.ref 92), some (.int p1), some (.int p2), some (.int p3), some (.int p4), some (.int p5), some (.int ((10 * p1) + p3)), none, none], [], h) = some (35, [some (.ref 92), some (.int p1), some (.int p2), some (.int p3), some (.int p4), some (.int p5), some (.int ((10 * p1) + p3)), none, none], [.int 1], h)) (fun hs => ?_)
      exact K46 hs
theorem zd_213 : zm_cd 213 = zc_213 := by rfl
set_option maxRecDepth 100000 in
set_option maxHeartbeats 400000 in
theorem f_M_keeps_t {x : zm_X} {d : Nat} (p1 : Int32) (p2 : Int32) (p3 : Int32) (p4 : Int32) (p5 : Int32) (h : zm_H) {Q : Option Value → zm_H → Prop} (hs : zSh zT0 h) (ho : f_M_keeps_ok p1 p2 p3 p4 p5 h) (hF : (zSh zT0 (f_M_keeps p1 p2 p3 p4 p5 h) → Q none (f_M_keeps p1 p2 p3 p4 p5 h))) : zg x (d + 1) 213 0 [some (.ref 92), some (.int p1), some (.int p2), some (.int p3), some (.int p4), some (.int p5)] [] h Q := by
  unfold f_M_keeps at hF
  unfold f_M_keeps_ok at ho
  refine zg_blk zd_213 5 hs (rfl : zb x zT0 zc_213 5 (0, [some (.ref 92), some (.int p1), some (.int p2), some (.int p3), some (.int p4), some (.int p5)], [], h) = some (9, [some (.ref 92), some (.int p1), some (.int p2), some (.int p3), some (.int p4), some (.int p5)], [.int p1, .int (zf h 92 41), .ref 118], h)) (fun hs => ?_)
  obtain ⟨hob, ho⟩ := ho
  refine zg_ias hs zd_213 rfl rfl hob (fun hs => ?_)
  refine zg_blk zd_213 5 hs (rfl : zb x zT0 zc_213 5 (10, [some (.ref 92), some (.int p1), some (.int p2), some (.int p3), some (.int p4), some (.int p5)], [], (zs h 118 (zf h 92 41) p1)) = some (19, [some (.ref 92), some (.int p1), some (.int p2), some (.int p3), some (.int p4), some (.int p5)], [.int p2, .int (zf h 92 41), .ref 119], (zs h 118 (zf h 92 41) p1))) (fun hs => ?_)
  obtain ⟨hob, ho⟩ := ho
  refine zg_ias hs zd_213 rfl rfl hob (fun hs => ?_)
  refine zg_blk zd_213 5 hs (rfl : zb x zT0 zc_213 5 (20, [some (.ref 92), some (.int p1), some (.int p2), some (.int p3), some (.int p4), some (.int p5)], [], (zs (zs h 118 (zf h 92 41) p1) 119 (zf h 92 41) p2)) = some (29, [some (.ref 92), some (.int p1), some (.int p2), some (.int p3), some (.int p4), some (.int p5)], [.int p3, .int (zf h 92 41), .ref 120], (zs (zs h 118 (zf h 92 41) p1) 119 (zf h 92 41) p2))) (fun hs => ?_)
  obtain ⟨hob, ho⟩ := ho
  refine zg_ias hs zd_213 rfl rfl hob (fun hs => ?_)
  refine zg_blk zd_213 5 hs (rfl : zb x zT0 zc_213 5 (30, [some (.ref 92), some (.int p1), some (.int p2), some (.int p3), some (.int p4), some (.int p5)], [], (zs (zs (zs h 118 (zf h 92 41) p1) 119 (zf h 92 41) p2) 120 (zf h 92 41) p3)) = some (40, [some (.ref 92), some (.int p1), some (.int p2), some (.int p3), some (.int p4), some (.int p5)], [.int p4, .int (zf h 92 41), .ref 121], (zs (zs (zs h 118 (zf h 92 41) p1) 119 (zf h 92 41) p2) 120 (zf h 92 41) p3))) (fun hs => ?_)
  obtain ⟨hob, ho⟩ := ho
  refine zg_ias hs zd_213 rfl rfl hob (fun hs => ?_)
  refine zg_blk zd_213 5 hs (rfl : zb x zT0 zc_213 5 (41, [some (.ref 92), some (.int p1), some (.int p2), some (.int p3), some (.int p4), some (.int p5)], [], (zs (zs (zs (zs h 118 (zf h 92 41) p1) 119 (zf h 92 41) p2) 120 (zf h 92 41) p3) 121 (zf h 92 41) p4)) = some (51, [some (.ref 92), some (.int p1), some (.int p2), some (.int p3), some (.int p4), some (.int p5)], [.int p5, .int (zf h 92 41), .ref 122], (zs (zs (zs (zs h 118 (zf h 92 41) p1) 119 (zf h 92 41) p2) 120 (zf h 92 41) p3) 121 (zf h 92 41) p4))) (fun hs => ?_)
  have hob := ho
  refine zg_ias hs zd_213 rfl rfl hob (fun hs => ?_)
  refine zg_blk zd_213 6 hs (rfl : zb x zT0 zc_213 6 (52, [some (.ref 92), some (.int p1), some (.int p2), some (.int p3), some (.int p4), some (.int p5)], [], (zs (zs (zs (zs (zs h 118 (zf h 92 41) p1) 119 (zf h 92 41) p2) 120 (zf h 92 41) p3) 121 (zf h 92 41) p4) 122 (zf h 92 41) p5)) = some (62, [some (.ref 92), some (.int p1), some (.int p2), some (.int p3), some (.int p4), some (.int p5)], [], (zp (zs (zs (zs (zs (zs h 118 (zf h 92 41) p1) 119 (zf h 92 41) p2) 120 (zf h 92 41) p3) 121 (zf h 92 41) p4) 122 (zf h 92 41) p5) 92 41 ((zf h 92 41) + 1)))) (fun hs => ?_)
  exact zg_ret zd_213 rfl rfl (hF hs)
set_option maxRecDepth 100000 in
set_option maxHeartbeats 400000 in
theorem f_M_lay_k59_t {x : zm_X} {d : Nat} (v1 : Int32) (v2 : Int32) (v3 : Int32) (w0 : Int32) (h : zm_H) {Q : Option Value → zm_H → Prop} (hs : zSh zT0 h) (ho : f_M_lay_k59_ok v1 v2 v3 w0 h) (hF : (zSh zT0 (f_M_lay_k59 v1 v2 v3 w0 h).2 → Q (some (.int (f_M_lay_k59 v1 v2 v3 w0 h).1)) (f_M_lay_k59 v1 v2 v3 w0 h).2)) : zg x (d + 4) 204 59 [some (.ref 92), some (.int v1), some (.int v2), some (.int v3)] [.int w0] h Q := by
  unfold f_M_lay_k59 at hF
  unfold f_M_lay_k59_ok at ho
  refine zg_f_ne zd_204 rfl (fun (hc : ¬ (w0 = 0)) => ?_) (fun (hc : (w0 = 0)) => ?_)
  · have ho := ho.2 hc
    rw [if_neg hc] at hF
    refine zg_blk zd_204 7 hs (rfl : zb x zT0 zc_204 7 (64, [some (.ref 92), some (.int v1), some (.int v2), some (.int v3)], [], h) = some (73, [some (.ref 92), some (.int v1), some (.int v2), some (.int v3)], [.int v3, .int v2, .int v1, .int 0, .int (zf h 92 23), .ref 92], h)) (fun hs => ?_)
    have hob := ho
    refine zg_call hs zd_204 rfl rfl rfl rfl (as := [.ref 92, .int (zf h 92 23), .int 0, .int v1, .int v2, .int v3]) (rest := []) (en := [some (.ref 92), some (.int (zf h 92 23)), some (.int 0), some (.int v1), some (.int v2), some (.int v3)]) rfl rfl rfl rfl rfl ?_
    refine f_M_keeps_t (zf h 92 23) 0 v1 v2 v3 h hs hob (fun hs => ?_)
    show zg x (d + 4) 204 76 [some (.ref 92), some (.int v1), some (.int v2), some (.int v3)] [] (f_M_keeps (zf h 92 23) 0 v1 v2 v3 h) Q
    refine zg_blk zd_204 2 hs (rfl : zb x zT0 zc_204 2 (76, [some (.ref 92), some (.int v1), some (.int v2), some (.int v3)], [], (f_M_keeps (zf h 92 23) 0 v1 v2 v3 h)) = some (80, [some (.ref 92), some (.int v1), some (.int v2), some (.int v3)], [.int (zf (f_M_keeps (zf h 92 23) 0 v1 v2 v3 h) 92 41)], (f_M_keeps (zf h 92 23) 0 v1 v2 v3 h))) (fun hs => ?_)
    exact zg_ret zd_204 rfl rfl (hF hs)
  · have ho := ho.1 hc
    rw [if_pos hc] at hF
    refine zg_blk zd_204 1 hs (rfl : zb x zT0 zc_204 1 (62, [some (.ref 92), some (.int v1), some (.int v2), some (.int v3)], [], h) = some (63, [some (.ref 92), some (.int v1), some (.int v2), some (.int v3)], [.int (-1)], h)) (fun hs => ?_)
    exact zg_ret zd_204 rfl rfl (hF hs)
set_option maxRecDepth 100000 in
set_option maxHeartbeats 400000 in
theorem f_M_lay_t {x : zm_X} {d : Nat} (p1 : Int32) (p2 : Int32) (p3 : Int32) (h : zm_H) {Q : Option Value → zm_H → Prop} (hs : zSh zT0 h) (ho : f_M_lay_ok p1 p2 p3 h) (hF : (zSh zT0 (f_M_lay p1 p2 p3 h).2 → Q (some (.int (f_M_lay p1 p2 p3 h).1)) (f_M_lay p1 p2 p3 h).2)) : zg x (d + 4) 204 0 [some (.ref 92), some (.int p1), some (.int p2), some (.int p3)] [] h Q := by
  unfold f_M_lay at hF
  unfold f_M_lay_ok at ho
  refine zg_blk zd_204 2 hs (rfl : zb x zT0 zc_204 2 (0, [some (.ref 92), some (.int p1), some (.int p2), some (.int p3)], [], h) = some (2, [some (.ref 92), some (.int p1), some (.int p2), some (.int p3)], [.int p1, .ref 92], h)) (fun hs => ?_)
  refine zg_call hs zd_204 rfl rfl rfl rfl (as := [.ref 92, .int p1]) (rest := []) (en := [some (.ref 92), some (.int p1)]) rfl rfl rfl rfl rfl ?_
  refine f_M_isRaft_t p1 h hs trivial ?_
  show zg x (d + 4) 204 5 [some (.ref 92), some (.int p1), some (.int p2), some (.int p3)] [.int (if (¬ (p1 < 0) ∧ (¬ (((zf h 92 33) - 1) < p1))) then (1 : Int32) else 0)] h Q
  refine zg_b_eq zd_204 rfl (fun (hc : ¬ (¬ (p1 < 0) ∧ (¬ (((zf h 92 33) - 1) < p1)))) => ?_) (fun (hc : (¬ (p1 < 0) ∧ (¬ (((zf h 92 33) - 1) < p1)))) => ?_)
  · have ho := ho.2 hc
    rw [if_neg hc] at hF
    refine zg_blk zd_204 1 hs (rfl : zb x zT0 zc_204 1 (62, [some (.ref 92), some (.int p1), some (.int p2), some (.int p3)], [], h) = some (63, [some (.ref 92), some (.int p1), some (.int p2), some (.int p3)], [.int (-1)], h)) (fun hs => ?_)
    exact zg_ret zd_204 rfl rfl (hF hs)
  · have ho := ho.1 hc
    rw [if_pos hc] at hF
    refine zg_blk zd_204 1 hs (rfl : zb x zT0 zc_204 1 (8, [some (.ref 92), some (.int p1), some (.int p2), some (.int p3)], [], h) = some (9, [some (.ref 92), some (.int p1), some (.int p2), some (.int p3)], [.int p2], h)) (fun hs => ?_)
    refine zg_call hs zd_204 rfl rfl rfl rfl (as := [.int p2]) (rest := []) (en := [some (.int p2)]) rfl rfl rfl rfl rfl ?_
    refine f_M_isPlace_t p2 h hs trivial ?_
    show zg x (d + 4) 204 12 [some (.ref 92), some (.int p1), some (.int p2), some (.int p3)] [.int (if (¬ (p2 < 0) ∧ (¬ (10 ≤ (p2 / 10)) ∧ (¬ (5 ≤ (zm_rm p2 10))))) then (1 : Int32) else 0)] h Q
    refine zg_b_eq zd_204 rfl (fun (hc : ¬ (¬ (p2 < 0) ∧ (¬ (10 ≤ (p2 / 10)) ∧ (¬ (5 ≤ (zm_rm p2 10)))))) => ?_) (fun (hc : (¬ (p2 < 0) ∧ (¬ (10 ≤ (p2 / 10)) ∧ (¬ (5 ≤ (zm_rm p2 10)))))) => ?_)
    · have ho := ho.2 hc
      rw [if_neg hc] at hF
      refine zg_blk zd_204 1 hs (rfl : zb x zT0 zc_204 1 (62, [some (.ref 92), some (.int p1), some (.int p2), some (.int p3)], [], h) = some (63, [some (.ref 92), some (.int p1), some (.int p2), some (.int p3)], [.int (-1)], h)) (fun hs => ?_)
      exact zg_ret zd_204 rfl rfl (hF hs)
    · have ho := ho.1 hc
      rw [if_pos hc] at hF
      refine zg_blk zd_204 2 hs (rfl : zb x zT0 zc_204 2 (15, [some (.ref 92), some (.int p1), some (.int p2), some (.int p3)], [], h) = some (17, [some (.ref 92), some (.int p1), some (.int p2), some (.int p3)], [.int p2, .ref 92], h)) (fun hs => ?_)
      obtain ⟨hob, ho⟩ := ho
      refine zg_call hs zd_204 rfl rfl rfl rfl (as := [.ref 92, .int p2]) (rest := []) (en := [some (.ref 92), some (.int p2), none]) rfl rfl rfl rfl rfl ?_
      refine f_M_isShut_t p2 h hs hob ?_
      show zg x (d + 4) 204 20 [some (.ref 92), some (.int p1), some (.int p2), some (.int p3)] [.int (f_M_isShut p2 h)] h Q
      refine zg_f_ne zd_204 rfl (fun (hc : ¬ ((f_M_isShut p2 h) = 0)) => ?_) (fun (hc : ((f_M_isShut p2 h) = 0)) => ?_)
      · have ho := ho.2 hc
        rw [if_neg hc] at hF
        refine zg_blk zd_204 1 hs (rfl : zb x zT0 zc_204 1 (62, [some (.ref 92), some (.int p1), some (.int p2), some (.int p3)], [], h) = some (63, [some (.ref 92), some (.int p1), some (.int p2), some (.int p3)], [.int (-1)], h)) (fun hs => ?_)
        exact zg_ret zd_204 rfl rfl (hF hs)
      · have ho := ho.1 hc
        rw [if_pos hc] at hF
        refine zg_blk zd_204 1 hs (rfl : zb x zT0 zc_204 1 (23, [some (.ref 92), some (.int p1), some (.int p2), some (.int p3)], [], h) = some (24, [some (.ref 92), some (.int p1), some (.int p2), some (.int p3)], [.int p3], h)) (fun hs => ?_)
        refine zg_call hs zd_204 rfl rfl rfl rfl (as := [.int p3]) (rest := []) (en := [some (.int p3)]) rfl rfl rfl rfl rfl ?_
        refine f_M_isStrength_t p3 h hs trivial ?_
        show zg x (d + 4) 204 27 [some (.ref 92), some (.int p1), some (.int p2), some (.int p3)] [.int (if (¬ (p3 < 10) ∧ (¬ (5000 < p3))) then (1 : Int32) else 0)] h Q
        refine zg_b_eq zd_204 rfl (fun (hc : ¬ (¬ (p3 < 10) ∧ (¬ (5000 < p3)))) => ?_) (fun (hc : (¬ (p3 < 10) ∧ (¬ (5000 < p3)))) => ?_)
        · have ho := ho.2 hc
          rw [if_neg hc] at hF
          refine zg_blk zd_204 1 hs (rfl : zb x zT0 zc_204 1 (62, [some (.ref 92), some (.int p1), some (.int p2), some (.int p3)], [], h) = some (63, [some (.ref 92), some (.int p1), some (.int p2), some (.int p3)], [.int (-1)], h)) (fun hs => ?_)
          exact zg_ret zd_204 rfl rfl (hF hs)
        · have ho := ho.1 hc
          rw [if_pos hc] at hF
          refine zg_blk zd_204 3 hs (rfl : zb x zT0 zc_204 3 (30, [some (.ref 92), some (.int p1), some (.int p2), some (.int p3)], [], h) = some (37, [some (.ref 92), some (.int p1), some (.int p2), some (.int p3)], [.int 200, .int (zf h 92 41)], h)) (fun hs => ?_)
          refine zg_i_eq zd_204 rfl (fun (hc : ((zf h 92 41) = 200)) => ?_) (fun (hc : ¬ ((zf h 92 41) = 200)) => ?_)
          · have ho := ho.1 hc
            rw [if_pos hc] at hF
            refine zg_blk zd_204 1 hs (rfl : zb x zT0 zc_204 1 (62, [some (.ref 92), some (.int p1), some (.int p2), some (.int p3)], [], h) = some (63, [some (.ref 92), some (.int p1), some (.int p2), some (.int p3)], [.int (-1)], h)) (fun hs => ?_)
            exact zg_ret zd_204 rfl rfl (hF hs)
          · have ho := ho.2 hc
            rw [if_neg hc] at hF
            refine zg_blk zd_204 3 hs (rfl : zb x zT0 zc_204 3 (40, [some (.ref 92), some (.int p1), some (.int p2), some (.int p3)], [], h) = some (47, [some (.ref 92), some (.int p1), some (.int p2), some (.int p3)], [.int 480, .int (zf h 92 23)], h)) (fun hs => ?_)
            refine zg_i_eq zd_204 rfl (fun (hc : ((zf h 92 23) = 480)) => ?_) (fun (hc : ¬ ((zf h 92 23) = 480)) => ?_)
            · have ho := ho.1 hc
              rw [if_pos hc] at hF
              refine zg_blk zd_204 1 hs (rfl : zb x zT0 zc_204 1 (62, [some (.ref 92), some (.int p1), some (.int p2), some (.int p3)], [], h) = some (63, [some (.ref 92), some (.int p1), some (.int p2), some (.int p3)], [.int (-1)], h)) (fun hs => ?_)
              exact zg_ret zd_204 rfl rfl (hF hs)
            · have ho := ho.2 hc
              rw [if_neg hc] at hF
              refine zg_blk zd_204 6 hs (rfl : zb x zT0 zc_204 6 (50, [some (.ref 92), some (.int p1), some (.int p2), some (.int p3)], [], h) = some (56, [some (.ref 92), some (.int p1), some (.int p2), some (.int p3)], [.int p3, .int p2, .int p1, .int 0, .int 0, .ref 92], h)) (fun hs => ?_)
              obtain ⟨hob, ho⟩ := ho
              refine zg_call hs zd_204 rfl rfl rfl rfl (as := [.ref 92, .int 0, .int 0, .int p1, .int p2, .int p3]) (rest := []) (en := [some (.ref 92), some (.int 0), some (.int 0), some (.int p1), some (.int p2), some (.int p3), none, none, none]) rfl rfl rfl rfl rfl ?_
              refine f_M_does_t 0 0 p1 p2 p3 h hs hob (fun hs => ?_)
              show zg x (d + 4) 204 59 [some (.ref 92), some (.int p1), some (.int p2), some (.int p3)] [.int (f_M_does 0 0 p1 p2 p3 h).1] (f_M_does 0 0 p1 p2 p3 h).2 Q
              exact f_M_lay_k59_t p1 p2 p3 (f_M_does 0 0 p1 p2 p3 h).1 (f_M_does 0 0 p1 p2 p3 h).2 hs ho hF
theorem zd_141 : zm_cd 141 = zc_141 := by rfl
set_option maxRecDepth 100000 in
set_option maxHeartbeats 400000 in
theorem f_N_base_t {x : zm_X} {d : Nat} (p1 : Int32) (h : zm_H) {Q : Option Value → zm_H → Prop} (hs : zSh zT0 h) (ho : f_N_base_ok p1 h) (hF : (zSh zT0 (f_N_base p1 h).2 → Q (some (.int (f_N_base p1 h).1)) (f_N_base p1 h).2)) : zg x (d + 1) 141 0 [some (.ref 0), some (.int p1)] [] h Q := by
  unfold f_N_base at hF
  unfold f_N_base_ok at ho
  refine zg_blk zd_141 1 hs (rfl : zb x zT0 zc_141 1 (0, [some (.ref 0), some (.int p1)], [], h) = some (1, [some (.ref 0), some (.int p1)], [.int p1], h)) (fun hs => ?_)
  refine zg_f_lt zd_141 rfl (fun (hc : (p1 < 0)) => ?_) (fun (hc : ¬ (p1 < 0)) => ?_)
  · skip
    rw [if_pos hc] at hF
    refine zg_blk zd_141 1 hs (rfl : zb x zT0 zc_141 1 (10, [some (.ref 0), some (.int p1)], [], h) = some (11, [some (.ref 0), some (.int p1)], [.int 0], h)) (fun hs => ?_)
    exact zg_rtz zd_141 rfl rfl rfl (hF hs)
  · skip
    rw [if_neg hc] at hF
    refine zg_blk zd_141 2 hs (rfl : zb x zT0 zc_141 2 (4, [some (.ref 0), some (.int p1)], [], h) = some (7, [some (.ref 0), some (.int p1)], [.int 288000, .int p1], h)) (fun hs => ?_)
    refine zg_i_le zd_141 rfl (fun (hc : (p1 ≤ 288000)) => ?_) (fun (hc : ¬ (p1 ≤ 288000)) => ?_)
    · skip
      rw [if_pos hc] at hF
      refine zg_blk zd_141 4 hs (rfl : zb x zT0 zc_141 4 (12, [some (.ref 0), some (.int p1)], [], h) = some (18, [some (.ref 0), some (.int p1)], [.int 1], (zp h 0 1 p1))) (fun hs => ?_)
      exact zg_rtz zd_141 rfl rfl rfl (hF hs)
    · skip
      rw [if_neg hc] at hF
      refine zg_blk zd_141 1 hs (rfl : zb x zT0 zc_141 1 (10, [some (.ref 0), some (.int p1)], [], h) = some (11, [some (.ref 0), some (.int p1)], [.int 0], h)) (fun hs => ?_)
      exact zg_rtz zd_141 rfl rfl rfl (hF hs)
theorem zd_214 : zm_cd 214 = zc_214 := by rfl
set_option maxRecDepth 100000 in
set_option maxHeartbeats 400000 in
theorem f_M_base_t {x : zm_X} {d : Nat} (p1 : Int32) (h : zm_H) {Q : Option Value → zm_H → Prop} (hs : zSh zT0 h) (ho : f_M_base_ok p1 h) (hF : (zSh zT0 (f_M_base p1 h).2 → Q (some (.int (f_M_base p1 h).1)) (f_M_base p1 h).2)) : zg x (d + 2) 214 0 [some (.ref 92), some (.int p1)] [] h Q := by
  unfold f_M_base at hF
  unfold f_M_base_ok at ho
  refine zg_blk zd_214 3 hs (rfl : zb x zT0 zc_214 3 (0, [some (.ref 92), some (.int p1)], [], h) = some (5, [some (.ref 92), some (.int p1)], [.int 288000, .int 0, .int p1], h)) (fun hs => ?_)
  refine zg_call hs zd_214 rfl rfl rfl rfl (as := [.int p1, .int 0, .int 288000]) (rest := []) (en := [some (.int p1), some (.int 0), some (.int 288000)]) rfl rfl rfl rfl rfl ?_
  refine f_M_in_t p1 0 288000 h hs trivial ?_
  show zg x (d + 2) 214 8 [some (.ref 92), some (.int p1)] [.int (if (¬ (p1 < 0) ∧ (¬ (288000 < p1))) then (1 : Int32) else 0)] h Q
  refine zg_b_ne zd_214 rfl (fun (hc : (¬ (p1 < 0) ∧ (¬ (288000 < p1)))) => ?_) (fun (hc : ¬ (¬ (p1 < 0) ∧ (¬ (288000 < p1)))) => ?_)
  · skip
    rw [if_pos hc] at hF
    refine zg_blk zd_214 4 hs (rfl : zb x zT0 zc_214 4 (13, [some (.ref 92), some (.int p1)], [], h) = some (19, [some (.ref 92), some (.int p1)], [.int 1], (zp h 92 47 p1))) (fun hs => ?_)
    exact zg_rtz zd_214 rfl rfl rfl (hF hs)
  · skip
    rw [if_neg hc] at hF
    refine zg_blk zd_214 1 hs (rfl : zb x zT0 zc_214 1 (11, [some (.ref 92), some (.int p1)], [], h) = some (12, [some (.ref 92), some (.int p1)], [.int 0], h)) (fun hs => ?_)
    exact zg_rtz zd_214 rfl rfl rfl (hF hs)
theorem zd_142 : zm_cd 142 = zc_142 := by rfl
set_option maxRecDepth 100000 in
set_option maxHeartbeats 400000 in
theorem f_N_rated_t {x : zm_X} {d : Nat} (p1 : Int32) (h : zm_H) {Q : Option Value → zm_H → Prop} (hs : zSh zT0 h) (ho : f_N_rated_ok p1 h) (hF : (zSh zT0 (f_N_rated p1 h).2 → Q (some (.int (f_N_rated p1 h).1)) (f_N_rated p1 h).2)) : zg x (d + 1) 142 0 [some (.ref 0), some (.int p1)] [] h Q := by
  unfold f_N_rated at hF
  unfold f_N_rated_ok at ho
  refine zg_blk zd_142 1 hs (rfl : zb x zT0 zc_142 1 (0, [some (.ref 0), some (.int p1)], [], h) = some (1, [some (.ref 0), some (.int p1)], [.int p1], h)) (fun hs => ?_)
  refine zg_f_lt zd_142 rfl (fun (hc : (p1 < 0)) => ?_) (fun (hc : ¬ (p1 < 0)) => ?_)
  · skip
    rw [if_pos hc] at hF
    refine zg_blk zd_142 1 hs (rfl : zb x zT0 zc_142 1 (10, [some (.ref 0), some (.int p1)], [], h) = some (11, [some (.ref 0), some (.int p1)], [.int 0], h)) (fun hs => ?_)
    exact zg_rtz zd_142 rfl rfl rfl (hF hs)
  · skip
    rw [if_neg hc] at hF
    refine zg_blk zd_142 2 hs (rfl : zb x zT0 zc_142 2 (4, [some (.ref 0), some (.int p1)], [], h) = some (7, [some (.ref 0), some (.int p1)], [.int 120, .int p1], h)) (fun hs => ?_)
    refine zg_i_le zd_142 rfl (fun (hc : (p1 ≤ 120)) => ?_) (fun (hc : ¬ (p1 ≤ 120)) => ?_)
    · skip
      rw [if_pos hc] at hF
      refine zg_blk zd_142 4 hs (rfl : zb x zT0 zc_142 4 (12, [some (.ref 0), some (.int p1)], [], h) = some (18, [some (.ref 0), some (.int p1)], [.int 1], (zp h 0 2 p1))) (fun hs => ?_)
      exact zg_rtz zd_142 rfl rfl rfl (hF hs)
    · skip
      rw [if_neg hc] at hF
      refine zg_blk zd_142 1 hs (rfl : zb x zT0 zc_142 1 (10, [some (.ref 0), some (.int p1)], [], h) = some (11, [some (.ref 0), some (.int p1)], [.int 0], h)) (fun hs => ?_)
      exact zg_rtz zd_142 rfl rfl rfl (hF hs)
theorem zd_215 : zm_cd 215 = zc_215 := by rfl
set_option maxRecDepth 100000 in
set_option maxHeartbeats 400000 in
theorem f_M_rated_t {x : zm_X} {d : Nat} (p1 : Int32) (h : zm_H) {Q : Option Value → zm_H → Prop} (hs : zSh zT0 h) (ho : f_M_rated_ok p1 h) (hF : (zSh zT0 (f_M_rated p1 h).2 → Q (some (.int (f_M_rated p1 h).1)) (f_M_rated p1 h).2)) : zg x (d + 2) 215 0 [some (.ref 92), some (.int p1)] [] h Q := by
  unfold f_M_rated at hF
  unfold f_M_rated_ok at ho
  refine zg_blk zd_215 3 hs (rfl : zb x zT0 zc_215 3 (0, [some (.ref 92), some (.int p1)], [], h) = some (4, [some (.ref 92), some (.int p1)], [.int 120, .int 0, .int p1], h)) (fun hs => ?_)
  refine zg_call hs zd_215 rfl rfl rfl rfl (as := [.int p1, .int 0, .int 120]) (rest := []) (en := [some (.int p1), some (.int 0), some (.int 120)]) rfl rfl rfl rfl rfl ?_
  refine f_M_in_t p1 0 120 h hs trivial ?_
  show zg x (d + 2) 215 7 [some (.ref 92), some (.int p1)] [.int (if (¬ (p1 < 0) ∧ (¬ (120 < p1))) then (1 : Int32) else 0)] h Q
  refine zg_b_ne zd_215 rfl (fun (hc : (¬ (p1 < 0) ∧ (¬ (120 < p1)))) => ?_) (fun (hc : ¬ (¬ (p1 < 0) ∧ (¬ (120 < p1)))) => ?_)
  · skip
    rw [if_pos hc] at hF
    refine zg_blk zd_215 4 hs (rfl : zb x zT0 zc_215 4 (12, [some (.ref 92), some (.int p1)], [], h) = some (18, [some (.ref 92), some (.int p1)], [.int 1], (zp h 92 48 p1))) (fun hs => ?_)
    exact zg_rtz zd_215 rfl rfl rfl (hF hs)
  · skip
    rw [if_neg hc] at hF
    refine zg_blk zd_215 1 hs (rfl : zb x zT0 zc_215 1 (10, [some (.ref 92), some (.int p1)], [], h) = some (11, [some (.ref 92), some (.int p1)], [.int 0], h)) (fun hs => ?_)
    exact zg_rtz zd_215 rfl rfl rfl (hF hs)
theorem zd_143 : zm_cd 143 = zc_143 := by rfl
theorem zd_144 : zm_cd 144 = zc_144 := by rfl
theorem zd_88 : zm_cd 88 = zc_88 := by rfl
set_option maxRecDepth 100000 in
set_option maxHeartbeats 400000 in
theorem f_Swell_lookNow_t {x : zm_X} {d : Nat} (p1 : Int32) (h : zm_H) {Q : Option Value → zm_H → Prop} (hs : zSh zT0 h) (ho : f_Swell_lookNow_ok p1 h) (hF : Q (some (.int (f_Swell_lookNow p1 h))) h) : zg x (d + 4) 88 0 [some (.ref 1), some (.int p1)] [] h Q := by
  unfold f_Swell_lookNow at hF
  unfold f_Swell_lookNow_ok at ho
  refine zg_blk zd_88 6 hs (rfl : zb x zT0 zc_88 6 (0, [some (.ref 1), some (.int p1)], [], h) = some (10, [some (.ref 1), some (.int p1)], [.int (zf h 1 1), .int (zf h 1 0), .int p1, .ref 1], h)) (fun hs => ?_)
  have hob := ho
  refine zg_call hs zd_88 rfl rfl rfl rfl (as := [.ref 1, .int p1, .int (zf h 1 0), .int (zf h 1 1)]) (rest := []) (en := [some (.ref 1), some (.int p1), some (.int (zf h 1 0)), some (.int (zf h 1 1)), none, none]) rfl rfl rfl rfl rfl ?_
  refine f_Swell_look_t p1 (zf h 1 0) (zf h 1 1) h hs hob ?_
  show zg x (d + 4) 88 13 [some (.ref 1), some (.int p1)] [.int (f_Swell_look p1 (zf h 1 0) (zf h 1 1) h)] h Q
  exact zg_ret zd_88 rfl rfl hF
theorem zd_44 : zm_cd 44 = zc_44 := by rfl
theorem zd_73 : zm_cd 73 = zc_73 := by rfl
theorem zd_74 : zm_cd 74 = zc_74 := by rfl
set_option maxRecDepth 100000 in
set_option maxHeartbeats 400000 in
theorem f_Rules_nameSea_t {x : zm_X} {d : Nat} (p1 : Int32) (p2 : Int32) (h : zm_H) {Q : Option Value → zm_H → Prop} (hs : zSh zT0 h) (ho : f_Rules_nameSea_ok p1 p2 h) (hF : (zSh zT0 (f_Rules_nameSea p1 p2 h) → Q none (f_Rules_nameSea p1 p2 h))) : zg x (d + 2) 74 0 [some (.ref 15), some (.int p1), some (.int p2)] [] h Q := by
  unfold f_Rules_nameSea at hF
  unfold f_Rules_nameSea_ok at ho
  refine zg_blk zd_74 4 hs (rfl : zb x zT0 zc_74 4 (0, [some (.ref 15), some (.int p1), some (.int p2)], [], h) = some (6, [some (.ref 15), some (.int p1), some (.int p2)], [.int p2, .int 0, .ref 21], h)) (fun hs => ?_)
  refine zg_call hs zd_74 rfl rfl rfl rfl (as := [.int p2]) (rest := [.int 0, .ref 21]) (en := [some (.int p2)]) rfl rfl rfl rfl rfl ?_
  refine f_N_heightOf_t p2 h hs trivial ?_
  show zg x (d + 2) 74 9 [some (.ref 15), some (.int p1), some (.int p2)] [.int (p2 / 1000), .int 0, .ref 21] h Q
  refine zg_ias hs zd_74 rfl rfl (by unfold vp_in; decide) (fun hs => ?_)
  refine zg_blk zd_74 4 hs (rfl : zb x zT0 zc_74 4 (10, [some (.ref 15), some (.int p1), some (.int p2)], [], (zs h 21 0 (p2 / 1000))) = some (16, [some (.ref 15), some (.int p1), some (.int p2)], [.int p2, .int 1, .ref 21], (zs h 21 0 (p2 / 1000)))) (fun hs => ?_)
  refine zg_call hs zd_74 rfl rfl rfl rfl (as := [.int p2]) (rest := [.int 1, .ref 21]) (en := [some (.int p2)]) rfl rfl rfl rfl rfl ?_
  refine f_N_periodOf_t p2 (zs h 21 0 (p2 / 1000)) hs trivial ?_
  show zg x (d + 2) 74 19 [some (.ref 15), some (.int p1), some (.int p2)] [.int ((zm_rm p2 1000) / 10), .int 1, .ref 21] (zs h 21 0 (p2 / 1000)) Q
  refine zg_ias hs zd_74 rfl rfl (by unfold vp_in; decide) (fun hs => ?_)
  refine zg_blk zd_74 4 hs (rfl : zb x zT0 zc_74 4 (20, [some (.ref 15), some (.int p1), some (.int p2)], [], (zs (zs h 21 0 (p2 / 1000)) 21 1 ((zm_rm p2 1000) / 10))) = some (26, [some (.ref 15), some (.int p1), some (.int p2)], [.int p2, .int 2, .ref 21], (zs (zs h 21 0 (p2 / 1000)) 21 1 ((zm_rm p2 1000) / 10)))) (fun hs => ?_)
  refine zg_call hs zd_74 rfl rfl rfl rfl (as := [.int p2]) (rest := [.int 2, .ref 21]) (en := [some (.int p2)]) rfl rfl rfl rfl rfl ?_
  refine f_N_wayOf_t p2 (zs (zs h 21 0 (p2 / 1000)) 21 1 ((zm_rm p2 1000) / 10)) hs trivial ?_
  show zg x (d + 2) 74 29 [some (.ref 15), some (.int p1), some (.int p2)] [.int ((zm_rm p2 10) - 1), .int 2, .ref 21] (zs (zs h 21 0 (p2 / 1000)) 21 1 ((zm_rm p2 1000) / 10)) Q
  refine zg_blk zd_74 2 hs (rfl : zb x zT0 zc_74 2 (29, [some (.ref 15), some (.int p1), some (.int p2)], [.int ((zm_rm p2 10) - 1), .int 2, .ref 21], (zs (zs h 21 0 (p2 / 1000)) 21 1 ((zm_rm p2 1000) / 10))) = some (31, [some (.ref 15), some (.int p1), some (.int p2)], [.int (((zm_rm p2 10) - 1) + 1), .int 2, .ref 21], (zs (zs h 21 0 (p2 / 1000)) 21 1 ((zm_rm p2 1000) / 10)))) (fun hs => ?_)
  refine zg_ias hs zd_74 rfl rfl (by unfold vp_in; decide) (fun hs => ?_)
  refine zg_blk zd_74 6 hs (rfl : zb x zT0 zc_74 6 (32, [some (.ref 15), some (.int p1), some (.int p2)], [], (zs (zs (zs h 21 0 (p2 / 1000)) 21 1 ((zm_rm p2 1000) / 10)) 21 2 (((zm_rm p2 10) - 1) + 1))) = some (42, [some (.ref 15), some (.int p1), some (.int p2)], [.int (p1 / 8), .int 6, .ref 21], (zs (zs (zs h 21 0 (p2 / 1000)) 21 1 ((zm_rm p2 1000) / 10)) 21 2 (((zm_rm p2 10) - 1) + 1)))) (fun hs => ?_)
  refine zg_ias hs zd_74 rfl rfl (by unfold vp_in; decide) (fun hs => ?_)
  refine zg_blk zd_74 6 hs (rfl : zb x zT0 zc_74 6 (43, [some (.ref 15), some (.int p1), some (.int p2)], [], (zs (zs (zs (zs h 21 0 (p2 / 1000)) 21 1 ((zm_rm p2 1000) / 10)) 21 2 (((zm_rm p2 10) - 1) + 1)) 21 6 (p1 / 8))) = some (53, [some (.ref 15), some (.int p1), some (.int p2)], [.int (zm_rm p1 8), .int 7, .ref 21], (zs (zs (zs (zs h 21 0 (p2 / 1000)) 21 1 ((zm_rm p2 1000) / 10)) 21 2 (((zm_rm p2 10) - 1) + 1)) 21 6 (p1 / 8)))) (fun hs => ?_)
  refine zg_ias hs zd_74 rfl rfl (by unfold vp_in; decide) (fun hs => ?_)
  exact zg_ret zd_74 rfl rfl (hF hs)
theorem zd_75 : zm_cd 75 = zc_75 := by rfl
set_option maxRecDepth 100000 in
set_option maxHeartbeats 400000 in
theorem f_Rules_nameRaft_t {x : zm_X} {d : Nat} (p1 : Int32) (p2 : Int32) (p3 : Int32) (p4 : Int32) (h : zm_H) {Q : Option Value → zm_H → Prop} (hs : zSh zT0 h) (ho : f_Rules_nameRaft_ok p1 p2 p3 p4 h) (hF : (zSh zT0 (f_Rules_nameRaft p1 p2 p3 p4 h) → Q none (f_Rules_nameRaft p1 p2 p3 p4 h))) : zg x (d + 1) 75 0 [some (.ref 15), some (.int p1), some (.int p2), some (.int p3), some (.int p4)] [] h Q := by
  unfold f_Rules_nameRaft at hF
  unfold f_Rules_nameRaft_ok at ho
  refine zg_blk zd_75 4 hs (rfl : zb x zT0 zc_75 4 (0, [some (.ref 15), some (.int p1), some (.int p2), some (.int p3), some (.int p4)], [], h) = some (6, [some (.ref 15), some (.int p1), some (.int p2), some (.int p3), some (.int p4)], [.int p1, .int 3, .ref 21], h)) (fun hs => ?_)
  refine zg_ias hs zd_75 rfl rfl (by unfold vp_in; decide) (fun hs => ?_)
  refine zg_blk zd_75 4 hs (rfl : zb x zT0 zc_75 4 (7, [some (.ref 15), some (.int p1), some (.int p2), some (.int p3), some (.int p4)], [], (zs h 21 3 p1)) = some (13, [some (.ref 15), some (.int p1), some (.int p2), some (.int p3), some (.int p4)], [.int p2, .int 4, .ref 21], (zs h 21 3 p1))) (fun hs => ?_)
  refine zg_ias hs zd_75 rfl rfl (by unfold vp_in; decide) (fun hs => ?_)
  refine zg_blk zd_75 4 hs (rfl : zb x zT0 zc_75 4 (14, [some (.ref 15), some (.int p1), some (.int p2), some (.int p3), some (.int p4)], [], (zs (zs h 21 3 p1) 21 4 p2)) = some (20, [some (.ref 15), some (.int p1), some (.int p2), some (.int p3), some (.int p4)], [.int p3, .int 5, .ref 21], (zs (zs h 21 3 p1) 21 4 p2))) (fun hs => ?_)
  refine zg_ias hs zd_75 rfl rfl (by unfold vp_in; decide) (fun hs => ?_)
  refine zg_blk zd_75 4 hs (rfl : zb x zT0 zc_75 4 (21, [some (.ref 15), some (.int p1), some (.int p2), some (.int p3), some (.int p4)], [], (zs (zs (zs h 21 3 p1) 21 4 p2) 21 5 p3)) = some (29, [some (.ref 15), some (.int p1), some (.int p2), some (.int p3), some (.int p4)], [.int p4, .int 8, .ref 21], (zs (zs (zs h 21 3 p1) 21 4 p2) 21 5 p3))) (fun hs => ?_)
  refine zg_ias hs zd_75 rfl rfl (by unfold vp_in; decide) (fun hs => ?_)
  exact zg_ret zd_75 rfl rfl (hF hs)
theorem zd_76 : zm_cd 76 = zc_76 := by rfl
theorem zd_78 : zm_cd 78 = zc_78 := by rfl
set_option maxRecDepth 100000 in
set_option maxHeartbeats 400000 in
theorem f_Rules_join_t {x : zm_X} {d : Nat} (p0 : Int32) (p1 : Int32) (p2 : Int32) (h : zm_H) {Q : Option Value → zm_H → Prop} (hs : zSh zT0 h) (ho : f_Rules_join_ok p0 p1 p2 h) (hF : Q (some (.int (f_Rules_join p0 p1 p2 h))) h) : zg x (d + 1) 78 0 [some (.int p0), some (.int p1), some (.int p2)] [] h Q := by
  unfold f_Rules_join at hF
  unfold f_Rules_join_ok at ho
  refine zg_blk zd_78 1 hs (rfl : zb x zT0 zc_78 1 (0, [some (.int p0), some (.int p1), some (.int p2)], [], h) = some (1, [some (.int p0), some (.int p1), some (.int p2)], [.int p0], h)) (fun hs => ?_)
  by_cases hc42 : p0 = 42
  · have ho := ho.1 hc42
    rw [if_pos hc42] at hF
    refine zg_lsw zd_78 rfl (tg := 112) (by rw [hc42]; rfl) ?_
    refine zg_blk zd_78 7 hs (rfl : zb x zT0 zc_78 7 (112, [some (.int p0), some (.int p1), some (.int p2)], [], h) = some (123, [some (.int p0), some (.int p1), some (.int p2)], [.long (1000000 : Int32).toInt64, .long (p1.toInt64 * p2.toInt64), .long ((-1000000) : Int32).toInt64], h)) (fun hs => ?_)
    refine zg_x zd_78 rfl rfl rfl rfl (as := [.long (p1.toInt64 * p2.toInt64), .long (1000000 : Int32).toInt64]) (rest := [.long ((-1000000) : Int32).toInt64]) (w := some (.long (if (1000000 : Int32).toInt64 < (p1.toInt64 * p2.toInt64) then (1000000 : Int32).toInt64 else (p1.toInt64 * p2.toInt64)))) rfl rfl rfl ?_
    refine zg_x zd_78 rfl rfl rfl rfl (as := [.long ((-1000000) : Int32).toInt64, .long (if (1000000 : Int32).toInt64 < (p1.toInt64 * p2.toInt64) then (1000000 : Int32).toInt64 else (p1.toInt64 * p2.toInt64))]) (rest := []) (w := some (.long (if (if (1000000 : Int32).toInt64 < (p1.toInt64 * p2.toInt64) then (1000000 : Int32).toInt64 else (p1.toInt64 * p2.toInt64)) < ((-1000000) : Int32).toInt64 then ((-1000000) : Int32).toInt64 else (if (1000000 : Int32).toInt64 < (p1.toInt64 * p2.toInt64) then (1000000 : Int32).toInt64 else (p1.toInt64 * p2.toInt64))))) rfl rfl rfl ?_
    refine zg_blk zd_78 1 hs (rfl : zb x zT0 zc_78 1 (129, [some (.int p0), some (.int p1), some (.int p2)], [.long (if (if (1000000 : Int32).toInt64 < (p1.toInt64 * p2.toInt64) then (1000000 : Int32).toInt64 else (p1.toInt64 * p2.toInt64)) < ((-1000000) : Int32).toInt64 then ((-1000000) : Int32).toInt64 else (if (1000000 : Int32).toInt64 < (p1.toInt64 * p2.toInt64) then (1000000 : Int32).toInt64 else (p1.toInt64 * p2.toInt64)))], h) = some (130, [some (.int p0), some (.int p1), some (.int p2)], [.int (if (if (1000000 : Int32).toInt64 < (p1.toInt64 * p2.toInt64) then (1000000 : Int32).toInt64 else (p1.toInt64 * p2.toInt64)) < ((-1000000) : Int32).toInt64 then ((-1000000) : Int32).toInt64 else (if (1000000 : Int32).toInt64 < (p1.toInt64 * p2.toInt64) then (1000000 : Int32).toInt64 else (p1.toInt64 * p2.toInt64))).toInt32], h)) (fun hs => ?_)
    exact zg_ret zd_78 rfl rfl hF
  have ho := ho.2 hc42
  rw [if_neg hc42] at hF
  by_cases hc43 : p0 = 43
  · have ho := ho.1 hc43
    rw [if_pos hc43] at hF
    refine zg_lsw zd_78 rfl (tg := 84) (by rw [hc43]; rfl) ?_
    refine zg_blk zd_78 5 hs (rfl : zb x zT0 zc_78 5 (84, [some (.int p0), some (.int p1), some (.int p2)], [], h) = some (91, [some (.int p0), some (.int p1), some (.int p2)], [.int 1000000, .int (p1 + p2), .int (-1000000)], h)) (fun hs => ?_)
    refine zg_x zd_78 rfl rfl rfl rfl (as := [.int (p1 + p2), .int 1000000]) (rest := [.int (-1000000)]) (w := some (.int (if 1000000 < (p1 + p2) then 1000000 else (p1 + p2)))) rfl rfl rfl ?_
    refine zg_x zd_78 rfl rfl rfl rfl (as := [.int (-1000000), .int (if 1000000 < (p1 + p2) then 1000000 else (p1 + p2))]) (rest := []) (w := some (.int (if (-1000000) < (if 1000000 < (p1 + p2) then 1000000 else (p1 + p2)) then (if 1000000 < (p1 + p2) then 1000000 else (p1 + p2)) else (-1000000)))) rfl rfl rfl ?_
    exact zg_ret zd_78 rfl rfl hF
  have ho := ho.2 hc43
  rw [if_neg hc43] at hF
  by_cases hc45 : p0 = 45
  · have ho := ho.1 hc45
    rw [if_pos hc45] at hF
    refine zg_lsw zd_78 rfl (tg := 98) (by rw [hc45]; rfl) ?_
    refine zg_blk zd_78 5 hs (rfl : zb x zT0 zc_78 5 (98, [some (.int p0), some (.int p1), some (.int p2)], [], h) = some (105, [some (.int p0), some (.int p1), some (.int p2)], [.int 1000000, .int (p1 - p2), .int (-1000000)], h)) (fun hs => ?_)
    refine zg_x zd_78 rfl rfl rfl rfl (as := [.int (p1 - p2), .int 1000000]) (rest := [.int (-1000000)]) (w := some (.int (if 1000000 < (p1 - p2) then 1000000 else (p1 - p2)))) rfl rfl rfl ?_
    refine zg_x zd_78 rfl rfl rfl rfl (as := [.int (-1000000), .int (if 1000000 < (p1 - p2) then 1000000 else (p1 - p2))]) (rest := []) (w := some (.int (if (-1000000) < (if 1000000 < (p1 - p2) then 1000000 else (p1 - p2)) then (if 1000000 < (p1 - p2) then 1000000 else (p1 - p2)) else (-1000000)))) rfl rfl rfl ?_
    exact zg_ret zd_78 rfl rfl hF
  have ho := ho.2 hc45
  rw [if_neg hc45] at hF
  by_cases hc47 : p0 = 47
  · have ho := ho.1 hc47
    rw [if_pos hc47] at hF
    refine zg_lsw zd_78 rfl (tg := 131) (by rw [hc47]; rfl) ?_
    refine zg_blk zd_78 1 hs (rfl : zb x zT0 zc_78 1 (131, [some (.int p0), some (.int p1), some (.int p2)], [], h) = some (132, [some (.int p0), some (.int p1), some (.int p2)], [.int p2], h)) (fun hs => ?_)
    have hom := ho
    have K47 : zSh zT0 h → zg x (d + 1) 78 142 [some (.int p0), some (.int p1), some (.int p2)] [.int (if (p2 = 0) then (0 : Int32) else (p1 / p2))] h Q := fun hs => by
      exact zg_ret zd_78 rfl rfl hF
    refine zg_f_ne zd_78 rfl (fun (hc : ¬ (p2 = 0)) => ?_) (fun (hc : (p2 = 0)) => ?_)
    · have ho := hom.2 hc
      rw [show ((if (p2 = 0) then (0 : Int32) else (p1 / p2)) : Int32) = (p1 / p2) from if_neg hc] at K47
      refine zg_blk zd_78 2 hs (rfl : zb x zT0 zc_78 2 (139, [some (.int p0), some (.int p1), some (.int p2)], [], h) = some (141, [some (.int p0), some (.int p1), some (.int p2)], [.int p2, .int p1], h)) (fun hs => ?_)
      have hob := ho
      refine zg_div zd_78 rfl hob ?_
      exact K47 hs
    · have ho := hom.1 hc
      rw [show ((if (p2 = 0) then (0 : Int32) else (p1 / p2)) : Int32) = 0 from if_pos hc] at K47
      refine zg_blk zd_78 2 hs (rfl : zb x zT0 zc_78 2 (135, [some (.int p0), some (.int p1), some (.int p2)], [], h) = some (142, [some (.int p0), some (.int p1), some (.int p2)], [.int 0], h)) (fun hs => ?_)
      exact K47 hs
  have ho := ho.2 hc47
  rw [if_neg hc47] at hF
  by_cases hc60 : p0 = 60
  · have ho := ho.1 hc60
    rw [if_pos hc60] at hF
    refine zg_lsw zd_78 rfl (tg := 143) (by rw [hc60]; rfl) ?_
    refine zg_blk zd_78 2 hs (rfl : zb x zT0 zc_78 2 (143, [some (.int p0), some (.int p1), some (.int p2)], [], h) = some (145, [some (.int p0), some (.int p1), some (.int p2)], [.int p2, .int p1], h)) (fun hs => ?_)
    have K48 : zSh zT0 h → zg x (d + 1) 78 153 [some (.int p0), some (.int p1), some (.int p2)] [.int (if (¬ (p2 ≤ p1)) then (1 : Int32) else 0)] h Q := fun hs => by
      exact zg_ret zd_78 rfl rfl hF
    refine zg_i_ge zd_78 rfl (fun (hc : (p2 ≤ p1)) => ?_) (fun (hc : ¬ (p2 ≤ p1)) => ?_)
    · skip
      rw [show ((if (¬ (p2 ≤ p1)) then (1 : Int32) else 0) : Int32) = 0 from zb_not_t hc] at K48
      refine zg_blk zd_78 1 hs (rfl : zb x zT0 zc_78 1 (152, [some (.int p0), some (.int p1), some (.int p2)], [], h) = some (153, [some (.int p0), some (.int p1), some (.int p2)], [.int 0], h)) (fun hs => ?_)
      exact K48 hs
    · skip
      rw [show ((if (¬ (p2 ≤ p1)) then (1 : Int32) else 0) : Int32) = 1 from zb_not_f hc] at K48
      refine zg_blk zd_78 2 hs (rfl : zb x zT0 zc_78 2 (148, [some (.int p0), some (.int p1), some (.int p2)], [], h) = some (153, [some (.int p0), some (.int p1), some (.int p2)], [.int 1], h)) (fun hs => ?_)
      exact K48 hs
  have ho := ho.2 hc60
  rw [if_neg hc60] at hF
  by_cases hc61 : p0 = 61
  · have ho := ho.1 hc61
    rw [if_pos hc61] at hF
    refine zg_lsw zd_78 rfl (tg := 165) (by rw [hc61]; rfl) ?_
    refine zg_blk zd_78 2 hs (rfl : zb x zT0 zc_78 2 (165, [some (.int p0), some (.int p1), some (.int p2)], [], h) = some (167, [some (.int p0), some (.int p1), some (.int p2)], [.int p2, .int p1], h)) (fun hs => ?_)
    have K49 : zSh zT0 h → zg x (d + 1) 78 175 [some (.int p0), some (.int p1), some (.int p2)] [.int (if (p1 = p2) then (1 : Int32) else 0)] h Q := fun hs => by
      exact zg_ret zd_78 rfl rfl hF
    refine zg_i_ne zd_78 rfl (fun (hc : ¬ (p1 = p2)) => ?_) (fun (hc : (p1 = p2)) => ?_)
    · skip
      rw [show ((if (p1 = p2) then (1 : Int32) else 0) : Int32) = 0 from if_neg hc] at K49
      refine zg_blk zd_78 1 hs (rfl : zb x zT0 zc_78 1 (174, [some (.int p0), some (.int p1), some (.int p2)], [], h) = some (175, [some (.int p0), some (.int p1), some (.int p2)], [.int 0], h)) (fun hs => ?_)
      exact K49 hs
    · skip
      rw [show ((if (p1 = p2) then (1 : Int32) else 0) : Int32) = 1 from if_pos hc] at K49
      refine zg_blk zd_78 2 hs (rfl : zb x zT0 zc_78 2 (170, [some (.int p0), some (.int p1), some (.int p2)], [], h) = some (175, [some (.int p0), some (.int p1), some (.int p2)], [.int 1], h)) (fun hs => ?_)
      exact K49 hs
  have ho := ho.2 hc61
  rw [if_neg hc61] at hF
  by_cases hc62 : p0 = 62
  · have ho := ho.1 hc62
    rw [if_pos hc62] at hF
    refine zg_lsw zd_78 rfl (tg := 154) (by rw [hc62]; rfl) ?_
    refine zg_blk zd_78 2 hs (rfl : zb x zT0 zc_78 2 (154, [some (.int p0), some (.int p1), some (.int p2)], [], h) = some (156, [some (.int p0), some (.int p1), some (.int p2)], [.int p2, .int p1], h)) (fun hs => ?_)
    have K50 : zSh zT0 h → zg x (d + 1) 78 164 [some (.int p0), some (.int p1), some (.int p2)] [.int (if (¬ (p1 ≤ p2)) then (1 : Int32) else 0)] h Q := fun hs => by
      exact zg_ret zd_78 rfl rfl hF
    refine zg_i_le zd_78 rfl (fun (hc : (p1 ≤ p2)) => ?_) (fun (hc : ¬ (p1 ≤ p2)) => ?_)
    · skip
      rw [show ((if (¬ (p1 ≤ p2)) then (1 : Int32) else 0) : Int32) = 0 from zb_not_t hc] at K50
      refine zg_blk zd_78 1 hs (rfl : zb x zT0 zc_78 1 (163, [some (.int p0), some (.int p1), some (.int p2)], [], h) = some (164, [some (.int p0), some (.int p1), some (.int p2)], [.int 0], h)) (fun hs => ?_)
      exact K50 hs
    · skip
      rw [show ((if (¬ (p1 ≤ p2)) then (1 : Int32) else 0) : Int32) = 1 from zb_not_f hc] at K50
      refine zg_blk zd_78 2 hs (rfl : zb x zT0 zc_78 2 (159, [some (.int p0), some (.int p1), some (.int p2)], [], h) = some (164, [some (.int p0), some (.int p1), some (.int p2)], [.int 1], h)) (fun hs => ?_)
      exact K50 hs
  have ho := ho.2 hc62
  rw [if_neg hc62] at hF
  by_cases hc313 : p0 = 313
  · have ho := ho.1 hc313
    rw [if_pos hc313] at hF
    refine zg_lsw zd_78 rfl (tg := 180) (by rw [hc313]; rfl) ?_
    refine zg_blk zd_78 3 hs (rfl : zb x zT0 zc_78 3 (180, [some (.int p0), some (.int p1), some (.int p2)], [], h) = some (183, [some (.int p0), some (.int p1), some (.int p2)], [.int (p1 ||| p2)], h)) (fun hs => ?_)
    exact zg_ret zd_78 rfl rfl hF
  have ho := ho.2 hc313
  rw [if_neg hc313] at hF
  by_cases hc314 : p0 = 314
  · have ho := ho.1 hc314
    rw [if_pos hc314] at hF
    refine zg_lsw zd_78 rfl (tg := 176) (by rw [hc314]; rfl) ?_
    refine zg_blk zd_78 3 hs (rfl : zb x zT0 zc_78 3 (176, [some (.int p0), some (.int p1), some (.int p2)], [], h) = some (179, [some (.int p0), some (.int p1), some (.int p2)], [.int (p1 &&& p2)], h)) (fun hs => ?_)
    exact zg_ret zd_78 rfl rfl hF
  have ho := ho.2 hc314
  rw [if_neg hc314] at hF
  refine zg_lsw zd_78 rfl (tg := 184) (by show (((1 : Nat) : Int) + Op.lookupswitch.offset [(42, 111), (43, 83), (45, 97), (47, 130), (60, 142), (61, 164), (62, 153), (313, 179), (314, 175)] (183) (Int32.toInt p0)).toNat = 184; rw [lv_osw (a := 42) hc42 rfl, lv_osw (a := 43) hc43 rfl, lv_osw (a := 45) hc45 rfl, lv_osw (a := 47) hc47 rfl, lv_osw (a := 60) hc60 rfl, lv_osw (a := 61) hc61 rfl, lv_osw (a := 62) hc62 rfl, lv_osw (a := 313) hc313 rfl, lv_osw (a := 314) hc314 rfl]; rfl) ?_
  refine zg_blk zd_78 1 hs (rfl : zb x zT0 zc_78 1 (184, [some (.int p0), some (.int p1), some (.int p2)], [], h) = some (185, [some (.int p0), some (.int p1), some (.int p2)], [.int 0], h)) (fun hs => ?_)
  exact zg_ret zd_78 rfl rfl hF
set_option maxRecDepth 100000 in
set_option maxHeartbeats 400000 in
theorem f_Rules_work_l68_k134_t {x : zm_X} {d : Nat} (v3 : Nat) (v4 : Int32) (v5 : Int32) (v6 : Int32) (h : zm_H) (o1 : Option Value) (z2 : Int32) {Q : Option Value → zm_H → Prop} {FN : Nat × Int32 × zm_H → Prop} (hs : zSh zT0 h) (ho : f_Rules_work_l68_k134_ok v3 v4 v5 v6 h) (hF : FN (f_Rules_work_l68_k134 v3 v4 v5 v6 h)) (hl0 : ∀ (v5 : Int32) (h : zm_H) (o1 : Option Value) (z2 : Int32) (o6 : Option Value), zSh zT0 h → FN (0, v5, h) → zg x (d + 2) 76 68 [some (.ref 15), o1, some (.int z2), some (.ref v3), some (.int v4), some (.int v5), o6] [] h Q) (hl1 : ∀ (v5 : Int32) (h : zm_H) (o1 : Option Value) (z2 : Int32) (o5 : Option Value) (o6 : Option Value), zSh zT0 h → FN (1, v5, h) → zg x (d + 2) 76 237 [some (.ref 15), o1, some (.int z2), some (.ref v3), some (.int v4), o5, o6] [] h Q) : zg x (d + 2) 76 134 [some (.ref 15), o1, some (.int z2), some (.ref v3), some (.int v4), some (.int v5), some (.int v6)] [] h Q := by
  unfold f_Rules_work_l68_k134 at hF
  unfold f_Rules_work_l68_k134_ok at ho
  refine zg_blk zd_76 2 hs (rfl : zb x zT0 zc_76 2 (134, [some (.ref 15), o1, some (.int z2), some (.ref v3), some (.int v4), some (.int v5), some (.int v6)], [], h) = some (139, [some (.ref 15), o1, some (.int z2), some (.ref v3), some (.int v4), some (.int v5), some (.int v6)], [.int 315, .int v6], h)) (fun hs => ?_)
  have hom := ho
  have K51 : zSh zT0 (if (v6 = 315) then (if ((zf h 15 9) < 1) then (if ((zf h 15 9) < 2) then h else (zs (zp h 15 9 ((zf h 15 9) - 1)) 22 (((zf h 15 9) - 1) - 1) (f_Rules_join v6 (zr h 22 (((zf h 15 9) - 1) - 1)) (zr h 22 ((zf h 15 9) - 1)) (zp h 15 9 ((zf h 15 9) - 1))))) else (zs h 22 ((zf h 15 9) - 1) (1 - (zr h 22 ((zf h 15 9) - 1))))) else (if ((zf h 15 9) < 2) then h else (zs (zp h 15 9 ((zf h 15 9) - 1)) 22 (((zf h 15 9) - 1) - 1) (f_Rules_join v6 (zr h 22 (((zf h 15 9) - 1) - 1)) (zr h 22 ((zf h 15 9) - 1)) (zp h 15 9 ((zf h 15 9) - 1)))))) → zg x (d + 2) 76 231 [some (.ref 15), o1, some (.int z2), some (.ref v3), some (.int v4), some (.int v5), some (.int v6)] [] (if (v6 = 315) then (if ((zf h 15 9) < 1) then (if ((zf h 15 9) < 2) then h else (zs (zp h 15 9 ((zf h 15 9) - 1)) 22 (((zf h 15 9) - 1) - 1) (f_Rules_join v6 (zr h 22 (((zf h 15 9) - 1) - 1)) (zr h 22 ((zf h 15 9) - 1)) (zp h 15 9 ((zf h 15 9) - 1))))) else (zs h 22 ((zf h 15 9) - 1) (1 - (zr h 22 ((zf h 15 9) - 1))))) else (if ((zf h 15 9) < 2) then h else (zs (zp h 15 9 ((zf h 15 9) - 1)) 22 (((zf h 15 9) - 1) - 1) (f_Rules_join v6 (zr h 22 (((zf h 15 9) - 1) - 1)) (zr h 22 ((zf h 15 9) - 1)) (zp h 15 9 ((zf h 15 9) - 1)))))) Q := fun hs => by
    refine zg_blk zd_76 2 hs (rfl : zb x zT0 zc_76 2 (231, [some (.ref 15), o1, some (.int z2), some (.ref v3), some (.int v4), some (.int v5), some (.int v6)], [], (if (v6 = 315) then (if ((zf h 15 9) < 1) then (if ((zf h 15 9) < 2) then h else (zs (zp h 15 9 ((zf h 15 9) - 1)) 22 (((zf h 15 9) - 1) - 1) (f_Rules_join v6 (zr h 22 (((zf h 15 9) - 1) - 1)) (zr h 22 ((zf h 15 9) - 1)) (zp h 15 9 ((zf h 15 9) - 1))))) else (zs h 22 ((zf h 15 9) - 1) (1 - (zr h 22 ((zf h 15 9) - 1))))) else (if ((zf h 15 9) < 2) then h else (zs (zp h 15 9 ((zf h 15 9) - 1)) 22 (((zf h 15 9) - 1) - 1) (f_Rules_join v6 (zr h 22 (((zf h 15 9) - 1) - 1)) (zr h 22 ((zf h 15 9) - 1)) (zp h 15 9 ((zf h 15 9) - 1))))))) = some (68, [some (.ref 15), o1, some (.int z2), some (.ref v3), some (.int v4), some (.int (v5 + 1)), some (.int v6)], [], (if (v6 = 315) then (if ((zf h 15 9) < 1) then (if ((zf h 15 9) < 2) then h else (zs (zp h 15 9 ((zf h 15 9) - 1)) 22 (((zf h 15 9) - 1) - 1) (f_Rules_join v6 (zr h 22 (((zf h 15 9) - 1) - 1)) (zr h 22 ((zf h 15 9) - 1)) (zp h 15 9 ((zf h 15 9) - 1))))) else (zs h 22 ((zf h 15 9) - 1) (1 - (zr h 22 ((zf h 15 9) - 1))))) else (if ((zf h 15 9) < 2) then h else (zs (zp h 15 9 ((zf h 15 9) - 1)) 22 (((zf h 15 9) - 1) - 1) (f_Rules_join v6 (zr h 22 (((zf h 15 9) - 1) - 1)) (zr h 22 ((zf h 15 9) - 1)) (zp h 15 9 ((zf h 15 9) - 1)))))))) (fun hs => ?_)
    exact hl0 (v5 + 1) (if (v6 = 315) then (if ((zf h 15 9) < 1) then (if ((zf h 15 9) < 2) then h else (zs (zp h 15 9 ((zf h 15 9) - 1)) 22 (((zf h 15 9) - 1) - 1) (f_Rules_join v6 (zr h 22 (((zf h 15 9) - 1) - 1)) (zr h 22 ((zf h 15 9) - 1)) (zp h 15 9 ((zf h 15 9) - 1))))) else (zs h 22 ((zf h 15 9) - 1) (1 - (zr h 22 ((zf h 15 9) - 1))))) else (if ((zf h 15 9) < 2) then h else (zs (zp h 15 9 ((zf h 15 9) - 1)) 22 (((zf h 15 9) - 1) - 1) (f_Rules_join v6 (zr h 22 (((zf h 15 9) - 1) - 1)) (zr h 22 ((zf h 15 9) - 1)) (zp h 15 9 ((zf h 15 9) - 1)))))) (o1) z2 (some (.int v6)) hs hF
  refine zg_i_ne zd_76 rfl (fun (hc : ¬ (v6 = 315)) => ?_) (fun (hc : (v6 = 315)) => ?_)
  · have ho := hom.2 hc
    rw [show (if (v6 = 315) then (if ((zf h 15 9) < 1) then (if ((zf h 15 9) < 2) then h else (zs (zp h 15 9 ((zf h 15 9) - 1)) 22 (((zf h 15 9) - 1) - 1) (f_Rules_join v6 (zr h 22 (((zf h 15 9) - 1) - 1)) (zr h 22 ((zf h 15 9) - 1)) (zp h 15 9 ((zf h 15 9) - 1))))) else (zs h 22 ((zf h 15 9) - 1) (1 - (zr h 22 ((zf h 15 9) - 1))))) else (if ((zf h 15 9) < 2) then h else (zs (zp h 15 9 ((zf h 15 9) - 1)) 22 (((zf h 15 9) - 1) - 1) (f_Rules_join v6 (zr h 22 (((zf h 15 9) - 1) - 1)) (zr h 22 ((zf h 15 9) - 1)) (zp h 15 9 ((zf h 15 9) - 1)))))) = (if ((zf h 15 9) < 2) then h else (zs (zp h 15 9 ((zf h 15 9) - 1)) 22 (((zf h 15 9) - 1) - 1) (f_Rules_join v6 (zr h 22 (((zf h 15 9) - 1) - 1)) (zr h 22 ((zf h 15 9) - 1)) (zp h 15 9 ((zf h 15 9) - 1))))) from if_neg hc] at K51
    refine zg_blk zd_76 3 hs (rfl : zb x zT0 zc_76 3 (177, [some (.ref 15), o1, some (.int z2), some (.ref v3), some (.int v4), some (.int v5), some (.int v6)], [], h) = some (182, [some (.ref 15), o1, some (.int z2), some (.ref v3), some (.int v4), some (.int v5), some (.int v6)], [.int 2, .int (zf h 15 9)], h)) (fun hs => ?_)
    refine zg_i_lt zd_76 rfl (fun (hc : ((zf h 15 9) < 2)) => ?_) (fun (hc : ¬ ((zf h 15 9) < 2)) => ?_)
    · have ho := ho.1 hc
      rw [show (if ((zf h 15 9) < 2) then h else (zs (zp h 15 9 ((zf h 15 9) - 1)) 22 (((zf h 15 9) - 1) - 1) (f_Rules_join v6 (zr h 22 (((zf h 15 9) - 1) - 1)) (zr h 22 ((zf h 15 9) - 1)) (zp h 15 9 ((zf h 15 9) - 1))))) = h from if_pos hc] at K51
      exact K51 hs
    · have ho := ho.2 hc
      rw [show (if ((zf h 15 9) < 2) then h else (zs (zp h 15 9 ((zf h 15 9) - 1)) 22 (((zf h 15 9) - 1) - 1) (f_Rules_join v6 (zr h 22 (((zf h 15 9) - 1) - 1)) (zr h 22 ((zf h 15 9) - 1)) (zp h 15 9 ((zf h 15 9) - 1))))) = (zs (zp h 15 9 ((zf h 15 9) - 1)) 22 (((zf h 15 9) - 1) - 1) (f_Rules_join v6 (zr h 22 (((zf h 15 9) - 1) - 1)) (zr h 22 ((zf h 15 9) - 1)) (zp h 15 9 ((zf h 15 9) - 1)))) from if_neg hc] at K51
      refine zg_blk zd_76 19 hs (rfl : zb x zT0 zc_76 19 (185, [some (.ref 15), o1, some (.int z2), some (.ref v3), some (.int v4), some (.int v5), some (.int v6)], [], h) = some (217, [some (.ref 15), o1, some (.int z2), some (.ref v3), some (.int v4), some (.int v5), some (.int v6)], [.int (((zf h 15 9) - 1) - 1), .ref 22, .int v6, .int (((zf h 15 9) - 1) - 1), .ref 22], (zp h 15 9 ((zf h 15 9) - 1)))) (fun hs => ?_)
      obtain ⟨hob, ho⟩ := ho
      refine zg_ial hs zd_76 rfl rfl hob ?_
      refine zg_blk zd_76 4 hs (rfl : zb x zT0 zc_76 4 (218, [some (.ref 15), o1, some (.int z2), some (.ref v3), some (.int v4), some (.int v5), some (.int v6)], [.int (zr h 22 (((zf h 15 9) - 1) - 1)), .int v6, .int (((zf h 15 9) - 1) - 1), .ref 22], (zp h 15 9 ((zf h 15 9) - 1))) = some (226, [some (.ref 15), o1, some (.int z2), some (.ref v3), some (.int v4), some (.int v5), some (.int v6)], [.int ((zf h 15 9) - 1), .ref 22, .int (zr h 22 (((zf h 15 9) - 1) - 1)), .int v6, .int (((zf h 15 9) - 1) - 1), .ref 22], (zp h 15 9 ((zf h 15 9) - 1)))) (fun hs => ?_)
      obtain ⟨hob, ho⟩ := ho
      refine zg_ial hs zd_76 rfl rfl hob ?_
      obtain ⟨hob, ho⟩ := ho
      refine zg_call hs zd_76 rfl rfl rfl rfl (as := [.int v6, .int (zr h 22 (((zf h 15 9) - 1) - 1)), .int (zr h 22 ((zf h 15 9) - 1))]) (rest := [.int (((zf h 15 9) - 1) - 1), .ref 22]) (en := [some (.int v6), some (.int (zr h 22 (((zf h 15 9) - 1) - 1))), some (.int (zr h 22 ((zf h 15 9) - 1)))]) rfl rfl rfl rfl rfl ?_
      refine f_Rules_join_t v6 (zr h 22 (((zf h 15 9) - 1) - 1)) (zr h 22 ((zf h 15 9) - 1)) (zp h 15 9 ((zf h 15 9) - 1)) hs hob ?_
      show zg x (d + 2) 76 230 [some (.ref 15), o1, some (.int z2), some (.ref v3), some (.int v4), some (.int v5), some (.int v6)] [.int (f_Rules_join v6 (zr h 22 (((zf h 15 9) - 1) - 1)) (zr h 22 ((zf h 15 9) - 1)) (zp h 15 9 ((zf h 15 9) - 1))), .int (((zf h 15 9) - 1) - 1), .ref 22] (zp h 15 9 ((zf h 15 9) - 1)) Q
      have hob := ho
      refine zg_ias hs zd_76 rfl rfl hob (fun hs => ?_)
      exact K51 hs
  · have ho := hom.1 hc
    rw [show (if (v6 = 315) then (if ((zf h 15 9) < 1) then (if ((zf h 15 9) < 2) then h else (zs (zp h 15 9 ((zf h 15 9) - 1)) 22 (((zf h 15 9) - 1) - 1) (f_Rules_join v6 (zr h 22 (((zf h 15 9) - 1) - 1)) (zr h 22 ((zf h 15 9) - 1)) (zp h 15 9 ((zf h 15 9) - 1))))) else (zs h 22 ((zf h 15 9) - 1) (1 - (zr h 22 ((zf h 15 9) - 1))))) else (if ((zf h 15 9) < 2) then h else (zs (zp h 15 9 ((zf h 15 9) - 1)) 22 (((zf h 15 9) - 1) - 1) (f_Rules_join v6 (zr h 22 (((zf h 15 9) - 1) - 1)) (zr h 22 ((zf h 15 9) - 1)) (zp h 15 9 ((zf h 15 9) - 1)))))) = (if ((zf h 15 9) < 1) then (if ((zf h 15 9) < 2) then h else (zs (zp h 15 9 ((zf h 15 9) - 1)) 22 (((zf h 15 9) - 1) - 1) (f_Rules_join v6 (zr h 22 (((zf h 15 9) - 1) - 1)) (zr h 22 ((zf h 15 9) - 1)) (zp h 15 9 ((zf h 15 9) - 1))))) else (zs h 22 ((zf h 15 9) - 1) (1 - (zr h 22 ((zf h 15 9) - 1))))) from if_pos hc] at K51
    refine zg_blk zd_76 3 hs (rfl : zb x zT0 zc_76 3 (142, [some (.ref 15), o1, some (.int z2), some (.ref v3), some (.int v4), some (.int v5), some (.int v6)], [], h) = some (147, [some (.ref 15), o1, some (.int z2), some (.ref v3), some (.int v4), some (.int v5), some (.int v6)], [.int 1, .int (zf h 15 9)], h)) (fun hs => ?_)
    refine zg_i_lt zd_76 rfl (fun (hc : ((zf h 15 9) < 1)) => ?_) (fun (hc : ¬ ((zf h 15 9) < 1)) => ?_)
    · have ho := ho.1 hc
      rw [show (if ((zf h 15 9) < 1) then (if ((zf h 15 9) < 2) then h else (zs (zp h 15 9 ((zf h 15 9) - 1)) 22 (((zf h 15 9) - 1) - 1) (f_Rules_join v6 (zr h 22 (((zf h 15 9) - 1) - 1)) (zr h 22 ((zf h 15 9) - 1)) (zp h 15 9 ((zf h 15 9) - 1))))) else (zs h 22 ((zf h 15 9) - 1) (1 - (zr h 22 ((zf h 15 9) - 1))))) = (if ((zf h 15 9) < 2) then h else (zs (zp h 15 9 ((zf h 15 9) - 1)) 22 (((zf h 15 9) - 1) - 1) (f_Rules_join v6 (zr h 22 (((zf h 15 9) - 1) - 1)) (zr h 22 ((zf h 15 9) - 1)) (zp h 15 9 ((zf h 15 9) - 1))))) from if_pos hc] at K51
      refine zg_blk zd_76 3 hs (rfl : zb x zT0 zc_76 3 (177, [some (.ref 15), o1, some (.int z2), some (.ref v3), some (.int v4), some (.int v5), some (.int v6)], [], h) = some (182, [some (.ref 15), o1, some (.int z2), some (.ref v3), some (.int v4), some (.int v5), some (.int v6)], [.int 2, .int (zf h 15 9)], h)) (fun hs => ?_)
      refine zg_i_lt zd_76 rfl (fun (hc : ((zf h 15 9) < 2)) => ?_) (fun (hc : ¬ ((zf h 15 9) < 2)) => ?_)
      · have ho := ho.1 hc
        rw [show (if ((zf h 15 9) < 2) then h else (zs (zp h 15 9 ((zf h 15 9) - 1)) 22 (((zf h 15 9) - 1) - 1) (f_Rules_join v6 (zr h 22 (((zf h 15 9) - 1) - 1)) (zr h 22 ((zf h 15 9) - 1)) (zp h 15 9 ((zf h 15 9) - 1))))) = h from if_pos hc] at K51
        exact K51 hs
      · have ho := ho.2 hc
        rw [show (if ((zf h 15 9) < 2) then h else (zs (zp h 15 9 ((zf h 15 9) - 1)) 22 (((zf h 15 9) - 1) - 1) (f_Rules_join v6 (zr h 22 (((zf h 15 9) - 1) - 1)) (zr h 22 ((zf h 15 9) - 1)) (zp h 15 9 ((zf h 15 9) - 1))))) = (zs (zp h 15 9 ((zf h 15 9) - 1)) 22 (((zf h 15 9) - 1) - 1) (f_Rules_join v6 (zr h 22 (((zf h 15 9) - 1) - 1)) (zr h 22 ((zf h 15 9) - 1)) (zp h 15 9 ((zf h 15 9) - 1)))) from if_neg hc] at K51
        refine zg_blk zd_76 19 hs (rfl : zb x zT0 zc_76 19 (185, [some (.ref 15), o1, some (.int z2), some (.ref v3), some (.int v4), some (.int v5), some (.int v6)], [], h) = some (217, [some (.ref 15), o1, some (.int z2), some (.ref v3), some (.int v4), some (.int v5), some (.int v6)], [.int (((zf h 15 9) - 1) - 1), .ref 22, .int v6, .int (((zf h 15 9) - 1) - 1), .ref 22], (zp h 15 9 ((zf h 15 9) - 1)))) (fun hs => ?_)
        obtain ⟨hob, ho⟩ := ho
        refine zg_ial hs zd_76 rfl rfl hob ?_
        refine zg_blk zd_76 4 hs (rfl : zb x zT0 zc_76 4 (218, [some (.ref 15), o1, some (.int z2), some (.ref v3), some (.int v4), some (.int v5), some (.int v6)], [.int (zr h 22 (((zf h 15 9) - 1) - 1)), .int v6, .int (((zf h 15 9) - 1) - 1), .ref 22], (zp h 15 9 ((zf h 15 9) - 1))) = some (226, [some (.ref 15), o1, some (.int z2), some (.ref v3), some (.int v4), some (.int v5), some (.int v6)], [.int ((zf h 15 9) - 1), .ref 22, .int (zr h 22 (((zf h 15 9) - 1) - 1)), .int v6, .int (((zf h 15 9) - 1) - 1), .ref 22], (zp h 15 9 ((zf h 15 9) - 1)))) (fun hs => ?_)
        obtain ⟨hob, ho⟩ := ho
        refine zg_ial hs zd_76 rfl rfl hob ?_
        obtain ⟨hob, ho⟩ := ho
        refine zg_call hs zd_76 rfl rfl rfl rfl (as := [.int v6, .int (zr h 22 (((zf h 15 9) - 1) - 1)), .int (zr h 22 ((zf h 15 9) - 1))]) (rest := [.int (((zf h 15 9) - 1) - 1), .ref 22]) (en := [some (.int v6), some (.int (zr h 22 (((zf h 15 9) - 1) - 1))), some (.int (zr h 22 ((zf h 15 9) - 1)))]) rfl rfl rfl rfl rfl ?_
        refine f_Rules_join_t v6 (zr h 22 (((zf h 15 9) - 1) - 1)) (zr h 22 ((zf h 15 9) - 1)) (zp h 15 9 ((zf h 15 9) - 1)) hs hob ?_
        show zg x (d + 2) 76 230 [some (.ref 15), o1, some (.int z2), some (.ref v3), some (.int v4), some (.int v5), some (.int v6)] [.int (f_Rules_join v6 (zr h 22 (((zf h 15 9) - 1) - 1)) (zr h 22 ((zf h 15 9) - 1)) (zp h 15 9 ((zf h 15 9) - 1))), .int (((zf h 15 9) - 1) - 1), .ref 22] (zp h 15 9 ((zf h 15 9) - 1)) Q
        have hob := ho
        refine zg_ias hs zd_76 rfl rfl hob (fun hs => ?_)
        exact K51 hs
    · have ho := ho.2 hc
      rw [show (if ((zf h 15 9) < 1) then (if ((zf h 15 9) < 2) then h else (zs (zp h 15 9 ((zf h 15 9) - 1)) 22 (((zf h 15 9) - 1) - 1) (f_Rules_join v6 (zr h 22 (((zf h 15 9) - 1) - 1)) (zr h 22 ((zf h 15 9) - 1)) (zp h 15 9 ((zf h 15 9) - 1))))) else (zs h 22 ((zf h 15 9) - 1) (1 - (zr h 22 ((zf h 15 9) - 1))))) = (zs h 22 ((zf h 15 9) - 1) (1 - (zr h 22 ((zf h 15 9) - 1)))) from if_neg hc] at K51
      refine zg_blk zd_76 13 hs (rfl : zb x zT0 zc_76 13 (150, [some (.ref 15), o1, some (.int z2), some (.ref v3), some (.int v4), some (.int v5), some (.int v6)], [], h) = some (171, [some (.ref 15), o1, some (.int z2), some (.ref v3), some (.int v4), some (.int v5), some (.int v6)], [.int ((zf h 15 9) - 1), .ref 22, .int 1, .int ((zf h 15 9) - 1), .ref 22], h)) (fun hs => ?_)
      obtain ⟨hob, ho⟩ := ho
      refine zg_ial hs zd_76 rfl rfl hob ?_
      refine zg_blk zd_76 1 hs (rfl : zb x zT0 zc_76 1 (172, [some (.ref 15), o1, some (.int z2), some (.ref v3), some (.int v4), some (.int v5), some (.int v6)], [.int (zr h 22 ((zf h 15 9) - 1)), .int 1, .int ((zf h 15 9) - 1), .ref 22], h) = some (173, [some (.ref 15), o1, some (.int z2), some (.ref v3), some (.int v4), some (.int v5), some (.int v6)], [.int (1 - (zr h 22 ((zf h 15 9) - 1))), .int ((zf h 15 9) - 1), .ref 22], h)) (fun hs => ?_)
      have hob := ho
      refine zg_ias hs zd_76 rfl rfl hob (fun hs => ?_)
      refine zg_blk zd_76 1 hs (rfl : zb x zT0 zc_76 1 (174, [some (.ref 15), o1, some (.int z2), some (.ref v3), some (.int v4), some (.int v5), some (.int v6)], [], (zs h 22 ((zf h 15 9) - 1) (1 - (zr h 22 ((zf h 15 9) - 1))))) = some (231, [some (.ref 15), o1, some (.int z2), some (.ref v3), some (.int v4), some (.int v5), some (.int v6)], [], (zs h 22 ((zf h 15 9) - 1) (1 - (zr h 22 ((zf h 15 9) - 1)))))) (fun hs => ?_)
      exact K51 hs
