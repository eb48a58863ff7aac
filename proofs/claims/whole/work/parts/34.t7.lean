/-! ===== the code does what its functions say, 7 ===== -/
set_option maxRecDepth 100000 in
set_option maxHeartbeats 400000 in
theorem f_N_load_t {x : zm_X} {d : Nat} (p1 : Int32) (p2 : Int32) (p3 : Int32) (h : zm_H) {Q : Option Value → zm_H → Prop} (hs : zSh zT0 h) (ho : f_N_load_ok p1 p2 p3 h) (hF : (zSh zT0 (f_N_load p1 p2 p3 h).2 → Q (some (.int (f_N_load p1 p2 p3 h).1)) (f_N_load p1 p2 p3 h).2)) : zg x (d + 2) 154 0 [some (.ref 0), some (.int p1), some (.int p2), some (.int p3)] [] h Q := by
  unfold f_N_load at hF
  unfold f_N_load_ok at ho
  refine zg_blk zd_154 1 hs (rfl : zb x zT0 zc_154 1 (0, [some (.ref 0), some (.int p1), some (.int p2), some (.int p3)], [], h) = some (1, [some (.ref 0), some (.int p1), some (.int p2), some (.int p3)], [.int p1], h)) (fun hs => ?_)
  refine zg_call hs zd_154 rfl rfl rfl rfl (as := [.int p1]) (rest := []) (en := [some (.int p1)]) rfl rfl rfl rfl rfl ?_
  refine f_N_isBoat_t p1 h hs trivial ?_
  show zg x (d + 2) 154 4 [some (.ref 0), some (.int p1), some (.int p2), some (.int p3)] [.int (if (¬ (p1 < 0) ∧ (¬ (3 ≤ p1))) then (1 : Int32) else 0)] h Q
  refine zg_b_eq zd_154 rfl (fun (hc : ¬ (¬ (p1 < 0) ∧ (¬ (3 ≤ p1)))) => ?_) (fun (hc : (¬ (p1 < 0) ∧ (¬ (3 ≤ p1)))) => ?_)
  · have ho := ho.2 hc
    rw [if_neg hc] at hF
    refine zg_blk zd_154 1 hs (rfl : zb x zT0 zc_154 1 (16, [some (.ref 0), some (.int p1), some (.int p2), some (.int p3)], [], h) = some (17, [some (.ref 0), some (.int p1), some (.int p2), some (.int p3)], [.int (-1)], h)) (fun hs => ?_)
    exact zg_ret zd_154 rfl rfl (hF hs)
  · have ho := ho.1 hc
    rw [if_pos hc] at hF
    refine zg_blk zd_154 1 hs (rfl : zb x zT0 zc_154 1 (7, [some (.ref 0), some (.int p1), some (.int p2), some (.int p3)], [], h) = some (8, [some (.ref 0), some (.int p1), some (.int p2), some (.int p3)], [.int p2], h)) (fun hs => ?_)
    refine zg_f_lt zd_154 rfl (fun (hc : (p2 < 0)) => ?_) (fun (hc : ¬ (p2 < 0)) => ?_)
    · have ho := ho.1 hc
      rw [if_pos hc] at hF
      refine zg_blk zd_154 1 hs (rfl : zb x zT0 zc_154 1 (16, [some (.ref 0), some (.int p1), some (.int p2), some (.int p3)], [], h) = some (17, [some (.ref 0), some (.int p1), some (.int p2), some (.int p3)], [.int (-1)], h)) (fun hs => ?_)
      exact zg_ret zd_154 rfl rfl (hF hs)
    · have ho := ho.2 hc
      rw [if_neg hc] at hF
      refine zg_blk zd_154 2 hs (rfl : zb x zT0 zc_154 2 (11, [some (.ref 0), some (.int p1), some (.int p2), some (.int p3)], [], h) = some (13, [some (.ref 0), some (.int p1), some (.int p2), some (.int p3)], [.int 3, .int p2], h)) (fun hs => ?_)
      refine zg_i_lt zd_154 rfl (fun (hc : (p2 < 3)) => ?_) (fun (hc : ¬ (p2 < 3)) => ?_)
      · have ho := ho.1 hc
        rw [if_pos hc] at hF
        refine zg_blk zd_154 5 hs (rfl : zb x zT0 zc_154 5 (18, [some (.ref 0), some (.int p1), some (.int p2), some (.int p3)], [], h) = some (25, [some (.ref 0), some (.int p1), some (.int p2), some (.int p3)], [.int p3, .int p2, .int p1, .ref 63], h)) (fun hs => ?_)
        have hob := ho
        refine zg_call hs zd_154 rfl rfl rfl rfl (as := [.ref 63, .int p1, .int p2, .int p3]) (rest := []) (en := [some (.ref 63), some (.int p1), some (.int p2), some (.int p3), none, none, none]) rfl rfl rfl rfl rfl ?_
        refine f_Harbour_shift_t p1 p2 p3 h hs hob (fun hs => ?_)
        show zg x (d + 2) 154 28 [some (.ref 0), some (.int p1), some (.int p2), some (.int p3)] [.int (f_Harbour_shift p1 p2 p3 h).1] (f_Harbour_shift p1 p2 p3 h).2 Q
        exact zg_ret zd_154 rfl rfl (hF hs)
      · have ho := ho.2 hc
        rw [if_neg hc] at hF
        refine zg_blk zd_154 1 hs (rfl : zb x zT0 zc_154 1 (16, [some (.ref 0), some (.int p1), some (.int p2), some (.int p3)], [], h) = some (17, [some (.ref 0), some (.int p1), some (.int p2), some (.int p3)], [.int (-1)], h)) (fun hs => ?_)
        exact zg_ret zd_154 rfl rfl (hF hs)
theorem zd_243 : zm_cd 243 = zc_243 := by rfl
theorem zd_244 : zm_cd 244 = zc_244 := by rfl
set_option maxRecDepth 100000 in
set_option maxHeartbeats 400000 in
theorem f_M_isBoat_t {x : zm_X} {d : Nat} (p0 : Int32) (h : zm_H) {Q : Option Value → zm_H → Prop} (hs : zSh zT0 h) (ho : f_M_isBoat_ok p0 h) (hF : Q (some (.int (f_M_isBoat p0 h))) h) : zg x (d + 2) 244 0 [some (.int p0)] [] h Q := by
  unfold f_M_isBoat at hF
  unfold f_M_isBoat_ok at ho
  refine zg_blk zd_244 3 hs (rfl : zb x zT0 zc_244 3 (0, [some (.int p0)], [], h) = some (3, [some (.int p0)], [.int 2, .int 0, .int p0], h)) (fun hs => ?_)
  refine zg_call hs zd_244 rfl rfl rfl rfl (as := [.int p0, .int 0, .int 2]) (rest := []) (en := [some (.int p0), some (.int 0), some (.int 2)]) rfl rfl rfl rfl rfl ?_
  refine f_M_in_t p0 0 2 h hs trivial ?_
  show zg x (d + 2) 244 6 [some (.int p0)] [.int (if (¬ (p0 < 0) ∧ (¬ (2 < p0))) then (1 : Int32) else 0)] h Q
  exact zg_rtz zd_244 rfl rfl zm_nb01 hF
set_option maxRecDepth 100000 in
set_option maxHeartbeats 400000 in
theorem f_M_load_t {x : zm_X} {d : Nat} (p1 : Int32) (p2 : Int32) (p3 : Int32) (h : zm_H) {Q : Option Value → zm_H → Prop} (hs : zSh zT0 h) (ho : f_M_load_ok p1 p2 p3 h) (hF : (zSh zT0 (f_M_load p1 p2 p3 h).2 → Q (some (.int (f_M_load p1 p2 p3 h).1)) (f_M_load p1 p2 p3 h).2)) : zg x (d + 3) 243 0 [some (.ref 92), some (.int p1), some (.int p2), some (.int p3), none] [] h Q := by
  unfold f_M_load at hF
  unfold f_M_load_ok at ho
  refine zg_blk zd_243 1 hs (rfl : zb x zT0 zc_243 1 (0, [some (.ref 92), some (.int p1), some (.int p2), some (.int p3), none], [], h) = some (1, [some (.ref 92), some (.int p1), some (.int p2), some (.int p3), none], [.int p1], h)) (fun hs => ?_)
  refine zg_call hs zd_243 rfl rfl rfl rfl (as := [.int p1]) (rest := []) (en := [some (.int p1)]) rfl rfl rfl rfl rfl ?_
  refine f_M_isBoat_t p1 h hs trivial ?_
  show zg x (d + 3) 243 4 [some (.ref 92), some (.int p1), some (.int p2), some (.int p3), none] [.int (if (¬ (p1 < 0) ∧ (¬ (2 < p1))) then (1 : Int32) else 0)] h Q
  refine zg_b_eq zd_243 rfl (fun (hc : ¬ (¬ (p1 < 0) ∧ (¬ (2 < p1)))) => ?_) (fun (hc : (¬ (p1 < 0) ∧ (¬ (2 < p1)))) => ?_)
  · have ho := ho.2 hc
    rw [if_neg hc] at hF
    refine zg_blk zd_243 1 hs (rfl : zb x zT0 zc_243 1 (36, [some (.ref 92), some (.int p1), some (.int p2), some (.int p3), none], [], h) = some (37, [some (.ref 92), some (.int p1), some (.int p2), some (.int p3), none], [.int (-1)], h)) (fun hs => ?_)
    exact zg_ret zd_243 rfl rfl (hF hs)
  · have ho := ho.1 hc
    rw [if_pos hc] at hF
    refine zg_blk zd_243 3 hs (rfl : zb x zT0 zc_243 3 (7, [some (.ref 92), some (.int p1), some (.int p2), some (.int p3), none], [], h) = some (12, [some (.ref 92), some (.int p1), some (.int p2), some (.int p3), none], [.int p1, .ref 139], h)) (fun hs => ?_)
    obtain ⟨hob, ho⟩ := ho
    refine zg_bal hs zd_243 rfl rfl (by decide) hob ?_
    refine zg_f_ne zd_243 rfl (fun (hc : ¬ ((zr h 139 p1) = 0)) => ?_) (fun (hc : ((zr h 139 p1) = 0)) => ?_)
    · have ho := ho.2 hc
      rw [if_neg hc] at hF
      refine zg_blk zd_243 1 hs (rfl : zb x zT0 zc_243 1 (36, [some (.ref 92), some (.int p1), some (.int p2), some (.int p3), none], [], h) = some (37, [some (.ref 92), some (.int p1), some (.int p2), some (.int p3), none], [.int (-1)], h)) (fun hs => ?_)
      exact zg_ret zd_243 rfl rfl (hF hs)
    · have ho := ho.1 hc
      rw [if_pos hc] at hF
      refine zg_blk zd_243 3 hs (rfl : zb x zT0 zc_243 3 (16, [some (.ref 92), some (.int p1), some (.int p2), some (.int p3), none], [], h) = some (19, [some (.ref 92), some (.int p1), some (.int p2), some (.int p3), none], [.int 2, .int 0, .int p2], h)) (fun hs => ?_)
      refine zg_call hs zd_243 rfl rfl rfl rfl (as := [.int p2, .int 0, .int 2]) (rest := []) (en := [some (.int p2), some (.int 0), some (.int 2)]) rfl rfl rfl rfl rfl ?_
      refine f_M_in_t p2 0 2 h hs trivial ?_
      show zg x (d + 3) 243 22 [some (.ref 92), some (.int p1), some (.int p2), some (.int p3), none] [.int (if (¬ (p2 < 0) ∧ (¬ (2 < p2))) then (1 : Int32) else 0)] h Q
      refine zg_b_eq zd_243 rfl (fun (hc : ¬ (¬ (p2 < 0) ∧ (¬ (2 < p2)))) => ?_) (fun (hc : (¬ (p2 < 0) ∧ (¬ (2 < p2)))) => ?_)
      · have ho := ho.2 hc
        rw [if_neg hc] at hF
        refine zg_blk zd_243 1 hs (rfl : zb x zT0 zc_243 1 (36, [some (.ref 92), some (.int p1), some (.int p2), some (.int p3), none], [], h) = some (37, [some (.ref 92), some (.int p1), some (.int p2), some (.int p3), none], [.int (-1)], h)) (fun hs => ?_)
        exact zg_ret zd_243 rfl rfl (hF hs)
      · have ho := ho.1 hc
        rw [if_pos hc] at hF
        refine zg_blk zd_243 3 hs (rfl : zb x zT0 zc_243 3 (25, [some (.ref 92), some (.int p1), some (.int p2), some (.int p3), none], [], h) = some (30, [some (.ref 92), some (.int p1), some (.int p2), some (.int p3), none], [.int 99, .int (-99), .int p3], h)) (fun hs => ?_)
        refine zg_call hs zd_243 rfl rfl rfl rfl (as := [.int p3, .int (-99), .int 99]) (rest := []) (en := [some (.int p3), some (.int (-99)), some (.int 99)]) rfl rfl rfl rfl rfl ?_
        refine f_M_in_t p3 (-99) 99 h hs trivial ?_
        show zg x (d + 3) 243 33 [some (.ref 92), some (.int p1), some (.int p2), some (.int p3), none] [.int (if (¬ (p3 < (-99)) ∧ (¬ (99 < p3))) then (1 : Int32) else 0)] h Q
        refine zg_b_ne zd_243 rfl (fun (hc : (¬ (p3 < (-99)) ∧ (¬ (99 < p3)))) => ?_) (fun (hc : ¬ (¬ (p3 < (-99)) ∧ (¬ (99 < p3)))) => ?_)
        · have ho := ho.1 hc
          rw [if_pos hc] at hF
          refine zg_blk zd_243 9 hs (rfl : zb x zT0 zc_243 9 (38, [some (.ref 92), some (.int p1), some (.int p2), some (.int p3), none], [], h) = some (51, [some (.ref 92), some (.int p1), some (.int p2), some (.int p3), some (.int ((3 * p1) + p2))], [.int ((3 * p1) + p2), .ref 138], h)) (fun hs => ?_)
          obtain ⟨hob, ho⟩ := ho
          refine zg_ial hs zd_243 rfl rfl hob ?_
          refine zg_blk zd_243 4 hs (rfl : zb x zT0 zc_243 4 (52, [some (.ref 92), some (.int p1), some (.int p2), some (.int p3), some (.int ((3 * p1) + p2))], [.int (zr h 138 ((3 * p1) + p2))], h) = some (57, [some (.ref 92), some (.int p1), some (.int p2), some (.int p3), some (.int ((3 * p1) + p2))], [.int 9, .int 0, .int ((zr h 138 ((3 * p1) + p2)) + p3)], h)) (fun hs => ?_)
          refine zg_call hs zd_243 rfl rfl rfl rfl (as := [.int ((zr h 138 ((3 * p1) + p2)) + p3), .int 0, .int 9]) (rest := []) (en := [some (.int ((zr h 138 ((3 * p1) + p2)) + p3)), some (.int 0), some (.int 9)]) rfl rfl rfl rfl rfl ?_
          refine f_M_in_t ((zr h 138 ((3 * p1) + p2)) + p3) 0 9 h hs trivial ?_
          show zg x (d + 3) 243 60 [some (.ref 92), some (.int p1), some (.int p2), some (.int p3), some (.int ((3 * p1) + p2))] [.int (if (¬ (((zr h 138 ((3 * p1) + p2)) + p3) < 0) ∧ (¬ (9 < ((zr h 138 ((3 * p1) + p2)) + p3)))) then (1 : Int32) else 0)] h Q
          refine zg_b_eq zd_243 rfl (fun (hc : ¬ (¬ (((zr h 138 ((3 * p1) + p2)) + p3) < 0) ∧ (¬ (9 < ((zr h 138 ((3 * p1) + p2)) + p3))))) => ?_) (fun (hc : (¬ (((zr h 138 ((3 * p1) + p2)) + p3) < 0) ∧ (¬ (9 < ((zr h 138 ((3 * p1) + p2)) + p3))))) => ?_)
          · have ho := ho.2 hc
            rw [if_neg hc] at hF
            refine zg_blk zd_243 1 hs (rfl : zb x zT0 zc_243 1 (80, [some (.ref 92), some (.int p1), some (.int p2), some (.int p3), some (.int ((3 * p1) + p2))], [], h) = some (81, [some (.ref 92), some (.int p1), some (.int p2), some (.int p3), some (.int ((3 * p1) + p2))], [.int (-1)], h)) (fun hs => ?_)
            exact zg_ret zd_243 rfl rfl (hF hs)
          · have ho := ho.1 hc
            rw [if_pos hc] at hF
            refine zg_blk zd_243 3 hs (rfl : zb x zT0 zc_243 3 (63, [some (.ref 92), some (.int p1), some (.int p2), some (.int p3), some (.int ((3 * p1) + p2))], [], h) = some (68, [some (.ref 92), some (.int p1), some (.int p2), some (.int p3), some (.int ((3 * p1) + p2))], [.int p2, .ref 137], h)) (fun hs => ?_)
            obtain ⟨hob, ho⟩ := ho
            refine zg_ial hs zd_243 rfl rfl hob ?_
            refine zg_blk zd_243 4 hs (rfl : zb x zT0 zc_243 4 (69, [some (.ref 92), some (.int p1), some (.int p2), some (.int p3), some (.int ((3 * p1) + p2))], [.int (zr h 137 p2)], h) = some (74, [some (.ref 92), some (.int p1), some (.int p2), some (.int p3), some (.int ((3 * p1) + p2))], [.int 99, .int 0, .int ((zr h 137 p2) - p3)], h)) (fun hs => ?_)
            refine zg_call hs zd_243 rfl rfl rfl rfl (as := [.int ((zr h 137 p2) - p3), .int 0, .int 99]) (rest := []) (en := [some (.int ((zr h 137 p2) - p3)), some (.int 0), some (.int 99)]) rfl rfl rfl rfl rfl ?_
            refine f_M_in_t ((zr h 137 p2) - p3) 0 99 h hs trivial ?_
            show zg x (d + 3) 243 77 [some (.ref 92), some (.int p1), some (.int p2), some (.int p3), some (.int ((3 * p1) + p2))] [.int (if (¬ (((zr h 137 p2) - p3) < 0) ∧ (¬ (99 < ((zr h 137 p2) - p3)))) then (1 : Int32) else 0)] h Q
            refine zg_b_ne zd_243 rfl (fun (hc : (¬ (((zr h 137 p2) - p3) < 0) ∧ (¬ (99 < ((zr h 137 p2) - p3))))) => ?_) (fun (hc : ¬ (¬ (((zr h 137 p2) - p3) < 0) ∧ (¬ (99 < ((zr h 137 p2) - p3))))) => ?_)
            · have ho := ho.1 hc
              rw [if_pos hc] at hF
              refine zg_blk zd_243 4 hs (rfl : zb x zT0 zc_243 4 (82, [some (.ref 92), some (.int p1), some (.int p2), some (.int p3), some (.int ((3 * p1) + p2))], [], h) = some (89, [some (.ref 92), some (.int p1), some (.int p2), some (.int p3), some (.int ((3 * p1) + p2))], [.int ((3 * p1) + p2), .ref 138, .int ((3 * p1) + p2), .ref 138], h)) (fun hs => ?_)
              obtain ⟨hob, ho⟩ := ho
              refine zg_ial hs zd_243 rfl rfl hob ?_
              refine zg_blk zd_243 2 hs (rfl : zb x zT0 zc_243 2 (90, [some (.ref 92), some (.int p1), some (.int p2), some (.int p3), some (.int ((3 * p1) + p2))], [.int (zr h 138 ((3 * p1) + p2)), .int ((3 * p1) + p2), .ref 138], h) = some (92, [some (.ref 92), some (.int p1), some (.int p2), some (.int p3), some (.int ((3 * p1) + p2))], [.int ((zr h 138 ((3 * p1) + p2)) + p3), .int ((3 * p1) + p2), .ref 138], h)) (fun hs => ?_)
              obtain ⟨hob, ho⟩ := ho
              refine zg_ias hs zd_243 rfl rfl hob (fun hs => ?_)
              refine zg_blk zd_243 4 hs (rfl : zb x zT0 zc_243 4 (93, [some (.ref 92), some (.int p1), some (.int p2), some (.int p3), some (.int ((3 * p1) + p2))], [], (zs h 138 ((3 * p1) + p2) ((zr h 138 ((3 * p1) + p2)) + p3))) = some (99, [some (.ref 92), some (.int p1), some (.int p2), some (.int p3), some (.int ((3 * p1) + p2))], [.int p2, .ref 137, .int p2, .ref 137], (zs h 138 ((3 * p1) + p2) ((zr h 138 ((3 * p1) + p2)) + p3)))) (fun hs => ?_)
              obtain ⟨hob, ho⟩ := ho
              refine zg_ial hs zd_243 rfl rfl hob ?_
              refine zg_blk zd_243 2 hs (rfl : zb x zT0 zc_243 2 (100, [some (.ref 92), some (.int p1), some (.int p2), some (.int p3), some (.int ((3 * p1) + p2))], [.int (zr h 137 p2), .int p2, .ref 137], (zs h 138 ((3 * p1) + p2) ((zr h 138 ((3 * p1) + p2)) + p3))) = some (102, [some (.ref 92), some (.int p1), some (.int p2), some (.int p3), some (.int ((3 * p1) + p2))], [.int ((zr h 137 p2) - p3), .int p2, .ref 137], (zs h 138 ((3 * p1) + p2) ((zr h 138 ((3 * p1) + p2)) + p3)))) (fun hs => ?_)
              obtain ⟨hob, ho⟩ := ho
              refine zg_ias hs zd_243 rfl rfl hob (fun hs => ?_)
              refine zg_blk zd_243 3 hs (rfl : zb x zT0 zc_243 3 (103, [some (.ref 92), some (.int p1), some (.int p2), some (.int p3), some (.int ((3 * p1) + p2))], [], (zs (zs h 138 ((3 * p1) + p2) ((zr h 138 ((3 * p1) + p2)) + p3)) 137 p2 ((zr h 137 p2) - p3))) = some (109, [some (.ref 92), some (.int p1), some (.int p2), some (.int p3), some (.int ((3 * p1) + p2))], [.int ((3 * p1) + p2), .ref 138], (zs (zs h 138 ((3 * p1) + p2) ((zr h 138 ((3 * p1) + p2)) + p3)) 137 p2 ((zr h 137 p2) - p3)))) (fun hs => ?_)
              have hob := ho
              refine zg_ial hs zd_243 rfl rfl hob ?_
              exact zg_ret zd_243 rfl rfl (hF hs)
            · have ho := ho.2 hc
              rw [if_neg hc] at hF
              refine zg_blk zd_243 1 hs (rfl : zb x zT0 zc_243 1 (80, [some (.ref 92), some (.int p1), some (.int p2), some (.int p3), some (.int ((3 * p1) + p2))], [], h) = some (81, [some (.ref 92), some (.int p1), some (.int p2), some (.int p3), some (.int ((3 * p1) + p2))], [.int (-1)], h)) (fun hs => ?_)
              exact zg_ret zd_243 rfl rfl (hF hs)
        · have ho := ho.2 hc
          rw [if_neg hc] at hF
          refine zg_blk zd_243 1 hs (rfl : zb x zT0 zc_243 1 (36, [some (.ref 92), some (.int p1), some (.int p2), some (.int p3), none], [], h) = some (37, [some (.ref 92), some (.int p1), some (.int p2), some (.int p3), none], [.int (-1)], h)) (fun hs => ?_)
          exact zg_ret zd_243 rfl rfl (hF hs)
theorem zd_156 : zm_cd 156 = zc_156 := by rfl
theorem zd_50 : zm_cd 50 = zc_50 := by rfl
set_option maxRecDepth 100000 in
set_option maxHeartbeats 400000 in
theorem f_Harbour_goOut_t {x : zm_X} {d : Nat} (p1 : Int32) (p2 : Int32) (p3 : Int32) (p4 : Int32) (p5 : Int32) (h : zm_H) {Q : Option Value → zm_H → Prop} (hs : zSh zT0 h) (ho : f_Harbour_goOut_ok p1 p2 p3 p4 p5 h) (hF : (zSh zT0 (f_Harbour_goOut p1 p2 p3 p4 p5 h).2 → Q (some (.int (f_Harbour_goOut p1 p2 p3 p4 p5 h).1)) (f_Harbour_goOut p1 p2 p3 p4 p5 h).2)) : zg x (d + 2) 50 0 [some (.ref 63), some (.int p1), some (.int p2), some (.int p3), some (.int p4), some (.int p5)] [] h Q := by
  unfold f_Harbour_goOut at hF
  unfold f_Harbour_goOut_ok at ho
  refine zg_blk zd_50 3 hs (rfl : zb x zT0 zc_50 3 (0, [some (.ref 63), some (.int p1), some (.int p2), some (.int p3), some (.int p4), some (.int p5)], [], h) = some (5, [some (.ref 63), some (.int p1), some (.int p2), some (.int p3), some (.int p4), some (.int p5)], [.int p1, .ref 66], h)) (fun hs => ?_)
  obtain ⟨hob, ho⟩ := ho
  refine zg_ial hs zd_50 rfl rfl hob ?_
  refine zg_blk zd_50 1 hs (rfl : zb x zT0 zc_50 1 (6, [some (.ref 63), some (.int p1), some (.int p2), some (.int p3), some (.int p4), some (.int p5)], [.int (zr h 66 p1)], h) = some (7, [some (.ref 63), some (.int p1), some (.int p2), some (.int p3), some (.int p4), some (.int p5)], [.int (-1), .int (zr h 66 p1)], h)) (fun hs => ?_)
  refine zg_i_ne zd_50 rfl (fun (hc : ¬ ((zr h 66 p1) = (-1))) => ?_) (fun (hc : ((zr h 66 p1) = (-1))) => ?_)
  · have ho := ho.2 hc
    rw [if_neg hc] at hF
    refine zg_blk zd_50 1 hs (rfl : zb x zT0 zc_50 1 (26, [some (.ref 63), some (.int p1), some (.int p2), some (.int p3), some (.int p4), some (.int p5)], [], h) = some (27, [some (.ref 63), some (.int p1), some (.int p2), some (.int p3), some (.int p4), some (.int p5)], [.int (-1)], h)) (fun hs => ?_)
    exact zg_ret zd_50 rfl rfl (hF hs)
  · have ho := ho.1 hc
    rw [if_pos hc] at hF
    refine zg_blk zd_50 6 hs (rfl : zb x zT0 zc_50 6 (10, [some (.ref 63), some (.int p1), some (.int p2), some (.int p3), some (.int p4), some (.int p5)], [], h) = some (18, [some (.ref 63), some (.int p1), some (.int p2), some (.int p3), some (.int p4), some (.int p5)], [.int p3, .int (p1 * 3), .ref 65], h)) (fun hs => ?_)
    refine zg_call hs zd_50 rfl rfl rfl rfl (as := [.int p3]) (rest := [.int (p1 * 3), .ref 65]) (en := [some (.int p3)]) rfl rfl rfl rfl rfl ?_
    refine f_Harbour_partFor_t p3 h hs trivial ?_
    show zg x (d + 2) 50 21 [some (.ref 63), some (.int p1), some (.int p2), some (.int p3), some (.int p4), some (.int p5)] [.int (if (3 ≤ p3) then ((if (p3 = 3) then (1 : Int32) else 2) : Int32) else 0), .int (p1 * 3), .ref 65] h Q
    refine zg_blk zd_50 1 hs (rfl : zb x zT0 zc_50 1 (21, [some (.ref 63), some (.int p1), some (.int p2), some (.int p3), some (.int p4), some (.int p5)], [.int (if (3 ≤ p3) then ((if (p3 = 3) then (1 : Int32) else 2) : Int32) else 0), .int (p1 * 3), .ref 65], h) = some (22, [some (.ref 63), some (.int p1), some (.int p2), some (.int p3), some (.int p4), some (.int p5)], [.int ((p1 * 3) + (if (3 ≤ p3) then ((if (p3 = 3) then (1 : Int32) else 2) : Int32) else 0)), .ref 65], h)) (fun hs => ?_)
    obtain ⟨hob, ho⟩ := ho
    refine zg_ial hs zd_50 rfl rfl hob ?_
    refine zg_f_ne zd_50 rfl (fun (hc : ¬ ((zr h 65 ((p1 * 3) + (if (3 ≤ p3) then ((if (p3 = 3) then (1 : Int32) else 2) : Int32) else 0))) = 0)) => ?_) (fun (hc : ((zr h 65 ((p1 * 3) + (if (3 ≤ p3) then ((if (p3 = 3) then (1 : Int32) else 2) : Int32) else 0))) = 0)) => ?_)
    · have ho := ho.2 hc
      rw [if_neg hc] at hF
      refine zg_blk zd_50 4 hs (rfl : zb x zT0 zc_50 4 (28, [some (.ref 63), some (.int p1), some (.int p2), some (.int p3), some (.int p4), some (.int p5)], [], h) = some (35, [some (.ref 63), some (.int p1), some (.int p2), some (.int p3), some (.int p4), some (.int p5)], [.int p4, .int p1, .ref 66], h)) (fun hs => ?_)
      obtain ⟨hob, ho⟩ := ho
      refine zg_ias hs zd_50 rfl rfl hob (fun hs => ?_)
      refine zg_blk zd_50 4 hs (rfl : zb x zT0 zc_50 4 (36, [some (.ref 63), some (.int p1), some (.int p2), some (.int p3), some (.int p4), some (.int p5)], [], (zs h 66 p1 p4)) = some (42, [some (.ref 63), some (.int p1), some (.int p2), some (.int p3), some (.int p4), some (.int p5)], [.int p2, .int p1, .ref 67], (zs h 66 p1 p4))) (fun hs => ?_)
      obtain ⟨hob, ho⟩ := ho
      refine zg_ias hs zd_50 rfl rfl hob (fun hs => ?_)
      refine zg_blk zd_50 4 hs (rfl : zb x zT0 zc_50 4 (43, [some (.ref 63), some (.int p1), some (.int p2), some (.int p3), some (.int p4), some (.int p5)], [], (zs (zs h 66 p1 p4) 67 p1 p2)) = some (49, [some (.ref 63), some (.int p1), some (.int p2), some (.int p3), some (.int p4), some (.int p5)], [.int p3, .int p1, .ref 68], (zs (zs h 66 p1 p4) 67 p1 p2))) (fun hs => ?_)
      obtain ⟨hob, ho⟩ := ho
      refine zg_ias hs zd_50 rfl rfl hob (fun hs => ?_)
      refine zg_blk zd_50 4 hs (rfl : zb x zT0 zc_50 4 (50, [some (.ref 63), some (.int p1), some (.int p2), some (.int p3), some (.int p4), some (.int p5)], [], (zs (zs (zs h 66 p1 p4) 67 p1 p2) 68 p1 p3)) = some (57, [some (.ref 63), some (.int p1), some (.int p2), some (.int p3), some (.int p4), some (.int p5)], [.int p5, .int p1, .ref 69], (zs (zs (zs h 66 p1 p4) 67 p1 p2) 68 p1 p3))) (fun hs => ?_)
      have hob := ho
      refine zg_ias hs zd_50 rfl rfl hob (fun hs => ?_)
      refine zg_blk zd_50 1 hs (rfl : zb x zT0 zc_50 1 (58, [some (.ref 63), some (.int p1), some (.int p2), some (.int p3), some (.int p4), some (.int p5)], [], (zs (zs (zs (zs h 66 p1 p4) 67 p1 p2) 68 p1 p3) 69 p1 p5)) = some (60, [some (.ref 63), some (.int p1), some (.int p2), some (.int p3), some (.int p4), some (.int p5)], [.int p4], (zs (zs (zs (zs h 66 p1 p4) 67 p1 p2) 68 p1 p3) 69 p1 p5))) (fun hs => ?_)
      exact zg_ret zd_50 rfl rfl (hF hs)
    · have ho := ho.1 hc
      rw [if_pos hc] at hF
      refine zg_blk zd_50 1 hs (rfl : zb x zT0 zc_50 1 (26, [some (.ref 63), some (.int p1), some (.int p2), some (.int p3), some (.int p4), some (.int p5)], [], h) = some (27, [some (.ref 63), some (.int p1), some (.int p2), some (.int p3), some (.int p4), some (.int p5)], [.int (-1)], h)) (fun hs => ?_)
      exact zg_ret zd_50 rfl rfl (hF hs)
set_option maxRecDepth 100000 in
set_option maxHeartbeats 400000 in
theorem f_N_send_k77_t {x : zm_X} {d : Nat} (v1 : Int32) (v2 : Int32) (v3 : Int32) (v4 : Int32) (v5 : Int32) (h : zm_H) {Q : Option Value → zm_H → Prop} (hs : zSh zT0 h) (ho : f_N_send_k77_ok v1 v2 v3 v4 v5 h) (hF : (zSh zT0 (f_N_send_k77 v1 v2 v3 v4 v5 h).2 → Q (some (.int (f_N_send_k77 v1 v2 v3 v4 v5 h).1)) (f_N_send_k77 v1 v2 v3 v4 v5 h).2)) : zg x (d + 3) 156 77 [some (.ref 0), some (.int v1), some (.int v2), some (.int v3), some (.int v4), some (.int v5)] [] h Q := by
  unfold f_N_send_k77 at hF
  unfold f_N_send_k77_ok at ho
  refine zg_blk zd_156 12 hs (rfl : zb x zT0 zc_156 12 (77, [some (.ref 0), some (.int v1), some (.int v2), some (.int v3), some (.int v4), some (.int v5)], [], h) = some (95, [some (.ref 0), some (.int v1), some (.int v2), some (.int v3), some (.int v4), some (.int v5)], [.int v5, .int (((zf h 0 0) + v4) - 1), .int v3, .int v2, .int v1, .ref 63], h)) (fun hs => ?_)
  have hob := ho
  refine zg_call hs zd_156 rfl rfl rfl rfl (as := [.ref 63, .int v1, .int v2, .int v3, .int (((zf h 0 0) + v4) - 1), .int v5]) (rest := []) (en := [some (.ref 63), some (.int v1), some (.int v2), some (.int v3), some (.int (((zf h 0 0) + v4) - 1)), some (.int v5)]) rfl rfl rfl rfl rfl ?_
  refine f_Harbour_goOut_t v1 v2 v3 (((zf h 0 0) + v4) - 1) v5 h hs hob (fun hs => ?_)
  show zg x (d + 3) 156 98 [some (.ref 0), some (.int v1), some (.int v2), some (.int v3), some (.int v4), some (.int v5)] [.int (f_Harbour_goOut v1 v2 v3 (((zf h 0 0) + v4) - 1) v5 h).1] (f_Harbour_goOut v1 v2 v3 (((zf h 0 0) + v4) - 1) v5 h).2 Q
  exact zg_ret zd_156 rfl rfl (hF hs)
set_option maxRecDepth 100000 in
set_option maxHeartbeats 400000 in
theorem f_N_send_t {x : zm_X} {d : Nat} (p1 : Int32) (p2 : Int32) (p3 : Int32) (p4 : Int32) (p5 : Int32) (h : zm_H) {Q : Option Value → zm_H → Prop} (hs : zSh zT0 h) (ho : f_N_send_ok p1 p2 p3 p4 p5 h) (hF : (zSh zT0 (f_N_send p1 p2 p3 p4 p5 h).2 → Q (some (.int (f_N_send p1 p2 p3 p4 p5 h).1)) (f_N_send p1 p2 p3 p4 p5 h).2)) : zg x (d + 3) 156 0 [some (.ref 0), some (.int p1), some (.int p2), some (.int p3), some (.int p4), some (.int p5)] [] h Q := by
  unfold f_N_send at hF
  unfold f_N_send_ok at ho
  refine zg_blk zd_156 1 hs (rfl : zb x zT0 zc_156 1 (0, [some (.ref 0), some (.int p1), some (.int p2), some (.int p3), some (.int p4), some (.int p5)], [], h) = some (1, [some (.ref 0), some (.int p1), some (.int p2), some (.int p3), some (.int p4), some (.int p5)], [.int p1], h)) (fun hs => ?_)
  refine zg_call hs zd_156 rfl rfl rfl rfl (as := [.int p1]) (rest := []) (en := [some (.int p1)]) rfl rfl rfl rfl rfl ?_
  refine f_N_isBoat_t p1 h hs trivial ?_
  show zg x (d + 3) 156 4 [some (.ref 0), some (.int p1), some (.int p2), some (.int p3), some (.int p4), some (.int p5)] [.int (if (¬ (p1 < 0) ∧ (¬ (3 ≤ p1))) then (1 : Int32) else 0)] h Q
  refine zg_b_eq zd_156 rfl (fun (hc : ¬ (¬ (p1 < 0) ∧ (¬ (3 ≤ p1)))) => ?_) (fun (hc : (¬ (p1 < 0) ∧ (¬ (3 ≤ p1)))) => ?_)
  · have ho := ho.2 hc
    rw [if_neg hc] at hF
    refine zg_blk zd_156 1 hs (rfl : zb x zT0 zc_156 1 (24, [some (.ref 0), some (.int p1), some (.int p2), some (.int p3), some (.int p4), some (.int p5)], [], h) = some (25, [some (.ref 0), some (.int p1), some (.int p2), some (.int p3), some (.int p4), some (.int p5)], [.int (-1)], h)) (fun hs => ?_)
    exact zg_ret zd_156 rfl rfl (hF hs)
  · have ho := ho.1 hc
    rw [if_pos hc] at hF
    refine zg_blk zd_156 2 hs (rfl : zb x zT0 zc_156 2 (7, [some (.ref 0), some (.int p1), some (.int p2), some (.int p3), some (.int p4), some (.int p5)], [], h) = some (9, [some (.ref 0), some (.int p1), some (.int p2), some (.int p3), some (.int p4), some (.int p5)], [.int p2, .ref 0], h)) (fun hs => ?_)
    refine zg_call hs zd_156 rfl rfl rfl rfl (as := [.ref 0, .int p2]) (rest := []) (en := [some (.ref 0), some (.int p2)]) rfl rfl rfl rfl rfl ?_
    refine f_N_isRaft_t p2 h hs trivial ?_
    show zg x (d + 3) 156 12 [some (.ref 0), some (.int p1), some (.int p2), some (.int p3), some (.int p4), some (.int p5)] [.int (if (¬ (p2 < 0) ∧ (¬ ((zf h 23 0) ≤ p2))) then (1 : Int32) else 0)] h Q
    refine zg_b_eq zd_156 rfl (fun (hc : ¬ (¬ (p2 < 0) ∧ (¬ ((zf h 23 0) ≤ p2)))) => ?_) (fun (hc : (¬ (p2 < 0) ∧ (¬ ((zf h 23 0) ≤ p2)))) => ?_)
    · have ho := ho.2 hc
      rw [if_neg hc] at hF
      refine zg_blk zd_156 1 hs (rfl : zb x zT0 zc_156 1 (24, [some (.ref 0), some (.int p1), some (.int p2), some (.int p3), some (.int p4), some (.int p5)], [], h) = some (25, [some (.ref 0), some (.int p1), some (.int p2), some (.int p3), some (.int p4), some (.int p5)], [.int (-1)], h)) (fun hs => ?_)
      exact zg_ret zd_156 rfl rfl (hF hs)
    · have ho := ho.1 hc
      rw [if_pos hc] at hF
      refine zg_blk zd_156 1 hs (rfl : zb x zT0 zc_156 1 (15, [some (.ref 0), some (.int p1), some (.int p2), some (.int p3), some (.int p4), some (.int p5)], [], h) = some (16, [some (.ref 0), some (.int p1), some (.int p2), some (.int p3), some (.int p4), some (.int p5)], [.int p3], h)) (fun hs => ?_)
      refine zg_f_lt zd_156 rfl (fun (hc : (p3 < 0)) => ?_) (fun (hc : ¬ (p3 < 0)) => ?_)
      · have ho := ho.1 hc
        rw [if_pos hc] at hF
        refine zg_blk zd_156 1 hs (rfl : zb x zT0 zc_156 1 (24, [some (.ref 0), some (.int p1), some (.int p2), some (.int p3), some (.int p4), some (.int p5)], [], h) = some (25, [some (.ref 0), some (.int p1), some (.int p2), some (.int p3), some (.int p4), some (.int p5)], [.int (-1)], h)) (fun hs => ?_)
        exact zg_ret zd_156 rfl rfl (hF hs)
      · have ho := ho.2 hc
        rw [if_neg hc] at hF
        refine zg_blk zd_156 2 hs (rfl : zb x zT0 zc_156 2 (19, [some (.ref 0), some (.int p1), some (.int p2), some (.int p3), some (.int p4), some (.int p5)], [], h) = some (21, [some (.ref 0), some (.int p1), some (.int p2), some (.int p3), some (.int p4), some (.int p5)], [.int 4, .int p3], h)) (fun hs => ?_)
        refine zg_i_le zd_156 rfl (fun (hc : (p3 ≤ 4)) => ?_) (fun (hc : ¬ (p3 ≤ 4)) => ?_)
        · have ho := ho.1 hc
          rw [if_pos hc] at hF
          refine zg_blk zd_156 2 hs (rfl : zb x zT0 zc_156 2 (26, [some (.ref 0), some (.int p1), some (.int p2), some (.int p3), some (.int p4), some (.int p5)], [], h) = some (29, [some (.ref 0), some (.int p1), some (.int p2), some (.int p3), some (.int p4), some (.int p5)], [.int 1, .int p4], h)) (fun hs => ?_)
          refine zg_i_lt zd_156 rfl (fun (hc : (p4 < 1)) => ?_) (fun (hc : ¬ (p4 < 1)) => ?_)
          · have ho := ho.1 hc
            rw [if_pos hc] at hF
            refine zg_blk zd_156 1 hs (rfl : zb x zT0 zc_156 1 (52, [some (.ref 0), some (.int p1), some (.int p2), some (.int p3), some (.int p4), some (.int p5)], [], h) = some (53, [some (.ref 0), some (.int p1), some (.int p2), some (.int p3), some (.int p4), some (.int p5)], [.int (-1)], h)) (fun hs => ?_)
            exact zg_ret zd_156 rfl rfl (hF hs)
          · have ho := ho.2 hc
            rw [if_neg hc] at hF
            refine zg_blk zd_156 2 hs (rfl : zb x zT0 zc_156 2 (32, [some (.ref 0), some (.int p1), some (.int p2), some (.int p3), some (.int p4), some (.int p5)], [], h) = some (36, [some (.ref 0), some (.int p1), some (.int p2), some (.int p3), some (.int p4), some (.int p5)], [.int 8, .int p4], h)) (fun hs => ?_)
            refine zg_i_gt zd_156 rfl (fun (hc : (8 < p4)) => ?_) (fun (hc : ¬ (8 < p4)) => ?_)
            · have ho := ho.1 hc
              rw [if_pos hc] at hF
              refine zg_blk zd_156 1 hs (rfl : zb x zT0 zc_156 1 (52, [some (.ref 0), some (.int p1), some (.int p2), some (.int p3), some (.int p4), some (.int p5)], [], h) = some (53, [some (.ref 0), some (.int p1), some (.int p2), some (.int p3), some (.int p4), some (.int p5)], [.int (-1)], h)) (fun hs => ?_)
              exact zg_ret zd_156 rfl rfl (hF hs)
            · have ho := ho.2 hc
              rw [if_neg hc] at hF
              refine zg_blk zd_156 5 hs (rfl : zb x zT0 zc_156 5 (39, [some (.ref 0), some (.int p1), some (.int p2), some (.int p3), some (.int p4), some (.int p5)], [], h) = some (49, [some (.ref 0), some (.int p1), some (.int p2), some (.int p3), some (.int p4), some (.int p5)], [.int 480, .int ((zf h 0 0) + p4)], h)) (fun hs => ?_)
              refine zg_i_le zd_156 rfl (fun (hc : (((zf h 0 0) + p4) ≤ 480)) => ?_) (fun (hc : ¬ (((zf h 0 0) + p4) ≤ 480)) => ?_)
              · have ho := ho.1 hc
                rw [if_pos hc] at hF
                refine zg_blk zd_156 2 hs (rfl : zb x zT0 zc_156 2 (54, [some (.ref 0), some (.int p1), some (.int p2), some (.int p3), some (.int p4), some (.int p5)], [], h) = some (56, [some (.ref 0), some (.int p1), some (.int p2), some (.int p3), some (.int p4), some (.int p5)], [.int 3, .int p3], h)) (fun hs => ?_)
                refine zg_i_ge zd_156 rfl (fun (hc : (3 ≤ p3)) => ?_) (fun (hc : ¬ (3 ≤ p3)) => ?_)
                · have ho := ho.1 hc
                  rw [if_pos hc] at hF
                  refine zg_blk zd_156 1 hs (rfl : zb x zT0 zc_156 1 (70, [some (.ref 0), some (.int p1), some (.int p2), some (.int p3), some (.int p4), some (.int p5)], [], h) = some (72, [some (.ref 0), some (.int p1), some (.int p2), some (.int p3), some (.int p4), some (.int p5)], [.int p5], h)) (fun hs => ?_)
                  refine zg_f_eq zd_156 rfl (fun (hc : (p5 = 0)) => ?_) (fun (hc : ¬ (p5 = 0)) => ?_)
                  · have ho := ho.1 hc
                    rw [if_pos hc] at hF
                    exact f_N_send_k77_t p1 p2 p3 p4 p5 h hs ho hF
                  · have ho := ho.2 hc
                    rw [if_neg hc] at hF
                    refine zg_blk zd_156 1 hs (rfl : zb x zT0 zc_156 1 (75, [some (.ref 0), some (.int p1), some (.int p2), some (.int p3), some (.int p4), some (.int p5)], [], h) = some (76, [some (.ref 0), some (.int p1), some (.int p2), some (.int p3), some (.int p4), some (.int p5)], [.int (-1)], h)) (fun hs => ?_)
                    exact zg_ret zd_156 rfl rfl (hF hs)
                · have ho := ho.2 hc
                  rw [if_neg hc] at hF
                  refine zg_blk zd_156 1 hs (rfl : zb x zT0 zc_156 1 (59, [some (.ref 0), some (.int p1), some (.int p2), some (.int p3), some (.int p4), some (.int p5)], [], h) = some (61, [some (.ref 0), some (.int p1), some (.int p2), some (.int p3), some (.int p4), some (.int p5)], [.int p5], h)) (fun hs => ?_)
                  refine zg_call hs zd_156 rfl rfl rfl rfl (as := [.int p5]) (rest := []) (en := [some (.int p5)]) rfl rfl rfl rfl rfl ?_
                  refine f_N_isStrength_t p5 h hs trivial ?_
                  show zg x (d + 3) 156 64 [some (.ref 0), some (.int p1), some (.int p2), some (.int p3), some (.int p4), some (.int p5)] [.int (if (¬ (p5 < 10) ∧ (¬ (5000 < p5))) then (1 : Int32) else 0)] h Q
                  refine zg_b_ne zd_156 rfl (fun (hc : (¬ (p5 < 10) ∧ (¬ (5000 < p5)))) => ?_) (fun (hc : ¬ (¬ (p5 < 10) ∧ (¬ (5000 < p5)))) => ?_)
                  · have ho := ho.1 hc
                    rw [if_pos hc] at hF
                    exact f_N_send_k77_t p1 p2 p3 p4 p5 h hs ho hF
                  · have ho := ho.2 hc
                    rw [if_neg hc] at hF
                    refine zg_blk zd_156 2 hs (rfl : zb x zT0 zc_156 2 (67, [some (.ref 0), some (.int p1), some (.int p2), some (.int p3), some (.int p4), some (.int p5)], [], h) = some (76, [some (.ref 0), some (.int p1), some (.int p2), some (.int p3), some (.int p4), some (.int p5)], [.int (-1)], h)) (fun hs => ?_)
                    exact zg_ret zd_156 rfl rfl (hF hs)
              · have ho := ho.2 hc
                rw [if_neg hc] at hF
                refine zg_blk zd_156 1 hs (rfl : zb x zT0 zc_156 1 (52, [some (.ref 0), some (.int p1), some (.int p2), some (.int p3), some (.int p4), some (.int p5)], [], h) = some (53, [some (.ref 0), some (.int p1), some (.int p2), some (.int p3), some (.int p4), some (.int p5)], [.int (-1)], h)) (fun hs => ?_)
                exact zg_ret zd_156 rfl rfl (hF hs)
        · have ho := ho.2 hc
          rw [if_neg hc] at hF
          refine zg_blk zd_156 1 hs (rfl : zb x zT0 zc_156 1 (24, [some (.ref 0), some (.int p1), some (.int p2), some (.int p3), some (.int p4), some (.int p5)], [], h) = some (25, [some (.ref 0), some (.int p1), some (.int p2), some (.int p3), some (.int p4), some (.int p5)], [.int (-1)], h)) (fun hs => ?_)
          exact zg_ret zd_156 rfl rfl (hF hs)
theorem zd_245 : zm_cd 245 = zc_245 := by rfl
set_option maxRecDepth 100000 in
set_option maxHeartbeats 400000 in
theorem f_M_send_k98_t {x : zm_X} {d : Nat} (v1 : Int32) (v2 : Int32) (v3 : Int32) (v4 : Int32) (v5 : Int32) (h : zm_H) {Q : Option Value → zm_H → Prop} (hs : zSh zT0 h) (ho : f_M_send_k98_ok v1 v2 v3 v4 v5 h) (hF : (zSh zT0 (f_M_send_k98 v1 v2 v3 v4 v5 h).2 → Q (some (.int (f_M_send_k98 v1 v2 v3 v4 v5 h).1)) (f_M_send_k98 v1 v2 v3 v4 v5 h).2)) : zg x (d + 3) 245 98 [some (.ref 92), some (.int v1), some (.int v2), some (.int v3), some (.int v4), some (.int v5)] [] h Q := by
  unfold f_M_send_k98 at hF
  unfold f_M_send_k98_ok at ho
  refine zg_blk zd_245 4 hs (rfl : zb x zT0 zc_245 4 (98, [some (.ref 92), some (.int v1), some (.int v2), some (.int v3), some (.int v4), some (.int v5)], [], h) = some (104, [some (.ref 92), some (.int v1), some (.int v2), some (.int v3), some (.int v4), some (.int v5)], [.int 1, .int v1, .ref 139], h)) (fun hs => ?_)
  obtain ⟨hob, ho⟩ := ho
  refine zg_bas hs zd_245 rfl rfl (by decide) hob (fun hs => ?_)
  refine zg_blk zd_245 4 hs (rfl : zb x zT0 zc_245 4 (105, [some (.ref 92), some (.int v1), some (.int v2), some (.int v3), some (.int v4), some (.int v5)], [], (zs h 139 v1 (zm_nb 2 1))) = some (111, [some (.ref 92), some (.int v1), some (.int v2), some (.int v3), some (.int v4), some (.int v5)], [.int v2, .int v1, .ref 140], (zs h 139 v1 (zm_nb 2 1)))) (fun hs => ?_)
  obtain ⟨hob, ho⟩ := ho
  refine zg_ias hs zd_245 rfl rfl hob (fun hs => ?_)
  refine zg_blk zd_245 4 hs (rfl : zb x zT0 zc_245 4 (112, [some (.ref 92), some (.int v1), some (.int v2), some (.int v3), some (.int v4), some (.int v5)], [], (zs (zs h 139 v1 (zm_nb 2 1)) 140 v1 v2)) = some (118, [some (.ref 92), some (.int v1), some (.int v2), some (.int v3), some (.int v4), some (.int v5)], [.int v3, .int v1, .ref 141], (zs (zs h 139 v1 (zm_nb 2 1)) 140 v1 v2))) (fun hs => ?_)
  obtain ⟨hob, ho⟩ := ho
  refine zg_ias hs zd_245 rfl rfl hob (fun hs => ?_)
  refine zg_blk zd_245 4 hs (rfl : zb x zT0 zc_245 4 (119, [some (.ref 92), some (.int v1), some (.int v2), some (.int v3), some (.int v4), some (.int v5)], [], (zs (zs (zs h 139 v1 (zm_nb 2 1)) 140 v1 v2) 141 v1 v3)) = some (126, [some (.ref 92), some (.int v1), some (.int v2), some (.int v3), some (.int v4), some (.int v5)], [.int v5, .int v1, .ref 143], (zs (zs (zs h 139 v1 (zm_nb 2 1)) 140 v1 v2) 141 v1 v3))) (fun hs => ?_)
  obtain ⟨hob, ho⟩ := ho
  refine zg_ias hs zd_245 rfl rfl hob (fun hs => ?_)
  refine zg_blk zd_245 9 hs (rfl : zb x zT0 zc_245 9 (127, [some (.ref 92), some (.int v1), some (.int v2), some (.int v3), some (.int v4), some (.int v5)], [], (zs (zs (zs (zs h 139 v1 (zm_nb 2 1)) 140 v1 v2) 141 v1 v3) 143 v1 v5)) = some (141, [some (.ref 92), some (.int v1), some (.int v2), some (.int v3), some (.int v4), some (.int v5)], [.int (((zf h 92 23) + v4) - 1), .int v1, .ref 142], (zs (zs (zs (zs h 139 v1 (zm_nb 2 1)) 140 v1 v2) 141 v1 v3) 143 v1 v5))) (fun hs => ?_)
  obtain ⟨hob, ho⟩ := ho
  refine zg_ias hs zd_245 rfl rfl hob (fun hs => ?_)
  refine zg_blk zd_245 3 hs (rfl : zb x zT0 zc_245 3 (142, [some (.ref 92), some (.int v1), some (.int v2), some (.int v3), some (.int v4), some (.int v5)], [], (zs (zs (zs (zs (zs h 139 v1 (zm_nb 2 1)) 140 v1 v2) 141 v1 v3) 143 v1 v5) 142 v1 (((zf h 92 23) + v4) - 1))) = some (147, [some (.ref 92), some (.int v1), some (.int v2), some (.int v3), some (.int v4), some (.int v5)], [.int v1, .ref 142], (zs (zs (zs (zs (zs h 139 v1 (zm_nb 2 1)) 140 v1 v2) 141 v1 v3) 143 v1 v5) 142 v1 (((zf h 92 23) + v4) - 1)))) (fun hs => ?_)
  have hob := ho
  refine zg_ial hs zd_245 rfl rfl hob ?_
  exact zg_ret zd_245 rfl rfl (hF hs)
set_option maxRecDepth 100000 in
set_option maxHeartbeats 400000 in
theorem f_M_send_t {x : zm_X} {d : Nat} (p1 : Int32) (p2 : Int32) (p3 : Int32) (p4 : Int32) (p5 : Int32) (h : zm_H) {Q : Option Value → zm_H → Prop} (hs : zSh zT0 h) (ho : f_M_send_ok p1 p2 p3 p4 p5 h) (hF : (zSh zT0 (f_M_send p1 p2 p3 p4 p5 h).2 → Q (some (.int (f_M_send p1 p2 p3 p4 p5 h).1)) (f_M_send p1 p2 p3 p4 p5 h).2)) : zg x (d + 3) 245 0 [some (.ref 92), some (.int p1), some (.int p2), some (.int p3), some (.int p4), some (.int p5)] [] h Q := by
  unfold f_M_send at hF
  unfold f_M_send_ok at ho
  refine zg_blk zd_245 1 hs (rfl : zb x zT0 zc_245 1 (0, [some (.ref 92), some (.int p1), some (.int p2), some (.int p3), some (.int p4), some (.int p5)], [], h) = some (1, [some (.ref 92), some (.int p1), some (.int p2), some (.int p3), some (.int p4), some (.int p5)], [.int p1], h)) (fun hs => ?_)
  refine zg_call hs zd_245 rfl rfl rfl rfl (as := [.int p1]) (rest := []) (en := [some (.int p1)]) rfl rfl rfl rfl rfl ?_
  refine f_M_isBoat_t p1 h hs trivial ?_
  show zg x (d + 3) 245 4 [some (.ref 92), some (.int p1), some (.int p2), some (.int p3), some (.int p4), some (.int p5)] [.int (if (¬ (p1 < 0) ∧ (¬ (2 < p1))) then (1 : Int32) else 0)] h Q
  refine zg_b_eq zd_245 rfl (fun (hc : ¬ (¬ (p1 < 0) ∧ (¬ (2 < p1)))) => ?_) (fun (hc : (¬ (p1 < 0) ∧ (¬ (2 < p1)))) => ?_)
  · have ho := ho.2 hc
    rw [if_neg hc] at hF
    refine zg_blk zd_245 1 hs (rfl : zb x zT0 zc_245 1 (73, [some (.ref 92), some (.int p1), some (.int p2), some (.int p3), some (.int p4), some (.int p5)], [], h) = some (74, [some (.ref 92), some (.int p1), some (.int p2), some (.int p3), some (.int p4), some (.int p5)], [.int (-1)], h)) (fun hs => ?_)
    exact zg_ret zd_245 rfl rfl (hF hs)
  · have ho := ho.1 hc
    rw [if_pos hc] at hF
    refine zg_blk zd_245 3 hs (rfl : zb x zT0 zc_245 3 (7, [some (.ref 92), some (.int p1), some (.int p2), some (.int p3), some (.int p4), some (.int p5)], [], h) = some (12, [some (.ref 92), some (.int p1), some (.int p2), some (.int p3), some (.int p4), some (.int p5)], [.int p1, .ref 139], h)) (fun hs => ?_)
    obtain ⟨hob, ho⟩ := ho
    refine zg_bal hs zd_245 rfl rfl (by decide) hob ?_
    refine zg_f_ne zd_245 rfl (fun (hc : ¬ ((zr h 139 p1) = 0)) => ?_) (fun (hc : ((zr h 139 p1) = 0)) => ?_)
    · have ho := ho.2 hc
      rw [if_neg hc] at hF
      refine zg_blk zd_245 1 hs (rfl : zb x zT0 zc_245 1 (73, [some (.ref 92), some (.int p1), some (.int p2), some (.int p3), some (.int p4), some (.int p5)], [], h) = some (74, [some (.ref 92), some (.int p1), some (.int p2), some (.int p3), some (.int p4), some (.int p5)], [.int (-1)], h)) (fun hs => ?_)
      exact zg_ret zd_245 rfl rfl (hF hs)
    · have ho := ho.1 hc
      rw [if_pos hc] at hF
      refine zg_blk zd_245 2 hs (rfl : zb x zT0 zc_245 2 (16, [some (.ref 92), some (.int p1), some (.int p2), some (.int p3), some (.int p4), some (.int p5)], [], h) = some (18, [some (.ref 92), some (.int p1), some (.int p2), some (.int p3), some (.int p4), some (.int p5)], [.int p2, .ref 92], h)) (fun hs => ?_)
      refine zg_call hs zd_245 rfl rfl rfl rfl (as := [.ref 92, .int p2]) (rest := []) (en := [some (.ref 92), some (.int p2)]) rfl rfl rfl rfl rfl ?_
      refine f_M_isRaft_t p2 h hs trivial ?_
      show zg x (d + 3) 245 21 [some (.ref 92), some (.int p1), some (.int p2), some (.int p3), some (.int p4), some (.int p5)] [.int (if (¬ (p2 < 0) ∧ (¬ (((zf h 92 33) - 1) < p2))) then (1 : Int32) else 0)] h Q
      refine zg_b_eq zd_245 rfl (fun (hc : ¬ (¬ (p2 < 0) ∧ (¬ (((zf h 92 33) - 1) < p2)))) => ?_) (fun (hc : (¬ (p2 < 0) ∧ (¬ (((zf h 92 33) - 1) < p2)))) => ?_)
      · have ho := ho.2 hc
        rw [if_neg hc] at hF
        refine zg_blk zd_245 1 hs (rfl : zb x zT0 zc_245 1 (73, [some (.ref 92), some (.int p1), some (.int p2), some (.int p3), some (.int p4), some (.int p5)], [], h) = some (74, [some (.ref 92), some (.int p1), some (.int p2), some (.int p3), some (.int p4), some (.int p5)], [.int (-1)], h)) (fun hs => ?_)
        exact zg_ret zd_245 rfl rfl (hF hs)
      · have ho := ho.1 hc
        rw [if_pos hc] at hF
        refine zg_blk zd_245 3 hs (rfl : zb x zT0 zc_245 3 (24, [some (.ref 92), some (.int p1), some (.int p2), some (.int p3), some (.int p4), some (.int p5)], [], h) = some (27, [some (.ref 92), some (.int p1), some (.int p2), some (.int p3), some (.int p4), some (.int p5)], [.int 4, .int 0, .int p3], h)) (fun hs => ?_)
        refine zg_call hs zd_245 rfl rfl rfl rfl (as := [.int p3, .int 0, .int 4]) (rest := []) (en := [some (.int p3), some (.int 0), some (.int 4)]) rfl rfl rfl rfl rfl ?_
        refine f_M_in_t p3 0 4 h hs trivial ?_
        show zg x (d + 3) 245 30 [some (.ref 92), some (.int p1), some (.int p2), some (.int p3), some (.int p4), some (.int p5)] [.int (if (¬ (p3 < 0) ∧ (¬ (4 < p3))) then (1 : Int32) else 0)] h Q
        refine zg_b_eq zd_245 rfl (fun (hc : ¬ (¬ (p3 < 0) ∧ (¬ (4 < p3)))) => ?_) (fun (hc : (¬ (p3 < 0) ∧ (¬ (4 < p3)))) => ?_)
        · have ho := ho.2 hc
          rw [if_neg hc] at hF
          refine zg_blk zd_245 1 hs (rfl : zb x zT0 zc_245 1 (73, [some (.ref 92), some (.int p1), some (.int p2), some (.int p3), some (.int p4), some (.int p5)], [], h) = some (74, [some (.ref 92), some (.int p1), some (.int p2), some (.int p3), some (.int p4), some (.int p5)], [.int (-1)], h)) (fun hs => ?_)
          exact zg_ret zd_245 rfl rfl (hF hs)
        · have ho := ho.1 hc
          rw [if_pos hc] at hF
          refine zg_blk zd_245 6 hs (rfl : zb x zT0 zc_245 6 (33, [some (.ref 92), some (.int p1), some (.int p2), some (.int p3), some (.int p4), some (.int p5)], [], h) = some (41, [some (.ref 92), some (.int p1), some (.int p2), some (.int p3), some (.int p4), some (.int p5)], [.int p3, .int (3 * p1), .ref 138], h)) (fun hs => ?_)
          refine zg_call hs zd_245 rfl rfl rfl rfl (as := [.int p3]) (rest := [.int (3 * p1), .ref 138]) (en := [some (.int p3)]) rfl rfl rfl rfl rfl ?_
          refine f_M_partOf_t p3 h hs trivial ?_
          show zg x (d + 3) 245 44 [some (.ref 92), some (.int p1), some (.int p2), some (.int p3), some (.int p4), some (.int p5)] [.int (if (3 ≤ p3) then ((p3 - 2) : Int32) else 0), .int (3 * p1), .ref 138] h Q
          refine zg_blk zd_245 1 hs (rfl : zb x zT0 zc_245 1 (44, [some (.ref 92), some (.int p1), some (.int p2), some (.int p3), some (.int p4), some (.int p5)], [.int (if (3 ≤ p3) then ((p3 - 2) : Int32) else 0), .int (3 * p1), .ref 138], h) = some (45, [some (.ref 92), some (.int p1), some (.int p2), some (.int p3), some (.int p4), some (.int p5)], [.int ((3 * p1) + (if (3 ≤ p3) then ((p3 - 2) : Int32) else 0)), .ref 138], h)) (fun hs => ?_)
          obtain ⟨hob, ho⟩ := ho
          refine zg_ial hs zd_245 rfl rfl hob ?_
          refine zg_f_eq zd_245 rfl (fun (hc : ((zr h 138 ((3 * p1) + (if (3 ≤ p3) then ((p3 - 2) : Int32) else 0))) = 0)) => ?_) (fun (hc : ¬ ((zr h 138 ((3 * p1) + (if (3 ≤ p3) then ((p3 - 2) : Int32) else 0))) = 0)) => ?_)
          · have ho := ho.1 hc
            rw [if_pos hc] at hF
            refine zg_blk zd_245 1 hs (rfl : zb x zT0 zc_245 1 (73, [some (.ref 92), some (.int p1), some (.int p2), some (.int p3), some (.int p4), some (.int p5)], [], h) = some (74, [some (.ref 92), some (.int p1), some (.int p2), some (.int p3), some (.int p4), some (.int p5)], [.int (-1)], h)) (fun hs => ?_)
            exact zg_ret zd_245 rfl rfl (hF hs)
          · have ho := ho.2 hc
            rw [if_neg hc] at hF
            refine zg_blk zd_245 3 hs (rfl : zb x zT0 zc_245 3 (49, [some (.ref 92), some (.int p1), some (.int p2), some (.int p3), some (.int p4), some (.int p5)], [], h) = some (54, [some (.ref 92), some (.int p1), some (.int p2), some (.int p3), some (.int p4), some (.int p5)], [.int 8, .int 1, .int p4], h)) (fun hs => ?_)
            refine zg_call hs zd_245 rfl rfl rfl rfl (as := [.int p4, .int 1, .int 8]) (rest := []) (en := [some (.int p4), some (.int 1), some (.int 8)]) rfl rfl rfl rfl rfl ?_
            refine f_M_in_t p4 1 8 h hs trivial ?_
            show zg x (d + 3) 245 57 [some (.ref 92), some (.int p1), some (.int p2), some (.int p3), some (.int p4), some (.int p5)] [.int (if (¬ (p4 < 1) ∧ (¬ (8 < p4))) then (1 : Int32) else 0)] h Q
            refine zg_b_eq zd_245 rfl (fun (hc : ¬ (¬ (p4 < 1) ∧ (¬ (8 < p4)))) => ?_) (fun (hc : (¬ (p4 < 1) ∧ (¬ (8 < p4)))) => ?_)
            · have ho := ho.2 hc
              rw [if_neg hc] at hF
              refine zg_blk zd_245 1 hs (rfl : zb x zT0 zc_245 1 (73, [some (.ref 92), some (.int p1), some (.int p2), some (.int p3), some (.int p4), some (.int p5)], [], h) = some (74, [some (.ref 92), some (.int p1), some (.int p2), some (.int p3), some (.int p4), some (.int p5)], [.int (-1)], h)) (fun hs => ?_)
              exact zg_ret zd_245 rfl rfl (hF hs)
            · have ho := ho.1 hc
              rw [if_pos hc] at hF
              refine zg_blk zd_245 5 hs (rfl : zb x zT0 zc_245 5 (60, [some (.ref 92), some (.int p1), some (.int p2), some (.int p3), some (.int p4), some (.int p5)], [], h) = some (70, [some (.ref 92), some (.int p1), some (.int p2), some (.int p3), some (.int p4), some (.int p5)], [.int 480, .int ((zf h 92 23) + p4)], h)) (fun hs => ?_)
              refine zg_i_le zd_245 rfl (fun (hc : (((zf h 92 23) + p4) ≤ 480)) => ?_) (fun (hc : ¬ (((zf h 92 23) + p4) ≤ 480)) => ?_)
              · have ho := ho.1 hc
                rw [if_pos hc] at hF
                refine zg_blk zd_245 2 hs (rfl : zb x zT0 zc_245 2 (75, [some (.ref 92), some (.int p1), some (.int p2), some (.int p3), some (.int p4), some (.int p5)], [], h) = some (77, [some (.ref 92), some (.int p1), some (.int p2), some (.int p3), some (.int p4), some (.int p5)], [.int 3, .int p3], h)) (fun hs => ?_)
                refine zg_i_ge zd_245 rfl (fun (hc : (3 ≤ p3)) => ?_) (fun (hc : ¬ (3 ≤ p3)) => ?_)
                · have ho := ho.1 hc
                  rw [if_pos hc] at hF
                  refine zg_blk zd_245 1 hs (rfl : zb x zT0 zc_245 1 (91, [some (.ref 92), some (.int p1), some (.int p2), some (.int p3), some (.int p4), some (.int p5)], [], h) = some (93, [some (.ref 92), some (.int p1), some (.int p2), some (.int p3), some (.int p4), some (.int p5)], [.int p5], h)) (fun hs => ?_)
                  refine zg_f_eq zd_245 rfl (fun (hc : (p5 = 0)) => ?_) (fun (hc : ¬ (p5 = 0)) => ?_)
                  · have ho := ho.1 hc
                    rw [if_pos hc] at hF
                    exact f_M_send_k98_t p1 p2 p3 p4 p5 h hs ho hF
                  · have ho := ho.2 hc
                    rw [if_neg hc] at hF
                    refine zg_blk zd_245 1 hs (rfl : zb x zT0 zc_245 1 (96, [some (.ref 92), some (.int p1), some (.int p2), some (.int p3), some (.int p4), some (.int p5)], [], h) = some (97, [some (.ref 92), some (.int p1), some (.int p2), some (.int p3), some (.int p4), some (.int p5)], [.int (-1)], h)) (fun hs => ?_)
                    exact zg_ret zd_245 rfl rfl (hF hs)
                · have ho := ho.2 hc
                  rw [if_neg hc] at hF
                  refine zg_blk zd_245 1 hs (rfl : zb x zT0 zc_245 1 (80, [some (.ref 92), some (.int p1), some (.int p2), some (.int p3), some (.int p4), some (.int p5)], [], h) = some (82, [some (.ref 92), some (.int p1), some (.int p2), some (.int p3), some (.int p4), some (.int p5)], [.int p5], h)) (fun hs => ?_)
                  refine zg_call hs zd_245 rfl rfl rfl rfl (as := [.int p5]) (rest := []) (en := [some (.int p5)]) rfl rfl rfl rfl rfl ?_
                  refine f_M_isStrength_t p5 h hs trivial ?_
                  show zg x (d + 3) 245 85 [some (.ref 92), some (.int p1), some (.int p2), some (.int p3), some (.int p4), some (.int p5)] [.int (if (¬ (p5 < 10) ∧ (¬ (5000 < p5))) then (1 : Int32) else 0)] h Q
                  refine zg_b_ne zd_245 rfl (fun (hc : (¬ (p5 < 10) ∧ (¬ (5000 < p5)))) => ?_) (fun (hc : ¬ (¬ (p5 < 10) ∧ (¬ (5000 < p5)))) => ?_)
                  · have ho := ho.1 hc
                    rw [if_pos hc] at hF
                    exact f_M_send_k98_t p1 p2 p3 p4 p5 h hs ho hF
                  · have ho := ho.2 hc
                    rw [if_neg hc] at hF
                    refine zg_blk zd_245 2 hs (rfl : zb x zT0 zc_245 2 (88, [some (.ref 92), some (.int p1), some (.int p2), some (.int p3), some (.int p4), some (.int p5)], [], h) = some (97, [some (.ref 92), some (.int p1), some (.int p2), some (.int p3), some (.int p4), some (.int p5)], [.int (-1)], h)) (fun hs => ?_)
                    exact zg_ret zd_245 rfl rfl (hF hs)
              · have ho := ho.2 hc
                rw [if_neg hc] at hF
                refine zg_blk zd_245 1 hs (rfl : zb x zT0 zc_245 1 (73, [some (.ref 92), some (.int p1), some (.int p2), some (.int p3), some (.int p4), some (.int p5)], [], h) = some (74, [some (.ref 92), some (.int p1), some (.int p2), some (.int p3), some (.int p4), some (.int p5)], [.int (-1)], h)) (fun hs => ?_)
                exact zg_ret zd_245 rfl rfl (hF hs)
theorem zd_157 : zm_cd 157 = zc_157 := by rfl
theorem zd_51 : zm_cd 51 = zc_51 := by rfl
set_option maxRecDepth 100000 in
set_option maxHeartbeats 400000 in
theorem f_Harbour_ofBoat_t {x : zm_X} {d : Nat} (p1 : Int32) (p2 : Int32) (h : zm_H) {Q : Option Value → zm_H → Prop} (hs : zSh zT0 h) (ho : f_Harbour_ofBoat_ok p1 p2 h) (hF : Q (some (.int (f_Harbour_ofBoat p1 p2 h))) h) : zg x (d + 1) 51 0 [some (.ref 63), some (.int p1), some (.int p2)] [] h Q := by
  unfold f_Harbour_ofBoat at hF
  unfold f_Harbour_ofBoat_ok at ho
  refine zg_blk zd_51 1 hs (rfl : zb x zT0 zc_51 1 (0, [some (.ref 63), some (.int p1), some (.int p2)], [], h) = some (1, [some (.ref 63), some (.int p1), some (.int p2)], [.int p2], h)) (fun hs => ?_)
  by_cases hc0 : p2 = 0
  · have ho := ho.1 hc0
    rw [if_pos hc0] at hF
    refine zg_tsw zd_51 rfl (tg := 40) (by rw [hc0]; rfl) ?_
    refine zg_blk zd_51 3 hs (rfl : zb x zT0 zc_51 3 (40, [some (.ref 63), some (.int p1), some (.int p2)], [], h) = some (45, [some (.ref 63), some (.int p1), some (.int p2)], [.int p1, .ref 66], h)) (fun hs => ?_)
    have hob := ho
    refine zg_ial hs zd_51 rfl rfl hob ?_
    refine zg_blk zd_51 1 hs (rfl : zb x zT0 zc_51 1 (46, [some (.ref 63), some (.int p1), some (.int p2)], [.int (zr h 66 p1)], h) = some (47, [some (.ref 63), some (.int p1), some (.int p2)], [.int (-1), .int (zr h 66 p1)], h)) (fun hs => ?_)
    have K146 : zSh zT0 h → zg x (d + 1) 51 55 [some (.ref 63), some (.int p1), some (.int p2)] [.int (if ((zr h 66 p1) = (-1)) then (1 : Int32) else 0)] h Q := fun hs => by
      exact zg_ret zd_51 rfl rfl hF
    refine zg_i_ne zd_51 rfl (fun (hc : ¬ ((zr h 66 p1) = (-1))) => ?_) (fun (hc : ((zr h 66 p1) = (-1))) => ?_)
    · skip
      rw [show ((if ((zr h 66 p1) = (-1)) then (1 : Int32) else 0) : Int32) = 0 from if_neg hc] at K146
      refine zg_blk zd_51 1 hs (rfl : zb x zT0 zc_51 1 (54, [some (.ref 63), some (.int p1), some (.int p2)], [], h) = some (55, [some (.ref 63), some (.int p1), some (.int p2)], [.int 0], h)) (fun hs => ?_)
      exact K146 hs
    · skip
      rw [show ((if ((zr h 66 p1) = (-1)) then (1 : Int32) else 0) : Int32) = 1 from if_pos hc] at K146
      refine zg_blk zd_51 2 hs (rfl : zb x zT0 zc_51 2 (50, [some (.ref 63), some (.int p1), some (.int p2)], [], h) = some (55, [some (.ref 63), some (.int p1), some (.int p2)], [.int 1], h)) (fun hs => ?_)
      exact K146 hs
  have ho := ho.2 hc0
  rw [if_neg hc0] at hF
  by_cases hc1 : p2 = 1
  · have ho := ho.1 hc1
    rw [if_pos hc1] at hF
    refine zg_tsw zd_51 rfl (tg := 56) (by rw [hc1]; rfl) ?_
    refine zg_blk zd_51 9 hs (rfl : zb x zT0 zc_51 9 (56, [some (.ref 63), some (.int p1), some (.int p2)], [], h) = some (67, [some (.ref 63), some (.int p1), some (.int p2)], [.int (((p1 * 3) + p2) - 1), .ref 65], h)) (fun hs => ?_)
    have hob := ho
    refine zg_ial hs zd_51 rfl rfl hob ?_
    exact zg_ret zd_51 rfl rfl hF
  have ho := ho.2 hc1
  rw [if_neg hc1] at hF
  by_cases hc2 : p2 = 2
  · have ho := ho.1 hc2
    rw [if_pos hc2] at hF
    refine zg_tsw zd_51 rfl (tg := 56) (by rw [hc2]; rfl) ?_
    refine zg_blk zd_51 9 hs (rfl : zb x zT0 zc_51 9 (56, [some (.ref 63), some (.int p1), some (.int p2)], [], h) = some (67, [some (.ref 63), some (.int p1), some (.int p2)], [.int (((p1 * 3) + p2) - 1), .ref 65], h)) (fun hs => ?_)
    have hob := ho
    refine zg_ial hs zd_51 rfl rfl hob ?_
    exact zg_ret zd_51 rfl rfl hF
  have ho := ho.2 hc2
  rw [if_neg hc2] at hF
  by_cases hc3 : p2 = 3
  · have ho := ho.1 hc3
    rw [if_pos hc3] at hF
    refine zg_tsw zd_51 rfl (tg := 56) (by rw [hc3]; rfl) ?_
    refine zg_blk zd_51 9 hs (rfl : zb x zT0 zc_51 9 (56, [some (.ref 63), some (.int p1), some (.int p2)], [], h) = some (67, [some (.ref 63), some (.int p1), some (.int p2)], [.int (((p1 * 3) + p2) - 1), .ref 65], h)) (fun hs => ?_)
    have hob := ho
    refine zg_ial hs zd_51 rfl rfl hob ?_
    exact zg_ret zd_51 rfl rfl hF
  have ho := ho.2 hc3
  rw [if_neg hc3] at hF
  by_cases hc4 : p2 = 4
  · have ho := ho.1 hc4
    rw [if_pos hc4] at hF
    refine zg_tsw zd_51 rfl (tg := 69) (by rw [hc4]; rfl) ?_
    refine zg_blk zd_51 3 hs (rfl : zb x zT0 zc_51 3 (69, [some (.ref 63), some (.int p1), some (.int p2)], [], h) = some (74, [some (.ref 63), some (.int p1), some (.int p2)], [.int p1, .ref 70], h)) (fun hs => ?_)
    have hob := ho
    refine zg_ial hs zd_51 rfl rfl hob ?_
    exact zg_ret zd_51 rfl rfl hF
  have ho := ho.2 hc4
  rw [if_neg hc4] at hF
  by_cases hc5 : p2 = 5
  · have ho := ho.1 hc5
    rw [if_pos hc5] at hF
    refine zg_tsw zd_51 rfl (tg := 76) (by rw [hc5]; rfl) ?_
    refine zg_blk zd_51 3 hs (rfl : zb x zT0 zc_51 3 (76, [some (.ref 63), some (.int p1), some (.int p2)], [], h) = some (81, [some (.ref 63), some (.int p1), some (.int p2)], [.int p1, .ref 71], h)) (fun hs => ?_)
    have hob := ho
    refine zg_ial hs zd_51 rfl rfl hob ?_
    exact zg_ret zd_51 rfl rfl hF
  have ho := ho.2 hc5
  rw [if_neg hc5] at hF
  refine zg_tsw zd_51 rfl (tg := 83) (if_pos (zsw_out (lo := 0) (hi := 5) (by decide) (by decide) (fun v h1 h2 => by
      have : v = 0 ∨ v = 1 ∨ v = 2 ∨ v = 3 ∨ v = 4 ∨ v = 5 := by omega
      rcases this with rfl | rfl | rfl | rfl | rfl | rfl <;> first | exact hc0 | exact hc1 | exact hc2 | exact hc3 | exact hc4 | exact hc5))) ?_
  refine zg_blk zd_51 1 hs (rfl : zb x zT0 zc_51 1 (83, [some (.ref 63), some (.int p1), some (.int p2)], [], h) = some (84, [some (.ref 63), some (.int p1), some (.int p2)], [.int (-1)], h)) (fun hs => ?_)
  exact zg_ret zd_51 rfl rfl hF
set_option maxRecDepth 100000 in
set_option maxHeartbeats 400000 in
theorem f_N_boat_t {x : zm_X} {d : Nat} (p1 : Int32) (p2 : Int32) (h : zm_H) {Q : Option Value → zm_H → Prop} (hs : zSh zT0 h) (ho : f_N_boat_ok p1 p2 h) (hF : Q (some (.int (f_N_boat p1 p2 h))) h) : zg x (d + 2) 157 0 [some (.ref 0), some (.int p1), some (.int p2)] [] h Q := by
  unfold f_N_boat at hF
  unfold f_N_boat_ok at ho
  refine zg_blk zd_157 1 hs (rfl : zb x zT0 zc_157 1 (0, [some (.ref 0), some (.int p1), some (.int p2)], [], h) = some (1, [some (.ref 0), some (.int p1), some (.int p2)], [.int p1], h)) (fun hs => ?_)
  refine zg_call hs zd_157 rfl rfl rfl rfl (as := [.int p1]) (rest := []) (en := [some (.int p1)]) rfl rfl rfl rfl rfl ?_
  refine f_N_isBoat_t p1 h hs trivial ?_
  show zg x (d + 2) 157 4 [some (.ref 0), some (.int p1), some (.int p2)] [.int (if (¬ (p1 < 0) ∧ (¬ (3 ≤ p1))) then (1 : Int32) else 0)] h Q
  have hom := ho
  have K147 : zSh zT0 h → zg x (d + 2) 157 20 [some (.ref 0), some (.int p1), some (.int p2)] [.int (if (¬ (p1 < 0) ∧ (¬ (3 ≤ p1))) then ((f_Harbour_ofBoat p1 p2 h) : Int32) else (-1))] h Q := fun hs => by
    exact zg_ret zd_157 rfl rfl hF
  refine zg_b_eq zd_157 rfl (fun (hc : ¬ (¬ (p1 < 0) ∧ (¬ (3 ≤ p1)))) => ?_) (fun (hc : (¬ (p1 < 0) ∧ (¬ (3 ≤ p1)))) => ?_)
  · have ho := hom.2 hc
    rw [show ((if (¬ (p1 < 0) ∧ (¬ (3 ≤ p1))) then ((f_Harbour_ofBoat p1 p2 h) : Int32) else (-1)) : Int32) = (-1) from if_neg hc] at K147
    refine zg_blk zd_157 1 hs (rfl : zb x zT0 zc_157 1 (19, [some (.ref 0), some (.int p1), some (.int p2)], [], h) = some (20, [some (.ref 0), some (.int p1), some (.int p2)], [.int (-1)], h)) (fun hs => ?_)
    exact K147 hs
  · have ho := hom.1 hc
    rw [show ((if (¬ (p1 < 0) ∧ (¬ (3 ≤ p1))) then ((f_Harbour_ofBoat p1 p2 h) : Int32) else (-1)) : Int32) = (f_Harbour_ofBoat p1 p2 h) from if_pos hc] at K147
    refine zg_blk zd_157 4 hs (rfl : zb x zT0 zc_157 4 (7, [some (.ref 0), some (.int p1), some (.int p2)], [], h) = some (13, [some (.ref 0), some (.int p1), some (.int p2)], [.int p2, .int p1, .ref 63], h)) (fun hs => ?_)
    have hob := ho
    refine zg_call hs zd_157 rfl rfl rfl rfl (as := [.ref 63, .int p1, .int p2]) (rest := []) (en := [some (.ref 63), some (.int p1), some (.int p2)]) rfl rfl rfl rfl rfl ?_
    refine f_Harbour_ofBoat_t p1 p2 h hs hob ?_
    show zg x (d + 2) 157 16 [some (.ref 0), some (.int p1), some (.int p2)] [.int (f_Harbour_ofBoat p1 p2 h)] h Q
    refine zg_blk zd_157 1 hs (rfl : zb x zT0 zc_157 1 (16, [some (.ref 0), some (.int p1), some (.int p2)], [.int (f_Harbour_ofBoat p1 p2 h)], h) = some (20, [some (.ref 0), some (.int p1), some (.int p2)], [.int (f_Harbour_ofBoat p1 p2 h)], h)) (fun hs => ?_)
    exact K147 hs
theorem zd_246 : zm_cd 246 = zc_246 := by rfl
set_option maxRecDepth 100000 in
set_option maxHeartbeats 400000 in
theorem f_M_boat_t {x : zm_X} {d : Nat} (p1 : Int32) (p2 : Int32) (h : zm_H) {Q : Option Value → zm_H → Prop} (hs : zSh zT0 h) (ho : f_M_boat_ok p1 p2 h) (hF : Q (some (.int (f_M_boat p1 p2 h))) h) : zg x (d + 3) 246 0 [some (.ref 92), some (.int p1), some (.int p2)] [] h Q := by
  unfold f_M_boat at hF
  unfold f_M_boat_ok at ho
  refine zg_blk zd_246 1 hs (rfl : zb x zT0 zc_246 1 (0, [some (.ref 92), some (.int p1), some (.int p2)], [], h) = some (1, [some (.ref 92), some (.int p1), some (.int p2)], [.int p1], h)) (fun hs => ?_)
  refine zg_call hs zd_246 rfl rfl rfl rfl (as := [.int p1]) (rest := []) (en := [some (.int p1)]) rfl rfl rfl rfl rfl ?_
  refine f_M_isBoat_t p1 h hs trivial ?_
  show zg x (d + 3) 246 4 [some (.ref 92), some (.int p1), some (.int p2)] [.int (if (¬ (p1 < 0) ∧ (¬ (2 < p1))) then (1 : Int32) else 0)] h Q
  refine zg_b_ne zd_246 rfl (fun (hc : (¬ (p1 < 0) ∧ (¬ (2 < p1)))) => ?_) (fun (hc : ¬ (¬ (p1 < 0) ∧ (¬ (2 < p1)))) => ?_)
  · have ho := ho.1 hc
    rw [if_pos hc] at hF
    refine zg_blk zd_246 3 hs (rfl : zb x zT0 zc_246 3 (9, [some (.ref 92), some (.int p1), some (.int p2)], [], h) = some (12, [some (.ref 92), some (.int p1), some (.int p2)], [.int 3, .int 1, .int p2], h)) (fun hs => ?_)
    refine zg_call hs zd_246 rfl rfl rfl rfl (as := [.int p2, .int 1, .int 3]) (rest := []) (en := [some (.int p2), some (.int 1), some (.int 3)]) rfl rfl rfl rfl rfl ?_
    refine f_M_in_t p2 1 3 h hs trivial ?_
    show zg x (d + 3) 246 15 [some (.ref 92), some (.int p1), some (.int p2)] [.int (if (¬ (p2 < 1) ∧ (¬ (3 < p2))) then (1 : Int32) else 0)] h Q
    refine zg_b_eq zd_246 rfl (fun (hc : ¬ (¬ (p2 < 1) ∧ (¬ (3 < p2)))) => ?_) (fun (hc : (¬ (p2 < 1) ∧ (¬ (3 < p2)))) => ?_)
    · have ho := ho.2 hc
      rw [if_neg hc] at hF
      refine zg_blk zd_246 1 hs (rfl : zb x zT0 zc_246 1 (31, [some (.ref 92), some (.int p1), some (.int p2)], [], h) = some (32, [some (.ref 92), some (.int p1), some (.int p2)], [.int p2], h)) (fun hs => ?_)
      by_cases hc0 : p2 = 0
      · have ho := ho.1 hc0
        rw [if_pos hc0] at hF
        refine zg_lsw zd_246 rfl (tg := 68) (by rw [hc0]; rfl) ?_
        refine zg_blk zd_246 3 hs (rfl : zb x zT0 zc_246 3 (68, [some (.ref 92), some (.int p1), some (.int p2)], [], h) = some (73, [some (.ref 92), some (.int p1), some (.int p2)], [.int p1, .ref 139], h)) (fun hs => ?_)
        have hob := ho
        refine zg_bal hs zd_246 rfl rfl (by decide) hob ?_
        have K148 : zSh zT0 h → zg x (d + 3) 246 82 [some (.ref 92), some (.int p1), some (.int p2)] [.int (if ((zr h 139 p1) = 0) then (1 : Int32) else 0)] h Q := fun hs => by
          exact zg_ret zd_246 rfl rfl hF
        refine zg_f_eq zd_246 rfl (fun (hc : ((zr h 139 p1) = 0)) => ?_) (fun (hc : ¬ ((zr h 139 p1) = 0)) => ?_)
        · skip
          rw [show ((if ((zr h 139 p1) = 0) then (1 : Int32) else 0) : Int32) = 1 from if_pos hc] at K148
          refine zg_blk zd_246 1 hs (rfl : zb x zT0 zc_246 1 (81, [some (.ref 92), some (.int p1), some (.int p2)], [], h) = some (82, [some (.ref 92), some (.int p1), some (.int p2)], [.int 1], h)) (fun hs => ?_)
          exact K148 hs
        · skip
          rw [show ((if ((zr h 139 p1) = 0) then (1 : Int32) else 0) : Int32) = 0 from if_neg hc] at K148
          refine zg_blk zd_246 2 hs (rfl : zb x zT0 zc_246 2 (77, [some (.ref 92), some (.int p1), some (.int p2)], [], h) = some (82, [some (.ref 92), some (.int p1), some (.int p2)], [.int 0], h)) (fun hs => ?_)
          exact K148 hs
      have ho := ho.2 hc0
      rw [if_neg hc0] at hF
      by_cases hc4 : p2 = 4
      · have ho := ho.1 hc4
        rw [if_pos hc4] at hF
        refine zg_lsw zd_246 rfl (tg := 83) (by rw [hc4]; rfl) ?_
        refine zg_blk zd_246 3 hs (rfl : zb x zT0 zc_246 3 (83, [some (.ref 92), some (.int p1), some (.int p2)], [], h) = some (88, [some (.ref 92), some (.int p1), some (.int p2)], [.int p1, .ref 144], h)) (fun hs => ?_)
        have hob := ho
        refine zg_ial hs zd_246 rfl rfl hob ?_
        exact zg_ret zd_246 rfl rfl hF
      have ho := ho.2 hc4
      rw [if_neg hc4] at hF
      by_cases hc5 : p2 = 5
      · have ho := ho.1 hc5
        rw [if_pos hc5] at hF
        refine zg_lsw zd_246 rfl (tg := 90) (by rw [hc5]; rfl) ?_
        refine zg_blk zd_246 3 hs (rfl : zb x zT0 zc_246 3 (90, [some (.ref 92), some (.int p1), some (.int p2)], [], h) = some (95, [some (.ref 92), some (.int p1), some (.int p2)], [.int p1, .ref 145], h)) (fun hs => ?_)
        have hob := ho
        refine zg_ial hs zd_246 rfl rfl hob ?_
        exact zg_ret zd_246 rfl rfl hF
      have ho := ho.2 hc5
      rw [if_neg hc5] at hF
      refine zg_lsw zd_246 rfl (tg := 97) (by show (((32 : Nat) : Int) + Op.lookupswitch.offset [(0, 36), (4, 51), (5, 58)] (65) (Int32.toInt p2)).toNat = 97; rw [lv_osw (a := 0) hc0 rfl, lv_osw (a := 4) hc4 rfl, lv_osw (a := 5) hc5 rfl]; rfl) ?_
      refine zg_blk zd_246 1 hs (rfl : zb x zT0 zc_246 1 (97, [some (.ref 92), some (.int p1), some (.int p2)], [], h) = some (98, [some (.ref 92), some (.int p1), some (.int p2)], [.int (-1)], h)) (fun hs => ?_)
      exact zg_ret zd_246 rfl rfl hF
    · have ho := ho.1 hc
      rw [if_pos hc] at hF
      refine zg_blk zd_246 9 hs (rfl : zb x zT0 zc_246 9 (18, [some (.ref 92), some (.int p1), some (.int p2)], [], h) = some (29, [some (.ref 92), some (.int p1), some (.int p2)], [.int (((3 * p1) + p2) - 1), .ref 138], h)) (fun hs => ?_)
      have hob := ho
      refine zg_ial hs zd_246 rfl rfl hob ?_
      exact zg_ret zd_246 rfl rfl hF
  · have ho := ho.2 hc
    rw [if_neg hc] at hF
    refine zg_blk zd_246 1 hs (rfl : zb x zT0 zc_246 1 (7, [some (.ref 92), some (.int p1), some (.int p2)], [], h) = some (8, [some (.ref 92), some (.int p1), some (.int p2)], [.int (-1)], h)) (fun hs => ?_)
    exact zg_ret zd_246 rfl rfl hF
theorem zd_158 : zm_cd 158 = zc_158 := by rfl
theorem zd_58 : zm_cd 58 = zc_58 := by rfl
set_option maxRecDepth 100000 in
set_option maxHeartbeats 400000 in
theorem f_Planner_addJob_t {x : zm_X} {d : Nat} (p1 : Int32) (p2 : Int32) (h : zm_H) {Q : Option Value → zm_H → Prop} (hs : zSh zT0 h) (ho : f_Planner_addJob_ok p1 p2 h) (hF : (zSh zT0 (f_Planner_addJob p1 p2 h).2 → Q (some (.int (f_Planner_addJob p1 p2 h).1)) (f_Planner_addJob p1 p2 h).2)) : zg x (d + 1) 58 0 [some (.ref 72), some (.int p1), some (.int p2)] [] h Q := by
  unfold f_Planner_addJob at hF
  unfold f_Planner_addJob_ok at ho
  refine zg_blk zd_58 3 hs (rfl : zb x zT0 zc_58 3 (0, [some (.ref 72), some (.int p1), some (.int p2)], [], h) = some (6, [some (.ref 72), some (.int p1), some (.int p2)], [.int 6, .int (zf h 72 2)], h)) (fun hs => ?_)
  refine zg_i_lt zd_58 rfl (fun (hc : ((zf h 72 2) < 6)) => ?_) (fun (hc : ¬ ((zf h 72 2) < 6)) => ?_)
  · have ho := ho.1 hc
    rw [if_pos hc] at hF
    refine zg_blk zd_58 5 hs (rfl : zb x zT0 zc_58 5 (11, [some (.ref 72), some (.int p1), some (.int p2)], [], h) = some (20, [some (.ref 72), some (.int p1), some (.int p2)], [.int p1, .int (zf h 72 2), .ref 73], h)) (fun hs => ?_)
    obtain ⟨hob, ho⟩ := ho
    refine zg_ias hs zd_58 rfl rfl hob (fun hs => ?_)
    refine zg_blk zd_58 5 hs (rfl : zb x zT0 zc_58 5 (21, [some (.ref 72), some (.int p1), some (.int p2)], [], (zs h 73 (zf h 72 2) p1)) = some (30, [some (.ref 72), some (.int p1), some (.int p2)], [.int p2, .int (zf h 72 2), .ref 74], (zs h 73 (zf h 72 2) p1))) (fun hs => ?_)
    have hob := ho
    refine zg_ias hs zd_58 rfl rfl hob (fun hs => ?_)
    refine zg_blk zd_58 8 hs (rfl : zb x zT0 zc_58 8 (31, [some (.ref 72), some (.int p1), some (.int p2)], [], (zs (zs h 73 (zf h 72 2) p1) 74 (zf h 72 2) p2)) = some (45, [some (.ref 72), some (.int p1), some (.int p2)], [.int ((zf h 72 2) + 1)], (zp (zs (zs h 73 (zf h 72 2) p1) 74 (zf h 72 2) p2) 72 2 ((zf h 72 2) + 1)))) (fun hs => ?_)
    exact zg_ret zd_58 rfl rfl (hF hs)
  · have ho := ho.2 hc
    rw [if_neg hc] at hF
    refine zg_blk zd_58 1 hs (rfl : zb x zT0 zc_58 1 (9, [some (.ref 72), some (.int p1), some (.int p2)], [], h) = some (10, [some (.ref 72), some (.int p1), some (.int p2)], [.int (-1)], h)) (fun hs => ?_)
    exact zg_ret zd_58 rfl rfl (hF hs)
set_option maxRecDepth 100000 in
set_option maxHeartbeats 400000 in
theorem f_N_want_t {x : zm_X} {d : Nat} (p1 : Int32) (p2 : Int32) (h : zm_H) {Q : Option Value → zm_H → Prop} (hs : zSh zT0 h) (ho : f_N_want_ok p1 p2 h) (hF : (zSh zT0 (f_N_want p1 p2 h).2 → Q (some (.int (f_N_want p1 p2 h).1)) (f_N_want p1 p2 h).2)) : zg x (d + 2) 158 0 [some (.ref 0), some (.int p1), some (.int p2)] [] h Q := by
  unfold f_N_want at hF
  unfold f_N_want_ok at ho
  refine zg_blk zd_158 2 hs (rfl : zb x zT0 zc_158 2 (0, [some (.ref 0), some (.int p1), some (.int p2)], [], h) = some (2, [some (.ref 0), some (.int p1), some (.int p2)], [.int 1, .int p1], h)) (fun hs => ?_)
  refine zg_i_lt zd_158 rfl (fun (hc : (p1 < 1)) => ?_) (fun (hc : ¬ (p1 < 1)) => ?_)
  · have ho := ho.1 hc
    rw [if_pos hc] at hF
    refine zg_blk zd_158 1 hs (rfl : zb x zT0 zc_158 1 (23, [some (.ref 0), some (.int p1), some (.int p2)], [], h) = some (24, [some (.ref 0), some (.int p1), some (.int p2)], [.int (-1)], h)) (fun hs => ?_)
    exact zg_ret zd_158 rfl rfl (hF hs)
  · have ho := ho.2 hc
    rw [if_neg hc] at hF
    refine zg_blk zd_158 2 hs (rfl : zb x zT0 zc_158 2 (5, [some (.ref 0), some (.int p1), some (.int p2)], [], h) = some (8, [some (.ref 0), some (.int p1), some (.int p2)], [.int 16, .int p1], h)) (fun hs => ?_)
    refine zg_i_gt zd_158 rfl (fun (hc : (16 < p1)) => ?_) (fun (hc : ¬ (16 < p1)) => ?_)
    · have ho := ho.1 hc
      rw [if_pos hc] at hF
      refine zg_blk zd_158 1 hs (rfl : zb x zT0 zc_158 1 (23, [some (.ref 0), some (.int p1), some (.int p2)], [], h) = some (24, [some (.ref 0), some (.int p1), some (.int p2)], [.int (-1)], h)) (fun hs => ?_)
      exact zg_ret zd_158 rfl rfl (hF hs)
    · have ho := ho.2 hc
      rw [if_neg hc] at hF
      refine zg_blk zd_158 2 hs (rfl : zb x zT0 zc_158 2 (11, [some (.ref 0), some (.int p1), some (.int p2)], [], h) = some (13, [some (.ref 0), some (.int p1), some (.int p2)], [.int 1, .int p2], h)) (fun hs => ?_)
      refine zg_i_lt zd_158 rfl (fun (hc : (p2 < 1)) => ?_) (fun (hc : ¬ (p2 < 1)) => ?_)
      · have ho := ho.1 hc
        rw [if_pos hc] at hF
        refine zg_blk zd_158 1 hs (rfl : zb x zT0 zc_158 1 (23, [some (.ref 0), some (.int p1), some (.int p2)], [], h) = some (24, [some (.ref 0), some (.int p1), some (.int p2)], [.int (-1)], h)) (fun hs => ?_)
        exact zg_ret zd_158 rfl rfl (hF hs)
      · have ho := ho.2 hc
        rw [if_neg hc] at hF
        refine zg_blk zd_158 2 hs (rfl : zb x zT0 zc_158 2 (16, [some (.ref 0), some (.int p1), some (.int p2)], [], h) = some (20, [some (.ref 0), some (.int p1), some (.int p2)], [.int 999, .int p2], h)) (fun hs => ?_)
        refine zg_i_le zd_158 rfl (fun (hc : (p2 ≤ 999)) => ?_) (fun (hc : ¬ (p2 ≤ 999)) => ?_)
        · have ho := ho.1 hc
          rw [if_pos hc] at hF
          refine zg_blk zd_158 4 hs (rfl : zb x zT0 zc_158 4 (25, [some (.ref 0), some (.int p1), some (.int p2)], [], h) = some (31, [some (.ref 0), some (.int p1), some (.int p2)], [.int p2, .int p1, .ref 72], h)) (fun hs => ?_)
          have hob := ho
          refine zg_call hs zd_158 rfl rfl rfl rfl (as := [.ref 72, .int p1, .int p2]) (rest := []) (en := [some (.ref 72), some (.int p1), some (.int p2)]) rfl rfl rfl rfl rfl ?_
          refine f_Planner_addJob_t p1 p2 h hs hob (fun hs => ?_)
          show zg x (d + 2) 158 34 [some (.ref 0), some (.int p1), some (.int p2)] [.int (f_Planner_addJob p1 p2 h).1] (f_Planner_addJob p1 p2 h).2 Q
          exact zg_ret zd_158 rfl rfl (hF hs)
        · have ho := ho.2 hc
          rw [if_neg hc] at hF
          refine zg_blk zd_158 1 hs (rfl : zb x zT0 zc_158 1 (23, [some (.ref 0), some (.int p1), some (.int p2)], [], h) = some (24, [some (.ref 0), some (.int p1), some (.int p2)], [.int (-1)], h)) (fun hs => ?_)
          exact zg_ret zd_158 rfl rfl (hF hs)
theorem zd_247 : zm_cd 247 = zc_247 := by rfl
set_option maxRecDepth 100000 in
set_option maxHeartbeats 400000 in
theorem f_M_want_t {x : zm_X} {d : Nat} (p1 : Int32) (p2 : Int32) (h : zm_H) {Q : Option Value → zm_H → Prop} (hs : zSh zT0 h) (ho : f_M_want_ok p1 p2 h) (hF : (zSh zT0 (f_M_want p1 p2 h).2 → Q (some (.int (f_M_want p1 p2 h).1)) (f_M_want p1 p2 h).2)) : zg x (d + 2) 247 0 [some (.ref 92), some (.int p1), some (.int p2)] [] h Q := by
  unfold f_M_want at hF
  unfold f_M_want_ok at ho
  refine zg_blk zd_247 3 hs (rfl : zb x zT0 zc_247 3 (0, [some (.ref 92), some (.int p1), some (.int p2)], [], h) = some (4, [some (.ref 92), some (.int p1), some (.int p2)], [.int 16, .int 1, .int p1], h)) (fun hs => ?_)
  refine zg_call hs zd_247 rfl rfl rfl rfl (as := [.int p1, .int 1, .int 16]) (rest := []) (en := [some (.int p1), some (.int 1), some (.int 16)]) rfl rfl rfl rfl rfl ?_
  refine f_M_in_t p1 1 16 h hs trivial ?_
  show zg x (d + 2) 247 7 [some (.ref 92), some (.int p1), some (.int p2)] [.int (if (¬ (p1 < 1) ∧ (¬ (16 < p1))) then (1 : Int32) else 0)] h Q
  refine zg_b_eq zd_247 rfl (fun (hc : ¬ (¬ (p1 < 1) ∧ (¬ (16 < p1)))) => ?_) (fun (hc : (¬ (p1 < 1) ∧ (¬ (16 < p1)))) => ?_)
  · have ho := ho.2 hc
    rw [if_neg hc] at hF
    refine zg_blk zd_247 1 hs (rfl : zb x zT0 zc_247 1 (30, [some (.ref 92), some (.int p1), some (.int p2)], [], h) = some (31, [some (.ref 92), some (.int p1), some (.int p2)], [.int (-1)], h)) (fun hs => ?_)
    exact zg_ret zd_247 rfl rfl (hF hs)
  · have ho := ho.1 hc
    rw [if_pos hc] at hF
    refine zg_blk zd_247 3 hs (rfl : zb x zT0 zc_247 3 (10, [some (.ref 92), some (.int p1), some (.int p2)], [], h) = some (15, [some (.ref 92), some (.int p1), some (.int p2)], [.int 999, .int 1, .int p2], h)) (fun hs => ?_)
    refine zg_call hs zd_247 rfl rfl rfl rfl (as := [.int p2, .int 1, .int 999]) (rest := []) (en := [some (.int p2), some (.int 1), some (.int 999)]) rfl rfl rfl rfl rfl ?_
    refine f_M_in_t p2 1 999 h hs trivial ?_
    show zg x (d + 2) 247 18 [some (.ref 92), some (.int p1), some (.int p2)] [.int (if (¬ (p2 < 1) ∧ (¬ (999 < p2))) then (1 : Int32) else 0)] h Q
    refine zg_b_eq zd_247 rfl (fun (hc : ¬ (¬ (p2 < 1) ∧ (¬ (999 < p2)))) => ?_) (fun (hc : (¬ (p2 < 1) ∧ (¬ (999 < p2)))) => ?_)
    · have ho := ho.2 hc
      rw [if_neg hc] at hF
      refine zg_blk zd_247 1 hs (rfl : zb x zT0 zc_247 1 (30, [some (.ref 92), some (.int p1), some (.int p2)], [], h) = some (31, [some (.ref 92), some (.int p1), some (.int p2)], [.int (-1)], h)) (fun hs => ?_)
      exact zg_ret zd_247 rfl rfl (hF hs)
    · have ho := ho.1 hc
      rw [if_pos hc] at hF
      refine zg_blk zd_247 3 hs (rfl : zb x zT0 zc_247 3 (21, [some (.ref 92), some (.int p1), some (.int p2)], [], h) = some (27, [some (.ref 92), some (.int p1), some (.int p2)], [.int 6, .int (zf h 92 72)], h)) (fun hs => ?_)
      refine zg_i_ne zd_247 rfl (fun (hc : ¬ ((zf h 92 72) = 6)) => ?_) (fun (hc : ((zf h 92 72) = 6)) => ?_)
      · have ho := ho.2 hc
        rw [if_neg hc] at hF
        refine zg_blk zd_247 5 hs (rfl : zb x zT0 zc_247 5 (32, [some (.ref 92), some (.int p1), some (.int p2)], [], h) = some (41, [some (.ref 92), some (.int p1), some (.int p2)], [.int p1, .int (zf h 92 72), .ref 146], h)) (fun hs => ?_)
        obtain ⟨hob, ho⟩ := ho
        refine zg_ias hs zd_247 rfl rfl hob (fun hs => ?_)
        refine zg_blk zd_247 5 hs (rfl : zb x zT0 zc_247 5 (42, [some (.ref 92), some (.int p1), some (.int p2)], [], (zs h 146 (zf h 92 72) p1)) = some (51, [some (.ref 92), some (.int p1), some (.int p2)], [.int p2, .int (zf h 92 72), .ref 147], (zs h 146 (zf h 92 72) p1))) (fun hs => ?_)
        have hob := ho
        refine zg_ias hs zd_247 rfl rfl hob (fun hs => ?_)
        refine zg_blk zd_247 8 hs (rfl : zb x zT0 zc_247 8 (52, [some (.ref 92), some (.int p1), some (.int p2)], [], (zs (zs h 146 (zf h 92 72) p1) 147 (zf h 92 72) p2)) = some (66, [some (.ref 92), some (.int p1), some (.int p2)], [.int ((zf h 92 72) + 1)], (zp (zs (zs h 146 (zf h 92 72) p1) 147 (zf h 92 72) p2) 92 72 ((zf h 92 72) + 1)))) (fun hs => ?_)
        exact zg_ret zd_247 rfl rfl (hF hs)
      · have ho := ho.1 hc
        rw [if_pos hc] at hF
        refine zg_blk zd_247 1 hs (rfl : zb x zT0 zc_247 1 (30, [some (.ref 92), some (.int p1), some (.int p2)], [], h) = some (31, [some (.ref 92), some (.int p1), some (.int p2)], [.int (-1)], h)) (fun hs => ?_)
        exact zg_ret zd_247 rfl rfl (hF hs)
theorem zd_159 : zm_cd 159 = zc_159 := by rfl
set_option maxRecDepth 100000 in
set_option maxHeartbeats 400000 in
theorem f_N_forget_t {x : zm_X} {d : Nat} (h : zm_H) {Q : Option Value → zm_H → Prop} (hs : zSh zT0 h) (ho : f_N_forget_ok h) (hF : (zSh zT0 (f_N_forget h).2 → Q (some (.int (f_N_forget h).1)) (f_N_forget h).2)) : zg x (d + 1) 159 0 [some (.ref 0), none] [] h Q := by
  unfold f_N_forget at hF
  unfold f_N_forget_ok at ho
  refine zg_blk zd_159 9 hs (rfl : zb x zT0 zc_159 9 (0, [some (.ref 0), none], [], h) = some (17, [some (.ref 0), some (.int (zf h 72 2))], [.int (zf h 72 2)], (zp h 72 2 0))) (fun hs => ?_)
  exact zg_ret zd_159 rfl rfl (hF hs)
theorem zd_248 : zm_cd 248 = zc_248 := by rfl
set_option maxRecDepth 100000 in
set_option maxHeartbeats 400000 in
theorem f_M_forget_t {x : zm_X} {d : Nat} (h : zm_H) {Q : Option Value → zm_H → Prop} (hs : zSh zT0 h) (ho : f_M_forget_ok h) (hF : (zSh zT0 (f_M_forget h).2 → Q (some (.int (f_M_forget h).1)) (f_M_forget h).2)) : zg x (d + 1) 248 0 [some (.ref 92), none] [] h Q := by
  unfold f_M_forget at hF
  unfold f_M_forget_ok at ho
  refine zg_blk zd_248 7 hs (rfl : zb x zT0 zc_248 7 (0, [some (.ref 92), none], [], h) = some (11, [some (.ref 92), some (.int (zf h 92 72))], [.int (zf h 92 72)], (zp h 92 72 0))) (fun hs => ?_)
  exact zg_ret zd_248 rfl rfl (hF hs)
theorem zd_160 : zm_cd 160 = zc_160 := by rfl
theorem zd_59 : zm_cd 59 = zc_59 := by rfl
set_option maxRecDepth 100000 in
set_option maxHeartbeats 400000 in
theorem f_Planner_findWindows_l10_k44_t {x : zm_X} {d : Nat} (v1 : Int32) (v2 : Int32) (v3 : Int32) (v4 : Int32) (w0 : Int32) (h : zm_H) (o5 : Option Value) {Q : Option Value → zm_H → Prop} {FN : Nat × Int32 × Int32 × zm_H → Prop} (hs : zSh zT0 h) (ho : f_Planner_findWindows_l10_k44_ok v1 v2 v3 v4 w0 h) (hF : FN (f_Planner_findWindows_l10_k44 v1 v2 v3 v4 w0 h)) (hl0 : ∀ (v3 : Int32) (v4 : Int32) (h : zm_H) (o5 : Option Value), zSh zT0 h → FN (0, v3, v4, h) → zg x (d + 5) 59 10 [some (.ref 72), some (.int v1), some (.int v2), some (.int v3), some (.int v4), o5] [] h Q) (hl1 : ∀ (v3 : Int32) (v4 : Int32) (h : zm_H) (o3 : Option Value) (o4 : Option Value) (o5 : Option Value), zSh zT0 h → FN (1, v3, v4, h) → zg x (d + 5) 59 131 [some (.ref 72), some (.int v1), some (.int v2), o3, o4, o5] [] h Q) : zg x (d + 5) 59 44 [some (.ref 72), some (.int v1), some (.int v2), some (.int v3), some (.int v4), o5] [.int w0] h Q := by
  unfold f_Planner_findWindows_l10_k44 at hF
  unfold f_Planner_findWindows_l10_k44_ok at ho
  refine zg_blk zd_59 2 hs (rfl : zb x zT0 zc_59 2 (44, [some (.ref 72), some (.int v1), some (.int v2), some (.int v3), some (.int v4), o5], [.int w0], h) = some (48, [some (.ref 72), some (.int v1), some (.int v2), some (.int v3), some (.int v4), some (.int w0)], [.int w0], h)) (fun hs => ?_)
  obtain ⟨hom, ho⟩ := ho
  have K149 : zSh zT0 (if (w0 = 0) then h else (if (v3 = 0) then (if (40 ≤ (zf h 72 5)) then h else (zp (zs (zs h 75 (zf h 72 5) v4) 76 (zf h 72 5) 0) 72 5 ((zf h 72 5) + 1))) else h)) → zg x (d + 5) 59 95 [some (.ref 72), some (.int v1), some (.int v2), some (.int v3), some (.int v4), some (.int w0)] [] (if (w0 = 0) then h else (if (v3 = 0) then (if (40 ≤ (zf h 72 5)) then h else (zp (zs (zs h 75 (zf h 72 5) v4) 76 (zf h 72 5) 0) 72 5 ((zf h 72 5) + 1))) else h)) Q := fun hs => by
    refine zg_blk zd_59 1 hs (rfl : zb x zT0 zc_59 1 (95, [some (.ref 72), some (.int v1), some (.int v2), some (.int v3), some (.int v4), some (.int w0)], [], (if (w0 = 0) then h else (if (v3 = 0) then (if (40 ≤ (zf h 72 5)) then h else (zp (zs (zs h 75 (zf h 72 5) v4) 76 (zf h 72 5) 0) 72 5 ((zf h 72 5) + 1))) else h))) = some (97, [some (.ref 72), some (.int v1), some (.int v2), some (.int v3), some (.int v4), some (.int w0)], [.int w0], (if (w0 = 0) then h else (if (v3 = 0) then (if (40 ≤ (zf h 72 5)) then h else (zp (zs (zs h 75 (zf h 72 5) v4) 76 (zf h 72 5) 0) 72 5 ((zf h 72 5) + 1))) else h)))) (fun hs => ?_)
    have hom := ho
    have K150 : zSh zT0 (if (w0 = 0) then (if (w0 = 0) then h else (if (v3 = 0) then (if (40 ≤ (zf h 72 5)) then h else (zp (zs (zs h 75 (zf h 72 5) v4) 76 (zf h 72 5) 0) 72 5 ((zf h 72 5) + 1))) else h)) else (if ((zf (if (w0 = 0) then h else (if (v3 = 0) then (if (40 ≤ (zf h 72 5)) then h else (zp (zs (zs h 75 (zf h 72 5) v4) 76 (zf h 72 5) 0) 72 5 ((zf h 72 5) + 1))) else h)) 72 5) ≤ 0) then (if (w0 = 0) then h else (if (v3 = 0) then (if (40 ≤ (zf h 72 5)) then h else (zp (zs (zs h 75 (zf h 72 5) v4) 76 (zf h 72 5) 0) 72 5 ((zf h 72 5) + 1))) else h)) else (zs (if (w0 = 0) then h else (if (v3 = 0) then (if (40 ≤ (zf h 72 5)) then h else (zp (zs (zs h 75 (zf h 72 5) v4) 76 (zf h 72 5) 0) 72 5 ((zf h 72 5) + 1))) else h)) 76 ((zf (if (w0 = 0) then h else (if (v3 = 0) then (if (40 ≤ (zf h 72 5)) then h else (zp (zs (zs h 75 (zf h 72 5) v4) 76 (zf h 72 5) 0) 72 5 ((zf h 72 5) + 1))) else h)) 72 5) - 1) ((zr (if (w0 = 0) then h else (if (v3 = 0) then (if (40 ≤ (zf h 72 5)) then h else (zp (zs (zs h 75 (zf h 72 5) v4) 76 (zf h 72 5) 0) 72 5 ((zf h 72 5) + 1))) else h)) 76 ((zf (if (w0 = 0) then h else (if (v3 = 0) then (if (40 ≤ (zf h 72 5)) then h else (zp (zs (zs h 75 (zf h 72 5) v4) 76 (zf h 72 5) 0) 72 5 ((zf h 72 5) + 1))) else h)) 72 5) - 1)) + 1)))) → zg x (d + 5) 59 122 [some (.ref 72), some (.int v1), some (.int v2), some (.int v3), some (.int v4), some (.int w0)] [] (if (w0 = 0) then (if (w0 = 0) then h else (if (v3 = 0) then (if (40 ≤ (zf h 72 5)) then h else (zp (zs (zs h 75 (zf h 72 5) v4) 76 (zf h 72 5) 0) 72 5 ((zf h 72 5) + 1))) else h)) else (if ((zf (if (w0 = 0) then h else (if (v3 = 0) then (if (40 ≤ (zf h 72 5)) then h else (zp (zs (zs h 75 (zf h 72 5) v4) 76 (zf h 72 5) 0) 72 5 ((zf h 72 5) + 1))) else h)) 72 5) ≤ 0) then (if (w0 = 0) then h else (if (v3 = 0) then (if (40 ≤ (zf h 72 5)) then h else (zp (zs (zs h 75 (zf h 72 5) v4) 76 (zf h 72 5) 0) 72 5 ((zf h 72 5) + 1))) else h)) else (zs (if (w0 = 0) then h else (if (v3 = 0) then (if (40 ≤ (zf h 72 5)) then h else (zp (zs (zs h 75 (zf h 72 5) v4) 76 (zf h 72 5) 0) 72 5 ((zf h 72 5) + 1))) else h)) 76 ((zf (if (w0 = 0) then h else (if (v3 = 0) then (if (40 ≤ (zf h 72 5)) then h else (zp (zs (zs h 75 (zf h 72 5) v4) 76 (zf h 72 5) 0) 72 5 ((zf h 72 5) + 1))) else h)) 72 5) - 1) ((zr (if (w0 = 0) then h else (if (v3 = 0) then (if (40 ≤ (zf h 72 5)) then h else (zp (zs (zs h 75 (zf h 72 5) v4) 76 (zf h 72 5) 0) 72 5 ((zf h 72 5) + 1))) else h)) 76 ((zf (if (w0 = 0) then h else (if (v3 = 0) then (if (40 ≤ (zf h 72 5)) then h else (zp (zs (zs h 75 (zf h 72 5) v4) 76 (zf h 72 5) 0) 72 5 ((zf h 72 5) + 1))) else h)) 72 5) - 1)) + 1)))) Q := fun hs => by
      refine zg_blk zd_59 4 hs (rfl : zb x zT0 zc_59 4 (122, [some (.ref 72), some (.int v1), some (.int v2), some (.int v3), some (.int v4), some (.int w0)], [], (if (w0 = 0) then (if (w0 = 0) then h else (if (v3 = 0) then (if (40 ≤ (zf h 72 5)) then h else (zp (zs (zs h 75 (zf h 72 5) v4) 76 (zf h 72 5) 0) 72 5 ((zf h 72 5) + 1))) else h)) else (if ((zf (if (w0 = 0) then h else (if (v3 = 0) then (if (40 ≤ (zf h 72 5)) then h else (zp (zs (zs h 75 (zf h 72 5) v4) 76 (zf h 72 5) 0) 72 5 ((zf h 72 5) + 1))) else h)) 72 5) ≤ 0) then (if (w0 = 0) then h else (if (v3 = 0) then (if (40 ≤ (zf h 72 5)) then h else (zp (zs (zs h 75 (zf h 72 5) v4) 76 (zf h 72 5) 0) 72 5 ((zf h 72 5) + 1))) else h)) else (zs (if (w0 = 0) then h else (if (v3 = 0) then (if (40 ≤ (zf h 72 5)) then h else (zp (zs (zs h 75 (zf h 72 5) v4) 76 (zf h 72 5) 0) 72 5 ((zf h 72 5) + 1))) else h)) 76 ((zf (if (w0 = 0) then h else (if (v3 = 0) then (if (40 ≤ (zf h 72 5)) then h else (zp (zs (zs h 75 (zf h 72 5) v4) 76 (zf h 72 5) 0) 72 5 ((zf h 72 5) + 1))) else h)) 72 5) - 1) ((zr (if (w0 = 0) then h else (if (v3 = 0) then (if (40 ≤ (zf h 72 5)) then h else (zp (zs (zs h 75 (zf h 72 5) v4) 76 (zf h 72 5) 0) 72 5 ((zf h 72 5) + 1))) else h)) 76 ((zf (if (w0 = 0) then h else (if (v3 = 0) then (if (40 ≤ (zf h 72 5)) then h else (zp (zs (zs h 75 (zf h 72 5) v4) 76 (zf h 72 5) 0) 72 5 ((zf h 72 5) + 1))) else h)) 72 5) - 1)) + 1))))) = some (10, [some (.ref 72), some (.int v1), some (.int v2), some (.int w0), some (.int (v4 + 1)), some (.int w0)], [], (if (w0 = 0) then (if (w0 = 0) then h else (if (v3 = 0) then (if (40 ≤ (zf h 72 5)) then h else (zp (zs (zs h 75 (zf h 72 5) v4) 76 (zf h 72 5) 0) 72 5 ((zf h 72 5) + 1))) else h)) else (if ((zf (if (w0 = 0) then h else (if (v3 = 0) then (if (40 ≤ (zf h 72 5)) then h else (zp (zs (zs h 75 (zf h 72 5) v4) 76 (zf h 72 5) 0) 72 5 ((zf h 72 5) + 1))) else h)) 72 5) ≤ 0) then (if (w0 = 0) then h else (if (v3 = 0) then (if (40 ≤ (zf h 72 5)) then h else (zp (zs (zs h 75 (zf h 72 5) v4) 76 (zf h 72 5) 0) 72 5 ((zf h 72 5) + 1))) else h)) else (zs (if (w0 = 0) then h else (if (v3 = 0) then (if (40 ≤ (zf h 72 5)) then h else (zp (zs (zs h 75 (zf h 72 5) v4) 76 (zf h 72 5) 0) 72 5 ((zf h 72 5) + 1))) else h)) 76 ((zf (if (w0 = 0) then h else (if (v3 = 0) then (if (40 ≤ (zf h 72 5)) then h else (zp (zs (zs h 75 (zf h 72 5) v4) 76 (zf h 72 5) 0) 72 5 ((zf h 72 5) + 1))) else h)) 72 5) - 1) ((zr (if (w0 = 0) then h else (if (v3 = 0) then (if (40 ≤ (zf h 72 5)) then h else (zp (zs (zs h 75 (zf h 72 5) v4) 76 (zf h 72 5) 0) 72 5 ((zf h 72 5) + 1))) else h)) 76 ((zf (if (w0 = 0) then h else (if (v3 = 0) then (if (40 ≤ (zf h 72 5)) then h else (zp (zs (zs h 75 (zf h 72 5) v4) 76 (zf h 72 5) 0) 72 5 ((zf h 72 5) + 1))) else h)) 72 5) - 1)) + 1)))))) (fun hs => ?_)
      exact hl0 w0 (v4 + 1) (if (w0 = 0) then (if (w0 = 0) then h else (if (v3 = 0) then (if (40 ≤ (zf h 72 5)) then h else (zp (zs (zs h 75 (zf h 72 5) v4) 76 (zf h 72 5) 0) 72 5 ((zf h 72 5) + 1))) else h)) else (if ((zf (if (w0 = 0) then h else (if (v3 = 0) then (if (40 ≤ (zf h 72 5)) then h else (zp (zs (zs h 75 (zf h 72 5) v4) 76 (zf h 72 5) 0) 72 5 ((zf h 72 5) + 1))) else h)) 72 5) ≤ 0) then (if (w0 = 0) then h else (if (v3 = 0) then (if (40 ≤ (zf h 72 5)) then h else (zp (zs (zs h 75 (zf h 72 5) v4) 76 (zf h 72 5) 0) 72 5 ((zf h 72 5) + 1))) else h)) else (zs (if (w0 = 0) then h else (if (v3 = 0) then (if (40 ≤ (zf h 72 5)) then h else (zp (zs (zs h 75 (zf h 72 5) v4) 76 (zf h 72 5) 0) 72 5 ((zf h 72 5) + 1))) else h)) 76 ((zf (if (w0 = 0) then h else (if (v3 = 0) then (if (40 ≤ (zf h 72 5)) then h else (zp (zs (zs h 75 (zf h 72 5) v4) 76 (zf h 72 5) 0) 72 5 ((zf h 72 5) + 1))) else h)) 72 5) - 1) ((zr (if (w0 = 0) then h else (if (v3 = 0) then (if (40 ≤ (zf h 72 5)) then h else (zp (zs (zs h 75 (zf h 72 5) v4) 76 (zf h 72 5) 0) 72 5 ((zf h 72 5) + 1))) else h)) 76 ((zf (if (w0 = 0) then h else (if (v3 = 0) then (if (40 ≤ (zf h 72 5)) then h else (zp (zs (zs h 75 (zf h 72 5) v4) 76 (zf h 72 5) 0) 72 5 ((zf h 72 5) + 1))) else h)) 72 5) - 1)) + 1)))) (some (.int w0)) hs hF
    refine zg_f_eq zd_59 rfl (fun (hc : (w0 = 0)) => ?_) (fun (hc : ¬ (w0 = 0)) => ?_)
    · have ho := hom.1 hc
      rw [show (if (w0 = 0) then (if (w0 = 0) then h else (if (v3 = 0) then (if (40 ≤ (zf h 72 5)) then h else (zp (zs (zs h 75 (zf h 72 5) v4) 76 (zf h 72 5) 0) 72 5 ((zf h 72 5) + 1))) else h)) else (if ((zf (if (w0 = 0) then h else (if (v3 = 0) then (if (40 ≤ (zf h 72 5)) then h else (zp (zs (zs h 75 (zf h 72 5) v4) 76 (zf h 72 5) 0) 72 5 ((zf h 72 5) + 1))) else h)) 72 5) ≤ 0) then (if (w0 = 0) then h else (if (v3 = 0) then (if (40 ≤ (zf h 72 5)) then h else (zp (zs (zs h 75 (zf h 72 5) v4) 76 (zf h 72 5) 0) 72 5 ((zf h 72 5) + 1))) else h)) else (zs (if (w0 = 0) then h else (if (v3 = 0) then (if (40 ≤ (zf h 72 5)) then h else (zp (zs (zs h 75 (zf h 72 5) v4) 76 (zf h 72 5) 0) 72 5 ((zf h 72 5) + 1))) else h)) 76 ((zf (if (w0 = 0) then h else (if (v3 = 0) then (if (40 ≤ (zf h 72 5)) then h else (zp (zs (zs h 75 (zf h 72 5) v4) 76 (zf h 72 5) 0) 72 5 ((zf h 72 5) + 1))) else h)) 72 5) - 1) ((zr (if (w0 = 0) then h else (if (v3 = 0) then (if (40 ≤ (zf h 72 5)) then h else (zp (zs (zs h 75 (zf h 72 5) v4) 76 (zf h 72 5) 0) 72 5 ((zf h 72 5) + 1))) else h)) 76 ((zf (if (w0 = 0) then h else (if (v3 = 0) then (if (40 ≤ (zf h 72 5)) then h else (zp (zs (zs h 75 (zf h 72 5) v4) 76 (zf h 72 5) 0) 72 5 ((zf h 72 5) + 1))) else h)) 72 5) - 1)) + 1)))) = (if (w0 = 0) then h else (if (v3 = 0) then (if (40 ≤ (zf h 72 5)) then h else (zp (zs (zs h 75 (zf h 72 5) v4) 76 (zf h 72 5) 0) 72 5 ((zf h 72 5) + 1))) else h)) from if_pos hc] at K150
      exact K150 hs
    · have ho := hom.2 hc
      rw [show (if (w0 = 0) then (if (w0 = 0) then h else (if (v3 = 0) then (if (40 ≤ (zf h 72 5)) then h else (zp (zs (zs h 75 (zf h 72 5) v4) 76 (zf h 72 5) 0) 72 5 ((zf h 72 5) + 1))) else h)) else (if ((zf (if (w0 = 0) then h else (if (v3 = 0) then (if (40 ≤ (zf h 72 5)) then h else (zp (zs (zs h 75 (zf h 72 5) v4) 76 (zf h 72 5) 0) 72 5 ((zf h 72 5) + 1))) else h)) 72 5) ≤ 0) then (if (w0 = 0) then h else (if (v3 = 0) then (if (40 ≤ (zf h 72 5)) then h else (zp (zs (zs h 75 (zf h 72 5) v4) 76 (zf h 72 5) 0) 72 5 ((zf h 72 5) + 1))) else h)) else (zs (if (w0 = 0) then h else (if (v3 = 0) then (if (40 ≤ (zf h 72 5)) then h else (zp (zs (zs h 75 (zf h 72 5) v4) 76 (zf h 72 5) 0) 72 5 ((zf h 72 5) + 1))) else h)) 76 ((zf (if (w0 = 0) then h else (if (v3 = 0) then (if (40 ≤ (zf h 72 5)) then h else (zp (zs (zs h 75 (zf h 72 5) v4) 76 (zf h 72 5) 0) 72 5 ((zf h 72 5) + 1))) else h)) 72 5) - 1) ((zr (if (w0 = 0) then h else (if (v3 = 0) then (if (40 ≤ (zf h 72 5)) then h else (zp (zs (zs h 75 (zf h 72 5) v4) 76 (zf h 72 5) 0) 72 5 ((zf h 72 5) + 1))) else h)) 76 ((zf (if (w0 = 0) then h else (if (v3 = 0) then (if (40 ≤ (zf h 72 5)) then h else (zp (zs (zs h 75 (zf h 72 5) v4) 76 (zf h 72 5) 0) 72 5 ((zf h 72 5) + 1))) else h)) 72 5) - 1)) + 1)))) = (if ((zf (if (w0 = 0) then h else (if (v3 = 0) then (if (40 ≤ (zf h 72 5)) then h else (zp (zs (zs h 75 (zf h 72 5) v4) 76 (zf h 72 5) 0) 72 5 ((zf h 72 5) + 1))) else h)) 72 5) ≤ 0) then (if (w0 = 0) then h else (if (v3 = 0) then (if (40 ≤ (zf h 72 5)) then h else (zp (zs (zs h 75 (zf h 72 5) v4) 76 (zf h 72 5) 0) 72 5 ((zf h 72 5) + 1))) else h)) else (zs (if (w0 = 0) then h else (if (v3 = 0) then (if (40 ≤ (zf h 72 5)) then h else (zp (zs (zs h 75 (zf h 72 5) v4) 76 (zf h 72 5) 0) 72 5 ((zf h 72 5) + 1))) else h)) 76 ((zf (if (w0 = 0) then h else (if (v3 = 0) then (if (40 ≤ (zf h 72 5)) then h else (zp (zs (zs h 75 (zf h 72 5) v4) 76 (zf h 72 5) 0) 72 5 ((zf h 72 5) + 1))) else h)) 72 5) - 1) ((zr (if (w0 = 0) then h else (if (v3 = 0) then (if (40 ≤ (zf h 72 5)) then h else (zp (zs (zs h 75 (zf h 72 5) v4) 76 (zf h 72 5) 0) 72 5 ((zf h 72 5) + 1))) else h)) 76 ((zf (if (w0 = 0) then h else (if (v3 = 0) then (if (40 ≤ (zf h 72 5)) then h else (zp (zs (zs h 75 (zf h 72 5) v4) 76 (zf h 72 5) 0) 72 5 ((zf h 72 5) + 1))) else h)) 72 5) - 1)) + 1))) from if_neg hc] at K150
      refine zg_blk zd_59 2 hs (rfl : zb x zT0 zc_59 2 (100, [some (.ref 72), some (.int v1), some (.int v2), some (.int v3), some (.int v4), some (.int w0)], [], (if (w0 = 0) then h else (if (v3 = 0) then (if (40 ≤ (zf h 72 5)) then h else (zp (zs (zs h 75 (zf h 72 5) v4) 76 (zf h 72 5) 0) 72 5 ((zf h 72 5) + 1))) else h))) = some (104, [some (.ref 72), some (.int v1), some (.int v2), some (.int v3), some (.int v4), some (.int w0)], [.int (zf (if (w0 = 0) then h else (if (v3 = 0) then (if (40 ≤ (zf h 72 5)) then h else (zp (zs (zs h 75 (zf h 72 5) v4) 76 (zf h 72 5) 0) 72 5 ((zf h 72 5) + 1))) else h)) 72 5)], (if (w0 = 0) then h else (if (v3 = 0) then (if (40 ≤ (zf h 72 5)) then h else (zp (zs (zs h 75 (zf h 72 5) v4) 76 (zf h 72 5) 0) 72 5 ((zf h 72 5) + 1))) else h)))) (fun hs => ?_)
      refine zg_f_le zd_59 rfl (fun (hc : ((zf (if (w0 = 0) then h else (if (v3 = 0) then (if (40 ≤ (zf h 72 5)) then h else (zp (zs (zs h 75 (zf h 72 5) v4) 76 (zf h 72 5) 0) 72 5 ((zf h 72 5) + 1))) else h)) 72 5) ≤ 0)) => ?_) (fun (hc : ¬ ((zf (if (w0 = 0) then h else (if (v3 = 0) then (if (40 ≤ (zf h 72 5)) then h else (zp (zs (zs h 75 (zf h 72 5) v4) 76 (zf h 72 5) 0) 72 5 ((zf h 72 5) + 1))) else h)) 72 5) ≤ 0)) => ?_)
      · have ho := ho.1 hc
        rw [show (if ((zf (if (w0 = 0) then h else (if (v3 = 0) then (if (40 ≤ (zf h 72 5)) then h else (zp (zs (zs h 75 (zf h 72 5) v4) 76 (zf h 72 5) 0) 72 5 ((zf h 72 5) + 1))) else h)) 72 5) ≤ 0) then (if (w0 = 0) then h else (if (v3 = 0) then (if (40 ≤ (zf h 72 5)) then h else (zp (zs (zs h 75 (zf h 72 5) v4) 76 (zf h 72 5) 0) 72 5 ((zf h 72 5) + 1))) else h)) else (zs (if (w0 = 0) then h else (if (v3 = 0) then (if (40 ≤ (zf h 72 5)) then h else (zp (zs (zs h 75 (zf h 72 5) v4) 76 (zf h 72 5) 0) 72 5 ((zf h 72 5) + 1))) else h)) 76 ((zf (if (w0 = 0) then h else (if (v3 = 0) then (if (40 ≤ (zf h 72 5)) then h else (zp (zs (zs h 75 (zf h 72 5) v4) 76 (zf h 72 5) 0) 72 5 ((zf h 72 5) + 1))) else h)) 72 5) - 1) ((zr (if (w0 = 0) then h else (if (v3 = 0) then (if (40 ≤ (zf h 72 5)) then h else (zp (zs (zs h 75 (zf h 72 5) v4) 76 (zf h 72 5) 0) 72 5 ((zf h 72 5) + 1))) else h)) 76 ((zf (if (w0 = 0) then h else (if (v3 = 0) then (if (40 ≤ (zf h 72 5)) then h else (zp (zs (zs h 75 (zf h 72 5) v4) 76 (zf h 72 5) 0) 72 5 ((zf h 72 5) + 1))) else h)) 72 5) - 1)) + 1))) = (if (w0 = 0) then h else (if (v3 = 0) then (if (40 ≤ (zf h 72 5)) then h else (zp (zs (zs h 75 (zf h 72 5) v4) 76 (zf h 72 5) 0) 72 5 ((zf h 72 5) + 1))) else h)) from if_pos hc] at K150
        exact K150 hs
      · have ho := ho.2 hc
        rw [show (if ((zf (if (w0 = 0) then h else (if (v3 = 0) then (if (40 ≤ (zf h 72 5)) then h else (zp (zs (zs h 75 (zf h 72 5) v4) 76 (zf h 72 5) 0) 72 5 ((zf h 72 5) + 1))) else h)) 72 5) ≤ 0) then (if (w0 = 0) then h else (if (v3 = 0) then (if (40 ≤ (zf h 72 5)) then h else (zp (zs (zs h 75 (zf h 72 5) v4) 76 (zf h 72 5) 0) 72 5 ((zf h 72 5) + 1))) else h)) else (zs (if (w0 = 0) then h else (if (v3 = 0) then (if (40 ≤ (zf h 72 5)) then h else (zp (zs (zs h 75 (zf h 72 5) v4) 76 (zf h 72 5) 0) 72 5 ((zf h 72 5) + 1))) else h)) 76 ((zf (if (w0 = 0) then h else (if (v3 = 0) then (if (40 ≤ (zf h 72 5)) then h else (zp (zs (zs h 75 (zf h 72 5) v4) 76 (zf h 72 5) 0) 72 5 ((zf h 72 5) + 1))) else h)) 72 5) - 1) ((zr (if (w0 = 0) then h else (if (v3 = 0) then (if (40 ≤ (zf h 72 5)) then h else (zp (zs (zs h 75 (zf h 72 5) v4) 76 (zf h 72 5) 0) 72 5 ((zf h 72 5) + 1))) else h)) 76 ((zf (if (w0 = 0) then h else (if (v3 = 0) then (if (40 ≤ (zf h 72 5)) then h else (zp (zs (zs h 75 (zf h 72 5) v4) 76 (zf h 72 5) 0) 72 5 ((zf h 72 5) + 1))) else h)) 72 5) - 1)) + 1))) = (zs (if (w0 = 0) then h else (if (v3 = 0) then (if (40 ≤ (zf h 72 5)) then h else (zp (zs (zs h 75 (zf h 72 5) v4) 76 (zf h 72 5) 0) 72 5 ((zf h 72 5) + 1))) else h)) 76 ((zf (if (w0 = 0) then h else (if (v3 = 0) then (if (40 ≤ (zf h 72 5)) then h else (zp (zs (zs h 75 (zf h 72 5) v4) 76 (zf h 72 5) 0) 72 5 ((zf h 72 5) + 1))) else h)) 72 5) - 1) ((zr (if (w0 = 0) then h else (if (v3 = 0) then (if (40 ≤ (zf h 72 5)) then h else (zp (zs (zs h 75 (zf h 72 5) v4) 76 (zf h 72 5) 0) 72 5 ((zf h 72 5) + 1))) else h)) 76 ((zf (if (w0 = 0) then h else (if (v3 = 0) then (if (40 ≤ (zf h 72 5)) then h else (zp (zs (zs h 75 (zf h 72 5) v4) 76 (zf h 72 5) 0) 72 5 ((zf h 72 5) + 1))) else h)) 72 5) - 1)) + 1)) from if_neg hc] at K150
        refine zg_blk zd_59 7 hs (rfl : zb x zT0 zc_59 7 (107, [some (.ref 72), some (.int v1), some (.int v2), some (.int v3), some (.int v4), some (.int w0)], [], (if (w0 = 0) then h else (if (v3 = 0) then (if (40 ≤ (zf h 72 5)) then h else (zp (zs (zs h 75 (zf h 72 5) v4) 76 (zf h 72 5) 0) 72 5 ((zf h 72 5) + 1))) else h))) = some (118, [some (.ref 72), some (.int v1), some (.int v2), some (.int v3), some (.int v4), some (.int w0)], [.int ((zf (if (w0 = 0) then h else (if (v3 = 0) then (if (40 ≤ (zf h 72 5)) then h else (zp (zs (zs h 75 (zf h 72 5) v4) 76 (zf h 72 5) 0) 72 5 ((zf h 72 5) + 1))) else h)) 72 5) - 1), .ref 76, .int ((zf (if (w0 = 0) then h else (if (v3 = 0) then (if (40 ≤ (zf h 72 5)) then h else (zp (zs (zs h 75 (zf h 72 5) v4) 76 (zf h 72 5) 0) 72 5 ((zf h 72 5) + 1))) else h)) 72 5) - 1), .ref 76], (if (w0 = 0) then h else (if (v3 = 0) then (if (40 ≤ (zf h 72 5)) then h else (zp (zs (zs h 75 (zf h 72 5) v4) 76 (zf h 72 5) 0) 72 5 ((zf h 72 5) + 1))) else h)))) (fun hs => ?_)
        obtain ⟨hob, ho⟩ := ho
        refine zg_ial hs zd_59 rfl rfl hob ?_
        refine zg_blk zd_59 2 hs (rfl : zb x zT0 zc_59 2 (119, [some (.ref 72), some (.int v1), some (.int v2), some (.int v3), some (.int v4), some (.int w0)], [.int (zr (if (w0 = 0) then h else (if (v3 = 0) then (if (40 ≤ (zf h 72 5)) then h else (zp (zs (zs h 75 (zf h 72 5) v4) 76 (zf h 72 5) 0) 72 5 ((zf h 72 5) + 1))) else h)) 76 ((zf (if (w0 = 0) then h else (if (v3 = 0) then (if (40 ≤ (zf h 72 5)) then h else (zp (zs (zs h 75 (zf h 72 5) v4) 76 (zf h 72 5) 0) 72 5 ((zf h 72 5) + 1))) else h)) 72 5) - 1)), .int ((zf (if (w0 = 0) then h else (if (v3 = 0) then (if (40 ≤ (zf h 72 5)) then h else (zp (zs (zs h 75 (zf h 72 5) v4) 76 (zf h 72 5) 0) 72 5 ((zf h 72 5) + 1))) else h)) 72 5) - 1), .ref 76], (if (w0 = 0) then h else (if (v3 = 0) then (if (40 ≤ (zf h 72 5)) then h else (zp (zs (zs h 75 (zf h 72 5) v4) 76 (zf h 72 5) 0) 72 5 ((zf h 72 5) + 1))) else h))) = some (121, [some (.ref 72), some (.int v1), some (.int v2), some (.int v3), some (.int v4), some (.int w0)], [.int ((zr (if (w0 = 0) then h else (if (v3 = 0) then (if (40 ≤ (zf h 72 5)) then h else (zp (zs (zs h 75 (zf h 72 5) v4) 76 (zf h 72 5) 0) 72 5 ((zf h 72 5) + 1))) else h)) 76 ((zf (if (w0 = 0) then h else (if (v3 = 0) then (if (40 ≤ (zf h 72 5)) then h else (zp (zs (zs h 75 (zf h 72 5) v4) 76 (zf h 72 5) 0) 72 5 ((zf h 72 5) + 1))) else h)) 72 5) - 1)) + 1), .int ((zf (if (w0 = 0) then h else (if (v3 = 0) then (if (40 ≤ (zf h 72 5)) then h else (zp (zs (zs h 75 (zf h 72 5) v4) 76 (zf h 72 5) 0) 72 5 ((zf h 72 5) + 1))) else h)) 72 5) - 1), .ref 76], (if (w0 = 0) then h else (if (v3 = 0) then (if (40 ≤ (zf h 72 5)) then h else (zp (zs (zs h 75 (zf h 72 5) v4) 76 (zf h 72 5) 0) 72 5 ((zf h 72 5) + 1))) else h)))) (fun hs => ?_)
        have hob := ho
        refine zg_ias hs zd_59 rfl rfl hob (fun hs => ?_)
        exact K150 hs
  refine zg_f_eq zd_59 rfl (fun (hc : (w0 = 0)) => ?_) (fun (hc : ¬ (w0 = 0)) => ?_)
  · have ho := hom.1 hc
    rw [show (if (w0 = 0) then h else (if (v3 = 0) then (if (40 ≤ (zf h 72 5)) then h else (zp (zs (zs h 75 (zf h 72 5) v4) 76 (zf h 72 5) 0) 72 5 ((zf h 72 5) + 1))) else h)) = h from if_pos hc] at K149
    exact K149 hs
  · have ho := hom.2 hc
    rw [show (if (w0 = 0) then h else (if (v3 = 0) then (if (40 ≤ (zf h 72 5)) then h else (zp (zs (zs h 75 (zf h 72 5) v4) 76 (zf h 72 5) 0) 72 5 ((zf h 72 5) + 1))) else h)) = (if (v3 = 0) then (if (40 ≤ (zf h 72 5)) then h else (zp (zs (zs h 75 (zf h 72 5) v4) 76 (zf h 72 5) 0) 72 5 ((zf h 72 5) + 1))) else h) from if_neg hc] at K149
    refine zg_blk zd_59 1 hs (rfl : zb x zT0 zc_59 1 (51, [some (.ref 72), some (.int v1), some (.int v2), some (.int v3), some (.int v4), some (.int w0)], [], h) = some (52, [some (.ref 72), some (.int v1), some (.int v2), some (.int v3), some (.int v4), some (.int w0)], [.int v3], h)) (fun hs => ?_)
    refine zg_f_ne zd_59 rfl (fun (hc : ¬ (v3 = 0)) => ?_) (fun (hc : (v3 = 0)) => ?_)
    · have ho := ho.2 hc
      rw [show (if (v3 = 0) then (if (40 ≤ (zf h 72 5)) then h else (zp (zs (zs h 75 (zf h 72 5) v4) 76 (zf h 72 5) 0) 72 5 ((zf h 72 5) + 1))) else h) = h from if_neg hc] at K149
      exact K149 hs
    · have ho := ho.1 hc
      rw [show (if (v3 = 0) then (if (40 ≤ (zf h 72 5)) then h else (zp (zs (zs h 75 (zf h 72 5) v4) 76 (zf h 72 5) 0) 72 5 ((zf h 72 5) + 1))) else h) = (if (40 ≤ (zf h 72 5)) then h else (zp (zs (zs h 75 (zf h 72 5) v4) 76 (zf h 72 5) 0) 72 5 ((zf h 72 5) + 1))) from if_pos hc] at K149
      refine zg_blk zd_59 3 hs (rfl : zb x zT0 zc_59 3 (55, [some (.ref 72), some (.int v1), some (.int v2), some (.int v3), some (.int v4), some (.int w0)], [], h) = some (61, [some (.ref 72), some (.int v1), some (.int v2), some (.int v3), some (.int v4), some (.int w0)], [.int 40, .int (zf h 72 5)], h)) (fun hs => ?_)
      refine zg_i_ge zd_59 rfl (fun (hc : (40 ≤ (zf h 72 5))) => ?_) (fun (hc : ¬ (40 ≤ (zf h 72 5))) => ?_)
      · have ho := ho.1 hc
        rw [show (if (40 ≤ (zf h 72 5)) then h else (zp (zs (zs h 75 (zf h 72 5) v4) 76 (zf h 72 5) 0) 72 5 ((zf h 72 5) + 1))) = h from if_pos hc] at K149
        exact K149 hs
      · have ho := ho.2 hc
        rw [show (if (40 ≤ (zf h 72 5)) then h else (zp (zs (zs h 75 (zf h 72 5) v4) 76 (zf h 72 5) 0) 72 5 ((zf h 72 5) + 1))) = (zp (zs (zs h 75 (zf h 72 5) v4) 76 (zf h 72 5) 0) 72 5 ((zf h 72 5) + 1)) from if_neg hc] at K149
        refine zg_blk zd_59 5 hs (rfl : zb x zT0 zc_59 5 (64, [some (.ref 72), some (.int v1), some (.int v2), some (.int v3), some (.int v4), some (.int w0)], [], h) = some (74, [some (.ref 72), some (.int v1), some (.int v2), some (.int v3), some (.int v4), some (.int w0)], [.int v4, .int (zf h 72 5), .ref 75], h)) (fun hs => ?_)
        obtain ⟨hob, ho⟩ := ho
        refine zg_ias hs zd_59 rfl rfl hob (fun hs => ?_)
        refine zg_blk zd_59 5 hs (rfl : zb x zT0 zc_59 5 (75, [some (.ref 72), some (.int v1), some (.int v2), some (.int v3), some (.int v4), some (.int w0)], [], (zs h 75 (zf h 72 5) v4)) = some (84, [some (.ref 72), some (.int v1), some (.int v2), some (.int v3), some (.int v4), some (.int w0)], [.int 0, .int (zf h 72 5), .ref 76], (zs h 75 (zf h 72 5) v4))) (fun hs => ?_)
        have hob := ho
        refine zg_ias hs zd_59 rfl rfl hob (fun hs => ?_)
        refine zg_blk zd_59 6 hs (rfl : zb x zT0 zc_59 6 (85, [some (.ref 72), some (.int v1), some (.int v2), some (.int v3), some (.int v4), some (.int w0)], [], (zs (zs h 75 (zf h 72 5) v4) 76 (zf h 72 5) 0)) = some (95, [some (.ref 72), some (.int v1), some (.int v2), some (.int v3), some (.int v4), some (.int w0)], [], (zp (zs (zs h 75 (zf h 72 5) v4) 76 (zf h 72 5) 0) 72 5 ((zf h 72 5) + 1)))) (fun hs => ?_)
        exact K149 hs
set_option maxRecDepth 100000 in
set_option maxHeartbeats 400000 in
theorem f_Planner_findWindows_l10_b_t {x : zm_X} {d : Nat} (v1 : Int32) (v2 : Int32) (v3 : Int32) (v4 : Int32) (h : zm_H) (o5 : Option Value) {Q : Option Value → zm_H → Prop} {FN : Nat × Int32 × Int32 × zm_H → Prop} (hs : zSh zT0 h) (ho : f_Planner_findWindows_l10_b_ok v1 v2 v3 v4 h) (hF : FN (f_Planner_findWindows_l10_b v1 v2 v3 v4 h)) (hl0 : ∀ (v3 : Int32) (v4 : Int32) (h : zm_H) (o5 : Option Value), zSh zT0 h → FN (0, v3, v4, h) → zg x (d + 5) 59 10 [some (.ref 72), some (.int v1), some (.int v2), some (.int v3), some (.int v4), o5] [] h Q) (hl1 : ∀ (v3 : Int32) (v4 : Int32) (h : zm_H) (o3 : Option Value) (o4 : Option Value) (o5 : Option Value), zSh zT0 h → FN (1, v3, v4, h) → zg x (d + 5) 59 131 [some (.ref 72), some (.int v1), some (.int v2), o3, o4, o5] [] h Q) : zg x (d + 5) 59 10 [some (.ref 72), some (.int v1), some (.int v2), some (.int v3), some (.int v4), o5] [] h Q := by
  unfold f_Planner_findWindows_l10_b at hF
  unfold f_Planner_findWindows_l10_b_ok at ho
  refine zg_blk zd_59 4 hs (rfl : zb x zT0 zc_59 4 (10, [some (.ref 72), some (.int v1), some (.int v2), some (.int v3), some (.int v4), o5], [], h) = some (15, [some (.ref 72), some (.int v1), some (.int v2), some (.int v3), some (.int v4), o5], [.int (v1 + v2), .int v4], h)) (fun hs => ?_)
  refine zg_i_ge zd_59 rfl (fun (hc : ((v1 + v2) ≤ v4)) => ?_) (fun (hc : ¬ ((v1 + v2) ≤ v4)) => ?_)
  · have ho := ho.1 hc
    rw [if_pos hc] at hF
    exact hl1 v3 v4 h (some (.int v3)) (some (.int v4)) (o5) hs hF
  · have ho := ho.2 hc
    rw [if_neg hc] at hF
    refine zg_blk zd_59 2 hs (rfl : zb x zT0 zc_59 2 (18, [some (.ref 72), some (.int v1), some (.int v2), some (.int v3), some (.int v4), o5], [], h) = some (23, [some (.ref 72), some (.int v1), some (.int v2), some (.int v3), some (.int v4), o5], [.int 480, .int v4], h)) (fun hs => ?_)
    refine zg_i_ge zd_59 rfl (fun (hc : (480 ≤ v4)) => ?_) (fun (hc : ¬ (480 ≤ v4)) => ?_)
    · have ho := ho.1 hc
      rw [if_pos hc] at hF
      exact hl1 v3 v4 h (some (.int v3)) (some (.int v4)) (o5) hs hF
    · have ho := ho.2 hc
      rw [if_neg hc] at hF
      refine zg_blk zd_59 6 hs (rfl : zb x zT0 zc_59 6 (26, [some (.ref 72), some (.int v1), some (.int v2), some (.int v3), some (.int v4), o5], [], h) = some (38, [some (.ref 72), some (.int v1), some (.int v2), some (.int v3), some (.int v4), o5], [.int v4, .ref 1, .int v4, .ref 15], h)) (fun hs => ?_)
      obtain ⟨hob, ho⟩ := ho
      refine zg_call hs zd_59 rfl rfl rfl rfl (as := [.ref 1, .int v4]) (rest := [.int v4, .ref 15]) (en := [some (.ref 1), some (.int v4)]) rfl rfl rfl rfl rfl ?_
      refine f_Swell_lookNow_t v4 h hs hob ?_
      show zg x (d + 5) 59 41 [some (.ref 72), some (.int v1), some (.int v2), some (.int v3), some (.int v4), o5] [.int (f_Swell_lookNow v4 h), .int v4, .ref 15] h Q
      obtain ⟨hob, ho⟩ := ho
      refine zg_call hs zd_59 rfl rfl rfl rfl (as := [.ref 15, .int v4, .int (f_Swell_lookNow v4 h)]) (rest := []) (en := [some (.ref 15), some (.int v4), some (.int (f_Swell_lookNow v4 h)), none]) rfl rfl rfl rfl rfl ?_
      refine f_Rules_letsBoatsOut_t v4 (f_Swell_lookNow v4 h) h hs hob (fun hs => ?_)
      show zg x (d + 5) 59 44 [some (.ref 72), some (.int v1), some (.int v2), some (.int v3), some (.int v4), o5] [.int (f_Rules_letsBoatsOut v4 (f_Swell_lookNow v4 h) h).1] (f_Rules_letsBoatsOut v4 (f_Swell_lookNow v4 h) h).2 Q
      exact f_Planner_findWindows_l10_k44_t v1 v2 v3 v4 (f_Rules_letsBoatsOut v4 (f_Swell_lookNow v4 h) h).1 (f_Rules_letsBoatsOut v4 (f_Swell_lookNow v4 h) h).2 (o5) hs ho hF hl0 hl1
theorem f_Planner_findWindows_l10_t {x : zm_X} {d : Nat} (v1 : Int32) (v2 : Int32) {Q : Option Value → zm_H → Prop} (G : Nat × Int32 × Int32 × zm_H → Prop) (hx1 : ∀ (v3 : Int32) (v4 : Int32) (h : zm_H) (o3 : Option Value) (o4 : Option Value) (o5 : Option Value), zSh zT0 h → G (1, v3, v4, h) → zg x (d + 5) 59 131 [some (.ref 72), some (.int v1), some (.int v2), o3, o4, o5] [] h Q) : ∀ (n : Nat) (v3 : Int32) (v4 : Int32) (h : zm_H) (o5 : Option Value), zSh zT0 h → f_Planner_findWindows_l10_ok v1 v2 n (v3, v4, h) → G (f_Planner_findWindows_l10 v1 v2 n (v3, v4, h)) → zg x (d + 5) 59 10 [some (.ref 72), some (.int v1), some (.int v2), some (.int v3), some (.int v4), o5] [] h Q := by
  intro n
  induction n with
  | zero => intro v3 v4 h o5 hs ho hG; exact ho.elim
  | succ n ih =>
    intro v3 v4 h o5 hs ho hG
    refine f_Planner_findWindows_l10_b_t (FN := fun r => (r.1 = 0 → f_Planner_findWindows_l10_ok v1 v2 n r.2) ∧ G (if r.1 = 0 then f_Planner_findWindows_l10 v1 v2 n r.2 else r)) v1 v2 v3 v4 h o5 hs ho.1 ⟨ho.2, hG⟩ ?_ ?_
    · intro v3 v4 h o5 hs hF
      exact ih v3 v4 h o5 hs (hF.1 rfl) hF.2
    · intro v3 v4 h o3 o4 o5 hs hF
      exact hx1 v3 v4 h o3 o4 o5 hs hF.2

set_option maxRecDepth 100000 in
set_option maxHeartbeats 400000 in
theorem f_Planner_findWindows_k131_t {x : zm_X} {d : Nat} (h : zm_H) (o0 : Option Value) (o1 : Option Value) (z2 : Int32) (o3 : Option Value) (o4 : Option Value) (o5 : Option Value) {Q : Option Value → zm_H → Prop} (hs : zSh zT0 h) (ho : f_Planner_findWindows_k131_ok h) (hF : (zSh zT0 (f_Planner_findWindows_k131 h) → Q none (f_Planner_findWindows_k131 h))) : zg x (d + 5) 59 131 [o0, o1, some (.int z2), o3, o4, o5] [] h Q := by
  unfold f_Planner_findWindows_k131 at hF
  unfold f_Planner_findWindows_k131_ok at ho
  exact zg_ret zd_59 rfl rfl (hF hs)
set_option maxRecDepth 100000 in
set_option maxHeartbeats 400000 in
theorem f_Planner_findWindows_t {x : zm_X} {d : Nat} (p1 : Int32) (p2 : Int32) (h : zm_H) {Q : Option Value → zm_H → Prop} (hs : zSh zT0 h) (ho : f_Planner_findWindows_ok p1 p2 h) (hF : (zSh zT0 (f_Planner_findWindows p1 p2 h) → Q none (f_Planner_findWindows p1 p2 h))) : zg x (d + 5) 59 0 [some (.ref 72), some (.int p1), some (.int p2), none, none, none] [] h Q := by
  unfold f_Planner_findWindows at hF
  unfold f_Planner_findWindows_ok at ho
  refine zg_blk zd_59 7 hs (rfl : zb x zT0 zc_59 7 (0, [some (.ref 72), some (.int p1), some (.int p2), none, none, none], [], h) = some (10, [some (.ref 72), some (.int p1), some (.int p2), some (.int 0), some (.int p1), none], [], (zp h 72 5 0))) (fun hs => ?_)
  refine f_Planner_findWindows_l10_t p1 p2 (fun r => f_Planner_findWindows_a10_ok r ∧ (zSh zT0 (f_Planner_findWindows_a10 r) → Q none (f_Planner_findWindows_a10 r))) ?_ zF 0 p1 (zp h 72 5 0) (none) hs ho.1 ⟨ho.2, hF⟩
  · intro v3_ v4_ h_ o3_ o4_ o5_ hs hG
    have ho : True := trivial
    have hF : (zSh zT0 ((f_Planner_findWindows_k131 h_)) → Q none ((f_Planner_findWindows_k131 h_))) := hG.2
    exact f_Planner_findWindows_k131_t h_ (some (.ref 72)) (some (.int p1)) p2 (o3_) (o4_) (o5_) hs trivial hF
theorem zd_60 : zm_cd 60 = zc_60 := by rfl
set_option maxRecDepth 100000 in
set_option maxHeartbeats 400000 in
theorem f_Planner_ofWindow_t {x : zm_X} {d : Nat} (p1 : Int32) (p2 : Int32) (h : zm_H) {Q : Option Value → zm_H → Prop} (hs : zSh zT0 h) (ho : f_Planner_ofWindow_ok p1 p2 h) (hF : Q (some (.int (f_Planner_ofWindow p1 p2 h))) h) : zg x (d + 1) 60 0 [some (.ref 72), some (.int p1), some (.int p2)] [] h Q := by
  unfold f_Planner_ofWindow at hF
  unfold f_Planner_ofWindow_ok at ho
  refine zg_blk zd_60 1 hs (rfl : zb x zT0 zc_60 1 (0, [some (.ref 72), some (.int p1), some (.int p2)], [], h) = some (1, [some (.ref 72), some (.int p1), some (.int p2)], [.int p1], h)) (fun hs => ?_)
  refine zg_f_lt zd_60 rfl (fun (hc : (p1 < 0)) => ?_) (fun (hc : ¬ (p1 < 0)) => ?_)
  · have ho := ho.1 hc
    rw [show ((if (p1 < 0) then ((-1) : Int32) else (if (p1 < (zf h 72 5)) then ((if (p2 = 0) then ((zr h 75 p1) : Int32) else (if (p2 = 1) then ((zr h 76 p1) : Int32) else (-1))) : Int32) else (-1))) : Int32) = (-1) from if_pos hc] at hF
    refine zg_blk zd_60 1 hs (rfl : zb x zT0 zc_60 1 (12, [some (.ref 72), some (.int p1), some (.int p2)], [], h) = some (13, [some (.ref 72), some (.int p1), some (.int p2)], [.int (-1)], h)) (fun hs => ?_)
    exact zg_ret zd_60 rfl rfl hF
  · have ho := ho.2 hc
    rw [show ((if (p1 < 0) then ((-1) : Int32) else (if (p1 < (zf h 72 5)) then ((if (p2 = 0) then ((zr h 75 p1) : Int32) else (if (p2 = 1) then ((zr h 76 p1) : Int32) else (-1))) : Int32) else (-1))) : Int32) = (if (p1 < (zf h 72 5)) then ((if (p2 = 0) then ((zr h 75 p1) : Int32) else (if (p2 = 1) then ((zr h 76 p1) : Int32) else (-1))) : Int32) else (-1)) from if_neg hc] at hF
    refine zg_blk zd_60 3 hs (rfl : zb x zT0 zc_60 3 (4, [some (.ref 72), some (.int p1), some (.int p2)], [], h) = some (9, [some (.ref 72), some (.int p1), some (.int p2)], [.int (zf h 72 5), .int p1], h)) (fun hs => ?_)
    refine zg_i_lt zd_60 rfl (fun (hc : (p1 < (zf h 72 5))) => ?_) (fun (hc : ¬ (p1 < (zf h 72 5))) => ?_)
    · have ho := ho.1 hc
      rw [show ((if (p1 < (zf h 72 5)) then ((if (p2 = 0) then ((zr h 75 p1) : Int32) else (if (p2 = 1) then ((zr h 76 p1) : Int32) else (-1))) : Int32) else (-1)) : Int32) = (if (p2 = 0) then ((zr h 75 p1) : Int32) else (if (p2 = 1) then ((zr h 76 p1) : Int32) else (-1))) from if_pos hc] at hF
      refine zg_blk zd_60 1 hs (rfl : zb x zT0 zc_60 1 (14, [some (.ref 72), some (.int p1), some (.int p2)], [], h) = some (15, [some (.ref 72), some (.int p1), some (.int p2)], [.int p2], h)) (fun hs => ?_)
      have hom := ho
      have K151 : zSh zT0 h → zg x (d + 1) 60 42 [some (.ref 72), some (.int p1), some (.int p2)] [.int (if (p2 = 0) then ((zr h 75 p1) : Int32) else (if (p2 = 1) then ((zr h 76 p1) : Int32) else (-1)))] h Q := fun hs => by
        exact zg_ret zd_60 rfl rfl hF
      refine zg_f_ne zd_60 rfl (fun (hc : ¬ (p2 = 0)) => ?_) (fun (hc : (p2 = 0)) => ?_)
      · have ho := hom.2 hc
        rw [show ((if (p2 = 0) then ((zr h 75 p1) : Int32) else (if (p2 = 1) then ((zr h 76 p1) : Int32) else (-1))) : Int32) = (if (p2 = 1) then ((zr h 76 p1) : Int32) else (-1)) from if_neg hc] at K151
        refine zg_blk zd_60 2 hs (rfl : zb x zT0 zc_60 2 (27, [some (.ref 72), some (.int p1), some (.int p2)], [], h) = some (29, [some (.ref 72), some (.int p1), some (.int p2)], [.int 1, .int p2], h)) (fun hs => ?_)
        refine zg_i_ne zd_60 rfl (fun (hc : ¬ (p2 = 1)) => ?_) (fun (hc : (p2 = 1)) => ?_)
        · have ho := ho.2 hc
          rw [show ((if (p2 = 1) then ((zr h 76 p1) : Int32) else (-1)) : Int32) = (-1) from if_neg hc] at K151
          refine zg_blk zd_60 1 hs (rfl : zb x zT0 zc_60 1 (41, [some (.ref 72), some (.int p1), some (.int p2)], [], h) = some (42, [some (.ref 72), some (.int p1), some (.int p2)], [.int (-1)], h)) (fun hs => ?_)
          exact K151 hs
        · have ho := ho.1 hc
          rw [show ((if (p2 = 1) then ((zr h 76 p1) : Int32) else (-1)) : Int32) = (zr h 76 p1) from if_pos hc] at K151
          refine zg_blk zd_60 3 hs (rfl : zb x zT0 zc_60 3 (32, [some (.ref 72), some (.int p1), some (.int p2)], [], h) = some (37, [some (.ref 72), some (.int p1), some (.int p2)], [.int p1, .ref 76], h)) (fun hs => ?_)
          have hob := ho
          refine zg_ial hs zd_60 rfl rfl hob ?_
          refine zg_blk zd_60 1 hs (rfl : zb x zT0 zc_60 1 (38, [some (.ref 72), some (.int p1), some (.int p2)], [.int (zr h 76 p1)], h) = some (42, [some (.ref 72), some (.int p1), some (.int p2)], [.int (zr h 76 p1)], h)) (fun hs => ?_)
          exact K151 hs
      · have ho := hom.1 hc
        rw [show ((if (p2 = 0) then ((zr h 75 p1) : Int32) else (if (p2 = 1) then ((zr h 76 p1) : Int32) else (-1))) : Int32) = (zr h 75 p1) from if_pos hc] at K151
        refine zg_blk zd_60 3 hs (rfl : zb x zT0 zc_60 3 (18, [some (.ref 72), some (.int p1), some (.int p2)], [], h) = some (23, [some (.ref 72), some (.int p1), some (.int p2)], [.int p1, .ref 75], h)) (fun hs => ?_)
        have hob := ho
        refine zg_ial hs zd_60 rfl rfl hob ?_
        refine zg_blk zd_60 1 hs (rfl : zb x zT0 zc_60 1 (24, [some (.ref 72), some (.int p1), some (.int p2)], [.int (zr h 75 p1)], h) = some (42, [some (.ref 72), some (.int p1), some (.int p2)], [.int (zr h 75 p1)], h)) (fun hs => ?_)
        exact K151 hs
    · have ho := ho.2 hc
      rw [show ((if (p1 < (zf h 72 5)) then ((if (p2 = 0) then ((zr h 75 p1) : Int32) else (if (p2 = 1) then ((zr h 76 p1) : Int32) else (-1))) : Int32) else (-1)) : Int32) = (-1) from if_neg hc] at hF
      refine zg_blk zd_60 1 hs (rfl : zb x zT0 zc_60 1 (12, [some (.ref 72), some (.int p1), some (.int p2)], [], h) = some (13, [some (.ref 72), some (.int p1), some (.int p2)], [.int (-1)], h)) (fun hs => ?_)
      exact zg_ret zd_60 rfl rfl hF
set_option maxRecDepth 100000 in
set_option maxHeartbeats 400000 in
theorem f_N_window_k25_t {x : zm_X} {d : Nat} (v2 : Int32) (v3 : Int32) (h : zm_H) (o1 : Option Value) {Q : Option Value → zm_H → Prop} (hs : zSh zT0 h) (ho : f_N_window_k25_ok v2 v3 h) (hF : (zSh zT0 (f_N_window_k25 v2 v3 h).2 → Q (some (.int (f_N_window_k25 v2 v3 h).1)) (f_N_window_k25 v2 v3 h).2)) : zg x (d + 6) 160 25 [some (.ref 0), o1, some (.int v2), some (.int v3)] [] h Q := by
  unfold f_N_window_k25 at hF
  unfold f_N_window_k25_ok at ho
  refine zg_blk zd_160 4 hs (rfl : zb x zT0 zc_160 4 (25, [some (.ref 0), o1, some (.int v2), some (.int v3)], [], h) = some (31, [some (.ref 0), o1, some (.int v2), some (.int v3)], [.int v3, .int v2, .ref 72], h)) (fun hs => ?_)
  have hob := ho
  refine zg_call hs zd_160 rfl rfl rfl rfl (as := [.ref 72, .int v2, .int v3]) (rest := []) (en := [some (.ref 72), some (.int v2), some (.int v3)]) rfl rfl rfl rfl rfl ?_
  refine f_Planner_ofWindow_t v2 v3 h hs hob ?_
  show zg x (d + 6) 160 34 [some (.ref 0), o1, some (.int v2), some (.int v3)] [.int (f_Planner_ofWindow v2 v3 h)] h Q
  exact zg_ret zd_160 rfl rfl (hF hs)
set_option maxRecDepth 100000 in
set_option maxHeartbeats 400000 in
theorem f_N_window_t {x : zm_X} {d : Nat} (p1 : Int32) (p2 : Int32) (p3 : Int32) (h : zm_H) {Q : Option Value → zm_H → Prop} (hs : zSh zT0 h) (ho : f_N_window_ok p1 p2 p3 h) (hF : (zSh zT0 (f_N_window p1 p2 p3 h).2 → Q (some (.int (f_N_window p1 p2 p3 h).1)) (f_N_window p1 p2 p3 h).2)) : zg x (d + 6) 160 0 [some (.ref 0), some (.int p1), some (.int p2), some (.int p3)] [] h Q := by
  unfold f_N_window at hF
  unfold f_N_window_ok at ho
  refine zg_blk zd_160 2 hs (rfl : zb x zT0 zc_160 2 (0, [some (.ref 0), some (.int p1), some (.int p2), some (.int p3)], [], h) = some (2, [some (.ref 0), some (.int p1), some (.int p2), some (.int p3)], [.int 1, .int p1], h)) (fun hs => ?_)
  refine zg_i_lt zd_160 rfl (fun (hc : (p1 < 1)) => ?_) (fun (hc : ¬ (p1 < 1)) => ?_)
  · have ho := ho.1 hc
    rw [if_pos hc] at hF
    refine zg_blk zd_160 1 hs (rfl : zb x zT0 zc_160 1 (11, [some (.ref 0), some (.int p1), some (.int p2), some (.int p3)], [], h) = some (12, [some (.ref 0), some (.int p1), some (.int p2), some (.int p3)], [.int (-1)], h)) (fun hs => ?_)
    exact zg_ret zd_160 rfl rfl (hF hs)
  · have ho := ho.2 hc
    rw [if_neg hc] at hF
    refine zg_blk zd_160 2 hs (rfl : zb x zT0 zc_160 2 (5, [some (.ref 0), some (.int p1), some (.int p2), some (.int p3)], [], h) = some (8, [some (.ref 0), some (.int p1), some (.int p2), some (.int p3)], [.int 40, .int p1], h)) (fun hs => ?_)
    refine zg_i_le zd_160 rfl (fun (hc : (p1 ≤ 40)) => ?_) (fun (hc : ¬ (p1 ≤ 40)) => ?_)
    · have ho := ho.1 hc
      rw [if_pos hc] at hF
      refine zg_blk zd_160 5 hs (rfl : zb x zT0 zc_160 5 (13, [some (.ref 0), some (.int p1), some (.int p2), some (.int p3)], [], h) = some (22, [some (.ref 0), some (.int p1), some (.int p2), some (.int p3)], [.int p1, .int (zf h 0 0), .ref 72], h)) (fun hs => ?_)
      obtain ⟨hob, ho⟩ := ho
      refine zg_call hs zd_160 rfl rfl rfl rfl (as := [.ref 72, .int (zf h 0 0), .int p1]) (rest := []) (en := [some (.ref 72), some (.int (zf h 0 0)), some (.int p1), none, none, none]) rfl rfl rfl rfl rfl ?_
      refine f_Planner_findWindows_t (zf h 0 0) p1 h hs hob (fun hs => ?_)
      show zg x (d + 6) 160 25 [some (.ref 0), some (.int p1), some (.int p2), some (.int p3)] [] (f_Planner_findWindows (zf h 0 0) p1 h) Q
      exact f_N_window_k25_t p2 p3 (f_Planner_findWindows (zf h 0 0) p1 h) (some (.int p1)) hs ho hF
    · have ho := ho.2 hc
      rw [if_neg hc] at hF
      refine zg_blk zd_160 1 hs (rfl : zb x zT0 zc_160 1 (11, [some (.ref 0), some (.int p1), some (.int p2), some (.int p3)], [], h) = some (12, [some (.ref 0), some (.int p1), some (.int p2), some (.int p3)], [.int (-1)], h)) (fun hs => ?_)
      exact zg_ret zd_160 rfl rfl (hF hs)
theorem zd_249 : zm_cd 249 = zc_249 := by rfl
theorem zd_250 : zm_cd 250 = zc_250 := by rfl
set_option maxRecDepth 100000 in
set_option maxHeartbeats 400000 in
theorem f_M_windows_l22_k66_t {x : zm_X} {d : Nat} (v1 : Int32) (v2 : Int32) (v3 : Int32) (v4 : Int32) (w0 : Int32) (h : zm_H) (o5 : Option Value) {Q : Option Value → zm_H → Prop} {FN : Nat × Int32 × Int32 × Int32 × zm_H → Prop} (hs : zSh zT0 h) (ho : f_M_windows_l22_k66_ok v1 v2 v3 v4 w0 h) (hF : FN (f_M_windows_l22_k66 v1 v2 v3 v4 w0 h)) (hl0 : ∀ (v2 : Int32) (v3 : Int32) (v4 : Int32) (h : zm_H) (o5 : Option Value), zSh zT0 h → FN (0, v2, v3, v4, h) → zg x (d + 4) 250 22 [some (.ref 92), some (.int v1), some (.int v2), some (.int v3), some (.int v4), o5] [] h Q) (hl1 : ∀ (v2 : Int32) (v3 : Int32) (v4 : Int32) (h : zm_H) (o3 : Option Value) (o4 : Option Value) (o5 : Option Value), zSh zT0 h → FN (1, v2, v3, v4, h) → zg x (d + 4) 250 129 [some (.ref 92), some (.int v1), some (.int v2), o3, o4, o5] [] h Q) : zg x (d + 4) 250 66 [some (.ref 92), some (.int v1), some (.int v2), some (.int v3), some (.int v4), o5] [.int w0] h Q := by
  unfold f_M_windows_l22_k66 at hF
  unfold f_M_windows_l22_k66_ok at ho
  have K152 : zSh zT0 h → zg x (d + 4) 250 74 [some (.ref 92), some (.int v1), some (.int v2), some (.int v3), some (.int v4), o5] [.int (if (¬ (w0 = 0)) then (1 : Int32) else 0)] h Q := fun hs => by
    refine zg_blk zd_250 2 hs (rfl : zb x zT0 zc_250 2 (74, [some (.ref 92), some (.int v1), some (.int v2), some (.int v3), some (.int v4), o5], [.int (if (¬ (w0 = 0)) then (1 : Int32) else 0)], h) = some (78, [some (.ref 92), some (.int v1), some (.int v2), some (.int v3), some (.int v4), some (.int (if (¬ (w0 = 0)) then (1 : Int32) else 0))], [.int (if (¬ (w0 = 0)) then (1 : Int32) else 0)], h)) (fun hs => ?_)
    obtain ⟨hom, ho⟩ := ho
    have K153 : zSh zT0 (if (¬ (w0 = 0)) then (if (v3 = 0) then (zs (zs h 154 v2 v4) 155 v2 0) else h) else h) → zg x (d + 4) 250 103 [some (.ref 92), some (.int v1), some (.int (if (¬ (w0 = 0)) then ((if (v3 = 0) then ((v2 + 1) : Int32) else v2) : Int32) else v2)), some (.int v3), some (.int v4), some (.int (if (¬ (w0 = 0)) then (1 : Int32) else 0))] [] (if (¬ (w0 = 0)) then (if (v3 = 0) then (zs (zs h 154 v2 v4) 155 v2 0) else h) else h) Q := fun hs => by
      refine zg_blk zd_250 1 hs (rfl : zb x zT0 zc_250 1 (103, [some (.ref 92), some (.int v1), some (.int (if (¬ (w0 = 0)) then ((if (v3 = 0) then ((v2 + 1) : Int32) else v2) : Int32) else v2)), some (.int v3), some (.int v4), some (.int (if (¬ (w0 = 0)) then (1 : Int32) else 0))], [], (if (¬ (w0 = 0)) then (if (v3 = 0) then (zs (zs h 154 v2 v4) 155 v2 0) else h) else h)) = some (105, [some (.ref 92), some (.int v1), some (.int (if (¬ (w0 = 0)) then ((if (v3 = 0) then ((v2 + 1) : Int32) else v2) : Int32) else v2)), some (.int v3), some (.int v4), some (.int (if (¬ (w0 = 0)) then (1 : Int32) else 0))], [.int (if (¬ (w0 = 0)) then (1 : Int32) else 0)], (if (¬ (w0 = 0)) then (if (v3 = 0) then (zs (zs h 154 v2 v4) 155 v2 0) else h) else h))) (fun hs => ?_)
      have hom := ho
      have K154 : zSh zT0 (if (¬ (w0 = 0)) then (zs (if (¬ (w0 = 0)) then (if (v3 = 0) then (zs (zs h 154 v2 v4) 155 v2 0) else h) else h) 155 ((if (¬ (w0 = 0)) then ((if (v3 = 0) then ((v2 + 1) : Int32) else v2) : Int32) else v2) - 1) ((zr (if (¬ (w0 = 0)) then (if (v3 = 0) then (zs (zs h 154 v2 v4) 155 v2 0) else h) else h) 155 ((if (¬ (w0 = 0)) then ((if (v3 = 0) then ((v2 + 1) : Int32) else v2) : Int32) else v2) - 1)) + 1)) else (if (¬ (w0 = 0)) then (if (v3 = 0) then (zs (zs h 154 v2 v4) 155 v2 0) else h) else h)) → zg x (d + 4) 250 120 [some (.ref 92), some (.int v1), some (.int (if (¬ (w0 = 0)) then ((if (v3 = 0) then ((v2 + 1) : Int32) else v2) : Int32) else v2)), some (.int v3), some (.int v4), some (.int (if (¬ (w0 = 0)) then (1 : Int32) else 0))] [] (if (¬ (w0 = 0)) then (zs (if (¬ (w0 = 0)) then (if (v3 = 0) then (zs (zs h 154 v2 v4) 155 v2 0) else h) else h) 155 ((if (¬ (w0 = 0)) then ((if (v3 = 0) then ((v2 + 1) : Int32) else v2) : Int32) else v2) - 1) ((zr (if (¬ (w0 = 0)) then (if (v3 = 0) then (zs (zs h 154 v2 v4) 155 v2 0) else h) else h) 155 ((if (¬ (w0 = 0)) then ((if (v3 = 0) then ((v2 + 1) : Int32) else v2) : Int32) else v2) - 1)) + 1)) else (if (¬ (w0 = 0)) then (if (v3 = 0) then (zs (zs h 154 v2 v4) 155 v2 0) else h) else h)) Q := fun hs => by
        refine zg_blk zd_250 4 hs (rfl : zb x zT0 zc_250 4 (120, [some (.ref 92), some (.int v1), some (.int (if (¬ (w0 = 0)) then ((if (v3 = 0) then ((v2 + 1) : Int32) else v2) : Int32) else v2)), some (.int v3), some (.int v4), some (.int (if (¬ (w0 = 0)) then (1 : Int32) else 0))], [], (if (¬ (w0 = 0)) then (zs (if (¬ (w0 = 0)) then (if (v3 = 0) then (zs (zs h 154 v2 v4) 155 v2 0) else h) else h) 155 ((if (¬ (w0 = 0)) then ((if (v3 = 0) then ((v2 + 1) : Int32) else v2) : Int32) else v2) - 1) ((zr (if (¬ (w0 = 0)) then (if (v3 = 0) then (zs (zs h 154 v2 v4) 155 v2 0) else h) else h) 155 ((if (¬ (w0 = 0)) then ((if (v3 = 0) then ((v2 + 1) : Int32) else v2) : Int32) else v2) - 1)) + 1)) else (if (¬ (w0 = 0)) then (if (v3 = 0) then (zs (zs h 154 v2 v4) 155 v2 0) else h) else h))) = some (22, [some (.ref 92), some (.int v1), some (.int (if (¬ (w0 = 0)) then ((if (v3 = 0) then ((v2 + 1) : Int32) else v2) : Int32) else v2)), some (.int (if (¬ (w0 = 0)) then (1 : Int32) else 0)), some (.int (v4 + 1)), some (.int (if (¬ (w0 = 0)) then (1 : Int32) else 0))], [], (if (¬ (w0 = 0)) then (zs (if (¬ (w0 = 0)) then (if (v3 = 0) then (zs (zs h 154 v2 v4) 155 v2 0) else h) else h) 155 ((if (¬ (w0 = 0)) then ((if (v3 = 0) then ((v2 + 1) : Int32) else v2) : Int32) else v2) - 1) ((zr (if (¬ (w0 = 0)) then (if (v3 = 0) then (zs (zs h 154 v2 v4) 155 v2 0) else h) else h) 155 ((if (¬ (w0 = 0)) then ((if (v3 = 0) then ((v2 + 1) : Int32) else v2) : Int32) else v2) - 1)) + 1)) else (if (¬ (w0 = 0)) then (if (v3 = 0) then (zs (zs h 154 v2 v4) 155 v2 0) else h) else h)))) (fun hs => ?_)
        exact hl0 (if (¬ (w0 = 0)) then ((if (v3 = 0) then ((v2 + 1) : Int32) else v2) : Int32) else v2) (if (¬ (w0 = 0)) then (1 : Int32) else 0) (v4 + 1) (if (¬ (w0 = 0)) then (zs (if (¬ (w0 = 0)) then (if (v3 = 0) then (zs (zs h 154 v2 v4) 155 v2 0) else h) else h) 155 ((if (¬ (w0 = 0)) then ((if (v3 = 0) then ((v2 + 1) : Int32) else v2) : Int32) else v2) - 1) ((zr (if (¬ (w0 = 0)) then (if (v3 = 0) then (zs (zs h 154 v2 v4) 155 v2 0) else h) else h) 155 ((if (¬ (w0 = 0)) then ((if (v3 = 0) then ((v2 + 1) : Int32) else v2) : Int32) else v2) - 1)) + 1)) else (if (¬ (w0 = 0)) then (if (v3 = 0) then (zs (zs h 154 v2 v4) 155 v2 0) else h) else h)) (some (.int (if (¬ (w0 = 0)) then (1 : Int32) else 0))) hs hF
      refine zg_b_eq zd_250 rfl (fun (hc : ¬ (¬ (w0 = 0))) => ?_) (fun (hc : (¬ (w0 = 0))) => ?_)
      · have ho := hom.2 hc
        rw [show (if (¬ (w0 = 0)) then (zs (if (¬ (w0 = 0)) then (if (v3 = 0) then (zs (zs h 154 v2 v4) 155 v2 0) else h) else h) 155 ((if (¬ (w0 = 0)) then ((if (v3 = 0) then ((v2 + 1) : Int32) else v2) : Int32) else v2) - 1) ((zr (if (¬ (w0 = 0)) then (if (v3 = 0) then (zs (zs h 154 v2 v4) 155 v2 0) else h) else h) 155 ((if (¬ (w0 = 0)) then ((if (v3 = 0) then ((v2 + 1) : Int32) else v2) : Int32) else v2) - 1)) + 1)) else (if (¬ (w0 = 0)) then (if (v3 = 0) then (zs (zs h 154 v2 v4) 155 v2 0) else h) else h)) = (if (¬ (w0 = 0)) then (if (v3 = 0) then (zs (zs h 154 v2 v4) 155 v2 0) else h) else h) from if_neg hc] at K154
        exact K154 hs
      · have ho := hom.1 hc
        rw [show (if (¬ (w0 = 0)) then (zs (if (¬ (w0 = 0)) then (if (v3 = 0) then (zs (zs h 154 v2 v4) 155 v2 0) else h) else h) 155 ((if (¬ (w0 = 0)) then ((if (v3 = 0) then ((v2 + 1) : Int32) else v2) : Int32) else v2) - 1) ((zr (if (¬ (w0 = 0)) then (if (v3 = 0) then (zs (zs h 154 v2 v4) 155 v2 0) else h) else h) 155 ((if (¬ (w0 = 0)) then ((if (v3 = 0) then ((v2 + 1) : Int32) else v2) : Int32) else v2) - 1)) + 1)) else (if (¬ (w0 = 0)) then (if (v3 = 0) then (zs (zs h 154 v2 v4) 155 v2 0) else h) else h)) = (zs (if (¬ (w0 = 0)) then (if (v3 = 0) then (zs (zs h 154 v2 v4) 155 v2 0) else h) else h) 155 ((if (¬ (w0 = 0)) then ((if (v3 = 0) then ((v2 + 1) : Int32) else v2) : Int32) else v2) - 1) ((zr (if (¬ (w0 = 0)) then (if (v3 = 0) then (zs (zs h 154 v2 v4) 155 v2 0) else h) else h) 155 ((if (¬ (w0 = 0)) then ((if (v3 = 0) then ((v2 + 1) : Int32) else v2) : Int32) else v2) - 1)) + 1)) from if_pos hc] at K154
        refine zg_blk zd_250 6 hs (rfl : zb x zT0 zc_250 6 (108, [some (.ref 92), some (.int v1), some (.int (if (¬ (w0 = 0)) then ((if (v3 = 0) then ((v2 + 1) : Int32) else v2) : Int32) else v2)), some (.int v3), some (.int v4), some (.int (if (¬ (w0 = 0)) then (1 : Int32) else 0))], [], (if (¬ (w0 = 0)) then (if (v3 = 0) then (zs (zs h 154 v2 v4) 155 v2 0) else h) else h)) = some (116, [some (.ref 92), some (.int v1), some (.int (if (¬ (w0 = 0)) then ((if (v3 = 0) then ((v2 + 1) : Int32) else v2) : Int32) else v2)), some (.int v3), some (.int v4), some (.int (if (¬ (w0 = 0)) then (1 : Int32) else 0))], [.int ((if (¬ (w0 = 0)) then ((if (v3 = 0) then ((v2 + 1) : Int32) else v2) : Int32) else v2) - 1), .ref 155, .int ((if (¬ (w0 = 0)) then ((if (v3 = 0) then ((v2 + 1) : Int32) else v2) : Int32) else v2) - 1), .ref 155], (if (¬ (w0 = 0)) then (if (v3 = 0) then (zs (zs h 154 v2 v4) 155 v2 0) else h) else h))) (fun hs => ?_)
        obtain ⟨hob, ho⟩ := ho
        refine zg_ial hs zd_250 rfl rfl hob ?_
        refine zg_blk zd_250 2 hs (rfl : zb x zT0 zc_250 2 (117, [some (.ref 92), some (.int v1), some (.int (if (¬ (w0 = 0)) then ((if (v3 = 0) then ((v2 + 1) : Int32) else v2) : Int32) else v2)), some (.int v3), some (.int v4), some (.int (if (¬ (w0 = 0)) then (1 : Int32) else 0))], [.int (zr (if (¬ (w0 = 0)) then (if (v3 = 0) then (zs (zs h 154 v2 v4) 155 v2 0) else h) else h) 155 ((if (¬ (w0 = 0)) then ((if (v3 = 0) then ((v2 + 1) : Int32) else v2) : Int32) else v2) - 1)), .int ((if (¬ (w0 = 0)) then ((if (v3 = 0) then ((v2 + 1) : Int32) else v2) : Int32) else v2) - 1), .ref 155], (if (¬ (w0 = 0)) then (if (v3 = 0) then (zs (zs h 154 v2 v4) 155 v2 0) else h) else h)) = some (119, [some (.ref 92), some (.int v1), some (.int (if (¬ (w0 = 0)) then ((if (v3 = 0) then ((v2 + 1) : Int32) else v2) : Int32) else v2)), some (.int v3), some (.int v4), some (.int (if (¬ (w0 = 0)) then (1 : Int32) else 0))], [.int ((zr (if (¬ (w0 = 0)) then (if (v3 = 0) then (zs (zs h 154 v2 v4) 155 v2 0) else h) else h) 155 ((if (¬ (w0 = 0)) then ((if (v3 = 0) then ((v2 + 1) : Int32) else v2) : Int32) else v2) - 1)) + 1), .int ((if (¬ (w0 = 0)) then ((if (v3 = 0) then ((v2 + 1) : Int32) else v2) : Int32) else v2) - 1), .ref 155], (if (¬ (w0 = 0)) then (if (v3 = 0) then (zs (zs h 154 v2 v4) 155 v2 0) else h) else h))) (fun hs => ?_)
        have hob := ho
        refine zg_ias hs zd_250 rfl rfl hob (fun hs => ?_)
        exact K154 hs
    refine zg_b_eq zd_250 rfl (fun (hc : ¬ (¬ (w0 = 0))) => ?_) (fun (hc : (¬ (w0 = 0))) => ?_)
    · have ho := hom.2 hc
      rw [show ((if (¬ (w0 = 0)) then ((if (v3 = 0) then ((v2 + 1) : Int32) else v2) : Int32) else v2) : Int32) = v2 from if_neg hc] at K153
      rw [show (if (¬ (w0 = 0)) then (if (v3 = 0) then (zs (zs h 154 v2 v4) 155 v2 0) else h) else h) = h from if_neg hc] at K153
      exact K153 hs
    · have ho := hom.1 hc
      rw [show ((if (¬ (w0 = 0)) then ((if (v3 = 0) then ((v2 + 1) : Int32) else v2) : Int32) else v2) : Int32) = (if (v3 = 0) then ((v2 + 1) : Int32) else v2) from if_pos hc] at K153
      rw [show (if (¬ (w0 = 0)) then (if (v3 = 0) then (zs (zs h 154 v2 v4) 155 v2 0) else h) else h) = (if (v3 = 0) then (zs (zs h 154 v2 v4) 155 v2 0) else h) from if_pos hc] at K153
      refine zg_blk zd_250 1 hs (rfl : zb x zT0 zc_250 1 (81, [some (.ref 92), some (.int v1), some (.int v2), some (.int v3), some (.int v4), some (.int (if (¬ (w0 = 0)) then (1 : Int32) else 0))], [], h) = some (82, [some (.ref 92), some (.int v1), some (.int v2), some (.int v3), some (.int v4), some (.int (if (¬ (w0 = 0)) then (1 : Int32) else 0))], [.int v3], h)) (fun hs => ?_)
      refine zg_f_ne zd_250 rfl (fun (hc : ¬ (v3 = 0)) => ?_) (fun (hc : (v3 = 0)) => ?_)
      · have ho := ho.2 hc
        rw [show ((if (v3 = 0) then ((v2 + 1) : Int32) else v2) : Int32) = v2 from if_neg hc] at K153
        rw [show (if (v3 = 0) then (zs (zs h 154 v2 v4) 155 v2 0) else h) = h from if_neg hc] at K153
        exact K153 hs
      · have ho := ho.1 hc
        rw [show ((if (v3 = 0) then ((v2 + 1) : Int32) else v2) : Int32) = (v2 + 1) from if_pos hc] at K153
        rw [show (if (v3 = 0) then (zs (zs h 154 v2 v4) 155 v2 0) else h) = (zs (zs h 154 v2 v4) 155 v2 0) from if_pos hc] at K153
        refine zg_blk zd_250 4 hs (rfl : zb x zT0 zc_250 4 (85, [some (.ref 92), some (.int v1), some (.int v2), some (.int v3), some (.int v4), some (.int (if (¬ (w0 = 0)) then (1 : Int32) else 0))], [], h) = some (92, [some (.ref 92), some (.int v1), some (.int v2), some (.int v3), some (.int v4), some (.int (if (¬ (w0 = 0)) then (1 : Int32) else 0))], [.int v4, .int v2, .ref 154], h)) (fun hs => ?_)
        obtain ⟨hob, ho⟩ := ho
        refine zg_ias hs zd_250 rfl rfl hob (fun hs => ?_)
        refine zg_blk zd_250 4 hs (rfl : zb x zT0 zc_250 4 (93, [some (.ref 92), some (.int v1), some (.int v2), some (.int v3), some (.int v4), some (.int (if (¬ (w0 = 0)) then (1 : Int32) else 0))], [], (zs h 154 v2 v4)) = some (99, [some (.ref 92), some (.int v1), some (.int v2), some (.int v3), some (.int v4), some (.int (if (¬ (w0 = 0)) then (1 : Int32) else 0))], [.int 0, .int v2, .ref 155], (zs h 154 v2 v4))) (fun hs => ?_)
        have hob := ho
        refine zg_ias hs zd_250 rfl rfl hob (fun hs => ?_)
        refine zg_blk zd_250 1 hs (rfl : zb x zT0 zc_250 1 (100, [some (.ref 92), some (.int v1), some (.int v2), some (.int v3), some (.int v4), some (.int (if (¬ (w0 = 0)) then (1 : Int32) else 0))], [], (zs (zs h 154 v2 v4) 155 v2 0)) = some (103, [some (.ref 92), some (.int v1), some (.int (v2 + 1)), some (.int v3), some (.int v4), some (.int (if (¬ (w0 = 0)) then (1 : Int32) else 0))], [], (zs (zs h 154 v2 v4) 155 v2 0))) (fun hs => ?_)
        exact K153 hs
  refine zg_f_eq zd_250 rfl (fun (hc : (w0 = 0)) => ?_) (fun (hc : ¬ (w0 = 0)) => ?_)
  · skip
    rw [show ((if (¬ (w0 = 0)) then (1 : Int32) else 0) : Int32) = 0 from zb_not_t hc] at K152
    refine zg_blk zd_250 1 hs (rfl : zb x zT0 zc_250 1 (73, [some (.ref 92), some (.int v1), some (.int v2), some (.int v3), some (.int v4), o5], [], h) = some (74, [some (.ref 92), some (.int v1), some (.int v2), some (.int v3), some (.int v4), o5], [.int 0], h)) (fun hs => ?_)
    exact K152 hs
  · skip
    rw [show ((if (¬ (w0 = 0)) then (1 : Int32) else 0) : Int32) = 1 from zb_not_f hc] at K152
    refine zg_blk zd_250 2 hs (rfl : zb x zT0 zc_250 2 (69, [some (.ref 92), some (.int v1), some (.int v2), some (.int v3), some (.int v4), o5], [], h) = some (74, [some (.ref 92), some (.int v1), some (.int v2), some (.int v3), some (.int v4), o5], [.int 1], h)) (fun hs => ?_)
    exact K152 hs
set_option maxRecDepth 100000 in
set_option maxHeartbeats 400000 in
theorem f_M_windows_l22_k59_t {x : zm_X} {d : Nat} (v1 : Int32) (v2 : Int32) (v3 : Int32) (v4 : Int32) (h : zm_H) (o5 : Option Value) {Q : Option Value → zm_H → Prop} {FN : Nat × Int32 × Int32 × Int32 × zm_H → Prop} (hs : zSh zT0 h) (ho : f_M_windows_l22_k59_ok v1 v2 v3 v4 h) (hF : FN (f_M_windows_l22_k59 v1 v2 v3 v4 h)) (hl0 : ∀ (v2 : Int32) (v3 : Int32) (v4 : Int32) (h : zm_H) (o5 : Option Value), zSh zT0 h → FN (0, v2, v3, v4, h) → zg x (d + 4) 250 22 [some (.ref 92), some (.int v1), some (.int v2), some (.int v3), some (.int v4), o5] [] h Q) (hl1 : ∀ (v2 : Int32) (v3 : Int32) (v4 : Int32) (h : zm_H) (o3 : Option Value) (o4 : Option Value) (o5 : Option Value), zSh zT0 h → FN (1, v2, v3, v4, h) → zg x (d + 4) 250 129 [some (.ref 92), some (.int v1), some (.int v2), o3, o4, o5] [] h Q) : zg x (d + 4) 250 59 [some (.ref 92), some (.int v1), some (.int v2), some (.int v3), some (.int v4), o5] [] h Q := by
  unfold f_M_windows_l22_k59 at hF
  unfold f_M_windows_l22_k59_ok at ho
  refine zg_blk zd_250 3 hs (rfl : zb x zT0 zc_250 3 (59, [some (.ref 92), some (.int v1), some (.int v2), some (.int v3), some (.int v4), o5], [], h) = some (63, [some (.ref 92), some (.int v1), some (.int v2), some (.int v3), some (.int v4), o5], [.int v4, .int 2, .ref 92], h)) (fun hs => ?_)
  obtain ⟨hob, ho⟩ := ho
  refine zg_call hs zd_250 rfl rfl rfl rfl (as := [.ref 92, .int 2, .int v4]) (rest := []) (en := [some (.ref 92), some (.int 2), some (.int v4), none, none, none, none]) rfl rfl rfl rfl rfl ?_
  refine f_M_tells_t 2 v4 h hs hob (fun hs => ?_)
  show zg x (d + 4) 250 66 [some (.ref 92), some (.int v1), some (.int v2), some (.int v3), some (.int v4), o5] [.int (f_M_tells 2 v4 h).1] (f_M_tells 2 v4 h).2 Q
  exact f_M_windows_l22_k66_t v1 v2 v3 v4 (f_M_tells 2 v4 h).1 (f_M_tells 2 v4 h).2 (o5) hs ho hF hl0 hl1
set_option maxRecDepth 100000 in
set_option maxHeartbeats 400000 in
theorem f_M_windows_l22_k51_t {x : zm_X} {d : Nat} (v1 : Int32) (v2 : Int32) (v3 : Int32) (v4 : Int32) (h : zm_H) (o5 : Option Value) {Q : Option Value → zm_H → Prop} {FN : Nat × Int32 × Int32 × Int32 × zm_H → Prop} (hs : zSh zT0 h) (ho : f_M_windows_l22_k51_ok v1 v2 v3 v4 h) (hF : FN (f_M_windows_l22_k51 v1 v2 v3 v4 h)) (hl0 : ∀ (v2 : Int32) (v3 : Int32) (v4 : Int32) (h : zm_H) (o5 : Option Value), zSh zT0 h → FN (0, v2, v3, v4, h) → zg x (d + 4) 250 22 [some (.ref 92), some (.int v1), some (.int v2), some (.int v3), some (.int v4), o5] [] h Q) (hl1 : ∀ (v2 : Int32) (v3 : Int32) (v4 : Int32) (h : zm_H) (o3 : Option Value) (o4 : Option Value) (o5 : Option Value), zSh zT0 h → FN (1, v2, v3, v4, h) → zg x (d + 4) 250 129 [some (.ref 92), some (.int v1), some (.int v2), o3, o4, o5] [] h Q) : zg x (d + 4) 250 51 [some (.ref 92), some (.int v1), some (.int v2), some (.int v3), some (.int v4), o5] [] h Q := by
  unfold f_M_windows_l22_k51 at hF
  unfold f_M_windows_l22_k51_ok at ho
  refine zg_blk zd_250 4 hs (rfl : zb x zT0 zc_250 4 (51, [some (.ref 92), some (.int v1), some (.int v2), some (.int v3), some (.int v4), o5], [], h) = some (56, [some (.ref 92), some (.int v1), some (.int v2), some (.int v3), some (.int v4), o5], [.int v4, .int (-1), .int 0, .ref 92], h)) (fun hs => ?_)
  obtain ⟨hob, ho⟩ := ho
  refine zg_call hs zd_250 rfl rfl rfl rfl (as := [.ref 92, .int 0, .int (-1), .int v4]) (rest := []) (en := [some (.ref 92), some (.int 0), some (.int (-1)), some (.int v4), none]) rfl rfl rfl rfl rfl ?_
  refine f_M_asks_t 0 (-1) v4 h hs hob (fun hs => ?_)
  show zg x (d + 4) 250 59 [some (.ref 92), some (.int v1), some (.int v2), some (.int v3), some (.int v4), o5] [] (f_M_asks 0 (-1) v4 h) Q
  exact f_M_windows_l22_k59_t v1 v2 v3 v4 (f_M_asks 0 (-1) v4 h) (o5) hs ho hF hl0 hl1
set_option maxRecDepth 100000 in
set_option maxHeartbeats 400000 in
theorem f_M_windows_l22_b_t {x : zm_X} {d : Nat} (v1 : Int32) (v2 : Int32) (v3 : Int32) (v4 : Int32) (h : zm_H) (o5 : Option Value) {Q : Option Value → zm_H → Prop} {FN : Nat × Int32 × Int32 × Int32 × zm_H → Prop} (hs : zSh zT0 h) (ho : f_M_windows_l22_b_ok v1 v2 v3 v4 h) (hF : FN (f_M_windows_l22_b v1 v2 v3 v4 h)) (hl0 : ∀ (v2 : Int32) (v3 : Int32) (v4 : Int32) (h : zm_H) (o5 : Option Value), zSh zT0 h → FN (0, v2, v3, v4, h) → zg x (d + 4) 250 22 [some (.ref 92), some (.int v1), some (.int v2), some (.int v3), some (.int v4), o5] [] h Q) (hl1 : ∀ (v2 : Int32) (v3 : Int32) (v4 : Int32) (h : zm_H) (o3 : Option Value) (o4 : Option Value) (o5 : Option Value), zSh zT0 h → FN (1, v2, v3, v4, h) → zg x (d + 4) 250 129 [some (.ref 92), some (.int v1), some (.int v2), o3, o4, o5] [] h Q) : zg x (d + 4) 250 22 [some (.ref 92), some (.int v1), some (.int v2), some (.int v3), some (.int v4), o5] [] h Q := by
  unfold f_M_windows_l22_b at hF
  unfold f_M_windows_l22_b_ok at ho
  refine zg_blk zd_250 5 hs (rfl : zb x zT0 zc_250 5 (22, [some (.ref 92), some (.int v1), some (.int v2), some (.int v3), some (.int v4), o5], [], h) = some (30, [some (.ref 92), some (.int v1), some (.int v2), some (.int v3), some (.int v4), o5], [.int ((zf h 92 23) + v1), .int v4], h)) (fun hs => ?_)
  refine zg_i_ge zd_250 rfl (fun (hc : (((zf h 92 23) + v1) ≤ v4)) => ?_) (fun (hc : ¬ (((zf h 92 23) + v1) ≤ v4)) => ?_)
  · have ho := ho.1 hc
    rw [if_pos hc] at hF
    exact hl1 v2 v3 v4 h (some (.int v3)) (some (.int v4)) (o5) hs hF
  · have ho := ho.2 hc
    rw [if_neg hc] at hF
    refine zg_blk zd_250 2 hs (rfl : zb x zT0 zc_250 2 (33, [some (.ref 92), some (.int v1), some (.int v2), some (.int v3), some (.int v4), o5], [], h) = some (38, [some (.ref 92), some (.int v1), some (.int v2), some (.int v3), some (.int v4), o5], [.int 480, .int v4], h)) (fun hs => ?_)
    refine zg_i_ge zd_250 rfl (fun (hc : (480 ≤ v4)) => ?_) (fun (hc : ¬ (480 ≤ v4)) => ?_)
    · have ho := ho.1 hc
      rw [if_pos hc] at hF
      exact hl1 v2 v3 v4 h (some (.int v3)) (some (.int v4)) (o5) hs hF
    · have ho := ho.2 hc
      rw [if_neg hc] at hF
      refine zg_blk zd_250 3 hs (rfl : zb x zT0 zc_250 3 (41, [some (.ref 92), some (.int v1), some (.int v2), some (.int v3), some (.int v4), o5], [], h) = some (45, [some (.ref 92), some (.int v1), some (.int v2), some (.int v3), some (.int v4), o5], [.ref 92, .int v4, .ref 92], h)) (fun hs => ?_)
      refine zg_call hs zd_250 rfl rfl rfl rfl (as := [.ref 92]) (rest := [.int v4, .ref 92]) (en := [some (.ref 92)]) rfl rfl rfl rfl rfl ?_
      refine f_M_lastKnown_t  h hs trivial ?_
      show zg x (d + 4) 250 48 [some (.ref 92), some (.int v1), some (.int v2), some (.int v3), some (.int v4), o5] [.int (if (480 ≤ (zf h 92 23)) then (479 : Int32) else (zf h 92 23)), .int v4, .ref 92] h Q
      obtain ⟨hob, ho⟩ := ho
      refine zg_call hs zd_250 rfl rfl rfl rfl (as := [.ref 92, .int v4, .int (if (480 ≤ (zf h 92 23)) then (479 : Int32) else (zf h 92 23))]) (rest := []) (en := [some (.ref 92), some (.int v4), some (.int (if (480 ≤ (zf h 92 23)) then (479 : Int32) else (zf h 92 23))), none, none, none]) rfl rfl rfl rfl rfl ?_
      refine f_M_looks_t v4 (if (480 ≤ (zf h 92 23)) then (479 : Int32) else (zf h 92 23)) h hs hob (fun hs => ?_)
      show zg x (d + 4) 250 51 [some (.ref 92), some (.int v1), some (.int v2), some (.int v3), some (.int v4), o5] [] (f_M_looks v4 (if (480 ≤ (zf h 92 23)) then (479 : Int32) else (zf h 92 23)) h) Q
      exact f_M_windows_l22_k51_t v1 v2 v3 v4 (f_M_looks v4 (if (480 ≤ (zf h 92 23)) then (479 : Int32) else (zf h 92 23)) h) (o5) hs ho hF hl0 hl1
theorem f_M_windows_l22_t {x : zm_X} {d : Nat} (v1 : Int32) {Q : Option Value → zm_H → Prop} (G : Nat × Int32 × Int32 × Int32 × zm_H → Prop) (hx1 : ∀ (v2 : Int32) (v3 : Int32) (v4 : Int32) (h : zm_H) (o3 : Option Value) (o4 : Option Value) (o5 : Option Value), zSh zT0 h → G (1, v2, v3, v4, h) → zg x (d + 4) 250 129 [some (.ref 92), some (.int v1), some (.int v2), o3, o4, o5] [] h Q) : ∀ (n : Nat) (v2 : Int32) (v3 : Int32) (v4 : Int32) (h : zm_H) (o5 : Option Value), zSh zT0 h → f_M_windows_l22_ok v1 n (v2, v3, v4, h) → G (f_M_windows_l22 v1 n (v2, v3, v4, h)) → zg x (d + 4) 250 22 [some (.ref 92), some (.int v1), some (.int v2), some (.int v3), some (.int v4), o5] [] h Q := by
  intro n
  induction n with
  | zero => intro v2 v3 v4 h o5 hs ho hG; exact ho.elim
  | succ n ih =>
    intro v2 v3 v4 h o5 hs ho hG
    refine f_M_windows_l22_b_t (FN := fun r => (r.1 = 0 → f_M_windows_l22_ok v1 n r.2) ∧ G (if r.1 = 0 then f_M_windows_l22 v1 n r.2 else r)) v1 v2 v3 v4 h o5 hs ho.1 ⟨ho.2, hG⟩ ?_ ?_
    · intro v2 v3 v4 h o5 hs hF
      exact ih v2 v3 v4 h o5 hs (hF.1 rfl) hF.2
    · intro v2 v3 v4 h o3 o4 o5 hs hF
      exact hx1 v2 v3 v4 h o3 o4 o5 hs hF.2

set_option maxRecDepth 100000 in
set_option maxHeartbeats 400000 in
theorem f_M_windows_k129_t {x : zm_X} {d : Nat} (v2 : Int32) (h : zm_H) (o0 : Option Value) (z1 : Int32) (o3 : Option Value) (o4 : Option Value) (o5 : Option Value) {Q : Option Value → zm_H → Prop} (hs : zSh zT0 h) (ho : f_M_windows_k129_ok v2 h) (hF : (zSh zT0 (f_M_windows_k129 v2 h).2 → Q (some (.int (f_M_windows_k129 v2 h).1)) (f_M_windows_k129 v2 h).2)) : zg x (d + 4) 250 129 [o0, some (.int z1), some (.int v2), o3, o4, o5] [] h Q := by
  unfold f_M_windows_k129 at hF
  unfold f_M_windows_k129_ok at ho
  refine zg_blk zd_250 1 hs (rfl : zb x zT0 zc_250 1 (129, [o0, some (.int z1), some (.int v2), o3, o4, o5], [], h) = some (130, [o0, some (.int z1), some (.int v2), o3, o4, o5], [.int v2], h)) (fun hs => ?_)
  exact zg_ret zd_250 rfl rfl (hF hs)
set_option maxRecDepth 100000 in
set_option maxHeartbeats 400000 in
theorem f_M_windows_t {x : zm_X} {d : Nat} (p1 : Int32) (h : zm_H) {Q : Option Value → zm_H → Prop} (hs : zSh zT0 h) (ho : f_M_windows_ok p1 h) (hF : (zSh zT0 (f_M_windows p1 h).2 → Q (some (.int (f_M_windows p1 h).1)) (f_M_windows p1 h).2)) : zg x (d + 4) 250 0 [some (.ref 92), some (.int p1), none, none, none, none] [] h Q := by
  unfold f_M_windows at hF
  unfold f_M_windows_ok at ho
  refine zg_blk zd_250 3 hs (rfl : zb x zT0 zc_250 3 (0, [some (.ref 92), some (.int p1), none, none, none, none], [], h) = some (4, [some (.ref 92), some (.int p1), none, none, none, none], [.int 40, .int 1, .int p1], h)) (fun hs => ?_)
  refine zg_call hs zd_250 rfl rfl rfl rfl (as := [.int p1, .int 1, .int 40]) (rest := []) (en := [some (.int p1), some (.int 1), some (.int 40)]) rfl rfl rfl rfl rfl ?_
  refine f_M_in_t p1 1 40 h hs trivial ?_
  show zg x (d + 4) 250 7 [some (.ref 92), some (.int p1), none, none, none, none] [.int (if (¬ (p1 < 1) ∧ (¬ (40 < p1))) then (1 : Int32) else 0)] h Q
  refine zg_b_ne zd_250 rfl (fun (hc : (¬ (p1 < 1) ∧ (¬ (40 < p1)))) => ?_) (fun (hc : ¬ (¬ (p1 < 1) ∧ (¬ (40 < p1)))) => ?_)
  · have ho := ho.1 hc
    rw [if_pos hc] at hF
    refine zg_blk zd_250 7 hs (rfl : zb x zT0 zc_250 7 (12, [some (.ref 92), some (.int p1), none, none, none, none], [], h) = some (22, [some (.ref 92), some (.int p1), some (.int 0), some (.int 0), some (.int (zf h 92 23)), none], [], h)) (fun hs => ?_)
    refine f_M_windows_l22_t p1 (fun r => f_M_windows_a22_ok r ∧ (zSh zT0 (f_M_windows_a22 r).2 → Q (some (.int (f_M_windows_a22 r).1)) (f_M_windows_a22 r).2)) ?_ zF 0 0 (zf h 92 23) h (none) hs ho.1 ⟨ho.2, hF⟩
    · intro v2_ v3_ v4_ h_ o3_ o4_ o5_ hs hG
      have ho : True := trivial
      have hF : (zSh zT0 ((f_M_windows_k129 v2_ h_)).2 → Q (some (.int ((f_M_windows_k129 v2_ h_)).1)) ((f_M_windows_k129 v2_ h_)).2) := hG.2
      exact f_M_windows_k129_t v2_ h_ (some (.ref 92)) p1 (o3_) (o4_) (o5_) hs trivial hF
  · have ho := ho.2 hc
    rw [if_neg hc] at hF
    refine zg_blk zd_250 1 hs (rfl : zb x zT0 zc_250 1 (10, [some (.ref 92), some (.int p1), none, none, none, none], [], h) = some (11, [some (.ref 92), some (.int p1), none, none, none, none], [.int (-1)], h)) (fun hs => ?_)
    exact zg_ret zd_250 rfl rfl (hF hs)
set_option maxRecDepth 100000 in
set_option maxHeartbeats 400000 in
theorem f_M_window_k7_t {x : zm_X} {d : Nat} (v2 : Int32) (v3 : Int32) (w0 : Int32) (w1 : Int32) (w2 : Int32) (h : zm_H) (o1 : Option Value) {Q : Option Value → zm_H → Prop} (hs : zSh zT0 h) (ho : f_M_window_k7_ok v2 v3 w0 w1 w2 h) (hF : (zSh zT0 (f_M_window_k7 v2 v3 w0 w1 w2 h).2 → Q (some (.int (f_M_window_k7 v2 v3 w0 w1 w2 h).1)) (f_M_window_k7 v2 v3 w0 w1 w2 h).2)) : zg x (d + 5) 249 7 [some (.ref 92), o1, some (.int v2), some (.int v3)] [.int w2, .int w1, .int w0] h Q := by
  unfold f_M_window_k7 at hF
  unfold f_M_window_k7_ok at ho
  refine zg_blk zd_249 2 hs (rfl : zb x zT0 zc_249 2 (7, [some (.ref 92), o1, some (.int v2), some (.int v3)], [.int w2, .int w1, .int w0], h) = some (9, [some (.ref 92), o1, some (.int v2), some (.int v3)], [.int (w2 - 1), .int w1, .int w0], h)) (fun hs => ?_)
  refine zg_call hs zd_249 rfl rfl rfl rfl (as := [.int w0, .int w1, .int (w2 - 1)]) (rest := []) (en := [some (.int w0), some (.int w1), some (.int (w2 - 1))]) rfl rfl rfl rfl rfl ?_
  refine f_M_in_t w0 w1 (w2 - 1) h hs trivial ?_
  show zg x (d + 5) 249 12 [some (.ref 92), o1, some (.int v2), some (.int v3)] [.int (if (¬ (w0 < w1) ∧ (¬ ((w2 - 1) < w0))) then (1 : Int32) else 0)] h Q
  have hom := ho
  have K155 : zSh zT0 h → zg x (d + 5) 249 47 [some (.ref 92), o1, some (.int v2), some (.int v3)] [.int (if (¬ (w0 < w1) ∧ (¬ ((w2 - 1) < w0))) then ((if (¬ (v3 < 0) ∧ (¬ (1 < v3))) then ((if (v3 = 0) then ((zr h 154 v2) : Int32) else (zr h 155 v2)) : Int32) else (-1)) : Int32) else (-1))] h Q := fun hs => by
    exact zg_ret zd_249 rfl rfl (hF hs)
  refine zg_b_eq zd_249 rfl (fun (hc : ¬ (¬ (w0 < w1) ∧ (¬ ((w2 - 1) < w0)))) => ?_) (fun (hc : (¬ (w0 < w1) ∧ (¬ ((w2 - 1) < w0)))) => ?_)
  · have ho := hom.2 hc
    rw [show ((if (¬ (w0 < w1) ∧ (¬ ((w2 - 1) < w0))) then ((if (¬ (v3 < 0) ∧ (¬ (1 < v3))) then ((if (v3 = 0) then ((zr h 154 v2) : Int32) else (zr h 155 v2)) : Int32) else (-1)) : Int32) else (-1)) : Int32) = (-1) from if_neg hc] at K155
    refine zg_blk zd_249 1 hs (rfl : zb x zT0 zc_249 1 (46, [some (.ref 92), o1, some (.int v2), some (.int v3)], [], h) = some (47, [some (.ref 92), o1, some (.int v2), some (.int v3)], [.int (-1)], h)) (fun hs => ?_)
    exact K155 hs
  · have ho := hom.1 hc
    rw [show ((if (¬ (w0 < w1) ∧ (¬ ((w2 - 1) < w0))) then ((if (¬ (v3 < 0) ∧ (¬ (1 < v3))) then ((if (v3 = 0) then ((zr h 154 v2) : Int32) else (zr h 155 v2)) : Int32) else (-1)) : Int32) else (-1)) : Int32) = (if (¬ (v3 < 0) ∧ (¬ (1 < v3))) then ((if (v3 = 0) then ((zr h 154 v2) : Int32) else (zr h 155 v2)) : Int32) else (-1)) from if_pos hc] at K155
    refine zg_blk zd_249 3 hs (rfl : zb x zT0 zc_249 3 (15, [some (.ref 92), o1, some (.int v2), some (.int v3)], [], h) = some (18, [some (.ref 92), o1, some (.int v2), some (.int v3)], [.int 1, .int 0, .int v3], h)) (fun hs => ?_)
    refine zg_call hs zd_249 rfl rfl rfl rfl (as := [.int v3, .int 0, .int 1]) (rest := []) (en := [some (.int v3), some (.int 0), some (.int 1)]) rfl rfl rfl rfl rfl ?_
    refine f_M_in_t v3 0 1 h hs trivial ?_
    show zg x (d + 5) 249 21 [some (.ref 92), o1, some (.int v2), some (.int v3)] [.int (if (¬ (v3 < 0) ∧ (¬ (1 < v3))) then (1 : Int32) else 0)] h Q
    refine zg_b_eq zd_249 rfl (fun (hc : ¬ (¬ (v3 < 0) ∧ (¬ (1 < v3)))) => ?_) (fun (hc : (¬ (v3 < 0) ∧ (¬ (1 < v3)))) => ?_)
    · have ho := ho.2 hc
      rw [show ((if (¬ (v3 < 0) ∧ (¬ (1 < v3))) then ((if (v3 = 0) then ((zr h 154 v2) : Int32) else (zr h 155 v2)) : Int32) else (-1)) : Int32) = (-1) from if_neg hc] at K155
      refine zg_blk zd_249 1 hs (rfl : zb x zT0 zc_249 1 (46, [some (.ref 92), o1, some (.int v2), some (.int v3)], [], h) = some (47, [some (.ref 92), o1, some (.int v2), some (.int v3)], [.int (-1)], h)) (fun hs => ?_)
      exact K155 hs
    · have ho := ho.1 hc
      rw [show ((if (¬ (v3 < 0) ∧ (¬ (1 < v3))) then ((if (v3 = 0) then ((zr h 154 v2) : Int32) else (zr h 155 v2)) : Int32) else (-1)) : Int32) = (if (v3 = 0) then ((zr h 154 v2) : Int32) else (zr h 155 v2)) from if_pos hc] at K155
      refine zg_blk zd_249 1 hs (rfl : zb x zT0 zc_249 1 (24, [some (.ref 92), o1, some (.int v2), some (.int v3)], [], h) = some (25, [some (.ref 92), o1, some (.int v2), some (.int v3)], [.int v3], h)) (fun hs => ?_)
      refine zg_f_ne zd_249 rfl (fun (hc : ¬ (v3 = 0)) => ?_) (fun (hc : (v3 = 0)) => ?_)
      · have ho := ho.2 hc
        rw [show ((if (v3 = 0) then ((zr h 154 v2) : Int32) else (zr h 155 v2)) : Int32) = (zr h 155 v2) from if_neg hc] at K155
        refine zg_blk zd_249 3 hs (rfl : zb x zT0 zc_249 3 (37, [some (.ref 92), o1, some (.int v2), some (.int v3)], [], h) = some (42, [some (.ref 92), o1, some (.int v2), some (.int v3)], [.int v2, .ref 155], h)) (fun hs => ?_)
        have hob := ho
        refine zg_ial hs zd_249 rfl rfl hob ?_
        refine zg_blk zd_249 1 hs (rfl : zb x zT0 zc_249 1 (43, [some (.ref 92), o1, some (.int v2), some (.int v3)], [.int (zr h 155 v2)], h) = some (47, [some (.ref 92), o1, some (.int v2), some (.int v3)], [.int (zr h 155 v2)], h)) (fun hs => ?_)
        exact K155 hs
      · have ho := ho.1 hc
        rw [show ((if (v3 = 0) then ((zr h 154 v2) : Int32) else (zr h 155 v2)) : Int32) = (zr h 154 v2) from if_pos hc] at K155
        refine zg_blk zd_249 3 hs (rfl : zb x zT0 zc_249 3 (28, [some (.ref 92), o1, some (.int v2), some (.int v3)], [], h) = some (33, [some (.ref 92), o1, some (.int v2), some (.int v3)], [.int v2, .ref 154], h)) (fun hs => ?_)
        have hob := ho
        refine zg_ial hs zd_249 rfl rfl hob ?_
        refine zg_blk zd_249 1 hs (rfl : zb x zT0 zc_249 1 (34, [some (.ref 92), o1, some (.int v2), some (.int v3)], [.int (zr h 154 v2)], h) = some (47, [some (.ref 92), o1, some (.int v2), some (.int v3)], [.int (zr h 154 v2)], h)) (fun hs => ?_)
        exact K155 hs
set_option maxRecDepth 100000 in
set_option maxHeartbeats 400000 in
theorem f_M_window_t {x : zm_X} {d : Nat} (p1 : Int32) (p2 : Int32) (p3 : Int32) (h : zm_H) {Q : Option Value → zm_H → Prop} (hs : zSh zT0 h) (ho : f_M_window_ok p1 p2 p3 h) (hF : (zSh zT0 (f_M_window p1 p2 p3 h).2 → Q (some (.int (f_M_window p1 p2 p3 h).1)) (f_M_window p1 p2 p3 h).2)) : zg x (d + 5) 249 0 [some (.ref 92), some (.int p1), some (.int p2), some (.int p3)] [] h Q := by
  unfold f_M_window at hF
  unfold f_M_window_ok at ho
  refine zg_blk zd_249 4 hs (rfl : zb x zT0 zc_249 4 (0, [some (.ref 92), some (.int p1), some (.int p2), some (.int p3)], [], h) = some (4, [some (.ref 92), some (.int p1), some (.int p2), some (.int p3)], [.int p1, .ref 92, .int 0, .int p2], h)) (fun hs => ?_)
  obtain ⟨hob, ho⟩ := ho
  refine zg_call hs zd_249 rfl rfl rfl rfl (as := [.ref 92, .int p1]) (rest := [.int 0, .int p2]) (en := [some (.ref 92), some (.int p1), none, none, none, none]) rfl rfl rfl rfl rfl ?_
  refine f_M_windows_t p1 h hs hob (fun hs => ?_)
  show zg x (d + 5) 249 7 [some (.ref 92), some (.int p1), some (.int p2), some (.int p3)] [.int (f_M_windows p1 h).1, .int 0, .int p2] (f_M_windows p1 h).2 Q
  exact f_M_window_k7_t p2 p3 p2 0 (f_M_windows p1 h).1 (f_M_windows p1 h).2 (some (.int p1)) hs ho hF
theorem zd_161 : zm_cd 161 = zc_161 := by rfl
theorem zd_61 : zm_cd 61 = zc_61 := by rfl
theorem zd_62 : zm_cd 62 = zc_62 := by rfl
set_option maxRecDepth 100000 in
set_option maxHeartbeats 400000 in
theorem f_Planner_measureSets_l2_l12_b_t {x : zm_X} {d : Nat} (v1 : Int32) (v2 : Int32) (h : zm_H) {Q : Option Value → zm_H → Prop} {FN : Nat × Int32 × zm_H → Prop} (hs : zSh zT0 h) (ho : f_Planner_measureSets_l2_l12_b_ok v1 v2 h) (hF : FN (f_Planner_measureSets_l2_l12_b v1 v2 h)) (hl0 : ∀ (v2 : Int32) (h : zm_H), zSh zT0 h → FN (0, v2, h) → zg x (d + 1) 62 12 [some (.ref 72), some (.int v1), some (.int v2)] [] h Q) (hl1 : ∀ (v2 : Int32) (h : zm_H) (o2 : Option Value), zSh zT0 h → FN (1, v2, h) → zg x (d + 1) 62 71 [some (.ref 72), some (.int v1), o2] [] h Q) : zg x (d + 1) 62 12 [some (.ref 72), some (.int v1), some (.int v2)] [] h Q := by
  unfold f_Planner_measureSets_l2_l12_b at hF
  unfold f_Planner_measureSets_l2_l12_b_ok at ho
  refine zg_blk zd_62 4 hs (rfl : zb x zT0 zc_62 4 (12, [some (.ref 72), some (.int v1), some (.int v2)], [], h) = some (16, [some (.ref 72), some (.int v1), some (.int v2)], [.int (1 <<< (v1 &&& 31)), .int v2], h)) (fun hs => ?_)
  refine zg_i_ge zd_62 rfl (fun (hc : ((1 <<< (v1 &&& 31)) ≤ v2)) => ?_) (fun (hc : ¬ ((1 <<< (v1 &&& 31)) ≤ v2)) => ?_)
  · have ho := ho.1 hc
    rw [if_pos hc] at hF
    exact hl1 v2 h (some (.int v2)) hs hF
  · have ho := ho.2 hc
    rw [if_neg hc] at hF
    refine zg_blk zd_62 10 hs (rfl : zb x zT0 zc_62 10 (19, [some (.ref 72), some (.int v1), some (.int v2)], [], h) = some (33, [some (.ref 72), some (.int v1), some (.int v2)], [.int v2, .ref 78, .int (v2 ||| (1 <<< (v1 &&& 31))), .ref 78], h)) (fun hs => ?_)
    obtain ⟨hob, ho⟩ := ho
    refine zg_ial hs zd_62 rfl rfl hob ?_
    refine zg_blk zd_62 3 hs (rfl : zb x zT0 zc_62 3 (34, [some (.ref 72), some (.int v1), some (.int v2)], [.int (zr h 78 v2), .int (v2 ||| (1 <<< (v1 &&& 31))), .ref 78], h) = some (39, [some (.ref 72), some (.int v1), some (.int v2)], [.int v1, .ref 73, .int (zr h 78 v2), .int (v2 ||| (1 <<< (v1 &&& 31))), .ref 78], h)) (fun hs => ?_)
    obtain ⟨hob, ho⟩ := ho
    refine zg_ial hs zd_62 rfl rfl hob ?_
    refine zg_blk zd_62 1 hs (rfl : zb x zT0 zc_62 1 (40, [some (.ref 72), some (.int v1), some (.int v2)], [.int (zr h 73 v1), .int (zr h 78 v2), .int (v2 ||| (1 <<< (v1 &&& 31))), .ref 78], h) = some (41, [some (.ref 72), some (.int v1), some (.int v2)], [.int ((zr h 78 v2) + (zr h 73 v1)), .int (v2 ||| (1 <<< (v1 &&& 31))), .ref 78], h)) (fun hs => ?_)
    obtain ⟨hob, ho⟩ := ho
    refine zg_ias hs zd_62 rfl rfl hob (fun hs => ?_)
    refine zg_blk zd_62 10 hs (rfl : zb x zT0 zc_62 10 (42, [some (.ref 72), some (.int v1), some (.int v2)], [], (zs h 78 (v2 ||| (1 <<< (v1 &&& 31))) ((zr h 78 v2) + (zr h 73 v1)))) = some (56, [some (.ref 72), some (.int v1), some (.int v2)], [.int v2, .ref 79, .int (v2 ||| (1 <<< (v1 &&& 31))), .ref 79], (zs h 78 (v2 ||| (1 <<< (v1 &&& 31))) ((zr h 78 v2) + (zr h 73 v1))))) (fun hs => ?_)
    obtain ⟨hob, ho⟩ := ho
    refine zg_ial hs zd_62 rfl rfl hob ?_
    refine zg_blk zd_62 3 hs (rfl : zb x zT0 zc_62 3 (57, [some (.ref 72), some (.int v1), some (.int v2)], [.int (zr h 79 v2), .int (v2 ||| (1 <<< (v1 &&& 31))), .ref 79], (zs h 78 (v2 ||| (1 <<< (v1 &&& 31))) ((zr h 78 v2) + (zr h 73 v1)))) = some (62, [some (.ref 72), some (.int v1), some (.int v2)], [.int v1, .ref 74, .int (zr h 79 v2), .int (v2 ||| (1 <<< (v1 &&& 31))), .ref 79], (zs h 78 (v2 ||| (1 <<< (v1 &&& 31))) ((zr h 78 v2) + (zr h 73 v1))))) (fun hs => ?_)
    obtain ⟨hob, ho⟩ := ho
    refine zg_ial hs zd_62 rfl rfl hob ?_
    refine zg_blk zd_62 1 hs (rfl : zb x zT0 zc_62 1 (63, [some (.ref 72), some (.int v1), some (.int v2)], [.int (zr h 74 v1), .int (zr h 79 v2), .int (v2 ||| (1 <<< (v1 &&& 31))), .ref 79], (zs h 78 (v2 ||| (1 <<< (v1 &&& 31))) ((zr h 78 v2) + (zr h 73 v1)))) = some (64, [some (.ref 72), some (.int v1), some (.int v2)], [.int ((zr h 79 v2) + (zr h 74 v1)), .int (v2 ||| (1 <<< (v1 &&& 31))), .ref 79], (zs h 78 (v2 ||| (1 <<< (v1 &&& 31))) ((zr h 78 v2) + (zr h 73 v1))))) (fun hs => ?_)
    have hob := ho
    refine zg_ias hs zd_62 rfl rfl hob (fun hs => ?_)
    refine zg_blk zd_62 2 hs (rfl : zb x zT0 zc_62 2 (65, [some (.ref 72), some (.int v1), some (.int v2)], [], (zs (zs h 78 (v2 ||| (1 <<< (v1 &&& 31))) ((zr h 78 v2) + (zr h 73 v1))) 79 (v2 ||| (1 <<< (v1 &&& 31))) ((zr h 79 v2) + (zr h 74 v1)))) = some (12, [some (.ref 72), some (.int v1), some (.int (v2 + 1))], [], (zs (zs h 78 (v2 ||| (1 <<< (v1 &&& 31))) ((zr h 78 v2) + (zr h 73 v1))) 79 (v2 ||| (1 <<< (v1 &&& 31))) ((zr h 79 v2) + (zr h 74 v1))))) (fun hs => ?_)
    exact hl0 (v2 + 1) (zs (zs h 78 (v2 ||| (1 <<< (v1 &&& 31))) ((zr h 78 v2) + (zr h 73 v1))) 79 (v2 ||| (1 <<< (v1 &&& 31))) ((zr h 79 v2) + (zr h 74 v1))) hs hF
theorem f_Planner_measureSets_l2_l12_t {x : zm_X} {d : Nat} (v1 : Int32) {Q : Option Value → zm_H → Prop} (G : Nat × Int32 × zm_H → Prop) (hx1 : ∀ (v2 : Int32) (h : zm_H) (o2 : Option Value), zSh zT0 h → G (1, v2, h) → zg x (d + 1) 62 71 [some (.ref 72), some (.int v1), o2] [] h Q) : ∀ (n : Nat) (v2 : Int32) (h : zm_H), zSh zT0 h → f_Planner_measureSets_l2_l12_ok v1 n (v2, h) → G (f_Planner_measureSets_l2_l12 v1 n (v2, h)) → zg x (d + 1) 62 12 [some (.ref 72), some (.int v1), some (.int v2)] [] h Q := by
  intro n
  induction n with
  | zero => intro v2 h hs ho hG; exact ho.elim
  | succ n ih =>
    intro v2 h hs ho hG
    refine f_Planner_measureSets_l2_l12_b_t (FN := fun r => (r.1 = 0 → f_Planner_measureSets_l2_l12_ok v1 n r.2) ∧ G (if r.1 = 0 then f_Planner_measureSets_l2_l12 v1 n r.2 else r)) v1 v2 h hs ho.1 ⟨ho.2, hG⟩ ?_ ?_
    · intro v2 h hs hF
      exact ih v2 h hs (hF.1 rfl) hF.2
    · intro v2 h o2 hs hF
      exact hx1 v2 h o2 hs hF.2

set_option maxRecDepth 100000 in
set_option maxHeartbeats 400000 in
theorem f_Planner_measureSets_l2_k71_t {x : zm_X} {d : Nat} (v1 : Int32) (h : zm_H) (o2 : Option Value) {Q : Option Value → zm_H → Prop} {FN : Nat × Int32 × zm_H → Prop} (hs : zSh zT0 h) (ho : f_Planner_measureSets_l2_k71_ok v1 h) (hF : FN (f_Planner_measureSets_l2_k71 v1 h)) (hl0 : ∀ (v1 : Int32) (h : zm_H) (o2 : Option Value), zSh zT0 h → FN (0, v1, h) → zg x (d + 1) 62 2 [some (.ref 72), some (.int v1), o2] [] h Q) (hl1 : ∀ (v1 : Int32) (h : zm_H) (o1 : Option Value) (o2 : Option Value), zSh zT0 h → FN (1, v1, h) → zg x (d + 1) 62 77 [some (.ref 72), o1, o2] [] h Q) : zg x (d + 1) 62 71 [some (.ref 72), some (.int v1), o2] [] h Q := by
  unfold f_Planner_measureSets_l2_k71 at hF
  unfold f_Planner_measureSets_l2_k71_ok at ho
  refine zg_blk zd_62 2 hs (rfl : zb x zT0 zc_62 2 (71, [some (.ref 72), some (.int v1), o2], [], h) = some (2, [some (.ref 72), some (.int (v1 + 1)), o2], [], h)) (fun hs => ?_)
  exact hl0 (v1 + 1) h (o2) hs hF
set_option maxRecDepth 100000 in
set_option maxHeartbeats 400000 in
theorem f_Planner_measureSets_l2_b_t {x : zm_X} {d : Nat} (v1 : Int32) (h : zm_H) (o2 : Option Value) {Q : Option Value → zm_H → Prop} {FN : Nat × Int32 × zm_H → Prop} (hs : zSh zT0 h) (ho : f_Planner_measureSets_l2_b_ok v1 h) (hF : FN (f_Planner_measureSets_l2_b v1 h)) (hl0 : ∀ (v1 : Int32) (h : zm_H) (o2 : Option Value), zSh zT0 h → FN (0, v1, h) → zg x (d + 1) 62 2 [some (.ref 72), some (.int v1), o2] [] h Q) (hl1 : ∀ (v1 : Int32) (h : zm_H) (o1 : Option Value) (o2 : Option Value), zSh zT0 h → FN (1, v1, h) → zg x (d + 1) 62 77 [some (.ref 72), o1, o2] [] h Q) : zg x (d + 1) 62 2 [some (.ref 72), some (.int v1), o2] [] h Q := by
  unfold f_Planner_measureSets_l2_b at hF
  unfold f_Planner_measureSets_l2_b_ok at ho
  refine zg_blk zd_62 3 hs (rfl : zb x zT0 zc_62 3 (2, [some (.ref 72), some (.int v1), o2], [], h) = some (7, [some (.ref 72), some (.int v1), o2], [.int (zf h 72 2), .int v1], h)) (fun hs => ?_)
  refine zg_i_ge zd_62 rfl (fun (hc : ((zf h 72 2) ≤ v1)) => ?_) (fun (hc : ¬ ((zf h 72 2) ≤ v1)) => ?_)
  · have ho := ho.1 hc
    rw [if_pos hc] at hF
    exact hl1 v1 h (some (.int v1)) (o2) hs hF
  · have ho := ho.2 hc
    rw [if_neg hc] at hF
    refine zg_blk zd_62 2 hs (rfl : zb x zT0 zc_62 2 (10, [some (.ref 72), some (.int v1), o2], [], h) = some (12, [some (.ref 72), some (.int v1), some (.int 0)], [], h)) (fun hs => ?_)
    refine f_Planner_measureSets_l2_l12_t v1 (fun r => f_Planner_measureSets_l2_a12_ok v1 r ∧ FN (f_Planner_measureSets_l2_a12 v1 r)) ?_ zF 0 h hs ho.1 ⟨ho.2, hF⟩
    · intro v2_ h_ o2_ hs hG
      have ho : True := trivial
      have hF : FN ((f_Planner_measureSets_l2_k71 v1 h_)) := hG.2
      exact f_Planner_measureSets_l2_k71_t v1 h_ (o2_) hs trivial hF hl0 hl1
theorem f_Planner_measureSets_l2_t {x : zm_X} {d : Nat} {Q : Option Value → zm_H → Prop} (G : Nat × Int32 × zm_H → Prop) (hx1 : ∀ (v1 : Int32) (h : zm_H) (o1 : Option Value) (o2 : Option Value), zSh zT0 h → G (1, v1, h) → zg x (d + 1) 62 77 [some (.ref 72), o1, o2] [] h Q) : ∀ (n : Nat) (v1 : Int32) (h : zm_H) (o2 : Option Value), zSh zT0 h → f_Planner_measureSets_l2_ok n (v1, h) → G (f_Planner_measureSets_l2 n (v1, h)) → zg x (d + 1) 62 2 [some (.ref 72), some (.int v1), o2] [] h Q := by
  intro n
  induction n with
  | zero => intro v1 h o2 hs ho hG; exact ho.elim
  | succ n ih =>
    intro v1 h o2 hs ho hG
    refine f_Planner_measureSets_l2_b_t (FN := fun r => (r.1 = 0 → f_Planner_measureSets_l2_ok n r.2) ∧ G (if r.1 = 0 then f_Planner_measureSets_l2 n r.2 else r)) v1 h o2 hs ho.1 ⟨ho.2, hG⟩ ?_ ?_
    · intro v1 h o2 hs hF
      exact ih v1 h o2 hs (hF.1 rfl) hF.2
    · intro v1 h o1 o2 hs hF
      exact hx1 v1 h o1 o2 hs hF.2

set_option maxRecDepth 100000 in
set_option maxHeartbeats 400000 in
theorem f_Planner_measureSets_k77_t {x : zm_X} {d : Nat} (h : zm_H) (o0 : Option Value) (o1 : Option Value) (o2 : Option Value) {Q : Option Value → zm_H → Prop} (hs : zSh zT0 h) (ho : f_Planner_measureSets_k77_ok h) (hF : (zSh zT0 (f_Planner_measureSets_k77 h) → Q none (f_Planner_measureSets_k77 h))) : zg x (d + 1) 62 77 [o0, o1, o2] [] h Q := by
  unfold f_Planner_measureSets_k77 at hF
  unfold f_Planner_measureSets_k77_ok at ho
  exact zg_ret zd_62 rfl rfl (hF hs)
set_option maxRecDepth 100000 in
set_option maxHeartbeats 400000 in
theorem f_Planner_measureSets_t {x : zm_X} {d : Nat} (h : zm_H) {Q : Option Value → zm_H → Prop} (hs : zSh zT0 h) (ho : f_Planner_measureSets_ok h) (hF : (zSh zT0 (f_Planner_measureSets h) → Q none (f_Planner_measureSets h))) : zg x (d + 1) 62 0 [some (.ref 72), none, none] [] h Q := by
  unfold f_Planner_measureSets at hF
  unfold f_Planner_measureSets_ok at ho
  refine zg_blk zd_62 2 hs (rfl : zb x zT0 zc_62 2 (0, [some (.ref 72), none, none], [], h) = some (2, [some (.ref 72), some (.int 0), none], [], h)) (fun hs => ?_)
  refine f_Planner_measureSets_l2_t  (fun r => f_Planner_measureSets_a2_ok r ∧ (zSh zT0 (f_Planner_measureSets_a2 r) → Q none (f_Planner_measureSets_a2 r))) ?_ zF 0 h (none) hs ho.1 ⟨ho.2, hF⟩
  · intro v1_ h_ o1_ o2_ hs hG
    have ho : True := trivial
    have hF : (zSh zT0 ((f_Planner_measureSets_k77 h_)) → Q none ((f_Planner_measureSets_k77 h_))) := hG.2
    exact f_Planner_measureSets_k77_t h_ (some (.ref 72)) (o1_) (o2_) hs trivial hF
theorem zd_63 : zm_cd 63 = zc_63 := by rfl
theorem zd_64 : zm_cd 64 = zc_64 := by rfl
set_option maxRecDepth 100000 in
set_option maxHeartbeats 400000 in
theorem f_Arrays_fill_80_l5_b_t {x : zm_X} {d : Nat} (v1 : Int32) (v2 : Int32) (v3 : Int32) (h : zm_H) {Q : Option Value → zm_H → Prop} {FN : Nat × Int32 × zm_H → Prop} (hs : zSh zT0 h) (ho : f_Arrays_fill_80_l5_b_ok v1 v2 v3 h) (hF : FN (f_Arrays_fill_80_l5_b v1 v2 v3 h)) (hl0 : ∀ (v2 : Int32) (h : zm_H), zSh zT0 h → FN (0, v2, h) → zg x (d + 1) 265 5 [some (.ref 80), some (.int v1), some (.int v2), some (.int v3)] [] h Q) (hl1 : ∀ (v2 : Int32) (h : zm_H) (o2 : Option Value), zSh zT0 h → FN (1, v2, h) → zg x (d + 1) 265 20 [some (.ref 80), some (.int v1), o2, some (.int v3)] [] h Q) : zg x (d + 1) 265 5 [some (.ref 80), some (.int v1), some (.int v2), some (.int v3)] [] h Q := by
  unfold f_Arrays_fill_80_l5_b at hF
  unfold f_Arrays_fill_80_l5_b_ok at ho
  refine zg_blk zd_265 2 hs (rfl : zb x zT0 zc_265 2 (5, [some (.ref 80), some (.int v1), some (.int v2), some (.int v3)], [], h) = some (7, [some (.ref 80), some (.int v1), some (.int v2), some (.int v3)], [.int v3, .int v2], h)) (fun hs => ?_)
  refine zg_i_ge zd_265 rfl (fun (hc : (v3 ≤ v2)) => ?_) (fun (hc : ¬ (v3 ≤ v2)) => ?_)
  · have ho := ho.1 hc
    rw [if_pos hc] at hF
    exact hl1 v2 h (some (.int v2)) hs hF
  · have ho := ho.2 hc
    rw [if_neg hc] at hF
    refine zg_blk zd_265 3 hs (rfl : zb x zT0 zc_265 3 (10, [some (.ref 80), some (.int v1), some (.int v2), some (.int v3)], [], h) = some (13, [some (.ref 80), some (.int v1), some (.int v2), some (.int v3)], [.int v1, .int v2, .ref 80], h)) (fun hs => ?_)
    have hob := ho
    refine zg_ias hs zd_265 rfl rfl hob (fun hs => ?_)
    refine zg_blk zd_265 2 hs (rfl : zb x zT0 zc_265 2 (14, [some (.ref 80), some (.int v1), some (.int v2), some (.int v3)], [], (zs h 80 v2 v1)) = some (5, [some (.ref 80), some (.int v1), some (.int (v2 + 1)), some (.int v3)], [], (zs h 80 v2 v1))) (fun hs => ?_)
    exact hl0 (v2 + 1) (zs h 80 v2 v1) hs hF
theorem f_Arrays_fill_80_l5_t {x : zm_X} {d : Nat} (v1 : Int32) (v3 : Int32) {Q : Option Value → zm_H → Prop} (G : Nat × Int32 × zm_H → Prop) (hx1 : ∀ (v2 : Int32) (h : zm_H) (o2 : Option Value), zSh zT0 h → G (1, v2, h) → zg x (d + 1) 265 20 [some (.ref 80), some (.int v1), o2, some (.int v3)] [] h Q) : ∀ (n : Nat) (v2 : Int32) (h : zm_H), zSh zT0 h → f_Arrays_fill_80_l5_ok v1 v3 n (v2, h) → G (f_Arrays_fill_80_l5 v1 v3 n (v2, h)) → zg x (d + 1) 265 5 [some (.ref 80), some (.int v1), some (.int v2), some (.int v3)] [] h Q := by
  intro n
  induction n with
  | zero => intro v2 h hs ho hG; exact ho.elim
  | succ n ih =>
    intro v2 h hs ho hG
    refine f_Arrays_fill_80_l5_b_t (FN := fun r => (r.1 = 0 → f_Arrays_fill_80_l5_ok v1 v3 n r.2) ∧ G (if r.1 = 0 then f_Arrays_fill_80_l5 v1 v3 n r.2 else r)) v1 v2 v3 h hs ho.1 ⟨ho.2, hG⟩ ?_ ?_
    · intro v2 h hs hF
      exact ih v2 h hs (hF.1 rfl) hF.2
    · intro v2 h o2 hs hF
      exact hx1 v2 h o2 hs hF.2

set_option maxRecDepth 100000 in
set_option maxHeartbeats 400000 in
theorem f_Arrays_fill_80_k20_t {x : zm_X} {d : Nat} (h : zm_H) (o0 : Option Value) (z1 : Int32) (o2 : Option Value) (o3 : Option Value) {Q : Option Value → zm_H → Prop} (hs : zSh zT0 h) (ho : f_Arrays_fill_80_k20_ok h) (hF : (zSh zT0 (f_Arrays_fill_80_k20 h) → Q none (f_Arrays_fill_80_k20 h))) : zg x (d + 1) 265 20 [o0, some (.int z1), o2, o3] [] h Q := by
  unfold f_Arrays_fill_80_k20 at hF
  unfold f_Arrays_fill_80_k20_ok at ho
  exact zg_ret zd_265 rfl rfl (hF hs)
set_option maxRecDepth 100000 in
set_option maxHeartbeats 400000 in
theorem f_Arrays_fill_80_t {x : zm_X} {d : Nat} (p1 : Int32) (h : zm_H) {Q : Option Value → zm_H → Prop} (hs : zSh zT0 h) (ho : f_Arrays_fill_80_ok p1 h) (hF : (zSh zT0 (f_Arrays_fill_80 p1 h) → Q none (f_Arrays_fill_80 p1 h))) : zg x (d + 1) 265 0 [some (.ref 80), some (.int p1), none, none] [] h Q := by
  unfold f_Arrays_fill_80 at hF
  unfold f_Arrays_fill_80_ok at ho
  refine zg_blk zd_265 5 hs (rfl : zb x zT0 zc_265 5 (0, [some (.ref 80), some (.int p1), none, none], [], h) = some (5, [some (.ref 80), some (.int p1), some (.int 0), some (.int (Int32.ofNat 64))], [], h)) (fun hs => ?_)
  refine f_Arrays_fill_80_l5_t p1 (Int32.ofNat 64) (fun r => f_Arrays_fill_80_a5_ok r ∧ (zSh zT0 (f_Arrays_fill_80_a5 r) → Q none (f_Arrays_fill_80_a5 r))) ?_ zF 0 h hs ho.1 ⟨ho.2, hF⟩
  · intro v2_ h_ o2_ hs hG
    have ho : True := trivial
    have hF : (zSh zT0 ((f_Arrays_fill_80_k20 h_)) → Q none ((f_Arrays_fill_80_k20 h_))) := hG.2
    exact f_Arrays_fill_80_k20_t h_ (some (.ref 80)) p1 (o2_) (some (.int (Int32.ofNat 64))) hs trivial hF
theorem zd_65 : zm_cd 65 = zc_65 := by rfl
set_option maxRecDepth 100000 in
set_option maxHeartbeats 400000 in
theorem f_Planner_goesInWith_l2_k30_t {x : zm_X} {d : Nat} (v1 : Int32) (v2 : Int32) (v3 : Int32) (h : zm_H) {Q : Option Value → zm_H → Prop} {FN : Nat × Int32 → Prop} (hs : zSh zT0 h) (ho : f_Planner_goesInWith_l2_k30_ok v1 v2 v3 h) (hF : FN (f_Planner_goesInWith_l2_k30 v1 v2 v3 h)) (hl0 : ∀ (v3 : Int32), zSh zT0 h → FN (0, v3) → zg x (d + 1) 65 2 [some (.ref 72), some (.int v1), some (.int v2), some (.int v3)] [] h Q) (hl1 : ∀ (v3 : Int32) (o3 : Option Value), zSh zT0 h → FN (1, v3) → zg x (d + 1) 65 28 [some (.ref 72), some (.int v1), some (.int v2), o3] [] h Q) (hl2 : ∀ (v3 : Int32) (o3 : Option Value), zSh zT0 h → FN (2, v3) → zg x (d + 1) 65 39 [some (.ref 72), some (.int v1), some (.int v2), o3] [] h Q) : zg x (d + 1) 65 30 [some (.ref 72), some (.int v1), some (.int v2), some (.int v3)] [] h Q := by
  unfold f_Planner_goesInWith_l2_k30 at hF
  unfold f_Planner_goesInWith_l2_k30_ok at ho
  refine zg_blk zd_65 7 hs (rfl : zb x zT0 zc_65 7 (30, [some (.ref 72), some (.int v1), some (.int v2), some (.int v3)], [], h) = some (2, [some (.ref 72), some (.int v1), some (.int v2), some (.int ((v3 - 1) &&& v1))], [], h)) (fun hs => ?_)
  exact hl0 ((v3 - 1) &&& v1) hs hF
set_option maxRecDepth 100000 in
set_option maxHeartbeats 400000 in
theorem f_Planner_goesInWith_l2_b_t {x : zm_X} {d : Nat} (v1 : Int32) (v2 : Int32) (v3 : Int32) (h : zm_H) {Q : Option Value → zm_H → Prop} {FN : Nat × Int32 → Prop} (hs : zSh zT0 h) (ho : f_Planner_goesInWith_l2_b_ok v1 v2 v3 h) (hF : FN (f_Planner_goesInWith_l2_b v1 v2 v3 h)) (hl0 : ∀ (v3 : Int32), zSh zT0 h → FN (0, v3) → zg x (d + 1) 65 2 [some (.ref 72), some (.int v1), some (.int v2), some (.int v3)] [] h Q) (hl1 : ∀ (v3 : Int32) (o3 : Option Value), zSh zT0 h → FN (1, v3) → zg x (d + 1) 65 28 [some (.ref 72), some (.int v1), some (.int v2), o3] [] h Q) (hl2 : ∀ (v3 : Int32) (o3 : Option Value), zSh zT0 h → FN (2, v3) → zg x (d + 1) 65 39 [some (.ref 72), some (.int v1), some (.int v2), o3] [] h Q) : zg x (d + 1) 65 2 [some (.ref 72), some (.int v1), some (.int v2), some (.int v3)] [] h Q := by
  unfold f_Planner_goesInWith_l2_b at hF
  unfold f_Planner_goesInWith_l2_b_ok at ho
  refine zg_blk zd_65 1 hs (rfl : zb x zT0 zc_65 1 (2, [some (.ref 72), some (.int v1), some (.int v2), some (.int v3)], [], h) = some (3, [some (.ref 72), some (.int v1), some (.int v2), some (.int v3)], [.int v3], h)) (fun hs => ?_)
  refine zg_f_le zd_65 rfl (fun (hc : (v3 ≤ 0)) => ?_) (fun (hc : ¬ (v3 ≤ 0)) => ?_)
  · have ho := ho.1 hc
    rw [if_pos hc] at hF
    exact hl2 v3 (some (.int v3)) hs hF
  · have ho := ho.2 hc
    rw [if_neg hc] at hF
    refine zg_blk zd_65 3 hs (rfl : zb x zT0 zc_65 3 (6, [some (.ref 72), some (.int v1), some (.int v2), some (.int v3)], [], h) = some (11, [some (.ref 72), some (.int v1), some (.int v2), some (.int v3)], [.int v3, .ref 78], h)) (fun hs => ?_)
    obtain ⟨hob, ho⟩ := ho
    refine zg_ial hs zd_65 rfl rfl hob ?_
    refine zg_blk zd_65 1 hs (rfl : zb x zT0 zc_65 1 (12, [some (.ref 72), some (.int v1), some (.int v2), some (.int v3)], [.int (zr h 78 v3)], h) = some (13, [some (.ref 72), some (.int v1), some (.int v2), some (.int v3)], [.int v2, .int (zr h 78 v3)], h)) (fun hs => ?_)
    refine zg_i_gt zd_65 rfl (fun (hc : (v2 < (zr h 78 v3))) => ?_) (fun (hc : ¬ (v2 < (zr h 78 v3))) => ?_)
    · have ho := ho.1 hc
      rw [if_pos hc] at hF
      exact f_Planner_goesInWith_l2_k30_t v1 v2 v3 h hs trivial hF hl0 hl1 hl2
    · have ho := ho.2 hc
      rw [if_neg hc] at hF
      refine zg_blk zd_65 5 hs (rfl : zb x zT0 zc_65 5 (16, [some (.ref 72), some (.int v1), some (.int v2), some (.int v3)], [], h) = some (23, [some (.ref 72), some (.int v1), some (.int v2), some (.int v3)], [.int (v1 ^^^ v3), .ref 80], h)) (fun hs => ?_)
      have hob := ho
      refine zg_ial hs zd_65 rfl rfl hob ?_
      refine zg_blk zd_65 1 hs (rfl : zb x zT0 zc_65 1 (24, [some (.ref 72), some (.int v1), some (.int v2), some (.int v3)], [.int (zr h 80 (v1 ^^^ v3))], h) = some (25, [some (.ref 72), some (.int v1), some (.int v2), some (.int v3)], [.int 1, .int (zr h 80 (v1 ^^^ v3))], h)) (fun hs => ?_)
      refine zg_i_ne zd_65 rfl (fun (hc : ¬ ((zr h 80 (v1 ^^^ v3)) = 1)) => ?_) (fun (hc : ((zr h 80 (v1 ^^^ v3)) = 1)) => ?_)
      · skip
        rw [if_neg hc] at hF
        exact f_Planner_goesInWith_l2_k30_t v1 v2 v3 h hs trivial hF hl0 hl1 hl2
      · skip
        rw [if_pos hc] at hF
        exact hl1 v3 (some (.int v3)) hs hF
theorem f_Planner_goesInWith_l2_t {x : zm_X} {d : Nat} (v1 : Int32) (v2 : Int32) (h : zm_H) {Q : Option Value → zm_H → Prop} (G : Nat × Int32 → Prop) (hx1 : ∀ (v3 : Int32) (o3 : Option Value), zSh zT0 h → G (1, v3) → zg x (d + 1) 65 28 [some (.ref 72), some (.int v1), some (.int v2), o3] [] h Q) (hx2 : ∀ (v3 : Int32) (o3 : Option Value), zSh zT0 h → G (2, v3) → zg x (d + 1) 65 39 [some (.ref 72), some (.int v1), some (.int v2), o3] [] h Q) : ∀ (n : Nat) (v3 : Int32), zSh zT0 h → f_Planner_goesInWith_l2_ok v1 v2 h n v3 → G (f_Planner_goesInWith_l2 v1 v2 h n v3) → zg x (d + 1) 65 2 [some (.ref 72), some (.int v1), some (.int v2), some (.int v3)] [] h Q := by
  intro n
  induction n with
  | zero => intro v3 hs ho hG; exact ho.elim
  | succ n ih =>
    intro v3 hs ho hG
    refine f_Planner_goesInWith_l2_b_t (FN := fun r => (r.1 = 0 → f_Planner_goesInWith_l2_ok v1 v2 h n r.2) ∧ G (if r.1 = 0 then f_Planner_goesInWith_l2 v1 v2 h n r.2 else r)) v1 v2 v3 h hs ho.1 ⟨ho.2, hG⟩ ?_ ?_ ?_
    · intro v3 hs hF
      exact ih v3 hs (hF.1 rfl) hF.2
    · intro v3 o3 hs hF
      exact hx1 v3 o3 hs hF.2
    · intro v3 o3 hs hF
      exact hx2 v3 o3 hs hF.2

set_option maxRecDepth 100000 in
set_option maxHeartbeats 400000 in
theorem f_Planner_goesInWith_k28_t {x : zm_X} {d : Nat} (h : zm_H) (o0 : Option Value) (o1 : Option Value) (z2 : Int32) (o3 : Option Value) {Q : Option Value → zm_H → Prop} (hs : zSh zT0 h) (ho : f_Planner_goesInWith_k28_ok h) (hF : Q (some (.int (f_Planner_goesInWith_k28 h))) h) : zg x (d + 1) 65 28 [o0, o1, some (.int z2), o3] [] h Q := by
  unfold f_Planner_goesInWith_k28 at hF
  unfold f_Planner_goesInWith_k28_ok at ho
  refine zg_blk zd_65 1 hs (rfl : zb x zT0 zc_65 1 (28, [o0, o1, some (.int z2), o3], [], h) = some (29, [o0, o1, some (.int z2), o3], [.int 1], h)) (fun hs => ?_)
  exact zg_rtz zd_65 rfl rfl rfl hF
set_option maxRecDepth 100000 in
set_option maxHeartbeats 400000 in
theorem f_Planner_goesInWith_k39_t {x : zm_X} {d : Nat} (h : zm_H) (o0 : Option Value) (o1 : Option Value) (z2 : Int32) (o3 : Option Value) {Q : Option Value → zm_H → Prop} (hs : zSh zT0 h) (ho : f_Planner_goesInWith_k39_ok h) (hF : Q (some (.int (f_Planner_goesInWith_k39 h))) h) : zg x (d + 1) 65 39 [o0, o1, some (.int z2), o3] [] h Q := by
  unfold f_Planner_goesInWith_k39 at hF
  unfold f_Planner_goesInWith_k39_ok at ho
  refine zg_blk zd_65 1 hs (rfl : zb x zT0 zc_65 1 (39, [o0, o1, some (.int z2), o3], [], h) = some (40, [o0, o1, some (.int z2), o3], [.int 0], h)) (fun hs => ?_)
  exact zg_rtz zd_65 rfl rfl rfl hF
set_option maxRecDepth 100000 in
set_option maxHeartbeats 400000 in
theorem f_Planner_goesInWith_t {x : zm_X} {d : Nat} (p1 : Int32) (p2 : Int32) (h : zm_H) {Q : Option Value → zm_H → Prop} (hs : zSh zT0 h) (ho : f_Planner_goesInWith_ok p1 p2 h) (hF : Q (some (.int (f_Planner_goesInWith p1 p2 h))) h) : zg x (d + 1) 65 0 [some (.ref 72), some (.int p1), some (.int p2), none] [] h Q := by
  unfold f_Planner_goesInWith at hF
  unfold f_Planner_goesInWith_ok at ho
  refine zg_blk zd_65 2 hs (rfl : zb x zT0 zc_65 2 (0, [some (.ref 72), some (.int p1), some (.int p2), none], [], h) = some (2, [some (.ref 72), some (.int p1), some (.int p2), some (.int p1)], [], h)) (fun hs => ?_)
  refine f_Planner_goesInWith_l2_t p1 p2 h (fun r => f_Planner_goesInWith_a2_ok r h ∧ Q (some (.int (f_Planner_goesInWith_a2 r h))) h) ?_ ?_ zF p1 hs ho.1 ⟨ho.2, hF⟩
  · intro v3_ o3_ hs hG
    have ho : True := trivial
    have hF : Q (some (.int ((f_Planner_goesInWith_k28 h)))) h := hG.2
    exact f_Planner_goesInWith_k28_t h (some (.ref 72)) (some (.int p1)) p2 (o3_) hs trivial hF
  · intro v3_ o3_ hs hG
    have ho : True := trivial
    have hF : Q (some (.int ((f_Planner_goesInWith_k39 h)))) h := hG.2
    exact f_Planner_goesInWith_k39_t h (some (.ref 72)) (some (.int p1)) p2 (o3_) hs trivial hF
set_option maxRecDepth 100000 in
set_option maxHeartbeats 400000 in
theorem f_Planner_packFrom_l17_l36_b_t {x : zm_X} {d : Nat} (v1 : Int32) (v2 : Int32) (v3 : Int32) (h : zm_H) {Q : Option Value → zm_H → Prop} {FN : Nat × Int32 × zm_H → Prop} (hs : zSh zT0 h) (ho : f_Planner_packFrom_l17_l36_b_ok v1 v2 v3 h) (hF : FN (f_Planner_packFrom_l17_l36_b v1 v2 v3 h)) (hl0 : ∀ (v3 : Int32) (h : zm_H), zSh zT0 h → FN (0, v3, h) → zg x (d + 2) 64 36 [some (.ref 72), some (.int v1), some (.int v2), some (.int v3)] [] h Q) (hl1 : ∀ (v3 : Int32) (h : zm_H) (o3 : Option Value), zSh zT0 h → FN (1, v3, h) → zg x (d + 2) 64 79 [some (.ref 72), some (.int v1), some (.int v2), o3] [] h Q) : zg x (d + 2) 64 36 [some (.ref 72), some (.int v1), some (.int v2), some (.int v3)] [] h Q := by
  unfold f_Planner_packFrom_l17_l36_b at hF
  unfold f_Planner_packFrom_l17_l36_b_ok at ho
  refine zg_blk zd_64 1 hs (rfl : zb x zT0 zc_64 1 (36, [some (.ref 72), some (.int v1), some (.int v2), some (.int v3)], [], h) = some (37, [some (.ref 72), some (.int v1), some (.int v2), some (.int v3)], [.int v3], h)) (fun hs => ?_)
  refine zg_f_le zd_64 rfl (fun (hc : (v3 ≤ 0)) => ?_) (fun (hc : ¬ (v3 ≤ 0)) => ?_)
  · have ho := ho.1 hc
    rw [if_pos hc] at hF
    exact hl1 v3 h (some (.int v3)) hs hF
  · have ho := ho.2 hc
    rw [if_neg hc] at hF
    refine zg_blk zd_64 3 hs (rfl : zb x zT0 zc_64 3 (40, [some (.ref 72), some (.int v1), some (.int v2), some (.int v3)], [], h) = some (45, [some (.ref 72), some (.int v1), some (.int v2), some (.int v3)], [.int v3, .ref 80], h)) (fun hs => ?_)
    obtain ⟨hob, ho⟩ := ho
    refine zg_ial hs zd_64 rfl rfl hob ?_
    have hom := ho
    have K156 : zSh zT0 (if ((zr h 80 v3) = 0) then (if ((f_Planner_goesInWith v3 (zr h 77 v2) h) = 0) then h else (zs h 80 v3 1)) else h) → zg x (d + 2) 64 70 [some (.ref 72), some (.int v1), some (.int v2), some (.int v3)] [] (if ((zr h 80 v3) = 0) then (if ((f_Planner_goesInWith v3 (zr h 77 v2) h) = 0) then h else (zs h 80 v3 1)) else h) Q := fun hs => by
      refine zg_blk zd_64 7 hs (rfl : zb x zT0 zc_64 7 (70, [some (.ref 72), some (.int v1), some (.int v2), some (.int v3)], [], (if ((zr h 80 v3) = 0) then (if ((f_Planner_goesInWith v3 (zr h 77 v2) h) = 0) then h else (zs h 80 v3 1)) else h)) = some (36, [some (.ref 72), some (.int v1), some (.int v2), some (.int (v3 - (1 <<< (v1 &&& 31))))], [], (if ((zr h 80 v3) = 0) then (if ((f_Planner_goesInWith v3 (zr h 77 v2) h) = 0) then h else (zs h 80 v3 1)) else h))) (fun hs => ?_)
      exact hl0 (v3 - (1 <<< (v1 &&& 31))) (if ((zr h 80 v3) = 0) then (if ((f_Planner_goesInWith v3 (zr h 77 v2) h) = 0) then h else (zs h 80 v3 1)) else h) hs hF
    refine zg_f_ne zd_64 rfl (fun (hc : ¬ ((zr h 80 v3) = 0)) => ?_) (fun (hc : ((zr h 80 v3) = 0)) => ?_)
    · have ho := hom.2 hc
      rw [show (if ((zr h 80 v3) = 0) then (if ((f_Planner_goesInWith v3 (zr h 77 v2) h) = 0) then h else (zs h 80 v3 1)) else h) = h from if_neg hc] at K156
      exact K156 hs
    · have ho := hom.1 hc
      rw [show (if ((zr h 80 v3) = 0) then (if ((f_Planner_goesInWith v3 (zr h 77 v2) h) = 0) then h else (zs h 80 v3 1)) else h) = (if ((f_Planner_goesInWith v3 (zr h 77 v2) h) = 0) then h else (zs h 80 v3 1)) from if_pos hc] at K156
      refine zg_blk zd_64 5 hs (rfl : zb x zT0 zc_64 5 (49, [some (.ref 72), some (.int v1), some (.int v2), some (.int v3)], [], h) = some (56, [some (.ref 72), some (.int v1), some (.int v2), some (.int v3)], [.int v2, .ref 77, .int v3, .ref 72], h)) (fun hs => ?_)
      obtain ⟨hob, ho⟩ := ho
      refine zg_ial hs zd_64 rfl rfl hob ?_
      obtain ⟨hob, ho⟩ := ho
      refine zg_call hs zd_64 rfl rfl rfl rfl (as := [.ref 72, .int v3, .int (zr h 77 v2)]) (rest := []) (en := [some (.ref 72), some (.int v3), some (.int (zr h 77 v2)), none]) rfl rfl rfl rfl rfl ?_
      refine f_Planner_goesInWith_t v3 (zr h 77 v2) h hs hob ?_
      show zg x (d + 2) 64 60 [some (.ref 72), some (.int v1), some (.int v2), some (.int v3)] [.int (f_Planner_goesInWith v3 (zr h 77 v2) h)] h Q
      refine zg_f_eq zd_64 rfl (fun (hc : ((f_Planner_goesInWith v3 (zr h 77 v2) h) = 0)) => ?_) (fun (hc : ¬ ((f_Planner_goesInWith v3 (zr h 77 v2) h) = 0)) => ?_)
      · have ho := ho.1 hc
        rw [show (if ((f_Planner_goesInWith v3 (zr h 77 v2) h) = 0) then h else (zs h 80 v3 1)) = h from if_pos hc] at K156
        exact K156 hs
      · have ho := ho.2 hc
        rw [show (if ((f_Planner_goesInWith v3 (zr h 77 v2) h) = 0) then h else (zs h 80 v3 1)) = (zs h 80 v3 1) from if_neg hc] at K156
        refine zg_blk zd_64 4 hs (rfl : zb x zT0 zc_64 4 (63, [some (.ref 72), some (.int v1), some (.int v2), some (.int v3)], [], h) = some (69, [some (.ref 72), some (.int v1), some (.int v2), some (.int v3)], [.int 1, .int v3, .ref 80], h)) (fun hs => ?_)
        have hob := ho
        refine zg_ias hs zd_64 rfl rfl hob (fun hs => ?_)
        exact K156 hs
theorem f_Planner_packFrom_l17_l36_t {x : zm_X} {d : Nat} (v1 : Int32) (v2 : Int32) {Q : Option Value → zm_H → Prop} (G : Nat × Int32 × zm_H → Prop) (hx1 : ∀ (v3 : Int32) (h : zm_H) (o3 : Option Value), zSh zT0 h → G (1, v3, h) → zg x (d + 2) 64 79 [some (.ref 72), some (.int v1), some (.int v2), o3] [] h Q) : ∀ (n : Nat) (v3 : Int32) (h : zm_H), zSh zT0 h → f_Planner_packFrom_l17_l36_ok v1 v2 n (v3, h) → G (f_Planner_packFrom_l17_l36 v1 v2 n (v3, h)) → zg x (d + 2) 64 36 [some (.ref 72), some (.int v1), some (.int v2), some (.int v3)] [] h Q := by
  intro n
  induction n with
  | zero => intro v3 h hs ho hG; exact ho.elim
  | succ n ih =>
    intro v3 h hs ho hG
    refine f_Planner_packFrom_l17_l36_b_t (FN := fun r => (r.1 = 0 → f_Planner_packFrom_l17_l36_ok v1 v2 n r.2) ∧ G (if r.1 = 0 then f_Planner_packFrom_l17_l36 v1 v2 n r.2 else r)) v1 v2 v3 h hs ho.1 ⟨ho.2, hG⟩ ?_ ?_
    · intro v3 h hs hF
      exact ih v3 h hs (hF.1 rfl) hF.2
    · intro v3 h o3 hs hF
      exact hx1 v3 h o3 hs hF.2

set_option maxRecDepth 100000 in
set_option maxHeartbeats 400000 in
theorem f_Planner_packFrom_l17_k79_t {x : zm_X} {d : Nat} (v1 : Int32) (v2 : Int32) (h : zm_H) (o3 : Option Value) {Q : Option Value → zm_H → Prop} {FN : Nat × Int32 × zm_H → Prop} (hs : zSh zT0 h) (ho : f_Planner_packFrom_l17_k79_ok v1 v2 h) (hF : FN (f_Planner_packFrom_l17_k79 v1 v2 h)) (hl0 : ∀ (v2 : Int32) (h : zm_H) (o3 : Option Value), zSh zT0 h → FN (0, v2, h) → zg x (d + 2) 64 17 [some (.ref 72), some (.int v1), some (.int v2), o3] [] h Q) (hl1 : ∀ (v2 : Int32) (h : zm_H) (o2 : Option Value) (o3 : Option Value), zSh zT0 h → FN (1, v2, h) → zg x (d + 2) 64 85 [some (.ref 72), some (.int v1), o2, o3] [] h Q) : zg x (d + 2) 64 79 [some (.ref 72), some (.int v1), some (.int v2), o3] [] h Q := by
  unfold f_Planner_packFrom_l17_k79 at hF
  unfold f_Planner_packFrom_l17_k79_ok at ho
  refine zg_blk zd_64 2 hs (rfl : zb x zT0 zc_64 2 (79, [some (.ref 72), some (.int v1), some (.int v2), o3], [], h) = some (17, [some (.ref 72), some (.int v1), some (.int (v2 + 1)), o3], [], h)) (fun hs => ?_)
  exact hl0 (v2 + 1) h (o3) hs hF
set_option maxRecDepth 100000 in
set_option maxHeartbeats 400000 in
theorem f_Planner_packFrom_l17_b_t {x : zm_X} {d : Nat} (v1 : Int32) (v2 : Int32) (h : zm_H) (o3 : Option Value) {Q : Option Value → zm_H → Prop} {FN : Nat × Int32 × zm_H → Prop} (hs : zSh zT0 h) (ho : f_Planner_packFrom_l17_b_ok v1 v2 h) (hF : FN (f_Planner_packFrom_l17_b v1 v2 h)) (hl0 : ∀ (v2 : Int32) (h : zm_H) (o3 : Option Value), zSh zT0 h → FN (0, v2, h) → zg x (d + 2) 64 17 [some (.ref 72), some (.int v1), some (.int v2), o3] [] h Q) (hl1 : ∀ (v2 : Int32) (h : zm_H) (o2 : Option Value) (o3 : Option Value), zSh zT0 h → FN (1, v2, h) → zg x (d + 2) 64 85 [some (.ref 72), some (.int v1), o2, o3] [] h Q) : zg x (d + 2) 64 17 [some (.ref 72), some (.int v1), some (.int v2), o3] [] h Q := by
  unfold f_Planner_packFrom_l17_b at hF
  unfold f_Planner_packFrom_l17_b_ok at ho
  refine zg_blk zd_64 3 hs (rfl : zb x zT0 zc_64 3 (17, [some (.ref 72), some (.int v1), some (.int v2), o3], [], h) = some (22, [some (.ref 72), some (.int v1), some (.int v2), o3], [.int (zf h 72 5), .int v2], h)) (fun hs => ?_)
  refine zg_i_ge zd_64 rfl (fun (hc : ((zf h 72 5) ≤ v2)) => ?_) (fun (hc : ¬ ((zf h 72 5) ≤ v2)) => ?_)
  · have ho := ho.1 hc
    rw [if_pos hc] at hF
    exact hl1 v2 h (some (.int v2)) (o3) hs hF
  · have ho := ho.2 hc
    rw [if_neg hc] at hF
    refine zg_blk zd_64 9 hs (rfl : zb x zT0 zc_64 9 (25, [some (.ref 72), some (.int v1), some (.int v2), o3], [], h) = some (36, [some (.ref 72), some (.int v1), some (.int v2), some (.int ((1 <<< ((zf h 72 2) &&& 31)) - (1 <<< (v1 &&& 31))))], [], h)) (fun hs => ?_)
    refine f_Planner_packFrom_l17_l36_t v1 v2 (fun r => f_Planner_packFrom_l17_a36_ok v1 v2 r ∧ FN (f_Planner_packFrom_l17_a36 v1 v2 r)) ?_ zF ((1 <<< ((zf h 72 2) &&& 31)) - (1 <<< (v1 &&& 31))) h hs ho.1 ⟨ho.2, hF⟩
    · intro v3_ h_ o3_ hs hG
      have ho : True := trivial
      have hF : FN ((f_Planner_packFrom_l17_k79 v1 v2 h_)) := hG.2
      exact f_Planner_packFrom_l17_k79_t v1 v2 h_ (o3_) hs trivial hF hl0 hl1
theorem f_Planner_packFrom_l17_t {x : zm_X} {d : Nat} (v1 : Int32) {Q : Option Value → zm_H → Prop} (G : Nat × Int32 × zm_H → Prop) (hx1 : ∀ (v2 : Int32) (h : zm_H) (o2 : Option Value) (o3 : Option Value), zSh zT0 h → G (1, v2, h) → zg x (d + 2) 64 85 [some (.ref 72), some (.int v1), o2, o3] [] h Q) : ∀ (n : Nat) (v2 : Int32) (h : zm_H) (o3 : Option Value), zSh zT0 h → f_Planner_packFrom_l17_ok v1 n (v2, h) → G (f_Planner_packFrom_l17 v1 n (v2, h)) → zg x (d + 2) 64 17 [some (.ref 72), some (.int v1), some (.int v2), o3] [] h Q := by
  intro n
  induction n with
  | zero => intro v2 h o3 hs ho hG; exact ho.elim
  | succ n ih =>
    intro v2 h o3 hs ho hG
    refine f_Planner_packFrom_l17_b_t (FN := fun r => (r.1 = 0 → f_Planner_packFrom_l17_ok v1 n r.2) ∧ G (if r.1 = 0 then f_Planner_packFrom_l17 v1 n r.2 else r)) v1 v2 h o3 hs ho.1 ⟨ho.2, hG⟩ ?_ ?_
    · intro v2 h o3 hs hF
      exact ih v2 h o3 hs (hF.1 rfl) hF.2
    · intro v2 h o2 o3 hs hF
      exact hx1 v2 h o2 o3 hs hF.2

set_option maxRecDepth 100000 in
set_option maxHeartbeats 400000 in
theorem f_Planner_packFrom_k85_t {x : zm_X} {d : Nat} (h : zm_H) (o0 : Option Value) (z1 : Int32) (o2 : Option Value) (o3 : Option Value) {Q : Option Value → zm_H → Prop} (hs : zSh zT0 h) (ho : f_Planner_packFrom_k85_ok h) (hF : (zSh zT0 (f_Planner_packFrom_k85 h) → Q none (f_Planner_packFrom_k85 h))) : zg x (d + 2) 64 85 [o0, some (.int z1), o2, o3] [] h Q := by
  unfold f_Planner_packFrom_k85 at hF
  unfold f_Planner_packFrom_k85_ok at ho
  exact zg_ret zd_64 rfl rfl (hF hs)
set_option maxRecDepth 100000 in
set_option maxHeartbeats 400000 in
theorem f_Planner_packFrom_k8_t {x : zm_X} {d : Nat} (v1 : Int32) (h : zm_H) (o2 : Option Value) (o3 : Option Value) {Q : Option Value → zm_H → Prop} (hs : zSh zT0 h) (ho : f_Planner_packFrom_k8_ok v1 h) (hF : (zSh zT0 (f_Planner_packFrom_k8 v1 h) → Q none (f_Planner_packFrom_k8 v1 h))) : zg x (d + 2) 64 8 [some (.ref 72), some (.int v1), o2, o3] [] h Q := by
  unfold f_Planner_packFrom_k8 at hF
  unfold f_Planner_packFrom_k8_ok at ho
  refine zg_blk zd_64 4 hs (rfl : zb x zT0 zc_64 4 (8, [some (.ref 72), some (.int v1), o2, o3], [], h) = some (14, [some (.ref 72), some (.int v1), o2, o3], [.int 1, .int 0, .ref 80], h)) (fun hs => ?_)
  refine zg_ias hs zd_64 rfl rfl (by unfold vp_in; decide) (fun hs => ?_)
  refine zg_blk zd_64 2 hs (rfl : zb x zT0 zc_64 2 (15, [some (.ref 72), some (.int v1), o2, o3], [], (zs h 80 0 1)) = some (17, [some (.ref 72), some (.int v1), some (.int 0), o3], [], (zs h 80 0 1))) (fun hs => ?_)
  refine f_Planner_packFrom_l17_t v1 (fun r => f_Planner_packFrom_a17_ok r ∧ (zSh zT0 (f_Planner_packFrom_a17 r) → Q none (f_Planner_packFrom_a17 r))) ?_ zF 0 (zs h 80 0 1) (o3) hs ho.1 ⟨ho.2, hF⟩
  · intro v2_ h_ o2_ o3_ hs hG
    have ho : True := trivial
    have hF : (zSh zT0 ((f_Planner_packFrom_k85 h_)) → Q none ((f_Planner_packFrom_k85 h_))) := hG.2
    exact f_Planner_packFrom_k85_t h_ (some (.ref 72)) v1 (o2_) (o3_) hs trivial hF
set_option maxRecDepth 100000 in
set_option maxHeartbeats 400000 in
theorem f_Planner_packFrom_t {x : zm_X} {d : Nat} (p1 : Int32) (h : zm_H) {Q : Option Value → zm_H → Prop} (hs : zSh zT0 h) (ho : f_Planner_packFrom_ok p1 h) (hF : (zSh zT0 (f_Planner_packFrom p1 h) → Q none (f_Planner_packFrom p1 h))) : zg x (d + 2) 64 0 [some (.ref 72), some (.int p1), none, none] [] h Q := by
  unfold f_Planner_packFrom at hF
  unfold f_Planner_packFrom_ok at ho
  refine zg_blk zd_64 3 hs (rfl : zb x zT0 zc_64 3 (0, [some (.ref 72), some (.int p1), none, none], [], h) = some (5, [some (.ref 72), some (.int p1), none, none], [.int 0, .ref 80], h)) (fun hs => ?_)
  obtain ⟨hob, ho⟩ := ho
  refine zg_call hs zd_64 rfl rfl rfl rfl (as := [.ref 80, .int 0]) (rest := []) (en := [some (.ref 80), some (.int 0), none, none]) rfl rfl rfl rfl rfl ?_
  refine f_Arrays_fill_80_t 0 h hs hob (fun hs => ?_)
  show zg x (d + 2) 64 8 [some (.ref 72), some (.int p1), none, none] [] (f_Arrays_fill_80 0 h) Q
  exact f_Planner_packFrom_k8_t p1 (f_Arrays_fill_80 0 h) (none) (none) hs ho hF
set_option maxRecDepth 100000 in
set_option maxHeartbeats 400000 in
theorem f_Planner_findBest_l17_b_t {x : zm_X} {d : Nat} (v1 : Int32) (h : zm_H) (o2 : Option Value) {Q : Option Value → zm_H → Prop} {FN : Nat × Int32 × zm_H → Prop} (hs : zSh zT0 h) (ho : f_Planner_findBest_l17_b_ok v1 h) (hF : FN (f_Planner_findBest_l17_b v1 h)) (hl0 : ∀ (v1 : Int32) (h : zm_H) (o2 : Option Value), zSh zT0 h → FN (0, v1, h) → zg x (d + 3) 63 17 [some (.ref 72), some (.int v1), o2] [] h Q) (hl1 : ∀ (v1 : Int32) (h : zm_H) (o1 : Option Value) (o2 : Option Value), zSh zT0 h → FN (1, v1, h) → zg x (d + 3) 63 112 [some (.ref 72), o1, o2] [] h Q) : zg x (d + 3) 63 17 [some (.ref 72), some (.int v1), o2] [] h Q := by
  unfold f_Planner_findBest_l17_b at hF
  unfold f_Planner_findBest_l17_b_ok at ho
  refine zg_blk zd_63 5 hs (rfl : zb x zT0 zc_63 5 (17, [some (.ref 72), some (.int v1), o2], [], h) = some (24, [some (.ref 72), some (.int v1), o2], [.int (1 <<< ((zf h 72 2) &&& 31)), .int v1], h)) (fun hs => ?_)
  refine zg_i_ge zd_63 rfl (fun (hc : ((1 <<< ((zf h 72 2) &&& 31)) ≤ v1)) => ?_) (fun (hc : ¬ ((1 <<< ((zf h 72 2) &&& 31)) ≤ v1)) => ?_)
  · have ho := ho.1 hc
    rw [if_pos hc] at hF
    exact hl1 v1 h (some (.int v1)) (o2) hs hF
  · have ho := ho.2 hc
    rw [if_neg hc] at hF
    refine zg_blk zd_63 3 hs (rfl : zb x zT0 zc_63 3 (27, [some (.ref 72), some (.int v1), o2], [], h) = some (32, [some (.ref 72), some (.int v1), o2], [.int v1, .ref 79], h)) (fun hs => ?_)
    obtain ⟨hob, ho⟩ := ho
    refine zg_ial hs zd_63 rfl rfl hob ?_
    refine zg_blk zd_63 2 hs (rfl : zb x zT0 zc_63 2 (33, [some (.ref 72), some (.int v1), o2], [.int (zr h 79 v1)], h) = some (37, [some (.ref 72), some (.int v1), o2], [.int (zf h 72 12), .int (zr h 79 v1)], h)) (fun hs => ?_)
    obtain ⟨hom, ho⟩ := ho
    have K157 : zSh zT0 h → zg x (d + 3) 63 71 [some (.ref 72), some (.int v1), o2] [.int (if (((zf h 72 12) < (zr h 79 v1)) ∨ (((zr h 79 v1) = (zf h 72 12)) ∧ (¬ ((zf h 72 13) ≤ (zr h 78 v1))))) then (1 : Int32) else 0)] h Q := fun hs => by
      refine zg_blk zd_63 4 hs (rfl : zb x zT0 zc_63 4 (71, [some (.ref 72), some (.int v1), o2], [.int (if (((zf h 72 12) < (zr h 79 v1)) ∨ (((zr h 79 v1) = (zf h 72 12)) ∧ (¬ ((zf h 72 13) ≤ (zr h 78 v1))))) then (1 : Int32) else 0)], h) = some (77, [some (.ref 72), some (.int v1), some (.int (if (((zf h 72 12) < (zr h 79 v1)) ∨ (((zr h 79 v1) = (zf h 72 12)) ∧ (¬ ((zf h 72 13) ≤ (zr h 78 v1))))) then (1 : Int32) else 0))], [.int v1, .ref 80], h)) (fun hs => ?_)
      obtain ⟨hob, ho⟩ := ho
      refine zg_ial hs zd_63 rfl rfl hob ?_
      refine zg_blk zd_63 1 hs (rfl : zb x zT0 zc_63 1 (78, [some (.ref 72), some (.int v1), some (.int (if (((zf h 72 12) < (zr h 79 v1)) ∨ (((zr h 79 v1) = (zf h 72 12)) ∧ (¬ ((zf h 72 13) ≤ (zr h 78 v1))))) then (1 : Int32) else 0))], [.int (zr h 80 v1)], h) = some (79, [some (.ref 72), some (.int v1), some (.int (if (((zf h 72 12) < (zr h 79 v1)) ∨ (((zr h 79 v1) = (zf h 72 12)) ∧ (¬ ((zf h 72 13) ≤ (zr h 78 v1))))) then (1 : Int32) else 0))], [.int 1, .int (zr h 80 v1)], h)) (fun hs => ?_)
      have hom := ho
      have K158 : zSh zT0 (if ((zr h 80 v1) = 1) then (if (((zf h 72 12) < (zr h 79 v1)) ∨ (((zr h 79 v1) = (zf h 72 12)) ∧ (¬ ((zf h 72 13) ≤ (zr h 78 v1))))) then (zp (zp h 72 12 (zr h 79 v1)) 72 13 (zr h 78 v1)) else h) else h) → zg x (d + 3) 63 106 [some (.ref 72), some (.int v1), some (.int (if (((zf h 72 12) < (zr h 79 v1)) ∨ (((zr h 79 v1) = (zf h 72 12)) ∧ (¬ ((zf h 72 13) ≤ (zr h 78 v1))))) then (1 : Int32) else 0))] [] (if ((zr h 80 v1) = 1) then (if (((zf h 72 12) < (zr h 79 v1)) ∨ (((zr h 79 v1) = (zf h 72 12)) ∧ (¬ ((zf h 72 13) ≤ (zr h 78 v1))))) then (zp (zp h 72 12 (zr h 79 v1)) 72 13 (zr h 78 v1)) else h) else h) Q := fun hs => by
        refine zg_blk zd_63 2 hs (rfl : zb x zT0 zc_63 2 (106, [some (.ref 72), some (.int v1), some (.int (if (((zf h 72 12) < (zr h 79 v1)) ∨ (((zr h 79 v1) = (zf h 72 12)) ∧ (¬ ((zf h 72 13) ≤ (zr h 78 v1))))) then (1 : Int32) else 0))], [], (if ((zr h 80 v1) = 1) then (if (((zf h 72 12) < (zr h 79 v1)) ∨ (((zr h 79 v1) = (zf h 72 12)) ∧ (¬ ((zf h 72 13) ≤ (zr h 78 v1))))) then (zp (zp h 72 12 (zr h 79 v1)) 72 13 (zr h 78 v1)) else h) else h)) = some (17, [some (.ref 72), some (.int (v1 + 1)), some (.int (if (((zf h 72 12) < (zr h 79 v1)) ∨ (((zr h 79 v1) = (zf h 72 12)) ∧ (¬ ((zf h 72 13) ≤ (zr h 78 v1))))) then (1 : Int32) else 0))], [], (if ((zr h 80 v1) = 1) then (if (((zf h 72 12) < (zr h 79 v1)) ∨ (((zr h 79 v1) = (zf h 72 12)) ∧ (¬ ((zf h 72 13) ≤ (zr h 78 v1))))) then (zp (zp h 72 12 (zr h 79 v1)) 72 13 (zr h 78 v1)) else h) else h))) (fun hs => ?_)
        exact hl0 (v1 + 1) (if ((zr h 80 v1) = 1) then (if (((zf h 72 12) < (zr h 79 v1)) ∨ (((zr h 79 v1) = (zf h 72 12)) ∧ (¬ ((zf h 72 13) ≤ (zr h 78 v1))))) then (zp (zp h 72 12 (zr h 79 v1)) 72 13 (zr h 78 v1)) else h) else h) (some (.int (if (((zf h 72 12) < (zr h 79 v1)) ∨ (((zr h 79 v1) = (zf h 72 12)) ∧ (¬ ((zf h 72 13) ≤ (zr h 78 v1))))) then (1 : Int32) else 0))) hs hF
      refine zg_i_ne zd_63 rfl (fun (hc : ¬ ((zr h 80 v1) = 1)) => ?_) (fun (hc : ((zr h 80 v1) = 1)) => ?_)
      · have ho := hom.2 hc
        rw [show (if ((zr h 80 v1) = 1) then (if (((zf h 72 12) < (zr h 79 v1)) ∨ (((zr h 79 v1) = (zf h 72 12)) ∧ (¬ ((zf h 72 13) ≤ (zr h 78 v1))))) then (zp (zp h 72 12 (zr h 79 v1)) 72 13 (zr h 78 v1)) else h) else h) = h from if_neg hc] at K158
        exact K158 hs
      · have ho := hom.1 hc
        rw [show (if ((zr h 80 v1) = 1) then (if (((zf h 72 12) < (zr h 79 v1)) ∨ (((zr h 79 v1) = (zf h 72 12)) ∧ (¬ ((zf h 72 13) ≤ (zr h 78 v1))))) then (zp (zp h 72 12 (zr h 79 v1)) 72 13 (zr h 78 v1)) else h) else h) = (if (((zf h 72 12) < (zr h 79 v1)) ∨ (((zr h 79 v1) = (zf h 72 12)) ∧ (¬ ((zf h 72 13) ≤ (zr h 78 v1))))) then (zp (zp h 72 12 (zr h 79 v1)) 72 13 (zr h 78 v1)) else h) from if_pos hc] at K158
        refine zg_blk zd_63 1 hs (rfl : zb x zT0 zc_63 1 (82, [some (.ref 72), some (.int v1), some (.int (if (((zf h 72 12) < (zr h 79 v1)) ∨ (((zr h 79 v1) = (zf h 72 12)) ∧ (¬ ((zf h 72 13) ≤ (zr h 78 v1))))) then (1 : Int32) else 0))], [], h) = some (83, [some (.ref 72), some (.int v1), some (.int (if (((zf h 72 12) < (zr h 79 v1)) ∨ (((zr h 79 v1) = (zf h 72 12)) ∧ (¬ ((zf h 72 13) ≤ (zr h 78 v1))))) then (1 : Int32) else 0))], [.int (if (((zf h 72 12) < (zr h 79 v1)) ∨ (((zr h 79 v1) = (zf h 72 12)) ∧ (¬ ((zf h 72 13) ≤ (zr h 78 v1))))) then (1 : Int32) else 0)], h)) (fun hs => ?_)
        refine zg_b_eq zd_63 rfl (fun (hc : ¬ (((zf h 72 12) < (zr h 79 v1)) ∨ (((zr h 79 v1) = (zf h 72 12)) ∧ (¬ ((zf h 72 13) ≤ (zr h 78 v1)))))) => ?_) (fun (hc : (((zf h 72 12) < (zr h 79 v1)) ∨ (((zr h 79 v1) = (zf h 72 12)) ∧ (¬ ((zf h 72 13) ≤ (zr h 78 v1)))))) => ?_)
        · have ho := ho.2 hc
          rw [show (if (((zf h 72 12) < (zr h 79 v1)) ∨ (((zr h 79 v1) = (zf h 72 12)) ∧ (¬ ((zf h 72 13) ≤ (zr h 78 v1))))) then (zp (zp h 72 12 (zr h 79 v1)) 72 13 (zr h 78 v1)) else h) = h from if_neg hc] at K158
          exact K158 hs
        · have ho := ho.1 hc
          rw [show (if (((zf h 72 12) < (zr h 79 v1)) ∨ (((zr h 79 v1) = (zf h 72 12)) ∧ (¬ ((zf h 72 13) ≤ (zr h 78 v1))))) then (zp (zp h 72 12 (zr h 79 v1)) 72 13 (zr h 78 v1)) else h) = (zp (zp h 72 12 (zr h 79 v1)) 72 13 (zr h 78 v1)) from if_pos hc] at K158
          refine zg_blk zd_63 4 hs (rfl : zb x zT0 zc_63 4 (86, [some (.ref 72), some (.int v1), some (.int (if (((zf h 72 12) < (zr h 79 v1)) ∨ (((zr h 79 v1) = (zf h 72 12)) ∧ (¬ ((zf h 72 13) ≤ (zr h 78 v1))))) then (1 : Int32) else 0))], [], h) = some (92, [some (.ref 72), some (.int v1), some (.int (if (((zf h 72 12) < (zr h 79 v1)) ∨ (((zr h 79 v1) = (zf h 72 12)) ∧ (¬ ((zf h 72 13) ≤ (zr h 78 v1))))) then (1 : Int32) else 0))], [.int v1, .ref 79, .ref 72], h)) (fun hs => ?_)
          obtain ⟨hob, ho⟩ := ho
          refine zg_ial hs zd_63 rfl rfl hob ?_
          refine zg_blk zd_63 5 hs (rfl : zb x zT0 zc_63 5 (93, [some (.ref 72), some (.int v1), some (.int (if (((zf h 72 12) < (zr h 79 v1)) ∨ (((zr h 79 v1) = (zf h 72 12)) ∧ (¬ ((zf h 72 13) ≤ (zr h 78 v1))))) then (1 : Int32) else 0))], [.int (zr h 79 v1), .ref 72], h) = some (102, [some (.ref 72), some (.int v1), some (.int (if (((zf h 72 12) < (zr h 79 v1)) ∨ (((zr h 79 v1) = (zf h 72 12)) ∧ (¬ ((zf h 72 13) ≤ (zr h 78 v1))))) then (1 : Int32) else 0))], [.int v1, .ref 78, .ref 72], (zp h 72 12 (zr h 79 v1)))) (fun hs => ?_)
          have hob := ho
          refine zg_ial hs zd_63 rfl rfl hob ?_
          refine zg_blk zd_63 1 hs (rfl : zb x zT0 zc_63 1 (103, [some (.ref 72), some (.int v1), some (.int (if (((zf h 72 12) < (zr h 79 v1)) ∨ (((zr h 79 v1) = (zf h 72 12)) ∧ (¬ ((zf h 72 13) ≤ (zr h 78 v1))))) then (1 : Int32) else 0))], [.int (zr h 78 v1), .ref 72], (zp h 72 12 (zr h 79 v1))) = some (106, [some (.ref 72), some (.int v1), some (.int (if (((zf h 72 12) < (zr h 79 v1)) ∨ (((zr h 79 v1) = (zf h 72 12)) ∧ (¬ ((zf h 72 13) ≤ (zr h 78 v1))))) then (1 : Int32) else 0))], [], (zp (zp h 72 12 (zr h 79 v1)) 72 13 (zr h 78 v1)))) (fun hs => ?_)
          exact K158 hs
    refine zg_i_gt zd_63 rfl (fun (hc : ((zf h 72 12) < (zr h 79 v1))) => ?_) (fun (hc : ¬ ((zf h 72 12) < (zr h 79 v1))) => ?_)
    · have ho := hom.1 hc
      rw [show ((if (((zf h 72 12) < (zr h 79 v1)) ∨ (((zr h 79 v1) = (zf h 72 12)) ∧ (¬ ((zf h 72 13) ≤ (zr h 78 v1))))) then (1 : Int32) else 0) : Int32) = 1 from zb_or_t hc] at K157
      refine zg_blk zd_63 2 hs (rfl : zb x zT0 zc_63 2 (66, [some (.ref 72), some (.int v1), o2], [], h) = some (71, [some (.ref 72), some (.int v1), o2], [.int 1], h)) (fun hs => ?_)
      exact K157 hs
    · have ho := hom.2 hc
      rw [show ((if (((zf h 72 12) < (zr h 79 v1)) ∨ (((zr h 79 v1) = (zf h 72 12)) ∧ (¬ ((zf h 72 13) ≤ (zr h 78 v1))))) then (1 : Int32) else 0) : Int32) = (if (((zr h 79 v1) = (zf h 72 12)) ∧ (¬ ((zf h 72 13) ≤ (zr h 78 v1)))) then (1 : Int32) else 0) from zb_or_f hc] at K157
      refine zg_blk zd_63 3 hs (rfl : zb x zT0 zc_63 3 (40, [some (.ref 72), some (.int v1), o2], [], h) = some (45, [some (.ref 72), some (.int v1), o2], [.int v1, .ref 79], h)) (fun hs => ?_)
      obtain ⟨hob, ho⟩ := ho
      refine zg_ial hs zd_63 rfl rfl hob ?_
      refine zg_blk zd_63 2 hs (rfl : zb x zT0 zc_63 2 (46, [some (.ref 72), some (.int v1), o2], [.int (zr h 79 v1)], h) = some (50, [some (.ref 72), some (.int v1), o2], [.int (zf h 72 12), .int (zr h 79 v1)], h)) (fun hs => ?_)
      refine zg_i_ne zd_63 rfl (fun (hc : ¬ ((zr h 79 v1) = (zf h 72 12))) => ?_) (fun (hc : ((zr h 79 v1) = (zf h 72 12))) => ?_)
      · have ho := ho.2 hc
        rw [show ((if (((zr h 79 v1) = (zf h 72 12)) ∧ (¬ ((zf h 72 13) ≤ (zr h 78 v1)))) then (1 : Int32) else 0) : Int32) = 0 from zb_and_f hc] at K157
        refine zg_blk zd_63 1 hs (rfl : zb x zT0 zc_63 1 (70, [some (.ref 72), some (.int v1), o2], [], h) = some (71, [some (.ref 72), some (.int v1), o2], [.int 0], h)) (fun hs => ?_)
        exact K157 hs
      · have ho := ho.1 hc
        rw [show ((if (((zr h 79 v1) = (zf h 72 12)) ∧ (¬ ((zf h 72 13) ≤ (zr h 78 v1)))) then (1 : Int32) else 0) : Int32) = (if (¬ ((zf h 72 13) ≤ (zr h 78 v1))) then (1 : Int32) else 0) from zb_and_t hc] at K157
        refine zg_blk zd_63 3 hs (rfl : zb x zT0 zc_63 3 (53, [some (.ref 72), some (.int v1), o2], [], h) = some (58, [some (.ref 72), some (.int v1), o2], [.int v1, .ref 78], h)) (fun hs => ?_)
        have hob := ho
        refine zg_ial hs zd_63 rfl rfl hob ?_
        refine zg_blk zd_63 2 hs (rfl : zb x zT0 zc_63 2 (59, [some (.ref 72), some (.int v1), o2], [.int (zr h 78 v1)], h) = some (63, [some (.ref 72), some (.int v1), o2], [.int (zf h 72 13), .int (zr h 78 v1)], h)) (fun hs => ?_)
        refine zg_i_ge zd_63 rfl (fun (hc : ((zf h 72 13) ≤ (zr h 78 v1))) => ?_) (fun (hc : ¬ ((zf h 72 13) ≤ (zr h 78 v1))) => ?_)
        · skip
          rw [show ((if (¬ ((zf h 72 13) ≤ (zr h 78 v1))) then (1 : Int32) else 0) : Int32) = 0 from zb_not_t hc] at K157
          refine zg_blk zd_63 1 hs (rfl : zb x zT0 zc_63 1 (70, [some (.ref 72), some (.int v1), o2], [], h) = some (71, [some (.ref 72), some (.int v1), o2], [.int 0], h)) (fun hs => ?_)
          exact K157 hs
        · skip
          rw [show ((if (¬ ((zf h 72 13) ≤ (zr h 78 v1))) then (1 : Int32) else 0) : Int32) = 1 from zb_not_f hc] at K157
          refine zg_blk zd_63 2 hs (rfl : zb x zT0 zc_63 2 (66, [some (.ref 72), some (.int v1), o2], [], h) = some (71, [some (.ref 72), some (.int v1), o2], [.int 1], h)) (fun hs => ?_)
          exact K157 hs
theorem f_Planner_findBest_l17_t {x : zm_X} {d : Nat} {Q : Option Value → zm_H → Prop} (G : Nat × Int32 × zm_H → Prop) (hx1 : ∀ (v1 : Int32) (h : zm_H) (o1 : Option Value) (o2 : Option Value), zSh zT0 h → G (1, v1, h) → zg x (d + 3) 63 112 [some (.ref 72), o1, o2] [] h Q) : ∀ (n : Nat) (v1 : Int32) (h : zm_H) (o2 : Option Value), zSh zT0 h → f_Planner_findBest_l17_ok n (v1, h) → G (f_Planner_findBest_l17 n (v1, h)) → zg x (d + 3) 63 17 [some (.ref 72), some (.int v1), o2] [] h Q := by
  intro n
  induction n with
  | zero => intro v1 h o2 hs ho hG; exact ho.elim
  | succ n ih =>
    intro v1 h o2 hs ho hG
    refine f_Planner_findBest_l17_b_t (FN := fun r => (r.1 = 0 → f_Planner_findBest_l17_ok n r.2) ∧ G (if r.1 = 0 then f_Planner_findBest_l17 n r.2 else r)) v1 h o2 hs ho.1 ⟨ho.2, hG⟩ ?_ ?_
    · intro v1 h o2 hs hF
      exact ih v1 h o2 hs (hF.1 rfl) hF.2
    · intro v1 h o1 o2 hs hF
      exact hx1 v1 h o1 o2 hs hF.2

set_option maxRecDepth 100000 in
set_option maxHeartbeats 400000 in
theorem f_Planner_findBest_k112_t {x : zm_X} {d : Nat} (h : zm_H) (o0 : Option Value) (o1 : Option Value) (o2 : Option Value) {Q : Option Value → zm_H → Prop} (hs : zSh zT0 h) (ho : f_Planner_findBest_k112_ok h) (hF : (zSh zT0 (f_Planner_findBest_k112 h) → Q none (f_Planner_findBest_k112 h))) : zg x (d + 3) 63 112 [o0, o1, o2] [] h Q := by
  unfold f_Planner_findBest_k112 at hF
  unfold f_Planner_findBest_k112_ok at ho
  exact zg_ret zd_63 rfl rfl (hF hs)
set_option maxRecDepth 100000 in
set_option maxHeartbeats 400000 in
theorem f_Planner_findBest_k5_t {x : zm_X} {d : Nat} (h : zm_H) (o1 : Option Value) (o2 : Option Value) {Q : Option Value → zm_H → Prop} (hs : zSh zT0 h) (ho : f_Planner_findBest_k5_ok h) (hF : (zSh zT0 (f_Planner_findBest_k5 h) → Q none (f_Planner_findBest_k5 h))) : zg x (d + 3) 63 5 [some (.ref 72), o1, o2] [] h Q := by
  unfold f_Planner_findBest_k5 at hF
  unfold f_Planner_findBest_k5_ok at ho
  refine zg_blk zd_63 8 hs (rfl : zb x zT0 zc_63 8 (5, [some (.ref 72), o1, o2], [], h) = some (17, [some (.ref 72), some (.int 1), o2], [], (zp (zp h 72 12 0) 72 13 0))) (fun hs => ?_)
  refine f_Planner_findBest_l17_t  (fun r => f_Planner_findBest_a17_ok r ∧ (zSh zT0 (f_Planner_findBest_a17 r) → Q none (f_Planner_findBest_a17 r))) ?_ zF 1 (zp (zp h 72 12 0) 72 13 0) (o2) hs ho.1 ⟨ho.2, hF⟩
  · intro v1_ h_ o1_ o2_ hs hG
    have ho : True := trivial
    have hF : (zSh zT0 ((f_Planner_findBest_k112 h_)) → Q none ((f_Planner_findBest_k112 h_))) := hG.2
    exact f_Planner_findBest_k112_t h_ (some (.ref 72)) (o1_) (o2_) hs trivial hF
set_option maxRecDepth 100000 in
set_option maxHeartbeats 400000 in
theorem f_Planner_findBest_t {x : zm_X} {d : Nat} (h : zm_H) {Q : Option Value → zm_H → Prop} (hs : zSh zT0 h) (ho : f_Planner_findBest_ok h) (hF : (zSh zT0 (f_Planner_findBest h) → Q none (f_Planner_findBest h))) : zg x (d + 3) 63 0 [some (.ref 72), none, none] [] h Q := by
  unfold f_Planner_findBest at hF
  unfold f_Planner_findBest_ok at ho
  refine zg_blk zd_63 2 hs (rfl : zb x zT0 zc_63 2 (0, [some (.ref 72), none, none], [], h) = some (2, [some (.ref 72), none, none], [.int 0, .ref 72], h)) (fun hs => ?_)
  obtain ⟨hob, ho⟩ := ho
  refine zg_call hs zd_63 rfl rfl rfl rfl (as := [.ref 72, .int 0]) (rest := []) (en := [some (.ref 72), some (.int 0), none, none]) rfl rfl rfl rfl rfl ?_
  refine f_Planner_packFrom_t 0 h hs hob (fun hs => ?_)
  show zg x (d + 3) 63 5 [some (.ref 72), none, none] [] (f_Planner_packFrom 0 h) Q
  exact f_Planner_findBest_k5_t (f_Planner_packFrom 0 h) (none) (none) hs ho hF
theorem zd_66 : zm_cd 66 = zc_66 := by rfl
set_option maxRecDepth 100000 in
set_option maxHeartbeats 400000 in
theorem f_Planner_windowFor_l3_k79_t {x : zm_X} {d : Nat} (v1 : Int32) (v2 : Int32) (v3 : Int32) (v4 : Int32) (h : zm_H) (o5 : Option Value) {Q : Option Value → zm_H → Prop} {FN : Nat × Int32 × zm_H → Prop} (hs : zSh zT0 h) (ho : f_Planner_windowFor_l3_k79_ok v1 v2 v3 v4 h) (hF : FN (f_Planner_windowFor_l3_k79 v1 v2 v3 v4 h)) (hl0 : ∀ (v4 : Int32) (h : zm_H) (o5 : Option Value), zSh zT0 h → FN (0, v4, h) → zg x (d + 4) 66 3 [some (.ref 72), some (.int v1), some (.int v2), some (.int v3), some (.int v4), o5] [] h Q) (hl1 : ∀ (v4 : Int32) (h : zm_H) (o5 : Option Value), zSh zT0 h → FN (1, v4, h) → zg x (d + 4) 66 76 [some (.ref 72), some (.int v1), some (.int v2), some (.int v3), some (.int v4), o5] [] h Q) (hl2 : ∀ (v4 : Int32) (h : zm_H) (o4 : Option Value) (o5 : Option Value), zSh zT0 h → FN (2, v4, h) → zg x (d + 4) 66 85 [some (.ref 72), some (.int v1), some (.int v2), some (.int v3), o4, o5] [] h Q) : zg x (d + 4) 66 79 [some (.ref 72), some (.int v1), some (.int v2), some (.int v3), some (.int v4), o5] [] h Q := by
  unfold f_Planner_windowFor_l3_k79 at hF
  unfold f_Planner_windowFor_l3_k79_ok at ho
  refine zg_blk zd_66 2 hs (rfl : zb x zT0 zc_66 2 (79, [some (.ref 72), some (.int v1), some (.int v2), some (.int v3), some (.int v4), o5], [], h) = some (3, [some (.ref 72), some (.int v1), some (.int v2), some (.int v3), some (.int (v4 + 1)), o5], [], h)) (fun hs => ?_)
  exact hl0 (v4 + 1) h (o5) hs hF
theorem zd_67 : zm_cd 67 = zc_67 := by rfl
set_option maxRecDepth 100000 in
set_option maxHeartbeats 400000 in
theorem f_Planner_comesTo_l18_k64_t {x : zm_X} {d : Nat} (v1 : Int32) (v2 : Int32) (v3 : Int32) (v4 : Int32) (h : zm_H) {Q : Option Value → zm_H → Prop} {FN : Nat × Int32 → Prop} (hs : zSh zT0 h) (ho : f_Planner_comesTo_l18_k64_ok v1 v2 v3 v4 h) (hF : FN (f_Planner_comesTo_l18_k64 v1 v2 v3 v4 h)) (hl0 : ∀ (v4 : Int32), zSh zT0 h → FN (0, v4) → zg x (d + 3) 67 18 [some (.ref 72), some (.int v1), some (.int v2), some (.int v3), some (.int v4)] [] h Q) (hl1 : ∀ (v4 : Int32) (o4 : Option Value), zSh zT0 h → FN (1, v4) → zg x (d + 3) 67 62 [some (.ref 72), some (.int v1), some (.int v2), some (.int v3), o4] [] h Q) (hl2 : ∀ (v4 : Int32) (o4 : Option Value), zSh zT0 h → FN (2, v4) → zg x (d + 3) 67 75 [some (.ref 72), some (.int v1), some (.int v2), some (.int v3), o4] [] h Q) : zg x (d + 3) 67 64 [some (.ref 72), some (.int v1), some (.int v2), some (.int v3), some (.int v4)] [] h Q := by
  unfold f_Planner_comesTo_l18_k64 at hF
  unfold f_Planner_comesTo_l18_k64_ok at ho
  refine zg_blk zd_67 7 hs (rfl : zb x zT0 zc_67 7 (64, [some (.ref 72), some (.int v1), some (.int v2), some (.int v3), some (.int v4)], [], h) = some (18, [some (.ref 72), some (.int v1), some (.int v2), some (.int v3), some (.int (v4 + (1 <<< (v1 &&& 31))))], [], h)) (fun hs => ?_)
  exact hl0 (v4 + (1 <<< (v1 &&& 31))) hs hF
set_option maxRecDepth 100000 in
set_option maxHeartbeats 400000 in
theorem f_Planner_comesTo_l18_b_t {x : zm_X} {d : Nat} (v1 : Int32) (v2 : Int32) (v3 : Int32) (v4 : Int32) (h : zm_H) {Q : Option Value → zm_H → Prop} {FN : Nat × Int32 → Prop} (hs : zSh zT0 h) (ho : f_Planner_comesTo_l18_b_ok v1 v2 v3 v4 h) (hF : FN (f_Planner_comesTo_l18_b v1 v2 v3 v4 h)) (hl0 : ∀ (v4 : Int32), zSh zT0 h → FN (0, v4) → zg x (d + 3) 67 18 [some (.ref 72), some (.int v1), some (.int v2), some (.int v3), some (.int v4)] [] h Q) (hl1 : ∀ (v4 : Int32) (o4 : Option Value), zSh zT0 h → FN (1, v4) → zg x (d + 3) 67 62 [some (.ref 72), some (.int v1), some (.int v2), some (.int v3), o4] [] h Q) (hl2 : ∀ (v4 : Int32) (o4 : Option Value), zSh zT0 h → FN (2, v4) → zg x (d + 3) 67 75 [some (.ref 72), some (.int v1), some (.int v2), some (.int v3), o4] [] h Q) : zg x (d + 3) 67 18 [some (.ref 72), some (.int v1), some (.int v2), some (.int v3), some (.int v4)] [] h Q := by
  unfold f_Planner_comesTo_l18_b at hF
  unfold f_Planner_comesTo_l18_b_ok at ho
  refine zg_blk zd_67 5 hs (rfl : zb x zT0 zc_67 5 (18, [some (.ref 72), some (.int v1), some (.int v2), some (.int v3), some (.int v4)], [], h) = some (26, [some (.ref 72), some (.int v1), some (.int v2), some (.int v3), some (.int v4)], [.int (1 <<< ((zf h 72 2) &&& 31)), .int v4], h)) (fun hs => ?_)
  refine zg_i_ge zd_67 rfl (fun (hc : ((1 <<< ((zf h 72 2) &&& 31)) ≤ v4)) => ?_) (fun (hc : ¬ ((1 <<< ((zf h 72 2) &&& 31)) ≤ v4)) => ?_)
  · have ho := ho.1 hc
    rw [if_pos hc] at hF
    exact hl2 v4 (some (.int v4)) hs hF
  · have ho := ho.2 hc
    rw [if_neg hc] at hF
    refine zg_blk zd_67 3 hs (rfl : zb x zT0 zc_67 3 (29, [some (.ref 72), some (.int v1), some (.int v2), some (.int v3), some (.int v4)], [], h) = some (35, [some (.ref 72), some (.int v1), some (.int v2), some (.int v3), some (.int v4)], [.int v4, .ref 80], h)) (fun hs => ?_)
    obtain ⟨hob, ho⟩ := ho
    refine zg_ial hs zd_67 rfl rfl hob ?_
    refine zg_blk zd_67 1 hs (rfl : zb x zT0 zc_67 1 (36, [some (.ref 72), some (.int v1), some (.int v2), some (.int v3), some (.int v4)], [.int (zr h 80 v4)], h) = some (37, [some (.ref 72), some (.int v1), some (.int v2), some (.int v3), some (.int v4)], [.int 1, .int (zr h 80 v4)], h)) (fun hs => ?_)
    refine zg_i_ne zd_67 rfl (fun (hc : ¬ ((zr h 80 v4) = 1)) => ?_) (fun (hc : ((zr h 80 v4) = 1)) => ?_)
    · have ho := ho.2 hc
      rw [if_neg hc] at hF
      exact f_Planner_comesTo_l18_k64_t v1 v2 v3 v4 h hs trivial hF hl0 hl1 hl2
    · have ho := ho.1 hc
      rw [if_pos hc] at hF
      refine zg_blk zd_67 3 hs (rfl : zb x zT0 zc_67 3 (40, [some (.ref 72), some (.int v1), some (.int v2), some (.int v3), some (.int v4)], [], h) = some (46, [some (.ref 72), some (.int v1), some (.int v2), some (.int v3), some (.int v4)], [.int v4, .ref 79], h)) (fun hs => ?_)
      obtain ⟨hob, ho⟩ := ho
      refine zg_ial hs zd_67 rfl rfl hob ?_
      refine zg_blk zd_67 1 hs (rfl : zb x zT0 zc_67 1 (47, [some (.ref 72), some (.int v1), some (.int v2), some (.int v3), some (.int v4)], [.int (zr h 79 v4)], h) = some (48, [some (.ref 72), some (.int v1), some (.int v2), some (.int v3), some (.int v4)], [.int v2, .int (zr h 79 v4)], h)) (fun hs => ?_)
      refine zg_i_ne zd_67 rfl (fun (hc : ¬ ((zr h 79 v4) = v2)) => ?_) (fun (hc : ((zr h 79 v4) = v2)) => ?_)
      · have ho := ho.2 hc
        rw [if_neg hc] at hF
        exact f_Planner_comesTo_l18_k64_t v1 v2 v3 v4 h hs trivial hF hl0 hl1 hl2
      · have ho := ho.1 hc
        rw [if_pos hc] at hF
        refine zg_blk zd_67 3 hs (rfl : zb x zT0 zc_67 3 (51, [some (.ref 72), some (.int v1), some (.int v2), some (.int v3), some (.int v4)], [], h) = some (57, [some (.ref 72), some (.int v1), some (.int v2), some (.int v3), some (.int v4)], [.int v4, .ref 78], h)) (fun hs => ?_)
        have hob := ho
        refine zg_ial hs zd_67 rfl rfl hob ?_
        refine zg_blk zd_67 1 hs (rfl : zb x zT0 zc_67 1 (58, [some (.ref 72), some (.int v1), some (.int v2), some (.int v3), some (.int v4)], [.int (zr h 78 v4)], h) = some (59, [some (.ref 72), some (.int v1), some (.int v2), some (.int v3), some (.int v4)], [.int v3, .int (zr h 78 v4)], h)) (fun hs => ?_)
        refine zg_i_ne zd_67 rfl (fun (hc : ¬ ((zr h 78 v4) = v3)) => ?_) (fun (hc : ((zr h 78 v4) = v3)) => ?_)
        · skip
          rw [if_neg hc] at hF
          exact f_Planner_comesTo_l18_k64_t v1 v2 v3 v4 h hs trivial hF hl0 hl1 hl2
        · skip
          rw [if_pos hc] at hF
          exact hl1 v4 (some (.int v4)) hs hF
theorem f_Planner_comesTo_l18_t {x : zm_X} {d : Nat} (v1 : Int32) (v2 : Int32) (v3 : Int32) (h : zm_H) {Q : Option Value → zm_H → Prop} (G : Nat × Int32 → Prop) (hx1 : ∀ (v4 : Int32) (o4 : Option Value), zSh zT0 h → G (1, v4) → zg x (d + 3) 67 62 [some (.ref 72), some (.int v1), some (.int v2), some (.int v3), o4] [] h Q) (hx2 : ∀ (v4 : Int32) (o4 : Option Value), zSh zT0 h → G (2, v4) → zg x (d + 3) 67 75 [some (.ref 72), some (.int v1), some (.int v2), some (.int v3), o4] [] h Q) : ∀ (n : Nat) (v4 : Int32), zSh zT0 h → f_Planner_comesTo_l18_ok v1 v2 v3 h n v4 → G (f_Planner_comesTo_l18 v1 v2 v3 h n v4) → zg x (d + 3) 67 18 [some (.ref 72), some (.int v1), some (.int v2), some (.int v3), some (.int v4)] [] h Q := by
  intro n
  induction n with
  | zero => intro v4 hs ho hG; exact ho.elim
  | succ n ih =>
    intro v4 hs ho hG
    refine f_Planner_comesTo_l18_b_t (FN := fun r => (r.1 = 0 → f_Planner_comesTo_l18_ok v1 v2 v3 h n r.2) ∧ G (if r.1 = 0 then f_Planner_comesTo_l18 v1 v2 v3 h n r.2 else r)) v1 v2 v3 v4 h hs ho.1 ⟨ho.2, hG⟩ ?_ ?_ ?_
    · intro v4 hs hF
      exact ih v4 hs (hF.1 rfl) hF.2
    · intro v4 o4 hs hF
      exact hx1 v4 o4 hs hF.2
    · intro v4 o4 hs hF
      exact hx2 v4 o4 hs hF.2

set_option maxRecDepth 100000 in
set_option maxHeartbeats 400000 in
theorem f_Planner_comesTo_k62_t {x : zm_X} {d : Nat} (h : zm_H) (o0 : Option Value) (o1 : Option Value) (o2 : Option Value) (z3 : Int32) (o4 : Option Value) {Q : Option Value → zm_H → Prop} (hs : zSh zT0 h) (ho : f_Planner_comesTo_k62_ok h) (hF : (zSh zT0 (f_Planner_comesTo_k62 h).2 → Q (some (.int (f_Planner_comesTo_k62 h).1)) (f_Planner_comesTo_k62 h).2)) : zg x (d + 3) 67 62 [o0, o1, o2, some (.int z3), o4] [] h Q := by
  unfold f_Planner_comesTo_k62 at hF
  unfold f_Planner_comesTo_k62_ok at ho
  refine zg_blk zd_67 1 hs (rfl : zb x zT0 zc_67 1 (62, [o0, o1, o2, some (.int z3), o4], [], h) = some (63, [o0, o1, o2, some (.int z3), o4], [.int 1], h)) (fun hs => ?_)
  exact zg_rtz zd_67 rfl rfl rfl (hF hs)
set_option maxRecDepth 100000 in
set_option maxHeartbeats 400000 in
theorem f_Planner_comesTo_k75_t {x : zm_X} {d : Nat} (h : zm_H) (o0 : Option Value) (o1 : Option Value) (o2 : Option Value) (z3 : Int32) (o4 : Option Value) {Q : Option Value → zm_H → Prop} (hs : zSh zT0 h) (ho : f_Planner_comesTo_k75_ok h) (hF : (zSh zT0 (f_Planner_comesTo_k75 h).2 → Q (some (.int (f_Planner_comesTo_k75 h).1)) (f_Planner_comesTo_k75 h).2)) : zg x (d + 3) 67 75 [o0, o1, o2, some (.int z3), o4] [] h Q := by
  unfold f_Planner_comesTo_k75 at hF
  unfold f_Planner_comesTo_k75_ok at ho
  refine zg_blk zd_67 1 hs (rfl : zb x zT0 zc_67 1 (75, [o0, o1, o2, some (.int z3), o4], [], h) = some (76, [o0, o1, o2, some (.int z3), o4], [.int 0], h)) (fun hs => ?_)
  exact zg_rtz zd_67 rfl rfl rfl (hF hs)
set_option maxRecDepth 100000 in
set_option maxHeartbeats 400000 in
theorem f_Planner_comesTo_k15_t {x : zm_X} {d : Nat} (v1 : Int32) (v2 : Int32) (v3 : Int32) (h : zm_H) (o4 : Option Value) {Q : Option Value → zm_H → Prop} (hs : zSh zT0 h) (ho : f_Planner_comesTo_k15_ok v1 v2 v3 h) (hF : (zSh zT0 (f_Planner_comesTo_k15 v1 v2 v3 h).2 → Q (some (.int (f_Planner_comesTo_k15 v1 v2 v3 h).1)) (f_Planner_comesTo_k15 v1 v2 v3 h).2)) : zg x (d + 3) 67 15 [some (.ref 72), some (.int v1), some (.int v2), some (.int v3), o4] [] h Q := by
  unfold f_Planner_comesTo_k15 at hF
  unfold f_Planner_comesTo_k15_ok at ho
  refine zg_blk zd_67 2 hs (rfl : zb x zT0 zc_67 2 (15, [some (.ref 72), some (.int v1), some (.int v2), some (.int v3), o4], [], h) = some (18, [some (.ref 72), some (.int v1), some (.int v2), some (.int v3), some (.int 0)], [], h)) (fun hs => ?_)
  refine f_Planner_comesTo_l18_t v1 v2 v3 h (fun r => f_Planner_comesTo_a18_ok r h ∧ (zSh zT0 (f_Planner_comesTo_a18 r h).2 → Q (some (.int (f_Planner_comesTo_a18 r h).1)) (f_Planner_comesTo_a18 r h).2)) ?_ ?_ zF 0 hs ho.1 ⟨ho.2, hF⟩
  · intro v4_ o4_ hs hG
    have ho : True := trivial
    have hF : (zSh zT0 ((f_Planner_comesTo_k62 h)).2 → Q (some (.int ((f_Planner_comesTo_k62 h)).1)) ((f_Planner_comesTo_k62 h)).2) := hG.2
    exact f_Planner_comesTo_k62_t h (some (.ref 72)) (some (.int v1)) (some (.int v2)) v3 (o4_) hs trivial hF
  · intro v4_ o4_ hs hG
    have ho : True := trivial
    have hF : (zSh zT0 ((f_Planner_comesTo_k75 h)).2 → Q (some (.int ((f_Planner_comesTo_k75 h)).1)) ((f_Planner_comesTo_k75 h)).2) := hG.2
    exact f_Planner_comesTo_k75_t h (some (.ref 72)) (some (.int v1)) (some (.int v2)) v3 (o4_) hs trivial hF
set_option maxRecDepth 100000 in
set_option maxHeartbeats 400000 in
theorem f_Planner_comesTo_t {x : zm_X} {d : Nat} (p1 : Int32) (p2 : Int32) (p3 : Int32) (h : zm_H) {Q : Option Value → zm_H → Prop} (hs : zSh zT0 h) (ho : f_Planner_comesTo_ok p1 p2 p3 h) (hF : (zSh zT0 (f_Planner_comesTo p1 p2 p3 h).2 → Q (some (.int (f_Planner_comesTo p1 p2 p3 h).1)) (f_Planner_comesTo p1 p2 p3 h).2)) : zg x (d + 3) 67 0 [some (.ref 72), some (.int p1), some (.int p2), some (.int p3), none] [] h Q := by
  unfold f_Planner_comesTo at hF
  unfold f_Planner_comesTo_ok at ho
  refine zg_blk zd_67 1 hs (rfl : zb x zT0 zc_67 1 (0, [some (.ref 72), some (.int p1), some (.int p2), some (.int p3), none], [], h) = some (1, [some (.ref 72), some (.int p1), some (.int p2), some (.int p3), none], [.int p2], h)) (fun hs => ?_)
  refine zg_f_lt zd_67 rfl (fun (hc : (p2 < 0)) => ?_) (fun (hc : ¬ (p2 < 0)) => ?_)
  · have ho := ho.1 hc
    rw [if_pos hc] at hF
    refine zg_blk zd_67 1 hs (rfl : zb x zT0 zc_67 1 (8, [some (.ref 72), some (.int p1), some (.int p2), some (.int p3), none], [], h) = some (9, [some (.ref 72), some (.int p1), some (.int p2), some (.int p3), none], [.int 0], h)) (fun hs => ?_)
    exact zg_rtz zd_67 rfl rfl rfl (hF hs)
  · have ho := ho.2 hc
    rw [if_neg hc] at hF
    refine zg_blk zd_67 1 hs (rfl : zb x zT0 zc_67 1 (4, [some (.ref 72), some (.int p1), some (.int p2), some (.int p3), none], [], h) = some (5, [some (.ref 72), some (.int p1), some (.int p2), some (.int p3), none], [.int p3], h)) (fun hs => ?_)
    refine zg_f_ge zd_67 rfl (fun (hc : (0 ≤ p3)) => ?_) (fun (hc : ¬ (0 ≤ p3)) => ?_)
    · have ho := ho.1 hc
      rw [if_pos hc] at hF
      refine zg_blk zd_67 2 hs (rfl : zb x zT0 zc_67 2 (10, [some (.ref 72), some (.int p1), some (.int p2), some (.int p3), none], [], h) = some (12, [some (.ref 72), some (.int p1), some (.int p2), some (.int p3), none], [.int p1, .ref 72], h)) (fun hs => ?_)
      obtain ⟨hob, ho⟩ := ho
      refine zg_call hs zd_67 rfl rfl rfl rfl (as := [.ref 72, .int p1]) (rest := []) (en := [some (.ref 72), some (.int p1), none, none]) rfl rfl rfl rfl rfl ?_
      refine f_Planner_packFrom_t p1 h hs hob (fun hs => ?_)
      show zg x (d + 3) 67 15 [some (.ref 72), some (.int p1), some (.int p2), some (.int p3), none] [] (f_Planner_packFrom p1 h) Q
      exact f_Planner_comesTo_k15_t p1 p2 p3 (f_Planner_packFrom p1 h) (none) hs ho hF
    · have ho := ho.2 hc
      rw [if_neg hc] at hF
      refine zg_blk zd_67 1 hs (rfl : zb x zT0 zc_67 1 (8, [some (.ref 72), some (.int p1), some (.int p2), some (.int p3), none], [], h) = some (9, [some (.ref 72), some (.int p1), some (.int p2), some (.int p3), none], [.int 0], h)) (fun hs => ?_)
      exact zg_rtz zd_67 rfl rfl rfl (hF hs)
set_option maxRecDepth 100000 in
set_option maxHeartbeats 400000 in
theorem f_Planner_windowFor_l3_k53_t {x : zm_X} {d : Nat} (v1 : Int32) (v2 : Int32) (v3 : Int32) (v4 : Int32) (w0 : Int32) (h : zm_H) (o5 : Option Value) {Q : Option Value → zm_H → Prop} {FN : Nat × Int32 × zm_H → Prop} (hs : zSh zT0 h) (ho : f_Planner_windowFor_l3_k53_ok v1 v2 v3 v4 w0 h) (hF : FN (f_Planner_windowFor_l3_k53 v1 v2 v3 v4 w0 h)) (hl0 : ∀ (v4 : Int32) (h : zm_H) (o5 : Option Value), zSh zT0 h → FN (0, v4, h) → zg x (d + 4) 66 3 [some (.ref 72), some (.int v1), some (.int v2), some (.int v3), some (.int v4), o5] [] h Q) (hl1 : ∀ (v4 : Int32) (h : zm_H) (o5 : Option Value), zSh zT0 h → FN (1, v4, h) → zg x (d + 4) 66 76 [some (.ref 72), some (.int v1), some (.int v2), some (.int v3), some (.int v4), o5] [] h Q) (hl2 : ∀ (v4 : Int32) (h : zm_H) (o4 : Option Value) (o5 : Option Value), zSh zT0 h → FN (2, v4, h) → zg x (d + 4) 66 85 [some (.ref 72), some (.int v1), some (.int v2), some (.int v3), o4, o5] [] h Q) : zg x (d + 4) 66 53 [some (.ref 72), some (.int v1), some (.int v2), some (.int v3), some (.int v4), o5] [.int w0] h Q := by
  unfold f_Planner_windowFor_l3_k53 at hF
  unfold f_Planner_windowFor_l3_k53_ok at ho
  refine zg_blk zd_66 5 hs (rfl : zb x zT0 zc_66 5 (53, [some (.ref 72), some (.int v1), some (.int v2), some (.int v3), some (.int v4), o5], [.int w0], h) = some (62, [some (.ref 72), some (.int v1), some (.int v2), some (.int v3), some (.int v4), some (.int w0)], [.int v4, .ref 77, .int v4, .ref 77], h)) (fun hs => ?_)
  obtain ⟨hob, ho⟩ := ho
  refine zg_ial hs zd_66 rfl rfl hob ?_
  refine zg_blk zd_66 3 hs (rfl : zb x zT0 zc_66 3 (63, [some (.ref 72), some (.int v1), some (.int v2), some (.int v3), some (.int v4), some (.int w0)], [.int (zr h 77 v4), .int v4, .ref 77], h) = some (68, [some (.ref 72), some (.int v1), some (.int v2), some (.int v3), some (.int v4), some (.int w0)], [.int v1, .ref 73, .int (zr h 77 v4), .int v4, .ref 77], h)) (fun hs => ?_)
  obtain ⟨hob, ho⟩ := ho
  refine zg_ial hs zd_66 rfl rfl hob ?_
  refine zg_blk zd_66 1 hs (rfl : zb x zT0 zc_66 1 (69, [some (.ref 72), some (.int v1), some (.int v2), some (.int v3), some (.int v4), some (.int w0)], [.int (zr h 73 v1), .int (zr h 77 v4), .int v4, .ref 77], h) = some (70, [some (.ref 72), some (.int v1), some (.int v2), some (.int v3), some (.int v4), some (.int w0)], [.int ((zr h 77 v4) + (zr h 73 v1)), .int v4, .ref 77], h)) (fun hs => ?_)
  have hob := ho
  refine zg_ias hs zd_66 rfl rfl hob (fun hs => ?_)
  refine zg_blk zd_66 1 hs (rfl : zb x zT0 zc_66 1 (71, [some (.ref 72), some (.int v1), some (.int v2), some (.int v3), some (.int v4), some (.int w0)], [], (zs h 77 v4 ((zr h 77 v4) + (zr h 73 v1)))) = some (73, [some (.ref 72), some (.int v1), some (.int v2), some (.int v3), some (.int v4), some (.int w0)], [.int w0], (zs h 77 v4 ((zr h 77 v4) + (zr h 73 v1))))) (fun hs => ?_)
  refine zg_f_eq zd_66 rfl (fun (hc : (w0 = 0)) => ?_) (fun (hc : ¬ (w0 = 0)) => ?_)
  · skip
    rw [if_pos hc] at hF
    exact f_Planner_windowFor_l3_k79_t v1 v2 v3 v4 (zs h 77 v4 ((zr h 77 v4) + (zr h 73 v1))) (some (.int w0)) hs trivial hF hl0 hl1 hl2
  · skip
    rw [if_neg hc] at hF
    exact hl1 v4 (zs h 77 v4 ((zr h 77 v4) + (zr h 73 v1))) (some (.int w0)) hs hF
set_option maxRecDepth 100000 in
set_option maxHeartbeats 400000 in
theorem f_Planner_windowFor_l3_b_t {x : zm_X} {d : Nat} (v1 : Int32) (v2 : Int32) (v3 : Int32) (v4 : Int32) (h : zm_H) (o5 : Option Value) {Q : Option Value → zm_H → Prop} {FN : Nat × Int32 × zm_H → Prop} (hs : zSh zT0 h) (ho : f_Planner_windowFor_l3_b_ok v1 v2 v3 v4 h) (hF : FN (f_Planner_windowFor_l3_b v1 v2 v3 v4 h)) (hl0 : ∀ (v4 : Int32) (h : zm_H) (o5 : Option Value), zSh zT0 h → FN (0, v4, h) → zg x (d + 4) 66 3 [some (.ref 72), some (.int v1), some (.int v2), some (.int v3), some (.int v4), o5] [] h Q) (hl1 : ∀ (v4 : Int32) (h : zm_H) (o5 : Option Value), zSh zT0 h → FN (1, v4, h) → zg x (d + 4) 66 76 [some (.ref 72), some (.int v1), some (.int v2), some (.int v3), some (.int v4), o5] [] h Q) (hl2 : ∀ (v4 : Int32) (h : zm_H) (o4 : Option Value) (o5 : Option Value), zSh zT0 h → FN (2, v4, h) → zg x (d + 4) 66 85 [some (.ref 72), some (.int v1), some (.int v2), some (.int v3), o4, o5] [] h Q) : zg x (d + 4) 66 3 [some (.ref 72), some (.int v1), some (.int v2), some (.int v3), some (.int v4), o5] [] h Q := by
  unfold f_Planner_windowFor_l3_b at hF
  unfold f_Planner_windowFor_l3_b_ok at ho
  refine zg_blk zd_66 3 hs (rfl : zb x zT0 zc_66 3 (3, [some (.ref 72), some (.int v1), some (.int v2), some (.int v3), some (.int v4), o5], [], h) = some (9, [some (.ref 72), some (.int v1), some (.int v2), some (.int v3), some (.int v4), o5], [.int (zf h 72 5), .int v4], h)) (fun hs => ?_)
  refine zg_i_ge zd_66 rfl (fun (hc : ((zf h 72 5) ≤ v4)) => ?_) (fun (hc : ¬ ((zf h 72 5) ≤ v4)) => ?_)
  · have ho := ho.1 hc
    rw [if_pos hc] at hF
    exact hl2 v4 h (some (.int v4)) (o5) hs hF
  · have ho := ho.2 hc
    rw [if_neg hc] at hF
    refine zg_blk zd_66 3 hs (rfl : zb x zT0 zc_66 3 (12, [some (.ref 72), some (.int v1), some (.int v2), some (.int v3), some (.int v4), o5], [], h) = some (18, [some (.ref 72), some (.int v1), some (.int v2), some (.int v3), some (.int v4), o5], [.int v4, .ref 77], h)) (fun hs => ?_)
    obtain ⟨hob, ho⟩ := ho
    refine zg_ial hs zd_66 rfl rfl hob ?_
    refine zg_blk zd_66 3 hs (rfl : zb x zT0 zc_66 3 (19, [some (.ref 72), some (.int v1), some (.int v2), some (.int v3), some (.int v4), o5], [.int (zr h 77 v4)], h) = some (24, [some (.ref 72), some (.int v1), some (.int v2), some (.int v3), some (.int v4), o5], [.int v1, .ref 73, .int (zr h 77 v4)], h)) (fun hs => ?_)
    obtain ⟨hob, ho⟩ := ho
    refine zg_ial hs zd_66 rfl rfl hob ?_
    refine zg_i_lt zd_66 rfl (fun (hc : ((zr h 77 v4) < (zr h 73 v1))) => ?_) (fun (hc : ¬ ((zr h 77 v4) < (zr h 73 v1))) => ?_)
    · have ho := ho.1 hc
      rw [if_pos hc] at hF
      exact f_Planner_windowFor_l3_k79_t v1 v2 v3 v4 h (o5) hs trivial hF hl0 hl1 hl2
    · have ho := ho.2 hc
      rw [if_neg hc] at hF
      refine zg_blk zd_66 4 hs (rfl : zb x zT0 zc_66 4 (28, [some (.ref 72), some (.int v1), some (.int v2), some (.int v3), some (.int v4), o5], [], h) = some (35, [some (.ref 72), some (.int v1), some (.int v2), some (.int v3), some (.int v4), o5], [.int v4, .ref 77, .int v4, .ref 77], h)) (fun hs => ?_)
      obtain ⟨hob, ho⟩ := ho
      refine zg_ial hs zd_66 rfl rfl hob ?_
      refine zg_blk zd_66 3 hs (rfl : zb x zT0 zc_66 3 (36, [some (.ref 72), some (.int v1), some (.int v2), some (.int v3), some (.int v4), o5], [.int (zr h 77 v4), .int v4, .ref 77], h) = some (41, [some (.ref 72), some (.int v1), some (.int v2), some (.int v3), some (.int v4), o5], [.int v1, .ref 73, .int (zr h 77 v4), .int v4, .ref 77], h)) (fun hs => ?_)
      obtain ⟨hob, ho⟩ := ho
      refine zg_ial hs zd_66 rfl rfl hob ?_
      refine zg_blk zd_66 1 hs (rfl : zb x zT0 zc_66 1 (42, [some (.ref 72), some (.int v1), some (.int v2), some (.int v3), some (.int v4), o5], [.int (zr h 73 v1), .int (zr h 77 v4), .int v4, .ref 77], h) = some (43, [some (.ref 72), some (.int v1), some (.int v2), some (.int v3), some (.int v4), o5], [.int ((zr h 77 v4) - (zr h 73 v1)), .int v4, .ref 77], h)) (fun hs => ?_)
      obtain ⟨hob, ho⟩ := ho
      refine zg_ias hs zd_66 rfl rfl hob (fun hs => ?_)
      refine zg_blk zd_66 6 hs (rfl : zb x zT0 zc_66 6 (44, [some (.ref 72), some (.int v1), some (.int v2), some (.int v3), some (.int v4), o5], [], (zs h 77 v4 ((zr h 77 v4) - (zr h 73 v1)))) = some (50, [some (.ref 72), some (.int v1), some (.int v2), some (.int v3), some (.int v4), o5], [.int v3, .int v2, .int (v1 + 1), .ref 72], (zs h 77 v4 ((zr h 77 v4) - (zr h 73 v1))))) (fun hs => ?_)
      obtain ⟨hob, ho⟩ := ho
      refine zg_call hs zd_66 rfl rfl rfl rfl (as := [.ref 72, .int (v1 + 1), .int v2, .int v3]) (rest := []) (en := [some (.ref 72), some (.int (v1 + 1)), some (.int v2), some (.int v3), none]) rfl rfl rfl rfl rfl ?_
      refine f_Planner_comesTo_t (v1 + 1) v2 v3 (zs h 77 v4 ((zr h 77 v4) - (zr h 73 v1))) hs hob (fun hs => ?_)
      show zg x (d + 4) 66 53 [some (.ref 72), some (.int v1), some (.int v2), some (.int v3), some (.int v4), o5] [.int (f_Planner_comesTo (v1 + 1) v2 v3 (zs h 77 v4 ((zr h 77 v4) - (zr h 73 v1)))).1] (f_Planner_comesTo (v1 + 1) v2 v3 (zs h 77 v4 ((zr h 77 v4) - (zr h 73 v1)))).2 Q
      exact f_Planner_windowFor_l3_k53_t v1 v2 v3 v4 (f_Planner_comesTo (v1 + 1) v2 v3 (zs h 77 v4 ((zr h 77 v4) - (zr h 73 v1)))).1 (f_Planner_comesTo (v1 + 1) v2 v3 (zs h 77 v4 ((zr h 77 v4) - (zr h 73 v1)))).2 (o5) hs ho hF hl0 hl1 hl2
theorem f_Planner_windowFor_l3_t {x : zm_X} {d : Nat} (v1 : Int32) (v2 : Int32) (v3 : Int32) {Q : Option Value → zm_H → Prop} (G : Nat × Int32 × zm_H → Prop) (hx1 : ∀ (v4 : Int32) (h : zm_H) (o5 : Option Value), zSh zT0 h → G (1, v4, h) → zg x (d + 4) 66 76 [some (.ref 72), some (.int v1), some (.int v2), some (.int v3), some (.int v4), o5] [] h Q) (hx2 : ∀ (v4 : Int32) (h : zm_H) (o4 : Option Value) (o5 : Option Value), zSh zT0 h → G (2, v4, h) → zg x (d + 4) 66 85 [some (.ref 72), some (.int v1), some (.int v2), some (.int v3), o4, o5] [] h Q) : ∀ (n : Nat) (v4 : Int32) (h : zm_H) (o5 : Option Value), zSh zT0 h → f_Planner_windowFor_l3_ok v1 v2 v3 n (v4, h) → G (f_Planner_windowFor_l3 v1 v2 v3 n (v4, h)) → zg x (d + 4) 66 3 [some (.ref 72), some (.int v1), some (.int v2), some (.int v3), some (.int v4), o5] [] h Q := by
  intro n
  induction n with
  | zero => intro v4 h o5 hs ho hG; exact ho.elim
  | succ n ih =>
    intro v4 h o5 hs ho hG
    refine f_Planner_windowFor_l3_b_t (FN := fun r => (r.1 = 0 → f_Planner_windowFor_l3_ok v1 v2 v3 n r.2) ∧ G (if r.1 = 0 then f_Planner_windowFor_l3 v1 v2 v3 n r.2 else r)) v1 v2 v3 v4 h o5 hs ho.1 ⟨ho.2, hG⟩ ?_ ?_ ?_
    · intro v4 h o5 hs hF
      exact ih v4 h o5 hs (hF.1 rfl) hF.2
    · intro v4 h o5 hs hF
      exact hx1 v4 h o5 hs hF.2
    · intro v4 h o4 o5 hs hF
      exact hx2 v4 h o4 o5 hs hF.2

set_option maxRecDepth 100000 in
set_option maxHeartbeats 400000 in
theorem f_Planner_windowFor_k76_t {x : zm_X} {d : Nat} (v4 : Int32) (h : zm_H) (o0 : Option Value) (o1 : Option Value) (o2 : Option Value) (z3 : Int32) (o5 : Option Value) {Q : Option Value → zm_H → Prop} (hs : zSh zT0 h) (ho : f_Planner_windowFor_k76_ok v4 h) (hF : (zSh zT0 (f_Planner_windowFor_k76 v4 h).2 → Q (some (.int (f_Planner_windowFor_k76 v4 h).1)) (f_Planner_windowFor_k76 v4 h).2)) : zg x (d + 4) 66 76 [o0, o1, o2, some (.int z3), some (.int v4), o5] [] h Q := by
  unfold f_Planner_windowFor_k76 at hF
  unfold f_Planner_windowFor_k76_ok at ho
  refine zg_blk zd_66 1 hs (rfl : zb x zT0 zc_66 1 (76, [o0, o1, o2, some (.int z3), some (.int v4), o5], [], h) = some (78, [o0, o1, o2, some (.int z3), some (.int v4), o5], [.int v4], h)) (fun hs => ?_)
  exact zg_ret zd_66 rfl rfl (hF hs)
set_option maxRecDepth 100000 in
set_option maxHeartbeats 400000 in
theorem f_Planner_windowFor_k85_t {x : zm_X} {d : Nat} (h : zm_H) (o0 : Option Value) (o1 : Option Value) (o2 : Option Value) (z3 : Int32) (o4 : Option Value) (o5 : Option Value) {Q : Option Value → zm_H → Prop} (hs : zSh zT0 h) (ho : f_Planner_windowFor_k85_ok h) (hF : (zSh zT0 (f_Planner_windowFor_k85 h).2 → Q (some (.int (f_Planner_windowFor_k85 h).1)) (f_Planner_windowFor_k85 h).2)) : zg x (d + 4) 66 85 [o0, o1, o2, some (.int z3), o4, o5] [] h Q := by
  unfold f_Planner_windowFor_k85 at hF
  unfold f_Planner_windowFor_k85_ok at ho
  refine zg_blk zd_66 1 hs (rfl : zb x zT0 zc_66 1 (85, [o0, o1, o2, some (.int z3), o4, o5], [], h) = some (86, [o0, o1, o2, some (.int z3), o4, o5], [.int (-1)], h)) (fun hs => ?_)
  exact zg_ret zd_66 rfl rfl (hF hs)
set_option maxRecDepth 100000 in
set_option maxHeartbeats 400000 in
theorem f_Planner_windowFor_t {x : zm_X} {d : Nat} (p1 : Int32) (p2 : Int32) (p3 : Int32) (h : zm_H) {Q : Option Value → zm_H → Prop} (hs : zSh zT0 h) (ho : f_Planner_windowFor_ok p1 p2 p3 h) (hF : (zSh zT0 (f_Planner_windowFor p1 p2 p3 h).2 → Q (some (.int (f_Planner_windowFor p1 p2 p3 h).1)) (f_Planner_windowFor p1 p2 p3 h).2)) : zg x (d + 4) 66 0 [some (.ref 72), some (.int p1), some (.int p2), some (.int p3), none, none] [] h Q := by
  unfold f_Planner_windowFor at hF
  unfold f_Planner_windowFor_ok at ho
  refine zg_blk zd_66 2 hs (rfl : zb x zT0 zc_66 2 (0, [some (.ref 72), some (.int p1), some (.int p2), some (.int p3), none, none], [], h) = some (3, [some (.ref 72), some (.int p1), some (.int p2), some (.int p3), some (.int 0), none], [], h)) (fun hs => ?_)
  refine f_Planner_windowFor_l3_t p1 p2 p3 (fun r => f_Planner_windowFor_a3_ok r ∧ (zSh zT0 (f_Planner_windowFor_a3 r).2 → Q (some (.int (f_Planner_windowFor_a3 r).1)) (f_Planner_windowFor_a3 r).2)) ?_ ?_ zF 0 h (none) hs ho.1 ⟨ho.2, hF⟩
  · intro v4_ h_ o5_ hs hG
    have ho : True := trivial
    have hF : (zSh zT0 ((f_Planner_windowFor_k76 v4_ h_)).2 → Q (some (.int ((f_Planner_windowFor_k76 v4_ h_)).1)) ((f_Planner_windowFor_k76 v4_ h_)).2) := hG.2
    exact f_Planner_windowFor_k76_t v4_ h_ (some (.ref 72)) (some (.int p1)) (some (.int p2)) p3 (o5_) hs trivial hF
  · intro v4_ h_ o4_ o5_ hs hG
    have ho : True := trivial
    have hF : (zSh zT0 ((f_Planner_windowFor_k85 h_)).2 → Q (some (.int ((f_Planner_windowFor_k85 h_)).1)) ((f_Planner_windowFor_k85 h_)).2) := hG.2
    exact f_Planner_windowFor_k85_t h_ (some (.ref 72)) (some (.int p1)) (some (.int p2)) p3 (o4_) (o5_) hs trivial hF
set_option maxRecDepth 100000 in
set_option maxHeartbeats 400000 in
theorem f_Planner_choose_l37_k71_t {x : zm_X} {d : Nat} (v1 : Int32) (v2 : Int32) (v3 : Int32) (w1 : Int32) (w2 : Int32) (h : zm_H) {Q : Option Value → zm_H → Prop} {FN : Nat × Int32 × Int32 × Int32 × zm_H → Prop} (hs : zSh zT0 h) (ho : f_Planner_choose_l37_k71_ok v1 v2 v3 w1 w2 h) (hF : FN (f_Planner_choose_l37_k71 v1 v2 v3 w1 w2 h)) (hl0 : ∀ (v1 : Int32) (v2 : Int32) (v3 : Int32) (h : zm_H), zSh zT0 h → FN (0, v1, v2, v3, h) → zg x (d + 5) 61 37 [some (.ref 72), some (.int v1), some (.int v2), some (.int v3)] [] h Q) (hl1 : ∀ (v1 : Int32) (v2 : Int32) (v3 : Int32) (h : zm_H) (o1 : Option Value) (o2 : Option Value) (o3 : Option Value), zSh zT0 h → FN (1, v1, v2, v3, h) → zg x (d + 5) 61 126 [some (.ref 72), o1, o2, o3] [] h Q) : zg x (d + 5) 61 71 [some (.ref 72), some (.int v1), some (.int v2), some (.int v3)] [.int w2, .int w1, .ref 81] h Q := by
  unfold f_Planner_choose_l37_k71 at hF
  unfold f_Planner_choose_l37_k71_ok at ho
  obtain ⟨hob, ho⟩ := ho
  refine zg_ias hs zd_61 rfl rfl hob (fun hs => ?_)
  refine zg_blk zd_61 3 hs (rfl : zb x zT0 zc_61 3 (72, [some (.ref 72), some (.int v1), some (.int v2), some (.int v3)], [], (zs h 81 w1 w2)) = some (77, [some (.ref 72), some (.int v1), some (.int v2), some (.int v3)], [.int v3, .ref 81], (zs h 81 w1 w2))) (fun hs => ?_)
  obtain ⟨hob, ho⟩ := ho
  refine zg_ial hs zd_61 rfl rfl hob ?_
  refine zg_blk zd_61 1 hs (rfl : zb x zT0 zc_61 1 (78, [some (.ref 72), some (.int v1), some (.int v2), some (.int v3)], [.int (zr (zs h 81 w1 w2) 81 v3)], (zs h 81 w1 w2)) = some (79, [some (.ref 72), some (.int v1), some (.int v2), some (.int v3)], [.int (-1), .int (zr (zs h 81 w1 w2) 81 v3)], (zs h 81 w1 w2))) (fun hs => ?_)
  have hom := ho
  have K159 : zSh zT0 (if ((zr (zs h 81 w1 w2) 81 v3) = (-1)) then (zs h 81 w1 w2) else (zs (zs h 81 w1 w2) 77 (zr (zs h 81 w1 w2) 81 v3) ((zr h 77 (zr (zs h 81 w1 w2) 81 v3)) - (zr h 73 v3)))) → zg x (d + 5) 61 120 [some (.ref 72), some (.int (if ((zr (zs h 81 w1 w2) 81 v3) = (-1)) then (v1 : Int32) else (v1 - (zr h 74 v3)))), some (.int (if ((zr (zs h 81 w1 w2) 81 v3) = (-1)) then (v2 : Int32) else (v2 - (zr h 73 v3)))), some (.int v3)] [] (if ((zr (zs h 81 w1 w2) 81 v3) = (-1)) then (zs h 81 w1 w2) else (zs (zs h 81 w1 w2) 77 (zr (zs h 81 w1 w2) 81 v3) ((zr h 77 (zr (zs h 81 w1 w2) 81 v3)) - (zr h 73 v3)))) Q := fun hs => by
    refine zg_blk zd_61 2 hs (rfl : zb x zT0 zc_61 2 (120, [some (.ref 72), some (.int (if ((zr (zs h 81 w1 w2) 81 v3) = (-1)) then (v1 : Int32) else (v1 - (zr h 74 v3)))), some (.int (if ((zr (zs h 81 w1 w2) 81 v3) = (-1)) then (v2 : Int32) else (v2 - (zr h 73 v3)))), some (.int v3)], [], (if ((zr (zs h 81 w1 w2) 81 v3) = (-1)) then (zs h 81 w1 w2) else (zs (zs h 81 w1 w2) 77 (zr (zs h 81 w1 w2) 81 v3) ((zr h 77 (zr (zs h 81 w1 w2) 81 v3)) - (zr h 73 v3))))) = some (37, [some (.ref 72), some (.int (if ((zr (zs h 81 w1 w2) 81 v3) = (-1)) then (v1 : Int32) else (v1 - (zr h 74 v3)))), some (.int (if ((zr (zs h 81 w1 w2) 81 v3) = (-1)) then (v2 : Int32) else (v2 - (zr h 73 v3)))), some (.int (v3 + 1))], [], (if ((zr (zs h 81 w1 w2) 81 v3) = (-1)) then (zs h 81 w1 w2) else (zs (zs h 81 w1 w2) 77 (zr (zs h 81 w1 w2) 81 v3) ((zr h 77 (zr (zs h 81 w1 w2) 81 v3)) - (zr h 73 v3)))))) (fun hs => ?_)
    exact hl0 (if ((zr (zs h 81 w1 w2) 81 v3) = (-1)) then (v1 : Int32) else (v1 - (zr h 74 v3))) (if ((zr (zs h 81 w1 w2) 81 v3) = (-1)) then (v2 : Int32) else (v2 - (zr h 73 v3))) (v3 + 1) (if ((zr (zs h 81 w1 w2) 81 v3) = (-1)) then (zs h 81 w1 w2) else (zs (zs h 81 w1 w2) 77 (zr (zs h 81 w1 w2) 81 v3) ((zr h 77 (zr (zs h 81 w1 w2) 81 v3)) - (zr h 73 v3)))) hs hF
  refine zg_i_eq zd_61 rfl (fun (hc : ((zr (zs h 81 w1 w2) 81 v3) = (-1))) => ?_) (fun (hc : ¬ ((zr (zs h 81 w1 w2) 81 v3) = (-1))) => ?_)
  · have ho := hom.1 hc
    rw [show ((if ((zr (zs h 81 w1 w2) 81 v3) = (-1)) then (v1 : Int32) else (v1 - (zr h 74 v3))) : Int32) = v1 from if_pos hc] at K159
    rw [show ((if ((zr (zs h 81 w1 w2) 81 v3) = (-1)) then (v2 : Int32) else (v2 - (zr h 73 v3))) : Int32) = v2 from if_pos hc] at K159
    rw [show (if ((zr (zs h 81 w1 w2) 81 v3) = (-1)) then (zs h 81 w1 w2) else (zs (zs h 81 w1 w2) 77 (zr (zs h 81 w1 w2) 81 v3) ((zr h 77 (zr (zs h 81 w1 w2) 81 v3)) - (zr h 73 v3)))) = (zs h 81 w1 w2) from if_pos hc] at K159
    exact K159 hs
  · have ho := hom.2 hc
    rw [show ((if ((zr (zs h 81 w1 w2) 81 v3) = (-1)) then (v1 : Int32) else (v1 - (zr h 74 v3))) : Int32) = (v1 - (zr h 74 v3)) from if_neg hc] at K159
    rw [show ((if ((zr (zs h 81 w1 w2) 81 v3) = (-1)) then (v2 : Int32) else (v2 - (zr h 73 v3))) : Int32) = (v2 - (zr h 73 v3)) from if_neg hc] at K159
    rw [show (if ((zr (zs h 81 w1 w2) 81 v3) = (-1)) then (zs h 81 w1 w2) else (zs (zs h 81 w1 w2) 77 (zr (zs h 81 w1 w2) 81 v3) ((zr h 77 (zr (zs h 81 w1 w2) 81 v3)) - (zr h 73 v3)))) = (zs (zs h 81 w1 w2) 77 (zr (zs h 81 w1 w2) 81 v3) ((zr h 77 (zr (zs h 81 w1 w2) 81 v3)) - (zr h 73 v3))) from if_neg hc] at K159
    refine zg_blk zd_61 5 hs (rfl : zb x zT0 zc_61 5 (82, [some (.ref 72), some (.int v1), some (.int v2), some (.int v3)], [], (zs h 81 w1 w2)) = some (91, [some (.ref 72), some (.int v1), some (.int v2), some (.int v3)], [.int v3, .ref 81, .ref 77], (zs h 81 w1 w2))) (fun hs => ?_)
    obtain ⟨hob, ho⟩ := ho
    refine zg_ial hs zd_61 rfl rfl hob ?_
    refine zg_blk zd_61 1 hs (rfl : zb x zT0 zc_61 1 (92, [some (.ref 72), some (.int v1), some (.int v2), some (.int v3)], [.int (zr (zs h 81 w1 w2) 81 v3), .ref 77], (zs h 81 w1 w2)) = some (93, [some (.ref 72), some (.int v1), some (.int v2), some (.int v3)], [.int (zr (zs h 81 w1 w2) 81 v3), .ref 77, .int (zr (zs h 81 w1 w2) 81 v3), .ref 77], (zs h 81 w1 w2))) (fun hs => ?_)
    obtain ⟨hob, ho⟩ := ho
    refine zg_ial hs zd_61 rfl rfl hob ?_
    refine zg_blk zd_61 3 hs (rfl : zb x zT0 zc_61 3 (94, [some (.ref 72), some (.int v1), some (.int v2), some (.int v3)], [.int (zr h 77 (zr (zs h 81 w1 w2) 81 v3)), .int (zr (zs h 81 w1 w2) 81 v3), .ref 77], (zs h 81 w1 w2)) = some (99, [some (.ref 72), some (.int v1), some (.int v2), some (.int v3)], [.int v3, .ref 73, .int (zr h 77 (zr (zs h 81 w1 w2) 81 v3)), .int (zr (zs h 81 w1 w2) 81 v3), .ref 77], (zs h 81 w1 w2))) (fun hs => ?_)
    obtain ⟨hob, ho⟩ := ho
    refine zg_ial hs zd_61 rfl rfl hob ?_
    refine zg_blk zd_61 1 hs (rfl : zb x zT0 zc_61 1 (100, [some (.ref 72), some (.int v1), some (.int v2), some (.int v3)], [.int (zr h 73 v3), .int (zr h 77 (zr (zs h 81 w1 w2) 81 v3)), .int (zr (zs h 81 w1 w2) 81 v3), .ref 77], (zs h 81 w1 w2)) = some (101, [some (.ref 72), some (.int v1), some (.int v2), some (.int v3)], [.int ((zr h 77 (zr (zs h 81 w1 w2) 81 v3)) - (zr h 73 v3)), .int (zr (zs h 81 w1 w2) 81 v3), .ref 77], (zs h 81 w1 w2))) (fun hs => ?_)
    obtain ⟨hob, ho⟩ := ho
    refine zg_ias hs zd_61 rfl rfl hob (fun hs => ?_)
    refine zg_blk zd_61 4 hs (rfl : zb x zT0 zc_61 4 (102, [some (.ref 72), some (.int v1), some (.int v2), some (.int v3)], [], (zs (zs h 81 w1 w2) 77 (zr (zs h 81 w1 w2) 81 v3) ((zr h 77 (zr (zs h 81 w1 w2) 81 v3)) - (zr h 73 v3)))) = some (108, [some (.ref 72), some (.int v1), some (.int v2), some (.int v3)], [.int v3, .ref 74, .int v1], (zs (zs h 81 w1 w2) 77 (zr (zs h 81 w1 w2) 81 v3) ((zr h 77 (zr (zs h 81 w1 w2) 81 v3)) - (zr h 73 v3))))) (fun hs => ?_)
    obtain ⟨hob, ho⟩ := ho
    refine zg_ial hs zd_61 rfl rfl hob ?_
    refine zg_blk zd_61 6 hs (rfl : zb x zT0 zc_61 6 (109, [some (.ref 72), some (.int v1), some (.int v2), some (.int v3)], [.int (zr h 74 v3), .int v1], (zs (zs h 81 w1 w2) 77 (zr (zs h 81 w1 w2) 81 v3) ((zr h 77 (zr (zs h 81 w1 w2) 81 v3)) - (zr h 73 v3)))) = some (117, [some (.ref 72), some (.int (v1 - (zr h 74 v3))), some (.int v2), some (.int v3)], [.int v3, .ref 73, .int v2], (zs (zs h 81 w1 w2) 77 (zr (zs h 81 w1 w2) 81 v3) ((zr h 77 (zr (zs h 81 w1 w2) 81 v3)) - (zr h 73 v3))))) (fun hs => ?_)
    have hob := ho
    refine zg_ial hs zd_61 rfl rfl hob ?_
    refine zg_blk zd_61 2 hs (rfl : zb x zT0 zc_61 2 (118, [some (.ref 72), some (.int (v1 - (zr h 74 v3))), some (.int v2), some (.int v3)], [.int (zr h 73 v3), .int v2], (zs (zs h 81 w1 w2) 77 (zr (zs h 81 w1 w2) 81 v3) ((zr h 77 (zr (zs h 81 w1 w2) 81 v3)) - (zr h 73 v3)))) = some (120, [some (.ref 72), some (.int (v1 - (zr h 74 v3))), some (.int (v2 - (zr h 73 v3))), some (.int v3)], [], (zs (zs h 81 w1 w2) 77 (zr (zs h 81 w1 w2) 81 v3) ((zr h 77 (zr (zs h 81 w1 w2) 81 v3)) - (zr h 73 v3))))) (fun hs => ?_)
    exact K159 hs
set_option maxRecDepth 100000 in
set_option maxHeartbeats 400000 in
theorem f_Planner_choose_l37_b_t {x : zm_X} {d : Nat} (v1 : Int32) (v2 : Int32) (v3 : Int32) (h : zm_H) {Q : Option Value → zm_H → Prop} {FN : Nat × Int32 × Int32 × Int32 × zm_H → Prop} (hs : zSh zT0 h) (ho : f_Planner_choose_l37_b_ok v1 v2 v3 h) (hF : FN (f_Planner_choose_l37_b v1 v2 v3 h)) (hl0 : ∀ (v1 : Int32) (v2 : Int32) (v3 : Int32) (h : zm_H), zSh zT0 h → FN (0, v1, v2, v3, h) → zg x (d + 5) 61 37 [some (.ref 72), some (.int v1), some (.int v2), some (.int v3)] [] h Q) (hl1 : ∀ (v1 : Int32) (v2 : Int32) (v3 : Int32) (h : zm_H) (o1 : Option Value) (o2 : Option Value) (o3 : Option Value), zSh zT0 h → FN (1, v1, v2, v3, h) → zg x (d + 5) 61 126 [some (.ref 72), o1, o2, o3] [] h Q) : zg x (d + 5) 61 37 [some (.ref 72), some (.int v1), some (.int v2), some (.int v3)] [] h Q := by
  unfold f_Planner_choose_l37_b at hF
  unfold f_Planner_choose_l37_b_ok at ho
  refine zg_blk zd_61 3 hs (rfl : zb x zT0 zc_61 3 (37, [some (.ref 72), some (.int v1), some (.int v2), some (.int v3)], [], h) = some (42, [some (.ref 72), some (.int v1), some (.int v2), some (.int v3)], [.int (zf h 72 2), .int v3], h)) (fun hs => ?_)
  refine zg_i_ge zd_61 rfl (fun (hc : ((zf h 72 2) ≤ v3)) => ?_) (fun (hc : ¬ ((zf h 72 2) ≤ v3)) => ?_)
  · have ho := ho.1 hc
    rw [if_pos hc] at hF
    exact hl1 v1 v2 v3 h (some (.int v1)) (some (.int v2)) (some (.int v3)) hs hF
  · have ho := ho.2 hc
    rw [if_neg hc] at hF
    refine zg_blk zd_61 9 hs (rfl : zb x zT0 zc_61 9 (45, [some (.ref 72), some (.int v1), some (.int v2), some (.int v3)], [], h) = some (58, [some (.ref 72), some (.int v1), some (.int v2), some (.int v3)], [.int v3, .ref 74, .int v1, .int v3, .ref 72, .int v3, .ref 81], h)) (fun hs => ?_)
    obtain ⟨hob, ho⟩ := ho
    refine zg_ial hs zd_61 rfl rfl hob ?_
    refine zg_blk zd_61 5 hs (rfl : zb x zT0 zc_61 5 (59, [some (.ref 72), some (.int v1), some (.int v2), some (.int v3)], [.int (zr h 74 v3), .int v1, .int v3, .ref 72, .int v3, .ref 81], h) = some (66, [some (.ref 72), some (.int v1), some (.int v2), some (.int v3)], [.int v3, .ref 73, .int v2, .int (v1 - (zr h 74 v3)), .int v3, .ref 72, .int v3, .ref 81], h)) (fun hs => ?_)
    obtain ⟨hob, ho⟩ := ho
    refine zg_ial hs zd_61 rfl rfl hob ?_
    refine zg_blk zd_61 1 hs (rfl : zb x zT0 zc_61 1 (67, [some (.ref 72), some (.int v1), some (.int v2), some (.int v3)], [.int (zr h 73 v3), .int v2, .int (v1 - (zr h 74 v3)), .int v3, .ref 72, .int v3, .ref 81], h) = some (68, [some (.ref 72), some (.int v1), some (.int v2), some (.int v3)], [.int (v2 - (zr h 73 v3)), .int (v1 - (zr h 74 v3)), .int v3, .ref 72, .int v3, .ref 81], h)) (fun hs => ?_)
    obtain ⟨hob, ho⟩ := ho
    refine zg_call hs zd_61 rfl rfl rfl rfl (as := [.ref 72, .int v3, .int (v1 - (zr h 74 v3)), .int (v2 - (zr h 73 v3))]) (rest := [.int v3, .ref 81]) (en := [some (.ref 72), some (.int v3), some (.int (v1 - (zr h 74 v3))), some (.int (v2 - (zr h 73 v3))), none, none]) rfl rfl rfl rfl rfl ?_
    refine f_Planner_windowFor_t v3 (v1 - (zr h 74 v3)) (v2 - (zr h 73 v3)) h hs hob (fun hs => ?_)
    show zg x (d + 5) 61 71 [some (.ref 72), some (.int v1), some (.int v2), some (.int v3)] [.int (f_Planner_windowFor v3 (v1 - (zr h 74 v3)) (v2 - (zr h 73 v3)) h).1, .int v3, .ref 81] (f_Planner_windowFor v3 (v1 - (zr h 74 v3)) (v2 - (zr h 73 v3)) h).2 Q
    exact f_Planner_choose_l37_k71_t v1 v2 v3 v3 (f_Planner_windowFor v3 (v1 - (zr h 74 v3)) (v2 - (zr h 73 v3)) h).1 (f_Planner_windowFor v3 (v1 - (zr h 74 v3)) (v2 - (zr h 73 v3)) h).2 hs ho hF hl0 hl1
theorem f_Planner_choose_l37_t {x : zm_X} {d : Nat} {Q : Option Value → zm_H → Prop} (G : Nat × Int32 × Int32 × Int32 × zm_H → Prop) (hx1 : ∀ (v1 : Int32) (v2 : Int32) (v3 : Int32) (h : zm_H) (o1 : Option Value) (o2 : Option Value) (o3 : Option Value), zSh zT0 h → G (1, v1, v2, v3, h) → zg x (d + 5) 61 126 [some (.ref 72), o1, o2, o3] [] h Q) : ∀ (n : Nat) (v1 : Int32) (v2 : Int32) (v3 : Int32) (h : zm_H), zSh zT0 h → f_Planner_choose_l37_ok n (v1, v2, v3, h) → G (f_Planner_choose_l37 n (v1, v2, v3, h)) → zg x (d + 5) 61 37 [some (.ref 72), some (.int v1), some (.int v2), some (.int v3)] [] h Q := by
  intro n
  induction n with
  | zero => intro v1 v2 v3 h hs ho hG; exact ho.elim
  | succ n ih =>
    intro v1 v2 v3 h hs ho hG
    refine f_Planner_choose_l37_b_t (FN := fun r => (r.1 = 0 → f_Planner_choose_l37_ok n r.2) ∧ G (if r.1 = 0 then f_Planner_choose_l37 n r.2 else r)) v1 v2 v3 h hs ho.1 ⟨ho.2, hG⟩ ?_ ?_
    · intro v1 v2 v3 h hs hF
      exact ih v1 v2 v3 h hs (hF.1 rfl) hF.2
    · intro v1 v2 v3 h o1 o2 o3 hs hF
      exact hx1 v1 v2 v3 h o1 o2 o3 hs hF.2

set_option maxRecDepth 100000 in
set_option maxHeartbeats 400000 in
theorem f_Planner_choose_k126_t {x : zm_X} {d : Nat} (h : zm_H) (o0 : Option Value) (o1 : Option Value) (o2 : Option Value) (o3 : Option Value) {Q : Option Value → zm_H → Prop} (hs : zSh zT0 h) (ho : f_Planner_choose_k126_ok h) (hF : (zSh zT0 (f_Planner_choose_k126 h) → Q none (f_Planner_choose_k126 h))) : zg x (d + 5) 61 126 [o0, o1, o2, o3] [] h Q := by
  unfold f_Planner_choose_k126 at hF
  unfold f_Planner_choose_k126_ok at ho
  exact zg_ret zd_61 rfl rfl (hF hs)
set_option maxRecDepth 100000 in
set_option maxHeartbeats 400000 in
theorem f_Planner_choose_k25_t {x : zm_X} {d : Nat} (h : zm_H) (o1 : Option Value) (o2 : Option Value) (o3 : Option Value) {Q : Option Value → zm_H → Prop} (hs : zSh zT0 h) (ho : f_Planner_choose_k25_ok h) (hF : (zSh zT0 (f_Planner_choose_k25 h) → Q none (f_Planner_choose_k25 h))) : zg x (d + 5) 61 25 [some (.ref 72), o1, o2, o3] [] h Q := by
  unfold f_Planner_choose_k25 at hF
  unfold f_Planner_choose_k25_ok at ho
  refine zg_blk zd_61 8 hs (rfl : zb x zT0 zc_61 8 (25, [some (.ref 72), o1, o2, o3], [], h) = some (37, [some (.ref 72), some (.int (zf h 72 12)), some (.int (zf h 72 13)), some (.int 0)], [], h)) (fun hs => ?_)
  refine f_Planner_choose_l37_t  (fun r => f_Planner_choose_a37_ok r ∧ (zSh zT0 (f_Planner_choose_a37 r) → Q none (f_Planner_choose_a37 r))) ?_ zF (zf h 72 12) (zf h 72 13) 0 h hs ho.1 ⟨ho.2, hF⟩
  · intro v1_ v2_ v3_ h_ o1_ o2_ o3_ hs hG
    have ho : True := trivial
    have hF : (zSh zT0 ((f_Planner_choose_k126 h_)) → Q none ((f_Planner_choose_k126 h_))) := hG.2
    exact f_Planner_choose_k126_t h_ (some (.ref 72)) (o1_) (o2_) (o3_) hs trivial hF
set_option maxRecDepth 100000 in
set_option maxHeartbeats 400000 in
theorem f_Planner_choose_k21_t {x : zm_X} {d : Nat} (h : zm_H) (o1 : Option Value) (o2 : Option Value) (o3 : Option Value) {Q : Option Value → zm_H → Prop} (hs : zSh zT0 h) (ho : f_Planner_choose_k21_ok h) (hF : (zSh zT0 (f_Planner_choose_k21 h) → Q none (f_Planner_choose_k21 h))) : zg x (d + 5) 61 21 [some (.ref 72), o1, o2, o3] [] h Q := by
  unfold f_Planner_choose_k21 at hF
  unfold f_Planner_choose_k21_ok at ho
  refine zg_blk zd_61 1 hs (rfl : zb x zT0 zc_61 1 (21, [some (.ref 72), o1, o2, o3], [], h) = some (22, [some (.ref 72), o1, o2, o3], [.ref 72], h)) (fun hs => ?_)
  obtain ⟨hob, ho⟩ := ho
  refine zg_call hs zd_61 rfl rfl rfl rfl (as := [.ref 72]) (rest := []) (en := [some (.ref 72), none, none]) rfl rfl rfl rfl rfl ?_
  refine f_Planner_findBest_t  h hs hob (fun hs => ?_)
  show zg x (d + 5) 61 25 [some (.ref 72), o1, o2, o3] [] (f_Planner_findBest h) Q
  exact f_Planner_choose_k25_t (f_Planner_findBest h) (o1) (o2) (o3) hs ho hF
set_option maxRecDepth 100000 in
set_option maxHeartbeats 400000 in
theorem f_Planner_choose_t {x : zm_X} {d : Nat} (h : zm_H) {Q : Option Value → zm_H → Prop} (hs : zSh zT0 h) (ho : f_Planner_choose_ok h) (hF : (zSh zT0 (f_Planner_choose h) → Q none (f_Planner_choose h))) : zg x (d + 5) 61 0 [some (.ref 72), none, none, none] [] h Q := by
  unfold f_Planner_choose at hF
  unfold f_Planner_choose_ok at ho
  refine zg_blk zd_61 8 hs (rfl : zb x zT0 zc_61 8 (0, [some (.ref 72), none, none, none], [], h) = some (14, [some (.ref 72), none, none, none], [.int (zf h 72 5), .int 0, .ref 77, .int 0, .ref 76], h)) (fun hs => ?_)
  obtain ⟨hob, ho⟩ := ho
  refine zg_x zd_61 rfl rfl rfl rfl (as := [.ref 76, .int 0, .ref 77, .int 0, .int (zf h 72 5)]) (rest := []) (w := none) rfl rfl (zx_cp hs rfl rfl hob) ?_
  have hs : zSh zT0 (zcp h 76 0 77 0 (zf h 72 5)) := zx_cps hs
  refine zg_blk zd_61 1 hs (rfl : zb x zT0 zc_61 1 (17, [some (.ref 72), none, none, none], [], (zcp h 76 0 77 0 (zf h 72 5))) = some (18, [some (.ref 72), none, none, none], [.ref 72], (zcp h 76 0 77 0 (zf h 72 5)))) (fun hs => ?_)
  obtain ⟨hob, ho⟩ := ho
  refine zg_call hs zd_61 rfl rfl rfl rfl (as := [.ref 72]) (rest := []) (en := [some (.ref 72), none, none]) rfl rfl rfl rfl rfl ?_
  refine f_Planner_measureSets_t  (zcp h 76 0 77 0 (zf h 72 5)) hs hob (fun hs => ?_)
  show zg x (d + 5) 61 21 [some (.ref 72), none, none, none] [] (f_Planner_measureSets (zcp h 76 0 77 0 (zf h 72 5))) Q
  exact f_Planner_choose_k21_t (f_Planner_measureSets (zcp h 76 0 77 0 (zf h 72 5))) (none) (none) (none) hs ho hF
set_option maxRecDepth 100000 in
set_option maxHeartbeats 400000 in
theorem f_N_plan_k48_t {x : zm_X} {d : Nat} (v2 : Int32) (h : zm_H) (o1 : Option Value) {Q : Option Value → zm_H → Prop} (hs : zSh zT0 h) (ho : f_N_plan_k48_ok v2 h) (hF : (zSh zT0 (f_N_plan_k48 v2 h).2 → Q (some (.int (f_N_plan_k48 v2 h).1)) (f_N_plan_k48 v2 h).2)) : zg x (d + 6) 161 48 [some (.ref 0), o1, some (.int v2)] [] h Q := by
  unfold f_N_plan_k48 at hF
  unfold f_N_plan_k48_ok at ho
  refine zg_blk zd_161 2 hs (rfl : zb x zT0 zc_161 2 (48, [some (.ref 0), o1, some (.int v2)], [], h) = some (50, [some (.ref 0), o1, some (.int v2)], [.int (-1), .int v2], h)) (fun hs => ?_)
  have hom := ho
  have K160 : zSh zT0 h → zg x (d + 6) 161 72 [some (.ref 0), o1, some (.int v2)] [.int (if (v2 = (-1)) then ((zf h 72 12) : Int32) else (zr h 81 v2))] h Q := fun hs => by
    exact zg_ret zd_161 rfl rfl (hF hs)
  refine zg_i_ne zd_161 rfl (fun (hc : ¬ (v2 = (-1))) => ?_) (fun (hc : (v2 = (-1))) => ?_)
  · have ho := hom.2 hc
    rw [show ((if (v2 = (-1)) then ((zf h 72 12) : Int32) else (zr h 81 v2)) : Int32) = (zr h 81 v2) from if_neg hc] at K160
    refine zg_blk zd_161 4 hs (rfl : zb x zT0 zc_161 4 (63, [some (.ref 0), o1, some (.int v2)], [], h) = some (71, [some (.ref 0), o1, some (.int v2)], [.int v2, .ref 81], h)) (fun hs => ?_)
    have hob := ho
    refine zg_ial hs zd_161 rfl rfl hob ?_
    exact K160 hs
  · have ho := hom.1 hc
    rw [show ((if (v2 = (-1)) then ((zf h 72 12) : Int32) else (zr h 81 v2)) : Int32) = (zf h 72 12) from if_pos hc] at K160
    refine zg_blk zd_161 4 hs (rfl : zb x zT0 zc_161 4 (53, [some (.ref 0), o1, some (.int v2)], [], h) = some (72, [some (.ref 0), o1, some (.int v2)], [.int (zf h 72 12)], h)) (fun hs => ?_)
    exact K160 hs
set_option maxRecDepth 100000 in
set_option maxHeartbeats 400000 in
theorem f_N_plan_k41_t {x : zm_X} {d : Nat} (v2 : Int32) (h : zm_H) (o1 : Option Value) {Q : Option Value → zm_H → Prop} (hs : zSh zT0 h) (ho : f_N_plan_k41_ok v2 h) (hF : (zSh zT0 (f_N_plan_k41 v2 h).2 → Q (some (.int (f_N_plan_k41 v2 h).1)) (f_N_plan_k41 v2 h).2)) : zg x (d + 6) 161 41 [some (.ref 0), o1, some (.int v2)] [] h Q := by
  unfold f_N_plan_k41 at hF
  unfold f_N_plan_k41_ok at ho
  refine zg_blk zd_161 2 hs (rfl : zb x zT0 zc_161 2 (41, [some (.ref 0), o1, some (.int v2)], [], h) = some (45, [some (.ref 0), o1, some (.int v2)], [.ref 72], h)) (fun hs => ?_)
  obtain ⟨hob, ho⟩ := ho
  refine zg_call hs zd_161 rfl rfl rfl rfl (as := [.ref 72]) (rest := []) (en := [some (.ref 72), none, none, none]) rfl rfl rfl rfl rfl ?_
  refine f_Planner_choose_t  h hs hob (fun hs => ?_)
  show zg x (d + 6) 161 48 [some (.ref 0), o1, some (.int v2)] [] (f_Planner_choose h) Q
  exact f_N_plan_k48_t v2 (f_Planner_choose h) (o1) hs ho hF
set_option maxRecDepth 100000 in
set_option maxHeartbeats 400000 in
theorem f_N_plan_t {x : zm_X} {d : Nat} (p1 : Int32) (p2 : Int32) (h : zm_H) {Q : Option Value → zm_H → Prop} (hs : zSh zT0 h) (ho : f_N_plan_ok p1 p2 h) (hF : (zSh zT0 (f_N_plan p1 p2 h).2 → Q (some (.int (f_N_plan p1 p2 h).1)) (f_N_plan p1 p2 h).2)) : zg x (d + 6) 161 0 [some (.ref 0), some (.int p1), some (.int p2)] [] h Q := by
  unfold f_N_plan at hF
  unfold f_N_plan_ok at ho
  refine zg_blk zd_161 2 hs (rfl : zb x zT0 zc_161 2 (0, [some (.ref 0), some (.int p1), some (.int p2)], [], h) = some (2, [some (.ref 0), some (.int p1), some (.int p2)], [.int 1, .int p1], h)) (fun hs => ?_)
  refine zg_i_lt zd_161 rfl (fun (hc : (p1 < 1)) => ?_) (fun (hc : ¬ (p1 < 1)) => ?_)
  · have ho := ho.1 hc
    rw [if_pos hc] at hF
    refine zg_blk zd_161 1 hs (rfl : zb x zT0 zc_161 1 (27, [some (.ref 0), some (.int p1), some (.int p2)], [], h) = some (28, [some (.ref 0), some (.int p1), some (.int p2)], [.int (-1)], h)) (fun hs => ?_)
    exact zg_ret zd_161 rfl rfl (hF hs)
  · have ho := ho.2 hc
    rw [if_neg hc] at hF
    refine zg_blk zd_161 2 hs (rfl : zb x zT0 zc_161 2 (5, [some (.ref 0), some (.int p1), some (.int p2)], [], h) = some (8, [some (.ref 0), some (.int p1), some (.int p2)], [.int 40, .int p1], h)) (fun hs => ?_)
    refine zg_i_gt zd_161 rfl (fun (hc : (40 < p1)) => ?_) (fun (hc : ¬ (40 < p1)) => ?_)
    · have ho := ho.1 hc
      rw [if_pos hc] at hF
      refine zg_blk zd_161 1 hs (rfl : zb x zT0 zc_161 1 (27, [some (.ref 0), some (.int p1), some (.int p2)], [], h) = some (28, [some (.ref 0), some (.int p1), some (.int p2)], [.int (-1)], h)) (fun hs => ?_)
      exact zg_ret zd_161 rfl rfl (hF hs)
    · have ho := ho.2 hc
      rw [if_neg hc] at hF
      refine zg_blk zd_161 2 hs (rfl : zb x zT0 zc_161 2 (11, [some (.ref 0), some (.int p1), some (.int p2)], [], h) = some (13, [some (.ref 0), some (.int p1), some (.int p2)], [.int (-1), .int p2], h)) (fun hs => ?_)
      refine zg_i_lt zd_161 rfl (fun (hc : (p2 < (-1))) => ?_) (fun (hc : ¬ (p2 < (-1))) => ?_)
      · have ho := ho.1 hc
        rw [if_pos hc] at hF
        refine zg_blk zd_161 1 hs (rfl : zb x zT0 zc_161 1 (27, [some (.ref 0), some (.int p1), some (.int p2)], [], h) = some (28, [some (.ref 0), some (.int p1), some (.int p2)], [.int (-1)], h)) (fun hs => ?_)
        exact zg_ret zd_161 rfl rfl (hF hs)
      · have ho := ho.2 hc
        rw [if_neg hc] at hF
        refine zg_blk zd_161 4 hs (rfl : zb x zT0 zc_161 4 (16, [some (.ref 0), some (.int p1), some (.int p2)], [], h) = some (24, [some (.ref 0), some (.int p1), some (.int p2)], [.int (zf h 72 2), .int p2], h)) (fun hs => ?_)
        refine zg_i_lt zd_161 rfl (fun (hc : (p2 < (zf h 72 2))) => ?_) (fun (hc : ¬ (p2 < (zf h 72 2))) => ?_)
        · have ho := ho.1 hc
          rw [if_pos hc] at hF
          refine zg_blk zd_161 5 hs (rfl : zb x zT0 zc_161 5 (29, [some (.ref 0), some (.int p1), some (.int p2)], [], h) = some (38, [some (.ref 0), some (.int p1), some (.int p2)], [.int p1, .int (zf h 0 0), .ref 72], h)) (fun hs => ?_)
          obtain ⟨hob, ho⟩ := ho
          refine zg_call hs zd_161 rfl rfl rfl rfl (as := [.ref 72, .int (zf h 0 0), .int p1]) (rest := []) (en := [some (.ref 72), some (.int (zf h 0 0)), some (.int p1), none, none, none]) rfl rfl rfl rfl rfl ?_
          refine f_Planner_findWindows_t (zf h 0 0) p1 h hs hob (fun hs => ?_)
          show zg x (d + 6) 161 41 [some (.ref 0), some (.int p1), some (.int p2)] [] (f_Planner_findWindows (zf h 0 0) p1 h) Q
          exact f_N_plan_k41_t p2 (f_Planner_findWindows (zf h 0 0) p1 h) (some (.int p1)) hs ho hF
        · have ho := ho.2 hc
          rw [if_neg hc] at hF
          refine zg_blk zd_161 1 hs (rfl : zb x zT0 zc_161 1 (27, [some (.ref 0), some (.int p1), some (.int p2)], [], h) = some (28, [some (.ref 0), some (.int p1), some (.int p2)], [.int (-1)], h)) (fun hs => ?_)
          exact zg_ret zd_161 rfl rfl (hF hs)
theorem zd_251 : zm_cd 251 = zc_251 := by rfl
set_option maxRecDepth 100000 in
set_option maxHeartbeats 400000 in
theorem f_M_plan_l35_b_t {x : zm_X} {d : Nat} (v2 : Int32) (v3 : Int32) (v4 : Int32) (h : zm_H) (o1 : Option Value) (o5 : Option Value) {Q : Option Value → zm_H → Prop} {FN : Nat × Int32 × zm_H → Prop} (hs : zSh zT0 h) (ho : f_M_plan_l35_b_ok v2 v3 v4 h) (hF : FN (f_M_plan_l35_b v2 v3 v4 h)) (hl0 : ∀ (v4 : Int32) (h : zm_H) (o1 : Option Value) (o5 : Option Value), zSh zT0 h → FN (0, v4, h) → zg x (d + 5) 251 35 [some (.ref 92), o1, some (.int v2), some (.int v3), some (.int v4), o5] [] h Q) (hl1 : ∀ (v4 : Int32) (h : zm_H) (o1 : Option Value) (o4 : Option Value) (o5 : Option Value), zSh zT0 h → FN (1, v4, h) → zg x (d + 5) 251 58 [some (.ref 92), o1, some (.int v2), some (.int v3), o4, o5] [] h Q) : zg x (d + 5) 251 35 [some (.ref 92), o1, some (.int v2), some (.int v3), some (.int v4), o5] [] h Q := by
  unfold f_M_plan_l35_b at hF
  unfold f_M_plan_l35_b_ok at ho
  refine zg_blk zd_251 3 hs (rfl : zb x zT0 zc_251 3 (35, [some (.ref 92), o1, some (.int v2), some (.int v3), some (.int v4), o5], [], h) = some (41, [some (.ref 92), o1, some (.int v2), some (.int v3), some (.int v4), o5], [.int (zf h 92 72), .int v4], h)) (fun hs => ?_)
  refine zg_i_ge zd_251 rfl (fun (hc : ((zf h 92 72) ≤ v4)) => ?_) (fun (hc : ¬ ((zf h 92 72) ≤ v4)) => ?_)
  · have ho := ho.1 hc
    rw [if_pos hc] at hF
    exact hl1 v4 h (o1) (some (.int v4)) (o5) hs hF
  · have ho := ho.2 hc
    rw [if_neg hc] at hF
    refine zg_blk zd_251 4 hs (rfl : zb x zT0 zc_251 4 (44, [some (.ref 92), o1, some (.int v2), some (.int v3), some (.int v4), o5], [], h) = some (51, [some (.ref 92), o1, some (.int v2), some (.int v3), some (.int v4), o5], [.int (-1), .int v4, .ref 156], h)) (fun hs => ?_)
    have hob := ho
    refine zg_ias hs zd_251 rfl rfl hob (fun hs => ?_)
    refine zg_blk zd_251 2 hs (rfl : zb x zT0 zc_251 2 (52, [some (.ref 92), o1, some (.int v2), some (.int v3), some (.int v4), o5], [], (zs h 156 v4 (-1))) = some (35, [some (.ref 92), o1, some (.int v2), some (.int v3), some (.int (v4 + 1)), o5], [], (zs h 156 v4 (-1)))) (fun hs => ?_)
    exact hl0 (v4 + 1) (zs h 156 v4 (-1)) (o1) (o5) hs hF
theorem f_M_plan_l35_t {x : zm_X} {d : Nat} (v2 : Int32) (v3 : Int32) {Q : Option Value → zm_H → Prop} (G : Nat × Int32 × zm_H → Prop) (hx1 : ∀ (v4 : Int32) (h : zm_H) (o1 : Option Value) (o4 : Option Value) (o5 : Option Value), zSh zT0 h → G (1, v4, h) → zg x (d + 5) 251 58 [some (.ref 92), o1, some (.int v2), some (.int v3), o4, o5] [] h Q) : ∀ (n : Nat) (v4 : Int32) (h : zm_H) (o1 : Option Value) (o5 : Option Value), zSh zT0 h → f_M_plan_l35_ok v2 v3 n (v4, h) → G (f_M_plan_l35 v2 v3 n (v4, h)) → zg x (d + 5) 251 35 [some (.ref 92), o1, some (.int v2), some (.int v3), some (.int v4), o5] [] h Q := by
  intro n
  induction n with
  | zero => intro v4 h o1 o5 hs ho hG; exact ho.elim
  | succ n ih =>
    intro v4 h o1 o5 hs ho hG
    refine f_M_plan_l35_b_t (FN := fun r => (r.1 = 0 → f_M_plan_l35_ok v2 v3 n r.2) ∧ G (if r.1 = 0 then f_M_plan_l35 v2 v3 n r.2 else r)) v2 v3 v4 h o1 o5 hs ho.1 ⟨ho.2, hG⟩ ?_ ?_
    · intro v4 h o1 o5 hs hF
      exact ih v4 h o1 o5 hs (hF.1 rfl) hF.2
    · intro v4 h o1 o4 o5 hs hF
      exact hx1 v4 h o1 o4 o5 hs hF.2

theorem zd_252 : zm_cd 252 = zc_252 := by rfl
set_option maxRecDepth 100000 in
set_option maxHeartbeats 400000 in
theorem f_M_bestOf_l9_b_t {x : zm_X} {d : Nat} (v1 : Int32) (v2 : Int32) (v3 : Int32) (h : zm_H) (o4 : Option Value) (o5 : Option Value) (o6 : Option Value) {Q : Option Value → zm_H → Prop} {FN : Nat × Int32 × zm_H → Prop} (hs : zSh zT0 h) (ho : f_M_bestOf_l9_b_ok v1 v2 v3 h) (hF : FN (f_M_bestOf_l9_b v1 v2 v3 h)) (hl0 : ∀ (v3 : Int32) (h : zm_H) (o4 : Option Value) (o5 : Option Value) (o6 : Option Value), zSh zT0 h → FN (0, v3, h) → zg x (d + 2) 252 9 [some (.ref 92), some (.int v1), some (.int v2), some (.int v3), o4, o5, o6] [] h Q) (hl1 : ∀ (v3 : Int32) (h : zm_H) (o3 : Option Value) (o4 : Option Value) (o5 : Option Value) (o6 : Option Value), zSh zT0 h → FN (1, v3, h) → zg x (d + 2) 252 35 [some (.ref 92), some (.int v1), some (.int v2), o3, o4, o5, o6] [] h Q) : zg x (d + 2) 252 9 [some (.ref 92), some (.int v1), some (.int v2), some (.int v3), o4, o5, o6] [] h Q := by
  unfold f_M_bestOf_l9_b at hF
  unfold f_M_bestOf_l9_b_ok at ho
  refine zg_blk zd_252 2 hs (rfl : zb x zT0 zc_252 2 (9, [some (.ref 92), some (.int v1), some (.int v2), some (.int v3), o4, o5, o6], [], h) = some (11, [some (.ref 92), some (.int v1), some (.int v2), some (.int v3), o4, o5, o6], [.int v2, .int v3], h)) (fun hs => ?_)
  refine zg_i_ge zd_252 rfl (fun (hc : (v2 ≤ v3)) => ?_) (fun (hc : ¬ (v2 ≤ v3)) => ?_)
  · have ho := ho.1 hc
    rw [if_pos hc] at hF
    exact hl1 v3 h (some (.int v3)) (o4) (o5) (o6) hs hF
  · have ho := ho.2 hc
    rw [if_neg hc] at hF
    refine zg_blk zd_252 4 hs (rfl : zb x zT0 zc_252 4 (14, [some (.ref 92), some (.int v1), some (.int v2), some (.int v3), o4, o5, o6], [], h) = some (20, [some (.ref 92), some (.int v1), some (.int v2), some (.int v3), o4, o5, o6], [.int v3, .int v3, .ref 157], h)) (fun hs => ?_)
    have K161 : zSh zT0 h → zg x (d + 2) 252 28 [some (.ref 92), some (.int v1), some (.int v2), some (.int v3), o4, o5, o6] [.int (if (v3 = 0) then (0 : Int32) else (-1)), .int v3, .ref 157] h Q := fun hs => by
      have hob := ho
      refine zg_ias hs zd_252 rfl rfl hob (fun hs => ?_)
      refine zg_blk zd_252 2 hs (rfl : zb x zT0 zc_252 2 (29, [some (.ref 92), some (.int v1), some (.int v2), some (.int v3), o4, o5, o6], [], (zs h 157 v3 (if (v3 = 0) then (0 : Int32) else (-1)))) = some (9, [some (.ref 92), some (.int v1), some (.int v2), some (.int (v3 + 1)), o4, o5, o6], [], (zs h 157 v3 (if (v3 = 0) then (0 : Int32) else (-1))))) (fun hs => ?_)
      exact hl0 (v3 + 1) (zs h 157 v3 (if (v3 = 0) then (0 : Int32) else (-1))) (o4) (o5) (o6) hs hF
    refine zg_f_ne zd_252 rfl (fun (hc : ¬ (v3 = 0)) => ?_) (fun (hc : (v3 = 0)) => ?_)
    · skip
      rw [show ((if (v3 = 0) then (0 : Int32) else (-1)) : Int32) = (-1) from if_neg hc] at K161
      refine zg_blk zd_252 1 hs (rfl : zb x zT0 zc_252 1 (27, [some (.ref 92), some (.int v1), some (.int v2), some (.int v3), o4, o5, o6], [.int v3, .ref 157], h) = some (28, [some (.ref 92), some (.int v1), some (.int v2), some (.int v3), o4, o5, o6], [.int (-1), .int v3, .ref 157], h)) (fun hs => ?_)
      exact K161 hs
    · skip
      rw [show ((if (v3 = 0) then (0 : Int32) else (-1)) : Int32) = 0 from if_pos hc] at K161
      refine zg_blk zd_252 2 hs (rfl : zb x zT0 zc_252 2 (23, [some (.ref 92), some (.int v1), some (.int v2), some (.int v3), o4, o5, o6], [.int v3, .ref 157], h) = some (28, [some (.ref 92), some (.int v1), some (.int v2), some (.int v3), o4, o5, o6], [.int 0, .int v3, .ref 157], h)) (fun hs => ?_)
      exact K161 hs
theorem f_M_bestOf_l9_t {x : zm_X} {d : Nat} (v1 : Int32) (v2 : Int32) {Q : Option Value → zm_H → Prop} (G : Nat × Int32 × zm_H → Prop) (hx1 : ∀ (v3 : Int32) (h : zm_H) (o3 : Option Value) (o4 : Option Value) (o5 : Option Value) (o6 : Option Value), zSh zT0 h → G (1, v3, h) → zg x (d + 2) 252 35 [some (.ref 92), some (.int v1), some (.int v2), o3, o4, o5, o6] [] h Q) : ∀ (n : Nat) (v3 : Int32) (h : zm_H) (o4 : Option Value) (o5 : Option Value) (o6 : Option Value), zSh zT0 h → f_M_bestOf_l9_ok v1 v2 n (v3, h) → G (f_M_bestOf_l9 v1 v2 n (v3, h)) → zg x (d + 2) 252 9 [some (.ref 92), some (.int v1), some (.int v2), some (.int v3), o4, o5, o6] [] h Q := by
  intro n
  induction n with
  | zero => intro v3 h o4 o5 o6 hs ho hG; exact ho.elim
  | succ n ih =>
    intro v3 h o4 o5 o6 hs ho hG
    refine f_M_bestOf_l9_b_t (FN := fun r => (r.1 = 0 → f_M_bestOf_l9_ok v1 v2 n r.2) ∧ G (if r.1 = 0 then f_M_bestOf_l9 v1 v2 n r.2 else r)) v1 v2 v3 h o4 o5 o6 hs ho.1 ⟨ho.2, hG⟩ ?_ ?_
    · intro v3 h o4 o5 o6 hs hF
      exact ih v3 h o4 o5 o6 hs (hF.1 rfl) hF.2
    · intro v3 h o3 o4 o5 o6 hs hF
      exact hx1 v3 h o3 o4 o5 o6 hs hF.2

set_option maxRecDepth 100000 in
set_option maxHeartbeats 400000 in
theorem f_M_bestOf_l37_l45_b_t {x : zm_X} {d : Nat} (v1 : Int32) (v2 : Int32) (v3 : Int32) (v4 : Int32) (h : zm_H) (o5 : Option Value) (o6 : Option Value) {Q : Option Value → zm_H → Prop} {FN : Nat × Int32 × zm_H → Prop} (hs : zSh zT0 h) (ho : f_M_bestOf_l37_l45_b_ok v1 v2 v3 v4 h) (hF : FN (f_M_bestOf_l37_l45_b v1 v2 v3 v4 h)) (hl0 : ∀ (v4 : Int32) (h : zm_H) (o5 : Option Value) (o6 : Option Value), zSh zT0 h → FN (0, v4, h) → zg x (d + 2) 252 45 [some (.ref 92), some (.int v1), some (.int v2), some (.int v3), some (.int v4), o5, o6] [] h Q) (hl1 : ∀ (v4 : Int32) (h : zm_H) (o4 : Option Value) (o5 : Option Value) (o6 : Option Value), zSh zT0 h → FN (1, v4, h) → zg x (d + 2) 252 71 [some (.ref 92), some (.int v1), some (.int v2), some (.int v3), o4, o5, o6] [] h Q) : zg x (d + 2) 252 45 [some (.ref 92), some (.int v1), some (.int v2), some (.int v3), some (.int v4), o5, o6] [] h Q := by
  unfold f_M_bestOf_l37_l45_b at hF
  unfold f_M_bestOf_l37_l45_b_ok at ho
  refine zg_blk zd_252 2 hs (rfl : zb x zT0 zc_252 2 (45, [some (.ref 92), some (.int v1), some (.int v2), some (.int v3), some (.int v4), o5, o6], [], h) = some (48, [some (.ref 92), some (.int v1), some (.int v2), some (.int v3), some (.int v4), o5, o6], [.int v2, .int v4], h)) (fun hs => ?_)
  refine zg_i_ge zd_252 rfl (fun (hc : (v2 ≤ v4)) => ?_) (fun (hc : ¬ (v2 ≤ v4)) => ?_)
  · have ho := ho.1 hc
    rw [if_pos hc] at hF
    exact hl1 v4 h (some (.int v4)) (o5) (o6) hs hF
  · have ho := ho.2 hc
    rw [if_neg hc] at hF
    refine zg_blk zd_252 6 hs (rfl : zb x zT0 zc_252 6 (51, [some (.ref 92), some (.int v1), some (.int v2), some (.int v3), some (.int v4), o5, o6], [], h) = some (63, [some (.ref 92), some (.int v1), some (.int v2), some (.int v3), some (.int v4), o5, o6], [.int v4, .ref 157, .int v4, .ref 158], h)) (fun hs => ?_)
    obtain ⟨hob, ho⟩ := ho
    refine zg_ial hs zd_252 rfl rfl hob ?_
    have hob := ho
    refine zg_ias hs zd_252 rfl rfl hob (fun hs => ?_)
    refine zg_blk zd_252 2 hs (rfl : zb x zT0 zc_252 2 (65, [some (.ref 92), some (.int v1), some (.int v2), some (.int v3), some (.int v4), o5, o6], [], (zs h 158 v4 (zr h 157 v4))) = some (45, [some (.ref 92), some (.int v1), some (.int v2), some (.int v3), some (.int (v4 + 1)), o5, o6], [], (zs h 158 v4 (zr h 157 v4)))) (fun hs => ?_)
    exact hl0 (v4 + 1) (zs h 158 v4 (zr h 157 v4)) (o5) (o6) hs hF
theorem f_M_bestOf_l37_l45_t {x : zm_X} {d : Nat} (v1 : Int32) (v2 : Int32) (v3 : Int32) {Q : Option Value → zm_H → Prop} (G : Nat × Int32 × zm_H → Prop) (hx1 : ∀ (v4 : Int32) (h : zm_H) (o4 : Option Value) (o5 : Option Value) (o6 : Option Value), zSh zT0 h → G (1, v4, h) → zg x (d + 2) 252 71 [some (.ref 92), some (.int v1), some (.int v2), some (.int v3), o4, o5, o6] [] h Q) : ∀ (n : Nat) (v4 : Int32) (h : zm_H) (o5 : Option Value) (o6 : Option Value), zSh zT0 h → f_M_bestOf_l37_l45_ok v1 v2 v3 n (v4, h) → G (f_M_bestOf_l37_l45 v1 v2 v3 n (v4, h)) → zg x (d + 2) 252 45 [some (.ref 92), some (.int v1), some (.int v2), some (.int v3), some (.int v4), o5, o6] [] h Q := by
  intro n
  induction n with
  | zero => intro v4 h o5 o6 hs ho hG; exact ho.elim
  | succ n ih =>
    intro v4 h o5 o6 hs ho hG
    refine f_M_bestOf_l37_l45_b_t (FN := fun r => (r.1 = 0 → f_M_bestOf_l37_l45_ok v1 v2 v3 n r.2) ∧ G (if r.1 = 0 then f_M_bestOf_l37_l45 v1 v2 v3 n r.2 else r)) v1 v2 v3 v4 h o5 o6 hs ho.1 ⟨ho.2, hG⟩ ?_ ?_
    · intro v4 h o5 o6 hs hF
      exact ih v4 h o5 o6 hs (hF.1 rfl) hF.2
    · intro v4 h o4 o5 o6 hs hF
      exact hx1 v4 h o4 o5 o6 hs hF.2

