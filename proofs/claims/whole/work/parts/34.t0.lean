/-! ===== the code does what its functions say, 0 ===== -/
theorem zd_118 : zm_cd 118 = zc_118 := by rfl
theorem zd_119 : zm_cd 119 = zc_119 := by rfl
set_option maxRecDepth 100000 in
set_option maxHeartbeats 400000 in
theorem f_N_isSpell_t {x : zm_X} {d : Nat} (p0 : Int32) (h : zm_H) {Q : Option Value → zm_H → Prop} (hs : zSh zT0 h) (ho : f_N_isSpell_ok p0 h) (hF : Q (some (.int (f_N_isSpell p0 h))) h) : zg x (d + 1) 119 0 [some (.int p0)] [] h Q := by
  unfold f_N_isSpell at hF
  unfold f_N_isSpell_ok at ho
  refine zg_blk zd_119 1 hs (rfl : zb x zT0 zc_119 1 (0, [some (.int p0)], [], h) = some (1, [some (.int p0)], [.int p0], h)) (fun hs => ?_)
  have K1 : zSh zT0 h → zg x (d + 1) 119 16 [some (.int p0)] [.int (if (¬ (p0 < 0) ∧ (¬ (480 ≤ p0))) then (1 : Int32) else 0)] h Q := fun hs => by
    exact zg_rtz zd_119 rfl rfl zm_nb01 hF
  refine zg_f_lt zd_119 rfl (fun (hc : (p0 < 0)) => ?_) (fun (hc : ¬ (p0 < 0)) => ?_)
  · skip
    rw [show ((if (¬ (p0 < 0) ∧ (¬ (480 ≤ p0))) then (1 : Int32) else 0) : Int32) = 0 from zb_nand_t hc] at K1
    refine zg_blk zd_119 1 hs (rfl : zb x zT0 zc_119 1 (15, [some (.int p0)], [], h) = some (16, [some (.int p0)], [.int 0], h)) (fun hs => ?_)
    exact K1 hs
  · skip
    rw [show ((if (¬ (p0 < 0) ∧ (¬ (480 ≤ p0))) then (1 : Int32) else 0) : Int32) = (if (¬ (480 ≤ p0)) then (1 : Int32) else 0) from zb_nand_f hc] at K1
    refine zg_blk zd_119 2 hs (rfl : zb x zT0 zc_119 2 (4, [some (.int p0)], [], h) = some (8, [some (.int p0)], [.int 480, .int p0], h)) (fun hs => ?_)
    refine zg_i_ge zd_119 rfl (fun (hc : (480 ≤ p0)) => ?_) (fun (hc : ¬ (480 ≤ p0)) => ?_)
    · skip
      rw [show ((if (¬ (480 ≤ p0)) then (1 : Int32) else 0) : Int32) = 0 from zb_not_t hc] at K1
      refine zg_blk zd_119 1 hs (rfl : zb x zT0 zc_119 1 (15, [some (.int p0)], [], h) = some (16, [some (.int p0)], [.int 0], h)) (fun hs => ?_)
      exact K1 hs
    · skip
      rw [show ((if (¬ (480 ≤ p0)) then (1 : Int32) else 0) : Int32) = 1 from zb_not_f hc] at K1
      refine zg_blk zd_119 2 hs (rfl : zb x zT0 zc_119 2 (11, [some (.int p0)], [], h) = some (16, [some (.int p0)], [.int 1], h)) (fun hs => ?_)
      exact K1 hs
theorem zd_120 : zm_cd 120 = zc_120 := by rfl
set_option maxRecDepth 100000 in
set_option maxHeartbeats 400000 in
theorem f_N_isReading_t {x : zm_X} {d : Nat} (p0 : Int32) (h : zm_H) {Q : Option Value → zm_H → Prop} (hs : zSh zT0 h) (ho : f_N_isReading_ok p0 h) (hF : Q (some (.int (f_N_isReading p0 h))) h) : zg x (d + 1) 120 0 [some (.int p0)] [] h Q := by
  unfold f_N_isReading at hF
  unfold f_N_isReading_ok at ho
  refine zg_blk zd_120 1 hs (rfl : zb x zT0 zc_120 1 (0, [some (.int p0)], [], h) = some (1, [some (.int p0)], [.int p0], h)) (fun hs => ?_)
  have K2 : zSh zT0 h → zg x (d + 1) 120 52 [some (.int p0)] [.int (if (¬ (p0 < 0) ∧ (¬ (120 < (p0 / 1000)) ∧ (¬ (((zm_rm p0 1000) / 10) < 2) ∧ (¬ (20 < ((zm_rm p0 1000) / 10)) ∧ (¬ (2 < (zm_rm p0 10))))))) then (1 : Int32) else 0)] h Q := fun hs => by
    exact zg_rtz zd_120 rfl rfl zm_nb01 hF
  refine zg_f_lt zd_120 rfl (fun (hc : (p0 < 0)) => ?_) (fun (hc : ¬ (p0 < 0)) => ?_)
  · skip
    rw [show ((if (¬ (p0 < 0) ∧ (¬ (120 < (p0 / 1000)) ∧ (¬ (((zm_rm p0 1000) / 10) < 2) ∧ (¬ (20 < ((zm_rm p0 1000) / 10)) ∧ (¬ (2 < (zm_rm p0 10))))))) then (1 : Int32) else 0) : Int32) = 0 from zb_nand_t hc] at K2
    refine zg_blk zd_120 1 hs (rfl : zb x zT0 zc_120 1 (51, [some (.int p0)], [], h) = some (52, [some (.int p0)], [.int 0], h)) (fun hs => ?_)
    exact K2 hs
  · skip
    rw [show ((if (¬ (p0 < 0) ∧ (¬ (120 < (p0 / 1000)) ∧ (¬ (((zm_rm p0 1000) / 10) < 2) ∧ (¬ (20 < ((zm_rm p0 1000) / 10)) ∧ (¬ (2 < (zm_rm p0 10))))))) then (1 : Int32) else 0) : Int32) = (if (¬ (120 < (p0 / 1000)) ∧ (¬ (((zm_rm p0 1000) / 10) < 2) ∧ (¬ (20 < ((zm_rm p0 1000) / 10)) ∧ (¬ (2 < (zm_rm p0 10)))))) then (1 : Int32) else 0) from zb_nand_f hc] at K2
    refine zg_blk zd_120 4 hs (rfl : zb x zT0 zc_120 4 (4, [some (.int p0)], [], h) = some (11, [some (.int p0)], [.int 120, .int (p0 / 1000)], h)) (fun hs => ?_)
    refine zg_i_gt zd_120 rfl (fun (hc : (120 < (p0 / 1000))) => ?_) (fun (hc : ¬ (120 < (p0 / 1000))) => ?_)
    · skip
      rw [show ((if (¬ (120 < (p0 / 1000)) ∧ (¬ (((zm_rm p0 1000) / 10) < 2) ∧ (¬ (20 < ((zm_rm p0 1000) / 10)) ∧ (¬ (2 < (zm_rm p0 10)))))) then (1 : Int32) else 0) : Int32) = 0 from zb_nand_t hc] at K2
      refine zg_blk zd_120 1 hs (rfl : zb x zT0 zc_120 1 (51, [some (.int p0)], [], h) = some (52, [some (.int p0)], [.int 0], h)) (fun hs => ?_)
      exact K2 hs
    · skip
      rw [show ((if (¬ (120 < (p0 / 1000)) ∧ (¬ (((zm_rm p0 1000) / 10) < 2) ∧ (¬ (20 < ((zm_rm p0 1000) / 10)) ∧ (¬ (2 < (zm_rm p0 10)))))) then (1 : Int32) else 0) : Int32) = (if (¬ (((zm_rm p0 1000) / 10) < 2) ∧ (¬ (20 < ((zm_rm p0 1000) / 10)) ∧ (¬ (2 < (zm_rm p0 10))))) then (1 : Int32) else 0) from zb_nand_f hc] at K2
      refine zg_blk zd_120 6 hs (rfl : zb x zT0 zc_120 6 (14, [some (.int p0)], [], h) = some (23, [some (.int p0)], [.int 2, .int ((zm_rm p0 1000) / 10)], h)) (fun hs => ?_)
      refine zg_i_lt zd_120 rfl (fun (hc : (((zm_rm p0 1000) / 10) < 2)) => ?_) (fun (hc : ¬ (((zm_rm p0 1000) / 10) < 2)) => ?_)
      · skip
        rw [show ((if (¬ (((zm_rm p0 1000) / 10) < 2) ∧ (¬ (20 < ((zm_rm p0 1000) / 10)) ∧ (¬ (2 < (zm_rm p0 10))))) then (1 : Int32) else 0) : Int32) = 0 from zb_nand_t hc] at K2
        refine zg_blk zd_120 1 hs (rfl : zb x zT0 zc_120 1 (51, [some (.int p0)], [], h) = some (52, [some (.int p0)], [.int 0], h)) (fun hs => ?_)
        exact K2 hs
      · skip
        rw [show ((if (¬ (((zm_rm p0 1000) / 10) < 2) ∧ (¬ (20 < ((zm_rm p0 1000) / 10)) ∧ (¬ (2 < (zm_rm p0 10))))) then (1 : Int32) else 0) : Int32) = (if (¬ (20 < ((zm_rm p0 1000) / 10)) ∧ (¬ (2 < (zm_rm p0 10)))) then (1 : Int32) else 0) from zb_nand_f hc] at K2
        refine zg_blk zd_120 6 hs (rfl : zb x zT0 zc_120 6 (26, [some (.int p0)], [], h) = some (36, [some (.int p0)], [.int 20, .int ((zm_rm p0 1000) / 10)], h)) (fun hs => ?_)
        refine zg_i_gt zd_120 rfl (fun (hc : (20 < ((zm_rm p0 1000) / 10))) => ?_) (fun (hc : ¬ (20 < ((zm_rm p0 1000) / 10))) => ?_)
        · skip
          rw [show ((if (¬ (20 < ((zm_rm p0 1000) / 10)) ∧ (¬ (2 < (zm_rm p0 10)))) then (1 : Int32) else 0) : Int32) = 0 from zb_nand_t hc] at K2
          refine zg_blk zd_120 1 hs (rfl : zb x zT0 zc_120 1 (51, [some (.int p0)], [], h) = some (52, [some (.int p0)], [.int 0], h)) (fun hs => ?_)
          exact K2 hs
        · skip
          rw [show ((if (¬ (20 < ((zm_rm p0 1000) / 10)) ∧ (¬ (2 < (zm_rm p0 10)))) then (1 : Int32) else 0) : Int32) = (if (¬ (2 < (zm_rm p0 10))) then (1 : Int32) else 0) from zb_nand_f hc] at K2
          refine zg_blk zd_120 4 hs (rfl : zb x zT0 zc_120 4 (39, [some (.int p0)], [], h) = some (44, [some (.int p0)], [.int 2, .int (zm_rm p0 10)], h)) (fun hs => ?_)
          refine zg_i_gt zd_120 rfl (fun (hc : (2 < (zm_rm p0 10))) => ?_) (fun (hc : ¬ (2 < (zm_rm p0 10))) => ?_)
          · skip
            rw [show ((if (¬ (2 < (zm_rm p0 10))) then (1 : Int32) else 0) : Int32) = 0 from zb_not_t hc] at K2
            refine zg_blk zd_120 1 hs (rfl : zb x zT0 zc_120 1 (51, [some (.int p0)], [], h) = some (52, [some (.int p0)], [.int 0], h)) (fun hs => ?_)
            exact K2 hs
          · skip
            rw [show ((if (¬ (2 < (zm_rm p0 10))) then (1 : Int32) else 0) : Int32) = 1 from zb_not_f hc] at K2
            refine zg_blk zd_120 2 hs (rfl : zb x zT0 zc_120 2 (47, [some (.int p0)], [], h) = some (52, [some (.int p0)], [.int 1], h)) (fun hs => ?_)
            exact K2 hs
theorem zd_80 : zm_cd 80 = zc_80 := by rfl
set_option maxRecDepth 100000 in
set_option maxHeartbeats 400000 in
theorem f_Swell_tellReading_t {x : zm_X} {d : Nat} (p1 : Int32) (p2 : Int32) (p3 : Int32) (h : zm_H) {Q : Option Value → zm_H → Prop} (hs : zSh zT0 h) (ho : f_Swell_tellReading_ok p1 p2 p3 h) (hF : (zSh zT0 (f_Swell_tellReading p1 p2 p3 h).2 → Q (some (.int (f_Swell_tellReading p1 p2 p3 h).1)) (f_Swell_tellReading p1 p2 p3 h).2)) : zg x (d + 1) 80 0 [some (.ref 1), some (.int p1), some (.int p2), some (.int p3)] [] h Q := by
  unfold f_Swell_tellReading at hF
  unfold f_Swell_tellReading_ok at ho
  refine zg_blk zd_80 3 hs (rfl : zb x zT0 zc_80 3 (0, [some (.ref 1), some (.int p1), some (.int p2), some (.int p3)], [], h) = some (7, [some (.ref 1), some (.int p1), some (.int p2), some (.int p3)], [.int 400, .int (zf h 1 0)], h)) (fun hs => ?_)
  refine zg_i_lt zd_80 rfl (fun (hc : ((zf h 1 0) < 400)) => ?_) (fun (hc : ¬ ((zf h 1 0) < 400)) => ?_)
  · have ho := ho.1 hc
    rw [if_pos hc] at hF
    refine zg_blk zd_80 5 hs (rfl : zb x zT0 zc_80 5 (12, [some (.ref 1), some (.int p1), some (.int p2), some (.int p3)], [], h) = some (21, [some (.ref 1), some (.int p1), some (.int p2), some (.int p3)], [.int p3, .int (zf h 1 0), .ref 4], h)) (fun hs => ?_)
    obtain ⟨hob, ho⟩ := ho
    refine zg_ias hs zd_80 rfl rfl hob (fun hs => ?_)
    refine zg_blk zd_80 5 hs (rfl : zb x zT0 zc_80 5 (22, [some (.ref 1), some (.int p1), some (.int p2), some (.int p3)], [], (zs h 4 (zf h 1 0) p3)) = some (31, [some (.ref 1), some (.int p1), some (.int p2), some (.int p3)], [.int p1, .int (zf h 1 0), .ref 5], (zs h 4 (zf h 1 0) p3))) (fun hs => ?_)
    obtain ⟨hob, ho⟩ := ho
    refine zg_ias hs zd_80 rfl rfl hob (fun hs => ?_)
    refine zg_blk zd_80 7 hs (rfl : zb x zT0 zc_80 7 (32, [some (.ref 1), some (.int p1), some (.int p2), some (.int p3)], [], (zs (zs h 4 (zf h 1 0) p3) 5 (zf h 1 0) p1)) = some (45, [some (.ref 1), some (.int p1), some (.int p2), some (.int p3)], [.int p2, .ref 2, .int (zf h 1 0), .ref 3], (zs (zs h 4 (zf h 1 0) p3) 5 (zf h 1 0) p1))) (fun hs => ?_)
    obtain ⟨hob, ho⟩ := ho
    refine zg_ial hs zd_80 rfl rfl hob ?_
    obtain ⟨hob, ho⟩ := ho
    refine zg_ias hs zd_80 rfl rfl hob (fun hs => ?_)
    refine zg_blk zd_80 5 hs (rfl : zb x zT0 zc_80 5 (47, [some (.ref 1), some (.int p1), some (.int p2), some (.int p3)], [], (zs (zs (zs h 4 (zf h 1 0) p3) 5 (zf h 1 0) p1) 3 (zf h 1 0) (zr h 2 p2))) = some (56, [some (.ref 1), some (.int p1), some (.int p2), some (.int p3)], [.int (zf h 1 0), .int p2, .ref 2], (zs (zs (zs h 4 (zf h 1 0) p3) 5 (zf h 1 0) p1) 3 (zf h 1 0) (zr h 2 p2)))) (fun hs => ?_)
    have hob := ho
    refine zg_ias hs zd_80 rfl rfl hob (fun hs => ?_)
    refine zg_blk zd_80 8 hs (rfl : zb x zT0 zc_80 8 (57, [some (.ref 1), some (.int p1), some (.int p2), some (.int p3)], [], (zs (zs (zs (zs h 4 (zf h 1 0) p3) 5 (zf h 1 0) p1) 3 (zf h 1 0) (zr h 2 p2)) 2 p2 (zf h 1 0))) = some (71, [some (.ref 1), some (.int p1), some (.int p2), some (.int p3)], [.int ((zf h 1 0) + 1)], (zp (zs (zs (zs (zs h 4 (zf h 1 0) p3) 5 (zf h 1 0) p1) 3 (zf h 1 0) (zr h 2 p2)) 2 p2 (zf h 1 0)) 1 0 ((zf h 1 0) + 1)))) (fun hs => ?_)
    exact zg_ret zd_80 rfl rfl (hF hs)
  · have ho := ho.2 hc
    rw [if_neg hc] at hF
    refine zg_blk zd_80 1 hs (rfl : zb x zT0 zc_80 1 (10, [some (.ref 1), some (.int p1), some (.int p2), some (.int p3)], [], h) = some (11, [some (.ref 1), some (.int p1), some (.int p2), some (.int p3)], [.int (-1)], h)) (fun hs => ?_)
    exact zg_ret zd_80 rfl rfl (hF hs)
set_option maxRecDepth 100000 in
set_option maxHeartbeats 400000 in
theorem f_N_reading_t {x : zm_X} {d : Nat} (p1 : Int32) (p2 : Int32) (h : zm_H) {Q : Option Value → zm_H → Prop} (hs : zSh zT0 h) (ho : f_N_reading_ok p1 p2 h) (hF : (zSh zT0 (f_N_reading p1 p2 h).2 → Q (some (.int (f_N_reading p1 p2 h).1)) (f_N_reading p1 p2 h).2)) : zg x (d + 2) 118 0 [some (.ref 0), some (.int p1), some (.int p2)] [] h Q := by
  unfold f_N_reading at hF
  unfold f_N_reading_ok at ho
  refine zg_blk zd_118 1 hs (rfl : zb x zT0 zc_118 1 (0, [some (.ref 0), some (.int p1), some (.int p2)], [], h) = some (1, [some (.ref 0), some (.int p1), some (.int p2)], [.int p1], h)) (fun hs => ?_)
  refine zg_call hs zd_118 rfl rfl rfl rfl (as := [.int p1]) (rest := []) (en := [some (.int p1)]) rfl rfl rfl rfl rfl ?_
  refine f_N_isSpell_t p1 h hs trivial ?_
  show zg x (d + 2) 118 4 [some (.ref 0), some (.int p1), some (.int p2)] [.int (if (¬ (p1 < 0) ∧ (¬ (480 ≤ p1))) then (1 : Int32) else 0)] h Q
  refine zg_b_eq zd_118 rfl (fun (hc : ¬ (¬ (p1 < 0) ∧ (¬ (480 ≤ p1)))) => ?_) (fun (hc : (¬ (p1 < 0) ∧ (¬ (480 ≤ p1)))) => ?_)
  · have ho := ho.2 hc
    rw [if_neg hc] at hF
    refine zg_blk zd_118 1 hs (rfl : zb x zT0 zc_118 1 (24, [some (.ref 0), some (.int p1), some (.int p2)], [], h) = some (25, [some (.ref 0), some (.int p1), some (.int p2)], [.int (-1)], h)) (fun hs => ?_)
    exact zg_ret zd_118 rfl rfl (hF hs)
  · have ho := ho.1 hc
    rw [if_pos hc] at hF
    refine zg_blk zd_118 1 hs (rfl : zb x zT0 zc_118 1 (7, [some (.ref 0), some (.int p1), some (.int p2)], [], h) = some (8, [some (.ref 0), some (.int p1), some (.int p2)], [.int p2], h)) (fun hs => ?_)
    refine zg_call hs zd_118 rfl rfl rfl rfl (as := [.int p2]) (rest := []) (en := [some (.int p2)]) rfl rfl rfl rfl rfl ?_
    refine f_N_isReading_t p2 h hs trivial ?_
    show zg x (d + 2) 118 11 [some (.ref 0), some (.int p1), some (.int p2)] [.int (if (¬ (p2 < 0) ∧ (¬ (120 < (p2 / 1000)) ∧ (¬ (((zm_rm p2 1000) / 10) < 2) ∧ (¬ (20 < ((zm_rm p2 1000) / 10)) ∧ (¬ (2 < (zm_rm p2 10))))))) then (1 : Int32) else 0)] h Q
    refine zg_b_eq zd_118 rfl (fun (hc : ¬ (¬ (p2 < 0) ∧ (¬ (120 < (p2 / 1000)) ∧ (¬ (((zm_rm p2 1000) / 10) < 2) ∧ (¬ (20 < ((zm_rm p2 1000) / 10)) ∧ (¬ (2 < (zm_rm p2 10)))))))) => ?_) (fun (hc : (¬ (p2 < 0) ∧ (¬ (120 < (p2 / 1000)) ∧ (¬ (((zm_rm p2 1000) / 10) < 2) ∧ (¬ (20 < ((zm_rm p2 1000) / 10)) ∧ (¬ (2 < (zm_rm p2 10)))))))) => ?_)
    · have ho := ho.2 hc
      rw [if_neg hc] at hF
      refine zg_blk zd_118 1 hs (rfl : zb x zT0 zc_118 1 (24, [some (.ref 0), some (.int p1), some (.int p2)], [], h) = some (25, [some (.ref 0), some (.int p1), some (.int p2)], [.int (-1)], h)) (fun hs => ?_)
      exact zg_ret zd_118 rfl rfl (hF hs)
    · have ho := ho.1 hc
      rw [if_pos hc] at hF
      refine zg_blk zd_118 3 hs (rfl : zb x zT0 zc_118 3 (14, [some (.ref 0), some (.int p1), some (.int p2)], [], h) = some (21, [some (.ref 0), some (.int p1), some (.int p2)], [.int 480, .int (zf h 0 0)], h)) (fun hs => ?_)
      refine zg_i_lt zd_118 rfl (fun (hc : ((zf h 0 0) < 480)) => ?_) (fun (hc : ¬ ((zf h 0 0) < 480)) => ?_)
      · have ho := ho.1 hc
        rw [if_pos hc] at hF
        refine zg_blk zd_118 6 hs (rfl : zb x zT0 zc_118 6 (26, [some (.ref 0), some (.int p1), some (.int p2)], [], h) = some (36, [some (.ref 0), some (.int p1), some (.int p2)], [.int p2, .int p1, .int (zf h 0 0), .ref 1], h)) (fun hs => ?_)
        have hob := ho
        refine zg_call hs zd_118 rfl rfl rfl rfl (as := [.ref 1, .int (zf h 0 0), .int p1, .int p2]) (rest := []) (en := [some (.ref 1), some (.int (zf h 0 0)), some (.int p1), some (.int p2)]) rfl rfl rfl rfl rfl ?_
        refine f_Swell_tellReading_t (zf h 0 0) p1 p2 h hs hob (fun hs => ?_)
        show zg x (d + 2) 118 39 [some (.ref 0), some (.int p1), some (.int p2)] [.int (f_Swell_tellReading (zf h 0 0) p1 p2 h).1] (f_Swell_tellReading (zf h 0 0) p1 p2 h).2 Q
        exact zg_ret zd_118 rfl rfl (hF hs)
      · have ho := ho.2 hc
        rw [if_neg hc] at hF
        refine zg_blk zd_118 1 hs (rfl : zb x zT0 zc_118 1 (24, [some (.ref 0), some (.int p1), some (.int p2)], [], h) = some (25, [some (.ref 0), some (.int p1), some (.int p2)], [.int (-1)], h)) (fun hs => ?_)
        exact zg_ret zd_118 rfl rfl (hF hs)
theorem zd_170 : zm_cd 170 = zc_170 := by rfl
theorem zd_171 : zm_cd 171 = zc_171 := by rfl
theorem zd_172 : zm_cd 172 = zc_172 := by rfl
set_option maxRecDepth 100000 in
set_option maxHeartbeats 400000 in
theorem f_M_in_t {x : zm_X} {d : Nat} (p0 : Int32) (p1 : Int32) (p2 : Int32) (h : zm_H) {Q : Option Value → zm_H → Prop} (hs : zSh zT0 h) (ho : f_M_in_ok p0 p1 p2 h) (hF : Q (some (.int (f_M_in p0 p1 p2 h))) h) : zg x (d + 1) 172 0 [some (.int p0), some (.int p1), some (.int p2)] [] h Q := by
  unfold f_M_in at hF
  unfold f_M_in_ok at ho
  refine zg_blk zd_172 2 hs (rfl : zb x zT0 zc_172 2 (0, [some (.int p0), some (.int p1), some (.int p2)], [], h) = some (2, [some (.int p0), some (.int p1), some (.int p2)], [.int p1, .int p0], h)) (fun hs => ?_)
  have K3 : zSh zT0 h → zg x (d + 1) 172 15 [some (.int p0), some (.int p1), some (.int p2)] [.int (if (¬ (p0 < p1) ∧ (¬ (p2 < p0))) then (1 : Int32) else 0)] h Q := fun hs => by
    exact zg_rtz zd_172 rfl rfl zm_nb01 hF
  refine zg_i_lt zd_172 rfl (fun (hc : (p0 < p1)) => ?_) (fun (hc : ¬ (p0 < p1)) => ?_)
  · skip
    rw [show ((if (¬ (p0 < p1) ∧ (¬ (p2 < p0))) then (1 : Int32) else 0) : Int32) = 0 from zb_nand_t hc] at K3
    refine zg_blk zd_172 1 hs (rfl : zb x zT0 zc_172 1 (14, [some (.int p0), some (.int p1), some (.int p2)], [], h) = some (15, [some (.int p0), some (.int p1), some (.int p2)], [.int 0], h)) (fun hs => ?_)
    exact K3 hs
  · skip
    rw [show ((if (¬ (p0 < p1) ∧ (¬ (p2 < p0))) then (1 : Int32) else 0) : Int32) = (if (¬ (p2 < p0)) then (1 : Int32) else 0) from zb_nand_f hc] at K3
    refine zg_blk zd_172 2 hs (rfl : zb x zT0 zc_172 2 (5, [some (.int p0), some (.int p1), some (.int p2)], [], h) = some (7, [some (.int p0), some (.int p1), some (.int p2)], [.int p2, .int p0], h)) (fun hs => ?_)
    refine zg_i_gt zd_172 rfl (fun (hc : (p2 < p0)) => ?_) (fun (hc : ¬ (p2 < p0)) => ?_)
    · skip
      rw [show ((if (¬ (p2 < p0)) then (1 : Int32) else 0) : Int32) = 0 from zb_not_t hc] at K3
      refine zg_blk zd_172 1 hs (rfl : zb x zT0 zc_172 1 (14, [some (.int p0), some (.int p1), some (.int p2)], [], h) = some (15, [some (.int p0), some (.int p1), some (.int p2)], [.int 0], h)) (fun hs => ?_)
      exact K3 hs
    · skip
      rw [show ((if (¬ (p2 < p0)) then (1 : Int32) else 0) : Int32) = 1 from zb_not_f hc] at K3
      refine zg_blk zd_172 2 hs (rfl : zb x zT0 zc_172 2 (10, [some (.int p0), some (.int p1), some (.int p2)], [], h) = some (15, [some (.int p0), some (.int p1), some (.int p2)], [.int 1], h)) (fun hs => ?_)
      exact K3 hs
set_option maxRecDepth 100000 in
set_option maxHeartbeats 400000 in
theorem f_M_isSpell_t {x : zm_X} {d : Nat} (p0 : Int32) (h : zm_H) {Q : Option Value → zm_H → Prop} (hs : zSh zT0 h) (ho : f_M_isSpell_ok p0 h) (hF : Q (some (.int (f_M_isSpell p0 h))) h) : zg x (d + 2) 171 0 [some (.int p0)] [] h Q := by
  unfold f_M_isSpell at hF
  unfold f_M_isSpell_ok at ho
  refine zg_blk zd_171 3 hs (rfl : zb x zT0 zc_171 3 (0, [some (.int p0)], [], h) = some (5, [some (.int p0)], [.int 479, .int 0, .int p0], h)) (fun hs => ?_)
  refine zg_call hs zd_171 rfl rfl rfl rfl (as := [.int p0, .int 0, .int 479]) (rest := []) (en := [some (.int p0), some (.int 0), some (.int 479)]) rfl rfl rfl rfl rfl ?_
  refine f_M_in_t p0 0 479 h hs trivial ?_
  show zg x (d + 2) 171 8 [some (.int p0)] [.int (if (¬ (p0 < 0) ∧ (¬ (479 < p0))) then (1 : Int32) else 0)] h Q
  exact zg_rtz zd_171 rfl rfl zm_nb01 hF
set_option maxRecDepth 100000 in
set_option maxHeartbeats 400000 in
theorem f_M_reading_t {x : zm_X} {d : Nat} (p1 : Int32) (p2 : Int32) (h : zm_H) {Q : Option Value → zm_H → Prop} (hs : zSh zT0 h) (ho : f_M_reading_ok p1 p2 h) (hF : (zSh zT0 (f_M_reading p1 p2 h).2 → Q (some (.int (f_M_reading p1 p2 h).1)) (f_M_reading p1 p2 h).2)) : zg x (d + 3) 170 0 [some (.ref 92), some (.int p1), some (.int p2)] [] h Q := by
  unfold f_M_reading at hF
  unfold f_M_reading_ok at ho
  refine zg_blk zd_170 1 hs (rfl : zb x zT0 zc_170 1 (0, [some (.ref 92), some (.int p1), some (.int p2)], [], h) = some (1, [some (.ref 92), some (.int p1), some (.int p2)], [.int p1], h)) (fun hs => ?_)
  refine zg_call hs zd_170 rfl rfl rfl rfl (as := [.int p1]) (rest := []) (en := [some (.int p1)]) rfl rfl rfl rfl rfl ?_
  refine f_M_isSpell_t p1 h hs trivial ?_
  show zg x (d + 3) 170 4 [some (.ref 92), some (.int p1), some (.int p2)] [.int (if (¬ (p1 < 0) ∧ (¬ (479 < p1))) then (1 : Int32) else 0)] h Q
  refine zg_b_eq zd_170 rfl (fun (hc : ¬ (¬ (p1 < 0) ∧ (¬ (479 < p1)))) => ?_) (fun (hc : (¬ (p1 < 0) ∧ (¬ (479 < p1)))) => ?_)
  · have ho := ho.2 hc
    rw [if_neg hc] at hF
    refine zg_blk zd_170 1 hs (rfl : zb x zT0 zc_170 1 (65, [some (.ref 92), some (.int p1), some (.int p2)], [], h) = some (66, [some (.ref 92), some (.int p1), some (.int p2)], [.int (-1)], h)) (fun hs => ?_)
    exact zg_ret zd_170 rfl rfl (hF hs)
  · have ho := ho.1 hc
    rw [if_pos hc] at hF
    refine zg_blk zd_170 1 hs (rfl : zb x zT0 zc_170 1 (7, [some (.ref 92), some (.int p1), some (.int p2)], [], h) = some (8, [some (.ref 92), some (.int p1), some (.int p2)], [.int p2], h)) (fun hs => ?_)
    refine zg_f_lt zd_170 rfl (fun (hc : (p2 < 0)) => ?_) (fun (hc : ¬ (p2 < 0)) => ?_)
    · have ho := ho.1 hc
      rw [if_pos hc] at hF
      refine zg_blk zd_170 1 hs (rfl : zb x zT0 zc_170 1 (65, [some (.ref 92), some (.int p1), some (.int p2)], [], h) = some (66, [some (.ref 92), some (.int p1), some (.int p2)], [.int (-1)], h)) (fun hs => ?_)
      exact zg_ret zd_170 rfl rfl (hF hs)
    · have ho := ho.2 hc
      rw [if_neg hc] at hF
      refine zg_blk zd_170 4 hs (rfl : zb x zT0 zc_170 4 (11, [some (.ref 92), some (.int p1), some (.int p2)], [], h) = some (18, [some (.ref 92), some (.int p1), some (.int p2)], [.int 120, .int (p2 / 1000)], h)) (fun hs => ?_)
      refine zg_i_gt zd_170 rfl (fun (hc : (120 < (p2 / 1000))) => ?_) (fun (hc : ¬ (120 < (p2 / 1000))) => ?_)
      · have ho := ho.1 hc
        rw [if_pos hc] at hF
        refine zg_blk zd_170 1 hs (rfl : zb x zT0 zc_170 1 (65, [some (.ref 92), some (.int p1), some (.int p2)], [], h) = some (66, [some (.ref 92), some (.int p1), some (.int p2)], [.int (-1)], h)) (fun hs => ?_)
        exact zg_ret zd_170 rfl rfl (hF hs)
      · have ho := ho.2 hc
        rw [if_neg hc] at hF
        refine zg_blk zd_170 7 hs (rfl : zb x zT0 zc_170 7 (21, [some (.ref 92), some (.int p1), some (.int p2)], [], h) = some (31, [some (.ref 92), some (.int p1), some (.int p2)], [.int 20, .int 2, .int (zm_rm (p2 / 10) 100)], h)) (fun hs => ?_)
        refine zg_call hs zd_170 rfl rfl rfl rfl (as := [.int (zm_rm (p2 / 10) 100), .int 2, .int 20]) (rest := []) (en := [some (.int (zm_rm (p2 / 10) 100)), some (.int 2), some (.int 20)]) rfl rfl rfl rfl rfl ?_
        refine f_M_in_t (zm_rm (p2 / 10) 100) 2 20 h hs trivial ?_
        show zg x (d + 3) 170 34 [some (.ref 92), some (.int p1), some (.int p2)] [.int (if (¬ ((zm_rm (p2 / 10) 100) < 2) ∧ (¬ (20 < (zm_rm (p2 / 10) 100)))) then (1 : Int32) else 0)] h Q
        refine zg_b_eq zd_170 rfl (fun (hc : ¬ (¬ ((zm_rm (p2 / 10) 100) < 2) ∧ (¬ (20 < (zm_rm (p2 / 10) 100))))) => ?_) (fun (hc : (¬ ((zm_rm (p2 / 10) 100) < 2) ∧ (¬ (20 < (zm_rm (p2 / 10) 100))))) => ?_)
        · have ho := ho.2 hc
          rw [if_neg hc] at hF
          refine zg_blk zd_170 1 hs (rfl : zb x zT0 zc_170 1 (65, [some (.ref 92), some (.int p1), some (.int p2)], [], h) = some (66, [some (.ref 92), some (.int p1), some (.int p2)], [.int (-1)], h)) (fun hs => ?_)
          exact zg_ret zd_170 rfl rfl (hF hs)
        · have ho := ho.1 hc
          rw [if_pos hc] at hF
          refine zg_blk zd_170 4 hs (rfl : zb x zT0 zc_170 4 (37, [some (.ref 92), some (.int p1), some (.int p2)], [], h) = some (42, [some (.ref 92), some (.int p1), some (.int p2)], [.int 2, .int (zm_rm p2 10)], h)) (fun hs => ?_)
          refine zg_i_gt zd_170 rfl (fun (hc : (2 < (zm_rm p2 10))) => ?_) (fun (hc : ¬ (2 < (zm_rm p2 10))) => ?_)
          · have ho := ho.1 hc
            rw [if_pos hc] at hF
            refine zg_blk zd_170 1 hs (rfl : zb x zT0 zc_170 1 (65, [some (.ref 92), some (.int p1), some (.int p2)], [], h) = some (66, [some (.ref 92), some (.int p1), some (.int p2)], [.int (-1)], h)) (fun hs => ?_)
            exact zg_ret zd_170 rfl rfl (hF hs)
          · have ho := ho.2 hc
            rw [if_neg hc] at hF
            refine zg_blk zd_170 3 hs (rfl : zb x zT0 zc_170 3 (45, [some (.ref 92), some (.int p1), some (.int p2)], [], h) = some (52, [some (.ref 92), some (.int p1), some (.int p2)], [.int 400, .int (zf h 92 24)], h)) (fun hs => ?_)
            refine zg_i_eq zd_170 rfl (fun (hc : ((zf h 92 24) = 400)) => ?_) (fun (hc : ¬ ((zf h 92 24) = 400)) => ?_)
            · have ho := ho.1 hc
              rw [if_pos hc] at hF
              refine zg_blk zd_170 1 hs (rfl : zb x zT0 zc_170 1 (65, [some (.ref 92), some (.int p1), some (.int p2)], [], h) = some (66, [some (.ref 92), some (.int p1), some (.int p2)], [.int (-1)], h)) (fun hs => ?_)
              exact zg_ret zd_170 rfl rfl (hF hs)
            · have ho := ho.2 hc
              rw [if_neg hc] at hF
              refine zg_blk zd_170 3 hs (rfl : zb x zT0 zc_170 3 (55, [some (.ref 92), some (.int p1), some (.int p2)], [], h) = some (62, [some (.ref 92), some (.int p1), some (.int p2)], [.int 480, .int (zf h 92 23)], h)) (fun hs => ?_)
              refine zg_i_ne zd_170 rfl (fun (hc : ¬ ((zf h 92 23) = 480)) => ?_) (fun (hc : ((zf h 92 23) = 480)) => ?_)
              · have ho := ho.2 hc
                rw [if_neg hc] at hF
                refine zg_blk zd_170 5 hs (rfl : zb x zT0 zc_170 5 (67, [some (.ref 92), some (.int p1), some (.int p2)], [], h) = some (76, [some (.ref 92), some (.int p1), some (.int p2)], [.int p1, .int (zf h 92 24), .ref 105], h)) (fun hs => ?_)
                obtain ⟨hob, ho⟩ := ho
                refine zg_ias hs zd_170 rfl rfl hob (fun hs => ?_)
                refine zg_blk zd_170 5 hs (rfl : zb x zT0 zc_170 5 (77, [some (.ref 92), some (.int p1), some (.int p2)], [], (zs h 105 (zf h 92 24) p1)) = some (86, [some (.ref 92), some (.int p1), some (.int p2)], [.int p2, .int (zf h 92 24), .ref 106], (zs h 105 (zf h 92 24) p1))) (fun hs => ?_)
                obtain ⟨hob, ho⟩ := ho
                refine zg_ias hs zd_170 rfl rfl hob (fun hs => ?_)
                refine zg_blk zd_170 6 hs (rfl : zb x zT0 zc_170 6 (87, [some (.ref 92), some (.int p1), some (.int p2)], [], (zs (zs h 105 (zf h 92 24) p1) 106 (zf h 92 24) p2)) = some (99, [some (.ref 92), some (.int p1), some (.int p2)], [.int (zf h 92 23), .int (zf h 92 24), .ref 107], (zs (zs h 105 (zf h 92 24) p1) 106 (zf h 92 24) p2))) (fun hs => ?_)
                have hob := ho
                refine zg_ias hs zd_170 rfl rfl hob (fun hs => ?_)
                refine zg_blk zd_170 8 hs (rfl : zb x zT0 zc_170 8 (100, [some (.ref 92), some (.int p1), some (.int p2)], [], (zs (zs (zs h 105 (zf h 92 24) p1) 106 (zf h 92 24) p2) 107 (zf h 92 24) (zf h 92 23))) = some (114, [some (.ref 92), some (.int p1), some (.int p2)], [.int ((zf h 92 24) + 1)], (zp (zs (zs (zs h 105 (zf h 92 24) p1) 106 (zf h 92 24) p2) 107 (zf h 92 24) (zf h 92 23)) 92 24 ((zf h 92 24) + 1)))) (fun hs => ?_)
                exact zg_ret zd_170 rfl rfl (hF hs)
              · have ho := ho.1 hc
                rw [if_pos hc] at hF
                refine zg_blk zd_170 1 hs (rfl : zb x zT0 zc_170 1 (65, [some (.ref 92), some (.int p1), some (.int p2)], [], h) = some (66, [some (.ref 92), some (.int p1), some (.int p2)], [.int (-1)], h)) (fun hs => ?_)
                exact zg_ret zd_170 rfl rfl (hF hs)
theorem zd_121 : zm_cd 121 = zc_121 := by rfl
theorem zd_122 : zm_cd 122 = zc_122 := by rfl
set_option maxRecDepth 100000 in
set_option maxHeartbeats 400000 in
theorem f_N_isRange_t {x : zm_X} {d : Nat} (p0 : Int32) (p1 : Int32) (p2 : Int32) (h : zm_H) {Q : Option Value → zm_H → Prop} (hs : zSh zT0 h) (ho : f_N_isRange_ok p0 p1 p2 h) (hF : Q (some (.int (f_N_isRange p0 p1 p2 h))) h) : zg x (d + 1) 122 0 [some (.int p0), some (.int p1), some (.int p2)] [] h Q := by
  unfold f_N_isRange at hF
  unfold f_N_isRange_ok at ho
  refine zg_blk zd_122 1 hs (rfl : zb x zT0 zc_122 1 (0, [some (.int p0), some (.int p1), some (.int p2)], [], h) = some (1, [some (.int p0), some (.int p1), some (.int p2)], [.int p0], h)) (fun hs => ?_)
  have K4 : zSh zT0 h → zg x (d + 1) 122 19 [some (.int p0), some (.int p1), some (.int p2)] [.int (if (¬ (p0 < 0) ∧ (¬ (p1 < p0) ∧ (¬ (p2 ≤ p1)))) then (1 : Int32) else 0)] h Q := fun hs => by
    exact zg_rtz zd_122 rfl rfl zm_nb01 hF
  refine zg_f_lt zd_122 rfl (fun (hc : (p0 < 0)) => ?_) (fun (hc : ¬ (p0 < 0)) => ?_)
  · skip
    rw [show ((if (¬ (p0 < 0) ∧ (¬ (p1 < p0) ∧ (¬ (p2 ≤ p1)))) then (1 : Int32) else 0) : Int32) = 0 from zb_nand_t hc] at K4
    refine zg_blk zd_122 1 hs (rfl : zb x zT0 zc_122 1 (18, [some (.int p0), some (.int p1), some (.int p2)], [], h) = some (19, [some (.int p0), some (.int p1), some (.int p2)], [.int 0], h)) (fun hs => ?_)
    exact K4 hs
  · skip
    rw [show ((if (¬ (p0 < 0) ∧ (¬ (p1 < p0) ∧ (¬ (p2 ≤ p1)))) then (1 : Int32) else 0) : Int32) = (if (¬ (p1 < p0) ∧ (¬ (p2 ≤ p1))) then (1 : Int32) else 0) from zb_nand_f hc] at K4
    refine zg_blk zd_122 2 hs (rfl : zb x zT0 zc_122 2 (4, [some (.int p0), some (.int p1), some (.int p2)], [], h) = some (6, [some (.int p0), some (.int p1), some (.int p2)], [.int p1, .int p0], h)) (fun hs => ?_)
    refine zg_i_gt zd_122 rfl (fun (hc : (p1 < p0)) => ?_) (fun (hc : ¬ (p1 < p0)) => ?_)
    · skip
      rw [show ((if (¬ (p1 < p0) ∧ (¬ (p2 ≤ p1))) then (1 : Int32) else 0) : Int32) = 0 from zb_nand_t hc] at K4
      refine zg_blk zd_122 1 hs (rfl : zb x zT0 zc_122 1 (18, [some (.int p0), some (.int p1), some (.int p2)], [], h) = some (19, [some (.int p0), some (.int p1), some (.int p2)], [.int 0], h)) (fun hs => ?_)
      exact K4 hs
    · skip
      rw [show ((if (¬ (p1 < p0) ∧ (¬ (p2 ≤ p1))) then (1 : Int32) else 0) : Int32) = (if (¬ (p2 ≤ p1)) then (1 : Int32) else 0) from zb_nand_f hc] at K4
      refine zg_blk zd_122 2 hs (rfl : zb x zT0 zc_122 2 (9, [some (.int p0), some (.int p1), some (.int p2)], [], h) = some (11, [some (.int p0), some (.int p1), some (.int p2)], [.int p2, .int p1], h)) (fun hs => ?_)
      refine zg_i_ge zd_122 rfl (fun (hc : (p2 ≤ p1)) => ?_) (fun (hc : ¬ (p2 ≤ p1)) => ?_)
      · skip
        rw [show ((if (¬ (p2 ≤ p1)) then (1 : Int32) else 0) : Int32) = 0 from zb_not_t hc] at K4
        refine zg_blk zd_122 1 hs (rfl : zb x zT0 zc_122 1 (18, [some (.int p0), some (.int p1), some (.int p2)], [], h) = some (19, [some (.int p0), some (.int p1), some (.int p2)], [.int 0], h)) (fun hs => ?_)
        exact K4 hs
      · skip
        rw [show ((if (¬ (p2 ≤ p1)) then (1 : Int32) else 0) : Int32) = 1 from zb_not_f hc] at K4
        refine zg_blk zd_122 2 hs (rfl : zb x zT0 zc_122 2 (14, [some (.int p0), some (.int p1), some (.int p2)], [], h) = some (19, [some (.int p0), some (.int p1), some (.int p2)], [.int 1], h)) (fun hs => ?_)
        exact K4 hs
theorem zd_81 : zm_cd 81 = zc_81 := by rfl
set_option maxRecDepth 100000 in
set_option maxHeartbeats 400000 in
theorem f_Swell_tellDrift_t {x : zm_X} {d : Nat} (p1 : Int32) (p2 : Int32) (p3 : Int32) (p4 : Int32) (h : zm_H) {Q : Option Value → zm_H → Prop} (hs : zSh zT0 h) (ho : f_Swell_tellDrift_ok p1 p2 p3 p4 h) (hF : (zSh zT0 (f_Swell_tellDrift p1 p2 p3 p4 h).2 → Q (some (.int (f_Swell_tellDrift p1 p2 p3 p4 h).1)) (f_Swell_tellDrift p1 p2 p3 p4 h).2)) : zg x (d + 1) 81 0 [some (.ref 1), some (.int p1), some (.int p2), some (.int p3), some (.int p4)] [] h Q := by
  unfold f_Swell_tellDrift at hF
  unfold f_Swell_tellDrift_ok at ho
  refine zg_blk zd_81 3 hs (rfl : zb x zT0 zc_81 3 (0, [some (.ref 1), some (.int p1), some (.int p2), some (.int p3), some (.int p4)], [], h) = some (6, [some (.ref 1), some (.int p1), some (.int p2), some (.int p3), some (.int p4)], [.int 30, .int (zf h 1 1)], h)) (fun hs => ?_)
  refine zg_i_lt zd_81 rfl (fun (hc : ((zf h 1 1) < 30)) => ?_) (fun (hc : ¬ ((zf h 1 1) < 30)) => ?_)
  · have ho := ho.1 hc
    rw [if_pos hc] at hF
    refine zg_blk zd_81 5 hs (rfl : zb x zT0 zc_81 5 (11, [some (.ref 1), some (.int p1), some (.int p2), some (.int p3), some (.int p4)], [], h) = some (20, [some (.ref 1), some (.int p1), some (.int p2), some (.int p3), some (.int p4)], [.int p2, .int (zf h 1 1), .ref 6], h)) (fun hs => ?_)
    obtain ⟨hob, ho⟩ := ho
    refine zg_ias hs zd_81 rfl rfl hob (fun hs => ?_)
    refine zg_blk zd_81 5 hs (rfl : zb x zT0 zc_81 5 (21, [some (.ref 1), some (.int p1), some (.int p2), some (.int p3), some (.int p4)], [], (zs h 6 (zf h 1 1) p2)) = some (30, [some (.ref 1), some (.int p1), some (.int p2), some (.int p3), some (.int p4)], [.int p3, .int (zf h 1 1), .ref 7], (zs h 6 (zf h 1 1) p2))) (fun hs => ?_)
    obtain ⟨hob, ho⟩ := ho
    refine zg_ias hs zd_81 rfl rfl hob (fun hs => ?_)
    refine zg_blk zd_81 5 hs (rfl : zb x zT0 zc_81 5 (31, [some (.ref 1), some (.int p1), some (.int p2), some (.int p3), some (.int p4)], [], (zs (zs h 6 (zf h 1 1) p2) 7 (zf h 1 1) p3)) = some (41, [some (.ref 1), some (.int p1), some (.int p2), some (.int p3), some (.int p4)], [.int p4, .int (zf h 1 1), .ref 8], (zs (zs h 6 (zf h 1 1) p2) 7 (zf h 1 1) p3))) (fun hs => ?_)
    obtain ⟨hob, ho⟩ := ho
    refine zg_ias hs zd_81 rfl rfl hob (fun hs => ?_)
    refine zg_blk zd_81 5 hs (rfl : zb x zT0 zc_81 5 (42, [some (.ref 1), some (.int p1), some (.int p2), some (.int p3), some (.int p4)], [], (zs (zs (zs h 6 (zf h 1 1) p2) 7 (zf h 1 1) p3) 8 (zf h 1 1) p4)) = some (51, [some (.ref 1), some (.int p1), some (.int p2), some (.int p3), some (.int p4)], [.int p1, .int (zf h 1 1), .ref 9], (zs (zs (zs h 6 (zf h 1 1) p2) 7 (zf h 1 1) p3) 8 (zf h 1 1) p4))) (fun hs => ?_)
    have hob := ho
    refine zg_ias hs zd_81 rfl rfl hob (fun hs => ?_)
    refine zg_blk zd_81 8 hs (rfl : zb x zT0 zc_81 8 (52, [some (.ref 1), some (.int p1), some (.int p2), some (.int p3), some (.int p4)], [], (zs (zs (zs (zs h 6 (zf h 1 1) p2) 7 (zf h 1 1) p3) 8 (zf h 1 1) p4) 9 (zf h 1 1) p1)) = some (66, [some (.ref 1), some (.int p1), some (.int p2), some (.int p3), some (.int p4)], [.int ((zf h 1 1) + 1)], (zp (zs (zs (zs (zs h 6 (zf h 1 1) p2) 7 (zf h 1 1) p3) 8 (zf h 1 1) p4) 9 (zf h 1 1) p1) 1 1 ((zf h 1 1) + 1)))) (fun hs => ?_)
    exact zg_ret zd_81 rfl rfl (hF hs)
  · have ho := ho.2 hc
    rw [if_neg hc] at hF
    refine zg_blk zd_81 1 hs (rfl : zb x zT0 zc_81 1 (9, [some (.ref 1), some (.int p1), some (.int p2), some (.int p3), some (.int p4)], [], h) = some (10, [some (.ref 1), some (.int p1), some (.int p2), some (.int p3), some (.int p4)], [.int (-1)], h)) (fun hs => ?_)
    exact zg_ret zd_81 rfl rfl (hF hs)
set_option maxRecDepth 100000 in
set_option maxHeartbeats 400000 in
theorem f_N_drift_t {x : zm_X} {d : Nat} (p1 : Int32) (p2 : Int32) (p3 : Int32) (h : zm_H) {Q : Option Value → zm_H → Prop} (hs : zSh zT0 h) (ho : f_N_drift_ok p1 p2 p3 h) (hF : (zSh zT0 (f_N_drift p1 p2 p3 h).2 → Q (some (.int (f_N_drift p1 p2 p3 h).1)) (f_N_drift p1 p2 p3 h).2)) : zg x (d + 2) 121 0 [some (.ref 0), some (.int p1), some (.int p2), some (.int p3)] [] h Q := by
  unfold f_N_drift at hF
  unfold f_N_drift_ok at ho
  refine zg_blk zd_121 3 hs (rfl : zb x zT0 zc_121 3 (0, [some (.ref 0), some (.int p1), some (.int p2), some (.int p3)], [], h) = some (5, [some (.ref 0), some (.int p1), some (.int p2), some (.int p3)], [.int 480, .int p2, .int p1], h)) (fun hs => ?_)
  refine zg_call hs zd_121 rfl rfl rfl rfl (as := [.int p1, .int p2, .int 480]) (rest := []) (en := [some (.int p1), some (.int p2), some (.int 480)]) rfl rfl rfl rfl rfl ?_
  refine f_N_isRange_t p1 p2 480 h hs trivial ?_
  show zg x (d + 2) 121 8 [some (.ref 0), some (.int p1), some (.int p2), some (.int p3)] [.int (if (¬ (p1 < 0) ∧ (¬ (p2 < p1) ∧ (¬ (480 ≤ p2)))) then (1 : Int32) else 0)] h Q
  refine zg_b_eq zd_121 rfl (fun (hc : ¬ (¬ (p1 < 0) ∧ (¬ (p2 < p1) ∧ (¬ (480 ≤ p2))))) => ?_) (fun (hc : (¬ (p1 < 0) ∧ (¬ (p2 < p1) ∧ (¬ (480 ≤ p2))))) => ?_)
  · have ho := ho.2 hc
    rw [if_neg hc] at hF
    refine zg_blk zd_121 1 hs (rfl : zb x zT0 zc_121 1 (33, [some (.ref 0), some (.int p1), some (.int p2), some (.int p3)], [], h) = some (34, [some (.ref 0), some (.int p1), some (.int p2), some (.int p3)], [.int (-1)], h)) (fun hs => ?_)
    exact zg_ret zd_121 rfl rfl (hF hs)
  · have ho := ho.1 hc
    rw [if_pos hc] at hF
    refine zg_blk zd_121 2 hs (rfl : zb x zT0 zc_121 2 (11, [some (.ref 0), some (.int p1), some (.int p2), some (.int p3)], [], h) = some (14, [some (.ref 0), some (.int p1), some (.int p2), some (.int p3)], [.int (-30), .int p3], h)) (fun hs => ?_)
    refine zg_i_lt zd_121 rfl (fun (hc : (p3 < (-30))) => ?_) (fun (hc : ¬ (p3 < (-30))) => ?_)
    · have ho := ho.1 hc
      rw [if_pos hc] at hF
      refine zg_blk zd_121 1 hs (rfl : zb x zT0 zc_121 1 (33, [some (.ref 0), some (.int p1), some (.int p2), some (.int p3)], [], h) = some (34, [some (.ref 0), some (.int p1), some (.int p2), some (.int p3)], [.int (-1)], h)) (fun hs => ?_)
      exact zg_ret zd_121 rfl rfl (hF hs)
    · have ho := ho.2 hc
      rw [if_neg hc] at hF
      refine zg_blk zd_121 2 hs (rfl : zb x zT0 zc_121 2 (17, [some (.ref 0), some (.int p1), some (.int p2), some (.int p3)], [], h) = some (20, [some (.ref 0), some (.int p1), some (.int p2), some (.int p3)], [.int 30, .int p3], h)) (fun hs => ?_)
      refine zg_i_gt zd_121 rfl (fun (hc : (30 < p3)) => ?_) (fun (hc : ¬ (30 < p3)) => ?_)
      · have ho := ho.1 hc
        rw [if_pos hc] at hF
        refine zg_blk zd_121 1 hs (rfl : zb x zT0 zc_121 1 (33, [some (.ref 0), some (.int p1), some (.int p2), some (.int p3)], [], h) = some (34, [some (.ref 0), some (.int p1), some (.int p2), some (.int p3)], [.int (-1)], h)) (fun hs => ?_)
        exact zg_ret zd_121 rfl rfl (hF hs)
      · have ho := ho.2 hc
        rw [if_neg hc] at hF
        refine zg_blk zd_121 3 hs (rfl : zb x zT0 zc_121 3 (23, [some (.ref 0), some (.int p1), some (.int p2), some (.int p3)], [], h) = some (30, [some (.ref 0), some (.int p1), some (.int p2), some (.int p3)], [.int 480, .int (zf h 0 0)], h)) (fun hs => ?_)
        refine zg_i_lt zd_121 rfl (fun (hc : ((zf h 0 0) < 480)) => ?_) (fun (hc : ¬ ((zf h 0 0) < 480)) => ?_)
        · have ho := ho.1 hc
          rw [if_pos hc] at hF
          refine zg_blk zd_121 7 hs (rfl : zb x zT0 zc_121 7 (35, [some (.ref 0), some (.int p1), some (.int p2), some (.int p3)], [], h) = some (46, [some (.ref 0), some (.int p1), some (.int p2), some (.int p3)], [.int p3, .int p2, .int p1, .int (zf h 0 0), .ref 1], h)) (fun hs => ?_)
          have hob := ho
          refine zg_call hs zd_121 rfl rfl rfl rfl (as := [.ref 1, .int (zf h 0 0), .int p1, .int p2, .int p3]) (rest := []) (en := [some (.ref 1), some (.int (zf h 0 0)), some (.int p1), some (.int p2), some (.int p3)]) rfl rfl rfl rfl rfl ?_
          refine f_Swell_tellDrift_t (zf h 0 0) p1 p2 p3 h hs hob (fun hs => ?_)
          show zg x (d + 2) 121 49 [some (.ref 0), some (.int p1), some (.int p2), some (.int p3)] [.int (f_Swell_tellDrift (zf h 0 0) p1 p2 p3 h).1] (f_Swell_tellDrift (zf h 0 0) p1 p2 p3 h).2 Q
          exact zg_ret zd_121 rfl rfl (hF hs)
        · have ho := ho.2 hc
          rw [if_neg hc] at hF
          refine zg_blk zd_121 1 hs (rfl : zb x zT0 zc_121 1 (33, [some (.ref 0), some (.int p1), some (.int p2), some (.int p3)], [], h) = some (34, [some (.ref 0), some (.int p1), some (.int p2), some (.int p3)], [.int (-1)], h)) (fun hs => ?_)
          exact zg_ret zd_121 rfl rfl (hF hs)
theorem zd_173 : zm_cd 173 = zc_173 := by rfl
set_option maxRecDepth 100000 in
set_option maxHeartbeats 400000 in
theorem f_M_drift_t {x : zm_X} {d : Nat} (p1 : Int32) (p2 : Int32) (p3 : Int32) (h : zm_H) {Q : Option Value → zm_H → Prop} (hs : zSh zT0 h) (ho : f_M_drift_ok p1 p2 p3 h) (hF : (zSh zT0 (f_M_drift p1 p2 p3 h).2 → Q (some (.int (f_M_drift p1 p2 p3 h).1)) (f_M_drift p1 p2 p3 h).2)) : zg x (d + 3) 173 0 [some (.ref 92), some (.int p1), some (.int p2), some (.int p3)] [] h Q := by
  unfold f_M_drift at hF
  unfold f_M_drift_ok at ho
  refine zg_blk zd_173 1 hs (rfl : zb x zT0 zc_173 1 (0, [some (.ref 92), some (.int p1), some (.int p2), some (.int p3)], [], h) = some (1, [some (.ref 92), some (.int p1), some (.int p2), some (.int p3)], [.int p1], h)) (fun hs => ?_)
  refine zg_call hs zd_173 rfl rfl rfl rfl (as := [.int p1]) (rest := []) (en := [some (.int p1)]) rfl rfl rfl rfl rfl ?_
  refine f_M_isSpell_t p1 h hs trivial ?_
  show zg x (d + 3) 173 4 [some (.ref 92), some (.int p1), some (.int p2), some (.int p3)] [.int (if (¬ (p1 < 0) ∧ (¬ (479 < p1))) then (1 : Int32) else 0)] h Q
  refine zg_b_eq zd_173 rfl (fun (hc : ¬ (¬ (p1 < 0) ∧ (¬ (479 < p1)))) => ?_) (fun (hc : (¬ (p1 < 0) ∧ (¬ (479 < p1)))) => ?_)
  · have ho := ho.2 hc
    rw [if_neg hc] at hF
    refine zg_blk zd_173 1 hs (rfl : zb x zT0 zc_173 1 (48, [some (.ref 92), some (.int p1), some (.int p2), some (.int p3)], [], h) = some (49, [some (.ref 92), some (.int p1), some (.int p2), some (.int p3)], [.int (-1)], h)) (fun hs => ?_)
    exact zg_ret zd_173 rfl rfl (hF hs)
  · have ho := ho.1 hc
    rw [if_pos hc] at hF
    refine zg_blk zd_173 3 hs (rfl : zb x zT0 zc_173 3 (7, [some (.ref 92), some (.int p1), some (.int p2), some (.int p3)], [], h) = some (12, [some (.ref 92), some (.int p1), some (.int p2), some (.int p3)], [.int 479, .int p1, .int p2], h)) (fun hs => ?_)
    refine zg_call hs zd_173 rfl rfl rfl rfl (as := [.int p2, .int p1, .int 479]) (rest := []) (en := [some (.int p2), some (.int p1), some (.int 479)]) rfl rfl rfl rfl rfl ?_
    refine f_M_in_t p2 p1 479 h hs trivial ?_
    show zg x (d + 3) 173 15 [some (.ref 92), some (.int p1), some (.int p2), some (.int p3)] [.int (if (¬ (p2 < p1) ∧ (¬ (479 < p2))) then (1 : Int32) else 0)] h Q
    refine zg_b_eq zd_173 rfl (fun (hc : ¬ (¬ (p2 < p1) ∧ (¬ (479 < p2)))) => ?_) (fun (hc : (¬ (p2 < p1) ∧ (¬ (479 < p2)))) => ?_)
    · have ho := ho.2 hc
      rw [if_neg hc] at hF
      refine zg_blk zd_173 1 hs (rfl : zb x zT0 zc_173 1 (48, [some (.ref 92), some (.int p1), some (.int p2), some (.int p3)], [], h) = some (49, [some (.ref 92), some (.int p1), some (.int p2), some (.int p3)], [.int (-1)], h)) (fun hs => ?_)
      exact zg_ret zd_173 rfl rfl (hF hs)
    · have ho := ho.1 hc
      rw [if_pos hc] at hF
      refine zg_blk zd_173 3 hs (rfl : zb x zT0 zc_173 3 (18, [some (.ref 92), some (.int p1), some (.int p2), some (.int p3)], [], h) = some (23, [some (.ref 92), some (.int p1), some (.int p2), some (.int p3)], [.int 30, .int (-30), .int p3], h)) (fun hs => ?_)
      refine zg_call hs zd_173 rfl rfl rfl rfl (as := [.int p3, .int (-30), .int 30]) (rest := []) (en := [some (.int p3), some (.int (-30)), some (.int 30)]) rfl rfl rfl rfl rfl ?_
      refine f_M_in_t p3 (-30) 30 h hs trivial ?_
      show zg x (d + 3) 173 26 [some (.ref 92), some (.int p1), some (.int p2), some (.int p3)] [.int (if (¬ (p3 < (-30)) ∧ (¬ (30 < p3))) then (1 : Int32) else 0)] h Q
      refine zg_b_eq zd_173 rfl (fun (hc : ¬ (¬ (p3 < (-30)) ∧ (¬ (30 < p3)))) => ?_) (fun (hc : (¬ (p3 < (-30)) ∧ (¬ (30 < p3)))) => ?_)
      · have ho := ho.2 hc
        rw [if_neg hc] at hF
        refine zg_blk zd_173 1 hs (rfl : zb x zT0 zc_173 1 (48, [some (.ref 92), some (.int p1), some (.int p2), some (.int p3)], [], h) = some (49, [some (.ref 92), some (.int p1), some (.int p2), some (.int p3)], [.int (-1)], h)) (fun hs => ?_)
        exact zg_ret zd_173 rfl rfl (hF hs)
      · have ho := ho.1 hc
        rw [if_pos hc] at hF
        refine zg_blk zd_173 3 hs (rfl : zb x zT0 zc_173 3 (29, [some (.ref 92), some (.int p1), some (.int p2), some (.int p3)], [], h) = some (35, [some (.ref 92), some (.int p1), some (.int p2), some (.int p3)], [.int 30, .int (zf h 92 28)], h)) (fun hs => ?_)
        refine zg_i_eq zd_173 rfl (fun (hc : ((zf h 92 28) = 30)) => ?_) (fun (hc : ¬ ((zf h 92 28) = 30)) => ?_)
        · have ho := ho.1 hc
          rw [if_pos hc] at hF
          refine zg_blk zd_173 1 hs (rfl : zb x zT0 zc_173 1 (48, [some (.ref 92), some (.int p1), some (.int p2), some (.int p3)], [], h) = some (49, [some (.ref 92), some (.int p1), some (.int p2), some (.int p3)], [.int (-1)], h)) (fun hs => ?_)
          exact zg_ret zd_173 rfl rfl (hF hs)
        · have ho := ho.2 hc
          rw [if_neg hc] at hF
          refine zg_blk zd_173 3 hs (rfl : zb x zT0 zc_173 3 (38, [some (.ref 92), some (.int p1), some (.int p2), some (.int p3)], [], h) = some (45, [some (.ref 92), some (.int p1), some (.int p2), some (.int p3)], [.int 480, .int (zf h 92 23)], h)) (fun hs => ?_)
          refine zg_i_ne zd_173 rfl (fun (hc : ¬ ((zf h 92 23) = 480)) => ?_) (fun (hc : ((zf h 92 23) = 480)) => ?_)
          · have ho := ho.2 hc
            rw [if_neg hc] at hF
            refine zg_blk zd_173 5 hs (rfl : zb x zT0 zc_173 5 (50, [some (.ref 92), some (.int p1), some (.int p2), some (.int p3)], [], h) = some (59, [some (.ref 92), some (.int p1), some (.int p2), some (.int p3)], [.int p1, .int (zf h 92 28), .ref 108], h)) (fun hs => ?_)
            obtain ⟨hob, ho⟩ := ho
            refine zg_ias hs zd_173 rfl rfl hob (fun hs => ?_)
            refine zg_blk zd_173 5 hs (rfl : zb x zT0 zc_173 5 (60, [some (.ref 92), some (.int p1), some (.int p2), some (.int p3)], [], (zs h 108 (zf h 92 28) p1)) = some (69, [some (.ref 92), some (.int p1), some (.int p2), some (.int p3)], [.int p2, .int (zf h 92 28), .ref 109], (zs h 108 (zf h 92 28) p1))) (fun hs => ?_)
            obtain ⟨hob, ho⟩ := ho
            refine zg_ias hs zd_173 rfl rfl hob (fun hs => ?_)
            refine zg_blk zd_173 5 hs (rfl : zb x zT0 zc_173 5 (70, [some (.ref 92), some (.int p1), some (.int p2), some (.int p3)], [], (zs (zs h 108 (zf h 92 28) p1) 109 (zf h 92 28) p2)) = some (79, [some (.ref 92), some (.int p1), some (.int p2), some (.int p3)], [.int p3, .int (zf h 92 28), .ref 110], (zs (zs h 108 (zf h 92 28) p1) 109 (zf h 92 28) p2))) (fun hs => ?_)
            obtain ⟨hob, ho⟩ := ho
            refine zg_ias hs zd_173 rfl rfl hob (fun hs => ?_)
            refine zg_blk zd_173 6 hs (rfl : zb x zT0 zc_173 6 (80, [some (.ref 92), some (.int p1), some (.int p2), some (.int p3)], [], (zs (zs (zs h 108 (zf h 92 28) p1) 109 (zf h 92 28) p2) 110 (zf h 92 28) p3)) = some (92, [some (.ref 92), some (.int p1), some (.int p2), some (.int p3)], [.int (zf h 92 23), .int (zf h 92 28), .ref 111], (zs (zs (zs h 108 (zf h 92 28) p1) 109 (zf h 92 28) p2) 110 (zf h 92 28) p3))) (fun hs => ?_)
            have hob := ho
            refine zg_ias hs zd_173 rfl rfl hob (fun hs => ?_)
            refine zg_blk zd_173 8 hs (rfl : zb x zT0 zc_173 8 (93, [some (.ref 92), some (.int p1), some (.int p2), some (.int p3)], [], (zs (zs (zs (zs h 108 (zf h 92 28) p1) 109 (zf h 92 28) p2) 110 (zf h 92 28) p3) 111 (zf h 92 28) (zf h 92 23))) = some (107, [some (.ref 92), some (.int p1), some (.int p2), some (.int p3)], [.int ((zf h 92 28) + 1)], (zp (zs (zs (zs (zs h 108 (zf h 92 28) p1) 109 (zf h 92 28) p2) 110 (zf h 92 28) p3) 111 (zf h 92 28) (zf h 92 23)) 92 28 ((zf h 92 28) + 1)))) (fun hs => ?_)
            exact zg_ret zd_173 rfl rfl (hF hs)
          · have ho := ho.1 hc
            rw [if_pos hc] at hF
            refine zg_blk zd_173 1 hs (rfl : zb x zT0 zc_173 1 (48, [some (.ref 92), some (.int p1), some (.int p2), some (.int p3)], [], h) = some (49, [some (.ref 92), some (.int p1), some (.int p2), some (.int p3)], [.int (-1)], h)) (fun hs => ?_)
            exact zg_ret zd_173 rfl rfl (hF hs)
theorem zd_123 : zm_cd 123 = zc_123 := by rfl
theorem zd_82 : zm_cd 82 = zc_82 := by rfl
theorem zd_83 : zm_cd 83 = zc_83 := by rfl
set_option maxRecDepth 100000 in
set_option maxHeartbeats 400000 in
theorem f_Swell_firstTold_5_l2_b_t {x : zm_X} {d : Nat} (v2 : Int32) (v3 : Int32) (h : zm_H) (o1 : Option Value) {Q : Option Value → zm_H → Prop} {FN : Nat × Int32 → Prop} (hs : zSh zT0 h) (ho : f_Swell_firstTold_5_l2_b_ok v2 v3 h) (hF : FN (f_Swell_firstTold_5_l2_b v2 v3 h)) (hl0 : ∀ (v3 : Int32) (o1 : Option Value), zSh zT0 h → FN (0, v3) → zg x (d + 1) 83 2 [some (.ref 5), o1, some (.int v2), some (.int v3)] [] h Q) (hl1 : ∀ (v3 : Int32) (o1 : Option Value), zSh zT0 h → FN (1, v3) → zg x (d + 1) 83 21 [some (.ref 5), o1, some (.int v2), some (.int v3)] [] h Q) : zg x (d + 1) 83 2 [some (.ref 5), o1, some (.int v2), some (.int v3)] [] h Q := by
  unfold f_Swell_firstTold_5_l2_b at hF
  unfold f_Swell_firstTold_5_l2_b_ok at ho
  refine zg_blk zd_83 1 hs (rfl : zb x zT0 zc_83 1 (2, [some (.ref 5), o1, some (.int v2), some (.int v3)], [], h) = some (3, [some (.ref 5), o1, some (.int v2), some (.int v3)], [.int v3], h)) (fun hs => ?_)
  refine zg_f_le zd_83 rfl (fun (hc : (v3 ≤ 0)) => ?_) (fun (hc : ¬ (v3 ≤ 0)) => ?_)
  · have ho := ho.1 hc
    rw [if_pos hc] at hF
    exact hl1 v3 (o1) hs hF
  · have ho := ho.2 hc
    rw [if_neg hc] at hF
    refine zg_blk zd_83 4 hs (rfl : zb x zT0 zc_83 4 (6, [some (.ref 5), o1, some (.int v2), some (.int v3)], [], h) = some (10, [some (.ref 5), o1, some (.int v2), some (.int v3)], [.int (v3 - 1), .ref 5], h)) (fun hs => ?_)
    have hob := ho
    refine zg_ial hs zd_83 rfl rfl hob ?_
    refine zg_blk zd_83 1 hs (rfl : zb x zT0 zc_83 1 (11, [some (.ref 5), o1, some (.int v2), some (.int v3)], [.int (zr h 5 (v3 - 1))], h) = some (12, [some (.ref 5), o1, some (.int v2), some (.int v3)], [.int v2, .int (zr h 5 (v3 - 1))], h)) (fun hs => ?_)
    refine zg_i_le zd_83 rfl (fun (hc : ((zr h 5 (v3 - 1)) ≤ v2)) => ?_) (fun (hc : ¬ ((zr h 5 (v3 - 1)) ≤ v2)) => ?_)
    · skip
      rw [if_pos hc] at hF
      exact hl1 v3 (o1) hs hF
    · skip
      rw [if_neg hc] at hF
      refine zg_blk zd_83 2 hs (rfl : zb x zT0 zc_83 2 (15, [some (.ref 5), o1, some (.int v2), some (.int v3)], [], h) = some (2, [some (.ref 5), o1, some (.int v2), some (.int (v3 + (-1)))], [], h)) (fun hs => ?_)
      exact hl0 (v3 + (-1)) (o1) hs hF
theorem f_Swell_firstTold_5_l2_t {x : zm_X} {d : Nat} (v2 : Int32) (h : zm_H) {Q : Option Value → zm_H → Prop} (G : Nat × Int32 → Prop) (hx1 : ∀ (v3 : Int32) (o1 : Option Value), zSh zT0 h → G (1, v3) → zg x (d + 1) 83 21 [some (.ref 5), o1, some (.int v2), some (.int v3)] [] h Q) : ∀ (n : Nat) (v3 : Int32) (o1 : Option Value), zSh zT0 h → f_Swell_firstTold_5_l2_ok v2 h n v3 → G (f_Swell_firstTold_5_l2 v2 h n v3) → zg x (d + 1) 83 2 [some (.ref 5), o1, some (.int v2), some (.int v3)] [] h Q := by
  intro n
  induction n with
  | zero => intro v3 o1 hs ho hG; exact ho.elim
  | succ n ih =>
    intro v3 o1 hs ho hG
    refine f_Swell_firstTold_5_l2_b_t (FN := fun r => (r.1 = 0 → f_Swell_firstTold_5_l2_ok v2 h n r.2) ∧ G (if r.1 = 0 then f_Swell_firstTold_5_l2 v2 h n r.2 else r)) v2 v3 h o1 hs ho.1 ⟨ho.2, hG⟩ ?_ ?_
    · intro v3 o1 hs hF
      exact ih v3 o1 hs (hF.1 rfl) hF.2
    · intro v3 o1 hs hF
      exact hx1 v3 o1 hs hF.2

set_option maxRecDepth 100000 in
set_option maxHeartbeats 400000 in
theorem f_Swell_firstTold_5_k21_t {x : zm_X} {d : Nat} (v3 : Int32) (h : zm_H) (o0 : Option Value) (o1 : Option Value) (z2 : Int32) {Q : Option Value → zm_H → Prop} (hs : zSh zT0 h) (ho : f_Swell_firstTold_5_k21_ok v3 h) (hF : Q (some (.int (f_Swell_firstTold_5_k21 v3 h))) h) : zg x (d + 1) 83 21 [o0, o1, some (.int z2), some (.int v3)] [] h Q := by
  unfold f_Swell_firstTold_5_k21 at hF
  unfold f_Swell_firstTold_5_k21_ok at ho
  refine zg_blk zd_83 1 hs (rfl : zb x zT0 zc_83 1 (21, [o0, o1, some (.int z2), some (.int v3)], [], h) = some (22, [o0, o1, some (.int z2), some (.int v3)], [.int v3], h)) (fun hs => ?_)
  exact zg_ret zd_83 rfl rfl hF
set_option maxRecDepth 100000 in
set_option maxHeartbeats 400000 in
theorem f_Swell_firstTold_5_t {x : zm_X} {d : Nat} (p1 : Int32) (p2 : Int32) (h : zm_H) {Q : Option Value → zm_H → Prop} (hs : zSh zT0 h) (ho : f_Swell_firstTold_5_ok p1 p2 h) (hF : Q (some (.int (f_Swell_firstTold_5 p1 p2 h))) h) : zg x (d + 1) 83 0 [some (.ref 5), some (.int p1), some (.int p2), none] [] h Q := by
  unfold f_Swell_firstTold_5 at hF
  unfold f_Swell_firstTold_5_ok at ho
  refine zg_blk zd_83 2 hs (rfl : zb x zT0 zc_83 2 (0, [some (.ref 5), some (.int p1), some (.int p2), none], [], h) = some (2, [some (.ref 5), some (.int p1), some (.int p2), some (.int p1)], [], h)) (fun hs => ?_)
  refine f_Swell_firstTold_5_l2_t p2 h (fun r => f_Swell_firstTold_5_a2_ok r h ∧ Q (some (.int (f_Swell_firstTold_5_a2 r h))) h) ?_ zF p1 (some (.int p1)) hs ho.1 ⟨ho.2, hF⟩
  · intro v3_ o1_ hs hG
    have ho : True := trivial
    have hF : Q (some (.int ((f_Swell_firstTold_5_k21 v3_ h)))) h := hG.2
    exact f_Swell_firstTold_5_k21_t v3_ h (some (.ref 5)) (o1_) p2 hs trivial hF
set_option maxRecDepth 100000 in
set_option maxHeartbeats 400000 in
theorem f_Swell_readingsUpTo_t {x : zm_X} {d : Nat} (p1 : Int32) (h : zm_H) {Q : Option Value → zm_H → Prop} (hs : zSh zT0 h) (ho : f_Swell_readingsUpTo_ok p1 h) (hF : Q (some (.int (f_Swell_readingsUpTo p1 h))) h) : zg x (d + 2) 82 0 [some (.ref 1), some (.int p1)] [] h Q := by
  unfold f_Swell_readingsUpTo at hF
  unfold f_Swell_readingsUpTo_ok at ho
  refine zg_blk zd_82 5 hs (rfl : zb x zT0 zc_82 5 (0, [some (.ref 1), some (.int p1)], [], h) = some (9, [some (.ref 1), some (.int p1)], [.int p1, .int (zf h 1 0), .ref 5], h)) (fun hs => ?_)
  have hob := ho
  refine zg_call hs zd_82 rfl rfl rfl rfl (as := [.ref 5, .int (zf h 1 0), .int p1]) (rest := []) (en := [some (.ref 5), some (.int (zf h 1 0)), some (.int p1), none]) rfl rfl rfl rfl rfl ?_
  refine f_Swell_firstTold_5_t (zf h 1 0) p1 h hs hob ?_
  show zg x (d + 2) 82 12 [some (.ref 1), some (.int p1)] [.int (f_Swell_firstTold_5 (zf h 1 0) p1 h)] h Q
  exact zg_ret zd_82 rfl rfl hF
theorem zd_84 : zm_cd 84 = zc_84 := by rfl
set_option maxRecDepth 100000 in
set_option maxHeartbeats 400000 in
theorem f_Swell_firstTold_9_l2_b_t {x : zm_X} {d : Nat} (v2 : Int32) (v3 : Int32) (h : zm_H) (o1 : Option Value) {Q : Option Value → zm_H → Prop} {FN : Nat × Int32 → Prop} (hs : zSh zT0 h) (ho : f_Swell_firstTold_9_l2_b_ok v2 v3 h) (hF : FN (f_Swell_firstTold_9_l2_b v2 v3 h)) (hl0 : ∀ (v3 : Int32) (o1 : Option Value), zSh zT0 h → FN (0, v3) → zg x (d + 1) 83 2 [some (.ref 9), o1, some (.int v2), some (.int v3)] [] h Q) (hl1 : ∀ (v3 : Int32) (o1 : Option Value), zSh zT0 h → FN (1, v3) → zg x (d + 1) 83 21 [some (.ref 9), o1, some (.int v2), some (.int v3)] [] h Q) : zg x (d + 1) 83 2 [some (.ref 9), o1, some (.int v2), some (.int v3)] [] h Q := by
  unfold f_Swell_firstTold_9_l2_b at hF
  unfold f_Swell_firstTold_9_l2_b_ok at ho
  refine zg_blk zd_83 1 hs (rfl : zb x zT0 zc_83 1 (2, [some (.ref 9), o1, some (.int v2), some (.int v3)], [], h) = some (3, [some (.ref 9), o1, some (.int v2), some (.int v3)], [.int v3], h)) (fun hs => ?_)
  refine zg_f_le zd_83 rfl (fun (hc : (v3 ≤ 0)) => ?_) (fun (hc : ¬ (v3 ≤ 0)) => ?_)
  · have ho := ho.1 hc
    rw [if_pos hc] at hF
    exact hl1 v3 (o1) hs hF
  · have ho := ho.2 hc
    rw [if_neg hc] at hF
    refine zg_blk zd_83 4 hs (rfl : zb x zT0 zc_83 4 (6, [some (.ref 9), o1, some (.int v2), some (.int v3)], [], h) = some (10, [some (.ref 9), o1, some (.int v2), some (.int v3)], [.int (v3 - 1), .ref 9], h)) (fun hs => ?_)
    have hob := ho
    refine zg_ial hs zd_83 rfl rfl hob ?_
    refine zg_blk zd_83 1 hs (rfl : zb x zT0 zc_83 1 (11, [some (.ref 9), o1, some (.int v2), some (.int v3)], [.int (zr h 9 (v3 - 1))], h) = some (12, [some (.ref 9), o1, some (.int v2), some (.int v3)], [.int v2, .int (zr h 9 (v3 - 1))], h)) (fun hs => ?_)
    refine zg_i_le zd_83 rfl (fun (hc : ((zr h 9 (v3 - 1)) ≤ v2)) => ?_) (fun (hc : ¬ ((zr h 9 (v3 - 1)) ≤ v2)) => ?_)
    · skip
      rw [if_pos hc] at hF
      exact hl1 v3 (o1) hs hF
    · skip
      rw [if_neg hc] at hF
      refine zg_blk zd_83 2 hs (rfl : zb x zT0 zc_83 2 (15, [some (.ref 9), o1, some (.int v2), some (.int v3)], [], h) = some (2, [some (.ref 9), o1, some (.int v2), some (.int (v3 + (-1)))], [], h)) (fun hs => ?_)
      exact hl0 (v3 + (-1)) (o1) hs hF
theorem f_Swell_firstTold_9_l2_t {x : zm_X} {d : Nat} (v2 : Int32) (h : zm_H) {Q : Option Value → zm_H → Prop} (G : Nat × Int32 → Prop) (hx1 : ∀ (v3 : Int32) (o1 : Option Value), zSh zT0 h → G (1, v3) → zg x (d + 1) 83 21 [some (.ref 9), o1, some (.int v2), some (.int v3)] [] h Q) : ∀ (n : Nat) (v3 : Int32) (o1 : Option Value), zSh zT0 h → f_Swell_firstTold_9_l2_ok v2 h n v3 → G (f_Swell_firstTold_9_l2 v2 h n v3) → zg x (d + 1) 83 2 [some (.ref 9), o1, some (.int v2), some (.int v3)] [] h Q := by
  intro n
  induction n with
  | zero => intro v3 o1 hs ho hG; exact ho.elim
  | succ n ih =>
    intro v3 o1 hs ho hG
    refine f_Swell_firstTold_9_l2_b_t (FN := fun r => (r.1 = 0 → f_Swell_firstTold_9_l2_ok v2 h n r.2) ∧ G (if r.1 = 0 then f_Swell_firstTold_9_l2 v2 h n r.2 else r)) v2 v3 h o1 hs ho.1 ⟨ho.2, hG⟩ ?_ ?_
    · intro v3 o1 hs hF
      exact ih v3 o1 hs (hF.1 rfl) hF.2
    · intro v3 o1 hs hF
      exact hx1 v3 o1 hs hF.2

set_option maxRecDepth 100000 in
set_option maxHeartbeats 400000 in
theorem f_Swell_firstTold_9_k21_t {x : zm_X} {d : Nat} (v3 : Int32) (h : zm_H) (o0 : Option Value) (o1 : Option Value) (z2 : Int32) {Q : Option Value → zm_H → Prop} (hs : zSh zT0 h) (ho : f_Swell_firstTold_9_k21_ok v3 h) (hF : Q (some (.int (f_Swell_firstTold_9_k21 v3 h))) h) : zg x (d + 1) 83 21 [o0, o1, some (.int z2), some (.int v3)] [] h Q := by
  unfold f_Swell_firstTold_9_k21 at hF
  unfold f_Swell_firstTold_9_k21_ok at ho
  refine zg_blk zd_83 1 hs (rfl : zb x zT0 zc_83 1 (21, [o0, o1, some (.int z2), some (.int v3)], [], h) = some (22, [o0, o1, some (.int z2), some (.int v3)], [.int v3], h)) (fun hs => ?_)
  exact zg_ret zd_83 rfl rfl hF
set_option maxRecDepth 100000 in
set_option maxHeartbeats 400000 in
theorem f_Swell_firstTold_9_t {x : zm_X} {d : Nat} (p1 : Int32) (p2 : Int32) (h : zm_H) {Q : Option Value → zm_H → Prop} (hs : zSh zT0 h) (ho : f_Swell_firstTold_9_ok p1 p2 h) (hF : Q (some (.int (f_Swell_firstTold_9 p1 p2 h))) h) : zg x (d + 1) 83 0 [some (.ref 9), some (.int p1), some (.int p2), none] [] h Q := by
  unfold f_Swell_firstTold_9 at hF
  unfold f_Swell_firstTold_9_ok at ho
  refine zg_blk zd_83 2 hs (rfl : zb x zT0 zc_83 2 (0, [some (.ref 9), some (.int p1), some (.int p2), none], [], h) = some (2, [some (.ref 9), some (.int p1), some (.int p2), some (.int p1)], [], h)) (fun hs => ?_)
  refine f_Swell_firstTold_9_l2_t p2 h (fun r => f_Swell_firstTold_9_a2_ok r h ∧ Q (some (.int (f_Swell_firstTold_9_a2 r h))) h) ?_ zF p1 (some (.int p1)) hs ho.1 ⟨ho.2, hF⟩
  · intro v3_ o1_ hs hG
    have ho : True := trivial
    have hF : Q (some (.int ((f_Swell_firstTold_9_k21 v3_ h)))) h := hG.2
    exact f_Swell_firstTold_9_k21_t v3_ h (some (.ref 9)) (o1_) p2 hs trivial hF
set_option maxRecDepth 100000 in
set_option maxHeartbeats 400000 in
theorem f_Swell_driftsUpTo_t {x : zm_X} {d : Nat} (p1 : Int32) (h : zm_H) {Q : Option Value → zm_H → Prop} (hs : zSh zT0 h) (ho : f_Swell_driftsUpTo_ok p1 h) (hF : Q (some (.int (f_Swell_driftsUpTo p1 h))) h) : zg x (d + 2) 84 0 [some (.ref 1), some (.int p1)] [] h Q := by
  unfold f_Swell_driftsUpTo at hF
  unfold f_Swell_driftsUpTo_ok at ho
  refine zg_blk zd_84 5 hs (rfl : zb x zT0 zc_84 5 (0, [some (.ref 1), some (.int p1)], [], h) = some (9, [some (.ref 1), some (.int p1)], [.int p1, .int (zf h 1 1), .ref 9], h)) (fun hs => ?_)
  have hob := ho
  refine zg_call hs zd_84 rfl rfl rfl rfl (as := [.ref 9, .int (zf h 1 1), .int p1]) (rest := []) (en := [some (.ref 9), some (.int (zf h 1 1)), some (.int p1), none]) rfl rfl rfl rfl rfl ?_
  refine f_Swell_firstTold_9_t (zf h 1 1) p1 h hs hob ?_
  show zg x (d + 2) 84 12 [some (.ref 1), some (.int p1)] [.int (f_Swell_firstTold_9 (zf h 1 1) p1 h)] h Q
  exact zg_ret zd_84 rfl rfl hF
theorem zd_85 : zm_cd 85 = zc_85 := by rfl
theorem zd_86 : zm_cd 86 = zc_86 := by rfl
set_option maxRecDepth 100000 in
set_option maxHeartbeats 400000 in
theorem f_Swell_readingFor_l12_b_t {x : zm_X} {d : Nat} (v2 : Int32) (v3 : Int32) (v4 : Int32) (h : zm_H) (o1 : Option Value) {Q : Option Value → zm_H → Prop} {FN : Nat × Int32 × Int32 → Prop} (hs : zSh zT0 h) (ho : f_Swell_readingFor_l12_b_ok v2 v3 v4 h) (hF : FN (f_Swell_readingFor_l12_b v2 v3 v4 h)) (hl0 : ∀ (v3 : Int32) (v4 : Int32) (o1 : Option Value), zSh zT0 h → FN (0, v3, v4) → zg x (d + 1) 86 12 [some (.ref 1), o1, some (.int v2), some (.int v3), some (.int v4)] [] h Q) (hl1 : ∀ (v3 : Int32) (v4 : Int32) (o1 : Option Value) (o4 : Option Value), zSh zT0 h → FN (1, v3, v4) → zg x (d + 1) 86 35 [some (.ref 1), o1, some (.int v2), some (.int v3), o4] [] h Q) : zg x (d + 1) 86 12 [some (.ref 1), o1, some (.int v2), some (.int v3), some (.int v4)] [] h Q := by
  unfold f_Swell_readingFor_l12_b at hF
  unfold f_Swell_readingFor_l12_b_ok at ho
  refine zg_blk zd_86 1 hs (rfl : zb x zT0 zc_86 1 (12, [some (.ref 1), o1, some (.int v2), some (.int v3), some (.int v4)], [], h) = some (14, [some (.ref 1), o1, some (.int v2), some (.int v3), some (.int v4)], [.int v4], h)) (fun hs => ?_)
  refine zg_f_le zd_86 rfl (fun (hc : (v4 ≤ 0)) => ?_) (fun (hc : ¬ (v4 ≤ 0)) => ?_)
  · have ho := ho.1 hc
    rw [if_pos hc] at hF
    exact hl1 v3 v4 (o1) (some (.int v4)) hs hF
  · have ho := ho.2 hc
    rw [if_neg hc] at hF
    refine zg_blk zd_86 2 hs (rfl : zb x zT0 zc_86 2 (17, [some (.ref 1), o1, some (.int v2), some (.int v3), some (.int v4)], [], h) = some (19, [some (.ref 1), o1, some (.int v2), some (.int v3), some (.int v4)], [.int v2, .int v3], h)) (fun hs => ?_)
    refine zg_i_lt zd_86 rfl (fun (hc : (v3 < v2)) => ?_) (fun (hc : ¬ (v3 < v2)) => ?_)
    · have ho := ho.1 hc
      rw [if_pos hc] at hF
      exact hl1 v3 v4 (o1) (some (.int v4)) hs hF
    · have ho := ho.2 hc
      rw [if_neg hc] at hF
      refine zg_blk zd_86 3 hs (rfl : zb x zT0 zc_86 3 (22, [some (.ref 1), o1, some (.int v2), some (.int v3), some (.int v4)], [], h) = some (27, [some (.ref 1), o1, some (.int v2), some (.int v3), some (.int v4)], [.int v3, .ref 3], h)) (fun hs => ?_)
      have hob := ho
      refine zg_ial hs zd_86 rfl rfl hob ?_
      refine zg_blk zd_86 3 hs (rfl : zb x zT0 zc_86 3 (28, [some (.ref 1), o1, some (.int v2), some (.int v3), some (.int v4)], [.int (zr h 3 v3)], h) = some (12, [some (.ref 1), o1, some (.int v2), some (.int (zr h 3 v3)), some (.int (v4 + (-1)))], [], h)) (fun hs => ?_)
      exact hl0 (zr h 3 v3) (v4 + (-1)) (o1) hs hF
theorem f_Swell_readingFor_l12_t {x : zm_X} {d : Nat} (v2 : Int32) (h : zm_H) {Q : Option Value → zm_H → Prop} (G : Nat × Int32 × Int32 → Prop) (hx1 : ∀ (v3 : Int32) (v4 : Int32) (o1 : Option Value) (o4 : Option Value), zSh zT0 h → G (1, v3, v4) → zg x (d + 1) 86 35 [some (.ref 1), o1, some (.int v2), some (.int v3), o4] [] h Q) : ∀ (n : Nat) (v3 : Int32) (v4 : Int32) (o1 : Option Value), zSh zT0 h → f_Swell_readingFor_l12_ok v2 h n (v3, v4) → G (f_Swell_readingFor_l12 v2 h n (v3, v4)) → zg x (d + 1) 86 12 [some (.ref 1), o1, some (.int v2), some (.int v3), some (.int v4)] [] h Q := by
  intro n
  induction n with
  | zero => intro v3 v4 o1 hs ho hG; exact ho.elim
  | succ n ih =>
    intro v3 v4 o1 hs ho hG
    refine f_Swell_readingFor_l12_b_t (FN := fun r => (r.1 = 0 → f_Swell_readingFor_l12_ok v2 h n r.2) ∧ G (if r.1 = 0 then f_Swell_readingFor_l12 v2 h n r.2 else r)) v2 v3 v4 h o1 hs ho.1 ⟨ho.2, hG⟩ ?_ ?_
    · intro v3 v4 o1 hs hF
      exact ih v3 v4 o1 hs (hF.1 rfl) hF.2
    · intro v3 v4 o1 o4 hs hF
      exact hx1 v3 v4 o1 o4 hs hF.2

set_option maxRecDepth 100000 in
set_option maxHeartbeats 400000 in
theorem f_Swell_readingFor_k35_t {x : zm_X} {d : Nat} (v3 : Int32) (h : zm_H) (o0 : Option Value) (o1 : Option Value) (z2 : Int32) (o4 : Option Value) {Q : Option Value → zm_H → Prop} (hs : zSh zT0 h) (ho : f_Swell_readingFor_k35_ok v3 h) (hF : Q (some (.int (f_Swell_readingFor_k35 v3 h))) h) : zg x (d + 1) 86 35 [o0, o1, some (.int z2), some (.int v3), o4] [] h Q := by
  unfold f_Swell_readingFor_k35 at hF
  unfold f_Swell_readingFor_k35_ok at ho
  refine zg_blk zd_86 1 hs (rfl : zb x zT0 zc_86 1 (35, [o0, o1, some (.int z2), some (.int v3), o4], [], h) = some (36, [o0, o1, some (.int z2), some (.int v3), o4], [.int v3], h)) (fun hs => ?_)
  exact zg_ret zd_86 rfl rfl hF
set_option maxRecDepth 100000 in
set_option maxHeartbeats 400000 in
theorem f_Swell_readingFor_t {x : zm_X} {d : Nat} (p1 : Int32) (p2 : Int32) (h : zm_H) {Q : Option Value → zm_H → Prop} (hs : zSh zT0 h) (ho : f_Swell_readingFor_ok p1 p2 h) (hF : Q (some (.int (f_Swell_readingFor p1 p2 h))) h) : zg x (d + 1) 86 0 [some (.ref 1), some (.int p1), some (.int p2), none, none] [] h Q := by
  unfold f_Swell_readingFor at hF
  unfold f_Swell_readingFor_ok at ho
  refine zg_blk zd_86 3 hs (rfl : zb x zT0 zc_86 3 (0, [some (.ref 1), some (.int p1), some (.int p2), none, none], [], h) = some (5, [some (.ref 1), some (.int p1), some (.int p2), none, none], [.int p1, .ref 2], h)) (fun hs => ?_)
  obtain ⟨hob, ho⟩ := ho
  refine zg_ial hs zd_86 rfl rfl hob ?_
  refine zg_blk zd_86 3 hs (rfl : zb x zT0 zc_86 3 (6, [some (.ref 1), some (.int p1), some (.int p2), none, none], [.int (zr h 2 p1)], h) = some (12, [some (.ref 1), some (.int p1), some (.int p2), some (.int (zr h 2 p1)), some (.int 400)], [], h)) (fun hs => ?_)
  refine f_Swell_readingFor_l12_t p2 h (fun r => f_Swell_readingFor_a12_ok r h ∧ Q (some (.int (f_Swell_readingFor_a12 r h))) h) ?_ zF (zr h 2 p1) 400 (some (.int p1)) hs ho.1 ⟨ho.2, hF⟩
  · intro v3_ v4_ o1_ o4_ hs hG
    have ho : True := trivial
    have hF : Q (some (.int ((f_Swell_readingFor_k35 v3_ h)))) h := hG.2
    exact f_Swell_readingFor_k35_t v3_ h (some (.ref 1)) (o1_) p2 (o4_) hs trivial hF
set_option maxRecDepth 100000 in
set_option maxHeartbeats 400000 in
theorem f_Swell_look_l3_b_t {x : zm_X} {d : Nat} (v1 : Int32) (v2 : Int32) (v3 : Int32) (v4 : Int32) (v5 : Int32) (h : zm_H) (o5 : Option Value) {Q : Option Value → zm_H → Prop} {FN : Nat × Int32 × Int32 → Prop} (hs : zSh zT0 h) (ho : f_Swell_look_l3_b_ok v1 v2 v3 v4 v5 h) (hF : FN (f_Swell_look_l3_b v1 v2 v3 v4 v5 h)) (hl0 : ∀ (v4 : Int32) (v5 : Int32) (o5 : Option Value), zSh zT0 h → FN (0, v4, v5) → zg x (d + 3) 85 3 [some (.ref 1), some (.int v1), some (.int v2), some (.int v3), some (.int v4), o5] [] h Q) (hl1 : ∀ (v4 : Int32) (v5 : Int32), zSh zT0 h → FN (1, v4, v5) → zg x (d + 3) 85 32 [some (.ref 1), some (.int v1), some (.int v2), some (.int v3), some (.int v4), some (.int v5)] [] h Q) (hl2 : ∀ (v4 : Int32) (v5 : Int32) (o4 : Option Value) (o5 : Option Value), zSh zT0 h → FN (2, v4, v5) → zg x (d + 3) 85 55 [some (.ref 1), some (.int v1), some (.int v2), some (.int v3), o4, o5] [] h Q) : zg x (d + 3) 85 3 [some (.ref 1), some (.int v1), some (.int v2), some (.int v3), some (.int v4), o5] [] h Q := by
  unfold f_Swell_look_l3_b at hF
  unfold f_Swell_look_l3_b_ok at ho
  refine zg_blk zd_85 2 hs (rfl : zb x zT0 zc_85 2 (3, [some (.ref 1), some (.int v1), some (.int v2), some (.int v3), some (.int v4), o5], [], h) = some (7, [some (.ref 1), some (.int v1), some (.int v2), some (.int v3), some (.int v4), o5], [.int 8, .int v4], h)) (fun hs => ?_)
  refine zg_i_gt zd_85 rfl (fun (hc : (8 < v4)) => ?_) (fun (hc : ¬ (8 < v4)) => ?_)
  · have ho := ho.1 hc
    rw [if_pos hc] at hF
    exact hl2 v4 0 (some (.int v4)) (o5) hs hF
  · have ho := ho.2 hc
    rw [if_neg hc] at hF
    refine zg_blk zd_85 2 hs (rfl : zb x zT0 zc_85 2 (10, [some (.ref 1), some (.int v1), some (.int v2), some (.int v3), some (.int v4), o5], [], h) = some (13, [some (.ref 1), some (.int v1), some (.int v2), some (.int v3), some (.int v4), o5], [.int v1, .int v4], h)) (fun hs => ?_)
    refine zg_i_gt zd_85 rfl (fun (hc : (v1 < v4)) => ?_) (fun (hc : ¬ (v1 < v4)) => ?_)
    · have ho := ho.1 hc
      rw [if_pos hc] at hF
      exact hl2 v4 0 (some (.int v4)) (o5) hs hF
    · have ho := ho.2 hc
      rw [if_neg hc] at hF
      refine zg_blk zd_85 5 hs (rfl : zb x zT0 zc_85 5 (16, [some (.ref 1), some (.int v1), some (.int v2), some (.int v3), some (.int v4), o5], [], h) = some (22, [some (.ref 1), some (.int v1), some (.int v2), some (.int v3), some (.int v4), o5], [.int v2, .int (v1 - v4), .ref 1], h)) (fun hs => ?_)
      have hob := ho
      refine zg_call hs zd_85 rfl rfl rfl rfl (as := [.ref 1, .int (v1 - v4), .int v2]) (rest := []) (en := [some (.ref 1), some (.int (v1 - v4)), some (.int v2), none, none]) rfl rfl rfl rfl rfl ?_
      refine f_Swell_readingFor_t (v1 - v4) v2 h hs hob ?_
      show zg x (d + 3) 85 25 [some (.ref 1), some (.int v1), some (.int v2), some (.int v3), some (.int v4), o5] [.int (f_Swell_readingFor (v1 - v4) v2 h)] h Q
      refine zg_blk zd_85 2 hs (rfl : zb x zT0 zc_85 2 (25, [some (.ref 1), some (.int v1), some (.int v2), some (.int v3), some (.int v4), o5], [.int (f_Swell_readingFor (v1 - v4) v2 h)], h) = some (29, [some (.ref 1), some (.int v1), some (.int v2), some (.int v3), some (.int v4), some (.int (f_Swell_readingFor (v1 - v4) v2 h))], [.int (f_Swell_readingFor (v1 - v4) v2 h)], h)) (fun hs => ?_)
      refine zg_f_lt zd_85 rfl (fun (hc : ((f_Swell_readingFor (v1 - v4) v2 h) < 0)) => ?_) (fun (hc : ¬ ((f_Swell_readingFor (v1 - v4) v2 h) < 0)) => ?_)
      · skip
        rw [if_pos hc] at hF
        refine zg_blk zd_85 2 hs (rfl : zb x zT0 zc_85 2 (49, [some (.ref 1), some (.int v1), some (.int v2), some (.int v3), some (.int v4), some (.int (f_Swell_readingFor (v1 - v4) v2 h))], [], h) = some (3, [some (.ref 1), some (.int v1), some (.int v2), some (.int v3), some (.int (v4 + 1)), some (.int (f_Swell_readingFor (v1 - v4) v2 h))], [], h)) (fun hs => ?_)
        exact hl0 (v4 + 1) (f_Swell_readingFor (v1 - v4) v2 h) (some (.int (f_Swell_readingFor (v1 - v4) v2 h))) hs hF
      · skip
        rw [if_neg hc] at hF
        exact hl1 v4 (f_Swell_readingFor (v1 - v4) v2 h) hs hF
theorem f_Swell_look_l3_t {x : zm_X} {d : Nat} (v1 : Int32) (v2 : Int32) (v3 : Int32) (h : zm_H) {Q : Option Value → zm_H → Prop} (G : Nat × Int32 × Int32 → Prop) (hx1 : ∀ (v4 : Int32) (v5 : Int32), zSh zT0 h → G (1, v4, v5) → zg x (d + 3) 85 32 [some (.ref 1), some (.int v1), some (.int v2), some (.int v3), some (.int v4), some (.int v5)] [] h Q) (hx2 : ∀ (v4 : Int32) (v5 : Int32) (o4 : Option Value) (o5 : Option Value), zSh zT0 h → G (2, v4, v5) → zg x (d + 3) 85 55 [some (.ref 1), some (.int v1), some (.int v2), some (.int v3), o4, o5] [] h Q) : ∀ (n : Nat) (v4 : Int32) (v5 : Int32) (o5 : Option Value), zSh zT0 h → f_Swell_look_l3_ok v1 v2 v3 h n (v4, v5) → G (f_Swell_look_l3 v1 v2 v3 h n (v4, v5)) → zg x (d + 3) 85 3 [some (.ref 1), some (.int v1), some (.int v2), some (.int v3), some (.int v4), o5] [] h Q := by
  intro n
  induction n with
  | zero => intro v4 v5 o5 hs ho hG; exact ho.elim
  | succ n ih =>
    intro v4 v5 o5 hs ho hG
    refine f_Swell_look_l3_b_t (FN := fun r => (r.1 = 0 → f_Swell_look_l3_ok v1 v2 v3 h n r.2) ∧ G (if r.1 = 0 then f_Swell_look_l3 v1 v2 v3 h n r.2 else r)) v1 v2 v3 v4 v5 h o5 hs ho.1 ⟨ho.2, hG⟩ ?_ ?_ ?_
    · intro v4 v5 o5 hs hF
      exact ih v4 v5 o5 hs (hF.1 rfl) hF.2
    · intro v4 v5 hs hF
      exact hx1 v4 v5 hs hF.2
    · intro v4 v5 o4 o5 hs hF
      exact hx2 v4 v5 o4 o5 hs hF.2

theorem zd_87 : zm_cd 87 = zc_87 := by rfl
theorem zd_124 : zm_cd 124 = zc_124 := by rfl
set_option maxRecDepth 100000 in
set_option maxHeartbeats 400000 in
theorem f_N_heightOf_t {x : zm_X} {d : Nat} (p0 : Int32) (h : zm_H) {Q : Option Value → zm_H → Prop} (hs : zSh zT0 h) (ho : f_N_heightOf_ok p0 h) (hF : Q (some (.int (f_N_heightOf p0 h))) h) : zg x (d + 1) 124 0 [some (.int p0)] [] h Q := by
  unfold f_N_heightOf at hF
  unfold f_N_heightOf_ok at ho
  refine zg_blk zd_124 3 hs (rfl : zb x zT0 zc_124 3 (0, [some (.int p0)], [], h) = some (5, [some (.int p0)], [.int (p0 / 1000)], h)) (fun hs => ?_)
  exact zg_ret zd_124 rfl rfl hF
set_option maxRecDepth 100000 in
set_option maxHeartbeats 400000 in
theorem f_Swell_drifted_l9_b_t {x : zm_X} {d : Nat} (v1 : Int32) (v2 : Int32) (v3 : Int32) (v4 : Int32) (v5 : Int32) (h : zm_H) {Q : Option Value → zm_H → Prop} {FN : Nat × Int32 × Int32 → Prop} (hs : zSh zT0 h) (ho : f_Swell_drifted_l9_b_ok v1 v2 v3 v4 v5 h) (hF : FN (f_Swell_drifted_l9_b v1 v2 v3 v4 v5 h)) (hl0 : ∀ (v4 : Int32) (v5 : Int32), zSh zT0 h → FN (0, v4, v5) → zg x (d + 2) 87 9 [some (.ref 1), some (.int v1), some (.int v2), some (.int v3), some (.int v4), some (.int v5)] [] h Q) (hl1 : ∀ (v4 : Int32) (v5 : Int32) (o5 : Option Value), zSh zT0 h → FN (1, v4, v5) → zg x (d + 2) 87 55 [some (.ref 1), some (.int v1), some (.int v2), some (.int v3), some (.int v4), o5] [] h Q) : zg x (d + 2) 87 9 [some (.ref 1), some (.int v1), some (.int v2), some (.int v3), some (.int v4), some (.int v5)] [] h Q := by
  unfold f_Swell_drifted_l9_b at hF
  unfold f_Swell_drifted_l9_b_ok at ho
  refine zg_blk zd_87 2 hs (rfl : zb x zT0 zc_87 2 (9, [some (.ref 1), some (.int v1), some (.int v2), some (.int v3), some (.int v4), some (.int v5)], [], h) = some (12, [some (.ref 1), some (.int v1), some (.int v2), some (.int v3), some (.int v4), some (.int v5)], [.int v3, .int v5], h)) (fun hs => ?_)
  refine zg_i_ge zd_87 rfl (fun (hc : (v3 ≤ v5)) => ?_) (fun (hc : ¬ (v3 ≤ v5)) => ?_)
  · have ho := ho.1 hc
    rw [if_pos hc] at hF
    exact hl1 v4 v5 (some (.int v5)) hs hF
  · have ho := ho.2 hc
    rw [if_neg hc] at hF
    refine zg_blk zd_87 3 hs (rfl : zb x zT0 zc_87 3 (15, [some (.ref 1), some (.int v1), some (.int v2), some (.int v3), some (.int v4), some (.int v5)], [], h) = some (21, [some (.ref 1), some (.int v1), some (.int v2), some (.int v3), some (.int v4), some (.int v5)], [.int v5, .ref 6], h)) (fun hs => ?_)
    obtain ⟨hob, ho⟩ := ho
    refine zg_ial hs zd_87 rfl rfl hob ?_
    refine zg_blk zd_87 1 hs (rfl : zb x zT0 zc_87 1 (22, [some (.ref 1), some (.int v1), some (.int v2), some (.int v3), some (.int v4), some (.int v5)], [.int (zr h 6 v5)], h) = some (23, [some (.ref 1), some (.int v1), some (.int v2), some (.int v3), some (.int v4), some (.int v5)], [.int v2, .int (zr h 6 v5)], h)) (fun hs => ?_)
    have hom := ho
    have K5 : zSh zT0 h → zg x (d + 2) 87 49 [some (.ref 1), some (.int v1), some (.int v2), some (.int v3), some (.int (if (v2 < (zr h 6 v5)) then (v4 : Int32) else (if ((zr h 7 v5) < v2) then (v4 : Int32) else (v4 + (zr h 8 v5))))), some (.int v5)] [] h Q := fun hs => by
      refine zg_blk zd_87 2 hs (rfl : zb x zT0 zc_87 2 (49, [some (.ref 1), some (.int v1), some (.int v2), some (.int v3), some (.int (if (v2 < (zr h 6 v5)) then (v4 : Int32) else (if ((zr h 7 v5) < v2) then (v4 : Int32) else (v4 + (zr h 8 v5))))), some (.int v5)], [], h) = some (9, [some (.ref 1), some (.int v1), some (.int v2), some (.int v3), some (.int (if (v2 < (zr h 6 v5)) then (v4 : Int32) else (if ((zr h 7 v5) < v2) then (v4 : Int32) else (v4 + (zr h 8 v5))))), some (.int (v5 + 1))], [], h)) (fun hs => ?_)
      exact hl0 (if (v2 < (zr h 6 v5)) then (v4 : Int32) else (if ((zr h 7 v5) < v2) then (v4 : Int32) else (v4 + (zr h 8 v5)))) (v5 + 1) hs hF
    refine zg_i_gt zd_87 rfl (fun (hc : (v2 < (zr h 6 v5))) => ?_) (fun (hc : ¬ (v2 < (zr h 6 v5))) => ?_)
    · have ho := hom.1 hc
      rw [show ((if (v2 < (zr h 6 v5)) then (v4 : Int32) else (if ((zr h 7 v5) < v2) then (v4 : Int32) else (v4 + (zr h 8 v5)))) : Int32) = v4 from if_pos hc] at K5
      exact K5 hs
    · have ho := hom.2 hc
      rw [show ((if (v2 < (zr h 6 v5)) then (v4 : Int32) else (if ((zr h 7 v5) < v2) then (v4 : Int32) else (v4 + (zr h 8 v5)))) : Int32) = (if ((zr h 7 v5) < v2) then (v4 : Int32) else (v4 + (zr h 8 v5))) from if_neg hc] at K5
      refine zg_blk zd_87 4 hs (rfl : zb x zT0 zc_87 4 (26, [some (.ref 1), some (.int v1), some (.int v2), some (.int v3), some (.int v4), some (.int v5)], [], h) = some (33, [some (.ref 1), some (.int v1), some (.int v2), some (.int v3), some (.int v4), some (.int v5)], [.int v5, .ref 7, .int v2], h)) (fun hs => ?_)
      obtain ⟨hob, ho⟩ := ho
      refine zg_ial hs zd_87 rfl rfl hob ?_
      refine zg_i_gt zd_87 rfl (fun (hc : ((zr h 7 v5) < v2)) => ?_) (fun (hc : ¬ ((zr h 7 v5) < v2)) => ?_)
      · have ho := ho.1 hc
        rw [show ((if ((zr h 7 v5) < v2) then (v4 : Int32) else (v4 + (zr h 8 v5))) : Int32) = v4 from if_pos hc] at K5
        exact K5 hs
      · have ho := ho.2 hc
        rw [show ((if ((zr h 7 v5) < v2) then (v4 : Int32) else (v4 + (zr h 8 v5))) : Int32) = (v4 + (zr h 8 v5)) from if_neg hc] at K5
        refine zg_blk zd_87 4 hs (rfl : zb x zT0 zc_87 4 (37, [some (.ref 1), some (.int v1), some (.int v2), some (.int v3), some (.int v4), some (.int v5)], [], h) = some (45, [some (.ref 1), some (.int v1), some (.int v2), some (.int v3), some (.int v4), some (.int v5)], [.int v5, .ref 8, .int v4], h)) (fun hs => ?_)
        have hob := ho
        refine zg_ial hs zd_87 rfl rfl hob ?_
        refine zg_blk zd_87 2 hs (rfl : zb x zT0 zc_87 2 (46, [some (.ref 1), some (.int v1), some (.int v2), some (.int v3), some (.int v4), some (.int v5)], [.int (zr h 8 v5), .int v4], h) = some (49, [some (.ref 1), some (.int v1), some (.int v2), some (.int v3), some (.int (v4 + (zr h 8 v5))), some (.int v5)], [], h)) (fun hs => ?_)
        exact K5 hs
theorem f_Swell_drifted_l9_t {x : zm_X} {d : Nat} (v1 : Int32) (v2 : Int32) (v3 : Int32) (h : zm_H) {Q : Option Value → zm_H → Prop} (G : Nat × Int32 × Int32 → Prop) (hx1 : ∀ (v4 : Int32) (v5 : Int32) (o5 : Option Value), zSh zT0 h → G (1, v4, v5) → zg x (d + 2) 87 55 [some (.ref 1), some (.int v1), some (.int v2), some (.int v3), some (.int v4), o5] [] h Q) : ∀ (n : Nat) (v4 : Int32) (v5 : Int32), zSh zT0 h → f_Swell_drifted_l9_ok v1 v2 v3 h n (v4, v5) → G (f_Swell_drifted_l9 v1 v2 v3 h n (v4, v5)) → zg x (d + 2) 87 9 [some (.ref 1), some (.int v1), some (.int v2), some (.int v3), some (.int v4), some (.int v5)] [] h Q := by
  intro n
  induction n with
  | zero => intro v4 v5 hs ho hG; exact ho.elim
  | succ n ih =>
    intro v4 v5 hs ho hG
    refine f_Swell_drifted_l9_b_t (FN := fun r => (r.1 = 0 → f_Swell_drifted_l9_ok v1 v2 v3 h n r.2) ∧ G (if r.1 = 0 then f_Swell_drifted_l9 v1 v2 v3 h n r.2 else r)) v1 v2 v3 v4 v5 h hs ho.1 ⟨ho.2, hG⟩ ?_ ?_
    · intro v4 v5 hs hF
      exact ih v4 v5 hs (hF.1 rfl) hF.2
    · intro v4 v5 o5 hs hF
      exact hx1 v4 v5 o5 hs hF.2

theorem zd_125 : zm_cd 125 = zc_125 := by rfl
set_option maxRecDepth 100000 in
set_option maxHeartbeats 400000 in
theorem f_N_within_t {x : zm_X} {d : Nat} (p0 : Int32) (p1 : Int32) (p2 : Int32) (h : zm_H) {Q : Option Value → zm_H → Prop} (hs : zSh zT0 h) (ho : f_N_within_ok p0 p1 p2 h) (hF : Q (some (.int (f_N_within p0 p1 p2 h))) h) : zg x (d + 1) 125 0 [some (.int p0), some (.int p1), some (.int p2)] [] h Q := by
  unfold f_N_within at hF
  unfold f_N_within_ok at ho
  refine zg_blk zd_125 3 hs (rfl : zb x zT0 zc_125 3 (0, [some (.int p0), some (.int p1), some (.int p2)], [], h) = some (3, [some (.int p0), some (.int p1), some (.int p2)], [.int p2, .int p1, .int p0], h)) (fun hs => ?_)
  refine zg_x zd_125 rfl rfl rfl rfl (as := [.int p1, .int p2]) (rest := [.int p0]) (w := some (.int (if p2 < p1 then p2 else p1))) rfl rfl rfl ?_
  refine zg_x zd_125 rfl rfl rfl rfl (as := [.int p0, .int (if p2 < p1 then p2 else p1)]) (rest := []) (w := some (.int (if p0 < (if p2 < p1 then p2 else p1) then (if p2 < p1 then p2 else p1) else p0))) rfl rfl rfl ?_
  exact zg_ret zd_125 rfl rfl hF
set_option maxRecDepth 100000 in
set_option maxHeartbeats 400000 in
theorem f_Swell_drifted_k55_t {x : zm_X} {d : Nat} (v1 : Int32) (v4 : Int32) (h : zm_H) (o0 : Option Value) (o2 : Option Value) (z3 : Int32) (o5 : Option Value) {Q : Option Value → zm_H → Prop} (hs : zSh zT0 h) (ho : f_Swell_drifted_k55_ok v1 v4 h) (hF : Q (some (.int (f_Swell_drifted_k55 v1 v4 h))) h) : zg x (d + 2) 87 55 [o0, some (.int v1), o2, some (.int z3), some (.int v4), o5] [] h Q := by
  unfold f_Swell_drifted_k55 at hF
  unfold f_Swell_drifted_k55_ok at ho
  refine zg_blk zd_87 3 hs (rfl : zb x zT0 zc_87 3 (55, [o0, some (.int v1), o2, some (.int z3), some (.int v4), o5], [], h) = some (60, [o0, some (.int v1), o2, some (.int z3), some (.int v4), o5], [.int 120, .int v4, .int 0], h)) (fun hs => ?_)
  refine zg_call hs zd_87 rfl rfl rfl rfl (as := [.int 0, .int v4, .int 120]) (rest := []) (en := [some (.int 0), some (.int v4), some (.int 120)]) rfl rfl rfl rfl rfl ?_
  refine f_N_within_t 0 v4 120 h hs trivial ?_
  show zg x (d + 2) 87 63 [o0, some (.int v1), o2, some (.int z3), some (.int v4), o5] [.int (if 0 < (if 120 < v4 then 120 else v4) then (if 120 < v4 then 120 else v4) else 0)] h Q
  refine zg_blk zd_87 6 hs (rfl : zb x zT0 zc_87 6 (63, [o0, some (.int v1), o2, some (.int z3), some (.int v4), o5], [.int (if 0 < (if 120 < v4 then 120 else v4) then (if 120 < v4 then 120 else v4) else 0)], h) = some (73, [o0, some (.int v1), o2, some (.int z3), some (.int v4), o5], [.int (((if 0 < (if 120 < v4 then 120 else v4) then (if 120 < v4 then 120 else v4) else 0) * 1000) + (zm_rm v1 1000))], h)) (fun hs => ?_)
  exact zg_ret zd_87 rfl rfl hF
set_option maxRecDepth 100000 in
set_option maxHeartbeats 400000 in
theorem f_Swell_drifted_t {x : zm_X} {d : Nat} (p1 : Int32) (p2 : Int32) (p3 : Int32) (h : zm_H) {Q : Option Value → zm_H → Prop} (hs : zSh zT0 h) (ho : f_Swell_drifted_ok p1 p2 p3 h) (hF : Q (some (.int (f_Swell_drifted p1 p2 p3 h))) h) : zg x (d + 2) 87 0 [some (.ref 1), some (.int p1), some (.int p2), some (.int p3), none, none] [] h Q := by
  unfold f_Swell_drifted at hF
  unfold f_Swell_drifted_ok at ho
  refine zg_blk zd_87 1 hs (rfl : zb x zT0 zc_87 1 (0, [some (.ref 1), some (.int p1), some (.int p2), some (.int p3), none, none], [], h) = some (1, [some (.ref 1), some (.int p1), some (.int p2), some (.int p3), none, none], [.int p1], h)) (fun hs => ?_)
  refine zg_call hs zd_87 rfl rfl rfl rfl (as := [.int p1]) (rest := []) (en := [some (.int p1)]) rfl rfl rfl rfl rfl ?_
  refine f_N_heightOf_t p1 h hs trivial ?_
  show zg x (d + 2) 87 4 [some (.ref 1), some (.int p1), some (.int p2), some (.int p3), none, none] [.int (p1 / 1000)] h Q
  refine zg_blk zd_87 3 hs (rfl : zb x zT0 zc_87 3 (4, [some (.ref 1), some (.int p1), some (.int p2), some (.int p3), none, none], [.int (p1 / 1000)], h) = some (9, [some (.ref 1), some (.int p1), some (.int p2), some (.int p3), some (.int (p1 / 1000)), some (.int 0)], [], h)) (fun hs => ?_)
  refine f_Swell_drifted_l9_t p1 p2 p3 h (fun r => f_Swell_drifted_a9_ok p1 r h ∧ Q (some (.int (f_Swell_drifted_a9 p1 r h))) h) ?_ zF (p1 / 1000) 0 hs ho.1 ⟨ho.2, hF⟩
  · intro v4_ v5_ o5_ hs hG
    have ho : True := trivial
    have hF : Q (some (.int ((f_Swell_drifted_k55 p1 v4_ h)))) h := hG.2
    exact f_Swell_drifted_k55_t p1 v4_ h (some (.ref 1)) (some (.int p2)) p3 (o5_) hs trivial hF
set_option maxRecDepth 100000 in
set_option maxHeartbeats 400000 in
theorem f_Swell_look_k32_t {x : zm_X} {d : Nat} (v1 : Int32) (v3 : Int32) (v4 : Int32) (v5 : Int32) (h : zm_H) (o2 : Option Value) {Q : Option Value → zm_H → Prop} (hs : zSh zT0 h) (ho : f_Swell_look_k32_ok v1 v3 v4 v5 h) (hF : Q (some (.int (f_Swell_look_k32 v1 v3 v4 v5 h))) h) : zg x (d + 3) 85 32 [some (.ref 1), some (.int v1), o2, some (.int v3), some (.int v4), some (.int v5)] [] h Q := by
  unfold f_Swell_look_k32 at hF
  unfold f_Swell_look_k32_ok at ho
  refine zg_blk zd_85 4 hs (rfl : zb x zT0 zc_85 4 (32, [some (.ref 1), some (.int v1), o2, some (.int v3), some (.int v4), some (.int v5)], [], h) = some (39, [some (.ref 1), some (.int v1), o2, some (.int v3), some (.int v4), some (.int v5)], [.int v5, .ref 4, .ref 1], h)) (fun hs => ?_)
  obtain ⟨hob, ho⟩ := ho
  refine zg_ial hs zd_85 rfl rfl hob ?_
  refine zg_blk zd_85 4 hs (rfl : zb x zT0 zc_85 4 (40, [some (.ref 1), some (.int v1), o2, some (.int v3), some (.int v4), some (.int v5)], [.int (zr h 4 v5), .ref 1], h) = some (45, [some (.ref 1), some (.int v1), o2, some (.int v3), some (.int v4), some (.int v5)], [.int v3, .int (v1 - v4), .int (zr h 4 v5), .ref 1], h)) (fun hs => ?_)
  have hob := ho
  refine zg_call hs zd_85 rfl rfl rfl rfl (as := [.ref 1, .int (zr h 4 v5), .int (v1 - v4), .int v3]) (rest := []) (en := [some (.ref 1), some (.int (zr h 4 v5)), some (.int (v1 - v4)), some (.int v3), none, none]) rfl rfl rfl rfl rfl ?_
  refine f_Swell_drifted_t (zr h 4 v5) (v1 - v4) v3 h hs hob ?_
  show zg x (d + 3) 85 48 [some (.ref 1), some (.int v1), o2, some (.int v3), some (.int v4), some (.int v5)] [.int (f_Swell_drifted (zr h 4 v5) (v1 - v4) v3 h)] h Q
  exact zg_ret zd_85 rfl rfl hF
set_option maxRecDepth 100000 in
set_option maxHeartbeats 400000 in
theorem f_Swell_look_k55_t {x : zm_X} {d : Nat} (h : zm_H) (o0 : Option Value) (o1 : Option Value) (o2 : Option Value) (z3 : Int32) (o4 : Option Value) (o5 : Option Value) {Q : Option Value → zm_H → Prop} (hs : zSh zT0 h) (ho : f_Swell_look_k55_ok h) (hF : Q (some (.int (f_Swell_look_k55 h))) h) : zg x (d + 3) 85 55 [o0, o1, o2, some (.int z3), o4, o5] [] h Q := by
  unfold f_Swell_look_k55 at hF
  unfold f_Swell_look_k55_ok at ho
  refine zg_blk zd_85 1 hs (rfl : zb x zT0 zc_85 1 (55, [o0, o1, o2, some (.int z3), o4, o5], [], h) = some (57, [o0, o1, o2, some (.int z3), o4, o5], [.int 81], h)) (fun hs => ?_)
  exact zg_ret zd_85 rfl rfl hF
set_option maxRecDepth 100000 in
set_option maxHeartbeats 400000 in
theorem f_Swell_look_t {x : zm_X} {d : Nat} (p1 : Int32) (p2 : Int32) (p3 : Int32) (h : zm_H) {Q : Option Value → zm_H → Prop} (hs : zSh zT0 h) (ho : f_Swell_look_ok p1 p2 p3 h) (hF : Q (some (.int (f_Swell_look p1 p2 p3 h))) h) : zg x (d + 3) 85 0 [some (.ref 1), some (.int p1), some (.int p2), some (.int p3), none, none] [] h Q := by
  unfold f_Swell_look at hF
  unfold f_Swell_look_ok at ho
  refine zg_blk zd_85 2 hs (rfl : zb x zT0 zc_85 2 (0, [some (.ref 1), some (.int p1), some (.int p2), some (.int p3), none, none], [], h) = some (3, [some (.ref 1), some (.int p1), some (.int p2), some (.int p3), some (.int 0), none], [], h)) (fun hs => ?_)
  refine f_Swell_look_l3_t p1 p2 p3 h (fun r => f_Swell_look_a3_ok p1 p3 r h ∧ Q (some (.int (f_Swell_look_a3 p1 p3 r h))) h) ?_ ?_ zF 0 0 (none) hs ho.1 ⟨ho.2, hF⟩
  · intro v4_ v5_ hs hG
    have ho : (f_Swell_look_k32_ok p1 p3 v4_ v5_ h) := (hG.1).1 rfl
    have hF : Q (some (.int ((f_Swell_look_k32 p1 p3 v4_ v5_ h)))) h := hG.2
    exact f_Swell_look_k32_t p1 p3 v4_ v5_ h (some (.int p2)) hs ho hF
  · intro v4_ v5_ o4_ o5_ hs hG
    have ho : True := trivial
    have hF : Q (some (.int ((f_Swell_look_k55 h)))) h := hG.2
    exact f_Swell_look_k55_t h (some (.ref 1)) (some (.int p1)) (some (.int p2)) p3 (o4_) (o5_) hs trivial hF
theorem zd_126 : zm_cd 126 = zc_126 := by rfl
set_option maxRecDepth 100000 in
set_option maxHeartbeats 400000 in
theorem f_N_periodOf_t {x : zm_X} {d : Nat} (p0 : Int32) (h : zm_H) {Q : Option Value → zm_H → Prop} (hs : zSh zT0 h) (ho : f_N_periodOf_ok p0 h) (hF : Q (some (.int (f_N_periodOf p0 h))) h) : zg x (d + 1) 126 0 [some (.int p0)] [] h Q := by
  unfold f_N_periodOf at hF
  unfold f_N_periodOf_ok at ho
  refine zg_blk zd_126 5 hs (rfl : zb x zT0 zc_126 5 (0, [some (.int p0)], [], h) = some (8, [some (.int p0)], [.int ((zm_rm p0 1000) / 10)], h)) (fun hs => ?_)
  exact zg_ret zd_126 rfl rfl hF
theorem zd_127 : zm_cd 127 = zc_127 := by rfl
set_option maxRecDepth 100000 in
set_option maxHeartbeats 400000 in
theorem f_N_wayOf_t {x : zm_X} {d : Nat} (p0 : Int32) (h : zm_H) {Q : Option Value → zm_H → Prop} (hs : zSh zT0 h) (ho : f_N_wayOf_ok p0 h) (hF : Q (some (.int (f_N_wayOf p0 h))) h) : zg x (d + 1) 127 0 [some (.int p0)] [] h Q := by
  unfold f_N_wayOf at hF
  unfold f_N_wayOf_ok at ho
  refine zg_blk zd_127 5 hs (rfl : zb x zT0 zc_127 5 (0, [some (.int p0)], [], h) = some (6, [some (.int p0)], [.int ((zm_rm p0 10) - 1)], h)) (fun hs => ?_)
  exact zg_ret zd_127 rfl rfl hF
set_option maxRecDepth 100000 in
set_option maxHeartbeats 400000 in
theorem f_N_known_t {x : zm_X} {d : Nat} (p1 : Int32) (p2 : Int32) (p3 : Int32) (h : zm_H) {Q : Option Value → zm_H → Prop} (hs : zSh zT0 h) (ho : f_N_known_ok p1 p2 p3 h) (hF : Q (some (.int (f_N_known p1 p2 p3 h))) h) : zg x (d + 4) 123 0 [some (.ref 0), some (.int p1), some (.int p2), some (.int p3), none] [] h Q := by
  unfold f_N_known at hF
  unfold f_N_known_ok at ho
  refine zg_blk zd_123 1 hs (rfl : zb x zT0 zc_123 1 (0, [some (.ref 0), some (.int p1), some (.int p2), some (.int p3), none], [], h) = some (1, [some (.ref 0), some (.int p1), some (.int p2), some (.int p3), none], [.int p1], h)) (fun hs => ?_)
  refine zg_call hs zd_123 rfl rfl rfl rfl (as := [.int p1]) (rest := []) (en := [some (.int p1)]) rfl rfl rfl rfl rfl ?_
  refine f_N_isSpell_t p1 h hs trivial ?_
  show zg x (d + 4) 123 4 [some (.ref 0), some (.int p1), some (.int p2), some (.int p3), none] [.int (if (¬ (p1 < 0) ∧ (¬ (480 ≤ p1))) then (1 : Int32) else 0)] h Q
  refine zg_b_eq zd_123 rfl (fun (hc : ¬ (¬ (p1 < 0) ∧ (¬ (480 ≤ p1)))) => ?_) (fun (hc : (¬ (p1 < 0) ∧ (¬ (480 ≤ p1)))) => ?_)
  · have ho := ho.2 hc
    rw [if_neg hc] at hF
    refine zg_blk zd_123 1 hs (rfl : zb x zT0 zc_123 1 (14, [some (.ref 0), some (.int p1), some (.int p2), some (.int p3), none], [], h) = some (16, [some (.ref 0), some (.int p1), some (.int p2), some (.int p3), none], [.int (-2147483648)], h)) (fun hs => ?_)
    exact zg_ret zd_123 rfl rfl hF
  · have ho := ho.1 hc
    rw [if_pos hc] at hF
    refine zg_blk zd_123 1 hs (rfl : zb x zT0 zc_123 1 (7, [some (.ref 0), some (.int p1), some (.int p2), some (.int p3), none], [], h) = some (8, [some (.ref 0), some (.int p1), some (.int p2), some (.int p3), none], [.int p2], h)) (fun hs => ?_)
    refine zg_call hs zd_123 rfl rfl rfl rfl (as := [.int p2]) (rest := []) (en := [some (.int p2)]) rfl rfl rfl rfl rfl ?_
    refine f_N_isSpell_t p2 h hs trivial ?_
    show zg x (d + 4) 123 11 [some (.ref 0), some (.int p1), some (.int p2), some (.int p3), none] [.int (if (¬ (p2 < 0) ∧ (¬ (480 ≤ p2))) then (1 : Int32) else 0)] h Q
    refine zg_b_ne zd_123 rfl (fun (hc : (¬ (p2 < 0) ∧ (¬ (480 ≤ p2)))) => ?_) (fun (hc : ¬ (¬ (p2 < 0) ∧ (¬ (480 ≤ p2)))) => ?_)
    · have ho := ho.1 hc
      rw [if_pos hc] at hF
      refine zg_blk zd_123 6 hs (rfl : zb x zT0 zc_123 6 (17, [some (.ref 0), some (.int p1), some (.int p2), some (.int p3), none], [], h) = some (27, [some (.ref 0), some (.int p1), some (.int p2), some (.int p3), none], [.int p2, .ref 1, .int p1, .ref 1], h)) (fun hs => ?_)
      obtain ⟨hob, ho⟩ := ho
      refine zg_call hs zd_123 rfl rfl rfl rfl (as := [.ref 1, .int p2]) (rest := [.int p1, .ref 1]) (en := [some (.ref 1), some (.int p2)]) rfl rfl rfl rfl rfl ?_
      refine f_Swell_readingsUpTo_t p2 h hs hob ?_
      show zg x (d + 4) 123 30 [some (.ref 0), some (.int p1), some (.int p2), some (.int p3), none] [.int (f_Swell_readingsUpTo p2 h), .int p1, .ref 1] h Q
      refine zg_blk zd_123 3 hs (rfl : zb x zT0 zc_123 3 (30, [some (.ref 0), some (.int p1), some (.int p2), some (.int p3), none], [.int (f_Swell_readingsUpTo p2 h), .int p1, .ref 1], h) = some (35, [some (.ref 0), some (.int p1), some (.int p2), some (.int p3), none], [.int p2, .ref 1, .int (f_Swell_readingsUpTo p2 h), .int p1, .ref 1], h)) (fun hs => ?_)
      obtain ⟨hob, ho⟩ := ho
      refine zg_call hs zd_123 rfl rfl rfl rfl (as := [.ref 1, .int p2]) (rest := [.int (f_Swell_readingsUpTo p2 h), .int p1, .ref 1]) (en := [some (.ref 1), some (.int p2)]) rfl rfl rfl rfl rfl ?_
      refine f_Swell_driftsUpTo_t p2 h hs hob ?_
      show zg x (d + 4) 123 38 [some (.ref 0), some (.int p1), some (.int p2), some (.int p3), none] [.int (f_Swell_driftsUpTo p2 h), .int (f_Swell_readingsUpTo p2 h), .int p1, .ref 1] h Q
      have hob := ho
      refine zg_call hs zd_123 rfl rfl rfl rfl (as := [.ref 1, .int p1, .int (f_Swell_readingsUpTo p2 h), .int (f_Swell_driftsUpTo p2 h)]) (rest := []) (en := [some (.ref 1), some (.int p1), some (.int (f_Swell_readingsUpTo p2 h)), some (.int (f_Swell_driftsUpTo p2 h)), none, none]) rfl rfl rfl rfl rfl ?_
      refine f_Swell_look_t p1 (f_Swell_readingsUpTo p2 h) (f_Swell_driftsUpTo p2 h) h hs hob ?_
      show zg x (d + 4) 123 41 [some (.ref 0), some (.int p1), some (.int p2), some (.int p3), none] [.int (f_Swell_look p1 (f_Swell_readingsUpTo p2 h) (f_Swell_driftsUpTo p2 h) h)] h Q
      refine zg_blk zd_123 2 hs (rfl : zb x zT0 zc_123 2 (41, [some (.ref 0), some (.int p1), some (.int p2), some (.int p3), none], [.int (f_Swell_look p1 (f_Swell_readingsUpTo p2 h) (f_Swell_driftsUpTo p2 h) h)], h) = some (44, [some (.ref 0), some (.int p1), some (.int p2), some (.int p3), some (.int (f_Swell_look p1 (f_Swell_readingsUpTo p2 h) (f_Swell_driftsUpTo p2 h) h))], [.int p3], h)) (fun hs => ?_)
      by_cases hc0 : p3 = 0
      · skip
        rw [if_pos hc0] at hF
        refine zg_tsw zd_123 rfl (tg := 72) (by rw [hc0]; rfl) ?_
        refine zg_blk zd_123 1 hs (rfl : zb x zT0 zc_123 1 (72, [some (.ref 0), some (.int p1), some (.int p2), some (.int p3), some (.int (f_Swell_look p1 (f_Swell_readingsUpTo p2 h) (f_Swell_driftsUpTo p2 h) h))], [], h) = some (74, [some (.ref 0), some (.int p1), some (.int p2), some (.int p3), some (.int (f_Swell_look p1 (f_Swell_readingsUpTo p2 h) (f_Swell_driftsUpTo p2 h) h))], [.int (f_Swell_look p1 (f_Swell_readingsUpTo p2 h) (f_Swell_driftsUpTo p2 h) h)], h)) (fun hs => ?_)
        refine zg_call hs zd_123 rfl rfl rfl rfl (as := [.int (f_Swell_look p1 (f_Swell_readingsUpTo p2 h) (f_Swell_driftsUpTo p2 h) h)]) (rest := []) (en := [some (.int (f_Swell_look p1 (f_Swell_readingsUpTo p2 h) (f_Swell_driftsUpTo p2 h) h))]) rfl rfl rfl rfl rfl ?_
        refine f_N_heightOf_t (f_Swell_look p1 (f_Swell_readingsUpTo p2 h) (f_Swell_driftsUpTo p2 h) h) h hs trivial ?_
        show zg x (d + 4) 123 77 [some (.ref 0), some (.int p1), some (.int p2), some (.int p3), some (.int (f_Swell_look p1 (f_Swell_readingsUpTo p2 h) (f_Swell_driftsUpTo p2 h) h))] [.int ((f_Swell_look p1 (f_Swell_readingsUpTo p2 h) (f_Swell_driftsUpTo p2 h) h) / 1000)] h Q
        exact zg_ret zd_123 rfl rfl hF
      rw [if_neg hc0] at hF
      by_cases hc1 : p3 = 1
      · skip
        rw [if_pos hc1] at hF
        refine zg_tsw zd_123 rfl (tg := 78) (by rw [hc1]; rfl) ?_
        refine zg_blk zd_123 1 hs (rfl : zb x zT0 zc_123 1 (78, [some (.ref 0), some (.int p1), some (.int p2), some (.int p3), some (.int (f_Swell_look p1 (f_Swell_readingsUpTo p2 h) (f_Swell_driftsUpTo p2 h) h))], [], h) = some (80, [some (.ref 0), some (.int p1), some (.int p2), some (.int p3), some (.int (f_Swell_look p1 (f_Swell_readingsUpTo p2 h) (f_Swell_driftsUpTo p2 h) h))], [.int (f_Swell_look p1 (f_Swell_readingsUpTo p2 h) (f_Swell_driftsUpTo p2 h) h)], h)) (fun hs => ?_)
        refine zg_call hs zd_123 rfl rfl rfl rfl (as := [.int (f_Swell_look p1 (f_Swell_readingsUpTo p2 h) (f_Swell_driftsUpTo p2 h) h)]) (rest := []) (en := [some (.int (f_Swell_look p1 (f_Swell_readingsUpTo p2 h) (f_Swell_driftsUpTo p2 h) h))]) rfl rfl rfl rfl rfl ?_
        refine f_N_periodOf_t (f_Swell_look p1 (f_Swell_readingsUpTo p2 h) (f_Swell_driftsUpTo p2 h) h) h hs trivial ?_
        show zg x (d + 4) 123 83 [some (.ref 0), some (.int p1), some (.int p2), some (.int p3), some (.int (f_Swell_look p1 (f_Swell_readingsUpTo p2 h) (f_Swell_driftsUpTo p2 h) h))] [.int ((zm_rm (f_Swell_look p1 (f_Swell_readingsUpTo p2 h) (f_Swell_driftsUpTo p2 h) h) 1000) / 10)] h Q
        exact zg_ret zd_123 rfl rfl hF
      rw [if_neg hc1] at hF
      by_cases hc2 : p3 = 2
      · skip
        rw [if_pos hc2] at hF
        refine zg_tsw zd_123 rfl (tg := 84) (by rw [hc2]; rfl) ?_
        refine zg_blk zd_123 1 hs (rfl : zb x zT0 zc_123 1 (84, [some (.ref 0), some (.int p1), some (.int p2), some (.int p3), some (.int (f_Swell_look p1 (f_Swell_readingsUpTo p2 h) (f_Swell_driftsUpTo p2 h) h))], [], h) = some (86, [some (.ref 0), some (.int p1), some (.int p2), some (.int p3), some (.int (f_Swell_look p1 (f_Swell_readingsUpTo p2 h) (f_Swell_driftsUpTo p2 h) h))], [.int (f_Swell_look p1 (f_Swell_readingsUpTo p2 h) (f_Swell_driftsUpTo p2 h) h)], h)) (fun hs => ?_)
        refine zg_call hs zd_123 rfl rfl rfl rfl (as := [.int (f_Swell_look p1 (f_Swell_readingsUpTo p2 h) (f_Swell_driftsUpTo p2 h) h)]) (rest := []) (en := [some (.int (f_Swell_look p1 (f_Swell_readingsUpTo p2 h) (f_Swell_driftsUpTo p2 h) h))]) rfl rfl rfl rfl rfl ?_
        refine f_N_wayOf_t (f_Swell_look p1 (f_Swell_readingsUpTo p2 h) (f_Swell_driftsUpTo p2 h) h) h hs trivial ?_
        show zg x (d + 4) 123 89 [some (.ref 0), some (.int p1), some (.int p2), some (.int p3), some (.int (f_Swell_look p1 (f_Swell_readingsUpTo p2 h) (f_Swell_driftsUpTo p2 h) h))] [.int ((zm_rm (f_Swell_look p1 (f_Swell_readingsUpTo p2 h) (f_Swell_driftsUpTo p2 h) h) 10) - 1)] h Q
        exact zg_ret zd_123 rfl rfl hF
      rw [if_neg hc2] at hF
      refine zg_tsw zd_123 rfl (tg := 90) (if_pos (zsw_out (lo := 0) (hi := 2) (by decide) (by decide) (fun v h1 h2 => by
          have : v = 0 ∨ v = 1 ∨ v = 2 := by omega
          rcases this with rfl | rfl | rfl <;> first | exact hc0 | exact hc1 | exact hc2))) ?_
      refine zg_blk zd_123 1 hs (rfl : zb x zT0 zc_123 1 (90, [some (.ref 0), some (.int p1), some (.int p2), some (.int p3), some (.int (f_Swell_look p1 (f_Swell_readingsUpTo p2 h) (f_Swell_driftsUpTo p2 h) h))], [], h) = some (92, [some (.ref 0), some (.int p1), some (.int p2), some (.int p3), some (.int (f_Swell_look p1 (f_Swell_readingsUpTo p2 h) (f_Swell_driftsUpTo p2 h) h))], [.int (-2147483648)], h)) (fun hs => ?_)
      exact zg_ret zd_123 rfl rfl hF
    · have ho := ho.2 hc
      rw [if_neg hc] at hF
      refine zg_blk zd_123 1 hs (rfl : zb x zT0 zc_123 1 (14, [some (.ref 0), some (.int p1), some (.int p2), some (.int p3), none], [], h) = some (16, [some (.ref 0), some (.int p1), some (.int p2), some (.int p3), none], [.int (-2147483648)], h)) (fun hs => ?_)
      exact zg_ret zd_123 rfl rfl hF
theorem zd_174 : zm_cd 174 = zc_174 := by rfl
theorem zd_175 : zm_cd 175 = zc_175 := by rfl
set_option maxRecDepth 100000 in
set_option maxHeartbeats 400000 in
theorem f_M_looks_l18_l38_k65_t {x : zm_X} {d : Nat} (v1 : Int32) (v2 : Int32) (v3 : Int32) (v4 : Int32) (h : zm_H) (o5 : Option Value) {Q : Option Value → zm_H → Prop} {FN : Nat × Int32 → Prop} (hs : zSh zT0 h) (ho : f_M_looks_l18_l38_k65_ok v1 v2 v3 v4 h) (hF : FN (f_M_looks_l18_l38_k65 v1 v2 v3 v4 h)) (hl0 : ∀ (v4 : Int32) (o5 : Option Value), zSh zT0 h → FN (0, v4) → zg x (d + 2) 175 38 [some (.ref 92), some (.int v1), some (.int v2), some (.int v3), some (.int v4), o5] [] h Q) (hl1 : ∀ (v4 : Int32) (o5 : Option Value), zSh zT0 h → FN (1, v4) → zg x (d + 2) 175 71 [some (.ref 92), some (.int v1), some (.int v2), some (.int v3), some (.int v4), o5] [] h Q) : zg x (d + 2) 175 65 [some (.ref 92), some (.int v1), some (.int v2), some (.int v3), some (.int v4), o5] [] h Q := by
  unfold f_M_looks_l18_l38_k65 at hF
  unfold f_M_looks_l18_l38_k65_ok at ho
  refine zg_blk zd_175 2 hs (rfl : zb x zT0 zc_175 2 (65, [some (.ref 92), some (.int v1), some (.int v2), some (.int v3), some (.int v4), o5], [], h) = some (38, [some (.ref 92), some (.int v1), some (.int v2), some (.int v3), some (.int (v4 + (-1))), o5], [], h)) (fun hs => ?_)
  exact hl0 (v4 + (-1)) (o5) hs hF
set_option maxRecDepth 100000 in
set_option maxHeartbeats 400000 in
theorem f_M_looks_l18_l38_b_t {x : zm_X} {d : Nat} (v1 : Int32) (v2 : Int32) (v3 : Int32) (v4 : Int32) (h : zm_H) (o5 : Option Value) {Q : Option Value → zm_H → Prop} {FN : Nat × Int32 → Prop} (hs : zSh zT0 h) (ho : f_M_looks_l18_l38_b_ok v1 v2 v3 v4 h) (hF : FN (f_M_looks_l18_l38_b v1 v2 v3 v4 h)) (hl0 : ∀ (v4 : Int32) (o5 : Option Value), zSh zT0 h → FN (0, v4) → zg x (d + 2) 175 38 [some (.ref 92), some (.int v1), some (.int v2), some (.int v3), some (.int v4), o5] [] h Q) (hl1 : ∀ (v4 : Int32) (o5 : Option Value), zSh zT0 h → FN (1, v4) → zg x (d + 2) 175 71 [some (.ref 92), some (.int v1), some (.int v2), some (.int v3), some (.int v4), o5] [] h Q) : zg x (d + 2) 175 38 [some (.ref 92), some (.int v1), some (.int v2), some (.int v3), some (.int v4), o5] [] h Q := by
  unfold f_M_looks_l18_l38_b at hF
  unfold f_M_looks_l18_l38_b_ok at ho
  refine zg_blk zd_175 1 hs (rfl : zb x zT0 zc_175 1 (38, [some (.ref 92), some (.int v1), some (.int v2), some (.int v3), some (.int v4), o5], [], h) = some (40, [some (.ref 92), some (.int v1), some (.int v2), some (.int v3), some (.int v4), o5], [.int v4], h)) (fun hs => ?_)
  refine zg_f_lt zd_175 rfl (fun (hc : (v4 < 0)) => ?_) (fun (hc : ¬ (v4 < 0)) => ?_)
  · have ho := ho.1 hc
    rw [if_pos hc] at hF
    exact hl1 v4 (o5) hs hF
  · have ho := ho.2 hc
    rw [if_neg hc] at hF
    refine zg_blk zd_175 3 hs (rfl : zb x zT0 zc_175 3 (43, [some (.ref 92), some (.int v1), some (.int v2), some (.int v3), some (.int v4), o5], [], h) = some (49, [some (.ref 92), some (.int v1), some (.int v2), some (.int v3), some (.int v4), o5], [.int v4, .ref 105], h)) (fun hs => ?_)
    obtain ⟨hob, ho⟩ := ho
    refine zg_ial hs zd_175 rfl rfl hob ?_
    refine zg_blk zd_175 1 hs (rfl : zb x zT0 zc_175 1 (50, [some (.ref 92), some (.int v1), some (.int v2), some (.int v3), some (.int v4), o5], [.int (zr h 105 v4)], h) = some (51, [some (.ref 92), some (.int v1), some (.int v2), some (.int v3), some (.int v4), o5], [.int v3, .int (zr h 105 v4)], h)) (fun hs => ?_)
    refine zg_i_ne zd_175 rfl (fun (hc : ¬ ((zr h 105 v4) = v3)) => ?_) (fun (hc : ((zr h 105 v4) = v3)) => ?_)
    · have ho := ho.2 hc
      rw [if_neg hc] at hF
      exact f_M_looks_l18_l38_k65_t v1 v2 v3 v4 h (o5) hs trivial hF hl0 hl1
    · have ho := ho.1 hc
      rw [if_pos hc] at hF
      refine zg_blk zd_175 3 hs (rfl : zb x zT0 zc_175 3 (54, [some (.ref 92), some (.int v1), some (.int v2), some (.int v3), some (.int v4), o5], [], h) = some (60, [some (.ref 92), some (.int v1), some (.int v2), some (.int v3), some (.int v4), o5], [.int v4, .ref 107], h)) (fun hs => ?_)
      have hob := ho
      refine zg_ial hs zd_175 rfl rfl hob ?_
      refine zg_blk zd_175 1 hs (rfl : zb x zT0 zc_175 1 (61, [some (.ref 92), some (.int v1), some (.int v2), some (.int v3), some (.int v4), o5], [.int (zr h 107 v4)], h) = some (62, [some (.ref 92), some (.int v1), some (.int v2), some (.int v3), some (.int v4), o5], [.int v2, .int (zr h 107 v4)], h)) (fun hs => ?_)
      refine zg_i_le zd_175 rfl (fun (hc : ((zr h 107 v4) ≤ v2)) => ?_) (fun (hc : ¬ ((zr h 107 v4) ≤ v2)) => ?_)
      · skip
        rw [if_pos hc] at hF
        exact hl1 v4 (o5) hs hF
      · skip
        rw [if_neg hc] at hF
        exact f_M_looks_l18_l38_k65_t v1 v2 v3 v4 h (o5) hs trivial hF hl0 hl1
theorem f_M_looks_l18_l38_t {x : zm_X} {d : Nat} (v1 : Int32) (v2 : Int32) (v3 : Int32) (h : zm_H) {Q : Option Value → zm_H → Prop} (G : Nat × Int32 → Prop) (hx1 : ∀ (v4 : Int32) (o5 : Option Value), zSh zT0 h → G (1, v4) → zg x (d + 2) 175 71 [some (.ref 92), some (.int v1), some (.int v2), some (.int v3), some (.int v4), o5] [] h Q) : ∀ (n : Nat) (v4 : Int32) (o5 : Option Value), zSh zT0 h → f_M_looks_l18_l38_ok v1 v2 v3 h n v4 → G (f_M_looks_l18_l38 v1 v2 v3 h n v4) → zg x (d + 2) 175 38 [some (.ref 92), some (.int v1), some (.int v2), some (.int v3), some (.int v4), o5] [] h Q := by
  intro n
  induction n with
  | zero => intro v4 o5 hs ho hG; exact ho.elim
  | succ n ih =>
    intro v4 o5 hs ho hG
    refine f_M_looks_l18_l38_b_t (FN := fun r => (r.1 = 0 → f_M_looks_l18_l38_ok v1 v2 v3 h n r.2) ∧ G (if r.1 = 0 then f_M_looks_l18_l38 v1 v2 v3 h n r.2 else r)) v1 v2 v3 v4 h o5 hs ho.1 ⟨ho.2, hG⟩ ?_ ?_
    · intro v4 o5 hs hF
      exact ih v4 o5 hs (hF.1 rfl) hF.2
    · intro v4 o5 hs hF
      exact hx1 v4 o5 hs hF.2

set_option maxRecDepth 100000 in
set_option maxHeartbeats 400000 in
theorem f_M_looks_l18_k71_t {x : zm_X} {d : Nat} (v1 : Int32) (v2 : Int32) (v3 : Int32) (v4 : Int32) (h : zm_H) (o5 : Option Value) {Q : Option Value → zm_H → Prop} {FN : Nat × Int32 × Int32 → Prop} (hs : zSh zT0 h) (ho : f_M_looks_l18_k71_ok v1 v2 v3 v4 h) (hF : FN (f_M_looks_l18_k71 v1 v2 v3 v4 h)) (hl0 : ∀ (v3 : Int32) (v4 : Int32) (o4 : Option Value) (o5 : Option Value), zSh zT0 h → FN (0, v3, v4) → zg x (d + 2) 175 18 [some (.ref 92), some (.int v1), some (.int v2), some (.int v3), o4, o5] [] h Q) (hl1 : ∀ (v3 : Int32) (v4 : Int32) (o5 : Option Value), zSh zT0 h → FN (1, v3, v4) → zg x (d + 2) 175 79 [some (.ref 92), some (.int v1), some (.int v2), some (.int v3), some (.int v4), o5] [] h Q) (hl2 : ∀ (v3 : Int32) (v4 : Int32) (o3 : Option Value) (o4 : Option Value) (o5 : Option Value), zSh zT0 h → FN (2, v3, v4) → zg x (d + 2) 175 237 [some (.ref 92), some (.int v1), some (.int v2), o3, o4, o5] [] h Q) : zg x (d + 2) 175 71 [some (.ref 92), some (.int v1), some (.int v2), some (.int v3), some (.int v4), o5] [] h Q := by
  unfold f_M_looks_l18_k71 at hF
  unfold f_M_looks_l18_k71_ok at ho
  refine zg_blk zd_175 1 hs (rfl : zb x zT0 zc_175 1 (71, [some (.ref 92), some (.int v1), some (.int v2), some (.int v3), some (.int v4), o5], [], h) = some (73, [some (.ref 92), some (.int v1), some (.int v2), some (.int v3), some (.int v4), o5], [.int v4], h)) (fun hs => ?_)
  refine zg_f_ge zd_175 rfl (fun (hc : (0 ≤ v4)) => ?_) (fun (hc : ¬ (0 ≤ v4)) => ?_)
  · skip
    rw [if_pos hc] at hF
    exact hl1 v3 v4 (o5) hs hF
  · skip
    rw [if_neg hc] at hF
    refine zg_blk zd_175 3 hs (rfl : zb x zT0 zc_175 3 (76, [some (.ref 92), some (.int v1), some (.int v2), some (.int v3), some (.int v4), o5], [], h) = some (18, [some (.ref 92), some (.int v1), some (.int v2), some (.int (v3 + (-1))), some (.int v4), o5], [], h)) (fun hs => ?_)
    exact hl0 (v3 + (-1)) v4 (some (.int v4)) (o5) hs hF
set_option maxRecDepth 100000 in
set_option maxHeartbeats 400000 in
theorem f_M_looks_l18_b_t {x : zm_X} {d : Nat} (v1 : Int32) (v2 : Int32) (v3 : Int32) (v4 : Int32) (h : zm_H) (o4 : Option Value) (o5 : Option Value) {Q : Option Value → zm_H → Prop} {FN : Nat × Int32 × Int32 → Prop} (hs : zSh zT0 h) (ho : f_M_looks_l18_b_ok v1 v2 v3 v4 h) (hF : FN (f_M_looks_l18_b v1 v2 v3 v4 h)) (hl0 : ∀ (v3 : Int32) (v4 : Int32) (o4 : Option Value) (o5 : Option Value), zSh zT0 h → FN (0, v3, v4) → zg x (d + 2) 175 18 [some (.ref 92), some (.int v1), some (.int v2), some (.int v3), o4, o5] [] h Q) (hl1 : ∀ (v3 : Int32) (v4 : Int32) (o5 : Option Value), zSh zT0 h → FN (1, v3, v4) → zg x (d + 2) 175 79 [some (.ref 92), some (.int v1), some (.int v2), some (.int v3), some (.int v4), o5] [] h Q) (hl2 : ∀ (v3 : Int32) (v4 : Int32) (o3 : Option Value) (o4 : Option Value) (o5 : Option Value), zSh zT0 h → FN (2, v3, v4) → zg x (d + 2) 175 237 [some (.ref 92), some (.int v1), some (.int v2), o3, o4, o5] [] h Q) : zg x (d + 2) 175 18 [some (.ref 92), some (.int v1), some (.int v2), some (.int v3), o4, o5] [] h Q := by
  unfold f_M_looks_l18_b at hF
  unfold f_M_looks_l18_b_ok at ho
  refine zg_blk zd_175 1 hs (rfl : zb x zT0 zc_175 1 (18, [some (.ref 92), some (.int v1), some (.int v2), some (.int v3), o4, o5], [], h) = some (19, [some (.ref 92), some (.int v1), some (.int v2), some (.int v3), o4, o5], [.int v3], h)) (fun hs => ?_)
  refine zg_f_lt zd_175 rfl (fun (hc : (v3 < 0)) => ?_) (fun (hc : ¬ (v3 < 0)) => ?_)
  · have ho := ho.1 hc
    rw [if_pos hc] at hF
    exact hl2 v3 0 (some (.int v3)) (o4) (o5) hs hF
  · have ho := ho.2 hc
    rw [if_neg hc] at hF
    refine zg_blk zd_175 4 hs (rfl : zb x zT0 zc_175 4 (22, [some (.ref 92), some (.int v1), some (.int v2), some (.int v3), o4, o5], [], h) = some (27, [some (.ref 92), some (.int v1), some (.int v2), some (.int v3), o4, o5], [.int (v1 - 8), .int v3], h)) (fun hs => ?_)
    refine zg_i_lt zd_175 rfl (fun (hc : (v3 < (v1 - 8))) => ?_) (fun (hc : ¬ (v3 < (v1 - 8))) => ?_)
    · have ho := ho.1 hc
      rw [if_pos hc] at hF
      exact hl2 v3 0 (some (.int v3)) (o4) (o5) hs hF
    · have ho := ho.2 hc
      rw [if_neg hc] at hF
      refine zg_blk zd_175 5 hs (rfl : zb x zT0 zc_175 5 (30, [some (.ref 92), some (.int v1), some (.int v2), some (.int v3), o4, o5], [], h) = some (38, [some (.ref 92), some (.int v1), some (.int v2), some (.int v3), some (.int ((zf h 92 24) - 1)), o5], [], h)) (fun hs => ?_)
      refine f_M_looks_l18_l38_t v1 v2 v3 h (fun r => f_M_looks_l18_a38_ok v1 v2 v3 r h ∧ FN (f_M_looks_l18_a38 v1 v2 v3 r h)) ?_ zF ((zf h 92 24) - 1) (o5) hs ho.1 ⟨ho.2, hF⟩
      · intro v4_ o5_ hs hG
        have ho : True := trivial
        have hF : FN ((f_M_looks_l18_k71 v1 v2 v3 v4_ h)) := hG.2
        exact f_M_looks_l18_k71_t v1 v2 v3 v4_ h (o5_) hs trivial hF hl0 hl1 hl2
theorem f_M_looks_l18_t {x : zm_X} {d : Nat} (v1 : Int32) (v2 : Int32) (h : zm_H) {Q : Option Value → zm_H → Prop} (G : Nat × Int32 × Int32 → Prop) (hx1 : ∀ (v3 : Int32) (v4 : Int32) (o5 : Option Value), zSh zT0 h → G (1, v3, v4) → zg x (d + 2) 175 79 [some (.ref 92), some (.int v1), some (.int v2), some (.int v3), some (.int v4), o5] [] h Q) (hx2 : ∀ (v3 : Int32) (v4 : Int32) (o3 : Option Value) (o4 : Option Value) (o5 : Option Value), zSh zT0 h → G (2, v3, v4) → zg x (d + 2) 175 237 [some (.ref 92), some (.int v1), some (.int v2), o3, o4, o5] [] h Q) : ∀ (n : Nat) (v3 : Int32) (v4 : Int32) (o4 : Option Value) (o5 : Option Value), zSh zT0 h → f_M_looks_l18_ok v1 v2 h n (v3, v4) → G (f_M_looks_l18 v1 v2 h n (v3, v4)) → zg x (d + 2) 175 18 [some (.ref 92), some (.int v1), some (.int v2), some (.int v3), o4, o5] [] h Q := by
  intro n
  induction n with
  | zero => intro v3 v4 o4 o5 hs ho hG; exact ho.elim
  | succ n ih =>
    intro v3 v4 o4 o5 hs ho hG
    refine f_M_looks_l18_b_t (FN := fun r => (r.1 = 0 → f_M_looks_l18_ok v1 v2 h n r.2) ∧ G (if r.1 = 0 then f_M_looks_l18 v1 v2 h n r.2 else r)) v1 v2 v3 v4 h o4 o5 hs ho.1 ⟨ho.2, hG⟩ ?_ ?_ ?_
    · intro v3 v4 o4 o5 hs hF
      exact ih v3 v4 o4 o5 hs (hF.1 rfl) hF.2
    · intro v3 v4 o5 hs hF
      exact hx1 v3 v4 o5 hs hF.2
    · intro v3 v4 o3 o4 o5 hs hF
      exact hx2 v3 v4 o3 o4 o5 hs hF.2

set_option maxRecDepth 100000 in
set_option maxHeartbeats 400000 in
theorem f_M_looks_l97_b_t {x : zm_X} {d : Nat} (v2 : Int32) (v3 : Int32) (v4 : Int32) (v5 : Int32) (h : zm_H) (o1 : Option Value) {Q : Option Value → zm_H → Prop} {FN : Nat × Int32 × zm_H → Prop} (hs : zSh zT0 h) (ho : f_M_looks_l97_b_ok v2 v3 v4 v5 h) (hF : FN (f_M_looks_l97_b v2 v3 v4 v5 h)) (hl0 : ∀ (v5 : Int32) (h : zm_H) (o1 : Option Value), zSh zT0 h → FN (0, v5, h) → zg x (d + 2) 175 97 [some (.ref 92), o1, some (.int v2), some (.int v3), some (.int v4), some (.int v5)] [] h Q) (hl1 : ∀ (v5 : Int32) (h : zm_H) (o1 : Option Value) (o5 : Option Value), zSh zT0 h → FN (1, v5, h) → zg x (d + 2) 175 164 [some (.ref 92), o1, some (.int v2), some (.int v3), some (.int v4), o5] [] h Q) : zg x (d + 2) 175 97 [some (.ref 92), o1, some (.int v2), some (.int v3), some (.int v4), some (.int v5)] [] h Q := by
  unfold f_M_looks_l97_b at hF
  unfold f_M_looks_l97_b_ok at ho
  refine zg_blk zd_175 3 hs (rfl : zb x zT0 zc_175 3 (97, [some (.ref 92), o1, some (.int v2), some (.int v3), some (.int v4), some (.int v5)], [], h) = some (103, [some (.ref 92), o1, some (.int v2), some (.int v3), some (.int v4), some (.int v5)], [.int (zf h 92 28), .int v5], h)) (fun hs => ?_)
  refine zg_i_ge zd_175 rfl (fun (hc : ((zf h 92 28) ≤ v5)) => ?_) (fun (hc : ¬ ((zf h 92 28) ≤ v5)) => ?_)
  · have ho := ho.1 hc
    rw [if_pos hc] at hF
    exact hl1 v5 h (o1) (some (.int v5)) hs hF
  · have ho := ho.2 hc
    rw [if_neg hc] at hF
    refine zg_blk zd_175 6 hs (rfl : zb x zT0 zc_175 6 (106, [some (.ref 92), o1, some (.int v2), some (.int v3), some (.int v4), some (.int v5)], [], h) = some (117, [some (.ref 92), o1, some (.int v2), some (.int v3), some (.int v4), some (.int v5)], [.int v5, .ref 111, .int (zf h 92 79), .ref 92], h)) (fun hs => ?_)
    obtain ⟨hob, ho⟩ := ho
    refine zg_ial hs zd_175 rfl rfl hob ?_
    refine zg_blk zd_175 1 hs (rfl : zb x zT0 zc_175 1 (118, [some (.ref 92), o1, some (.int v2), some (.int v3), some (.int v4), some (.int v5)], [.int (zr h 111 v5), .int (zf h 92 79), .ref 92], h) = some (119, [some (.ref 92), o1, some (.int v2), some (.int v3), some (.int v4), some (.int v5)], [.int v2, .int (zr h 111 v5), .int (zf h 92 79), .ref 92], h)) (fun hs => ?_)
    have hom := ho
    have K6 : zSh zT0 h → zg x (d + 2) 175 154 [some (.ref 92), o1, some (.int v2), some (.int v3), some (.int v4), some (.int v5)] [.int (if (v2 < (zr h 111 v5)) then (0 : Int32) else (if (¬ (v3 < (zr h 108 v5)) ∧ (¬ ((zr h 109 v5) < v3))) then ((zr h 110 v5) : Int32) else 0)), .int (zf h 92 79), .ref 92] h Q := fun hs => by
      refine zg_blk zd_175 4 hs (rfl : zb x zT0 zc_175 4 (154, [some (.ref 92), o1, some (.int v2), some (.int v3), some (.int v4), some (.int v5)], [.int (if (v2 < (zr h 111 v5)) then (0 : Int32) else (if (¬ (v3 < (zr h 108 v5)) ∧ (¬ ((zr h 109 v5) < v3))) then ((zr h 110 v5) : Int32) else 0)), .int (zf h 92 79), .ref 92], h) = some (97, [some (.ref 92), o1, some (.int v2), some (.int v3), some (.int v4), some (.int (v5 + 1))], [], (zp h 92 79 ((zf h 92 79) + (if (v2 < (zr h 111 v5)) then (0 : Int32) else (if (¬ (v3 < (zr h 108 v5)) ∧ (¬ ((zr h 109 v5) < v3))) then ((zr h 110 v5) : Int32) else 0)))))) (fun hs => ?_)
      exact hl0 (v5 + 1) (zp h 92 79 ((zf h 92 79) + (if (v2 < (zr h 111 v5)) then (0 : Int32) else (if (¬ (v3 < (zr h 108 v5)) ∧ (¬ ((zr h 109 v5) < v3))) then ((zr h 110 v5) : Int32) else 0)))) (o1) hs hF
    refine zg_i_gt zd_175 rfl (fun (hc : (v2 < (zr h 111 v5))) => ?_) (fun (hc : ¬ (v2 < (zr h 111 v5))) => ?_)
    · have ho := hom.1 hc
      rw [show ((if (v2 < (zr h 111 v5)) then (0 : Int32) else (if (¬ (v3 < (zr h 108 v5)) ∧ (¬ ((zr h 109 v5) < v3))) then ((zr h 110 v5) : Int32) else 0)) : Int32) = 0 from if_pos hc] at K6
      refine zg_blk zd_175 1 hs (rfl : zb x zT0 zc_175 1 (153, [some (.ref 92), o1, some (.int v2), some (.int v3), some (.int v4), some (.int v5)], [.int (zf h 92 79), .ref 92], h) = some (154, [some (.ref 92), o1, some (.int v2), some (.int v3), some (.int v4), some (.int v5)], [.int 0, .int (zf h 92 79), .ref 92], h)) (fun hs => ?_)
      exact K6 hs
    · have ho := hom.2 hc
      rw [show ((if (v2 < (zr h 111 v5)) then (0 : Int32) else (if (¬ (v3 < (zr h 108 v5)) ∧ (¬ ((zr h 109 v5) < v3))) then ((zr h 110 v5) : Int32) else 0)) : Int32) = (if (¬ (v3 < (zr h 108 v5)) ∧ (¬ ((zr h 109 v5) < v3))) then ((zr h 110 v5) : Int32) else 0) from if_neg hc] at K6
      refine zg_blk zd_175 4 hs (rfl : zb x zT0 zc_175 4 (122, [some (.ref 92), o1, some (.int v2), some (.int v3), some (.int v4), some (.int v5)], [.int (zf h 92 79), .ref 92], h) = some (129, [some (.ref 92), o1, some (.int v2), some (.int v3), some (.int v4), some (.int v5)], [.int v5, .ref 108, .int v3, .int (zf h 92 79), .ref 92], h)) (fun hs => ?_)
      obtain ⟨hob, ho⟩ := ho
      refine zg_ial hs zd_175 rfl rfl hob ?_
      refine zg_blk zd_175 3 hs (rfl : zb x zT0 zc_175 3 (130, [some (.ref 92), o1, some (.int v2), some (.int v3), some (.int v4), some (.int v5)], [.int (zr h 108 v5), .int v3, .int (zf h 92 79), .ref 92], h) = some (136, [some (.ref 92), o1, some (.int v2), some (.int v3), some (.int v4), some (.int v5)], [.int v5, .ref 109, .int (zr h 108 v5), .int v3, .int (zf h 92 79), .ref 92], h)) (fun hs => ?_)
      obtain ⟨hob, ho⟩ := ho
      refine zg_ial hs zd_175 rfl rfl hob ?_
      refine zg_call hs zd_175 rfl rfl rfl rfl (as := [.int v3, .int (zr h 108 v5), .int (zr h 109 v5)]) (rest := [.int (zf h 92 79), .ref 92]) (en := [some (.int v3), some (.int (zr h 108 v5)), some (.int (zr h 109 v5))]) rfl rfl rfl rfl rfl ?_
      refine f_M_in_t v3 (zr h 108 v5) (zr h 109 v5) h hs trivial ?_
      show zg x (d + 2) 175 140 [some (.ref 92), o1, some (.int v2), some (.int v3), some (.int v4), some (.int v5)] [.int (if (¬ (v3 < (zr h 108 v5)) ∧ (¬ ((zr h 109 v5) < v3))) then (1 : Int32) else 0), .int (zf h 92 79), .ref 92] h Q
      refine zg_b_eq zd_175 rfl (fun (hc : ¬ (¬ (v3 < (zr h 108 v5)) ∧ (¬ ((zr h 109 v5) < v3)))) => ?_) (fun (hc : (¬ (v3 < (zr h 108 v5)) ∧ (¬ ((zr h 109 v5) < v3)))) => ?_)
      · have ho := ho.2 hc
        rw [show ((if (¬ (v3 < (zr h 108 v5)) ∧ (¬ ((zr h 109 v5) < v3))) then ((zr h 110 v5) : Int32) else 0) : Int32) = 0 from if_neg hc] at K6
        refine zg_blk zd_175 1 hs (rfl : zb x zT0 zc_175 1 (153, [some (.ref 92), o1, some (.int v2), some (.int v3), some (.int v4), some (.int v5)], [.int (zf h 92 79), .ref 92], h) = some (154, [some (.ref 92), o1, some (.int v2), some (.int v3), some (.int v4), some (.int v5)], [.int 0, .int (zf h 92 79), .ref 92], h)) (fun hs => ?_)
        exact K6 hs
      · have ho := ho.1 hc
        rw [show ((if (¬ (v3 < (zr h 108 v5)) ∧ (¬ ((zr h 109 v5) < v3))) then ((zr h 110 v5) : Int32) else 0) : Int32) = (zr h 110 v5) from if_pos hc] at K6
        refine zg_blk zd_175 3 hs (rfl : zb x zT0 zc_175 3 (143, [some (.ref 92), o1, some (.int v2), some (.int v3), some (.int v4), some (.int v5)], [.int (zf h 92 79), .ref 92], h) = some (149, [some (.ref 92), o1, some (.int v2), some (.int v3), some (.int v4), some (.int v5)], [.int v5, .ref 110, .int (zf h 92 79), .ref 92], h)) (fun hs => ?_)
        have hob := ho
        refine zg_ial hs zd_175 rfl rfl hob ?_
        refine zg_blk zd_175 1 hs (rfl : zb x zT0 zc_175 1 (150, [some (.ref 92), o1, some (.int v2), some (.int v3), some (.int v4), some (.int v5)], [.int (zr h 110 v5), .int (zf h 92 79), .ref 92], h) = some (154, [some (.ref 92), o1, some (.int v2), some (.int v3), some (.int v4), some (.int v5)], [.int (zr h 110 v5), .int (zf h 92 79), .ref 92], h)) (fun hs => ?_)
        exact K6 hs
theorem f_M_looks_l97_t {x : zm_X} {d : Nat} (v2 : Int32) (v3 : Int32) (v4 : Int32) {Q : Option Value → zm_H → Prop} (G : Nat × Int32 × zm_H → Prop) (hx1 : ∀ (v5 : Int32) (h : zm_H) (o1 : Option Value) (o5 : Option Value), zSh zT0 h → G (1, v5, h) → zg x (d + 2) 175 164 [some (.ref 92), o1, some (.int v2), some (.int v3), some (.int v4), o5] [] h Q) : ∀ (n : Nat) (v5 : Int32) (h : zm_H) (o1 : Option Value), zSh zT0 h → f_M_looks_l97_ok v2 v3 v4 n (v5, h) → G (f_M_looks_l97 v2 v3 v4 n (v5, h)) → zg x (d + 2) 175 97 [some (.ref 92), o1, some (.int v2), some (.int v3), some (.int v4), some (.int v5)] [] h Q := by
  intro n
  induction n with
  | zero => intro v5 h o1 hs ho hG; exact ho.elim
  | succ n ih =>
    intro v5 h o1 hs ho hG
    refine f_M_looks_l97_b_t (FN := fun r => (r.1 = 0 → f_M_looks_l97_ok v2 v3 v4 n r.2) ∧ G (if r.1 = 0 then f_M_looks_l97 v2 v3 v4 n r.2 else r)) v2 v3 v4 v5 h o1 hs ho.1 ⟨ho.2, hG⟩ ?_ ?_
    · intro v5 h o1 hs hF
      exact ih v5 h o1 hs (hF.1 rfl) hF.2
    · intro v5 h o1 o5 hs hF
      exact hx1 v5 h o1 o5 hs hF.2

set_option maxRecDepth 100000 in
set_option maxHeartbeats 400000 in
theorem f_M_looks_k164_t {x : zm_X} {d : Nat} (v4 : Int32) (h : zm_H) (o1 : Option Value) (z2 : Int32) (o3 : Option Value) (o5 : Option Value) {Q : Option Value → zm_H → Prop} (hs : zSh zT0 h) (ho : f_M_looks_k164_ok v4 h) (hF : (zSh zT0 (f_M_looks_k164 v4 h) → Q none (f_M_looks_k164 v4 h))) : zg x (d + 2) 175 164 [some (.ref 92), o1, some (.int z2), o3, some (.int v4), o5] [] h Q := by
  unfold f_M_looks_k164 at hF
  unfold f_M_looks_k164_ok at ho
  refine zg_blk zd_175 3 hs (rfl : zb x zT0 zc_175 3 (164, [some (.ref 92), o1, some (.int z2), o3, some (.int v4), o5], [], h) = some (169, [some (.ref 92), o1, some (.int z2), o3, some (.int v4), o5], [.int (zf h 92 79), .ref 92], h)) (fun hs => ?_)
  have K7 : zSh zT0 h → zg x (d + 2) 175 194 [some (.ref 92), o1, some (.int z2), o3, some (.int v4), o5] [.int (if (0 ≤ (zf h 92 79)) then ((if ((zf h 92 79) ≤ 120) then ((zf h 92 79) : Int32) else 120) : Int32) else 0), .ref 92] h Q := fun hs => by
    refine zg_blk zd_175 5 hs (rfl : zb x zT0 zc_175 5 (194, [some (.ref 92), o1, some (.int z2), o3, some (.int v4), o5], [.int (if (0 ≤ (zf h 92 79)) then ((if ((zf h 92 79) ≤ 120) then ((zf h 92 79) : Int32) else 120) : Int32) else 0), .ref 92], h) = some (204, [some (.ref 92), o1, some (.int z2), o3, some (.int v4), o5], [.int v4, .ref 106, .ref 92], (zp h 92 79 (if (0 ≤ (zf h 92 79)) then ((if ((zf h 92 79) ≤ 120) then ((zf h 92 79) : Int32) else 120) : Int32) else 0)))) (fun hs => ?_)
    obtain ⟨hob, ho⟩ := ho
    refine zg_ial hs zd_175 rfl rfl hob ?_
    refine zg_blk zd_175 9 hs (rfl : zb x zT0 zc_175 9 (205, [some (.ref 92), o1, some (.int z2), o3, some (.int v4), o5], [.int (zr h 106 v4), .ref 92], (zp h 92 79 (if (0 ≤ (zf h 92 79)) then ((if ((zf h 92 79) ≤ 120) then ((zf h 92 79) : Int32) else 120) : Int32) else 0))) = some (221, [some (.ref 92), o1, some (.int z2), o3, some (.int v4), o5], [.int v4, .ref 106, .ref 92], (zp (zp h 92 79 (if (0 ≤ (zf h 92 79)) then ((if ((zf h 92 79) ≤ 120) then ((zf h 92 79) : Int32) else 120) : Int32) else 0)) 92 80 (zm_rm ((zr h 106 v4) / 10) 100)))) (fun hs => ?_)
    have hob := ho
    refine zg_ial hs zd_175 rfl rfl hob ?_
    refine zg_blk zd_175 5 hs (rfl : zb x zT0 zc_175 5 (222, [some (.ref 92), o1, some (.int z2), o3, some (.int v4), o5], [.int (zr h 106 v4), .ref 92], (zp (zp h 92 79 (if (0 ≤ (zf h 92 79)) then ((if ((zf h 92 79) ≤ 120) then ((zf h 92 79) : Int32) else 120) : Int32) else 0)) 92 80 (zm_rm ((zr h 106 v4) / 10) 100))) = some (230, [some (.ref 92), o1, some (.int z2), o3, some (.int v4), o5], [], (zp (zp (zp h 92 79 (if (0 ≤ (zf h 92 79)) then ((if ((zf h 92 79) ≤ 120) then ((zf h 92 79) : Int32) else 120) : Int32) else 0)) 92 80 (zm_rm ((zr h 106 v4) / 10) 100)) 92 81 ((zm_rm (zr h 106 v4) 10) - 1)))) (fun hs => ?_)
    exact zg_ret zd_175 rfl rfl (hF hs)
  refine zg_f_ge zd_175 rfl (fun (hc : (0 ≤ (zf h 92 79))) => ?_) (fun (hc : ¬ (0 ≤ (zf h 92 79))) => ?_)
  · skip
    rw [show ((if (0 ≤ (zf h 92 79)) then ((if ((zf h 92 79) ≤ 120) then ((zf h 92 79) : Int32) else 120) : Int32) else 0) : Int32) = (if ((zf h 92 79) ≤ 120) then ((zf h 92 79) : Int32) else 120) from if_pos hc] at K7
    refine zg_blk zd_175 3 hs (rfl : zb x zT0 zc_175 3 (176, [some (.ref 92), o1, some (.int z2), o3, some (.int v4), o5], [.ref 92], h) = some (182, [some (.ref 92), o1, some (.int z2), o3, some (.int v4), o5], [.int 120, .int (zf h 92 79), .ref 92], h)) (fun hs => ?_)
    refine zg_i_le zd_175 rfl (fun (hc : ((zf h 92 79) ≤ 120)) => ?_) (fun (hc : ¬ ((zf h 92 79) ≤ 120)) => ?_)
    · skip
      rw [show ((if ((zf h 92 79) ≤ 120) then ((zf h 92 79) : Int32) else 120) : Int32) = (zf h 92 79) from if_pos hc] at K7
      refine zg_blk zd_175 2 hs (rfl : zb x zT0 zc_175 2 (190, [some (.ref 92), o1, some (.int z2), o3, some (.int v4), o5], [.ref 92], h) = some (194, [some (.ref 92), o1, some (.int z2), o3, some (.int v4), o5], [.int (zf h 92 79), .ref 92], h)) (fun hs => ?_)
      exact K7 hs
    · skip
      rw [show ((if ((zf h 92 79) ≤ 120) then ((zf h 92 79) : Int32) else 120) : Int32) = 120 from if_neg hc] at K7
      refine zg_blk zd_175 2 hs (rfl : zb x zT0 zc_175 2 (185, [some (.ref 92), o1, some (.int z2), o3, some (.int v4), o5], [.ref 92], h) = some (194, [some (.ref 92), o1, some (.int z2), o3, some (.int v4), o5], [.int 120, .ref 92], h)) (fun hs => ?_)
      exact K7 hs
  · skip
    rw [show ((if (0 ≤ (zf h 92 79)) then ((if ((zf h 92 79) ≤ 120) then ((zf h 92 79) : Int32) else 120) : Int32) else 0) : Int32) = 0 from if_neg hc] at K7
    refine zg_blk zd_175 2 hs (rfl : zb x zT0 zc_175 2 (172, [some (.ref 92), o1, some (.int z2), o3, some (.int v4), o5], [.ref 92], h) = some (194, [some (.ref 92), o1, some (.int z2), o3, some (.int v4), o5], [.int 0, .ref 92], h)) (fun hs => ?_)
    exact K7 hs
set_option maxRecDepth 100000 in
set_option maxHeartbeats 400000 in
theorem f_M_looks_k79_t {x : zm_X} {d : Nat} (v2 : Int32) (v3 : Int32) (v4 : Int32) (h : zm_H) (o1 : Option Value) (o5 : Option Value) {Q : Option Value → zm_H → Prop} (hs : zSh zT0 h) (ho : f_M_looks_k79_ok v2 v3 v4 h) (hF : (zSh zT0 (f_M_looks_k79 v2 v3 v4 h) → Q none (f_M_looks_k79 v2 v3 v4 h))) : zg x (d + 2) 175 79 [some (.ref 92), o1, some (.int v2), some (.int v3), some (.int v4), o5] [] h Q := by
  unfold f_M_looks_k79 at hF
  unfold f_M_looks_k79_ok at ho
  refine zg_blk zd_175 4 hs (rfl : zb x zT0 zc_175 4 (79, [some (.ref 92), o1, some (.int v2), some (.int v3), some (.int v4), o5], [], h) = some (86, [some (.ref 92), o1, some (.int v2), some (.int v3), some (.int v4), o5], [.int v4, .ref 106, .ref 92], h)) (fun hs => ?_)
  obtain ⟨hob, ho⟩ := ho
  refine zg_ial hs zd_175 rfl rfl hob ?_
  refine zg_blk zd_175 5 hs (rfl : zb x zT0 zc_175 5 (87, [some (.ref 92), o1, some (.int v2), some (.int v3), some (.int v4), o5], [.int (zr h 106 v4), .ref 92], h) = some (97, [some (.ref 92), o1, some (.int v2), some (.int v3), some (.int v4), some (.int 0)], [], (zp h 92 79 ((zr h 106 v4) / 1000)))) (fun hs => ?_)
  refine f_M_looks_l97_t v2 v3 v4 (fun r => f_M_looks_a97_ok v4 r ∧ (zSh zT0 (f_M_looks_a97 v4 r) → Q none (f_M_looks_a97 v4 r))) ?_ zF 0 (zp h 92 79 ((zr h 106 v4) / 1000)) (o1) hs ho.1 ⟨ho.2, hF⟩
  · intro v5_ h_ o1_ o5_ hs hG
    have ho : (f_M_looks_k164_ok v4 h_) := hG.1
    have hF : (zSh zT0 ((f_M_looks_k164 v4 h_)) → Q none ((f_M_looks_k164 v4 h_))) := hG.2
    exact f_M_looks_k164_t v4 h_ (o1_) v2 (some (.int v3)) (o5_) hs ho hF
set_option maxRecDepth 100000 in
set_option maxHeartbeats 400000 in
theorem f_M_looks_k237_t {x : zm_X} {d : Nat} (h : zm_H) (o0 : Option Value) (o1 : Option Value) (z2 : Int32) (o3 : Option Value) (o4 : Option Value) (o5 : Option Value) {Q : Option Value → zm_H → Prop} (hs : zSh zT0 h) (ho : f_M_looks_k237_ok h) (hF : (zSh zT0 (f_M_looks_k237 h) → Q none (f_M_looks_k237 h))) : zg x (d + 2) 175 237 [o0, o1, some (.int z2), o3, o4, o5] [] h Q := by
  unfold f_M_looks_k237 at hF
  unfold f_M_looks_k237_ok at ho
  exact zg_ret zd_175 rfl rfl (hF hs)
set_option maxRecDepth 100000 in
set_option maxHeartbeats 400000 in
theorem f_M_looks_t {x : zm_X} {d : Nat} (p1 : Int32) (p2 : Int32) (h : zm_H) {Q : Option Value → zm_H → Prop} (hs : zSh zT0 h) (ho : f_M_looks_ok p1 p2 h) (hF : (zSh zT0 (f_M_looks p1 p2 h) → Q none (f_M_looks p1 p2 h))) : zg x (d + 2) 175 0 [some (.ref 92), some (.int p1), some (.int p2), none, none, none] [] h Q := by
  unfold f_M_looks at hF
  unfold f_M_looks_ok at ho
  refine zg_blk zd_175 11 hs (rfl : zb x zT0 zc_175 11 (0, [some (.ref 92), some (.int p1), some (.int p2), none, none, none], [], h) = some (18, [some (.ref 92), some (.int p1), some (.int p2), some (.int p1), none, none], [], (zp (zp (zp h 92 79 0) 92 80 8) 92 81 0))) (fun hs => ?_)
  refine f_M_looks_l18_t p1 p2 (zp (zp (zp h 92 79 0) 92 80 8) 92 81 0) (fun r => f_M_looks_a18_ok p2 r (zp (zp (zp h 92 79 0) 92 80 8) 92 81 0) ∧ (zSh zT0 (f_M_looks_a18 p2 r (zp (zp (zp h 92 79 0) 92 80 8) 92 81 0)) → Q none (f_M_looks_a18 p2 r (zp (zp (zp h 92 79 0) 92 80 8) 92 81 0)))) ?_ ?_ zF p1 0 (none) (none) hs ho.1 ⟨ho.2, hF⟩
  · intro v3_ v4_ o5_ hs hG
    have ho : (f_M_looks_k79_ok p2 v3_ v4_ (zp (zp (zp h 92 79 0) 92 80 8) 92 81 0)) := (hG.1).1 rfl
    have hF : (zSh zT0 ((f_M_looks_k79 p2 v3_ v4_ (zp (zp (zp h 92 79 0) 92 80 8) 92 81 0))) → Q none ((f_M_looks_k79 p2 v3_ v4_ (zp (zp (zp h 92 79 0) 92 80 8) 92 81 0)))) := hG.2
    exact f_M_looks_k79_t p2 v3_ v4_ (zp (zp (zp h 92 79 0) 92 80 8) 92 81 0) (some (.int p1)) (o5_) hs ho hF
  · intro v3_ v4_ o3_ o4_ o5_ hs hG
    have ho : True := trivial
    have hF : (zSh zT0 ((f_M_looks_k237 (zp (zp (zp h 92 79 0) 92 80 8) 92 81 0))) → Q none ((f_M_looks_k237 (zp (zp (zp h 92 79 0) 92 80 8) 92 81 0)))) := hG.2
    exact f_M_looks_k237_t (zp (zp (zp h 92 79 0) 92 80 8) 92 81 0) (some (.ref 92)) (some (.int p1)) p2 (o3_) (o4_) (o5_) hs trivial hF
set_option maxRecDepth 100000 in
set_option maxHeartbeats 400000 in
theorem f_M_known_k33_t {x : zm_X} {d : Nat} (v3 : Int32) (h : zm_H) (o1 : Option Value) (o2 : Option Value) {Q : Option Value → zm_H → Prop} (hs : zSh zT0 h) (ho : f_M_known_k33_ok v3 h) (hF : (zSh zT0 (f_M_known_k33 v3 h).2 → Q (some (.int (f_M_known_k33 v3 h).1)) (f_M_known_k33 v3 h).2)) : zg x (d + 3) 174 33 [some (.ref 92), o1, o2, some (.int v3)] [] h Q := by
  unfold f_M_known_k33 at hF
  unfold f_M_known_k33_ok at ho
  refine zg_blk zd_174 1 hs (rfl : zb x zT0 zc_174 1 (33, [some (.ref 92), o1, o2, some (.int v3)], [], h) = some (34, [some (.ref 92), o1, o2, some (.int v3)], [.int v3], h)) (fun hs => ?_)
  have K8 : zSh zT0 h → zg x (d + 3) 174 60 [some (.ref 92), o1, o2, some (.int v3)] [.int (if (v3 = 0) then ((zf h 92 79) : Int32) else (if (v3 = 1) then ((zf h 92 80) : Int32) else (zf h 92 81)))] h Q := fun hs => by
    exact zg_ret zd_174 rfl rfl (hF hs)
  refine zg_f_ne zd_174 rfl (fun (hc : ¬ (v3 = 0)) => ?_) (fun (hc : (v3 = 0)) => ?_)
  · skip
    rw [show ((if (v3 = 0) then ((zf h 92 79) : Int32) else (if (v3 = 1) then ((zf h 92 80) : Int32) else (zf h 92 81))) : Int32) = (if (v3 = 1) then ((zf h 92 80) : Int32) else (zf h 92 81)) from if_neg hc] at K8
    refine zg_blk zd_174 2 hs (rfl : zb x zT0 zc_174 2 (44, [some (.ref 92), o1, o2, some (.int v3)], [], h) = some (46, [some (.ref 92), o1, o2, some (.int v3)], [.int 1, .int v3], h)) (fun hs => ?_)
    refine zg_i_ne zd_174 rfl (fun (hc : ¬ (v3 = 1)) => ?_) (fun (hc : (v3 = 1)) => ?_)
    · skip
      rw [show ((if (v3 = 1) then ((zf h 92 80) : Int32) else (zf h 92 81)) : Int32) = (zf h 92 81) from if_neg hc] at K8
      refine zg_blk zd_174 2 hs (rfl : zb x zT0 zc_174 2 (56, [some (.ref 92), o1, o2, some (.int v3)], [], h) = some (60, [some (.ref 92), o1, o2, some (.int v3)], [.int (zf h 92 81)], h)) (fun hs => ?_)
      exact K8 hs
    · skip
      rw [show ((if (v3 = 1) then ((zf h 92 80) : Int32) else (zf h 92 81)) : Int32) = (zf h 92 80) from if_pos hc] at K8
      refine zg_blk zd_174 3 hs (rfl : zb x zT0 zc_174 3 (49, [some (.ref 92), o1, o2, some (.int v3)], [], h) = some (60, [some (.ref 92), o1, o2, some (.int v3)], [.int (zf h 92 80)], h)) (fun hs => ?_)
      exact K8 hs
  · skip
    rw [show ((if (v3 = 0) then ((zf h 92 79) : Int32) else (if (v3 = 1) then ((zf h 92 80) : Int32) else (zf h 92 81))) : Int32) = (zf h 92 79) from if_pos hc] at K8
    refine zg_blk zd_174 3 hs (rfl : zb x zT0 zc_174 3 (37, [some (.ref 92), o1, o2, some (.int v3)], [], h) = some (60, [some (.ref 92), o1, o2, some (.int v3)], [.int (zf h 92 79)], h)) (fun hs => ?_)
    exact K8 hs
set_option maxRecDepth 100000 in
set_option maxHeartbeats 400000 in
theorem f_M_known_t {x : zm_X} {d : Nat} (p1 : Int32) (p2 : Int32) (p3 : Int32) (h : zm_H) {Q : Option Value → zm_H → Prop} (hs : zSh zT0 h) (ho : f_M_known_ok p1 p2 p3 h) (hF : (zSh zT0 (f_M_known p1 p2 p3 h).2 → Q (some (.int (f_M_known p1 p2 p3 h).1)) (f_M_known p1 p2 p3 h).2)) : zg x (d + 3) 174 0 [some (.ref 92), some (.int p1), some (.int p2), some (.int p3)] [] h Q := by
  unfold f_M_known at hF
  unfold f_M_known_ok at ho
  refine zg_blk zd_174 1 hs (rfl : zb x zT0 zc_174 1 (0, [some (.ref 92), some (.int p1), some (.int p2), some (.int p3)], [], h) = some (1, [some (.ref 92), some (.int p1), some (.int p2), some (.int p3)], [.int p1], h)) (fun hs => ?_)
  refine zg_call hs zd_174 rfl rfl rfl rfl (as := [.int p1]) (rest := []) (en := [some (.int p1)]) rfl rfl rfl rfl rfl ?_
  refine f_M_isSpell_t p1 h hs trivial ?_
  show zg x (d + 3) 174 4 [some (.ref 92), some (.int p1), some (.int p2), some (.int p3)] [.int (if (¬ (p1 < 0) ∧ (¬ (479 < p1))) then (1 : Int32) else 0)] h Q
  refine zg_b_eq zd_174 rfl (fun (hc : ¬ (¬ (p1 < 0) ∧ (¬ (479 < p1)))) => ?_) (fun (hc : (¬ (p1 < 0) ∧ (¬ (479 < p1)))) => ?_)
  · have ho := ho.2 hc
    rw [if_neg hc] at hF
    refine zg_blk zd_174 1 hs (rfl : zb x zT0 zc_174 1 (23, [some (.ref 92), some (.int p1), some (.int p2), some (.int p3)], [], h) = some (26, [some (.ref 92), some (.int p1), some (.int p2), some (.int p3)], [.int (-2147483648)], h)) (fun hs => ?_)
    exact zg_ret zd_174 rfl rfl (hF hs)
  · have ho := ho.1 hc
    rw [if_pos hc] at hF
    refine zg_blk zd_174 1 hs (rfl : zb x zT0 zc_174 1 (7, [some (.ref 92), some (.int p1), some (.int p2), some (.int p3)], [], h) = some (8, [some (.ref 92), some (.int p1), some (.int p2), some (.int p3)], [.int p2], h)) (fun hs => ?_)
    refine zg_call hs zd_174 rfl rfl rfl rfl (as := [.int p2]) (rest := []) (en := [some (.int p2)]) rfl rfl rfl rfl rfl ?_
    refine f_M_isSpell_t p2 h hs trivial ?_
    show zg x (d + 3) 174 11 [some (.ref 92), some (.int p1), some (.int p2), some (.int p3)] [.int (if (¬ (p2 < 0) ∧ (¬ (479 < p2))) then (1 : Int32) else 0)] h Q
    refine zg_b_eq zd_174 rfl (fun (hc : ¬ (¬ (p2 < 0) ∧ (¬ (479 < p2)))) => ?_) (fun (hc : (¬ (p2 < 0) ∧ (¬ (479 < p2)))) => ?_)
    · have ho := ho.2 hc
      rw [if_neg hc] at hF
      refine zg_blk zd_174 1 hs (rfl : zb x zT0 zc_174 1 (23, [some (.ref 92), some (.int p1), some (.int p2), some (.int p3)], [], h) = some (26, [some (.ref 92), some (.int p1), some (.int p2), some (.int p3)], [.int (-2147483648)], h)) (fun hs => ?_)
      exact zg_ret zd_174 rfl rfl (hF hs)
    · have ho := ho.1 hc
      rw [if_pos hc] at hF
      refine zg_blk zd_174 3 hs (rfl : zb x zT0 zc_174 3 (14, [some (.ref 92), some (.int p1), some (.int p2), some (.int p3)], [], h) = some (17, [some (.ref 92), some (.int p1), some (.int p2), some (.int p3)], [.int 2, .int 0, .int p3], h)) (fun hs => ?_)
      refine zg_call hs zd_174 rfl rfl rfl rfl (as := [.int p3, .int 0, .int 2]) (rest := []) (en := [some (.int p3), some (.int 0), some (.int 2)]) rfl rfl rfl rfl rfl ?_
      refine f_M_in_t p3 0 2 h hs trivial ?_
      show zg x (d + 3) 174 20 [some (.ref 92), some (.int p1), some (.int p2), some (.int p3)] [.int (if (¬ (p3 < 0) ∧ (¬ (2 < p3))) then (1 : Int32) else 0)] h Q
      refine zg_b_ne zd_174 rfl (fun (hc : (¬ (p3 < 0) ∧ (¬ (2 < p3)))) => ?_) (fun (hc : ¬ (¬ (p3 < 0) ∧ (¬ (2 < p3)))) => ?_)
      · have ho := ho.1 hc
        rw [if_pos hc] at hF
        refine zg_blk zd_174 3 hs (rfl : zb x zT0 zc_174 3 (27, [some (.ref 92), some (.int p1), some (.int p2), some (.int p3)], [], h) = some (30, [some (.ref 92), some (.int p1), some (.int p2), some (.int p3)], [.int p2, .int p1, .ref 92], h)) (fun hs => ?_)
        have hob := ho
        refine zg_call hs zd_174 rfl rfl rfl rfl (as := [.ref 92, .int p1, .int p2]) (rest := []) (en := [some (.ref 92), some (.int p1), some (.int p2), none, none, none]) rfl rfl rfl rfl rfl ?_
        refine f_M_looks_t p1 p2 h hs hob (fun hs => ?_)
        show zg x (d + 3) 174 33 [some (.ref 92), some (.int p1), some (.int p2), some (.int p3)] [] (f_M_looks p1 p2 h) Q
        exact f_M_known_k33_t p3 (f_M_looks p1 p2 h) (some (.int p1)) (some (.int p2)) hs trivial hF
      · have ho := ho.2 hc
        rw [if_neg hc] at hF
        refine zg_blk zd_174 1 hs (rfl : zb x zT0 zc_174 1 (23, [some (.ref 92), some (.int p1), some (.int p2), some (.int p3)], [], h) = some (26, [some (.ref 92), some (.int p1), some (.int p2), some (.int p3)], [.int (-2147483648)], h)) (fun hs => ?_)
        exact zg_ret zd_174 rfl rfl (hF hs)
theorem zd_128 : zm_cd 128 = zc_128 := by rfl
theorem zd_90 : zm_cd 90 = zc_90 := by rfl
set_option maxRecDepth 100000 in
set_option maxHeartbeats 400000 in
theorem f_Text_hasRoomFor_t {x : zm_X} {d : Nat} (p1 : Int32) (h : zm_H) {Q : Option Value → zm_H → Prop} (hs : zSh zT0 h) (ho : f_Text_hasRoomFor_ok p1 h) (hF : Q (some (.int (f_Text_hasRoomFor p1 h))) h) : zg x (d + 1) 90 0 [some (.ref 10), some (.int p1)] [] h Q := by
  unfold f_Text_hasRoomFor at hF
  unfold f_Text_hasRoomFor_ok at ho
  refine zg_blk zd_90 5 hs (rfl : zb x zT0 zc_90 5 (0, [some (.ref 10), some (.int p1)], [], h) = some (9, [some (.ref 10), some (.int p1)], [.int 400, .int ((zf h 10 1) + p1)], h)) (fun hs => ?_)
  have K9 : zSh zT0 h → zg x (d + 1) 90 17 [some (.ref 10), some (.int p1)] [.int (if (¬ (400 < ((zf h 10 1) + p1))) then (1 : Int32) else 0)] h Q := fun hs => by
    exact zg_rtz zd_90 rfl rfl zm_nb01 hF
  refine zg_i_gt zd_90 rfl (fun (hc : (400 < ((zf h 10 1) + p1))) => ?_) (fun (hc : ¬ (400 < ((zf h 10 1) + p1))) => ?_)
  · skip
    rw [show ((if (¬ (400 < ((zf h 10 1) + p1))) then (1 : Int32) else 0) : Int32) = 0 from zb_not_t hc] at K9
    refine zg_blk zd_90 1 hs (rfl : zb x zT0 zc_90 1 (16, [some (.ref 10), some (.int p1)], [], h) = some (17, [some (.ref 10), some (.int p1)], [.int 0], h)) (fun hs => ?_)
    exact K9 hs
  · skip
    rw [show ((if (¬ (400 < ((zf h 10 1) + p1))) then (1 : Int32) else 0) : Int32) = 1 from zb_not_f hc] at K9
    refine zg_blk zd_90 2 hs (rfl : zb x zT0 zc_90 2 (12, [some (.ref 10), some (.int p1)], [], h) = some (17, [some (.ref 10), some (.int p1)], [.int 1], h)) (fun hs => ?_)
    exact K9 hs
theorem zd_91 : zm_cd 91 = zc_91 := by rfl
set_option maxRecDepth 100000 in
set_option maxHeartbeats 400000 in
theorem f_Text_addNumber_l3_b_t {x : zm_X} {d : Nat} (v1 : Int32) (v2 : Int32) (h : zm_H) {Q : Option Value → zm_H → Prop} {FN : Nat × Int32 × zm_H → Prop} (hs : zSh zT0 h) (ho : f_Text_addNumber_l3_b_ok v1 v2 h) (hF : FN (f_Text_addNumber_l3_b v1 v2 h)) (hl0 : ∀ (v2 : Int32) (h : zm_H), zSh zT0 h → FN (0, v2, h) → zg x (d + 1) 91 3 [some (.ref 10), some (.int v1), some (.int v2)] [] h Q) (hl1 : ∀ (v2 : Int32) (h : zm_H) (o2 : Option Value), zSh zT0 h → FN (1, v2, h) → zg x (d + 1) 91 46 [some (.ref 10), some (.int v1), o2] [] h Q) : zg x (d + 1) 91 3 [some (.ref 10), some (.int v1), some (.int v2)] [] h Q := by
  unfold f_Text_addNumber_l3_b at hF
  unfold f_Text_addNumber_l3_b_ok at ho
  refine zg_blk zd_91 1 hs (rfl : zb x zT0 zc_91 1 (3, [some (.ref 10), some (.int v1), some (.int v2)], [], h) = some (4, [some (.ref 10), some (.int v1), some (.int v2)], [.int v2], h)) (fun hs => ?_)
  refine zg_f_lt zd_91 rfl (fun (hc : (v2 < 0)) => ?_) (fun (hc : ¬ (v2 < 0)) => ?_)
  · have ho := ho.1 hc
    rw [if_pos hc] at hF
    exact hl1 v2 h (some (.int v2)) hs hF
  · have ho := ho.2 hc
    rw [if_neg hc] at hF
    refine zg_blk zd_91 3 hs (rfl : zb x zT0 zc_91 3 (7, [some (.ref 10), some (.int v1), some (.int v2)], [], h) = some (14, [some (.ref 10), some (.int v1), some (.int v2)], [.int 400, .int (zf h 10 1)], h)) (fun hs => ?_)
    refine zg_i_ge zd_91 rfl (fun (hc : (400 ≤ (zf h 10 1))) => ?_) (fun (hc : ¬ (400 ≤ (zf h 10 1))) => ?_)
    · have ho := ho.1 hc
      rw [if_pos hc] at hF
      exact hl1 v2 h (some (.int v2)) hs hF
    · have ho := ho.2 hc
      rw [if_neg hc] at hF
      refine zg_blk zd_91 8 hs (rfl : zb x zT0 zc_91 8 (17, [some (.ref 10), some (.int v1), some (.int v2)], [], h) = some (29, [some (.ref 10), some (.int v1), some (.int v2)], [.int (v1 >>> (v2 &&& 31)).toInt8.toInt32, .int (zf h 10 1), .ref 11], h)) (fun hs => ?_)
      have hob := ho
      refine zg_bas hs zd_91 rfl rfl (by decide) hob (fun hs => ?_)
      refine zg_blk zd_91 8 hs (rfl : zb x zT0 zc_91 8 (30, [some (.ref 10), some (.int v1), some (.int v2)], [], (zs h 11 (zf h 10 1) (zm_nb 1 (v1 >>> (v2 &&& 31)).toInt8.toInt32))) = some (3, [some (.ref 10), some (.int v1), some (.int (v2 + (-8)))], [], (zp (zs h 11 (zf h 10 1) (zm_nb 1 (v1 >>> (v2 &&& 31)).toInt8.toInt32)) 10 1 ((zf h 10 1) + 1)))) (fun hs => ?_)
      exact hl0 (v2 + (-8)) (zp (zs h 11 (zf h 10 1) (zm_nb 1 (v1 >>> (v2 &&& 31)).toInt8.toInt32)) 10 1 ((zf h 10 1) + 1)) hs hF
theorem f_Text_addNumber_l3_t {x : zm_X} {d : Nat} (v1 : Int32) {Q : Option Value → zm_H → Prop} (G : Nat × Int32 × zm_H → Prop) (hx1 : ∀ (v2 : Int32) (h : zm_H) (o2 : Option Value), zSh zT0 h → G (1, v2, h) → zg x (d + 1) 91 46 [some (.ref 10), some (.int v1), o2] [] h Q) : ∀ (n : Nat) (v2 : Int32) (h : zm_H), zSh zT0 h → f_Text_addNumber_l3_ok v1 n (v2, h) → G (f_Text_addNumber_l3 v1 n (v2, h)) → zg x (d + 1) 91 3 [some (.ref 10), some (.int v1), some (.int v2)] [] h Q := by
  intro n
  induction n with
  | zero => intro v2 h hs ho hG; exact ho.elim
  | succ n ih =>
    intro v2 h hs ho hG
    refine f_Text_addNumber_l3_b_t (FN := fun r => (r.1 = 0 → f_Text_addNumber_l3_ok v1 n r.2) ∧ G (if r.1 = 0 then f_Text_addNumber_l3 v1 n r.2 else r)) v1 v2 h hs ho.1 ⟨ho.2, hG⟩ ?_ ?_
    · intro v2 h hs hF
      exact ih v2 h hs (hF.1 rfl) hF.2
    · intro v2 h o2 hs hF
      exact hx1 v2 h o2 hs hF.2

set_option maxRecDepth 100000 in
set_option maxHeartbeats 400000 in
theorem f_Text_addNumber_k46_t {x : zm_X} {d : Nat} (h : zm_H) (o0 : Option Value) (z1 : Int32) (o2 : Option Value) {Q : Option Value → zm_H → Prop} (hs : zSh zT0 h) (ho : f_Text_addNumber_k46_ok h) (hF : (zSh zT0 (f_Text_addNumber_k46 h) → Q none (f_Text_addNumber_k46 h))) : zg x (d + 1) 91 46 [o0, some (.int z1), o2] [] h Q := by
  unfold f_Text_addNumber_k46 at hF
  unfold f_Text_addNumber_k46_ok at ho
  exact zg_ret zd_91 rfl rfl (hF hs)
set_option maxRecDepth 100000 in
set_option maxHeartbeats 400000 in
theorem f_Text_addNumber_t {x : zm_X} {d : Nat} (p1 : Int32) (h : zm_H) {Q : Option Value → zm_H → Prop} (hs : zSh zT0 h) (ho : f_Text_addNumber_ok p1 h) (hF : (zSh zT0 (f_Text_addNumber p1 h) → Q none (f_Text_addNumber p1 h))) : zg x (d + 1) 91 0 [some (.ref 10), some (.int p1), none] [] h Q := by
  unfold f_Text_addNumber at hF
  unfold f_Text_addNumber_ok at ho
  refine zg_blk zd_91 2 hs (rfl : zb x zT0 zc_91 2 (0, [some (.ref 10), some (.int p1), none], [], h) = some (3, [some (.ref 10), some (.int p1), some (.int 24)], [], h)) (fun hs => ?_)
  refine f_Text_addNumber_l3_t p1 (fun r => f_Text_addNumber_a3_ok r ∧ (zSh zT0 (f_Text_addNumber_a3 r) → Q none (f_Text_addNumber_a3 r))) ?_ zF 24 h hs ho.1 ⟨ho.2, hF⟩
  · intro v2_ h_ o2_ hs hG
    have ho : True := trivial
    have hF : (zSh zT0 ((f_Text_addNumber_k46 h_)) → Q none ((f_Text_addNumber_k46 h_))) := hG.2
    exact f_Text_addNumber_k46_t h_ (some (.ref 10)) p1 (o2_) hs trivial hF
set_option maxRecDepth 100000 in
set_option maxHeartbeats 400000 in
theorem f_N_feed_k47_t {x : zm_X} {d : Nat} (v5 : Int32) (h : zm_H) (o1 : Option Value) (o2 : Option Value) (o3 : Option Value) (o4 : Option Value) {Q : Option Value → zm_H → Prop} (hs : zSh zT0 h) (ho : f_N_feed_k47_ok v5 h) (hF : (zSh zT0 (f_N_feed_k47 v5 h).2 → Q (some (.int (f_N_feed_k47 v5 h).1)) (f_N_feed_k47 v5 h).2)) : zg x (d + 2) 128 47 [some (.ref 0), o1, o2, o3, o4, some (.int v5)] [] h Q := by
  unfold f_N_feed_k47 at hF
  unfold f_N_feed_k47_ok at ho
  refine zg_blk zd_128 3 hs (rfl : zb x zT0 zc_128 3 (47, [some (.ref 0), o1, o2, o3, o4, some (.int v5)], [], h) = some (53, [some (.ref 0), o1, o2, o3, o4, some (.int v5)], [.int v5, .ref 10], h)) (fun hs => ?_)
  have hob := ho
  refine zg_call hs zd_128 rfl rfl rfl rfl (as := [.ref 10, .int v5]) (rest := []) (en := [some (.ref 10), some (.int v5), none]) rfl rfl rfl rfl rfl ?_
  refine f_Text_addNumber_t v5 h hs hob (fun hs => ?_)
  show zg x (d + 2) 128 56 [some (.ref 0), o1, o2, o3, o4, some (.int v5)] [] (f_Text_addNumber v5 h) Q
  refine zg_blk zd_128 3 hs (rfl : zb x zT0 zc_128 3 (56, [some (.ref 0), o1, o2, o3, o4, some (.int v5)], [], (f_Text_addNumber v5 h)) = some (63, [some (.ref 0), o1, o2, o3, o4, some (.int v5)], [.int (zf (f_Text_addNumber v5 h) 10 1)], (f_Text_addNumber v5 h))) (fun hs => ?_)
  exact zg_ret zd_128 rfl rfl (hF hs)
set_option maxRecDepth 100000 in
set_option maxHeartbeats 400000 in
theorem f_N_feed_k38_t {x : zm_X} {d : Nat} (v4 : Int32) (v5 : Int32) (h : zm_H) (o1 : Option Value) (o2 : Option Value) (o3 : Option Value) {Q : Option Value → zm_H → Prop} (hs : zSh zT0 h) (ho : f_N_feed_k38_ok v4 v5 h) (hF : (zSh zT0 (f_N_feed_k38 v4 v5 h).2 → Q (some (.int (f_N_feed_k38 v4 v5 h).1)) (f_N_feed_k38 v4 v5 h).2)) : zg x (d + 2) 128 38 [some (.ref 0), o1, o2, o3, some (.int v4), some (.int v5)] [] h Q := by
  unfold f_N_feed_k38 at hF
  unfold f_N_feed_k38_ok at ho
  refine zg_blk zd_128 3 hs (rfl : zb x zT0 zc_128 3 (38, [some (.ref 0), o1, o2, o3, some (.int v4), some (.int v5)], [], h) = some (44, [some (.ref 0), o1, o2, o3, some (.int v4), some (.int v5)], [.int v4, .ref 10], h)) (fun hs => ?_)
  obtain ⟨hob, ho⟩ := ho
  refine zg_call hs zd_128 rfl rfl rfl rfl (as := [.ref 10, .int v4]) (rest := []) (en := [some (.ref 10), some (.int v4), none]) rfl rfl rfl rfl rfl ?_
  refine f_Text_addNumber_t v4 h hs hob (fun hs => ?_)
  show zg x (d + 2) 128 47 [some (.ref 0), o1, o2, o3, some (.int v4), some (.int v5)] [] (f_Text_addNumber v4 h) Q
  exact f_N_feed_k47_t v5 (f_Text_addNumber v4 h) (o1) (o2) (o3) (some (.int v4)) hs ho hF
set_option maxRecDepth 100000 in
set_option maxHeartbeats 400000 in
theorem f_N_feed_k30_t {x : zm_X} {d : Nat} (v3 : Int32) (v4 : Int32) (v5 : Int32) (h : zm_H) (o1 : Option Value) (o2 : Option Value) {Q : Option Value → zm_H → Prop} (hs : zSh zT0 h) (ho : f_N_feed_k30_ok v3 v4 v5 h) (hF : (zSh zT0 (f_N_feed_k30 v3 v4 v5 h).2 → Q (some (.int (f_N_feed_k30 v3 v4 v5 h).1)) (f_N_feed_k30 v3 v4 v5 h).2)) : zg x (d + 2) 128 30 [some (.ref 0), o1, o2, some (.int v3), some (.int v4), some (.int v5)] [] h Q := by
  unfold f_N_feed_k30 at hF
  unfold f_N_feed_k30_ok at ho
  refine zg_blk zd_128 3 hs (rfl : zb x zT0 zc_128 3 (30, [some (.ref 0), o1, o2, some (.int v3), some (.int v4), some (.int v5)], [], h) = some (35, [some (.ref 0), o1, o2, some (.int v3), some (.int v4), some (.int v5)], [.int v3, .ref 10], h)) (fun hs => ?_)
  obtain ⟨hob, ho⟩ := ho
  refine zg_call hs zd_128 rfl rfl rfl rfl (as := [.ref 10, .int v3]) (rest := []) (en := [some (.ref 10), some (.int v3), none]) rfl rfl rfl rfl rfl ?_
  refine f_Text_addNumber_t v3 h hs hob (fun hs => ?_)
  show zg x (d + 2) 128 38 [some (.ref 0), o1, o2, some (.int v3), some (.int v4), some (.int v5)] [] (f_Text_addNumber v3 h) Q
  exact f_N_feed_k38_t v4 v5 (f_Text_addNumber v3 h) (o1) (o2) (some (.int v3)) hs ho hF
set_option maxRecDepth 100000 in
set_option maxHeartbeats 400000 in
theorem f_N_feed_k22_t {x : zm_X} {d : Nat} (v2 : Int32) (v3 : Int32) (v4 : Int32) (v5 : Int32) (h : zm_H) (o1 : Option Value) {Q : Option Value → zm_H → Prop} (hs : zSh zT0 h) (ho : f_N_feed_k22_ok v2 v3 v4 v5 h) (hF : (zSh zT0 (f_N_feed_k22 v2 v3 v4 v5 h).2 → Q (some (.int (f_N_feed_k22 v2 v3 v4 v5 h).1)) (f_N_feed_k22 v2 v3 v4 v5 h).2)) : zg x (d + 2) 128 22 [some (.ref 0), o1, some (.int v2), some (.int v3), some (.int v4), some (.int v5)] [] h Q := by
  unfold f_N_feed_k22 at hF
  unfold f_N_feed_k22_ok at ho
  refine zg_blk zd_128 3 hs (rfl : zb x zT0 zc_128 3 (22, [some (.ref 0), o1, some (.int v2), some (.int v3), some (.int v4), some (.int v5)], [], h) = some (27, [some (.ref 0), o1, some (.int v2), some (.int v3), some (.int v4), some (.int v5)], [.int v2, .ref 10], h)) (fun hs => ?_)
  obtain ⟨hob, ho⟩ := ho
  refine zg_call hs zd_128 rfl rfl rfl rfl (as := [.ref 10, .int v2]) (rest := []) (en := [some (.ref 10), some (.int v2), none]) rfl rfl rfl rfl rfl ?_
  refine f_Text_addNumber_t v2 h hs hob (fun hs => ?_)
  show zg x (d + 2) 128 30 [some (.ref 0), o1, some (.int v2), some (.int v3), some (.int v4), some (.int v5)] [] (f_Text_addNumber v2 h) Q
  exact f_N_feed_k30_t v3 v4 v5 (f_Text_addNumber v2 h) (o1) (some (.int v2)) hs ho hF
set_option maxRecDepth 100000 in
set_option maxHeartbeats 400000 in
theorem f_N_feed_t {x : zm_X} {d : Nat} (p1 : Int32) (p2 : Int32) (p3 : Int32) (p4 : Int32) (p5 : Int32) (h : zm_H) {Q : Option Value → zm_H → Prop} (hs : zSh zT0 h) (ho : f_N_feed_ok p1 p2 p3 p4 p5 h) (hF : (zSh zT0 (f_N_feed p1 p2 p3 p4 p5 h).2 → Q (some (.int (f_N_feed p1 p2 p3 p4 p5 h).1)) (f_N_feed p1 p2 p3 p4 p5 h).2)) : zg x (d + 2) 128 0 [some (.ref 0), some (.int p1), some (.int p2), some (.int p3), some (.int p4), some (.int p5)] [] h Q := by
  unfold f_N_feed at hF
  unfold f_N_feed_ok at ho
  refine zg_blk zd_128 3 hs (rfl : zb x zT0 zc_128 3 (0, [some (.ref 0), some (.int p1), some (.int p2), some (.int p3), some (.int p4), some (.int p5)], [], h) = some (6, [some (.ref 0), some (.int p1), some (.int p2), some (.int p3), some (.int p4), some (.int p5)], [.int 20, .ref 10], h)) (fun hs => ?_)
  refine zg_call hs zd_128 rfl rfl rfl rfl (as := [.ref 10, .int 20]) (rest := []) (en := [some (.ref 10), some (.int 20)]) rfl rfl rfl rfl rfl ?_
  refine f_Text_hasRoomFor_t 20 h hs trivial ?_
  show zg x (d + 2) 128 9 [some (.ref 0), some (.int p1), some (.int p2), some (.int p3), some (.int p4), some (.int p5)] [.int (if (¬ (400 < ((zf h 10 1) + 20))) then (1 : Int32) else 0)] h Q
  refine zg_b_ne zd_128 rfl (fun (hc : (¬ (400 < ((zf h 10 1) + 20)))) => ?_) (fun (hc : ¬ (¬ (400 < ((zf h 10 1) + 20)))) => ?_)
  · have ho := ho.1 hc
    rw [if_pos hc] at hF
    refine zg_blk zd_128 3 hs (rfl : zb x zT0 zc_128 3 (14, [some (.ref 0), some (.int p1), some (.int p2), some (.int p3), some (.int p4), some (.int p5)], [], h) = some (19, [some (.ref 0), some (.int p1), some (.int p2), some (.int p3), some (.int p4), some (.int p5)], [.int p1, .ref 10], h)) (fun hs => ?_)
    obtain ⟨hob, ho⟩ := ho
    refine zg_call hs zd_128 rfl rfl rfl rfl (as := [.ref 10, .int p1]) (rest := []) (en := [some (.ref 10), some (.int p1), none]) rfl rfl rfl rfl rfl ?_
    refine f_Text_addNumber_t p1 h hs hob (fun hs => ?_)
    show zg x (d + 2) 128 22 [some (.ref 0), some (.int p1), some (.int p2), some (.int p3), some (.int p4), some (.int p5)] [] (f_Text_addNumber p1 h) Q
    exact f_N_feed_k22_t p2 p3 p4 p5 (f_Text_addNumber p1 h) (some (.int p1)) hs ho hF
  · have ho := ho.2 hc
    rw [if_neg hc] at hF
    refine zg_blk zd_128 1 hs (rfl : zb x zT0 zc_128 1 (12, [some (.ref 0), some (.int p1), some (.int p2), some (.int p3), some (.int p4), some (.int p5)], [], h) = some (13, [some (.ref 0), some (.int p1), some (.int p2), some (.int p3), some (.int p4), some (.int p5)], [.int (-1)], h)) (fun hs => ?_)
    exact zg_ret zd_128 rfl rfl (hF hs)
theorem zd_176 : zm_cd 176 = zc_176 := by rfl
set_option maxRecDepth 100000 in
set_option maxHeartbeats 400000 in
theorem f_M_feed_l18_k73_t {x : zm_X} {d : Nat} (v1 : Int32) (v2 : Int32) (v3 : Int32) (v4 : Int32) (v5 : Int32) (v6 : Int32) (v7 : Int32) (h : zm_H) {Q : Option Value → zm_H → Prop} {FN : Nat × Int32 × zm_H → Prop} (hs : zSh zT0 h) (ho : f_M_feed_l18_k73_ok v1 v2 v3 v4 v5 v6 v7 h) (hF : FN (f_M_feed_l18_k73 v1 v2 v3 v4 v5 v6 v7 h)) (hl0 : ∀ (v6 : Int32) (h : zm_H) (o7 : Option Value), zSh zT0 h → FN (0, v6, h) → zg x (d + 1) 176 18 [some (.ref 92), some (.int v1), some (.int v2), some (.int v3), some (.int v4), some (.int v5), some (.int v6), o7] [] h Q) (hl1 : ∀ (v6 : Int32) (h : zm_H) (o6 : Option Value) (o7 : Option Value), zSh zT0 h → FN (1, v6, h) → zg x (d + 1) 176 112 [some (.ref 92), some (.int v1), some (.int v2), some (.int v3), some (.int v4), some (.int v5), o6, o7] [] h Q) : zg x (d + 1) 176 73 [some (.ref 92), some (.int v1), some (.int v2), some (.int v3), some (.int v4), some (.int v5), some (.int v6), some (.int v7)] [] h Q := by
  unfold f_M_feed_l18_k73 at hF
  unfold f_M_feed_l18_k73_ok at ho
  refine zg_blk zd_176 14 hs (rfl : zb x zT0 zc_176 14 (73, [some (.ref 92), some (.int v1), some (.int v2), some (.int v3), some (.int v4), some (.int v5), some (.int v6), some (.int v7)], [], h) = some (95, [some (.ref 92), some (.int v1), some (.int v2), some (.int v3), some (.int v4), some (.int v5), some (.int v6), some (.int v7)], [.int (v7 >>> ((24 - (8 * (zm_rm v6 4))) &&& 31)).toInt8.toInt32, .int (zf h 92 1), .ref 93], h)) (fun hs => ?_)
  have hob := ho
  refine zg_bas hs zd_176 rfl rfl (by decide) hob (fun hs => ?_)
  refine zg_blk zd_176 8 hs (rfl : zb x zT0 zc_176 8 (96, [some (.ref 92), some (.int v1), some (.int v2), some (.int v3), some (.int v4), some (.int v5), some (.int v6), some (.int v7)], [], (zs h 93 (zf h 92 1) (zm_nb 1 (v7 >>> ((24 - (8 * (zm_rm v6 4))) &&& 31)).toInt8.toInt32))) = some (18, [some (.ref 92), some (.int v1), some (.int v2), some (.int v3), some (.int v4), some (.int v5), some (.int (v6 + 1)), some (.int v7)], [], (zp (zs h 93 (zf h 92 1) (zm_nb 1 (v7 >>> ((24 - (8 * (zm_rm v6 4))) &&& 31)).toInt8.toInt32)) 92 1 ((zf h 92 1) + 1)))) (fun hs => ?_)
  exact hl0 (v6 + 1) (zp (zs h 93 (zf h 92 1) (zm_nb 1 (v7 >>> ((24 - (8 * (zm_rm v6 4))) &&& 31)).toInt8.toInt32)) 92 1 ((zf h 92 1) + 1)) (some (.int v7)) hs hF
set_option maxRecDepth 100000 in
set_option maxHeartbeats 400000 in
theorem f_M_feed_l18_b_t {x : zm_X} {d : Nat} (v1 : Int32) (v2 : Int32) (v3 : Int32) (v4 : Int32) (v5 : Int32) (v6 : Int32) (h : zm_H) (o7 : Option Value) {Q : Option Value → zm_H → Prop} {FN : Nat × Int32 × zm_H → Prop} (hs : zSh zT0 h) (ho : f_M_feed_l18_b_ok v1 v2 v3 v4 v5 v6 h) (hF : FN (f_M_feed_l18_b v1 v2 v3 v4 v5 v6 h)) (hl0 : ∀ (v6 : Int32) (h : zm_H) (o7 : Option Value), zSh zT0 h → FN (0, v6, h) → zg x (d + 1) 176 18 [some (.ref 92), some (.int v1), some (.int v2), some (.int v3), some (.int v4), some (.int v5), some (.int v6), o7] [] h Q) (hl1 : ∀ (v6 : Int32) (h : zm_H) (o6 : Option Value) (o7 : Option Value), zSh zT0 h → FN (1, v6, h) → zg x (d + 1) 176 112 [some (.ref 92), some (.int v1), some (.int v2), some (.int v3), some (.int v4), some (.int v5), o6, o7] [] h Q) : zg x (d + 1) 176 18 [some (.ref 92), some (.int v1), some (.int v2), some (.int v3), some (.int v4), some (.int v5), some (.int v6), o7] [] h Q := by
  unfold f_M_feed_l18_b at hF
  unfold f_M_feed_l18_b_ok at ho
  refine zg_blk zd_176 2 hs (rfl : zb x zT0 zc_176 2 (18, [some (.ref 92), some (.int v1), some (.int v2), some (.int v3), some (.int v4), some (.int v5), some (.int v6), o7], [], h) = some (22, [some (.ref 92), some (.int v1), some (.int v2), some (.int v3), some (.int v4), some (.int v5), some (.int v6), o7], [.int 20, .int v6], h)) (fun hs => ?_)
  refine zg_i_ge zd_176 rfl (fun (hc : (20 ≤ v6)) => ?_) (fun (hc : ¬ (20 ≤ v6)) => ?_)
  · have ho := ho.1 hc
    rw [if_pos hc] at hF
    exact hl1 v6 h (some (.int v6)) (o7) hs hF
  · have ho := ho.2 hc
    rw [if_neg hc] at hF
    refine zg_blk zd_176 2 hs (rfl : zb x zT0 zc_176 2 (25, [some (.ref 92), some (.int v1), some (.int v2), some (.int v3), some (.int v4), some (.int v5), some (.int v6), o7], [], h) = some (28, [some (.ref 92), some (.int v1), some (.int v2), some (.int v3), some (.int v4), some (.int v5), some (.int v6), o7], [.int 4, .int v6], h)) (fun hs => ?_)
    have K10 : zSh zT0 h → zg x (d + 1) 176 71 [some (.ref 92), some (.int v1), some (.int v2), some (.int v3), some (.int v4), some (.int v5), some (.int v6), o7] [.int (if (4 ≤ v6) then ((if (8 ≤ v6) then ((if (12 ≤ v6) then ((if (16 ≤ v6) then (v5 : Int32) else v4) : Int32) else v3) : Int32) else v2) : Int32) else v1)] h Q := fun hs => by
      refine zg_blk zd_176 1 hs (rfl : zb x zT0 zc_176 1 (71, [some (.ref 92), some (.int v1), some (.int v2), some (.int v3), some (.int v4), some (.int v5), some (.int v6), o7], [.int (if (4 ≤ v6) then ((if (8 ≤ v6) then ((if (12 ≤ v6) then ((if (16 ≤ v6) then (v5 : Int32) else v4) : Int32) else v3) : Int32) else v2) : Int32) else v1)], h) = some (73, [some (.ref 92), some (.int v1), some (.int v2), some (.int v3), some (.int v4), some (.int v5), some (.int v6), some (.int (if (4 ≤ v6) then ((if (8 ≤ v6) then ((if (12 ≤ v6) then ((if (16 ≤ v6) then (v5 : Int32) else v4) : Int32) else v3) : Int32) else v2) : Int32) else v1))], [], h)) (fun hs => ?_)
      exact f_M_feed_l18_k73_t v1 v2 v3 v4 v5 v6 (if (4 ≤ v6) then ((if (8 ≤ v6) then ((if (12 ≤ v6) then ((if (16 ≤ v6) then (v5 : Int32) else v4) : Int32) else v3) : Int32) else v2) : Int32) else v1) h hs ho hF hl0 hl1
    refine zg_i_ge zd_176 rfl (fun (hc : (4 ≤ v6)) => ?_) (fun (hc : ¬ (4 ≤ v6)) => ?_)
    · skip
      rw [show ((if (4 ≤ v6) then ((if (8 ≤ v6) then ((if (12 ≤ v6) then ((if (16 ≤ v6) then (v5 : Int32) else v4) : Int32) else v3) : Int32) else v2) : Int32) else v1) : Int32) = (if (8 ≤ v6) then ((if (12 ≤ v6) then ((if (16 ≤ v6) then (v5 : Int32) else v4) : Int32) else v3) : Int32) else v2) from if_pos hc] at K10
      refine zg_blk zd_176 2 hs (rfl : zb x zT0 zc_176 2 (35, [some (.ref 92), some (.int v1), some (.int v2), some (.int v3), some (.int v4), some (.int v5), some (.int v6), o7], [], h) = some (39, [some (.ref 92), some (.int v1), some (.int v2), some (.int v3), some (.int v4), some (.int v5), some (.int v6), o7], [.int 8, .int v6], h)) (fun hs => ?_)
      refine zg_i_ge zd_176 rfl (fun (hc : (8 ≤ v6)) => ?_) (fun (hc : ¬ (8 ≤ v6)) => ?_)
      · skip
        rw [show ((if (8 ≤ v6) then ((if (12 ≤ v6) then ((if (16 ≤ v6) then (v5 : Int32) else v4) : Int32) else v3) : Int32) else v2) : Int32) = (if (12 ≤ v6) then ((if (16 ≤ v6) then (v5 : Int32) else v4) : Int32) else v3) from if_pos hc] at K10
        refine zg_blk zd_176 2 hs (rfl : zb x zT0 zc_176 2 (46, [some (.ref 92), some (.int v1), some (.int v2), some (.int v3), some (.int v4), some (.int v5), some (.int v6), o7], [], h) = some (50, [some (.ref 92), some (.int v1), some (.int v2), some (.int v3), some (.int v4), some (.int v5), some (.int v6), o7], [.int 12, .int v6], h)) (fun hs => ?_)
        refine zg_i_ge zd_176 rfl (fun (hc : (12 ≤ v6)) => ?_) (fun (hc : ¬ (12 ≤ v6)) => ?_)
        · skip
          rw [show ((if (12 ≤ v6) then ((if (16 ≤ v6) then (v5 : Int32) else v4) : Int32) else v3) : Int32) = (if (16 ≤ v6) then (v5 : Int32) else v4) from if_pos hc] at K10
          refine zg_blk zd_176 2 hs (rfl : zb x zT0 zc_176 2 (57, [some (.ref 92), some (.int v1), some (.int v2), some (.int v3), some (.int v4), some (.int v5), some (.int v6), o7], [], h) = some (61, [some (.ref 92), some (.int v1), some (.int v2), some (.int v3), some (.int v4), some (.int v5), some (.int v6), o7], [.int 16, .int v6], h)) (fun hs => ?_)
          refine zg_i_ge zd_176 rfl (fun (hc : (16 ≤ v6)) => ?_) (fun (hc : ¬ (16 ≤ v6)) => ?_)
          · skip
            rw [show ((if (16 ≤ v6) then (v5 : Int32) else v4) : Int32) = v5 from if_pos hc] at K10
            refine zg_blk zd_176 1 hs (rfl : zb x zT0 zc_176 1 (69, [some (.ref 92), some (.int v1), some (.int v2), some (.int v3), some (.int v4), some (.int v5), some (.int v6), o7], [], h) = some (71, [some (.ref 92), some (.int v1), some (.int v2), some (.int v3), some (.int v4), some (.int v5), some (.int v6), o7], [.int v5], h)) (fun hs => ?_)
            exact K10 hs
          · skip
            rw [show ((if (16 ≤ v6) then (v5 : Int32) else v4) : Int32) = v4 from if_neg hc] at K10
            refine zg_blk zd_176 2 hs (rfl : zb x zT0 zc_176 2 (64, [some (.ref 92), some (.int v1), some (.int v2), some (.int v3), some (.int v4), some (.int v5), some (.int v6), o7], [], h) = some (71, [some (.ref 92), some (.int v1), some (.int v2), some (.int v3), some (.int v4), some (.int v5), some (.int v6), o7], [.int v4], h)) (fun hs => ?_)
            exact K10 hs
        · skip
          rw [show ((if (12 ≤ v6) then ((if (16 ≤ v6) then (v5 : Int32) else v4) : Int32) else v3) : Int32) = v3 from if_neg hc] at K10
          refine zg_blk zd_176 2 hs (rfl : zb x zT0 zc_176 2 (53, [some (.ref 92), some (.int v1), some (.int v2), some (.int v3), some (.int v4), some (.int v5), some (.int v6), o7], [], h) = some (71, [some (.ref 92), some (.int v1), some (.int v2), some (.int v3), some (.int v4), some (.int v5), some (.int v6), o7], [.int v3], h)) (fun hs => ?_)
          exact K10 hs
      · skip
        rw [show ((if (8 ≤ v6) then ((if (12 ≤ v6) then ((if (16 ≤ v6) then (v5 : Int32) else v4) : Int32) else v3) : Int32) else v2) : Int32) = v2 from if_neg hc] at K10
        refine zg_blk zd_176 2 hs (rfl : zb x zT0 zc_176 2 (42, [some (.ref 92), some (.int v1), some (.int v2), some (.int v3), some (.int v4), some (.int v5), some (.int v6), o7], [], h) = some (71, [some (.ref 92), some (.int v1), some (.int v2), some (.int v3), some (.int v4), some (.int v5), some (.int v6), o7], [.int v2], h)) (fun hs => ?_)
        exact K10 hs
    · skip
      rw [show ((if (4 ≤ v6) then ((if (8 ≤ v6) then ((if (12 ≤ v6) then ((if (16 ≤ v6) then (v5 : Int32) else v4) : Int32) else v3) : Int32) else v2) : Int32) else v1) : Int32) = v1 from if_neg hc] at K10
      refine zg_blk zd_176 2 hs (rfl : zb x zT0 zc_176 2 (31, [some (.ref 92), some (.int v1), some (.int v2), some (.int v3), some (.int v4), some (.int v5), some (.int v6), o7], [], h) = some (71, [some (.ref 92), some (.int v1), some (.int v2), some (.int v3), some (.int v4), some (.int v5), some (.int v6), o7], [.int v1], h)) (fun hs => ?_)
      exact K10 hs
theorem f_M_feed_l18_t {x : zm_X} {d : Nat} (v1 : Int32) (v2 : Int32) (v3 : Int32) (v4 : Int32) (v5 : Int32) {Q : Option Value → zm_H → Prop} (G : Nat × Int32 × zm_H → Prop) (hx1 : ∀ (v6 : Int32) (h : zm_H) (o6 : Option Value) (o7 : Option Value), zSh zT0 h → G (1, v6, h) → zg x (d + 1) 176 112 [some (.ref 92), some (.int v1), some (.int v2), some (.int v3), some (.int v4), some (.int v5), o6, o7] [] h Q) : ∀ (n : Nat) (v6 : Int32) (h : zm_H) (o7 : Option Value), zSh zT0 h → f_M_feed_l18_ok v1 v2 v3 v4 v5 n (v6, h) → G (f_M_feed_l18 v1 v2 v3 v4 v5 n (v6, h)) → zg x (d + 1) 176 18 [some (.ref 92), some (.int v1), some (.int v2), some (.int v3), some (.int v4), some (.int v5), some (.int v6), o7] [] h Q := by
  intro n
  induction n with
  | zero => intro v6 h o7 hs ho hG; exact ho.elim
  | succ n ih =>
    intro v6 h o7 hs ho hG
    refine f_M_feed_l18_b_t (FN := fun r => (r.1 = 0 → f_M_feed_l18_ok v1 v2 v3 v4 v5 n r.2) ∧ G (if r.1 = 0 then f_M_feed_l18 v1 v2 v3 v4 v5 n r.2 else r)) v1 v2 v3 v4 v5 v6 h o7 hs ho.1 ⟨ho.2, hG⟩ ?_ ?_
    · intro v6 h o7 hs hF
      exact ih v6 h o7 hs (hF.1 rfl) hF.2
    · intro v6 h o6 o7 hs hF
      exact hx1 v6 h o6 o7 hs hF.2

set_option maxRecDepth 100000 in
set_option maxHeartbeats 400000 in
theorem f_M_feed_k112_t {x : zm_X} {d : Nat} (h : zm_H) (o1 : Option Value) (o2 : Option Value) (o3 : Option Value) (o4 : Option Value) (z5 : Int32) (o6 : Option Value) (o7 : Option Value) {Q : Option Value → zm_H → Prop} (hs : zSh zT0 h) (ho : f_M_feed_k112_ok h) (hF : (zSh zT0 (f_M_feed_k112 h).2 → Q (some (.int (f_M_feed_k112 h).1)) (f_M_feed_k112 h).2)) : zg x (d + 1) 176 112 [some (.ref 92), o1, o2, o3, o4, some (.int z5), o6, o7] [] h Q := by
  unfold f_M_feed_k112 at hF
  unfold f_M_feed_k112_ok at ho
  refine zg_blk zd_176 2 hs (rfl : zb x zT0 zc_176 2 (112, [some (.ref 92), o1, o2, o3, o4, some (.int z5), o6, o7], [], h) = some (116, [some (.ref 92), o1, o2, o3, o4, some (.int z5), o6, o7], [.int (zf h 92 1)], h)) (fun hs => ?_)
  exact zg_ret zd_176 rfl rfl (hF hs)
set_option maxRecDepth 100000 in
set_option maxHeartbeats 400000 in
theorem f_M_feed_t {x : zm_X} {d : Nat} (p1 : Int32) (p2 : Int32) (p3 : Int32) (p4 : Int32) (p5 : Int32) (h : zm_H) {Q : Option Value → zm_H → Prop} (hs : zSh zT0 h) (ho : f_M_feed_ok p1 p2 p3 p4 p5 h) (hF : (zSh zT0 (f_M_feed p1 p2 p3 p4 p5 h).2 → Q (some (.int (f_M_feed p1 p2 p3 p4 p5 h).1)) (f_M_feed p1 p2 p3 p4 p5 h).2)) : zg x (d + 1) 176 0 [some (.ref 92), some (.int p1), some (.int p2), some (.int p3), some (.int p4), some (.int p5), none, none] [] h Q := by
  unfold f_M_feed at hF
  unfold f_M_feed_ok at ho
  refine zg_blk zd_176 5 hs (rfl : zb x zT0 zc_176 5 (0, [some (.ref 92), some (.int p1), some (.int p2), some (.int p3), some (.int p4), some (.int p5), none, none], [], h) = some (10, [some (.ref 92), some (.int p1), some (.int p2), some (.int p3), some (.int p4), some (.int p5), none, none], [.int 400, .int ((zf h 92 1) + 20)], h)) (fun hs => ?_)
  refine zg_i_le zd_176 rfl (fun (hc : (((zf h 92 1) + 20) ≤ 400)) => ?_) (fun (hc : ¬ (((zf h 92 1) + 20) ≤ 400)) => ?_)
  · have ho := ho.1 hc
    rw [if_pos hc] at hF
    refine zg_blk zd_176 2 hs (rfl : zb x zT0 zc_176 2 (15, [some (.ref 92), some (.int p1), some (.int p2), some (.int p3), some (.int p4), some (.int p5), none, none], [], h) = some (18, [some (.ref 92), some (.int p1), some (.int p2), some (.int p3), some (.int p4), some (.int p5), some (.int 0), none], [], h)) (fun hs => ?_)
    refine f_M_feed_l18_t p1 p2 p3 p4 p5 (fun r => f_M_feed_a18_ok r ∧ (zSh zT0 (f_M_feed_a18 r).2 → Q (some (.int (f_M_feed_a18 r).1)) (f_M_feed_a18 r).2)) ?_ zF 0 h (none) hs ho.1 ⟨ho.2, hF⟩
    · intro v6_ h_ o6_ o7_ hs hG
      have ho : True := trivial
      have hF : (zSh zT0 ((f_M_feed_k112 h_)).2 → Q (some (.int ((f_M_feed_k112 h_)).1)) ((f_M_feed_k112 h_)).2) := hG.2
      exact f_M_feed_k112_t h_ (some (.int p1)) (some (.int p2)) (some (.int p3)) (some (.int p4)) p5 (o6_) (o7_) hs trivial hF
  · have ho := ho.2 hc
    rw [if_neg hc] at hF
    refine zg_blk zd_176 1 hs (rfl : zb x zT0 zc_176 1 (13, [some (.ref 92), some (.int p1), some (.int p2), some (.int p3), some (.int p4), some (.int p5), none, none], [], h) = some (14, [some (.ref 92), some (.int p1), some (.int p2), some (.int p3), some (.int p4), some (.int p5), none, none], [.int (-1)], h)) (fun hs => ?_)
    exact zg_ret zd_176 rfl rfl (hF hs)
theorem zd_129 : zm_cd 129 = zc_129 := by rfl
set_option maxRecDepth 100000 in
set_option maxHeartbeats 400000 in
theorem f_N_end_t {x : zm_X} {d : Nat} (p1 : Int32) (h : zm_H) {Q : Option Value → zm_H → Prop} (hs : zSh zT0 h) (ho : f_N_end_ok p1 h) (hF : (zSh zT0 (f_N_end p1 h).2 → Q (some (.int (f_N_end p1 h).1)) (f_N_end p1 h).2)) : zg x (d + 1) 129 0 [some (.ref 0), some (.int p1)] [] h Q := by
  unfold f_N_end at hF
  unfold f_N_end_ok at ho
  refine zg_blk zd_129 1 hs (rfl : zb x zT0 zc_129 1 (0, [some (.ref 0), some (.int p1)], [], h) = some (1, [some (.ref 0), some (.int p1)], [.int p1], h)) (fun hs => ?_)
  refine zg_f_lt zd_129 rfl (fun (hc : (p1 < 0)) => ?_) (fun (hc : ¬ (p1 < 0)) => ?_)
  · skip
    rw [if_pos hc] at hF
    refine zg_blk zd_129 1 hs (rfl : zb x zT0 zc_129 1 (15, [some (.ref 0), some (.int p1)], [], h) = some (16, [some (.ref 0), some (.int p1)], [.int 0], h)) (fun hs => ?_)
    exact zg_rtz zd_129 rfl rfl rfl (hF hs)
  · skip
    rw [if_neg hc] at hF
    refine zg_blk zd_129 4 hs (rfl : zb x zT0 zc_129 4 (4, [some (.ref 0), some (.int p1)], [], h) = some (12, [some (.ref 0), some (.int p1)], [.int (zf h 10 1), .int p1], h)) (fun hs => ?_)
    refine zg_i_le zd_129 rfl (fun (hc : (p1 ≤ (zf h 10 1))) => ?_) (fun (hc : ¬ (p1 ≤ (zf h 10 1))) => ?_)
    · skip
      rw [if_pos hc] at hF
      refine zg_blk zd_129 5 hs (rfl : zb x zT0 zc_129 5 (17, [some (.ref 0), some (.int p1)], [], h) = some (26, [some (.ref 0), some (.int p1)], [.int 1], (zp h 10 1 p1))) (fun hs => ?_)
      exact zg_rtz zd_129 rfl rfl rfl (hF hs)
    · skip
      rw [if_neg hc] at hF
      refine zg_blk zd_129 1 hs (rfl : zb x zT0 zc_129 1 (15, [some (.ref 0), some (.int p1)], [], h) = some (16, [some (.ref 0), some (.int p1)], [.int 0], h)) (fun hs => ?_)
      exact zg_rtz zd_129 rfl rfl rfl (hF hs)
theorem zd_177 : zm_cd 177 = zc_177 := by rfl
set_option maxRecDepth 100000 in
set_option maxHeartbeats 400000 in
theorem f_M_end_t {x : zm_X} {d : Nat} (p1 : Int32) (h : zm_H) {Q : Option Value → zm_H → Prop} (hs : zSh zT0 h) (ho : f_M_end_ok p1 h) (hF : (zSh zT0 (f_M_end p1 h).2 → Q (some (.int (f_M_end p1 h).1)) (f_M_end p1 h).2)) : zg x (d + 2) 177 0 [some (.ref 92), some (.int p1)] [] h Q := by
  unfold f_M_end at hF
  unfold f_M_end_ok at ho
  refine zg_blk zd_177 4 hs (rfl : zb x zT0 zc_177 4 (0, [some (.ref 92), some (.int p1)], [], h) = some (6, [some (.ref 92), some (.int p1)], [.int (zf h 92 1), .int 0, .int p1], h)) (fun hs => ?_)
  refine zg_call hs zd_177 rfl rfl rfl rfl (as := [.int p1, .int 0, .int (zf h 92 1)]) (rest := []) (en := [some (.int p1), some (.int 0), some (.int (zf h 92 1))]) rfl rfl rfl rfl rfl ?_
  refine f_M_in_t p1 0 (zf h 92 1) h hs trivial ?_
  show zg x (d + 2) 177 9 [some (.ref 92), some (.int p1)] [.int (if (¬ (p1 < 0) ∧ (¬ ((zf h 92 1) < p1))) then (1 : Int32) else 0)] h Q
  refine zg_b_ne zd_177 rfl (fun (hc : (¬ (p1 < 0) ∧ (¬ ((zf h 92 1) < p1)))) => ?_) (fun (hc : ¬ (¬ (p1 < 0) ∧ (¬ ((zf h 92 1) < p1)))) => ?_)
  · skip
    rw [if_pos hc] at hF
    refine zg_blk zd_177 4 hs (rfl : zb x zT0 zc_177 4 (14, [some (.ref 92), some (.int p1)], [], h) = some (20, [some (.ref 92), some (.int p1)], [.int 1], (zp h 92 1 p1))) (fun hs => ?_)
    exact zg_rtz zd_177 rfl rfl rfl (hF hs)
  · skip
    rw [if_neg hc] at hF
    refine zg_blk zd_177 1 hs (rfl : zb x zT0 zc_177 1 (12, [some (.ref 92), some (.int p1)], [], h) = some (13, [some (.ref 92), some (.int p1)], [.int 0], h)) (fun hs => ?_)
    exact zg_rtz zd_177 rfl rfl rfl (hF hs)
theorem zd_130 : zm_cd 130 = zc_130 := by rfl
theorem zd_92 : zm_cd 92 = zc_92 := by rfl
theorem zd_265 : zm_cd 265 = zc_265 := by rfl
set_option maxRecDepth 100000 in
set_option maxHeartbeats 400000 in
theorem f_Arrays_fill_13_l5_b_t {x : zm_X} {d : Nat} (v1 : Int32) (v2 : Int32) (v3 : Int32) (h : zm_H) {Q : Option Value → zm_H → Prop} {FN : Nat × Int32 × zm_H → Prop} (hs : zSh zT0 h) (ho : f_Arrays_fill_13_l5_b_ok v1 v2 v3 h) (hF : FN (f_Arrays_fill_13_l5_b v1 v2 v3 h)) (hl0 : ∀ (v2 : Int32) (h : zm_H), zSh zT0 h → FN (0, v2, h) → zg x (d + 1) 265 5 [some (.ref 13), some (.int v1), some (.int v2), some (.int v3)] [] h Q) (hl1 : ∀ (v2 : Int32) (h : zm_H) (o2 : Option Value), zSh zT0 h → FN (1, v2, h) → zg x (d + 1) 265 20 [some (.ref 13), some (.int v1), o2, some (.int v3)] [] h Q) : zg x (d + 1) 265 5 [some (.ref 13), some (.int v1), some (.int v2), some (.int v3)] [] h Q := by
  unfold f_Arrays_fill_13_l5_b at hF
  unfold f_Arrays_fill_13_l5_b_ok at ho
  refine zg_blk zd_265 2 hs (rfl : zb x zT0 zc_265 2 (5, [some (.ref 13), some (.int v1), some (.int v2), some (.int v3)], [], h) = some (7, [some (.ref 13), some (.int v1), some (.int v2), some (.int v3)], [.int v3, .int v2], h)) (fun hs => ?_)
  refine zg_i_ge zd_265 rfl (fun (hc : (v3 ≤ v2)) => ?_) (fun (hc : ¬ (v3 ≤ v2)) => ?_)
  · have ho := ho.1 hc
    rw [if_pos hc] at hF
    exact hl1 v2 h (some (.int v2)) hs hF
  · have ho := ho.2 hc
    rw [if_neg hc] at hF
    refine zg_blk zd_265 3 hs (rfl : zb x zT0 zc_265 3 (10, [some (.ref 13), some (.int v1), some (.int v2), some (.int v3)], [], h) = some (13, [some (.ref 13), some (.int v1), some (.int v2), some (.int v3)], [.int v1, .int v2, .ref 13], h)) (fun hs => ?_)
    have hob := ho
    refine zg_ias hs zd_265 rfl rfl hob (fun hs => ?_)
    refine zg_blk zd_265 2 hs (rfl : zb x zT0 zc_265 2 (14, [some (.ref 13), some (.int v1), some (.int v2), some (.int v3)], [], (zs h 13 v2 v1)) = some (5, [some (.ref 13), some (.int v1), some (.int (v2 + 1)), some (.int v3)], [], (zs h 13 v2 v1))) (fun hs => ?_)
    exact hl0 (v2 + 1) (zs h 13 v2 v1) hs hF
theorem f_Arrays_fill_13_l5_t {x : zm_X} {d : Nat} (v1 : Int32) (v3 : Int32) {Q : Option Value → zm_H → Prop} (G : Nat × Int32 × zm_H → Prop) (hx1 : ∀ (v2 : Int32) (h : zm_H) (o2 : Option Value), zSh zT0 h → G (1, v2, h) → zg x (d + 1) 265 20 [some (.ref 13), some (.int v1), o2, some (.int v3)] [] h Q) : ∀ (n : Nat) (v2 : Int32) (h : zm_H), zSh zT0 h → f_Arrays_fill_13_l5_ok v1 v3 n (v2, h) → G (f_Arrays_fill_13_l5 v1 v3 n (v2, h)) → zg x (d + 1) 265 5 [some (.ref 13), some (.int v1), some (.int v2), some (.int v3)] [] h Q := by
  intro n
  induction n with
  | zero => intro v2 h hs ho hG; exact ho.elim
  | succ n ih =>
    intro v2 h hs ho hG
    refine f_Arrays_fill_13_l5_b_t (FN := fun r => (r.1 = 0 → f_Arrays_fill_13_l5_ok v1 v3 n r.2) ∧ G (if r.1 = 0 then f_Arrays_fill_13_l5 v1 v3 n r.2 else r)) v1 v2 v3 h hs ho.1 ⟨ho.2, hG⟩ ?_ ?_
    · intro v2 h hs hF
      exact ih v2 h hs (hF.1 rfl) hF.2
    · intro v2 h o2 hs hF
      exact hx1 v2 h o2 hs hF.2

set_option maxRecDepth 100000 in
set_option maxHeartbeats 400000 in
theorem f_Arrays_fill_13_k20_t {x : zm_X} {d : Nat} (h : zm_H) (o0 : Option Value) (z1 : Int32) (o2 : Option Value) (o3 : Option Value) {Q : Option Value → zm_H → Prop} (hs : zSh zT0 h) (ho : f_Arrays_fill_13_k20_ok h) (hF : (zSh zT0 (f_Arrays_fill_13_k20 h) → Q none (f_Arrays_fill_13_k20 h))) : zg x (d + 1) 265 20 [o0, some (.int z1), o2, o3] [] h Q := by
  unfold f_Arrays_fill_13_k20 at hF
  unfold f_Arrays_fill_13_k20_ok at ho
  exact zg_ret zd_265 rfl rfl (hF hs)
set_option maxRecDepth 100000 in
set_option maxHeartbeats 400000 in
theorem f_Arrays_fill_13_t {x : zm_X} {d : Nat} (p1 : Int32) (h : zm_H) {Q : Option Value → zm_H → Prop} (hs : zSh zT0 h) (ho : f_Arrays_fill_13_ok p1 h) (hF : (zSh zT0 (f_Arrays_fill_13 p1 h) → Q none (f_Arrays_fill_13 p1 h))) : zg x (d + 1) 265 0 [some (.ref 13), some (.int p1), none, none] [] h Q := by
  unfold f_Arrays_fill_13 at hF
  unfold f_Arrays_fill_13_ok at ho
  refine zg_blk zd_265 5 hs (rfl : zb x zT0 zc_265 5 (0, [some (.ref 13), some (.int p1), none, none], [], h) = some (5, [some (.ref 13), some (.int p1), some (.int 0), some (.int (Int32.ofNat 4))], [], h)) (fun hs => ?_)
  refine f_Arrays_fill_13_l5_t p1 (Int32.ofNat 4) (fun r => f_Arrays_fill_13_a5_ok r ∧ (zSh zT0 (f_Arrays_fill_13_a5 r) → Q none (f_Arrays_fill_13_a5 r))) ?_ zF 0 h hs ho.1 ⟨ho.2, hF⟩
  · intro v2_ h_ o2_ hs hG
    have ho : True := trivial
    have hF : (zSh zT0 ((f_Arrays_fill_13_k20 h_)) → Q none ((f_Arrays_fill_13_k20 h_))) := hG.2
    exact f_Arrays_fill_13_k20_t h_ (some (.ref 13)) p1 (o2_) (some (.int (Int32.ofNat 4))) hs trivial hF
set_option maxRecDepth 100000 in
set_option maxHeartbeats 400000 in
theorem f_Arrays_fill_14_l5_b_t {x : zm_X} {d : Nat} (v1 : Int32) (v2 : Int32) (v3 : Int32) (h : zm_H) {Q : Option Value → zm_H → Prop} {FN : Nat × Int32 × zm_H → Prop} (hs : zSh zT0 h) (ho : f_Arrays_fill_14_l5_b_ok v1 v2 v3 h) (hF : FN (f_Arrays_fill_14_l5_b v1 v2 v3 h)) (hl0 : ∀ (v2 : Int32) (h : zm_H), zSh zT0 h → FN (0, v2, h) → zg x (d + 1) 265 5 [some (.ref 14), some (.int v1), some (.int v2), some (.int v3)] [] h Q) (hl1 : ∀ (v2 : Int32) (h : zm_H) (o2 : Option Value), zSh zT0 h → FN (1, v2, h) → zg x (d + 1) 265 20 [some (.ref 14), some (.int v1), o2, some (.int v3)] [] h Q) : zg x (d + 1) 265 5 [some (.ref 14), some (.int v1), some (.int v2), some (.int v3)] [] h Q := by
  unfold f_Arrays_fill_14_l5_b at hF
  unfold f_Arrays_fill_14_l5_b_ok at ho
  refine zg_blk zd_265 2 hs (rfl : zb x zT0 zc_265 2 (5, [some (.ref 14), some (.int v1), some (.int v2), some (.int v3)], [], h) = some (7, [some (.ref 14), some (.int v1), some (.int v2), some (.int v3)], [.int v3, .int v2], h)) (fun hs => ?_)
  refine zg_i_ge zd_265 rfl (fun (hc : (v3 ≤ v2)) => ?_) (fun (hc : ¬ (v3 ≤ v2)) => ?_)
  · have ho := ho.1 hc
    rw [if_pos hc] at hF
    exact hl1 v2 h (some (.int v2)) hs hF
  · have ho := ho.2 hc
    rw [if_neg hc] at hF
    refine zg_blk zd_265 3 hs (rfl : zb x zT0 zc_265 3 (10, [some (.ref 14), some (.int v1), some (.int v2), some (.int v3)], [], h) = some (13, [some (.ref 14), some (.int v1), some (.int v2), some (.int v3)], [.int v1, .int v2, .ref 14], h)) (fun hs => ?_)
    have hob := ho
    refine zg_ias hs zd_265 rfl rfl hob (fun hs => ?_)
    refine zg_blk zd_265 2 hs (rfl : zb x zT0 zc_265 2 (14, [some (.ref 14), some (.int v1), some (.int v2), some (.int v3)], [], (zs h 14 v2 v1)) = some (5, [some (.ref 14), some (.int v1), some (.int (v2 + 1)), some (.int v3)], [], (zs h 14 v2 v1))) (fun hs => ?_)
    exact hl0 (v2 + 1) (zs h 14 v2 v1) hs hF
theorem f_Arrays_fill_14_l5_t {x : zm_X} {d : Nat} (v1 : Int32) (v3 : Int32) {Q : Option Value → zm_H → Prop} (G : Nat × Int32 × zm_H → Prop) (hx1 : ∀ (v2 : Int32) (h : zm_H) (o2 : Option Value), zSh zT0 h → G (1, v2, h) → zg x (d + 1) 265 20 [some (.ref 14), some (.int v1), o2, some (.int v3)] [] h Q) : ∀ (n : Nat) (v2 : Int32) (h : zm_H), zSh zT0 h → f_Arrays_fill_14_l5_ok v1 v3 n (v2, h) → G (f_Arrays_fill_14_l5 v1 v3 n (v2, h)) → zg x (d + 1) 265 5 [some (.ref 14), some (.int v1), some (.int v2), some (.int v3)] [] h Q := by
  intro n
  induction n with
  | zero => intro v2 h hs ho hG; exact ho.elim
  | succ n ih =>
    intro v2 h hs ho hG
    refine f_Arrays_fill_14_l5_b_t (FN := fun r => (r.1 = 0 → f_Arrays_fill_14_l5_ok v1 v3 n r.2) ∧ G (if r.1 = 0 then f_Arrays_fill_14_l5 v1 v3 n r.2 else r)) v1 v2 v3 h hs ho.1 ⟨ho.2, hG⟩ ?_ ?_
    · intro v2 h hs hF
      exact ih v2 h hs (hF.1 rfl) hF.2
    · intro v2 h o2 hs hF
      exact hx1 v2 h o2 hs hF.2

set_option maxRecDepth 100000 in
set_option maxHeartbeats 400000 in
theorem f_Arrays_fill_14_k20_t {x : zm_X} {d : Nat} (h : zm_H) (o0 : Option Value) (z1 : Int32) (o2 : Option Value) (o3 : Option Value) {Q : Option Value → zm_H → Prop} (hs : zSh zT0 h) (ho : f_Arrays_fill_14_k20_ok h) (hF : (zSh zT0 (f_Arrays_fill_14_k20 h) → Q none (f_Arrays_fill_14_k20 h))) : zg x (d + 1) 265 20 [o0, some (.int z1), o2, o3] [] h Q := by
  unfold f_Arrays_fill_14_k20 at hF
  unfold f_Arrays_fill_14_k20_ok at ho
  exact zg_ret zd_265 rfl rfl (hF hs)
set_option maxRecDepth 100000 in
set_option maxHeartbeats 400000 in
theorem f_Arrays_fill_14_t {x : zm_X} {d : Nat} (p1 : Int32) (h : zm_H) {Q : Option Value → zm_H → Prop} (hs : zSh zT0 h) (ho : f_Arrays_fill_14_ok p1 h) (hF : (zSh zT0 (f_Arrays_fill_14 p1 h) → Q none (f_Arrays_fill_14 p1 h))) : zg x (d + 1) 265 0 [some (.ref 14), some (.int p1), none, none] [] h Q := by
  unfold f_Arrays_fill_14 at hF
  unfold f_Arrays_fill_14_ok at ho
  refine zg_blk zd_265 5 hs (rfl : zb x zT0 zc_265 5 (0, [some (.ref 14), some (.int p1), none, none], [], h) = some (5, [some (.ref 14), some (.int p1), some (.int 0), some (.int (Int32.ofNat 4))], [], h)) (fun hs => ?_)
  refine f_Arrays_fill_14_l5_t p1 (Int32.ofNat 4) (fun r => f_Arrays_fill_14_a5_ok r ∧ (zSh zT0 (f_Arrays_fill_14_a5 r) → Q none (f_Arrays_fill_14_a5 r))) ?_ zF 0 h hs ho.1 ⟨ho.2, hF⟩
  · intro v2_ h_ o2_ hs hG
    have ho : True := trivial
    have hF : (zSh zT0 ((f_Arrays_fill_14_k20 h_)) → Q none ((f_Arrays_fill_14_k20 h_))) := hG.2
    exact f_Arrays_fill_14_k20_t h_ (some (.ref 14)) p1 (o2_) (some (.int (Int32.ofNat 4))) hs trivial hF
theorem zd_95 : zm_cd 95 = zc_95 := by rfl
set_option maxRecDepth 100000 in
set_option maxHeartbeats 400000 in
theorem f_Text_readTokens_l9_k59_t {x : zm_X} {d : Nat} (v1 : Int32) (v2 : Int32) (h : zm_H) {Q : Option Value → zm_H → Prop} {FN : Nat × Int32 × Int32 × zm_H → Prop} (hs : zSh zT0 h) (ho : f_Text_readTokens_l9_k59_ok v1 v2 h) (hF : FN (f_Text_readTokens_l9_k59 v1 v2 h)) (hl0 : ∀ (v1 : Int32) (v2 : Int32) (h : zm_H), zSh zT0 h → FN (0, v1, v2, h) → zg x (d + 4) 95 9 [some (.ref 10), some (.int v1), some (.int v2)] [] h Q) (hl1 : ∀ (v1 : Int32) (v2 : Int32) (h : zm_H) (o1 : Option Value) (o2 : Option Value), zSh zT0 h → FN (1, v1, v2, h) → zg x (d + 4) 95 65 [some (.ref 10), o1, o2] [] h Q) : zg x (d + 4) 95 59 [some (.ref 10), some (.int v1), some (.int v2)] [] h Q := by
  unfold f_Text_readTokens_l9_k59 at hF
  unfold f_Text_readTokens_l9_k59_ok at ho
  refine zg_blk zd_95 2 hs (rfl : zb x zT0 zc_95 2 (59, [some (.ref 10), some (.int v1), some (.int v2)], [], h) = some (9, [some (.ref 10), some (.int v1), some (.int (v2 + 1))], [], h)) (fun hs => ?_)
  exact hl0 v1 (v2 + 1) h hs hF
theorem zd_96 : zm_cd 96 = zc_96 := by rfl
theorem zd_94 : zm_cd 94 = zc_94 := by rfl
set_option maxRecDepth 100000 in
set_option maxHeartbeats 400000 in
theorem f_Text_isLetter_t {x : zm_X} {d : Nat} (p0 : Int32) (h : zm_H) {Q : Option Value → zm_H → Prop} (hs : zSh zT0 h) (ho : f_Text_isLetter_ok p0 h) (hF : Q (some (.int (f_Text_isLetter p0 h))) h) : zg x (d + 1) 94 0 [some (.int p0)] [] h Q := by
  unfold f_Text_isLetter at hF
  unfold f_Text_isLetter_ok at ho
  refine zg_blk zd_94 2 hs (rfl : zb x zT0 zc_94 2 (0, [some (.int p0)], [], h) = some (3, [some (.int p0)], [.int 97, .int p0], h)) (fun hs => ?_)
  have K11 : zSh zT0 h → zg x (d + 1) 94 17 [some (.int p0)] [.int (if (¬ (p0 < 97) ∧ (¬ (122 < p0))) then (1 : Int32) else 0)] h Q := fun hs => by
    exact zg_rtz zd_94 rfl rfl zm_nb01 hF
  refine zg_i_lt zd_94 rfl (fun (hc : (p0 < 97)) => ?_) (fun (hc : ¬ (p0 < 97)) => ?_)
  · skip
    rw [show ((if (¬ (p0 < 97) ∧ (¬ (122 < p0))) then (1 : Int32) else 0) : Int32) = 0 from zb_nand_t hc] at K11
    refine zg_blk zd_94 1 hs (rfl : zb x zT0 zc_94 1 (16, [some (.int p0)], [], h) = some (17, [some (.int p0)], [.int 0], h)) (fun hs => ?_)
    exact K11 hs
  · skip
    rw [show ((if (¬ (p0 < 97) ∧ (¬ (122 < p0))) then (1 : Int32) else 0) : Int32) = (if (¬ (122 < p0)) then (1 : Int32) else 0) from zb_nand_f hc] at K11
    refine zg_blk zd_94 2 hs (rfl : zb x zT0 zc_94 2 (6, [some (.int p0)], [], h) = some (9, [some (.int p0)], [.int 122, .int p0], h)) (fun hs => ?_)
    refine zg_i_gt zd_94 rfl (fun (hc : (122 < p0)) => ?_) (fun (hc : ¬ (122 < p0)) => ?_)
    · skip
      rw [show ((if (¬ (122 < p0)) then (1 : Int32) else 0) : Int32) = 0 from zb_not_t hc] at K11
      refine zg_blk zd_94 1 hs (rfl : zb x zT0 zc_94 1 (16, [some (.int p0)], [], h) = some (17, [some (.int p0)], [.int 0], h)) (fun hs => ?_)
      exact K11 hs
    · skip
      rw [show ((if (¬ (122 < p0)) then (1 : Int32) else 0) : Int32) = 1 from zb_not_f hc] at K11
      refine zg_blk zd_94 2 hs (rfl : zb x zT0 zc_94 2 (12, [some (.int p0)], [], h) = some (17, [some (.int p0)], [.int 1], h)) (fun hs => ?_)
      exact K11 hs
theorem zd_97 : zm_cd 97 = zc_97 := by rfl
set_option maxRecDepth 100000 in
set_option maxHeartbeats 400000 in
theorem f_Text_isDigit_t {x : zm_X} {d : Nat} (p0 : Int32) (h : zm_H) {Q : Option Value → zm_H → Prop} (hs : zSh zT0 h) (ho : f_Text_isDigit_ok p0 h) (hF : Q (some (.int (f_Text_isDigit p0 h))) h) : zg x (d + 1) 97 0 [some (.int p0)] [] h Q := by
  unfold f_Text_isDigit at hF
  unfold f_Text_isDigit_ok at ho
  refine zg_blk zd_97 2 hs (rfl : zb x zT0 zc_97 2 (0, [some (.int p0)], [], h) = some (3, [some (.int p0)], [.int 48, .int p0], h)) (fun hs => ?_)
  have K12 : zSh zT0 h → zg x (d + 1) 97 17 [some (.int p0)] [.int (if (¬ (p0 < 48) ∧ (¬ (57 < p0))) then (1 : Int32) else 0)] h Q := fun hs => by
    exact zg_rtz zd_97 rfl rfl zm_nb01 hF
  refine zg_i_lt zd_97 rfl (fun (hc : (p0 < 48)) => ?_) (fun (hc : ¬ (p0 < 48)) => ?_)
  · skip
    rw [show ((if (¬ (p0 < 48) ∧ (¬ (57 < p0))) then (1 : Int32) else 0) : Int32) = 0 from zb_nand_t hc] at K12
    refine zg_blk zd_97 1 hs (rfl : zb x zT0 zc_97 1 (16, [some (.int p0)], [], h) = some (17, [some (.int p0)], [.int 0], h)) (fun hs => ?_)
    exact K12 hs
  · skip
    rw [show ((if (¬ (p0 < 48) ∧ (¬ (57 < p0))) then (1 : Int32) else 0) : Int32) = (if (¬ (57 < p0)) then (1 : Int32) else 0) from zb_nand_f hc] at K12
    refine zg_blk zd_97 2 hs (rfl : zb x zT0 zc_97 2 (6, [some (.int p0)], [], h) = some (9, [some (.int p0)], [.int 57, .int p0], h)) (fun hs => ?_)
    refine zg_i_gt zd_97 rfl (fun (hc : (57 < p0)) => ?_) (fun (hc : ¬ (57 < p0)) => ?_)
    · skip
      rw [show ((if (¬ (57 < p0)) then (1 : Int32) else 0) : Int32) = 0 from zb_not_t hc] at K12
      refine zg_blk zd_97 1 hs (rfl : zb x zT0 zc_97 1 (16, [some (.int p0)], [], h) = some (17, [some (.int p0)], [.int 0], h)) (fun hs => ?_)
      exact K12 hs
    · skip
      rw [show ((if (¬ (57 < p0)) then (1 : Int32) else 0) : Int32) = 1 from zb_not_f hc] at K12
      refine zg_blk zd_97 2 hs (rfl : zb x zT0 zc_97 2 (12, [some (.int p0)], [], h) = some (17, [some (.int p0)], [.int 1], h)) (fun hs => ?_)
      exact K12 hs
theorem zd_267 : zm_cd 267 = zc_267 := by rfl
set_option maxRecDepth 100000 in
set_option maxHeartbeats 400000 in
theorem f_Text_readNumber_l4_b_t {x : zm_X} {d : Nat} (v2 : Int32) (v3 : Int32) (h : zm_H) (z1 : Int32) {Q : Option Value → zm_H → Prop} {FN : Nat × Int32 × Int32 → Prop} (hs : zSh zT0 h) (ho : f_Text_readNumber_l4_b_ok v2 v3 h) (hF : FN (f_Text_readNumber_l4_b v2 v3 h)) (hl0 : ∀ (v2 : Int32) (v3 : Int32) (z1 : Int32), zSh zT0 h → FN (0, v2, v3) → zg x (d + 2) 267 4 [some (.ref 10), some (.int z1), some (.int v2), some (.int v3)] [] h Q) (hl1 : ∀ (v2 : Int32) (v3 : Int32) (z1 : Int32), zSh zT0 h → FN (1, v2, v3) → zg x (d + 2) 267 50 [some (.ref 10), some (.int z1), some (.int v2), some (.int v3)] [] h Q) : zg x (d + 2) 267 4 [some (.ref 10), some (.int z1), some (.int v2), some (.int v3)] [] h Q := by
  unfold f_Text_readNumber_l4_b at hF
  unfold f_Text_readNumber_l4_b_ok at ho
  refine zg_blk zd_267 3 hs (rfl : zb x zT0 zc_267 3 (4, [some (.ref 10), some (.int z1), some (.int v2), some (.int v3)], [], h) = some (9, [some (.ref 10), some (.int z1), some (.int v2), some (.int v3)], [.int (zf h 10 1), .int v2], h)) (fun hs => ?_)
  refine zg_i_ge zd_267 rfl (fun (hc : ((zf h 10 1) ≤ v2)) => ?_) (fun (hc : ¬ ((zf h 10 1) ≤ v2)) => ?_)
  · have ho := ho.1 hc
    rw [if_pos hc] at hF
    exact hl1 v2 v3 z1 hs hF
  · have ho := ho.2 hc
    rw [if_neg hc] at hF
    refine zg_blk zd_267 3 hs (rfl : zb x zT0 zc_267 3 (12, [some (.ref 10), some (.int z1), some (.int v2), some (.int v3)], [], h) = some (17, [some (.ref 10), some (.int z1), some (.int v2), some (.int v3)], [.int v2, .ref 11], h)) (fun hs => ?_)
    obtain ⟨hob, ho⟩ := ho
    refine zg_bal hs zd_267 rfl rfl (by decide) hob ?_
    refine zg_call hs zd_267 rfl rfl rfl rfl (as := [.int (zr h 11 v2)]) (rest := []) (en := [some (.int (zr h 11 v2))]) rfl rfl rfl rfl rfl ?_
    refine f_Text_isDigit_t (zr h 11 v2) h hs trivial ?_
    show zg x (d + 2) 267 21 [some (.ref 10), some (.int z1), some (.int v2), some (.int v3)] [.int (if (¬ ((zr h 11 v2) < 48) ∧ (¬ (57 < (zr h 11 v2)))) then (1 : Int32) else 0)] h Q
    refine zg_b_eq zd_267 rfl (fun (hc : ¬ (¬ ((zr h 11 v2) < 48) ∧ (¬ (57 < (zr h 11 v2))))) => ?_) (fun (hc : (¬ ((zr h 11 v2) < 48) ∧ (¬ (57 < (zr h 11 v2))))) => ?_)
    · have ho := ho.2 hc
      rw [if_neg hc] at hF
      exact hl1 v2 v3 z1 hs hF
    · have ho := ho.1 hc
      rw [if_pos hc] at hF
      refine zg_blk zd_267 6 hs (rfl : zb x zT0 zc_267 6 (24, [some (.ref 10), some (.int z1), some (.int v2), some (.int v3)], [], h) = some (33, [some (.ref 10), some (.int z1), some (.int v2), some (.int v3)], [.int v2, .ref 11, .int (v3 * 10)], h)) (fun hs => ?_)
      have hob := ho
      refine zg_bal hs zd_267 rfl rfl (by decide) hob ?_
      refine zg_blk zd_267 4 hs (rfl : zb x zT0 zc_267 4 (34, [some (.ref 10), some (.int z1), some (.int v2), some (.int v3)], [.int (zr h 11 v2), .int (v3 * 10)], h) = some (40, [some (.ref 10), some (.int z1), some (.int v2), some (.int v3)], [.int 100000, .int (((v3 * 10) + (zr h 11 v2)) - 48)], h)) (fun hs => ?_)
      refine zg_x zd_267 rfl rfl rfl rfl (as := [.int (((v3 * 10) + (zr h 11 v2)) - 48), .int 100000]) (rest := []) (w := some (.int (if 100000 < (((v3 * 10) + (zr h 11 v2)) - 48) then 100000 else (((v3 * 10) + (zr h 11 v2)) - 48)))) rfl rfl rfl ?_
      refine zg_blk zd_267 3 hs (rfl : zb x zT0 zc_267 3 (43, [some (.ref 10), some (.int z1), some (.int v2), some (.int v3)], [.int (if 100000 < (((v3 * 10) + (zr h 11 v2)) - 48) then 100000 else (((v3 * 10) + (zr h 11 v2)) - 48))], h) = some (4, [some (.ref 10), some (.int z1), some (.int (v2 + 1)), some (.int (if 100000 < (((v3 * 10) + (zr h 11 v2)) - 48) then 100000 else (((v3 * 10) + (zr h 11 v2)) - 48)))], [], h)) (fun hs => ?_)
      exact hl0 (v2 + 1) (if 100000 < (((v3 * 10) + (zr h 11 v2)) - 48) then 100000 else (((v3 * 10) + (zr h 11 v2)) - 48)) z1 hs hF
theorem f_Text_readNumber_l4_t {x : zm_X} {d : Nat} (h : zm_H) {Q : Option Value → zm_H → Prop} (G : Nat × Int32 × Int32 → Prop) (hx1 : ∀ (v2 : Int32) (v3 : Int32) (z1 : Int32), zSh zT0 h → G (1, v2, v3) → zg x (d + 2) 267 50 [some (.ref 10), some (.int z1), some (.int v2), some (.int v3)] [] h Q) : ∀ (n : Nat) (v2 : Int32) (v3 : Int32) (z1 : Int32), zSh zT0 h → f_Text_readNumber_l4_ok h n (v2, v3) → G (f_Text_readNumber_l4 h n (v2, v3)) → zg x (d + 2) 267 4 [some (.ref 10), some (.int z1), some (.int v2), some (.int v3)] [] h Q := by
  intro n
  induction n with
  | zero => intro v2 v3 z1 hs ho hG; exact ho.elim
  | succ n ih =>
    intro v2 v3 z1 hs ho hG
    refine f_Text_readNumber_l4_b_t (FN := fun r => (r.1 = 0 → f_Text_readNumber_l4_ok h n r.2) ∧ G (if r.1 = 0 then f_Text_readNumber_l4 h n r.2 else r)) v2 v3 h z1 hs ho.1 ⟨ho.2, hG⟩ ?_ ?_
    · intro v2 v3 z1 hs hF
      exact ih v2 v3 z1 hs (hF.1 rfl) hF.2
    · intro v2 v3 z1 hs hF
      exact hx1 v2 v3 z1 hs hF.2

set_option maxRecDepth 100000 in
set_option maxHeartbeats 400000 in
theorem f_Text_readNumber_k50_t {x : zm_X} {d : Nat} (v2 : Int32) (v3 : Int32) (h : zm_H) (z1 : Int32) {Q : Option Value → zm_H → Prop} (hs : zSh zT0 h) (ho : f_Text_readNumber_k50_ok v2 v3 h) (hF : (zSh zT0 (f_Text_readNumber_k50 v2 v3 h).2 → Q (some (.int (f_Text_readNumber_k50 v2 v3 h).1)) (f_Text_readNumber_k50 v2 v3 h).2)) : zg x (d + 2) 267 50 [some (.ref 10), some (.int z1), some (.int v2), some (.int v3)] [] h Q := by
  unfold f_Text_readNumber_k50 at hF
  unfold f_Text_readNumber_k50_ok at ho
  refine zg_blk zd_267 5 hs (rfl : zb x zT0 zc_267 5 (50, [some (.ref 10), some (.int z1), some (.int v2), some (.int v3)], [], h) = some (61, [some (.ref 10), some (.int z1), some (.int v2), some (.int v3)], [.int 256, .int (zf h 10 6), .ref 162], h)) (fun hs => ?_)
  obtain ⟨hob, ho⟩ := ho
  refine zg_ias hs zd_267 rfl rfl hob (fun hs => ?_)
  refine zg_blk zd_267 5 hs (rfl : zb x zT0 zc_267 5 (62, [some (.ref 10), some (.int z1), some (.int v2), some (.int v3)], [], (zs h 162 (zf h 10 6) 256)) = some (71, [some (.ref 10), some (.int z1), some (.int v2), some (.int v3)], [.int v3, .int (zf h 10 6), .ref 164], (zs h 162 (zf h 10 6) 256))) (fun hs => ?_)
  have hob := ho
  refine zg_ias hs zd_267 rfl rfl hob (fun hs => ?_)
  refine zg_blk zd_267 1 hs (rfl : zb x zT0 zc_267 1 (72, [some (.ref 10), some (.int z1), some (.int v2), some (.int v3)], [], (zs (zs h 162 (zf h 10 6) 256) 164 (zf h 10 6) v3)) = some (73, [some (.ref 10), some (.int z1), some (.int v2), some (.int v3)], [.int v2], (zs (zs h 162 (zf h 10 6) 256) 164 (zf h 10 6) v3))) (fun hs => ?_)
  exact zg_ret zd_267 rfl rfl (hF hs)
set_option maxRecDepth 100000 in
set_option maxHeartbeats 400000 in
theorem f_Text_readNumber_t {x : zm_X} {d : Nat} (p1 : Int32) (h : zm_H) {Q : Option Value → zm_H → Prop} (hs : zSh zT0 h) (ho : f_Text_readNumber_ok p1 h) (hF : (zSh zT0 (f_Text_readNumber p1 h).2 → Q (some (.int (f_Text_readNumber p1 h).1)) (f_Text_readNumber p1 h).2)) : zg x (d + 2) 267 0 [some (.ref 10), some (.int p1), none, none] [] h Q := by
  unfold f_Text_readNumber at hF
  unfold f_Text_readNumber_ok at ho
  refine zg_blk zd_267 4 hs (rfl : zb x zT0 zc_267 4 (0, [some (.ref 10), some (.int p1), none, none], [], h) = some (4, [some (.ref 10), some (.int p1), some (.int p1), some (.int 0)], [], h)) (fun hs => ?_)
  refine f_Text_readNumber_l4_t h (fun r => f_Text_readNumber_a4_ok r h ∧ (zSh zT0 (f_Text_readNumber_a4 r h).2 → Q (some (.int (f_Text_readNumber_a4 r h).1)) (f_Text_readNumber_a4 r h).2)) ?_ zF p1 0 p1 hs ho.1 ⟨ho.2, hF⟩
  · intro v2_ v3_ z1_ hs hG
    have ho : (f_Text_readNumber_k50_ok v2_ v3_ h) := hG.1
    have hF : (zSh zT0 ((f_Text_readNumber_k50 v2_ v3_ h)).2 → Q (some (.int ((f_Text_readNumber_k50 v2_ v3_ h)).1)) ((f_Text_readNumber_k50 v2_ v3_ h)).2) := hG.2
    exact f_Text_readNumber_k50_t v2_ v3_ h z1_ hs ho hF
theorem zd_98 : zm_cd 98 = zc_98 := by rfl
set_option maxRecDepth 100000 in
set_option maxHeartbeats 400000 in
theorem f_Text_readWord_l2_b_t {x : zm_X} {d : Nat} (v1 : Int32) (v2 : Int32) (h : zm_H) (o3 : Option Value) {Q : Option Value → zm_H → Prop} {FN : Nat × Int32 → Prop} (hs : zSh zT0 h) (ho : f_Text_readWord_l2_b_ok v1 v2 h) (hF : FN (f_Text_readWord_l2_b v1 v2 h)) (hl0 : ∀ (v2 : Int32) (o3 : Option Value), zSh zT0 h → FN (0, v2) → zg x (d + 2) 98 2 [some (.ref 10), some (.int v1), some (.int v2), o3] [] h Q) (hl1 : ∀ (v2 : Int32) (o3 : Option Value), zSh zT0 h → FN (1, v2) → zg x (d + 2) 98 28 [some (.ref 10), some (.int v1), some (.int v2), o3] [] h Q) : zg x (d + 2) 98 2 [some (.ref 10), some (.int v1), some (.int v2), o3] [] h Q := by
  unfold f_Text_readWord_l2_b at hF
  unfold f_Text_readWord_l2_b_ok at ho
  refine zg_blk zd_98 3 hs (rfl : zb x zT0 zc_98 3 (2, [some (.ref 10), some (.int v1), some (.int v2), o3], [], h) = some (7, [some (.ref 10), some (.int v1), some (.int v2), o3], [.int (zf h 10 1), .int v2], h)) (fun hs => ?_)
  refine zg_i_ge zd_98 rfl (fun (hc : ((zf h 10 1) ≤ v2)) => ?_) (fun (hc : ¬ ((zf h 10 1) ≤ v2)) => ?_)
  · have ho := ho.1 hc
    rw [if_pos hc] at hF
    exact hl1 v2 (o3) hs hF
  · have ho := ho.2 hc
    rw [if_neg hc] at hF
    refine zg_blk zd_98 3 hs (rfl : zb x zT0 zc_98 3 (10, [some (.ref 10), some (.int v1), some (.int v2), o3], [], h) = some (15, [some (.ref 10), some (.int v1), some (.int v2), o3], [.int v2, .ref 11], h)) (fun hs => ?_)
    have hob := ho
    refine zg_bal hs zd_98 rfl rfl (by decide) hob ?_
    refine zg_call hs zd_98 rfl rfl rfl rfl (as := [.int (zr h 11 v2)]) (rest := []) (en := [some (.int (zr h 11 v2))]) rfl rfl rfl rfl rfl ?_
    refine f_Text_isLetter_t (zr h 11 v2) h hs trivial ?_
    show zg x (d + 2) 98 19 [some (.ref 10), some (.int v1), some (.int v2), o3] [.int (if (¬ ((zr h 11 v2) < 97) ∧ (¬ (122 < (zr h 11 v2)))) then (1 : Int32) else 0)] h Q
    refine zg_b_eq zd_98 rfl (fun (hc : ¬ (¬ ((zr h 11 v2) < 97) ∧ (¬ (122 < (zr h 11 v2))))) => ?_) (fun (hc : (¬ ((zr h 11 v2) < 97) ∧ (¬ (122 < (zr h 11 v2))))) => ?_)
    · skip
      rw [if_neg hc] at hF
      exact hl1 v2 (o3) hs hF
    · skip
      rw [if_pos hc] at hF
      refine zg_blk zd_98 2 hs (rfl : zb x zT0 zc_98 2 (22, [some (.ref 10), some (.int v1), some (.int v2), o3], [], h) = some (2, [some (.ref 10), some (.int v1), some (.int (v2 + 1)), o3], [], h)) (fun hs => ?_)
      exact hl0 (v2 + 1) (o3) hs hF
theorem f_Text_readWord_l2_t {x : zm_X} {d : Nat} (v1 : Int32) (h : zm_H) {Q : Option Value → zm_H → Prop} (G : Nat × Int32 → Prop) (hx1 : ∀ (v2 : Int32) (o3 : Option Value), zSh zT0 h → G (1, v2) → zg x (d + 2) 98 28 [some (.ref 10), some (.int v1), some (.int v2), o3] [] h Q) : ∀ (n : Nat) (v2 : Int32) (o3 : Option Value), zSh zT0 h → f_Text_readWord_l2_ok v1 h n v2 → G (f_Text_readWord_l2 v1 h n v2) → zg x (d + 2) 98 2 [some (.ref 10), some (.int v1), some (.int v2), o3] [] h Q := by
  intro n
  induction n with
  | zero => intro v2 o3 hs ho hG; exact ho.elim
  | succ n ih =>
    intro v2 o3 hs ho hG
    refine f_Text_readWord_l2_b_t (FN := fun r => (r.1 = 0 → f_Text_readWord_l2_ok v1 h n r.2) ∧ G (if r.1 = 0 then f_Text_readWord_l2 v1 h n r.2 else r)) v1 v2 h o3 hs ho.1 ⟨ho.2, hG⟩ ?_ ?_
    · intro v2 o3 hs hF
      exact ih v2 o3 hs (hF.1 rfl) hF.2
    · intro v2 o3 hs hF
      exact hx1 v2 o3 hs hF.2

theorem zd_109 : zm_cd 109 = zc_109 := by rfl
set_option maxRecDepth 100000 in
set_option maxHeartbeats 400000 in
theorem f_Text_isWord_l13_b_t {x : zm_X} {d : Nat} (v1 : Int32) (v2 : Int32) (v3 : Int32) (v4 : Int32) (h : zm_H) (o5 : Option Value) {Q : Option Value → zm_H → Prop} {FN : Nat × Int32 → Prop} (hs : zSh zT0 h) (ho : f_Text_isWord_l13_b_ok v1 v2 v3 v4 h) (hF : FN (f_Text_isWord_l13_b v1 v2 v3 v4 h)) (hl0 : ∀ (v4 : Int32) (o5 : Option Value), zSh zT0 h → FN (0, v4) → zg x (d + 1) 109 13 [some (.ref 10), some (.int v1), some (.int v2), some (.int v3), some (.int v4), o5] [] h Q) (hl1 : ∀ (v4 : Int32) (o4 : Option Value) (o5 : Option Value), zSh zT0 h → FN (1, v4) → zg x (d + 1) 109 61 [some (.ref 10), some (.int v1), some (.int v2), some (.int v3), o4, o5] [] h Q) (hl2 : ∀ (v4 : Int32) (o4 : Option Value) (o5 : Option Value), zSh zT0 h → FN (2, v4) → zg x (d + 1) 109 69 [some (.ref 10), some (.int v1), some (.int v2), some (.int v3), o4, o5] [] h Q) : zg x (d + 1) 109 13 [some (.ref 10), some (.int v1), some (.int v2), some (.int v3), some (.int v4), o5] [] h Q := by
  unfold f_Text_isWord_l13_b at hF
  unfold f_Text_isWord_l13_b_ok at ho
  refine zg_blk zd_109 2 hs (rfl : zb x zT0 zc_109 2 (13, [some (.ref 10), some (.int v1), some (.int v2), some (.int v3), some (.int v4), o5], [], h) = some (17, [some (.ref 10), some (.int v1), some (.int v2), some (.int v3), some (.int v4), o5], [.int 6, .int v4], h)) (fun hs => ?_)
  refine zg_i_ge zd_109 rfl (fun (hc : (6 ≤ v4)) => ?_) (fun (hc : ¬ (6 ≤ v4)) => ?_)
  · have ho := ho.1 hc
    rw [if_pos hc] at hF
    exact hl2 v4 (some (.int v4)) (o5) hs hF
  · have ho := ho.2 hc
    rw [if_neg hc] at hF
    refine zg_blk zd_109 4 hs (rfl : zb x zT0 zc_109 4 (20, [some (.ref 10), some (.int v1), some (.int v2), some (.int v3), some (.int v4), o5], [], h) = some (25, [some (.ref 10), some (.int v1), some (.int v2), some (.int v3), some (.int v4), o5], [.int v3, .int (v2 + v4)], h)) (fun hs => ?_)
    obtain ⟨hom, ho⟩ := ho
    have K13 : zSh zT0 h → zg x (d + 1) 109 42 [some (.ref 10), some (.int v1), some (.int v2), some (.int v3), some (.int v4), o5] [.int (if (v3 ≤ (v2 + v4)) then (32 : Int32) else (zr h 11 (v2 + v4)))] h Q := fun hs => by
      refine zg_blk zd_109 7 hs (rfl : zb x zT0 zc_109 7 (42, [some (.ref 10), some (.int v1), some (.int v2), some (.int v3), some (.int v4), o5], [.int (if (v3 ≤ (v2 + v4)) then (32 : Int32) else (zr h 11 (v2 + v4)))], h) = some (53, [some (.ref 10), some (.int v1), some (.int v2), some (.int v3), some (.int v4), some (.int (if (v3 ≤ (v2 + v4)) then (32 : Int32) else (zr h 11 (v2 + v4))))], [.int ((v1 * 6) + v4), .ref 2000000], h)) (fun hs => ?_)
      have hob := ho
      refine zg_x zd_109 rfl rfl rfl rfl (as := [.ref 2000000, .int ((v1 * 6) + v4)]) (rest := []) (w := some (.int ((zm_sx 0).getD ((v1 * 6) + v4).toNatClampNeg 0))) rfl rfl (zx_ch0 hob) ?_
      refine zg_blk zd_109 1 hs (rfl : zb x zT0 zc_109 1 (56, [some (.ref 10), some (.int v1), some (.int v2), some (.int v3), some (.int v4), some (.int (if (v3 ≤ (v2 + v4)) then (32 : Int32) else (zr h 11 (v2 + v4))))], [.int ((zm_sx 0).getD ((v1 * 6) + v4).toNatClampNeg 0)], h) = some (58, [some (.ref 10), some (.int v1), some (.int v2), some (.int v3), some (.int v4), some (.int (if (v3 ≤ (v2 + v4)) then (32 : Int32) else (zr h 11 (v2 + v4))))], [.int (if (v3 ≤ (v2 + v4)) then (32 : Int32) else (zr h 11 (v2 + v4))), .int ((zm_sx 0).getD ((v1 * 6) + v4).toNatClampNeg 0)], h)) (fun hs => ?_)
      refine zg_i_eq zd_109 rfl (fun (hc : (((zm_sx 0).getD ((v1 * 6) + v4).toNatClampNeg 0) = (if (v3 ≤ (v2 + v4)) then (32 : Int32) else (zr h 11 (v2 + v4))))) => ?_) (fun (hc : ¬ (((zm_sx 0).getD ((v1 * 6) + v4).toNatClampNeg 0) = (if (v3 ≤ (v2 + v4)) then (32 : Int32) else (zr h 11 (v2 + v4))))) => ?_)
      · skip
        rw [if_pos hc] at hF
        refine zg_blk zd_109 2 hs (rfl : zb x zT0 zc_109 2 (63, [some (.ref 10), some (.int v1), some (.int v2), some (.int v3), some (.int v4), some (.int (if (v3 ≤ (v2 + v4)) then (32 : Int32) else (zr h 11 (v2 + v4))))], [], h) = some (13, [some (.ref 10), some (.int v1), some (.int v2), some (.int v3), some (.int (v4 + 1)), some (.int (if (v3 ≤ (v2 + v4)) then (32 : Int32) else (zr h 11 (v2 + v4))))], [], h)) (fun hs => ?_)
        exact hl0 (v4 + 1) (some (.int (if (v3 ≤ (v2 + v4)) then (32 : Int32) else (zr h 11 (v2 + v4))))) hs hF
      · skip
        rw [if_neg hc] at hF
        exact hl1 v4 (some (.int v4)) (some (.int (if (v3 ≤ (v2 + v4)) then (32 : Int32) else (zr h 11 (v2 + v4))))) hs hF
    refine zg_i_ge zd_109 rfl (fun (hc : (v3 ≤ (v2 + v4))) => ?_) (fun (hc : ¬ (v3 ≤ (v2 + v4))) => ?_)
    · have ho := hom.1 hc
      rw [show ((if (v3 ≤ (v2 + v4)) then (32 : Int32) else (zr h 11 (v2 + v4))) : Int32) = 32 from if_pos hc] at K13
      refine zg_blk zd_109 1 hs (rfl : zb x zT0 zc_109 1 (40, [some (.ref 10), some (.int v1), some (.int v2), some (.int v3), some (.int v4), o5], [], h) = some (42, [some (.ref 10), some (.int v1), some (.int v2), some (.int v3), some (.int v4), o5], [.int 32], h)) (fun hs => ?_)
      exact K13 hs
    · have ho := hom.2 hc
      rw [show ((if (v3 ≤ (v2 + v4)) then (32 : Int32) else (zr h 11 (v2 + v4))) : Int32) = (zr h 11 (v2 + v4)) from if_neg hc] at K13
      refine zg_blk zd_109 5 hs (rfl : zb x zT0 zc_109 5 (28, [some (.ref 10), some (.int v1), some (.int v2), some (.int v3), some (.int v4), o5], [], h) = some (36, [some (.ref 10), some (.int v1), some (.int v2), some (.int v3), some (.int v4), o5], [.int (v2 + v4), .ref 11], h)) (fun hs => ?_)
      have hob := ho
      refine zg_bal hs zd_109 rfl rfl (by decide) hob ?_
      refine zg_blk zd_109 1 hs (rfl : zb x zT0 zc_109 1 (37, [some (.ref 10), some (.int v1), some (.int v2), some (.int v3), some (.int v4), o5], [.int (zr h 11 (v2 + v4))], h) = some (42, [some (.ref 10), some (.int v1), some (.int v2), some (.int v3), some (.int v4), o5], [.int (zr h 11 (v2 + v4))], h)) (fun hs => ?_)
      exact K13 hs
theorem f_Text_isWord_l13_t {x : zm_X} {d : Nat} (v1 : Int32) (v2 : Int32) (v3 : Int32) (h : zm_H) {Q : Option Value → zm_H → Prop} (G : Nat × Int32 → Prop) (hx1 : ∀ (v4 : Int32) (o4 : Option Value) (o5 : Option Value), zSh zT0 h → G (1, v4) → zg x (d + 1) 109 61 [some (.ref 10), some (.int v1), some (.int v2), some (.int v3), o4, o5] [] h Q) (hx2 : ∀ (v4 : Int32) (o4 : Option Value) (o5 : Option Value), zSh zT0 h → G (2, v4) → zg x (d + 1) 109 69 [some (.ref 10), some (.int v1), some (.int v2), some (.int v3), o4, o5] [] h Q) : ∀ (n : Nat) (v4 : Int32) (o5 : Option Value), zSh zT0 h → f_Text_isWord_l13_ok v1 v2 v3 h n v4 → G (f_Text_isWord_l13 v1 v2 v3 h n v4) → zg x (d + 1) 109 13 [some (.ref 10), some (.int v1), some (.int v2), some (.int v3), some (.int v4), o5] [] h Q := by
  intro n
  induction n with
  | zero => intro v4 o5 hs ho hG; exact ho.elim
  | succ n ih =>
    intro v4 o5 hs ho hG
    refine f_Text_isWord_l13_b_t (FN := fun r => (r.1 = 0 → f_Text_isWord_l13_ok v1 v2 v3 h n r.2) ∧ G (if r.1 = 0 then f_Text_isWord_l13 v1 v2 v3 h n r.2 else r)) v1 v2 v3 v4 h o5 hs ho.1 ⟨ho.2, hG⟩ ?_ ?_ ?_
    · intro v4 o5 hs hF
      exact ih v4 o5 hs (hF.1 rfl) hF.2
    · intro v4 o4 o5 hs hF
      exact hx1 v4 o4 o5 hs hF.2
    · intro v4 o4 o5 hs hF
      exact hx2 v4 o4 o5 hs hF.2

set_option maxRecDepth 100000 in
set_option maxHeartbeats 400000 in
theorem f_Text_isWord_k61_t {x : zm_X} {d : Nat} (h : zm_H) (o0 : Option Value) (o1 : Option Value) (o2 : Option Value) (z3 : Int32) (o4 : Option Value) (o5 : Option Value) {Q : Option Value → zm_H → Prop} (hs : zSh zT0 h) (ho : f_Text_isWord_k61_ok h) (hF : Q (some (.int (f_Text_isWord_k61 h))) h) : zg x (d + 1) 109 61 [o0, o1, o2, some (.int z3), o4, o5] [] h Q := by
  unfold f_Text_isWord_k61 at hF
  unfold f_Text_isWord_k61_ok at ho
  refine zg_blk zd_109 1 hs (rfl : zb x zT0 zc_109 1 (61, [o0, o1, o2, some (.int z3), o4, o5], [], h) = some (62, [o0, o1, o2, some (.int z3), o4, o5], [.int 0], h)) (fun hs => ?_)
  exact zg_rtz zd_109 rfl rfl rfl hF
set_option maxRecDepth 100000 in
set_option maxHeartbeats 400000 in
theorem f_Text_isWord_k69_t {x : zm_X} {d : Nat} (h : zm_H) (o0 : Option Value) (o1 : Option Value) (o2 : Option Value) (z3 : Int32) (o4 : Option Value) (o5 : Option Value) {Q : Option Value → zm_H → Prop} (hs : zSh zT0 h) (ho : f_Text_isWord_k69_ok h) (hF : Q (some (.int (f_Text_isWord_k69 h))) h) : zg x (d + 1) 109 69 [o0, o1, o2, some (.int z3), o4, o5] [] h Q := by
  unfold f_Text_isWord_k69 at hF
  unfold f_Text_isWord_k69_ok at ho
  refine zg_blk zd_109 1 hs (rfl : zb x zT0 zc_109 1 (69, [o0, o1, o2, some (.int z3), o4, o5], [], h) = some (70, [o0, o1, o2, some (.int z3), o4, o5], [.int 1], h)) (fun hs => ?_)
  exact zg_rtz zd_109 rfl rfl rfl hF
set_option maxRecDepth 100000 in
set_option maxHeartbeats 400000 in
theorem f_Text_isWord_t {x : zm_X} {d : Nat} (p1 : Int32) (p2 : Int32) (p3 : Int32) (h : zm_H) {Q : Option Value → zm_H → Prop} (hs : zSh zT0 h) (ho : f_Text_isWord_ok p1 p2 p3 h) (hF : Q (some (.int (f_Text_isWord p1 p2 p3 h))) h) : zg x (d + 1) 109 0 [some (.ref 10), some (.int p1), some (.int p2), some (.int p3), none, none] [] h Q := by
  unfold f_Text_isWord at hF
  unfold f_Text_isWord_ok at ho
  refine zg_blk zd_109 4 hs (rfl : zb x zT0 zc_109 4 (0, [some (.ref 10), some (.int p1), some (.int p2), some (.int p3), none, none], [], h) = some (5, [some (.ref 10), some (.int p1), some (.int p2), some (.int p3), none, none], [.int 6, .int (p3 - p2)], h)) (fun hs => ?_)
  refine zg_i_le zd_109 rfl (fun (hc : ((p3 - p2) ≤ 6)) => ?_) (fun (hc : ¬ ((p3 - p2) ≤ 6)) => ?_)
  · have ho := ho.1 hc
    rw [if_pos hc] at hF
    refine zg_blk zd_109 2 hs (rfl : zb x zT0 zc_109 2 (10, [some (.ref 10), some (.int p1), some (.int p2), some (.int p3), none, none], [], h) = some (13, [some (.ref 10), some (.int p1), some (.int p2), some (.int p3), some (.int 0), none], [], h)) (fun hs => ?_)
    refine f_Text_isWord_l13_t p1 p2 p3 h (fun r => f_Text_isWord_a13_ok r h ∧ Q (some (.int (f_Text_isWord_a13 r h))) h) ?_ ?_ zF 0 (none) hs ho.1 ⟨ho.2, hF⟩
    · intro v4_ o4_ o5_ hs hG
      have ho : True := trivial
      have hF : Q (some (.int ((f_Text_isWord_k61 h)))) h := hG.2
      exact f_Text_isWord_k61_t h (some (.ref 10)) (some (.int p1)) (some (.int p2)) p3 (o4_) (o5_) hs trivial hF
    · intro v4_ o4_ o5_ hs hG
      have ho : True := trivial
      have hF : Q (some (.int ((f_Text_isWord_k69 h)))) h := hG.2
      exact f_Text_isWord_k69_t h (some (.ref 10)) (some (.int p1)) (some (.int p2)) p3 (o4_) (o5_) hs trivial hF
  · have ho := ho.2 hc
    rw [if_neg hc] at hF
    refine zg_blk zd_109 1 hs (rfl : zb x zT0 zc_109 1 (8, [some (.ref 10), some (.int p1), some (.int p2), some (.int p3), none, none], [], h) = some (9, [some (.ref 10), some (.int p1), some (.int p2), some (.int p3), none, none], [.int 0], h)) (fun hs => ?_)
    exact zg_rtz zd_109 rfl rfl rfl hF
set_option maxRecDepth 100000 in
set_option maxHeartbeats 400000 in
theorem f_Text_readWord_l42_b_t {x : zm_X} {d : Nat} (v1 : Int32) (v2 : Int32) (v3 : Int32) (h : zm_H) {Q : Option Value → zm_H → Prop} {FN : Nat × Int32 × zm_H → Prop} (hs : zSh zT0 h) (ho : f_Text_readWord_l42_b_ok v1 v2 v3 h) (hF : FN (f_Text_readWord_l42_b v1 v2 v3 h)) (hl0 : ∀ (v3 : Int32) (h : zm_H), zSh zT0 h → FN (0, v3, h) → zg x (d + 2) 98 42 [some (.ref 10), some (.int v1), some (.int v2), some (.int v3)] [] h Q) (hl1 : ∀ (v3 : Int32) (h : zm_H) (o3 : Option Value), zSh zT0 h → FN (1, v3, h) → zg x (d + 2) 98 78 [some (.ref 10), some (.int v1), some (.int v2), o3] [] h Q) : zg x (d + 2) 98 42 [some (.ref 10), some (.int v1), some (.int v2), some (.int v3)] [] h Q := by
  unfold f_Text_readWord_l42_b at hF
  unfold f_Text_readWord_l42_b_ok at ho
  refine zg_blk zd_98 2 hs (rfl : zb x zT0 zc_98 2 (42, [some (.ref 10), some (.int v1), some (.int v2), some (.int v3)], [], h) = some (45, [some (.ref 10), some (.int v1), some (.int v2), some (.int v3)], [.int 16, .int v3], h)) (fun hs => ?_)
  refine zg_i_ge zd_98 rfl (fun (hc : (16 ≤ v3)) => ?_) (fun (hc : ¬ (16 ≤ v3)) => ?_)
  · have ho := ho.1 hc
    rw [if_pos hc] at hF
    exact hl1 v3 h (some (.int v3)) hs hF
  · have ho := ho.2 hc
    rw [if_neg hc] at hF
    refine zg_blk zd_98 4 hs (rfl : zb x zT0 zc_98 4 (48, [some (.ref 10), some (.int v1), some (.int v2), some (.int v3)], [], h) = some (52, [some (.ref 10), some (.int v1), some (.int v2), some (.int v3)], [.int v2, .int v1, .int v3, .ref 10], h)) (fun hs => ?_)
    obtain ⟨hob, ho⟩ := ho
    refine zg_call hs zd_98 rfl rfl rfl rfl (as := [.ref 10, .int v3, .int v1, .int v2]) (rest := []) (en := [some (.ref 10), some (.int v3), some (.int v1), some (.int v2), none, none]) rfl rfl rfl rfl rfl ?_
    refine f_Text_isWord_t v3 v1 v2 h hs hob ?_
    show zg x (d + 2) 98 55 [some (.ref 10), some (.int v1), some (.int v2), some (.int v3)] [.int (f_Text_isWord v3 v1 v2 h)] h Q
    have hom := ho
    have K14 : zSh zT0 (if ((f_Text_isWord v3 v1 v2 h) = 0) then h else (zs h 162 (zf h 10 6) (300 + v3))) → zg x (d + 2) 98 72 [some (.ref 10), some (.int v1), some (.int v2), some (.int v3)] [] (if ((f_Text_isWord v3 v1 v2 h) = 0) then h else (zs h 162 (zf h 10 6) (300 + v3))) Q := fun hs => by
      refine zg_blk zd_98 2 hs (rfl : zb x zT0 zc_98 2 (72, [some (.ref 10), some (.int v1), some (.int v2), some (.int v3)], [], (if ((f_Text_isWord v3 v1 v2 h) = 0) then h else (zs h 162 (zf h 10 6) (300 + v3)))) = some (42, [some (.ref 10), some (.int v1), some (.int v2), some (.int (v3 + 1))], [], (if ((f_Text_isWord v3 v1 v2 h) = 0) then h else (zs h 162 (zf h 10 6) (300 + v3))))) (fun hs => ?_)
      exact hl0 (v3 + 1) (if ((f_Text_isWord v3 v1 v2 h) = 0) then h else (zs h 162 (zf h 10 6) (300 + v3))) hs hF
    refine zg_f_eq zd_98 rfl (fun (hc : ((f_Text_isWord v3 v1 v2 h) = 0)) => ?_) (fun (hc : ¬ ((f_Text_isWord v3 v1 v2 h) = 0)) => ?_)
    · have ho := hom.1 hc
      rw [show (if ((f_Text_isWord v3 v1 v2 h) = 0) then h else (zs h 162 (zf h 10 6) (300 + v3))) = h from if_pos hc] at K14
      exact K14 hs
    · have ho := hom.2 hc
      rw [show (if ((f_Text_isWord v3 v1 v2 h) = 0) then h else (zs h 162 (zf h 10 6) (300 + v3))) = (zs h 162 (zf h 10 6) (300 + v3)) from if_neg hc] at K14
      refine zg_blk zd_98 7 hs (rfl : zb x zT0 zc_98 7 (58, [some (.ref 10), some (.int v1), some (.int v2), some (.int v3)], [], h) = some (71, [some (.ref 10), some (.int v1), some (.int v2), some (.int v3)], [.int (300 + v3), .int (zf h 10 6), .ref 162], h)) (fun hs => ?_)
      have hob := ho
      refine zg_ias hs zd_98 rfl rfl hob (fun hs => ?_)
      exact K14 hs
theorem f_Text_readWord_l42_t {x : zm_X} {d : Nat} (v1 : Int32) (v2 : Int32) {Q : Option Value → zm_H → Prop} (G : Nat × Int32 × zm_H → Prop) (hx1 : ∀ (v3 : Int32) (h : zm_H) (o3 : Option Value), zSh zT0 h → G (1, v3, h) → zg x (d + 2) 98 78 [some (.ref 10), some (.int v1), some (.int v2), o3] [] h Q) : ∀ (n : Nat) (v3 : Int32) (h : zm_H), zSh zT0 h → f_Text_readWord_l42_ok v1 v2 n (v3, h) → G (f_Text_readWord_l42 v1 v2 n (v3, h)) → zg x (d + 2) 98 42 [some (.ref 10), some (.int v1), some (.int v2), some (.int v3)] [] h Q := by
  intro n
  induction n with
  | zero => intro v3 h hs ho hG; exact ho.elim
  | succ n ih =>
    intro v3 h hs ho hG
    refine f_Text_readWord_l42_b_t (FN := fun r => (r.1 = 0 → f_Text_readWord_l42_ok v1 v2 n r.2) ∧ G (if r.1 = 0 then f_Text_readWord_l42 v1 v2 n r.2 else r)) v1 v2 v3 h hs ho.1 ⟨ho.2, hG⟩ ?_ ?_
    · intro v3 h hs hF
      exact ih v3 h hs (hF.1 rfl) hF.2
    · intro v3 h o3 hs hF
      exact hx1 v3 h o3 hs hF.2

set_option maxRecDepth 100000 in
set_option maxHeartbeats 400000 in
theorem f_Text_readWord_k78_t {x : zm_X} {d : Nat} (v2 : Int32) (h : zm_H) (o0 : Option Value) (z1 : Int32) (o3 : Option Value) {Q : Option Value → zm_H → Prop} (hs : zSh zT0 h) (ho : f_Text_readWord_k78_ok v2 h) (hF : (zSh zT0 (f_Text_readWord_k78 v2 h).2 → Q (some (.int (f_Text_readWord_k78 v2 h).1)) (f_Text_readWord_k78 v2 h).2)) : zg x (d + 2) 98 78 [o0, some (.int z1), some (.int v2), o3] [] h Q := by
  unfold f_Text_readWord_k78 at hF
  unfold f_Text_readWord_k78_ok at ho
  refine zg_blk zd_98 1 hs (rfl : zb x zT0 zc_98 1 (78, [o0, some (.int z1), some (.int v2), o3], [], h) = some (79, [o0, some (.int z1), some (.int v2), o3], [.int v2], h)) (fun hs => ?_)
  exact zg_ret zd_98 rfl rfl (hF hs)
set_option maxRecDepth 100000 in
set_option maxHeartbeats 400000 in
theorem f_Text_readWord_k28_t {x : zm_X} {d : Nat} (v1 : Int32) (v2 : Int32) (h : zm_H) (o3 : Option Value) {Q : Option Value → zm_H → Prop} (hs : zSh zT0 h) (ho : f_Text_readWord_k28_ok v1 v2 h) (hF : (zSh zT0 (f_Text_readWord_k28 v1 v2 h).2 → Q (some (.int (f_Text_readWord_k28 v1 v2 h).1)) (f_Text_readWord_k28 v1 v2 h).2)) : zg x (d + 2) 98 28 [some (.ref 10), some (.int v1), some (.int v2), o3] [] h Q := by
  unfold f_Text_readWord_k28 at hF
  unfold f_Text_readWord_k28_ok at ho
  refine zg_blk zd_98 5 hs (rfl : zb x zT0 zc_98 5 (28, [some (.ref 10), some (.int v1), some (.int v2), o3], [], h) = some (39, [some (.ref 10), some (.int v1), some (.int v2), o3], [.int 316, .int (zf h 10 6), .ref 162], h)) (fun hs => ?_)
  obtain ⟨hob, ho⟩ := ho
  refine zg_ias hs zd_98 rfl rfl hob (fun hs => ?_)
  refine zg_blk zd_98 2 hs (rfl : zb x zT0 zc_98 2 (40, [some (.ref 10), some (.int v1), some (.int v2), o3], [], (zs h 162 (zf h 10 6) 316)) = some (42, [some (.ref 10), some (.int v1), some (.int v2), some (.int 0)], [], (zs h 162 (zf h 10 6) 316))) (fun hs => ?_)
  refine f_Text_readWord_l42_t v1 v2 (fun r => f_Text_readWord_a42_ok v2 r ∧ (zSh zT0 (f_Text_readWord_a42 v2 r).2 → Q (some (.int (f_Text_readWord_a42 v2 r).1)) (f_Text_readWord_a42 v2 r).2)) ?_ zF 0 (zs h 162 (zf h 10 6) 316) hs ho.1 ⟨ho.2, hF⟩
  · intro v3_ h_ o3_ hs hG
    have ho : True := trivial
    have hF : (zSh zT0 ((f_Text_readWord_k78 v2 h_)).2 → Q (some (.int ((f_Text_readWord_k78 v2 h_)).1)) ((f_Text_readWord_k78 v2 h_)).2) := hG.2
    exact f_Text_readWord_k78_t v2 h_ (some (.ref 10)) v1 (o3_) hs trivial hF
set_option maxRecDepth 100000 in
set_option maxHeartbeats 400000 in
theorem f_Text_readWord_t {x : zm_X} {d : Nat} (p1 : Int32) (h : zm_H) {Q : Option Value → zm_H → Prop} (hs : zSh zT0 h) (ho : f_Text_readWord_ok p1 h) (hF : (zSh zT0 (f_Text_readWord p1 h).2 → Q (some (.int (f_Text_readWord p1 h).1)) (f_Text_readWord p1 h).2)) : zg x (d + 2) 98 0 [some (.ref 10), some (.int p1), none, none] [] h Q := by
  unfold f_Text_readWord at hF
  unfold f_Text_readWord_ok at ho
  refine zg_blk zd_98 2 hs (rfl : zb x zT0 zc_98 2 (0, [some (.ref 10), some (.int p1), none, none], [], h) = some (2, [some (.ref 10), some (.int p1), some (.int p1), none], [], h)) (fun hs => ?_)
  refine f_Text_readWord_l2_t p1 h (fun r => f_Text_readWord_a2_ok p1 r h ∧ (zSh zT0 (f_Text_readWord_a2 p1 r h).2 → Q (some (.int (f_Text_readWord_a2 p1 r h).1)) (f_Text_readWord_a2 p1 r h).2)) ?_ zF p1 (none) hs ho.1 ⟨ho.2, hF⟩
  · intro v2_ o3_ hs hG
    have ho : (f_Text_readWord_k28_ok p1 v2_ h) := hG.1
    have hF : (zSh zT0 ((f_Text_readWord_k28 p1 v2_ h)).2 → Q (some (.int ((f_Text_readWord_k28 p1 v2_ h)).1)) ((f_Text_readWord_k28 p1 v2_ h)).2) := hG.2
    exact f_Text_readWord_k28_t p1 v2_ h (o3_) hs ho hF
set_option maxRecDepth 100000 in
set_option maxHeartbeats 400000 in
theorem f_Text_readToken_t {x : zm_X} {d : Nat} (p1 : Int32) (h : zm_H) {Q : Option Value → zm_H → Prop} (hs : zSh zT0 h) (ho : f_Text_readToken_ok p1 h) (hF : (zSh zT0 (f_Text_readToken p1 h).2 → Q (some (.int (f_Text_readToken p1 h).1)) (f_Text_readToken p1 h).2)) : zg x (d + 3) 96 0 [some (.ref 10), some (.int p1), none] [] h Q := by
  unfold f_Text_readToken at hF
  unfold f_Text_readToken_ok at ho
  refine zg_blk zd_96 3 hs (rfl : zb x zT0 zc_96 3 (0, [some (.ref 10), some (.int p1), none], [], h) = some (5, [some (.ref 10), some (.int p1), none], [.int p1, .ref 11], h)) (fun hs => ?_)
  obtain ⟨hob, ho⟩ := ho
  refine zg_bal hs zd_96 rfl rfl (by decide) hob ?_
  refine zg_call hs zd_96 rfl rfl rfl rfl (as := [.int (zr h 11 p1)]) (rest := []) (en := [some (.int (zr h 11 p1))]) rfl rfl rfl rfl rfl ?_
  refine f_Text_isLetter_t (zr h 11 p1) h hs trivial ?_
  show zg x (d + 3) 96 9 [some (.ref 10), some (.int p1), none] [.int (if (¬ ((zr h 11 p1) < 97) ∧ (¬ (122 < (zr h 11 p1)))) then (1 : Int32) else 0)] h Q
  refine zg_b_eq zd_96 rfl (fun (hc : ¬ (¬ ((zr h 11 p1) < 97) ∧ (¬ (122 < (zr h 11 p1))))) => ?_) (fun (hc : (¬ ((zr h 11 p1) < 97) ∧ (¬ (122 < (zr h 11 p1))))) => ?_)
  · have ho := ho.2 hc
    rw [if_neg hc] at hF
    refine zg_blk zd_96 3 hs (rfl : zb x zT0 zc_96 3 (18, [some (.ref 10), some (.int p1), none], [], h) = some (23, [some (.ref 10), some (.int p1), none], [.int p1, .ref 11], h)) (fun hs => ?_)
    obtain ⟨hob, ho⟩ := ho
    refine zg_bal hs zd_96 rfl rfl (by decide) hob ?_
    refine zg_call hs zd_96 rfl rfl rfl rfl (as := [.int (zr h 11 p1)]) (rest := []) (en := [some (.int (zr h 11 p1))]) rfl rfl rfl rfl rfl ?_
    refine f_Text_isDigit_t (zr h 11 p1) h hs trivial ?_
    show zg x (d + 3) 96 27 [some (.ref 10), some (.int p1), none] [.int (if (¬ ((zr h 11 p1) < 48) ∧ (¬ (57 < (zr h 11 p1)))) then (1 : Int32) else 0)] h Q
    refine zg_b_eq zd_96 rfl (fun (hc : ¬ (¬ ((zr h 11 p1) < 48) ∧ (¬ (57 < (zr h 11 p1))))) => ?_) (fun (hc : (¬ ((zr h 11 p1) < 48) ∧ (¬ (57 < (zr h 11 p1))))) => ?_)
    · have ho := ho.2 hc
      rw [if_neg hc] at hF
      refine zg_blk zd_96 3 hs (rfl : zb x zT0 zc_96 3 (36, [some (.ref 10), some (.int p1), none], [], h) = some (41, [some (.ref 10), some (.int p1), none], [.int p1, .ref 11], h)) (fun hs => ?_)
      obtain ⟨hob, ho⟩ := ho
      refine zg_bal hs zd_96 rfl rfl (by decide) hob ?_
      refine zg_blk zd_96 10 hs (rfl : zb x zT0 zc_96 10 (42, [some (.ref 10), some (.int p1), none], [.int (zr h 11 p1)], h) = some (59, [some (.ref 10), some (.int p1), some (.int ((zr h 11 p1) &&& 255))], [.int (zm_cb ((zr h 11 p1) &&& 255)), .ref 2000001, .int (zf h 10 6), .ref 162], h)) (fun hs => ?_)
      refine zg_x zd_96 rfl rfl rfl rfl (as := [.ref 2000001, .int (zm_cb ((zr h 11 p1) &&& 255))]) (rest := [.int (zf h 10 6), .ref 162]) (w := some (.int (zm_ixf (zm_cb ((zr h 11 p1) &&& 255)) (zm_sx 1) 0))) rfl rfl rfl ?_
      have K15 : zSh zT0 h → zg x (d + 3) 96 72 [some (.ref 10), some (.int p1), some (.int ((zr h 11 p1) &&& 255))] [.int (if ((zm_ixf (zm_cb ((zr h 11 p1) &&& 255)) (zm_sx 1) 0) < 0) then (258 : Int32) else ((zr h 11 p1) &&& 255)), .int (zf h 10 6), .ref 162] h Q := fun hs => by
        have hob := ho
        refine zg_ias hs zd_96 rfl rfl hob (fun hs => ?_)
        refine zg_blk zd_96 3 hs (rfl : zb x zT0 zc_96 3 (73, [some (.ref 10), some (.int p1), some (.int ((zr h 11 p1) &&& 255))], [], (zs h 162 (zf h 10 6) (if ((zm_ixf (zm_cb ((zr h 11 p1) &&& 255)) (zm_sx 1) 0) < 0) then (258 : Int32) else ((zr h 11 p1) &&& 255)))) = some (76, [some (.ref 10), some (.int p1), some (.int ((zr h 11 p1) &&& 255))], [.int (p1 + 1)], (zs h 162 (zf h 10 6) (if ((zm_ixf (zm_cb ((zr h 11 p1) &&& 255)) (zm_sx 1) 0) < 0) then (258 : Int32) else ((zr h 11 p1) &&& 255))))) (fun hs => ?_)
        exact zg_ret zd_96 rfl rfl (hF hs)
      refine zg_f_lt zd_96 rfl (fun (hc : ((zm_ixf (zm_cb ((zr h 11 p1) &&& 255)) (zm_sx 1) 0) < 0)) => ?_) (fun (hc : ¬ ((zm_ixf (zm_cb ((zr h 11 p1) &&& 255)) (zm_sx 1) 0) < 0)) => ?_)
      · skip
        rw [show ((if ((zm_ixf (zm_cb ((zr h 11 p1) &&& 255)) (zm_sx 1) 0) < 0) then (258 : Int32) else ((zr h 11 p1) &&& 255)) : Int32) = 258 from if_pos hc] at K15
        refine zg_blk zd_96 1 hs (rfl : zb x zT0 zc_96 1 (69, [some (.ref 10), some (.int p1), some (.int ((zr h 11 p1) &&& 255))], [.int (zf h 10 6), .ref 162], h) = some (72, [some (.ref 10), some (.int p1), some (.int ((zr h 11 p1) &&& 255))], [.int 258, .int (zf h 10 6), .ref 162], h)) (fun hs => ?_)
        exact K15 hs
      · skip
        rw [show ((if ((zm_ixf (zm_cb ((zr h 11 p1) &&& 255)) (zm_sx 1) 0) < 0) then (258 : Int32) else ((zr h 11 p1) &&& 255)) : Int32) = ((zr h 11 p1) &&& 255) from if_neg hc] at K15
        refine zg_blk zd_96 2 hs (rfl : zb x zT0 zc_96 2 (65, [some (.ref 10), some (.int p1), some (.int ((zr h 11 p1) &&& 255))], [.int (zf h 10 6), .ref 162], h) = some (72, [some (.ref 10), some (.int p1), some (.int ((zr h 11 p1) &&& 255))], [.int ((zr h 11 p1) &&& 255), .int (zf h 10 6), .ref 162], h)) (fun hs => ?_)
        exact K15 hs
    · have ho := ho.1 hc
      rw [if_pos hc] at hF
      refine zg_blk zd_96 2 hs (rfl : zb x zT0 zc_96 2 (30, [some (.ref 10), some (.int p1), none], [], h) = some (32, [some (.ref 10), some (.int p1), none], [.int p1, .ref 10], h)) (fun hs => ?_)
      have hob := ho
      refine zg_call hs zd_96 rfl rfl rfl rfl (as := [.ref 10, .int p1]) (rest := []) (en := [some (.ref 10), some (.int p1), none, none]) rfl rfl rfl rfl rfl ?_
      refine f_Text_readNumber_t p1 h hs hob (fun hs => ?_)
      show zg x (d + 3) 96 35 [some (.ref 10), some (.int p1), none] [.int (f_Text_readNumber p1 h).1] (f_Text_readNumber p1 h).2 Q
      exact zg_ret zd_96 rfl rfl (hF hs)
  · have ho := ho.1 hc
    rw [if_pos hc] at hF
    refine zg_blk zd_96 2 hs (rfl : zb x zT0 zc_96 2 (12, [some (.ref 10), some (.int p1), none], [], h) = some (14, [some (.ref 10), some (.int p1), none], [.int p1, .ref 10], h)) (fun hs => ?_)
    have hob := ho
    refine zg_call hs zd_96 rfl rfl rfl rfl (as := [.ref 10, .int p1]) (rest := []) (en := [some (.ref 10), some (.int p1), none, none]) rfl rfl rfl rfl rfl ?_
    refine f_Text_readWord_t p1 h hs hob (fun hs => ?_)
    show zg x (d + 3) 96 17 [some (.ref 10), some (.int p1), none] [.int (f_Text_readWord p1 h).1] (f_Text_readWord p1 h).2 Q
    exact zg_ret zd_96 rfl rfl (hF hs)
set_option maxRecDepth 100000 in
set_option maxHeartbeats 400000 in
theorem f_Text_readTokens_l9_k48_t {x : zm_X} {d : Nat} (v2 : Int32) (w0 : Int32) (h : zm_H) (o1 : Option Value) {Q : Option Value → zm_H → Prop} {FN : Nat × Int32 × Int32 × zm_H → Prop} (hs : zSh zT0 h) (ho : f_Text_readTokens_l9_k48_ok v2 w0 h) (hF : FN (f_Text_readTokens_l9_k48 v2 w0 h)) (hl0 : ∀ (v1 : Int32) (v2 : Int32) (h : zm_H), zSh zT0 h → FN (0, v1, v2, h) → zg x (d + 4) 95 9 [some (.ref 10), some (.int v1), some (.int v2)] [] h Q) (hl1 : ∀ (v1 : Int32) (v2 : Int32) (h : zm_H) (o1 : Option Value) (o2 : Option Value), zSh zT0 h → FN (1, v1, v2, h) → zg x (d + 4) 95 65 [some (.ref 10), o1, o2] [] h Q) : zg x (d + 4) 95 48 [some (.ref 10), o1, some (.int v2)] [.int w0] h Q := by
  unfold f_Text_readTokens_l9_k48 at hF
  unfold f_Text_readTokens_l9_k48_ok at ho
  refine zg_blk zd_95 7 hs (rfl : zb x zT0 zc_95 7 (48, [some (.ref 10), o1, some (.int v2)], [.int w0], h) = some (59, [some (.ref 10), some (.int w0), some (.int v2)], [], (zp h 10 6 ((zf h 10 6) + 1)))) (fun hs => ?_)
  exact f_Text_readTokens_l9_k59_t w0 v2 (zp h 10 6 ((zf h 10 6) + 1)) hs trivial hF hl0 hl1
set_option maxRecDepth 100000 in
set_option maxHeartbeats 400000 in
theorem f_Text_readTokens_l9_b_t {x : zm_X} {d : Nat} (v1 : Int32) (v2 : Int32) (h : zm_H) {Q : Option Value → zm_H → Prop} {FN : Nat × Int32 × Int32 × zm_H → Prop} (hs : zSh zT0 h) (ho : f_Text_readTokens_l9_b_ok v1 v2 h) (hF : FN (f_Text_readTokens_l9_b v1 v2 h)) (hl0 : ∀ (v1 : Int32) (v2 : Int32) (h : zm_H), zSh zT0 h → FN (0, v1, v2, h) → zg x (d + 4) 95 9 [some (.ref 10), some (.int v1), some (.int v2)] [] h Q) (hl1 : ∀ (v1 : Int32) (v2 : Int32) (h : zm_H) (o1 : Option Value) (o2 : Option Value), zSh zT0 h → FN (1, v1, v2, h) → zg x (d + 4) 95 65 [some (.ref 10), o1, o2] [] h Q) : zg x (d + 4) 95 9 [some (.ref 10), some (.int v1), some (.int v2)] [] h Q := by
  unfold f_Text_readTokens_l9_b at hF
  unfold f_Text_readTokens_l9_b_ok at ho
  refine zg_blk zd_95 3 hs (rfl : zb x zT0 zc_95 3 (9, [some (.ref 10), some (.int v1), some (.int v2)], [], h) = some (14, [some (.ref 10), some (.int v1), some (.int v2)], [.int (zf h 10 1), .int v2], h)) (fun hs => ?_)
  refine zg_i_ge zd_95 rfl (fun (hc : ((zf h 10 1) ≤ v2)) => ?_) (fun (hc : ¬ ((zf h 10 1) ≤ v2)) => ?_)
  · have ho := ho.1 hc
    rw [if_pos hc] at hF
    exact hl1 v1 v2 h (some (.int v1)) (some (.int v2)) hs hF
  · have ho := ho.2 hc
    rw [if_neg hc] at hF
    refine zg_blk zd_95 2 hs (rfl : zb x zT0 zc_95 2 (17, [some (.ref 10), some (.int v1), some (.int v2)], [], h) = some (19, [some (.ref 10), some (.int v1), some (.int v2)], [.int v1, .int v2], h)) (fun hs => ?_)
    refine zg_i_lt zd_95 rfl (fun (hc : (v2 < v1)) => ?_) (fun (hc : ¬ (v2 < v1)) => ?_)
    · have ho := ho.1 hc
      rw [if_pos hc] at hF
      exact f_Text_readTokens_l9_k59_t v1 v2 h hs trivial hF hl0 hl1
    · have ho := ho.2 hc
      rw [if_neg hc] at hF
      refine zg_blk zd_95 3 hs (rfl : zb x zT0 zc_95 3 (22, [some (.ref 10), some (.int v1), some (.int v2)], [], h) = some (27, [some (.ref 10), some (.int v1), some (.int v2)], [.int v2, .ref 11], h)) (fun hs => ?_)
      obtain ⟨hob, ho⟩ := ho
      refine zg_bal hs zd_95 rfl rfl (by decide) hob ?_
      refine zg_blk zd_95 1 hs (rfl : zb x zT0 zc_95 1 (28, [some (.ref 10), some (.int v1), some (.int v2)], [.int (zr h 11 v2)], h) = some (30, [some (.ref 10), some (.int v1), some (.int v2)], [.int 32, .int (zr h 11 v2)], h)) (fun hs => ?_)
      refine zg_i_eq zd_95 rfl (fun (hc : ((zr h 11 v2) = 32)) => ?_) (fun (hc : ¬ ((zr h 11 v2) = 32)) => ?_)
      · have ho := ho.1 hc
        rw [if_pos hc] at hF
        exact f_Text_readTokens_l9_k59_t v1 v2 h hs trivial hF hl0 hl1
      · have ho := ho.2 hc
        rw [if_neg hc] at hF
        refine zg_blk zd_95 5 hs (rfl : zb x zT0 zc_95 5 (33, [some (.ref 10), some (.int v1), some (.int v2)], [], h) = some (42, [some (.ref 10), some (.int v1), some (.int v2)], [.int v2, .int (zf h 10 6), .ref 163], h)) (fun hs => ?_)
        obtain ⟨hob, ho⟩ := ho
        refine zg_ias hs zd_95 rfl rfl hob (fun hs => ?_)
        refine zg_blk zd_95 2 hs (rfl : zb x zT0 zc_95 2 (43, [some (.ref 10), some (.int v1), some (.int v2)], [], (zs h 163 (zf h 10 6) v2)) = some (45, [some (.ref 10), some (.int v1), some (.int v2)], [.int v2, .ref 10], (zs h 163 (zf h 10 6) v2))) (fun hs => ?_)
        have hob := ho
        refine zg_call hs zd_95 rfl rfl rfl rfl (as := [.ref 10, .int v2]) (rest := []) (en := [some (.ref 10), some (.int v2), none]) rfl rfl rfl rfl rfl ?_
        refine f_Text_readToken_t v2 (zs h 163 (zf h 10 6) v2) hs hob (fun hs => ?_)
        show zg x (d + 4) 95 48 [some (.ref 10), some (.int v1), some (.int v2)] [.int (f_Text_readToken v2 (zs h 163 (zf h 10 6) v2)).1] (f_Text_readToken v2 (zs h 163 (zf h 10 6) v2)).2 Q
        exact f_Text_readTokens_l9_k48_t v2 (f_Text_readToken v2 (zs h 163 (zf h 10 6) v2)).1 (f_Text_readToken v2 (zs h 163 (zf h 10 6) v2)).2 (some (.int v1)) hs trivial hF hl0 hl1
theorem f_Text_readTokens_l9_t {x : zm_X} {d : Nat} {Q : Option Value → zm_H → Prop} (G : Nat × Int32 × Int32 × zm_H → Prop) (hx1 : ∀ (v1 : Int32) (v2 : Int32) (h : zm_H) (o1 : Option Value) (o2 : Option Value), zSh zT0 h → G (1, v1, v2, h) → zg x (d + 4) 95 65 [some (.ref 10), o1, o2] [] h Q) : ∀ (n : Nat) (v1 : Int32) (v2 : Int32) (h : zm_H), zSh zT0 h → f_Text_readTokens_l9_ok n (v1, v2, h) → G (f_Text_readTokens_l9 n (v1, v2, h)) → zg x (d + 4) 95 9 [some (.ref 10), some (.int v1), some (.int v2)] [] h Q := by
  intro n
  induction n with
  | zero => intro v1 v2 h hs ho hG; exact ho.elim
  | succ n ih =>
    intro v1 v2 h hs ho hG
    refine f_Text_readTokens_l9_b_t (FN := fun r => (r.1 = 0 → f_Text_readTokens_l9_ok n r.2) ∧ G (if r.1 = 0 then f_Text_readTokens_l9 n r.2 else r)) v1 v2 h hs ho.1 ⟨ho.2, hG⟩ ?_ ?_
    · intro v1 v2 h hs hF
      exact ih v1 v2 h hs (hF.1 rfl) hF.2
    · intro v1 v2 h o1 o2 hs hF
      exact hx1 v1 v2 h o1 o2 hs hF.2

set_option maxRecDepth 100000 in
set_option maxHeartbeats 400000 in
theorem f_Text_readTokens_k65_t {x : zm_X} {d : Nat} (h : zm_H) (o1 : Option Value) (o2 : Option Value) {Q : Option Value → zm_H → Prop} (hs : zSh zT0 h) (ho : f_Text_readTokens_k65_ok h) (hF : (zSh zT0 (f_Text_readTokens_k65 h) → Q none (f_Text_readTokens_k65 h))) : zg x (d + 4) 95 65 [some (.ref 10), o1, o2] [] h Q := by
  unfold f_Text_readTokens_k65 at hF
  unfold f_Text_readTokens_k65_ok at ho
  refine zg_blk zd_95 5 hs (rfl : zb x zT0 zc_95 5 (65, [some (.ref 10), o1, o2], [], h) = some (76, [some (.ref 10), o1, o2], [.int 257, .int (zf h 10 6), .ref 162], h)) (fun hs => ?_)
  obtain ⟨hob, ho⟩ := ho
  refine zg_ias hs zd_95 rfl rfl hob (fun hs => ?_)
  refine zg_blk zd_95 6 hs (rfl : zb x zT0 zc_95 6 (77, [some (.ref 10), o1, o2], [], (zs h 162 (zf h 10 6) 257)) = some (89, [some (.ref 10), o1, o2], [.int (zf h 10 1), .int (zf h 10 6), .ref 163], (zs h 162 (zf h 10 6) 257))) (fun hs => ?_)
  have hob := ho
  refine zg_ias hs zd_95 rfl rfl hob (fun hs => ?_)
  exact zg_ret zd_95 rfl rfl (hF hs)
set_option maxRecDepth 100000 in
set_option maxHeartbeats 400000 in
theorem f_Text_readTokens_t {x : zm_X} {d : Nat} (h : zm_H) {Q : Option Value → zm_H → Prop} (hs : zSh zT0 h) (ho : f_Text_readTokens_ok h) (hF : (zSh zT0 (f_Text_readTokens h) → Q none (f_Text_readTokens h))) : zg x (d + 4) 95 0 [some (.ref 10), none, none] [] h Q := by
  unfold f_Text_readTokens at hF
  unfold f_Text_readTokens_ok at ho
  refine zg_blk zd_95 7 hs (rfl : zb x zT0 zc_95 7 (0, [some (.ref 10), none, none], [], h) = some (9, [some (.ref 10), some (.int 0), some (.int 0)], [], (zp h 10 6 0))) (fun hs => ?_)
  refine f_Text_readTokens_l9_t  (fun r => f_Text_readTokens_a9_ok r ∧ (zSh zT0 (f_Text_readTokens_a9 r) → Q none (f_Text_readTokens_a9 r))) ?_ zF 0 0 (zp h 10 6 0) hs ho.1 ⟨ho.2, hF⟩
  · intro v1_ v2_ h_ o1_ o2_ hs hG
    have ho : (f_Text_readTokens_k65_ok h_) := hG.1
    have hF : (zSh zT0 ((f_Text_readTokens_k65 h_)) → Q none ((f_Text_readTokens_k65 h_))) := hG.2
    exact f_Text_readTokens_k65_t h_ (o1_) (o2_) hs ho hF
theorem zd_99 : zm_cd 99 = zc_99 := by rfl
theorem zd_100 : zm_cd 100 = zc_100 := by rfl
set_option maxRecDepth 100000 in
set_option maxHeartbeats 400000 in
theorem f_Text_refuse_t {x : zm_X} {d : Nat} (h : zm_H) {Q : Option Value → zm_H → Prop} (hs : zSh zT0 h) (ho : f_Text_refuse_ok h) (hF : (zSh zT0 (f_Text_refuse h) → Q none (f_Text_refuse h))) : zg x (d + 1) 100 0 [some (.ref 10)] [] h Q := by
  unfold f_Text_refuse at hF
  unfold f_Text_refuse_ok at ho
  refine zg_blk zd_100 3 hs (rfl : zb x zT0 zc_100 3 (0, [some (.ref 10)], [], h) = some (5, [some (.ref 10)], [.int (-1), .int (zf h 10 2)], h)) (fun hs => ?_)
  have hom := ho
  have K16 : zSh zT0 (if ((zf h 10 2) = (-1)) then (zp h 10 2 (zr h 163 (zf h 10 7))) else h) → zg x (d + 1) 100 21 [some (.ref 10)] [] (if ((zf h 10 2) = (-1)) then (zp h 10 2 (zr h 163 (zf h 10 7))) else h) Q := fun hs => by
    refine zg_blk zd_100 3 hs (rfl : zb x zT0 zc_100 3 (21, [some (.ref 10)], [], (if ((zf h 10 2) = (-1)) then (zp h 10 2 (zr h 163 (zf h 10 7))) else h)) = some (28, [some (.ref 10)], [], (zp (if ((zf h 10 2) = (-1)) then (zp h 10 2 (zr h 163 (zf h 10 7))) else h) 10 8 258))) (fun hs => ?_)
    exact zg_ret zd_100 rfl rfl (hF hs)
  refine zg_i_ne zd_100 rfl (fun (hc : ¬ ((zf h 10 2) = (-1))) => ?_) (fun (hc : ((zf h 10 2) = (-1))) => ?_)
  · have ho := hom.2 hc
    rw [show (if ((zf h 10 2) = (-1)) then (zp h 10 2 (zr h 163 (zf h 10 7))) else h) = h from if_neg hc] at K16
    exact K16 hs
  · have ho := hom.1 hc
    rw [show (if ((zf h 10 2) = (-1)) then (zp h 10 2 (zr h 163 (zf h 10 7))) else h) = (zp h 10 2 (zr h 163 (zf h 10 7))) from if_pos hc] at K16
    refine zg_blk zd_100 5 hs (rfl : zb x zT0 zc_100 5 (8, [some (.ref 10)], [], h) = some (17, [some (.ref 10)], [.int (zf h 10 7), .ref 163, .ref 10], h)) (fun hs => ?_)
    have hob := ho
    refine zg_ial hs zd_100 rfl rfl hob ?_
    refine zg_blk zd_100 1 hs (rfl : zb x zT0 zc_100 1 (18, [some (.ref 10)], [.int (zr h 163 (zf h 10 7)), .ref 10], h) = some (21, [some (.ref 10)], [], (zp h 10 2 (zr h 163 (zf h 10 7))))) (fun hs => ?_)
    exact K16 hs
set_option maxRecDepth 100000 in
set_option maxHeartbeats 400000 in
theorem f_Text_readClause_k28_t {x : zm_X} {d : Nat} (h : zm_H) (o1 : Option Value) {Q : Option Value → zm_H → Prop} (hs : zSh zT0 h) (ho : f_Text_readClause_k28_ok h) (hF : (zSh zT0 (f_Text_readClause_k28 h) → Q none (f_Text_readClause_k28 h))) : zg x (d + 81) 99 28 [some (.ref 10), o1] [] h Q := by
  unfold f_Text_readClause_k28 at hF
  unfold f_Text_readClause_k28_ok at ho
  refine zg_blk zd_99 1 hs (rfl : zb x zT0 zc_99 1 (28, [some (.ref 10), o1], [], h) = some (29, [some (.ref 10), o1], [.ref 10], h)) (fun hs => ?_)
  have hob := ho
  refine zg_call hs zd_99 rfl rfl rfl rfl (as := [.ref 10]) (rest := []) (en := [some (.ref 10)]) rfl rfl rfl rfl rfl ?_
  refine f_Text_refuse_t  h hs hob (fun hs => ?_)
  show zg x (d + 81) 99 32 [some (.ref 10), o1] [] (f_Text_refuse h) Q
  exact zg_ret zd_99 rfl rfl (hF hs)
theorem zd_93 : zm_cd 93 = zc_93 := by rfl
set_option maxRecDepth 100000 in
set_option maxHeartbeats 400000 in
theorem f_Text_step_t {x : zm_X} {d : Nat} (h : zm_H) {Q : Option Value → zm_H → Prop} (hs : zSh zT0 h) (ho : f_Text_step_ok h) (hF : (zSh zT0 (f_Text_step h) → Q none (f_Text_step h))) : zg x (d + 1) 93 0 [some (.ref 10)] [] h Q := by
  unfold f_Text_step at hF
  unfold f_Text_step_ok at ho
  refine zg_blk zd_93 3 hs (rfl : zb x zT0 zc_93 3 (0, [some (.ref 10)], [], h) = some (5, [some (.ref 10)], [.int (-1), .int (zf h 10 2)], h)) (fun hs => ?_)
  have hom := ho
  have K17 : zSh zT0 (if ((zf h 10 2) = (-1)) then (if ((zf h 10 6) ≤ (zf h 10 7)) then h else (zp (zp h 10 7 ((zf h 10 7) + 1)) 10 8 (zr h 162 ((zf h 10 7) + 1)))) else h) → zg x (d + 1) 93 42 [some (.ref 10)] [] (if ((zf h 10 2) = (-1)) then (if ((zf h 10 6) ≤ (zf h 10 7)) then h else (zp (zp h 10 7 ((zf h 10 7) + 1)) 10 8 (zr h 162 ((zf h 10 7) + 1)))) else h) Q := fun hs => by
    exact zg_ret zd_93 rfl rfl (hF hs)
  refine zg_i_ne zd_93 rfl (fun (hc : ¬ ((zf h 10 2) = (-1))) => ?_) (fun (hc : ((zf h 10 2) = (-1))) => ?_)
  · have ho := hom.2 hc
    rw [show (if ((zf h 10 2) = (-1)) then (if ((zf h 10 6) ≤ (zf h 10 7)) then h else (zp (zp h 10 7 ((zf h 10 7) + 1)) 10 8 (zr h 162 ((zf h 10 7) + 1)))) else h) = h from if_neg hc] at K17
    exact K17 hs
  · have ho := hom.1 hc
    rw [show (if ((zf h 10 2) = (-1)) then (if ((zf h 10 6) ≤ (zf h 10 7)) then h else (zp (zp h 10 7 ((zf h 10 7) + 1)) 10 8 (zr h 162 ((zf h 10 7) + 1)))) else h) = (if ((zf h 10 6) ≤ (zf h 10 7)) then h else (zp (zp h 10 7 ((zf h 10 7) + 1)) 10 8 (zr h 162 ((zf h 10 7) + 1)))) from if_pos hc] at K17
    refine zg_blk zd_93 4 hs (rfl : zb x zT0 zc_93 4 (8, [some (.ref 10)], [], h) = some (16, [some (.ref 10)], [.int (zf h 10 6), .int (zf h 10 7)], h)) (fun hs => ?_)
    refine zg_i_ge zd_93 rfl (fun (hc : ((zf h 10 6) ≤ (zf h 10 7))) => ?_) (fun (hc : ¬ ((zf h 10 6) ≤ (zf h 10 7))) => ?_)
    · have ho := ho.1 hc
      rw [show (if ((zf h 10 6) ≤ (zf h 10 7)) then h else (zp (zp h 10 7 ((zf h 10 7) + 1)) 10 8 (zr h 162 ((zf h 10 7) + 1)))) = h from if_pos hc] at K17
      exact K17 hs
    · have ho := ho.2 hc
      rw [show (if ((zf h 10 6) ≤ (zf h 10 7)) then h else (zp (zp h 10 7 ((zf h 10 7) + 1)) 10 8 (zr h 162 ((zf h 10 7) + 1)))) = (zp (zp h 10 7 ((zf h 10 7) + 1)) 10 8 (zr h 162 ((zf h 10 7) + 1))) from if_neg hc] at K17
      refine zg_blk zd_93 11 hs (rfl : zb x zT0 zc_93 11 (19, [some (.ref 10)], [], h) = some (38, [some (.ref 10)], [.int ((zf h 10 7) + 1), .ref 162, .ref 10], (zp h 10 7 ((zf h 10 7) + 1)))) (fun hs => ?_)
      have hob := ho
      refine zg_ial hs zd_93 rfl rfl hob ?_
      refine zg_blk zd_93 1 hs (rfl : zb x zT0 zc_93 1 (39, [some (.ref 10)], [.int (zr h 162 ((zf h 10 7) + 1)), .ref 10], (zp h 10 7 ((zf h 10 7) + 1))) = some (42, [some (.ref 10)], [], (zp (zp h 10 7 ((zf h 10 7) + 1)) 10 8 (zr h 162 ((zf h 10 7) + 1))))) (fun hs => ?_)
      exact K17 hs
theorem zd_101 : zm_cd 101 = zc_101 := by rfl
theorem zd_104 : zm_cd 104 = zc_104 := by rfl
set_option maxRecDepth 100000 in
set_option maxHeartbeats 400000 in
theorem f_Text_emit_t {x : zm_X} {d : Nat} (p1 : Int32) (h : zm_H) {Q : Option Value → zm_H → Prop} (hs : zSh zT0 h) (ho : f_Text_emit_ok p1 h) (hF : (zSh zT0 (f_Text_emit p1 h) → Q none (f_Text_emit p1 h))) : zg x (d + 1) 104 0 [some (.ref 10), some (.int p1)] [] h Q := by
  unfold f_Text_emit at hF
  unfold f_Text_emit_ok at ho
  refine zg_blk zd_104 5 hs (rfl : zb x zT0 zc_104 5 (0, [some (.ref 10), some (.int p1)], [], h) = some (9, [some (.ref 10), some (.int p1)], [.int (Int32.ofNat 400), .int (zf h 10 10)], h)) (fun hs => ?_)
  have hom := ho
  have K18 : zSh zT0 (if ((Int32.ofNat 400) ≤ (zf h 10 10)) then h else (zp (zs h 12 (zf h 10 10) p1) 10 10 ((zf h 10 10) + 1))) → zg x (d + 1) 104 32 [some (.ref 10), some (.int p1)] [] (if ((Int32.ofNat 400) ≤ (zf h 10 10)) then h else (zp (zs h 12 (zf h 10 10) p1) 10 10 ((zf h 10 10) + 1))) Q := fun hs => by
    exact zg_ret zd_104 rfl rfl (hF hs)
  refine zg_i_ge zd_104 rfl (fun (hc : ((Int32.ofNat 400) ≤ (zf h 10 10))) => ?_) (fun (hc : ¬ ((Int32.ofNat 400) ≤ (zf h 10 10))) => ?_)
  · have ho := hom.1 hc
    rw [show (if ((Int32.ofNat 400) ≤ (zf h 10 10)) then h else (zp (zs h 12 (zf h 10 10) p1) 10 10 ((zf h 10 10) + 1))) = h from if_pos hc] at K18
    exact K18 hs
  · have ho := hom.2 hc
    rw [show (if ((Int32.ofNat 400) ≤ (zf h 10 10)) then h else (zp (zs h 12 (zf h 10 10) p1) 10 10 ((zf h 10 10) + 1))) = (zp (zs h 12 (zf h 10 10) p1) 10 10 ((zf h 10 10) + 1)) from if_neg hc] at K18
    refine zg_blk zd_104 5 hs (rfl : zb x zT0 zc_104 5 (12, [some (.ref 10), some (.int p1)], [], h) = some (21, [some (.ref 10), some (.int p1)], [.int p1, .int (zf h 10 10), .ref 12], h)) (fun hs => ?_)
    have hob := ho
    refine zg_ias hs zd_104 rfl rfl hob (fun hs => ?_)
    refine zg_blk zd_104 6 hs (rfl : zb x zT0 zc_104 6 (22, [some (.ref 10), some (.int p1)], [], (zs h 12 (zf h 10 10) p1)) = some (32, [some (.ref 10), some (.int p1)], [], (zp (zs h 12 (zf h 10 10) p1) 10 10 ((zf h 10 10) + 1)))) (fun hs => ?_)
    exact K18 hs
set_option maxRecDepth 100000 in
set_option maxHeartbeats 400000 in
theorem f_Text_readSum_l7_k54_t {x : zm_X} {d : Nat} {R : Nat → Int32 → zm_H → zm_H} {O : Nat → Int32 → zm_H → Prop} (hR : ∀ (m : Nat) (p : Int32) (h : zm_H) (Q : Option Value → zm_H → Prop), zSh zT0 h → O m p h → (zSh zT0 (R m p h) → Q none (R m p h)) → zg x (d + 20) m 0 (zm_en m [.ref 10, .int p]) [] h Q) (v1 : Int32) (v2 : Int32) (h : zm_H) (o3 : Option Value) {Q : Option Value → zm_H → Prop} {FN : Nat × Int32 × zm_H → Prop} (hs : zSh zT0 h) (ho : f_Text_readSum_l7_k54_ok R O v1 v2 h) (hF : FN (f_Text_readSum_l7_k54 R v1 v2 h)) (hl0 : ∀ (v2 : Int32) (h : zm_H) (o3 : Option Value), zSh zT0 h → FN (0, v2, h) → zg x (d + 21) 101 7 [some (.ref 10), some (.int v1), some (.int v2), o3] [] h Q) (hl1 : ∀ (v2 : Int32) (h : zm_H) (o2 : Option Value) (o3 : Option Value), zSh zT0 h → FN (1, v2, h) → zg x (d + 21) 101 60 [some (.ref 10), some (.int v1), o2, o3] [] h Q) : zg x (d + 21) 101 54 [some (.ref 10), some (.int v1), some (.int v2), o3] [] h Q := by
  unfold f_Text_readSum_l7_k54 at hF
  unfold f_Text_readSum_l7_k54_ok at ho
  refine zg_blk zd_101 2 hs (rfl : zb x zT0 zc_101 2 (54, [some (.ref 10), some (.int v1), some (.int v2), o3], [], h) = some (7, [some (.ref 10), some (.int v1), some (.int (v2 + 1)), o3], [], h)) (fun hs => ?_)
  exact hl0 (v2 + 1) h (o3) hs hF
set_option maxRecDepth 100000 in
set_option maxHeartbeats 400000 in
theorem f_Text_readSum_l7_k46_t {x : zm_X} {d : Nat} {R : Nat → Int32 → zm_H → zm_H} {O : Nat → Int32 → zm_H → Prop} (hR : ∀ (m : Nat) (p : Int32) (h : zm_H) (Q : Option Value → zm_H → Prop), zSh zT0 h → O m p h → (zSh zT0 (R m p h) → Q none (R m p h)) → zg x (d + 20) m 0 (zm_en m [.ref 10, .int p]) [] h Q) (v1 : Int32) (v2 : Int32) (v3 : Int32) (h : zm_H) {Q : Option Value → zm_H → Prop} {FN : Nat × Int32 × zm_H → Prop} (hs : zSh zT0 h) (ho : f_Text_readSum_l7_k46_ok R O v1 v2 v3 h) (hF : FN (f_Text_readSum_l7_k46 R v1 v2 v3 h)) (hl0 : ∀ (v2 : Int32) (h : zm_H) (o3 : Option Value), zSh zT0 h → FN (0, v2, h) → zg x (d + 21) 101 7 [some (.ref 10), some (.int v1), some (.int v2), o3] [] h Q) (hl1 : ∀ (v2 : Int32) (h : zm_H) (o2 : Option Value) (o3 : Option Value), zSh zT0 h → FN (1, v2, h) → zg x (d + 21) 101 60 [some (.ref 10), some (.int v1), o2, o3] [] h Q) : zg x (d + 21) 101 46 [some (.ref 10), some (.int v1), some (.int v2), some (.int v3)] [] h Q := by
  unfold f_Text_readSum_l7_k46 at hF
  unfold f_Text_readSum_l7_k46_ok at ho
  refine zg_blk zd_101 4 hs (rfl : zb x zT0 zc_101 4 (46, [some (.ref 10), some (.int v1), some (.int v2), some (.int v3)], [], h) = some (51, [some (.ref 10), some (.int v1), some (.int v2), some (.int v3)], [.int (100000 + v3), .ref 10], h)) (fun hs => ?_)
  have hob := ho
  refine zg_call hs zd_101 rfl rfl rfl rfl (as := [.ref 10, .int (100000 + v3)]) (rest := []) (en := [some (.ref 10), some (.int (100000 + v3))]) rfl rfl rfl rfl rfl ?_
  refine f_Text_emit_t (100000 + v3) h hs hob (fun hs => ?_)
  show zg x (d + 21) 101 54 [some (.ref 10), some (.int v1), some (.int v2), some (.int v3)] [] (f_Text_emit (100000 + v3) h) Q
  exact f_Text_readSum_l7_k54_t hR v1 v2 (f_Text_emit (100000 + v3) h) (some (.int v3)) hs trivial hF hl0 hl1
set_option maxRecDepth 100000 in
set_option maxHeartbeats 400000 in
theorem f_Text_readSum_l7_k41_t {x : zm_X} {d : Nat} {R : Nat → Int32 → zm_H → zm_H} {O : Nat → Int32 → zm_H → Prop} (hR : ∀ (m : Nat) (p : Int32) (h : zm_H) (Q : Option Value → zm_H → Prop), zSh zT0 h → O m p h → (zSh zT0 (R m p h) → Q none (R m p h)) → zg x (d + 20) m 0 (zm_en m [.ref 10, .int p]) [] h Q) (v1 : Int32) (v2 : Int32) (v3 : Int32) (h : zm_H) {Q : Option Value → zm_H → Prop} {FN : Nat × Int32 × zm_H → Prop} (hs : zSh zT0 h) (ho : f_Text_readSum_l7_k41_ok R O v1 v2 v3 h) (hF : FN (f_Text_readSum_l7_k41 R v1 v2 v3 h)) (hl0 : ∀ (v2 : Int32) (h : zm_H) (o3 : Option Value), zSh zT0 h → FN (0, v2, h) → zg x (d + 21) 101 7 [some (.ref 10), some (.int v1), some (.int v2), o3] [] h Q) (hl1 : ∀ (v2 : Int32) (h : zm_H) (o2 : Option Value) (o3 : Option Value), zSh zT0 h → FN (1, v2, h) → zg x (d + 21) 101 60 [some (.ref 10), some (.int v1), o2, o3] [] h Q) : zg x (d + 21) 101 41 [some (.ref 10), some (.int v1), some (.int v2), some (.int v3)] [] h Q := by
  unfold f_Text_readSum_l7_k41 at hF
  unfold f_Text_readSum_l7_k41_ok at ho
  refine zg_blk zd_101 2 hs (rfl : zb x zT0 zc_101 2 (41, [some (.ref 10), some (.int v1), some (.int v2), some (.int v3)], [], h) = some (43, [some (.ref 10), some (.int v1), some (.int v2), some (.int v3)], [.int v1, .ref 10], h)) (fun hs => ?_)
  obtain ⟨hob, ho⟩ := ho
  refine zg_call hs zd_101 rfl rfl rfl rfl (as := [.ref 10, .int v1]) (rest := []) (en := [some (.ref 10), some (.int v1), none, none]) rfl rfl rfl rfl rfl ?_
  refine hR 102 v1 h _ hs hob (fun hs => ?_)
  show zg x (d + 21) 101 46 [some (.ref 10), some (.int v1), some (.int v2), some (.int v3)] [] (R 102 v1 h) Q
  exact f_Text_readSum_l7_k46_t hR v1 v2 v3 (R 102 v1 h) hs ho hF hl0 hl1
set_option maxRecDepth 100000 in
set_option maxHeartbeats 400000 in
theorem f_Text_readSum_l7_k32_t {x : zm_X} {d : Nat} {R : Nat → Int32 → zm_H → zm_H} {O : Nat → Int32 → zm_H → Prop} (hR : ∀ (m : Nat) (p : Int32) (h : zm_H) (Q : Option Value → zm_H → Prop), zSh zT0 h → O m p h → (zSh zT0 (R m p h) → Q none (R m p h)) → zg x (d + 20) m 0 (zm_en m [.ref 10, .int p]) [] h Q) (v1 : Int32) (v2 : Int32) (h : zm_H) (o3 : Option Value) {Q : Option Value → zm_H → Prop} {FN : Nat × Int32 × zm_H → Prop} (hs : zSh zT0 h) (ho : f_Text_readSum_l7_k32_ok R O v1 v2 h) (hF : FN (f_Text_readSum_l7_k32 R v1 v2 h)) (hl0 : ∀ (v2 : Int32) (h : zm_H) (o3 : Option Value), zSh zT0 h → FN (0, v2, h) → zg x (d + 21) 101 7 [some (.ref 10), some (.int v1), some (.int v2), o3] [] h Q) (hl1 : ∀ (v2 : Int32) (h : zm_H) (o2 : Option Value) (o3 : Option Value), zSh zT0 h → FN (1, v2, h) → zg x (d + 21) 101 60 [some (.ref 10), some (.int v1), o2, o3] [] h Q) : zg x (d + 21) 101 32 [some (.ref 10), some (.int v1), some (.int v2), o3] [] h Q := by
  unfold f_Text_readSum_l7_k32 at hF
  unfold f_Text_readSum_l7_k32_ok at ho
  refine zg_blk zd_101 4 hs (rfl : zb x zT0 zc_101 4 (32, [some (.ref 10), some (.int v1), some (.int v2), o3], [], h) = some (38, [some (.ref 10), some (.int v1), some (.int v2), some (.int (zf h 10 8))], [.ref 10], h)) (fun hs => ?_)
  obtain ⟨hob, ho⟩ := ho
  refine zg_call hs zd_101 rfl rfl rfl rfl (as := [.ref 10]) (rest := []) (en := [some (.ref 10)]) rfl rfl rfl rfl rfl ?_
  refine f_Text_step_t  h hs hob (fun hs => ?_)
  show zg x (d + 21) 101 41 [some (.ref 10), some (.int v1), some (.int v2), some (.int (zf h 10 8))] [] (f_Text_step h) Q
  exact f_Text_readSum_l7_k41_t hR v1 v2 (zf h 10 8) (f_Text_step h) hs ho hF hl0 hl1
set_option maxRecDepth 100000 in
set_option maxHeartbeats 400000 in
theorem f_Text_readSum_l7_b_t {x : zm_X} {d : Nat} {R : Nat → Int32 → zm_H → zm_H} {O : Nat → Int32 → zm_H → Prop} (hR : ∀ (m : Nat) (p : Int32) (h : zm_H) (Q : Option Value → zm_H → Prop), zSh zT0 h → O m p h → (zSh zT0 (R m p h) → Q none (R m p h)) → zg x (d + 20) m 0 (zm_en m [.ref 10, .int p]) [] h Q) (v1 : Int32) (v2 : Int32) (h : zm_H) (o3 : Option Value) {Q : Option Value → zm_H → Prop} {FN : Nat × Int32 × zm_H → Prop} (hs : zSh zT0 h) (ho : f_Text_readSum_l7_b_ok R O v1 v2 h) (hF : FN (f_Text_readSum_l7_b R v1 v2 h)) (hl0 : ∀ (v2 : Int32) (h : zm_H) (o3 : Option Value), zSh zT0 h → FN (0, v2, h) → zg x (d + 21) 101 7 [some (.ref 10), some (.int v1), some (.int v2), o3] [] h Q) (hl1 : ∀ (v2 : Int32) (h : zm_H) (o2 : Option Value) (o3 : Option Value), zSh zT0 h → FN (1, v2, h) → zg x (d + 21) 101 60 [some (.ref 10), some (.int v1), o2, o3] [] h Q) : zg x (d + 21) 101 7 [some (.ref 10), some (.int v1), some (.int v2), o3] [] h Q := by
  unfold f_Text_readSum_l7_b at hF
  unfold f_Text_readSum_l7_b_ok at ho
  refine zg_blk zd_101 2 hs (rfl : zb x zT0 zc_101 2 (7, [some (.ref 10), some (.int v1), some (.int v2), o3], [], h) = some (11, [some (.ref 10), some (.int v1), some (.int v2), o3], [.int 400, .int v2], h)) (fun hs => ?_)
  refine zg_i_ge zd_101 rfl (fun (hc : (400 ≤ v2)) => ?_) (fun (hc : ¬ (400 ≤ v2)) => ?_)
  · have ho := ho.1 hc
    rw [if_pos hc] at hF
    exact hl1 v2 h (some (.int v2)) (o3) hs hF
  · have ho := ho.2 hc
    rw [if_neg hc] at hF
    refine zg_blk zd_101 3 hs (rfl : zb x zT0 zc_101 3 (14, [some (.ref 10), some (.int v1), some (.int v2), o3], [], h) = some (20, [some (.ref 10), some (.int v1), some (.int v2), o3], [.int 43, .int (zf h 10 8)], h)) (fun hs => ?_)
    refine zg_i_eq zd_101 rfl (fun (hc : ((zf h 10 8) = 43)) => ?_) (fun (hc : ¬ ((zf h 10 8) = 43)) => ?_)
    · have ho := ho.1 hc
      rw [if_pos hc] at hF
      exact f_Text_readSum_l7_k32_t hR v1 v2 h (o3) hs ho hF hl0 hl1
    · have ho := ho.2 hc
      rw [if_neg hc] at hF
      refine zg_blk zd_101 3 hs (rfl : zb x zT0 zc_101 3 (23, [some (.ref 10), some (.int v1), some (.int v2), o3], [], h) = some (29, [some (.ref 10), some (.int v1), some (.int v2), o3], [.int 45, .int (zf h 10 8)], h)) (fun hs => ?_)
      refine zg_i_ne zd_101 rfl (fun (hc : ¬ ((zf h 10 8) = 45)) => ?_) (fun (hc : ((zf h 10 8) = 45)) => ?_)
      · have ho := ho.2 hc
        rw [if_neg hc] at hF
        exact hl1 v2 h (some (.int v2)) (o3) hs hF
      · have ho := ho.1 hc
        rw [if_pos hc] at hF
        exact f_Text_readSum_l7_k32_t hR v1 v2 h (o3) hs ho hF hl0 hl1
theorem f_Text_readSum_l7_t {x : zm_X} {d : Nat} {R : Nat → Int32 → zm_H → zm_H} {O : Nat → Int32 → zm_H → Prop} (hR : ∀ (m : Nat) (p : Int32) (h : zm_H) (Q : Option Value → zm_H → Prop), zSh zT0 h → O m p h → (zSh zT0 (R m p h) → Q none (R m p h)) → zg x (d + 20) m 0 (zm_en m [.ref 10, .int p]) [] h Q) (v1 : Int32) {Q : Option Value → zm_H → Prop} (G : Nat × Int32 × zm_H → Prop) (hx1 : ∀ (v2 : Int32) (h : zm_H) (o2 : Option Value) (o3 : Option Value), zSh zT0 h → G (1, v2, h) → zg x (d + 21) 101 60 [some (.ref 10), some (.int v1), o2, o3] [] h Q) : ∀ (n : Nat) (v2 : Int32) (h : zm_H) (o3 : Option Value), zSh zT0 h → f_Text_readSum_l7_ok R O v1 n (v2, h) → G (f_Text_readSum_l7 R v1 n (v2, h)) → zg x (d + 21) 101 7 [some (.ref 10), some (.int v1), some (.int v2), o3] [] h Q := by
  intro n
  induction n with
  | zero => intro v2 h o3 hs ho hG; exact ho.elim
  | succ n ih =>
    intro v2 h o3 hs ho hG
    refine f_Text_readSum_l7_b_t hR (FN := fun r => (r.1 = 0 → f_Text_readSum_l7_ok R O v1 n r.2) ∧ G (if r.1 = 0 then f_Text_readSum_l7 R v1 n r.2 else r)) v1 v2 h o3 hs ho.1 ⟨ho.2, hG⟩ ?_ ?_
    · intro v2 h o3 hs hF
      exact ih v2 h o3 hs (hF.1 rfl) hF.2
    · intro v2 h o2 o3 hs hF
      exact hx1 v2 h o2 o3 hs hF.2

set_option maxRecDepth 100000 in
set_option maxHeartbeats 400000 in
theorem f_Text_readSum_k60_t {x : zm_X} {d : Nat} {R : Nat → Int32 → zm_H → zm_H} {O : Nat → Int32 → zm_H → Prop} (hR : ∀ (m : Nat) (p : Int32) (h : zm_H) (Q : Option Value → zm_H → Prop), zSh zT0 h → O m p h → (zSh zT0 (R m p h) → Q none (R m p h)) → zg x (d + 20) m 0 (zm_en m [.ref 10, .int p]) [] h Q) (h : zm_H) (o0 : Option Value) (z1 : Int32) (o2 : Option Value) (o3 : Option Value) {Q : Option Value → zm_H → Prop} (hs : zSh zT0 h) (ho : f_Text_readSum_k60_ok R O h) (hF : (zSh zT0 (f_Text_readSum_k60 R h) → Q none (f_Text_readSum_k60 R h))) : zg x (d + 21) 101 60 [o0, some (.int z1), o2, o3] [] h Q := by
  unfold f_Text_readSum_k60 at hF
  unfold f_Text_readSum_k60_ok at ho
  exact zg_ret zd_101 rfl rfl (hF hs)
set_option maxRecDepth 100000 in
set_option maxHeartbeats 400000 in
theorem f_Text_readSum_k5_t {x : zm_X} {d : Nat} {R : Nat → Int32 → zm_H → zm_H} {O : Nat → Int32 → zm_H → Prop} (hR : ∀ (m : Nat) (p : Int32) (h : zm_H) (Q : Option Value → zm_H → Prop), zSh zT0 h → O m p h → (zSh zT0 (R m p h) → Q none (R m p h)) → zg x (d + 20) m 0 (zm_en m [.ref 10, .int p]) [] h Q) (v1 : Int32) (h : zm_H) (o2 : Option Value) (o3 : Option Value) {Q : Option Value → zm_H → Prop} (hs : zSh zT0 h) (ho : f_Text_readSum_k5_ok R O v1 h) (hF : (zSh zT0 (f_Text_readSum_k5 R v1 h) → Q none (f_Text_readSum_k5 R v1 h))) : zg x (d + 21) 101 5 [some (.ref 10), some (.int v1), o2, o3] [] h Q := by
  unfold f_Text_readSum_k5 at hF
  unfold f_Text_readSum_k5_ok at ho
  refine zg_blk zd_101 2 hs (rfl : zb x zT0 zc_101 2 (5, [some (.ref 10), some (.int v1), o2, o3], [], h) = some (7, [some (.ref 10), some (.int v1), some (.int 0), o3], [], h)) (fun hs => ?_)
  refine f_Text_readSum_l7_t hR v1 (fun r => f_Text_readSum_a7_ok R O r ∧ (zSh zT0 (f_Text_readSum_a7 R r) → Q none (f_Text_readSum_a7 R r))) ?_ zF 0 h (o3) hs ho.1 ⟨ho.2, hF⟩
  · intro v2_ h_ o2_ o3_ hs hG
    have ho : True := trivial
    have hF : (zSh zT0 ((f_Text_readSum_k60 R h_)) → Q none ((f_Text_readSum_k60 R h_))) := hG.2
    exact f_Text_readSum_k60_t hR h_ (some (.ref 10)) v1 (o2_) (o3_) hs trivial hF
set_option maxRecDepth 100000 in
set_option maxHeartbeats 400000 in
theorem f_Text_readSum_t {x : zm_X} {d : Nat} {R : Nat → Int32 → zm_H → zm_H} {O : Nat → Int32 → zm_H → Prop} (hR : ∀ (m : Nat) (p : Int32) (h : zm_H) (Q : Option Value → zm_H → Prop), zSh zT0 h → O m p h → (zSh zT0 (R m p h) → Q none (R m p h)) → zg x (d + 20) m 0 (zm_en m [.ref 10, .int p]) [] h Q) (p1 : Int32) (h : zm_H) {Q : Option Value → zm_H → Prop} (hs : zSh zT0 h) (ho : f_Text_readSum_ok R O p1 h) (hF : (zSh zT0 (f_Text_readSum R p1 h) → Q none (f_Text_readSum R p1 h))) : zg x (d + 21) 101 0 [some (.ref 10), some (.int p1), none, none] [] h Q := by
  unfold f_Text_readSum at hF
  unfold f_Text_readSum_ok at ho
  refine zg_blk zd_101 2 hs (rfl : zb x zT0 zc_101 2 (0, [some (.ref 10), some (.int p1), none, none], [], h) = some (2, [some (.ref 10), some (.int p1), none, none], [.int p1, .ref 10], h)) (fun hs => ?_)
  obtain ⟨hob, ho⟩ := ho
  refine zg_call hs zd_101 rfl rfl rfl rfl (as := [.ref 10, .int p1]) (rest := []) (en := [some (.ref 10), some (.int p1), none, none]) rfl rfl rfl rfl rfl ?_
  refine hR 102 p1 h _ hs hob (fun hs => ?_)
  show zg x (d + 21) 101 5 [some (.ref 10), some (.int p1), none, none] [] (R 102 p1 h) Q
  exact f_Text_readSum_k5_t hR p1 (R 102 p1 h) (none) (none) hs ho hF
theorem zd_102 : zm_cd 102 = zc_102 := by rfl
set_option maxRecDepth 100000 in
set_option maxHeartbeats 400000 in
theorem f_Text_readProduct_l7_k54_t {x : zm_X} {d : Nat} {R : Nat → Int32 → zm_H → zm_H} {O : Nat → Int32 → zm_H → Prop} (hR : ∀ (m : Nat) (p : Int32) (h : zm_H) (Q : Option Value → zm_H → Prop), zSh zT0 h → O m p h → (zSh zT0 (R m p h) → Q none (R m p h)) → zg x (d + 20) m 0 (zm_en m [.ref 10, .int p]) [] h Q) (v1 : Int32) (v2 : Int32) (h : zm_H) (o3 : Option Value) {Q : Option Value → zm_H → Prop} {FN : Nat × Int32 × zm_H → Prop} (hs : zSh zT0 h) (ho : f_Text_readProduct_l7_k54_ok R O v1 v2 h) (hF : FN (f_Text_readProduct_l7_k54 R v1 v2 h)) (hl0 : ∀ (v2 : Int32) (h : zm_H) (o3 : Option Value), zSh zT0 h → FN (0, v2, h) → zg x (d + 21) 102 7 [some (.ref 10), some (.int v1), some (.int v2), o3] [] h Q) (hl1 : ∀ (v2 : Int32) (h : zm_H) (o2 : Option Value) (o3 : Option Value), zSh zT0 h → FN (1, v2, h) → zg x (d + 21) 102 60 [some (.ref 10), some (.int v1), o2, o3] [] h Q) : zg x (d + 21) 102 54 [some (.ref 10), some (.int v1), some (.int v2), o3] [] h Q := by
  unfold f_Text_readProduct_l7_k54 at hF
  unfold f_Text_readProduct_l7_k54_ok at ho
  refine zg_blk zd_102 2 hs (rfl : zb x zT0 zc_102 2 (54, [some (.ref 10), some (.int v1), some (.int v2), o3], [], h) = some (7, [some (.ref 10), some (.int v1), some (.int (v2 + 1)), o3], [], h)) (fun hs => ?_)
  exact hl0 (v2 + 1) h (o3) hs hF
set_option maxRecDepth 100000 in
set_option maxHeartbeats 400000 in
theorem f_Text_readProduct_l7_k46_t {x : zm_X} {d : Nat} {R : Nat → Int32 → zm_H → zm_H} {O : Nat → Int32 → zm_H → Prop} (hR : ∀ (m : Nat) (p : Int32) (h : zm_H) (Q : Option Value → zm_H → Prop), zSh zT0 h → O m p h → (zSh zT0 (R m p h) → Q none (R m p h)) → zg x (d + 20) m 0 (zm_en m [.ref 10, .int p]) [] h Q) (v1 : Int32) (v2 : Int32) (v3 : Int32) (h : zm_H) {Q : Option Value → zm_H → Prop} {FN : Nat × Int32 × zm_H → Prop} (hs : zSh zT0 h) (ho : f_Text_readProduct_l7_k46_ok R O v1 v2 v3 h) (hF : FN (f_Text_readProduct_l7_k46 R v1 v2 v3 h)) (hl0 : ∀ (v2 : Int32) (h : zm_H) (o3 : Option Value), zSh zT0 h → FN (0, v2, h) → zg x (d + 21) 102 7 [some (.ref 10), some (.int v1), some (.int v2), o3] [] h Q) (hl1 : ∀ (v2 : Int32) (h : zm_H) (o2 : Option Value) (o3 : Option Value), zSh zT0 h → FN (1, v2, h) → zg x (d + 21) 102 60 [some (.ref 10), some (.int v1), o2, o3] [] h Q) : zg x (d + 21) 102 46 [some (.ref 10), some (.int v1), some (.int v2), some (.int v3)] [] h Q := by
  unfold f_Text_readProduct_l7_k46 at hF
  unfold f_Text_readProduct_l7_k46_ok at ho
  refine zg_blk zd_102 4 hs (rfl : zb x zT0 zc_102 4 (46, [some (.ref 10), some (.int v1), some (.int v2), some (.int v3)], [], h) = some (51, [some (.ref 10), some (.int v1), some (.int v2), some (.int v3)], [.int (100000 + v3), .ref 10], h)) (fun hs => ?_)
  have hob := ho
  refine zg_call hs zd_102 rfl rfl rfl rfl (as := [.ref 10, .int (100000 + v3)]) (rest := []) (en := [some (.ref 10), some (.int (100000 + v3))]) rfl rfl rfl rfl rfl ?_
  refine f_Text_emit_t (100000 + v3) h hs hob (fun hs => ?_)
  show zg x (d + 21) 102 54 [some (.ref 10), some (.int v1), some (.int v2), some (.int v3)] [] (f_Text_emit (100000 + v3) h) Q
  exact f_Text_readProduct_l7_k54_t hR v1 v2 (f_Text_emit (100000 + v3) h) (some (.int v3)) hs trivial hF hl0 hl1
set_option maxRecDepth 100000 in
set_option maxHeartbeats 400000 in
theorem f_Text_readProduct_l7_k41_t {x : zm_X} {d : Nat} {R : Nat → Int32 → zm_H → zm_H} {O : Nat → Int32 → zm_H → Prop} (hR : ∀ (m : Nat) (p : Int32) (h : zm_H) (Q : Option Value → zm_H → Prop), zSh zT0 h → O m p h → (zSh zT0 (R m p h) → Q none (R m p h)) → zg x (d + 20) m 0 (zm_en m [.ref 10, .int p]) [] h Q) (v1 : Int32) (v2 : Int32) (v3 : Int32) (h : zm_H) {Q : Option Value → zm_H → Prop} {FN : Nat × Int32 × zm_H → Prop} (hs : zSh zT0 h) (ho : f_Text_readProduct_l7_k41_ok R O v1 v2 v3 h) (hF : FN (f_Text_readProduct_l7_k41 R v1 v2 v3 h)) (hl0 : ∀ (v2 : Int32) (h : zm_H) (o3 : Option Value), zSh zT0 h → FN (0, v2, h) → zg x (d + 21) 102 7 [some (.ref 10), some (.int v1), some (.int v2), o3] [] h Q) (hl1 : ∀ (v2 : Int32) (h : zm_H) (o2 : Option Value) (o3 : Option Value), zSh zT0 h → FN (1, v2, h) → zg x (d + 21) 102 60 [some (.ref 10), some (.int v1), o2, o3] [] h Q) : zg x (d + 21) 102 41 [some (.ref 10), some (.int v1), some (.int v2), some (.int v3)] [] h Q := by
  unfold f_Text_readProduct_l7_k41 at hF
  unfold f_Text_readProduct_l7_k41_ok at ho
  refine zg_blk zd_102 2 hs (rfl : zb x zT0 zc_102 2 (41, [some (.ref 10), some (.int v1), some (.int v2), some (.int v3)], [], h) = some (43, [some (.ref 10), some (.int v1), some (.int v2), some (.int v3)], [.int v1, .ref 10], h)) (fun hs => ?_)
  obtain ⟨hob, ho⟩ := ho
  refine zg_call hs zd_102 rfl rfl rfl rfl (as := [.ref 10, .int v1]) (rest := []) (en := [some (.ref 10), some (.int v1)]) rfl rfl rfl rfl rfl ?_
  refine hR 103 v1 h _ hs hob (fun hs => ?_)
  show zg x (d + 21) 102 46 [some (.ref 10), some (.int v1), some (.int v2), some (.int v3)] [] (R 103 v1 h) Q
  exact f_Text_readProduct_l7_k46_t hR v1 v2 v3 (R 103 v1 h) hs ho hF hl0 hl1
set_option maxRecDepth 100000 in
set_option maxHeartbeats 400000 in
theorem f_Text_readProduct_l7_k32_t {x : zm_X} {d : Nat} {R : Nat → Int32 → zm_H → zm_H} {O : Nat → Int32 → zm_H → Prop} (hR : ∀ (m : Nat) (p : Int32) (h : zm_H) (Q : Option Value → zm_H → Prop), zSh zT0 h → O m p h → (zSh zT0 (R m p h) → Q none (R m p h)) → zg x (d + 20) m 0 (zm_en m [.ref 10, .int p]) [] h Q) (v1 : Int32) (v2 : Int32) (h : zm_H) (o3 : Option Value) {Q : Option Value → zm_H → Prop} {FN : Nat × Int32 × zm_H → Prop} (hs : zSh zT0 h) (ho : f_Text_readProduct_l7_k32_ok R O v1 v2 h) (hF : FN (f_Text_readProduct_l7_k32 R v1 v2 h)) (hl0 : ∀ (v2 : Int32) (h : zm_H) (o3 : Option Value), zSh zT0 h → FN (0, v2, h) → zg x (d + 21) 102 7 [some (.ref 10), some (.int v1), some (.int v2), o3] [] h Q) (hl1 : ∀ (v2 : Int32) (h : zm_H) (o2 : Option Value) (o3 : Option Value), zSh zT0 h → FN (1, v2, h) → zg x (d + 21) 102 60 [some (.ref 10), some (.int v1), o2, o3] [] h Q) : zg x (d + 21) 102 32 [some (.ref 10), some (.int v1), some (.int v2), o3] [] h Q := by
  unfold f_Text_readProduct_l7_k32 at hF
  unfold f_Text_readProduct_l7_k32_ok at ho
  refine zg_blk zd_102 4 hs (rfl : zb x zT0 zc_102 4 (32, [some (.ref 10), some (.int v1), some (.int v2), o3], [], h) = some (38, [some (.ref 10), some (.int v1), some (.int v2), some (.int (zf h 10 8))], [.ref 10], h)) (fun hs => ?_)
  obtain ⟨hob, ho⟩ := ho
  refine zg_call hs zd_102 rfl rfl rfl rfl (as := [.ref 10]) (rest := []) (en := [some (.ref 10)]) rfl rfl rfl rfl rfl ?_
  refine f_Text_step_t  h hs hob (fun hs => ?_)
  show zg x (d + 21) 102 41 [some (.ref 10), some (.int v1), some (.int v2), some (.int (zf h 10 8))] [] (f_Text_step h) Q
  exact f_Text_readProduct_l7_k41_t hR v1 v2 (zf h 10 8) (f_Text_step h) hs ho hF hl0 hl1
set_option maxRecDepth 100000 in
set_option maxHeartbeats 400000 in
theorem f_Text_readProduct_l7_b_t {x : zm_X} {d : Nat} {R : Nat → Int32 → zm_H → zm_H} {O : Nat → Int32 → zm_H → Prop} (hR : ∀ (m : Nat) (p : Int32) (h : zm_H) (Q : Option Value → zm_H → Prop), zSh zT0 h → O m p h → (zSh zT0 (R m p h) → Q none (R m p h)) → zg x (d + 20) m 0 (zm_en m [.ref 10, .int p]) [] h Q) (v1 : Int32) (v2 : Int32) (h : zm_H) (o3 : Option Value) {Q : Option Value → zm_H → Prop} {FN : Nat × Int32 × zm_H → Prop} (hs : zSh zT0 h) (ho : f_Text_readProduct_l7_b_ok R O v1 v2 h) (hF : FN (f_Text_readProduct_l7_b R v1 v2 h)) (hl0 : ∀ (v2 : Int32) (h : zm_H) (o3 : Option Value), zSh zT0 h → FN (0, v2, h) → zg x (d + 21) 102 7 [some (.ref 10), some (.int v1), some (.int v2), o3] [] h Q) (hl1 : ∀ (v2 : Int32) (h : zm_H) (o2 : Option Value) (o3 : Option Value), zSh zT0 h → FN (1, v2, h) → zg x (d + 21) 102 60 [some (.ref 10), some (.int v1), o2, o3] [] h Q) : zg x (d + 21) 102 7 [some (.ref 10), some (.int v1), some (.int v2), o3] [] h Q := by
  unfold f_Text_readProduct_l7_b at hF
  unfold f_Text_readProduct_l7_b_ok at ho
  refine zg_blk zd_102 2 hs (rfl : zb x zT0 zc_102 2 (7, [some (.ref 10), some (.int v1), some (.int v2), o3], [], h) = some (11, [some (.ref 10), some (.int v1), some (.int v2), o3], [.int 400, .int v2], h)) (fun hs => ?_)
  refine zg_i_ge zd_102 rfl (fun (hc : (400 ≤ v2)) => ?_) (fun (hc : ¬ (400 ≤ v2)) => ?_)
  · have ho := ho.1 hc
    rw [if_pos hc] at hF
    exact hl1 v2 h (some (.int v2)) (o3) hs hF
  · have ho := ho.2 hc
    rw [if_neg hc] at hF
    refine zg_blk zd_102 3 hs (rfl : zb x zT0 zc_102 3 (14, [some (.ref 10), some (.int v1), some (.int v2), o3], [], h) = some (20, [some (.ref 10), some (.int v1), some (.int v2), o3], [.int 42, .int (zf h 10 8)], h)) (fun hs => ?_)
    refine zg_i_eq zd_102 rfl (fun (hc : ((zf h 10 8) = 42)) => ?_) (fun (hc : ¬ ((zf h 10 8) = 42)) => ?_)
    · have ho := ho.1 hc
      rw [if_pos hc] at hF
      exact f_Text_readProduct_l7_k32_t hR v1 v2 h (o3) hs ho hF hl0 hl1
    · have ho := ho.2 hc
      rw [if_neg hc] at hF
      refine zg_blk zd_102 3 hs (rfl : zb x zT0 zc_102 3 (23, [some (.ref 10), some (.int v1), some (.int v2), o3], [], h) = some (29, [some (.ref 10), some (.int v1), some (.int v2), o3], [.int 47, .int (zf h 10 8)], h)) (fun hs => ?_)
      refine zg_i_ne zd_102 rfl (fun (hc : ¬ ((zf h 10 8) = 47)) => ?_) (fun (hc : ((zf h 10 8) = 47)) => ?_)
      · have ho := ho.2 hc
        rw [if_neg hc] at hF
        exact hl1 v2 h (some (.int v2)) (o3) hs hF
      · have ho := ho.1 hc
        rw [if_pos hc] at hF
        exact f_Text_readProduct_l7_k32_t hR v1 v2 h (o3) hs ho hF hl0 hl1
theorem f_Text_readProduct_l7_t {x : zm_X} {d : Nat} {R : Nat → Int32 → zm_H → zm_H} {O : Nat → Int32 → zm_H → Prop} (hR : ∀ (m : Nat) (p : Int32) (h : zm_H) (Q : Option Value → zm_H → Prop), zSh zT0 h → O m p h → (zSh zT0 (R m p h) → Q none (R m p h)) → zg x (d + 20) m 0 (zm_en m [.ref 10, .int p]) [] h Q) (v1 : Int32) {Q : Option Value → zm_H → Prop} (G : Nat × Int32 × zm_H → Prop) (hx1 : ∀ (v2 : Int32) (h : zm_H) (o2 : Option Value) (o3 : Option Value), zSh zT0 h → G (1, v2, h) → zg x (d + 21) 102 60 [some (.ref 10), some (.int v1), o2, o3] [] h Q) : ∀ (n : Nat) (v2 : Int32) (h : zm_H) (o3 : Option Value), zSh zT0 h → f_Text_readProduct_l7_ok R O v1 n (v2, h) → G (f_Text_readProduct_l7 R v1 n (v2, h)) → zg x (d + 21) 102 7 [some (.ref 10), some (.int v1), some (.int v2), o3] [] h Q := by
  intro n
  induction n with
  | zero => intro v2 h o3 hs ho hG; exact ho.elim
  | succ n ih =>
    intro v2 h o3 hs ho hG
    refine f_Text_readProduct_l7_b_t hR (FN := fun r => (r.1 = 0 → f_Text_readProduct_l7_ok R O v1 n r.2) ∧ G (if r.1 = 0 then f_Text_readProduct_l7 R v1 n r.2 else r)) v1 v2 h o3 hs ho.1 ⟨ho.2, hG⟩ ?_ ?_
    · intro v2 h o3 hs hF
      exact ih v2 h o3 hs (hF.1 rfl) hF.2
    · intro v2 h o2 o3 hs hF
      exact hx1 v2 h o2 o3 hs hF.2

set_option maxRecDepth 100000 in
set_option maxHeartbeats 400000 in
theorem f_Text_readProduct_k60_t {x : zm_X} {d : Nat} {R : Nat → Int32 → zm_H → zm_H} {O : Nat → Int32 → zm_H → Prop} (hR : ∀ (m : Nat) (p : Int32) (h : zm_H) (Q : Option Value → zm_H → Prop), zSh zT0 h → O m p h → (zSh zT0 (R m p h) → Q none (R m p h)) → zg x (d + 20) m 0 (zm_en m [.ref 10, .int p]) [] h Q) (h : zm_H) (o0 : Option Value) (z1 : Int32) (o2 : Option Value) (o3 : Option Value) {Q : Option Value → zm_H → Prop} (hs : zSh zT0 h) (ho : f_Text_readProduct_k60_ok R O h) (hF : (zSh zT0 (f_Text_readProduct_k60 R h) → Q none (f_Text_readProduct_k60 R h))) : zg x (d + 21) 102 60 [o0, some (.int z1), o2, o3] [] h Q := by
  unfold f_Text_readProduct_k60 at hF
  unfold f_Text_readProduct_k60_ok at ho
  exact zg_ret zd_102 rfl rfl (hF hs)
set_option maxRecDepth 100000 in
set_option maxHeartbeats 400000 in
theorem f_Text_readProduct_k5_t {x : zm_X} {d : Nat} {R : Nat → Int32 → zm_H → zm_H} {O : Nat → Int32 → zm_H → Prop} (hR : ∀ (m : Nat) (p : Int32) (h : zm_H) (Q : Option Value → zm_H → Prop), zSh zT0 h → O m p h → (zSh zT0 (R m p h) → Q none (R m p h)) → zg x (d + 20) m 0 (zm_en m [.ref 10, .int p]) [] h Q) (v1 : Int32) (h : zm_H) (o2 : Option Value) (o3 : Option Value) {Q : Option Value → zm_H → Prop} (hs : zSh zT0 h) (ho : f_Text_readProduct_k5_ok R O v1 h) (hF : (zSh zT0 (f_Text_readProduct_k5 R v1 h) → Q none (f_Text_readProduct_k5 R v1 h))) : zg x (d + 21) 102 5 [some (.ref 10), some (.int v1), o2, o3] [] h Q := by
  unfold f_Text_readProduct_k5 at hF
  unfold f_Text_readProduct_k5_ok at ho
  refine zg_blk zd_102 2 hs (rfl : zb x zT0 zc_102 2 (5, [some (.ref 10), some (.int v1), o2, o3], [], h) = some (7, [some (.ref 10), some (.int v1), some (.int 0), o3], [], h)) (fun hs => ?_)
  refine f_Text_readProduct_l7_t hR v1 (fun r => f_Text_readProduct_a7_ok R O r ∧ (zSh zT0 (f_Text_readProduct_a7 R r) → Q none (f_Text_readProduct_a7 R r))) ?_ zF 0 h (o3) hs ho.1 ⟨ho.2, hF⟩
  · intro v2_ h_ o2_ o3_ hs hG
    have ho : True := trivial
    have hF : (zSh zT0 ((f_Text_readProduct_k60 R h_)) → Q none ((f_Text_readProduct_k60 R h_))) := hG.2
    exact f_Text_readProduct_k60_t hR h_ (some (.ref 10)) v1 (o2_) (o3_) hs trivial hF
set_option maxRecDepth 100000 in
set_option maxHeartbeats 400000 in
theorem f_Text_readProduct_t {x : zm_X} {d : Nat} {R : Nat → Int32 → zm_H → zm_H} {O : Nat → Int32 → zm_H → Prop} (hR : ∀ (m : Nat) (p : Int32) (h : zm_H) (Q : Option Value → zm_H → Prop), zSh zT0 h → O m p h → (zSh zT0 (R m p h) → Q none (R m p h)) → zg x (d + 20) m 0 (zm_en m [.ref 10, .int p]) [] h Q) (p1 : Int32) (h : zm_H) {Q : Option Value → zm_H → Prop} (hs : zSh zT0 h) (ho : f_Text_readProduct_ok R O p1 h) (hF : (zSh zT0 (f_Text_readProduct R p1 h) → Q none (f_Text_readProduct R p1 h))) : zg x (d + 21) 102 0 [some (.ref 10), some (.int p1), none, none] [] h Q := by
  unfold f_Text_readProduct at hF
  unfold f_Text_readProduct_ok at ho
  refine zg_blk zd_102 2 hs (rfl : zb x zT0 zc_102 2 (0, [some (.ref 10), some (.int p1), none, none], [], h) = some (2, [some (.ref 10), some (.int p1), none, none], [.int p1, .ref 10], h)) (fun hs => ?_)
  obtain ⟨hob, ho⟩ := ho
  refine zg_call hs zd_102 rfl rfl rfl rfl (as := [.ref 10, .int p1]) (rest := []) (en := [some (.ref 10), some (.int p1)]) rfl rfl rfl rfl rfl ?_
  refine hR 103 p1 h _ hs hob (fun hs => ?_)
  show zg x (d + 21) 102 5 [some (.ref 10), some (.int p1), none, none] [] (R 103 p1 h) Q
  exact f_Text_readProduct_k5_t hR p1 (R 103 p1 h) (none) (none) hs ho hF
theorem zd_103 : zm_cd 103 = zc_103 := by rfl
set_option maxRecDepth 100000 in
set_option maxHeartbeats 400000 in
theorem f_Text_readFactor_k117_t {x : zm_X} {d : Nat} {R : Nat → Int32 → zm_H → zm_H} {O : Nat → Int32 → zm_H → Prop} (hR : ∀ (m : Nat) (p : Int32) (h : zm_H) (Q : Option Value → zm_H → Prop), zSh zT0 h → O m p h → (zSh zT0 (R m p h) → Q none (R m p h)) → zg x (d + 20) m 0 (zm_en m [.ref 10, .int p]) [] h Q) (h : zm_H) (o1 : Option Value) {Q : Option Value → zm_H → Prop} (hs : zSh zT0 h) (ho : f_Text_readFactor_k117_ok R O h) (hF : (zSh zT0 (f_Text_readFactor_k117 R h) → Q none (f_Text_readFactor_k117 R h))) : zg x (d + 21) 103 117 [some (.ref 10), o1] [] h Q := by
  unfold f_Text_readFactor_k117 at hF
  unfold f_Text_readFactor_k117_ok at ho
  refine zg_blk zd_103 1 hs (rfl : zb x zT0 zc_103 1 (117, [some (.ref 10), o1], [], h) = some (118, [some (.ref 10), o1], [.ref 10], h)) (fun hs => ?_)
  have hob := ho
  refine zg_call hs zd_103 rfl rfl rfl rfl (as := [.ref 10]) (rest := []) (en := [some (.ref 10)]) rfl rfl rfl rfl rfl ?_
  refine f_Text_refuse_t  h hs hob (fun hs => ?_)
  show zg x (d + 21) 103 121 [some (.ref 10), o1] [] (f_Text_refuse h) Q
  exact zg_ret zd_103 rfl rfl (hF hs)
theorem zd_105 : zm_cd 105 = zc_105 := by rfl
set_option maxRecDepth 100000 in
set_option maxHeartbeats 400000 in
theorem f_Text_need_t {x : zm_X} {d : Nat} (p1 : Int32) (h : zm_H) {Q : Option Value → zm_H → Prop} (hs : zSh zT0 h) (ho : f_Text_need_ok p1 h) (hF : (zSh zT0 (f_Text_need p1 h) → Q none (f_Text_need p1 h))) : zg x (d + 2) 105 0 [some (.ref 10), some (.int p1)] [] h Q := by
  unfold f_Text_need at hF
  unfold f_Text_need_ok at ho
  refine zg_blk zd_105 3 hs (rfl : zb x zT0 zc_105 3 (0, [some (.ref 10), some (.int p1)], [], h) = some (5, [some (.ref 10), some (.int p1)], [.int p1, .int (zf h 10 8)], h)) (fun hs => ?_)
  refine zg_i_ne zd_105 rfl (fun (hc : ¬ ((zf h 10 8) = p1)) => ?_) (fun (hc : ((zf h 10 8) = p1)) => ?_)
  · have ho := ho.2 hc
    rw [if_neg hc] at hF
    refine zg_blk zd_105 1 hs (rfl : zb x zT0 zc_105 1 (15, [some (.ref 10), some (.int p1)], [], h) = some (16, [some (.ref 10), some (.int p1)], [.ref 10], h)) (fun hs => ?_)
    have hob := ho
    refine zg_call hs zd_105 rfl rfl rfl rfl (as := [.ref 10]) (rest := []) (en := [some (.ref 10)]) rfl rfl rfl rfl rfl ?_
    refine f_Text_refuse_t  h hs hob (fun hs => ?_)
    show zg x (d + 2) 105 19 [some (.ref 10), some (.int p1)] [] (f_Text_refuse h) Q
    exact zg_ret zd_105 rfl rfl (hF hs)
  · have ho := ho.1 hc
    rw [if_pos hc] at hF
    refine zg_blk zd_105 1 hs (rfl : zb x zT0 zc_105 1 (8, [some (.ref 10), some (.int p1)], [], h) = some (9, [some (.ref 10), some (.int p1)], [.ref 10], h)) (fun hs => ?_)
    have hob := ho
    refine zg_call hs zd_105 rfl rfl rfl rfl (as := [.ref 10]) (rest := []) (en := [some (.ref 10)]) rfl rfl rfl rfl rfl ?_
    refine f_Text_step_t  h hs hob (fun hs => ?_)
    show zg x (d + 2) 105 12 [some (.ref 10), some (.int p1)] [] (f_Text_step h) Q
    refine zg_blk zd_105 1 hs (rfl : zb x zT0 zc_105 1 (12, [some (.ref 10), some (.int p1)], [], (f_Text_step h)) = some (19, [some (.ref 10), some (.int p1)], [], (f_Text_step h))) (fun hs => ?_)
    exact zg_ret zd_105 rfl rfl (hF hs)
set_option maxRecDepth 100000 in
set_option maxHeartbeats 400000 in
theorem f_Text_readFactor_k108_t {x : zm_X} {d : Nat} {R : Nat → Int32 → zm_H → zm_H} {O : Nat → Int32 → zm_H → Prop} (hR : ∀ (m : Nat) (p : Int32) (h : zm_H) (Q : Option Value → zm_H → Prop), zSh zT0 h → O m p h → (zSh zT0 (R m p h) → Q none (R m p h)) → zg x (d + 20) m 0 (zm_en m [.ref 10, .int p]) [] h Q) (h : zm_H) (o1 : Option Value) {Q : Option Value → zm_H → Prop} (hs : zSh zT0 h) (ho : f_Text_readFactor_k108_ok R O h) (hF : (zSh zT0 (f_Text_readFactor_k108 R h) → Q none (f_Text_readFactor_k108 R h))) : zg x (d + 21) 103 108 [some (.ref 10), o1] [] h Q := by
  unfold f_Text_readFactor_k108 at hF
  unfold f_Text_readFactor_k108_ok at ho
  refine zg_blk zd_103 2 hs (rfl : zb x zT0 zc_103 2 (108, [some (.ref 10), o1], [], h) = some (111, [some (.ref 10), o1], [.int 41, .ref 10], h)) (fun hs => ?_)
  have hob := ho
  refine zg_call hs zd_103 rfl rfl rfl rfl (as := [.ref 10, .int 41]) (rest := []) (en := [some (.ref 10), some (.int 41)]) rfl rfl rfl rfl rfl ?_
  refine f_Text_need_t 41 h hs hob (fun hs => ?_)
  show zg x (d + 21) 103 114 [some (.ref 10), o1] [] (f_Text_need 41 h) Q
  refine zg_blk zd_103 1 hs (rfl : zb x zT0 zc_103 1 (114, [some (.ref 10), o1], [], (f_Text_need 41 h)) = some (121, [some (.ref 10), o1], [], (f_Text_need 41 h))) (fun hs => ?_)
  exact zg_ret zd_103 rfl rfl (hF hs)
set_option maxRecDepth 100000 in
set_option maxHeartbeats 400000 in
theorem f_Text_readFactor_k101_t {x : zm_X} {d : Nat} {R : Nat → Int32 → zm_H → zm_H} {O : Nat → Int32 → zm_H → Prop} (hR : ∀ (m : Nat) (p : Int32) (h : zm_H) (Q : Option Value → zm_H → Prop), zSh zT0 h → O m p h → (zSh zT0 (R m p h) → Q none (R m p h)) → zg x (d + 20) m 0 (zm_en m [.ref 10, .int p]) [] h Q) (v1 : Int32) (h : zm_H) {Q : Option Value → zm_H → Prop} (hs : zSh zT0 h) (ho : f_Text_readFactor_k101_ok R O v1 h) (hF : (zSh zT0 (f_Text_readFactor_k101 R v1 h) → Q none (f_Text_readFactor_k101 R v1 h))) : zg x (d + 21) 103 101 [some (.ref 10), some (.int v1)] [] h Q := by
  unfold f_Text_readFactor_k101 at hF
  unfold f_Text_readFactor_k101_ok at ho
  refine zg_blk zd_103 4 hs (rfl : zb x zT0 zc_103 4 (101, [some (.ref 10), some (.int v1)], [], h) = some (105, [some (.ref 10), some (.int v1)], [.int (v1 + 1), .ref 10], h)) (fun hs => ?_)
  obtain ⟨hob, ho⟩ := ho
  refine zg_call hs zd_103 rfl rfl rfl rfl (as := [.ref 10, .int (v1 + 1)]) (rest := []) (en := [some (.ref 10), some (.int (v1 + 1)), none, none]) rfl rfl rfl rfl rfl ?_
  refine hR 101 (v1 + 1) h _ hs hob (fun hs => ?_)
  show zg x (d + 21) 103 108 [some (.ref 10), some (.int v1)] [] (R 101 (v1 + 1) h) Q
  exact f_Text_readFactor_k108_t hR (R 101 (v1 + 1) h) (some (.int v1)) hs ho hF
set_option maxRecDepth 100000 in
set_option maxHeartbeats 400000 in
theorem f_Text_readFactor_k82_t {x : zm_X} {d : Nat} {R : Nat → Int32 → zm_H → zm_H} {O : Nat → Int32 → zm_H → Prop} (hR : ∀ (m : Nat) (p : Int32) (h : zm_H) (Q : Option Value → zm_H → Prop), zSh zT0 h → O m p h → (zSh zT0 (R m p h) → Q none (R m p h)) → zg x (d + 20) m 0 (zm_en m [.ref 10, .int p]) [] h Q) (v1 : Int32) (h : zm_H) {Q : Option Value → zm_H → Prop} (hs : zSh zT0 h) (ho : f_Text_readFactor_k82_ok R O v1 h) (hF : (zSh zT0 (f_Text_readFactor_k82 R v1 h) → Q none (f_Text_readFactor_k82 R v1 h))) : zg x (d + 21) 103 82 [some (.ref 10), some (.int v1)] [] h Q := by
  unfold f_Text_readFactor_k82 at hF
  unfold f_Text_readFactor_k82_ok at ho
  refine zg_blk zd_103 3 hs (rfl : zb x zT0 zc_103 3 (82, [some (.ref 10), some (.int v1)], [], h) = some (88, [some (.ref 10), some (.int v1)], [.int 40, .int (zf h 10 8)], h)) (fun hs => ?_)
  refine zg_i_ne zd_103 rfl (fun (hc : ¬ ((zf h 10 8) = 40)) => ?_) (fun (hc : ((zf h 10 8) = 40)) => ?_)
  · have ho := ho.2 hc
    rw [if_neg hc] at hF
    exact f_Text_readFactor_k117_t hR h (some (.int v1)) hs ho hF
  · have ho := ho.1 hc
    rw [if_pos hc] at hF
    refine zg_blk zd_103 2 hs (rfl : zb x zT0 zc_103 2 (91, [some (.ref 10), some (.int v1)], [], h) = some (94, [some (.ref 10), some (.int v1)], [.int 8, .int v1], h)) (fun hs => ?_)
    refine zg_i_ge zd_103 rfl (fun (hc : (8 ≤ v1)) => ?_) (fun (hc : ¬ (8 ≤ v1)) => ?_)
    · have ho := ho.1 hc
      rw [if_pos hc] at hF
      exact f_Text_readFactor_k117_t hR h (some (.int v1)) hs ho hF
    · have ho := ho.2 hc
      rw [if_neg hc] at hF
      refine zg_blk zd_103 1 hs (rfl : zb x zT0 zc_103 1 (97, [some (.ref 10), some (.int v1)], [], h) = some (98, [some (.ref 10), some (.int v1)], [.ref 10], h)) (fun hs => ?_)
      obtain ⟨hob, ho⟩ := ho
      refine zg_call hs zd_103 rfl rfl rfl rfl (as := [.ref 10]) (rest := []) (en := [some (.ref 10)]) rfl rfl rfl rfl rfl ?_
      refine f_Text_step_t  h hs hob (fun hs => ?_)
      show zg x (d + 21) 103 101 [some (.ref 10), some (.int v1)] [] (f_Text_step h) Q
      exact f_Text_readFactor_k101_t hR v1 (f_Text_step h) hs ho hF
