theorem zd_2 : zm_cd 2 = zc_2 := by rfl
def f_Cable_bits (p0 : Int32) (p1 : Int32) (h : zm_H) : Int32 := ((1 <<< ((p1 + 1) &&& 31)) - (1 <<< (p0 &&& 31)))
def f_Cable_bits_ok (p0 : Int32) (p1 : Int32) (h : zm_H) : Prop := True
set_option maxRecDepth 100000 in
set_option maxHeartbeats 4000000 in
theorem f_Cable_bits_t {x : zm_X} {d : Nat} (p0 : Int32) (p1 : Int32) (h : zm_H) {Q : Option Value → zm_H → Prop} (hs : zSh zT0 h) (ho : f_Cable_bits_ok p0 p1 h) (hF : Q (some (.int (f_Cable_bits p0 p1 h))) h) : zg x (d + 1) 2 0 [some (.int p0), some (.int p1)] [] h Q := by
  unfold f_Cable_bits at hF
  unfold f_Cable_bits_ok at ho
  refine zg_blk zd_2 9 hs (rfl : zb x zT0 zc_2 9 (0, [some (.int p0), some (.int p1)], [], h) = some (9, [some (.int p0), some (.int p1)], [.int ((1 <<< ((p1 + 1) &&& 31)) - (1 <<< (p0 &&& 31)))], h)) (fun hs => ?_)
  exact zg_ret zd_2 rfl rfl hF
theorem zd_1 : zm_cd 1 = zc_1 := by rfl
def f_Cable_tell (p1 : Int32) (p2 : Int32) (p3 : Int32) (h : zm_H) : Int32 × zm_H := (if ((zf h 91 0) < 20) then ((zf (zp (zp h 91 0 ((zf h 91 0) + 1)) 91 1 ((zf (zp h 91 0 ((zf h 91 0) + 1)) 91 1) &&& (if (p3 = 0) then (((1 <<< ((p2 + 1) &&& 31)) - (1 <<< (p1 &&& 31))) ^^^ (-1)) else ((1 <<< ((p2 + 1) &&& 31)) - (1 <<< (p1 &&& 31)))))) 91 1), (zp (zp h 91 0 ((zf h 91 0) + 1)) 91 1 ((zf (zp h 91 0 ((zf h 91 0) + 1)) 91 1) &&& (if (p3 = 0) then (((1 <<< ((p2 + 1) &&& 31)) - (1 <<< (p1 &&& 31))) ^^^ (-1)) else ((1 <<< ((p2 + 1) &&& 31)) - (1 <<< (p1 &&& 31))))))) else ((-1), h))
def f_Cable_tell_ok (p1 : Int32) (p2 : Int32) (p3 : Int32) (h : zm_H) : Prop := True
set_option maxRecDepth 100000 in
set_option maxHeartbeats 4000000 in
theorem f_Cable_tell_t {x : zm_X} {d : Nat} (p1 : Int32) (p2 : Int32) (p3 : Int32) (h : zm_H) {Q : Option Value → zm_H → Prop} (hs : zSh zT0 h) (ho : f_Cable_tell_ok p1 p2 p3 h) (hF : (zSh zT0 (f_Cable_tell p1 p2 p3 h).2 → Q (some (.int (f_Cable_tell p1 p2 p3 h).1)) (f_Cable_tell p1 p2 p3 h).2)) : zg x (d + 2) 1 0 [some (.ref 91), some (.int p1), some (.int p2), some (.int p3)] [] h Q := by
  unfold f_Cable_tell at hF
  unfold f_Cable_tell_ok at ho
  refine zg_blk zd_1 3 hs (rfl : zb x zT0 zc_1 3 (0, [some (.ref 91), some (.int p1), some (.int p2), some (.int p3)], [], h) = some (6, [some (.ref 91), some (.int p1), some (.int p2), some (.int p3)], [.int 20, .int (zf h 91 0)], h)) (fun hs => ?_)
  refine zg_i_lt zd_1 rfl (fun hc => ?_) (fun hc => ?_)
  · skip
    rw [if_pos hc] at hF
    refine zg_blk zd_1 10 hs (rfl : zb x zT0 zc_1 10 (11, [some (.ref 91), some (.int p1), some (.int p2), some (.int p3)], [], h) = some (27, [some (.ref 91), some (.int p1), some (.int p2), some (.int p3)], [.int p3, .int (zf (zp h 91 0 ((zf h 91 0) + 1)) 91 1), .ref 91], (zp h 91 0 ((zf h 91 0) + 1)))) (fun hs => ?_)
    have K1 : zSh zT0 (zp h 91 0 ((zf h 91 0) + 1)) → zg x (d + 2) 1 45 [some (.ref 91), some (.int p1), some (.int p2), some (.int p3)] [.int (if (p3 = 0) then (((1 <<< ((p2 + 1) &&& 31)) - (1 <<< (p1 &&& 31))) ^^^ (-1)) else ((1 <<< ((p2 + 1) &&& 31)) - (1 <<< (p1 &&& 31)))), .int (zf (zp h 91 0 ((zf h 91 0) + 1)) 91 1), .ref 91] (zp h 91 0 ((zf h 91 0) + 1)) Q := fun hs => by
      refine zg_blk zd_1 4 hs (rfl : zb x zT0 zc_1 4 (45, [some (.ref 91), some (.int p1), some (.int p2), some (.int p3)], [.int (if (p3 = 0) then (((1 <<< ((p2 + 1) &&& 31)) - (1 <<< (p1 &&& 31))) ^^^ (-1)) else ((1 <<< ((p2 + 1) &&& 31)) - (1 <<< (p1 &&& 31)))), .int (zf (zp h 91 0 ((zf h 91 0) + 1)) 91 1), .ref 91], (zp h 91 0 ((zf h 91 0) + 1))) = some (53, [some (.ref 91), some (.int p1), some (.int p2), some (.int p3)], [.int (zf (zp (zp h 91 0 ((zf h 91 0) + 1)) 91 1 ((zf (zp h 91 0 ((zf h 91 0) + 1)) 91 1) &&& (if (p3 = 0) then (((1 <<< ((p2 + 1) &&& 31)) - (1 <<< (p1 &&& 31))) ^^^ (-1)) else ((1 <<< ((p2 + 1) &&& 31)) - (1 <<< (p1 &&& 31)))))) 91 1)], (zp (zp h 91 0 ((zf h 91 0) + 1)) 91 1 ((zf (zp h 91 0 ((zf h 91 0) + 1)) 91 1) &&& (if (p3 = 0) then (((1 <<< ((p2 + 1) &&& 31)) - (1 <<< (p1 &&& 31))) ^^^ (-1)) else ((1 <<< ((p2 + 1) &&& 31)) - (1 <<< (p1 &&& 31)))))))) (fun hs => ?_)
      exact zg_ret zd_1 rfl rfl (hF hs)
    refine zg_f_eq zd_1 rfl (fun hc => ?_) (fun hc => ?_)
    · skip
      rw [show ((if (p3 = 0) then (((1 <<< ((p2 + 1) &&& 31)) - (1 <<< (p1 &&& 31))) ^^^ (-1)) else ((1 <<< ((p2 + 1) &&& 31)) - (1 <<< (p1 &&& 31)))) : Int32) = (((1 <<< ((p2 + 1) &&& 31)) - (1 <<< (p1 &&& 31))) ^^^ (-1)) from if_pos hc] at K1
      refine zg_blk zd_1 2 hs (rfl : zb x zT0 zc_1 2 (38, [some (.ref 91), some (.int p1), some (.int p2), some (.int p3)], [.int (zf (zp h 91 0 ((zf h 91 0) + 1)) 91 1), .ref 91], (zp h 91 0 ((zf h 91 0) + 1))) = some (40, [some (.ref 91), some (.int p1), some (.int p2), some (.int p3)], [.int p2, .int p1, .int (zf (zp h 91 0 ((zf h 91 0) + 1)) 91 1), .ref 91], (zp h 91 0 ((zf h 91 0) + 1)))) (fun hs => ?_)
      refine zg_call hs zd_1 rfl rfl rfl rfl (as := [.int p1, .int p2]) (rest := [.int (zf (zp h 91 0 ((zf h 91 0) + 1)) 91 1), .ref 91]) (en := [some (.int p1), some (.int p2)]) rfl rfl rfl rfl rfl ?_
      refine f_Cable_bits_t p1 p2 (zp h 91 0 ((zf h 91 0) + 1)) hs trivial ?_
      show zg x (d + 2) 1 43 [some (.ref 91), some (.int p1), some (.int p2), some (.int p3)] [.int ((1 <<< ((p2 + 1) &&& 31)) - (1 <<< (p1 &&& 31))), .int (zf (zp h 91 0 ((zf h 91 0) + 1)) 91 1), .ref 91] (zp h 91 0 ((zf h 91 0) + 1)) Q
      refine zg_blk zd_1 2 hs (rfl : zb x zT0 zc_1 2 (43, [some (.ref 91), some (.int p1), some (.int p2), some (.int p3)], [.int ((1 <<< ((p2 + 1) &&& 31)) - (1 <<< (p1 &&& 31))), .int (zf (zp h 91 0 ((zf h 91 0) + 1)) 91 1), .ref 91], (zp h 91 0 ((zf h 91 0) + 1))) = some (45, [some (.ref 91), some (.int p1), some (.int p2), some (.int p3)], [.int (((1 <<< ((p2 + 1) &&& 31)) - (1 <<< (p1 &&& 31))) ^^^ (-1)), .int (zf (zp h 91 0 ((zf h 91 0) + 1)) 91 1), .ref 91], (zp h 91 0 ((zf h 91 0) + 1)))) (fun hs => ?_)
      exact K1 hs
    · skip
      rw [show ((if (p3 = 0) then (((1 <<< ((p2 + 1) &&& 31)) - (1 <<< (p1 &&& 31))) ^^^ (-1)) else ((1 <<< ((p2 + 1) &&& 31)) - (1 <<< (p1 &&& 31)))) : Int32) = ((1 <<< ((p2 + 1) &&& 31)) - (1 <<< (p1 &&& 31))) from if_neg hc] at K1
      refine zg_blk zd_1 2 hs (rfl : zb x zT0 zc_1 2 (30, [some (.ref 91), some (.int p1), some (.int p2), some (.int p3)], [.int (zf (zp h 91 0 ((zf h 91 0) + 1)) 91 1), .ref 91], (zp h 91 0 ((zf h 91 0) + 1))) = some (32, [some (.ref 91), some (.int p1), some (.int p2), some (.int p3)], [.int p2, .int p1, .int (zf (zp h 91 0 ((zf h 91 0) + 1)) 91 1), .ref 91], (zp h 91 0 ((zf h 91 0) + 1)))) (fun hs => ?_)
      refine zg_call hs zd_1 rfl rfl rfl rfl (as := [.int p1, .int p2]) (rest := [.int (zf (zp h 91 0 ((zf h 91 0) + 1)) 91 1), .ref 91]) (en := [some (.int p1), some (.int p2)]) rfl rfl rfl rfl rfl ?_
      refine f_Cable_bits_t p1 p2 (zp h 91 0 ((zf h 91 0) + 1)) hs trivial ?_
      show zg x (d + 2) 1 35 [some (.ref 91), some (.int p1), some (.int p2), some (.int p3)] [.int ((1 <<< ((p2 + 1) &&& 31)) - (1 <<< (p1 &&& 31))), .int (zf (zp h 91 0 ((zf h 91 0) + 1)) 91 1), .ref 91] (zp h 91 0 ((zf h 91 0) + 1)) Q
      refine zg_blk zd_1 1 hs (rfl : zb x zT0 zc_1 1 (35, [some (.ref 91), some (.int p1), some (.int p2), some (.int p3)], [.int ((1 <<< ((p2 + 1) &&& 31)) - (1 <<< (p1 &&& 31))), .int (zf (zp h 91 0 ((zf h 91 0) + 1)) 91 1), .ref 91], (zp h 91 0 ((zf h 91 0) + 1))) = some (45, [some (.ref 91), some (.int p1), some (.int p2), some (.int p3)], [.int ((1 <<< ((p2 + 1) &&& 31)) - (1 <<< (p1 &&& 31))), .int (zf (zp h 91 0 ((zf h 91 0) + 1)) 91 1), .ref 91], (zp h 91 0 ((zf h 91 0) + 1)))) (fun hs => ?_)
      exact K1 hs
  · skip
    rw [if_neg hc] at hF
    refine zg_blk zd_1 1 hs (rfl : zb x zT0 zc_1 1 (9, [some (.ref 91), some (.int p1), some (.int p2), some (.int p3)], [], h) = some (10, [some (.ref 91), some (.int p1), some (.int p2), some (.int p3)], [.int (-1)], h)) (fun hs => ?_)
    exact zg_ret zd_1 rfl rfl (hF hs)
theorem zd_119 : zm_cd 119 = zc_119 := by rfl
def f_N_isSpell (p0 : Int32) (h : zm_H) : Int32 := (if (¬ (p0 < 0) ∧ (¬ (480 ≤ p0))) then 1 else 0)
def f_N_isSpell_ok (p0 : Int32) (h : zm_H) : Prop := True
set_option maxRecDepth 100000 in
set_option maxHeartbeats 4000000 in
theorem f_N_isSpell_t {x : zm_X} {d : Nat} (p0 : Int32) (h : zm_H) {Q : Option Value → zm_H → Prop} (hs : zSh zT0 h) (ho : f_N_isSpell_ok p0 h) (hF : Q (some (.int (f_N_isSpell p0 h))) h) : zg x (d + 1) 119 0 [some (.int p0)] [] h Q := by
  unfold f_N_isSpell at hF
  unfold f_N_isSpell_ok at ho
  refine zg_blk zd_119 1 hs (rfl : zb x zT0 zc_119 1 (0, [some (.int p0)], [], h) = some (1, [some (.int p0)], [.int p0], h)) (fun hs => ?_)
  have K2 : zSh zT0 h → zg x (d + 1) 119 16 [some (.int p0)] [.int (if (¬ (p0 < 0) ∧ (¬ (480 ≤ p0))) then 1 else 0)] h Q := fun hs => by
    exact zg_rtz zd_119 rfl rfl zm_nb01 hF
  refine zg_f_lt zd_119 rfl (fun hc => ?_) (fun hc => ?_)
  · skip
    rw [show ((if (¬ (p0 < 0) ∧ (¬ (480 ≤ p0))) then 1 else 0) : Int32) = 0 from zb_nand_t hc] at K2
    refine zg_blk zd_119 1 hs (rfl : zb x zT0 zc_119 1 (15, [some (.int p0)], [], h) = some (16, [some (.int p0)], [.int 0], h)) (fun hs => ?_)
    exact K2 hs
  · skip
    rw [show ((if (¬ (p0 < 0) ∧ (¬ (480 ≤ p0))) then 1 else 0) : Int32) = (if (¬ (480 ≤ p0)) then 1 else 0) from zb_nand_f hc] at K2
    refine zg_blk zd_119 2 hs (rfl : zb x zT0 zc_119 2 (4, [some (.int p0)], [], h) = some (8, [some (.int p0)], [.int 480, .int p0], h)) (fun hs => ?_)
    refine zg_i_ge zd_119 rfl (fun hc => ?_) (fun hc => ?_)
    · skip
      rw [show ((if (¬ (480 ≤ p0)) then 1 else 0) : Int32) = 0 from zb_not_t hc] at K2
      refine zg_blk zd_119 1 hs (rfl : zb x zT0 zc_119 1 (15, [some (.int p0)], [], h) = some (16, [some (.int p0)], [.int 0], h)) (fun hs => ?_)
      exact K2 hs
    · skip
      rw [show ((if (¬ (480 ≤ p0)) then 1 else 0) : Int32) = 1 from zb_not_f hc] at K2
      refine zg_blk zd_119 2 hs (rfl : zb x zT0 zc_119 2 (11, [some (.int p0)], [], h) = some (16, [some (.int p0)], [.int 1], h)) (fun hs => ?_)
      exact K2 hs
theorem zd_172 : zm_cd 172 = zc_172 := by rfl
def f_M_in (p0 : Int32) (p1 : Int32) (p2 : Int32) (h : zm_H) : Int32 := (if (¬ (p0 < p1) ∧ (¬ (p2 < p0))) then 1 else 0)
def f_M_in_ok (p0 : Int32) (p1 : Int32) (p2 : Int32) (h : zm_H) : Prop := True
set_option maxRecDepth 100000 in
set_option maxHeartbeats 4000000 in
theorem f_M_in_t {x : zm_X} {d : Nat} (p0 : Int32) (p1 : Int32) (p2 : Int32) (h : zm_H) {Q : Option Value → zm_H → Prop} (hs : zSh zT0 h) (ho : f_M_in_ok p0 p1 p2 h) (hF : Q (some (.int (f_M_in p0 p1 p2 h))) h) : zg x (d + 1) 172 0 [some (.int p0), some (.int p1), some (.int p2)] [] h Q := by
  unfold f_M_in at hF
  unfold f_M_in_ok at ho
  refine zg_blk zd_172 2 hs (rfl : zb x zT0 zc_172 2 (0, [some (.int p0), some (.int p1), some (.int p2)], [], h) = some (2, [some (.int p0), some (.int p1), some (.int p2)], [.int p1, .int p0], h)) (fun hs => ?_)
  have K3 : zSh zT0 h → zg x (d + 1) 172 15 [some (.int p0), some (.int p1), some (.int p2)] [.int (if (¬ (p0 < p1) ∧ (¬ (p2 < p0))) then 1 else 0)] h Q := fun hs => by
    exact zg_rtz zd_172 rfl rfl zm_nb01 hF
  refine zg_i_lt zd_172 rfl (fun hc => ?_) (fun hc => ?_)
  · skip
    rw [show ((if (¬ (p0 < p1) ∧ (¬ (p2 < p0))) then 1 else 0) : Int32) = 0 from zb_nand_t hc] at K3
    refine zg_blk zd_172 1 hs (rfl : zb x zT0 zc_172 1 (14, [some (.int p0), some (.int p1), some (.int p2)], [], h) = some (15, [some (.int p0), some (.int p1), some (.int p2)], [.int 0], h)) (fun hs => ?_)
    exact K3 hs
  · skip
    rw [show ((if (¬ (p0 < p1) ∧ (¬ (p2 < p0))) then 1 else 0) : Int32) = (if (¬ (p2 < p0)) then 1 else 0) from zb_nand_f hc] at K3
    refine zg_blk zd_172 2 hs (rfl : zb x zT0 zc_172 2 (5, [some (.int p0), some (.int p1), some (.int p2)], [], h) = some (7, [some (.int p0), some (.int p1), some (.int p2)], [.int p2, .int p0], h)) (fun hs => ?_)
    refine zg_i_gt zd_172 rfl (fun hc => ?_) (fun hc => ?_)
    · skip
      rw [show ((if (¬ (p2 < p0)) then 1 else 0) : Int32) = 0 from zb_not_t hc] at K3
      refine zg_blk zd_172 1 hs (rfl : zb x zT0 zc_172 1 (14, [some (.int p0), some (.int p1), some (.int p2)], [], h) = some (15, [some (.int p0), some (.int p1), some (.int p2)], [.int 0], h)) (fun hs => ?_)
      exact K3 hs
    · skip
      rw [show ((if (¬ (p2 < p0)) then 1 else 0) : Int32) = 1 from zb_not_f hc] at K3
      refine zg_blk zd_172 2 hs (rfl : zb x zT0 zc_172 2 (10, [some (.int p0), some (.int p1), some (.int p2)], [], h) = some (15, [some (.int p0), some (.int p1), some (.int p2)], [.int 1], h)) (fun hs => ?_)
      exact K3 hs
theorem zd_171 : zm_cd 171 = zc_171 := by rfl
def f_M_isSpell (p0 : Int32) (h : zm_H) : Int32 := (if (¬ (p0 < 0) ∧ (¬ (479 < p0))) then 1 else 0)
def f_M_isSpell_ok (p0 : Int32) (h : zm_H) : Prop := True
set_option maxRecDepth 100000 in
set_option maxHeartbeats 4000000 in
theorem f_M_isSpell_t {x : zm_X} {d : Nat} (p0 : Int32) (h : zm_H) {Q : Option Value → zm_H → Prop} (hs : zSh zT0 h) (ho : f_M_isSpell_ok p0 h) (hF : Q (some (.int (f_M_isSpell p0 h))) h) : zg x (d + 2) 171 0 [some (.int p0)] [] h Q := by
  unfold f_M_isSpell at hF
  unfold f_M_isSpell_ok at ho
  refine zg_blk zd_171 3 hs (rfl : zb x zT0 zc_171 3 (0, [some (.int p0)], [], h) = some (5, [some (.int p0)], [.int 479, .int 0, .int p0], h)) (fun hs => ?_)
  refine zg_call hs zd_171 rfl rfl rfl rfl (as := [.int p0, .int 0, .int 479]) (rest := []) (en := [some (.int p0), some (.int 0), some (.int 479)]) rfl rfl rfl rfl rfl ?_
  refine f_M_in_t p0 0 479 h hs trivial ?_
  show zg x (d + 2) 171 8 [some (.int p0)] [.int (if (¬ (p0 < 0) ∧ (¬ (479 < p0))) then 1 else 0)] h Q
  exact zg_rtz zd_171 rfl rfl zm_nb01 hF
theorem zd_264 : zm_cd 264 = zc_264 := by rfl
def f_Integer_bitCount (p0 : Int32) (h : zm_H) : Int32 := ((((((((p0 - ((zm_us p0 1) &&& 1431655765)) &&& 858993459) + ((zm_us (p0 - ((zm_us p0 1) &&& 1431655765)) 2) &&& 858993459)) + (zm_us (((p0 - ((zm_us p0 1) &&& 1431655765)) &&& 858993459) + ((zm_us (p0 - ((zm_us p0 1) &&& 1431655765)) 2) &&& 858993459)) 4)) &&& 252645135) + (zm_us (((((p0 - ((zm_us p0 1) &&& 1431655765)) &&& 858993459) + ((zm_us (p0 - ((zm_us p0 1) &&& 1431655765)) 2) &&& 858993459)) + (zm_us (((p0 - ((zm_us p0 1) &&& 1431655765)) &&& 858993459) + ((zm_us (p0 - ((zm_us p0 1) &&& 1431655765)) 2) &&& 858993459)) 4)) &&& 252645135) 8)) + (zm_us ((((((p0 - ((zm_us p0 1) &&& 1431655765)) &&& 858993459) + ((zm_us (p0 - ((zm_us p0 1) &&& 1431655765)) 2) &&& 858993459)) + (zm_us (((p0 - ((zm_us p0 1) &&& 1431655765)) &&& 858993459) + ((zm_us (p0 - ((zm_us p0 1) &&& 1431655765)) 2) &&& 858993459)) 4)) &&& 252645135) + (zm_us (((((p0 - ((zm_us p0 1) &&& 1431655765)) &&& 858993459) + ((zm_us (p0 - ((zm_us p0 1) &&& 1431655765)) 2) &&& 858993459)) + (zm_us (((p0 - ((zm_us p0 1) &&& 1431655765)) &&& 858993459) + ((zm_us (p0 - ((zm_us p0 1) &&& 1431655765)) 2) &&& 858993459)) 4)) &&& 252645135) 8)) 16)) &&& 63)
def f_Integer_bitCount_ok (p0 : Int32) (h : zm_H) : Prop := True
set_option maxRecDepth 100000 in
set_option maxHeartbeats 4000000 in
theorem f_Integer_bitCount_t {x : zm_X} {d : Nat} (p0 : Int32) (h : zm_H) {Q : Option Value → zm_H → Prop} (hs : zSh zT0 h) (ho : f_Integer_bitCount_ok p0 h) (hF : Q (some (.int (f_Integer_bitCount p0 h))) h) : zg x (d + 1) 264 0 [some (.int p0)] [] h Q := by
  unfold f_Integer_bitCount at hF
  unfold f_Integer_bitCount_ok at ho
  refine zg_blk zd_264 41 hs (rfl : zb x zT0 zc_264 41 (0, [some (.int p0)], [], h) = some (52, [some (.int (((((((p0 - ((zm_us p0 1) &&& 1431655765)) &&& 858993459) + ((zm_us (p0 - ((zm_us p0 1) &&& 1431655765)) 2) &&& 858993459)) + (zm_us (((p0 - ((zm_us p0 1) &&& 1431655765)) &&& 858993459) + ((zm_us (p0 - ((zm_us p0 1) &&& 1431655765)) 2) &&& 858993459)) 4)) &&& 252645135) + (zm_us (((((p0 - ((zm_us p0 1) &&& 1431655765)) &&& 858993459) + ((zm_us (p0 - ((zm_us p0 1) &&& 1431655765)) 2) &&& 858993459)) + (zm_us (((p0 - ((zm_us p0 1) &&& 1431655765)) &&& 858993459) + ((zm_us (p0 - ((zm_us p0 1) &&& 1431655765)) 2) &&& 858993459)) 4)) &&& 252645135) 8)) + (zm_us ((((((p0 - ((zm_us p0 1) &&& 1431655765)) &&& 858993459) + ((zm_us (p0 - ((zm_us p0 1) &&& 1431655765)) 2) &&& 858993459)) + (zm_us (((p0 - ((zm_us p0 1) &&& 1431655765)) &&& 858993459) + ((zm_us (p0 - ((zm_us p0 1) &&& 1431655765)) 2) &&& 858993459)) 4)) &&& 252645135) + (zm_us (((((p0 - ((zm_us p0 1) &&& 1431655765)) &&& 858993459) + ((zm_us (p0 - ((zm_us p0 1) &&& 1431655765)) 2) &&& 858993459)) + (zm_us (((p0 - ((zm_us p0 1) &&& 1431655765)) &&& 858993459) + ((zm_us (p0 - ((zm_us p0 1) &&& 1431655765)) 2) &&& 858993459)) 4)) &&& 252645135) 8)) 16)))], [.int ((((((((p0 - ((zm_us p0 1) &&& 1431655765)) &&& 858993459) + ((zm_us (p0 - ((zm_us p0 1) &&& 1431655765)) 2) &&& 858993459)) + (zm_us (((p0 - ((zm_us p0 1) &&& 1431655765)) &&& 858993459) + ((zm_us (p0 - ((zm_us p0 1) &&& 1431655765)) 2) &&& 858993459)) 4)) &&& 252645135) + (zm_us (((((p0 - ((zm_us p0 1) &&& 1431655765)) &&& 858993459) + ((zm_us (p0 - ((zm_us p0 1) &&& 1431655765)) 2) &&& 858993459)) + (zm_us (((p0 - ((zm_us p0 1) &&& 1431655765)) &&& 858993459) + ((zm_us (p0 - ((zm_us p0 1) &&& 1431655765)) 2) &&& 858993459)) 4)) &&& 252645135) 8)) + (zm_us ((((((p0 - ((zm_us p0 1) &&& 1431655765)) &&& 858993459) + ((zm_us (p0 - ((zm_us p0 1) &&& 1431655765)) 2) &&& 858993459)) + (zm_us (((p0 - ((zm_us p0 1) &&& 1431655765)) &&& 858993459) + ((zm_us (p0 - ((zm_us p0 1) &&& 1431655765)) 2) &&& 858993459)) 4)) &&& 252645135) + (zm_us (((((p0 - ((zm_us p0 1) &&& 1431655765)) &&& 858993459) + ((zm_us (p0 - ((zm_us p0 1) &&& 1431655765)) 2) &&& 858993459)) + (zm_us (((p0 - ((zm_us p0 1) &&& 1431655765)) &&& 858993459) + ((zm_us (p0 - ((zm_us p0 1) &&& 1431655765)) 2) &&& 858993459)) 4)) &&& 252645135) 8)) 16)) &&& 63)], h)) (fun hs => ?_)
  exact zg_ret zd_264 rfl rfl hF
theorem zd_3 : zm_cd 3 = zc_3 := by rfl
def f_Cable_findNext_l23_l34_b (v1 : Int32) (v2 : Int32) (v3 : Int32) (v4 : Int32) (v5 : Int32) (h : zm_H) : Nat × Int32 × Int32 × Int32 := (if (16 ≤ v5) then (1, v2, v3, v5) else (0, (if (v3 ≤ (if (f_Integer_bitCount ((zf h 91 1) &&& ((1 <<< ((v5 + 1) &&& 31)) - (1 <<< (v4 &&& 31)))) h) < (v1 - (f_Integer_bitCount ((zf h 91 1) &&& ((1 <<< ((v5 + 1) &&& 31)) - (1 <<< (v4 &&& 31)))) h)) then (v1 - (f_Integer_bitCount ((zf h 91 1) &&& ((1 <<< ((v5 + 1) &&& 31)) - (1 <<< (v4 &&& 31)))) h)) else (f_Integer_bitCount ((zf h 91 1) &&& ((1 <<< ((v5 + 1) &&& 31)) - (1 <<< (v4 &&& 31)))) h))) then v2 else ((v4 * 100) + v5)), (if (v3 ≤ (if (f_Integer_bitCount ((zf h 91 1) &&& ((1 <<< ((v5 + 1) &&& 31)) - (1 <<< (v4 &&& 31)))) h) < (v1 - (f_Integer_bitCount ((zf h 91 1) &&& ((1 <<< ((v5 + 1) &&& 31)) - (1 <<< (v4 &&& 31)))) h)) then (v1 - (f_Integer_bitCount ((zf h 91 1) &&& ((1 <<< ((v5 + 1) &&& 31)) - (1 <<< (v4 &&& 31)))) h)) else (f_Integer_bitCount ((zf h 91 1) &&& ((1 <<< ((v5 + 1) &&& 31)) - (1 <<< (v4 &&& 31)))) h))) then v3 else (if (f_Integer_bitCount ((zf h 91 1) &&& ((1 <<< ((v5 + 1) &&& 31)) - (1 <<< (v4 &&& 31)))) h) < (v1 - (f_Integer_bitCount ((zf h 91 1) &&& ((1 <<< ((v5 + 1) &&& 31)) - (1 <<< (v4 &&& 31)))) h)) then (v1 - (f_Integer_bitCount ((zf h 91 1) &&& ((1 <<< ((v5 + 1) &&& 31)) - (1 <<< (v4 &&& 31)))) h)) else (f_Integer_bitCount ((zf h 91 1) &&& ((1 <<< ((v5 + 1) &&& 31)) - (1 <<< (v4 &&& 31)))) h))), (v5 + 1)))
def f_Cable_findNext_l23_l34_b_ok (v1 : Int32) (v2 : Int32) (v3 : Int32) (v4 : Int32) (v5 : Int32) (h : zm_H) : Prop := True
set_option maxRecDepth 100000 in
set_option maxHeartbeats 4000000 in
theorem f_Cable_findNext_l23_l34_b_t {x : zm_X} {d : Nat} (v1 : Int32) (v2 : Int32) (v3 : Int32) (v4 : Int32) (v5 : Int32) (h : zm_H) (o6 : Option Value) (o7 : Option Value) {Q : Option Value → zm_H → Prop} {FN : Nat × Int32 × Int32 × Int32 → Prop} (hs : zSh zT0 h) (ho : f_Cable_findNext_l23_l34_b_ok v1 v2 v3 v4 v5 h) (hF : FN (f_Cable_findNext_l23_l34_b v1 v2 v3 v4 v5 h)) (hl0 : ∀ (v2 : Int32) (v3 : Int32) (v5 : Int32) (o6 : Option Value) (o7 : Option Value), zSh zT0 h → FN (0, v2, v3, v5) → zg x (d + 2) 3 34 [some (.ref 91), some (.int v1), some (.int v2), some (.int v3), some (.int v4), some (.int v5), o6, o7] [] h Q) (hl1 : ∀ (v2 : Int32) (v3 : Int32) (v5 : Int32) (o5 : Option Value) (o6 : Option Value) (o7 : Option Value), zSh zT0 h → FN (1, v2, v3, v5) → zg x (d + 2) 3 93 [some (.ref 91), some (.int v1), some (.int v2), some (.int v3), some (.int v4), o5, o6, o7] [] h Q) : zg x (d + 2) 3 34 [some (.ref 91), some (.int v1), some (.int v2), some (.int v3), some (.int v4), some (.int v5), o6, o7] [] h Q := by
  unfold f_Cable_findNext_l23_l34_b at hF
  unfold f_Cable_findNext_l23_l34_b_ok at ho
  refine zg_blk zd_3 2 hs (rfl : zb x zT0 zc_3 2 (34, [some (.ref 91), some (.int v1), some (.int v2), some (.int v3), some (.int v4), some (.int v5), o6, o7], [], h) = some (38, [some (.ref 91), some (.int v1), some (.int v2), some (.int v3), some (.int v4), some (.int v5), o6, o7], [.int 16, .int v5], h)) (fun hs => ?_)
  refine zg_i_ge zd_3 rfl (fun hc => ?_) (fun hc => ?_)
  · skip
    rw [if_pos hc] at hF
    exact hl1 v2 v3 v5 (some (.int v5)) (o6) (o7) hs hF
  · skip
    rw [if_neg hc] at hF
    refine zg_blk zd_3 4 hs (rfl : zb x zT0 zc_3 4 (41, [some (.ref 91), some (.int v1), some (.int v2), some (.int v3), some (.int v4), some (.int v5), o6, o7], [], h) = some (49, [some (.ref 91), some (.int v1), some (.int v2), some (.int v3), some (.int v4), some (.int v5), o6, o7], [.int v5, .int v4, .int (zf h 91 1)], h)) (fun hs => ?_)
    refine zg_call hs zd_3 rfl rfl rfl rfl (as := [.int v4, .int v5]) (rest := [.int (zf h 91 1)]) (en := [some (.int v4), some (.int v5)]) rfl rfl rfl rfl rfl ?_
    refine f_Cable_bits_t v4 v5 h hs trivial ?_
    show zg x (d + 2) 3 52 [some (.ref 91), some (.int v1), some (.int v2), some (.int v3), some (.int v4), some (.int v5), o6, o7] [.int ((1 <<< ((v5 + 1) &&& 31)) - (1 <<< (v4 &&& 31))), .int (zf h 91 1)] h Q
    refine zg_blk zd_3 1 hs (rfl : zb x zT0 zc_3 1 (52, [some (.ref 91), some (.int v1), some (.int v2), some (.int v3), some (.int v4), some (.int v5), o6, o7], [.int ((1 <<< ((v5 + 1) &&& 31)) - (1 <<< (v4 &&& 31))), .int (zf h 91 1)], h) = some (53, [some (.ref 91), some (.int v1), some (.int v2), some (.int v3), some (.int v4), some (.int v5), o6, o7], [.int ((zf h 91 1) &&& ((1 <<< ((v5 + 1) &&& 31)) - (1 <<< (v4 &&& 31))))], h)) (fun hs => ?_)
    refine zg_call hs zd_3 rfl rfl rfl rfl (as := [.int ((zf h 91 1) &&& ((1 <<< ((v5 + 1) &&& 31)) - (1 <<< (v4 &&& 31))))]) (rest := []) (en := [some (.int ((zf h 91 1) &&& ((1 <<< ((v5 + 1) &&& 31)) - (1 <<< (v4 &&& 31)))))]) rfl rfl rfl rfl rfl ?_
    refine f_Integer_bitCount_t ((zf h 91 1) &&& ((1 <<< ((v5 + 1) &&& 31)) - (1 <<< (v4 &&& 31)))) h hs trivial ?_
    show zg x (d + 2) 3 56 [some (.ref 91), some (.int v1), some (.int v2), some (.int v3), some (.int v4), some (.int v5), o6, o7] [.int (f_Integer_bitCount ((zf h 91 1) &&& ((1 <<< ((v5 + 1) &&& 31)) - (1 <<< (v4 &&& 31)))) h)] h Q
    refine zg_blk zd_3 5 hs (rfl : zb x zT0 zc_3 5 (56, [some (.ref 91), some (.int v1), some (.int v2), some (.int v3), some (.int v4), some (.int v5), o6, o7], [.int (f_Integer_bitCount ((zf h 91 1) &&& ((1 <<< ((v5 + 1) &&& 31)) - (1 <<< (v4 &&& 31)))) h)], h) = some (64, [some (.ref 91), some (.int v1), some (.int v2), some (.int v3), some (.int v4), some (.int v5), some (.int (f_Integer_bitCount ((zf h 91 1) &&& ((1 <<< ((v5 + 1) &&& 31)) - (1 <<< (v4 &&& 31)))) h)), o7], [.int (v1 - (f_Integer_bitCount ((zf h 91 1) &&& ((1 <<< ((v5 + 1) &&& 31)) - (1 <<< (v4 &&& 31)))) h)), .int (f_Integer_bitCount ((zf h 91 1) &&& ((1 <<< ((v5 + 1) &&& 31)) - (1 <<< (v4 &&& 31)))) h)], h)) (fun hs => ?_)
    refine zg_x zd_3 rfl rfl rfl rfl (as := [.int (f_Integer_bitCount ((zf h 91 1) &&& ((1 <<< ((v5 + 1) &&& 31)) - (1 <<< (v4 &&& 31)))) h), .int (v1 - (f_Integer_bitCount ((zf h 91 1) &&& ((1 <<< ((v5 + 1) &&& 31)) - (1 <<< (v4 &&& 31)))) h))]) (rest := []) (w := some (.int (if (f_Integer_bitCount ((zf h 91 1) &&& ((1 <<< ((v5 + 1) &&& 31)) - (1 <<< (v4 &&& 31)))) h) < (v1 - (f_Integer_bitCount ((zf h 91 1) &&& ((1 <<< ((v5 + 1) &&& 31)) - (1 <<< (v4 &&& 31)))) h)) then (v1 - (f_Integer_bitCount ((zf h 91 1) &&& ((1 <<< ((v5 + 1) &&& 31)) - (1 <<< (v4 &&& 31)))) h)) else (f_Integer_bitCount ((zf h 91 1) &&& ((1 <<< ((v5 + 1) &&& 31)) - (1 <<< (v4 &&& 31)))) h)))) rfl rfl rfl ?_
    refine zg_blk zd_3 3 hs (rfl : zb x zT0 zc_3 3 (67, [some (.ref 91), some (.int v1), some (.int v2), some (.int v3), some (.int v4), some (.int v5), some (.int (f_Integer_bitCount ((zf h 91 1) &&& ((1 <<< ((v5 + 1) &&& 31)) - (1 <<< (v4 &&& 31)))) h)), o7], [.int (if (f_Integer_bitCount ((zf h 91 1) &&& ((1 <<< ((v5 + 1) &&& 31)) - (1 <<< (v4 &&& 31)))) h) < (v1 - (f_Integer_bitCount ((zf h 91 1) &&& ((1 <<< ((v5 + 1) &&& 31)) - (1 <<< (v4 &&& 31)))) h)) then (v1 - (f_Integer_bitCount ((zf h 91 1) &&& ((1 <<< ((v5 + 1) &&& 31)) - (1 <<< (v4 &&& 31)))) h)) else (f_Integer_bitCount ((zf h 91 1) &&& ((1 <<< ((v5 + 1) &&& 31)) - (1 <<< (v4 &&& 31)))) h))], h) = some (72, [some (.ref 91), some (.int v1), some (.int v2), some (.int v3), some (.int v4), some (.int v5), some (.int (f_Integer_bitCount ((zf h 91 1) &&& ((1 <<< ((v5 + 1) &&& 31)) - (1 <<< (v4 &&& 31)))) h)), some (.int (if (f_Integer_bitCount ((zf h 91 1) &&& ((1 <<< ((v5 + 1) &&& 31)) - (1 <<< (v4 &&& 31)))) h) < (v1 - (f_Integer_bitCount ((zf h 91 1) &&& ((1 <<< ((v5 + 1) &&& 31)) - (1 <<< (v4 &&& 31)))) h)) then (v1 - (f_Integer_bitCount ((zf h 91 1) &&& ((1 <<< ((v5 + 1) &&& 31)) - (1 <<< (v4 &&& 31)))) h)) else (f_Integer_bitCount ((zf h 91 1) &&& ((1 <<< ((v5 + 1) &&& 31)) - (1 <<< (v4 &&& 31)))) h)))], [.int v3, .int (if (f_Integer_bitCount ((zf h 91 1) &&& ((1 <<< ((v5 + 1) &&& 31)) - (1 <<< (v4 &&& 31)))) h) < (v1 - (f_Integer_bitCount ((zf h 91 1) &&& ((1 <<< ((v5 + 1) &&& 31)) - (1 <<< (v4 &&& 31)))) h)) then (v1 - (f_Integer_bitCount ((zf h 91 1) &&& ((1 <<< ((v5 + 1) &&& 31)) - (1 <<< (v4 &&& 31)))) h)) else (f_Integer_bitCount ((zf h 91 1) &&& ((1 <<< ((v5 + 1) &&& 31)) - (1 <<< (v4 &&& 31)))) h))], h)) (fun hs => ?_)
    have K4 : zSh zT0 h → zg x (d + 2) 3 87 [some (.ref 91), some (.int v1), some (.int (if (v3 ≤ (if (f_Integer_bitCount ((zf h 91 1) &&& ((1 <<< ((v5 + 1) &&& 31)) - (1 <<< (v4 &&& 31)))) h) < (v1 - (f_Integer_bitCount ((zf h 91 1) &&& ((1 <<< ((v5 + 1) &&& 31)) - (1 <<< (v4 &&& 31)))) h)) then (v1 - (f_Integer_bitCount ((zf h 91 1) &&& ((1 <<< ((v5 + 1) &&& 31)) - (1 <<< (v4 &&& 31)))) h)) else (f_Integer_bitCount ((zf h 91 1) &&& ((1 <<< ((v5 + 1) &&& 31)) - (1 <<< (v4 &&& 31)))) h))) then v2 else ((v4 * 100) + v5))), some (.int (if (v3 ≤ (if (f_Integer_bitCount ((zf h 91 1) &&& ((1 <<< ((v5 + 1) &&& 31)) - (1 <<< (v4 &&& 31)))) h) < (v1 - (f_Integer_bitCount ((zf h 91 1) &&& ((1 <<< ((v5 + 1) &&& 31)) - (1 <<< (v4 &&& 31)))) h)) then (v1 - (f_Integer_bitCount ((zf h 91 1) &&& ((1 <<< ((v5 + 1) &&& 31)) - (1 <<< (v4 &&& 31)))) h)) else (f_Integer_bitCount ((zf h 91 1) &&& ((1 <<< ((v5 + 1) &&& 31)) - (1 <<< (v4 &&& 31)))) h))) then v3 else (if (f_Integer_bitCount ((zf h 91 1) &&& ((1 <<< ((v5 + 1) &&& 31)) - (1 <<< (v4 &&& 31)))) h) < (v1 - (f_Integer_bitCount ((zf h 91 1) &&& ((1 <<< ((v5 + 1) &&& 31)) - (1 <<< (v4 &&& 31)))) h)) then (v1 - (f_Integer_bitCount ((zf h 91 1) &&& ((1 <<< ((v5 + 1) &&& 31)) - (1 <<< (v4 &&& 31)))) h)) else (f_Integer_bitCount ((zf h 91 1) &&& ((1 <<< ((v5 + 1) &&& 31)) - (1 <<< (v4 &&& 31)))) h)))), some (.int v4), some (.int v5), some (.int (f_Integer_bitCount ((zf h 91 1) &&& ((1 <<< ((v5 + 1) &&& 31)) - (1 <<< (v4 &&& 31)))) h)), some (.int (if (f_Integer_bitCount ((zf h 91 1) &&& ((1 <<< ((v5 + 1) &&& 31)) - (1 <<< (v4 &&& 31)))) h) < (v1 - (f_Integer_bitCount ((zf h 91 1) &&& ((1 <<< ((v5 + 1) &&& 31)) - (1 <<< (v4 &&& 31)))) h)) then (v1 - (f_Integer_bitCount ((zf h 91 1) &&& ((1 <<< ((v5 + 1) &&& 31)) - (1 <<< (v4 &&& 31)))) h)) else (f_Integer_bitCount ((zf h 91 1) &&& ((1 <<< ((v5 + 1) &&& 31)) - (1 <<< (v4 &&& 31)))) h)))] [] h Q := fun hs => by
      refine zg_blk zd_3 2 hs (rfl : zb x zT0 zc_3 2 (87, [some (.ref 91), some (.int v1), some (.int (if (v3 ≤ (if (f_Integer_bitCount ((zf h 91 1) &&& ((1 <<< ((v5 + 1) &&& 31)) - (1 <<< (v4 &&& 31)))) h) < (v1 - (f_Integer_bitCount ((zf h 91 1) &&& ((1 <<< ((v5 + 1) &&& 31)) - (1 <<< (v4 &&& 31)))) h)) then (v1 - (f_Integer_bitCount ((zf h 91 1) &&& ((1 <<< ((v5 + 1) &&& 31)) - (1 <<< (v4 &&& 31)))) h)) else (f_Integer_bitCount ((zf h 91 1) &&& ((1 <<< ((v5 + 1) &&& 31)) - (1 <<< (v4 &&& 31)))) h))) then v2 else ((v4 * 100) + v5))), some (.int (if (v3 ≤ (if (f_Integer_bitCount ((zf h 91 1) &&& ((1 <<< ((v5 + 1) &&& 31)) - (1 <<< (v4 &&& 31)))) h) < (v1 - (f_Integer_bitCount ((zf h 91 1) &&& ((1 <<< ((v5 + 1) &&& 31)) - (1 <<< (v4 &&& 31)))) h)) then (v1 - (f_Integer_bitCount ((zf h 91 1) &&& ((1 <<< ((v5 + 1) &&& 31)) - (1 <<< (v4 &&& 31)))) h)) else (f_Integer_bitCount ((zf h 91 1) &&& ((1 <<< ((v5 + 1) &&& 31)) - (1 <<< (v4 &&& 31)))) h))) then v3 else (if (f_Integer_bitCount ((zf h 91 1) &&& ((1 <<< ((v5 + 1) &&& 31)) - (1 <<< (v4 &&& 31)))) h) < (v1 - (f_Integer_bitCount ((zf h 91 1) &&& ((1 <<< ((v5 + 1) &&& 31)) - (1 <<< (v4 &&& 31)))) h)) then (v1 - (f_Integer_bitCount ((zf h 91 1) &&& ((1 <<< ((v5 + 1) &&& 31)) - (1 <<< (v4 &&& 31)))) h)) else (f_Integer_bitCount ((zf h 91 1) &&& ((1 <<< ((v5 + 1) &&& 31)) - (1 <<< (v4 &&& 31)))) h)))), some (.int v4), some (.int v5), some (.int (f_Integer_bitCount ((zf h 91 1) &&& ((1 <<< ((v5 + 1) &&& 31)) - (1 <<< (v4 &&& 31)))) h)), some (.int (if (f_Integer_bitCount ((zf h 91 1) &&& ((1 <<< ((v5 + 1) &&& 31)) - (1 <<< (v4 &&& 31)))) h) < (v1 - (f_Integer_bitCount ((zf h 91 1) &&& ((1 <<< ((v5 + 1) &&& 31)) - (1 <<< (v4 &&& 31)))) h)) then (v1 - (f_Integer_bitCount ((zf h 91 1) &&& ((1 <<< ((v5 + 1) &&& 31)) - (1 <<< (v4 &&& 31)))) h)) else (f_Integer_bitCount ((zf h 91 1) &&& ((1 <<< ((v5 + 1) &&& 31)) - (1 <<< (v4 &&& 31)))) h)))], [], h) = some (34, [some (.ref 91), some (.int v1), some (.int (if (v3 ≤ (if (f_Integer_bitCount ((zf h 91 1) &&& ((1 <<< ((v5 + 1) &&& 31)) - (1 <<< (v4 &&& 31)))) h) < (v1 - (f_Integer_bitCount ((zf h 91 1) &&& ((1 <<< ((v5 + 1) &&& 31)) - (1 <<< (v4 &&& 31)))) h)) then (v1 - (f_Integer_bitCount ((zf h 91 1) &&& ((1 <<< ((v5 + 1) &&& 31)) - (1 <<< (v4 &&& 31)))) h)) else (f_Integer_bitCount ((zf h 91 1) &&& ((1 <<< ((v5 + 1) &&& 31)) - (1 <<< (v4 &&& 31)))) h))) then v2 else ((v4 * 100) + v5))), some (.int (if (v3 ≤ (if (f_Integer_bitCount ((zf h 91 1) &&& ((1 <<< ((v5 + 1) &&& 31)) - (1 <<< (v4 &&& 31)))) h) < (v1 - (f_Integer_bitCount ((zf h 91 1) &&& ((1 <<< ((v5 + 1) &&& 31)) - (1 <<< (v4 &&& 31)))) h)) then (v1 - (f_Integer_bitCount ((zf h 91 1) &&& ((1 <<< ((v5 + 1) &&& 31)) - (1 <<< (v4 &&& 31)))) h)) else (f_Integer_bitCount ((zf h 91 1) &&& ((1 <<< ((v5 + 1) &&& 31)) - (1 <<< (v4 &&& 31)))) h))) then v3 else (if (f_Integer_bitCount ((zf h 91 1) &&& ((1 <<< ((v5 + 1) &&& 31)) - (1 <<< (v4 &&& 31)))) h) < (v1 - (f_Integer_bitCount ((zf h 91 1) &&& ((1 <<< ((v5 + 1) &&& 31)) - (1 <<< (v4 &&& 31)))) h)) then (v1 - (f_Integer_bitCount ((zf h 91 1) &&& ((1 <<< ((v5 + 1) &&& 31)) - (1 <<< (v4 &&& 31)))) h)) else (f_Integer_bitCount ((zf h 91 1) &&& ((1 <<< ((v5 + 1) &&& 31)) - (1 <<< (v4 &&& 31)))) h)))), some (.int v4), some (.int (v5 + 1)), some (.int (f_Integer_bitCount ((zf h 91 1) &&& ((1 <<< ((v5 + 1) &&& 31)) - (1 <<< (v4 &&& 31)))) h)), some (.int (if (f_Integer_bitCount ((zf h 91 1) &&& ((1 <<< ((v5 + 1) &&& 31)) - (1 <<< (v4 &&& 31)))) h) < (v1 - (f_Integer_bitCount ((zf h 91 1) &&& ((1 <<< ((v5 + 1) &&& 31)) - (1 <<< (v4 &&& 31)))) h)) then (v1 - (f_Integer_bitCount ((zf h 91 1) &&& ((1 <<< ((v5 + 1) &&& 31)) - (1 <<< (v4 &&& 31)))) h)) else (f_Integer_bitCount ((zf h 91 1) &&& ((1 <<< ((v5 + 1) &&& 31)) - (1 <<< (v4 &&& 31)))) h)))], [], h)) (fun hs => ?_)
      exact hl0 (if (v3 ≤ (if (f_Integer_bitCount ((zf h 91 1) &&& ((1 <<< ((v5 + 1) &&& 31)) - (1 <<< (v4 &&& 31)))) h) < (v1 - (f_Integer_bitCount ((zf h 91 1) &&& ((1 <<< ((v5 + 1) &&& 31)) - (1 <<< (v4 &&& 31)))) h)) then (v1 - (f_Integer_bitCount ((zf h 91 1) &&& ((1 <<< ((v5 + 1) &&& 31)) - (1 <<< (v4 &&& 31)))) h)) else (f_Integer_bitCount ((zf h 91 1) &&& ((1 <<< ((v5 + 1) &&& 31)) - (1 <<< (v4 &&& 31)))) h))) then v2 else ((v4 * 100) + v5)) (if (v3 ≤ (if (f_Integer_bitCount ((zf h 91 1) &&& ((1 <<< ((v5 + 1) &&& 31)) - (1 <<< (v4 &&& 31)))) h) < (v1 - (f_Integer_bitCount ((zf h 91 1) &&& ((1 <<< ((v5 + 1) &&& 31)) - (1 <<< (v4 &&& 31)))) h)) then (v1 - (f_Integer_bitCount ((zf h 91 1) &&& ((1 <<< ((v5 + 1) &&& 31)) - (1 <<< (v4 &&& 31)))) h)) else (f_Integer_bitCount ((zf h 91 1) &&& ((1 <<< ((v5 + 1) &&& 31)) - (1 <<< (v4 &&& 31)))) h))) then v3 else (if (f_Integer_bitCount ((zf h 91 1) &&& ((1 <<< ((v5 + 1) &&& 31)) - (1 <<< (v4 &&& 31)))) h) < (v1 - (f_Integer_bitCount ((zf h 91 1) &&& ((1 <<< ((v5 + 1) &&& 31)) - (1 <<< (v4 &&& 31)))) h)) then (v1 - (f_Integer_bitCount ((zf h 91 1) &&& ((1 <<< ((v5 + 1) &&& 31)) - (1 <<< (v4 &&& 31)))) h)) else (f_Integer_bitCount ((zf h 91 1) &&& ((1 <<< ((v5 + 1) &&& 31)) - (1 <<< (v4 &&& 31)))) h))) (v5 + 1) (some (.int (f_Integer_bitCount ((zf h 91 1) &&& ((1 <<< ((v5 + 1) &&& 31)) - (1 <<< (v4 &&& 31)))) h))) (some (.int (if (f_Integer_bitCount ((zf h 91 1) &&& ((1 <<< ((v5 + 1) &&& 31)) - (1 <<< (v4 &&& 31)))) h) < (v1 - (f_Integer_bitCount ((zf h 91 1) &&& ((1 <<< ((v5 + 1) &&& 31)) - (1 <<< (v4 &&& 31)))) h)) then (v1 - (f_Integer_bitCount ((zf h 91 1) &&& ((1 <<< ((v5 + 1) &&& 31)) - (1 <<< (v4 &&& 31)))) h)) else (f_Integer_bitCount ((zf h 91 1) &&& ((1 <<< ((v5 + 1) &&& 31)) - (1 <<< (v4 &&& 31)))) h)))) hs hF
    refine zg_i_ge zd_3 rfl (fun hc => ?_) (fun hc => ?_)
    · skip
      rw [show ((if (v3 ≤ (if (f_Integer_bitCount ((zf h 91 1) &&& ((1 <<< ((v5 + 1) &&& 31)) - (1 <<< (v4 &&& 31)))) h) < (v1 - (f_Integer_bitCount ((zf h 91 1) &&& ((1 <<< ((v5 + 1) &&& 31)) - (1 <<< (v4 &&& 31)))) h)) then (v1 - (f_Integer_bitCount ((zf h 91 1) &&& ((1 <<< ((v5 + 1) &&& 31)) - (1 <<< (v4 &&& 31)))) h)) else (f_Integer_bitCount ((zf h 91 1) &&& ((1 <<< ((v5 + 1) &&& 31)) - (1 <<< (v4 &&& 31)))) h))) then v2 else ((v4 * 100) + v5)) : Int32) = v2 from if_pos hc] at K4
      rw [show ((if (v3 ≤ (if (f_Integer_bitCount ((zf h 91 1) &&& ((1 <<< ((v5 + 1) &&& 31)) - (1 <<< (v4 &&& 31)))) h) < (v1 - (f_Integer_bitCount ((zf h 91 1) &&& ((1 <<< ((v5 + 1) &&& 31)) - (1 <<< (v4 &&& 31)))) h)) then (v1 - (f_Integer_bitCount ((zf h 91 1) &&& ((1 <<< ((v5 + 1) &&& 31)) - (1 <<< (v4 &&& 31)))) h)) else (f_Integer_bitCount ((zf h 91 1) &&& ((1 <<< ((v5 + 1) &&& 31)) - (1 <<< (v4 &&& 31)))) h))) then v3 else (if (f_Integer_bitCount ((zf h 91 1) &&& ((1 <<< ((v5 + 1) &&& 31)) - (1 <<< (v4 &&& 31)))) h) < (v1 - (f_Integer_bitCount ((zf h 91 1) &&& ((1 <<< ((v5 + 1) &&& 31)) - (1 <<< (v4 &&& 31)))) h)) then (v1 - (f_Integer_bitCount ((zf h 91 1) &&& ((1 <<< ((v5 + 1) &&& 31)) - (1 <<< (v4 &&& 31)))) h)) else (f_Integer_bitCount ((zf h 91 1) &&& ((1 <<< ((v5 + 1) &&& 31)) - (1 <<< (v4 &&& 31)))) h))) : Int32) = v3 from if_pos hc] at K4
      exact K4 hs
    · skip
      rw [show ((if (v3 ≤ (if (f_Integer_bitCount ((zf h 91 1) &&& ((1 <<< ((v5 + 1) &&& 31)) - (1 <<< (v4 &&& 31)))) h) < (v1 - (f_Integer_bitCount ((zf h 91 1) &&& ((1 <<< ((v5 + 1) &&& 31)) - (1 <<< (v4 &&& 31)))) h)) then (v1 - (f_Integer_bitCount ((zf h 91 1) &&& ((1 <<< ((v5 + 1) &&& 31)) - (1 <<< (v4 &&& 31)))) h)) else (f_Integer_bitCount ((zf h 91 1) &&& ((1 <<< ((v5 + 1) &&& 31)) - (1 <<< (v4 &&& 31)))) h))) then v2 else ((v4 * 100) + v5)) : Int32) = ((v4 * 100) + v5) from if_neg hc] at K4
      rw [show ((if (v3 ≤ (if (f_Integer_bitCount ((zf h 91 1) &&& ((1 <<< ((v5 + 1) &&& 31)) - (1 <<< (v4 &&& 31)))) h) < (v1 - (f_Integer_bitCount ((zf h 91 1) &&& ((1 <<< ((v5 + 1) &&& 31)) - (1 <<< (v4 &&& 31)))) h)) then (v1 - (f_Integer_bitCount ((zf h 91 1) &&& ((1 <<< ((v5 + 1) &&& 31)) - (1 <<< (v4 &&& 31)))) h)) else (f_Integer_bitCount ((zf h 91 1) &&& ((1 <<< ((v5 + 1) &&& 31)) - (1 <<< (v4 &&& 31)))) h))) then v3 else (if (f_Integer_bitCount ((zf h 91 1) &&& ((1 <<< ((v5 + 1) &&& 31)) - (1 <<< (v4 &&& 31)))) h) < (v1 - (f_Integer_bitCount ((zf h 91 1) &&& ((1 <<< ((v5 + 1) &&& 31)) - (1 <<< (v4 &&& 31)))) h)) then (v1 - (f_Integer_bitCount ((zf h 91 1) &&& ((1 <<< ((v5 + 1) &&& 31)) - (1 <<< (v4 &&& 31)))) h)) else (f_Integer_bitCount ((zf h 91 1) &&& ((1 <<< ((v5 + 1) &&& 31)) - (1 <<< (v4 &&& 31)))) h))) : Int32) = (if (f_Integer_bitCount ((zf h 91 1) &&& ((1 <<< ((v5 + 1) &&& 31)) - (1 <<< (v4 &&& 31)))) h) < (v1 - (f_Integer_bitCount ((zf h 91 1) &&& ((1 <<< ((v5 + 1) &&& 31)) - (1 <<< (v4 &&& 31)))) h)) then (v1 - (f_Integer_bitCount ((zf h 91 1) &&& ((1 <<< ((v5 + 1) &&& 31)) - (1 <<< (v4 &&& 31)))) h)) else (f_Integer_bitCount ((zf h 91 1) &&& ((1 <<< ((v5 + 1) &&& 31)) - (1 <<< (v4 &&& 31)))) h)) from if_neg hc] at K4
      refine zg_blk zd_3 8 hs (rfl : zb x zT0 zc_3 8 (75, [some (.ref 91), some (.int v1), some (.int v2), some (.int v3), some (.int v4), some (.int v5), some (.int (f_Integer_bitCount ((zf h 91 1) &&& ((1 <<< ((v5 + 1) &&& 31)) - (1 <<< (v4 &&& 31)))) h)), some (.int (if (f_Integer_bitCount ((zf h 91 1) &&& ((1 <<< ((v5 + 1) &&& 31)) - (1 <<< (v4 &&& 31)))) h) < (v1 - (f_Integer_bitCount ((zf h 91 1) &&& ((1 <<< ((v5 + 1) &&& 31)) - (1 <<< (v4 &&& 31)))) h)) then (v1 - (f_Integer_bitCount ((zf h 91 1) &&& ((1 <<< ((v5 + 1) &&& 31)) - (1 <<< (v4 &&& 31)))) h)) else (f_Integer_bitCount ((zf h 91 1) &&& ((1 <<< ((v5 + 1) &&& 31)) - (1 <<< (v4 &&& 31)))) h)))], [], h) = some (87, [some (.ref 91), some (.int v1), some (.int ((v4 * 100) + v5)), some (.int (if (f_Integer_bitCount ((zf h 91 1) &&& ((1 <<< ((v5 + 1) &&& 31)) - (1 <<< (v4 &&& 31)))) h) < (v1 - (f_Integer_bitCount ((zf h 91 1) &&& ((1 <<< ((v5 + 1) &&& 31)) - (1 <<< (v4 &&& 31)))) h)) then (v1 - (f_Integer_bitCount ((zf h 91 1) &&& ((1 <<< ((v5 + 1) &&& 31)) - (1 <<< (v4 &&& 31)))) h)) else (f_Integer_bitCount ((zf h 91 1) &&& ((1 <<< ((v5 + 1) &&& 31)) - (1 <<< (v4 &&& 31)))) h))), some (.int v4), some (.int v5), some (.int (f_Integer_bitCount ((zf h 91 1) &&& ((1 <<< ((v5 + 1) &&& 31)) - (1 <<< (v4 &&& 31)))) h)), some (.int (if (f_Integer_bitCount ((zf h 91 1) &&& ((1 <<< ((v5 + 1) &&& 31)) - (1 <<< (v4 &&& 31)))) h) < (v1 - (f_Integer_bitCount ((zf h 91 1) &&& ((1 <<< ((v5 + 1) &&& 31)) - (1 <<< (v4 &&& 31)))) h)) then (v1 - (f_Integer_bitCount ((zf h 91 1) &&& ((1 <<< ((v5 + 1) &&& 31)) - (1 <<< (v4 &&& 31)))) h)) else (f_Integer_bitCount ((zf h 91 1) &&& ((1 <<< ((v5 + 1) &&& 31)) - (1 <<< (v4 &&& 31)))) h)))], [], h)) (fun hs => ?_)
      exact K4 hs
def f_Cable_findNext_l23_l34 (v1 : Int32) (v4 : Int32) (h : zm_H) : Nat → Int32 × Int32 × Int32 → Nat × Int32 × Int32 × Int32
  | 0, t => (0, t)
  | n + 1, t => if (f_Cable_findNext_l23_l34_b v1 t.1 t.2.1 v4 t.2.2 h).1 = 0 then f_Cable_findNext_l23_l34 v1 v4 h n (f_Cable_findNext_l23_l34_b v1 t.1 t.2.1 v4 t.2.2 h).2 else f_Cable_findNext_l23_l34_b v1 t.1 t.2.1 v4 t.2.2 h
def f_Cable_findNext_l23_l34_ok (v1 : Int32) (v4 : Int32) (h : zm_H) : Nat → Int32 × Int32 × Int32 → Prop
  | 0, _ => False
  | n + 1, t => f_Cable_findNext_l23_l34_b_ok v1 t.1 t.2.1 v4 t.2.2 h ∧ (if (f_Cable_findNext_l23_l34_b v1 t.1 t.2.1 v4 t.2.2 h).1 = 0 then f_Cable_findNext_l23_l34_ok v1 v4 h n (f_Cable_findNext_l23_l34_b v1 t.1 t.2.1 v4 t.2.2 h).2 else True)
theorem f_Cable_findNext_l23_l34_t {x : zm_X} {d : Nat} (v1 : Int32) (v4 : Int32) (h : zm_H) {Q : Option Value → zm_H → Prop} (G : Nat × Int32 × Int32 × Int32 → Prop) (hx1 : ∀ (v2 : Int32) (v3 : Int32) (v5 : Int32) (o5 : Option Value) (o6 : Option Value) (o7 : Option Value), zSh zT0 h → G (1, v2, v3, v5) → zg x (d + 2) 3 93 [some (.ref 91), some (.int v1), some (.int v2), some (.int v3), some (.int v4), o5, o6, o7] [] h Q) : ∀ (n : Nat) (v2 : Int32) (v3 : Int32) (v5 : Int32) (o6 : Option Value) (o7 : Option Value), zSh zT0 h → f_Cable_findNext_l23_l34_ok v1 v4 h n (v2, v3, v5) → G (f_Cable_findNext_l23_l34 v1 v4 h n (v2, v3, v5)) → zg x (d + 2) 3 34 [some (.ref 91), some (.int v1), some (.int v2), some (.int v3), some (.int v4), some (.int v5), o6, o7] [] h Q := by
  intro n
  induction n with
  | zero => intro v2 v3 v5 o6 o7 hs ho hG; exact ho.elim
  | succ n ih =>
    intro v2 v3 v5 o6 o7 hs ho hG
    refine f_Cable_findNext_l23_l34_b_t (FN := fun r => (if r.1 = 0 then f_Cable_findNext_l23_l34_ok v1 v4 h n r.2 else True) ∧ G (if r.1 = 0 then f_Cable_findNext_l23_l34 v1 v4 h n r.2 else r)) v1 v2 v3 v4 v5 h o6 o7 hs ho.1 ⟨ho.2, hG⟩ ?_ ?_
    · intro v2 v3 v5 o6 o7 hs hF
      exact ih v2 v3 v5 o6 o7 hs hF.1 hF.2
    · intro v2 v3 v5 o5 o6 o7 hs hF
      exact hx1 v2 v3 v5 o5 o6 o7 hs hF.2

def f_Cable_findNext_l23_k93 (v1 : Int32) (v2 : Int32) (v3 : Int32) (v4 : Int32) (h : zm_H) : Nat × Int32 × Int32 × Int32 := (0, v2, v3, (v4 + 1))
def f_Cable_findNext_l23_k93_ok (v1 : Int32) (v2 : Int32) (v3 : Int32) (v4 : Int32) (h : zm_H) : Prop := True
set_option maxRecDepth 100000 in
set_option maxHeartbeats 4000000 in
theorem f_Cable_findNext_l23_k93_t {x : zm_X} {d : Nat} (v1 : Int32) (v2 : Int32) (v3 : Int32) (v4 : Int32) (h : zm_H) (o5 : Option Value) (o6 : Option Value) (o7 : Option Value) {Q : Option Value → zm_H → Prop} {FN : Nat × Int32 × Int32 × Int32 → Prop} (hs : zSh zT0 h) (ho : f_Cable_findNext_l23_k93_ok v1 v2 v3 v4 h) (hF : FN (f_Cable_findNext_l23_k93 v1 v2 v3 v4 h)) (hl0 : ∀ (v2 : Int32) (v3 : Int32) (v4 : Int32) (o5 : Option Value) (o6 : Option Value) (o7 : Option Value), zSh zT0 h → FN (0, v2, v3, v4) → zg x (d + 2) 3 23 [some (.ref 91), some (.int v1), some (.int v2), some (.int v3), some (.int v4), o5, o6, o7] [] h Q) (hl1 : ∀ (v2 : Int32) (v3 : Int32) (v4 : Int32) (o3 : Option Value) (o4 : Option Value) (o5 : Option Value) (o6 : Option Value) (o7 : Option Value), zSh zT0 h → FN (1, v2, v3, v4) → zg x (d + 2) 3 99 [some (.ref 91), some (.int v1), some (.int v2), o3, o4, o5, o6, o7] [] h Q) : zg x (d + 2) 3 93 [some (.ref 91), some (.int v1), some (.int v2), some (.int v3), some (.int v4), o5, o6, o7] [] h Q := by
  unfold f_Cable_findNext_l23_k93 at hF
  unfold f_Cable_findNext_l23_k93_ok at ho
  refine zg_blk zd_3 2 hs (rfl : zb x zT0 zc_3 2 (93, [some (.ref 91), some (.int v1), some (.int v2), some (.int v3), some (.int v4), o5, o6, o7], [], h) = some (23, [some (.ref 91), some (.int v1), some (.int v2), some (.int v3), some (.int (v4 + 1)), o5, o6, o7], [], h)) (fun hs => ?_)
  exact hl0 v2 v3 (v4 + 1) (o5) (o6) (o7) hs hF
def f_Cable_findNext_l23_a34 (v1 : Int32) (v4 : Int32) (r : Nat × Int32 × Int32 × Int32) (h : zm_H) : Nat × Int32 × Int32 × Int32 := (f_Cable_findNext_l23_k93 v1 (r.2.1) (r.2.2.1) v4 h)
def f_Cable_findNext_l23_a34_ok (v1 : Int32) (v4 : Int32) (r : Nat × Int32 × Int32 × Int32) (h : zm_H) : Prop := (f_Cable_findNext_l23_k93_ok v1 (r.2.1) (r.2.2.1) v4 h)
def f_Cable_findNext_l23_b (v1 : Int32) (v2 : Int32) (v3 : Int32) (v4 : Int32) (h : zm_H) : Nat × Int32 × Int32 × Int32 := (if (16 ≤ v4) then (1, v2, v3, v4) else (f_Cable_findNext_l23_a34 v1 v4 (f_Cable_findNext_l23_l34 v1 v4 h zF (v2, v3, v4)) h))
def f_Cable_findNext_l23_b_ok (v1 : Int32) (v2 : Int32) (v3 : Int32) (v4 : Int32) (h : zm_H) : Prop := (((16 ≤ v4) → True) ∧ (¬ (16 ≤ v4) → (f_Cable_findNext_l23_l34_ok v1 v4 h zF (v2, v3, v4) ∧ f_Cable_findNext_l23_a34_ok v1 v4 (f_Cable_findNext_l23_l34 v1 v4 h zF (v2, v3, v4)) h)))
set_option maxRecDepth 100000 in
set_option maxHeartbeats 4000000 in
theorem f_Cable_findNext_l23_b_t {x : zm_X} {d : Nat} (v1 : Int32) (v2 : Int32) (v3 : Int32) (v4 : Int32) (h : zm_H) (o5 : Option Value) (o6 : Option Value) (o7 : Option Value) {Q : Option Value → zm_H → Prop} {FN : Nat × Int32 × Int32 × Int32 → Prop} (hs : zSh zT0 h) (ho : f_Cable_findNext_l23_b_ok v1 v2 v3 v4 h) (hF : FN (f_Cable_findNext_l23_b v1 v2 v3 v4 h)) (hl0 : ∀ (v2 : Int32) (v3 : Int32) (v4 : Int32) (o5 : Option Value) (o6 : Option Value) (o7 : Option Value), zSh zT0 h → FN (0, v2, v3, v4) → zg x (d + 2) 3 23 [some (.ref 91), some (.int v1), some (.int v2), some (.int v3), some (.int v4), o5, o6, o7] [] h Q) (hl1 : ∀ (v2 : Int32) (v3 : Int32) (v4 : Int32) (o3 : Option Value) (o4 : Option Value) (o5 : Option Value) (o6 : Option Value) (o7 : Option Value), zSh zT0 h → FN (1, v2, v3, v4) → zg x (d + 2) 3 99 [some (.ref 91), some (.int v1), some (.int v2), o3, o4, o5, o6, o7] [] h Q) : zg x (d + 2) 3 23 [some (.ref 91), some (.int v1), some (.int v2), some (.int v3), some (.int v4), o5, o6, o7] [] h Q := by
  unfold f_Cable_findNext_l23_b at hF
  unfold f_Cable_findNext_l23_b_ok at ho
  refine zg_blk zd_3 2 hs (rfl : zb x zT0 zc_3 2 (23, [some (.ref 91), some (.int v1), some (.int v2), some (.int v3), some (.int v4), o5, o6, o7], [], h) = some (27, [some (.ref 91), some (.int v1), some (.int v2), some (.int v3), some (.int v4), o5, o6, o7], [.int 16, .int v4], h)) (fun hs => ?_)
  refine zg_i_ge zd_3 rfl (fun hc => ?_) (fun hc => ?_)
  · have ho := ho.1 hc
    rw [if_pos hc] at hF
    exact hl1 v2 v3 v4 (some (.int v3)) (some (.int v4)) (o5) (o6) (o7) hs hF
  · have ho := ho.2 hc
    rw [if_neg hc] at hF
    refine zg_blk zd_3 2 hs (rfl : zb x zT0 zc_3 2 (30, [some (.ref 91), some (.int v1), some (.int v2), some (.int v3), some (.int v4), o5, o6, o7], [], h) = some (34, [some (.ref 91), some (.int v1), some (.int v2), some (.int v3), some (.int v4), some (.int v4), o6, o7], [], h)) (fun hs => ?_)
    refine f_Cable_findNext_l23_l34_t v1 v4 h (fun r => f_Cable_findNext_l23_a34_ok v1 v4 r h ∧ FN (f_Cable_findNext_l23_a34 v1 v4 r h)) ?_ zF v2 v3 v4 (o6) (o7) hs ho.1 ⟨ho.2, hF⟩
    · intro v2_ v3_ v5_ o5_ o6_ o7_ hs hG
      have ho : (f_Cable_findNext_l23_k93_ok v1 v2_ v3_ v4 h) := hG.1
      have hF : FN ((f_Cable_findNext_l23_k93 v1 v2_ v3_ v4 h)) := hG.2
      exact f_Cable_findNext_l23_k93_t v1 v2_ v3_ v4 h (o5_) (o6_) (o7_) hs ho hF hl0 hl1
def f_Cable_findNext_l23 (v1 : Int32) (h : zm_H) : Nat → Int32 × Int32 × Int32 → Nat × Int32 × Int32 × Int32
  | 0, t => (0, t)
  | n + 1, t => if (f_Cable_findNext_l23_b v1 t.1 t.2.1 t.2.2 h).1 = 0 then f_Cable_findNext_l23 v1 h n (f_Cable_findNext_l23_b v1 t.1 t.2.1 t.2.2 h).2 else f_Cable_findNext_l23_b v1 t.1 t.2.1 t.2.2 h
def f_Cable_findNext_l23_ok (v1 : Int32) (h : zm_H) : Nat → Int32 × Int32 × Int32 → Prop
  | 0, _ => False
  | n + 1, t => f_Cable_findNext_l23_b_ok v1 t.1 t.2.1 t.2.2 h ∧ (if (f_Cable_findNext_l23_b v1 t.1 t.2.1 t.2.2 h).1 = 0 then f_Cable_findNext_l23_ok v1 h n (f_Cable_findNext_l23_b v1 t.1 t.2.1 t.2.2 h).2 else True)
theorem f_Cable_findNext_l23_t {x : zm_X} {d : Nat} (v1 : Int32) (h : zm_H) {Q : Option Value → zm_H → Prop} (G : Nat × Int32 × Int32 × Int32 → Prop) (hx1 : ∀ (v2 : Int32) (v3 : Int32) (v4 : Int32) (o3 : Option Value) (o4 : Option Value) (o5 : Option Value) (o6 : Option Value) (o7 : Option Value), zSh zT0 h → G (1, v2, v3, v4) → zg x (d + 2) 3 99 [some (.ref 91), some (.int v1), some (.int v2), o3, o4, o5, o6, o7] [] h Q) : ∀ (n : Nat) (v2 : Int32) (v3 : Int32) (v4 : Int32) (o5 : Option Value) (o6 : Option Value) (o7 : Option Value), zSh zT0 h → f_Cable_findNext_l23_ok v1 h n (v2, v3, v4) → G (f_Cable_findNext_l23 v1 h n (v2, v3, v4)) → zg x (d + 2) 3 23 [some (.ref 91), some (.int v1), some (.int v2), some (.int v3), some (.int v4), o5, o6, o7] [] h Q := by
  intro n
  induction n with
  | zero => intro v2 v3 v4 o5 o6 o7 hs ho hG; exact ho.elim
  | succ n ih =>
    intro v2 v3 v4 o5 o6 o7 hs ho hG
    refine f_Cable_findNext_l23_b_t (FN := fun r => (if r.1 = 0 then f_Cable_findNext_l23_ok v1 h n r.2 else True) ∧ G (if r.1 = 0 then f_Cable_findNext_l23 v1 h n r.2 else r)) v1 v2 v3 v4 h o5 o6 o7 hs ho.1 ⟨ho.2, hG⟩ ?_ ?_
    · intro v2 v3 v4 o5 o6 o7 hs hF
      exact ih v2 v3 v4 o5 o6 o7 hs hF.1 hF.2
    · intro v2 v3 v4 o3 o4 o5 o6 o7 hs hF
      exact hx1 v2 v3 v4 o3 o4 o5 o6 o7 hs hF.2

def f_Cable_findNext_k99 (v2 : Int32) (h : zm_H) : Int32 := v2
def f_Cable_findNext_k99_ok (v2 : Int32) (h : zm_H) : Prop := True
set_option maxRecDepth 100000 in
set_option maxHeartbeats 4000000 in
theorem f_Cable_findNext_k99_t {x : zm_X} {d : Nat} (v2 : Int32) (h : zm_H) (o0 : Option Value) (o1 : Option Value) (o3 : Option Value) (o4 : Option Value) (o5 : Option Value) (o6 : Option Value) (o7 : Option Value) {Q : Option Value → zm_H → Prop} (hs : zSh zT0 h) (ho : f_Cable_findNext_k99_ok v2 h) (hF : Q (some (.int (f_Cable_findNext_k99 v2 h))) h) : zg x (d + 2) 3 99 [o0, o1, some (.int v2), o3, o4, o5, o6, o7] [] h Q := by
  unfold f_Cable_findNext_k99 at hF
  unfold f_Cable_findNext_k99_ok at ho
  refine zg_blk zd_3 1 hs (rfl : zb x zT0 zc_3 1 (99, [o0, o1, some (.int v2), o3, o4, o5, o6, o7], [], h) = some (100, [o0, o1, some (.int v2), o3, o4, o5, o6, o7], [.int v2], h)) (fun hs => ?_)
  exact zg_ret zd_3 rfl rfl hF
def f_Cable_findNext_a23 (r : Nat × Int32 × Int32 × Int32) (h : zm_H) : Int32 := (f_Cable_findNext_k99 (r.2.1) h)
def f_Cable_findNext_a23_ok (r : Nat × Int32 × Int32 × Int32) (h : zm_H) : Prop := (f_Cable_findNext_k99_ok (r.2.1) h)
def f_Cable_findNext (h : zm_H) : Int32 := (if (2 ≤ (f_Integer_bitCount (zf h 91 1) h)) then (f_Cable_findNext_a23 (f_Cable_findNext_l23 (f_Integer_bitCount (zf h 91 1) h) h zF ((-1), 17, 0)) h) else (-1))
def f_Cable_findNext_ok (h : zm_H) : Prop := (((2 ≤ (f_Integer_bitCount (zf h 91 1) h)) → (f_Cable_findNext_l23_ok (f_Integer_bitCount (zf h 91 1) h) h zF ((-1), 17, 0) ∧ f_Cable_findNext_a23_ok (f_Cable_findNext_l23 (f_Integer_bitCount (zf h 91 1) h) h zF ((-1), 17, 0)) h)) ∧ (¬ (2 ≤ (f_Integer_bitCount (zf h 91 1) h)) → True))
set_option maxRecDepth 100000 in
set_option maxHeartbeats 4000000 in
theorem f_Cable_findNext_t {x : zm_X} {d : Nat} (h : zm_H) {Q : Option Value → zm_H → Prop} (hs : zSh zT0 h) (ho : f_Cable_findNext_ok h) (hF : Q (some (.int (f_Cable_findNext h))) h) : zg x (d + 2) 3 0 [some (.ref 91), none, none, none, none, none, none, none] [] h Q := by
  unfold f_Cable_findNext at hF
  unfold f_Cable_findNext_ok at ho
  refine zg_blk zd_3 2 hs (rfl : zb x zT0 zc_3 2 (0, [some (.ref 91), none, none, none, none, none, none, none], [], h) = some (4, [some (.ref 91), none, none, none, none, none, none, none], [.int (zf h 91 1)], h)) (fun hs => ?_)
  refine zg_call hs zd_3 rfl rfl rfl rfl (as := [.int (zf h 91 1)]) (rest := []) (en := [some (.int (zf h 91 1))]) rfl rfl rfl rfl rfl ?_
  refine f_Integer_bitCount_t (zf h 91 1) h hs trivial ?_
  show zg x (d + 2) 3 7 [some (.ref 91), none, none, none, none, none, none, none] [.int (f_Integer_bitCount (zf h 91 1) h)] h Q
  refine zg_blk zd_3 3 hs (rfl : zb x zT0 zc_3 3 (7, [some (.ref 91), none, none, none, none, none, none, none], [.int (f_Integer_bitCount (zf h 91 1) h)], h) = some (10, [some (.ref 91), some (.int (f_Integer_bitCount (zf h 91 1) h)), none, none, none, none, none, none], [.int 2, .int (f_Integer_bitCount (zf h 91 1) h)], h)) (fun hs => ?_)
  refine zg_i_ge zd_3 rfl (fun hc => ?_) (fun hc => ?_)
  · have ho := ho.1 hc
    rw [if_pos hc] at hF
    refine zg_blk zd_3 6 hs (rfl : zb x zT0 zc_3 6 (15, [some (.ref 91), some (.int (f_Integer_bitCount (zf h 91 1) h)), none, none, none, none, none, none], [], h) = some (23, [some (.ref 91), some (.int (f_Integer_bitCount (zf h 91 1) h)), some (.int (-1)), some (.int 17), some (.int 0), none, none, none], [], h)) (fun hs => ?_)
    refine f_Cable_findNext_l23_t (f_Integer_bitCount (zf h 91 1) h) h (fun r => f_Cable_findNext_a23_ok r h ∧ Q (some (.int (f_Cable_findNext_a23 r h))) h) ?_ zF (-1) 17 0 (none) (none) (none) hs ho.1 ⟨ho.2, hF⟩
    · intro v2_ v3_ v4_ o3_ o4_ o5_ o6_ o7_ hs hG
      have ho : (f_Cable_findNext_k99_ok v2_ h) := hG.1
      have hF : Q (some (.int ((f_Cable_findNext_k99 v2_ h)))) h := hG.2
      exact f_Cable_findNext_k99_t v2_ h (some (.ref 91)) (some (.int (f_Integer_bitCount (zf h 91 1) h))) (o3_) (o4_) (o5_) (o6_) (o7_) hs ho hF
  · have ho := ho.2 hc
    rw [if_neg hc] at hF
    refine zg_blk zd_3 1 hs (rfl : zb x zT0 zc_3 1 (13, [some (.ref 91), some (.int (f_Integer_bitCount (zf h 91 1) h)), none, none, none, none, none, none], [], h) = some (14, [some (.ref 91), some (.int (f_Integer_bitCount (zf h 91 1) h)), none, none, none, none, none, none], [.int (-1)], h)) (fun hs => ?_)
    exact zg_ret zd_3 rfl rfl hF
theorem zd_261 : zm_cd 261 = zc_261 := by rfl
theorem zd_262 : zm_cd 262 = zc_262 := by rfl
def f_M_bits_l4_b (v0 : Int32) (v1 : Int32) (v2 : Int32) (h : zm_H) : Nat × Int32 × Int32 := (if (16 ≤ v2) then (1, v1, v2) else (0, (v1 + ((v0 >>> (v2 &&& 31)) &&& 1)), (v2 + 1)))
def f_M_bits_l4_b_ok (v0 : Int32) (v1 : Int32) (v2 : Int32) (h : zm_H) : Prop := True
set_option maxRecDepth 100000 in
set_option maxHeartbeats 4000000 in
theorem f_M_bits_l4_b_t {x : zm_X} {d : Nat} (v0 : Int32) (v1 : Int32) (v2 : Int32) (h : zm_H) {Q : Option Value → zm_H → Prop} {FN : Nat × Int32 × Int32 → Prop} (hs : zSh zT0 h) (ho : f_M_bits_l4_b_ok v0 v1 v2 h) (hF : FN (f_M_bits_l4_b v0 v1 v2 h)) (hl0 : ∀ (v1 : Int32) (v2 : Int32), zSh zT0 h → FN (0, v1, v2) → zg x (d + 1) 262 4 [some (.int v0), some (.int v1), some (.int v2)] [] h Q) (hl1 : ∀ (v1 : Int32) (v2 : Int32) (o2 : Option Value), zSh zT0 h → FN (1, v1, v2) → zg x (d + 1) 262 24 [some (.int v0), some (.int v1), o2] [] h Q) : zg x (d + 1) 262 4 [some (.int v0), some (.int v1), some (.int v2)] [] h Q := by
  unfold f_M_bits_l4_b at hF
  unfold f_M_bits_l4_b_ok at ho
  refine zg_blk zd_262 2 hs (rfl : zb x zT0 zc_262 2 (4, [some (.int v0), some (.int v1), some (.int v2)], [], h) = some (7, [some (.int v0), some (.int v1), some (.int v2)], [.int 16, .int v2], h)) (fun hs => ?_)
  refine zg_i_ge zd_262 rfl (fun hc => ?_) (fun hc => ?_)
  · skip
    rw [if_pos hc] at hF
    exact hl1 v1 v2 (some (.int v2)) hs hF
  · skip
    rw [if_neg hc] at hF
    refine zg_blk zd_262 10 hs (rfl : zb x zT0 zc_262 10 (10, [some (.int v0), some (.int v1), some (.int v2)], [], h) = some (4, [some (.int v0), some (.int (v1 + ((v0 >>> (v2 &&& 31)) &&& 1))), some (.int (v2 + 1))], [], h)) (fun hs => ?_)
    exact hl0 (v1 + ((v0 >>> (v2 &&& 31)) &&& 1)) (v2 + 1) hs hF
def f_M_bits_l4 (v0 : Int32) (h : zm_H) : Nat → Int32 × Int32 → Nat × Int32 × Int32
  | 0, t => (0, t)
  | n + 1, t => if (f_M_bits_l4_b v0 t.1 t.2 h).1 = 0 then f_M_bits_l4 v0 h n (f_M_bits_l4_b v0 t.1 t.2 h).2 else f_M_bits_l4_b v0 t.1 t.2 h
def f_M_bits_l4_ok (v0 : Int32) (h : zm_H) : Nat → Int32 × Int32 → Prop
  | 0, _ => False
  | n + 1, t => f_M_bits_l4_b_ok v0 t.1 t.2 h ∧ (if (f_M_bits_l4_b v0 t.1 t.2 h).1 = 0 then f_M_bits_l4_ok v0 h n (f_M_bits_l4_b v0 t.1 t.2 h).2 else True)
theorem f_M_bits_l4_t {x : zm_X} {d : Nat} (v0 : Int32) (h : zm_H) {Q : Option Value → zm_H → Prop} (G : Nat × Int32 × Int32 → Prop) (hx1 : ∀ (v1 : Int32) (v2 : Int32) (o2 : Option Value), zSh zT0 h → G (1, v1, v2) → zg x (d + 1) 262 24 [some (.int v0), some (.int v1), o2] [] h Q) : ∀ (n : Nat) (v1 : Int32) (v2 : Int32), zSh zT0 h → f_M_bits_l4_ok v0 h n (v1, v2) → G (f_M_bits_l4 v0 h n (v1, v2)) → zg x (d + 1) 262 4 [some (.int v0), some (.int v1), some (.int v2)] [] h Q := by
  intro n
  induction n with
  | zero => intro v1 v2 hs ho hG; exact ho.elim
  | succ n ih =>
    intro v1 v2 hs ho hG
    refine f_M_bits_l4_b_t (FN := fun r => (if r.1 = 0 then f_M_bits_l4_ok v0 h n r.2 else True) ∧ G (if r.1 = 0 then f_M_bits_l4 v0 h n r.2 else r)) v0 v1 v2 h hs ho.1 ⟨ho.2, hG⟩ ?_ ?_
    · intro v1 v2 hs hF
      exact ih v1 v2 hs hF.1 hF.2
    · intro v1 v2 o2 hs hF
      exact hx1 v1 v2 o2 hs hF.2

def f_M_bits_k24 (v1 : Int32) (h : zm_H) : Int32 := v1
def f_M_bits_k24_ok (v1 : Int32) (h : zm_H) : Prop := True
set_option maxRecDepth 100000 in
set_option maxHeartbeats 4000000 in
theorem f_M_bits_k24_t {x : zm_X} {d : Nat} (v1 : Int32) (h : zm_H) (o0 : Option Value) (o2 : Option Value) {Q : Option Value → zm_H → Prop} (hs : zSh zT0 h) (ho : f_M_bits_k24_ok v1 h) (hF : Q (some (.int (f_M_bits_k24 v1 h))) h) : zg x (d + 1) 262 24 [o0, some (.int v1), o2] [] h Q := by
  unfold f_M_bits_k24 at hF
  unfold f_M_bits_k24_ok at ho
  refine zg_blk zd_262 1 hs (rfl : zb x zT0 zc_262 1 (24, [o0, some (.int v1), o2], [], h) = some (25, [o0, some (.int v1), o2], [.int v1], h)) (fun hs => ?_)
  exact zg_ret zd_262 rfl rfl hF
def f_M_bits_a4 (r : Nat × Int32 × Int32) (h : zm_H) : Int32 := (f_M_bits_k24 (r.2.1) h)
def f_M_bits_a4_ok (r : Nat × Int32 × Int32) (h : zm_H) : Prop := (f_M_bits_k24_ok (r.2.1) h)
def f_M_bits (p0 : Int32) (h : zm_H) : Int32 := (f_M_bits_a4 (f_M_bits_l4 p0 h zF (0, 0)) h)
def f_M_bits_ok (p0 : Int32) (h : zm_H) : Prop := (f_M_bits_l4_ok p0 h zF (0, 0) ∧ f_M_bits_a4_ok (f_M_bits_l4 p0 h zF (0, 0)) h)
set_option maxRecDepth 100000 in
set_option maxHeartbeats 4000000 in
theorem f_M_bits_t {x : zm_X} {d : Nat} (p0 : Int32) (h : zm_H) {Q : Option Value → zm_H → Prop} (hs : zSh zT0 h) (ho : f_M_bits_ok p0 h) (hF : Q (some (.int (f_M_bits p0 h))) h) : zg x (d + 1) 262 0 [some (.int p0), none, none] [] h Q := by
  unfold f_M_bits at hF
  unfold f_M_bits_ok at ho
  refine zg_blk zd_262 4 hs (rfl : zb x zT0 zc_262 4 (0, [some (.int p0), none, none], [], h) = some (4, [some (.int p0), some (.int 0), some (.int 0)], [], h)) (fun hs => ?_)
  refine f_M_bits_l4_t p0 h (fun r => f_M_bits_a4_ok r h ∧ Q (some (.int (f_M_bits_a4 r h))) h) ?_ zF 0 0 hs ho.1 ⟨ho.2, hF⟩
  · intro v1_ v2_ o2_ hs hG
    have ho : (f_M_bits_k24_ok v1_ h) := hG.1
    have hF : Q (some (.int ((f_M_bits_k24 v1_ h)))) h := hG.2
    exact f_M_bits_k24_t v1_ h (some (.int p0)) (o2_) hs ho hF
theorem zd_260 : zm_cd 260 = zc_260 := by rfl
def f_M_span (p0 : Int32) (p1 : Int32) (h : zm_H) : Int32 := ((1 <<< ((p1 + 1) &&& 31)) - (1 <<< (p0 &&& 31)))
def f_M_span_ok (p0 : Int32) (p1 : Int32) (h : zm_H) : Prop := True
set_option maxRecDepth 100000 in
set_option maxHeartbeats 4000000 in
theorem f_M_span_t {x : zm_X} {d : Nat} (p0 : Int32) (p1 : Int32) (h : zm_H) {Q : Option Value → zm_H → Prop} (hs : zSh zT0 h) (ho : f_M_span_ok p0 p1 h) (hF : Q (some (.int (f_M_span p0 p1 h))) h) : zg x (d + 1) 260 0 [some (.int p0), some (.int p1)] [] h Q := by
  unfold f_M_span at hF
  unfold f_M_span_ok at ho
  refine zg_blk zd_260 9 hs (rfl : zb x zT0 zc_260 9 (0, [some (.int p0), some (.int p1)], [], h) = some (9, [some (.int p0), some (.int p1)], [.int ((1 <<< ((p1 + 1) &&& 31)) - (1 <<< (p0 &&& 31)))], h)) (fun hs => ?_)
  exact zg_ret zd_260 rfl rfl hF
def f_M_next_l20_l29_b (v1 : Int32) (v2 : Int32) (v3 : Int32) (v4 : Int32) (h : zm_H) : Nat × Int32 × Int32 × Int32 := (if (16 ≤ v4) then (1, v1, v2, v4) else (0, (if ((if ((f_M_bits ((zf h 92 78) &&& ((1 <<< ((v4 + 1) &&& 31)) - (1 <<< (v3 &&& 31)))) h) ≤ ((f_M_bits (zf h 92 78) h) - (f_M_bits ((zf h 92 78) &&& ((1 <<< ((v4 + 1) &&& 31)) - (1 <<< (v3 &&& 31)))) h))) then ((f_M_bits (zf h 92 78) h) - (f_M_bits ((zf h 92 78) &&& ((1 <<< ((v4 + 1) &&& 31)) - (1 <<< (v3 &&& 31)))) h)) else (f_M_bits ((zf h 92 78) &&& ((1 <<< ((v4 + 1) &&& 31)) - (1 <<< (v3 &&& 31)))) h)) < v1) then (if ((f_M_bits ((zf h 92 78) &&& ((1 <<< ((v4 + 1) &&& 31)) - (1 <<< (v3 &&& 31)))) h) ≤ ((f_M_bits (zf h 92 78) h) - (f_M_bits ((zf h 92 78) &&& ((1 <<< ((v4 + 1) &&& 31)) - (1 <<< (v3 &&& 31)))) h))) then ((f_M_bits (zf h 92 78) h) - (f_M_bits ((zf h 92 78) &&& ((1 <<< ((v4 + 1) &&& 31)) - (1 <<< (v3 &&& 31)))) h)) else (f_M_bits ((zf h 92 78) &&& ((1 <<< ((v4 + 1) &&& 31)) - (1 <<< (v3 &&& 31)))) h)) else v1), (if ((if ((f_M_bits ((zf h 92 78) &&& ((1 <<< ((v4 + 1) &&& 31)) - (1 <<< (v3 &&& 31)))) h) ≤ ((f_M_bits (zf h 92 78) h) - (f_M_bits ((zf h 92 78) &&& ((1 <<< ((v4 + 1) &&& 31)) - (1 <<< (v3 &&& 31)))) h))) then ((f_M_bits (zf h 92 78) h) - (f_M_bits ((zf h 92 78) &&& ((1 <<< ((v4 + 1) &&& 31)) - (1 <<< (v3 &&& 31)))) h)) else (f_M_bits ((zf h 92 78) &&& ((1 <<< ((v4 + 1) &&& 31)) - (1 <<< (v3 &&& 31)))) h)) < v1) then ((100 * v3) + v4) else v2), (v4 + 1)))
def f_M_next_l20_l29_b_ok (v1 : Int32) (v2 : Int32) (v3 : Int32) (v4 : Int32) (h : zm_H) : Prop := (((16 ≤ v4) → True) ∧ (¬ (16 ≤ v4) → (f_M_bits_ok ((zf h 92 78) &&& ((1 <<< ((v4 + 1) &&& 31)) - (1 <<< (v3 &&& 31)))) h ∧ (f_M_bits_ok (zf h 92 78) h ∧ True))))
set_option maxRecDepth 100000 in
set_option maxHeartbeats 4000000 in
theorem f_M_next_l20_l29_b_t {x : zm_X} {d : Nat} (v1 : Int32) (v2 : Int32) (v3 : Int32) (v4 : Int32) (h : zm_H) (o5 : Option Value) (o6 : Option Value) (o7 : Option Value) {Q : Option Value → zm_H → Prop} {FN : Nat × Int32 × Int32 × Int32 → Prop} (hs : zSh zT0 h) (ho : f_M_next_l20_l29_b_ok v1 v2 v3 v4 h) (hF : FN (f_M_next_l20_l29_b v1 v2 v3 v4 h)) (hl0 : ∀ (v1 : Int32) (v2 : Int32) (v4 : Int32) (o5 : Option Value) (o6 : Option Value) (o7 : Option Value), zSh zT0 h → FN (0, v1, v2, v4) → zg x (d + 2) 261 29 [some (.ref 92), some (.int v1), some (.int v2), some (.int v3), some (.int v4), o5, o6, o7] [] h Q) (hl1 : ∀ (v1 : Int32) (v2 : Int32) (v4 : Int32) (o4 : Option Value) (o5 : Option Value) (o6 : Option Value) (o7 : Option Value), zSh zT0 h → FN (1, v1, v2, v4) → zg x (d + 2) 261 106 [some (.ref 92), some (.int v1), some (.int v2), some (.int v3), o4, o5, o6, o7] [] h Q) : zg x (d + 2) 261 29 [some (.ref 92), some (.int v1), some (.int v2), some (.int v3), some (.int v4), o5, o6, o7] [] h Q := by
  unfold f_M_next_l20_l29_b at hF
  unfold f_M_next_l20_l29_b_ok at ho
  refine zg_blk zd_261 2 hs (rfl : zb x zT0 zc_261 2 (29, [some (.ref 92), some (.int v1), some (.int v2), some (.int v3), some (.int v4), o5, o6, o7], [], h) = some (33, [some (.ref 92), some (.int v1), some (.int v2), some (.int v3), some (.int v4), o5, o6, o7], [.int 16, .int v4], h)) (fun hs => ?_)
  refine zg_i_ge zd_261 rfl (fun hc => ?_) (fun hc => ?_)
  · have ho := ho.1 hc
    rw [if_pos hc] at hF
    exact hl1 v1 v2 v4 (some (.int v4)) (o5) (o6) (o7) hs hF
  · have ho := ho.2 hc
    rw [if_neg hc] at hF
    refine zg_blk zd_261 4 hs (rfl : zb x zT0 zc_261 4 (36, [some (.ref 92), some (.int v1), some (.int v2), some (.int v3), some (.int v4), o5, o6, o7], [], h) = some (43, [some (.ref 92), some (.int v1), some (.int v2), some (.int v3), some (.int v4), o5, o6, o7], [.int v4, .int v3, .int (zf h 92 78)], h)) (fun hs => ?_)
    refine zg_call hs zd_261 rfl rfl rfl rfl (as := [.int v3, .int v4]) (rest := [.int (zf h 92 78)]) (en := [some (.int v3), some (.int v4)]) rfl rfl rfl rfl rfl ?_
    refine f_M_span_t v3 v4 h hs trivial ?_
    show zg x (d + 2) 261 46 [some (.ref 92), some (.int v1), some (.int v2), some (.int v3), some (.int v4), o5, o6, o7] [.int ((1 <<< ((v4 + 1) &&& 31)) - (1 <<< (v3 &&& 31))), .int (zf h 92 78)] h Q
    refine zg_blk zd_261 1 hs (rfl : zb x zT0 zc_261 1 (46, [some (.ref 92), some (.int v1), some (.int v2), some (.int v3), some (.int v4), o5, o6, o7], [.int ((1 <<< ((v4 + 1) &&& 31)) - (1 <<< (v3 &&& 31))), .int (zf h 92 78)], h) = some (47, [some (.ref 92), some (.int v1), some (.int v2), some (.int v3), some (.int v4), o5, o6, o7], [.int ((zf h 92 78) &&& ((1 <<< ((v4 + 1) &&& 31)) - (1 <<< (v3 &&& 31))))], h)) (fun hs => ?_)
    obtain ⟨hob, ho⟩ := ho
    refine zg_call hs zd_261 rfl rfl rfl rfl (as := [.int ((zf h 92 78) &&& ((1 <<< ((v4 + 1) &&& 31)) - (1 <<< (v3 &&& 31))))]) (rest := []) (en := [some (.int ((zf h 92 78) &&& ((1 <<< ((v4 + 1) &&& 31)) - (1 <<< (v3 &&& 31))))), none, none]) rfl rfl rfl rfl rfl ?_
    refine f_M_bits_t ((zf h 92 78) &&& ((1 <<< ((v4 + 1) &&& 31)) - (1 <<< (v3 &&& 31)))) h hs hob ?_
    show zg x (d + 2) 261 50 [some (.ref 92), some (.int v1), some (.int v2), some (.int v3), some (.int v4), o5, o6, o7] [.int (f_M_bits ((zf h 92 78) &&& ((1 <<< ((v4 + 1) &&& 31)) - (1 <<< (v3 &&& 31)))) h)] h Q
    refine zg_blk zd_261 3 hs (rfl : zb x zT0 zc_261 3 (50, [some (.ref 92), some (.int v1), some (.int v2), some (.int v3), some (.int v4), o5, o6, o7], [.int (f_M_bits ((zf h 92 78) &&& ((1 <<< ((v4 + 1) &&& 31)) - (1 <<< (v3 &&& 31)))) h)], h) = some (56, [some (.ref 92), some (.int v1), some (.int v2), some (.int v3), some (.int v4), some (.int (f_M_bits ((zf h 92 78) &&& ((1 <<< ((v4 + 1) &&& 31)) - (1 <<< (v3 &&& 31)))) h)), o6, o7], [.int (zf h 92 78)], h)) (fun hs => ?_)
    obtain ⟨hob, ho⟩ := ho
    refine zg_call hs zd_261 rfl rfl rfl rfl (as := [.int (zf h 92 78)]) (rest := []) (en := [some (.int (zf h 92 78)), none, none]) rfl rfl rfl rfl rfl ?_
    refine f_M_bits_t (zf h 92 78) h hs hob ?_
    show zg x (d + 2) 261 59 [some (.ref 92), some (.int v1), some (.int v2), some (.int v3), some (.int v4), some (.int (f_M_bits ((zf h 92 78) &&& ((1 <<< ((v4 + 1) &&& 31)) - (1 <<< (v3 &&& 31)))) h)), o6, o7] [.int (f_M_bits (zf h 92 78) h)] h Q
    refine zg_blk zd_261 5 hs (rfl : zb x zT0 zc_261 5 (59, [some (.ref 92), some (.int v1), some (.int v2), some (.int v3), some (.int v4), some (.int (f_M_bits ((zf h 92 78) &&& ((1 <<< ((v4 + 1) &&& 31)) - (1 <<< (v3 &&& 31)))) h)), o6, o7], [.int (f_M_bits (zf h 92 78) h)], h) = some (68, [some (.ref 92), some (.int v1), some (.int v2), some (.int v3), some (.int v4), some (.int (f_M_bits ((zf h 92 78) &&& ((1 <<< ((v4 + 1) &&& 31)) - (1 <<< (v3 &&& 31)))) h)), some (.int ((f_M_bits (zf h 92 78) h) - (f_M_bits ((zf h 92 78) &&& ((1 <<< ((v4 + 1) &&& 31)) - (1 <<< (v3 &&& 31)))) h))), o7], [.int ((f_M_bits (zf h 92 78) h) - (f_M_bits ((zf h 92 78) &&& ((1 <<< ((v4 + 1) &&& 31)) - (1 <<< (v3 &&& 31)))) h)), .int (f_M_bits ((zf h 92 78) &&& ((1 <<< ((v4 + 1) &&& 31)) - (1 <<< (v3 &&& 31)))) h)], h)) (fun hs => ?_)
    have K5 : zSh zT0 h → zg x (d + 2) 261 78 [some (.ref 92), some (.int v1), some (.int v2), some (.int v3), some (.int v4), some (.int (f_M_bits ((zf h 92 78) &&& ((1 <<< ((v4 + 1) &&& 31)) - (1 <<< (v3 &&& 31)))) h)), some (.int ((f_M_bits (zf h 92 78) h) - (f_M_bits ((zf h 92 78) &&& ((1 <<< ((v4 + 1) &&& 31)) - (1 <<< (v3 &&& 31)))) h))), o7] [.int (if ((f_M_bits ((zf h 92 78) &&& ((1 <<< ((v4 + 1) &&& 31)) - (1 <<< (v3 &&& 31)))) h) ≤ ((f_M_bits (zf h 92 78) h) - (f_M_bits ((zf h 92 78) &&& ((1 <<< ((v4 + 1) &&& 31)) - (1 <<< (v3 &&& 31)))) h))) then ((f_M_bits (zf h 92 78) h) - (f_M_bits ((zf h 92 78) &&& ((1 <<< ((v4 + 1) &&& 31)) - (1 <<< (v3 &&& 31)))) h)) else (f_M_bits ((zf h 92 78) &&& ((1 <<< ((v4 + 1) &&& 31)) - (1 <<< (v3 &&& 31)))) h))] h Q := fun hs => by
      refine zg_blk zd_261 3 hs (rfl : zb x zT0 zc_261 3 (78, [some (.ref 92), some (.int v1), some (.int v2), some (.int v3), some (.int v4), some (.int (f_M_bits ((zf h 92 78) &&& ((1 <<< ((v4 + 1) &&& 31)) - (1 <<< (v3 &&& 31)))) h)), some (.int ((f_M_bits (zf h 92 78) h) - (f_M_bits ((zf h 92 78) &&& ((1 <<< ((v4 + 1) &&& 31)) - (1 <<< (v3 &&& 31)))) h))), o7], [.int (if ((f_M_bits ((zf h 92 78) &&& ((1 <<< ((v4 + 1) &&& 31)) - (1 <<< (v3 &&& 31)))) h) ≤ ((f_M_bits (zf h 92 78) h) - (f_M_bits ((zf h 92 78) &&& ((1 <<< ((v4 + 1) &&& 31)) - (1 <<< (v3 &&& 31)))) h))) then ((f_M_bits (zf h 92 78) h) - (f_M_bits ((zf h 92 78) &&& ((1 <<< ((v4 + 1) &&& 31)) - (1 <<< (v3 &&& 31)))) h)) else (f_M_bits ((zf h 92 78) &&& ((1 <<< ((v4 + 1) &&& 31)) - (1 <<< (v3 &&& 31)))) h))], h) = some (83, [some (.ref 92), some (.int v1), some (.int v2), some (.int v3), some (.int v4), some (.int (f_M_bits ((zf h 92 78) &&& ((1 <<< ((v4 + 1) &&& 31)) - (1 <<< (v3 &&& 31)))) h)), some (.int ((f_M_bits (zf h 92 78) h) - (f_M_bits ((zf h 92 78) &&& ((1 <<< ((v4 + 1) &&& 31)) - (1 <<< (v3 &&& 31)))) h))), some (.int (if ((f_M_bits ((zf h 92 78) &&& ((1 <<< ((v4 + 1) &&& 31)) - (1 <<< (v3 &&& 31)))) h) ≤ ((f_M_bits (zf h 92 78) h) - (f_M_bits ((zf h 92 78) &&& ((1 <<< ((v4 + 1) &&& 31)) - (1 <<< (v3 &&& 31)))) h))) then ((f_M_bits (zf h 92 78) h) - (f_M_bits ((zf h 92 78) &&& ((1 <<< ((v4 + 1) &&& 31)) - (1 <<< (v3 &&& 31)))) h)) else (f_M_bits ((zf h 92 78) &&& ((1 <<< ((v4 + 1) &&& 31)) - (1 <<< (v3 &&& 31)))) h)))], [.int v1, .int (if ((f_M_bits ((zf h 92 78) &&& ((1 <<< ((v4 + 1) &&& 31)) - (1 <<< (v3 &&& 31)))) h) ≤ ((f_M_bits (zf h 92 78) h) - (f_M_bits ((zf h 92 78) &&& ((1 <<< ((v4 + 1) &&& 31)) - (1 <<< (v3 &&& 31)))) h))) then ((f_M_bits (zf h 92 78) h) - (f_M_bits ((zf h 92 78) &&& ((1 <<< ((v4 + 1) &&& 31)) - (1 <<< (v3 &&& 31)))) h)) else (f_M_bits ((zf h 92 78) &&& ((1 <<< ((v4 + 1) &&& 31)) - (1 <<< (v3 &&& 31)))) h))], h)) (fun hs => ?_)
      have K6 : zSh zT0 h → zg x (d + 2) 261 100 [some (.ref 92), some (.int (if ((if ((f_M_bits ((zf h 92 78) &&& ((1 <<< ((v4 + 1) &&& 31)) - (1 <<< (v3 &&& 31)))) h) ≤ ((f_M_bits (zf h 92 78) h) - (f_M_bits ((zf h 92 78) &&& ((1 <<< ((v4 + 1) &&& 31)) - (1 <<< (v3 &&& 31)))) h))) then ((f_M_bits (zf h 92 78) h) - (f_M_bits ((zf h 92 78) &&& ((1 <<< ((v4 + 1) &&& 31)) - (1 <<< (v3 &&& 31)))) h)) else (f_M_bits ((zf h 92 78) &&& ((1 <<< ((v4 + 1) &&& 31)) - (1 <<< (v3 &&& 31)))) h)) < v1) then (if ((f_M_bits ((zf h 92 78) &&& ((1 <<< ((v4 + 1) &&& 31)) - (1 <<< (v3 &&& 31)))) h) ≤ ((f_M_bits (zf h 92 78) h) - (f_M_bits ((zf h 92 78) &&& ((1 <<< ((v4 + 1) &&& 31)) - (1 <<< (v3 &&& 31)))) h))) then ((f_M_bits (zf h 92 78) h) - (f_M_bits ((zf h 92 78) &&& ((1 <<< ((v4 + 1) &&& 31)) - (1 <<< (v3 &&& 31)))) h)) else (f_M_bits ((zf h 92 78) &&& ((1 <<< ((v4 + 1) &&& 31)) - (1 <<< (v3 &&& 31)))) h)) else v1)), some (.int (if ((if ((f_M_bits ((zf h 92 78) &&& ((1 <<< ((v4 + 1) &&& 31)) - (1 <<< (v3 &&& 31)))) h) ≤ ((f_M_bits (zf h 92 78) h) - (f_M_bits ((zf h 92 78) &&& ((1 <<< ((v4 + 1) &&& 31)) - (1 <<< (v3 &&& 31)))) h))) then ((f_M_bits (zf h 92 78) h) - (f_M_bits ((zf h 92 78) &&& ((1 <<< ((v4 + 1) &&& 31)) - (1 <<< (v3 &&& 31)))) h)) else (f_M_bits ((zf h 92 78) &&& ((1 <<< ((v4 + 1) &&& 31)) - (1 <<< (v3 &&& 31)))) h)) < v1) then ((100 * v3) + v4) else v2)), some (.int v3), some (.int v4), some (.int (f_M_bits ((zf h 92 78) &&& ((1 <<< ((v4 + 1) &&& 31)) - (1 <<< (v3 &&& 31)))) h)), some (.int ((f_M_bits (zf h 92 78) h) - (f_M_bits ((zf h 92 78) &&& ((1 <<< ((v4 + 1) &&& 31)) - (1 <<< (v3 &&& 31)))) h))), some (.int (if ((f_M_bits ((zf h 92 78) &&& ((1 <<< ((v4 + 1) &&& 31)) - (1 <<< (v3 &&& 31)))) h) ≤ ((f_M_bits (zf h 92 78) h) - (f_M_bits ((zf h 92 78) &&& ((1 <<< ((v4 + 1) &&& 31)) - (1 <<< (v3 &&& 31)))) h))) then ((f_M_bits (zf h 92 78) h) - (f_M_bits ((zf h 92 78) &&& ((1 <<< ((v4 + 1) &&& 31)) - (1 <<< (v3 &&& 31)))) h)) else (f_M_bits ((zf h 92 78) &&& ((1 <<< ((v4 + 1) &&& 31)) - (1 <<< (v3 &&& 31)))) h)))] [] h Q := fun hs => by
        refine zg_blk zd_261 2 hs (rfl : zb x zT0 zc_261 2 (100, [some (.ref 92), some (.int (if ((if ((f_M_bits ((zf h 92 78) &&& ((1 <<< ((v4 + 1) &&& 31)) - (1 <<< (v3 &&& 31)))) h) ≤ ((f_M_bits (zf h 92 78) h) - (f_M_bits ((zf h 92 78) &&& ((1 <<< ((v4 + 1) &&& 31)) - (1 <<< (v3 &&& 31)))) h))) then ((f_M_bits (zf h 92 78) h) - (f_M_bits ((zf h 92 78) &&& ((1 <<< ((v4 + 1) &&& 31)) - (1 <<< (v3 &&& 31)))) h)) else (f_M_bits ((zf h 92 78) &&& ((1 <<< ((v4 + 1) &&& 31)) - (1 <<< (v3 &&& 31)))) h)) < v1) then (if ((f_M_bits ((zf h 92 78) &&& ((1 <<< ((v4 + 1) &&& 31)) - (1 <<< (v3 &&& 31)))) h) ≤ ((f_M_bits (zf h 92 78) h) - (f_M_bits ((zf h 92 78) &&& ((1 <<< ((v4 + 1) &&& 31)) - (1 <<< (v3 &&& 31)))) h))) then ((f_M_bits (zf h 92 78) h) - (f_M_bits ((zf h 92 78) &&& ((1 <<< ((v4 + 1) &&& 31)) - (1 <<< (v3 &&& 31)))) h)) else (f_M_bits ((zf h 92 78) &&& ((1 <<< ((v4 + 1) &&& 31)) - (1 <<< (v3 &&& 31)))) h)) else v1)), some (.int (if ((if ((f_M_bits ((zf h 92 78) &&& ((1 <<< ((v4 + 1) &&& 31)) - (1 <<< (v3 &&& 31)))) h) ≤ ((f_M_bits (zf h 92 78) h) - (f_M_bits ((zf h 92 78) &&& ((1 <<< ((v4 + 1) &&& 31)) - (1 <<< (v3 &&& 31)))) h))) then ((f_M_bits (zf h 92 78) h) - (f_M_bits ((zf h 92 78) &&& ((1 <<< ((v4 + 1) &&& 31)) - (1 <<< (v3 &&& 31)))) h)) else (f_M_bits ((zf h 92 78) &&& ((1 <<< ((v4 + 1) &&& 31)) - (1 <<< (v3 &&& 31)))) h)) < v1) then ((100 * v3) + v4) else v2)), some (.int v3), some (.int v4), some (.int (f_M_bits ((zf h 92 78) &&& ((1 <<< ((v4 + 1) &&& 31)) - (1 <<< (v3 &&& 31)))) h)), some (.int ((f_M_bits (zf h 92 78) h) - (f_M_bits ((zf h 92 78) &&& ((1 <<< ((v4 + 1) &&& 31)) - (1 <<< (v3 &&& 31)))) h))), some (.int (if ((f_M_bits ((zf h 92 78) &&& ((1 <<< ((v4 + 1) &&& 31)) - (1 <<< (v3 &&& 31)))) h) ≤ ((f_M_bits (zf h 92 78) h) - (f_M_bits ((zf h 92 78) &&& ((1 <<< ((v4 + 1) &&& 31)) - (1 <<< (v3 &&& 31)))) h))) then ((f_M_bits (zf h 92 78) h) - (f_M_bits ((zf h 92 78) &&& ((1 <<< ((v4 + 1) &&& 31)) - (1 <<< (v3 &&& 31)))) h)) else (f_M_bits ((zf h 92 78) &&& ((1 <<< ((v4 + 1) &&& 31)) - (1 <<< (v3 &&& 31)))) h)))], [], h) = some (29, [some (.ref 92), some (.int (if ((if ((f_M_bits ((zf h 92 78) &&& ((1 <<< ((v4 + 1) &&& 31)) - (1 <<< (v3 &&& 31)))) h) ≤ ((f_M_bits (zf h 92 78) h) - (f_M_bits ((zf h 92 78) &&& ((1 <<< ((v4 + 1) &&& 31)) - (1 <<< (v3 &&& 31)))) h))) then ((f_M_bits (zf h 92 78) h) - (f_M_bits ((zf h 92 78) &&& ((1 <<< ((v4 + 1) &&& 31)) - (1 <<< (v3 &&& 31)))) h)) else (f_M_bits ((zf h 92 78) &&& ((1 <<< ((v4 + 1) &&& 31)) - (1 <<< (v3 &&& 31)))) h)) < v1) then (if ((f_M_bits ((zf h 92 78) &&& ((1 <<< ((v4 + 1) &&& 31)) - (1 <<< (v3 &&& 31)))) h) ≤ ((f_M_bits (zf h 92 78) h) - (f_M_bits ((zf h 92 78) &&& ((1 <<< ((v4 + 1) &&& 31)) - (1 <<< (v3 &&& 31)))) h))) then ((f_M_bits (zf h 92 78) h) - (f_M_bits ((zf h 92 78) &&& ((1 <<< ((v4 + 1) &&& 31)) - (1 <<< (v3 &&& 31)))) h)) else (f_M_bits ((zf h 92 78) &&& ((1 <<< ((v4 + 1) &&& 31)) - (1 <<< (v3 &&& 31)))) h)) else v1)), some (.int (if ((if ((f_M_bits ((zf h 92 78) &&& ((1 <<< ((v4 + 1) &&& 31)) - (1 <<< (v3 &&& 31)))) h) ≤ ((f_M_bits (zf h 92 78) h) - (f_M_bits ((zf h 92 78) &&& ((1 <<< ((v4 + 1) &&& 31)) - (1 <<< (v3 &&& 31)))) h))) then ((f_M_bits (zf h 92 78) h) - (f_M_bits ((zf h 92 78) &&& ((1 <<< ((v4 + 1) &&& 31)) - (1 <<< (v3 &&& 31)))) h)) else (f_M_bits ((zf h 92 78) &&& ((1 <<< ((v4 + 1) &&& 31)) - (1 <<< (v3 &&& 31)))) h)) < v1) then ((100 * v3) + v4) else v2)), some (.int v3), some (.int (v4 + 1)), some (.int (f_M_bits ((zf h 92 78) &&& ((1 <<< ((v4 + 1) &&& 31)) - (1 <<< (v3 &&& 31)))) h)), some (.int ((f_M_bits (zf h 92 78) h) - (f_M_bits ((zf h 92 78) &&& ((1 <<< ((v4 + 1) &&& 31)) - (1 <<< (v3 &&& 31)))) h))), some (.int (if ((f_M_bits ((zf h 92 78) &&& ((1 <<< ((v4 + 1) &&& 31)) - (1 <<< (v3 &&& 31)))) h) ≤ ((f_M_bits (zf h 92 78) h) - (f_M_bits ((zf h 92 78) &&& ((1 <<< ((v4 + 1) &&& 31)) - (1 <<< (v3 &&& 31)))) h))) then ((f_M_bits (zf h 92 78) h) - (f_M_bits ((zf h 92 78) &&& ((1 <<< ((v4 + 1) &&& 31)) - (1 <<< (v3 &&& 31)))) h)) else (f_M_bits ((zf h 92 78) &&& ((1 <<< ((v4 + 1) &&& 31)) - (1 <<< (v3 &&& 31)))) h)))], [], h)) (fun hs => ?_)
        exact hl0 (if ((if ((f_M_bits ((zf h 92 78) &&& ((1 <<< ((v4 + 1) &&& 31)) - (1 <<< (v3 &&& 31)))) h) ≤ ((f_M_bits (zf h 92 78) h) - (f_M_bits ((zf h 92 78) &&& ((1 <<< ((v4 + 1) &&& 31)) - (1 <<< (v3 &&& 31)))) h))) then ((f_M_bits (zf h 92 78) h) - (f_M_bits ((zf h 92 78) &&& ((1 <<< ((v4 + 1) &&& 31)) - (1 <<< (v3 &&& 31)))) h)) else (f_M_bits ((zf h 92 78) &&& ((1 <<< ((v4 + 1) &&& 31)) - (1 <<< (v3 &&& 31)))) h)) < v1) then (if ((f_M_bits ((zf h 92 78) &&& ((1 <<< ((v4 + 1) &&& 31)) - (1 <<< (v3 &&& 31)))) h) ≤ ((f_M_bits (zf h 92 78) h) - (f_M_bits ((zf h 92 78) &&& ((1 <<< ((v4 + 1) &&& 31)) - (1 <<< (v3 &&& 31)))) h))) then ((f_M_bits (zf h 92 78) h) - (f_M_bits ((zf h 92 78) &&& ((1 <<< ((v4 + 1) &&& 31)) - (1 <<< (v3 &&& 31)))) h)) else (f_M_bits ((zf h 92 78) &&& ((1 <<< ((v4 + 1) &&& 31)) - (1 <<< (v3 &&& 31)))) h)) else v1) (if ((if ((f_M_bits ((zf h 92 78) &&& ((1 <<< ((v4 + 1) &&& 31)) - (1 <<< (v3 &&& 31)))) h) ≤ ((f_M_bits (zf h 92 78) h) - (f_M_bits ((zf h 92 78) &&& ((1 <<< ((v4 + 1) &&& 31)) - (1 <<< (v3 &&& 31)))) h))) then ((f_M_bits (zf h 92 78) h) - (f_M_bits ((zf h 92 78) &&& ((1 <<< ((v4 + 1) &&& 31)) - (1 <<< (v3 &&& 31)))) h)) else (f_M_bits ((zf h 92 78) &&& ((1 <<< ((v4 + 1) &&& 31)) - (1 <<< (v3 &&& 31)))) h)) < v1) then ((100 * v3) + v4) else v2) (v4 + 1) (some (.int (f_M_bits ((zf h 92 78) &&& ((1 <<< ((v4 + 1) &&& 31)) - (1 <<< (v3 &&& 31)))) h))) (some (.int ((f_M_bits (zf h 92 78) h) - (f_M_bits ((zf h 92 78) &&& ((1 <<< ((v4 + 1) &&& 31)) - (1 <<< (v3 &&& 31)))) h)))) (some (.int (if ((f_M_bits ((zf h 92 78) &&& ((1 <<< ((v4 + 1) &&& 31)) - (1 <<< (v3 &&& 31)))) h) ≤ ((f_M_bits (zf h 92 78) h) - (f_M_bits ((zf h 92 78) &&& ((1 <<< ((v4 + 1) &&& 31)) - (1 <<< (v3 &&& 31)))) h))) then ((f_M_bits (zf h 92 78) h) - (f_M_bits ((zf h 92 78) &&& ((1 <<< ((v4 + 1) &&& 31)) - (1 <<< (v3 &&& 31)))) h)) else (f_M_bits ((zf h 92 78) &&& ((1 <<< ((v4 + 1) &&& 31)) - (1 <<< (v3 &&& 31)))) h)))) hs hF
      refine zg_i_lt zd_261 rfl (fun hc => ?_) (fun hc => ?_)
      · skip
        rw [show ((if ((if ((f_M_bits ((zf h 92 78) &&& ((1 <<< ((v4 + 1) &&& 31)) - (1 <<< (v3 &&& 31)))) h) ≤ ((f_M_bits (zf h 92 78) h) - (f_M_bits ((zf h 92 78) &&& ((1 <<< ((v4 + 1) &&& 31)) - (1 <<< (v3 &&& 31)))) h))) then ((f_M_bits (zf h 92 78) h) - (f_M_bits ((zf h 92 78) &&& ((1 <<< ((v4 + 1) &&& 31)) - (1 <<< (v3 &&& 31)))) h)) else (f_M_bits ((zf h 92 78) &&& ((1 <<< ((v4 + 1) &&& 31)) - (1 <<< (v3 &&& 31)))) h)) < v1) then (if ((f_M_bits ((zf h 92 78) &&& ((1 <<< ((v4 + 1) &&& 31)) - (1 <<< (v3 &&& 31)))) h) ≤ ((f_M_bits (zf h 92 78) h) - (f_M_bits ((zf h 92 78) &&& ((1 <<< ((v4 + 1) &&& 31)) - (1 <<< (v3 &&& 31)))) h))) then ((f_M_bits (zf h 92 78) h) - (f_M_bits ((zf h 92 78) &&& ((1 <<< ((v4 + 1) &&& 31)) - (1 <<< (v3 &&& 31)))) h)) else (f_M_bits ((zf h 92 78) &&& ((1 <<< ((v4 + 1) &&& 31)) - (1 <<< (v3 &&& 31)))) h)) else v1) : Int32) = (if ((f_M_bits ((zf h 92 78) &&& ((1 <<< ((v4 + 1) &&& 31)) - (1 <<< (v3 &&& 31)))) h) ≤ ((f_M_bits (zf h 92 78) h) - (f_M_bits ((zf h 92 78) &&& ((1 <<< ((v4 + 1) &&& 31)) - (1 <<< (v3 &&& 31)))) h))) then ((f_M_bits (zf h 92 78) h) - (f_M_bits ((zf h 92 78) &&& ((1 <<< ((v4 + 1) &&& 31)) - (1 <<< (v3 &&& 31)))) h)) else (f_M_bits ((zf h 92 78) &&& ((1 <<< ((v4 + 1) &&& 31)) - (1 <<< (v3 &&& 31)))) h)) from if_pos hc] at K6
        rw [show ((if ((if ((f_M_bits ((zf h 92 78) &&& ((1 <<< ((v4 + 1) &&& 31)) - (1 <<< (v3 &&& 31)))) h) ≤ ((f_M_bits (zf h 92 78) h) - (f_M_bits ((zf h 92 78) &&& ((1 <<< ((v4 + 1) &&& 31)) - (1 <<< (v3 &&& 31)))) h))) then ((f_M_bits (zf h 92 78) h) - (f_M_bits ((zf h 92 78) &&& ((1 <<< ((v4 + 1) &&& 31)) - (1 <<< (v3 &&& 31)))) h)) else (f_M_bits ((zf h 92 78) &&& ((1 <<< ((v4 + 1) &&& 31)) - (1 <<< (v3 &&& 31)))) h)) < v1) then ((100 * v3) + v4) else v2) : Int32) = ((100 * v3) + v4) from if_pos hc] at K6
        refine zg_blk zd_261 8 hs (rfl : zb x zT0 zc_261 8 (89, [some (.ref 92), some (.int v1), some (.int v2), some (.int v3), some (.int v4), some (.int (f_M_bits ((zf h 92 78) &&& ((1 <<< ((v4 + 1) &&& 31)) - (1 <<< (v3 &&& 31)))) h)), some (.int ((f_M_bits (zf h 92 78) h) - (f_M_bits ((zf h 92 78) &&& ((1 <<< ((v4 + 1) &&& 31)) - (1 <<< (v3 &&& 31)))) h))), some (.int (if ((f_M_bits ((zf h 92 78) &&& ((1 <<< ((v4 + 1) &&& 31)) - (1 <<< (v3 &&& 31)))) h) ≤ ((f_M_bits (zf h 92 78) h) - (f_M_bits ((zf h 92 78) &&& ((1 <<< ((v4 + 1) &&& 31)) - (1 <<< (v3 &&& 31)))) h))) then ((f_M_bits (zf h 92 78) h) - (f_M_bits ((zf h 92 78) &&& ((1 <<< ((v4 + 1) &&& 31)) - (1 <<< (v3 &&& 31)))) h)) else (f_M_bits ((zf h 92 78) &&& ((1 <<< ((v4 + 1) &&& 31)) - (1 <<< (v3 &&& 31)))) h)))], [], h) = some (100, [some (.ref 92), some (.int (if ((f_M_bits ((zf h 92 78) &&& ((1 <<< ((v4 + 1) &&& 31)) - (1 <<< (v3 &&& 31)))) h) ≤ ((f_M_bits (zf h 92 78) h) - (f_M_bits ((zf h 92 78) &&& ((1 <<< ((v4 + 1) &&& 31)) - (1 <<< (v3 &&& 31)))) h))) then ((f_M_bits (zf h 92 78) h) - (f_M_bits ((zf h 92 78) &&& ((1 <<< ((v4 + 1) &&& 31)) - (1 <<< (v3 &&& 31)))) h)) else (f_M_bits ((zf h 92 78) &&& ((1 <<< ((v4 + 1) &&& 31)) - (1 <<< (v3 &&& 31)))) h))), some (.int ((100 * v3) + v4)), some (.int v3), some (.int v4), some (.int (f_M_bits ((zf h 92 78) &&& ((1 <<< ((v4 + 1) &&& 31)) - (1 <<< (v3 &&& 31)))) h)), some (.int ((f_M_bits (zf h 92 78) h) - (f_M_bits ((zf h 92 78) &&& ((1 <<< ((v4 + 1) &&& 31)) - (1 <<< (v3 &&& 31)))) h))), some (.int (if ((f_M_bits ((zf h 92 78) &&& ((1 <<< ((v4 + 1) &&& 31)) - (1 <<< (v3 &&& 31)))) h) ≤ ((f_M_bits (zf h 92 78) h) - (f_M_bits ((zf h 92 78) &&& ((1 <<< ((v4 + 1) &&& 31)) - (1 <<< (v3 &&& 31)))) h))) then ((f_M_bits (zf h 92 78) h) - (f_M_bits ((zf h 92 78) &&& ((1 <<< ((v4 + 1) &&& 31)) - (1 <<< (v3 &&& 31)))) h)) else (f_M_bits ((zf h 92 78) &&& ((1 <<< ((v4 + 1) &&& 31)) - (1 <<< (v3 &&& 31)))) h)))], [], h)) (fun hs => ?_)
        exact K6 hs
      · skip
        rw [show ((if ((if ((f_M_bits ((zf h 92 78) &&& ((1 <<< ((v4 + 1) &&& 31)) - (1 <<< (v3 &&& 31)))) h) ≤ ((f_M_bits (zf h 92 78) h) - (f_M_bits ((zf h 92 78) &&& ((1 <<< ((v4 + 1) &&& 31)) - (1 <<< (v3 &&& 31)))) h))) then ((f_M_bits (zf h 92 78) h) - (f_M_bits ((zf h 92 78) &&& ((1 <<< ((v4 + 1) &&& 31)) - (1 <<< (v3 &&& 31)))) h)) else (f_M_bits ((zf h 92 78) &&& ((1 <<< ((v4 + 1) &&& 31)) - (1 <<< (v3 &&& 31)))) h)) < v1) then (if ((f_M_bits ((zf h 92 78) &&& ((1 <<< ((v4 + 1) &&& 31)) - (1 <<< (v3 &&& 31)))) h) ≤ ((f_M_bits (zf h 92 78) h) - (f_M_bits ((zf h 92 78) &&& ((1 <<< ((v4 + 1) &&& 31)) - (1 <<< (v3 &&& 31)))) h))) then ((f_M_bits (zf h 92 78) h) - (f_M_bits ((zf h 92 78) &&& ((1 <<< ((v4 + 1) &&& 31)) - (1 <<< (v3 &&& 31)))) h)) else (f_M_bits ((zf h 92 78) &&& ((1 <<< ((v4 + 1) &&& 31)) - (1 <<< (v3 &&& 31)))) h)) else v1) : Int32) = v1 from if_neg hc] at K6
        rw [show ((if ((if ((f_M_bits ((zf h 92 78) &&& ((1 <<< ((v4 + 1) &&& 31)) - (1 <<< (v3 &&& 31)))) h) ≤ ((f_M_bits (zf h 92 78) h) - (f_M_bits ((zf h 92 78) &&& ((1 <<< ((v4 + 1) &&& 31)) - (1 <<< (v3 &&& 31)))) h))) then ((f_M_bits (zf h 92 78) h) - (f_M_bits ((zf h 92 78) &&& ((1 <<< ((v4 + 1) &&& 31)) - (1 <<< (v3 &&& 31)))) h)) else (f_M_bits ((zf h 92 78) &&& ((1 <<< ((v4 + 1) &&& 31)) - (1 <<< (v3 &&& 31)))) h)) < v1) then ((100 * v3) + v4) else v2) : Int32) = v2 from if_neg hc] at K6
        refine zg_blk zd_261 1 hs (rfl : zb x zT0 zc_261 1 (86, [some (.ref 92), some (.int v1), some (.int v2), some (.int v3), some (.int v4), some (.int (f_M_bits ((zf h 92 78) &&& ((1 <<< ((v4 + 1) &&& 31)) - (1 <<< (v3 &&& 31)))) h)), some (.int ((f_M_bits (zf h 92 78) h) - (f_M_bits ((zf h 92 78) &&& ((1 <<< ((v4 + 1) &&& 31)) - (1 <<< (v3 &&& 31)))) h))), some (.int (if ((f_M_bits ((zf h 92 78) &&& ((1 <<< ((v4 + 1) &&& 31)) - (1 <<< (v3 &&& 31)))) h) ≤ ((f_M_bits (zf h 92 78) h) - (f_M_bits ((zf h 92 78) &&& ((1 <<< ((v4 + 1) &&& 31)) - (1 <<< (v3 &&& 31)))) h))) then ((f_M_bits (zf h 92 78) h) - (f_M_bits ((zf h 92 78) &&& ((1 <<< ((v4 + 1) &&& 31)) - (1 <<< (v3 &&& 31)))) h)) else (f_M_bits ((zf h 92 78) &&& ((1 <<< ((v4 + 1) &&& 31)) - (1 <<< (v3 &&& 31)))) h)))], [], h) = some (100, [some (.ref 92), some (.int v1), some (.int v2), some (.int v3), some (.int v4), some (.int (f_M_bits ((zf h 92 78) &&& ((1 <<< ((v4 + 1) &&& 31)) - (1 <<< (v3 &&& 31)))) h)), some (.int ((f_M_bits (zf h 92 78) h) - (f_M_bits ((zf h 92 78) &&& ((1 <<< ((v4 + 1) &&& 31)) - (1 <<< (v3 &&& 31)))) h))), some (.int (if ((f_M_bits ((zf h 92 78) &&& ((1 <<< ((v4 + 1) &&& 31)) - (1 <<< (v3 &&& 31)))) h) ≤ ((f_M_bits (zf h 92 78) h) - (f_M_bits ((zf h 92 78) &&& ((1 <<< ((v4 + 1) &&& 31)) - (1 <<< (v3 &&& 31)))) h))) then ((f_M_bits (zf h 92 78) h) - (f_M_bits ((zf h 92 78) &&& ((1 <<< ((v4 + 1) &&& 31)) - (1 <<< (v3 &&& 31)))) h)) else (f_M_bits ((zf h 92 78) &&& ((1 <<< ((v4 + 1) &&& 31)) - (1 <<< (v3 &&& 31)))) h)))], [], h)) (fun hs => ?_)
        exact K6 hs
    refine zg_i_le zd_261 rfl (fun hc => ?_) (fun hc => ?_)
    · skip
      rw [show ((if ((f_M_bits ((zf h 92 78) &&& ((1 <<< ((v4 + 1) &&& 31)) - (1 <<< (v3 &&& 31)))) h) ≤ ((f_M_bits (zf h 92 78) h) - (f_M_bits ((zf h 92 78) &&& ((1 <<< ((v4 + 1) &&& 31)) - (1 <<< (v3 &&& 31)))) h))) then ((f_M_bits (zf h 92 78) h) - (f_M_bits ((zf h 92 78) &&& ((1 <<< ((v4 + 1) &&& 31)) - (1 <<< (v3 &&& 31)))) h)) else (f_M_bits ((zf h 92 78) &&& ((1 <<< ((v4 + 1) &&& 31)) - (1 <<< (v3 &&& 31)))) h)) : Int32) = ((f_M_bits (zf h 92 78) h) - (f_M_bits ((zf h 92 78) &&& ((1 <<< ((v4 + 1) &&& 31)) - (1 <<< (v3 &&& 31)))) h)) from if_pos hc] at K5
      refine zg_blk zd_261 1 hs (rfl : zb x zT0 zc_261 1 (76, [some (.ref 92), some (.int v1), some (.int v2), some (.int v3), some (.int v4), some (.int (f_M_bits ((zf h 92 78) &&& ((1 <<< ((v4 + 1) &&& 31)) - (1 <<< (v3 &&& 31)))) h)), some (.int ((f_M_bits (zf h 92 78) h) - (f_M_bits ((zf h 92 78) &&& ((1 <<< ((v4 + 1) &&& 31)) - (1 <<< (v3 &&& 31)))) h))), o7], [], h) = some (78, [some (.ref 92), some (.int v1), some (.int v2), some (.int v3), some (.int v4), some (.int (f_M_bits ((zf h 92 78) &&& ((1 <<< ((v4 + 1) &&& 31)) - (1 <<< (v3 &&& 31)))) h)), some (.int ((f_M_bits (zf h 92 78) h) - (f_M_bits ((zf h 92 78) &&& ((1 <<< ((v4 + 1) &&& 31)) - (1 <<< (v3 &&& 31)))) h))), o7], [.int ((f_M_bits (zf h 92 78) h) - (f_M_bits ((zf h 92 78) &&& ((1 <<< ((v4 + 1) &&& 31)) - (1 <<< (v3 &&& 31)))) h))], h)) (fun hs => ?_)
      exact K5 hs
    · skip
      rw [show ((if ((f_M_bits ((zf h 92 78) &&& ((1 <<< ((v4 + 1) &&& 31)) - (1 <<< (v3 &&& 31)))) h) ≤ ((f_M_bits (zf h 92 78) h) - (f_M_bits ((zf h 92 78) &&& ((1 <<< ((v4 + 1) &&& 31)) - (1 <<< (v3 &&& 31)))) h))) then ((f_M_bits (zf h 92 78) h) - (f_M_bits ((zf h 92 78) &&& ((1 <<< ((v4 + 1) &&& 31)) - (1 <<< (v3 &&& 31)))) h)) else (f_M_bits ((zf h 92 78) &&& ((1 <<< ((v4 + 1) &&& 31)) - (1 <<< (v3 &&& 31)))) h)) : Int32) = (f_M_bits ((zf h 92 78) &&& ((1 <<< ((v4 + 1) &&& 31)) - (1 <<< (v3 &&& 31)))) h) from if_neg hc] at K5
      refine zg_blk zd_261 2 hs (rfl : zb x zT0 zc_261 2 (71, [some (.ref 92), some (.int v1), some (.int v2), some (.int v3), some (.int v4), some (.int (f_M_bits ((zf h 92 78) &&& ((1 <<< ((v4 + 1) &&& 31)) - (1 <<< (v3 &&& 31)))) h)), some (.int ((f_M_bits (zf h 92 78) h) - (f_M_bits ((zf h 92 78) &&& ((1 <<< ((v4 + 1) &&& 31)) - (1 <<< (v3 &&& 31)))) h))), o7], [], h) = some (78, [some (.ref 92), some (.int v1), some (.int v2), some (.int v3), some (.int v4), some (.int (f_M_bits ((zf h 92 78) &&& ((1 <<< ((v4 + 1) &&& 31)) - (1 <<< (v3 &&& 31)))) h)), some (.int ((f_M_bits (zf h 92 78) h) - (f_M_bits ((zf h 92 78) &&& ((1 <<< ((v4 + 1) &&& 31)) - (1 <<< (v3 &&& 31)))) h))), o7], [.int (f_M_bits ((zf h 92 78) &&& ((1 <<< ((v4 + 1) &&& 31)) - (1 <<< (v3 &&& 31)))) h)], h)) (fun hs => ?_)
      exact K5 hs
def f_M_next_l20_l29 (v3 : Int32) (h : zm_H) : Nat → Int32 × Int32 × Int32 → Nat × Int32 × Int32 × Int32
  | 0, t => (0, t)
  | n + 1, t => if (f_M_next_l20_l29_b t.1 t.2.1 v3 t.2.2 h).1 = 0 then f_M_next_l20_l29 v3 h n (f_M_next_l20_l29_b t.1 t.2.1 v3 t.2.2 h).2 else f_M_next_l20_l29_b t.1 t.2.1 v3 t.2.2 h
def f_M_next_l20_l29_ok (v3 : Int32) (h : zm_H) : Nat → Int32 × Int32 × Int32 → Prop
  | 0, _ => False
  | n + 1, t => f_M_next_l20_l29_b_ok t.1 t.2.1 v3 t.2.2 h ∧ (if (f_M_next_l20_l29_b t.1 t.2.1 v3 t.2.2 h).1 = 0 then f_M_next_l20_l29_ok v3 h n (f_M_next_l20_l29_b t.1 t.2.1 v3 t.2.2 h).2 else True)
theorem f_M_next_l20_l29_t {x : zm_X} {d : Nat} (v3 : Int32) (h : zm_H) {Q : Option Value → zm_H → Prop} (G : Nat × Int32 × Int32 × Int32 → Prop) (hx1 : ∀ (v1 : Int32) (v2 : Int32) (v4 : Int32) (o4 : Option Value) (o5 : Option Value) (o6 : Option Value) (o7 : Option Value), zSh zT0 h → G (1, v1, v2, v4) → zg x (d + 2) 261 106 [some (.ref 92), some (.int v1), some (.int v2), some (.int v3), o4, o5, o6, o7] [] h Q) : ∀ (n : Nat) (v1 : Int32) (v2 : Int32) (v4 : Int32) (o5 : Option Value) (o6 : Option Value) (o7 : Option Value), zSh zT0 h → f_M_next_l20_l29_ok v3 h n (v1, v2, v4) → G (f_M_next_l20_l29 v3 h n (v1, v2, v4)) → zg x (d + 2) 261 29 [some (.ref 92), some (.int v1), some (.int v2), some (.int v3), some (.int v4), o5, o6, o7] [] h Q := by
  intro n
  induction n with
  | zero => intro v1 v2 v4 o5 o6 o7 hs ho hG; exact ho.elim
  | succ n ih =>
    intro v1 v2 v4 o5 o6 o7 hs ho hG
    refine f_M_next_l20_l29_b_t (FN := fun r => (if r.1 = 0 then f_M_next_l20_l29_ok v3 h n r.2 else True) ∧ G (if r.1 = 0 then f_M_next_l20_l29 v3 h n r.2 else r)) v1 v2 v3 v4 h o5 o6 o7 hs ho.1 ⟨ho.2, hG⟩ ?_ ?_
    · intro v1 v2 v4 o5 o6 o7 hs hF
      exact ih v1 v2 v4 o5 o6 o7 hs hF.1 hF.2
    · intro v1 v2 v4 o4 o5 o6 o7 hs hF
      exact hx1 v1 v2 v4 o4 o5 o6 o7 hs hF.2

def f_M_next_l20_k106 (v1 : Int32) (v2 : Int32) (v3 : Int32) (h : zm_H) : Nat × Int32 × Int32 × Int32 := (0, v1, v2, (v3 + 1))
def f_M_next_l20_k106_ok (v1 : Int32) (v2 : Int32) (v3 : Int32) (h : zm_H) : Prop := True
set_option maxRecDepth 100000 in
set_option maxHeartbeats 4000000 in
theorem f_M_next_l20_k106_t {x : zm_X} {d : Nat} (v1 : Int32) (v2 : Int32) (v3 : Int32) (h : zm_H) (o4 : Option Value) (o5 : Option Value) (o6 : Option Value) (o7 : Option Value) {Q : Option Value → zm_H → Prop} {FN : Nat × Int32 × Int32 × Int32 → Prop} (hs : zSh zT0 h) (ho : f_M_next_l20_k106_ok v1 v2 v3 h) (hF : FN (f_M_next_l20_k106 v1 v2 v3 h)) (hl0 : ∀ (v1 : Int32) (v2 : Int32) (v3 : Int32) (o4 : Option Value) (o5 : Option Value) (o6 : Option Value) (o7 : Option Value), zSh zT0 h → FN (0, v1, v2, v3) → zg x (d + 2) 261 20 [some (.ref 92), some (.int v1), some (.int v2), some (.int v3), o4, o5, o6, o7] [] h Q) (hl1 : ∀ (v1 : Int32) (v2 : Int32) (v3 : Int32) (o1 : Option Value) (o3 : Option Value) (o4 : Option Value) (o5 : Option Value) (o6 : Option Value) (o7 : Option Value), zSh zT0 h → FN (1, v1, v2, v3) → zg x (d + 2) 261 112 [some (.ref 92), o1, some (.int v2), o3, o4, o5, o6, o7] [] h Q) : zg x (d + 2) 261 106 [some (.ref 92), some (.int v1), some (.int v2), some (.int v3), o4, o5, o6, o7] [] h Q := by
  unfold f_M_next_l20_k106 at hF
  unfold f_M_next_l20_k106_ok at ho
  refine zg_blk zd_261 2 hs (rfl : zb x zT0 zc_261 2 (106, [some (.ref 92), some (.int v1), some (.int v2), some (.int v3), o4, o5, o6, o7], [], h) = some (20, [some (.ref 92), some (.int v1), some (.int v2), some (.int (v3 + 1)), o4, o5, o6, o7], [], h)) (fun hs => ?_)
  exact hl0 v1 v2 (v3 + 1) (o4) (o5) (o6) (o7) hs hF
def f_M_next_l20_a29 (v3 : Int32) (r : Nat × Int32 × Int32 × Int32) (h : zm_H) : Nat × Int32 × Int32 × Int32 := (f_M_next_l20_k106 (r.2.1) (r.2.2.1) v3 h)
def f_M_next_l20_a29_ok (v3 : Int32) (r : Nat × Int32 × Int32 × Int32) (h : zm_H) : Prop := (f_M_next_l20_k106_ok (r.2.1) (r.2.2.1) v3 h)
def f_M_next_l20_b (v1 : Int32) (v2 : Int32) (v3 : Int32) (h : zm_H) : Nat × Int32 × Int32 × Int32 := (if (16 ≤ v3) then (1, v1, v2, v3) else (f_M_next_l20_a29 v3 (f_M_next_l20_l29 v3 h zF (v1, v2, v3)) h))
def f_M_next_l20_b_ok (v1 : Int32) (v2 : Int32) (v3 : Int32) (h : zm_H) : Prop := (((16 ≤ v3) → True) ∧ (¬ (16 ≤ v3) → (f_M_next_l20_l29_ok v3 h zF (v1, v2, v3) ∧ f_M_next_l20_a29_ok v3 (f_M_next_l20_l29 v3 h zF (v1, v2, v3)) h)))
set_option maxRecDepth 100000 in
set_option maxHeartbeats 4000000 in
theorem f_M_next_l20_b_t {x : zm_X} {d : Nat} (v1 : Int32) (v2 : Int32) (v3 : Int32) (h : zm_H) (o4 : Option Value) (o5 : Option Value) (o6 : Option Value) (o7 : Option Value) {Q : Option Value → zm_H → Prop} {FN : Nat × Int32 × Int32 × Int32 → Prop} (hs : zSh zT0 h) (ho : f_M_next_l20_b_ok v1 v2 v3 h) (hF : FN (f_M_next_l20_b v1 v2 v3 h)) (hl0 : ∀ (v1 : Int32) (v2 : Int32) (v3 : Int32) (o4 : Option Value) (o5 : Option Value) (o6 : Option Value) (o7 : Option Value), zSh zT0 h → FN (0, v1, v2, v3) → zg x (d + 2) 261 20 [some (.ref 92), some (.int v1), some (.int v2), some (.int v3), o4, o5, o6, o7] [] h Q) (hl1 : ∀ (v1 : Int32) (v2 : Int32) (v3 : Int32) (o1 : Option Value) (o3 : Option Value) (o4 : Option Value) (o5 : Option Value) (o6 : Option Value) (o7 : Option Value), zSh zT0 h → FN (1, v1, v2, v3) → zg x (d + 2) 261 112 [some (.ref 92), o1, some (.int v2), o3, o4, o5, o6, o7] [] h Q) : zg x (d + 2) 261 20 [some (.ref 92), some (.int v1), some (.int v2), some (.int v3), o4, o5, o6, o7] [] h Q := by
  unfold f_M_next_l20_b at hF
  unfold f_M_next_l20_b_ok at ho
  refine zg_blk zd_261 2 hs (rfl : zb x zT0 zc_261 2 (20, [some (.ref 92), some (.int v1), some (.int v2), some (.int v3), o4, o5, o6, o7], [], h) = some (23, [some (.ref 92), some (.int v1), some (.int v2), some (.int v3), o4, o5, o6, o7], [.int 16, .int v3], h)) (fun hs => ?_)
  refine zg_i_ge zd_261 rfl (fun hc => ?_) (fun hc => ?_)
  · have ho := ho.1 hc
    rw [if_pos hc] at hF
    exact hl1 v1 v2 v3 (some (.int v1)) (some (.int v3)) (o4) (o5) (o6) (o7) hs hF
  · have ho := ho.2 hc
    rw [if_neg hc] at hF
    refine zg_blk zd_261 2 hs (rfl : zb x zT0 zc_261 2 (26, [some (.ref 92), some (.int v1), some (.int v2), some (.int v3), o4, o5, o6, o7], [], h) = some (29, [some (.ref 92), some (.int v1), some (.int v2), some (.int v3), some (.int v3), o5, o6, o7], [], h)) (fun hs => ?_)
    refine f_M_next_l20_l29_t v3 h (fun r => f_M_next_l20_a29_ok v3 r h ∧ FN (f_M_next_l20_a29 v3 r h)) ?_ zF v1 v2 v3 (o5) (o6) (o7) hs ho.1 ⟨ho.2, hF⟩
    · intro v1_ v2_ v4_ o4_ o5_ o6_ o7_ hs hG
      have ho : (f_M_next_l20_k106_ok v1_ v2_ v3 h) := hG.1
      have hF : FN ((f_M_next_l20_k106 v1_ v2_ v3 h)) := hG.2
      exact f_M_next_l20_k106_t v1_ v2_ v3 h (o4_) (o5_) (o6_) (o7_) hs ho hF hl0 hl1
def f_M_next_l20 (h : zm_H) : Nat → Int32 × Int32 × Int32 → Nat × Int32 × Int32 × Int32
  | 0, t => (0, t)
  | n + 1, t => if (f_M_next_l20_b t.1 t.2.1 t.2.2 h).1 = 0 then f_M_next_l20  h n (f_M_next_l20_b t.1 t.2.1 t.2.2 h).2 else f_M_next_l20_b t.1 t.2.1 t.2.2 h
def f_M_next_l20_ok (h : zm_H) : Nat → Int32 × Int32 × Int32 → Prop
  | 0, _ => False
  | n + 1, t => f_M_next_l20_b_ok t.1 t.2.1 t.2.2 h ∧ (if (f_M_next_l20_b t.1 t.2.1 t.2.2 h).1 = 0 then f_M_next_l20_ok  h n (f_M_next_l20_b t.1 t.2.1 t.2.2 h).2 else True)
theorem f_M_next_l20_t {x : zm_X} {d : Nat} (h : zm_H) {Q : Option Value → zm_H → Prop} (G : Nat × Int32 × Int32 × Int32 → Prop) (hx1 : ∀ (v1 : Int32) (v2 : Int32) (v3 : Int32) (o1 : Option Value) (o3 : Option Value) (o4 : Option Value) (o5 : Option Value) (o6 : Option Value) (o7 : Option Value), zSh zT0 h → G (1, v1, v2, v3) → zg x (d + 2) 261 112 [some (.ref 92), o1, some (.int v2), o3, o4, o5, o6, o7] [] h Q) : ∀ (n : Nat) (v1 : Int32) (v2 : Int32) (v3 : Int32) (o4 : Option Value) (o5 : Option Value) (o6 : Option Value) (o7 : Option Value), zSh zT0 h → f_M_next_l20_ok  h n (v1, v2, v3) → G (f_M_next_l20  h n (v1, v2, v3)) → zg x (d + 2) 261 20 [some (.ref 92), some (.int v1), some (.int v2), some (.int v3), o4, o5, o6, o7] [] h Q := by
  intro n
  induction n with
  | zero => intro v1 v2 v3 o4 o5 o6 o7 hs ho hG; exact ho.elim
  | succ n ih =>
    intro v1 v2 v3 o4 o5 o6 o7 hs ho hG
    refine f_M_next_l20_b_t (FN := fun r => (if r.1 = 0 then f_M_next_l20_ok  h n r.2 else True) ∧ G (if r.1 = 0 then f_M_next_l20  h n r.2 else r)) v1 v2 v3 h o4 o5 o6 o7 hs ho.1 ⟨ho.2, hG⟩ ?_ ?_
    · intro v1 v2 v3 o4 o5 o6 o7 hs hF
      exact ih v1 v2 v3 o4 o5 o6 o7 hs hF.1 hF.2
    · intro v1 v2 v3 o1 o3 o4 o5 o6 o7 hs hF
      exact hx1 v1 v2 v3 o1 o3 o4 o5 o6 o7 hs hF.2

def f_M_next_k112 (v2 : Int32) (h : zm_H) : Int32 := v2
def f_M_next_k112_ok (v2 : Int32) (h : zm_H) : Prop := True
set_option maxRecDepth 100000 in
set_option maxHeartbeats 4000000 in
theorem f_M_next_k112_t {x : zm_X} {d : Nat} (v2 : Int32) (h : zm_H) (o0 : Option Value) (o1 : Option Value) (o3 : Option Value) (o4 : Option Value) (o5 : Option Value) (o6 : Option Value) (o7 : Option Value) {Q : Option Value → zm_H → Prop} (hs : zSh zT0 h) (ho : f_M_next_k112_ok v2 h) (hF : Q (some (.int (f_M_next_k112 v2 h))) h) : zg x (d + 2) 261 112 [o0, o1, some (.int v2), o3, o4, o5, o6, o7] [] h Q := by
  unfold f_M_next_k112 at hF
  unfold f_M_next_k112_ok at ho
  refine zg_blk zd_261 1 hs (rfl : zb x zT0 zc_261 1 (112, [o0, o1, some (.int v2), o3, o4, o5, o6, o7], [], h) = some (113, [o0, o1, some (.int v2), o3, o4, o5, o6, o7], [.int v2], h)) (fun hs => ?_)
  exact zg_ret zd_261 rfl rfl hF
def f_M_next_a20 (r : Nat × Int32 × Int32 × Int32) (h : zm_H) : Int32 := (f_M_next_k112 (r.2.2.1) h)
def f_M_next_a20_ok (r : Nat × Int32 × Int32 × Int32) (h : zm_H) : Prop := (f_M_next_k112_ok (r.2.2.1) h)
def f_M_next (h : zm_H) : Int32 := (if (2 ≤ (f_M_bits (zf h 92 78) h)) then (f_M_next_a20 (f_M_next_l20 h zF (17, (-1), 0)) h) else (-1))
def f_M_next_ok (h : zm_H) : Prop := (f_M_bits_ok (zf h 92 78) h ∧ (((2 ≤ (f_M_bits (zf h 92 78) h)) → (f_M_next_l20_ok h zF (17, (-1), 0) ∧ f_M_next_a20_ok (f_M_next_l20 h zF (17, (-1), 0)) h)) ∧ (¬ (2 ≤ (f_M_bits (zf h 92 78) h)) → True)))
set_option maxRecDepth 100000 in
set_option maxHeartbeats 4000000 in
theorem f_M_next_t {x : zm_X} {d : Nat} (h : zm_H) {Q : Option Value → zm_H → Prop} (hs : zSh zT0 h) (ho : f_M_next_ok h) (hF : Q (some (.int (f_M_next h))) h) : zg x (d + 2) 261 0 [some (.ref 92), none, none, none, none, none, none, none] [] h Q := by
  unfold f_M_next at hF
  unfold f_M_next_ok at ho
  refine zg_blk zd_261 2 hs (rfl : zb x zT0 zc_261 2 (0, [some (.ref 92), none, none, none, none, none, none, none], [], h) = some (4, [some (.ref 92), none, none, none, none, none, none, none], [.int (zf h 92 78)], h)) (fun hs => ?_)
  obtain ⟨hob, ho⟩ := ho
  refine zg_call hs zd_261 rfl rfl rfl rfl (as := [.int (zf h 92 78)]) (rest := []) (en := [some (.int (zf h 92 78)), none, none]) rfl rfl rfl rfl rfl ?_
  refine f_M_bits_t (zf h 92 78) h hs hob ?_
  show zg x (d + 2) 261 7 [some (.ref 92), none, none, none, none, none, none, none] [.int (f_M_bits (zf h 92 78) h)] h Q
  refine zg_blk zd_261 1 hs (rfl : zb x zT0 zc_261 1 (7, [some (.ref 92), none, none, none, none, none, none, none], [.int (f_M_bits (zf h 92 78) h)], h) = some (8, [some (.ref 92), none, none, none, none, none, none, none], [.int 2, .int (f_M_bits (zf h 92 78) h)], h)) (fun hs => ?_)
  refine zg_i_ge zd_261 rfl (fun hc => ?_) (fun hc => ?_)
  · have ho := ho.1 hc
    rw [if_pos hc] at hF
    refine zg_blk zd_261 6 hs (rfl : zb x zT0 zc_261 6 (13, [some (.ref 92), none, none, none, none, none, none, none], [], h) = some (20, [some (.ref 92), some (.int 17), some (.int (-1)), some (.int 0), none, none, none, none], [], h)) (fun hs => ?_)
    refine f_M_next_l20_t h (fun r => f_M_next_a20_ok r h ∧ Q (some (.int (f_M_next_a20 r h))) h) ?_ zF 17 (-1) 0 (none) (none) (none) (none) hs ho.1 ⟨ho.2, hF⟩
    · intro v1_ v2_ v3_ o1_ o3_ o4_ o5_ o6_ o7_ hs hG
      have ho : (f_M_next_k112_ok v2_ h) := hG.1
      have hF : Q (some (.int ((f_M_next_k112 v2_ h)))) h := hG.2
      exact f_M_next_k112_t v2_ h (some (.ref 92)) (o1_) (o3_) (o4_) (o5_) (o6_) (o7_) hs ho hF
  · have ho := ho.2 hc
    rw [if_neg hc] at hF
    refine zg_blk zd_261 1 hs (rfl : zb x zT0 zc_261 1 (11, [some (.ref 92), none, none, none, none, none, none, none], [], h) = some (12, [some (.ref 92), none, none, none, none, none, none, none], [.int (-1)], h)) (fun hs => ?_)
    exact zg_ret zd_261 rfl rfl hF
theorem zd_259 : zm_cd 259 = zc_259 := by rfl
def f_M_test (p1 : Int32) (p2 : Int32) (p3 : Int32) (h : zm_H) : Int32 × zm_H := (if (¬ (p1 < 0) ∧ (¬ (15 < p1))) then (if (¬ (p2 < p1) ∧ (¬ (15 < p2))) then (if ((zf h 92 77) = 20) then ((-1), h) else ((zf (zp (zp h 92 78 ((zf h 92 78) &&& (if (p3 = 0) then (((1 <<< ((p2 + 1) &&& 31)) - (1 <<< (p1 &&& 31))) ^^^ (-1)) else ((1 <<< ((p2 + 1) &&& 31)) - (1 <<< (p1 &&& 31)))))) 92 77 ((zf (zp h 92 78 ((zf h 92 78) &&& (if (p3 = 0) then (((1 <<< ((p2 + 1) &&& 31)) - (1 <<< (p1 &&& 31))) ^^^ (-1)) else ((1 <<< ((p2 + 1) &&& 31)) - (1 <<< (p1 &&& 31)))))) 92 77) + 1)) 92 78), (zp (zp h 92 78 ((zf h 92 78) &&& (if (p3 = 0) then (((1 <<< ((p2 + 1) &&& 31)) - (1 <<< (p1 &&& 31))) ^^^ (-1)) else ((1 <<< ((p2 + 1) &&& 31)) - (1 <<< (p1 &&& 31)))))) 92 77 ((zf (zp h 92 78 ((zf h 92 78) &&& (if (p3 = 0) then (((1 <<< ((p2 + 1) &&& 31)) - (1 <<< (p1 &&& 31))) ^^^ (-1)) else ((1 <<< ((p2 + 1) &&& 31)) - (1 <<< (p1 &&& 31)))))) 92 77) + 1)))) else ((-1), h)) else ((-1), h))
def f_M_test_ok (p1 : Int32) (p2 : Int32) (p3 : Int32) (h : zm_H) : Prop := True
set_option maxRecDepth 100000 in
set_option maxHeartbeats 4000000 in
theorem f_M_test_t {x : zm_X} {d : Nat} (p1 : Int32) (p2 : Int32) (p3 : Int32) (h : zm_H) {Q : Option Value → zm_H → Prop} (hs : zSh zT0 h) (ho : f_M_test_ok p1 p2 p3 h) (hF : (zSh zT0 (f_M_test p1 p2 p3 h).2 → Q (some (.int (f_M_test p1 p2 p3 h).1)) (f_M_test p1 p2 p3 h).2)) : zg x (d + 2) 259 0 [some (.ref 92), some (.int p1), some (.int p2), some (.int p3)] [] h Q := by
  unfold f_M_test at hF
  unfold f_M_test_ok at ho
  refine zg_blk zd_259 3 hs (rfl : zb x zT0 zc_259 3 (0, [some (.ref 92), some (.int p1), some (.int p2), some (.int p3)], [], h) = some (4, [some (.ref 92), some (.int p1), some (.int p2), some (.int p3)], [.int 15, .int 0, .int p1], h)) (fun hs => ?_)
  refine zg_call hs zd_259 rfl rfl rfl rfl (as := [.int p1, .int 0, .int 15]) (rest := []) (en := [some (.int p1), some (.int 0), some (.int 15)]) rfl rfl rfl rfl rfl ?_
  refine f_M_in_t p1 0 15 h hs trivial ?_
  show zg x (d + 2) 259 7 [some (.ref 92), some (.int p1), some (.int p2), some (.int p3)] [.int (if (¬ (p1 < 0) ∧ (¬ (15 < p1))) then 1 else 0)] h Q
  refine zg_b_eq zd_259 rfl (fun hc => ?_) (fun hc => ?_)
  · skip
    rw [if_neg hc] at hF
    refine zg_blk zd_259 1 hs (rfl : zb x zT0 zc_259 1 (29, [some (.ref 92), some (.int p1), some (.int p2), some (.int p3)], [], h) = some (30, [some (.ref 92), some (.int p1), some (.int p2), some (.int p3)], [.int (-1)], h)) (fun hs => ?_)
    exact zg_ret zd_259 rfl rfl (hF hs)
  · skip
    rw [if_pos hc] at hF
    refine zg_blk zd_259 3 hs (rfl : zb x zT0 zc_259 3 (10, [some (.ref 92), some (.int p1), some (.int p2), some (.int p3)], [], h) = some (14, [some (.ref 92), some (.int p1), some (.int p2), some (.int p3)], [.int 15, .int p1, .int p2], h)) (fun hs => ?_)
    refine zg_call hs zd_259 rfl rfl rfl rfl (as := [.int p2, .int p1, .int 15]) (rest := []) (en := [some (.int p2), some (.int p1), some (.int 15)]) rfl rfl rfl rfl rfl ?_
    refine f_M_in_t p2 p1 15 h hs trivial ?_
    show zg x (d + 2) 259 17 [some (.ref 92), some (.int p1), some (.int p2), some (.int p3)] [.int (if (¬ (p2 < p1) ∧ (¬ (15 < p2))) then 1 else 0)] h Q
    refine zg_b_eq zd_259 rfl (fun hc => ?_) (fun hc => ?_)
    · skip
      rw [if_neg hc] at hF
      refine zg_blk zd_259 1 hs (rfl : zb x zT0 zc_259 1 (29, [some (.ref 92), some (.int p1), some (.int p2), some (.int p3)], [], h) = some (30, [some (.ref 92), some (.int p1), some (.int p2), some (.int p3)], [.int (-1)], h)) (fun hs => ?_)
      exact zg_ret zd_259 rfl rfl (hF hs)
    · skip
      rw [if_pos hc] at hF
      refine zg_blk zd_259 3 hs (rfl : zb x zT0 zc_259 3 (20, [some (.ref 92), some (.int p1), some (.int p2), some (.int p3)], [], h) = some (26, [some (.ref 92), some (.int p1), some (.int p2), some (.int p3)], [.int 20, .int (zf h 92 77)], h)) (fun hs => ?_)
      refine zg_i_ne zd_259 rfl (fun hc => ?_) (fun hc => ?_)
      · skip
        rw [if_neg hc] at hF
        refine zg_blk zd_259 4 hs (rfl : zb x zT0 zc_259 4 (31, [some (.ref 92), some (.int p1), some (.int p2), some (.int p3)], [], h) = some (37, [some (.ref 92), some (.int p1), some (.int p2), some (.int p3)], [.int p3, .int (zf h 92 78), .ref 92], h)) (fun hs => ?_)
        have K7 : zSh zT0 h → zg x (d + 2) 259 55 [some (.ref 92), some (.int p1), some (.int p2), some (.int p3)] [.int (if (p3 = 0) then (((1 <<< ((p2 + 1) &&& 31)) - (1 <<< (p1 &&& 31))) ^^^ (-1)) else ((1 <<< ((p2 + 1) &&& 31)) - (1 <<< (p1 &&& 31)))), .int (zf h 92 78), .ref 92] h Q := fun hs => by
          refine zg_blk zd_259 10 hs (rfl : zb x zT0 zc_259 10 (55, [some (.ref 92), some (.int p1), some (.int p2), some (.int p3)], [.int (if (p3 = 0) then (((1 <<< ((p2 + 1) &&& 31)) - (1 <<< (p1 &&& 31))) ^^^ (-1)) else ((1 <<< ((p2 + 1) &&& 31)) - (1 <<< (p1 &&& 31)))), .int (zf h 92 78), .ref 92], h) = some (73, [some (.ref 92), some (.int p1), some (.int p2), some (.int p3)], [.int (zf (zp (zp h 92 78 ((zf h 92 78) &&& (if (p3 = 0) then (((1 <<< ((p2 + 1) &&& 31)) - (1 <<< (p1 &&& 31))) ^^^ (-1)) else ((1 <<< ((p2 + 1) &&& 31)) - (1 <<< (p1 &&& 31)))))) 92 77 ((zf (zp h 92 78 ((zf h 92 78) &&& (if (p3 = 0) then (((1 <<< ((p2 + 1) &&& 31)) - (1 <<< (p1 &&& 31))) ^^^ (-1)) else ((1 <<< ((p2 + 1) &&& 31)) - (1 <<< (p1 &&& 31)))))) 92 77) + 1)) 92 78)], (zp (zp h 92 78 ((zf h 92 78) &&& (if (p3 = 0) then (((1 <<< ((p2 + 1) &&& 31)) - (1 <<< (p1 &&& 31))) ^^^ (-1)) else ((1 <<< ((p2 + 1) &&& 31)) - (1 <<< (p1 &&& 31)))))) 92 77 ((zf (zp h 92 78 ((zf h 92 78) &&& (if (p3 = 0) then (((1 <<< ((p2 + 1) &&& 31)) - (1 <<< (p1 &&& 31))) ^^^ (-1)) else ((1 <<< ((p2 + 1) &&& 31)) - (1 <<< (p1 &&& 31)))))) 92 77) + 1)))) (fun hs => ?_)
          exact zg_ret zd_259 rfl rfl (hF hs)
        refine zg_f_eq zd_259 rfl (fun hc => ?_) (fun hc => ?_)
        · skip
          rw [show ((if (p3 = 0) then (((1 <<< ((p2 + 1) &&& 31)) - (1 <<< (p1 &&& 31))) ^^^ (-1)) else ((1 <<< ((p2 + 1) &&& 31)) - (1 <<< (p1 &&& 31)))) : Int32) = (((1 <<< ((p2 + 1) &&& 31)) - (1 <<< (p1 &&& 31))) ^^^ (-1)) from if_pos hc] at K7
          refine zg_blk zd_259 2 hs (rfl : zb x zT0 zc_259 2 (48, [some (.ref 92), some (.int p1), some (.int p2), some (.int p3)], [.int (zf h 92 78), .ref 92], h) = some (50, [some (.ref 92), some (.int p1), some (.int p2), some (.int p3)], [.int p2, .int p1, .int (zf h 92 78), .ref 92], h)) (fun hs => ?_)
          refine zg_call hs zd_259 rfl rfl rfl rfl (as := [.int p1, .int p2]) (rest := [.int (zf h 92 78), .ref 92]) (en := [some (.int p1), some (.int p2)]) rfl rfl rfl rfl rfl ?_
          refine f_M_span_t p1 p2 h hs trivial ?_
          show zg x (d + 2) 259 53 [some (.ref 92), some (.int p1), some (.int p2), some (.int p3)] [.int ((1 <<< ((p2 + 1) &&& 31)) - (1 <<< (p1 &&& 31))), .int (zf h 92 78), .ref 92] h Q
          refine zg_blk zd_259 2 hs (rfl : zb x zT0 zc_259 2 (53, [some (.ref 92), some (.int p1), some (.int p2), some (.int p3)], [.int ((1 <<< ((p2 + 1) &&& 31)) - (1 <<< (p1 &&& 31))), .int (zf h 92 78), .ref 92], h) = some (55, [some (.ref 92), some (.int p1), some (.int p2), some (.int p3)], [.int (((1 <<< ((p2 + 1) &&& 31)) - (1 <<< (p1 &&& 31))) ^^^ (-1)), .int (zf h 92 78), .ref 92], h)) (fun hs => ?_)
          exact K7 hs
        · skip
          rw [show ((if (p3 = 0) then (((1 <<< ((p2 + 1) &&& 31)) - (1 <<< (p1 &&& 31))) ^^^ (-1)) else ((1 <<< ((p2 + 1) &&& 31)) - (1 <<< (p1 &&& 31)))) : Int32) = ((1 <<< ((p2 + 1) &&& 31)) - (1 <<< (p1 &&& 31))) from if_neg hc] at K7
          refine zg_blk zd_259 2 hs (rfl : zb x zT0 zc_259 2 (40, [some (.ref 92), some (.int p1), some (.int p2), some (.int p3)], [.int (zf h 92 78), .ref 92], h) = some (42, [some (.ref 92), some (.int p1), some (.int p2), some (.int p3)], [.int p2, .int p1, .int (zf h 92 78), .ref 92], h)) (fun hs => ?_)
          refine zg_call hs zd_259 rfl rfl rfl rfl (as := [.int p1, .int p2]) (rest := [.int (zf h 92 78), .ref 92]) (en := [some (.int p1), some (.int p2)]) rfl rfl rfl rfl rfl ?_
          refine f_M_span_t p1 p2 h hs trivial ?_
          show zg x (d + 2) 259 45 [some (.ref 92), some (.int p1), some (.int p2), some (.int p3)] [.int ((1 <<< ((p2 + 1) &&& 31)) - (1 <<< (p1 &&& 31))), .int (zf h 92 78), .ref 92] h Q
          refine zg_blk zd_259 1 hs (rfl : zb x zT0 zc_259 1 (45, [some (.ref 92), some (.int p1), some (.int p2), some (.int p3)], [.int ((1 <<< ((p2 + 1) &&& 31)) - (1 <<< (p1 &&& 31))), .int (zf h 92 78), .ref 92], h) = some (55, [some (.ref 92), some (.int p1), some (.int p2), some (.int p3)], [.int ((1 <<< ((p2 + 1) &&& 31)) - (1 <<< (p1 &&& 31))), .int (zf h 92 78), .ref 92], h)) (fun hs => ?_)
          exact K7 hs
      · skip
        rw [if_pos hc] at hF
        refine zg_blk zd_259 1 hs (rfl : zb x zT0 zc_259 1 (29, [some (.ref 92), some (.int p1), some (.int p2), some (.int p3)], [], h) = some (30, [some (.ref 92), some (.int p1), some (.int p2), some (.int p3)], [.int (-1)], h)) (fun hs => ?_)
        exact zg_ret zd_259 rfl rfl (hF hs)
theorem zd_54 : zm_cd 54 = zc_54 := by rfl
def f_Log_addRaft (p1 : Int32) (p2 : Int32) (p3 : Int32) (h : zm_H) : Int32 × zm_H := (if ((zf h 23 0) < 10) then (((zf (zp (zs (zs (zs h 24 (zf h 23 0) p2) 25 (zf (zs h 24 (zf h 23 0) p2) 23 0) p3) 26 (zf (zs (zs h 24 (zf h 23 0) p2) 25 (zf (zs h 24 (zf h 23 0) p2) 23 0) p3) 23 0) p1) 23 0 ((zf (zs (zs (zs h 24 (zf h 23 0) p2) 25 (zf (zs h 24 (zf h 23 0) p2) 23 0) p3) 26 (zf (zs (zs h 24 (zf h 23 0) p2) 25 (zf (zs h 24 (zf h 23 0) p2) 23 0) p3) 23 0) p1) 23 0) + 1)) 23 0) - 1), (zp (zs (zs (zs h 24 (zf h 23 0) p2) 25 (zf (zs h 24 (zf h 23 0) p2) 23 0) p3) 26 (zf (zs (zs h 24 (zf h 23 0) p2) 25 (zf (zs h 24 (zf h 23 0) p2) 23 0) p3) 23 0) p1) 23 0 ((zf (zs (zs (zs h 24 (zf h 23 0) p2) 25 (zf (zs h 24 (zf h 23 0) p2) 23 0) p3) 26 (zf (zs (zs h 24 (zf h 23 0) p2) 25 (zf (zs h 24 (zf h 23 0) p2) 23 0) p3) 23 0) p1) 23 0) + 1))) else ((-1), h))
def f_Log_addRaft_ok (p1 : Int32) (p2 : Int32) (p3 : Int32) (h : zm_H) : Prop := ((((zf h 23 0) < 10) → (vp_in (zf h 23 0) 10 ∧ (vp_in (zf (zs h 24 (zf h 23 0) p2) 23 0) 10 ∧ (vp_in (zf (zs (zs h 24 (zf h 23 0) p2) 25 (zf (zs h 24 (zf h 23 0) p2) 23 0) p3) 23 0) 10 ∧ True)))) ∧ (¬ ((zf h 23 0) < 10) → True))
set_option maxRecDepth 100000 in
set_option maxHeartbeats 4000000 in
theorem f_Log_addRaft_t {x : zm_X} {d : Nat} (p1 : Int32) (p2 : Int32) (p3 : Int32) (h : zm_H) {Q : Option Value → zm_H → Prop} (hs : zSh zT0 h) (ho : f_Log_addRaft_ok p1 p2 p3 h) (hF : (zSh zT0 (f_Log_addRaft p1 p2 p3 h).2 → Q (some (.int (f_Log_addRaft p1 p2 p3 h).1)) (f_Log_addRaft p1 p2 p3 h).2)) : zg x (d + 1) 54 0 [some (.ref 23), some (.int p1), some (.int p2), some (.int p3)] [] h Q := by
  unfold f_Log_addRaft at hF
  unfold f_Log_addRaft_ok at ho
  refine zg_blk zd_54 3 hs (rfl : zb x zT0 zc_54 3 (0, [some (.ref 23), some (.int p1), some (.int p2), some (.int p3)], [], h) = some (6, [some (.ref 23), some (.int p1), some (.int p2), some (.int p3)], [.int 10, .int (zf h 23 0)], h)) (fun hs => ?_)
  refine zg_i_lt zd_54 rfl (fun hc => ?_) (fun hc => ?_)
  · have ho := ho.1 hc
    rw [if_pos hc] at hF
    refine zg_blk zd_54 5 hs (rfl : zb x zT0 zc_54 5 (11, [some (.ref 23), some (.int p1), some (.int p2), some (.int p3)], [], h) = some (20, [some (.ref 23), some (.int p1), some (.int p2), some (.int p3)], [.int p2, .int (zf h 23 0), .ref 24], h)) (fun hs => ?_)
    obtain ⟨hob, ho⟩ := ho
    refine zg_ias hs zd_54 rfl rfl hob (fun hs => ?_)
    refine zg_blk zd_54 5 hs (rfl : zb x zT0 zc_54 5 (21, [some (.ref 23), some (.int p1), some (.int p2), some (.int p3)], [], (zs h 24 (zf h 23 0) p2)) = some (30, [some (.ref 23), some (.int p1), some (.int p2), some (.int p3)], [.int p3, .int (zf (zs h 24 (zf h 23 0) p2) 23 0), .ref 25], (zs h 24 (zf h 23 0) p2))) (fun hs => ?_)
    obtain ⟨hob, ho⟩ := ho
    refine zg_ias hs zd_54 rfl rfl hob (fun hs => ?_)
    refine zg_blk zd_54 5 hs (rfl : zb x zT0 zc_54 5 (31, [some (.ref 23), some (.int p1), some (.int p2), some (.int p3)], [], (zs (zs h 24 (zf h 23 0) p2) 25 (zf (zs h 24 (zf h 23 0) p2) 23 0) p3)) = some (40, [some (.ref 23), some (.int p1), some (.int p2), some (.int p3)], [.int p1, .int (zf (zs (zs h 24 (zf h 23 0) p2) 25 (zf (zs h 24 (zf h 23 0) p2) 23 0) p3) 23 0), .ref 26], (zs (zs h 24 (zf h 23 0) p2) 25 (zf (zs h 24 (zf h 23 0) p2) 23 0) p3))) (fun hs => ?_)
    obtain ⟨hob, ho⟩ := ho
    refine zg_ias hs zd_54 rfl rfl hob (fun hs => ?_)
    refine zg_blk zd_54 10 hs (rfl : zb x zT0 zc_54 10 (41, [some (.ref 23), some (.int p1), some (.int p2), some (.int p3)], [], (zs (zs (zs h 24 (zf h 23 0) p2) 25 (zf (zs h 24 (zf h 23 0) p2) 23 0) p3) 26 (zf (zs (zs h 24 (zf h 23 0) p2) 25 (zf (zs h 24 (zf h 23 0) p2) 23 0) p3) 23 0) p1)) = some (57, [some (.ref 23), some (.int p1), some (.int p2), some (.int p3)], [.int ((zf (zp (zs (zs (zs h 24 (zf h 23 0) p2) 25 (zf (zs h 24 (zf h 23 0) p2) 23 0) p3) 26 (zf (zs (zs h 24 (zf h 23 0) p2) 25 (zf (zs h 24 (zf h 23 0) p2) 23 0) p3) 23 0) p1) 23 0 ((zf (zs (zs (zs h 24 (zf h 23 0) p2) 25 (zf (zs h 24 (zf h 23 0) p2) 23 0) p3) 26 (zf (zs (zs h 24 (zf h 23 0) p2) 25 (zf (zs h 24 (zf h 23 0) p2) 23 0) p3) 23 0) p1) 23 0) + 1)) 23 0) - 1)], (zp (zs (zs (zs h 24 (zf h 23 0) p2) 25 (zf (zs h 24 (zf h 23 0) p2) 23 0) p3) 26 (zf (zs (zs h 24 (zf h 23 0) p2) 25 (zf (zs h 24 (zf h 23 0) p2) 23 0) p3) 23 0) p1) 23 0 ((zf (zs (zs (zs h 24 (zf h 23 0) p2) 25 (zf (zs h 24 (zf h 23 0) p2) 23 0) p3) 26 (zf (zs (zs h 24 (zf h 23 0) p2) 25 (zf (zs h 24 (zf h 23 0) p2) 23 0) p3) 23 0) p1) 23 0) + 1)))) (fun hs => ?_)
    exact zg_ret zd_54 rfl rfl (hF hs)
  · have ho := ho.2 hc
    rw [if_neg hc] at hF
    refine zg_blk zd_54 1 hs (rfl : zb x zT0 zc_54 1 (9, [some (.ref 23), some (.int p1), some (.int p2), some (.int p3)], [], h) = some (10, [some (.ref 23), some (.int p1), some (.int p2), some (.int p3)], [.int (-1)], h)) (fun hs => ?_)
    exact zg_ret zd_54 rfl rfl (hF hs)
theorem zd_202 : zm_cd 202 = zc_202 := by rfl
def f_M_raft (p1 : Int32) (p2 : Int32) (h : zm_H) : Int32 × zm_H := (if (¬ (p1 < 1) ∧ (¬ (20 < p1))) then (if (¬ (p2 < 2) ∧ (¬ (20 < p2))) then (if ((zf h 92 33) = 10) then ((-1), h) else (((zf (zp (zs (zs (zs h 112 (zf h 92 33) p1) 113 (zf (zs h 112 (zf h 92 33) p1) 92 33) p2) 114 (zf (zs (zs h 112 (zf h 92 33) p1) 113 (zf (zs h 112 (zf h 92 33) p1) 92 33) p2) 92 33) (zf (zs (zs h 112 (zf h 92 33) p1) 113 (zf (zs h 112 (zf h 92 33) p1) 92 33) p2) 92 23)) 92 33 ((zf (zs (zs (zs h 112 (zf h 92 33) p1) 113 (zf (zs h 112 (zf h 92 33) p1) 92 33) p2) 114 (zf (zs (zs h 112 (zf h 92 33) p1) 113 (zf (zs h 112 (zf h 92 33) p1) 92 33) p2) 92 33) (zf (zs (zs h 112 (zf h 92 33) p1) 113 (zf (zs h 112 (zf h 92 33) p1) 92 33) p2) 92 23)) 92 33) + 1)) 92 33) - 1), (zp (zs (zs (zs h 112 (zf h 92 33) p1) 113 (zf (zs h 112 (zf h 92 33) p1) 92 33) p2) 114 (zf (zs (zs h 112 (zf h 92 33) p1) 113 (zf (zs h 112 (zf h 92 33) p1) 92 33) p2) 92 33) (zf (zs (zs h 112 (zf h 92 33) p1) 113 (zf (zs h 112 (zf h 92 33) p1) 92 33) p2) 92 23)) 92 33 ((zf (zs (zs (zs h 112 (zf h 92 33) p1) 113 (zf (zs h 112 (zf h 92 33) p1) 92 33) p2) 114 (zf (zs (zs h 112 (zf h 92 33) p1) 113 (zf (zs h 112 (zf h 92 33) p1) 92 33) p2) 92 33) (zf (zs (zs h 112 (zf h 92 33) p1) 113 (zf (zs h 112 (zf h 92 33) p1) 92 33) p2) 92 23)) 92 33) + 1)))) else ((-1), h)) else ((-1), h))
def f_M_raft_ok (p1 : Int32) (p2 : Int32) (h : zm_H) : Prop := (((¬ (p1 < 1) ∧ (¬ (20 < p1))) → (((¬ (p2 < 2) ∧ (¬ (20 < p2))) → ((((zf h 92 33) = 10) → True) ∧ (¬ ((zf h 92 33) = 10) → (vp_in (zf h 92 33) 10 ∧ (vp_in (zf (zs h 112 (zf h 92 33) p1) 92 33) 10 ∧ (vp_in (zf (zs (zs h 112 (zf h 92 33) p1) 113 (zf (zs h 112 (zf h 92 33) p1) 92 33) p2) 92 33) 10 ∧ True)))))) ∧ (¬ (¬ (p2 < 2) ∧ (¬ (20 < p2))) → True))) ∧ (¬ (¬ (p1 < 1) ∧ (¬ (20 < p1))) → True))
set_option maxRecDepth 100000 in
set_option maxHeartbeats 4000000 in
theorem f_M_raft_t {x : zm_X} {d : Nat} (p1 : Int32) (p2 : Int32) (h : zm_H) {Q : Option Value → zm_H → Prop} (hs : zSh zT0 h) (ho : f_M_raft_ok p1 p2 h) (hF : (zSh zT0 (f_M_raft p1 p2 h).2 → Q (some (.int (f_M_raft p1 p2 h).1)) (f_M_raft p1 p2 h).2)) : zg x (d + 2) 202 0 [some (.ref 92), some (.int p1), some (.int p2)] [] h Q := by
  unfold f_M_raft at hF
  unfold f_M_raft_ok at ho
  refine zg_blk zd_202 3 hs (rfl : zb x zT0 zc_202 3 (0, [some (.ref 92), some (.int p1), some (.int p2)], [], h) = some (4, [some (.ref 92), some (.int p1), some (.int p2)], [.int 20, .int 1, .int p1], h)) (fun hs => ?_)
  refine zg_call hs zd_202 rfl rfl rfl rfl (as := [.int p1, .int 1, .int 20]) (rest := []) (en := [some (.int p1), some (.int 1), some (.int 20)]) rfl rfl rfl rfl rfl ?_
  refine f_M_in_t p1 1 20 h hs trivial ?_
  show zg x (d + 2) 202 7 [some (.ref 92), some (.int p1), some (.int p2)] [.int (if (¬ (p1 < 1) ∧ (¬ (20 < p1))) then 1 else 0)] h Q
  refine zg_b_eq zd_202 rfl (fun hc => ?_) (fun hc => ?_)
  · have ho := ho.2 hc
    rw [if_neg hc] at hF
    refine zg_blk zd_202 1 hs (rfl : zb x zT0 zc_202 1 (29, [some (.ref 92), some (.int p1), some (.int p2)], [], h) = some (30, [some (.ref 92), some (.int p1), some (.int p2)], [.int (-1)], h)) (fun hs => ?_)
    exact zg_ret zd_202 rfl rfl (hF hs)
  · have ho := ho.1 hc
    rw [if_pos hc] at hF
    refine zg_blk zd_202 3 hs (rfl : zb x zT0 zc_202 3 (10, [some (.ref 92), some (.int p1), some (.int p2)], [], h) = some (14, [some (.ref 92), some (.int p1), some (.int p2)], [.int 20, .int 2, .int p2], h)) (fun hs => ?_)
    refine zg_call hs zd_202 rfl rfl rfl rfl (as := [.int p2, .int 2, .int 20]) (rest := []) (en := [some (.int p2), some (.int 2), some (.int 20)]) rfl rfl rfl rfl rfl ?_
    refine f_M_in_t p2 2 20 h hs trivial ?_
    show zg x (d + 2) 202 17 [some (.ref 92), some (.int p1), some (.int p2)] [.int (if (¬ (p2 < 2) ∧ (¬ (20 < p2))) then 1 else 0)] h Q
    refine zg_b_eq zd_202 rfl (fun hc => ?_) (fun hc => ?_)
    · have ho := ho.2 hc
      rw [if_neg hc] at hF
      refine zg_blk zd_202 1 hs (rfl : zb x zT0 zc_202 1 (29, [some (.ref 92), some (.int p1), some (.int p2)], [], h) = some (30, [some (.ref 92), some (.int p1), some (.int p2)], [.int (-1)], h)) (fun hs => ?_)
      exact zg_ret zd_202 rfl rfl (hF hs)
    · have ho := ho.1 hc
      rw [if_pos hc] at hF
      refine zg_blk zd_202 3 hs (rfl : zb x zT0 zc_202 3 (20, [some (.ref 92), some (.int p1), some (.int p2)], [], h) = some (26, [some (.ref 92), some (.int p1), some (.int p2)], [.int 10, .int (zf h 92 33)], h)) (fun hs => ?_)
      refine zg_i_ne zd_202 rfl (fun hc => ?_) (fun hc => ?_)
      · have ho := ho.2 hc
        rw [if_neg hc] at hF
        refine zg_blk zd_202 5 hs (rfl : zb x zT0 zc_202 5 (31, [some (.ref 92), some (.int p1), some (.int p2)], [], h) = some (40, [some (.ref 92), some (.int p1), some (.int p2)], [.int p1, .int (zf h 92 33), .ref 112], h)) (fun hs => ?_)
        obtain ⟨hob, ho⟩ := ho
        refine zg_ias hs zd_202 rfl rfl hob (fun hs => ?_)
        refine zg_blk zd_202 5 hs (rfl : zb x zT0 zc_202 5 (41, [some (.ref 92), some (.int p1), some (.int p2)], [], (zs h 112 (zf h 92 33) p1)) = some (50, [some (.ref 92), some (.int p1), some (.int p2)], [.int p2, .int (zf (zs h 112 (zf h 92 33) p1) 92 33), .ref 113], (zs h 112 (zf h 92 33) p1))) (fun hs => ?_)
        obtain ⟨hob, ho⟩ := ho
        refine zg_ias hs zd_202 rfl rfl hob (fun hs => ?_)
        refine zg_blk zd_202 6 hs (rfl : zb x zT0 zc_202 6 (51, [some (.ref 92), some (.int p1), some (.int p2)], [], (zs (zs h 112 (zf h 92 33) p1) 113 (zf (zs h 112 (zf h 92 33) p1) 92 33) p2)) = some (63, [some (.ref 92), some (.int p1), some (.int p2)], [.int (zf (zs (zs h 112 (zf h 92 33) p1) 113 (zf (zs h 112 (zf h 92 33) p1) 92 33) p2) 92 23), .int (zf (zs (zs h 112 (zf h 92 33) p1) 113 (zf (zs h 112 (zf h 92 33) p1) 92 33) p2) 92 33), .ref 114], (zs (zs h 112 (zf h 92 33) p1) 113 (zf (zs h 112 (zf h 92 33) p1) 92 33) p2))) (fun hs => ?_)
        obtain ⟨hob, ho⟩ := ho
        refine zg_ias hs zd_202 rfl rfl hob (fun hs => ?_)
        refine zg_blk zd_202 10 hs (rfl : zb x zT0 zc_202 10 (64, [some (.ref 92), some (.int p1), some (.int p2)], [], (zs (zs (zs h 112 (zf h 92 33) p1) 113 (zf (zs h 112 (zf h 92 33) p1) 92 33) p2) 114 (zf (zs (zs h 112 (zf h 92 33) p1) 113 (zf (zs h 112 (zf h 92 33) p1) 92 33) p2) 92 33) (zf (zs (zs h 112 (zf h 92 33) p1) 113 (zf (zs h 112 (zf h 92 33) p1) 92 33) p2) 92 23))) = some (80, [some (.ref 92), some (.int p1), some (.int p2)], [.int ((zf (zp (zs (zs (zs h 112 (zf h 92 33) p1) 113 (zf (zs h 112 (zf h 92 33) p1) 92 33) p2) 114 (zf (zs (zs h 112 (zf h 92 33) p1) 113 (zf (zs h 112 (zf h 92 33) p1) 92 33) p2) 92 33) (zf (zs (zs h 112 (zf h 92 33) p1) 113 (zf (zs h 112 (zf h 92 33) p1) 92 33) p2) 92 23)) 92 33 ((zf (zs (zs (zs h 112 (zf h 92 33) p1) 113 (zf (zs h 112 (zf h 92 33) p1) 92 33) p2) 114 (zf (zs (zs h 112 (zf h 92 33) p1) 113 (zf (zs h 112 (zf h 92 33) p1) 92 33) p2) 92 33) (zf (zs (zs h 112 (zf h 92 33) p1) 113 (zf (zs h 112 (zf h 92 33) p1) 92 33) p2) 92 23)) 92 33) + 1)) 92 33) - 1)], (zp (zs (zs (zs h 112 (zf h 92 33) p1) 113 (zf (zs h 112 (zf h 92 33) p1) 92 33) p2) 114 (zf (zs (zs h 112 (zf h 92 33) p1) 113 (zf (zs h 112 (zf h 92 33) p1) 92 33) p2) 92 33) (zf (zs (zs h 112 (zf h 92 33) p1) 113 (zf (zs h 112 (zf h 92 33) p1) 92 33) p2) 92 23)) 92 33 ((zf (zs (zs (zs h 112 (zf h 92 33) p1) 113 (zf (zs h 112 (zf h 92 33) p1) 92 33) p2) 114 (zf (zs (zs h 112 (zf h 92 33) p1) 113 (zf (zs h 112 (zf h 92 33) p1) 92 33) p2) 92 33) (zf (zs (zs h 112 (zf h 92 33) p1) 113 (zf (zs h 112 (zf h 92 33) p1) 92 33) p2) 92 23)) 92 33) + 1)))) (fun hs => ?_)
        exact zg_ret zd_202 rfl rfl (hF hs)
      · have ho := ho.1 hc
        rw [if_pos hc] at hF
        refine zg_blk zd_202 1 hs (rfl : zb x zT0 zc_202 1 (29, [some (.ref 92), some (.int p1), some (.int p2)], [], h) = some (30, [some (.ref 92), some (.int p1), some (.int p2)], [.int (-1)], h)) (fun hs => ?_)
        exact zg_ret zd_202 rfl rfl (hF hs)