/-! ===== the code does what its functions say, 6 ===== -/
set_option maxRecDepth 100000 in
set_option maxHeartbeats 400000 in
theorem f_Course_putInto_50_k44_t {x : zm_X} {d : Nat} (h : zm_H) (o0 : Option Value) (o1 : Option Value) (o2 : Option Value) {Q : Option Value → zm_H → Prop} (hs : zSh zT0 h) (ho : f_Course_putInto_50_k44_ok h) (hF : (zSh zT0 (f_Course_putInto_50_k44 h) → Q none (f_Course_putInto_50_k44 h))) : zg x (d + 3) 19 44 [o0, o1, o2] [] h Q := by
  unfold f_Course_putInto_50_k44 at hF
  unfold f_Course_putInto_50_k44_ok at ho
  exact zg_ret zd_19 rfl rfl (hF hs)
set_option maxRecDepth 100000 in
set_option maxHeartbeats 400000 in
theorem f_Course_putInto_50_k4_t {x : zm_X} {d : Nat} (h : zm_H) (o2 : Option Value) {Q : Option Value → zm_H → Prop} (hs : zSh zT0 h) (ho : f_Course_putInto_50_k4_ok h) (hF : (zSh zT0 (f_Course_putInto_50_k4 h) → Q none (f_Course_putInto_50_k4 h))) : zg x (d + 3) 19 4 [some (.ref 50), some (.ref 32), o2] [] h Q := by
  unfold f_Course_putInto_50_k4 at hF
  unfold f_Course_putInto_50_k4_ok at ho
  refine zg_blk zd_19 2 hs (rfl : zb x zT0 zc_19 2 (4, [some (.ref 50), some (.ref 32), o2], [], h) = some (6, [some (.ref 50), some (.ref 32), some (.int 0)], [], h)) (fun hs => ?_)
  refine f_Course_putInto_50_l6_t  (fun r => f_Course_putInto_50_a6_ok r ∧ (zSh zT0 (f_Course_putInto_50_a6 r) → Q none (f_Course_putInto_50_a6 r))) ?_ zF 0 h hs ho.1 ⟨ho.2, hF⟩
  · intro v2_ h_ o2_ hs hG
    have ho : True := trivial
    have hF : (zSh zT0 ((f_Course_putInto_50_k44 h_)) → Q none ((f_Course_putInto_50_k44 h_))) := hG.2
    exact f_Course_putInto_50_k44_t h_ (some (.ref 50)) (some (.ref 32)) (o2_) hs trivial hF
set_option maxRecDepth 100000 in
set_option maxHeartbeats 400000 in
theorem f_Course_putInto_50_t {x : zm_X} {d : Nat} (h : zm_H) {Q : Option Value → zm_H → Prop} (hs : zSh zT0 h) (ho : f_Course_putInto_50_ok h) (hF : (zSh zT0 (f_Course_putInto_50 h) → Q none (f_Course_putInto_50 h))) : zg x (d + 3) 19 0 [some (.ref 50), some (.ref 32), none] [] h Q := by
  unfold f_Course_putInto_50 at hF
  unfold f_Course_putInto_50_ok at ho
  refine zg_blk zd_19 1 hs (rfl : zb x zT0 zc_19 1 (0, [some (.ref 50), some (.ref 32), none], [], h) = some (1, [some (.ref 50), some (.ref 32), none], [.ref 32], h)) (fun hs => ?_)
  obtain ⟨hob, ho⟩ := ho
  refine zg_call hs zd_19 rfl rfl rfl rfl (as := [.ref 32]) (rest := []) (en := [some (.ref 32)]) rfl rfl rfl rfl rfl ?_
  refine f_Waves_takeAllOut_t  h hs hob (fun hs => ?_)
  show zg x (d + 3) 19 4 [some (.ref 50), some (.ref 32), none] [] (f_Waves_takeAllOut h) Q
  exact f_Course_putInto_50_k4_t (f_Waves_takeAllOut h) (none) hs ho hF
set_option maxRecDepth 100000 in
set_option maxHeartbeats 400000 in
theorem f_Course_leak_50_t {x : zm_X} {d : Nat} (p1 : Int32) (h : zm_H) {Q : Option Value → zm_H → Prop} (hs : zSh zT0 h) (ho : f_Course_leak_50_ok p1 h) (hF : Q (some (.int (f_Course_leak_50 p1 h))) h) : zg x (d + 1) 21 0 [some (.ref 50), some (.int p1)] [] h Q := by
  unfold f_Course_leak_50 at hF
  unfold f_Course_leak_50_ok at ho
  refine zg_blk zd_21 4 hs (rfl : zb x zT0 zc_21 4 (0, [some (.ref 50), some (.int p1)], [], h) = some (7, [some (.ref 50), some (.int p1)], [.int p1, .ref 53, .int 100], h)) (fun hs => ?_)
  have hob := ho
  refine zg_ial hs zd_21 rfl rfl hob ?_
  refine zg_blk zd_21 2 hs (rfl : zb x zT0 zc_21 2 (8, [some (.ref 50), some (.int p1)], [.int (zr h 53 p1), .int 100], h) = some (11, [some (.ref 50), some (.int p1)], [.int ((zr h 53 p1) / 16), .int 100], h)) (fun hs => ?_)
  refine zg_x zd_21 rfl rfl rfl rfl (as := [.int 100, .int ((zr h 53 p1) / 16)]) (rest := []) (w := some (.int (if ((zr h 53 p1) / 16) < 100 then ((zr h 53 p1) / 16) else 100))) rfl rfl rfl ?_
  exact zg_ret zd_21 rfl rfl hF
set_option maxRecDepth 100000 in
set_option maxHeartbeats 400000 in
theorem f_Course_powerFrom_50_t {x : zm_X} {d : Nat} (p1 : Int32) (p2 : Int32) (h : zm_H) {Q : Option Value → zm_H → Prop} (hs : zSh zT0 h) (ho : f_Course_powerFrom_50_ok p1 p2 h) (hF : Q (some (.int (f_Course_powerFrom_50 p1 p2 h))) h) : zg x (d + 2) 20 0 [some (.ref 50), some (.int p1), some (.int p2)] [] h Q := by
  unfold f_Course_powerFrom_50 at hF
  unfold f_Course_powerFrom_50_ok at ho
  refine zg_blk zd_20 4 hs (rfl : zb x zT0 zc_20 4 (0, [some (.ref 50), some (.int p1), some (.int p2)], [], h) = some (5, [some (.ref 50), some (.int p1), some (.int p2)], [.int p2, .ref 50, .int 100, .int p1], h)) (fun hs => ?_)
  have hob := ho
  refine zg_call hs zd_20 rfl rfl rfl rfl (as := [.ref 50, .int p2]) (rest := [.int 100, .int p1]) (en := [some (.ref 50), some (.int p2)]) rfl rfl rfl rfl rfl ?_
  refine f_Course_leak_50_t p2 h hs hob ?_
  show zg x (d + 2) 20 8 [some (.ref 50), some (.int p1), some (.int p2)] [.int (f_Course_leak_50 p2 h), .int 100, .int p1] h Q
  refine zg_blk zd_20 4 hs (rfl : zb x zT0 zc_20 4 (8, [some (.ref 50), some (.int p1), some (.int p2)], [.int (f_Course_leak_50 p2 h), .int 100, .int p1], h) = some (13, [some (.ref 50), some (.int p1), some (.int p2)], [.int ((p1 * (100 - (f_Course_leak_50 p2 h))) / 100)], h)) (fun hs => ?_)
  exact zg_ret zd_20 rfl rfl hF
set_option maxRecDepth 100000 in
set_option maxHeartbeats 400000 in
theorem f_Course_takeWaves_50_l25_b_t {x : zm_X} {d : Nat} (v1 : Int32) (v3 : Int32) (h : zm_H) (z2 : Int32) {Q : Option Value → zm_H → Prop} {FN : Nat × Int32 × zm_H → Prop} (hs : zSh zT0 h) (ho : f_Course_takeWaves_50_l25_b_ok v1 v3 h) (hF : FN (f_Course_takeWaves_50_l25_b v1 v3 h)) (hl0 : ∀ (v3 : Int32) (h : zm_H) (z2 : Int32), zSh zT0 h → FN (0, v3, h) → zg x (d + 4) 18 25 [some (.ref 50), some (.int v1), some (.int z2), some (.int v3)] [] h Q) (hl1 : ∀ (v3 : Int32) (h : zm_H) (z2 : Int32) (o3 : Option Value), zSh zT0 h → FN (1, v3, h) → zg x (d + 4) 18 118 [some (.ref 50), some (.int v1), some (.int z2), o3] [] h Q) : zg x (d + 4) 18 25 [some (.ref 50), some (.int v1), some (.int z2), some (.int v3)] [] h Q := by
  unfold f_Course_takeWaves_50_l25_b at hF
  unfold f_Course_takeWaves_50_l25_b_ok at ho
  refine zg_blk zd_18 4 hs (rfl : zb x zT0 zc_18 4 (25, [some (.ref 50), some (.int v1), some (.int z2), some (.int v3)], [], h) = some (33, [some (.ref 50), some (.int v1), some (.int z2), some (.int v3)], [.int (zf h 23 0), .int v3], h)) (fun hs => ?_)
  refine zg_i_ge zd_18 rfl (fun (hc : ((zf h 23 0) ≤ v3)) => ?_) (fun (hc : ¬ ((zf h 23 0) ≤ v3)) => ?_)
  · have ho := ho.1 hc
    rw [if_pos hc] at hF
    exact hl1 v3 h z2 (some (.int v3)) hs hF
  · have ho := ho.2 hc
    rw [if_neg hc] at hF
    refine zg_blk zd_18 8 hs (rfl : zb x zT0 zc_18 8 (36, [some (.ref 50), some (.int v1), some (.int z2), some (.int v3)], [], h) = some (50, [some (.ref 50), some (.int v1), some (.int z2), some (.int v3)], [.int v3, .ref 34, .ref 50, .int v3, .ref 54], h)) (fun hs => ?_)
    obtain ⟨hob, ho⟩ := ho
    refine zg_ial hs zd_18 rfl rfl hob ?_
    refine zg_blk zd_18 1 hs (rfl : zb x zT0 zc_18 1 (51, [some (.ref 50), some (.int v1), some (.int z2), some (.int v3)], [.int (zr h 34 v3), .ref 50, .int v3, .ref 54], h) = some (52, [some (.ref 50), some (.int v1), some (.int z2), some (.int v3)], [.int v3, .int (zr h 34 v3), .ref 50, .int v3, .ref 54], h)) (fun hs => ?_)
    obtain ⟨hob, ho⟩ := ho
    refine zg_call hs zd_18 rfl rfl rfl rfl (as := [.ref 50, .int (zr h 34 v3), .int v3]) (rest := [.int v3, .ref 54]) (en := [some (.ref 50), some (.int (zr h 34 v3)), some (.int v3)]) rfl rfl rfl rfl rfl ?_
    refine f_Course_powerFrom_50_t (zr h 34 v3) v3 h hs hob ?_
    show zg x (d + 4) 18 55 [some (.ref 50), some (.int v1), some (.int z2), some (.int v3)] [.int (f_Course_powerFrom_50 (zr h 34 v3) v3 h), .int v3, .ref 54] h Q
    obtain ⟨hob, ho⟩ := ho
    refine zg_ias hs zd_18 rfl rfl hob (fun hs => ?_)
    refine zg_blk zd_18 4 hs (rfl : zb x zT0 zc_18 4 (56, [some (.ref 50), some (.int v1), some (.int z2), some (.int v3)], [], (zs h 54 v3 (f_Course_powerFrom_50 (zr h 34 v3) v3 h))) = some (62, [some (.ref 50), some (.int v1), some (.int z2), some (.int v3)], [.int v3, .ref 53, .int v3, .ref 53], (zs h 54 v3 (f_Course_powerFrom_50 (zr h 34 v3) v3 h)))) (fun hs => ?_)
    obtain ⟨hob, ho⟩ := ho
    refine zg_ial hs zd_18 rfl rfl hob ?_
    refine zg_blk zd_18 4 hs (rfl : zb x zT0 zc_18 4 (63, [some (.ref 50), some (.int v1), some (.int z2), some (.int v3)], [.int (zr h 53 v3), .int v3, .ref 53], (zs h 54 v3 (f_Course_powerFrom_50 (zr h 34 v3) v3 h))) = some (71, [some (.ref 50), some (.int v1), some (.int z2), some (.int v3)], [.int v3, .ref 34, .int (zr h 53 v3), .int v3, .ref 53], (zs h 54 v3 (f_Course_powerFrom_50 (zr h 34 v3) v3 h)))) (fun hs => ?_)
    obtain ⟨hob, ho⟩ := ho
    refine zg_ial hs zd_18 rfl rfl hob ?_
    have K131 : zSh zT0 (zs h 54 v3 (f_Course_powerFrom_50 (zr h 34 v3) v3 h)) → zg x (d + 4) 18 80 [some (.ref 50), some (.int v1), some (.int z2), some (.int v3)] [.int (if (¬ ((zr h 34 v3) ≤ 0)) then (1 : Int32) else 0), .int (zr h 53 v3), .int v3, .ref 53] (zs h 54 v3 (f_Course_powerFrom_50 (zr h 34 v3) v3 h)) Q := fun hs => by
      refine zg_blk zd_18 1 hs (rfl : zb x zT0 zc_18 1 (80, [some (.ref 50), some (.int v1), some (.int z2), some (.int v3)], [.int (if (¬ ((zr h 34 v3) ≤ 0)) then (1 : Int32) else 0), .int (zr h 53 v3), .int v3, .ref 53], (zs h 54 v3 (f_Course_powerFrom_50 (zr h 34 v3) v3 h))) = some (81, [some (.ref 50), some (.int v1), some (.int z2), some (.int v3)], [.int ((zr h 53 v3) + (if (¬ ((zr h 34 v3) ≤ 0)) then (1 : Int32) else 0)), .int v3, .ref 53], (zs h 54 v3 (f_Course_powerFrom_50 (zr h 34 v3) v3 h)))) (fun hs => ?_)
      obtain ⟨hob, ho⟩ := ho
      refine zg_ias hs zd_18 rfl rfl hob (fun hs => ?_)
      refine zg_blk zd_18 4 hs (rfl : zb x zT0 zc_18 4 (82, [some (.ref 50), some (.int v1), some (.int z2), some (.int v3)], [], (zs (zs h 54 v3 (f_Course_powerFrom_50 (zr h 34 v3) v3 h)) 53 v3 ((zr h 53 v3) + (if (¬ ((zr h 34 v3) ≤ 0)) then (1 : Int32) else 0)))) = some (88, [some (.ref 50), some (.int v1), some (.int z2), some (.int v3)], [.int v3, .ref 55, .int v3, .ref 55], (zs (zs h 54 v3 (f_Course_powerFrom_50 (zr h 34 v3) v3 h)) 53 v3 ((zr h 53 v3) + (if (¬ ((zr h 34 v3) ≤ 0)) then (1 : Int32) else 0))))) (fun hs => ?_)
      obtain ⟨hob, ho⟩ := ho
      refine zg_ial hs zd_18 rfl rfl hob ?_
      refine zg_blk zd_18 3 hs (rfl : zb x zT0 zc_18 3 (89, [some (.ref 50), some (.int v1), some (.int z2), some (.int v3)], [.int (zr h 55 v3), .int v3, .ref 55], (zs (zs h 54 v3 (f_Course_powerFrom_50 (zr h 34 v3) v3 h)) 53 v3 ((zr h 53 v3) + (if (¬ ((zr h 34 v3) ≤ 0)) then (1 : Int32) else 0)))) = some (94, [some (.ref 50), some (.int v1), some (.int z2), some (.int v3)], [.int v3, .ref 54, .int (zr h 55 v3), .int v3, .ref 55], (zs (zs h 54 v3 (f_Course_powerFrom_50 (zr h 34 v3) v3 h)) 53 v3 ((zr h 53 v3) + (if (¬ ((zr h 34 v3) ≤ 0)) then (1 : Int32) else 0))))) (fun hs => ?_)
      obtain ⟨hob, ho⟩ := ho
      refine zg_ial hs zd_18 rfl rfl hob ?_
      refine zg_blk zd_18 1 hs (rfl : zb x zT0 zc_18 1 (95, [some (.ref 50), some (.int v1), some (.int z2), some (.int v3)], [.int (zr (zs h 54 v3 (f_Course_powerFrom_50 (zr h 34 v3) v3 h)) 54 v3), .int (zr h 55 v3), .int v3, .ref 55], (zs (zs h 54 v3 (f_Course_powerFrom_50 (zr h 34 v3) v3 h)) 53 v3 ((zr h 53 v3) + (if (¬ ((zr h 34 v3) ≤ 0)) then (1 : Int32) else 0)))) = some (96, [some (.ref 50), some (.int v1), some (.int z2), some (.int v3)], [.int ((zr h 55 v3) + (zr (zs h 54 v3 (f_Course_powerFrom_50 (zr h 34 v3) v3 h)) 54 v3)), .int v3, .ref 55], (zs (zs h 54 v3 (f_Course_powerFrom_50 (zr h 34 v3) v3 h)) 53 v3 ((zr h 53 v3) + (if (¬ ((zr h 34 v3) ≤ 0)) then (1 : Int32) else 0))))) (fun hs => ?_)
      obtain ⟨hob, ho⟩ := ho
      refine zg_ias hs zd_18 rfl rfl hob (fun hs => ?_)
      refine zg_blk zd_18 4 hs (rfl : zb x zT0 zc_18 4 (97, [some (.ref 50), some (.int v1), some (.int z2), some (.int v3)], [], (zs (zs (zs h 54 v3 (f_Course_powerFrom_50 (zr h 34 v3) v3 h)) 53 v3 ((zr h 53 v3) + (if (¬ ((zr h 34 v3) ≤ 0)) then (1 : Int32) else 0))) 55 v3 ((zr h 55 v3) + (zr (zs h 54 v3 (f_Course_powerFrom_50 (zr h 34 v3) v3 h)) 54 v3)))) = some (103, [some (.ref 50), some (.int v1), some (.int z2), some (.int v3)], [.int v1, .ref 60, .int v1, .ref 60], (zs (zs (zs h 54 v3 (f_Course_powerFrom_50 (zr h 34 v3) v3 h)) 53 v3 ((zr h 53 v3) + (if (¬ ((zr h 34 v3) ≤ 0)) then (1 : Int32) else 0))) 55 v3 ((zr h 55 v3) + (zr (zs h 54 v3 (f_Course_powerFrom_50 (zr h 34 v3) v3 h)) 54 v3))))) (fun hs => ?_)
      obtain ⟨hob, ho⟩ := ho
      refine zg_ial hs zd_18 rfl rfl hob ?_
      refine zg_blk zd_18 3 hs (rfl : zb x zT0 zc_18 3 (104, [some (.ref 50), some (.int v1), some (.int z2), some (.int v3)], [.int (zr h 60 v1), .int v1, .ref 60], (zs (zs (zs h 54 v3 (f_Course_powerFrom_50 (zr h 34 v3) v3 h)) 53 v3 ((zr h 53 v3) + (if (¬ ((zr h 34 v3) ≤ 0)) then (1 : Int32) else 0))) 55 v3 ((zr h 55 v3) + (zr (zs h 54 v3 (f_Course_powerFrom_50 (zr h 34 v3) v3 h)) 54 v3)))) = some (109, [some (.ref 50), some (.int v1), some (.int z2), some (.int v3)], [.int v3, .ref 54, .int (zr h 60 v1), .int v1, .ref 60], (zs (zs (zs h 54 v3 (f_Course_powerFrom_50 (zr h 34 v3) v3 h)) 53 v3 ((zr h 53 v3) + (if (¬ ((zr h 34 v3) ≤ 0)) then (1 : Int32) else 0))) 55 v3 ((zr h 55 v3) + (zr (zs h 54 v3 (f_Course_powerFrom_50 (zr h 34 v3) v3 h)) 54 v3))))) (fun hs => ?_)
      obtain ⟨hob, ho⟩ := ho
      refine zg_ial hs zd_18 rfl rfl hob ?_
      refine zg_blk zd_18 1 hs (rfl : zb x zT0 zc_18 1 (110, [some (.ref 50), some (.int v1), some (.int z2), some (.int v3)], [.int (zr (zs h 54 v3 (f_Course_powerFrom_50 (zr h 34 v3) v3 h)) 54 v3), .int (zr h 60 v1), .int v1, .ref 60], (zs (zs (zs h 54 v3 (f_Course_powerFrom_50 (zr h 34 v3) v3 h)) 53 v3 ((zr h 53 v3) + (if (¬ ((zr h 34 v3) ≤ 0)) then (1 : Int32) else 0))) 55 v3 ((zr h 55 v3) + (zr (zs h 54 v3 (f_Course_powerFrom_50 (zr h 34 v3) v3 h)) 54 v3)))) = some (111, [some (.ref 50), some (.int v1), some (.int z2), some (.int v3)], [.int ((zr h 60 v1) + (zr (zs h 54 v3 (f_Course_powerFrom_50 (zr h 34 v3) v3 h)) 54 v3)), .int v1, .ref 60], (zs (zs (zs h 54 v3 (f_Course_powerFrom_50 (zr h 34 v3) v3 h)) 53 v3 ((zr h 53 v3) + (if (¬ ((zr h 34 v3) ≤ 0)) then (1 : Int32) else 0))) 55 v3 ((zr h 55 v3) + (zr (zs h 54 v3 (f_Course_powerFrom_50 (zr h 34 v3) v3 h)) 54 v3))))) (fun hs => ?_)
      have hob := ho
      refine zg_ias hs zd_18 rfl rfl hob (fun hs => ?_)
      refine zg_blk zd_18 2 hs (rfl : zb x zT0 zc_18 2 (112, [some (.ref 50), some (.int v1), some (.int z2), some (.int v3)], [], (zs (zs (zs (zs h 54 v3 (f_Course_powerFrom_50 (zr h 34 v3) v3 h)) 53 v3 ((zr h 53 v3) + (if (¬ ((zr h 34 v3) ≤ 0)) then (1 : Int32) else 0))) 55 v3 ((zr h 55 v3) + (zr (zs h 54 v3 (f_Course_powerFrom_50 (zr h 34 v3) v3 h)) 54 v3))) 60 v1 ((zr h 60 v1) + (zr (zs h 54 v3 (f_Course_powerFrom_50 (zr h 34 v3) v3 h)) 54 v3)))) = some (25, [some (.ref 50), some (.int v1), some (.int z2), some (.int (v3 + 1))], [], (zs (zs (zs (zs h 54 v3 (f_Course_powerFrom_50 (zr h 34 v3) v3 h)) 53 v3 ((zr h 53 v3) + (if (¬ ((zr h 34 v3) ≤ 0)) then (1 : Int32) else 0))) 55 v3 ((zr h 55 v3) + (zr (zs h 54 v3 (f_Course_powerFrom_50 (zr h 34 v3) v3 h)) 54 v3))) 60 v1 ((zr h 60 v1) + (zr (zs h 54 v3 (f_Course_powerFrom_50 (zr h 34 v3) v3 h)) 54 v3))))) (fun hs => ?_)
      exact hl0 (v3 + 1) (zs (zs (zs (zs h 54 v3 (f_Course_powerFrom_50 (zr h 34 v3) v3 h)) 53 v3 ((zr h 53 v3) + (if (¬ ((zr h 34 v3) ≤ 0)) then (1 : Int32) else 0))) 55 v3 ((zr h 55 v3) + (zr (zs h 54 v3 (f_Course_powerFrom_50 (zr h 34 v3) v3 h)) 54 v3))) 60 v1 ((zr h 60 v1) + (zr (zs h 54 v3 (f_Course_powerFrom_50 (zr h 34 v3) v3 h)) 54 v3))) z2 hs hF
    refine zg_f_le zd_18 rfl (fun (hc : ((zr h 34 v3) ≤ 0)) => ?_) (fun (hc : ¬ ((zr h 34 v3) ≤ 0)) => ?_)
    · skip
      rw [show ((if (¬ ((zr h 34 v3) ≤ 0)) then (1 : Int32) else 0) : Int32) = 0 from zb_not_t hc] at K131
      refine zg_blk zd_18 1 hs (rfl : zb x zT0 zc_18 1 (79, [some (.ref 50), some (.int v1), some (.int z2), some (.int v3)], [.int (zr h 53 v3), .int v3, .ref 53], (zs h 54 v3 (f_Course_powerFrom_50 (zr h 34 v3) v3 h))) = some (80, [some (.ref 50), some (.int v1), some (.int z2), some (.int v3)], [.int 0, .int (zr h 53 v3), .int v3, .ref 53], (zs h 54 v3 (f_Course_powerFrom_50 (zr h 34 v3) v3 h)))) (fun hs => ?_)
      exact K131 hs
    · skip
      rw [show ((if (¬ ((zr h 34 v3) ≤ 0)) then (1 : Int32) else 0) : Int32) = 1 from zb_not_f hc] at K131
      refine zg_blk zd_18 2 hs (rfl : zb x zT0 zc_18 2 (75, [some (.ref 50), some (.int v1), some (.int z2), some (.int v3)], [.int (zr h 53 v3), .int v3, .ref 53], (zs h 54 v3 (f_Course_powerFrom_50 (zr h 34 v3) v3 h))) = some (80, [some (.ref 50), some (.int v1), some (.int z2), some (.int v3)], [.int 1, .int (zr h 53 v3), .int v3, .ref 53], (zs h 54 v3 (f_Course_powerFrom_50 (zr h 34 v3) v3 h)))) (fun hs => ?_)
      exact K131 hs
theorem f_Course_takeWaves_50_l25_t {x : zm_X} {d : Nat} (v1 : Int32) {Q : Option Value → zm_H → Prop} (G : Nat × Int32 × zm_H → Prop) (hx1 : ∀ (v3 : Int32) (h : zm_H) (z2 : Int32) (o3 : Option Value), zSh zT0 h → G (1, v3, h) → zg x (d + 4) 18 118 [some (.ref 50), some (.int v1), some (.int z2), o3] [] h Q) : ∀ (n : Nat) (v3 : Int32) (h : zm_H) (z2 : Int32), zSh zT0 h → f_Course_takeWaves_50_l25_ok v1 n (v3, h) → G (f_Course_takeWaves_50_l25 v1 n (v3, h)) → zg x (d + 4) 18 25 [some (.ref 50), some (.int v1), some (.int z2), some (.int v3)] [] h Q := by
  intro n
  induction n with
  | zero => intro v3 h z2 hs ho hG; exact ho.elim
  | succ n ih =>
    intro v3 h z2 hs ho hG
    refine f_Course_takeWaves_50_l25_b_t (FN := fun r => (r.1 = 0 → f_Course_takeWaves_50_l25_ok v1 n r.2) ∧ G (if r.1 = 0 then f_Course_takeWaves_50_l25 v1 n r.2 else r)) v1 v3 h z2 hs ho.1 ⟨ho.2, hG⟩ ?_ ?_
    · intro v3 h z2 hs hF
      exact ih v3 h z2 hs (hF.1 rfl) hF.2
    · intro v3 h z2 o3 hs hF
      exact hx1 v3 h z2 o3 hs hF.2

set_option maxRecDepth 100000 in
set_option maxHeartbeats 400000 in
theorem f_Course_takeWaves_50_k118_t {x : zm_X} {d : Nat} (v1 : Int32) (h : zm_H) (z2 : Int32) (o3 : Option Value) {Q : Option Value → zm_H → Prop} (hs : zSh zT0 h) (ho : f_Course_takeWaves_50_k118_ok v1 h) (hF : (zSh zT0 (f_Course_takeWaves_50_k118 v1 h) → Q none (f_Course_takeWaves_50_k118 v1 h))) : zg x (d + 4) 18 118 [some (.ref 50), some (.int v1), some (.int z2), o3] [] h Q := by
  unfold f_Course_takeWaves_50_k118 at hF
  unfold f_Course_takeWaves_50_k118_ok at ho
  refine zg_blk zd_18 10 hs (rfl : zb x zT0 zc_18 10 (118, [some (.ref 50), some (.int v1), some (.int z2), o3], [], h) = some (136, [some (.ref 50), some (.int v1), some (.int z2), o3], [.int 10, .int (v1 * 10), .ref 62, .int 0, .ref 35], h)) (fun hs => ?_)
  have hob := ho
  refine zg_x zd_18 rfl rfl rfl rfl (as := [.ref 35, .int 0, .ref 62, .int (v1 * 10), .int 10]) (rest := []) (w := none) rfl rfl (zx_cp hs rfl rfl hob) ?_
  have hs : zSh zT0 (zcp h 35 0 62 (v1 * 10) 10) := zx_cps hs
  exact zg_ret zd_18 rfl rfl (hF hs)
set_option maxRecDepth 100000 in
set_option maxHeartbeats 400000 in
theorem f_Course_takeWaves_50_k16_t {x : zm_X} {d : Nat} (v1 : Int32) (h : zm_H) (z2 : Int32) (o3 : Option Value) {Q : Option Value → zm_H → Prop} (hs : zSh zT0 h) (ho : f_Course_takeWaves_50_k16_ok v1 h) (hF : (zSh zT0 (f_Course_takeWaves_50_k16 v1 h) → Q none (f_Course_takeWaves_50_k16 v1 h))) : zg x (d + 4) 18 16 [some (.ref 50), some (.int v1), some (.int z2), o3] [] h Q := by
  unfold f_Course_takeWaves_50_k16 at hF
  unfold f_Course_takeWaves_50_k16_ok at ho
  refine zg_blk zd_18 4 hs (rfl : zb x zT0 zc_18 4 (16, [some (.ref 50), some (.int v1), some (.int z2), o3], [], h) = some (22, [some (.ref 50), some (.int v1), some (.int z2), o3], [.int 0, .int v1, .ref 60], h)) (fun hs => ?_)
  obtain ⟨hob, ho⟩ := ho
  refine zg_ias hs zd_18 rfl rfl hob (fun hs => ?_)
  refine zg_blk zd_18 2 hs (rfl : zb x zT0 zc_18 2 (23, [some (.ref 50), some (.int v1), some (.int z2), o3], [], (zs h 60 v1 0)) = some (25, [some (.ref 50), some (.int v1), some (.int z2), some (.int 0)], [], (zs h 60 v1 0))) (fun hs => ?_)
  refine f_Course_takeWaves_50_l25_t v1 (fun r => f_Course_takeWaves_50_a25_ok v1 r ∧ (zSh zT0 (f_Course_takeWaves_50_a25 v1 r) → Q none (f_Course_takeWaves_50_a25 v1 r))) ?_ zF 0 (zs h 60 v1 0) z2 hs ho.1 ⟨ho.2, hF⟩
  · intro v3_ h_ z2_ o3_ hs hG
    have ho : (f_Course_takeWaves_50_k118_ok v1 h_) := hG.1
    have hF : (zSh zT0 ((f_Course_takeWaves_50_k118 v1 h_)) → Q none ((f_Course_takeWaves_50_k118 v1 h_))) := hG.2
    exact f_Course_takeWaves_50_k118_t v1 h_ z2_ (o3_) hs ho hF
set_option maxRecDepth 100000 in
set_option maxHeartbeats 400000 in
theorem f_Course_takeWaves_50_k8_t {x : zm_X} {d : Nat} (v1 : Int32) (v2 : Int32) (h : zm_H) (o3 : Option Value) {Q : Option Value → zm_H → Prop} (hs : zSh zT0 h) (ho : f_Course_takeWaves_50_k8_ok v1 v2 h) (hF : (zSh zT0 (f_Course_takeWaves_50_k8 v1 v2 h) → Q none (f_Course_takeWaves_50_k8 v1 v2 h))) : zg x (d + 4) 18 8 [some (.ref 50), some (.int v1), some (.int v2), o3] [] h Q := by
  unfold f_Course_takeWaves_50_k8 at hF
  unfold f_Course_takeWaves_50_k8_ok at ho
  refine zg_blk zd_18 3 hs (rfl : zb x zT0 zc_18 3 (8, [some (.ref 50), some (.int v1), some (.int v2), o3], [], h) = some (13, [some (.ref 50), some (.int v1), some (.int v2), o3], [.int v2, .ref 32], h)) (fun hs => ?_)
  obtain ⟨hob, ho⟩ := ho
  refine zg_call hs zd_18 rfl rfl rfl rfl (as := [.ref 32, .int v2]) (rest := []) (en := [some (.ref 32), some (.int v2), none, none, none, none]) rfl rfl rfl rfl rfl ?_
  refine f_Waves_run_t v2 h hs hob (fun hs => ?_)
  show zg x (d + 4) 18 16 [some (.ref 50), some (.int v1), some (.int v2), o3] [] (f_Waves_run v2 h) Q
  exact f_Course_takeWaves_50_k16_t v1 (f_Waves_run v2 h) v2 (o3) hs ho hF
set_option maxRecDepth 100000 in
set_option maxHeartbeats 400000 in
theorem f_Course_takeWaves_50_t {x : zm_X} {d : Nat} (p1 : Int32) (p2 : Int32) (h : zm_H) {Q : Option Value → zm_H → Prop} (hs : zSh zT0 h) (ho : f_Course_takeWaves_50_ok p1 p2 h) (hF : (zSh zT0 (f_Course_takeWaves_50 p1 p2 h) → Q none (f_Course_takeWaves_50 p1 p2 h))) : zg x (d + 4) 18 0 [some (.ref 50), some (.int p1), some (.int p2), none] [] h Q := by
  unfold f_Course_takeWaves_50 at hF
  unfold f_Course_takeWaves_50_ok at ho
  refine zg_blk zd_18 3 hs (rfl : zb x zT0 zc_18 3 (0, [some (.ref 50), some (.int p1), some (.int p2), none], [], h) = some (5, [some (.ref 50), some (.int p1), some (.int p2), none], [.ref 32, .ref 50], h)) (fun hs => ?_)
  obtain ⟨hob, ho⟩ := ho
  refine zg_call hs zd_18 rfl rfl rfl rfl (as := [.ref 50, .ref 32]) (rest := []) (en := [some (.ref 50), some (.ref 32), none]) rfl rfl rfl rfl rfl ?_
  refine f_Course_putInto_50_t  h hs hob (fun hs => ?_)
  show zg x (d + 4) 18 8 [some (.ref 50), some (.int p1), some (.int p2), none] [] (f_Course_putInto_50 h) Q
  exact f_Course_takeWaves_50_k8_t p1 p2 (f_Course_putInto_50 h) (none) hs ho hF
set_option maxRecDepth 100000 in
set_option maxHeartbeats 400000 in
theorem f_Course_strainChains_50_l2_k103_t {x : zm_X} {d : Nat} (v1 : Int32) (v2 : Int32) (v3 : Int32) (h : zm_H) (o4 : Option Value) {Q : Option Value → zm_H → Prop} {FN : Nat × Int32 × zm_H → Prop} (hs : zSh zT0 h) (ho : f_Course_strainChains_50_l2_k103_ok v1 v2 v3 h) (hF : FN (f_Course_strainChains_50_l2_k103 v1 v2 v3 h)) (hl0 : ∀ (v3 : Int32) (h : zm_H) (o4 : Option Value), zSh zT0 h → FN (0, v3, h) → zg x (d + 4) 22 2 [some (.ref 50), some (.int v1), some (.int v2), some (.int v3), o4] [] h Q) (hl1 : ∀ (v3 : Int32) (h : zm_H) (o3 : Option Value) (o4 : Option Value), zSh zT0 h → FN (1, v3, h) → zg x (d + 4) 22 109 [some (.ref 50), some (.int v1), some (.int v2), o3, o4] [] h Q) : zg x (d + 4) 22 103 [some (.ref 50), some (.int v1), some (.int v2), some (.int v3), o4] [] h Q := by
  unfold f_Course_strainChains_50_l2_k103 at hF
  unfold f_Course_strainChains_50_l2_k103_ok at ho
  refine zg_blk zd_22 2 hs (rfl : zb x zT0 zc_22 2 (103, [some (.ref 50), some (.int v1), some (.int v2), some (.int v3), o4], [], h) = some (2, [some (.ref 50), some (.int v1), some (.int v2), some (.int (v3 + 1)), o4], [], h)) (fun hs => ?_)
  exact hl0 (v3 + 1) h (o4) hs hF
set_option maxRecDepth 100000 in
set_option maxHeartbeats 400000 in
theorem f_Course_weight_50_t {x : zm_X} {d : Nat} (p1 : Int32) (p2 : Int32) (p3 : Int32) (h : zm_H) {Q : Option Value → zm_H → Prop} (hs : zSh zT0 h) (ho : f_Course_weight_50_ok p1 p2 p3 h) (hF : Q (some (.int (f_Course_weight_50 p1 p2 p3 h))) h) : zg x (d + 2) 24 0 [some (.ref 50), some (.int p1), some (.int p2), some (.int p3)] [] h Q := by
  unfold f_Course_weight_50 at hF
  unfold f_Course_weight_50_ok at ho
  refine zg_blk zd_24 6 hs (rfl : zb x zT0 zc_24 6 (0, [some (.ref 50), some (.int p1), some (.int p2), some (.int p3)], [], h) = some (6, [some (.ref 50), some (.int p1), some (.int p2), some (.int p3)], [.int ((p1 * 3) + p2), .ref 50], h)) (fun hs => ?_)
  obtain ⟨hob, ho⟩ := ho
  refine zg_call hs zd_24 rfl rfl rfl rfl (as := [.ref 50, .int ((p1 * 3) + p2)]) (rest := []) (en := [some (.ref 50), some (.int ((p1 * 3) + p2))]) rfl rfl rfl rfl rfl ?_
  refine f_Course_holds_50_t ((p1 * 3) + p2) h hs hob ?_
  show zg x (d + 2) 24 9 [some (.ref 50), some (.int p1), some (.int p2), some (.int p3)] [.int (f_Course_holds_50 ((p1 * 3) + p2) h)] h Q
  have hom := ho
  have K132 : zSh zT0 h → zg x (d + 2) 24 27 [some (.ref 50), some (.int p1), some (.int p2), some (.int p3)] [.int (if ((f_Course_holds_50 ((p1 * 3) + p2) h) = 0) then (0 : Int32) else (zm_wt (((p3 + 1) * 3) + p2).toNatClampNeg))] h Q := fun hs => by
    exact zg_ret zd_24 rfl rfl hF
  refine zg_f_eq zd_24 rfl (fun (hc : ((f_Course_holds_50 ((p1 * 3) + p2) h) = 0)) => ?_) (fun (hc : ¬ ((f_Course_holds_50 ((p1 * 3) + p2) h) = 0)) => ?_)
  · have ho := hom.1 hc
    rw [show ((if ((f_Course_holds_50 ((p1 * 3) + p2) h) = 0) then (0 : Int32) else (zm_wt (((p3 + 1) * 3) + p2).toNatClampNeg)) : Int32) = 0 from if_pos hc] at K132
    refine zg_blk zd_24 1 hs (rfl : zb x zT0 zc_24 1 (26, [some (.ref 50), some (.int p1), some (.int p2), some (.int p3)], [], h) = some (27, [some (.ref 50), some (.int p1), some (.int p2), some (.int p3)], [.int 0], h)) (fun hs => ?_)
    exact K132 hs
  · have ho := hom.2 hc
    rw [show ((if ((f_Course_holds_50 ((p1 * 3) + p2) h) = 0) then (0 : Int32) else (zm_wt (((p3 + 1) * 3) + p2).toNatClampNeg)) : Int32) = (zm_wt (((p3 + 1) * 3) + p2).toNatClampNeg) from if_neg hc] at K132
    refine zg_blk zd_24 8 hs (rfl : zb x zT0 zc_24 8 (12, [some (.ref 50), some (.int p1), some (.int p2), some (.int p3)], [], h) = some (22, [some (.ref 50), some (.int p1), some (.int p2), some (.int p3)], [.int (((p3 + 1) * 3) + p2), .ref 1000000], h)) (fun hs => ?_)
    have hob := ho
    refine zg_wts hs zd_24 rfl hob ?_
    refine zg_blk zd_24 1 hs (rfl : zb x zT0 zc_24 1 (23, [some (.ref 50), some (.int p1), some (.int p2), some (.int p3)], [.int (zm_wt (((p3 + 1) * 3) + p2).toNatClampNeg)], h) = some (27, [some (.ref 50), some (.int p1), some (.int p2), some (.int p3)], [.int (zm_wt (((p3 + 1) * 3) + p2).toNatClampNeg)], h)) (fun hs => ?_)
    exact K132 hs
set_option maxRecDepth 100000 in
set_option maxHeartbeats 400000 in
theorem f_Course_shareLoad_50_l6_b_t {x : zm_X} {d : Nat} (v1 : Int32) (v2 : Int32) (v3 : Int32) (v4 : Int32) (v5 : Int32) (h : zm_H) {Q : Option Value → zm_H → Prop} {FN : Nat × Int32 × Int32 → Prop} (hs : zSh zT0 h) (ho : f_Course_shareLoad_50_l6_b_ok v1 v2 v3 v4 v5 h) (hF : FN (f_Course_shareLoad_50_l6_b v1 v2 v3 v4 v5 h)) (hl0 : ∀ (v4 : Int32) (v5 : Int32), zSh zT0 h → FN (0, v4, v5) → zg x (d + 3) 23 6 [some (.ref 50), some (.int v1), some (.int v2), some (.int v3), some (.int v4), some (.int v5)] [] h Q) (hl1 : ∀ (v4 : Int32) (v5 : Int32) (o5 : Option Value), zSh zT0 h → FN (1, v4, v5) → zg x (d + 3) 23 31 [some (.ref 50), some (.int v1), some (.int v2), some (.int v3), some (.int v4), o5] [] h Q) : zg x (d + 3) 23 6 [some (.ref 50), some (.int v1), some (.int v2), some (.int v3), some (.int v4), some (.int v5)] [] h Q := by
  unfold f_Course_shareLoad_50_l6_b at hF
  unfold f_Course_shareLoad_50_l6_b_ok at ho
  refine zg_blk zd_23 2 hs (rfl : zb x zT0 zc_23 2 (6, [some (.ref 50), some (.int v1), some (.int v2), some (.int v3), some (.int v4), some (.int v5)], [], h) = some (9, [some (.ref 50), some (.int v1), some (.int v2), some (.int v3), some (.int v4), some (.int v5)], [.int 3, .int v5], h)) (fun hs => ?_)
  refine zg_i_ge zd_23 rfl (fun (hc : (3 ≤ v5)) => ?_) (fun (hc : ¬ (3 ≤ v5)) => ?_)
  · have ho := ho.1 hc
    rw [if_pos hc] at hF
    exact hl1 v4 v5 (some (.int v5)) hs hF
  · have ho := ho.2 hc
    rw [if_neg hc] at hF
    refine zg_blk zd_23 5 hs (rfl : zb x zT0 zc_23 5 (12, [some (.ref 50), some (.int v1), some (.int v2), some (.int v3), some (.int v4), some (.int v5)], [], h) = some (19, [some (.ref 50), some (.int v1), some (.int v2), some (.int v3), some (.int v4), some (.int v5)], [.int v3, .int v5, .int v1, .ref 50, .int v4], h)) (fun hs => ?_)
    have hob := ho
    refine zg_call hs zd_23 rfl rfl rfl rfl (as := [.ref 50, .int v1, .int v5, .int v3]) (rest := [.int v4]) (en := [some (.ref 50), some (.int v1), some (.int v5), some (.int v3)]) rfl rfl rfl rfl rfl ?_
    refine f_Course_weight_50_t v1 v5 v3 h hs hob ?_
    show zg x (d + 3) 23 22 [some (.ref 50), some (.int v1), some (.int v2), some (.int v3), some (.int v4), some (.int v5)] [.int (f_Course_weight_50 v1 v5 v3 h), .int v4] h Q
    refine zg_blk zd_23 4 hs (rfl : zb x zT0 zc_23 4 (22, [some (.ref 50), some (.int v1), some (.int v2), some (.int v3), some (.int v4), some (.int v5)], [.int (f_Course_weight_50 v1 v5 v3 h), .int v4], h) = some (6, [some (.ref 50), some (.int v1), some (.int v2), some (.int v3), some (.int (v4 + (f_Course_weight_50 v1 v5 v3 h))), some (.int (v5 + 1))], [], h)) (fun hs => ?_)
    exact hl0 (v4 + (f_Course_weight_50 v1 v5 v3 h)) (v5 + 1) hs hF
theorem f_Course_shareLoad_50_l6_t {x : zm_X} {d : Nat} (v1 : Int32) (v2 : Int32) (v3 : Int32) (h : zm_H) {Q : Option Value → zm_H → Prop} (G : Nat × Int32 × Int32 → Prop) (hx1 : ∀ (v4 : Int32) (v5 : Int32) (o5 : Option Value), zSh zT0 h → G (1, v4, v5) → zg x (d + 3) 23 31 [some (.ref 50), some (.int v1), some (.int v2), some (.int v3), some (.int v4), o5] [] h Q) : ∀ (n : Nat) (v4 : Int32) (v5 : Int32), zSh zT0 h → f_Course_shareLoad_50_l6_ok v1 v2 v3 h n (v4, v5) → G (f_Course_shareLoad_50_l6 v1 v2 v3 h n (v4, v5)) → zg x (d + 3) 23 6 [some (.ref 50), some (.int v1), some (.int v2), some (.int v3), some (.int v4), some (.int v5)] [] h Q := by
  intro n
  induction n with
  | zero => intro v4 v5 hs ho hG; exact ho.elim
  | succ n ih =>
    intro v4 v5 hs ho hG
    refine f_Course_shareLoad_50_l6_b_t (FN := fun r => (r.1 = 0 → f_Course_shareLoad_50_l6_ok v1 v2 v3 h n r.2) ∧ G (if r.1 = 0 then f_Course_shareLoad_50_l6 v1 v2 v3 h n r.2 else r)) v1 v2 v3 v4 v5 h hs ho.1 ⟨ho.2, hG⟩ ?_ ?_
    · intro v4 v5 hs hF
      exact ih v4 v5 hs (hF.1 rfl) hF.2
    · intro v4 v5 o5 hs hF
      exact hx1 v4 v5 o5 hs hF.2

set_option maxRecDepth 100000 in
set_option maxHeartbeats 400000 in
theorem f_Course_shareLoad_50_l34_b_t {x : zm_X} {d : Nat} (v1 : Int32) (v2 : Int32) (v3 : Int32) (v4 : Int32) (v5 : Int32) (h : zm_H) {Q : Option Value → zm_H → Prop} {FN : Nat × Int32 × zm_H → Prop} (hs : zSh zT0 h) (ho : f_Course_shareLoad_50_l34_b_ok v1 v2 v3 v4 v5 h) (hF : FN (f_Course_shareLoad_50_l34_b v1 v2 v3 v4 v5 h)) (hl0 : ∀ (v5 : Int32) (h : zm_H), zSh zT0 h → FN (0, v5, h) → zg x (d + 3) 23 34 [some (.ref 50), some (.int v1), some (.int v2), some (.int v3), some (.int v4), some (.int v5)] [] h Q) (hl1 : ∀ (v5 : Int32) (h : zm_H) (o5 : Option Value), zSh zT0 h → FN (1, v5, h) → zg x (d + 3) 23 75 [some (.ref 50), some (.int v1), some (.int v2), some (.int v3), some (.int v4), o5] [] h Q) : zg x (d + 3) 23 34 [some (.ref 50), some (.int v1), some (.int v2), some (.int v3), some (.int v4), some (.int v5)] [] h Q := by
  unfold f_Course_shareLoad_50_l34_b at hF
  unfold f_Course_shareLoad_50_l34_b_ok at ho
  refine zg_blk zd_23 2 hs (rfl : zb x zT0 zc_23 2 (34, [some (.ref 50), some (.int v1), some (.int v2), some (.int v3), some (.int v4), some (.int v5)], [], h) = some (37, [some (.ref 50), some (.int v1), some (.int v2), some (.int v3), some (.int v4), some (.int v5)], [.int 3, .int v5], h)) (fun hs => ?_)
  refine zg_i_ge zd_23 rfl (fun (hc : (3 ≤ v5)) => ?_) (fun (hc : ¬ (3 ≤ v5)) => ?_)
  · have ho := ho.1 hc
    rw [if_pos hc] at hF
    exact hl1 v5 h (some (.int v5)) hs hF
  · have ho := ho.2 hc
    rw [if_neg hc] at hF
    refine zg_blk zd_23 4 hs (rfl : zb x zT0 zc_23 4 (40, [some (.ref 50), some (.int v1), some (.int v2), some (.int v3), some (.int v4), some (.int v5)], [], h) = some (48, [some (.ref 50), some (.int v1), some (.int v2), some (.int v3), some (.int v4), some (.int v5)], [.int v4, .int v5, .ref 59], h)) (fun hs => ?_)
    obtain ⟨hom, ho⟩ := ho
    have K133 : zSh zT0 h → zg x (d + 3) 23 68 [some (.ref 50), some (.int v1), some (.int v2), some (.int v3), some (.int v4), some (.int v5)] [.int (if (v4 = 0) then (0 : Int32) else ((v2 * (f_Course_weight_50 v1 v5 v3 h)) / v4)), .int v5, .ref 59] h Q := fun hs => by
      have hob := ho
      refine zg_ias hs zd_23 rfl rfl hob (fun hs => ?_)
      refine zg_blk zd_23 2 hs (rfl : zb x zT0 zc_23 2 (69, [some (.ref 50), some (.int v1), some (.int v2), some (.int v3), some (.int v4), some (.int v5)], [], (zs h 59 v5 (if (v4 = 0) then (0 : Int32) else ((v2 * (f_Course_weight_50 v1 v5 v3 h)) / v4)))) = some (34, [some (.ref 50), some (.int v1), some (.int v2), some (.int v3), some (.int v4), some (.int (v5 + 1))], [], (zs h 59 v5 (if (v4 = 0) then (0 : Int32) else ((v2 * (f_Course_weight_50 v1 v5 v3 h)) / v4))))) (fun hs => ?_)
      exact hl0 (v5 + 1) (zs h 59 v5 (if (v4 = 0) then (0 : Int32) else ((v2 * (f_Course_weight_50 v1 v5 v3 h)) / v4))) hs hF
    refine zg_f_ne zd_23 rfl (fun (hc : ¬ (v4 = 0)) => ?_) (fun (hc : (v4 = 0)) => ?_)
    · have ho := hom.2 hc
      rw [show ((if (v4 = 0) then (0 : Int32) else ((v2 * (f_Course_weight_50 v1 v5 v3 h)) / v4)) : Int32) = ((v2 * (f_Course_weight_50 v1 v5 v3 h)) / v4) from if_neg hc] at K133
      refine zg_blk zd_23 5 hs (rfl : zb x zT0 zc_23 5 (55, [some (.ref 50), some (.int v1), some (.int v2), some (.int v3), some (.int v4), some (.int v5)], [.int v5, .ref 59], h) = some (61, [some (.ref 50), some (.int v1), some (.int v2), some (.int v3), some (.int v4), some (.int v5)], [.int v3, .int v5, .int v1, .ref 50, .int v2, .int v5, .ref 59], h)) (fun hs => ?_)
      obtain ⟨hob, ho⟩ := ho
      refine zg_call hs zd_23 rfl rfl rfl rfl (as := [.ref 50, .int v1, .int v5, .int v3]) (rest := [.int v2, .int v5, .ref 59]) (en := [some (.ref 50), some (.int v1), some (.int v5), some (.int v3)]) rfl rfl rfl rfl rfl ?_
      refine f_Course_weight_50_t v1 v5 v3 h hs hob ?_
      show zg x (d + 3) 23 64 [some (.ref 50), some (.int v1), some (.int v2), some (.int v3), some (.int v4), some (.int v5)] [.int (f_Course_weight_50 v1 v5 v3 h), .int v2, .int v5, .ref 59] h Q
      refine zg_blk zd_23 2 hs (rfl : zb x zT0 zc_23 2 (64, [some (.ref 50), some (.int v1), some (.int v2), some (.int v3), some (.int v4), some (.int v5)], [.int (f_Course_weight_50 v1 v5 v3 h), .int v2, .int v5, .ref 59], h) = some (67, [some (.ref 50), some (.int v1), some (.int v2), some (.int v3), some (.int v4), some (.int v5)], [.int v4, .int (v2 * (f_Course_weight_50 v1 v5 v3 h)), .int v5, .ref 59], h)) (fun hs => ?_)
      have hob := ho
      refine zg_div zd_23 rfl hob ?_
      exact K133 hs
    · have ho := hom.1 hc
      rw [show ((if (v4 = 0) then (0 : Int32) else ((v2 * (f_Course_weight_50 v1 v5 v3 h)) / v4)) : Int32) = 0 from if_pos hc] at K133
      refine zg_blk zd_23 2 hs (rfl : zb x zT0 zc_23 2 (51, [some (.ref 50), some (.int v1), some (.int v2), some (.int v3), some (.int v4), some (.int v5)], [.int v5, .ref 59], h) = some (68, [some (.ref 50), some (.int v1), some (.int v2), some (.int v3), some (.int v4), some (.int v5)], [.int 0, .int v5, .ref 59], h)) (fun hs => ?_)
      exact K133 hs
theorem f_Course_shareLoad_50_l34_t {x : zm_X} {d : Nat} (v1 : Int32) (v2 : Int32) (v3 : Int32) (v4 : Int32) {Q : Option Value → zm_H → Prop} (G : Nat × Int32 × zm_H → Prop) (hx1 : ∀ (v5 : Int32) (h : zm_H) (o5 : Option Value), zSh zT0 h → G (1, v5, h) → zg x (d + 3) 23 75 [some (.ref 50), some (.int v1), some (.int v2), some (.int v3), some (.int v4), o5] [] h Q) : ∀ (n : Nat) (v5 : Int32) (h : zm_H), zSh zT0 h → f_Course_shareLoad_50_l34_ok v1 v2 v3 v4 n (v5, h) → G (f_Course_shareLoad_50_l34 v1 v2 v3 v4 n (v5, h)) → zg x (d + 3) 23 34 [some (.ref 50), some (.int v1), some (.int v2), some (.int v3), some (.int v4), some (.int v5)] [] h Q := by
  intro n
  induction n with
  | zero => intro v5 h hs ho hG; exact ho.elim
  | succ n ih =>
    intro v5 h hs ho hG
    refine f_Course_shareLoad_50_l34_b_t (FN := fun r => (r.1 = 0 → f_Course_shareLoad_50_l34_ok v1 v2 v3 v4 n r.2) ∧ G (if r.1 = 0 then f_Course_shareLoad_50_l34 v1 v2 v3 v4 n r.2 else r)) v1 v2 v3 v4 v5 h hs ho.1 ⟨ho.2, hG⟩ ?_ ?_
    · intro v5 h hs hF
      exact ih v5 h hs (hF.1 rfl) hF.2
    · intro v5 h o5 hs hF
      exact hx1 v5 h o5 hs hF.2

set_option maxRecDepth 100000 in
set_option maxHeartbeats 400000 in
theorem f_Course_shareLoad_50_k75_t {x : zm_X} {d : Nat} (h : zm_H) (o0 : Option Value) (o1 : Option Value) (o2 : Option Value) (z3 : Int32) (o4 : Option Value) (o5 : Option Value) {Q : Option Value → zm_H → Prop} (hs : zSh zT0 h) (ho : f_Course_shareLoad_50_k75_ok h) (hF : (zSh zT0 (f_Course_shareLoad_50_k75 h) → Q none (f_Course_shareLoad_50_k75 h))) : zg x (d + 3) 23 75 [o0, o1, o2, some (.int z3), o4, o5] [] h Q := by
  unfold f_Course_shareLoad_50_k75 at hF
  unfold f_Course_shareLoad_50_k75_ok at ho
  exact zg_ret zd_23 rfl rfl (hF hs)
set_option maxRecDepth 100000 in
set_option maxHeartbeats 400000 in
theorem f_Course_shareLoad_50_k31_t {x : zm_X} {d : Nat} (v1 : Int32) (v2 : Int32) (v3 : Int32) (v4 : Int32) (h : zm_H) (o5 : Option Value) {Q : Option Value → zm_H → Prop} (hs : zSh zT0 h) (ho : f_Course_shareLoad_50_k31_ok v1 v2 v3 v4 h) (hF : (zSh zT0 (f_Course_shareLoad_50_k31 v1 v2 v3 v4 h) → Q none (f_Course_shareLoad_50_k31 v1 v2 v3 v4 h))) : zg x (d + 3) 23 31 [some (.ref 50), some (.int v1), some (.int v2), some (.int v3), some (.int v4), o5] [] h Q := by
  unfold f_Course_shareLoad_50_k31 at hF
  unfold f_Course_shareLoad_50_k31_ok at ho
  refine zg_blk zd_23 2 hs (rfl : zb x zT0 zc_23 2 (31, [some (.ref 50), some (.int v1), some (.int v2), some (.int v3), some (.int v4), o5], [], h) = some (34, [some (.ref 50), some (.int v1), some (.int v2), some (.int v3), some (.int v4), some (.int 0)], [], h)) (fun hs => ?_)
  refine f_Course_shareLoad_50_l34_t v1 v2 v3 v4 (fun r => f_Course_shareLoad_50_a34_ok r ∧ (zSh zT0 (f_Course_shareLoad_50_a34 r) → Q none (f_Course_shareLoad_50_a34 r))) ?_ zF 0 h hs ho.1 ⟨ho.2, hF⟩
  · intro v5_ h_ o5_ hs hG
    have ho : True := trivial
    have hF : (zSh zT0 ((f_Course_shareLoad_50_k75 h_)) → Q none ((f_Course_shareLoad_50_k75 h_))) := hG.2
    exact f_Course_shareLoad_50_k75_t h_ (some (.ref 50)) (some (.int v1)) (some (.int v2)) v3 (some (.int v4)) (o5_) hs trivial hF
set_option maxRecDepth 100000 in
set_option maxHeartbeats 400000 in
theorem f_Course_shareLoad_50_t {x : zm_X} {d : Nat} (p1 : Int32) (p2 : Int32) (p3 : Int32) (h : zm_H) {Q : Option Value → zm_H → Prop} (hs : zSh zT0 h) (ho : f_Course_shareLoad_50_ok p1 p2 p3 h) (hF : (zSh zT0 (f_Course_shareLoad_50 p1 p2 p3 h) → Q none (f_Course_shareLoad_50 p1 p2 p3 h))) : zg x (d + 3) 23 0 [some (.ref 50), some (.int p1), some (.int p2), some (.int p3), none, none] [] h Q := by
  unfold f_Course_shareLoad_50 at hF
  unfold f_Course_shareLoad_50_ok at ho
  refine zg_blk zd_23 4 hs (rfl : zb x zT0 zc_23 4 (0, [some (.ref 50), some (.int p1), some (.int p2), some (.int p3), none, none], [], h) = some (6, [some (.ref 50), some (.int p1), some (.int p2), some (.int p3), some (.int 0), some (.int 0)], [], h)) (fun hs => ?_)
  refine f_Course_shareLoad_50_l6_t p1 p2 p3 h (fun r => f_Course_shareLoad_50_a6_ok p1 p2 p3 r h ∧ (zSh zT0 (f_Course_shareLoad_50_a6 p1 p2 p3 r h) → Q none (f_Course_shareLoad_50_a6 p1 p2 p3 r h))) ?_ zF 0 0 hs ho.1 ⟨ho.2, hF⟩
  · intro v4_ v5_ o5_ hs hG
    have ho : (f_Course_shareLoad_50_k31_ok p1 p2 p3 v4_ h) := hG.1
    have hF : (zSh zT0 ((f_Course_shareLoad_50_k31 p1 p2 p3 v4_ h)) → Q none ((f_Course_shareLoad_50_k31 p1 p2 p3 v4_ h))) := hG.2
    exact f_Course_shareLoad_50_k31_t p1 p2 p3 v4_ h (o5_) hs ho hF
set_option maxRecDepth 100000 in
set_option maxHeartbeats 400000 in
theorem f_Course_strain_50_t {x : zm_X} {d : Nat} (p1 : Int32) (p2 : Int32) (p3 : Int32) (h : zm_H) {Q : Option Value → zm_H → Prop} (hs : zSh zT0 h) (ho : f_Course_strain_50_ok p1 p2 p3 h) (hF : (zSh zT0 (f_Course_strain_50 p1 p2 p3 h) → Q none (f_Course_strain_50 p1 p2 p3 h))) : zg x (d + 2) 25 0 [some (.ref 50), some (.int p1), some (.int p2), some (.int p3)] [] h Q := by
  unfold f_Course_strain_50 at hF
  unfold f_Course_strain_50_ok at ho
  refine zg_blk zd_25 2 hs (rfl : zb x zT0 zc_25 2 (0, [some (.ref 50), some (.int p1), some (.int p2), some (.int p3)], [], h) = some (2, [some (.ref 50), some (.int p1), some (.int p2), some (.int p3)], [.int p1, .ref 50], h)) (fun hs => ?_)
  obtain ⟨hob, ho⟩ := ho
  refine zg_call hs zd_25 rfl rfl rfl rfl (as := [.ref 50, .int p1]) (rest := []) (en := [some (.ref 50), some (.int p1)]) rfl rfl rfl rfl rfl ?_
  refine f_Course_holds_50_t p1 h hs hob ?_
  show zg x (d + 2) 25 5 [some (.ref 50), some (.int p1), some (.int p2), some (.int p3)] [.int (f_Course_holds_50 p1 h)] h Q
  refine zg_f_ne zd_25 rfl (fun (hc : ¬ ((f_Course_holds_50 p1 h) = 0)) => ?_) (fun (hc : ((f_Course_holds_50 p1 h) = 0)) => ?_)
  · have ho := ho.2 hc
    rw [if_neg hc] at hF
    refine zg_blk zd_25 3 hs (rfl : zb x zT0 zc_25 3 (9, [some (.ref 50), some (.int p1), some (.int p2), some (.int p3)], [], h) = some (12, [some (.ref 50), some (.int p1), some (.int p2), some (.int p3)], [.int p1, .ref 50, .int p2], h)) (fun hs => ?_)
    obtain ⟨hob, ho⟩ := ho
    refine zg_call hs zd_25 rfl rfl rfl rfl (as := [.ref 50, .int p1]) (rest := [.int p2]) (en := [some (.ref 50), some (.int p1)]) rfl rfl rfl rfl rfl ?_
    refine f_Course_hold_50_t p1 h hs hob ?_
    show zg x (d + 2) 25 15 [some (.ref 50), some (.int p1), some (.int p2), some (.int p3)] [.int (f_Course_hold_50 p1 h), .int p2] h Q
    have hom := ho
    have K134 : zSh zT0 (if (p2 ≤ (f_Course_hold_50 p1 h)) then (zs h 57 p1 ((zr h 57 p1) + (if 0 < (p2 - 100) then (p2 - 100) else 0))) else (zs h 58 p1 p3)) → zg x (d + 2) 25 45 [some (.ref 50), some (.int p1), some (.int p2), some (.int p3)] [] (if (p2 ≤ (f_Course_hold_50 p1 h)) then (zs h 57 p1 ((zr h 57 p1) + (if 0 < (p2 - 100) then (p2 - 100) else 0))) else (zs h 58 p1 p3)) Q := fun hs => by
      exact zg_ret zd_25 rfl rfl (hF hs)
    refine zg_i_le zd_25 rfl (fun (hc : (p2 ≤ (f_Course_hold_50 p1 h))) => ?_) (fun (hc : ¬ (p2 ≤ (f_Course_hold_50 p1 h))) => ?_)
    · have ho := hom.1 hc
      rw [show (if (p2 ≤ (f_Course_hold_50 p1 h)) then (zs h 57 p1 ((zr h 57 p1) + (if 0 < (p2 - 100) then (p2 - 100) else 0))) else (zs h 58 p1 p3)) = (zs h 57 p1 ((zr h 57 p1) + (if 0 < (p2 - 100) then (p2 - 100) else 0))) from if_pos hc] at K134
      refine zg_blk zd_25 4 hs (rfl : zb x zT0 zc_25 4 (28, [some (.ref 50), some (.int p1), some (.int p2), some (.int p3)], [], h) = some (34, [some (.ref 50), some (.int p1), some (.int p2), some (.int p3)], [.int p1, .ref 57, .int p1, .ref 57], h)) (fun hs => ?_)
      obtain ⟨hob, ho⟩ := ho
      refine zg_ial hs zd_25 rfl rfl hob ?_
      refine zg_blk zd_25 4 hs (rfl : zb x zT0 zc_25 4 (35, [some (.ref 50), some (.int p1), some (.int p2), some (.int p3)], [.int (zr h 57 p1), .int p1, .ref 57], h) = some (40, [some (.ref 50), some (.int p1), some (.int p2), some (.int p3)], [.int (p2 - 100), .int 0, .int (zr h 57 p1), .int p1, .ref 57], h)) (fun hs => ?_)
      refine zg_x zd_25 rfl rfl rfl rfl (as := [.int 0, .int (p2 - 100)]) (rest := [.int (zr h 57 p1), .int p1, .ref 57]) (w := some (.int (if 0 < (p2 - 100) then (p2 - 100) else 0))) rfl rfl rfl ?_
      refine zg_blk zd_25 1 hs (rfl : zb x zT0 zc_25 1 (43, [some (.ref 50), some (.int p1), some (.int p2), some (.int p3)], [.int (if 0 < (p2 - 100) then (p2 - 100) else 0), .int (zr h 57 p1), .int p1, .ref 57], h) = some (44, [some (.ref 50), some (.int p1), some (.int p2), some (.int p3)], [.int ((zr h 57 p1) + (if 0 < (p2 - 100) then (p2 - 100) else 0)), .int p1, .ref 57], h)) (fun hs => ?_)
      have hob := ho
      refine zg_ias hs zd_25 rfl rfl hob (fun hs => ?_)
      exact K134 hs
    · have ho := hom.2 hc
      rw [show (if (p2 ≤ (f_Course_hold_50 p1 h)) then (zs h 57 p1 ((zr h 57 p1) + (if 0 < (p2 - 100) then (p2 - 100) else 0))) else (zs h 58 p1 p3)) = (zs h 58 p1 p3) from if_neg hc] at K134
      refine zg_blk zd_25 4 hs (rfl : zb x zT0 zc_25 4 (18, [some (.ref 50), some (.int p1), some (.int p2), some (.int p3)], [], h) = some (24, [some (.ref 50), some (.int p1), some (.int p2), some (.int p3)], [.int p3, .int p1, .ref 58], h)) (fun hs => ?_)
      have hob := ho
      refine zg_ias hs zd_25 rfl rfl hob (fun hs => ?_)
      refine zg_blk zd_25 1 hs (rfl : zb x zT0 zc_25 1 (25, [some (.ref 50), some (.int p1), some (.int p2), some (.int p3)], [], (zs h 58 p1 p3)) = some (45, [some (.ref 50), some (.int p1), some (.int p2), some (.int p3)], [], (zs h 58 p1 p3))) (fun hs => ?_)
      exact K134 hs
  · have ho := ho.1 hc
    rw [if_pos hc] at hF
    exact zg_ret zd_25 rfl rfl (hF hs)
set_option maxRecDepth 100000 in
set_option maxHeartbeats 400000 in
theorem f_Course_strainChains_50_l2_l51_k75_t {x : zm_X} {d : Nat} (v1 : Int32) (v2 : Int32) (v3 : Int32) (v4 : Int32) (h : zm_H) {Q : Option Value → zm_H → Prop} {FN : Nat × Int32 × zm_H → Prop} (hs : zSh zT0 h) (ho : f_Course_strainChains_50_l2_l51_k75_ok v1 v2 v3 v4 h) (hF : FN (f_Course_strainChains_50_l2_l51_k75 v1 v2 v3 v4 h)) (hl0 : ∀ (v4 : Int32) (h : zm_H), zSh zT0 h → FN (0, v4, h) → zg x (d + 4) 22 51 [some (.ref 50), some (.int v1), some (.int v2), some (.int v3), some (.int v4)] [] h Q) (hl1 : ∀ (v4 : Int32) (h : zm_H) (o4 : Option Value), zSh zT0 h → FN (1, v4, h) → zg x (d + 4) 22 81 [some (.ref 50), some (.int v1), some (.int v2), some (.int v3), o4] [] h Q) : zg x (d + 4) 22 75 [some (.ref 50), some (.int v1), some (.int v2), some (.int v3), some (.int v4)] [] h Q := by
  unfold f_Course_strainChains_50_l2_l51_k75 at hF
  unfold f_Course_strainChains_50_l2_l51_k75_ok at ho
  refine zg_blk zd_22 2 hs (rfl : zb x zT0 zc_22 2 (75, [some (.ref 50), some (.int v1), some (.int v2), some (.int v3), some (.int v4)], [], h) = some (51, [some (.ref 50), some (.int v1), some (.int v2), some (.int v3), some (.int (v4 + 1))], [], h)) (fun hs => ?_)
  exact hl0 (v4 + 1) h hs hF
set_option maxRecDepth 100000 in
set_option maxHeartbeats 400000 in
theorem f_Course_strainChains_50_l2_l51_b_t {x : zm_X} {d : Nat} (v1 : Int32) (v2 : Int32) (v3 : Int32) (v4 : Int32) (h : zm_H) {Q : Option Value → zm_H → Prop} {FN : Nat × Int32 × zm_H → Prop} (hs : zSh zT0 h) (ho : f_Course_strainChains_50_l2_l51_b_ok v1 v2 v3 v4 h) (hF : FN (f_Course_strainChains_50_l2_l51_b v1 v2 v3 v4 h)) (hl0 : ∀ (v4 : Int32) (h : zm_H), zSh zT0 h → FN (0, v4, h) → zg x (d + 4) 22 51 [some (.ref 50), some (.int v1), some (.int v2), some (.int v3), some (.int v4)] [] h Q) (hl1 : ∀ (v4 : Int32) (h : zm_H) (o4 : Option Value), zSh zT0 h → FN (1, v4, h) → zg x (d + 4) 22 81 [some (.ref 50), some (.int v1), some (.int v2), some (.int v3), o4] [] h Q) : zg x (d + 4) 22 51 [some (.ref 50), some (.int v1), some (.int v2), some (.int v3), some (.int v4)] [] h Q := by
  unfold f_Course_strainChains_50_l2_l51_b at hF
  unfold f_Course_strainChains_50_l2_l51_b_ok at ho
  refine zg_blk zd_22 2 hs (rfl : zb x zT0 zc_22 2 (51, [some (.ref 50), some (.int v1), some (.int v2), some (.int v3), some (.int v4)], [], h) = some (54, [some (.ref 50), some (.int v1), some (.int v2), some (.int v3), some (.int v4)], [.int 3, .int v4], h)) (fun hs => ?_)
  refine zg_i_ge zd_22 rfl (fun (hc : (3 ≤ v4)) => ?_) (fun (hc : ¬ (3 ≤ v4)) => ?_)
  · have ho := ho.1 hc
    rw [if_pos hc] at hF
    exact hl1 v4 h (some (.int v4)) hs hF
  · have ho := ho.2 hc
    rw [if_neg hc] at hF
    refine zg_blk zd_22 9 hs (rfl : zb x zT0 zc_22 9 (57, [some (.ref 50), some (.int v1), some (.int v2), some (.int v3), some (.int v4)], [], h) = some (70, [some (.ref 50), some (.int v1), some (.int v2), some (.int v3), some (.int v4)], [.int v4, .ref 59, .int ((v3 * 3) + v4), .ref 50], h)) (fun hs => ?_)
    obtain ⟨hob, ho⟩ := ho
    refine zg_ial hs zd_22 rfl rfl hob ?_
    refine zg_blk zd_22 1 hs (rfl : zb x zT0 zc_22 1 (71, [some (.ref 50), some (.int v1), some (.int v2), some (.int v3), some (.int v4)], [.int (zr h 59 v4), .int ((v3 * 3) + v4), .ref 50], h) = some (72, [some (.ref 50), some (.int v1), some (.int v2), some (.int v3), some (.int v4)], [.int v1, .int (zr h 59 v4), .int ((v3 * 3) + v4), .ref 50], h)) (fun hs => ?_)
    have hob := ho
    refine zg_call hs zd_22 rfl rfl rfl rfl (as := [.ref 50, .int ((v3 * 3) + v4), .int (zr h 59 v4), .int v1]) (rest := []) (en := [some (.ref 50), some (.int ((v3 * 3) + v4)), some (.int (zr h 59 v4)), some (.int v1)]) rfl rfl rfl rfl rfl ?_
    refine f_Course_strain_50_t ((v3 * 3) + v4) (zr h 59 v4) v1 h hs hob (fun hs => ?_)
    show zg x (d + 4) 22 75 [some (.ref 50), some (.int v1), some (.int v2), some (.int v3), some (.int v4)] [] (f_Course_strain_50 ((v3 * 3) + v4) (zr h 59 v4) v1 h) Q
    exact f_Course_strainChains_50_l2_l51_k75_t v1 v2 v3 v4 (f_Course_strain_50 ((v3 * 3) + v4) (zr h 59 v4) v1 h) hs trivial hF hl0 hl1
theorem f_Course_strainChains_50_l2_l51_t {x : zm_X} {d : Nat} (v1 : Int32) (v2 : Int32) (v3 : Int32) {Q : Option Value → zm_H → Prop} (G : Nat × Int32 × zm_H → Prop) (hx1 : ∀ (v4 : Int32) (h : zm_H) (o4 : Option Value), zSh zT0 h → G (1, v4, h) → zg x (d + 4) 22 81 [some (.ref 50), some (.int v1), some (.int v2), some (.int v3), o4] [] h Q) : ∀ (n : Nat) (v4 : Int32) (h : zm_H), zSh zT0 h → f_Course_strainChains_50_l2_l51_ok v1 v2 v3 n (v4, h) → G (f_Course_strainChains_50_l2_l51 v1 v2 v3 n (v4, h)) → zg x (d + 4) 22 51 [some (.ref 50), some (.int v1), some (.int v2), some (.int v3), some (.int v4)] [] h Q := by
  intro n
  induction n with
  | zero => intro v4 h hs ho hG; exact ho.elim
  | succ n ih =>
    intro v4 h hs ho hG
    refine f_Course_strainChains_50_l2_l51_b_t (FN := fun r => (r.1 = 0 → f_Course_strainChains_50_l2_l51_ok v1 v2 v3 n r.2) ∧ G (if r.1 = 0 then f_Course_strainChains_50_l2_l51 v1 v2 v3 n r.2 else r)) v1 v2 v3 v4 h hs ho.1 ⟨ho.2, hG⟩ ?_ ?_
    · intro v4 h hs hF
      exact ih v4 h hs (hF.1 rfl) hF.2
    · intro v4 h o4 hs hF
      exact hx1 v4 h o4 hs hF.2

set_option maxRecDepth 100000 in
set_option maxHeartbeats 400000 in
theorem f_Course_holdBits_50_l4_b_t {x : zm_X} {d : Nat} (v1 : Int32) (v2 : Int32) (v3 : Int32) (h : zm_H) {Q : Option Value → zm_H → Prop} {FN : Nat × Int32 × Int32 → Prop} (hs : zSh zT0 h) (ho : f_Course_holdBits_50_l4_b_ok v1 v2 v3 h) (hF : FN (f_Course_holdBits_50_l4_b v1 v2 v3 h)) (hl0 : ∀ (v2 : Int32) (v3 : Int32), zSh zT0 h → FN (0, v2, v3) → zg x (d + 2) 26 4 [some (.ref 50), some (.int v1), some (.int v2), some (.int v3)] [] h Q) (hl1 : ∀ (v2 : Int32) (v3 : Int32) (o3 : Option Value), zSh zT0 h → FN (1, v2, v3) → zg x (d + 2) 26 37 [some (.ref 50), some (.int v1), some (.int v2), o3] [] h Q) : zg x (d + 2) 26 4 [some (.ref 50), some (.int v1), some (.int v2), some (.int v3)] [] h Q := by
  unfold f_Course_holdBits_50_l4_b at hF
  unfold f_Course_holdBits_50_l4_b_ok at ho
  refine zg_blk zd_26 2 hs (rfl : zb x zT0 zc_26 2 (4, [some (.ref 50), some (.int v1), some (.int v2), some (.int v3)], [], h) = some (6, [some (.ref 50), some (.int v1), some (.int v2), some (.int v3)], [.int 3, .int v3], h)) (fun hs => ?_)
  refine zg_i_ge zd_26 rfl (fun (hc : (3 ≤ v3)) => ?_) (fun (hc : ¬ (3 ≤ v3)) => ?_)
  · have ho := ho.1 hc
    rw [if_pos hc] at hF
    exact hl1 v2 v3 (some (.int v3)) hs hF
  · have ho := ho.2 hc
    rw [if_neg hc] at hF
    refine zg_blk zd_26 7 hs (rfl : zb x zT0 zc_26 7 (9, [some (.ref 50), some (.int v1), some (.int v2), some (.int v3)], [], h) = some (16, [some (.ref 50), some (.int v1), some (.int v2), some (.int v3)], [.int ((v1 * 3) + v3), .ref 50, .int v2], h)) (fun hs => ?_)
    have hob := ho
    refine zg_call hs zd_26 rfl rfl rfl rfl (as := [.ref 50, .int ((v1 * 3) + v3)]) (rest := [.int v2]) (en := [some (.ref 50), some (.int ((v1 * 3) + v3))]) rfl rfl rfl rfl rfl ?_
    refine f_Course_holds_50_t ((v1 * 3) + v3) h hs hob ?_
    show zg x (d + 2) 26 19 [some (.ref 50), some (.int v1), some (.int v2), some (.int v3)] [.int (f_Course_holds_50 ((v1 * 3) + v3) h), .int v2] h Q
    have K135 : zSh zT0 h → zg x (d + 2) 26 29 [some (.ref 50), some (.int v1), some (.int v2), some (.int v3)] [.int (if ((f_Course_holds_50 ((v1 * 3) + v3) h) = 0) then (0 : Int32) else (1 <<< (v3 &&& 31))), .int v2] h Q := fun hs => by
      refine zg_blk zd_26 4 hs (rfl : zb x zT0 zc_26 4 (29, [some (.ref 50), some (.int v1), some (.int v2), some (.int v3)], [.int (if ((f_Course_holds_50 ((v1 * 3) + v3) h) = 0) then (0 : Int32) else (1 <<< (v3 &&& 31))), .int v2], h) = some (4, [some (.ref 50), some (.int v1), some (.int (v2 ||| (if ((f_Course_holds_50 ((v1 * 3) + v3) h) = 0) then (0 : Int32) else (1 <<< (v3 &&& 31))))), some (.int (v3 + 1))], [], h)) (fun hs => ?_)
      exact hl0 (v2 ||| (if ((f_Course_holds_50 ((v1 * 3) + v3) h) = 0) then (0 : Int32) else (1 <<< (v3 &&& 31)))) (v3 + 1) hs hF
    refine zg_f_eq zd_26 rfl (fun (hc : ((f_Course_holds_50 ((v1 * 3) + v3) h) = 0)) => ?_) (fun (hc : ¬ ((f_Course_holds_50 ((v1 * 3) + v3) h) = 0)) => ?_)
    · skip
      rw [show ((if ((f_Course_holds_50 ((v1 * 3) + v3) h) = 0) then (0 : Int32) else (1 <<< (v3 &&& 31))) : Int32) = 0 from if_pos hc] at K135
      refine zg_blk zd_26 1 hs (rfl : zb x zT0 zc_26 1 (28, [some (.ref 50), some (.int v1), some (.int v2), some (.int v3)], [.int v2], h) = some (29, [some (.ref 50), some (.int v1), some (.int v2), some (.int v3)], [.int 0, .int v2], h)) (fun hs => ?_)
      exact K135 hs
    · skip
      rw [show ((if ((f_Course_holds_50 ((v1 * 3) + v3) h) = 0) then (0 : Int32) else (1 <<< (v3 &&& 31))) : Int32) = (1 <<< (v3 &&& 31)) from if_neg hc] at K135
      refine zg_blk zd_26 4 hs (rfl : zb x zT0 zc_26 4 (22, [some (.ref 50), some (.int v1), some (.int v2), some (.int v3)], [.int v2], h) = some (29, [some (.ref 50), some (.int v1), some (.int v2), some (.int v3)], [.int (1 <<< (v3 &&& 31)), .int v2], h)) (fun hs => ?_)
      exact K135 hs
theorem f_Course_holdBits_50_l4_t {x : zm_X} {d : Nat} (v1 : Int32) (h : zm_H) {Q : Option Value → zm_H → Prop} (G : Nat × Int32 × Int32 → Prop) (hx1 : ∀ (v2 : Int32) (v3 : Int32) (o3 : Option Value), zSh zT0 h → G (1, v2, v3) → zg x (d + 2) 26 37 [some (.ref 50), some (.int v1), some (.int v2), o3] [] h Q) : ∀ (n : Nat) (v2 : Int32) (v3 : Int32), zSh zT0 h → f_Course_holdBits_50_l4_ok v1 h n (v2, v3) → G (f_Course_holdBits_50_l4 v1 h n (v2, v3)) → zg x (d + 2) 26 4 [some (.ref 50), some (.int v1), some (.int v2), some (.int v3)] [] h Q := by
  intro n
  induction n with
  | zero => intro v2 v3 hs ho hG; exact ho.elim
  | succ n ih =>
    intro v2 v3 hs ho hG
    refine f_Course_holdBits_50_l4_b_t (FN := fun r => (r.1 = 0 → f_Course_holdBits_50_l4_ok v1 h n r.2) ∧ G (if r.1 = 0 then f_Course_holdBits_50_l4 v1 h n r.2 else r)) v1 v2 v3 h hs ho.1 ⟨ho.2, hG⟩ ?_ ?_
    · intro v2 v3 hs hF
      exact ih v2 v3 hs (hF.1 rfl) hF.2
    · intro v2 v3 o3 hs hF
      exact hx1 v2 v3 o3 hs hF.2

set_option maxRecDepth 100000 in
set_option maxHeartbeats 400000 in
theorem f_Course_holdBits_50_k37_t {x : zm_X} {d : Nat} (v2 : Int32) (h : zm_H) (o0 : Option Value) (z1 : Int32) (o3 : Option Value) {Q : Option Value → zm_H → Prop} (hs : zSh zT0 h) (ho : f_Course_holdBits_50_k37_ok v2 h) (hF : Q (some (.int (f_Course_holdBits_50_k37 v2 h))) h) : zg x (d + 2) 26 37 [o0, some (.int z1), some (.int v2), o3] [] h Q := by
  unfold f_Course_holdBits_50_k37 at hF
  unfold f_Course_holdBits_50_k37_ok at ho
  refine zg_blk zd_26 1 hs (rfl : zb x zT0 zc_26 1 (37, [o0, some (.int z1), some (.int v2), o3], [], h) = some (38, [o0, some (.int z1), some (.int v2), o3], [.int v2], h)) (fun hs => ?_)
  exact zg_ret zd_26 rfl rfl hF
set_option maxRecDepth 100000 in
set_option maxHeartbeats 400000 in
theorem f_Course_holdBits_50_t {x : zm_X} {d : Nat} (p1 : Int32) (h : zm_H) {Q : Option Value → zm_H → Prop} (hs : zSh zT0 h) (ho : f_Course_holdBits_50_ok p1 h) (hF : Q (some (.int (f_Course_holdBits_50 p1 h))) h) : zg x (d + 2) 26 0 [some (.ref 50), some (.int p1), none, none] [] h Q := by
  unfold f_Course_holdBits_50 at hF
  unfold f_Course_holdBits_50_ok at ho
  refine zg_blk zd_26 4 hs (rfl : zb x zT0 zc_26 4 (0, [some (.ref 50), some (.int p1), none, none], [], h) = some (4, [some (.ref 50), some (.int p1), some (.int 0), some (.int 0)], [], h)) (fun hs => ?_)
  refine f_Course_holdBits_50_l4_t p1 h (fun r => f_Course_holdBits_50_a4_ok r h ∧ Q (some (.int (f_Course_holdBits_50_a4 r h))) h) ?_ zF 0 0 hs ho.1 ⟨ho.2, hF⟩
  · intro v2_ v3_ o3_ hs hG
    have ho : True := trivial
    have hF : Q (some (.int ((f_Course_holdBits_50_k37 v2_ h)))) h := hG.2
    exact f_Course_holdBits_50_k37_t v2_ h (some (.ref 50)) p1 (o3_) hs trivial hF
set_option maxRecDepth 100000 in
set_option maxHeartbeats 400000 in
theorem f_Course_strainChains_50_l2_k81_t {x : zm_X} {d : Nat} (v1 : Int32) (v2 : Int32) (v3 : Int32) (h : zm_H) (o4 : Option Value) {Q : Option Value → zm_H → Prop} {FN : Nat × Int32 × zm_H → Prop} (hs : zSh zT0 h) (ho : f_Course_strainChains_50_l2_k81_ok v1 v2 v3 h) (hF : FN (f_Course_strainChains_50_l2_k81 v1 v2 v3 h)) (hl0 : ∀ (v3 : Int32) (h : zm_H) (o4 : Option Value), zSh zT0 h → FN (0, v3, h) → zg x (d + 4) 22 2 [some (.ref 50), some (.int v1), some (.int v2), some (.int v3), o4] [] h Q) (hl1 : ∀ (v3 : Int32) (h : zm_H) (o3 : Option Value) (o4 : Option Value), zSh zT0 h → FN (1, v3, h) → zg x (d + 4) 22 109 [some (.ref 50), some (.int v1), some (.int v2), o3, o4] [] h Q) : zg x (d + 4) 22 81 [some (.ref 50), some (.int v1), some (.int v2), some (.int v3), o4] [] h Q := by
  unfold f_Course_strainChains_50_l2_k81 at hF
  unfold f_Course_strainChains_50_l2_k81_ok at ho
  refine zg_blk zd_22 2 hs (rfl : zb x zT0 zc_22 2 (81, [some (.ref 50), some (.int v1), some (.int v2), some (.int v3), o4], [], h) = some (83, [some (.ref 50), some (.int v1), some (.int v2), some (.int v3), o4], [.int v3, .ref 50], h)) (fun hs => ?_)
  obtain ⟨hob, ho⟩ := ho
  refine zg_call hs zd_22 rfl rfl rfl rfl (as := [.ref 50, .int v3]) (rest := []) (en := [some (.ref 50), some (.int v3), none, none]) rfl rfl rfl rfl rfl ?_
  refine f_Course_holdBits_50_t v3 h hs hob ?_
  show zg x (d + 4) 22 86 [some (.ref 50), some (.int v1), some (.int v2), some (.int v3), o4] [.int (f_Course_holdBits_50 v3 h)] h Q
  have hom := ho
  have K136 : zSh zT0 (if ((f_Course_holdBits_50 v3 h) = 0) then (zs (zs h 51 v3 3) 52 v3 (-1)) else h) → zg x (d + 4) 22 103 [some (.ref 50), some (.int v1), some (.int v2), some (.int v3), o4] [] (if ((f_Course_holdBits_50 v3 h) = 0) then (zs (zs h 51 v3 3) 52 v3 (-1)) else h) Q := fun hs => by
    refine zg_blk zd_22 2 hs (rfl : zb x zT0 zc_22 2 (103, [some (.ref 50), some (.int v1), some (.int v2), some (.int v3), o4], [], (if ((f_Course_holdBits_50 v3 h) = 0) then (zs (zs h 51 v3 3) 52 v3 (-1)) else h)) = some (2, [some (.ref 50), some (.int v1), some (.int v2), some (.int (v3 + 1)), o4], [], (if ((f_Course_holdBits_50 v3 h) = 0) then (zs (zs h 51 v3 3) 52 v3 (-1)) else h))) (fun hs => ?_)
    exact hl0 (v3 + 1) (if ((f_Course_holdBits_50 v3 h) = 0) then (zs (zs h 51 v3 3) 52 v3 (-1)) else h) (o4) hs hF
  refine zg_f_ne zd_22 rfl (fun (hc : ¬ ((f_Course_holdBits_50 v3 h) = 0)) => ?_) (fun (hc : ((f_Course_holdBits_50 v3 h) = 0)) => ?_)
  · have ho := hom.2 hc
    rw [show (if ((f_Course_holdBits_50 v3 h) = 0) then (zs (zs h 51 v3 3) 52 v3 (-1)) else h) = h from if_neg hc] at K136
    exact K136 hs
  · have ho := hom.1 hc
    rw [show (if ((f_Course_holdBits_50 v3 h) = 0) then (zs (zs h 51 v3 3) 52 v3 (-1)) else h) = (zs (zs h 51 v3 3) 52 v3 (-1)) from if_pos hc] at K136
    refine zg_blk zd_22 4 hs (rfl : zb x zT0 zc_22 4 (89, [some (.ref 50), some (.int v1), some (.int v2), some (.int v3), o4], [], h) = some (95, [some (.ref 50), some (.int v1), some (.int v2), some (.int v3), o4], [.int 3, .int v3, .ref 51], h)) (fun hs => ?_)
    obtain ⟨hob, ho⟩ := ho
    refine zg_ias hs zd_22 rfl rfl hob (fun hs => ?_)
    refine zg_blk zd_22 4 hs (rfl : zb x zT0 zc_22 4 (96, [some (.ref 50), some (.int v1), some (.int v2), some (.int v3), o4], [], (zs h 51 v3 3)) = some (102, [some (.ref 50), some (.int v1), some (.int v2), some (.int v3), o4], [.int (-1), .int v3, .ref 52], (zs h 51 v3 3))) (fun hs => ?_)
    have hob := ho
    refine zg_ias hs zd_22 rfl rfl hob (fun hs => ?_)
    exact K136 hs
set_option maxRecDepth 100000 in
set_option maxHeartbeats 400000 in
theorem f_Course_strainChains_50_l2_k48_t {x : zm_X} {d : Nat} (v1 : Int32) (v2 : Int32) (v3 : Int32) (h : zm_H) (o4 : Option Value) {Q : Option Value → zm_H → Prop} {FN : Nat × Int32 × zm_H → Prop} (hs : zSh zT0 h) (ho : f_Course_strainChains_50_l2_k48_ok v1 v2 v3 h) (hF : FN (f_Course_strainChains_50_l2_k48 v1 v2 v3 h)) (hl0 : ∀ (v3 : Int32) (h : zm_H) (o4 : Option Value), zSh zT0 h → FN (0, v3, h) → zg x (d + 4) 22 2 [some (.ref 50), some (.int v1), some (.int v2), some (.int v3), o4] [] h Q) (hl1 : ∀ (v3 : Int32) (h : zm_H) (o3 : Option Value) (o4 : Option Value), zSh zT0 h → FN (1, v3, h) → zg x (d + 4) 22 109 [some (.ref 50), some (.int v1), some (.int v2), o3, o4] [] h Q) : zg x (d + 4) 22 48 [some (.ref 50), some (.int v1), some (.int v2), some (.int v3), o4] [] h Q := by
  unfold f_Course_strainChains_50_l2_k48 at hF
  unfold f_Course_strainChains_50_l2_k48_ok at ho
  refine zg_blk zd_22 2 hs (rfl : zb x zT0 zc_22 2 (48, [some (.ref 50), some (.int v1), some (.int v2), some (.int v3), o4], [], h) = some (51, [some (.ref 50), some (.int v1), some (.int v2), some (.int v3), some (.int 0)], [], h)) (fun hs => ?_)
  refine f_Course_strainChains_50_l2_l51_t v1 v2 v3 (fun r => f_Course_strainChains_50_l2_a51_ok v1 v2 v3 r ∧ FN (f_Course_strainChains_50_l2_a51 v1 v2 v3 r)) ?_ zF 0 h hs ho.1 ⟨ho.2, hF⟩
  · intro v4_ h_ o4_ hs hG
    have ho : (f_Course_strainChains_50_l2_k81_ok v1 v2 v3 h_) := hG.1
    have hF : FN ((f_Course_strainChains_50_l2_k81 v1 v2 v3 h_)) := hG.2
    exact f_Course_strainChains_50_l2_k81_t v1 v2 v3 h_ (o4_) hs ho hF hl0 hl1
set_option maxRecDepth 100000 in
set_option maxHeartbeats 400000 in
theorem f_Course_strainChains_50_l2_b_t {x : zm_X} {d : Nat} (v1 : Int32) (v2 : Int32) (v3 : Int32) (h : zm_H) (o4 : Option Value) {Q : Option Value → zm_H → Prop} {FN : Nat × Int32 × zm_H → Prop} (hs : zSh zT0 h) (ho : f_Course_strainChains_50_l2_b_ok v1 v2 v3 h) (hF : FN (f_Course_strainChains_50_l2_b v1 v2 v3 h)) (hl0 : ∀ (v3 : Int32) (h : zm_H) (o4 : Option Value), zSh zT0 h → FN (0, v3, h) → zg x (d + 4) 22 2 [some (.ref 50), some (.int v1), some (.int v2), some (.int v3), o4] [] h Q) (hl1 : ∀ (v3 : Int32) (h : zm_H) (o3 : Option Value) (o4 : Option Value), zSh zT0 h → FN (1, v3, h) → zg x (d + 4) 22 109 [some (.ref 50), some (.int v1), some (.int v2), o3, o4] [] h Q) : zg x (d + 4) 22 2 [some (.ref 50), some (.int v1), some (.int v2), some (.int v3), o4] [] h Q := by
  unfold f_Course_strainChains_50_l2_b at hF
  unfold f_Course_strainChains_50_l2_b_ok at ho
  refine zg_blk zd_22 4 hs (rfl : zb x zT0 zc_22 4 (2, [some (.ref 50), some (.int v1), some (.int v2), some (.int v3), o4], [], h) = some (10, [some (.ref 50), some (.int v1), some (.int v2), some (.int v3), o4], [.int (zf h 23 0), .int v3], h)) (fun hs => ?_)
  refine zg_i_ge zd_22 rfl (fun (hc : ((zf h 23 0) ≤ v3)) => ?_) (fun (hc : ¬ ((zf h 23 0) ≤ v3)) => ?_)
  · have ho := ho.1 hc
    rw [if_pos hc] at hF
    exact hl1 v3 h (some (.int v3)) (o4) hs hF
  · have ho := ho.2 hc
    rw [if_neg hc] at hF
    refine zg_blk zd_22 3 hs (rfl : zb x zT0 zc_22 3 (13, [some (.ref 50), some (.int v1), some (.int v2), some (.int v3), o4], [], h) = some (18, [some (.ref 50), some (.int v1), some (.int v2), some (.int v3), o4], [.int v3, .ref 51], h)) (fun hs => ?_)
    obtain ⟨hob, ho⟩ := ho
    refine zg_ial hs zd_22 rfl rfl hob ?_
    refine zg_blk zd_22 1 hs (rfl : zb x zT0 zc_22 1 (19, [some (.ref 50), some (.int v1), some (.int v2), some (.int v3), o4], [.int (zr h 51 v3)], h) = some (20, [some (.ref 50), some (.int v1), some (.int v2), some (.int v3), o4], [.int 1, .int (zr h 51 v3)], h)) (fun hs => ?_)
    refine zg_i_ne zd_22 rfl (fun (hc : ¬ ((zr h 51 v3) = 1)) => ?_) (fun (hc : ((zr h 51 v3) = 1)) => ?_)
    · have ho := ho.2 hc
      rw [if_neg hc] at hF
      exact f_Course_strainChains_50_l2_k103_t v1 v2 v3 h (o4) hs trivial hF hl0 hl1
    · have ho := ho.1 hc
      rw [if_pos hc] at hF
      refine zg_blk zd_22 3 hs (rfl : zb x zT0 zc_22 3 (23, [some (.ref 50), some (.int v1), some (.int v2), some (.int v3), o4], [], h) = some (26, [some (.ref 50), some (.int v1), some (.int v2), some (.int v3), o4], [.int v2, .int v3, .ref 50], h)) (fun hs => ?_)
      refine zg_call hs zd_22 rfl rfl rfl rfl (as := [.int v2]) (rest := [.int v3, .ref 50]) (en := [some (.int v2)]) rfl rfl rfl rfl rfl ?_
      refine f_N_heightOf_t v2 h hs trivial ?_
      show zg x (d + 4) 22 29 [some (.ref 50), some (.int v1), some (.int v2), some (.int v3), o4] [.int (v2 / 1000), .int v3, .ref 50] h Q
      refine zg_blk zd_22 4 hs (rfl : zb x zT0 zc_22 4 (29, [some (.ref 50), some (.int v1), some (.int v2), some (.int v3), o4], [.int (v2 / 1000), .int v3, .ref 50], h) = some (37, [some (.ref 50), some (.int v1), some (.int v2), some (.int v3), o4], [.int v3, .ref 24, .int (v2 / 1000), .int v3, .ref 50], h)) (fun hs => ?_)
      obtain ⟨hob, ho⟩ := ho
      refine zg_ial hs zd_22 rfl rfl hob ?_
      refine zg_blk zd_22 4 hs (rfl : zb x zT0 zc_22 4 (38, [some (.ref 50), some (.int v1), some (.int v2), some (.int v3), o4], [.int (zr h 24 v3), .int (v2 / 1000), .int v3, .ref 50], h) = some (42, [some (.ref 50), some (.int v1), some (.int v2), some (.int v3), o4], [.int v2, .int ((v2 / 1000) * ((zr h 24 v3) + 5)), .int v3, .ref 50], h)) (fun hs => ?_)
      refine zg_call hs zd_22 rfl rfl rfl rfl (as := [.int v2]) (rest := [.int ((v2 / 1000) * ((zr h 24 v3) + 5)), .int v3, .ref 50]) (en := [some (.int v2)]) rfl rfl rfl rfl rfl ?_
      refine f_N_wayOf_t v2 h hs trivial ?_
      show zg x (d + 4) 22 45 [some (.ref 50), some (.int v1), some (.int v2), some (.int v3), o4] [.int ((zm_rm v2 10) - 1), .int ((v2 / 1000) * ((zr h 24 v3) + 5)), .int v3, .ref 50] h Q
      obtain ⟨hob, ho⟩ := ho
      refine zg_call hs zd_22 rfl rfl rfl rfl (as := [.ref 50, .int v3, .int ((v2 / 1000) * ((zr h 24 v3) + 5)), .int ((zm_rm v2 10) - 1)]) (rest := []) (en := [some (.ref 50), some (.int v3), some (.int ((v2 / 1000) * ((zr h 24 v3) + 5))), some (.int ((zm_rm v2 10) - 1)), none, none]) rfl rfl rfl rfl rfl ?_
      refine f_Course_shareLoad_50_t v3 ((v2 / 1000) * ((zr h 24 v3) + 5)) ((zm_rm v2 10) - 1) h hs hob (fun hs => ?_)
      show zg x (d + 4) 22 48 [some (.ref 50), some (.int v1), some (.int v2), some (.int v3), o4] [] (f_Course_shareLoad_50 v3 ((v2 / 1000) * ((zr h 24 v3) + 5)) ((zm_rm v2 10) - 1) h) Q
      exact f_Course_strainChains_50_l2_k48_t v1 v2 v3 (f_Course_shareLoad_50 v3 ((v2 / 1000) * ((zr h 24 v3) + 5)) ((zm_rm v2 10) - 1) h) (o4) hs ho hF hl0 hl1
theorem f_Course_strainChains_50_l2_t {x : zm_X} {d : Nat} (v1 : Int32) (v2 : Int32) {Q : Option Value → zm_H → Prop} (G : Nat × Int32 × zm_H → Prop) (hx1 : ∀ (v3 : Int32) (h : zm_H) (o3 : Option Value) (o4 : Option Value), zSh zT0 h → G (1, v3, h) → zg x (d + 4) 22 109 [some (.ref 50), some (.int v1), some (.int v2), o3, o4] [] h Q) : ∀ (n : Nat) (v3 : Int32) (h : zm_H) (o4 : Option Value), zSh zT0 h → f_Course_strainChains_50_l2_ok v1 v2 n (v3, h) → G (f_Course_strainChains_50_l2 v1 v2 n (v3, h)) → zg x (d + 4) 22 2 [some (.ref 50), some (.int v1), some (.int v2), some (.int v3), o4] [] h Q := by
  intro n
  induction n with
  | zero => intro v3 h o4 hs ho hG; exact ho.elim
  | succ n ih =>
    intro v3 h o4 hs ho hG
    refine f_Course_strainChains_50_l2_b_t (FN := fun r => (r.1 = 0 → f_Course_strainChains_50_l2_ok v1 v2 n r.2) ∧ G (if r.1 = 0 then f_Course_strainChains_50_l2 v1 v2 n r.2 else r)) v1 v2 v3 h o4 hs ho.1 ⟨ho.2, hG⟩ ?_ ?_
    · intro v3 h o4 hs hF
      exact ih v3 h o4 hs (hF.1 rfl) hF.2
    · intro v3 h o3 o4 hs hF
      exact hx1 v3 h o3 o4 hs hF.2

set_option maxRecDepth 100000 in
set_option maxHeartbeats 400000 in
theorem f_Course_strainChains_50_k109_t {x : zm_X} {d : Nat} (h : zm_H) (o0 : Option Value) (o1 : Option Value) (z2 : Int32) (o3 : Option Value) (o4 : Option Value) {Q : Option Value → zm_H → Prop} (hs : zSh zT0 h) (ho : f_Course_strainChains_50_k109_ok h) (hF : (zSh zT0 (f_Course_strainChains_50_k109 h) → Q none (f_Course_strainChains_50_k109 h))) : zg x (d + 4) 22 109 [o0, o1, some (.int z2), o3, o4] [] h Q := by
  unfold f_Course_strainChains_50_k109 at hF
  unfold f_Course_strainChains_50_k109_ok at ho
  exact zg_ret zd_22 rfl rfl (hF hs)
set_option maxRecDepth 100000 in
set_option maxHeartbeats 400000 in
theorem f_Course_strainChains_50_t {x : zm_X} {d : Nat} (p1 : Int32) (p2 : Int32) (h : zm_H) {Q : Option Value → zm_H → Prop} (hs : zSh zT0 h) (ho : f_Course_strainChains_50_ok p1 p2 h) (hF : (zSh zT0 (f_Course_strainChains_50 p1 p2 h) → Q none (f_Course_strainChains_50 p1 p2 h))) : zg x (d + 4) 22 0 [some (.ref 50), some (.int p1), some (.int p2), none, none] [] h Q := by
  unfold f_Course_strainChains_50 at hF
  unfold f_Course_strainChains_50_ok at ho
  refine zg_blk zd_22 2 hs (rfl : zb x zT0 zc_22 2 (0, [some (.ref 50), some (.int p1), some (.int p2), none, none], [], h) = some (2, [some (.ref 50), some (.int p1), some (.int p2), some (.int 0), none], [], h)) (fun hs => ?_)
  refine f_Course_strainChains_50_l2_t p1 p2 (fun r => f_Course_strainChains_50_a2_ok r ∧ (zSh zT0 (f_Course_strainChains_50_a2 r) → Q none (f_Course_strainChains_50_a2 r))) ?_ zF 0 h (none) hs ho.1 ⟨ho.2, hF⟩
  · intro v3_ h_ o3_ o4_ hs hG
    have ho : True := trivial
    have hF : (zSh zT0 ((f_Course_strainChains_50_k109 h_)) → Q none ((f_Course_strainChains_50_k109 h_))) := hG.2
    exact f_Course_strainChains_50_k109_t h_ (some (.ref 50)) (some (.int p1)) p2 (o3_) (o4_) hs trivial hF
set_option maxRecDepth 100000 in
set_option maxHeartbeats 400000 in
theorem f_Course_bookPay_50_l19_k66_t {x : zm_X} {d : Nat} (v1 : Int32) (v2 : Int32) (v3 : Int32) (h : zm_H) {Q : Option Value → zm_H → Prop} {FN : Nat × Int32 × zm_H → Prop} (hs : zSh zT0 h) (ho : f_Course_bookPay_50_l19_k66_ok v1 v2 v3 h) (hF : FN (f_Course_bookPay_50_l19_k66 v1 v2 v3 h)) (hl0 : ∀ (v3 : Int32) (h : zm_H), zSh zT0 h → FN (0, v3, h) → zg x (d + 4) 27 19 [some (.ref 50), some (.int v1), some (.int v2), some (.int v3)] [] h Q) (hl1 : ∀ (v3 : Int32) (h : zm_H) (o3 : Option Value), zSh zT0 h → FN (1, v3, h) → zg x (d + 4) 27 72 [some (.ref 50), some (.int v1), some (.int v2), o3] [] h Q) : zg x (d + 4) 27 66 [some (.ref 50), some (.int v1), some (.int v2), some (.int v3)] [] h Q := by
  unfold f_Course_bookPay_50_l19_k66 at hF
  unfold f_Course_bookPay_50_l19_k66_ok at ho
  refine zg_blk zd_27 2 hs (rfl : zb x zT0 zc_27 2 (66, [some (.ref 50), some (.int v1), some (.int v2), some (.int v3)], [], h) = some (19, [some (.ref 50), some (.int v1), some (.int v2), some (.int (v3 + 1))], [], h)) (fun hs => ?_)
  exact hl0 (v3 + 1) h hs hF
set_option maxRecDepth 100000 in
set_option maxHeartbeats 400000 in
theorem f_Course_bookPay_50_l19_k59_t {x : zm_X} {d : Nat} (v1 : Int32) (v2 : Int32) (v3 : Int32) (w1 : Int32) (w2 : Int32) (w3 : Int32) (w4 : Int32) (h : zm_H) {Q : Option Value → zm_H → Prop} {FN : Nat × Int32 × zm_H → Prop} (hs : zSh zT0 h) (ho : f_Course_bookPay_50_l19_k59_ok v1 v2 v3 w1 w2 w3 w4 h) (hF : FN (f_Course_bookPay_50_l19_k59 v1 v2 v3 w1 w2 w3 w4 h)) (hl0 : ∀ (v3 : Int32) (h : zm_H), zSh zT0 h → FN (0, v3, h) → zg x (d + 4) 27 19 [some (.ref 50), some (.int v1), some (.int v2), some (.int v3)] [] h Q) (hl1 : ∀ (v3 : Int32) (h : zm_H) (o3 : Option Value), zSh zT0 h → FN (1, v3, h) → zg x (d + 4) 27 72 [some (.ref 50), some (.int v1), some (.int v2), o3] [] h Q) : zg x (d + 4) 27 59 [some (.ref 50), some (.int v1), some (.int v2), some (.int v3)] [.int w4, .int w3, .int w2, .int w1, .ref 61] h Q := by
  unfold f_Course_bookPay_50_l19_k59 at hF
  unfold f_Course_bookPay_50_l19_k59_ok at ho
  refine zg_blk zd_27 1 hs (rfl : zb x zT0 zc_27 1 (59, [some (.ref 50), some (.int v1), some (.int v2), some (.int v3)], [.int w4, .int w3, .int w2, .int w1, .ref 61], h) = some (61, [some (.ref 50), some (.int v1), some (.int v2), some (.int v3)], [.int 100000, .int w4, .int w3, .int w2, .int w1, .ref 61], h)) (fun hs => ?_)
  refine zg_call hs zd_27 rfl rfl rfl rfl (as := [.int w3, .int w4, .int 100000]) (rest := [.int w2, .int w1, .ref 61]) (en := [some (.int w3), some (.int w4), some (.int 100000)]) rfl rfl rfl rfl rfl ?_
  refine f_N_within_t w3 w4 100000 h hs trivial ?_
  show zg x (d + 4) 27 64 [some (.ref 50), some (.int v1), some (.int v2), some (.int v3)] [.int (if w3 < (if 100000 < w4 then 100000 else w4) then (if 100000 < w4 then 100000 else w4) else w3), .int w2, .int w1, .ref 61] h Q
  refine zg_blk zd_27 1 hs (rfl : zb x zT0 zc_27 1 (64, [some (.ref 50), some (.int v1), some (.int v2), some (.int v3)], [.int (if w3 < (if 100000 < w4 then 100000 else w4) then (if 100000 < w4 then 100000 else w4) else w3), .int w2, .int w1, .ref 61], h) = some (65, [some (.ref 50), some (.int v1), some (.int v2), some (.int v3)], [.int (w2 + (if w3 < (if 100000 < w4 then 100000 else w4) then (if 100000 < w4 then 100000 else w4) else w3)), .int w1, .ref 61], h)) (fun hs => ?_)
  have hob := ho
  refine zg_ias hs zd_27 rfl rfl hob (fun hs => ?_)
  exact f_Course_bookPay_50_l19_k66_t v1 v2 v3 (zs h 61 w1 (w2 + (if w3 < (if 100000 < w4 then 100000 else w4) then (if 100000 < w4 then 100000 else w4) else w3))) hs trivial hF hl0 hl1
set_option maxRecDepth 100000 in
set_option maxHeartbeats 400000 in
theorem f_Course_bookPay_50_l19_b_t {x : zm_X} {d : Nat} (v1 : Int32) (v2 : Int32) (v3 : Int32) (h : zm_H) {Q : Option Value → zm_H → Prop} {FN : Nat × Int32 × zm_H → Prop} (hs : zSh zT0 h) (ho : f_Course_bookPay_50_l19_b_ok v1 v2 v3 h) (hF : FN (f_Course_bookPay_50_l19_b v1 v2 v3 h)) (hl0 : ∀ (v3 : Int32) (h : zm_H), zSh zT0 h → FN (0, v3, h) → zg x (d + 4) 27 19 [some (.ref 50), some (.int v1), some (.int v2), some (.int v3)] [] h Q) (hl1 : ∀ (v3 : Int32) (h : zm_H) (o3 : Option Value), zSh zT0 h → FN (1, v3, h) → zg x (d + 4) 27 72 [some (.ref 50), some (.int v1), some (.int v2), o3] [] h Q) : zg x (d + 4) 27 19 [some (.ref 50), some (.int v1), some (.int v2), some (.int v3)] [] h Q := by
  unfold f_Course_bookPay_50_l19_b at hF
  unfold f_Course_bookPay_50_l19_b_ok at ho
  refine zg_blk zd_27 4 hs (rfl : zb x zT0 zc_27 4 (19, [some (.ref 50), some (.int v1), some (.int v2), some (.int v3)], [], h) = some (27, [some (.ref 50), some (.int v1), some (.int v2), some (.int v3)], [.int (zf h 23 0), .int v3], h)) (fun hs => ?_)
  refine zg_i_ge zd_27 rfl (fun (hc : ((zf h 23 0) ≤ v3)) => ?_) (fun (hc : ¬ ((zf h 23 0) ≤ v3)) => ?_)
  · have ho := ho.1 hc
    rw [if_pos hc] at hF
    exact hl1 v3 h (some (.int v3)) hs hF
  · have ho := ho.2 hc
    rw [if_neg hc] at hF
    refine zg_blk zd_27 4 hs (rfl : zb x zT0 zc_27 4 (30, [some (.ref 50), some (.int v1), some (.int v2), some (.int v3)], [], h) = some (38, [some (.ref 50), some (.int v1), some (.int v2), some (.int v3)], [.int v3, .ref 26], h)) (fun hs => ?_)
    obtain ⟨hob, ho⟩ := ho
    refine zg_ial hs zd_27 rfl rfl hob ?_
    refine zg_blk zd_27 1 hs (rfl : zb x zT0 zc_27 1 (39, [some (.ref 50), some (.int v1), some (.int v2), some (.int v3)], [.int (zr h 26 v3)], h) = some (40, [some (.ref 50), some (.int v1), some (.int v2), some (.int v3)], [.int v1, .int (zr h 26 v3)], h)) (fun hs => ?_)
    refine zg_i_gt zd_27 rfl (fun (hc : (v1 < (zr h 26 v3))) => ?_) (fun (hc : ¬ (v1 < (zr h 26 v3))) => ?_)
    · have ho := ho.1 hc
      rw [if_pos hc] at hF
      exact f_Course_bookPay_50_l19_k66_t v1 v2 v3 h hs trivial hF hl0 hl1
    · have ho := ho.2 hc
      rw [if_neg hc] at hF
      refine zg_blk zd_27 4 hs (rfl : zb x zT0 zc_27 4 (43, [some (.ref 50), some (.int v1), some (.int v2), some (.int v3)], [], h) = some (49, [some (.ref 50), some (.int v1), some (.int v2), some (.int v3)], [.int v1, .ref 61, .int v1, .ref 61], h)) (fun hs => ?_)
      obtain ⟨hob, ho⟩ := ho
      refine zg_ial hs zd_27 rfl rfl hob ?_
      refine zg_blk zd_27 5 hs (rfl : zb x zT0 zc_27 5 (50, [some (.ref 50), some (.int v1), some (.int v2), some (.int v3)], [.int (zr h 61 v1), .int v1, .ref 61], h) = some (56, [some (.ref 50), some (.int v1), some (.int v2), some (.int v3)], [.int v3, .int 3, .int v2, .ref 50, .int (-100000), .int (zr h 61 v1), .int v1, .ref 61], h)) (fun hs => ?_)
      obtain ⟨hob, ho⟩ := ho
      refine zg_call hs zd_27 rfl rfl rfl rfl (as := [.ref 50, .int v2, .int 3, .int v3]) (rest := [.int (-100000), .int (zr h 61 v1), .int v1, .ref 61]) (en := [some (.ref 50), some (.int v2), some (.int 3), some (.int v3)]) rfl rfl rfl rfl rfl ?_
      refine f_Course_says_50_t v2 3 v3 h hs hob (fun hs => ?_)
      show zg x (d + 4) 27 59 [some (.ref 50), some (.int v1), some (.int v2), some (.int v3)] [.int (f_Course_says_50 v2 3 v3 h).1, .int (-100000), .int (zr h 61 v1), .int v1, .ref 61] (f_Course_says_50 v2 3 v3 h).2 Q
      exact f_Course_bookPay_50_l19_k59_t v1 v2 v3 v1 (zr h 61 v1) (-100000) (f_Course_says_50 v2 3 v3 h).1 (f_Course_says_50 v2 3 v3 h).2 hs ho hF hl0 hl1
theorem f_Course_bookPay_50_l19_t {x : zm_X} {d : Nat} (v1 : Int32) (v2 : Int32) {Q : Option Value → zm_H → Prop} (G : Nat × Int32 × zm_H → Prop) (hx1 : ∀ (v3 : Int32) (h : zm_H) (o3 : Option Value), zSh zT0 h → G (1, v3, h) → zg x (d + 4) 27 72 [some (.ref 50), some (.int v1), some (.int v2), o3] [] h Q) : ∀ (n : Nat) (v3 : Int32) (h : zm_H), zSh zT0 h → f_Course_bookPay_50_l19_ok v1 v2 n (v3, h) → G (f_Course_bookPay_50_l19 v1 v2 n (v3, h)) → zg x (d + 4) 27 19 [some (.ref 50), some (.int v1), some (.int v2), some (.int v3)] [] h Q := by
  intro n
  induction n with
  | zero => intro v3 h hs ho hG; exact ho.elim
  | succ n ih =>
    intro v3 h hs ho hG
    refine f_Course_bookPay_50_l19_b_t (FN := fun r => (r.1 = 0 → f_Course_bookPay_50_l19_ok v1 v2 n r.2) ∧ G (if r.1 = 0 then f_Course_bookPay_50_l19 v1 v2 n r.2 else r)) v1 v2 v3 h hs ho.1 ⟨ho.2, hG⟩ ?_ ?_
    · intro v3 h hs hF
      exact ih v3 h hs (hF.1 rfl) hF.2
    · intro v3 h o3 hs hF
      exact hx1 v3 h o3 hs hF.2

set_option maxRecDepth 100000 in
set_option maxHeartbeats 400000 in
theorem f_Course_bookPay_50_k72_t {x : zm_X} {d : Nat} (h : zm_H) (o0 : Option Value) (z1 : Int32) (o2 : Option Value) (o3 : Option Value) {Q : Option Value → zm_H → Prop} (hs : zSh zT0 h) (ho : f_Course_bookPay_50_k72_ok h) (hF : (zSh zT0 (f_Course_bookPay_50_k72 h) → Q none (f_Course_bookPay_50_k72 h))) : zg x (d + 4) 27 72 [o0, some (.int z1), o2, o3] [] h Q := by
  unfold f_Course_bookPay_50_k72 at hF
  unfold f_Course_bookPay_50_k72_ok at ho
  exact zg_ret zd_27 rfl rfl (hF hs)
set_option maxRecDepth 100000 in
set_option maxHeartbeats 400000 in
theorem f_Course_bookPay_50_t {x : zm_X} {d : Nat} (p1 : Int32) (h : zm_H) {Q : Option Value → zm_H → Prop} (hs : zSh zT0 h) (ho : f_Course_bookPay_50_ok p1 h) (hF : (zSh zT0 (f_Course_bookPay_50 p1 h) → Q none (f_Course_bookPay_50 p1 h))) : zg x (d + 4) 27 0 [some (.ref 50), some (.int p1), none, none] [] h Q := by
  unfold f_Course_bookPay_50 at hF
  unfold f_Course_bookPay_50_ok at ho
  refine zg_blk zd_27 4 hs (rfl : zb x zT0 zc_27 4 (0, [some (.ref 50), some (.int p1), none, none], [], h) = some (6, [some (.ref 50), some (.int p1), none, none], [.int p1, .int 3, .ref 15], h)) (fun hs => ?_)
  obtain ⟨hob, ho⟩ := ho
  refine zg_call hs zd_27 rfl rfl rfl rfl (as := [.ref 15, .int 3, .int p1]) (rest := []) (en := [some (.ref 15), some (.int 3), some (.int p1), none, none, none, none]) rfl rfl rfl rfl rfl ?_
  refine f_Rules_ruling_t 3 p1 h hs hob ?_
  show zg x (d + 4) 27 9 [some (.ref 50), some (.int p1), none, none] [.int (f_Rules_ruling 3 p1 h)] h Q
  refine zg_blk zd_27 5 hs (rfl : zb x zT0 zc_27 5 (9, [some (.ref 50), some (.int p1), none, none], [.int (f_Rules_ruling 3 p1 h)], h) = some (16, [some (.ref 50), some (.int p1), some (.int (f_Rules_ruling 3 p1 h)), none], [.int 0, .int p1, .ref 61], h)) (fun hs => ?_)
  obtain ⟨hob, ho⟩ := ho
  refine zg_ias hs zd_27 rfl rfl hob (fun hs => ?_)
  refine zg_blk zd_27 2 hs (rfl : zb x zT0 zc_27 2 (17, [some (.ref 50), some (.int p1), some (.int (f_Rules_ruling 3 p1 h)), none], [], (zs h 61 p1 0)) = some (19, [some (.ref 50), some (.int p1), some (.int (f_Rules_ruling 3 p1 h)), some (.int 0)], [], (zs h 61 p1 0))) (fun hs => ?_)
  refine f_Course_bookPay_50_l19_t p1 (f_Rules_ruling 3 p1 h) (fun r => f_Course_bookPay_50_a19_ok r ∧ (zSh zT0 (f_Course_bookPay_50_a19 r) → Q none (f_Course_bookPay_50_a19 r))) ?_ zF 0 (zs h 61 p1 0) hs ho.1 ⟨ho.2, hF⟩
  · intro v3_ h_ o3_ hs hG
    have ho : True := trivial
    have hF : (zSh zT0 ((f_Course_bookPay_50_k72 h_)) → Q none ((f_Course_bookPay_50_k72 h_))) := hG.2
    exact f_Course_bookPay_50_k72_t h_ (some (.ref 50)) p1 (some (.int (f_Rules_ruling 3 p1 h))) (o3_) hs trivial hF
set_option maxRecDepth 100000 in
set_option maxHeartbeats 400000 in
theorem f_Course_pass_50_k31_t {x : zm_X} {d : Nat} (v1 : Int32) (h : zm_H) (o2 : Option Value) {Q : Option Value → zm_H → Prop} (hs : zSh zT0 h) (ho : f_Course_pass_50_k31_ok v1 h) (hF : (zSh zT0 (f_Course_pass_50_k31 v1 h) → Q none (f_Course_pass_50_k31 v1 h))) : zg x (d + 5) 12 31 [some (.ref 50), some (.int v1), o2] [] h Q := by
  unfold f_Course_pass_50_k31 at hF
  unfold f_Course_pass_50_k31_ok at ho
  refine zg_blk zd_12 2 hs (rfl : zb x zT0 zc_12 2 (31, [some (.ref 50), some (.int v1), o2], [], h) = some (33, [some (.ref 50), some (.int v1), o2], [.int v1, .ref 50], h)) (fun hs => ?_)
  have hob := ho
  refine zg_call hs zd_12 rfl rfl rfl rfl (as := [.ref 50, .int v1]) (rest := []) (en := [some (.ref 50), some (.int v1), none, none]) rfl rfl rfl rfl rfl ?_
  refine f_Course_bookPay_50_t v1 h hs hob (fun hs => ?_)
  show zg x (d + 5) 12 36 [some (.ref 50), some (.int v1), o2] [] (f_Course_bookPay_50 v1 h) Q
  refine zg_blk zd_12 5 hs (rfl : zb x zT0 zc_12 5 (36, [some (.ref 50), some (.int v1), o2], [], (f_Course_bookPay_50 v1 h)) = some (43, [some (.ref 50), some (.int v1), o2], [], (zp (f_Course_bookPay_50 v1 h) 50 3 (v1 + 1)))) (fun hs => ?_)
  exact zg_ret zd_12 rfl rfl (hF hs)
set_option maxRecDepth 100000 in
set_option maxHeartbeats 400000 in
theorem f_Course_pass_50_k25_t {x : zm_X} {d : Nat} (v1 : Int32) (v2 : Int32) (h : zm_H) {Q : Option Value → zm_H → Prop} (hs : zSh zT0 h) (ho : f_Course_pass_50_k25_ok v1 v2 h) (hF : (zSh zT0 (f_Course_pass_50_k25 v1 v2 h) → Q none (f_Course_pass_50_k25 v1 v2 h))) : zg x (d + 5) 12 25 [some (.ref 50), some (.int v1), some (.int v2)] [] h Q := by
  unfold f_Course_pass_50_k25 at hF
  unfold f_Course_pass_50_k25_ok at ho
  refine zg_blk zd_12 3 hs (rfl : zb x zT0 zc_12 3 (25, [some (.ref 50), some (.int v1), some (.int v2)], [], h) = some (28, [some (.ref 50), some (.int v1), some (.int v2)], [.int v2, .int v1, .ref 50], h)) (fun hs => ?_)
  obtain ⟨hob, ho⟩ := ho
  refine zg_call hs zd_12 rfl rfl rfl rfl (as := [.ref 50, .int v1, .int v2]) (rest := []) (en := [some (.ref 50), some (.int v1), some (.int v2), none, none]) rfl rfl rfl rfl rfl ?_
  refine f_Course_strainChains_50_t v1 v2 h hs hob (fun hs => ?_)
  show zg x (d + 5) 12 31 [some (.ref 50), some (.int v1), some (.int v2)] [] (f_Course_strainChains_50 v1 v2 h) Q
  exact f_Course_pass_50_k31_t v1 (f_Course_strainChains_50 v1 v2 h) (some (.int v2)) hs ho hF
set_option maxRecDepth 100000 in
set_option maxHeartbeats 400000 in
theorem f_Course_pass_50_k19_t {x : zm_X} {d : Nat} (v1 : Int32) (v2 : Int32) (h : zm_H) {Q : Option Value → zm_H → Prop} (hs : zSh zT0 h) (ho : f_Course_pass_50_k19_ok v1 v2 h) (hF : (zSh zT0 (f_Course_pass_50_k19 v1 v2 h) → Q none (f_Course_pass_50_k19 v1 v2 h))) : zg x (d + 5) 12 19 [some (.ref 50), some (.int v1), some (.int v2)] [] h Q := by
  unfold f_Course_pass_50_k19 at hF
  unfold f_Course_pass_50_k19_ok at ho
  refine zg_blk zd_12 3 hs (rfl : zb x zT0 zc_12 3 (19, [some (.ref 50), some (.int v1), some (.int v2)], [], h) = some (22, [some (.ref 50), some (.int v1), some (.int v2)], [.int v2, .int v1, .ref 50], h)) (fun hs => ?_)
  obtain ⟨hob, ho⟩ := ho
  refine zg_call hs zd_12 rfl rfl rfl rfl (as := [.ref 50, .int v1, .int v2]) (rest := []) (en := [some (.ref 50), some (.int v1), some (.int v2), none]) rfl rfl rfl rfl rfl ?_
  refine f_Course_takeWaves_50_t v1 v2 h hs hob (fun hs => ?_)
  show zg x (d + 5) 12 25 [some (.ref 50), some (.int v1), some (.int v2)] [] (f_Course_takeWaves_50 v1 v2 h) Q
  exact f_Course_pass_50_k25_t v1 v2 (f_Course_takeWaves_50 v1 v2 h) hs ho hF
set_option maxRecDepth 100000 in
set_option maxHeartbeats 400000 in
theorem f_Course_pass_50_k14_t {x : zm_X} {d : Nat} (v1 : Int32) (v2 : Int32) (h : zm_H) {Q : Option Value → zm_H → Prop} (hs : zSh zT0 h) (ho : f_Course_pass_50_k14_ok v1 v2 h) (hF : (zSh zT0 (f_Course_pass_50_k14 v1 v2 h) → Q none (f_Course_pass_50_k14 v1 v2 h))) : zg x (d + 5) 12 14 [some (.ref 50), some (.int v1), some (.int v2)] [] h Q := by
  unfold f_Course_pass_50_k14 at hF
  unfold f_Course_pass_50_k14_ok at ho
  refine zg_blk zd_12 2 hs (rfl : zb x zT0 zc_12 2 (14, [some (.ref 50), some (.int v1), some (.int v2)], [], h) = some (16, [some (.ref 50), some (.int v1), some (.int v2)], [.int v1, .ref 50], h)) (fun hs => ?_)
  obtain ⟨hob, ho⟩ := ho
  refine zg_call hs zd_12 rfl rfl rfl rfl (as := [.ref 50, .int v1]) (rest := []) (en := [some (.ref 50), some (.int v1), none, none, none]) rfl rfl rfl rfl rfl ?_
  refine f_Course_sinkAndRise_50_t v1 h hs hob (fun hs => ?_)
  show zg x (d + 5) 12 19 [some (.ref 50), some (.int v1), some (.int v2)] [] (f_Course_sinkAndRise_50 v1 h) Q
  exact f_Course_pass_50_k19_t v1 v2 (f_Course_sinkAndRise_50 v1 h) hs ho hF
set_option maxRecDepth 100000 in
set_option maxHeartbeats 400000 in
theorem f_Course_pass_50_k5_t {x : zm_X} {d : Nat} (v1 : Int32) (v2 : Int32) (h : zm_H) {Q : Option Value → zm_H → Prop} (hs : zSh zT0 h) (ho : f_Course_pass_50_k5_ok v1 v2 h) (hF : (zSh zT0 (f_Course_pass_50_k5 v1 v2 h) → Q none (f_Course_pass_50_k5 v1 v2 h))) : zg x (d + 5) 12 5 [some (.ref 50), some (.int v1), some (.int v2)] [] h Q := by
  unfold f_Course_pass_50_k5 at hF
  unfold f_Course_pass_50_k5_ok at ho
  refine zg_blk zd_12 4 hs (rfl : zb x zT0 zc_12 4 (5, [some (.ref 50), some (.int v1), some (.int v2)], [], h) = some (11, [some (.ref 50), some (.int v1), some (.int v2)], [.int v2, .int v1, .ref 15], h)) (fun hs => ?_)
  refine zg_call hs zd_12 rfl rfl rfl rfl (as := [.ref 15, .int v1, .int v2]) (rest := []) (en := [some (.ref 15), some (.int v1), some (.int v2)]) rfl rfl rfl rfl rfl ?_
  refine f_Rules_nameSea_t v1 v2 h hs trivial (fun hs => ?_)
  show zg x (d + 5) 12 14 [some (.ref 50), some (.int v1), some (.int v2)] [] (f_Rules_nameSea v1 v2 h) Q
  exact f_Course_pass_50_k14_t v1 v2 (f_Rules_nameSea v1 v2 h) hs ho hF
set_option maxRecDepth 100000 in
set_option maxHeartbeats 400000 in
theorem f_Course_pass_50_t {x : zm_X} {d : Nat} (p1 : Int32) (p2 : Int32) (h : zm_H) {Q : Option Value → zm_H → Prop} (hs : zSh zT0 h) (ho : f_Course_pass_50_ok p1 p2 h) (hF : (zSh zT0 (f_Course_pass_50 p1 p2 h) → Q none (f_Course_pass_50 p1 p2 h))) : zg x (d + 5) 12 0 [some (.ref 50), some (.int p1), some (.int p2)] [] h Q := by
  unfold f_Course_pass_50 at hF
  unfold f_Course_pass_50_ok at ho
  refine zg_blk zd_12 2 hs (rfl : zb x zT0 zc_12 2 (0, [some (.ref 50), some (.int p1), some (.int p2)], [], h) = some (2, [some (.ref 50), some (.int p1), some (.int p2)], [.int p1, .ref 50], h)) (fun hs => ?_)
  obtain ⟨hob, ho⟩ := ho
  refine zg_call hs zd_12 rfl rfl rfl rfl (as := [.ref 50, .int p1]) (rest := []) (en := [some (.ref 50), some (.int p1), none]) rfl rfl rfl rfl rfl ?_
  refine f_Course_doThings_50_t p1 h hs hob (fun hs => ?_)
  show zg x (d + 5) 12 5 [some (.ref 50), some (.int p1), some (.int p2)] [] (f_Course_doThings_50 p1 h) Q
  exact f_Course_pass_50_k5_t p1 p2 (f_Course_doThings_50 p1 h) hs ho hF
set_option maxRecDepth 100000 in
set_option maxHeartbeats 400000 in
theorem f_N_goAnew_l63_k98_t {x : zm_X} {d : Nat} (v1 : Int32) (v3 : Int32) (v4 : Int32) (v5 : Int32) (h : zm_H) (z2 : Int32) {Q : Option Value → zm_H → Prop} {FN : Nat × Int32 × zm_H → Prop} (hs : zSh zT0 h) (ho : f_N_goAnew_l63_k98_ok v1 v3 v4 v5 h) (hF : FN (f_N_goAnew_l63_k98 v1 v3 v4 v5 h)) (hl0 : ∀ (v5 : Int32) (h : zm_H) (z2 : Int32), zSh zT0 h → FN (0, v5, h) → zg x (d + 6) 149 63 [some (.ref 0), some (.int v1), some (.int z2), some (.int v3), some (.int v4), some (.int v5)] [] h Q) (hl1 : ∀ (v5 : Int32) (h : zm_H) (z2 : Int32) (o5 : Option Value), zSh zT0 h → FN (1, v5, h) → zg x (d + 6) 149 104 [some (.ref 0), some (.int v1), some (.int z2), some (.int v3), some (.int v4), o5] [] h Q) : zg x (d + 6) 149 98 [some (.ref 0), some (.int v1), some (.int z2), some (.int v3), some (.int v4), some (.int v5)] [] h Q := by
  unfold f_N_goAnew_l63_k98 at hF
  unfold f_N_goAnew_l63_k98_ok at ho
  refine zg_blk zd_149 2 hs (rfl : zb x zT0 zc_149 2 (98, [some (.ref 0), some (.int v1), some (.int z2), some (.int v3), some (.int v4), some (.int v5)], [], h) = some (63, [some (.ref 0), some (.int v1), some (.int z2), some (.int v3), some (.int v4), some (.int (v5 + 1))], [], h)) (fun hs => ?_)
  exact hl0 (v5 + 1) h z2 hs hF
set_option maxRecDepth 100000 in
set_option maxHeartbeats 400000 in
theorem f_N_goAnew_l63_b_t {x : zm_X} {d : Nat} (v1 : Int32) (v3 : Int32) (v4 : Int32) (v5 : Int32) (h : zm_H) (z2 : Int32) {Q : Option Value → zm_H → Prop} {FN : Nat × Int32 × zm_H → Prop} (hs : zSh zT0 h) (ho : f_N_goAnew_l63_b_ok v1 v3 v4 v5 h) (hF : FN (f_N_goAnew_l63_b v1 v3 v4 v5 h)) (hl0 : ∀ (v5 : Int32) (h : zm_H) (z2 : Int32), zSh zT0 h → FN (0, v5, h) → zg x (d + 6) 149 63 [some (.ref 0), some (.int v1), some (.int z2), some (.int v3), some (.int v4), some (.int v5)] [] h Q) (hl1 : ∀ (v5 : Int32) (h : zm_H) (z2 : Int32) (o5 : Option Value), zSh zT0 h → FN (1, v5, h) → zg x (d + 6) 149 104 [some (.ref 0), some (.int v1), some (.int z2), some (.int v3), some (.int v4), o5] [] h Q) : zg x (d + 6) 149 63 [some (.ref 0), some (.int v1), some (.int z2), some (.int v3), some (.int v4), some (.int v5)] [] h Q := by
  unfold f_N_goAnew_l63_b at hF
  unfold f_N_goAnew_l63_b_ok at ho
  refine zg_blk zd_149 2 hs (rfl : zb x zT0 zc_149 2 (63, [some (.ref 0), some (.int v1), some (.int z2), some (.int v3), some (.int v4), some (.int v5)], [], h) = some (66, [some (.ref 0), some (.int v1), some (.int z2), some (.int v3), some (.int v4), some (.int v5)], [.int v1, .int v5], h)) (fun hs => ?_)
  refine zg_i_gt zd_149 rfl (fun (hc : (v1 < v5)) => ?_) (fun (hc : ¬ (v1 < v5)) => ?_)
  · have ho := ho.1 hc
    rw [if_pos hc] at hF
    exact hl1 v5 h z2 (some (.int v5)) hs hF
  · have ho := ho.2 hc
    rw [if_neg hc] at hF
    refine zg_blk zd_149 2 hs (rfl : zb x zT0 zc_149 2 (69, [some (.ref 0), some (.int v1), some (.int z2), some (.int v3), some (.int v4), some (.int v5)], [], h) = some (74, [some (.ref 0), some (.int v1), some (.int z2), some (.int v3), some (.int v4), some (.int v5)], [.int 480, .int v5], h)) (fun hs => ?_)
    refine zg_i_ge zd_149 rfl (fun (hc : (480 ≤ v5)) => ?_) (fun (hc : ¬ (480 ≤ v5)) => ?_)
    · have ho := ho.1 hc
      rw [if_pos hc] at hF
      exact hl1 v5 h z2 (some (.int v5)) hs hF
    · have ho := ho.2 hc
      rw [if_neg hc] at hF
      refine zg_blk zd_149 8 hs (rfl : zb x zT0 zc_149 8 (77, [some (.ref 0), some (.int v1), some (.int z2), some (.int v3), some (.int v4), some (.int v5)], [], h) = some (92, [some (.ref 0), some (.int v1), some (.int z2), some (.int v3), some (.int v4), some (.int v5)], [.int v4, .int v3, .int v5, .ref 1, .int v5, .ref 50], h)) (fun hs => ?_)
      obtain ⟨hob, ho⟩ := ho
      refine zg_call hs zd_149 rfl rfl rfl rfl (as := [.ref 1, .int v5, .int v3, .int v4]) (rest := [.int v5, .ref 50]) (en := [some (.ref 1), some (.int v5), some (.int v3), some (.int v4), none, none]) rfl rfl rfl rfl rfl ?_
      refine f_Swell_look_t v5 v3 v4 h hs hob ?_
      show zg x (d + 6) 149 95 [some (.ref 0), some (.int v1), some (.int z2), some (.int v3), some (.int v4), some (.int v5)] [.int (f_Swell_look v5 v3 v4 h), .int v5, .ref 50] h Q
      have hob := ho
      refine zg_call hs zd_149 rfl rfl rfl rfl (as := [.ref 50, .int v5, .int (f_Swell_look v5 v3 v4 h)]) (rest := []) (en := [some (.ref 50), some (.int v5), some (.int (f_Swell_look v5 v3 v4 h))]) rfl rfl rfl rfl rfl ?_
      refine f_Course_pass_50_t v5 (f_Swell_look v5 v3 v4 h) h hs hob (fun hs => ?_)
      show zg x (d + 6) 149 98 [some (.ref 0), some (.int v1), some (.int z2), some (.int v3), some (.int v4), some (.int v5)] [] (f_Course_pass_50 v5 (f_Swell_look v5 v3 v4 h) h) Q
      exact f_N_goAnew_l63_k98_t v1 v3 v4 v5 (f_Course_pass_50 v5 (f_Swell_look v5 v3 v4 h) h) z2 hs trivial hF hl0 hl1
theorem f_N_goAnew_l63_t {x : zm_X} {d : Nat} (v1 : Int32) (v3 : Int32) (v4 : Int32) {Q : Option Value → zm_H → Prop} (G : Nat × Int32 × zm_H → Prop) (hx1 : ∀ (v5 : Int32) (h : zm_H) (z2 : Int32) (o5 : Option Value), zSh zT0 h → G (1, v5, h) → zg x (d + 6) 149 104 [some (.ref 0), some (.int v1), some (.int z2), some (.int v3), some (.int v4), o5] [] h Q) : ∀ (n : Nat) (v5 : Int32) (h : zm_H) (z2 : Int32), zSh zT0 h → f_N_goAnew_l63_ok v1 v3 v4 n (v5, h) → G (f_N_goAnew_l63 v1 v3 v4 n (v5, h)) → zg x (d + 6) 149 63 [some (.ref 0), some (.int v1), some (.int z2), some (.int v3), some (.int v4), some (.int v5)] [] h Q := by
  intro n
  induction n with
  | zero => intro v5 h z2 hs ho hG; exact ho.elim
  | succ n ih =>
    intro v5 h z2 hs ho hG
    refine f_N_goAnew_l63_b_t (FN := fun r => (r.1 = 0 → f_N_goAnew_l63_ok v1 v3 v4 n r.2) ∧ G (if r.1 = 0 then f_N_goAnew_l63 v1 v3 v4 n r.2 else r)) v1 v3 v4 v5 h z2 hs ho.1 ⟨ho.2, hG⟩ ?_ ?_
    · intro v5 h z2 hs hF
      exact ih v5 h z2 hs (hF.1 rfl) hF.2
    · intro v5 h z2 o5 hs hF
      exact hx1 v5 h z2 o5 hs hF.2

set_option maxRecDepth 100000 in
set_option maxHeartbeats 400000 in
theorem f_N_goAnew_k104_t {x : zm_X} {d : Nat} (h : zm_H) (o0 : Option Value) (o1 : Option Value) (z2 : Int32) (o3 : Option Value) (o4 : Option Value) (o5 : Option Value) {Q : Option Value → zm_H → Prop} (hs : zSh zT0 h) (ho : f_N_goAnew_k104_ok h) (hF : (zSh zT0 (f_N_goAnew_k104 h) → Q none (f_N_goAnew_k104 h))) : zg x (d + 6) 149 104 [o0, o1, some (.int z2), o3, o4, o5] [] h Q := by
  unfold f_N_goAnew_k104 at hF
  unfold f_N_goAnew_k104_ok at ho
  exact zg_ret zd_149 rfl rfl (hF hs)
set_option maxRecDepth 100000 in
set_option maxHeartbeats 400000 in
theorem f_N_goAnew_k54_t {x : zm_X} {d : Nat} (v1 : Int32) (v3 : Int32) (v4 : Int32) (h : zm_H) (z2 : Int32) (o5 : Option Value) {Q : Option Value → zm_H → Prop} (hs : zSh zT0 h) (ho : f_N_goAnew_k54_ok v1 v3 v4 h) (hF : (zSh zT0 (f_N_goAnew_k54 v1 v3 v4 h) → Q none (f_N_goAnew_k54 v1 v3 v4 h))) : zg x (d + 6) 149 54 [some (.ref 0), some (.int v1), some (.int z2), some (.int v3), some (.int v4), o5] [] h Q := by
  unfold f_N_goAnew_k54 at hF
  unfold f_N_goAnew_k54_ok at ho
  refine zg_blk zd_149 4 hs (rfl : zb x zT0 zc_149 4 (54, [some (.ref 0), some (.int v1), some (.int z2), some (.int v3), some (.int v4), o5], [], h) = some (63, [some (.ref 0), some (.int v1), some (.int z2), some (.int v3), some (.int v4), some (.int (zf h 50 3))], [], h)) (fun hs => ?_)
  refine f_N_goAnew_l63_t v1 v3 v4 (fun r => f_N_goAnew_a63_ok r ∧ (zSh zT0 (f_N_goAnew_a63 r) → Q none (f_N_goAnew_a63 r))) ?_ zF (zf h 50 3) h z2 hs ho.1 ⟨ho.2, hF⟩
  · intro v5_ h_ z2_ o5_ hs hG
    have ho : True := trivial
    have hF : (zSh zT0 ((f_N_goAnew_k104 h_)) → Q none ((f_N_goAnew_k104 h_))) := hG.2
    exact f_N_goAnew_k104_t h_ (some (.ref 0)) (some (.int v1)) z2_ (some (.int v3)) (some (.int v4)) (o5_) hs trivial hF
set_option maxRecDepth 100000 in
set_option maxHeartbeats 400000 in
theorem f_N_goAnew_k43_t {x : zm_X} {d : Nat} (v1 : Int32) (v3 : Int32) (v4 : Int32) (h : zm_H) (z2 : Int32) (o5 : Option Value) {Q : Option Value → zm_H → Prop} (hs : zSh zT0 h) (ho : f_N_goAnew_k43_ok v1 v3 v4 h) (hF : (zSh zT0 (f_N_goAnew_k43 v1 v3 v4 h) → Q none (f_N_goAnew_k43 v1 v3 v4 h))) : zg x (d + 6) 149 43 [some (.ref 0), some (.int v1), some (.int z2), some (.int v3), some (.int v4), o5] [] h Q := by
  unfold f_N_goAnew_k43 at hF
  unfold f_N_goAnew_k43_ok at ho
  refine zg_blk zd_149 6 hs (rfl : zb x zT0 zc_149 6 (43, [some (.ref 0), some (.int v1), some (.int z2), some (.int v3), some (.int v4), o5], [], h) = some (54, [some (.ref 0), some (.int v1), some (.int z2), some (.int v3), some (.int v4), o5], [], (zp (zp h 0 10 v3) 0 11 v4))) (fun hs => ?_)
  exact f_N_goAnew_k54_t v1 v3 v4 (zp (zp h 0 10 v3) 0 11 v4) z2 (o5) hs ho hF
set_option maxRecDepth 100000 in
set_option maxHeartbeats 400000 in
theorem f_N_goAnew_k36_t {x : zm_X} {d : Nat} (v1 : Int32) (v3 : Int32) (v4 : Int32) (h : zm_H) (z2 : Int32) (o5 : Option Value) {Q : Option Value → zm_H → Prop} (hs : zSh zT0 h) (ho : f_N_goAnew_k36_ok v1 v3 v4 h) (hF : (zSh zT0 (f_N_goAnew_k36 v1 v3 v4 h) → Q none (f_N_goAnew_k36 v1 v3 v4 h))) : zg x (d + 6) 149 36 [some (.ref 0), some (.int v1), some (.int z2), some (.int v3), some (.int v4), o5] [] h Q := by
  unfold f_N_goAnew_k36 at hF
  unfold f_N_goAnew_k36_ok at ho
  refine zg_blk zd_149 2 hs (rfl : zb x zT0 zc_149 2 (36, [some (.ref 0), some (.int v1), some (.int z2), some (.int v3), some (.int v4), o5], [], h) = some (40, [some (.ref 0), some (.int v1), some (.int z2), some (.int v3), some (.int v4), o5], [.ref 50], h)) (fun hs => ?_)
  obtain ⟨hob, ho⟩ := ho
  refine zg_call hs zd_149 rfl rfl rfl rfl (as := [.ref 50]) (rest := []) (en := [some (.ref 50), none]) rfl rfl rfl rfl rfl ?_
  refine f_Course_forgetAll_50_t  h hs hob (fun hs => ?_)
  show zg x (d + 6) 149 43 [some (.ref 0), some (.int v1), some (.int z2), some (.int v3), some (.int v4), o5] [] (f_Course_forgetAll_50 h) Q
  exact f_N_goAnew_k43_t v1 v3 v4 (f_Course_forgetAll_50 h) z2 (o5) hs ho hF
set_option maxRecDepth 100000 in
set_option maxHeartbeats 400000 in
theorem f_N_goAnew_t {x : zm_X} {d : Nat} (p1 : Int32) (p2 : Int32) (h : zm_H) {Q : Option Value → zm_H → Prop} (hs : zSh zT0 h) (ho : f_N_goAnew_ok p1 p2 h) (hF : (zSh zT0 (f_N_goAnew p1 p2 h) → Q none (f_N_goAnew p1 p2 h))) : zg x (d + 6) 149 0 [some (.ref 0), some (.int p1), some (.int p2), none, none, none] [] h Q := by
  unfold f_N_goAnew at hF
  unfold f_N_goAnew_ok at ho
  refine zg_blk zd_149 3 hs (rfl : zb x zT0 zc_149 3 (0, [some (.ref 0), some (.int p1), some (.int p2), none, none, none], [], h) = some (5, [some (.ref 0), some (.int p1), some (.int p2), none, none, none], [.int p2, .ref 1], h)) (fun hs => ?_)
  obtain ⟨hob, ho⟩ := ho
  refine zg_call hs zd_149 rfl rfl rfl rfl (as := [.ref 1, .int p2]) (rest := []) (en := [some (.ref 1), some (.int p2)]) rfl rfl rfl rfl rfl ?_
  refine f_Swell_readingsUpTo_t p2 h hs hob ?_
  show zg x (d + 6) 149 8 [some (.ref 0), some (.int p1), some (.int p2), none, none, none] [.int (f_Swell_readingsUpTo p2 h)] h Q
  refine zg_blk zd_149 4 hs (rfl : zb x zT0 zc_149 4 (8, [some (.ref 0), some (.int p1), some (.int p2), none, none, none], [.int (f_Swell_readingsUpTo p2 h)], h) = some (14, [some (.ref 0), some (.int p1), some (.int p2), some (.int (f_Swell_readingsUpTo p2 h)), none, none], [.int p2, .ref 1], h)) (fun hs => ?_)
  obtain ⟨hob, ho⟩ := ho
  refine zg_call hs zd_149 rfl rfl rfl rfl (as := [.ref 1, .int p2]) (rest := []) (en := [some (.ref 1), some (.int p2)]) rfl rfl rfl rfl rfl ?_
  refine f_Swell_driftsUpTo_t p2 h hs hob ?_
  show zg x (d + 6) 149 17 [some (.ref 0), some (.int p1), some (.int p2), some (.int (f_Swell_readingsUpTo p2 h)), none, none] [.int (f_Swell_driftsUpTo p2 h)] h Q
  refine zg_blk zd_149 4 hs (rfl : zb x zT0 zc_149 4 (17, [some (.ref 0), some (.int p1), some (.int p2), some (.int (f_Swell_readingsUpTo p2 h)), none, none], [.int (f_Swell_driftsUpTo p2 h)], h) = some (24, [some (.ref 0), some (.int p1), some (.int p2), some (.int (f_Swell_readingsUpTo p2 h)), some (.int (f_Swell_driftsUpTo p2 h)), none], [.int (zf h 0 10), .int (f_Swell_readingsUpTo p2 h)], h)) (fun hs => ?_)
  refine zg_i_ne zd_149 rfl (fun (hc : ¬ ((f_Swell_readingsUpTo p2 h) = (zf h 0 10))) => ?_) (fun (hc : ((f_Swell_readingsUpTo p2 h) = (zf h 0 10))) => ?_)
  · have ho := ho.2 hc
    rw [if_neg hc] at hF
    exact f_N_goAnew_k36_t p1 (f_Swell_readingsUpTo p2 h) (f_Swell_driftsUpTo p2 h) h p2 (none) hs ho hF
  · have ho := ho.1 hc
    rw [if_pos hc] at hF
    refine zg_blk zd_149 3 hs (rfl : zb x zT0 zc_149 3 (27, [some (.ref 0), some (.int p1), some (.int p2), some (.int (f_Swell_readingsUpTo p2 h)), some (.int (f_Swell_driftsUpTo p2 h)), none], [], h) = some (33, [some (.ref 0), some (.int p1), some (.int p2), some (.int (f_Swell_readingsUpTo p2 h)), some (.int (f_Swell_driftsUpTo p2 h)), none], [.int (zf h 0 11), .int (f_Swell_driftsUpTo p2 h)], h)) (fun hs => ?_)
    refine zg_i_eq zd_149 rfl (fun (hc : ((f_Swell_driftsUpTo p2 h) = (zf h 0 11))) => ?_) (fun (hc : ¬ ((f_Swell_driftsUpTo p2 h) = (zf h 0 11))) => ?_)
    · have ho := ho.1 hc
      rw [if_pos hc] at hF
      exact f_N_goAnew_k54_t p1 (f_Swell_readingsUpTo p2 h) (f_Swell_driftsUpTo p2 h) h p2 (none) hs ho hF
    · have ho := ho.2 hc
      rw [if_neg hc] at hF
      exact f_N_goAnew_k36_t p1 (f_Swell_readingsUpTo p2 h) (f_Swell_driftsUpTo p2 h) h p2 (none) hs ho hF
set_option maxRecDepth 100000 in
set_option maxHeartbeats 400000 in
theorem f_Course_ofSpell_50_t {x : zm_X} {d : Nat} (p1 : Int32) (p2 : Int32) (h : zm_H) {Q : Option Value → zm_H → Prop} (hs : zSh zT0 h) (ho : f_Course_ofSpell_50_ok p1 p2 h) (hF : Q (some (.int (f_Course_ofSpell_50 p1 p2 h))) h) : zg x (d + 1) 30 0 [some (.ref 50), some (.int p1), some (.int p2)] [] h Q := by
  unfold f_Course_ofSpell_50 at hF
  unfold f_Course_ofSpell_50_ok at ho
  refine zg_blk zd_30 1 hs (rfl : zb x zT0 zc_30 1 (0, [some (.ref 50), some (.int p1), some (.int p2)], [], h) = some (1, [some (.ref 50), some (.int p1), some (.int p2)], [.int p2], h)) (fun hs => ?_)
  refine zg_f_ne zd_30 rfl (fun (hc : ¬ (p2 = 0)) => ?_) (fun (hc : (p2 = 0)) => ?_)
  · have ho := ho.2 hc
    rw [show ((if (p2 = 0) then ((zr h 60 p1) : Int32) else (if (p2 = 1) then ((zr h 61 p1) : Int32) else (if (p2 < 10) then ((-2147483648) : Int32) else (if (20 ≤ p2) then ((-2147483648) : Int32) else (zr h 62 (((p1 * 10) + p2) - 10)))))) : Int32) = (if (p2 = 1) then ((zr h 61 p1) : Int32) else (if (p2 < 10) then ((-2147483648) : Int32) else (if (20 ≤ p2) then ((-2147483648) : Int32) else (zr h 62 (((p1 * 10) + p2) - 10))))) from if_neg hc] at hF
    refine zg_blk zd_30 2 hs (rfl : zb x zT0 zc_30 2 (11, [some (.ref 50), some (.int p1), some (.int p2)], [], h) = some (13, [some (.ref 50), some (.int p1), some (.int p2)], [.int 1, .int p2], h)) (fun hs => ?_)
    refine zg_i_ne zd_30 rfl (fun (hc : ¬ (p2 = 1)) => ?_) (fun (hc : (p2 = 1)) => ?_)
    · have ho := ho.2 hc
      rw [show ((if (p2 = 1) then ((zr h 61 p1) : Int32) else (if (p2 < 10) then ((-2147483648) : Int32) else (if (20 ≤ p2) then ((-2147483648) : Int32) else (zr h 62 (((p1 * 10) + p2) - 10))))) : Int32) = (if (p2 < 10) then ((-2147483648) : Int32) else (if (20 ≤ p2) then ((-2147483648) : Int32) else (zr h 62 (((p1 * 10) + p2) - 10)))) from if_neg hc] at hF
      refine zg_blk zd_30 2 hs (rfl : zb x zT0 zc_30 2 (23, [some (.ref 50), some (.int p1), some (.int p2)], [], h) = some (26, [some (.ref 50), some (.int p1), some (.int p2)], [.int 10, .int p2], h)) (fun hs => ?_)
      have hom := ho
      have K137 : zSh zT0 h → zg x (d + 1) 30 54 [some (.ref 50), some (.int p1), some (.int p2)] [.int (if (p2 < 10) then ((-2147483648) : Int32) else (if (20 ≤ p2) then ((-2147483648) : Int32) else (zr h 62 (((p1 * 10) + p2) - 10))))] h Q := fun hs => by
        exact zg_ret zd_30 rfl rfl hF
      refine zg_i_lt zd_30 rfl (fun (hc : (p2 < 10)) => ?_) (fun (hc : ¬ (p2 < 10)) => ?_)
      · have ho := hom.1 hc
        rw [show ((if (p2 < 10) then ((-2147483648) : Int32) else (if (20 ≤ p2) then ((-2147483648) : Int32) else (zr h 62 (((p1 * 10) + p2) - 10)))) : Int32) = (-2147483648) from if_pos hc] at K137
        refine zg_blk zd_30 1 hs (rfl : zb x zT0 zc_30 1 (52, [some (.ref 50), some (.int p1), some (.int p2)], [], h) = some (54, [some (.ref 50), some (.int p1), some (.int p2)], [.int (-2147483648)], h)) (fun hs => ?_)
        exact K137 hs
      · have ho := hom.2 hc
        rw [show ((if (p2 < 10) then ((-2147483648) : Int32) else (if (20 ≤ p2) then ((-2147483648) : Int32) else (zr h 62 (((p1 * 10) + p2) - 10)))) : Int32) = (if (20 ≤ p2) then ((-2147483648) : Int32) else (zr h 62 (((p1 * 10) + p2) - 10))) from if_neg hc] at K137
        refine zg_blk zd_30 2 hs (rfl : zb x zT0 zc_30 2 (29, [some (.ref 50), some (.int p1), some (.int p2)], [], h) = some (32, [some (.ref 50), some (.int p1), some (.int p2)], [.int 20, .int p2], h)) (fun hs => ?_)
        refine zg_i_ge zd_30 rfl (fun (hc : (20 ≤ p2)) => ?_) (fun (hc : ¬ (20 ≤ p2)) => ?_)
        · have ho := ho.1 hc
          rw [show ((if (20 ≤ p2) then ((-2147483648) : Int32) else (zr h 62 (((p1 * 10) + p2) - 10))) : Int32) = (-2147483648) from if_pos hc] at K137
          refine zg_blk zd_30 1 hs (rfl : zb x zT0 zc_30 1 (52, [some (.ref 50), some (.int p1), some (.int p2)], [], h) = some (54, [some (.ref 50), some (.int p1), some (.int p2)], [.int (-2147483648)], h)) (fun hs => ?_)
          exact K137 hs
        · have ho := ho.2 hc
          rw [show ((if (20 ≤ p2) then ((-2147483648) : Int32) else (zr h 62 (((p1 * 10) + p2) - 10))) : Int32) = (zr h 62 (((p1 * 10) + p2) - 10)) from if_neg hc] at K137
          refine zg_blk zd_30 9 hs (rfl : zb x zT0 zc_30 9 (35, [some (.ref 50), some (.int p1), some (.int p2)], [], h) = some (48, [some (.ref 50), some (.int p1), some (.int p2)], [.int (((p1 * 10) + p2) - 10), .ref 62], h)) (fun hs => ?_)
          have hob := ho
          refine zg_ial hs zd_30 rfl rfl hob ?_
          refine zg_blk zd_30 1 hs (rfl : zb x zT0 zc_30 1 (49, [some (.ref 50), some (.int p1), some (.int p2)], [.int (zr h 62 (((p1 * 10) + p2) - 10))], h) = some (54, [some (.ref 50), some (.int p1), some (.int p2)], [.int (zr h 62 (((p1 * 10) + p2) - 10))], h)) (fun hs => ?_)
          exact K137 hs
    · have ho := ho.1 hc
      rw [show ((if (p2 = 1) then ((zr h 61 p1) : Int32) else (if (p2 < 10) then ((-2147483648) : Int32) else (if (20 ≤ p2) then ((-2147483648) : Int32) else (zr h 62 (((p1 * 10) + p2) - 10))))) : Int32) = (zr h 61 p1) from if_pos hc] at hF
      refine zg_blk zd_30 3 hs (rfl : zb x zT0 zc_30 3 (16, [some (.ref 50), some (.int p1), some (.int p2)], [], h) = some (21, [some (.ref 50), some (.int p1), some (.int p2)], [.int p1, .ref 61], h)) (fun hs => ?_)
      have hob := ho
      refine zg_ial hs zd_30 rfl rfl hob ?_
      exact zg_ret zd_30 rfl rfl hF
  · have ho := ho.1 hc
    rw [show ((if (p2 = 0) then ((zr h 60 p1) : Int32) else (if (p2 = 1) then ((zr h 61 p1) : Int32) else (if (p2 < 10) then ((-2147483648) : Int32) else (if (20 ≤ p2) then ((-2147483648) : Int32) else (zr h 62 (((p1 * 10) + p2) - 10)))))) : Int32) = (zr h 60 p1) from if_pos hc] at hF
    refine zg_blk zd_30 3 hs (rfl : zb x zT0 zc_30 3 (4, [some (.ref 50), some (.int p1), some (.int p2)], [], h) = some (9, [some (.ref 50), some (.int p1), some (.int p2)], [.int p1, .ref 60], h)) (fun hs => ?_)
    have hob := ho
    refine zg_ial hs zd_30 rfl rfl hob ?_
    exact zg_ret zd_30 rfl rfl hF
set_option maxRecDepth 100000 in
set_option maxHeartbeats 400000 in
theorem f_N_right_k37_t {x : zm_X} {d : Nat} (v1 : Int32) (v3 : Int32) (h : zm_H) (o2 : Option Value) {Q : Option Value → zm_H → Prop} (hs : zSh zT0 h) (ho : f_N_right_k37_ok v1 v3 h) (hF : (zSh zT0 (f_N_right_k37 v1 v3 h).2 → Q (some (.int (f_N_right_k37 v1 v3 h).1)) (f_N_right_k37 v1 v3 h).2)) : zg x (d + 7) 148 37 [some (.ref 0), some (.int v1), o2, some (.int v3)] [] h Q := by
  unfold f_N_right_k37 at hF
  unfold f_N_right_k37_ok at ho
  refine zg_blk zd_148 4 hs (rfl : zb x zT0 zc_148 4 (37, [some (.ref 0), some (.int v1), o2, some (.int v3)], [], h) = some (43, [some (.ref 0), some (.int v1), o2, some (.int v3)], [.int v3, .int v1, .ref 50], h)) (fun hs => ?_)
  have hob := ho
  refine zg_call hs zd_148 rfl rfl rfl rfl (as := [.ref 50, .int v1, .int v3]) (rest := []) (en := [some (.ref 50), some (.int v1), some (.int v3)]) rfl rfl rfl rfl rfl ?_
  refine f_Course_ofSpell_50_t v1 v3 h hs hob ?_
  show zg x (d + 7) 148 46 [some (.ref 0), some (.int v1), o2, some (.int v3)] [.int (f_Course_ofSpell_50 v1 v3 h)] h Q
  exact zg_ret zd_148 rfl rfl (hF hs)
set_option maxRecDepth 100000 in
set_option maxHeartbeats 400000 in
theorem f_N_right_t {x : zm_X} {d : Nat} (p1 : Int32) (p2 : Int32) (p3 : Int32) (h : zm_H) {Q : Option Value → zm_H → Prop} (hs : zSh zT0 h) (ho : f_N_right_ok p1 p2 p3 h) (hF : (zSh zT0 (f_N_right p1 p2 p3 h).2 → Q (some (.int (f_N_right p1 p2 p3 h).1)) (f_N_right p1 p2 p3 h).2)) : zg x (d + 7) 148 0 [some (.ref 0), some (.int p1), some (.int p2), some (.int p3)] [] h Q := by
  unfold f_N_right at hF
  unfold f_N_right_ok at ho
  refine zg_blk zd_148 2 hs (rfl : zb x zT0 zc_148 2 (0, [some (.ref 0), some (.int p1), some (.int p2), some (.int p3)], [], h) = some (2, [some (.ref 0), some (.int p1), some (.int p2), some (.int p3)], [.int p1, .ref 0], h)) (fun hs => ?_)
  refine zg_call hs zd_148 rfl rfl rfl rfl (as := [.ref 0, .int p1]) (rest := []) (en := [some (.ref 0), some (.int p1)]) rfl rfl rfl rfl rfl ?_
  refine f_N_isOver_t p1 h hs trivial ?_
  show zg x (d + 7) 148 5 [some (.ref 0), some (.int p1), some (.int p2), some (.int p3)] [.int (if (¬ (p1 < 0) ∧ (¬ ((zf h 0 0) ≤ p1))) then (1 : Int32) else 0)] h Q
  refine zg_b_eq zd_148 rfl (fun (hc : ¬ (¬ (p1 < 0) ∧ (¬ ((zf h 0 0) ≤ p1)))) => ?_) (fun (hc : (¬ (p1 < 0) ∧ (¬ ((zf h 0 0) ≤ p1)))) => ?_)
  · have ho := ho.2 hc
    rw [if_neg hc] at hF
    refine zg_blk zd_148 1 hs (rfl : zb x zT0 zc_148 1 (28, [some (.ref 0), some (.int p1), some (.int p2), some (.int p3)], [], h) = some (30, [some (.ref 0), some (.int p1), some (.int p2), some (.int p3)], [.int (-2147483648)], h)) (fun hs => ?_)
    exact zg_ret zd_148 rfl rfl (hF hs)
  · have ho := ho.1 hc
    rw [if_pos hc] at hF
    refine zg_blk zd_148 1 hs (rfl : zb x zT0 zc_148 1 (8, [some (.ref 0), some (.int p1), some (.int p2), some (.int p3)], [], h) = some (9, [some (.ref 0), some (.int p1), some (.int p2), some (.int p3)], [.int p2], h)) (fun hs => ?_)
    refine zg_call hs zd_148 rfl rfl rfl rfl (as := [.int p2]) (rest := []) (en := [some (.int p2)]) rfl rfl rfl rfl rfl ?_
    refine f_N_isSpell_t p2 h hs trivial ?_
    show zg x (d + 7) 148 12 [some (.ref 0), some (.int p1), some (.int p2), some (.int p3)] [.int (if (¬ (p2 < 0) ∧ (¬ (480 ≤ p2))) then (1 : Int32) else 0)] h Q
    refine zg_b_eq zd_148 rfl (fun (hc : ¬ (¬ (p2 < 0) ∧ (¬ (480 ≤ p2)))) => ?_) (fun (hc : (¬ (p2 < 0) ∧ (¬ (480 ≤ p2)))) => ?_)
    · have ho := ho.2 hc
      rw [if_neg hc] at hF
      refine zg_blk zd_148 1 hs (rfl : zb x zT0 zc_148 1 (28, [some (.ref 0), some (.int p1), some (.int p2), some (.int p3)], [], h) = some (30, [some (.ref 0), some (.int p1), some (.int p2), some (.int p3)], [.int (-2147483648)], h)) (fun hs => ?_)
      exact zg_ret zd_148 rfl rfl (hF hs)
    · have ho := ho.1 hc
      rw [if_pos hc] at hF
      refine zg_blk zd_148 2 hs (rfl : zb x zT0 zc_148 2 (15, [some (.ref 0), some (.int p1), some (.int p2), some (.int p3)], [], h) = some (17, [some (.ref 0), some (.int p1), some (.int p2), some (.int p3)], [.int p1, .int p2], h)) (fun hs => ?_)
      refine zg_i_lt zd_148 rfl (fun (hc : (p2 < p1)) => ?_) (fun (hc : ¬ (p2 < p1)) => ?_)
      · have ho := ho.1 hc
        rw [if_pos hc] at hF
        refine zg_blk zd_148 1 hs (rfl : zb x zT0 zc_148 1 (28, [some (.ref 0), some (.int p1), some (.int p2), some (.int p3)], [], h) = some (30, [some (.ref 0), some (.int p1), some (.int p2), some (.int p3)], [.int (-2147483648)], h)) (fun hs => ?_)
        exact zg_ret zd_148 rfl rfl (hF hs)
      · have ho := ho.2 hc
        rw [if_neg hc] at hF
        refine zg_blk zd_148 3 hs (rfl : zb x zT0 zc_148 3 (20, [some (.ref 0), some (.int p1), some (.int p2), some (.int p3)], [], h) = some (25, [some (.ref 0), some (.int p1), some (.int p2), some (.int p3)], [.int (zf h 0 0), .int p2], h)) (fun hs => ?_)
        refine zg_i_le zd_148 rfl (fun (hc : (p2 ≤ (zf h 0 0))) => ?_) (fun (hc : ¬ (p2 ≤ (zf h 0 0))) => ?_)
        · have ho := ho.1 hc
          rw [if_pos hc] at hF
          refine zg_blk zd_148 3 hs (rfl : zb x zT0 zc_148 3 (31, [some (.ref 0), some (.int p1), some (.int p2), some (.int p3)], [], h) = some (34, [some (.ref 0), some (.int p1), some (.int p2), some (.int p3)], [.int p2, .int p1, .ref 0], h)) (fun hs => ?_)
          obtain ⟨hob, ho⟩ := ho
          refine zg_call hs zd_148 rfl rfl rfl rfl (as := [.ref 0, .int p1, .int p2]) (rest := []) (en := [some (.ref 0), some (.int p1), some (.int p2), none, none, none]) rfl rfl rfl rfl rfl ?_
          refine f_N_goAnew_t p1 p2 h hs hob (fun hs => ?_)
          show zg x (d + 7) 148 37 [some (.ref 0), some (.int p1), some (.int p2), some (.int p3)] [] (f_N_goAnew p1 p2 h) Q
          exact f_N_right_k37_t p1 p3 (f_N_goAnew p1 p2 h) (some (.int p2)) hs ho hF
        · have ho := ho.2 hc
          rw [if_neg hc] at hF
          refine zg_blk zd_148 1 hs (rfl : zb x zT0 zc_148 1 (28, [some (.ref 0), some (.int p1), some (.int p2), some (.int p3)], [], h) = some (30, [some (.ref 0), some (.int p1), some (.int p2), some (.int p3)], [.int (-2147483648)], h)) (fun hs => ?_)
          exact zg_ret zd_148 rfl rfl (hF hs)
theorem zd_236 : zm_cd 236 = zc_236 := by rfl
theorem zd_237 : zm_cd 237 = zc_237 := by rfl
set_option maxRecDepth 100000 in
set_option maxHeartbeats 400000 in
theorem f_M_lastKnown_t {x : zm_X} {d : Nat} (h : zm_H) {Q : Option Value → zm_H → Prop} (hs : zSh zT0 h) (ho : f_M_lastKnown_ok h) (hF : Q (some (.int (f_M_lastKnown h))) h) : zg x (d + 1) 237 0 [some (.ref 92)] [] h Q := by
  unfold f_M_lastKnown at hF
  unfold f_M_lastKnown_ok at ho
  refine zg_blk zd_237 3 hs (rfl : zb x zT0 zc_237 3 (0, [some (.ref 92)], [], h) = some (7, [some (.ref 92)], [.int 480, .int (zf h 92 23)], h)) (fun hs => ?_)
  have K138 : zSh zT0 h → zg x (d + 1) 237 20 [some (.ref 92)] [.int (if (480 ≤ (zf h 92 23)) then (479 : Int32) else (zf h 92 23))] h Q := fun hs => by
    exact zg_ret zd_237 rfl rfl hF
  refine zg_i_ge zd_237 rfl (fun (hc : (480 ≤ (zf h 92 23))) => ?_) (fun (hc : ¬ (480 ≤ (zf h 92 23))) => ?_)
  · skip
    rw [show ((if (480 ≤ (zf h 92 23)) then (479 : Int32) else (zf h 92 23)) : Int32) = 479 from if_pos hc] at K138
    refine zg_blk zd_237 1 hs (rfl : zb x zT0 zc_237 1 (17, [some (.ref 92)], [], h) = some (20, [some (.ref 92)], [.int 479], h)) (fun hs => ?_)
    exact K138 hs
  · skip
    rw [show ((if (480 ≤ (zf h 92 23)) then (479 : Int32) else (zf h 92 23)) : Int32) = (zf h 92 23) from if_neg hc] at K138
    refine zg_blk zd_237 3 hs (rfl : zb x zT0 zc_237 3 (10, [some (.ref 92)], [], h) = some (20, [some (.ref 92)], [.int (zf h 92 23)], h)) (fun hs => ?_)
    exact K138 hs
theorem zd_238 : zm_cd 238 = zc_238 := by rfl
set_option maxRecDepth 100000 in
set_option maxHeartbeats 400000 in
theorem f_M_anew_l2_l57_k72_t {x : zm_X} {d : Nat} (v1 : Int32) (v2 : Int32) (v3 : Int32) (v4 : Int32) (v5 : Int32) (h : zm_H) {Q : Option Value → zm_H → Prop} {FN : Nat × Int32 × zm_H → Prop} (hs : zSh zT0 h) (ho : f_M_anew_l2_l57_k72_ok v1 v2 v3 v4 v5 h) (hF : FN (f_M_anew_l2_l57_k72 v1 v2 v3 v4 v5 h)) (hl0 : ∀ (v5 : Int32) (h : zm_H), zSh zT0 h → FN (0, v5, h) → zg x (d + 5) 238 57 [some (.ref 92), some (.int v1), some (.int v2), some (.int v3), some (.int v4), some (.int v5)] [] h Q) (hl1 : ∀ (v5 : Int32) (h : zm_H) (o5 : Option Value), zSh zT0 h → FN (1, v5, h) → zg x (d + 5) 238 78 [some (.ref 92), some (.int v1), some (.int v2), some (.int v3), some (.int v4), o5] [] h Q) : zg x (d + 5) 238 72 [some (.ref 92), some (.int v1), some (.int v2), some (.int v3), some (.int v4), some (.int v5)] [] h Q := by
  unfold f_M_anew_l2_l57_k72 at hF
  unfold f_M_anew_l2_l57_k72_ok at ho
  refine zg_blk zd_238 2 hs (rfl : zb x zT0 zc_238 2 (72, [some (.ref 92), some (.int v1), some (.int v2), some (.int v3), some (.int v4), some (.int v5)], [], h) = some (57, [some (.ref 92), some (.int v1), some (.int v2), some (.int v3), some (.int v4), some (.int (v5 + 1))], [], h)) (fun hs => ?_)
  exact hl0 (v5 + 1) h hs hF
set_option maxRecDepth 100000 in
set_option maxHeartbeats 400000 in
theorem f_M_anew_l2_l57_b_t {x : zm_X} {d : Nat} (v1 : Int32) (v2 : Int32) (v3 : Int32) (v4 : Int32) (v5 : Int32) (h : zm_H) {Q : Option Value → zm_H → Prop} {FN : Nat × Int32 × zm_H → Prop} (hs : zSh zT0 h) (ho : f_M_anew_l2_l57_b_ok v1 v2 v3 v4 v5 h) (hF : FN (f_M_anew_l2_l57_b v1 v2 v3 v4 v5 h)) (hl0 : ∀ (v5 : Int32) (h : zm_H), zSh zT0 h → FN (0, v5, h) → zg x (d + 5) 238 57 [some (.ref 92), some (.int v1), some (.int v2), some (.int v3), some (.int v4), some (.int v5)] [] h Q) (hl1 : ∀ (v5 : Int32) (h : zm_H) (o5 : Option Value), zSh zT0 h → FN (1, v5, h) → zg x (d + 5) 238 78 [some (.ref 92), some (.int v1), some (.int v2), some (.int v3), some (.int v4), o5] [] h Q) : zg x (d + 5) 238 57 [some (.ref 92), some (.int v1), some (.int v2), some (.int v3), some (.int v4), some (.int v5)] [] h Q := by
  unfold f_M_anew_l2_l57_b at hF
  unfold f_M_anew_l2_l57_b_ok at ho
  refine zg_blk zd_238 2 hs (rfl : zb x zT0 zc_238 2 (57, [some (.ref 92), some (.int v1), some (.int v2), some (.int v3), some (.int v4), some (.int v5)], [], h) = some (60, [some (.ref 92), some (.int v1), some (.int v2), some (.int v3), some (.int v4), some (.int v5)], [.int 3, .int v5], h)) (fun hs => ?_)
  refine zg_i_ge zd_238 rfl (fun (hc : (3 ≤ v5)) => ?_) (fun (hc : ¬ (3 ≤ v5)) => ?_)
  · have ho := ho.1 hc
    rw [if_pos hc] at hF
    exact hl1 v5 h (some (.int v5)) hs hF
  · have ho := ho.2 hc
    rw [if_neg hc] at hF
    refine zg_blk zd_238 5 hs (rfl : zb x zT0 zc_238 5 (63, [some (.ref 92), some (.int v1), some (.int v2), some (.int v3), some (.int v4), some (.int v5)], [], h) = some (69, [some (.ref 92), some (.int v1), some (.int v2), some (.int v3), some (.int v4), some (.int v5)], [.int 0, .int v5, .int v3, .int 1, .ref 92], h)) (fun hs => ?_)
    have hob := ho
    refine zg_call hs zd_238 rfl rfl rfl rfl (as := [.ref 92, .int 1, .int v3, .int v5, .int 0]) (rest := []) (en := [some (.ref 92), some (.int 1), some (.int v3), some (.int v5), some (.int 0), none]) rfl rfl rfl rfl rfl ?_
    refine f_M_newChain_t 1 v3 v5 0 h hs hob (fun hs => ?_)
    show zg x (d + 5) 238 72 [some (.ref 92), some (.int v1), some (.int v2), some (.int v3), some (.int v4), some (.int v5)] [] (f_M_newChain 1 v3 v5 0 h) Q
    exact f_M_anew_l2_l57_k72_t v1 v2 v3 v4 v5 (f_M_newChain 1 v3 v5 0 h) hs trivial hF hl0 hl1
theorem f_M_anew_l2_l57_t {x : zm_X} {d : Nat} (v1 : Int32) (v2 : Int32) (v3 : Int32) (v4 : Int32) {Q : Option Value → zm_H → Prop} (G : Nat × Int32 × zm_H → Prop) (hx1 : ∀ (v5 : Int32) (h : zm_H) (o5 : Option Value), zSh zT0 h → G (1, v5, h) → zg x (d + 5) 238 78 [some (.ref 92), some (.int v1), some (.int v2), some (.int v3), some (.int v4), o5] [] h Q) : ∀ (n : Nat) (v5 : Int32) (h : zm_H), zSh zT0 h → f_M_anew_l2_l57_ok v1 v2 v3 v4 n (v5, h) → G (f_M_anew_l2_l57 v1 v2 v3 v4 n (v5, h)) → zg x (d + 5) 238 57 [some (.ref 92), some (.int v1), some (.int v2), some (.int v3), some (.int v4), some (.int v5)] [] h Q := by
  intro n
  induction n with
  | zero => intro v5 h hs ho hG; exact ho.elim
  | succ n ih =>
    intro v5 h hs ho hG
    refine f_M_anew_l2_l57_b_t (FN := fun r => (r.1 = 0 → f_M_anew_l2_l57_ok v1 v2 v3 v4 n r.2) ∧ G (if r.1 = 0 then f_M_anew_l2_l57 v1 v2 v3 v4 n r.2 else r)) v1 v2 v3 v4 v5 h hs ho.1 ⟨ho.2, hG⟩ ?_ ?_
    · intro v5 h hs hF
      exact ih v5 h hs (hF.1 rfl) hF.2
    · intro v5 h o5 hs hF
      exact hx1 v5 h o5 hs hF.2

set_option maxRecDepth 100000 in
set_option maxHeartbeats 400000 in
theorem f_M_anew_l2_k78_t {x : zm_X} {d : Nat} (v1 : Int32) (v2 : Int32) (v3 : Int32) (h : zm_H) (o4 : Option Value) (o5 : Option Value) {Q : Option Value → zm_H → Prop} {FN : Nat × Int32 × zm_H → Prop} (hs : zSh zT0 h) (ho : f_M_anew_l2_k78_ok v1 v2 v3 h) (hF : FN (f_M_anew_l2_k78 v1 v2 v3 h)) (hl0 : ∀ (v3 : Int32) (h : zm_H) (o4 : Option Value) (o5 : Option Value), zSh zT0 h → FN (0, v3, h) → zg x (d + 5) 238 2 [some (.ref 92), some (.int v1), some (.int v2), some (.int v3), o4, o5] [] h Q) (hl1 : ∀ (v3 : Int32) (h : zm_H) (o3 : Option Value) (o4 : Option Value) (o5 : Option Value), zSh zT0 h → FN (1, v3, h) → zg x (d + 5) 238 84 [some (.ref 92), some (.int v1), some (.int v2), o3, o4, o5] [] h Q) : zg x (d + 5) 238 78 [some (.ref 92), some (.int v1), some (.int v2), some (.int v3), o4, o5] [] h Q := by
  unfold f_M_anew_l2_k78 at hF
  unfold f_M_anew_l2_k78_ok at ho
  refine zg_blk zd_238 2 hs (rfl : zb x zT0 zc_238 2 (78, [some (.ref 92), some (.int v1), some (.int v2), some (.int v3), o4, o5], [], h) = some (2, [some (.ref 92), some (.int v1), some (.int v2), some (.int (v3 + 1)), o4, o5], [], h)) (fun hs => ?_)
  exact hl0 (v3 + 1) h (o4) (o5) hs hF
set_option maxRecDepth 100000 in
set_option maxHeartbeats 400000 in
theorem f_M_anew_l2_b_t {x : zm_X} {d : Nat} (v1 : Int32) (v2 : Int32) (v3 : Int32) (h : zm_H) (o4 : Option Value) (o5 : Option Value) {Q : Option Value → zm_H → Prop} {FN : Nat × Int32 × zm_H → Prop} (hs : zSh zT0 h) (ho : f_M_anew_l2_b_ok v1 v2 v3 h) (hF : FN (f_M_anew_l2_b v1 v2 v3 h)) (hl0 : ∀ (v3 : Int32) (h : zm_H) (o4 : Option Value) (o5 : Option Value), zSh zT0 h → FN (0, v3, h) → zg x (d + 5) 238 2 [some (.ref 92), some (.int v1), some (.int v2), some (.int v3), o4, o5] [] h Q) (hl1 : ∀ (v3 : Int32) (h : zm_H) (o3 : Option Value) (o4 : Option Value) (o5 : Option Value), zSh zT0 h → FN (1, v3, h) → zg x (d + 5) 238 84 [some (.ref 92), some (.int v1), some (.int v2), o3, o4, o5] [] h Q) : zg x (d + 5) 238 2 [some (.ref 92), some (.int v1), some (.int v2), some (.int v3), o4, o5] [] h Q := by
  unfold f_M_anew_l2_b at hF
  unfold f_M_anew_l2_b_ok at ho
  refine zg_blk zd_238 2 hs (rfl : zb x zT0 zc_238 2 (2, [some (.ref 92), some (.int v1), some (.int v2), some (.int v3), o4, o5], [], h) = some (5, [some (.ref 92), some (.int v1), some (.int v2), some (.int v3), o4, o5], [.int 10, .int v3], h)) (fun hs => ?_)
  refine zg_i_ge zd_238 rfl (fun (hc : (10 ≤ v3)) => ?_) (fun (hc : ¬ (10 ≤ v3)) => ?_)
  · have ho := ho.1 hc
    rw [if_pos hc] at hF
    exact hl1 v3 h (some (.int v3)) (o4) (o5) hs hF
  · have ho := ho.2 hc
    rw [if_neg hc] at hF
    refine zg_blk zd_238 8 hs (rfl : zb x zT0 zc_238 8 (8, [some (.ref 92), some (.int v1), some (.int v2), some (.int v3), o4, o5], [], h) = some (21, [some (.ref 92), some (.int v1), some (.int v2), some (.int v3), some (.int (10 + v3)), o5], [.int 0, .int (10 + v3), .ref 123], h)) (fun hs => ?_)
    obtain ⟨hob, ho⟩ := ho
    refine zg_ias hs zd_238 rfl rfl hob (fun hs => ?_)
    refine zg_blk zd_238 4 hs (rfl : zb x zT0 zc_238 4 (22, [some (.ref 92), some (.int v1), some (.int v2), some (.int v3), some (.int (10 + v3)), o5], [], (zs h 123 (10 + v3) 0)) = some (29, [some (.ref 92), some (.int v1), some (.int v2), some (.int v3), some (.int (10 + v3)), o5], [.int (-1), .int (10 + v3), .ref 124], (zs h 123 (10 + v3) 0))) (fun hs => ?_)
    obtain ⟨hob, ho⟩ := ho
    refine zg_ias hs zd_238 rfl rfl hob (fun hs => ?_)
    refine zg_blk zd_238 4 hs (rfl : zb x zT0 zc_238 4 (30, [some (.ref 92), some (.int v1), some (.int v2), some (.int v3), some (.int (10 + v3)), o5], [], (zs (zs h 123 (10 + v3) 0) 124 (10 + v3) (-1))) = some (37, [some (.ref 92), some (.int v1), some (.int v2), some (.int v3), some (.int (10 + v3)), o5], [.int 0, .int (10 + v3), .ref 125], (zs (zs h 123 (10 + v3) 0) 124 (10 + v3) (-1)))) (fun hs => ?_)
    obtain ⟨hob, ho⟩ := ho
    refine zg_ias hs zd_238 rfl rfl hob (fun hs => ?_)
    refine zg_blk zd_238 4 hs (rfl : zb x zT0 zc_238 4 (38, [some (.ref 92), some (.int v1), some (.int v2), some (.int v3), some (.int (10 + v3)), o5], [], (zs (zs (zs h 123 (10 + v3) 0) 124 (10 + v3) (-1)) 125 (10 + v3) 0)) = some (45, [some (.ref 92), some (.int v1), some (.int v2), some (.int v3), some (.int (10 + v3)), o5], [.int 0, .int (10 + v3), .ref 126], (zs (zs (zs h 123 (10 + v3) 0) 124 (10 + v3) (-1)) 125 (10 + v3) 0))) (fun hs => ?_)
    obtain ⟨hob, ho⟩ := ho
    refine zg_ias hs zd_238 rfl rfl hob (fun hs => ?_)
    refine zg_blk zd_238 4 hs (rfl : zb x zT0 zc_238 4 (46, [some (.ref 92), some (.int v1), some (.int v2), some (.int v3), some (.int (10 + v3)), o5], [], (zs (zs (zs (zs h 123 (10 + v3) 0) 124 (10 + v3) (-1)) 125 (10 + v3) 0) 126 (10 + v3) 0)) = some (53, [some (.ref 92), some (.int v1), some (.int v2), some (.int v3), some (.int (10 + v3)), o5], [.long (0 : Int32).toInt64, .int (10 + v3), .ref 127], (zs (zs (zs (zs h 123 (10 + v3) 0) 124 (10 + v3) (-1)) 125 (10 + v3) 0) 126 (10 + v3) 0))) (fun hs => ?_)
    obtain ⟨hob, ho⟩ := ho
    refine zg_las hs zd_238 rfl rfl hob (fun hs => ?_)
    refine zg_blk zd_238 2 hs (rfl : zb x zT0 zc_238 2 (54, [some (.ref 92), some (.int v1), some (.int v2), some (.int v3), some (.int (10 + v3)), o5], [], (zsl (zs (zs (zs (zs h 123 (10 + v3) 0) 124 (10 + v3) (-1)) 125 (10 + v3) 0) 126 (10 + v3) 0) 127 (10 + v3) (0 : Int32).toInt64)) = some (57, [some (.ref 92), some (.int v1), some (.int v2), some (.int v3), some (.int (10 + v3)), some (.int 0)], [], (zsl (zs (zs (zs (zs h 123 (10 + v3) 0) 124 (10 + v3) (-1)) 125 (10 + v3) 0) 126 (10 + v3) 0) 127 (10 + v3) (0 : Int32).toInt64))) (fun hs => ?_)
    refine f_M_anew_l2_l57_t v1 v2 v3 (10 + v3) (fun r => f_M_anew_l2_a57_ok v1 v2 v3 r ∧ FN (f_M_anew_l2_a57 v1 v2 v3 r)) ?_ zF 0 (zsl (zs (zs (zs (zs h 123 (10 + v3) 0) 124 (10 + v3) (-1)) 125 (10 + v3) 0) 126 (10 + v3) 0) 127 (10 + v3) (0 : Int32).toInt64) hs ho.1 ⟨ho.2, hF⟩
    · intro v5_ h_ o5_ hs hG
      have ho : True := trivial
      have hF : FN ((f_M_anew_l2_k78 v1 v2 v3 h_)) := hG.2
      exact f_M_anew_l2_k78_t v1 v2 v3 h_ (some (.int (10 + v3))) (o5_) hs trivial hF hl0 hl1
theorem f_M_anew_l2_t {x : zm_X} {d : Nat} (v1 : Int32) (v2 : Int32) {Q : Option Value → zm_H → Prop} (G : Nat × Int32 × zm_H → Prop) (hx1 : ∀ (v3 : Int32) (h : zm_H) (o3 : Option Value) (o4 : Option Value) (o5 : Option Value), zSh zT0 h → G (1, v3, h) → zg x (d + 5) 238 84 [some (.ref 92), some (.int v1), some (.int v2), o3, o4, o5] [] h Q) : ∀ (n : Nat) (v3 : Int32) (h : zm_H) (o4 : Option Value) (o5 : Option Value), zSh zT0 h → f_M_anew_l2_ok v1 v2 n (v3, h) → G (f_M_anew_l2 v1 v2 n (v3, h)) → zg x (d + 5) 238 2 [some (.ref 92), some (.int v1), some (.int v2), some (.int v3), o4, o5] [] h Q := by
  intro n
  induction n with
  | zero => intro v3 h o4 o5 hs ho hG; exact ho.elim
  | succ n ih =>
    intro v3 h o4 o5 hs ho hG
    refine f_M_anew_l2_b_t (FN := fun r => (r.1 = 0 → f_M_anew_l2_ok v1 v2 n r.2) ∧ G (if r.1 = 0 then f_M_anew_l2 v1 v2 n r.2 else r)) v1 v2 v3 h o4 o5 hs ho.1 ⟨ho.2, hG⟩ ?_ ?_
    · intro v3 h o4 o5 hs hF
      exact ih v3 h o4 o5 hs (hF.1 rfl) hF.2
    · intro v3 h o3 o4 o5 hs hF
      exact hx1 v3 h o3 o4 o5 hs hF.2

set_option maxRecDepth 100000 in
set_option maxHeartbeats 400000 in
theorem f_M_anew_l89_l95_k143_t {x : zm_X} {d : Nat} (v1 : Int32) (v2 : Int32) (v3 : Int32) (v4 : Int32) (w0 : Int32) (h : zm_H) (o5 : Option Value) {Q : Option Value → zm_H → Prop} {FN : Nat × Int32 × zm_H → Prop} (hs : zSh zT0 h) (ho : f_M_anew_l89_l95_k143_ok v1 v2 v3 v4 w0 h) (hF : FN (f_M_anew_l89_l95_k143 v1 v2 v3 v4 w0 h)) (hl0 : ∀ (v3 : Int32) (h : zm_H) (o5 : Option Value), zSh zT0 h → FN (0, v3, h) → zg x (d + 5) 238 95 [some (.ref 92), some (.int v1), some (.int v2), some (.int v3), some (.int v4), o5] [] h Q) (hl1 : ∀ (v3 : Int32) (h : zm_H) (o5 : Option Value), zSh zT0 h → FN (1, v3, h) → zg x (d + 5) 238 150 [some (.ref 92), some (.int v1), some (.int v2), some (.int v3), some (.int v4), o5] [] h Q) : zg x (d + 5) 238 143 [some (.ref 92), some (.int v1), some (.int v2), some (.int v3), some (.int v4), o5] [.int w0] h Q := by
  unfold f_M_anew_l89_l95_k143 at hF
  unfold f_M_anew_l89_l95_k143_ok at ho
  refine zg_blk zd_238 3 hs (rfl : zb x zT0 zc_238 3 (143, [some (.ref 92), some (.int v1), some (.int v2), some (.int v3), some (.int v4), o5], [.int w0], h) = some (95, [some (.ref 92), some (.int v1), some (.int v2), some (.int (v3 + 1)), some (.int v4), o5], [], h)) (fun hs => ?_)
  exact hl0 (v3 + 1) h (o5) hs hF
set_option maxRecDepth 100000 in
set_option maxHeartbeats 400000 in
theorem f_M_anew_l89_l95_b_t {x : zm_X} {d : Nat} (v1 : Int32) (v2 : Int32) (v3 : Int32) (v4 : Int32) (h : zm_H) (o5 : Option Value) {Q : Option Value → zm_H → Prop} {FN : Nat × Int32 × zm_H → Prop} (hs : zSh zT0 h) (ho : f_M_anew_l89_l95_b_ok v1 v2 v3 v4 h) (hF : FN (f_M_anew_l89_l95_b v1 v2 v3 v4 h)) (hl0 : ∀ (v3 : Int32) (h : zm_H) (o5 : Option Value), zSh zT0 h → FN (0, v3, h) → zg x (d + 5) 238 95 [some (.ref 92), some (.int v1), some (.int v2), some (.int v3), some (.int v4), o5] [] h Q) (hl1 : ∀ (v3 : Int32) (h : zm_H) (o5 : Option Value), zSh zT0 h → FN (1, v3, h) → zg x (d + 5) 238 150 [some (.ref 92), some (.int v1), some (.int v2), some (.int v3), some (.int v4), o5] [] h Q) : zg x (d + 5) 238 95 [some (.ref 92), some (.int v1), some (.int v2), some (.int v3), some (.int v4), o5] [] h Q := by
  unfold f_M_anew_l89_l95_b at hF
  unfold f_M_anew_l89_l95_b_ok at ho
  refine zg_blk zd_238 3 hs (rfl : zb x zT0 zc_238 3 (95, [some (.ref 92), some (.int v1), some (.int v2), some (.int v3), some (.int v4), o5], [], h) = some (100, [some (.ref 92), some (.int v1), some (.int v2), some (.int v3), some (.int v4), o5], [.int (zf h 92 41), .int v3], h)) (fun hs => ?_)
  refine zg_i_ge zd_238 rfl (fun (hc : ((zf h 92 41) ≤ v3)) => ?_) (fun (hc : ¬ ((zf h 92 41) ≤ v3)) => ?_)
  · have ho := ho.1 hc
    rw [if_pos hc] at hF
    exact hl1 v3 h (o5) hs hF
  · have ho := ho.2 hc
    rw [if_neg hc] at hF
    refine zg_blk zd_238 3 hs (rfl : zb x zT0 zc_238 3 (103, [some (.ref 92), some (.int v1), some (.int v2), some (.int v3), some (.int v4), o5], [], h) = some (108, [some (.ref 92), some (.int v1), some (.int v2), some (.int v3), some (.int v4), o5], [.int v3, .ref 118], h)) (fun hs => ?_)
    obtain ⟨hob, ho⟩ := ho
    refine zg_ial hs zd_238 rfl rfl hob ?_
    refine zg_blk zd_238 1 hs (rfl : zb x zT0 zc_238 1 (109, [some (.ref 92), some (.int v1), some (.int v2), some (.int v3), some (.int v4), o5], [.int (zr h 118 v3)], h) = some (111, [some (.ref 92), some (.int v1), some (.int v2), some (.int v3), some (.int v4), o5], [.int v4, .int (zr h 118 v3)], h)) (fun hs => ?_)
    refine zg_i_gt zd_238 rfl (fun (hc : (v4 < (zr h 118 v3))) => ?_) (fun (hc : ¬ (v4 < (zr h 118 v3))) => ?_)
    · have ho := ho.1 hc
      rw [if_pos hc] at hF
      exact hl1 v3 h (o5) hs hF
    · have ho := ho.2 hc
      rw [if_neg hc] at hF
      refine zg_blk zd_238 5 hs (rfl : zb x zT0 zc_238 5 (114, [some (.ref 92), some (.int v1), some (.int v2), some (.int v3), some (.int v4), o5], [], h) = some (121, [some (.ref 92), some (.int v1), some (.int v2), some (.int v3), some (.int v4), o5], [.int v3, .ref 119, .int 1, .ref 92], h)) (fun hs => ?_)
      obtain ⟨hob, ho⟩ := ho
      refine zg_ial hs zd_238 rfl rfl hob ?_
      refine zg_blk zd_238 3 hs (rfl : zb x zT0 zc_238 3 (122, [some (.ref 92), some (.int v1), some (.int v2), some (.int v3), some (.int v4), o5], [.int (zr h 119 v3), .int 1, .ref 92], h) = some (127, [some (.ref 92), some (.int v1), some (.int v2), some (.int v3), some (.int v4), o5], [.int v3, .ref 120, .int (zr h 119 v3), .int 1, .ref 92], h)) (fun hs => ?_)
      obtain ⟨hob, ho⟩ := ho
      refine zg_ial hs zd_238 rfl rfl hob ?_
      refine zg_blk zd_238 3 hs (rfl : zb x zT0 zc_238 3 (128, [some (.ref 92), some (.int v1), some (.int v2), some (.int v3), some (.int v4), o5], [.int (zr h 120 v3), .int (zr h 119 v3), .int 1, .ref 92], h) = some (133, [some (.ref 92), some (.int v1), some (.int v2), some (.int v3), some (.int v4), o5], [.int v3, .ref 121, .int (zr h 120 v3), .int (zr h 119 v3), .int 1, .ref 92], h)) (fun hs => ?_)
      obtain ⟨hob, ho⟩ := ho
      refine zg_ial hs zd_238 rfl rfl hob ?_
      refine zg_blk zd_238 3 hs (rfl : zb x zT0 zc_238 3 (134, [some (.ref 92), some (.int v1), some (.int v2), some (.int v3), some (.int v4), o5], [.int (zr h 121 v3), .int (zr h 120 v3), .int (zr h 119 v3), .int 1, .ref 92], h) = some (139, [some (.ref 92), some (.int v1), some (.int v2), some (.int v3), some (.int v4), o5], [.int v3, .ref 122, .int (zr h 121 v3), .int (zr h 120 v3), .int (zr h 119 v3), .int 1, .ref 92], h)) (fun hs => ?_)
      obtain ⟨hob, ho⟩ := ho
      refine zg_ial hs zd_238 rfl rfl hob ?_
      have hob := ho
      refine zg_call hs zd_238 rfl rfl rfl rfl (as := [.ref 92, .int 1, .int (zr h 119 v3), .int (zr h 120 v3), .int (zr h 121 v3), .int (zr h 122 v3)]) (rest := []) (en := [some (.ref 92), some (.int 1), some (.int (zr h 119 v3)), some (.int (zr h 120 v3)), some (.int (zr h 121 v3)), some (.int (zr h 122 v3)), none, none, none]) rfl rfl rfl rfl rfl ?_
      refine f_M_does_t 1 (zr h 119 v3) (zr h 120 v3) (zr h 121 v3) (zr h 122 v3) h hs hob (fun hs => ?_)
      show zg x (d + 5) 238 143 [some (.ref 92), some (.int v1), some (.int v2), some (.int v3), some (.int v4), o5] [.int (f_M_does 1 (zr h 119 v3) (zr h 120 v3) (zr h 121 v3) (zr h 122 v3) h).1] (f_M_does 1 (zr h 119 v3) (zr h 120 v3) (zr h 121 v3) (zr h 122 v3) h).2 Q
      exact f_M_anew_l89_l95_k143_t v1 v2 v3 v4 (f_M_does 1 (zr h 119 v3) (zr h 120 v3) (zr h 121 v3) (zr h 122 v3) h).1 (f_M_does 1 (zr h 119 v3) (zr h 120 v3) (zr h 121 v3) (zr h 122 v3) h).2 (o5) hs trivial hF hl0 hl1
theorem f_M_anew_l89_l95_t {x : zm_X} {d : Nat} (v1 : Int32) (v2 : Int32) (v4 : Int32) {Q : Option Value → zm_H → Prop} (G : Nat × Int32 × zm_H → Prop) (hx1 : ∀ (v3 : Int32) (h : zm_H) (o5 : Option Value), zSh zT0 h → G (1, v3, h) → zg x (d + 5) 238 150 [some (.ref 92), some (.int v1), some (.int v2), some (.int v3), some (.int v4), o5] [] h Q) : ∀ (n : Nat) (v3 : Int32) (h : zm_H) (o5 : Option Value), zSh zT0 h → f_M_anew_l89_l95_ok v1 v2 v4 n (v3, h) → G (f_M_anew_l89_l95 v1 v2 v4 n (v3, h)) → zg x (d + 5) 238 95 [some (.ref 92), some (.int v1), some (.int v2), some (.int v3), some (.int v4), o5] [] h Q := by
  intro n
  induction n with
  | zero => intro v3 h o5 hs ho hG; exact ho.elim
  | succ n ih =>
    intro v3 h o5 hs ho hG
    refine f_M_anew_l89_l95_b_t (FN := fun r => (r.1 = 0 → f_M_anew_l89_l95_ok v1 v2 v4 n r.2) ∧ G (if r.1 = 0 then f_M_anew_l89_l95 v1 v2 v4 n r.2 else r)) v1 v2 v3 v4 h o5 hs ho.1 ⟨ho.2, hG⟩ ?_ ?_
    · intro v3 h o5 hs hF
      exact ih v3 h o5 hs (hF.1 rfl) hF.2
    · intro v3 h o5 hs hF
      exact hx1 v3 h o5 hs hF.2

set_option maxRecDepth 100000 in
set_option maxHeartbeats 400000 in
theorem f_M_anew_l89_l189_b_t {x : zm_X} {d : Nat} (v1 : Int32) (v2 : Int32) (v3 : Int32) (v4 : Int32) (v5 : Int32) (h : zm_H) {Q : Option Value → zm_H → Prop} {FN : Nat × Int32 × zm_H → Prop} (hs : zSh zT0 h) (ho : f_M_anew_l89_l189_b_ok v1 v2 v3 v4 v5 h) (hF : FN (f_M_anew_l89_l189_b v1 v2 v3 v4 v5 h)) (hl0 : ∀ (v5 : Int32) (h : zm_H), zSh zT0 h → FN (0, v5, h) → zg x (d + 5) 238 189 [some (.ref 92), some (.int v1), some (.int v2), some (.int v3), some (.int v4), some (.int v5)] [] h Q) (hl1 : ∀ (v5 : Int32) (h : zm_H) (o5 : Option Value), zSh zT0 h → FN (1, v5, h) → zg x (d + 5) 238 222 [some (.ref 92), some (.int v1), some (.int v2), some (.int v3), some (.int v4), o5] [] h Q) : zg x (d + 5) 238 189 [some (.ref 92), some (.int v1), some (.int v2), some (.int v3), some (.int v4), some (.int v5)] [] h Q := by
  unfold f_M_anew_l89_l189_b at hF
  unfold f_M_anew_l89_l189_b_ok at ho
  refine zg_blk zd_238 2 hs (rfl : zb x zT0 zc_238 2 (189, [some (.ref 92), some (.int v1), some (.int v2), some (.int v3), some (.int v4), some (.int v5)], [], h) = some (193, [some (.ref 92), some (.int v1), some (.int v2), some (.int v3), some (.int v4), some (.int v5)], [.int 10, .int v5], h)) (fun hs => ?_)
  refine zg_i_ge zd_238 rfl (fun (hc : (10 ≤ v5)) => ?_) (fun (hc : ¬ (10 ≤ v5)) => ?_)
  · have ho := ho.1 hc
    rw [if_pos hc] at hF
    exact hl1 v5 h (some (.int v5)) hs hF
  · have ho := ho.2 hc
    rw [if_neg hc] at hF
    refine zg_blk zd_238 10 hs (rfl : zb x zT0 zc_238 10 (196, [some (.ref 92), some (.int v1), some (.int v2), some (.int v3), some (.int v4), some (.int v5)], [], h) = some (214, [some (.ref 92), some (.int v1), some (.int v2), some (.int v3), some (.int v4), some (.int v5)], [.int v5, .ref 151, .int ((10 * v4) + v5), .ref 136], h)) (fun hs => ?_)
    obtain ⟨hob, ho⟩ := ho
    refine zg_ial hs zd_238 rfl rfl hob ?_
    have hob := ho
    refine zg_ias hs zd_238 rfl rfl hob (fun hs => ?_)
    refine zg_blk zd_238 2 hs (rfl : zb x zT0 zc_238 2 (216, [some (.ref 92), some (.int v1), some (.int v2), some (.int v3), some (.int v4), some (.int v5)], [], (zs h 136 ((10 * v4) + v5) (zr h 151 v5))) = some (189, [some (.ref 92), some (.int v1), some (.int v2), some (.int v3), some (.int v4), some (.int (v5 + 1))], [], (zs h 136 ((10 * v4) + v5) (zr h 151 v5)))) (fun hs => ?_)
    exact hl0 (v5 + 1) (zs h 136 ((10 * v4) + v5) (zr h 151 v5)) hs hF
theorem f_M_anew_l89_l189_t {x : zm_X} {d : Nat} (v1 : Int32) (v2 : Int32) (v3 : Int32) (v4 : Int32) {Q : Option Value → zm_H → Prop} (G : Nat × Int32 × zm_H → Prop) (hx1 : ∀ (v5 : Int32) (h : zm_H) (o5 : Option Value), zSh zT0 h → G (1, v5, h) → zg x (d + 5) 238 222 [some (.ref 92), some (.int v1), some (.int v2), some (.int v3), some (.int v4), o5] [] h Q) : ∀ (n : Nat) (v5 : Int32) (h : zm_H), zSh zT0 h → f_M_anew_l89_l189_ok v1 v2 v3 v4 n (v5, h) → G (f_M_anew_l89_l189 v1 v2 v3 v4 n (v5, h)) → zg x (d + 5) 238 189 [some (.ref 92), some (.int v1), some (.int v2), some (.int v3), some (.int v4), some (.int v5)] [] h Q := by
  intro n
  induction n with
  | zero => intro v5 h hs ho hG; exact ho.elim
  | succ n ih =>
    intro v5 h hs ho hG
    refine f_M_anew_l89_l189_b_t (FN := fun r => (r.1 = 0 → f_M_anew_l89_l189_ok v1 v2 v3 v4 n r.2) ∧ G (if r.1 = 0 then f_M_anew_l89_l189 v1 v2 v3 v4 n r.2 else r)) v1 v2 v3 v4 v5 h hs ho.1 ⟨ho.2, hG⟩ ?_ ?_
    · intro v5 h hs hF
      exact ih v5 h hs (hF.1 rfl) hF.2
    · intro v5 h o5 hs hF
      exact hx1 v5 h o5 hs hF.2

set_option maxRecDepth 100000 in
set_option maxHeartbeats 400000 in
theorem f_M_anew_l89_k222_t {x : zm_X} {d : Nat} (v1 : Int32) (v2 : Int32) (v3 : Int32) (v4 : Int32) (h : zm_H) (o5 : Option Value) {Q : Option Value → zm_H → Prop} {FN : Nat × Int32 × Int32 × zm_H → Prop} (hs : zSh zT0 h) (ho : f_M_anew_l89_k222_ok v1 v2 v3 v4 h) (hF : FN (f_M_anew_l89_k222 v1 v2 v3 v4 h)) (hl0 : ∀ (v3 : Int32) (v4 : Int32) (h : zm_H) (o5 : Option Value), zSh zT0 h → FN (0, v3, v4, h) → zg x (d + 5) 238 89 [some (.ref 92), some (.int v1), some (.int v2), some (.int v3), some (.int v4), o5] [] h Q) (hl1 : ∀ (v3 : Int32) (v4 : Int32) (h : zm_H) (o3 : Option Value) (o4 : Option Value) (o5 : Option Value), zSh zT0 h → FN (1, v3, v4, h) → zg x (d + 5) 238 228 [some (.ref 92), some (.int v1), some (.int v2), o3, o4, o5] [] h Q) : zg x (d + 5) 238 222 [some (.ref 92), some (.int v1), some (.int v2), some (.int v3), some (.int v4), o5] [] h Q := by
  unfold f_M_anew_l89_k222 at hF
  unfold f_M_anew_l89_k222_ok at ho
  refine zg_blk zd_238 2 hs (rfl : zb x zT0 zc_238 2 (222, [some (.ref 92), some (.int v1), some (.int v2), some (.int v3), some (.int v4), o5], [], h) = some (89, [some (.ref 92), some (.int v1), some (.int v2), some (.int v3), some (.int (v4 + 1)), o5], [], h)) (fun hs => ?_)
  exact hl0 v3 (v4 + 1) h (o5) hs hF
set_option maxRecDepth 100000 in
set_option maxHeartbeats 400000 in
theorem f_M_anew_l89_k164_t {x : zm_X} {d : Nat} (v1 : Int32) (v2 : Int32) (v3 : Int32) (v4 : Int32) (h : zm_H) (o5 : Option Value) {Q : Option Value → zm_H → Prop} {FN : Nat × Int32 × Int32 × zm_H → Prop} (hs : zSh zT0 h) (ho : f_M_anew_l89_k164_ok v1 v2 v3 v4 h) (hF : FN (f_M_anew_l89_k164 v1 v2 v3 v4 h)) (hl0 : ∀ (v3 : Int32) (v4 : Int32) (h : zm_H) (o5 : Option Value), zSh zT0 h → FN (0, v3, v4, h) → zg x (d + 5) 238 89 [some (.ref 92), some (.int v1), some (.int v2), some (.int v3), some (.int v4), o5] [] h Q) (hl1 : ∀ (v3 : Int32) (v4 : Int32) (h : zm_H) (o3 : Option Value) (o4 : Option Value) (o5 : Option Value), zSh zT0 h → FN (1, v3, v4, h) → zg x (d + 5) 238 228 [some (.ref 92), some (.int v1), some (.int v2), o3, o4, o5] [] h Q) : zg x (d + 5) 238 164 [some (.ref 92), some (.int v1), some (.int v2), some (.int v3), some (.int v4), o5] [] h Q := by
  unfold f_M_anew_l89_k164 at hF
  unfold f_M_anew_l89_k164_ok at ho
  refine zg_blk zd_238 5 hs (rfl : zb x zT0 zc_238 5 (164, [some (.ref 92), some (.int v1), some (.int v2), some (.int v3), some (.int v4), o5], [], h) = some (174, [some (.ref 92), some (.int v1), some (.int v2), some (.int v3), some (.int v4), o5], [.int (zf h 92 88), .int v4, .ref 134], h)) (fun hs => ?_)
  obtain ⟨hob, ho⟩ := ho
  refine zg_ias hs zd_238 rfl rfl hob (fun hs => ?_)
  refine zg_blk zd_238 5 hs (rfl : zb x zT0 zc_238 5 (175, [some (.ref 92), some (.int v1), some (.int v2), some (.int v3), some (.int v4), o5], [], (zs h 134 v4 (zf h 92 88))) = some (185, [some (.ref 92), some (.int v1), some (.int v2), some (.int v3), some (.int v4), o5], [.int (zf h 92 87), .int v4, .ref 135], (zs h 134 v4 (zf h 92 88)))) (fun hs => ?_)
  obtain ⟨hob, ho⟩ := ho
  refine zg_ias hs zd_238 rfl rfl hob (fun hs => ?_)
  refine zg_blk zd_238 2 hs (rfl : zb x zT0 zc_238 2 (186, [some (.ref 92), some (.int v1), some (.int v2), some (.int v3), some (.int v4), o5], [], (zs (zs h 134 v4 (zf h 92 88)) 135 v4 (zf h 92 87))) = some (189, [some (.ref 92), some (.int v1), some (.int v2), some (.int v3), some (.int v4), some (.int 0)], [], (zs (zs h 134 v4 (zf h 92 88)) 135 v4 (zf h 92 87)))) (fun hs => ?_)
  refine f_M_anew_l89_l189_t v1 v2 v3 v4 (fun r => f_M_anew_l89_a189_ok v1 v2 v3 v4 r ∧ FN (f_M_anew_l89_a189 v1 v2 v3 v4 r)) ?_ zF 0 (zs (zs h 134 v4 (zf h 92 88)) 135 v4 (zf h 92 87)) hs ho.1 ⟨ho.2, hF⟩
  · intro v5_ h_ o5_ hs hG
    have ho : True := trivial
    have hF : FN ((f_M_anew_l89_k222 v1 v2 v3 v4 h_)) := hG.2
    exact f_M_anew_l89_k222_t v1 v2 v3 v4 h_ (o5_) hs trivial hF hl0 hl1
set_option maxRecDepth 100000 in
set_option maxHeartbeats 400000 in
theorem f_M_anew_l89_k157_t {x : zm_X} {d : Nat} (v1 : Int32) (v2 : Int32) (v3 : Int32) (v4 : Int32) (h : zm_H) (o5 : Option Value) {Q : Option Value → zm_H → Prop} {FN : Nat × Int32 × Int32 × zm_H → Prop} (hs : zSh zT0 h) (ho : f_M_anew_l89_k157_ok v1 v2 v3 v4 h) (hF : FN (f_M_anew_l89_k157 v1 v2 v3 v4 h)) (hl0 : ∀ (v3 : Int32) (v4 : Int32) (h : zm_H) (o5 : Option Value), zSh zT0 h → FN (0, v3, v4, h) → zg x (d + 5) 238 89 [some (.ref 92), some (.int v1), some (.int v2), some (.int v3), some (.int v4), o5] [] h Q) (hl1 : ∀ (v3 : Int32) (v4 : Int32) (h : zm_H) (o3 : Option Value) (o4 : Option Value) (o5 : Option Value), zSh zT0 h → FN (1, v3, v4, h) → zg x (d + 5) 238 228 [some (.ref 92), some (.int v1), some (.int v2), o3, o4, o5] [] h Q) : zg x (d + 5) 238 157 [some (.ref 92), some (.int v1), some (.int v2), some (.int v3), some (.int v4), o5] [] h Q := by
  unfold f_M_anew_l89_k157 at hF
  unfold f_M_anew_l89_k157_ok at ho
  refine zg_blk zd_238 3 hs (rfl : zb x zT0 zc_238 3 (157, [some (.ref 92), some (.int v1), some (.int v2), some (.int v3), some (.int v4), o5], [], h) = some (161, [some (.ref 92), some (.int v1), some (.int v2), some (.int v3), some (.int v4), o5], [.int v4, .int 1, .ref 92], h)) (fun hs => ?_)
  obtain ⟨hob, ho⟩ := ho
  refine zg_call hs zd_238 rfl rfl rfl rfl (as := [.ref 92, .int 1, .int v4]) (rest := []) (en := [some (.ref 92), some (.int 1), some (.int v4), none, none]) rfl rfl rfl rfl rfl ?_
  refine f_M_goes_t 1 v4 h hs hob (fun hs => ?_)
  show zg x (d + 5) 238 164 [some (.ref 92), some (.int v1), some (.int v2), some (.int v3), some (.int v4), o5] [] (f_M_goes 1 v4 h) Q
  exact f_M_anew_l89_k164_t v1 v2 v3 v4 (f_M_goes 1 v4 h) (o5) hs ho hF hl0 hl1
set_option maxRecDepth 100000 in
set_option maxHeartbeats 400000 in
theorem f_M_anew_l89_k150_t {x : zm_X} {d : Nat} (v1 : Int32) (v2 : Int32) (v3 : Int32) (v4 : Int32) (h : zm_H) (o5 : Option Value) {Q : Option Value → zm_H → Prop} {FN : Nat × Int32 × Int32 × zm_H → Prop} (hs : zSh zT0 h) (ho : f_M_anew_l89_k150_ok v1 v2 v3 v4 h) (hF : FN (f_M_anew_l89_k150 v1 v2 v3 v4 h)) (hl0 : ∀ (v3 : Int32) (v4 : Int32) (h : zm_H) (o5 : Option Value), zSh zT0 h → FN (0, v3, v4, h) → zg x (d + 5) 238 89 [some (.ref 92), some (.int v1), some (.int v2), some (.int v3), some (.int v4), o5] [] h Q) (hl1 : ∀ (v3 : Int32) (v4 : Int32) (h : zm_H) (o3 : Option Value) (o4 : Option Value) (o5 : Option Value), zSh zT0 h → FN (1, v3, v4, h) → zg x (d + 5) 238 228 [some (.ref 92), some (.int v1), some (.int v2), o3, o4, o5] [] h Q) : zg x (d + 5) 238 150 [some (.ref 92), some (.int v1), some (.int v2), some (.int v3), some (.int v4), o5] [] h Q := by
  unfold f_M_anew_l89_k150 at hF
  unfold f_M_anew_l89_k150_ok at ho
  refine zg_blk zd_238 3 hs (rfl : zb x zT0 zc_238 3 (150, [some (.ref 92), some (.int v1), some (.int v2), some (.int v3), some (.int v4), o5], [], h) = some (154, [some (.ref 92), some (.int v1), some (.int v2), some (.int v3), some (.int v4), o5], [.int v2, .int v4, .ref 92], h)) (fun hs => ?_)
  obtain ⟨hob, ho⟩ := ho
  refine zg_call hs zd_238 rfl rfl rfl rfl (as := [.ref 92, .int v4, .int v2]) (rest := []) (en := [some (.ref 92), some (.int v4), some (.int v2), none, none, none]) rfl rfl rfl rfl rfl ?_
  refine f_M_looks_t v4 v2 h hs hob (fun hs => ?_)
  show zg x (d + 5) 238 157 [some (.ref 92), some (.int v1), some (.int v2), some (.int v3), some (.int v4), o5] [] (f_M_looks v4 v2 h) Q
  exact f_M_anew_l89_k157_t v1 v2 v3 v4 (f_M_looks v4 v2 h) (o5) hs ho hF hl0 hl1
set_option maxRecDepth 100000 in
set_option maxHeartbeats 400000 in
theorem f_M_anew_l89_b_t {x : zm_X} {d : Nat} (v1 : Int32) (v2 : Int32) (v3 : Int32) (v4 : Int32) (h : zm_H) (o5 : Option Value) {Q : Option Value → zm_H → Prop} {FN : Nat × Int32 × Int32 × zm_H → Prop} (hs : zSh zT0 h) (ho : f_M_anew_l89_b_ok v1 v2 v3 v4 h) (hF : FN (f_M_anew_l89_b v1 v2 v3 v4 h)) (hl0 : ∀ (v3 : Int32) (v4 : Int32) (h : zm_H) (o5 : Option Value), zSh zT0 h → FN (0, v3, v4, h) → zg x (d + 5) 238 89 [some (.ref 92), some (.int v1), some (.int v2), some (.int v3), some (.int v4), o5] [] h Q) (hl1 : ∀ (v3 : Int32) (v4 : Int32) (h : zm_H) (o3 : Option Value) (o4 : Option Value) (o5 : Option Value), zSh zT0 h → FN (1, v3, v4, h) → zg x (d + 5) 238 228 [some (.ref 92), some (.int v1), some (.int v2), o3, o4, o5] [] h Q) : zg x (d + 5) 238 89 [some (.ref 92), some (.int v1), some (.int v2), some (.int v3), some (.int v4), o5] [] h Q := by
  unfold f_M_anew_l89_b at hF
  unfold f_M_anew_l89_b_ok at ho
  refine zg_blk zd_238 2 hs (rfl : zb x zT0 zc_238 2 (89, [some (.ref 92), some (.int v1), some (.int v2), some (.int v3), some (.int v4), o5], [], h) = some (92, [some (.ref 92), some (.int v1), some (.int v2), some (.int v3), some (.int v4), o5], [.int v1, .int v4], h)) (fun hs => ?_)
  refine zg_i_gt zd_238 rfl (fun (hc : (v1 < v4)) => ?_) (fun (hc : ¬ (v1 < v4)) => ?_)
  · have ho := ho.1 hc
    rw [if_pos hc] at hF
    exact hl1 v3 v4 h (some (.int v3)) (some (.int v4)) (o5) hs hF
  · have ho := ho.2 hc
    rw [if_neg hc] at hF
    refine f_M_anew_l89_l95_t v1 v2 v4 (fun r => f_M_anew_l89_a95_ok v1 v2 v4 r ∧ FN (f_M_anew_l89_a95 v1 v2 v4 r)) ?_ zF v3 h (o5) hs ho.1 ⟨ho.2, hF⟩
    · intro v3_ h_ o5_ hs hG
      have ho : (f_M_anew_l89_k150_ok v1 v2 v3_ v4 h_) := hG.1
      have hF : FN ((f_M_anew_l89_k150 v1 v2 v3_ v4 h_)) := hG.2
      exact f_M_anew_l89_k150_t v1 v2 v3_ v4 h_ (o5_) hs ho hF hl0 hl1
theorem f_M_anew_l89_t {x : zm_X} {d : Nat} (v1 : Int32) (v2 : Int32) {Q : Option Value → zm_H → Prop} (G : Nat × Int32 × Int32 × zm_H → Prop) (hx1 : ∀ (v3 : Int32) (v4 : Int32) (h : zm_H) (o3 : Option Value) (o4 : Option Value) (o5 : Option Value), zSh zT0 h → G (1, v3, v4, h) → zg x (d + 5) 238 228 [some (.ref 92), some (.int v1), some (.int v2), o3, o4, o5] [] h Q) : ∀ (n : Nat) (v3 : Int32) (v4 : Int32) (h : zm_H) (o5 : Option Value), zSh zT0 h → f_M_anew_l89_ok v1 v2 n (v3, v4, h) → G (f_M_anew_l89 v1 v2 n (v3, v4, h)) → zg x (d + 5) 238 89 [some (.ref 92), some (.int v1), some (.int v2), some (.int v3), some (.int v4), o5] [] h Q := by
  intro n
  induction n with
  | zero => intro v3 v4 h o5 hs ho hG; exact ho.elim
  | succ n ih =>
    intro v3 v4 h o5 hs ho hG
    refine f_M_anew_l89_b_t (FN := fun r => (r.1 = 0 → f_M_anew_l89_ok v1 v2 n r.2) ∧ G (if r.1 = 0 then f_M_anew_l89 v1 v2 n r.2 else r)) v1 v2 v3 v4 h o5 hs ho.1 ⟨ho.2, hG⟩ ?_ ?_
    · intro v3 v4 h o5 hs hF
      exact ih v3 v4 h o5 hs (hF.1 rfl) hF.2
    · intro v3 v4 h o3 o4 o5 hs hF
      exact hx1 v3 v4 h o3 o4 o5 hs hF.2

set_option maxRecDepth 100000 in
set_option maxHeartbeats 400000 in
theorem f_M_anew_k228_t {x : zm_X} {d : Nat} (h : zm_H) (o0 : Option Value) (o1 : Option Value) (z2 : Int32) (o3 : Option Value) (o4 : Option Value) (o5 : Option Value) {Q : Option Value → zm_H → Prop} (hs : zSh zT0 h) (ho : f_M_anew_k228_ok h) (hF : (zSh zT0 (f_M_anew_k228 h) → Q none (f_M_anew_k228 h))) : zg x (d + 5) 238 228 [o0, o1, some (.int z2), o3, o4, o5] [] h Q := by
  unfold f_M_anew_k228 at hF
  unfold f_M_anew_k228_ok at ho
  exact zg_ret zd_238 rfl rfl (hF hs)
set_option maxRecDepth 100000 in
set_option maxHeartbeats 400000 in
theorem f_M_anew_k84_t {x : zm_X} {d : Nat} (v1 : Int32) (v2 : Int32) (h : zm_H) (o3 : Option Value) (o4 : Option Value) (o5 : Option Value) {Q : Option Value → zm_H → Prop} (hs : zSh zT0 h) (ho : f_M_anew_k84_ok v1 v2 h) (hF : (zSh zT0 (f_M_anew_k84 v1 v2 h) → Q none (f_M_anew_k84 v1 v2 h))) : zg x (d + 5) 238 84 [some (.ref 92), some (.int v1), some (.int v2), o3, o4, o5] [] h Q := by
  unfold f_M_anew_k84 at hF
  unfold f_M_anew_k84_ok at ho
  refine zg_blk zd_238 4 hs (rfl : zb x zT0 zc_238 4 (84, [some (.ref 92), some (.int v1), some (.int v2), o3, o4, o5], [], h) = some (89, [some (.ref 92), some (.int v1), some (.int v2), some (.int 0), some (.int 0), o5], [], h)) (fun hs => ?_)
  refine f_M_anew_l89_t v1 v2 (fun r => f_M_anew_a89_ok r ∧ (zSh zT0 (f_M_anew_a89 r) → Q none (f_M_anew_a89 r))) ?_ zF 0 0 h (o5) hs ho.1 ⟨ho.2, hF⟩
  · intro v3_ v4_ h_ o3_ o4_ o5_ hs hG
    have ho : True := trivial
    have hF : (zSh zT0 ((f_M_anew_k228 h_)) → Q none ((f_M_anew_k228 h_))) := hG.2
    exact f_M_anew_k228_t h_ (some (.ref 92)) (some (.int v1)) v2 (o3_) (o4_) (o5_) hs trivial hF
set_option maxRecDepth 100000 in
set_option maxHeartbeats 400000 in
theorem f_M_anew_t {x : zm_X} {d : Nat} (p1 : Int32) (p2 : Int32) (h : zm_H) {Q : Option Value → zm_H → Prop} (hs : zSh zT0 h) (ho : f_M_anew_ok p1 p2 h) (hF : (zSh zT0 (f_M_anew p1 p2 h) → Q none (f_M_anew p1 p2 h))) : zg x (d + 5) 238 0 [some (.ref 92), some (.int p1), some (.int p2), none, none, none] [] h Q := by
  unfold f_M_anew at hF
  unfold f_M_anew_ok at ho
  refine zg_blk zd_238 2 hs (rfl : zb x zT0 zc_238 2 (0, [some (.ref 92), some (.int p1), some (.int p2), none, none, none], [], h) = some (2, [some (.ref 92), some (.int p1), some (.int p2), some (.int 0), none, none], [], h)) (fun hs => ?_)
  refine f_M_anew_l2_t p1 p2 (fun r => f_M_anew_a2_ok p1 p2 r ∧ (zSh zT0 (f_M_anew_a2 p1 p2 r) → Q none (f_M_anew_a2 p1 p2 r))) ?_ zF 0 h (none) (none) hs ho.1 ⟨ho.2, hF⟩
  · intro v3_ h_ o3_ o4_ o5_ hs hG
    have ho : (f_M_anew_k84_ok p1 p2 h_) := hG.1
    have hF : (zSh zT0 ((f_M_anew_k84 p1 p2 h_)) → Q none ((f_M_anew_k84 p1 p2 h_))) := hG.2
    exact f_M_anew_k84_t p1 p2 h_ (o3_) (o4_) (o5_) hs ho hF
set_option maxRecDepth 100000 in
set_option maxHeartbeats 400000 in
theorem f_M_right_k37_t {x : zm_X} {d : Nat} (v1 : Int32) (v3 : Int32) (h : zm_H) (o2 : Option Value) {Q : Option Value → zm_H → Prop} (hs : zSh zT0 h) (ho : f_M_right_k37_ok v1 v3 h) (hF : (zSh zT0 (f_M_right_k37 v1 v3 h).2 → Q (some (.int (f_M_right_k37 v1 v3 h).1)) (f_M_right_k37 v1 v3 h).2)) : zg x (d + 6) 236 37 [some (.ref 92), some (.int v1), o2, some (.int v3)] [] h Q := by
  unfold f_M_right_k37 at hF
  unfold f_M_right_k37_ok at ho
  refine zg_blk zd_236 1 hs (rfl : zb x zT0 zc_236 1 (37, [some (.ref 92), some (.int v1), o2, some (.int v3)], [], h) = some (38, [some (.ref 92), some (.int v1), o2, some (.int v3)], [.int v3], h)) (fun hs => ?_)
  have hom := ho
  have K139 : zSh zT0 h → zg x (d + 6) 236 78 [some (.ref 92), some (.int v1), o2, some (.int v3)] [.int (if (v3 = 0) then ((zr h 134 v1) : Int32) else (if (v3 = 1) then ((zr h 135 v1) : Int32) else (zr h 136 (((10 * v1) + v3) - 10))))] h Q := fun hs => by
    exact zg_ret zd_236 rfl rfl (hF hs)
  refine zg_f_ne zd_236 rfl (fun (hc : ¬ (v3 = 0)) => ?_) (fun (hc : (v3 = 0)) => ?_)
  · have ho := hom.2 hc
    rw [show ((if (v3 = 0) then ((zr h 134 v1) : Int32) else (if (v3 = 1) then ((zr h 135 v1) : Int32) else (zr h 136 (((10 * v1) + v3) - 10)))) : Int32) = (if (v3 = 1) then ((zr h 135 v1) : Int32) else (zr h 136 (((10 * v1) + v3) - 10))) from if_neg hc] at K139
    refine zg_blk zd_236 2 hs (rfl : zb x zT0 zc_236 2 (50, [some (.ref 92), some (.int v1), o2, some (.int v3)], [], h) = some (52, [some (.ref 92), some (.int v1), o2, some (.int v3)], [.int 1, .int v3], h)) (fun hs => ?_)
    refine zg_i_ne zd_236 rfl (fun (hc : ¬ (v3 = 1)) => ?_) (fun (hc : (v3 = 1)) => ?_)
    · have ho := ho.2 hc
      rw [show ((if (v3 = 1) then ((zr h 135 v1) : Int32) else (zr h 136 (((10 * v1) + v3) - 10))) : Int32) = (zr h 136 (((10 * v1) + v3) - 10)) from if_neg hc] at K139
      refine zg_blk zd_236 9 hs (rfl : zb x zT0 zc_236 9 (64, [some (.ref 92), some (.int v1), o2, some (.int v3)], [], h) = some (77, [some (.ref 92), some (.int v1), o2, some (.int v3)], [.int (((10 * v1) + v3) - 10), .ref 136], h)) (fun hs => ?_)
      have hob := ho
      refine zg_ial hs zd_236 rfl rfl hob ?_
      exact K139 hs
    · have ho := ho.1 hc
      rw [show ((if (v3 = 1) then ((zr h 135 v1) : Int32) else (zr h 136 (((10 * v1) + v3) - 10))) : Int32) = (zr h 135 v1) from if_pos hc] at K139
      refine zg_blk zd_236 3 hs (rfl : zb x zT0 zc_236 3 (55, [some (.ref 92), some (.int v1), o2, some (.int v3)], [], h) = some (60, [some (.ref 92), some (.int v1), o2, some (.int v3)], [.int v1, .ref 135], h)) (fun hs => ?_)
      have hob := ho
      refine zg_ial hs zd_236 rfl rfl hob ?_
      refine zg_blk zd_236 1 hs (rfl : zb x zT0 zc_236 1 (61, [some (.ref 92), some (.int v1), o2, some (.int v3)], [.int (zr h 135 v1)], h) = some (78, [some (.ref 92), some (.int v1), o2, some (.int v3)], [.int (zr h 135 v1)], h)) (fun hs => ?_)
      exact K139 hs
  · have ho := hom.1 hc
    rw [show ((if (v3 = 0) then ((zr h 134 v1) : Int32) else (if (v3 = 1) then ((zr h 135 v1) : Int32) else (zr h 136 (((10 * v1) + v3) - 10)))) : Int32) = (zr h 134 v1) from if_pos hc] at K139
    refine zg_blk zd_236 3 hs (rfl : zb x zT0 zc_236 3 (41, [some (.ref 92), some (.int v1), o2, some (.int v3)], [], h) = some (46, [some (.ref 92), some (.int v1), o2, some (.int v3)], [.int v1, .ref 134], h)) (fun hs => ?_)
    have hob := ho
    refine zg_ial hs zd_236 rfl rfl hob ?_
    refine zg_blk zd_236 1 hs (rfl : zb x zT0 zc_236 1 (47, [some (.ref 92), some (.int v1), o2, some (.int v3)], [.int (zr h 134 v1)], h) = some (78, [some (.ref 92), some (.int v1), o2, some (.int v3)], [.int (zr h 134 v1)], h)) (fun hs => ?_)
    exact K139 hs
set_option maxRecDepth 100000 in
set_option maxHeartbeats 400000 in
theorem f_M_right_t {x : zm_X} {d : Nat} (p1 : Int32) (p2 : Int32) (p3 : Int32) (h : zm_H) {Q : Option Value → zm_H → Prop} (hs : zSh zT0 h) (ho : f_M_right_ok p1 p2 p3 h) (hF : (zSh zT0 (f_M_right p1 p2 p3 h).2 → Q (some (.int (f_M_right p1 p2 p3 h).1)) (f_M_right p1 p2 p3 h).2)) : zg x (d + 6) 236 0 [some (.ref 92), some (.int p1), some (.int p2), some (.int p3)] [] h Q := by
  unfold f_M_right at hF
  unfold f_M_right_ok at ho
  refine zg_blk zd_236 2 hs (rfl : zb x zT0 zc_236 2 (0, [some (.ref 92), some (.int p1), some (.int p2), some (.int p3)], [], h) = some (2, [some (.ref 92), some (.int p1), some (.int p2), some (.int p3)], [.int p1, .ref 92], h)) (fun hs => ?_)
  refine zg_call hs zd_236 rfl rfl rfl rfl (as := [.ref 92, .int p1]) (rest := []) (en := [some (.ref 92), some (.int p1)]) rfl rfl rfl rfl rfl ?_
  refine f_M_isOver_t p1 h hs trivial ?_
  show zg x (d + 6) 236 5 [some (.ref 92), some (.int p1), some (.int p2), some (.int p3)] [.int (if (¬ (p1 < 0) ∧ (¬ (((zf h 92 23) - 1) < p1))) then (1 : Int32) else 0)] h Q
  refine zg_b_eq zd_236 rfl (fun (hc : ¬ (¬ (p1 < 0) ∧ (¬ (((zf h 92 23) - 1) < p1)))) => ?_) (fun (hc : (¬ (p1 < 0) ∧ (¬ (((zf h 92 23) - 1) < p1)))) => ?_)
  · have ho := ho.2 hc
    rw [if_neg hc] at hF
    refine zg_blk zd_236 1 hs (rfl : zb x zT0 zc_236 1 (27, [some (.ref 92), some (.int p1), some (.int p2), some (.int p3)], [], h) = some (30, [some (.ref 92), some (.int p1), some (.int p2), some (.int p3)], [.int (-2147483648)], h)) (fun hs => ?_)
    exact zg_ret zd_236 rfl rfl (hF hs)
  · have ho := ho.1 hc
    rw [if_pos hc] at hF
    refine zg_blk zd_236 3 hs (rfl : zb x zT0 zc_236 3 (8, [some (.ref 92), some (.int p1), some (.int p2), some (.int p3)], [], h) = some (11, [some (.ref 92), some (.int p1), some (.int p2), some (.int p3)], [.ref 92, .int p1, .int p2], h)) (fun hs => ?_)
    refine zg_call hs zd_236 rfl rfl rfl rfl (as := [.ref 92]) (rest := [.int p1, .int p2]) (en := [some (.ref 92)]) rfl rfl rfl rfl rfl ?_
    refine f_M_lastKnown_t  h hs trivial ?_
    show zg x (d + 6) 236 14 [some (.ref 92), some (.int p1), some (.int p2), some (.int p3)] [.int (if (480 ≤ (zf h 92 23)) then (479 : Int32) else (zf h 92 23)), .int p1, .int p2] h Q
    refine zg_call hs zd_236 rfl rfl rfl rfl (as := [.int p2, .int p1, .int (if (480 ≤ (zf h 92 23)) then (479 : Int32) else (zf h 92 23))]) (rest := []) (en := [some (.int p2), some (.int p1), some (.int (if (480 ≤ (zf h 92 23)) then (479 : Int32) else (zf h 92 23)))]) rfl rfl rfl rfl rfl ?_
    refine f_M_in_t p2 p1 (if (480 ≤ (zf h 92 23)) then (479 : Int32) else (zf h 92 23)) h hs trivial ?_
    show zg x (d + 6) 236 17 [some (.ref 92), some (.int p1), some (.int p2), some (.int p3)] [.int (if (¬ (p2 < p1) ∧ (¬ ((if (480 ≤ (zf h 92 23)) then (479 : Int32) else (zf h 92 23)) < p2))) then (1 : Int32) else 0)] h Q
    refine zg_b_eq zd_236 rfl (fun (hc : ¬ (¬ (p2 < p1) ∧ (¬ ((if (480 ≤ (zf h 92 23)) then (479 : Int32) else (zf h 92 23)) < p2)))) => ?_) (fun (hc : (¬ (p2 < p1) ∧ (¬ ((if (480 ≤ (zf h 92 23)) then (479 : Int32) else (zf h 92 23)) < p2)))) => ?_)
    · have ho := ho.2 hc
      rw [if_neg hc] at hF
      refine zg_blk zd_236 1 hs (rfl : zb x zT0 zc_236 1 (27, [some (.ref 92), some (.int p1), some (.int p2), some (.int p3)], [], h) = some (30, [some (.ref 92), some (.int p1), some (.int p2), some (.int p3)], [.int (-2147483648)], h)) (fun hs => ?_)
      exact zg_ret zd_236 rfl rfl (hF hs)
    · have ho := ho.1 hc
      rw [if_pos hc] at hF
      refine zg_blk zd_236 1 hs (rfl : zb x zT0 zc_236 1 (20, [some (.ref 92), some (.int p1), some (.int p2), some (.int p3)], [], h) = some (21, [some (.ref 92), some (.int p1), some (.int p2), some (.int p3)], [.int p3], h)) (fun hs => ?_)
      refine zg_call hs zd_236 rfl rfl rfl rfl (as := [.int p3]) (rest := []) (en := [some (.int p3)]) rfl rfl rfl rfl rfl ?_
      refine f_M_isAsked_t p3 h hs trivial ?_
      show zg x (d + 6) 236 24 [some (.ref 92), some (.int p1), some (.int p2), some (.int p3)] [.int (if ((¬ (p3 < 0) ∧ (¬ (1 < p3))) ∨ (¬ (p3 < 10) ∧ (¬ (19 < p3)))) then (1 : Int32) else 0)] h Q
      refine zg_b_ne zd_236 rfl (fun (hc : ((¬ (p3 < 0) ∧ (¬ (1 < p3))) ∨ (¬ (p3 < 10) ∧ (¬ (19 < p3))))) => ?_) (fun (hc : ¬ ((¬ (p3 < 0) ∧ (¬ (1 < p3))) ∨ (¬ (p3 < 10) ∧ (¬ (19 < p3))))) => ?_)
      · have ho := ho.1 hc
        rw [if_pos hc] at hF
        refine zg_blk zd_236 3 hs (rfl : zb x zT0 zc_236 3 (31, [some (.ref 92), some (.int p1), some (.int p2), some (.int p3)], [], h) = some (34, [some (.ref 92), some (.int p1), some (.int p2), some (.int p3)], [.int p2, .int p1, .ref 92], h)) (fun hs => ?_)
        obtain ⟨hob, ho⟩ := ho
        refine zg_call hs zd_236 rfl rfl rfl rfl (as := [.ref 92, .int p1, .int p2]) (rest := []) (en := [some (.ref 92), some (.int p1), some (.int p2), none, none, none]) rfl rfl rfl rfl rfl ?_
        refine f_M_anew_t p1 p2 h hs hob (fun hs => ?_)
        show zg x (d + 6) 236 37 [some (.ref 92), some (.int p1), some (.int p2), some (.int p3)] [] (f_M_anew p1 p2 h) Q
        exact f_M_right_k37_t p1 p3 (f_M_anew p1 p2 h) (some (.int p2)) hs ho hF
      · have ho := ho.2 hc
        rw [if_neg hc] at hF
        refine zg_blk zd_236 1 hs (rfl : zb x zT0 zc_236 1 (27, [some (.ref 92), some (.int p1), some (.int p2), some (.int p3)], [], h) = some (30, [some (.ref 92), some (.int p1), some (.int p2), some (.int p3)], [.int (-2147483648)], h)) (fun hs => ?_)
        exact zg_ret zd_236 rfl rfl (hF hs)
theorem zd_150 : zm_cd 150 = zc_150 := by rfl
set_option maxRecDepth 100000 in
set_option maxHeartbeats 400000 in
theorem f_N_owed_l29_b_t {x : zm_X} {d : Nat} (v2 : Int32) (v3 : Int32) (v4 : Int32) (h : zm_H) (o1 : Option Value) {Q : Option Value → zm_H → Prop} {FN : Nat × Int32 × Int32 → Prop} (hs : zSh zT0 h) (ho : f_N_owed_l29_b_ok v2 v3 v4 h) (hF : FN (f_N_owed_l29_b v2 v3 v4 h)) (hl0 : ∀ (v3 : Int32) (v4 : Int32) (o1 : Option Value), zSh zT0 h → FN (0, v3, v4) → zg x (d + 7) 150 29 [some (.ref 0), o1, some (.int v2), some (.int v3), some (.int v4)] [] h Q) (hl1 : ∀ (v3 : Int32) (v4 : Int32) (o1 : Option Value) (o4 : Option Value), zSh zT0 h → FN (1, v3, v4) → zg x (d + 7) 150 65 [some (.ref 0), o1, some (.int v2), some (.int v3), o4] [] h Q) : zg x (d + 7) 150 29 [some (.ref 0), o1, some (.int v2), some (.int v3), some (.int v4)] [] h Q := by
  unfold f_N_owed_l29_b at hF
  unfold f_N_owed_l29_b_ok at ho
  refine zg_blk zd_150 2 hs (rfl : zb x zT0 zc_150 2 (29, [some (.ref 0), o1, some (.int v2), some (.int v3), some (.int v4)], [], h) = some (32, [some (.ref 0), o1, some (.int v2), some (.int v3), some (.int v4)], [.int v2, .int v4], h)) (fun hs => ?_)
  refine zg_i_gt zd_150 rfl (fun (hc : (v2 < v4)) => ?_) (fun (hc : ¬ (v2 < v4)) => ?_)
  · have ho := ho.1 hc
    rw [if_pos hc] at hF
    exact hl1 v3 v4 (o1) (some (.int v4)) hs hF
  · have ho := ho.2 hc
    rw [if_neg hc] at hF
    refine zg_blk zd_150 5 hs (rfl : zb x zT0 zc_150 5 (35, [some (.ref 0), o1, some (.int v2), some (.int v3), some (.int v4)], [], h) = some (45, [some (.ref 0), o1, some (.int v2), some (.int v3), some (.int v4)], [.int v4, .ref 61, .int v3], h)) (fun hs => ?_)
    obtain ⟨hob, ho⟩ := ho
    refine zg_ial hs zd_150 rfl rfl hob ?_
    refine zg_blk zd_150 4 hs (rfl : zb x zT0 zc_150 4 (46, [some (.ref 0), o1, some (.int v2), some (.int v3), some (.int v4)], [.int (zr h 61 v4), .int v3], h) = some (55, [some (.ref 0), o1, some (.int v2), some (.int v3), some (.int v4)], [.int v4, .ref 48, .int (zr h 61 v4), .int v3], h)) (fun hs => ?_)
    have hob := ho
    refine zg_ial hs zd_150 rfl rfl hob ?_
    refine zg_blk zd_150 5 hs (rfl : zb x zT0 zc_150 5 (56, [some (.ref 0), o1, some (.int v2), some (.int v3), some (.int v4)], [.int (zr h 48 v4), .int (zr h 61 v4), .int v3], h) = some (29, [some (.ref 0), o1, some (.int v2), some (.int (v3 + ((zr h 61 v4) - (zr h 48 v4)))), some (.int (v4 + 1))], [], h)) (fun hs => ?_)
    exact hl0 (v3 + ((zr h 61 v4) - (zr h 48 v4))) (v4 + 1) (o1) hs hF
theorem f_N_owed_l29_t {x : zm_X} {d : Nat} (v2 : Int32) (h : zm_H) {Q : Option Value → zm_H → Prop} (G : Nat × Int32 × Int32 → Prop) (hx1 : ∀ (v3 : Int32) (v4 : Int32) (o1 : Option Value) (o4 : Option Value), zSh zT0 h → G (1, v3, v4) → zg x (d + 7) 150 65 [some (.ref 0), o1, some (.int v2), some (.int v3), o4] [] h Q) : ∀ (n : Nat) (v3 : Int32) (v4 : Int32) (o1 : Option Value), zSh zT0 h → f_N_owed_l29_ok v2 h n (v3, v4) → G (f_N_owed_l29 v2 h n (v3, v4)) → zg x (d + 7) 150 29 [some (.ref 0), o1, some (.int v2), some (.int v3), some (.int v4)] [] h Q := by
  intro n
  induction n with
  | zero => intro v3 v4 o1 hs ho hG; exact ho.elim
  | succ n ih =>
    intro v3 v4 o1 hs ho hG
    refine f_N_owed_l29_b_t (FN := fun r => (r.1 = 0 → f_N_owed_l29_ok v2 h n r.2) ∧ G (if r.1 = 0 then f_N_owed_l29 v2 h n r.2 else r)) v2 v3 v4 h o1 hs ho.1 ⟨ho.2, hG⟩ ?_ ?_
    · intro v3 v4 o1 hs hF
      exact ih v3 v4 o1 hs (hF.1 rfl) hF.2
    · intro v3 v4 o1 o4 hs hF
      exact hx1 v3 v4 o1 o4 hs hF.2

set_option maxRecDepth 100000 in
set_option maxHeartbeats 400000 in
theorem f_N_owed_k65_t {x : zm_X} {d : Nat} (v3 : Int32) (h : zm_H) (o0 : Option Value) (o1 : Option Value) (z2 : Int32) (o4 : Option Value) {Q : Option Value → zm_H → Prop} (hs : zSh zT0 h) (ho : f_N_owed_k65_ok v3 h) (hF : (zSh zT0 (f_N_owed_k65 v3 h).2 → Q (some (.int (f_N_owed_k65 v3 h).1)) (f_N_owed_k65 v3 h).2)) : zg x (d + 7) 150 65 [o0, o1, some (.int z2), some (.int v3), o4] [] h Q := by
  unfold f_N_owed_k65 at hF
  unfold f_N_owed_k65_ok at ho
  refine zg_blk zd_150 1 hs (rfl : zb x zT0 zc_150 1 (65, [o0, o1, some (.int z2), some (.int v3), o4], [], h) = some (66, [o0, o1, some (.int z2), some (.int v3), o4], [.int v3], h)) (fun hs => ?_)
  exact zg_ret zd_150 rfl rfl (hF hs)
set_option maxRecDepth 100000 in
set_option maxHeartbeats 400000 in
theorem f_N_owed_k24_t {x : zm_X} {d : Nat} (v1 : Int32) (v2 : Int32) (h : zm_H) (o3 : Option Value) (o4 : Option Value) {Q : Option Value → zm_H → Prop} (hs : zSh zT0 h) (ho : f_N_owed_k24_ok v1 v2 h) (hF : (zSh zT0 (f_N_owed_k24 v1 v2 h).2 → Q (some (.int (f_N_owed_k24 v1 v2 h).1)) (f_N_owed_k24 v1 v2 h).2)) : zg x (d + 7) 150 24 [some (.ref 0), some (.int v1), some (.int v2), o3, o4] [] h Q := by
  unfold f_N_owed_k24 at hF
  unfold f_N_owed_k24_ok at ho
  refine zg_blk zd_150 4 hs (rfl : zb x zT0 zc_150 4 (24, [some (.ref 0), some (.int v1), some (.int v2), o3, o4], [], h) = some (29, [some (.ref 0), some (.int v1), some (.int v2), some (.int 0), some (.int v1)], [], h)) (fun hs => ?_)
  refine f_N_owed_l29_t v2 h (fun r => f_N_owed_a29_ok r h ∧ (zSh zT0 (f_N_owed_a29 r h).2 → Q (some (.int (f_N_owed_a29 r h).1)) (f_N_owed_a29 r h).2)) ?_ zF 0 v1 (some (.int v1)) hs ho.1 ⟨ho.2, hF⟩
  · intro v3_ v4_ o1_ o4_ hs hG
    have ho : True := trivial
    have hF : (zSh zT0 ((f_N_owed_k65 v3_ h)).2 → Q (some (.int ((f_N_owed_k65 v3_ h)).1)) ((f_N_owed_k65 v3_ h)).2) := hG.2
    exact f_N_owed_k65_t v3_ h (some (.ref 0)) (o1_) v2 (o4_) hs trivial hF
set_option maxRecDepth 100000 in
set_option maxHeartbeats 400000 in
theorem f_N_owed_t {x : zm_X} {d : Nat} (p1 : Int32) (p2 : Int32) (h : zm_H) {Q : Option Value → zm_H → Prop} (hs : zSh zT0 h) (ho : f_N_owed_ok p1 p2 h) (hF : (zSh zT0 (f_N_owed p1 p2 h).2 → Q (some (.int (f_N_owed p1 p2 h).1)) (f_N_owed p1 p2 h).2)) : zg x (d + 7) 150 0 [some (.ref 0), some (.int p1), some (.int p2), none, none] [] h Q := by
  unfold f_N_owed at hF
  unfold f_N_owed_ok at ho
  refine zg_blk zd_150 4 hs (rfl : zb x zT0 zc_150 4 (0, [some (.ref 0), some (.int p1), some (.int p2), none, none], [], h) = some (6, [some (.ref 0), some (.int p1), some (.int p2), none, none], [.int (zf h 0 0), .int p2, .int p1], h)) (fun hs => ?_)
  refine zg_call hs zd_150 rfl rfl rfl rfl (as := [.int p1, .int p2, .int (zf h 0 0)]) (rest := []) (en := [some (.int p1), some (.int p2), some (.int (zf h 0 0))]) rfl rfl rfl rfl rfl ?_
  refine f_N_isRange_t p1 p2 (zf h 0 0) h hs trivial ?_
  show zg x (d + 7) 150 9 [some (.ref 0), some (.int p1), some (.int p2), none, none] [.int (if (¬ (p1 < 0) ∧ (¬ (p2 < p1) ∧ (¬ ((zf h 0 0) ≤ p2)))) then (1 : Int32) else 0)] h Q
  refine zg_b_ne zd_150 rfl (fun (hc : (¬ (p1 < 0) ∧ (¬ (p2 < p1) ∧ (¬ ((zf h 0 0) ≤ p2))))) => ?_) (fun (hc : ¬ (¬ (p1 < 0) ∧ (¬ (p2 < p1) ∧ (¬ ((zf h 0 0) ≤ p2))))) => ?_)
  · have ho := ho.1 hc
    rw [if_pos hc] at hF
    refine zg_blk zd_150 4 hs (rfl : zb x zT0 zc_150 4 (15, [some (.ref 0), some (.int p1), some (.int p2), none, none], [], h) = some (21, [some (.ref 0), some (.int p1), some (.int p2), none, none], [.int (zf h 0 0), .int p2, .ref 0], h)) (fun hs => ?_)
    obtain ⟨hob, ho⟩ := ho
    refine zg_call hs zd_150 rfl rfl rfl rfl (as := [.ref 0, .int p2, .int (zf h 0 0)]) (rest := []) (en := [some (.ref 0), some (.int p2), some (.int (zf h 0 0)), none, none, none]) rfl rfl rfl rfl rfl ?_
    refine f_N_goAnew_t p2 (zf h 0 0) h hs hob (fun hs => ?_)
    show zg x (d + 7) 150 24 [some (.ref 0), some (.int p1), some (.int p2), none, none] [] (f_N_goAnew p2 (zf h 0 0) h) Q
    exact f_N_owed_k24_t p1 p2 (f_N_goAnew p2 (zf h 0 0) h) (none) (none) hs ho hF
  · have ho := ho.2 hc
    rw [if_neg hc] at hF
    refine zg_blk zd_150 1 hs (rfl : zb x zT0 zc_150 1 (12, [some (.ref 0), some (.int p1), some (.int p2), none, none], [], h) = some (14, [some (.ref 0), some (.int p1), some (.int p2), none, none], [.int (-2147483648)], h)) (fun hs => ?_)
    exact zg_ret zd_150 rfl rfl (hF hs)
theorem zd_239 : zm_cd 239 = zc_239 := by rfl
set_option maxRecDepth 100000 in
set_option maxHeartbeats 400000 in
theorem f_M_owed_l39_b_t {x : zm_X} {d : Nat} (v2 : Int32) (v3 : Int32) (v4 : Int32) (h : zm_H) (o1 : Option Value) {Q : Option Value → zm_H → Prop} {FN : Nat × Int32 × Int32 → Prop} (hs : zSh zT0 h) (ho : f_M_owed_l39_b_ok v2 v3 v4 h) (hF : FN (f_M_owed_l39_b v2 v3 v4 h)) (hl0 : ∀ (v3 : Int32) (v4 : Int32) (o1 : Option Value), zSh zT0 h → FN (0, v3, v4) → zg x (d + 6) 239 39 [some (.ref 92), o1, some (.int v2), some (.int v3), some (.int v4)] [] h Q) (hl1 : ∀ (v3 : Int32) (v4 : Int32) (o1 : Option Value) (o4 : Option Value), zSh zT0 h → FN (1, v3, v4) → zg x (d + 6) 239 69 [some (.ref 92), o1, some (.int v2), some (.int v3), o4] [] h Q) : zg x (d + 6) 239 39 [some (.ref 92), o1, some (.int v2), some (.int v3), some (.int v4)] [] h Q := by
  unfold f_M_owed_l39_b at hF
  unfold f_M_owed_l39_b_ok at ho
  refine zg_blk zd_239 2 hs (rfl : zb x zT0 zc_239 2 (39, [some (.ref 92), o1, some (.int v2), some (.int v3), some (.int v4)], [], h) = some (42, [some (.ref 92), o1, some (.int v2), some (.int v3), some (.int v4)], [.int v2, .int v4], h)) (fun hs => ?_)
  refine zg_i_gt zd_239 rfl (fun (hc : (v2 < v4)) => ?_) (fun (hc : ¬ (v2 < v4)) => ?_)
  · have ho := ho.1 hc
    rw [if_pos hc] at hF
    exact hl1 v3 v4 (o1) (some (.int v4)) hs hF
  · have ho := ho.2 hc
    rw [if_neg hc] at hF
    refine zg_blk zd_239 4 hs (rfl : zb x zT0 zc_239 4 (45, [some (.ref 92), o1, some (.int v2), some (.int v3), some (.int v4)], [], h) = some (52, [some (.ref 92), o1, some (.int v2), some (.int v3), some (.int v4)], [.int v4, .ref 135, .int v3], h)) (fun hs => ?_)
    obtain ⟨hob, ho⟩ := ho
    refine zg_ial hs zd_239 rfl rfl hob ?_
    refine zg_blk zd_239 3 hs (rfl : zb x zT0 zc_239 3 (53, [some (.ref 92), o1, some (.int v2), some (.int v3), some (.int v4)], [.int (zr h 135 v4), .int v3], h) = some (59, [some (.ref 92), o1, some (.int v2), some (.int v3), some (.int v4)], [.int v4, .ref 132, .int (zr h 135 v4), .int v3], h)) (fun hs => ?_)
    have hob := ho
    refine zg_ial hs zd_239 rfl rfl hob ?_
    refine zg_blk zd_239 5 hs (rfl : zb x zT0 zc_239 5 (60, [some (.ref 92), o1, some (.int v2), some (.int v3), some (.int v4)], [.int (zr h 132 v4), .int (zr h 135 v4), .int v3], h) = some (39, [some (.ref 92), o1, some (.int v2), some (.int (v3 + ((zr h 135 v4) - (zr h 132 v4)))), some (.int (v4 + 1))], [], h)) (fun hs => ?_)
    exact hl0 (v3 + ((zr h 135 v4) - (zr h 132 v4))) (v4 + 1) (o1) hs hF
theorem f_M_owed_l39_t {x : zm_X} {d : Nat} (v2 : Int32) (h : zm_H) {Q : Option Value → zm_H → Prop} (G : Nat × Int32 × Int32 → Prop) (hx1 : ∀ (v3 : Int32) (v4 : Int32) (o1 : Option Value) (o4 : Option Value), zSh zT0 h → G (1, v3, v4) → zg x (d + 6) 239 69 [some (.ref 92), o1, some (.int v2), some (.int v3), o4] [] h Q) : ∀ (n : Nat) (v3 : Int32) (v4 : Int32) (o1 : Option Value), zSh zT0 h → f_M_owed_l39_ok v2 h n (v3, v4) → G (f_M_owed_l39 v2 h n (v3, v4)) → zg x (d + 6) 239 39 [some (.ref 92), o1, some (.int v2), some (.int v3), some (.int v4)] [] h Q := by
  intro n
  induction n with
  | zero => intro v3 v4 o1 hs ho hG; exact ho.elim
  | succ n ih =>
    intro v3 v4 o1 hs ho hG
    refine f_M_owed_l39_b_t (FN := fun r => (r.1 = 0 → f_M_owed_l39_ok v2 h n r.2) ∧ G (if r.1 = 0 then f_M_owed_l39 v2 h n r.2 else r)) v2 v3 v4 h o1 hs ho.1 ⟨ho.2, hG⟩ ?_ ?_
    · intro v3 v4 o1 hs hF
      exact ih v3 v4 o1 hs (hF.1 rfl) hF.2
    · intro v3 v4 o1 o4 hs hF
      exact hx1 v3 v4 o1 o4 hs hF.2

set_option maxRecDepth 100000 in
set_option maxHeartbeats 400000 in
theorem f_M_owed_k69_t {x : zm_X} {d : Nat} (v3 : Int32) (h : zm_H) (o0 : Option Value) (o1 : Option Value) (z2 : Int32) (o4 : Option Value) {Q : Option Value → zm_H → Prop} (hs : zSh zT0 h) (ho : f_M_owed_k69_ok v3 h) (hF : (zSh zT0 (f_M_owed_k69 v3 h).2 → Q (some (.int (f_M_owed_k69 v3 h).1)) (f_M_owed_k69 v3 h).2)) : zg x (d + 6) 239 69 [o0, o1, some (.int z2), some (.int v3), o4] [] h Q := by
  unfold f_M_owed_k69 at hF
  unfold f_M_owed_k69_ok at ho
  refine zg_blk zd_239 1 hs (rfl : zb x zT0 zc_239 1 (69, [o0, o1, some (.int z2), some (.int v3), o4], [], h) = some (70, [o0, o1, some (.int z2), some (.int v3), o4], [.int v3], h)) (fun hs => ?_)
  exact zg_ret zd_239 rfl rfl (hF hs)
set_option maxRecDepth 100000 in
set_option maxHeartbeats 400000 in
theorem f_M_owed_k34_t {x : zm_X} {d : Nat} (v1 : Int32) (v2 : Int32) (h : zm_H) (o3 : Option Value) (o4 : Option Value) {Q : Option Value → zm_H → Prop} (hs : zSh zT0 h) (ho : f_M_owed_k34_ok v1 v2 h) (hF : (zSh zT0 (f_M_owed_k34 v1 v2 h).2 → Q (some (.int (f_M_owed_k34 v1 v2 h).1)) (f_M_owed_k34 v1 v2 h).2)) : zg x (d + 6) 239 34 [some (.ref 92), some (.int v1), some (.int v2), o3, o4] [] h Q := by
  unfold f_M_owed_k34 at hF
  unfold f_M_owed_k34_ok at ho
  refine zg_blk zd_239 4 hs (rfl : zb x zT0 zc_239 4 (34, [some (.ref 92), some (.int v1), some (.int v2), o3, o4], [], h) = some (39, [some (.ref 92), some (.int v1), some (.int v2), some (.int 0), some (.int v1)], [], h)) (fun hs => ?_)
  refine f_M_owed_l39_t v2 h (fun r => f_M_owed_a39_ok r h ∧ (zSh zT0 (f_M_owed_a39 r h).2 → Q (some (.int (f_M_owed_a39 r h).1)) (f_M_owed_a39 r h).2)) ?_ zF 0 v1 (some (.int v1)) hs ho.1 ⟨ho.2, hF⟩
  · intro v3_ v4_ o1_ o4_ hs hG
    have ho : True := trivial
    have hF : (zSh zT0 ((f_M_owed_k69 v3_ h)).2 → Q (some (.int ((f_M_owed_k69 v3_ h)).1)) ((f_M_owed_k69 v3_ h)).2) := hG.2
    exact f_M_owed_k69_t v3_ h (some (.ref 92)) (o1_) v2 (o4_) hs trivial hF
set_option maxRecDepth 100000 in
set_option maxHeartbeats 400000 in
theorem f_M_owed_t {x : zm_X} {d : Nat} (p1 : Int32) (p2 : Int32) (h : zm_H) {Q : Option Value → zm_H → Prop} (hs : zSh zT0 h) (ho : f_M_owed_ok p1 p2 h) (hF : (zSh zT0 (f_M_owed p1 p2 h).2 → Q (some (.int (f_M_owed p1 p2 h).1)) (f_M_owed p1 p2 h).2)) : zg x (d + 6) 239 0 [some (.ref 92), some (.int p1), some (.int p2), none, none] [] h Q := by
  unfold f_M_owed at hF
  unfold f_M_owed_ok at ho
  refine zg_blk zd_239 2 hs (rfl : zb x zT0 zc_239 2 (0, [some (.ref 92), some (.int p1), some (.int p2), none, none], [], h) = some (2, [some (.ref 92), some (.int p1), some (.int p2), none, none], [.int p1, .ref 92], h)) (fun hs => ?_)
  refine zg_call hs zd_239 rfl rfl rfl rfl (as := [.ref 92, .int p1]) (rest := []) (en := [some (.ref 92), some (.int p1)]) rfl rfl rfl rfl rfl ?_
  refine f_M_isOver_t p1 h hs trivial ?_
  show zg x (d + 6) 239 5 [some (.ref 92), some (.int p1), some (.int p2), none, none] [.int (if (¬ (p1 < 0) ∧ (¬ (((zf h 92 23) - 1) < p1))) then (1 : Int32) else 0)] h Q
  refine zg_b_eq zd_239 rfl (fun (hc : ¬ (¬ (p1 < 0) ∧ (¬ (((zf h 92 23) - 1) < p1)))) => ?_) (fun (hc : (¬ (p1 < 0) ∧ (¬ (((zf h 92 23) - 1) < p1)))) => ?_)
  · have ho := ho.2 hc
    rw [if_neg hc] at hF
    refine zg_blk zd_239 1 hs (rfl : zb x zT0 zc_239 1 (21, [some (.ref 92), some (.int p1), some (.int p2), none, none], [], h) = some (24, [some (.ref 92), some (.int p1), some (.int p2), none, none], [.int (-2147483648)], h)) (fun hs => ?_)
    exact zg_ret zd_239 rfl rfl (hF hs)
  · have ho := ho.1 hc
    rw [if_pos hc] at hF
    refine zg_blk zd_239 2 hs (rfl : zb x zT0 zc_239 2 (8, [some (.ref 92), some (.int p1), some (.int p2), none, none], [], h) = some (10, [some (.ref 92), some (.int p1), some (.int p2), none, none], [.int p2, .ref 92], h)) (fun hs => ?_)
    refine zg_call hs zd_239 rfl rfl rfl rfl (as := [.ref 92, .int p2]) (rest := []) (en := [some (.ref 92), some (.int p2)]) rfl rfl rfl rfl rfl ?_
    refine f_M_isOver_t p2 h hs trivial ?_
    show zg x (d + 6) 239 13 [some (.ref 92), some (.int p1), some (.int p2), none, none] [.int (if (¬ (p2 < 0) ∧ (¬ (((zf h 92 23) - 1) < p2))) then (1 : Int32) else 0)] h Q
    refine zg_b_eq zd_239 rfl (fun (hc : ¬ (¬ (p2 < 0) ∧ (¬ (((zf h 92 23) - 1) < p2)))) => ?_) (fun (hc : (¬ (p2 < 0) ∧ (¬ (((zf h 92 23) - 1) < p2)))) => ?_)
    · have ho := ho.2 hc
      rw [if_neg hc] at hF
      refine zg_blk zd_239 1 hs (rfl : zb x zT0 zc_239 1 (21, [some (.ref 92), some (.int p1), some (.int p2), none, none], [], h) = some (24, [some (.ref 92), some (.int p1), some (.int p2), none, none], [.int (-2147483648)], h)) (fun hs => ?_)
      exact zg_ret zd_239 rfl rfl (hF hs)
    · have ho := ho.1 hc
      rw [if_pos hc] at hF
      refine zg_blk zd_239 2 hs (rfl : zb x zT0 zc_239 2 (16, [some (.ref 92), some (.int p1), some (.int p2), none, none], [], h) = some (18, [some (.ref 92), some (.int p1), some (.int p2), none, none], [.int p1, .int p2], h)) (fun hs => ?_)
      refine zg_i_ge zd_239 rfl (fun (hc : (p1 ≤ p2)) => ?_) (fun (hc : ¬ (p1 ≤ p2)) => ?_)
      · have ho := ho.1 hc
        rw [if_pos hc] at hF
        refine zg_blk zd_239 3 hs (rfl : zb x zT0 zc_239 3 (25, [some (.ref 92), some (.int p1), some (.int p2), none, none], [], h) = some (28, [some (.ref 92), some (.int p1), some (.int p2), none, none], [.ref 92, .int p2, .ref 92], h)) (fun hs => ?_)
        refine zg_call hs zd_239 rfl rfl rfl rfl (as := [.ref 92]) (rest := [.int p2, .ref 92]) (en := [some (.ref 92)]) rfl rfl rfl rfl rfl ?_
        refine f_M_lastKnown_t  h hs trivial ?_
        show zg x (d + 6) 239 31 [some (.ref 92), some (.int p1), some (.int p2), none, none] [.int (if (480 ≤ (zf h 92 23)) then (479 : Int32) else (zf h 92 23)), .int p2, .ref 92] h Q
        obtain ⟨hob, ho⟩ := ho
        refine zg_call hs zd_239 rfl rfl rfl rfl (as := [.ref 92, .int p2, .int (if (480 ≤ (zf h 92 23)) then (479 : Int32) else (zf h 92 23))]) (rest := []) (en := [some (.ref 92), some (.int p2), some (.int (if (480 ≤ (zf h 92 23)) then (479 : Int32) else (zf h 92 23))), none, none, none]) rfl rfl rfl rfl rfl ?_
        refine f_M_anew_t p2 (if (480 ≤ (zf h 92 23)) then (479 : Int32) else (zf h 92 23)) h hs hob (fun hs => ?_)
        show zg x (d + 6) 239 34 [some (.ref 92), some (.int p1), some (.int p2), none, none] [] (f_M_anew p2 (if (480 ≤ (zf h 92 23)) then (479 : Int32) else (zf h 92 23)) h) Q
        exact f_M_owed_k34_t p1 p2 (f_M_anew p2 (if (480 ≤ (zf h 92 23)) then (479 : Int32) else (zf h 92 23)) h) (none) (none) hs ho hF
      · have ho := ho.2 hc
        rw [if_neg hc] at hF
        refine zg_blk zd_239 1 hs (rfl : zb x zT0 zc_239 1 (21, [some (.ref 92), some (.int p1), some (.int p2), none, none], [], h) = some (24, [some (.ref 92), some (.int p1), some (.int p2), none, none], [.int (-2147483648)], h)) (fun hs => ?_)
        exact zg_ret zd_239 rfl rfl (hF hs)
theorem zd_151 : zm_cd 151 = zc_151 := by rfl
set_option maxRecDepth 100000 in
set_option maxHeartbeats 400000 in
theorem f_Course_ofRaft_50_t {x : zm_X} {d : Nat} (p1 : Int32) (p2 : Int32) (h : zm_H) {Q : Option Value → zm_H → Prop} (hs : zSh zT0 h) (ho : f_Course_ofRaft_50_ok p1 p2 h) (hF : Q (some (.int (f_Course_ofRaft_50 p1 p2 h))) h) : zg x (d + 3) 29 0 [some (.ref 50), some (.int p1), some (.int p2)] [] h Q := by
  unfold f_Course_ofRaft_50 at hF
  unfold f_Course_ofRaft_50_ok at ho
  refine zg_blk zd_29 1 hs (rfl : zb x zT0 zc_29 1 (0, [some (.ref 50), some (.int p1), some (.int p2)], [], h) = some (1, [some (.ref 50), some (.int p1), some (.int p2)], [.int p2], h)) (fun hs => ?_)
  by_cases hc0 : p2 = 0
  · have ho := ho.1 hc0
    rw [if_pos hc0] at hF
    refine zg_tsw zd_29 rfl (tg := 48) (by rw [hc0]; rfl) ?_
    refine zg_blk zd_29 3 hs (rfl : zb x zT0 zc_29 3 (48, [some (.ref 50), some (.int p1), some (.int p2)], [], h) = some (53, [some (.ref 50), some (.int p1), some (.int p2)], [.int p1, .ref 51], h)) (fun hs => ?_)
    have hob := ho
    refine zg_ial hs zd_29 rfl rfl hob ?_
    exact zg_ret zd_29 rfl rfl hF
  have ho := ho.2 hc0
  rw [if_neg hc0] at hF
  by_cases hc1 : p2 = 1
  · have ho := ho.1 hc1
    rw [if_pos hc1] at hF
    refine zg_tsw zd_29 rfl (tg := 55) (by rw [hc1]; rfl) ?_
    refine zg_blk zd_29 3 hs (rfl : zb x zT0 zc_29 3 (55, [some (.ref 50), some (.int p1), some (.int p2)], [], h) = some (60, [some (.ref 50), some (.int p1), some (.int p2)], [.int p1, .ref 52], h)) (fun hs => ?_)
    have hob := ho
    refine zg_ial hs zd_29 rfl rfl hob ?_
    exact zg_ret zd_29 rfl rfl hF
  have ho := ho.2 hc1
  rw [if_neg hc1] at hF
  by_cases hc2 : p2 = 2
  · have ho := ho.1 hc2
    rw [if_pos hc2] at hF
    refine zg_tsw zd_29 rfl (tg := 62) (by rw [hc2]; rfl) ?_
    refine zg_blk zd_29 4 hs (rfl : zb x zT0 zc_29 4 (62, [some (.ref 50), some (.int p1), some (.int p2)], [], h) = some (70, [some (.ref 50), some (.int p1), some (.int p2)], [.int p1, .ref 24], h)) (fun hs => ?_)
    have hob := ho
    refine zg_ial hs zd_29 rfl rfl hob ?_
    exact zg_ret zd_29 rfl rfl hF
  have ho := ho.2 hc2
  rw [if_neg hc2] at hF
  by_cases hc3 : p2 = 3
  · have ho := ho.1 hc3
    rw [if_pos hc3] at hF
    refine zg_tsw zd_29 rfl (tg := 72) (by rw [hc3]; rfl) ?_
    refine zg_blk zd_29 4 hs (rfl : zb x zT0 zc_29 4 (72, [some (.ref 50), some (.int p1), some (.int p2)], [], h) = some (80, [some (.ref 50), some (.int p1), some (.int p2)], [.int p1, .ref 25], h)) (fun hs => ?_)
    have hob := ho
    refine zg_ial hs zd_29 rfl rfl hob ?_
    exact zg_ret zd_29 rfl rfl hF
  have ho := ho.2 hc3
  rw [if_neg hc3] at hF
  by_cases hc4 : p2 = 4
  · have ho := ho.1 hc4
    rw [if_pos hc4] at hF
    refine zg_tsw zd_29 rfl (tg := 82) (by rw [hc4]; rfl) ?_
    refine zg_blk zd_29 2 hs (rfl : zb x zT0 zc_29 2 (82, [some (.ref 50), some (.int p1), some (.int p2)], [], h) = some (84, [some (.ref 50), some (.int p1), some (.int p2)], [.int p1, .ref 50], h)) (fun hs => ?_)
    have hob := ho
    refine zg_call hs zd_29 rfl rfl rfl rfl (as := [.ref 50, .int p1]) (rest := []) (en := [some (.ref 50), some (.int p1)]) rfl rfl rfl rfl rfl ?_
    refine f_Course_leak_50_t p1 h hs hob ?_
    show zg x (d + 3) 29 87 [some (.ref 50), some (.int p1), some (.int p2)] [.int (f_Course_leak_50 p1 h)] h Q
    exact zg_ret zd_29 rfl rfl hF
  have ho := ho.2 hc4
  rw [if_neg hc4] at hF
  by_cases hc5 : p2 = 5
  · have ho := ho.1 hc5
    rw [if_pos hc5] at hF
    refine zg_tsw zd_29 rfl (tg := 88) (by rw [hc5]; rfl) ?_
    refine zg_blk zd_29 3 hs (rfl : zb x zT0 zc_29 3 (88, [some (.ref 50), some (.int p1), some (.int p2)], [], h) = some (93, [some (.ref 50), some (.int p1), some (.int p2)], [.int p1, .ref 54], h)) (fun hs => ?_)
    have hob := ho
    refine zg_ial hs zd_29 rfl rfl hob ?_
    exact zg_ret zd_29 rfl rfl hF
  have ho := ho.2 hc5
  rw [if_neg hc5] at hF
  by_cases hc6 : p2 = 6
  · have ho := ho.1 hc6
    rw [if_pos hc6] at hF
    refine zg_tsw zd_29 rfl (tg := 95) (by rw [hc6]; rfl) ?_
    refine zg_blk zd_29 2 hs (rfl : zb x zT0 zc_29 2 (95, [some (.ref 50), some (.int p1), some (.int p2)], [], h) = some (97, [some (.ref 50), some (.int p1), some (.int p2)], [.int p1, .ref 50], h)) (fun hs => ?_)
    have hob := ho
    refine zg_call hs zd_29 rfl rfl rfl rfl (as := [.ref 50, .int p1]) (rest := []) (en := [some (.ref 50), some (.int p1), none, none]) rfl rfl rfl rfl rfl ?_
    refine f_Course_holdBits_50_t p1 h hs hob ?_
    show zg x (d + 3) 29 100 [some (.ref 50), some (.int p1), some (.int p2)] [.int (f_Course_holdBits_50 p1 h)] h Q
    exact zg_ret zd_29 rfl rfl hF
  have ho := ho.2 hc6
  rw [if_neg hc6] at hF
  by_cases hc7 : p2 = 7
  · have ho := ho.1 hc7
    rw [if_pos hc7] at hF
    refine zg_tsw zd_29 rfl (tg := 101) (by rw [hc7]; rfl) ?_
    refine zg_blk zd_29 3 hs (rfl : zb x zT0 zc_29 3 (101, [some (.ref 50), some (.int p1), some (.int p2)], [], h) = some (106, [some (.ref 50), some (.int p1), some (.int p2)], [.int p1, .ref 55], h)) (fun hs => ?_)
    have hob := ho
    refine zg_ial hs zd_29 rfl rfl hob ?_
    exact zg_ret zd_29 rfl rfl hF
  have ho := ho.2 hc7
  rw [if_neg hc7] at hF
  refine zg_tsw zd_29 rfl (tg := 108) (if_pos (zsw_out (lo := 0) (hi := 7) (by decide) (by decide) (fun v h1 h2 => by
      have : v = 0 ∨ v = 1 ∨ v = 2 ∨ v = 3 ∨ v = 4 ∨ v = 5 ∨ v = 6 ∨ v = 7 := by omega
      rcases this with rfl | rfl | rfl | rfl | rfl | rfl | rfl | rfl <;> first | exact hc0 | exact hc1 | exact hc2 | exact hc3 | exact hc4 | exact hc5 | exact hc6 | exact hc7))) ?_
  refine zg_blk zd_29 1 hs (rfl : zb x zT0 zc_29 1 (108, [some (.ref 50), some (.int p1), some (.int p2)], [], h) = some (109, [some (.ref 50), some (.int p1), some (.int p2)], [.int (-1)], h)) (fun hs => ?_)
  exact zg_ret zd_29 rfl rfl hF
set_option maxRecDepth 100000 in
set_option maxHeartbeats 400000 in
theorem f_N_would_k46_t {x : zm_X} {d : Nat} (v1 : Int32) (v2 : Int32) (h : zm_H) {Q : Option Value → zm_H → Prop} (hs : zSh zT0 h) (ho : f_N_would_k46_ok v1 v2 h) (hF : (zSh zT0 (f_N_would_k46 v1 v2 h).2 → Q (some (.int (f_N_would_k46 v1 v2 h).1)) (f_N_would_k46 v1 v2 h).2)) : zg x (d + 7) 151 46 [some (.ref 0), some (.int v1), some (.int v2)] [] h Q := by
  unfold f_N_would_k46 at hF
  unfold f_N_would_k46_ok at ho
  refine zg_blk zd_151 4 hs (rfl : zb x zT0 zc_151 4 (46, [some (.ref 0), some (.int v1), some (.int v2)], [], h) = some (52, [some (.ref 0), some (.int v1), some (.int v2)], [.int v2, .int v1, .ref 50], h)) (fun hs => ?_)
  have hob := ho
  refine zg_call hs zd_151 rfl rfl rfl rfl (as := [.ref 50, .int v1, .int v2]) (rest := []) (en := [some (.ref 50), some (.int v1), some (.int v2)]) rfl rfl rfl rfl rfl ?_
  refine f_Course_ofRaft_50_t v1 v2 h hs hob ?_
  show zg x (d + 7) 151 55 [some (.ref 0), some (.int v1), some (.int v2)] [.int (f_Course_ofRaft_50 v1 v2 h)] h Q
  exact zg_ret zd_151 rfl rfl (hF hs)
set_option maxRecDepth 100000 in
set_option maxHeartbeats 400000 in
theorem f_N_would_k32_t {x : zm_X} {d : Nat} (v1 : Int32) (v2 : Int32) (h : zm_H) {Q : Option Value → zm_H → Prop} (hs : zSh zT0 h) (ho : f_N_would_k32_ok v1 v2 h) (hF : (zSh zT0 (f_N_would_k32 v1 v2 h).2 → Q (some (.int (f_N_would_k32 v1 v2 h).1)) (f_N_would_k32 v1 v2 h).2)) : zg x (d + 7) 151 32 [some (.ref 0), some (.int v1), some (.int v2)] [] h Q := by
  unfold f_N_would_k32 at hF
  unfold f_N_would_k32_ok at ho
  refine zg_blk zd_151 7 hs (rfl : zb x zT0 zc_151 7 (32, [some (.ref 0), some (.int v1), some (.int v2)], [], h) = some (43, [some (.ref 0), some (.int v1), some (.int v2)], [.int (zf h 0 0), .int ((zf h 0 0) - 1), .ref 0], h)) (fun hs => ?_)
  obtain ⟨hob, ho⟩ := ho
  refine zg_call hs zd_151 rfl rfl rfl rfl (as := [.ref 0, .int ((zf h 0 0) - 1), .int (zf h 0 0)]) (rest := []) (en := [some (.ref 0), some (.int ((zf h 0 0) - 1)), some (.int (zf h 0 0)), none, none, none]) rfl rfl rfl rfl rfl ?_
  refine f_N_goAnew_t ((zf h 0 0) - 1) (zf h 0 0) h hs hob (fun hs => ?_)
  show zg x (d + 7) 151 46 [some (.ref 0), some (.int v1), some (.int v2)] [] (f_N_goAnew ((zf h 0 0) - 1) (zf h 0 0) h) Q
  exact f_N_would_k46_t v1 v2 (f_N_goAnew ((zf h 0 0) - 1) (zf h 0 0) h) hs ho hF
set_option maxRecDepth 100000 in
set_option maxHeartbeats 400000 in
theorem f_N_would_t {x : zm_X} {d : Nat} (p1 : Int32) (p2 : Int32) (h : zm_H) {Q : Option Value → zm_H → Prop} (hs : zSh zT0 h) (ho : f_N_would_ok p1 p2 h) (hF : (zSh zT0 (f_N_would p1 p2 h).2 → Q (some (.int (f_N_would p1 p2 h).1)) (f_N_would p1 p2 h).2)) : zg x (d + 7) 151 0 [some (.ref 0), some (.int p1), some (.int p2)] [] h Q := by
  unfold f_N_would at hF
  unfold f_N_would_ok at ho
  refine zg_blk zd_151 2 hs (rfl : zb x zT0 zc_151 2 (0, [some (.ref 0), some (.int p1), some (.int p2)], [], h) = some (2, [some (.ref 0), some (.int p1), some (.int p2)], [.int p1, .ref 0], h)) (fun hs => ?_)
  refine zg_call hs zd_151 rfl rfl rfl rfl (as := [.ref 0, .int p1]) (rest := []) (en := [some (.ref 0), some (.int p1)]) rfl rfl rfl rfl rfl ?_
  refine f_N_isRaft_t p1 h hs trivial ?_
  show zg x (d + 7) 151 5 [some (.ref 0), some (.int p1), some (.int p2)] [.int (if (¬ (p1 < 0) ∧ (¬ ((zf h 23 0) ≤ p1))) then (1 : Int32) else 0)] h Q
  refine zg_b_eq zd_151 rfl (fun (hc : ¬ (¬ (p1 < 0) ∧ (¬ ((zf h 23 0) ≤ p1)))) => ?_) (fun (hc : (¬ (p1 < 0) ∧ (¬ ((zf h 23 0) ≤ p1)))) => ?_)
  · have ho := ho.2 hc
    rw [if_neg hc] at hF
    refine zg_blk zd_151 1 hs (rfl : zb x zT0 zc_151 1 (30, [some (.ref 0), some (.int p1), some (.int p2)], [], h) = some (31, [some (.ref 0), some (.int p1), some (.int p2)], [.int (-1)], h)) (fun hs => ?_)
    exact zg_ret zd_151 rfl rfl (hF hs)
  · have ho := ho.1 hc
    rw [if_pos hc] at hF
    refine zg_blk zd_151 2 hs (rfl : zb x zT0 zc_151 2 (8, [some (.ref 0), some (.int p1), some (.int p2)], [], h) = some (12, [some (.ref 0), some (.int p1), some (.int p2)], [.int (zf h 0 0)], h)) (fun hs => ?_)
    refine zg_f_eq zd_151 rfl (fun (hc : ((zf h 0 0) = 0)) => ?_) (fun (hc : ¬ ((zf h 0 0) = 0)) => ?_)
    · have ho := ho.1 hc
      rw [if_pos hc] at hF
      refine zg_blk zd_151 1 hs (rfl : zb x zT0 zc_151 1 (30, [some (.ref 0), some (.int p1), some (.int p2)], [], h) = some (31, [some (.ref 0), some (.int p1), some (.int p2)], [.int (-1)], h)) (fun hs => ?_)
      exact zg_ret zd_151 rfl rfl (hF hs)
    · have ho := ho.2 hc
      rw [if_neg hc] at hF
      refine zg_blk zd_151 1 hs (rfl : zb x zT0 zc_151 1 (15, [some (.ref 0), some (.int p1), some (.int p2)], [], h) = some (16, [some (.ref 0), some (.int p1), some (.int p2)], [.int p2], h)) (fun hs => ?_)
      refine zg_f_eq zd_151 rfl (fun (hc : (p2 = 0)) => ?_) (fun (hc : ¬ (p2 = 0)) => ?_)
      · have ho := ho.1 hc
        rw [if_pos hc] at hF
        exact f_N_would_k32_t p1 p2 h hs ho hF
      · have ho := ho.2 hc
        rw [if_neg hc] at hF
        refine zg_blk zd_151 2 hs (rfl : zb x zT0 zc_151 2 (19, [some (.ref 0), some (.int p1), some (.int p2)], [], h) = some (21, [some (.ref 0), some (.int p1), some (.int p2)], [.int 4, .int p2], h)) (fun hs => ?_)
        refine zg_i_eq zd_151 rfl (fun (hc : (p2 = 4)) => ?_) (fun (hc : ¬ (p2 = 4)) => ?_)
        · have ho := ho.1 hc
          rw [if_pos hc] at hF
          exact f_N_would_k32_t p1 p2 h hs ho hF
        · have ho := ho.2 hc
          rw [if_neg hc] at hF
          refine zg_blk zd_151 2 hs (rfl : zb x zT0 zc_151 2 (24, [some (.ref 0), some (.int p1), some (.int p2)], [], h) = some (27, [some (.ref 0), some (.int p1), some (.int p2)], [.int 6, .int p2], h)) (fun hs => ?_)
          refine zg_i_eq zd_151 rfl (fun (hc : (p2 = 6)) => ?_) (fun (hc : ¬ (p2 = 6)) => ?_)
          · have ho := ho.1 hc
            rw [if_pos hc] at hF
            exact f_N_would_k32_t p1 p2 h hs ho hF
          · have ho := ho.2 hc
            rw [if_neg hc] at hF
            refine zg_blk zd_151 1 hs (rfl : zb x zT0 zc_151 1 (30, [some (.ref 0), some (.int p1), some (.int p2)], [], h) = some (31, [some (.ref 0), some (.int p1), some (.int p2)], [.int (-1)], h)) (fun hs => ?_)
            exact zg_ret zd_151 rfl rfl (hF hs)
theorem zd_240 : zm_cd 240 = zc_240 := by rfl
set_option maxRecDepth 100000 in
set_option maxHeartbeats 400000 in
theorem f_M_would_k46_t {x : zm_X} {d : Nat} (v1 : Int32) (v2 : Int32) (h : zm_H) {Q : Option Value → zm_H → Prop} (hs : zSh zT0 h) (ho : f_M_would_k46_ok v1 v2 h) (hF : (zSh zT0 (f_M_would_k46 v1 v2 h).2 → Q (some (.int (f_M_would_k46 v1 v2 h).1)) (f_M_would_k46 v1 v2 h).2)) : zg x (d + 6) 240 46 [some (.ref 92), some (.int v1), some (.int v2)] [] h Q := by
  unfold f_M_would_k46 at hF
  unfold f_M_would_k46_ok at ho
  refine zg_blk zd_240 4 hs (rfl : zb x zT0 zc_240 4 (46, [some (.ref 92), some (.int v1), some (.int v2)], [], h) = some (50, [some (.ref 92), some (.int v1), some (.int v2)], [.int v2, .int v1, .int 1, .ref 92], h)) (fun hs => ?_)
  have hob := ho
  refine zg_call hs zd_240 rfl rfl rfl rfl (as := [.ref 92, .int 1, .int v1, .int v2]) (rest := []) (en := [some (.ref 92), some (.int 1), some (.int v1), some (.int v2), none, none, none, none]) rfl rfl rfl rfl rfl ?_
  refine f_M_toldOf_t 1 v1 v2 h hs hob ?_
  show zg x (d + 6) 240 53 [some (.ref 92), some (.int v1), some (.int v2)] [.int (f_M_toldOf 1 v1 v2 h)] h Q
  exact zg_ret zd_240 rfl rfl (hF hs)
set_option maxRecDepth 100000 in
set_option maxHeartbeats 400000 in
theorem f_M_would_k32_t {x : zm_X} {d : Nat} (v1 : Int32) (v2 : Int32) (h : zm_H) {Q : Option Value → zm_H → Prop} (hs : zSh zT0 h) (ho : f_M_would_k32_ok v1 v2 h) (hF : (zSh zT0 (f_M_would_k32 v1 v2 h).2 → Q (some (.int (f_M_would_k32 v1 v2 h).1)) (f_M_would_k32 v1 v2 h).2)) : zg x (d + 6) 240 32 [some (.ref 92), some (.int v1), some (.int v2)] [] h Q := by
  unfold f_M_would_k32 at hF
  unfold f_M_would_k32_ok at ho
  refine zg_blk zd_240 6 hs (rfl : zb x zT0 zc_240 6 (32, [some (.ref 92), some (.int v1), some (.int v2)], [], h) = some (40, [some (.ref 92), some (.int v1), some (.int v2)], [.ref 92, .int ((zf h 92 23) - 1), .ref 92], h)) (fun hs => ?_)
  refine zg_call hs zd_240 rfl rfl rfl rfl (as := [.ref 92]) (rest := [.int ((zf h 92 23) - 1), .ref 92]) (en := [some (.ref 92)]) rfl rfl rfl rfl rfl ?_
  refine f_M_lastKnown_t  h hs trivial ?_
  show zg x (d + 6) 240 43 [some (.ref 92), some (.int v1), some (.int v2)] [.int (if (480 ≤ (zf h 92 23)) then (479 : Int32) else (zf h 92 23)), .int ((zf h 92 23) - 1), .ref 92] h Q
  obtain ⟨hob, ho⟩ := ho
  refine zg_call hs zd_240 rfl rfl rfl rfl (as := [.ref 92, .int ((zf h 92 23) - 1), .int (if (480 ≤ (zf h 92 23)) then (479 : Int32) else (zf h 92 23))]) (rest := []) (en := [some (.ref 92), some (.int ((zf h 92 23) - 1)), some (.int (if (480 ≤ (zf h 92 23)) then (479 : Int32) else (zf h 92 23))), none, none, none]) rfl rfl rfl rfl rfl ?_
  refine f_M_anew_t ((zf h 92 23) - 1) (if (480 ≤ (zf h 92 23)) then (479 : Int32) else (zf h 92 23)) h hs hob (fun hs => ?_)
  show zg x (d + 6) 240 46 [some (.ref 92), some (.int v1), some (.int v2)] [] (f_M_anew ((zf h 92 23) - 1) (if (480 ≤ (zf h 92 23)) then (479 : Int32) else (zf h 92 23)) h) Q
  exact f_M_would_k46_t v1 v2 (f_M_anew ((zf h 92 23) - 1) (if (480 ≤ (zf h 92 23)) then (479 : Int32) else (zf h 92 23)) h) hs ho hF
set_option maxRecDepth 100000 in
set_option maxHeartbeats 400000 in
theorem f_M_would_t {x : zm_X} {d : Nat} (p1 : Int32) (p2 : Int32) (h : zm_H) {Q : Option Value → zm_H → Prop} (hs : zSh zT0 h) (ho : f_M_would_ok p1 p2 h) (hF : (zSh zT0 (f_M_would p1 p2 h).2 → Q (some (.int (f_M_would p1 p2 h).1)) (f_M_would p1 p2 h).2)) : zg x (d + 6) 240 0 [some (.ref 92), some (.int p1), some (.int p2)] [] h Q := by
  unfold f_M_would at hF
  unfold f_M_would_ok at ho
  refine zg_blk zd_240 2 hs (rfl : zb x zT0 zc_240 2 (0, [some (.ref 92), some (.int p1), some (.int p2)], [], h) = some (2, [some (.ref 92), some (.int p1), some (.int p2)], [.int p1, .ref 92], h)) (fun hs => ?_)
  refine zg_call hs zd_240 rfl rfl rfl rfl (as := [.ref 92, .int p1]) (rest := []) (en := [some (.ref 92), some (.int p1)]) rfl rfl rfl rfl rfl ?_
  refine f_M_isRaft_t p1 h hs trivial ?_
  show zg x (d + 6) 240 5 [some (.ref 92), some (.int p1), some (.int p2)] [.int (if (¬ (p1 < 0) ∧ (¬ (((zf h 92 33) - 1) < p1))) then (1 : Int32) else 0)] h Q
  refine zg_b_eq zd_240 rfl (fun (hc : ¬ (¬ (p1 < 0) ∧ (¬ (((zf h 92 33) - 1) < p1)))) => ?_) (fun (hc : (¬ (p1 < 0) ∧ (¬ (((zf h 92 33) - 1) < p1)))) => ?_)
  · have ho := ho.2 hc
    rw [if_neg hc] at hF
    refine zg_blk zd_240 1 hs (rfl : zb x zT0 zc_240 1 (30, [some (.ref 92), some (.int p1), some (.int p2)], [], h) = some (31, [some (.ref 92), some (.int p1), some (.int p2)], [.int (-1)], h)) (fun hs => ?_)
    exact zg_ret zd_240 rfl rfl (hF hs)
  · have ho := ho.1 hc
    rw [if_pos hc] at hF
    refine zg_blk zd_240 2 hs (rfl : zb x zT0 zc_240 2 (8, [some (.ref 92), some (.int p1), some (.int p2)], [], h) = some (12, [some (.ref 92), some (.int p1), some (.int p2)], [.int (zf h 92 23)], h)) (fun hs => ?_)
    refine zg_f_eq zd_240 rfl (fun (hc : ((zf h 92 23) = 0)) => ?_) (fun (hc : ¬ ((zf h 92 23) = 0)) => ?_)
    · have ho := ho.1 hc
      rw [if_pos hc] at hF
      refine zg_blk zd_240 1 hs (rfl : zb x zT0 zc_240 1 (30, [some (.ref 92), some (.int p1), some (.int p2)], [], h) = some (31, [some (.ref 92), some (.int p1), some (.int p2)], [.int (-1)], h)) (fun hs => ?_)
      exact zg_ret zd_240 rfl rfl (hF hs)
    · have ho := ho.2 hc
      rw [if_neg hc] at hF
      refine zg_blk zd_240 1 hs (rfl : zb x zT0 zc_240 1 (15, [some (.ref 92), some (.int p1), some (.int p2)], [], h) = some (16, [some (.ref 92), some (.int p1), some (.int p2)], [.int p2], h)) (fun hs => ?_)
      refine zg_f_eq zd_240 rfl (fun (hc : (p2 = 0)) => ?_) (fun (hc : ¬ (p2 = 0)) => ?_)
      · have ho := ho.1 hc
        rw [if_pos hc] at hF
        exact f_M_would_k32_t p1 p2 h hs ho hF
      · have ho := ho.2 hc
        rw [if_neg hc] at hF
        refine zg_blk zd_240 2 hs (rfl : zb x zT0 zc_240 2 (19, [some (.ref 92), some (.int p1), some (.int p2)], [], h) = some (21, [some (.ref 92), some (.int p1), some (.int p2)], [.int 4, .int p2], h)) (fun hs => ?_)
        refine zg_i_eq zd_240 rfl (fun (hc : (p2 = 4)) => ?_) (fun (hc : ¬ (p2 = 4)) => ?_)
        · have ho := ho.1 hc
          rw [if_pos hc] at hF
          exact f_M_would_k32_t p1 p2 h hs ho hF
        · have ho := ho.2 hc
          rw [if_neg hc] at hF
          refine zg_blk zd_240 2 hs (rfl : zb x zT0 zc_240 2 (24, [some (.ref 92), some (.int p1), some (.int p2)], [], h) = some (27, [some (.ref 92), some (.int p1), some (.int p2)], [.int 6, .int p2], h)) (fun hs => ?_)
          refine zg_i_eq zd_240 rfl (fun (hc : (p2 = 6)) => ?_) (fun (hc : ¬ (p2 = 6)) => ?_)
          · have ho := ho.1 hc
            rw [if_pos hc] at hF
            exact f_M_would_k32_t p1 p2 h hs ho hF
          · have ho := ho.2 hc
            rw [if_neg hc] at hF
            refine zg_blk zd_240 1 hs (rfl : zb x zT0 zc_240 1 (30, [some (.ref 92), some (.int p1), some (.int p2)], [], h) = some (31, [some (.ref 92), some (.int p1), some (.int p2)], [.int (-1)], h)) (fun hs => ?_)
            exact zg_ret zd_240 rfl rfl (hF hs)
theorem zd_152 : zm_cd 152 = zc_152 := by rfl
set_option maxRecDepth 100000 in
set_option maxHeartbeats 400000 in
theorem f_N_beach_l27_k107_t {x : zm_X} {d : Nat} (v1 : Int32) (v2 : Int32) (v3 : Int32) (v4 : Int32) (v5 : Int32) (v6 : Int32) (h : zm_H) (o7 : Option Value) (o8 : Option Value) (o9 : Option Value) {Q : Option Value → zm_H → Prop} {FN : Nat × Int32 × Int32 → Prop} (hs : zSh zT0 h) (ho : f_N_beach_l27_k107_ok v1 v2 v3 v4 v5 v6 h) (hF : FN (f_N_beach_l27_k107 v1 v2 v3 v4 v5 v6 h)) (hl0 : ∀ (v5 : Int32) (v6 : Int32) (o7 : Option Value) (o8 : Option Value) (o9 : Option Value), zSh zT0 h → FN (0, v5, v6) → zg x (d + 2) 152 27 [some (.ref 0), some (.int v1), some (.int v2), some (.int v3), some (.int v4), some (.int v5), some (.int v6), o7, o8, o9] [] h Q) (hl1 : ∀ (v5 : Int32) (v6 : Int32) (o6 : Option Value) (o7 : Option Value) (o8 : Option Value) (o9 : Option Value), zSh zT0 h → FN (1, v5, v6) → zg x (d + 2) 152 113 [some (.ref 0), some (.int v1), some (.int v2), some (.int v3), some (.int v4), some (.int v5), o6, o7, o8, o9] [] h Q) : zg x (d + 2) 152 107 [some (.ref 0), some (.int v1), some (.int v2), some (.int v3), some (.int v4), some (.int v5), some (.int v6), o7, o8, o9] [] h Q := by
  unfold f_N_beach_l27_k107 at hF
  unfold f_N_beach_l27_k107_ok at ho
  refine zg_blk zd_152 2 hs (rfl : zb x zT0 zc_152 2 (107, [some (.ref 0), some (.int v1), some (.int v2), some (.int v3), some (.int v4), some (.int v5), some (.int v6), o7, o8, o9], [], h) = some (27, [some (.ref 0), some (.int v1), some (.int v2), some (.int v3), some (.int v4), some (.int v5), some (.int (v6 + 1)), o7, o8, o9], [], h)) (fun hs => ?_)
  exact hl0 v5 (v6 + 1) (o7) (o8) (o9) hs hF
set_option maxRecDepth 100000 in
set_option maxHeartbeats 400000 in
theorem f_N_beach_l27_b_t {x : zm_X} {d : Nat} (v1 : Int32) (v2 : Int32) (v3 : Int32) (v4 : Int32) (v5 : Int32) (v6 : Int32) (h : zm_H) (o7 : Option Value) (o8 : Option Value) (o9 : Option Value) {Q : Option Value → zm_H → Prop} {FN : Nat × Int32 × Int32 → Prop} (hs : zSh zT0 h) (ho : f_N_beach_l27_b_ok v1 v2 v3 v4 v5 v6 h) (hF : FN (f_N_beach_l27_b v1 v2 v3 v4 v5 v6 h)) (hl0 : ∀ (v5 : Int32) (v6 : Int32) (o7 : Option Value) (o8 : Option Value) (o9 : Option Value), zSh zT0 h → FN (0, v5, v6) → zg x (d + 2) 152 27 [some (.ref 0), some (.int v1), some (.int v2), some (.int v3), some (.int v4), some (.int v5), some (.int v6), o7, o8, o9] [] h Q) (hl1 : ∀ (v5 : Int32) (v6 : Int32) (o6 : Option Value) (o7 : Option Value) (o8 : Option Value) (o9 : Option Value), zSh zT0 h → FN (1, v5, v6) → zg x (d + 2) 152 113 [some (.ref 0), some (.int v1), some (.int v2), some (.int v3), some (.int v4), some (.int v5), o6, o7, o8, o9] [] h Q) : zg x (d + 2) 152 27 [some (.ref 0), some (.int v1), some (.int v2), some (.int v3), some (.int v4), some (.int v5), some (.int v6), o7, o8, o9] [] h Q := by
  unfold f_N_beach_l27_b at hF
  unfold f_N_beach_l27_b_ok at ho
  refine zg_blk zd_152 3 hs (rfl : zb x zT0 zc_152 3 (27, [some (.ref 0), some (.int v1), some (.int v2), some (.int v3), some (.int v4), some (.int v5), some (.int v6), o7, o8, o9], [], h) = some (33, [some (.ref 0), some (.int v1), some (.int v2), some (.int v3), some (.int v4), some (.int v5), some (.int v6), o7, o8, o9], [.int (zf h 0 0), .int v6], h)) (fun hs => ?_)
  refine zg_i_ge zd_152 rfl (fun (hc : ((zf h 0 0) ≤ v6)) => ?_) (fun (hc : ¬ ((zf h 0 0) ≤ v6)) => ?_)
  · have ho := ho.1 hc
    rw [if_pos hc] at hF
    exact hl1 v5 v6 (some (.int v6)) (o7) (o8) (o9) hs hF
  · have ho := ho.2 hc
    rw [if_neg hc] at hF
    refine zg_blk zd_152 10 hs (rfl : zb x zT0 zc_152 10 (36, [some (.ref 0), some (.int v1), some (.int v2), some (.int v3), some (.int v4), some (.int v5), some (.int v6), o7, o8, o9], [], h) = some (54, [some (.ref 0), some (.int v1), some (.int v2), some (.int v3), some (.int v4), some (.int v5), some (.int v6), o7, o8, o9], [.int ((v6 * 10) + v1), .ref 49, .int (zf h 0 1)], h)) (fun hs => ?_)
    have hob := ho
    refine zg_ial hs zd_152 rfl rfl hob ?_
    refine zg_blk zd_152 18 hs (rfl : zb x zT0 zc_152 18 (55, [some (.ref 0), some (.int v1), some (.int v2), some (.int v3), some (.int v4), some (.int v5), some (.int v6), o7, o8, o9], [.int (zr h 49 ((v6 * 10) + v1)), .int (zf h 0 1)], h) = some (84, [some (.ref 0), some (.int v1), some (.int v2), some (.int v3), some (.int v4), some (.int v5), some (.int v6), some (.int (((zf h 0 1) - (zr h 49 ((v6 * 10) + v1))) / 1000)), some (.int (((((zf h 0 1) - (zr h 49 ((v6 * 10) + v1))) / 1000) * v2) / 100)), some (.int (((((zf h 0 1) - (zr h 49 ((v6 * 10) + v1))) / 1000) * v3) / 100))], [.int v4, .int v5], h)) (fun hs => ?_)
    have K140 : zSh zT0 h → zg x (d + 2) 152 104 [some (.ref 0), some (.int v1), some (.int v2), some (.int v3), some (.int v4), some (.int v5), some (.int v6), some (.int (((zf h 0 1) - (zr h 49 ((v6 * 10) + v1))) / 1000)), some (.int (((((zf h 0 1) - (zr h 49 ((v6 * 10) + v1))) / 1000) * v2) / 100)), some (.int (((((zf h 0 1) - (zr h 49 ((v6 * 10) + v1))) / 1000) * v3) / 100))] [.int (if (v4 = 0) then ((if (((((zf h 0 1) - (zr h 49 ((v6 * 10) + v1))) / 1000) * v3) / 100) < (((((zf h 0 1) - (zr h 49 ((v6 * 10) + v1))) / 1000) * v2) / 100) then (((((zf h 0 1) - (zr h 49 ((v6 * 10) + v1))) / 1000) * v3) / 100) else (((((zf h 0 1) - (zr h 49 ((v6 * 10) + v1))) / 1000) * v2) / 100)) : Int32) else (if (((((zf h 0 1) - (zr h 49 ((v6 * 10) + v1))) / 1000) * v2) / 100) < (((((zf h 0 1) - (zr h 49 ((v6 * 10) + v1))) / 1000) * v3) / 100) then (((((zf h 0 1) - (zr h 49 ((v6 * 10) + v1))) / 1000) * v3) / 100) else (((((zf h 0 1) - (zr h 49 ((v6 * 10) + v1))) / 1000) * v2) / 100))), .int v5] h Q := fun hs => by
      refine zg_blk zd_152 2 hs (rfl : zb x zT0 zc_152 2 (104, [some (.ref 0), some (.int v1), some (.int v2), some (.int v3), some (.int v4), some (.int v5), some (.int v6), some (.int (((zf h 0 1) - (zr h 49 ((v6 * 10) + v1))) / 1000)), some (.int (((((zf h 0 1) - (zr h 49 ((v6 * 10) + v1))) / 1000) * v2) / 100)), some (.int (((((zf h 0 1) - (zr h 49 ((v6 * 10) + v1))) / 1000) * v3) / 100))], [.int (if (v4 = 0) then ((if (((((zf h 0 1) - (zr h 49 ((v6 * 10) + v1))) / 1000) * v3) / 100) < (((((zf h 0 1) - (zr h 49 ((v6 * 10) + v1))) / 1000) * v2) / 100) then (((((zf h 0 1) - (zr h 49 ((v6 * 10) + v1))) / 1000) * v3) / 100) else (((((zf h 0 1) - (zr h 49 ((v6 * 10) + v1))) / 1000) * v2) / 100)) : Int32) else (if (((((zf h 0 1) - (zr h 49 ((v6 * 10) + v1))) / 1000) * v2) / 100) < (((((zf h 0 1) - (zr h 49 ((v6 * 10) + v1))) / 1000) * v3) / 100) then (((((zf h 0 1) - (zr h 49 ((v6 * 10) + v1))) / 1000) * v3) / 100) else (((((zf h 0 1) - (zr h 49 ((v6 * 10) + v1))) / 1000) * v2) / 100))), .int v5], h) = some (107, [some (.ref 0), some (.int v1), some (.int v2), some (.int v3), some (.int v4), some (.int (v5 + (if (v4 = 0) then ((if (((((zf h 0 1) - (zr h 49 ((v6 * 10) + v1))) / 1000) * v3) / 100) < (((((zf h 0 1) - (zr h 49 ((v6 * 10) + v1))) / 1000) * v2) / 100) then (((((zf h 0 1) - (zr h 49 ((v6 * 10) + v1))) / 1000) * v3) / 100) else (((((zf h 0 1) - (zr h 49 ((v6 * 10) + v1))) / 1000) * v2) / 100)) : Int32) else (if (((((zf h 0 1) - (zr h 49 ((v6 * 10) + v1))) / 1000) * v2) / 100) < (((((zf h 0 1) - (zr h 49 ((v6 * 10) + v1))) / 1000) * v3) / 100) then (((((zf h 0 1) - (zr h 49 ((v6 * 10) + v1))) / 1000) * v3) / 100) else (((((zf h 0 1) - (zr h 49 ((v6 * 10) + v1))) / 1000) * v2) / 100))))), some (.int v6), some (.int (((zf h 0 1) - (zr h 49 ((v6 * 10) + v1))) / 1000)), some (.int (((((zf h 0 1) - (zr h 49 ((v6 * 10) + v1))) / 1000) * v2) / 100)), some (.int (((((zf h 0 1) - (zr h 49 ((v6 * 10) + v1))) / 1000) * v3) / 100))], [], h)) (fun hs => ?_)
      exact f_N_beach_l27_k107_t v1 v2 v3 v4 (v5 + (if (v4 = 0) then ((if (((((zf h 0 1) - (zr h 49 ((v6 * 10) + v1))) / 1000) * v3) / 100) < (((((zf h 0 1) - (zr h 49 ((v6 * 10) + v1))) / 1000) * v2) / 100) then (((((zf h 0 1) - (zr h 49 ((v6 * 10) + v1))) / 1000) * v3) / 100) else (((((zf h 0 1) - (zr h 49 ((v6 * 10) + v1))) / 1000) * v2) / 100)) : Int32) else (if (((((zf h 0 1) - (zr h 49 ((v6 * 10) + v1))) / 1000) * v2) / 100) < (((((zf h 0 1) - (zr h 49 ((v6 * 10) + v1))) / 1000) * v3) / 100) then (((((zf h 0 1) - (zr h 49 ((v6 * 10) + v1))) / 1000) * v3) / 100) else (((((zf h 0 1) - (zr h 49 ((v6 * 10) + v1))) / 1000) * v2) / 100)))) v6 h (some (.int (((zf h 0 1) - (zr h 49 ((v6 * 10) + v1))) / 1000))) (some (.int (((((zf h 0 1) - (zr h 49 ((v6 * 10) + v1))) / 1000) * v2) / 100))) (some (.int (((((zf h 0 1) - (zr h 49 ((v6 * 10) + v1))) / 1000) * v3) / 100))) hs trivial hF hl0 hl1
    refine zg_f_eq zd_152 rfl (fun (hc : (v4 = 0)) => ?_) (fun (hc : ¬ (v4 = 0)) => ?_)
    · skip
      rw [show ((if (v4 = 0) then ((if (((((zf h 0 1) - (zr h 49 ((v6 * 10) + v1))) / 1000) * v3) / 100) < (((((zf h 0 1) - (zr h 49 ((v6 * 10) + v1))) / 1000) * v2) / 100) then (((((zf h 0 1) - (zr h 49 ((v6 * 10) + v1))) / 1000) * v3) / 100) else (((((zf h 0 1) - (zr h 49 ((v6 * 10) + v1))) / 1000) * v2) / 100)) : Int32) else (if (((((zf h 0 1) - (zr h 49 ((v6 * 10) + v1))) / 1000) * v2) / 100) < (((((zf h 0 1) - (zr h 49 ((v6 * 10) + v1))) / 1000) * v3) / 100) then (((((zf h 0 1) - (zr h 49 ((v6 * 10) + v1))) / 1000) * v3) / 100) else (((((zf h 0 1) - (zr h 49 ((v6 * 10) + v1))) / 1000) * v2) / 100))) : Int32) = (if (((((zf h 0 1) - (zr h 49 ((v6 * 10) + v1))) / 1000) * v3) / 100) < (((((zf h 0 1) - (zr h 49 ((v6 * 10) + v1))) / 1000) * v2) / 100) then (((((zf h 0 1) - (zr h 49 ((v6 * 10) + v1))) / 1000) * v3) / 100) else (((((zf h 0 1) - (zr h 49 ((v6 * 10) + v1))) / 1000) * v2) / 100)) from if_pos hc] at K140
      refine zg_blk zd_152 2 hs (rfl : zb x zT0 zc_152 2 (97, [some (.ref 0), some (.int v1), some (.int v2), some (.int v3), some (.int v4), some (.int v5), some (.int v6), some (.int (((zf h 0 1) - (zr h 49 ((v6 * 10) + v1))) / 1000)), some (.int (((((zf h 0 1) - (zr h 49 ((v6 * 10) + v1))) / 1000) * v2) / 100)), some (.int (((((zf h 0 1) - (zr h 49 ((v6 * 10) + v1))) / 1000) * v3) / 100))], [.int v5], h) = some (101, [some (.ref 0), some (.int v1), some (.int v2), some (.int v3), some (.int v4), some (.int v5), some (.int v6), some (.int (((zf h 0 1) - (zr h 49 ((v6 * 10) + v1))) / 1000)), some (.int (((((zf h 0 1) - (zr h 49 ((v6 * 10) + v1))) / 1000) * v2) / 100)), some (.int (((((zf h 0 1) - (zr h 49 ((v6 * 10) + v1))) / 1000) * v3) / 100))], [.int (((((zf h 0 1) - (zr h 49 ((v6 * 10) + v1))) / 1000) * v3) / 100), .int (((((zf h 0 1) - (zr h 49 ((v6 * 10) + v1))) / 1000) * v2) / 100), .int v5], h)) (fun hs => ?_)
      refine zg_x zd_152 rfl rfl rfl rfl (as := [.int (((((zf h 0 1) - (zr h 49 ((v6 * 10) + v1))) / 1000) * v2) / 100), .int (((((zf h 0 1) - (zr h 49 ((v6 * 10) + v1))) / 1000) * v3) / 100)]) (rest := [.int v5]) (w := some (.int (if (((((zf h 0 1) - (zr h 49 ((v6 * 10) + v1))) / 1000) * v3) / 100) < (((((zf h 0 1) - (zr h 49 ((v6 * 10) + v1))) / 1000) * v2) / 100) then (((((zf h 0 1) - (zr h 49 ((v6 * 10) + v1))) / 1000) * v3) / 100) else (((((zf h 0 1) - (zr h 49 ((v6 * 10) + v1))) / 1000) * v2) / 100)))) rfl rfl rfl ?_
      exact K140 hs
    · skip
      rw [show ((if (v4 = 0) then ((if (((((zf h 0 1) - (zr h 49 ((v6 * 10) + v1))) / 1000) * v3) / 100) < (((((zf h 0 1) - (zr h 49 ((v6 * 10) + v1))) / 1000) * v2) / 100) then (((((zf h 0 1) - (zr h 49 ((v6 * 10) + v1))) / 1000) * v3) / 100) else (((((zf h 0 1) - (zr h 49 ((v6 * 10) + v1))) / 1000) * v2) / 100)) : Int32) else (if (((((zf h 0 1) - (zr h 49 ((v6 * 10) + v1))) / 1000) * v2) / 100) < (((((zf h 0 1) - (zr h 49 ((v6 * 10) + v1))) / 1000) * v3) / 100) then (((((zf h 0 1) - (zr h 49 ((v6 * 10) + v1))) / 1000) * v3) / 100) else (((((zf h 0 1) - (zr h 49 ((v6 * 10) + v1))) / 1000) * v2) / 100))) : Int32) = (if (((((zf h 0 1) - (zr h 49 ((v6 * 10) + v1))) / 1000) * v2) / 100) < (((((zf h 0 1) - (zr h 49 ((v6 * 10) + v1))) / 1000) * v3) / 100) then (((((zf h 0 1) - (zr h 49 ((v6 * 10) + v1))) / 1000) * v3) / 100) else (((((zf h 0 1) - (zr h 49 ((v6 * 10) + v1))) / 1000) * v2) / 100)) from if_neg hc] at K140
      refine zg_blk zd_152 2 hs (rfl : zb x zT0 zc_152 2 (87, [some (.ref 0), some (.int v1), some (.int v2), some (.int v3), some (.int v4), some (.int v5), some (.int v6), some (.int (((zf h 0 1) - (zr h 49 ((v6 * 10) + v1))) / 1000)), some (.int (((((zf h 0 1) - (zr h 49 ((v6 * 10) + v1))) / 1000) * v2) / 100)), some (.int (((((zf h 0 1) - (zr h 49 ((v6 * 10) + v1))) / 1000) * v3) / 100))], [.int v5], h) = some (91, [some (.ref 0), some (.int v1), some (.int v2), some (.int v3), some (.int v4), some (.int v5), some (.int v6), some (.int (((zf h 0 1) - (zr h 49 ((v6 * 10) + v1))) / 1000)), some (.int (((((zf h 0 1) - (zr h 49 ((v6 * 10) + v1))) / 1000) * v2) / 100)), some (.int (((((zf h 0 1) - (zr h 49 ((v6 * 10) + v1))) / 1000) * v3) / 100))], [.int (((((zf h 0 1) - (zr h 49 ((v6 * 10) + v1))) / 1000) * v3) / 100), .int (((((zf h 0 1) - (zr h 49 ((v6 * 10) + v1))) / 1000) * v2) / 100), .int v5], h)) (fun hs => ?_)
      refine zg_x zd_152 rfl rfl rfl rfl (as := [.int (((((zf h 0 1) - (zr h 49 ((v6 * 10) + v1))) / 1000) * v2) / 100), .int (((((zf h 0 1) - (zr h 49 ((v6 * 10) + v1))) / 1000) * v3) / 100)]) (rest := [.int v5]) (w := some (.int (if (((((zf h 0 1) - (zr h 49 ((v6 * 10) + v1))) / 1000) * v2) / 100) < (((((zf h 0 1) - (zr h 49 ((v6 * 10) + v1))) / 1000) * v3) / 100) then (((((zf h 0 1) - (zr h 49 ((v6 * 10) + v1))) / 1000) * v3) / 100) else (((((zf h 0 1) - (zr h 49 ((v6 * 10) + v1))) / 1000) * v2) / 100)))) rfl rfl rfl ?_
      refine zg_blk zd_152 1 hs (rfl : zb x zT0 zc_152 1 (94, [some (.ref 0), some (.int v1), some (.int v2), some (.int v3), some (.int v4), some (.int v5), some (.int v6), some (.int (((zf h 0 1) - (zr h 49 ((v6 * 10) + v1))) / 1000)), some (.int (((((zf h 0 1) - (zr h 49 ((v6 * 10) + v1))) / 1000) * v2) / 100)), some (.int (((((zf h 0 1) - (zr h 49 ((v6 * 10) + v1))) / 1000) * v3) / 100))], [.int (if (((((zf h 0 1) - (zr h 49 ((v6 * 10) + v1))) / 1000) * v2) / 100) < (((((zf h 0 1) - (zr h 49 ((v6 * 10) + v1))) / 1000) * v3) / 100) then (((((zf h 0 1) - (zr h 49 ((v6 * 10) + v1))) / 1000) * v3) / 100) else (((((zf h 0 1) - (zr h 49 ((v6 * 10) + v1))) / 1000) * v2) / 100)), .int v5], h) = some (104, [some (.ref 0), some (.int v1), some (.int v2), some (.int v3), some (.int v4), some (.int v5), some (.int v6), some (.int (((zf h 0 1) - (zr h 49 ((v6 * 10) + v1))) / 1000)), some (.int (((((zf h 0 1) - (zr h 49 ((v6 * 10) + v1))) / 1000) * v2) / 100)), some (.int (((((zf h 0 1) - (zr h 49 ((v6 * 10) + v1))) / 1000) * v3) / 100))], [.int (if (((((zf h 0 1) - (zr h 49 ((v6 * 10) + v1))) / 1000) * v2) / 100) < (((((zf h 0 1) - (zr h 49 ((v6 * 10) + v1))) / 1000) * v3) / 100) then (((((zf h 0 1) - (zr h 49 ((v6 * 10) + v1))) / 1000) * v3) / 100) else (((((zf h 0 1) - (zr h 49 ((v6 * 10) + v1))) / 1000) * v2) / 100)), .int v5], h)) (fun hs => ?_)
      exact K140 hs
theorem f_N_beach_l27_t {x : zm_X} {d : Nat} (v1 : Int32) (v2 : Int32) (v3 : Int32) (v4 : Int32) (h : zm_H) {Q : Option Value → zm_H → Prop} (G : Nat × Int32 × Int32 → Prop) (hx1 : ∀ (v5 : Int32) (v6 : Int32) (o6 : Option Value) (o7 : Option Value) (o8 : Option Value) (o9 : Option Value), zSh zT0 h → G (1, v5, v6) → zg x (d + 2) 152 113 [some (.ref 0), some (.int v1), some (.int v2), some (.int v3), some (.int v4), some (.int v5), o6, o7, o8, o9] [] h Q) : ∀ (n : Nat) (v5 : Int32) (v6 : Int32) (o7 : Option Value) (o8 : Option Value) (o9 : Option Value), zSh zT0 h → f_N_beach_l27_ok v1 v2 v3 v4 h n (v5, v6) → G (f_N_beach_l27 v1 v2 v3 v4 h n (v5, v6)) → zg x (d + 2) 152 27 [some (.ref 0), some (.int v1), some (.int v2), some (.int v3), some (.int v4), some (.int v5), some (.int v6), o7, o8, o9] [] h Q := by
  intro n
  induction n with
  | zero => intro v5 v6 o7 o8 o9 hs ho hG; exact ho.elim
  | succ n ih =>
    intro v5 v6 o7 o8 o9 hs ho hG
    refine f_N_beach_l27_b_t (FN := fun r => (r.1 = 0 → f_N_beach_l27_ok v1 v2 v3 v4 h n r.2) ∧ G (if r.1 = 0 then f_N_beach_l27 v1 v2 v3 v4 h n r.2 else r)) v1 v2 v3 v4 v5 v6 h o7 o8 o9 hs ho.1 ⟨ho.2, hG⟩ ?_ ?_
    · intro v5 v6 o7 o8 o9 hs hF
      exact ih v5 v6 o7 o8 o9 hs (hF.1 rfl) hF.2
    · intro v5 v6 o6 o7 o8 o9 hs hF
      exact hx1 v5 v6 o6 o7 o8 o9 hs hF.2

set_option maxRecDepth 100000 in
set_option maxHeartbeats 400000 in
theorem f_N_beach_k113_t {x : zm_X} {d : Nat} (v5 : Int32) (h : zm_H) (o0 : Option Value) (o1 : Option Value) (o2 : Option Value) (o3 : Option Value) (z4 : Int32) (o6 : Option Value) (o7 : Option Value) (o8 : Option Value) (o9 : Option Value) {Q : Option Value → zm_H → Prop} (hs : zSh zT0 h) (ho : f_N_beach_k113_ok v5 h) (hF : Q (some (.int (f_N_beach_k113 v5 h))) h) : zg x (d + 2) 152 113 [o0, o1, o2, o3, some (.int z4), some (.int v5), o6, o7, o8, o9] [] h Q := by
  unfold f_N_beach_k113 at hF
  unfold f_N_beach_k113_ok at ho
  refine zg_blk zd_152 1 hs (rfl : zb x zT0 zc_152 1 (113, [o0, o1, o2, o3, some (.int z4), some (.int v5), o6, o7, o8, o9], [], h) = some (115, [o0, o1, o2, o3, some (.int z4), some (.int v5), o6, o7, o8, o9], [.int v5], h)) (fun hs => ?_)
  exact zg_ret zd_152 rfl rfl hF
set_option maxRecDepth 100000 in
set_option maxHeartbeats 400000 in
theorem f_N_beach_t {x : zm_X} {d : Nat} (p1 : Int32) (p2 : Int32) (p3 : Int32) (p4 : Int32) (h : zm_H) {Q : Option Value → zm_H → Prop} (hs : zSh zT0 h) (ho : f_N_beach_ok p1 p2 p3 p4 h) (hF : Q (some (.int (f_N_beach p1 p2 p3 p4 h))) h) : zg x (d + 2) 152 0 [some (.ref 0), some (.int p1), some (.int p2), some (.int p3), some (.int p4), none, none, none, none, none] [] h Q := by
  unfold f_N_beach at hF
  unfold f_N_beach_ok at ho
  refine zg_blk zd_152 1 hs (rfl : zb x zT0 zc_152 1 (0, [some (.ref 0), some (.int p1), some (.int p2), some (.int p3), some (.int p4), none, none, none, none, none], [], h) = some (1, [some (.ref 0), some (.int p1), some (.int p2), some (.int p3), some (.int p4), none, none, none, none, none], [.int p1], h)) (fun hs => ?_)
  refine zg_call hs zd_152 rfl rfl rfl rfl (as := [.int p1]) (rest := []) (en := [some (.int p1)]) rfl rfl rfl rfl rfl ?_
  refine f_N_isColumn_t p1 h hs trivial ?_
  show zg x (d + 2) 152 4 [some (.ref 0), some (.int p1), some (.int p2), some (.int p3), some (.int p4), none, none, none, none, none] [.int (if (¬ (p1 < 0) ∧ (¬ (10 ≤ p1))) then (1 : Int32) else 0)] h Q
  refine zg_b_eq zd_152 rfl (fun (hc : ¬ (¬ (p1 < 0) ∧ (¬ (10 ≤ p1)))) => ?_) (fun (hc : (¬ (p1 < 0) ∧ (¬ (10 ≤ p1)))) => ?_)
  · have ho := ho.2 hc
    rw [if_neg hc] at hF
    refine zg_blk zd_152 1 hs (rfl : zb x zT0 zc_152 1 (18, [some (.ref 0), some (.int p1), some (.int p2), some (.int p3), some (.int p4), none, none, none, none, none], [], h) = some (20, [some (.ref 0), some (.int p1), some (.int p2), some (.int p3), some (.int p4), none, none, none, none, none], [.int (-2147483648)], h)) (fun hs => ?_)
    exact zg_ret zd_152 rfl rfl hF
  · have ho := ho.1 hc
    rw [if_pos hc] at hF
    refine zg_blk zd_152 3 hs (rfl : zb x zT0 zc_152 3 (7, [some (.ref 0), some (.int p1), some (.int p2), some (.int p3), some (.int p4), none, none, none, none, none], [], h) = some (12, [some (.ref 0), some (.int p1), some (.int p2), some (.int p3), some (.int p4), none, none, none, none, none], [.int 201, .int p3, .int p2], h)) (fun hs => ?_)
    refine zg_call hs zd_152 rfl rfl rfl rfl (as := [.int p2, .int p3, .int 201]) (rest := []) (en := [some (.int p2), some (.int p3), some (.int 201)]) rfl rfl rfl rfl rfl ?_
    refine f_N_isRange_t p2 p3 201 h hs trivial ?_
    show zg x (d + 2) 152 15 [some (.ref 0), some (.int p1), some (.int p2), some (.int p3), some (.int p4), none, none, none, none, none] [.int (if (¬ (p2 < 0) ∧ (¬ (p3 < p2) ∧ (¬ (201 ≤ p3)))) then (1 : Int32) else 0)] h Q
    refine zg_b_ne zd_152 rfl (fun (hc : (¬ (p2 < 0) ∧ (¬ (p3 < p2) ∧ (¬ (201 ≤ p3))))) => ?_) (fun (hc : ¬ (¬ (p2 < 0) ∧ (¬ (p3 < p2) ∧ (¬ (201 ≤ p3))))) => ?_)
    · have ho := ho.1 hc
      rw [if_pos hc] at hF
      refine zg_blk zd_152 4 hs (rfl : zb x zT0 zc_152 4 (21, [some (.ref 0), some (.int p1), some (.int p2), some (.int p3), some (.int p4), none, none, none, none, none], [], h) = some (27, [some (.ref 0), some (.int p1), some (.int p2), some (.int p3), some (.int p4), some (.int 0), some (.int 0), none, none, none], [], h)) (fun hs => ?_)
      refine f_N_beach_l27_t p1 p2 p3 p4 h (fun r => f_N_beach_a27_ok r h ∧ Q (some (.int (f_N_beach_a27 r h))) h) ?_ zF 0 0 (none) (none) (none) hs ho.1 ⟨ho.2, hF⟩
      · intro v5_ v6_ o6_ o7_ o8_ o9_ hs hG
        have ho : True := trivial
        have hF : Q (some (.int ((f_N_beach_k113 v5_ h)))) h := hG.2
        exact f_N_beach_k113_t v5_ h (some (.ref 0)) (some (.int p1)) (some (.int p2)) (some (.int p3)) p4 (o6_) (o7_) (o8_) (o9_) hs trivial hF
    · have ho := ho.2 hc
      rw [if_neg hc] at hF
      refine zg_blk zd_152 1 hs (rfl : zb x zT0 zc_152 1 (18, [some (.ref 0), some (.int p1), some (.int p2), some (.int p3), some (.int p4), none, none, none, none, none], [], h) = some (20, [some (.ref 0), some (.int p1), some (.int p2), some (.int p3), some (.int p4), none, none, none, none, none], [.int (-2147483648)], h)) (fun hs => ?_)
      exact zg_ret zd_152 rfl rfl hF
theorem zd_241 : zm_cd 241 = zc_241 := by rfl
set_option maxRecDepth 100000 in
set_option maxHeartbeats 400000 in
theorem f_M_beach_l42_k121_t {x : zm_X} {d : Nat} (v1 : Int32) (v2 : Int32) (v3 : Int32) (v4 : Int32) (v5 : Int32) (v6 : Int32) (h : zm_H) (o7 : Option Value) (o8 : Option Value) (o9 : Option Value) {Q : Option Value → zm_H → Prop} {FN : Nat × Int32 × Int32 → Prop} (hs : zSh zT0 h) (ho : f_M_beach_l42_k121_ok v1 v2 v3 v4 v5 v6 h) (hF : FN (f_M_beach_l42_k121 v1 v2 v3 v4 v5 v6 h)) (hl0 : ∀ (v5 : Int32) (v6 : Int32) (o7 : Option Value) (o8 : Option Value) (o9 : Option Value), zSh zT0 h → FN (0, v5, v6) → zg x (d + 2) 241 42 [some (.ref 92), some (.int v1), some (.int v2), some (.int v3), some (.int v4), some (.int v5), some (.int v6), o7, o8, o9] [] h Q) (hl1 : ∀ (v5 : Int32) (v6 : Int32) (o6 : Option Value) (o7 : Option Value) (o8 : Option Value) (o9 : Option Value), zSh zT0 h → FN (1, v5, v6) → zg x (d + 2) 241 127 [some (.ref 92), some (.int v1), some (.int v2), some (.int v3), some (.int v4), some (.int v5), o6, o7, o8, o9] [] h Q) : zg x (d + 2) 241 121 [some (.ref 92), some (.int v1), some (.int v2), some (.int v3), some (.int v4), some (.int v5), some (.int v6), o7, o8, o9] [] h Q := by
  unfold f_M_beach_l42_k121 at hF
  unfold f_M_beach_l42_k121_ok at ho
  refine zg_blk zd_241 2 hs (rfl : zb x zT0 zc_241 2 (121, [some (.ref 92), some (.int v1), some (.int v2), some (.int v3), some (.int v4), some (.int v5), some (.int v6), o7, o8, o9], [], h) = some (42, [some (.ref 92), some (.int v1), some (.int v2), some (.int v3), some (.int v4), some (.int v5), some (.int (v6 + 1)), o7, o8, o9], [], h)) (fun hs => ?_)
  exact hl0 v5 (v6 + 1) (o7) (o8) (o9) hs hF
set_option maxRecDepth 100000 in
set_option maxHeartbeats 400000 in
theorem f_M_beach_l42_b_t {x : zm_X} {d : Nat} (v1 : Int32) (v2 : Int32) (v3 : Int32) (v4 : Int32) (v5 : Int32) (v6 : Int32) (h : zm_H) (o7 : Option Value) (o8 : Option Value) (o9 : Option Value) {Q : Option Value → zm_H → Prop} {FN : Nat × Int32 × Int32 → Prop} (hs : zSh zT0 h) (ho : f_M_beach_l42_b_ok v1 v2 v3 v4 v5 v6 h) (hF : FN (f_M_beach_l42_b v1 v2 v3 v4 v5 v6 h)) (hl0 : ∀ (v5 : Int32) (v6 : Int32) (o7 : Option Value) (o8 : Option Value) (o9 : Option Value), zSh zT0 h → FN (0, v5, v6) → zg x (d + 2) 241 42 [some (.ref 92), some (.int v1), some (.int v2), some (.int v3), some (.int v4), some (.int v5), some (.int v6), o7, o8, o9] [] h Q) (hl1 : ∀ (v5 : Int32) (v6 : Int32) (o6 : Option Value) (o7 : Option Value) (o8 : Option Value) (o9 : Option Value), zSh zT0 h → FN (1, v5, v6) → zg x (d + 2) 241 127 [some (.ref 92), some (.int v1), some (.int v2), some (.int v3), some (.int v4), some (.int v5), o6, o7, o8, o9] [] h Q) : zg x (d + 2) 241 42 [some (.ref 92), some (.int v1), some (.int v2), some (.int v3), some (.int v4), some (.int v5), some (.int v6), o7, o8, o9] [] h Q := by
  unfold f_M_beach_l42_b at hF
  unfold f_M_beach_l42_b_ok at ho
  refine zg_blk zd_241 3 hs (rfl : zb x zT0 zc_241 3 (42, [some (.ref 92), some (.int v1), some (.int v2), some (.int v3), some (.int v4), some (.int v5), some (.int v6), o7, o8, o9], [], h) = some (48, [some (.ref 92), some (.int v1), some (.int v2), some (.int v3), some (.int v4), some (.int v5), some (.int v6), o7, o8, o9], [.int (zf h 92 23), .int v6], h)) (fun hs => ?_)
  refine zg_i_ge zd_241 rfl (fun (hc : ((zf h 92 23) ≤ v6)) => ?_) (fun (hc : ¬ ((zf h 92 23) ≤ v6)) => ?_)
  · have ho := ho.1 hc
    rw [if_pos hc] at hF
    exact hl1 v5 v6 (some (.int v6)) (o7) (o8) (o9) hs hF
  · have ho := ho.2 hc
    rw [if_neg hc] at hF
    refine zg_blk zd_241 9 hs (rfl : zb x zT0 zc_241 9 (51, [some (.ref 92), some (.int v1), some (.int v2), some (.int v3), some (.int v4), some (.int v5), some (.int v6), o7, o8, o9], [], h) = some (66, [some (.ref 92), some (.int v1), some (.int v2), some (.int v3), some (.int v4), some (.int v5), some (.int v6), o7, o8, o9], [.int ((10 * v6) + v1), .ref 133, .int (zf h 92 47)], h)) (fun hs => ?_)
    have hob := ho
    refine zg_ial hs zd_241 rfl rfl hob ?_
    refine zg_blk zd_241 19 hs (rfl : zb x zT0 zc_241 19 (67, [some (.ref 92), some (.int v1), some (.int v2), some (.int v3), some (.int v4), some (.int v5), some (.int v6), o7, o8, o9], [.int (zr h 133 ((10 * v6) + v1)), .int (zf h 92 47)], h) = some (98, [some (.ref 92), some (.int v1), some (.int v2), some (.int v3), some (.int v4), some (.int v5), some (.int v6), some (.int (((zf h 92 47) - (zr h 133 ((10 * v6) + v1))) / 1000)), some (.int (((((zf h 92 47) - (zr h 133 ((10 * v6) + v1))) / 1000) * v2) / 100)), some (.int (((((zf h 92 47) - (zr h 133 ((10 * v6) + v1))) / 1000) * v3) / 100))], [.int (((((zf h 92 47) - (zr h 133 ((10 * v6) + v1))) / 1000) * v3) / 100), .int (((((zf h 92 47) - (zr h 133 ((10 * v6) + v1))) / 1000) * v2) / 100), .int v5], h)) (fun hs => ?_)
    have K141 : zSh zT0 h → zg x (d + 2) 241 106 [some (.ref 92), some (.int v1), some (.int v2), some (.int v3), some (.int v4), some (.int v5), some (.int v6), some (.int (((zf h 92 47) - (zr h 133 ((10 * v6) + v1))) / 1000)), some (.int (((((zf h 92 47) - (zr h 133 ((10 * v6) + v1))) / 1000) * v2) / 100)), some (.int (((((zf h 92 47) - (zr h 133 ((10 * v6) + v1))) / 1000) * v3) / 100))] [.int (if (¬ ((((((zf h 92 47) - (zr h 133 ((10 * v6) + v1))) / 1000) * v3) / 100) ≤ (((((zf h 92 47) - (zr h 133 ((10 * v6) + v1))) / 1000) * v2) / 100))) then (1 : Int32) else 0), .int v5] h Q := fun hs => by
      refine zg_blk zd_241 1 hs (rfl : zb x zT0 zc_241 1 (106, [some (.ref 92), some (.int v1), some (.int v2), some (.int v3), some (.int v4), some (.int v5), some (.int v6), some (.int (((zf h 92 47) - (zr h 133 ((10 * v6) + v1))) / 1000)), some (.int (((((zf h 92 47) - (zr h 133 ((10 * v6) + v1))) / 1000) * v2) / 100)), some (.int (((((zf h 92 47) - (zr h 133 ((10 * v6) + v1))) / 1000) * v3) / 100))], [.int (if (¬ ((((((zf h 92 47) - (zr h 133 ((10 * v6) + v1))) / 1000) * v3) / 100) ≤ (((((zf h 92 47) - (zr h 133 ((10 * v6) + v1))) / 1000) * v2) / 100))) then (1 : Int32) else 0), .int v5], h) = some (108, [some (.ref 92), some (.int v1), some (.int v2), some (.int v3), some (.int v4), some (.int v5), some (.int v6), some (.int (((zf h 92 47) - (zr h 133 ((10 * v6) + v1))) / 1000)), some (.int (((((zf h 92 47) - (zr h 133 ((10 * v6) + v1))) / 1000) * v2) / 100)), some (.int (((((zf h 92 47) - (zr h 133 ((10 * v6) + v1))) / 1000) * v3) / 100))], [.int v4, .int (if (¬ ((((((zf h 92 47) - (zr h 133 ((10 * v6) + v1))) / 1000) * v3) / 100) ≤ (((((zf h 92 47) - (zr h 133 ((10 * v6) + v1))) / 1000) * v2) / 100))) then (1 : Int32) else 0), .int v5], h)) (fun hs => ?_)
      have K142 : zSh zT0 h → zg x (d + 2) 241 118 [some (.ref 92), some (.int v1), some (.int v2), some (.int v3), some (.int v4), some (.int v5), some (.int v6), some (.int (((zf h 92 47) - (zr h 133 ((10 * v6) + v1))) / 1000)), some (.int (((((zf h 92 47) - (zr h 133 ((10 * v6) + v1))) / 1000) * v2) / 100)), some (.int (((((zf h 92 47) - (zr h 133 ((10 * v6) + v1))) / 1000) * v3) / 100))] [.int (if ((if (¬ ((((((zf h 92 47) - (zr h 133 ((10 * v6) + v1))) / 1000) * v3) / 100) ≤ (((((zf h 92 47) - (zr h 133 ((10 * v6) + v1))) / 1000) * v2) / 100))) then (1 : Int32) else 0) = v4) then ((((((zf h 92 47) - (zr h 133 ((10 * v6) + v1))) / 1000) * v3) / 100) : Int32) else (((((zf h 92 47) - (zr h 133 ((10 * v6) + v1))) / 1000) * v2) / 100)), .int v5] h Q := fun hs => by
        refine zg_blk zd_241 2 hs (rfl : zb x zT0 zc_241 2 (118, [some (.ref 92), some (.int v1), some (.int v2), some (.int v3), some (.int v4), some (.int v5), some (.int v6), some (.int (((zf h 92 47) - (zr h 133 ((10 * v6) + v1))) / 1000)), some (.int (((((zf h 92 47) - (zr h 133 ((10 * v6) + v1))) / 1000) * v2) / 100)), some (.int (((((zf h 92 47) - (zr h 133 ((10 * v6) + v1))) / 1000) * v3) / 100))], [.int (if ((if (¬ ((((((zf h 92 47) - (zr h 133 ((10 * v6) + v1))) / 1000) * v3) / 100) ≤ (((((zf h 92 47) - (zr h 133 ((10 * v6) + v1))) / 1000) * v2) / 100))) then (1 : Int32) else 0) = v4) then ((((((zf h 92 47) - (zr h 133 ((10 * v6) + v1))) / 1000) * v3) / 100) : Int32) else (((((zf h 92 47) - (zr h 133 ((10 * v6) + v1))) / 1000) * v2) / 100)), .int v5], h) = some (121, [some (.ref 92), some (.int v1), some (.int v2), some (.int v3), some (.int v4), some (.int (v5 + (if ((if (¬ ((((((zf h 92 47) - (zr h 133 ((10 * v6) + v1))) / 1000) * v3) / 100) ≤ (((((zf h 92 47) - (zr h 133 ((10 * v6) + v1))) / 1000) * v2) / 100))) then (1 : Int32) else 0) = v4) then ((((((zf h 92 47) - (zr h 133 ((10 * v6) + v1))) / 1000) * v3) / 100) : Int32) else (((((zf h 92 47) - (zr h 133 ((10 * v6) + v1))) / 1000) * v2) / 100)))), some (.int v6), some (.int (((zf h 92 47) - (zr h 133 ((10 * v6) + v1))) / 1000)), some (.int (((((zf h 92 47) - (zr h 133 ((10 * v6) + v1))) / 1000) * v2) / 100)), some (.int (((((zf h 92 47) - (zr h 133 ((10 * v6) + v1))) / 1000) * v3) / 100))], [], h)) (fun hs => ?_)
        exact f_M_beach_l42_k121_t v1 v2 v3 v4 (v5 + (if ((if (¬ ((((((zf h 92 47) - (zr h 133 ((10 * v6) + v1))) / 1000) * v3) / 100) ≤ (((((zf h 92 47) - (zr h 133 ((10 * v6) + v1))) / 1000) * v2) / 100))) then (1 : Int32) else 0) = v4) then ((((((zf h 92 47) - (zr h 133 ((10 * v6) + v1))) / 1000) * v3) / 100) : Int32) else (((((zf h 92 47) - (zr h 133 ((10 * v6) + v1))) / 1000) * v2) / 100))) v6 h (some (.int (((zf h 92 47) - (zr h 133 ((10 * v6) + v1))) / 1000))) (some (.int (((((zf h 92 47) - (zr h 133 ((10 * v6) + v1))) / 1000) * v2) / 100))) (some (.int (((((zf h 92 47) - (zr h 133 ((10 * v6) + v1))) / 1000) * v3) / 100))) hs trivial hF hl0 hl1
      refine zg_i_ne zd_241 rfl (fun (hc : ¬ ((if (¬ ((((((zf h 92 47) - (zr h 133 ((10 * v6) + v1))) / 1000) * v3) / 100) ≤ (((((zf h 92 47) - (zr h 133 ((10 * v6) + v1))) / 1000) * v2) / 100))) then (1 : Int32) else 0) = v4)) => ?_) (fun (hc : ((if (¬ ((((((zf h 92 47) - (zr h 133 ((10 * v6) + v1))) / 1000) * v3) / 100) ≤ (((((zf h 92 47) - (zr h 133 ((10 * v6) + v1))) / 1000) * v2) / 100))) then (1 : Int32) else 0) = v4)) => ?_)
      · skip
        rw [show ((if ((if (¬ ((((((zf h 92 47) - (zr h 133 ((10 * v6) + v1))) / 1000) * v3) / 100) ≤ (((((zf h 92 47) - (zr h 133 ((10 * v6) + v1))) / 1000) * v2) / 100))) then (1 : Int32) else 0) = v4) then ((((((zf h 92 47) - (zr h 133 ((10 * v6) + v1))) / 1000) * v3) / 100) : Int32) else (((((zf h 92 47) - (zr h 133 ((10 * v6) + v1))) / 1000) * v2) / 100)) : Int32) = (((((zf h 92 47) - (zr h 133 ((10 * v6) + v1))) / 1000) * v2) / 100) from if_neg hc] at K142
        refine zg_blk zd_241 1 hs (rfl : zb x zT0 zc_241 1 (116, [some (.ref 92), some (.int v1), some (.int v2), some (.int v3), some (.int v4), some (.int v5), some (.int v6), some (.int (((zf h 92 47) - (zr h 133 ((10 * v6) + v1))) / 1000)), some (.int (((((zf h 92 47) - (zr h 133 ((10 * v6) + v1))) / 1000) * v2) / 100)), some (.int (((((zf h 92 47) - (zr h 133 ((10 * v6) + v1))) / 1000) * v3) / 100))], [.int v5], h) = some (118, [some (.ref 92), some (.int v1), some (.int v2), some (.int v3), some (.int v4), some (.int v5), some (.int v6), some (.int (((zf h 92 47) - (zr h 133 ((10 * v6) + v1))) / 1000)), some (.int (((((zf h 92 47) - (zr h 133 ((10 * v6) + v1))) / 1000) * v2) / 100)), some (.int (((((zf h 92 47) - (zr h 133 ((10 * v6) + v1))) / 1000) * v3) / 100))], [.int (((((zf h 92 47) - (zr h 133 ((10 * v6) + v1))) / 1000) * v2) / 100), .int v5], h)) (fun hs => ?_)
        exact K142 hs
      · skip
        rw [show ((if ((if (¬ ((((((zf h 92 47) - (zr h 133 ((10 * v6) + v1))) / 1000) * v3) / 100) ≤ (((((zf h 92 47) - (zr h 133 ((10 * v6) + v1))) / 1000) * v2) / 100))) then (1 : Int32) else 0) = v4) then ((((((zf h 92 47) - (zr h 133 ((10 * v6) + v1))) / 1000) * v3) / 100) : Int32) else (((((zf h 92 47) - (zr h 133 ((10 * v6) + v1))) / 1000) * v2) / 100)) : Int32) = (((((zf h 92 47) - (zr h 133 ((10 * v6) + v1))) / 1000) * v3) / 100) from if_pos hc] at K142
        refine zg_blk zd_241 2 hs (rfl : zb x zT0 zc_241 2 (111, [some (.ref 92), some (.int v1), some (.int v2), some (.int v3), some (.int v4), some (.int v5), some (.int v6), some (.int (((zf h 92 47) - (zr h 133 ((10 * v6) + v1))) / 1000)), some (.int (((((zf h 92 47) - (zr h 133 ((10 * v6) + v1))) / 1000) * v2) / 100)), some (.int (((((zf h 92 47) - (zr h 133 ((10 * v6) + v1))) / 1000) * v3) / 100))], [.int v5], h) = some (118, [some (.ref 92), some (.int v1), some (.int v2), some (.int v3), some (.int v4), some (.int v5), some (.int v6), some (.int (((zf h 92 47) - (zr h 133 ((10 * v6) + v1))) / 1000)), some (.int (((((zf h 92 47) - (zr h 133 ((10 * v6) + v1))) / 1000) * v2) / 100)), some (.int (((((zf h 92 47) - (zr h 133 ((10 * v6) + v1))) / 1000) * v3) / 100))], [.int (((((zf h 92 47) - (zr h 133 ((10 * v6) + v1))) / 1000) * v3) / 100), .int v5], h)) (fun hs => ?_)
        exact K142 hs
    refine zg_i_ge zd_241 rfl (fun (hc : ((((((zf h 92 47) - (zr h 133 ((10 * v6) + v1))) / 1000) * v3) / 100) ≤ (((((zf h 92 47) - (zr h 133 ((10 * v6) + v1))) / 1000) * v2) / 100))) => ?_) (fun (hc : ¬ ((((((zf h 92 47) - (zr h 133 ((10 * v6) + v1))) / 1000) * v3) / 100) ≤ (((((zf h 92 47) - (zr h 133 ((10 * v6) + v1))) / 1000) * v2) / 100))) => ?_)
    · skip
      rw [show ((if (¬ ((((((zf h 92 47) - (zr h 133 ((10 * v6) + v1))) / 1000) * v3) / 100) ≤ (((((zf h 92 47) - (zr h 133 ((10 * v6) + v1))) / 1000) * v2) / 100))) then (1 : Int32) else 0) : Int32) = 0 from zb_not_t hc] at K141
      refine zg_blk zd_241 1 hs (rfl : zb x zT0 zc_241 1 (105, [some (.ref 92), some (.int v1), some (.int v2), some (.int v3), some (.int v4), some (.int v5), some (.int v6), some (.int (((zf h 92 47) - (zr h 133 ((10 * v6) + v1))) / 1000)), some (.int (((((zf h 92 47) - (zr h 133 ((10 * v6) + v1))) / 1000) * v2) / 100)), some (.int (((((zf h 92 47) - (zr h 133 ((10 * v6) + v1))) / 1000) * v3) / 100))], [.int v5], h) = some (106, [some (.ref 92), some (.int v1), some (.int v2), some (.int v3), some (.int v4), some (.int v5), some (.int v6), some (.int (((zf h 92 47) - (zr h 133 ((10 * v6) + v1))) / 1000)), some (.int (((((zf h 92 47) - (zr h 133 ((10 * v6) + v1))) / 1000) * v2) / 100)), some (.int (((((zf h 92 47) - (zr h 133 ((10 * v6) + v1))) / 1000) * v3) / 100))], [.int 0, .int v5], h)) (fun hs => ?_)
      exact K141 hs
    · skip
      rw [show ((if (¬ ((((((zf h 92 47) - (zr h 133 ((10 * v6) + v1))) / 1000) * v3) / 100) ≤ (((((zf h 92 47) - (zr h 133 ((10 * v6) + v1))) / 1000) * v2) / 100))) then (1 : Int32) else 0) : Int32) = 1 from zb_not_f hc] at K141
      refine zg_blk zd_241 2 hs (rfl : zb x zT0 zc_241 2 (101, [some (.ref 92), some (.int v1), some (.int v2), some (.int v3), some (.int v4), some (.int v5), some (.int v6), some (.int (((zf h 92 47) - (zr h 133 ((10 * v6) + v1))) / 1000)), some (.int (((((zf h 92 47) - (zr h 133 ((10 * v6) + v1))) / 1000) * v2) / 100)), some (.int (((((zf h 92 47) - (zr h 133 ((10 * v6) + v1))) / 1000) * v3) / 100))], [.int v5], h) = some (106, [some (.ref 92), some (.int v1), some (.int v2), some (.int v3), some (.int v4), some (.int v5), some (.int v6), some (.int (((zf h 92 47) - (zr h 133 ((10 * v6) + v1))) / 1000)), some (.int (((((zf h 92 47) - (zr h 133 ((10 * v6) + v1))) / 1000) * v2) / 100)), some (.int (((((zf h 92 47) - (zr h 133 ((10 * v6) + v1))) / 1000) * v3) / 100))], [.int 1, .int v5], h)) (fun hs => ?_)
      exact K141 hs
theorem f_M_beach_l42_t {x : zm_X} {d : Nat} (v1 : Int32) (v2 : Int32) (v3 : Int32) (v4 : Int32) (h : zm_H) {Q : Option Value → zm_H → Prop} (G : Nat × Int32 × Int32 → Prop) (hx1 : ∀ (v5 : Int32) (v6 : Int32) (o6 : Option Value) (o7 : Option Value) (o8 : Option Value) (o9 : Option Value), zSh zT0 h → G (1, v5, v6) → zg x (d + 2) 241 127 [some (.ref 92), some (.int v1), some (.int v2), some (.int v3), some (.int v4), some (.int v5), o6, o7, o8, o9] [] h Q) : ∀ (n : Nat) (v5 : Int32) (v6 : Int32) (o7 : Option Value) (o8 : Option Value) (o9 : Option Value), zSh zT0 h → f_M_beach_l42_ok v1 v2 v3 v4 h n (v5, v6) → G (f_M_beach_l42 v1 v2 v3 v4 h n (v5, v6)) → zg x (d + 2) 241 42 [some (.ref 92), some (.int v1), some (.int v2), some (.int v3), some (.int v4), some (.int v5), some (.int v6), o7, o8, o9] [] h Q := by
  intro n
  induction n with
  | zero => intro v5 v6 o7 o8 o9 hs ho hG; exact ho.elim
  | succ n ih =>
    intro v5 v6 o7 o8 o9 hs ho hG
    refine f_M_beach_l42_b_t (FN := fun r => (r.1 = 0 → f_M_beach_l42_ok v1 v2 v3 v4 h n r.2) ∧ G (if r.1 = 0 then f_M_beach_l42 v1 v2 v3 v4 h n r.2 else r)) v1 v2 v3 v4 v5 v6 h o7 o8 o9 hs ho.1 ⟨ho.2, hG⟩ ?_ ?_
    · intro v5 v6 o7 o8 o9 hs hF
      exact ih v5 v6 o7 o8 o9 hs (hF.1 rfl) hF.2
    · intro v5 v6 o6 o7 o8 o9 hs hF
      exact hx1 v5 v6 o6 o7 o8 o9 hs hF.2

set_option maxRecDepth 100000 in
set_option maxHeartbeats 400000 in
theorem f_M_beach_k127_t {x : zm_X} {d : Nat} (v5 : Int32) (h : zm_H) (o0 : Option Value) (o1 : Option Value) (o2 : Option Value) (o3 : Option Value) (z4 : Int32) (o6 : Option Value) (o7 : Option Value) (o8 : Option Value) (o9 : Option Value) {Q : Option Value → zm_H → Prop} (hs : zSh zT0 h) (ho : f_M_beach_k127_ok v5 h) (hF : Q (some (.int (f_M_beach_k127 v5 h))) h) : zg x (d + 2) 241 127 [o0, o1, o2, o3, some (.int z4), some (.int v5), o6, o7, o8, o9] [] h Q := by
  unfold f_M_beach_k127 at hF
  unfold f_M_beach_k127_ok at ho
  refine zg_blk zd_241 1 hs (rfl : zb x zT0 zc_241 1 (127, [o0, o1, o2, o3, some (.int z4), some (.int v5), o6, o7, o8, o9], [], h) = some (129, [o0, o1, o2, o3, some (.int z4), some (.int v5), o6, o7, o8, o9], [.int v5], h)) (fun hs => ?_)
  exact zg_ret zd_241 rfl rfl hF
set_option maxRecDepth 100000 in
set_option maxHeartbeats 400000 in
theorem f_M_beach_t {x : zm_X} {d : Nat} (p1 : Int32) (p2 : Int32) (p3 : Int32) (p4 : Int32) (h : zm_H) {Q : Option Value → zm_H → Prop} (hs : zSh zT0 h) (ho : f_M_beach_ok p1 p2 p3 p4 h) (hF : Q (some (.int (f_M_beach p1 p2 p3 p4 h))) h) : zg x (d + 2) 241 0 [some (.ref 92), some (.int p1), some (.int p2), some (.int p3), some (.int p4), none, none, none, none, none] [] h Q := by
  unfold f_M_beach at hF
  unfold f_M_beach_ok at ho
  refine zg_blk zd_241 3 hs (rfl : zb x zT0 zc_241 3 (0, [some (.ref 92), some (.int p1), some (.int p2), some (.int p3), some (.int p4), none, none, none, none, none], [], h) = some (4, [some (.ref 92), some (.int p1), some (.int p2), some (.int p3), some (.int p4), none, none, none, none, none], [.int 9, .int 0, .int p1], h)) (fun hs => ?_)
  refine zg_call hs zd_241 rfl rfl rfl rfl (as := [.int p1, .int 0, .int 9]) (rest := []) (en := [some (.int p1), some (.int 0), some (.int 9)]) rfl rfl rfl rfl rfl ?_
  refine f_M_in_t p1 0 9 h hs trivial ?_
  show zg x (d + 2) 241 7 [some (.ref 92), some (.int p1), some (.int p2), some (.int p3), some (.int p4), none, none, none, none, none] [.int (if (¬ (p1 < 0) ∧ (¬ (9 < p1))) then (1 : Int32) else 0)] h Q
  refine zg_b_eq zd_241 rfl (fun (hc : ¬ (¬ (p1 < 0) ∧ (¬ (9 < p1)))) => ?_) (fun (hc : (¬ (p1 < 0) ∧ (¬ (9 < p1)))) => ?_)
  · have ho := ho.2 hc
    rw [if_neg hc] at hF
    refine zg_blk zd_241 1 hs (rfl : zb x zT0 zc_241 1 (32, [some (.ref 92), some (.int p1), some (.int p2), some (.int p3), some (.int p4), none, none, none, none, none], [], h) = some (35, [some (.ref 92), some (.int p1), some (.int p2), some (.int p3), some (.int p4), none, none, none, none, none], [.int (-2147483648)], h)) (fun hs => ?_)
    exact zg_ret zd_241 rfl rfl hF
  · have ho := ho.1 hc
    rw [if_pos hc] at hF
    refine zg_blk zd_241 3 hs (rfl : zb x zT0 zc_241 3 (10, [some (.ref 92), some (.int p1), some (.int p2), some (.int p3), some (.int p4), none, none, none, none, none], [], h) = some (15, [some (.ref 92), some (.int p1), some (.int p2), some (.int p3), some (.int p4), none, none, none, none, none], [.int 200, .int 0, .int p2], h)) (fun hs => ?_)
    refine zg_call hs zd_241 rfl rfl rfl rfl (as := [.int p2, .int 0, .int 200]) (rest := []) (en := [some (.int p2), some (.int 0), some (.int 200)]) rfl rfl rfl rfl rfl ?_
    refine f_M_in_t p2 0 200 h hs trivial ?_
    show zg x (d + 2) 241 18 [some (.ref 92), some (.int p1), some (.int p2), some (.int p3), some (.int p4), none, none, none, none, none] [.int (if (¬ (p2 < 0) ∧ (¬ (200 < p2))) then (1 : Int32) else 0)] h Q
    refine zg_b_eq zd_241 rfl (fun (hc : ¬ (¬ (p2 < 0) ∧ (¬ (200 < p2)))) => ?_) (fun (hc : (¬ (p2 < 0) ∧ (¬ (200 < p2)))) => ?_)
    · have ho := ho.2 hc
      rw [if_neg hc] at hF
      refine zg_blk zd_241 1 hs (rfl : zb x zT0 zc_241 1 (32, [some (.ref 92), some (.int p1), some (.int p2), some (.int p3), some (.int p4), none, none, none, none, none], [], h) = some (35, [some (.ref 92), some (.int p1), some (.int p2), some (.int p3), some (.int p4), none, none, none, none, none], [.int (-2147483648)], h)) (fun hs => ?_)
      exact zg_ret zd_241 rfl rfl hF
    · have ho := ho.1 hc
      rw [if_pos hc] at hF
      refine zg_blk zd_241 3 hs (rfl : zb x zT0 zc_241 3 (21, [some (.ref 92), some (.int p1), some (.int p2), some (.int p3), some (.int p4), none, none, none, none, none], [], h) = some (26, [some (.ref 92), some (.int p1), some (.int p2), some (.int p3), some (.int p4), none, none, none, none, none], [.int 200, .int p2, .int p3], h)) (fun hs => ?_)
      refine zg_call hs zd_241 rfl rfl rfl rfl (as := [.int p3, .int p2, .int 200]) (rest := []) (en := [some (.int p3), some (.int p2), some (.int 200)]) rfl rfl rfl rfl rfl ?_
      refine f_M_in_t p3 p2 200 h hs trivial ?_
      show zg x (d + 2) 241 29 [some (.ref 92), some (.int p1), some (.int p2), some (.int p3), some (.int p4), none, none, none, none, none] [.int (if (¬ (p3 < p2) ∧ (¬ (200 < p3))) then (1 : Int32) else 0)] h Q
      refine zg_b_ne zd_241 rfl (fun (hc : (¬ (p3 < p2) ∧ (¬ (200 < p3)))) => ?_) (fun (hc : ¬ (¬ (p3 < p2) ∧ (¬ (200 < p3)))) => ?_)
      · have ho := ho.1 hc
        rw [if_pos hc] at hF
        refine zg_blk zd_241 4 hs (rfl : zb x zT0 zc_241 4 (36, [some (.ref 92), some (.int p1), some (.int p2), some (.int p3), some (.int p4), none, none, none, none, none], [], h) = some (42, [some (.ref 92), some (.int p1), some (.int p2), some (.int p3), some (.int p4), some (.int 0), some (.int 0), none, none, none], [], h)) (fun hs => ?_)
        refine f_M_beach_l42_t p1 p2 p3 p4 h (fun r => f_M_beach_a42_ok r h ∧ Q (some (.int (f_M_beach_a42 r h))) h) ?_ zF 0 0 (none) (none) (none) hs ho.1 ⟨ho.2, hF⟩
        · intro v5_ v6_ o6_ o7_ o8_ o9_ hs hG
          have ho : True := trivial
          have hF : Q (some (.int ((f_M_beach_k127 v5_ h)))) h := hG.2
          exact f_M_beach_k127_t v5_ h (some (.ref 92)) (some (.int p1)) (some (.int p2)) (some (.int p3)) p4 (o6_) (o7_) (o8_) (o9_) hs trivial hF
      · have ho := ho.2 hc
        rw [if_neg hc] at hF
        refine zg_blk zd_241 1 hs (rfl : zb x zT0 zc_241 1 (32, [some (.ref 92), some (.int p1), some (.int p2), some (.int p3), some (.int p4), none, none, none, none, none], [], h) = some (35, [some (.ref 92), some (.int p1), some (.int p2), some (.int p3), some (.int p4), none, none, none, none, none], [.int (-2147483648)], h)) (fun hs => ?_)
        exact zg_ret zd_241 rfl rfl hF
theorem zd_153 : zm_cd 153 = zc_153 := by rfl
theorem zd_48 : zm_cd 48 = zc_48 := by rfl
set_option maxRecDepth 100000 in
set_option maxHeartbeats 400000 in
theorem f_Harbour_bring_t {x : zm_X} {d : Nat} (p1 : Int32) (p2 : Int32) (h : zm_H) {Q : Option Value → zm_H → Prop} (hs : zSh zT0 h) (ho : f_Harbour_bring_ok p1 p2 h) (hF : (zSh zT0 (f_Harbour_bring p1 p2 h).2 → Q (some (.int (f_Harbour_bring p1 p2 h).1)) (f_Harbour_bring p1 p2 h).2)) : zg x (d + 1) 48 0 [some (.ref 63), some (.int p1), some (.int p2)] [] h Q := by
  unfold f_Harbour_bring at hF
  unfold f_Harbour_bring_ok at ho
  refine zg_blk zd_48 3 hs (rfl : zb x zT0 zc_48 3 (0, [some (.ref 63), some (.int p1), some (.int p2)], [], h) = some (5, [some (.ref 63), some (.int p1), some (.int p2)], [.int p1, .ref 64], h)) (fun hs => ?_)
  obtain ⟨hob, ho⟩ := ho
  refine zg_ial hs zd_48 rfl rfl hob ?_
  refine zg_blk zd_48 3 hs (rfl : zb x zT0 zc_48 3 (6, [some (.ref 63), some (.int p1), some (.int p2)], [.int (zr h 64 p1)], h) = some (10, [some (.ref 63), some (.int p1), some (.int p2)], [.int 99, .int ((zr h 64 p1) + p2)], h)) (fun hs => ?_)
  refine zg_i_le zd_48 rfl (fun (hc : (((zr h 64 p1) + p2) ≤ 99)) => ?_) (fun (hc : ¬ (((zr h 64 p1) + p2) ≤ 99)) => ?_)
  · have ho := ho.1 hc
    rw [if_pos hc] at hF
    refine zg_blk zd_48 4 hs (rfl : zb x zT0 zc_48 4 (15, [some (.ref 63), some (.int p1), some (.int p2)], [], h) = some (21, [some (.ref 63), some (.int p1), some (.int p2)], [.int p1, .ref 64, .int p1, .ref 64], h)) (fun hs => ?_)
    obtain ⟨hob, ho⟩ := ho
    refine zg_ial hs zd_48 rfl rfl hob ?_
    refine zg_blk zd_48 2 hs (rfl : zb x zT0 zc_48 2 (22, [some (.ref 63), some (.int p1), some (.int p2)], [.int (zr h 64 p1), .int p1, .ref 64], h) = some (24, [some (.ref 63), some (.int p1), some (.int p2)], [.int ((zr h 64 p1) + p2), .int p1, .ref 64], h)) (fun hs => ?_)
    obtain ⟨hob, ho⟩ := ho
    refine zg_ias hs zd_48 rfl rfl hob (fun hs => ?_)
    refine zg_blk zd_48 3 hs (rfl : zb x zT0 zc_48 3 (25, [some (.ref 63), some (.int p1), some (.int p2)], [], (zs h 64 p1 ((zr h 64 p1) + p2))) = some (30, [some (.ref 63), some (.int p1), some (.int p2)], [.int p1, .ref 64], (zs h 64 p1 ((zr h 64 p1) + p2)))) (fun hs => ?_)
    have hob := ho
    refine zg_ial hs zd_48 rfl rfl hob ?_
    exact zg_ret zd_48 rfl rfl (hF hs)
  · have ho := ho.2 hc
    rw [if_neg hc] at hF
    refine zg_blk zd_48 1 hs (rfl : zb x zT0 zc_48 1 (13, [some (.ref 63), some (.int p1), some (.int p2)], [], h) = some (14, [some (.ref 63), some (.int p1), some (.int p2)], [.int (-1)], h)) (fun hs => ?_)
    exact zg_ret zd_48 rfl rfl (hF hs)
set_option maxRecDepth 100000 in
set_option maxHeartbeats 400000 in
theorem f_N_parts_t {x : zm_X} {d : Nat} (p1 : Int32) (p2 : Int32) (h : zm_H) {Q : Option Value → zm_H → Prop} (hs : zSh zT0 h) (ho : f_N_parts_ok p1 p2 h) (hF : (zSh zT0 (f_N_parts p1 p2 h).2 → Q (some (.int (f_N_parts p1 p2 h).1)) (f_N_parts p1 p2 h).2)) : zg x (d + 2) 153 0 [some (.ref 0), some (.int p1), some (.int p2)] [] h Q := by
  unfold f_N_parts at hF
  unfold f_N_parts_ok at ho
  refine zg_blk zd_153 1 hs (rfl : zb x zT0 zc_153 1 (0, [some (.ref 0), some (.int p1), some (.int p2)], [], h) = some (1, [some (.ref 0), some (.int p1), some (.int p2)], [.int p1], h)) (fun hs => ?_)
  refine zg_f_lt zd_153 rfl (fun (hc : (p1 < 0)) => ?_) (fun (hc : ¬ (p1 < 0)) => ?_)
  · have ho := ho.1 hc
    rw [if_pos hc] at hF
    refine zg_blk zd_153 1 hs (rfl : zb x zT0 zc_153 1 (20, [some (.ref 0), some (.int p1), some (.int p2)], [], h) = some (21, [some (.ref 0), some (.int p1), some (.int p2)], [.int (-1)], h)) (fun hs => ?_)
    exact zg_ret zd_153 rfl rfl (hF hs)
  · have ho := ho.2 hc
    rw [if_neg hc] at hF
    refine zg_blk zd_153 2 hs (rfl : zb x zT0 zc_153 2 (4, [some (.ref 0), some (.int p1), some (.int p2)], [], h) = some (6, [some (.ref 0), some (.int p1), some (.int p2)], [.int 3, .int p1], h)) (fun hs => ?_)
    refine zg_i_ge zd_153 rfl (fun (hc : (3 ≤ p1)) => ?_) (fun (hc : ¬ (3 ≤ p1)) => ?_)
    · have ho := ho.1 hc
      rw [if_pos hc] at hF
      refine zg_blk zd_153 1 hs (rfl : zb x zT0 zc_153 1 (20, [some (.ref 0), some (.int p1), some (.int p2)], [], h) = some (21, [some (.ref 0), some (.int p1), some (.int p2)], [.int (-1)], h)) (fun hs => ?_)
      exact zg_ret zd_153 rfl rfl (hF hs)
    · have ho := ho.2 hc
      rw [if_neg hc] at hF
      refine zg_blk zd_153 2 hs (rfl : zb x zT0 zc_153 2 (9, [some (.ref 0), some (.int p1), some (.int p2)], [], h) = some (11, [some (.ref 0), some (.int p1), some (.int p2)], [.int 1, .int p2], h)) (fun hs => ?_)
      refine zg_i_lt zd_153 rfl (fun (hc : (p2 < 1)) => ?_) (fun (hc : ¬ (p2 < 1)) => ?_)
      · have ho := ho.1 hc
        rw [if_pos hc] at hF
        refine zg_blk zd_153 1 hs (rfl : zb x zT0 zc_153 1 (20, [some (.ref 0), some (.int p1), some (.int p2)], [], h) = some (21, [some (.ref 0), some (.int p1), some (.int p2)], [.int (-1)], h)) (fun hs => ?_)
        exact zg_ret zd_153 rfl rfl (hF hs)
      · have ho := ho.2 hc
        rw [if_neg hc] at hF
        refine zg_blk zd_153 2 hs (rfl : zb x zT0 zc_153 2 (14, [some (.ref 0), some (.int p1), some (.int p2)], [], h) = some (17, [some (.ref 0), some (.int p1), some (.int p2)], [.int 20, .int p2], h)) (fun hs => ?_)
        refine zg_i_le zd_153 rfl (fun (hc : (p2 ≤ 20)) => ?_) (fun (hc : ¬ (p2 ≤ 20)) => ?_)
        · have ho := ho.1 hc
          rw [if_pos hc] at hF
          refine zg_blk zd_153 4 hs (rfl : zb x zT0 zc_153 4 (22, [some (.ref 0), some (.int p1), some (.int p2)], [], h) = some (28, [some (.ref 0), some (.int p1), some (.int p2)], [.int p2, .int p1, .ref 63], h)) (fun hs => ?_)
          have hob := ho
          refine zg_call hs zd_153 rfl rfl rfl rfl (as := [.ref 63, .int p1, .int p2]) (rest := []) (en := [some (.ref 63), some (.int p1), some (.int p2)]) rfl rfl rfl rfl rfl ?_
          refine f_Harbour_bring_t p1 p2 h hs hob (fun hs => ?_)
          show zg x (d + 2) 153 31 [some (.ref 0), some (.int p1), some (.int p2)] [.int (f_Harbour_bring p1 p2 h).1] (f_Harbour_bring p1 p2 h).2 Q
          exact zg_ret zd_153 rfl rfl (hF hs)
        · have ho := ho.2 hc
          rw [if_neg hc] at hF
          refine zg_blk zd_153 1 hs (rfl : zb x zT0 zc_153 1 (20, [some (.ref 0), some (.int p1), some (.int p2)], [], h) = some (21, [some (.ref 0), some (.int p1), some (.int p2)], [.int (-1)], h)) (fun hs => ?_)
          exact zg_ret zd_153 rfl rfl (hF hs)
theorem zd_242 : zm_cd 242 = zc_242 := by rfl
set_option maxRecDepth 100000 in
set_option maxHeartbeats 400000 in
theorem f_M_parts_t {x : zm_X} {d : Nat} (p1 : Int32) (p2 : Int32) (h : zm_H) {Q : Option Value → zm_H → Prop} (hs : zSh zT0 h) (ho : f_M_parts_ok p1 p2 h) (hF : (zSh zT0 (f_M_parts p1 p2 h).2 → Q (some (.int (f_M_parts p1 p2 h).1)) (f_M_parts p1 p2 h).2)) : zg x (d + 2) 242 0 [some (.ref 92), some (.int p1), some (.int p2)] [] h Q := by
  unfold f_M_parts at hF
  unfold f_M_parts_ok at ho
  refine zg_blk zd_242 3 hs (rfl : zb x zT0 zc_242 3 (0, [some (.ref 92), some (.int p1), some (.int p2)], [], h) = some (3, [some (.ref 92), some (.int p1), some (.int p2)], [.int 2, .int 0, .int p1], h)) (fun hs => ?_)
  refine zg_call hs zd_242 rfl rfl rfl rfl (as := [.int p1, .int 0, .int 2]) (rest := []) (en := [some (.int p1), some (.int 0), some (.int 2)]) rfl rfl rfl rfl rfl ?_
  refine f_M_in_t p1 0 2 h hs trivial ?_
  show zg x (d + 2) 242 6 [some (.ref 92), some (.int p1), some (.int p2)] [.int (if (¬ (p1 < 0) ∧ (¬ (2 < p1))) then (1 : Int32) else 0)] h Q
  refine zg_b_eq zd_242 rfl (fun (hc : ¬ (¬ (p1 < 0) ∧ (¬ (2 < p1)))) => ?_) (fun (hc : (¬ (p1 < 0) ∧ (¬ (2 < p1)))) => ?_)
  · have ho := ho.2 hc
    rw [if_neg hc] at hF
    refine zg_blk zd_242 1 hs (rfl : zb x zT0 zc_242 1 (32, [some (.ref 92), some (.int p1), some (.int p2)], [], h) = some (33, [some (.ref 92), some (.int p1), some (.int p2)], [.int (-1)], h)) (fun hs => ?_)
    exact zg_ret zd_242 rfl rfl (hF hs)
  · have ho := ho.1 hc
    rw [if_pos hc] at hF
    refine zg_blk zd_242 3 hs (rfl : zb x zT0 zc_242 3 (9, [some (.ref 92), some (.int p1), some (.int p2)], [], h) = some (13, [some (.ref 92), some (.int p1), some (.int p2)], [.int 20, .int 1, .int p2], h)) (fun hs => ?_)
    refine zg_call hs zd_242 rfl rfl rfl rfl (as := [.int p2, .int 1, .int 20]) (rest := []) (en := [some (.int p2), some (.int 1), some (.int 20)]) rfl rfl rfl rfl rfl ?_
    refine f_M_in_t p2 1 20 h hs trivial ?_
    show zg x (d + 2) 242 16 [some (.ref 92), some (.int p1), some (.int p2)] [.int (if (¬ (p2 < 1) ∧ (¬ (20 < p2))) then (1 : Int32) else 0)] h Q
    refine zg_b_eq zd_242 rfl (fun (hc : ¬ (¬ (p2 < 1) ∧ (¬ (20 < p2)))) => ?_) (fun (hc : (¬ (p2 < 1) ∧ (¬ (20 < p2)))) => ?_)
    · have ho := ho.2 hc
      rw [if_neg hc] at hF
      refine zg_blk zd_242 1 hs (rfl : zb x zT0 zc_242 1 (32, [some (.ref 92), some (.int p1), some (.int p2)], [], h) = some (33, [some (.ref 92), some (.int p1), some (.int p2)], [.int (-1)], h)) (fun hs => ?_)
      exact zg_ret zd_242 rfl rfl (hF hs)
    · have ho := ho.1 hc
      rw [if_pos hc] at hF
      refine zg_blk zd_242 3 hs (rfl : zb x zT0 zc_242 3 (19, [some (.ref 92), some (.int p1), some (.int p2)], [], h) = some (24, [some (.ref 92), some (.int p1), some (.int p2)], [.int p1, .ref 137], h)) (fun hs => ?_)
      obtain ⟨hob, ho⟩ := ho
      refine zg_ial hs zd_242 rfl rfl hob ?_
      refine zg_blk zd_242 3 hs (rfl : zb x zT0 zc_242 3 (25, [some (.ref 92), some (.int p1), some (.int p2)], [.int (zr h 137 p1)], h) = some (29, [some (.ref 92), some (.int p1), some (.int p2)], [.int 99, .int ((zr h 137 p1) + p2)], h)) (fun hs => ?_)
      refine zg_i_le zd_242 rfl (fun (hc : (((zr h 137 p1) + p2) ≤ 99)) => ?_) (fun (hc : ¬ (((zr h 137 p1) + p2) ≤ 99)) => ?_)
      · have ho := ho.1 hc
        rw [if_pos hc] at hF
        refine zg_blk zd_242 4 hs (rfl : zb x zT0 zc_242 4 (34, [some (.ref 92), some (.int p1), some (.int p2)], [], h) = some (40, [some (.ref 92), some (.int p1), some (.int p2)], [.int p1, .ref 137, .int p1, .ref 137], h)) (fun hs => ?_)
        obtain ⟨hob, ho⟩ := ho
        refine zg_ial hs zd_242 rfl rfl hob ?_
        refine zg_blk zd_242 2 hs (rfl : zb x zT0 zc_242 2 (41, [some (.ref 92), some (.int p1), some (.int p2)], [.int (zr h 137 p1), .int p1, .ref 137], h) = some (43, [some (.ref 92), some (.int p1), some (.int p2)], [.int ((zr h 137 p1) + p2), .int p1, .ref 137], h)) (fun hs => ?_)
        obtain ⟨hob, ho⟩ := ho
        refine zg_ias hs zd_242 rfl rfl hob (fun hs => ?_)
        refine zg_blk zd_242 3 hs (rfl : zb x zT0 zc_242 3 (44, [some (.ref 92), some (.int p1), some (.int p2)], [], (zs h 137 p1 ((zr h 137 p1) + p2))) = some (49, [some (.ref 92), some (.int p1), some (.int p2)], [.int p1, .ref 137], (zs h 137 p1 ((zr h 137 p1) + p2)))) (fun hs => ?_)
        have hob := ho
        refine zg_ial hs zd_242 rfl rfl hob ?_
        exact zg_ret zd_242 rfl rfl (hF hs)
      · have ho := ho.2 hc
        rw [if_neg hc] at hF
        refine zg_blk zd_242 1 hs (rfl : zb x zT0 zc_242 1 (32, [some (.ref 92), some (.int p1), some (.int p2)], [], h) = some (33, [some (.ref 92), some (.int p1), some (.int p2)], [.int (-1)], h)) (fun hs => ?_)
        exact zg_ret zd_242 rfl rfl (hF hs)
theorem zd_154 : zm_cd 154 = zc_154 := by rfl
theorem zd_155 : zm_cd 155 = zc_155 := by rfl
set_option maxRecDepth 100000 in
set_option maxHeartbeats 400000 in
theorem f_N_isBoat_t {x : zm_X} {d : Nat} (p0 : Int32) (h : zm_H) {Q : Option Value → zm_H → Prop} (hs : zSh zT0 h) (ho : f_N_isBoat_ok p0 h) (hF : Q (some (.int (f_N_isBoat p0 h))) h) : zg x (d + 1) 155 0 [some (.int p0)] [] h Q := by
  unfold f_N_isBoat at hF
  unfold f_N_isBoat_ok at ho
  refine zg_blk zd_155 1 hs (rfl : zb x zT0 zc_155 1 (0, [some (.int p0)], [], h) = some (1, [some (.int p0)], [.int p0], h)) (fun hs => ?_)
  have K143 : zSh zT0 h → zg x (d + 1) 155 14 [some (.int p0)] [.int (if (¬ (p0 < 0) ∧ (¬ (3 ≤ p0))) then (1 : Int32) else 0)] h Q := fun hs => by
    exact zg_rtz zd_155 rfl rfl zm_nb01 hF
  refine zg_f_lt zd_155 rfl (fun (hc : (p0 < 0)) => ?_) (fun (hc : ¬ (p0 < 0)) => ?_)
  · skip
    rw [show ((if (¬ (p0 < 0) ∧ (¬ (3 ≤ p0))) then (1 : Int32) else 0) : Int32) = 0 from zb_nand_t hc] at K143
    refine zg_blk zd_155 1 hs (rfl : zb x zT0 zc_155 1 (13, [some (.int p0)], [], h) = some (14, [some (.int p0)], [.int 0], h)) (fun hs => ?_)
    exact K143 hs
  · skip
    rw [show ((if (¬ (p0 < 0) ∧ (¬ (3 ≤ p0))) then (1 : Int32) else 0) : Int32) = (if (¬ (3 ≤ p0)) then (1 : Int32) else 0) from zb_nand_f hc] at K143
    refine zg_blk zd_155 2 hs (rfl : zb x zT0 zc_155 2 (4, [some (.int p0)], [], h) = some (6, [some (.int p0)], [.int 3, .int p0], h)) (fun hs => ?_)
    refine zg_i_ge zd_155 rfl (fun (hc : (3 ≤ p0)) => ?_) (fun (hc : ¬ (3 ≤ p0)) => ?_)
    · skip
      rw [show ((if (¬ (3 ≤ p0)) then (1 : Int32) else 0) : Int32) = 0 from zb_not_t hc] at K143
      refine zg_blk zd_155 1 hs (rfl : zb x zT0 zc_155 1 (13, [some (.int p0)], [], h) = some (14, [some (.int p0)], [.int 0], h)) (fun hs => ?_)
      exact K143 hs
    · skip
      rw [show ((if (¬ (3 ≤ p0)) then (1 : Int32) else 0) : Int32) = 1 from zb_not_f hc] at K143
      refine zg_blk zd_155 2 hs (rfl : zb x zT0 zc_155 2 (9, [some (.int p0)], [], h) = some (14, [some (.int p0)], [.int 1], h)) (fun hs => ?_)
      exact K143 hs
theorem zd_49 : zm_cd 49 = zc_49 := by rfl
set_option maxRecDepth 100000 in
set_option maxHeartbeats 400000 in
theorem f_Harbour_shift_t {x : zm_X} {d : Nat} (p1 : Int32) (p2 : Int32) (p3 : Int32) (h : zm_H) {Q : Option Value → zm_H → Prop} (hs : zSh zT0 h) (ho : f_Harbour_shift_ok p1 p2 p3 h) (hF : (zSh zT0 (f_Harbour_shift p1 p2 p3 h).2 → Q (some (.int (f_Harbour_shift p1 p2 p3 h).1)) (f_Harbour_shift p1 p2 p3 h).2)) : zg x (d + 1) 49 0 [some (.ref 63), some (.int p1), some (.int p2), some (.int p3), none, none, none] [] h Q := by
  unfold f_Harbour_shift at hF
  unfold f_Harbour_shift_ok at ho
  refine zg_blk zd_49 7 hs (rfl : zb x zT0 zc_49 7 (0, [some (.ref 63), some (.int p1), some (.int p2), some (.int p3), none, none, none], [], h) = some (9, [some (.ref 63), some (.int p1), some (.int p2), some (.int p3), none, none, none], [.int ((p1 * 3) + p2), .ref 65], h)) (fun hs => ?_)
  obtain ⟨hob, ho⟩ := ho
  refine zg_ial hs zd_49 rfl rfl hob ?_
  refine zg_blk zd_49 4 hs (rfl : zb x zT0 zc_49 4 (10, [some (.ref 63), some (.int p1), some (.int p2), some (.int p3), none, none, none], [.int (zr h 65 ((p1 * 3) + p2))], h) = some (16, [some (.ref 63), some (.int p1), some (.int p2), some (.int p3), some (.int (zr h 65 ((p1 * 3) + p2))), none, none], [.int (-(zr h 65 ((p1 * 3) + p2))), .int p3], h)) (fun hs => ?_)
  have K144 : zSh zT0 h → zg x (d + 1) 49 33 [some (.ref 63), some (.int p1), some (.int p2), some (.int p3), some (.int (zr h 65 ((p1 * 3) + p2))), none, none] [.int (if (¬ (p3 < (-(zr h 65 ((p1 * 3) + p2)))) ∧ (¬ ((9 - (zr h 65 ((p1 * 3) + p2))) < p3))) then (1 : Int32) else 0)] h Q := fun hs => by
    refine zg_blk zd_49 5 hs (rfl : zb x zT0 zc_49 5 (33, [some (.ref 63), some (.int p1), some (.int p2), some (.int p3), some (.int (zr h 65 ((p1 * 3) + p2))), none, none], [.int (if (¬ (p3 < (-(zr h 65 ((p1 * 3) + p2)))) ∧ (¬ ((9 - (zr h 65 ((p1 * 3) + p2))) < p3))) then (1 : Int32) else 0)], h) = some (41, [some (.ref 63), some (.int p1), some (.int p2), some (.int p3), some (.int (zr h 65 ((p1 * 3) + p2))), some (.int (if (¬ (p3 < (-(zr h 65 ((p1 * 3) + p2)))) ∧ (¬ ((9 - (zr h 65 ((p1 * 3) + p2))) < p3))) then (1 : Int32) else 0)), none], [.int p2, .ref 64, .int p3], h)) (fun hs => ?_)
    obtain ⟨hob, ho⟩ := ho
    refine zg_ial hs zd_49 rfl rfl hob ?_
    obtain ⟨hom, ho⟩ := ho
    have K145 : zSh zT0 h → zg x (d + 1) 49 63 [some (.ref 63), some (.int p1), some (.int p2), some (.int p3), some (.int (zr h 65 ((p1 * 3) + p2))), some (.int (if (¬ (p3 < (-(zr h 65 ((p1 * 3) + p2)))) ∧ (¬ ((9 - (zr h 65 ((p1 * 3) + p2))) < p3))) then (1 : Int32) else 0)), none] [.int (if (¬ ((zr h 64 p2) < p3) ∧ (¬ (p3 < ((zr h 64 p2) - 99)))) then (1 : Int32) else 0)] h Q := fun hs => by
      refine zg_blk zd_49 4 hs (rfl : zb x zT0 zc_49 4 (63, [some (.ref 63), some (.int p1), some (.int p2), some (.int p3), some (.int (zr h 65 ((p1 * 3) + p2))), some (.int (if (¬ (p3 < (-(zr h 65 ((p1 * 3) + p2)))) ∧ (¬ ((9 - (zr h 65 ((p1 * 3) + p2))) < p3))) then (1 : Int32) else 0)), none], [.int (if (¬ ((zr h 64 p2) < p3) ∧ (¬ (p3 < ((zr h 64 p2) - 99)))) then (1 : Int32) else 0)], h) = some (70, [some (.ref 63), some (.int p1), some (.int p2), some (.int p3), some (.int (zr h 65 ((p1 * 3) + p2))), some (.int (if (¬ (p3 < (-(zr h 65 ((p1 * 3) + p2)))) ∧ (¬ ((9 - (zr h 65 ((p1 * 3) + p2))) < p3))) then (1 : Int32) else 0)), some (.int (if (¬ ((zr h 64 p2) < p3) ∧ (¬ (p3 < ((zr h 64 p2) - 99)))) then (1 : Int32) else 0))], [.int p1, .ref 66], h)) (fun hs => ?_)
      obtain ⟨hob, ho⟩ := ho
      refine zg_ial hs zd_49 rfl rfl hob ?_
      refine zg_blk zd_49 1 hs (rfl : zb x zT0 zc_49 1 (71, [some (.ref 63), some (.int p1), some (.int p2), some (.int p3), some (.int (zr h 65 ((p1 * 3) + p2))), some (.int (if (¬ (p3 < (-(zr h 65 ((p1 * 3) + p2)))) ∧ (¬ ((9 - (zr h 65 ((p1 * 3) + p2))) < p3))) then (1 : Int32) else 0)), some (.int (if (¬ ((zr h 64 p2) < p3) ∧ (¬ (p3 < ((zr h 64 p2) - 99)))) then (1 : Int32) else 0))], [.int (zr h 66 p1)], h) = some (72, [some (.ref 63), some (.int p1), some (.int p2), some (.int p3), some (.int (zr h 65 ((p1 * 3) + p2))), some (.int (if (¬ (p3 < (-(zr h 65 ((p1 * 3) + p2)))) ∧ (¬ ((9 - (zr h 65 ((p1 * 3) + p2))) < p3))) then (1 : Int32) else 0)), some (.int (if (¬ ((zr h 64 p2) < p3) ∧ (¬ (p3 < ((zr h 64 p2) - 99)))) then (1 : Int32) else 0))], [.int (-1), .int (zr h 66 p1)], h)) (fun hs => ?_)
      refine zg_i_ne zd_49 rfl (fun (hc : ¬ ((zr h 66 p1) = (-1))) => ?_) (fun (hc : ((zr h 66 p1) = (-1))) => ?_)
      · have ho := ho.2 hc
        rw [if_neg hc] at hF
        refine zg_blk zd_49 1 hs (rfl : zb x zT0 zc_49 1 (85, [some (.ref 63), some (.int p1), some (.int p2), some (.int p3), some (.int (zr h 65 ((p1 * 3) + p2))), some (.int (if (¬ (p3 < (-(zr h 65 ((p1 * 3) + p2)))) ∧ (¬ ((9 - (zr h 65 ((p1 * 3) + p2))) < p3))) then (1 : Int32) else 0)), some (.int (if (¬ ((zr h 64 p2) < p3) ∧ (¬ (p3 < ((zr h 64 p2) - 99)))) then (1 : Int32) else 0))], [], h) = some (86, [some (.ref 63), some (.int p1), some (.int p2), some (.int p3), some (.int (zr h 65 ((p1 * 3) + p2))), some (.int (if (¬ (p3 < (-(zr h 65 ((p1 * 3) + p2)))) ∧ (¬ ((9 - (zr h 65 ((p1 * 3) + p2))) < p3))) then (1 : Int32) else 0)), some (.int (if (¬ ((zr h 64 p2) < p3) ∧ (¬ (p3 < ((zr h 64 p2) - 99)))) then (1 : Int32) else 0))], [.int (-1)], h)) (fun hs => ?_)
        exact zg_ret zd_49 rfl rfl (hF hs)
      · have ho := ho.1 hc
        rw [if_pos hc] at hF
        refine zg_blk zd_49 1 hs (rfl : zb x zT0 zc_49 1 (75, [some (.ref 63), some (.int p1), some (.int p2), some (.int p3), some (.int (zr h 65 ((p1 * 3) + p2))), some (.int (if (¬ (p3 < (-(zr h 65 ((p1 * 3) + p2)))) ∧ (¬ ((9 - (zr h 65 ((p1 * 3) + p2))) < p3))) then (1 : Int32) else 0)), some (.int (if (¬ ((zr h 64 p2) < p3) ∧ (¬ (p3 < ((zr h 64 p2) - 99)))) then (1 : Int32) else 0))], [], h) = some (77, [some (.ref 63), some (.int p1), some (.int p2), some (.int p3), some (.int (zr h 65 ((p1 * 3) + p2))), some (.int (if (¬ (p3 < (-(zr h 65 ((p1 * 3) + p2)))) ∧ (¬ ((9 - (zr h 65 ((p1 * 3) + p2))) < p3))) then (1 : Int32) else 0)), some (.int (if (¬ ((zr h 64 p2) < p3) ∧ (¬ (p3 < ((zr h 64 p2) - 99)))) then (1 : Int32) else 0))], [.int (if (¬ (p3 < (-(zr h 65 ((p1 * 3) + p2)))) ∧ (¬ ((9 - (zr h 65 ((p1 * 3) + p2))) < p3))) then (1 : Int32) else 0)], h)) (fun hs => ?_)
        refine zg_b_eq zd_49 rfl (fun (hc : ¬ (¬ (p3 < (-(zr h 65 ((p1 * 3) + p2)))) ∧ (¬ ((9 - (zr h 65 ((p1 * 3) + p2))) < p3)))) => ?_) (fun (hc : (¬ (p3 < (-(zr h 65 ((p1 * 3) + p2)))) ∧ (¬ ((9 - (zr h 65 ((p1 * 3) + p2))) < p3)))) => ?_)
        · have ho := ho.2 hc
          rw [if_neg hc] at hF
          refine zg_blk zd_49 1 hs (rfl : zb x zT0 zc_49 1 (85, [some (.ref 63), some (.int p1), some (.int p2), some (.int p3), some (.int (zr h 65 ((p1 * 3) + p2))), some (.int (if (¬ (p3 < (-(zr h 65 ((p1 * 3) + p2)))) ∧ (¬ ((9 - (zr h 65 ((p1 * 3) + p2))) < p3))) then (1 : Int32) else 0)), some (.int (if (¬ ((zr h 64 p2) < p3) ∧ (¬ (p3 < ((zr h 64 p2) - 99)))) then (1 : Int32) else 0))], [], h) = some (86, [some (.ref 63), some (.int p1), some (.int p2), some (.int p3), some (.int (zr h 65 ((p1 * 3) + p2))), some (.int (if (¬ (p3 < (-(zr h 65 ((p1 * 3) + p2)))) ∧ (¬ ((9 - (zr h 65 ((p1 * 3) + p2))) < p3))) then (1 : Int32) else 0)), some (.int (if (¬ ((zr h 64 p2) < p3) ∧ (¬ (p3 < ((zr h 64 p2) - 99)))) then (1 : Int32) else 0))], [.int (-1)], h)) (fun hs => ?_)
          exact zg_ret zd_49 rfl rfl (hF hs)
        · have ho := ho.1 hc
          rw [if_pos hc] at hF
          refine zg_blk zd_49 1 hs (rfl : zb x zT0 zc_49 1 (80, [some (.ref 63), some (.int p1), some (.int p2), some (.int p3), some (.int (zr h 65 ((p1 * 3) + p2))), some (.int (if (¬ (p3 < (-(zr h 65 ((p1 * 3) + p2)))) ∧ (¬ ((9 - (zr h 65 ((p1 * 3) + p2))) < p3))) then (1 : Int32) else 0)), some (.int (if (¬ ((zr h 64 p2) < p3) ∧ (¬ (p3 < ((zr h 64 p2) - 99)))) then (1 : Int32) else 0))], [], h) = some (82, [some (.ref 63), some (.int p1), some (.int p2), some (.int p3), some (.int (zr h 65 ((p1 * 3) + p2))), some (.int (if (¬ (p3 < (-(zr h 65 ((p1 * 3) + p2)))) ∧ (¬ ((9 - (zr h 65 ((p1 * 3) + p2))) < p3))) then (1 : Int32) else 0)), some (.int (if (¬ ((zr h 64 p2) < p3) ∧ (¬ (p3 < ((zr h 64 p2) - 99)))) then (1 : Int32) else 0))], [.int (if (¬ ((zr h 64 p2) < p3) ∧ (¬ (p3 < ((zr h 64 p2) - 99)))) then (1 : Int32) else 0)], h)) (fun hs => ?_)
          refine zg_b_ne zd_49 rfl (fun (hc : (¬ ((zr h 64 p2) < p3) ∧ (¬ (p3 < ((zr h 64 p2) - 99))))) => ?_) (fun (hc : ¬ (¬ ((zr h 64 p2) < p3) ∧ (¬ (p3 < ((zr h 64 p2) - 99))))) => ?_)
          · have ho := ho.1 hc
            rw [if_pos hc] at hF
            refine zg_blk zd_49 8 hs (rfl : zb x zT0 zc_49 8 (87, [some (.ref 63), some (.int p1), some (.int p2), some (.int p3), some (.int (zr h 65 ((p1 * 3) + p2))), some (.int (if (¬ (p3 < (-(zr h 65 ((p1 * 3) + p2)))) ∧ (¬ ((9 - (zr h 65 ((p1 * 3) + p2))) < p3))) then (1 : Int32) else 0)), some (.int (if (¬ ((zr h 64 p2) < p3) ∧ (¬ (p3 < ((zr h 64 p2) - 99)))) then (1 : Int32) else 0))], [], h) = some (97, [some (.ref 63), some (.int p1), some (.int p2), some (.int p3), some (.int (zr h 65 ((p1 * 3) + p2))), some (.int (if (¬ (p3 < (-(zr h 65 ((p1 * 3) + p2)))) ∧ (¬ ((9 - (zr h 65 ((p1 * 3) + p2))) < p3))) then (1 : Int32) else 0)), some (.int (if (¬ ((zr h 64 p2) < p3) ∧ (¬ (p3 < ((zr h 64 p2) - 99)))) then (1 : Int32) else 0))], [.int ((p1 * 3) + p2), .ref 65, .int ((p1 * 3) + p2), .ref 65], h)) (fun hs => ?_)
            obtain ⟨hob, ho⟩ := ho
            refine zg_ial hs zd_49 rfl rfl hob ?_
            refine zg_blk zd_49 2 hs (rfl : zb x zT0 zc_49 2 (98, [some (.ref 63), some (.int p1), some (.int p2), some (.int p3), some (.int (zr h 65 ((p1 * 3) + p2))), some (.int (if (¬ (p3 < (-(zr h 65 ((p1 * 3) + p2)))) ∧ (¬ ((9 - (zr h 65 ((p1 * 3) + p2))) < p3))) then (1 : Int32) else 0)), some (.int (if (¬ ((zr h 64 p2) < p3) ∧ (¬ (p3 < ((zr h 64 p2) - 99)))) then (1 : Int32) else 0))], [.int (zr h 65 ((p1 * 3) + p2)), .int ((p1 * 3) + p2), .ref 65], h) = some (100, [some (.ref 63), some (.int p1), some (.int p2), some (.int p3), some (.int (zr h 65 ((p1 * 3) + p2))), some (.int (if (¬ (p3 < (-(zr h 65 ((p1 * 3) + p2)))) ∧ (¬ ((9 - (zr h 65 ((p1 * 3) + p2))) < p3))) then (1 : Int32) else 0)), some (.int (if (¬ ((zr h 64 p2) < p3) ∧ (¬ (p3 < ((zr h 64 p2) - 99)))) then (1 : Int32) else 0))], [.int ((zr h 65 ((p1 * 3) + p2)) + p3), .int ((p1 * 3) + p2), .ref 65], h)) (fun hs => ?_)
            obtain ⟨hob, ho⟩ := ho
            refine zg_ias hs zd_49 rfl rfl hob (fun hs => ?_)
            refine zg_blk zd_49 4 hs (rfl : zb x zT0 zc_49 4 (101, [some (.ref 63), some (.int p1), some (.int p2), some (.int p3), some (.int (zr h 65 ((p1 * 3) + p2))), some (.int (if (¬ (p3 < (-(zr h 65 ((p1 * 3) + p2)))) ∧ (¬ ((9 - (zr h 65 ((p1 * 3) + p2))) < p3))) then (1 : Int32) else 0)), some (.int (if (¬ ((zr h 64 p2) < p3) ∧ (¬ (p3 < ((zr h 64 p2) - 99)))) then (1 : Int32) else 0))], [], (zs h 65 ((p1 * 3) + p2) ((zr h 65 ((p1 * 3) + p2)) + p3))) = some (107, [some (.ref 63), some (.int p1), some (.int p2), some (.int p3), some (.int (zr h 65 ((p1 * 3) + p2))), some (.int (if (¬ (p3 < (-(zr h 65 ((p1 * 3) + p2)))) ∧ (¬ ((9 - (zr h 65 ((p1 * 3) + p2))) < p3))) then (1 : Int32) else 0)), some (.int (if (¬ ((zr h 64 p2) < p3) ∧ (¬ (p3 < ((zr h 64 p2) - 99)))) then (1 : Int32) else 0))], [.int p2, .ref 64, .int p2, .ref 64], (zs h 65 ((p1 * 3) + p2) ((zr h 65 ((p1 * 3) + p2)) + p3)))) (fun hs => ?_)
            obtain ⟨hob, ho⟩ := ho
            refine zg_ial hs zd_49 rfl rfl hob ?_
            refine zg_blk zd_49 2 hs (rfl : zb x zT0 zc_49 2 (108, [some (.ref 63), some (.int p1), some (.int p2), some (.int p3), some (.int (zr h 65 ((p1 * 3) + p2))), some (.int (if (¬ (p3 < (-(zr h 65 ((p1 * 3) + p2)))) ∧ (¬ ((9 - (zr h 65 ((p1 * 3) + p2))) < p3))) then (1 : Int32) else 0)), some (.int (if (¬ ((zr h 64 p2) < p3) ∧ (¬ (p3 < ((zr h 64 p2) - 99)))) then (1 : Int32) else 0))], [.int (zr h 64 p2), .int p2, .ref 64], (zs h 65 ((p1 * 3) + p2) ((zr h 65 ((p1 * 3) + p2)) + p3))) = some (110, [some (.ref 63), some (.int p1), some (.int p2), some (.int p3), some (.int (zr h 65 ((p1 * 3) + p2))), some (.int (if (¬ (p3 < (-(zr h 65 ((p1 * 3) + p2)))) ∧ (¬ ((9 - (zr h 65 ((p1 * 3) + p2))) < p3))) then (1 : Int32) else 0)), some (.int (if (¬ ((zr h 64 p2) < p3) ∧ (¬ (p3 < ((zr h 64 p2) - 99)))) then (1 : Int32) else 0))], [.int ((zr h 64 p2) - p3), .int p2, .ref 64], (zs h 65 ((p1 * 3) + p2) ((zr h 65 ((p1 * 3) + p2)) + p3)))) (fun hs => ?_)
            have hob := ho
            refine zg_ias hs zd_49 rfl rfl hob (fun hs => ?_)
            refine zg_blk zd_49 3 hs (rfl : zb x zT0 zc_49 3 (111, [some (.ref 63), some (.int p1), some (.int p2), some (.int p3), some (.int (zr h 65 ((p1 * 3) + p2))), some (.int (if (¬ (p3 < (-(zr h 65 ((p1 * 3) + p2)))) ∧ (¬ ((9 - (zr h 65 ((p1 * 3) + p2))) < p3))) then (1 : Int32) else 0)), some (.int (if (¬ ((zr h 64 p2) < p3) ∧ (¬ (p3 < ((zr h 64 p2) - 99)))) then (1 : Int32) else 0))], [], (zs (zs h 65 ((p1 * 3) + p2) ((zr h 65 ((p1 * 3) + p2)) + p3)) 64 p2 ((zr h 64 p2) - p3))) = some (115, [some (.ref 63), some (.int p1), some (.int p2), some (.int p3), some (.int (zr h 65 ((p1 * 3) + p2))), some (.int (if (¬ (p3 < (-(zr h 65 ((p1 * 3) + p2)))) ∧ (¬ ((9 - (zr h 65 ((p1 * 3) + p2))) < p3))) then (1 : Int32) else 0)), some (.int (if (¬ ((zr h 64 p2) < p3) ∧ (¬ (p3 < ((zr h 64 p2) - 99)))) then (1 : Int32) else 0))], [.int ((zr h 65 ((p1 * 3) + p2)) + p3)], (zs (zs h 65 ((p1 * 3) + p2) ((zr h 65 ((p1 * 3) + p2)) + p3)) 64 p2 ((zr h 64 p2) - p3)))) (fun hs => ?_)
            exact zg_ret zd_49 rfl rfl (hF hs)
          · have ho := ho.2 hc
            rw [if_neg hc] at hF
            refine zg_blk zd_49 1 hs (rfl : zb x zT0 zc_49 1 (85, [some (.ref 63), some (.int p1), some (.int p2), some (.int p3), some (.int (zr h 65 ((p1 * 3) + p2))), some (.int (if (¬ (p3 < (-(zr h 65 ((p1 * 3) + p2)))) ∧ (¬ ((9 - (zr h 65 ((p1 * 3) + p2))) < p3))) then (1 : Int32) else 0)), some (.int (if (¬ ((zr h 64 p2) < p3) ∧ (¬ (p3 < ((zr h 64 p2) - 99)))) then (1 : Int32) else 0))], [], h) = some (86, [some (.ref 63), some (.int p1), some (.int p2), some (.int p3), some (.int (zr h 65 ((p1 * 3) + p2))), some (.int (if (¬ (p3 < (-(zr h 65 ((p1 * 3) + p2)))) ∧ (¬ ((9 - (zr h 65 ((p1 * 3) + p2))) < p3))) then (1 : Int32) else 0)), some (.int (if (¬ ((zr h 64 p2) < p3) ∧ (¬ (p3 < ((zr h 64 p2) - 99)))) then (1 : Int32) else 0))], [.int (-1)], h)) (fun hs => ?_)
            exact zg_ret zd_49 rfl rfl (hF hs)
    refine zg_i_gt zd_49 rfl (fun (hc : ((zr h 64 p2) < p3)) => ?_) (fun (hc : ¬ ((zr h 64 p2) < p3)) => ?_)
    · have ho := hom.1 hc
      rw [show ((if (¬ ((zr h 64 p2) < p3) ∧ (¬ (p3 < ((zr h 64 p2) - 99)))) then (1 : Int32) else 0) : Int32) = 0 from zb_nand_t hc] at K145
      refine zg_blk zd_49 1 hs (rfl : zb x zT0 zc_49 1 (62, [some (.ref 63), some (.int p1), some (.int p2), some (.int p3), some (.int (zr h 65 ((p1 * 3) + p2))), some (.int (if (¬ (p3 < (-(zr h 65 ((p1 * 3) + p2)))) ∧ (¬ ((9 - (zr h 65 ((p1 * 3) + p2))) < p3))) then (1 : Int32) else 0)), none], [], h) = some (63, [some (.ref 63), some (.int p1), some (.int p2), some (.int p3), some (.int (zr h 65 ((p1 * 3) + p2))), some (.int (if (¬ (p3 < (-(zr h 65 ((p1 * 3) + p2)))) ∧ (¬ ((9 - (zr h 65 ((p1 * 3) + p2))) < p3))) then (1 : Int32) else 0)), none], [.int 0], h)) (fun hs => ?_)
      exact K145 hs
    · have ho := hom.2 hc
      rw [show ((if (¬ ((zr h 64 p2) < p3) ∧ (¬ (p3 < ((zr h 64 p2) - 99)))) then (1 : Int32) else 0) : Int32) = (if (¬ (p3 < ((zr h 64 p2) - 99))) then (1 : Int32) else 0) from zb_nand_f hc] at K145
      refine zg_blk zd_49 4 hs (rfl : zb x zT0 zc_49 4 (45, [some (.ref 63), some (.int p1), some (.int p2), some (.int p3), some (.int (zr h 65 ((p1 * 3) + p2))), some (.int (if (¬ (p3 < (-(zr h 65 ((p1 * 3) + p2)))) ∧ (¬ ((9 - (zr h 65 ((p1 * 3) + p2))) < p3))) then (1 : Int32) else 0)), none], [], h) = some (51, [some (.ref 63), some (.int p1), some (.int p2), some (.int p3), some (.int (zr h 65 ((p1 * 3) + p2))), some (.int (if (¬ (p3 < (-(zr h 65 ((p1 * 3) + p2)))) ∧ (¬ ((9 - (zr h 65 ((p1 * 3) + p2))) < p3))) then (1 : Int32) else 0)), none], [.int p2, .ref 64, .int p3], h)) (fun hs => ?_)
      have hob := ho
      refine zg_ial hs zd_49 rfl rfl hob ?_
      refine zg_blk zd_49 2 hs (rfl : zb x zT0 zc_49 2 (52, [some (.ref 63), some (.int p1), some (.int p2), some (.int p3), some (.int (zr h 65 ((p1 * 3) + p2))), some (.int (if (¬ (p3 < (-(zr h 65 ((p1 * 3) + p2)))) ∧ (¬ ((9 - (zr h 65 ((p1 * 3) + p2))) < p3))) then (1 : Int32) else 0)), none], [.int (zr h 64 p2), .int p3], h) = some (55, [some (.ref 63), some (.int p1), some (.int p2), some (.int p3), some (.int (zr h 65 ((p1 * 3) + p2))), some (.int (if (¬ (p3 < (-(zr h 65 ((p1 * 3) + p2)))) ∧ (¬ ((9 - (zr h 65 ((p1 * 3) + p2))) < p3))) then (1 : Int32) else 0)), none], [.int ((zr h 64 p2) - 99), .int p3], h)) (fun hs => ?_)
      refine zg_i_lt zd_49 rfl (fun (hc : (p3 < ((zr h 64 p2) - 99))) => ?_) (fun (hc : ¬ (p3 < ((zr h 64 p2) - 99))) => ?_)
      · skip
        rw [show ((if (¬ (p3 < ((zr h 64 p2) - 99))) then (1 : Int32) else 0) : Int32) = 0 from zb_not_t hc] at K145
        refine zg_blk zd_49 1 hs (rfl : zb x zT0 zc_49 1 (62, [some (.ref 63), some (.int p1), some (.int p2), some (.int p3), some (.int (zr h 65 ((p1 * 3) + p2))), some (.int (if (¬ (p3 < (-(zr h 65 ((p1 * 3) + p2)))) ∧ (¬ ((9 - (zr h 65 ((p1 * 3) + p2))) < p3))) then (1 : Int32) else 0)), none], [], h) = some (63, [some (.ref 63), some (.int p1), some (.int p2), some (.int p3), some (.int (zr h 65 ((p1 * 3) + p2))), some (.int (if (¬ (p3 < (-(zr h 65 ((p1 * 3) + p2)))) ∧ (¬ ((9 - (zr h 65 ((p1 * 3) + p2))) < p3))) then (1 : Int32) else 0)), none], [.int 0], h)) (fun hs => ?_)
        exact K145 hs
      · skip
        rw [show ((if (¬ (p3 < ((zr h 64 p2) - 99))) then (1 : Int32) else 0) : Int32) = 1 from zb_not_f hc] at K145
        refine zg_blk zd_49 2 hs (rfl : zb x zT0 zc_49 2 (58, [some (.ref 63), some (.int p1), some (.int p2), some (.int p3), some (.int (zr h 65 ((p1 * 3) + p2))), some (.int (if (¬ (p3 < (-(zr h 65 ((p1 * 3) + p2)))) ∧ (¬ ((9 - (zr h 65 ((p1 * 3) + p2))) < p3))) then (1 : Int32) else 0)), none], [], h) = some (63, [some (.ref 63), some (.int p1), some (.int p2), some (.int p3), some (.int (zr h 65 ((p1 * 3) + p2))), some (.int (if (¬ (p3 < (-(zr h 65 ((p1 * 3) + p2)))) ∧ (¬ ((9 - (zr h 65 ((p1 * 3) + p2))) < p3))) then (1 : Int32) else 0)), none], [.int 1], h)) (fun hs => ?_)
        exact K145 hs
  refine zg_i_lt zd_49 rfl (fun (hc : (p3 < (-(zr h 65 ((p1 * 3) + p2))))) => ?_) (fun (hc : ¬ (p3 < (-(zr h 65 ((p1 * 3) + p2))))) => ?_)
  · skip
    rw [show ((if (¬ (p3 < (-(zr h 65 ((p1 * 3) + p2)))) ∧ (¬ ((9 - (zr h 65 ((p1 * 3) + p2))) < p3))) then (1 : Int32) else 0) : Int32) = 0 from zb_nand_t hc] at K144
    refine zg_blk zd_49 1 hs (rfl : zb x zT0 zc_49 1 (32, [some (.ref 63), some (.int p1), some (.int p2), some (.int p3), some (.int (zr h 65 ((p1 * 3) + p2))), none, none], [], h) = some (33, [some (.ref 63), some (.int p1), some (.int p2), some (.int p3), some (.int (zr h 65 ((p1 * 3) + p2))), none, none], [.int 0], h)) (fun hs => ?_)
    exact K144 hs
  · skip
    rw [show ((if (¬ (p3 < (-(zr h 65 ((p1 * 3) + p2)))) ∧ (¬ ((9 - (zr h 65 ((p1 * 3) + p2))) < p3))) then (1 : Int32) else 0) : Int32) = (if (¬ ((9 - (zr h 65 ((p1 * 3) + p2))) < p3)) then (1 : Int32) else 0) from zb_nand_f hc] at K144
    refine zg_blk zd_49 4 hs (rfl : zb x zT0 zc_49 4 (19, [some (.ref 63), some (.int p1), some (.int p2), some (.int p3), some (.int (zr h 65 ((p1 * 3) + p2))), none, none], [], h) = some (25, [some (.ref 63), some (.int p1), some (.int p2), some (.int p3), some (.int (zr h 65 ((p1 * 3) + p2))), none, none], [.int (9 - (zr h 65 ((p1 * 3) + p2))), .int p3], h)) (fun hs => ?_)
    refine zg_i_gt zd_49 rfl (fun (hc : ((9 - (zr h 65 ((p1 * 3) + p2))) < p3)) => ?_) (fun (hc : ¬ ((9 - (zr h 65 ((p1 * 3) + p2))) < p3)) => ?_)
    · skip
      rw [show ((if (¬ ((9 - (zr h 65 ((p1 * 3) + p2))) < p3)) then (1 : Int32) else 0) : Int32) = 0 from zb_not_t hc] at K144
      refine zg_blk zd_49 1 hs (rfl : zb x zT0 zc_49 1 (32, [some (.ref 63), some (.int p1), some (.int p2), some (.int p3), some (.int (zr h 65 ((p1 * 3) + p2))), none, none], [], h) = some (33, [some (.ref 63), some (.int p1), some (.int p2), some (.int p3), some (.int (zr h 65 ((p1 * 3) + p2))), none, none], [.int 0], h)) (fun hs => ?_)
      exact K144 hs
    · skip
      rw [show ((if (¬ ((9 - (zr h 65 ((p1 * 3) + p2))) < p3)) then (1 : Int32) else 0) : Int32) = 1 from zb_not_f hc] at K144
      refine zg_blk zd_49 2 hs (rfl : zb x zT0 zc_49 2 (28, [some (.ref 63), some (.int p1), some (.int p2), some (.int p3), some (.int (zr h 65 ((p1 * 3) + p2))), none, none], [], h) = some (33, [some (.ref 63), some (.int p1), some (.int p2), some (.int p3), some (.int (zr h 65 ((p1 * 3) + p2))), none, none], [.int 1], h)) (fun hs => ?_)
      exact K144 hs
