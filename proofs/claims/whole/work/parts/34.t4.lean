/-! ===== the code does what its functions say, 4 ===== -/
theorem f_Course_bookPay_37_l19_t {x : zm_X} {d : Nat} (v1 : Int32) (v2 : Int32) {Q : Option Value → zm_H → Prop} (G : Nat × Int32 × zm_H → Prop) (hx1 : ∀ (v3 : Int32) (h : zm_H) (o3 : Option Value), zSh zT0 h → G (1, v3, h) → zg x (d + 4) 27 72 [some (.ref 37), some (.int v1), some (.int v2), o3] [] h Q) : ∀ (n : Nat) (v3 : Int32) (h : zm_H), zSh zT0 h → f_Course_bookPay_37_l19_ok v1 v2 n (v3, h) → G (f_Course_bookPay_37_l19 v1 v2 n (v3, h)) → zg x (d + 4) 27 19 [some (.ref 37), some (.int v1), some (.int v2), some (.int v3)] [] h Q := by
  intro n
  induction n with
  | zero => intro v3 h hs ho hG; exact ho.elim
  | succ n ih =>
    intro v3 h hs ho hG
    refine f_Course_bookPay_37_l19_b_t (FN := fun r => (r.1 = 0 → f_Course_bookPay_37_l19_ok v1 v2 n r.2) ∧ G (if r.1 = 0 then f_Course_bookPay_37_l19 v1 v2 n r.2 else r)) v1 v2 v3 h hs ho.1 ⟨ho.2, hG⟩ ?_ ?_
    · intro v3 h hs hF
      exact ih v3 h hs (hF.1 rfl) hF.2
    · intro v3 h o3 hs hF
      exact hx1 v3 h o3 hs hF.2

set_option maxRecDepth 100000 in
set_option maxHeartbeats 400000 in
theorem f_Course_bookPay_37_k72_t {x : zm_X} {d : Nat} (h : zm_H) (o0 : Option Value) (z1 : Int32) (o2 : Option Value) (o3 : Option Value) {Q : Option Value → zm_H → Prop} (hs : zSh zT0 h) (ho : f_Course_bookPay_37_k72_ok h) (hF : (zSh zT0 (f_Course_bookPay_37_k72 h) → Q none (f_Course_bookPay_37_k72 h))) : zg x (d + 4) 27 72 [o0, some (.int z1), o2, o3] [] h Q := by
  unfold f_Course_bookPay_37_k72 at hF
  unfold f_Course_bookPay_37_k72_ok at ho
  exact zg_ret zd_27 rfl rfl (hF hs)
set_option maxRecDepth 100000 in
set_option maxHeartbeats 400000 in
theorem f_Course_bookPay_37_t {x : zm_X} {d : Nat} (p1 : Int32) (h : zm_H) {Q : Option Value → zm_H → Prop} (hs : zSh zT0 h) (ho : f_Course_bookPay_37_ok p1 h) (hF : (zSh zT0 (f_Course_bookPay_37 p1 h) → Q none (f_Course_bookPay_37 p1 h))) : zg x (d + 4) 27 0 [some (.ref 37), some (.int p1), none, none] [] h Q := by
  unfold f_Course_bookPay_37 at hF
  unfold f_Course_bookPay_37_ok at ho
  refine zg_blk zd_27 4 hs (rfl : zb x zT0 zc_27 4 (0, [some (.ref 37), some (.int p1), none, none], [], h) = some (6, [some (.ref 37), some (.int p1), none, none], [.int p1, .int 3, .ref 15], h)) (fun hs => ?_)
  obtain ⟨hob, ho⟩ := ho
  refine zg_call hs zd_27 rfl rfl rfl rfl (as := [.ref 15, .int 3, .int p1]) (rest := []) (en := [some (.ref 15), some (.int 3), some (.int p1), none, none, none, none]) rfl rfl rfl rfl rfl ?_
  refine f_Rules_ruling_t 3 p1 h hs hob ?_
  show zg x (d + 4) 27 9 [some (.ref 37), some (.int p1), none, none] [.int (f_Rules_ruling 3 p1 h)] h Q
  refine zg_blk zd_27 5 hs (rfl : zb x zT0 zc_27 5 (9, [some (.ref 37), some (.int p1), none, none], [.int (f_Rules_ruling 3 p1 h)], h) = some (16, [some (.ref 37), some (.int p1), some (.int (f_Rules_ruling 3 p1 h)), none], [.int 0, .int p1, .ref 48], h)) (fun hs => ?_)
  obtain ⟨hob, ho⟩ := ho
  refine zg_ias hs zd_27 rfl rfl hob (fun hs => ?_)
  refine zg_blk zd_27 2 hs (rfl : zb x zT0 zc_27 2 (17, [some (.ref 37), some (.int p1), some (.int (f_Rules_ruling 3 p1 h)), none], [], (zs h 48 p1 0)) = some (19, [some (.ref 37), some (.int p1), some (.int (f_Rules_ruling 3 p1 h)), some (.int 0)], [], (zs h 48 p1 0))) (fun hs => ?_)
  refine f_Course_bookPay_37_l19_t p1 (f_Rules_ruling 3 p1 h) (fun r => f_Course_bookPay_37_a19_ok r ∧ (zSh zT0 (f_Course_bookPay_37_a19 r) → Q none (f_Course_bookPay_37_a19 r))) ?_ zF 0 (zs h 48 p1 0) hs ho.1 ⟨ho.2, hF⟩
  · intro v3_ h_ o3_ hs hG
    have ho : True := trivial
    have hF : (zSh zT0 ((f_Course_bookPay_37_k72 h_)) → Q none ((f_Course_bookPay_37_k72 h_))) := hG.2
    exact f_Course_bookPay_37_k72_t h_ (some (.ref 37)) p1 (some (.int (f_Rules_ruling 3 p1 h))) (o3_) hs trivial hF
set_option maxRecDepth 100000 in
set_option maxHeartbeats 400000 in
theorem f_Course_pass_37_k31_t {x : zm_X} {d : Nat} (v1 : Int32) (h : zm_H) (o2 : Option Value) {Q : Option Value → zm_H → Prop} (hs : zSh zT0 h) (ho : f_Course_pass_37_k31_ok v1 h) (hF : (zSh zT0 (f_Course_pass_37_k31 v1 h) → Q none (f_Course_pass_37_k31 v1 h))) : zg x (d + 5) 12 31 [some (.ref 37), some (.int v1), o2] [] h Q := by
  unfold f_Course_pass_37_k31 at hF
  unfold f_Course_pass_37_k31_ok at ho
  refine zg_blk zd_12 2 hs (rfl : zb x zT0 zc_12 2 (31, [some (.ref 37), some (.int v1), o2], [], h) = some (33, [some (.ref 37), some (.int v1), o2], [.int v1, .ref 37], h)) (fun hs => ?_)
  have hob := ho
  refine zg_call hs zd_12 rfl rfl rfl rfl (as := [.ref 37, .int v1]) (rest := []) (en := [some (.ref 37), some (.int v1), none, none]) rfl rfl rfl rfl rfl ?_
  refine f_Course_bookPay_37_t v1 h hs hob (fun hs => ?_)
  show zg x (d + 5) 12 36 [some (.ref 37), some (.int v1), o2] [] (f_Course_bookPay_37 v1 h) Q
  refine zg_blk zd_12 5 hs (rfl : zb x zT0 zc_12 5 (36, [some (.ref 37), some (.int v1), o2], [], (f_Course_bookPay_37 v1 h)) = some (43, [some (.ref 37), some (.int v1), o2], [], (zp (f_Course_bookPay_37 v1 h) 37 3 (v1 + 1)))) (fun hs => ?_)
  exact zg_ret zd_12 rfl rfl (hF hs)
set_option maxRecDepth 100000 in
set_option maxHeartbeats 400000 in
theorem f_Course_pass_37_k25_t {x : zm_X} {d : Nat} (v1 : Int32) (v2 : Int32) (h : zm_H) {Q : Option Value → zm_H → Prop} (hs : zSh zT0 h) (ho : f_Course_pass_37_k25_ok v1 v2 h) (hF : (zSh zT0 (f_Course_pass_37_k25 v1 v2 h) → Q none (f_Course_pass_37_k25 v1 v2 h))) : zg x (d + 5) 12 25 [some (.ref 37), some (.int v1), some (.int v2)] [] h Q := by
  unfold f_Course_pass_37_k25 at hF
  unfold f_Course_pass_37_k25_ok at ho
  refine zg_blk zd_12 3 hs (rfl : zb x zT0 zc_12 3 (25, [some (.ref 37), some (.int v1), some (.int v2)], [], h) = some (28, [some (.ref 37), some (.int v1), some (.int v2)], [.int v2, .int v1, .ref 37], h)) (fun hs => ?_)
  obtain ⟨hob, ho⟩ := ho
  refine zg_call hs zd_12 rfl rfl rfl rfl (as := [.ref 37, .int v1, .int v2]) (rest := []) (en := [some (.ref 37), some (.int v1), some (.int v2), none, none]) rfl rfl rfl rfl rfl ?_
  refine f_Course_strainChains_37_t v1 v2 h hs hob (fun hs => ?_)
  show zg x (d + 5) 12 31 [some (.ref 37), some (.int v1), some (.int v2)] [] (f_Course_strainChains_37 v1 v2 h) Q
  exact f_Course_pass_37_k31_t v1 (f_Course_strainChains_37 v1 v2 h) (some (.int v2)) hs ho hF
set_option maxRecDepth 100000 in
set_option maxHeartbeats 400000 in
theorem f_Course_pass_37_k19_t {x : zm_X} {d : Nat} (v1 : Int32) (v2 : Int32) (h : zm_H) {Q : Option Value → zm_H → Prop} (hs : zSh zT0 h) (ho : f_Course_pass_37_k19_ok v1 v2 h) (hF : (zSh zT0 (f_Course_pass_37_k19 v1 v2 h) → Q none (f_Course_pass_37_k19 v1 v2 h))) : zg x (d + 5) 12 19 [some (.ref 37), some (.int v1), some (.int v2)] [] h Q := by
  unfold f_Course_pass_37_k19 at hF
  unfold f_Course_pass_37_k19_ok at ho
  refine zg_blk zd_12 3 hs (rfl : zb x zT0 zc_12 3 (19, [some (.ref 37), some (.int v1), some (.int v2)], [], h) = some (22, [some (.ref 37), some (.int v1), some (.int v2)], [.int v2, .int v1, .ref 37], h)) (fun hs => ?_)
  obtain ⟨hob, ho⟩ := ho
  refine zg_call hs zd_12 rfl rfl rfl rfl (as := [.ref 37, .int v1, .int v2]) (rest := []) (en := [some (.ref 37), some (.int v1), some (.int v2), none]) rfl rfl rfl rfl rfl ?_
  refine f_Course_takeWaves_37_t v1 v2 h hs hob (fun hs => ?_)
  show zg x (d + 5) 12 25 [some (.ref 37), some (.int v1), some (.int v2)] [] (f_Course_takeWaves_37 v1 v2 h) Q
  exact f_Course_pass_37_k25_t v1 v2 (f_Course_takeWaves_37 v1 v2 h) hs ho hF
set_option maxRecDepth 100000 in
set_option maxHeartbeats 400000 in
theorem f_Course_pass_37_k14_t {x : zm_X} {d : Nat} (v1 : Int32) (v2 : Int32) (h : zm_H) {Q : Option Value → zm_H → Prop} (hs : zSh zT0 h) (ho : f_Course_pass_37_k14_ok v1 v2 h) (hF : (zSh zT0 (f_Course_pass_37_k14 v1 v2 h) → Q none (f_Course_pass_37_k14 v1 v2 h))) : zg x (d + 5) 12 14 [some (.ref 37), some (.int v1), some (.int v2)] [] h Q := by
  unfold f_Course_pass_37_k14 at hF
  unfold f_Course_pass_37_k14_ok at ho
  refine zg_blk zd_12 2 hs (rfl : zb x zT0 zc_12 2 (14, [some (.ref 37), some (.int v1), some (.int v2)], [], h) = some (16, [some (.ref 37), some (.int v1), some (.int v2)], [.int v1, .ref 37], h)) (fun hs => ?_)
  obtain ⟨hob, ho⟩ := ho
  refine zg_call hs zd_12 rfl rfl rfl rfl (as := [.ref 37, .int v1]) (rest := []) (en := [some (.ref 37), some (.int v1), none, none, none]) rfl rfl rfl rfl rfl ?_
  refine f_Course_sinkAndRise_37_t v1 h hs hob (fun hs => ?_)
  show zg x (d + 5) 12 19 [some (.ref 37), some (.int v1), some (.int v2)] [] (f_Course_sinkAndRise_37 v1 h) Q
  exact f_Course_pass_37_k19_t v1 v2 (f_Course_sinkAndRise_37 v1 h) hs ho hF
set_option maxRecDepth 100000 in
set_option maxHeartbeats 400000 in
theorem f_Course_pass_37_k5_t {x : zm_X} {d : Nat} (v1 : Int32) (v2 : Int32) (h : zm_H) {Q : Option Value → zm_H → Prop} (hs : zSh zT0 h) (ho : f_Course_pass_37_k5_ok v1 v2 h) (hF : (zSh zT0 (f_Course_pass_37_k5 v1 v2 h) → Q none (f_Course_pass_37_k5 v1 v2 h))) : zg x (d + 5) 12 5 [some (.ref 37), some (.int v1), some (.int v2)] [] h Q := by
  unfold f_Course_pass_37_k5 at hF
  unfold f_Course_pass_37_k5_ok at ho
  refine zg_blk zd_12 4 hs (rfl : zb x zT0 zc_12 4 (5, [some (.ref 37), some (.int v1), some (.int v2)], [], h) = some (11, [some (.ref 37), some (.int v1), some (.int v2)], [.int v2, .int v1, .ref 15], h)) (fun hs => ?_)
  refine zg_call hs zd_12 rfl rfl rfl rfl (as := [.ref 15, .int v1, .int v2]) (rest := []) (en := [some (.ref 15), some (.int v1), some (.int v2)]) rfl rfl rfl rfl rfl ?_
  refine f_Rules_nameSea_t v1 v2 h hs trivial (fun hs => ?_)
  show zg x (d + 5) 12 14 [some (.ref 37), some (.int v1), some (.int v2)] [] (f_Rules_nameSea v1 v2 h) Q
  exact f_Course_pass_37_k14_t v1 v2 (f_Rules_nameSea v1 v2 h) hs ho hF
set_option maxRecDepth 100000 in
set_option maxHeartbeats 400000 in
theorem f_Course_pass_37_t {x : zm_X} {d : Nat} (p1 : Int32) (p2 : Int32) (h : zm_H) {Q : Option Value → zm_H → Prop} (hs : zSh zT0 h) (ho : f_Course_pass_37_ok p1 p2 h) (hF : (zSh zT0 (f_Course_pass_37 p1 p2 h) → Q none (f_Course_pass_37 p1 p2 h))) : zg x (d + 5) 12 0 [some (.ref 37), some (.int p1), some (.int p2)] [] h Q := by
  unfold f_Course_pass_37 at hF
  unfold f_Course_pass_37_ok at ho
  refine zg_blk zd_12 2 hs (rfl : zb x zT0 zc_12 2 (0, [some (.ref 37), some (.int p1), some (.int p2)], [], h) = some (2, [some (.ref 37), some (.int p1), some (.int p2)], [.int p1, .ref 37], h)) (fun hs => ?_)
  obtain ⟨hob, ho⟩ := ho
  refine zg_call hs zd_12 rfl rfl rfl rfl (as := [.ref 37, .int p1]) (rest := []) (en := [some (.ref 37), some (.int p1), none]) rfl rfl rfl rfl rfl ?_
  refine f_Course_doThings_37_t p1 h hs hob (fun hs => ?_)
  show zg x (d + 5) 12 5 [some (.ref 37), some (.int p1), some (.int p2)] [] (f_Course_doThings_37 p1 h) Q
  exact f_Course_pass_37_k5_t p1 p2 (f_Course_doThings_37 p1 h) hs ho hF
theorem zd_45 : zm_cd 45 = zc_45 := by rfl
set_option maxRecDepth 100000 in
set_option maxHeartbeats 400000 in
theorem f_Harbour_endSpell_l2_k32_t {x : zm_X} {d : Nat} (v1 : Int32) (v2 : Int32) (h : zm_H) {Q : Option Value → zm_H → Prop} {FN : Nat × Int32 × zm_H → Prop} (hs : zSh zT0 h) (ho : f_Harbour_endSpell_l2_k32_ok v1 v2 h) (hF : FN (f_Harbour_endSpell_l2_k32 v1 v2 h)) (hl0 : ∀ (v2 : Int32) (h : zm_H), zSh zT0 h → FN (0, v2, h) → zg x (d + 6) 45 2 [some (.ref 63), some (.int v1), some (.int v2)] [] h Q) (hl1 : ∀ (v2 : Int32) (h : zm_H) (o2 : Option Value), zSh zT0 h → FN (1, v2, h) → zg x (d + 6) 45 38 [some (.ref 63), some (.int v1), o2] [] h Q) : zg x (d + 6) 45 32 [some (.ref 63), some (.int v1), some (.int v2)] [] h Q := by
  unfold f_Harbour_endSpell_l2_k32 at hF
  unfold f_Harbour_endSpell_l2_k32_ok at ho
  refine zg_blk zd_45 2 hs (rfl : zb x zT0 zc_45 2 (32, [some (.ref 63), some (.int v1), some (.int v2)], [], h) = some (2, [some (.ref 63), some (.int v1), some (.int (v2 + 1))], [], h)) (fun hs => ?_)
  exact hl0 (v2 + 1) h hs hF
theorem zd_46 : zm_cd 46 = zc_46 := by rfl
set_option maxRecDepth 100000 in
set_option maxHeartbeats 400000 in
theorem f_Harbour_endTrip_k33_t {x : zm_X} {d : Nat} (v1 : Int32) (h : zm_H) (z2 : Int32) (o3 : Option Value) {Q : Option Value → zm_H → Prop} (hs : zSh zT0 h) (ho : f_Harbour_endTrip_k33_ok v1 h) (hF : (zSh zT0 (f_Harbour_endTrip_k33 v1 h) → Q none (f_Harbour_endTrip_k33 v1 h))) : zg x (d + 5) 46 33 [some (.ref 63), some (.int v1), some (.int z2), o3] [] h Q := by
  unfold f_Harbour_endTrip_k33 at hF
  unfold f_Harbour_endTrip_k33_ok at ho
  refine zg_blk zd_46 4 hs (rfl : zb x zT0 zc_46 4 (33, [some (.ref 63), some (.int v1), some (.int z2), o3], [], h) = some (39, [some (.ref 63), some (.int v1), some (.int z2), o3], [.int v1, .ref 71, .int v1, .ref 71], h)) (fun hs => ?_)
  obtain ⟨hob, ho⟩ := ho
  refine zg_ial hs zd_46 rfl rfl hob ?_
  refine zg_blk zd_46 2 hs (rfl : zb x zT0 zc_46 2 (40, [some (.ref 63), some (.int v1), some (.int z2), o3], [.int (zr h 71 v1), .int v1, .ref 71], h) = some (42, [some (.ref 63), some (.int v1), some (.int z2), o3], [.int ((zr h 71 v1) + 1), .int v1, .ref 71], h)) (fun hs => ?_)
  have hob := ho
  refine zg_ias hs zd_46 rfl rfl hob (fun hs => ?_)
  exact zg_ret zd_46 rfl rfl (hF hs)
theorem zd_47 : zm_cd 47 = zc_47 := by rfl
set_option maxRecDepth 100000 in
set_option maxHeartbeats 400000 in
theorem f_Harbour_partFor_t {x : zm_X} {d : Nat} (p0 : Int32) (h : zm_H) {Q : Option Value → zm_H → Prop} (hs : zSh zT0 h) (ho : f_Harbour_partFor_ok p0 h) (hF : Q (some (.int (f_Harbour_partFor p0 h))) h) : zg x (d + 1) 47 0 [some (.int p0)] [] h Q := by
  unfold f_Harbour_partFor at hF
  unfold f_Harbour_partFor_ok at ho
  refine zg_blk zd_47 2 hs (rfl : zb x zT0 zc_47 2 (0, [some (.int p0)], [], h) = some (2, [some (.int p0)], [.int 3, .int p0], h)) (fun hs => ?_)
  have K71 : zSh zT0 h → zg x (d + 1) 47 19 [some (.int p0)] [.int (if (3 ≤ p0) then ((if (p0 = 3) then (1 : Int32) else 2) : Int32) else 0)] h Q := fun hs => by
    exact zg_ret zd_47 rfl rfl hF
  refine zg_i_ge zd_47 rfl (fun (hc : (3 ≤ p0)) => ?_) (fun (hc : ¬ (3 ≤ p0)) => ?_)
  · skip
    rw [show ((if (3 ≤ p0) then ((if (p0 = 3) then (1 : Int32) else 2) : Int32) else 0) : Int32) = (if (p0 = 3) then (1 : Int32) else 2) from if_pos hc] at K71
    refine zg_blk zd_47 2 hs (rfl : zb x zT0 zc_47 2 (9, [some (.int p0)], [], h) = some (11, [some (.int p0)], [.int 3, .int p0], h)) (fun hs => ?_)
    refine zg_i_ne zd_47 rfl (fun (hc : ¬ (p0 = 3)) => ?_) (fun (hc : (p0 = 3)) => ?_)
    · skip
      rw [show ((if (p0 = 3) then (1 : Int32) else 2) : Int32) = 2 from if_neg hc] at K71
      refine zg_blk zd_47 1 hs (rfl : zb x zT0 zc_47 1 (18, [some (.int p0)], [], h) = some (19, [some (.int p0)], [.int 2], h)) (fun hs => ?_)
      exact K71 hs
    · skip
      rw [show ((if (p0 = 3) then (1 : Int32) else 2) : Int32) = 1 from if_pos hc] at K71
      refine zg_blk zd_47 2 hs (rfl : zb x zT0 zc_47 2 (14, [some (.int p0)], [], h) = some (19, [some (.int p0)], [.int 1], h)) (fun hs => ?_)
      exact K71 hs
  · skip
    rw [show ((if (3 ≤ p0) then ((if (p0 = 3) then (1 : Int32) else 2) : Int32) else 0) : Int32) = 0 from if_neg hc] at K71
    refine zg_blk zd_47 2 hs (rfl : zb x zT0 zc_47 2 (5, [some (.int p0)], [], h) = some (19, [some (.int p0)], [.int 0], h)) (fun hs => ?_)
    exact K71 hs
set_option maxRecDepth 100000 in
set_option maxHeartbeats 400000 in
theorem f_Harbour_endTrip_k79_t {x : zm_X} {d : Nat} (v1 : Int32) (h : zm_H) (z2 : Int32) (o3 : Option Value) {Q : Option Value → zm_H → Prop} (hs : zSh zT0 h) (ho : f_Harbour_endTrip_k79_ok v1 h) (hF : (zSh zT0 (f_Harbour_endTrip_k79 v1 h) → Q none (f_Harbour_endTrip_k79 v1 h))) : zg x (d + 5) 46 79 [some (.ref 63), some (.int v1), some (.int z2), o3] [] h Q := by
  unfold f_Harbour_endTrip_k79 at hF
  unfold f_Harbour_endTrip_k79_ok at ho
  refine zg_blk zd_46 4 hs (rfl : zb x zT0 zc_46 4 (79, [some (.ref 63), some (.int v1), some (.int z2), o3], [], h) = some (85, [some (.ref 63), some (.int v1), some (.int z2), o3], [.int v1, .ref 70, .int v1, .ref 70], h)) (fun hs => ?_)
  obtain ⟨hob, ho⟩ := ho
  refine zg_ial hs zd_46 rfl rfl hob ?_
  refine zg_blk zd_46 2 hs (rfl : zb x zT0 zc_46 2 (86, [some (.ref 63), some (.int v1), some (.int z2), o3], [.int (zr h 70 v1), .int v1, .ref 70], h) = some (88, [some (.ref 63), some (.int v1), some (.int z2), o3], [.int ((zr h 70 v1) + 1), .int v1, .ref 70], h)) (fun hs => ?_)
  obtain ⟨hob, ho⟩ := ho
  refine zg_ias hs zd_46 rfl rfl hob (fun hs => ?_)
  refine zg_blk zd_46 3 hs (rfl : zb x zT0 zc_46 3 (89, [some (.ref 63), some (.int v1), some (.int z2), o3], [], (zs h 70 v1 ((zr h 70 v1) + 1))) = some (94, [some (.ref 63), some (.int v1), some (.int z2), o3], [.int v1, .ref 68], (zs h 70 v1 ((zr h 70 v1) + 1)))) (fun hs => ?_)
  obtain ⟨hob, ho⟩ := ho
  refine zg_ial hs zd_46 rfl rfl hob ?_
  refine zg_call hs zd_46 rfl rfl rfl rfl (as := [.int (zr h 68 v1)]) (rest := []) (en := [some (.int (zr h 68 v1))]) rfl rfl rfl rfl rfl ?_
  refine f_Harbour_partFor_t (zr h 68 v1) (zs h 70 v1 ((zr h 70 v1) + 1)) hs trivial ?_
  show zg x (d + 5) 46 98 [some (.ref 63), some (.int v1), some (.int z2), o3] [.int (if (3 ≤ (zr h 68 v1)) then ((if ((zr h 68 v1) = 3) then (1 : Int32) else 2) : Int32) else 0)] (zs h 70 v1 ((zr h 70 v1) + 1)) Q
  refine zg_blk zd_46 3 hs (rfl : zb x zT0 zc_46 3 (98, [some (.ref 63), some (.int v1), some (.int z2), o3], [.int (if (3 ≤ (zr h 68 v1)) then ((if ((zr h 68 v1) = 3) then (1 : Int32) else 2) : Int32) else 0)], (zs h 70 v1 ((zr h 70 v1) + 1))) = some (101, [some (.ref 63), some (.int v1), some (.int z2), some (.int (if (3 ≤ (zr h 68 v1)) then ((if ((zr h 68 v1) = 3) then (1 : Int32) else 2) : Int32) else 0))], [.int 2, .int (if (3 ≤ (zr h 68 v1)) then ((if ((zr h 68 v1) = 3) then (1 : Int32) else 2) : Int32) else 0)], (zs h 70 v1 ((zr h 70 v1) + 1)))) (fun hs => ?_)
  have hom := ho
  have K72 : zSh zT0 (if ((if (3 ≤ (zr h 68 v1)) then ((if ((zr h 68 v1) = 3) then (1 : Int32) else 2) : Int32) else 0) = 2) then (zs h 70 v1 ((zr h 70 v1) + 1)) else (zs (zs h 70 v1 ((zr h 70 v1) + 1)) 65 ((v1 * 3) + (if (3 ≤ (zr h 68 v1)) then ((if ((zr h 68 v1) = 3) then (1 : Int32) else 2) : Int32) else 0)) ((zr h 65 ((v1 * 3) + (if (3 ≤ (zr h 68 v1)) then ((if ((zr h 68 v1) = 3) then (1 : Int32) else 2) : Int32) else 0))) - 1))) → zg x (d + 5) 46 118 [some (.ref 63), some (.int v1), some (.int z2), some (.int (if (3 ≤ (zr h 68 v1)) then ((if ((zr h 68 v1) = 3) then (1 : Int32) else 2) : Int32) else 0))] [] (if ((if (3 ≤ (zr h 68 v1)) then ((if ((zr h 68 v1) = 3) then (1 : Int32) else 2) : Int32) else 0) = 2) then (zs h 70 v1 ((zr h 70 v1) + 1)) else (zs (zs h 70 v1 ((zr h 70 v1) + 1)) 65 ((v1 * 3) + (if (3 ≤ (zr h 68 v1)) then ((if ((zr h 68 v1) = 3) then (1 : Int32) else 2) : Int32) else 0)) ((zr h 65 ((v1 * 3) + (if (3 ≤ (zr h 68 v1)) then ((if ((zr h 68 v1) = 3) then (1 : Int32) else 2) : Int32) else 0))) - 1))) Q := fun hs => by
    exact zg_ret zd_46 rfl rfl (hF hs)
  refine zg_i_eq zd_46 rfl (fun (hc : ((if (3 ≤ (zr h 68 v1)) then ((if ((zr h 68 v1) = 3) then (1 : Int32) else 2) : Int32) else 0) = 2)) => ?_) (fun (hc : ¬ ((if (3 ≤ (zr h 68 v1)) then ((if ((zr h 68 v1) = 3) then (1 : Int32) else 2) : Int32) else 0) = 2)) => ?_)
  · have ho := hom.1 hc
    rw [show (if ((if (3 ≤ (zr h 68 v1)) then ((if ((zr h 68 v1) = 3) then (1 : Int32) else 2) : Int32) else 0) = 2) then (zs h 70 v1 ((zr h 70 v1) + 1)) else (zs (zs h 70 v1 ((zr h 70 v1) + 1)) 65 ((v1 * 3) + (if (3 ≤ (zr h 68 v1)) then ((if ((zr h 68 v1) = 3) then (1 : Int32) else 2) : Int32) else 0)) ((zr h 65 ((v1 * 3) + (if (3 ≤ (zr h 68 v1)) then ((if ((zr h 68 v1) = 3) then (1 : Int32) else 2) : Int32) else 0))) - 1))) = (zs h 70 v1 ((zr h 70 v1) + 1)) from if_pos hc] at K72
    exact K72 hs
  · have ho := hom.2 hc
    rw [show (if ((if (3 ≤ (zr h 68 v1)) then ((if ((zr h 68 v1) = 3) then (1 : Int32) else 2) : Int32) else 0) = 2) then (zs h 70 v1 ((zr h 70 v1) + 1)) else (zs (zs h 70 v1 ((zr h 70 v1) + 1)) 65 ((v1 * 3) + (if (3 ≤ (zr h 68 v1)) then ((if ((zr h 68 v1) = 3) then (1 : Int32) else 2) : Int32) else 0)) ((zr h 65 ((v1 * 3) + (if (3 ≤ (zr h 68 v1)) then ((if ((zr h 68 v1) = 3) then (1 : Int32) else 2) : Int32) else 0))) - 1))) = (zs (zs h 70 v1 ((zr h 70 v1) + 1)) 65 ((v1 * 3) + (if (3 ≤ (zr h 68 v1)) then ((if ((zr h 68 v1) = 3) then (1 : Int32) else 2) : Int32) else 0)) ((zr h 65 ((v1 * 3) + (if (3 ≤ (zr h 68 v1)) then ((if ((zr h 68 v1) = 3) then (1 : Int32) else 2) : Int32) else 0))) - 1)) from if_neg hc] at K72
    refine zg_blk zd_46 8 hs (rfl : zb x zT0 zc_46 8 (104, [some (.ref 63), some (.int v1), some (.int z2), some (.int (if (3 ≤ (zr h 68 v1)) then ((if ((zr h 68 v1) = 3) then (1 : Int32) else 2) : Int32) else 0))], [], (zs h 70 v1 ((zr h 70 v1) + 1))) = some (114, [some (.ref 63), some (.int v1), some (.int z2), some (.int (if (3 ≤ (zr h 68 v1)) then ((if ((zr h 68 v1) = 3) then (1 : Int32) else 2) : Int32) else 0))], [.int ((v1 * 3) + (if (3 ≤ (zr h 68 v1)) then ((if ((zr h 68 v1) = 3) then (1 : Int32) else 2) : Int32) else 0)), .ref 65, .int ((v1 * 3) + (if (3 ≤ (zr h 68 v1)) then ((if ((zr h 68 v1) = 3) then (1 : Int32) else 2) : Int32) else 0)), .ref 65], (zs h 70 v1 ((zr h 70 v1) + 1)))) (fun hs => ?_)
    obtain ⟨hob, ho⟩ := ho
    refine zg_ial hs zd_46 rfl rfl hob ?_
    refine zg_blk zd_46 2 hs (rfl : zb x zT0 zc_46 2 (115, [some (.ref 63), some (.int v1), some (.int z2), some (.int (if (3 ≤ (zr h 68 v1)) then ((if ((zr h 68 v1) = 3) then (1 : Int32) else 2) : Int32) else 0))], [.int (zr h 65 ((v1 * 3) + (if (3 ≤ (zr h 68 v1)) then ((if ((zr h 68 v1) = 3) then (1 : Int32) else 2) : Int32) else 0))), .int ((v1 * 3) + (if (3 ≤ (zr h 68 v1)) then ((if ((zr h 68 v1) = 3) then (1 : Int32) else 2) : Int32) else 0)), .ref 65], (zs h 70 v1 ((zr h 70 v1) + 1))) = some (117, [some (.ref 63), some (.int v1), some (.int z2), some (.int (if (3 ≤ (zr h 68 v1)) then ((if ((zr h 68 v1) = 3) then (1 : Int32) else 2) : Int32) else 0))], [.int ((zr h 65 ((v1 * 3) + (if (3 ≤ (zr h 68 v1)) then ((if ((zr h 68 v1) = 3) then (1 : Int32) else 2) : Int32) else 0))) - 1), .int ((v1 * 3) + (if (3 ≤ (zr h 68 v1)) then ((if ((zr h 68 v1) = 3) then (1 : Int32) else 2) : Int32) else 0)), .ref 65], (zs h 70 v1 ((zr h 70 v1) + 1)))) (fun hs => ?_)
    have hob := ho
    refine zg_ias hs zd_46 rfl rfl hob (fun hs => ?_)
    exact K72 hs
set_option maxRecDepth 100000 in
set_option maxHeartbeats 400000 in
theorem f_Harbour_endTrip_k71_t {x : zm_X} {d : Nat} (v1 : Int32) (v2 : Int32) (h : zm_H) (o3 : Option Value) {Q : Option Value → zm_H → Prop} (hs : zSh zT0 h) (ho : f_Harbour_endTrip_k71_ok v1 v2 h) (hF : (zSh zT0 (f_Harbour_endTrip_k71 v1 v2 h) → Q none (f_Harbour_endTrip_k71 v1 v2 h))) : zg x (d + 5) 46 71 [some (.ref 63), some (.int v1), some (.int v2), o3] [] h Q := by
  unfold f_Harbour_endTrip_k71 at hF
  unfold f_Harbour_endTrip_k71_ok at ho
  refine zg_blk zd_46 3 hs (rfl : zb x zT0 zc_46 3 (71, [some (.ref 63), some (.int v1), some (.int v2), o3], [], h) = some (76, [some (.ref 63), some (.int v1), some (.int v2), o3], [.int v2, .ref 37], h)) (fun hs => ?_)
  obtain ⟨hob, ho⟩ := ho
  refine zg_call hs zd_46 rfl rfl rfl rfl (as := [.ref 37, .int v2]) (rest := []) (en := [some (.ref 37), some (.int v2), none]) rfl rfl rfl rfl rfl ?_
  refine f_Course_doThings_37_t v2 h hs hob (fun hs => ?_)
  show zg x (d + 5) 46 79 [some (.ref 63), some (.int v1), some (.int v2), o3] [] (f_Course_doThings_37 v2 h) Q
  exact f_Harbour_endTrip_k79_t v1 (f_Course_doThings_37 v2 h) v2 (o3) hs ho hF
set_option maxRecDepth 100000 in
set_option maxHeartbeats 400000 in
theorem f_Harbour_endTrip_t {x : zm_X} {d : Nat} (p1 : Int32) (p2 : Int32) (h : zm_H) {Q : Option Value → zm_H → Prop} (hs : zSh zT0 h) (ho : f_Harbour_endTrip_ok p1 p2 h) (hF : (zSh zT0 (f_Harbour_endTrip p1 p2 h) → Q none (f_Harbour_endTrip p1 p2 h))) : zg x (d + 5) 46 0 [some (.ref 63), some (.int p1), some (.int p2), none] [] h Q := by
  unfold f_Harbour_endTrip at hF
  unfold f_Harbour_endTrip_ok at ho
  refine zg_blk zd_46 2 hs (rfl : zb x zT0 zc_46 2 (0, [some (.ref 63), some (.int p1), some (.int p2), none], [], h) = some (4, [some (.ref 63), some (.int p1), some (.int p2), none], [.ref 23], h)) (fun hs => ?_)
  refine zg_call hs zd_46 rfl rfl rfl rfl (as := [.ref 23]) (rest := []) (en := [some (.ref 23)]) rfl rfl rfl rfl rfl ?_
  refine f_Log_hasRoomForThing_t  h hs trivial ?_
  show zg x (d + 5) 46 7 [some (.ref 63), some (.int p1), some (.int p2), none] [.int (if (¬ (200 ≤ (zf h 23 4))) then (1 : Int32) else 0)] h Q
  refine zg_b_eq zd_46 rfl (fun (hc : ¬ (¬ (200 ≤ (zf h 23 4)))) => ?_) (fun (hc : (¬ (200 ≤ (zf h 23 4)))) => ?_)
  · have ho := ho.2 hc
    rw [if_neg hc] at hF
    exact f_Harbour_endTrip_k33_t p1 h p2 (none) hs ho hF
  · have ho := ho.1 hc
    rw [if_pos hc] at hF
    refine zg_blk zd_46 5 hs (rfl : zb x zT0 zc_46 5 (10, [some (.ref 63), some (.int p1), some (.int p2), none], [], h) = some (19, [some (.ref 63), some (.int p1), some (.int p2), none], [.int p1, .ref 68, .ref 37], h)) (fun hs => ?_)
    obtain ⟨hob, ho⟩ := ho
    refine zg_ial hs zd_46 rfl rfl hob ?_
    refine zg_blk zd_46 3 hs (rfl : zb x zT0 zc_46 3 (20, [some (.ref 63), some (.int p1), some (.int p2), none], [.int (zr h 68 p1), .ref 37], h) = some (25, [some (.ref 63), some (.int p1), some (.int p2), none], [.int p1, .ref 67, .int (zr h 68 p1), .ref 37], h)) (fun hs => ?_)
    obtain ⟨hob, ho⟩ := ho
    refine zg_ial hs zd_46 rfl rfl hob ?_
    refine zg_blk zd_46 1 hs (rfl : zb x zT0 zc_46 1 (26, [some (.ref 63), some (.int p1), some (.int p2), none], [.int (zr h 67 p1), .int (zr h 68 p1), .ref 37], h) = some (27, [some (.ref 63), some (.int p1), some (.int p2), none], [.int (-1), .int (zr h 67 p1), .int (zr h 68 p1), .ref 37], h)) (fun hs => ?_)
    obtain ⟨hob, ho⟩ := ho
    refine zg_call hs zd_46 rfl rfl rfl rfl (as := [.ref 37, .int (zr h 68 p1), .int (zr h 67 p1), .int (-1)]) (rest := []) (en := [some (.ref 37), some (.int (zr h 68 p1)), some (.int (zr h 67 p1)), some (.int (-1))]) rfl rfl rfl rfl rfl ?_
    refine f_Course_isDoable_37_t (zr h 68 p1) (zr h 67 p1) (-1) h hs hob ?_
    show zg x (d + 5) 46 30 [some (.ref 63), some (.int p1), some (.int p2), none] [.int (f_Course_isDoable_37 (zr h 68 p1) (zr h 67 p1) (-1) h)] h Q
    refine zg_f_ne zd_46 rfl (fun (hc : ¬ ((f_Course_isDoable_37 (zr h 68 p1) (zr h 67 p1) (-1) h) = 0)) => ?_) (fun (hc : ((f_Course_isDoable_37 (zr h 68 p1) (zr h 67 p1) (-1) h) = 0)) => ?_)
    · have ho := ho.2 hc
      rw [if_neg hc] at hF
      refine zg_blk zd_46 6 hs (rfl : zb x zT0 zc_46 6 (44, [some (.ref 63), some (.int p1), some (.int p2), none], [], h) = some (54, [some (.ref 63), some (.int p1), some (.int p2), none], [.int p1, .ref 68, .int p2, .ref 23], h)) (fun hs => ?_)
      obtain ⟨hob, ho⟩ := ho
      refine zg_ial hs zd_46 rfl rfl hob ?_
      refine zg_blk zd_46 3 hs (rfl : zb x zT0 zc_46 3 (55, [some (.ref 63), some (.int p1), some (.int p2), none], [.int (zr h 68 p1), .int p2, .ref 23], h) = some (60, [some (.ref 63), some (.int p1), some (.int p2), none], [.int p1, .ref 67, .int (zr h 68 p1), .int p2, .ref 23], h)) (fun hs => ?_)
      obtain ⟨hob, ho⟩ := ho
      refine zg_ial hs zd_46 rfl rfl hob ?_
      refine zg_blk zd_46 4 hs (rfl : zb x zT0 zc_46 4 (61, [some (.ref 63), some (.int p1), some (.int p2), none], [.int (zr h 67 p1), .int (zr h 68 p1), .int p2, .ref 23], h) = some (67, [some (.ref 63), some (.int p1), some (.int p2), none], [.int p1, .ref 69, .int (-1), .int (zr h 67 p1), .int (zr h 68 p1), .int p2, .ref 23], h)) (fun hs => ?_)
      obtain ⟨hob, ho⟩ := ho
      refine zg_ial hs zd_46 rfl rfl hob ?_
      obtain ⟨hob, ho⟩ := ho
      refine zg_call hs zd_46 rfl rfl rfl rfl (as := [.ref 23, .int p2, .int (zr h 68 p1), .int (zr h 67 p1), .int (-1), .int (zr h 69 p1)]) (rest := []) (en := [some (.ref 23), some (.int p2), some (.int (zr h 68 p1)), some (.int (zr h 67 p1)), some (.int (-1)), some (.int (zr h 69 p1))]) rfl rfl rfl rfl rfl ?_
      refine f_Log_addThing_t p2 (zr h 68 p1) (zr h 67 p1) (-1) (zr h 69 p1) h hs hob (fun hs => ?_)
      show zg x (d + 5) 46 71 [some (.ref 63), some (.int p1), some (.int p2), none] [] (f_Log_addThing p2 (zr h 68 p1) (zr h 67 p1) (-1) (zr h 69 p1) h) Q
      exact f_Harbour_endTrip_k71_t p1 p2 (f_Log_addThing p2 (zr h 68 p1) (zr h 67 p1) (-1) (zr h 69 p1) h) (none) hs ho hF
    · have ho := ho.1 hc
      rw [if_pos hc] at hF
      exact f_Harbour_endTrip_k33_t p1 h p2 (none) hs ho hF
set_option maxRecDepth 100000 in
set_option maxHeartbeats 400000 in
theorem f_Harbour_endSpell_l2_k25_t {x : zm_X} {d : Nat} (v1 : Int32) (v2 : Int32) (h : zm_H) {Q : Option Value → zm_H → Prop} {FN : Nat × Int32 × zm_H → Prop} (hs : zSh zT0 h) (ho : f_Harbour_endSpell_l2_k25_ok v1 v2 h) (hF : FN (f_Harbour_endSpell_l2_k25 v1 v2 h)) (hl0 : ∀ (v2 : Int32) (h : zm_H), zSh zT0 h → FN (0, v2, h) → zg x (d + 6) 45 2 [some (.ref 63), some (.int v1), some (.int v2)] [] h Q) (hl1 : ∀ (v2 : Int32) (h : zm_H) (o2 : Option Value), zSh zT0 h → FN (1, v2, h) → zg x (d + 6) 45 38 [some (.ref 63), some (.int v1), o2] [] h Q) : zg x (d + 6) 45 25 [some (.ref 63), some (.int v1), some (.int v2)] [] h Q := by
  unfold f_Harbour_endSpell_l2_k25 at hF
  unfold f_Harbour_endSpell_l2_k25_ok at ho
  refine zg_blk zd_45 4 hs (rfl : zb x zT0 zc_45 4 (25, [some (.ref 63), some (.int v1), some (.int v2)], [], h) = some (31, [some (.ref 63), some (.int v1), some (.int v2)], [.int (-1), .int v2, .ref 66], h)) (fun hs => ?_)
  have hob := ho
  refine zg_ias hs zd_45 rfl rfl hob (fun hs => ?_)
  exact f_Harbour_endSpell_l2_k32_t v1 v2 (zs h 66 v2 (-1)) hs trivial hF hl0 hl1
set_option maxRecDepth 100000 in
set_option maxHeartbeats 400000 in
theorem f_Harbour_endSpell_l2_b_t {x : zm_X} {d : Nat} (v1 : Int32) (v2 : Int32) (h : zm_H) {Q : Option Value → zm_H → Prop} {FN : Nat × Int32 × zm_H → Prop} (hs : zSh zT0 h) (ho : f_Harbour_endSpell_l2_b_ok v1 v2 h) (hF : FN (f_Harbour_endSpell_l2_b v1 v2 h)) (hl0 : ∀ (v2 : Int32) (h : zm_H), zSh zT0 h → FN (0, v2, h) → zg x (d + 6) 45 2 [some (.ref 63), some (.int v1), some (.int v2)] [] h Q) (hl1 : ∀ (v2 : Int32) (h : zm_H) (o2 : Option Value), zSh zT0 h → FN (1, v2, h) → zg x (d + 6) 45 38 [some (.ref 63), some (.int v1), o2] [] h Q) : zg x (d + 6) 45 2 [some (.ref 63), some (.int v1), some (.int v2)] [] h Q := by
  unfold f_Harbour_endSpell_l2_b at hF
  unfold f_Harbour_endSpell_l2_b_ok at ho
  refine zg_blk zd_45 2 hs (rfl : zb x zT0 zc_45 2 (2, [some (.ref 63), some (.int v1), some (.int v2)], [], h) = some (4, [some (.ref 63), some (.int v1), some (.int v2)], [.int 3, .int v2], h)) (fun hs => ?_)
  refine zg_i_ge zd_45 rfl (fun (hc : (3 ≤ v2)) => ?_) (fun (hc : ¬ (3 ≤ v2)) => ?_)
  · have ho := ho.1 hc
    rw [if_pos hc] at hF
    exact hl1 v2 h (some (.int v2)) hs hF
  · have ho := ho.2 hc
    rw [if_neg hc] at hF
    refine zg_blk zd_45 3 hs (rfl : zb x zT0 zc_45 3 (7, [some (.ref 63), some (.int v1), some (.int v2)], [], h) = some (12, [some (.ref 63), some (.int v1), some (.int v2)], [.int v2, .ref 66], h)) (fun hs => ?_)
    obtain ⟨hob, ho⟩ := ho
    refine zg_ial hs zd_45 rfl rfl hob ?_
    refine zg_blk zd_45 1 hs (rfl : zb x zT0 zc_45 1 (13, [some (.ref 63), some (.int v1), some (.int v2)], [.int (zr h 66 v2)], h) = some (14, [some (.ref 63), some (.int v1), some (.int v2)], [.int v1, .int (zr h 66 v2)], h)) (fun hs => ?_)
    refine zg_i_ne zd_45 rfl (fun (hc : ¬ ((zr h 66 v2) = v1)) => ?_) (fun (hc : ((zr h 66 v2) = v1)) => ?_)
    · have ho := ho.2 hc
      rw [if_neg hc] at hF
      exact f_Harbour_endSpell_l2_k32_t v1 v2 h hs trivial hF hl0 hl1
    · have ho := ho.1 hc
      rw [if_pos hc] at hF
      refine zg_blk zd_45 5 hs (rfl : zb x zT0 zc_45 5 (17, [some (.ref 63), some (.int v1), some (.int v2)], [], h) = some (22, [some (.ref 63), some (.int v1), some (.int v2)], [.int (v1 + 1), .int v2, .ref 63], h)) (fun hs => ?_)
      obtain ⟨hob, ho⟩ := ho
      refine zg_call hs zd_45 rfl rfl rfl rfl (as := [.ref 63, .int v2, .int (v1 + 1)]) (rest := []) (en := [some (.ref 63), some (.int v2), some (.int (v1 + 1)), none]) rfl rfl rfl rfl rfl ?_
      refine f_Harbour_endTrip_t v2 (v1 + 1) h hs hob (fun hs => ?_)
      show zg x (d + 6) 45 25 [some (.ref 63), some (.int v1), some (.int v2)] [] (f_Harbour_endTrip v2 (v1 + 1) h) Q
      exact f_Harbour_endSpell_l2_k25_t v1 v2 (f_Harbour_endTrip v2 (v1 + 1) h) hs ho hF hl0 hl1
theorem f_Harbour_endSpell_l2_t {x : zm_X} {d : Nat} (v1 : Int32) {Q : Option Value → zm_H → Prop} (G : Nat × Int32 × zm_H → Prop) (hx1 : ∀ (v2 : Int32) (h : zm_H) (o2 : Option Value), zSh zT0 h → G (1, v2, h) → zg x (d + 6) 45 38 [some (.ref 63), some (.int v1), o2] [] h Q) : ∀ (n : Nat) (v2 : Int32) (h : zm_H), zSh zT0 h → f_Harbour_endSpell_l2_ok v1 n (v2, h) → G (f_Harbour_endSpell_l2 v1 n (v2, h)) → zg x (d + 6) 45 2 [some (.ref 63), some (.int v1), some (.int v2)] [] h Q := by
  intro n
  induction n with
  | zero => intro v2 h hs ho hG; exact ho.elim
  | succ n ih =>
    intro v2 h hs ho hG
    refine f_Harbour_endSpell_l2_b_t (FN := fun r => (r.1 = 0 → f_Harbour_endSpell_l2_ok v1 n r.2) ∧ G (if r.1 = 0 then f_Harbour_endSpell_l2 v1 n r.2 else r)) v1 v2 h hs ho.1 ⟨ho.2, hG⟩ ?_ ?_
    · intro v2 h hs hF
      exact ih v2 h hs (hF.1 rfl) hF.2
    · intro v2 h o2 hs hF
      exact hx1 v2 h o2 hs hF.2

set_option maxRecDepth 100000 in
set_option maxHeartbeats 400000 in
theorem f_Harbour_endSpell_k38_t {x : zm_X} {d : Nat} (h : zm_H) (o0 : Option Value) (z1 : Int32) (o2 : Option Value) {Q : Option Value → zm_H → Prop} (hs : zSh zT0 h) (ho : f_Harbour_endSpell_k38_ok h) (hF : (zSh zT0 (f_Harbour_endSpell_k38 h) → Q none (f_Harbour_endSpell_k38 h))) : zg x (d + 6) 45 38 [o0, some (.int z1), o2] [] h Q := by
  unfold f_Harbour_endSpell_k38 at hF
  unfold f_Harbour_endSpell_k38_ok at ho
  exact zg_ret zd_45 rfl rfl (hF hs)
set_option maxRecDepth 100000 in
set_option maxHeartbeats 400000 in
theorem f_Harbour_endSpell_t {x : zm_X} {d : Nat} (p1 : Int32) (h : zm_H) {Q : Option Value → zm_H → Prop} (hs : zSh zT0 h) (ho : f_Harbour_endSpell_ok p1 h) (hF : (zSh zT0 (f_Harbour_endSpell p1 h) → Q none (f_Harbour_endSpell p1 h))) : zg x (d + 6) 45 0 [some (.ref 63), some (.int p1), none] [] h Q := by
  unfold f_Harbour_endSpell at hF
  unfold f_Harbour_endSpell_ok at ho
  refine zg_blk zd_45 2 hs (rfl : zb x zT0 zc_45 2 (0, [some (.ref 63), some (.int p1), none], [], h) = some (2, [some (.ref 63), some (.int p1), some (.int 0)], [], h)) (fun hs => ?_)
  refine f_Harbour_endSpell_l2_t p1 (fun r => f_Harbour_endSpell_a2_ok r ∧ (zSh zT0 (f_Harbour_endSpell_a2 r) → Q none (f_Harbour_endSpell_a2 r))) ?_ zF 0 h hs ho.1 ⟨ho.2, hF⟩
  · intro v2_ h_ o2_ hs hG
    have ho : True := trivial
    have hF : (zSh zT0 ((f_Harbour_endSpell_k38 h_)) → Q none ((f_Harbour_endSpell_k38 h_))) := hG.2
    exact f_Harbour_endSpell_k38_t h_ (some (.ref 63)) p1 (o2_) hs trivial hF
set_option maxRecDepth 100000 in
set_option maxHeartbeats 400000 in
theorem f_N_passNow_k47_t {x : zm_X} {d : Nat} (h : zm_H) (o1 : Option Value) {Q : Option Value → zm_H → Prop} (hs : zSh zT0 h) (ho : f_N_passNow_k47_ok h) (hF : (zSh zT0 (f_N_passNow_k47 h) → Q none (f_N_passNow_k47 h))) : zg x (d + 7) 144 47 [some (.ref 0), o1] [] h Q := by
  unfold f_N_passNow_k47 at hF
  unfold f_N_passNow_k47_ok at ho
  refine zg_blk zd_144 6 hs (rfl : zb x zT0 zc_144 6 (47, [some (.ref 0), o1], [], h) = some (57, [some (.ref 0), o1], [], (zp h 0 0 ((zf h 0 0) + 1)))) (fun hs => ?_)
  exact zg_ret zd_144 rfl rfl (hF hs)
set_option maxRecDepth 100000 in
set_option maxHeartbeats 400000 in
theorem f_N_passNow_k36_t {x : zm_X} {d : Nat} (h : zm_H) (o1 : Option Value) {Q : Option Value → zm_H → Prop} (hs : zSh zT0 h) (ho : f_N_passNow_k36_ok h) (hF : (zSh zT0 (f_N_passNow_k36 h) → Q none (f_N_passNow_k36 h))) : zg x (d + 7) 144 36 [some (.ref 0), o1] [] h Q := by
  unfold f_N_passNow_k36 at hF
  unfold f_N_passNow_k36_ok at ho
  refine zg_blk zd_144 4 hs (rfl : zb x zT0 zc_144 4 (36, [some (.ref 0), o1], [], h) = some (44, [some (.ref 0), o1], [.int (zf h 0 0), .ref 63], h)) (fun hs => ?_)
  have hob := ho
  refine zg_call hs zd_144 rfl rfl rfl rfl (as := [.ref 63, .int (zf h 0 0)]) (rest := []) (en := [some (.ref 63), some (.int (zf h 0 0)), none]) rfl rfl rfl rfl rfl ?_
  refine f_Harbour_endSpell_t (zf h 0 0) h hs hob (fun hs => ?_)
  show zg x (d + 7) 144 47 [some (.ref 0), o1] [] (f_Harbour_endSpell (zf h 0 0) h) Q
  exact f_N_passNow_k47_t (f_Harbour_endSpell (zf h 0 0) h) (o1) hs trivial hF
set_option maxRecDepth 100000 in
set_option maxHeartbeats 400000 in
theorem f_N_passNow_k24_t {x : zm_X} {d : Nat} (v1 : Int32) (h : zm_H) {Q : Option Value → zm_H → Prop} (hs : zSh zT0 h) (ho : f_N_passNow_k24_ok v1 h) (hF : (zSh zT0 (f_N_passNow_k24 v1 h) → Q none (f_N_passNow_k24 v1 h))) : zg x (d + 7) 144 24 [some (.ref 0), some (.int v1)] [] h Q := by
  unfold f_N_passNow_k24 at hF
  unfold f_N_passNow_k24_ok at ho
  refine zg_blk zd_144 5 hs (rfl : zb x zT0 zc_144 5 (24, [some (.ref 0), some (.int v1)], [], h) = some (33, [some (.ref 0), some (.int v1)], [.int v1, .int (zf h 0 0), .ref 37], h)) (fun hs => ?_)
  obtain ⟨hob, ho⟩ := ho
  refine zg_call hs zd_144 rfl rfl rfl rfl (as := [.ref 37, .int (zf h 0 0), .int v1]) (rest := []) (en := [some (.ref 37), some (.int (zf h 0 0)), some (.int v1)]) rfl rfl rfl rfl rfl ?_
  refine f_Course_pass_37_t (zf h 0 0) v1 h hs hob (fun hs => ?_)
  show zg x (d + 7) 144 36 [some (.ref 0), some (.int v1)] [] (f_Course_pass_37 (zf h 0 0) v1 h) Q
  exact f_N_passNow_k36_t (f_Course_pass_37 (zf h 0 0) v1 h) (some (.int v1)) hs ho hF
set_option maxRecDepth 100000 in
set_option maxHeartbeats 400000 in
theorem f_N_passNow_t {x : zm_X} {d : Nat} (h : zm_H) {Q : Option Value → zm_H → Prop} (hs : zSh zT0 h) (ho : f_N_passNow_ok h) (hF : (zSh zT0 (f_N_passNow h) → Q none (f_N_passNow h))) : zg x (d + 7) 144 0 [some (.ref 0), none] [] h Q := by
  unfold f_N_passNow at hF
  unfold f_N_passNow_ok at ho
  refine zg_blk zd_144 4 hs (rfl : zb x zT0 zc_144 4 (0, [some (.ref 0), none], [], h) = some (8, [some (.ref 0), none], [.int (zf h 0 0), .ref 1], h)) (fun hs => ?_)
  obtain ⟨hob, ho⟩ := ho
  refine zg_call hs zd_144 rfl rfl rfl rfl (as := [.ref 1, .int (zf h 0 0)]) (rest := []) (en := [some (.ref 1), some (.int (zf h 0 0))]) rfl rfl rfl rfl rfl ?_
  refine f_Swell_lookNow_t (zf h 0 0) h hs hob ?_
  show zg x (d + 7) 144 11 [some (.ref 0), none] [.int (f_Swell_lookNow (zf h 0 0) h)] h Q
  refine zg_blk zd_144 6 hs (rfl : zb x zT0 zc_144 6 (11, [some (.ref 0), none], [.int (f_Swell_lookNow (zf h 0 0) h)], h) = some (21, [some (.ref 0), some (.int (f_Swell_lookNow (zf h 0 0) h))], [.int (f_Swell_lookNow (zf h 0 0) h), .int (zf h 0 0), .ref 63], h)) (fun hs => ?_)
  obtain ⟨hob, ho⟩ := ho
  refine zg_call hs zd_144 rfl rfl rfl rfl (as := [.ref 63, .int (zf h 0 0), .int (f_Swell_lookNow (zf h 0 0) h)]) (rest := []) (en := [some (.ref 63), some (.int (zf h 0 0)), some (.int (f_Swell_lookNow (zf h 0 0) h)), none]) rfl rfl rfl rfl rfl ?_
  refine f_Harbour_beginSpell_t (zf h 0 0) (f_Swell_lookNow (zf h 0 0) h) h hs hob (fun hs => ?_)
  show zg x (d + 7) 144 24 [some (.ref 0), some (.int (f_Swell_lookNow (zf h 0 0) h))] [] (f_Harbour_beginSpell (zf h 0 0) (f_Swell_lookNow (zf h 0 0) h) h) Q
  exact f_N_passNow_k24_t (f_Swell_lookNow (zf h 0 0) h) (f_Harbour_beginSpell (zf h 0 0) (f_Swell_lookNow (zf h 0 0) h) h) hs ho hF
set_option maxRecDepth 100000 in
set_option maxHeartbeats 400000 in
theorem f_N_go_l14_k33_t {x : zm_X} {d : Nat} (v1 : Int32) (v2 : Int32) (h : zm_H) {Q : Option Value → zm_H → Prop} {FN : Nat × Int32 × zm_H → Prop} (hs : zSh zT0 h) (ho : f_N_go_l14_k33_ok v1 v2 h) (hF : FN (f_N_go_l14_k33 v1 v2 h)) (hl0 : ∀ (v2 : Int32) (h : zm_H), zSh zT0 h → FN (0, v2, h) → zg x (d + 8) 143 14 [some (.ref 0), some (.int v1), some (.int v2)] [] h Q) (hl1 : ∀ (v2 : Int32) (h : zm_H) (o2 : Option Value), zSh zT0 h → FN (1, v2, h) → zg x (d + 8) 143 39 [some (.ref 0), some (.int v1), o2] [] h Q) : zg x (d + 8) 143 33 [some (.ref 0), some (.int v1), some (.int v2)] [] h Q := by
  unfold f_N_go_l14_k33 at hF
  unfold f_N_go_l14_k33_ok at ho
  refine zg_blk zd_143 2 hs (rfl : zb x zT0 zc_143 2 (33, [some (.ref 0), some (.int v1), some (.int v2)], [], h) = some (14, [some (.ref 0), some (.int v1), some (.int (v2 + 1))], [], h)) (fun hs => ?_)
  exact hl0 (v2 + 1) h hs hF
set_option maxRecDepth 100000 in
set_option maxHeartbeats 400000 in
theorem f_N_go_l14_b_t {x : zm_X} {d : Nat} (v1 : Int32) (v2 : Int32) (h : zm_H) {Q : Option Value → zm_H → Prop} {FN : Nat × Int32 × zm_H → Prop} (hs : zSh zT0 h) (ho : f_N_go_l14_b_ok v1 v2 h) (hF : FN (f_N_go_l14_b v1 v2 h)) (hl0 : ∀ (v2 : Int32) (h : zm_H), zSh zT0 h → FN (0, v2, h) → zg x (d + 8) 143 14 [some (.ref 0), some (.int v1), some (.int v2)] [] h Q) (hl1 : ∀ (v2 : Int32) (h : zm_H) (o2 : Option Value), zSh zT0 h → FN (1, v2, h) → zg x (d + 8) 143 39 [some (.ref 0), some (.int v1), o2] [] h Q) : zg x (d + 8) 143 14 [some (.ref 0), some (.int v1), some (.int v2)] [] h Q := by
  unfold f_N_go_l14_b at hF
  unfold f_N_go_l14_b_ok at ho
  refine zg_blk zd_143 2 hs (rfl : zb x zT0 zc_143 2 (14, [some (.ref 0), some (.int v1), some (.int v2)], [], h) = some (16, [some (.ref 0), some (.int v1), some (.int v2)], [.int v1, .int v2], h)) (fun hs => ?_)
  refine zg_i_ge zd_143 rfl (fun (hc : (v1 ≤ v2)) => ?_) (fun (hc : ¬ (v1 ≤ v2)) => ?_)
  · have ho := ho.1 hc
    rw [if_pos hc] at hF
    exact hl1 v2 h (some (.int v2)) hs hF
  · have ho := ho.2 hc
    rw [if_neg hc] at hF
    refine zg_blk zd_143 3 hs (rfl : zb x zT0 zc_143 3 (19, [some (.ref 0), some (.int v1), some (.int v2)], [], h) = some (26, [some (.ref 0), some (.int v1), some (.int v2)], [.int 480, .int (zf h 0 0)], h)) (fun hs => ?_)
    refine zg_i_ge zd_143 rfl (fun (hc : (480 ≤ (zf h 0 0))) => ?_) (fun (hc : ¬ (480 ≤ (zf h 0 0))) => ?_)
    · have ho := ho.1 hc
      rw [if_pos hc] at hF
      exact hl1 v2 h (some (.int v2)) hs hF
    · have ho := ho.2 hc
      rw [if_neg hc] at hF
      refine zg_blk zd_143 1 hs (rfl : zb x zT0 zc_143 1 (29, [some (.ref 0), some (.int v1), some (.int v2)], [], h) = some (30, [some (.ref 0), some (.int v1), some (.int v2)], [.ref 0], h)) (fun hs => ?_)
      have hob := ho
      refine zg_call hs zd_143 rfl rfl rfl rfl (as := [.ref 0]) (rest := []) (en := [some (.ref 0), none]) rfl rfl rfl rfl rfl ?_
      refine f_N_passNow_t  h hs hob (fun hs => ?_)
      show zg x (d + 8) 143 33 [some (.ref 0), some (.int v1), some (.int v2)] [] (f_N_passNow h) Q
      exact f_N_go_l14_k33_t v1 v2 (f_N_passNow h) hs trivial hF hl0 hl1
theorem f_N_go_l14_t {x : zm_X} {d : Nat} (v1 : Int32) {Q : Option Value → zm_H → Prop} (G : Nat × Int32 × zm_H → Prop) (hx1 : ∀ (v2 : Int32) (h : zm_H) (o2 : Option Value), zSh zT0 h → G (1, v2, h) → zg x (d + 8) 143 39 [some (.ref 0), some (.int v1), o2] [] h Q) : ∀ (n : Nat) (v2 : Int32) (h : zm_H), zSh zT0 h → f_N_go_l14_ok v1 n (v2, h) → G (f_N_go_l14 v1 n (v2, h)) → zg x (d + 8) 143 14 [some (.ref 0), some (.int v1), some (.int v2)] [] h Q := by
  intro n
  induction n with
  | zero => intro v2 h hs ho hG; exact ho.elim
  | succ n ih =>
    intro v2 h hs ho hG
    refine f_N_go_l14_b_t (FN := fun r => (r.1 = 0 → f_N_go_l14_ok v1 n r.2) ∧ G (if r.1 = 0 then f_N_go_l14 v1 n r.2 else r)) v1 v2 h hs ho.1 ⟨ho.2, hG⟩ ?_ ?_
    · intro v2 h hs hF
      exact ih v2 h hs (hF.1 rfl) hF.2
    · intro v2 h o2 hs hF
      exact hx1 v2 h o2 hs hF.2

set_option maxRecDepth 100000 in
set_option maxHeartbeats 400000 in
theorem f_N_go_k39_t {x : zm_X} {d : Nat} (h : zm_H) (z1 : Int32) (o2 : Option Value) {Q : Option Value → zm_H → Prop} (hs : zSh zT0 h) (ho : f_N_go_k39_ok h) (hF : (zSh zT0 (f_N_go_k39 h).2 → Q (some (.int (f_N_go_k39 h).1)) (f_N_go_k39 h).2)) : zg x (d + 8) 143 39 [some (.ref 0), some (.int z1), o2] [] h Q := by
  unfold f_N_go_k39 at hF
  unfold f_N_go_k39_ok at ho
  refine zg_blk zd_143 2 hs (rfl : zb x zT0 zc_143 2 (39, [some (.ref 0), some (.int z1), o2], [], h) = some (43, [some (.ref 0), some (.int z1), o2], [.int (zf h 0 0)], h)) (fun hs => ?_)
  exact zg_ret zd_143 rfl rfl (hF hs)
set_option maxRecDepth 100000 in
set_option maxHeartbeats 400000 in
theorem f_N_go_t {x : zm_X} {d : Nat} (p1 : Int32) (h : zm_H) {Q : Option Value → zm_H → Prop} (hs : zSh zT0 h) (ho : f_N_go_ok p1 h) (hF : (zSh zT0 (f_N_go p1 h).2 → Q (some (.int (f_N_go p1 h).1)) (f_N_go p1 h).2)) : zg x (d + 8) 143 0 [some (.ref 0), some (.int p1), none] [] h Q := by
  unfold f_N_go at hF
  unfold f_N_go_ok at ho
  refine zg_blk zd_143 1 hs (rfl : zb x zT0 zc_143 1 (0, [some (.ref 0), some (.int p1), none], [], h) = some (1, [some (.ref 0), some (.int p1), none], [.int p1], h)) (fun hs => ?_)
  refine zg_f_lt zd_143 rfl (fun (hc : (p1 < 0)) => ?_) (fun (hc : ¬ (p1 < 0)) => ?_)
  · have ho := ho.1 hc
    rw [if_pos hc] at hF
    refine zg_blk zd_143 1 hs (rfl : zb x zT0 zc_143 1 (10, [some (.ref 0), some (.int p1), none], [], h) = some (11, [some (.ref 0), some (.int p1), none], [.int (-1)], h)) (fun hs => ?_)
    exact zg_ret zd_143 rfl rfl (hF hs)
  · have ho := ho.2 hc
    rw [if_neg hc] at hF
    refine zg_blk zd_143 2 hs (rfl : zb x zT0 zc_143 2 (4, [some (.ref 0), some (.int p1), none], [], h) = some (7, [some (.ref 0), some (.int p1), none], [.int 80, .int p1], h)) (fun hs => ?_)
    refine zg_i_le zd_143 rfl (fun (hc : (p1 ≤ 80)) => ?_) (fun (hc : ¬ (p1 ≤ 80)) => ?_)
    · have ho := ho.1 hc
      rw [if_pos hc] at hF
      refine zg_blk zd_143 2 hs (rfl : zb x zT0 zc_143 2 (12, [some (.ref 0), some (.int p1), none], [], h) = some (14, [some (.ref 0), some (.int p1), some (.int 0)], [], h)) (fun hs => ?_)
      refine f_N_go_l14_t p1 (fun r => f_N_go_a14_ok r ∧ (zSh zT0 (f_N_go_a14 r).2 → Q (some (.int (f_N_go_a14 r).1)) (f_N_go_a14 r).2)) ?_ zF 0 h hs ho.1 ⟨ho.2, hF⟩
      · intro v2_ h_ o2_ hs hG
        have ho : True := trivial
        have hF : (zSh zT0 ((f_N_go_k39 h_)).2 → Q (some (.int ((f_N_go_k39 h_)).1)) ((f_N_go_k39 h_)).2) := hG.2
        exact f_N_go_k39_t h_ p1 (o2_) hs trivial hF
    · have ho := ho.2 hc
      rw [if_neg hc] at hF
      refine zg_blk zd_143 1 hs (rfl : zb x zT0 zc_143 1 (10, [some (.ref 0), some (.int p1), none], [], h) = some (11, [some (.ref 0), some (.int p1), none], [.int (-1)], h)) (fun hs => ?_)
      exact zg_ret zd_143 rfl rfl (hF hs)
theorem zd_216 : zm_cd 216 = zc_216 := by rfl
theorem zd_217 : zm_cd 217 = zc_217 := by rfl
theorem zd_218 : zm_cd 218 = zc_218 := by rfl
theorem zd_219 : zm_cd 219 = zc_219 := by rfl
theorem zd_220 : zm_cd 220 = zc_220 := by rfl
set_option maxRecDepth 100000 in
set_option maxHeartbeats 400000 in
theorem f_M_chainHolds_t {x : zm_X} {d : Nat} (p1 : Int32) (h : zm_H) {Q : Option Value → zm_H → Prop} (hs : zSh zT0 h) (ho : f_M_chainHolds_ok p1 h) (hF : Q (some (.int (f_M_chainHolds p1 h))) h) : zg x (d + 1) 220 0 [some (.ref 92), some (.int p1)] [] h Q := by
  unfold f_M_chainHolds at hF
  unfold f_M_chainHolds_ok at ho
  refine zg_blk zd_220 3 hs (rfl : zb x zT0 zc_220 3 (0, [some (.ref 92), some (.int p1)], [], h) = some (5, [some (.ref 92), some (.int p1)], [.int p1, .ref 128], h)) (fun hs => ?_)
  obtain ⟨hob, ho⟩ := ho
  refine zg_ial hs zd_220 rfl rfl hob ?_
  have hom := ho
  have K73 : zSh zT0 h → zg x (d + 1) 220 24 [some (.ref 92), some (.int p1)] [.int (if (¬ ((zr h 128 p1) ≤ 0) ∧ ((zr h 130 p1) = (-1))) then (1 : Int32) else 0)] h Q := fun hs => by
    exact zg_rtz zd_220 rfl rfl zm_nb01 hF
  refine zg_f_le zd_220 rfl (fun (hc : ((zr h 128 p1) ≤ 0)) => ?_) (fun (hc : ¬ ((zr h 128 p1) ≤ 0)) => ?_)
  · have ho := hom.1 hc
    rw [show ((if (¬ ((zr h 128 p1) ≤ 0) ∧ ((zr h 130 p1) = (-1))) then (1 : Int32) else 0) : Int32) = 0 from zb_nand_t hc] at K73
    refine zg_blk zd_220 1 hs (rfl : zb x zT0 zc_220 1 (23, [some (.ref 92), some (.int p1)], [], h) = some (24, [some (.ref 92), some (.int p1)], [.int 0], h)) (fun hs => ?_)
    exact K73 hs
  · have ho := hom.2 hc
    rw [show ((if (¬ ((zr h 128 p1) ≤ 0) ∧ ((zr h 130 p1) = (-1))) then (1 : Int32) else 0) : Int32) = (if ((zr h 130 p1) = (-1)) then (1 : Int32) else 0) from zb_nand_f hc] at K73
    refine zg_blk zd_220 3 hs (rfl : zb x zT0 zc_220 3 (9, [some (.ref 92), some (.int p1)], [], h) = some (14, [some (.ref 92), some (.int p1)], [.int p1, .ref 130], h)) (fun hs => ?_)
    have hob := ho
    refine zg_ial hs zd_220 rfl rfl hob ?_
    refine zg_blk zd_220 1 hs (rfl : zb x zT0 zc_220 1 (15, [some (.ref 92), some (.int p1)], [.int (zr h 130 p1)], h) = some (16, [some (.ref 92), some (.int p1)], [.int (-1), .int (zr h 130 p1)], h)) (fun hs => ?_)
    refine zg_i_ne zd_220 rfl (fun (hc : ¬ ((zr h 130 p1) = (-1))) => ?_) (fun (hc : ((zr h 130 p1) = (-1))) => ?_)
    · skip
      rw [show ((if ((zr h 130 p1) = (-1)) then (1 : Int32) else 0) : Int32) = 0 from if_neg hc] at K73
      refine zg_blk zd_220 1 hs (rfl : zb x zT0 zc_220 1 (23, [some (.ref 92), some (.int p1)], [], h) = some (24, [some (.ref 92), some (.int p1)], [.int 0], h)) (fun hs => ?_)
      exact K73 hs
    · skip
      rw [show ((if ((zr h 130 p1) = (-1)) then (1 : Int32) else 0) : Int32) = 1 from if_pos hc] at K73
      refine zg_blk zd_220 2 hs (rfl : zb x zT0 zc_220 2 (19, [some (.ref 92), some (.int p1)], [], h) = some (24, [some (.ref 92), some (.int p1)], [.int 1], h)) (fun hs => ?_)
      exact K73 hs
set_option maxRecDepth 100000 in
set_option maxHeartbeats 400000 in
theorem f_M_leastHold_l40_b_t {x : zm_X} {d : Nat} (v1 : Int32) (v2 : Int32) (v3 : Int32) (v4 : Int32) (v5 : Int32) (h : zm_H) (o6 : Option Value) (o7 : Option Value) {Q : Option Value → zm_H → Prop} {FN : Nat × Int32 × Int32 × Int32 → Prop} (hs : zSh zT0 h) (ho : f_M_leastHold_l40_b_ok v1 v2 v3 v4 v5 h) (hF : FN (f_M_leastHold_l40_b v1 v2 v3 v4 v5 h)) (hl0 : ∀ (v3 : Int32) (v4 : Int32) (v5 : Int32) (o6 : Option Value) (o7 : Option Value), zSh zT0 h → FN (0, v3, v4, v5) → zg x (d + 2) 219 40 [some (.ref 92), some (.int v1), some (.int v2), some (.int v3), some (.int v4), some (.int v5), o6, o7] [] h Q) (hl1 : ∀ (v3 : Int32) (v4 : Int32) (v5 : Int32) (o5 : Option Value) (o6 : Option Value) (o7 : Option Value), zSh zT0 h → FN (1, v3, v4, v5) → zg x (d + 2) 219 114 [some (.ref 92), some (.int v1), some (.int v2), some (.int v3), some (.int v4), o5, o6, o7] [] h Q) : zg x (d + 2) 219 40 [some (.ref 92), some (.int v1), some (.int v2), some (.int v3), some (.int v4), some (.int v5), o6, o7] [] h Q := by
  unfold f_M_leastHold_l40_b at hF
  unfold f_M_leastHold_l40_b_ok at ho
  refine zg_blk zd_219 2 hs (rfl : zb x zT0 zc_219 2 (40, [some (.ref 92), some (.int v1), some (.int v2), some (.int v3), some (.int v4), some (.int v5), o6, o7], [], h) = some (43, [some (.ref 92), some (.int v1), some (.int v2), some (.int v3), some (.int v4), some (.int v5), o6, o7], [.int 3, .int v5], h)) (fun hs => ?_)
  refine zg_i_ge zd_219 rfl (fun (hc : (3 ≤ v5)) => ?_) (fun (hc : ¬ (3 ≤ v5)) => ?_)
  · have ho := ho.1 hc
    rw [if_pos hc] at hF
    exact hl1 v3 v4 v5 (some (.int v5)) (o6) (o7) hs hF
  · have ho := ho.2 hc
    rw [if_neg hc] at hF
    refine zg_blk zd_219 3 hs (rfl : zb x zT0 zc_219 3 (46, [some (.ref 92), some (.int v1), some (.int v2), some (.int v3), some (.int v4), some (.int v5), o6, o7], [], h) = some (50, [some (.ref 92), some (.int v1), some (.int v2), some (.int v3), some (.int v4), some (.int v5), o6, o7], [.int v5, .int v2, .int v1], h)) (fun hs => ?_)
    refine zg_call hs zd_219 rfl rfl rfl rfl (as := [.int v1, .int v2, .int v5]) (rest := []) (en := [some (.int v1), some (.int v2), some (.int v5)]) rfl rfl rfl rfl rfl ?_
    refine f_M_chainAt_t v1 v2 v5 h hs trivial ?_
    show zg x (d + 2) 219 53 [some (.ref 92), some (.int v1), some (.int v2), some (.int v3), some (.int v4), some (.int v5), o6, o7] [.int ((3 * ((10 * v1) + v2)) + v5)] h Q
    refine zg_blk zd_219 3 hs (rfl : zb x zT0 zc_219 3 (53, [some (.ref 92), some (.int v1), some (.int v2), some (.int v3), some (.int v4), some (.int v5), o6, o7], [.int ((3 * ((10 * v1) + v2)) + v5)], h) = some (58, [some (.ref 92), some (.int v1), some (.int v2), some (.int v3), some (.int v4), some (.int v5), some (.int ((3 * ((10 * v1) + v2)) + v5)), o7], [.int ((3 * ((10 * v1) + v2)) + v5), .ref 92], h)) (fun hs => ?_)
    obtain ⟨hob, ho⟩ := ho
    refine zg_call hs zd_219 rfl rfl rfl rfl (as := [.ref 92, .int ((3 * ((10 * v1) + v2)) + v5)]) (rest := []) (en := [some (.ref 92), some (.int ((3 * ((10 * v1) + v2)) + v5))]) rfl rfl rfl rfl rfl ?_
    refine f_M_chainHolds_t ((3 * ((10 * v1) + v2)) + v5) h hs hob ?_
    show zg x (d + 2) 219 61 [some (.ref 92), some (.int v1), some (.int v2), some (.int v3), some (.int v4), some (.int v5), some (.int ((3 * ((10 * v1) + v2)) + v5)), o7] [.int (f_M_chainHolds ((3 * ((10 * v1) + v2)) + v5) h)] h Q
    have hom := ho
    have K75 : ∀ (o74 : Option Value) (_ : zSh zT0 h), zg x (d + 2) 219 108 [some (.ref 92), some (.int v1), some (.int v2), some (.int (if ((f_M_chainHolds ((3 * ((10 * v1) + v2)) + v5) h) = 0) then (v3 : Int32) else (if (v4 = 0) then (((zr h 128 ((3 * ((10 * v1) + v2)) + v5)) - ((zr h 129 ((3 * ((10 * v1) + v2)) + v5)) / 100)) : Int32) else (if (((zr h 128 ((3 * ((10 * v1) + v2)) + v5)) - ((zr h 129 ((3 * ((10 * v1) + v2)) + v5)) / 100)) ≤ v3) then (((zr h 128 ((3 * ((10 * v1) + v2)) + v5)) - ((zr h 129 ((3 * ((10 * v1) + v2)) + v5)) / 100)) : Int32) else v3)))), some (.int (if ((f_M_chainHolds ((3 * ((10 * v1) + v2)) + v5) h) = 0) then (v4 : Int32) else 1)), some (.int v5), some (.int ((3 * ((10 * v1) + v2)) + v5)), o74] [] h Q := fun o74 hs => by
      refine zg_blk zd_219 2 hs (rfl : zb x zT0 zc_219 2 (108, [some (.ref 92), some (.int v1), some (.int v2), some (.int (if ((f_M_chainHolds ((3 * ((10 * v1) + v2)) + v5) h) = 0) then (v3 : Int32) else (if (v4 = 0) then (((zr h 128 ((3 * ((10 * v1) + v2)) + v5)) - ((zr h 129 ((3 * ((10 * v1) + v2)) + v5)) / 100)) : Int32) else (if (((zr h 128 ((3 * ((10 * v1) + v2)) + v5)) - ((zr h 129 ((3 * ((10 * v1) + v2)) + v5)) / 100)) ≤ v3) then (((zr h 128 ((3 * ((10 * v1) + v2)) + v5)) - ((zr h 129 ((3 * ((10 * v1) + v2)) + v5)) / 100)) : Int32) else v3)))), some (.int (if ((f_M_chainHolds ((3 * ((10 * v1) + v2)) + v5) h) = 0) then (v4 : Int32) else 1)), some (.int v5), some (.int ((3 * ((10 * v1) + v2)) + v5)), o74], [], h) = some (40, [some (.ref 92), some (.int v1), some (.int v2), some (.int (if ((f_M_chainHolds ((3 * ((10 * v1) + v2)) + v5) h) = 0) then (v3 : Int32) else (if (v4 = 0) then (((zr h 128 ((3 * ((10 * v1) + v2)) + v5)) - ((zr h 129 ((3 * ((10 * v1) + v2)) + v5)) / 100)) : Int32) else (if (((zr h 128 ((3 * ((10 * v1) + v2)) + v5)) - ((zr h 129 ((3 * ((10 * v1) + v2)) + v5)) / 100)) ≤ v3) then (((zr h 128 ((3 * ((10 * v1) + v2)) + v5)) - ((zr h 129 ((3 * ((10 * v1) + v2)) + v5)) / 100)) : Int32) else v3)))), some (.int (if ((f_M_chainHolds ((3 * ((10 * v1) + v2)) + v5) h) = 0) then (v4 : Int32) else 1)), some (.int (v5 + 1)), some (.int ((3 * ((10 * v1) + v2)) + v5)), o74], [], h)) (fun hs => ?_)
      exact hl0 (if ((f_M_chainHolds ((3 * ((10 * v1) + v2)) + v5) h) = 0) then (v3 : Int32) else (if (v4 = 0) then (((zr h 128 ((3 * ((10 * v1) + v2)) + v5)) - ((zr h 129 ((3 * ((10 * v1) + v2)) + v5)) / 100)) : Int32) else (if (((zr h 128 ((3 * ((10 * v1) + v2)) + v5)) - ((zr h 129 ((3 * ((10 * v1) + v2)) + v5)) / 100)) ≤ v3) then (((zr h 128 ((3 * ((10 * v1) + v2)) + v5)) - ((zr h 129 ((3 * ((10 * v1) + v2)) + v5)) / 100)) : Int32) else v3))) (if ((f_M_chainHolds ((3 * ((10 * v1) + v2)) + v5) h) = 0) then (v4 : Int32) else 1) (v5 + 1) (some (.int ((3 * ((10 * v1) + v2)) + v5))) (o74) hs hF
    refine zg_f_ne zd_219 rfl (fun (hc : ¬ ((f_M_chainHolds ((3 * ((10 * v1) + v2)) + v5) h) = 0)) => ?_) (fun (hc : ((f_M_chainHolds ((3 * ((10 * v1) + v2)) + v5) h) = 0)) => ?_)
    · have ho := hom.2 hc
      rw [show ((if ((f_M_chainHolds ((3 * ((10 * v1) + v2)) + v5) h) = 0) then (v3 : Int32) else (if (v4 = 0) then (((zr h 128 ((3 * ((10 * v1) + v2)) + v5)) - ((zr h 129 ((3 * ((10 * v1) + v2)) + v5)) / 100)) : Int32) else (if (((zr h 128 ((3 * ((10 * v1) + v2)) + v5)) - ((zr h 129 ((3 * ((10 * v1) + v2)) + v5)) / 100)) ≤ v3) then (((zr h 128 ((3 * ((10 * v1) + v2)) + v5)) - ((zr h 129 ((3 * ((10 * v1) + v2)) + v5)) / 100)) : Int32) else v3))) : Int32) = (if (v4 = 0) then (((zr h 128 ((3 * ((10 * v1) + v2)) + v5)) - ((zr h 129 ((3 * ((10 * v1) + v2)) + v5)) / 100)) : Int32) else (if (((zr h 128 ((3 * ((10 * v1) + v2)) + v5)) - ((zr h 129 ((3 * ((10 * v1) + v2)) + v5)) / 100)) ≤ v3) then (((zr h 128 ((3 * ((10 * v1) + v2)) + v5)) - ((zr h 129 ((3 * ((10 * v1) + v2)) + v5)) / 100)) : Int32) else v3)) from if_neg hc] at K75
      rw [show ((if ((f_M_chainHolds ((3 * ((10 * v1) + v2)) + v5) h) = 0) then (v4 : Int32) else 1) : Int32) = 1 from if_neg hc] at K75
      refine zg_blk zd_219 3 hs (rfl : zb x zT0 zc_219 3 (67, [some (.ref 92), some (.int v1), some (.int v2), some (.int v3), some (.int v4), some (.int v5), some (.int ((3 * ((10 * v1) + v2)) + v5)), o7], [], h) = some (73, [some (.ref 92), some (.int v1), some (.int v2), some (.int v3), some (.int v4), some (.int v5), some (.int ((3 * ((10 * v1) + v2)) + v5)), o7], [.int ((3 * ((10 * v1) + v2)) + v5), .ref 128], h)) (fun hs => ?_)
      obtain ⟨hob, ho⟩ := ho
      refine zg_ial hs zd_219 rfl rfl hob ?_
      refine zg_blk zd_219 3 hs (rfl : zb x zT0 zc_219 3 (74, [some (.ref 92), some (.int v1), some (.int v2), some (.int v3), some (.int v4), some (.int v5), some (.int ((3 * ((10 * v1) + v2)) + v5)), o7], [.int (zr h 128 ((3 * ((10 * v1) + v2)) + v5))], h) = some (80, [some (.ref 92), some (.int v1), some (.int v2), some (.int v3), some (.int v4), some (.int v5), some (.int ((3 * ((10 * v1) + v2)) + v5)), o7], [.int ((3 * ((10 * v1) + v2)) + v5), .ref 129, .int (zr h 128 ((3 * ((10 * v1) + v2)) + v5))], h)) (fun hs => ?_)
      have hob := ho
      refine zg_ial hs zd_219 rfl rfl hob ?_
      refine zg_blk zd_219 5 hs (rfl : zb x zT0 zc_219 5 (81, [some (.ref 92), some (.int v1), some (.int v2), some (.int v3), some (.int v4), some (.int v5), some (.int ((3 * ((10 * v1) + v2)) + v5)), o7], [.int (zr h 129 ((3 * ((10 * v1) + v2)) + v5)), .int (zr h 128 ((3 * ((10 * v1) + v2)) + v5))], h) = some (89, [some (.ref 92), some (.int v1), some (.int v2), some (.int v3), some (.int v4), some (.int v5), some (.int ((3 * ((10 * v1) + v2)) + v5)), some (.int ((zr h 128 ((3 * ((10 * v1) + v2)) + v5)) - ((zr h 129 ((3 * ((10 * v1) + v2)) + v5)) / 100)))], [.int v4], h)) (fun hs => ?_)
      have K76 : zSh zT0 h → zg x (d + 2) 219 104 [some (.ref 92), some (.int v1), some (.int v2), some (.int v3), some (.int v4), some (.int v5), some (.int ((3 * ((10 * v1) + v2)) + v5)), some (.int ((zr h 128 ((3 * ((10 * v1) + v2)) + v5)) - ((zr h 129 ((3 * ((10 * v1) + v2)) + v5)) / 100)))] [.int (if (v4 = 0) then (((zr h 128 ((3 * ((10 * v1) + v2)) + v5)) - ((zr h 129 ((3 * ((10 * v1) + v2)) + v5)) / 100)) : Int32) else (if (((zr h 128 ((3 * ((10 * v1) + v2)) + v5)) - ((zr h 129 ((3 * ((10 * v1) + v2)) + v5)) / 100)) ≤ v3) then (((zr h 128 ((3 * ((10 * v1) + v2)) + v5)) - ((zr h 129 ((3 * ((10 * v1) + v2)) + v5)) / 100)) : Int32) else v3))] h Q := fun hs => by
        refine zg_blk zd_219 3 hs (rfl : zb x zT0 zc_219 3 (104, [some (.ref 92), some (.int v1), some (.int v2), some (.int v3), some (.int v4), some (.int v5), some (.int ((3 * ((10 * v1) + v2)) + v5)), some (.int ((zr h 128 ((3 * ((10 * v1) + v2)) + v5)) - ((zr h 129 ((3 * ((10 * v1) + v2)) + v5)) / 100)))], [.int (if (v4 = 0) then (((zr h 128 ((3 * ((10 * v1) + v2)) + v5)) - ((zr h 129 ((3 * ((10 * v1) + v2)) + v5)) / 100)) : Int32) else (if (((zr h 128 ((3 * ((10 * v1) + v2)) + v5)) - ((zr h 129 ((3 * ((10 * v1) + v2)) + v5)) / 100)) ≤ v3) then (((zr h 128 ((3 * ((10 * v1) + v2)) + v5)) - ((zr h 129 ((3 * ((10 * v1) + v2)) + v5)) / 100)) : Int32) else v3))], h) = some (108, [some (.ref 92), some (.int v1), some (.int v2), some (.int (if (v4 = 0) then (((zr h 128 ((3 * ((10 * v1) + v2)) + v5)) - ((zr h 129 ((3 * ((10 * v1) + v2)) + v5)) / 100)) : Int32) else (if (((zr h 128 ((3 * ((10 * v1) + v2)) + v5)) - ((zr h 129 ((3 * ((10 * v1) + v2)) + v5)) / 100)) ≤ v3) then (((zr h 128 ((3 * ((10 * v1) + v2)) + v5)) - ((zr h 129 ((3 * ((10 * v1) + v2)) + v5)) / 100)) : Int32) else v3))), some (.int 1), some (.int v5), some (.int ((3 * ((10 * v1) + v2)) + v5)), some (.int ((zr h 128 ((3 * ((10 * v1) + v2)) + v5)) - ((zr h 129 ((3 * ((10 * v1) + v2)) + v5)) / 100)))], [], h)) (fun hs => ?_)
        exact K75 (some (.int ((zr h 128 ((3 * ((10 * v1) + v2)) + v5)) - ((zr h 129 ((3 * ((10 * v1) + v2)) + v5)) / 100)))) hs
      refine zg_f_eq zd_219 rfl (fun (hc : (v4 = 0)) => ?_) (fun (hc : ¬ (v4 = 0)) => ?_)
      · skip
        rw [show ((if (v4 = 0) then (((zr h 128 ((3 * ((10 * v1) + v2)) + v5)) - ((zr h 129 ((3 * ((10 * v1) + v2)) + v5)) / 100)) : Int32) else (if (((zr h 128 ((3 * ((10 * v1) + v2)) + v5)) - ((zr h 129 ((3 * ((10 * v1) + v2)) + v5)) / 100)) ≤ v3) then (((zr h 128 ((3 * ((10 * v1) + v2)) + v5)) - ((zr h 129 ((3 * ((10 * v1) + v2)) + v5)) / 100)) : Int32) else v3)) : Int32) = ((zr h 128 ((3 * ((10 * v1) + v2)) + v5)) - ((zr h 129 ((3 * ((10 * v1) + v2)) + v5)) / 100)) from if_pos hc] at K76
        refine zg_blk zd_219 1 hs (rfl : zb x zT0 zc_219 1 (102, [some (.ref 92), some (.int v1), some (.int v2), some (.int v3), some (.int v4), some (.int v5), some (.int ((3 * ((10 * v1) + v2)) + v5)), some (.int ((zr h 128 ((3 * ((10 * v1) + v2)) + v5)) - ((zr h 129 ((3 * ((10 * v1) + v2)) + v5)) / 100)))], [], h) = some (104, [some (.ref 92), some (.int v1), some (.int v2), some (.int v3), some (.int v4), some (.int v5), some (.int ((3 * ((10 * v1) + v2)) + v5)), some (.int ((zr h 128 ((3 * ((10 * v1) + v2)) + v5)) - ((zr h 129 ((3 * ((10 * v1) + v2)) + v5)) / 100)))], [.int ((zr h 128 ((3 * ((10 * v1) + v2)) + v5)) - ((zr h 129 ((3 * ((10 * v1) + v2)) + v5)) / 100))], h)) (fun hs => ?_)
        exact K76 hs
      · skip
        rw [show ((if (v4 = 0) then (((zr h 128 ((3 * ((10 * v1) + v2)) + v5)) - ((zr h 129 ((3 * ((10 * v1) + v2)) + v5)) / 100)) : Int32) else (if (((zr h 128 ((3 * ((10 * v1) + v2)) + v5)) - ((zr h 129 ((3 * ((10 * v1) + v2)) + v5)) / 100)) ≤ v3) then (((zr h 128 ((3 * ((10 * v1) + v2)) + v5)) - ((zr h 129 ((3 * ((10 * v1) + v2)) + v5)) / 100)) : Int32) else v3)) : Int32) = (if (((zr h 128 ((3 * ((10 * v1) + v2)) + v5)) - ((zr h 129 ((3 * ((10 * v1) + v2)) + v5)) / 100)) ≤ v3) then (((zr h 128 ((3 * ((10 * v1) + v2)) + v5)) - ((zr h 129 ((3 * ((10 * v1) + v2)) + v5)) / 100)) : Int32) else v3) from if_neg hc] at K76
        refine zg_blk zd_219 2 hs (rfl : zb x zT0 zc_219 2 (92, [some (.ref 92), some (.int v1), some (.int v2), some (.int v3), some (.int v4), some (.int v5), some (.int ((3 * ((10 * v1) + v2)) + v5)), some (.int ((zr h 128 ((3 * ((10 * v1) + v2)) + v5)) - ((zr h 129 ((3 * ((10 * v1) + v2)) + v5)) / 100)))], [], h) = some (95, [some (.ref 92), some (.int v1), some (.int v2), some (.int v3), some (.int v4), some (.int v5), some (.int ((3 * ((10 * v1) + v2)) + v5)), some (.int ((zr h 128 ((3 * ((10 * v1) + v2)) + v5)) - ((zr h 129 ((3 * ((10 * v1) + v2)) + v5)) / 100)))], [.int ((zr h 128 ((3 * ((10 * v1) + v2)) + v5)) - ((zr h 129 ((3 * ((10 * v1) + v2)) + v5)) / 100)), .int v3], h)) (fun hs => ?_)
        refine zg_i_ge zd_219 rfl (fun (hc : (((zr h 128 ((3 * ((10 * v1) + v2)) + v5)) - ((zr h 129 ((3 * ((10 * v1) + v2)) + v5)) / 100)) ≤ v3)) => ?_) (fun (hc : ¬ (((zr h 128 ((3 * ((10 * v1) + v2)) + v5)) - ((zr h 129 ((3 * ((10 * v1) + v2)) + v5)) / 100)) ≤ v3)) => ?_)
        · skip
          rw [show ((if (((zr h 128 ((3 * ((10 * v1) + v2)) + v5)) - ((zr h 129 ((3 * ((10 * v1) + v2)) + v5)) / 100)) ≤ v3) then (((zr h 128 ((3 * ((10 * v1) + v2)) + v5)) - ((zr h 129 ((3 * ((10 * v1) + v2)) + v5)) / 100)) : Int32) else v3) : Int32) = ((zr h 128 ((3 * ((10 * v1) + v2)) + v5)) - ((zr h 129 ((3 * ((10 * v1) + v2)) + v5)) / 100)) from if_pos hc] at K76
          refine zg_blk zd_219 1 hs (rfl : zb x zT0 zc_219 1 (102, [some (.ref 92), some (.int v1), some (.int v2), some (.int v3), some (.int v4), some (.int v5), some (.int ((3 * ((10 * v1) + v2)) + v5)), some (.int ((zr h 128 ((3 * ((10 * v1) + v2)) + v5)) - ((zr h 129 ((3 * ((10 * v1) + v2)) + v5)) / 100)))], [], h) = some (104, [some (.ref 92), some (.int v1), some (.int v2), some (.int v3), some (.int v4), some (.int v5), some (.int ((3 * ((10 * v1) + v2)) + v5)), some (.int ((zr h 128 ((3 * ((10 * v1) + v2)) + v5)) - ((zr h 129 ((3 * ((10 * v1) + v2)) + v5)) / 100)))], [.int ((zr h 128 ((3 * ((10 * v1) + v2)) + v5)) - ((zr h 129 ((3 * ((10 * v1) + v2)) + v5)) / 100))], h)) (fun hs => ?_)
          exact K76 hs
        · skip
          rw [show ((if (((zr h 128 ((3 * ((10 * v1) + v2)) + v5)) - ((zr h 129 ((3 * ((10 * v1) + v2)) + v5)) / 100)) ≤ v3) then (((zr h 128 ((3 * ((10 * v1) + v2)) + v5)) - ((zr h 129 ((3 * ((10 * v1) + v2)) + v5)) / 100)) : Int32) else v3) : Int32) = v3 from if_neg hc] at K76
          refine zg_blk zd_219 2 hs (rfl : zb x zT0 zc_219 2 (98, [some (.ref 92), some (.int v1), some (.int v2), some (.int v3), some (.int v4), some (.int v5), some (.int ((3 * ((10 * v1) + v2)) + v5)), some (.int ((zr h 128 ((3 * ((10 * v1) + v2)) + v5)) - ((zr h 129 ((3 * ((10 * v1) + v2)) + v5)) / 100)))], [], h) = some (104, [some (.ref 92), some (.int v1), some (.int v2), some (.int v3), some (.int v4), some (.int v5), some (.int ((3 * ((10 * v1) + v2)) + v5)), some (.int ((zr h 128 ((3 * ((10 * v1) + v2)) + v5)) - ((zr h 129 ((3 * ((10 * v1) + v2)) + v5)) / 100)))], [.int v3], h)) (fun hs => ?_)
          exact K76 hs
    · have ho := hom.1 hc
      rw [show ((if ((f_M_chainHolds ((3 * ((10 * v1) + v2)) + v5) h) = 0) then (v3 : Int32) else (if (v4 = 0) then (((zr h 128 ((3 * ((10 * v1) + v2)) + v5)) - ((zr h 129 ((3 * ((10 * v1) + v2)) + v5)) / 100)) : Int32) else (if (((zr h 128 ((3 * ((10 * v1) + v2)) + v5)) - ((zr h 129 ((3 * ((10 * v1) + v2)) + v5)) / 100)) ≤ v3) then (((zr h 128 ((3 * ((10 * v1) + v2)) + v5)) - ((zr h 129 ((3 * ((10 * v1) + v2)) + v5)) / 100)) : Int32) else v3))) : Int32) = v3 from if_pos hc] at K75
      rw [show ((if ((f_M_chainHolds ((3 * ((10 * v1) + v2)) + v5) h) = 0) then (v4 : Int32) else 1) : Int32) = v4 from if_pos hc] at K75
      refine zg_blk zd_219 1 hs (rfl : zb x zT0 zc_219 1 (64, [some (.ref 92), some (.int v1), some (.int v2), some (.int v3), some (.int v4), some (.int v5), some (.int ((3 * ((10 * v1) + v2)) + v5)), o7], [], h) = some (108, [some (.ref 92), some (.int v1), some (.int v2), some (.int v3), some (.int v4), some (.int v5), some (.int ((3 * ((10 * v1) + v2)) + v5)), o7], [], h)) (fun hs => ?_)
      exact K75 (o7) hs
theorem f_M_leastHold_l40_t {x : zm_X} {d : Nat} (v1 : Int32) (v2 : Int32) (h : zm_H) {Q : Option Value → zm_H → Prop} (G : Nat × Int32 × Int32 × Int32 → Prop) (hx1 : ∀ (v3 : Int32) (v4 : Int32) (v5 : Int32) (o5 : Option Value) (o6 : Option Value) (o7 : Option Value), zSh zT0 h → G (1, v3, v4, v5) → zg x (d + 2) 219 114 [some (.ref 92), some (.int v1), some (.int v2), some (.int v3), some (.int v4), o5, o6, o7] [] h Q) : ∀ (n : Nat) (v3 : Int32) (v4 : Int32) (v5 : Int32) (o6 : Option Value) (o7 : Option Value), zSh zT0 h → f_M_leastHold_l40_ok v1 v2 h n (v3, v4, v5) → G (f_M_leastHold_l40 v1 v2 h n (v3, v4, v5)) → zg x (d + 2) 219 40 [some (.ref 92), some (.int v1), some (.int v2), some (.int v3), some (.int v4), some (.int v5), o6, o7] [] h Q := by
  intro n
  induction n with
  | zero => intro v3 v4 v5 o6 o7 hs ho hG; exact ho.elim
  | succ n ih =>
    intro v3 v4 v5 o6 o7 hs ho hG
    refine f_M_leastHold_l40_b_t (FN := fun r => (r.1 = 0 → f_M_leastHold_l40_ok v1 v2 h n r.2) ∧ G (if r.1 = 0 then f_M_leastHold_l40 v1 v2 h n r.2 else r)) v1 v2 v3 v4 v5 h o6 o7 hs ho.1 ⟨ho.2, hG⟩ ?_ ?_
    · intro v3 v4 v5 o6 o7 hs hF
      exact ih v3 v4 v5 o6 o7 hs (hF.1 rfl) hF.2
    · intro v3 v4 v5 o5 o6 o7 hs hF
      exact hx1 v3 v4 v5 o5 o6 o7 hs hF.2

set_option maxRecDepth 100000 in
set_option maxHeartbeats 400000 in
theorem f_M_leastHold_k114_t {x : zm_X} {d : Nat} (v3 : Int32) (v4 : Int32) (h : zm_H) (o0 : Option Value) (o1 : Option Value) (z2 : Int32) (o5 : Option Value) (o6 : Option Value) (o7 : Option Value) {Q : Option Value → zm_H → Prop} (hs : zSh zT0 h) (ho : f_M_leastHold_k114_ok v3 v4 h) (hF : Q (some (.int (f_M_leastHold_k114 v3 v4 h))) h) : zg x (d + 2) 219 114 [o0, o1, some (.int z2), some (.int v3), some (.int v4), o5, o6, o7] [] h Q := by
  unfold f_M_leastHold_k114 at hF
  unfold f_M_leastHold_k114_ok at ho
  refine zg_blk zd_219 1 hs (rfl : zb x zT0 zc_219 1 (114, [o0, o1, some (.int z2), some (.int v3), some (.int v4), o5, o6, o7], [], h) = some (116, [o0, o1, some (.int z2), some (.int v3), some (.int v4), o5, o6, o7], [.int v4], h)) (fun hs => ?_)
  have K77 : zSh zT0 h → zg x (d + 2) 219 124 [o0, o1, some (.int z2), some (.int v3), some (.int v4), o5, o6, o7] [.int (if (v4 = 0) then (0 : Int32) else v3)] h Q := fun hs => by
    exact zg_ret zd_219 rfl rfl hF
  refine zg_f_eq zd_219 rfl (fun (hc : (v4 = 0)) => ?_) (fun (hc : ¬ (v4 = 0)) => ?_)
  · skip
    rw [show ((if (v4 = 0) then (0 : Int32) else v3) : Int32) = 0 from if_pos hc] at K77
    refine zg_blk zd_219 1 hs (rfl : zb x zT0 zc_219 1 (123, [o0, o1, some (.int z2), some (.int v3), some (.int v4), o5, o6, o7], [], h) = some (124, [o0, o1, some (.int z2), some (.int v3), some (.int v4), o5, o6, o7], [.int 0], h)) (fun hs => ?_)
    exact K77 hs
  · skip
    rw [show ((if (v4 = 0) then (0 : Int32) else v3) : Int32) = v3 from if_neg hc] at K77
    refine zg_blk zd_219 2 hs (rfl : zb x zT0 zc_219 2 (119, [o0, o1, some (.int z2), some (.int v3), some (.int v4), o5, o6, o7], [], h) = some (124, [o0, o1, some (.int z2), some (.int v3), some (.int v4), o5, o6, o7], [.int v3], h)) (fun hs => ?_)
    exact K77 hs
set_option maxRecDepth 100000 in
set_option maxHeartbeats 400000 in
theorem f_M_leastHold_k37_t {x : zm_X} {d : Nat} (v1 : Int32) (v2 : Int32) (v3 : Int32) (v4 : Int32) (h : zm_H) (o5 : Option Value) (o6 : Option Value) (o7 : Option Value) {Q : Option Value → zm_H → Prop} (hs : zSh zT0 h) (ho : f_M_leastHold_k37_ok v1 v2 v3 v4 h) (hF : Q (some (.int (f_M_leastHold_k37 v1 v2 v3 v4 h))) h) : zg x (d + 2) 219 37 [some (.ref 92), some (.int v1), some (.int v2), some (.int v3), some (.int v4), o5, o6, o7] [] h Q := by
  unfold f_M_leastHold_k37 at hF
  unfold f_M_leastHold_k37_ok at ho
  refine zg_blk zd_219 2 hs (rfl : zb x zT0 zc_219 2 (37, [some (.ref 92), some (.int v1), some (.int v2), some (.int v3), some (.int v4), o5, o6, o7], [], h) = some (40, [some (.ref 92), some (.int v1), some (.int v2), some (.int v3), some (.int v4), some (.int 0), o6, o7], [], h)) (fun hs => ?_)
  refine f_M_leastHold_l40_t v1 v2 h (fun r => f_M_leastHold_a40_ok r h ∧ Q (some (.int (f_M_leastHold_a40 r h))) h) ?_ zF v3 v4 0 (o6) (o7) hs ho.1 ⟨ho.2, hF⟩
  · intro v3_ v4_ v5_ o5_ o6_ o7_ hs hG
    have ho : True := trivial
    have hF : Q (some (.int ((f_M_leastHold_k114 v3_ v4_ h)))) h := hG.2
    exact f_M_leastHold_k114_t v3_ v4_ h (some (.ref 92)) (some (.int v1)) v2 (o5_) (o6_) (o7_) hs trivial hF
set_option maxRecDepth 100000 in
set_option maxHeartbeats 400000 in
theorem f_M_leastHold_t {x : zm_X} {d : Nat} (p1 : Int32) (p2 : Int32) (h : zm_H) {Q : Option Value → zm_H → Prop} (hs : zSh zT0 h) (ho : f_M_leastHold_ok p1 p2 h) (hF : Q (some (.int (f_M_leastHold p1 p2 h))) h) : zg x (d + 2) 219 0 [some (.ref 92), some (.int p1), some (.int p2), none, none, none, none, none] [] h Q := by
  unfold f_M_leastHold at hF
  unfold f_M_leastHold_ok at ho
  refine zg_blk zd_219 11 hs (rfl : zb x zT0 zc_219 11 (0, [some (.ref 92), some (.int p1), some (.int p2), none, none, none, none, none], [], h) = some (15, [some (.ref 92), some (.int p1), some (.int p2), some (.int (-1)), some (.int 0), none, none, none], [.int ((10 * p1) + p2), .ref 123], h)) (fun hs => ?_)
  obtain ⟨hob, ho⟩ := ho
  refine zg_ial hs zd_219 rfl rfl hob ?_
  refine zg_blk zd_219 1 hs (rfl : zb x zT0 zc_219 1 (16, [some (.ref 92), some (.int p1), some (.int p2), some (.int (-1)), some (.int 0), none, none, none], [.int (zr h 123 ((10 * p1) + p2))], h) = some (17, [some (.ref 92), some (.int p1), some (.int p2), some (.int (-1)), some (.int 0), none, none, none], [.int 1, .int (zr h 123 ((10 * p1) + p2))], h)) (fun hs => ?_)
  refine zg_i_eq zd_219 rfl (fun (hc : ((zr h 123 ((10 * p1) + p2)) = 1)) => ?_) (fun (hc : ¬ ((zr h 123 ((10 * p1) + p2)) = 1)) => ?_)
  · have ho := ho.1 hc
    rw [if_pos hc] at hF
    exact f_M_leastHold_k37_t p1 p2 (-1) 0 h (none) (none) (none) hs ho hF
  · have ho := ho.2 hc
    rw [if_neg hc] at hF
    refine zg_blk zd_219 7 hs (rfl : zb x zT0 zc_219 7 (20, [some (.ref 92), some (.int p1), some (.int p2), some (.int (-1)), some (.int 0), none, none, none], [], h) = some (30, [some (.ref 92), some (.int p1), some (.int p2), some (.int (-1)), some (.int 0), none, none, none], [.int ((10 * p1) + p2), .ref 123], h)) (fun hs => ?_)
    obtain ⟨hob, ho⟩ := ho
    refine zg_ial hs zd_219 rfl rfl hob ?_
    refine zg_blk zd_219 1 hs (rfl : zb x zT0 zc_219 1 (31, [some (.ref 92), some (.int p1), some (.int p2), some (.int (-1)), some (.int 0), none, none, none], [.int (zr h 123 ((10 * p1) + p2))], h) = some (32, [some (.ref 92), some (.int p1), some (.int p2), some (.int (-1)), some (.int 0), none, none, none], [.int 2, .int (zr h 123 ((10 * p1) + p2))], h)) (fun hs => ?_)
    refine zg_i_eq zd_219 rfl (fun (hc : ((zr h 123 ((10 * p1) + p2)) = 2)) => ?_) (fun (hc : ¬ ((zr h 123 ((10 * p1) + p2)) = 2)) => ?_)
    · have ho := ho.1 hc
      rw [if_pos hc] at hF
      exact f_M_leastHold_k37_t p1 p2 (-1) 0 h (none) (none) (none) hs ho hF
    · have ho := ho.2 hc
      rw [if_neg hc] at hF
      refine zg_blk zd_219 1 hs (rfl : zb x zT0 zc_219 1 (35, [some (.ref 92), some (.int p1), some (.int p2), some (.int (-1)), some (.int 0), none, none, none], [], h) = some (36, [some (.ref 92), some (.int p1), some (.int p2), some (.int (-1)), some (.int 0), none, none, none], [.int 0], h)) (fun hs => ?_)
      exact zg_ret zd_219 rfl rfl hF
set_option maxRecDepth 100000 in
set_option maxHeartbeats 400000 in
theorem f_M_asks_t {x : zm_X} {d : Nat} (p1 : Int32) (p2 : Int32) (p3 : Int32) (h : zm_H) {Q : Option Value → zm_H → Prop} (hs : zSh zT0 h) (ho : f_M_asks_ok p1 p2 p3 h) (hF : (zSh zT0 (f_M_asks p1 p2 p3 h) → Q none (f_M_asks p1 p2 p3 h))) : zg x (d + 3) 218 0 [some (.ref 92), some (.int p1), some (.int p2), some (.int p3), none] [] h Q := by
  unfold f_M_asks at hF
  unfold f_M_asks_ok at ho
  refine zg_blk zd_218 5 hs (rfl : zb x zT0 zc_218 5 (0, [some (.ref 92), some (.int p1), some (.int p2), some (.int p3), none], [], h) = some (9, [some (.ref 92), some (.int p1), some (.int p2), some (.int p3), none], [.int (zf h 92 79), .int 0, .ref 149], h)) (fun hs => ?_)
  refine zg_ias hs zd_218 rfl rfl (by unfold vp_in; decide) (fun hs => ?_)
  refine zg_blk zd_218 5 hs (rfl : zb x zT0 zc_218 5 (10, [some (.ref 92), some (.int p1), some (.int p2), some (.int p3), none], [], (zs h 149 0 (zf h 92 79))) = some (19, [some (.ref 92), some (.int p1), some (.int p2), some (.int p3), none], [.int (zf h 92 80), .int 1, .ref 149], (zs h 149 0 (zf h 92 79)))) (fun hs => ?_)
  refine zg_ias hs zd_218 rfl rfl (by unfold vp_in; decide) (fun hs => ?_)
  refine zg_blk zd_218 7 hs (rfl : zb x zT0 zc_218 7 (20, [some (.ref 92), some (.int p1), some (.int p2), some (.int p3), none], [], (zs (zs h 149 0 (zf h 92 79)) 149 1 (zf h 92 80))) = some (31, [some (.ref 92), some (.int p1), some (.int p2), some (.int p3), none], [.int ((zf h 92 81) + 1), .int 2, .ref 149], (zs (zs h 149 0 (zf h 92 79)) 149 1 (zf h 92 80)))) (fun hs => ?_)
  refine zg_ias hs zd_218 rfl rfl (by unfold vp_in; decide) (fun hs => ?_)
  refine zg_blk zd_218 6 hs (rfl : zb x zT0 zc_218 6 (32, [some (.ref 92), some (.int p1), some (.int p2), some (.int p3), none], [], (zs (zs (zs h 149 0 (zf h 92 79)) 149 1 (zf h 92 80)) 149 2 ((zf h 92 81) + 1))) = some (42, [some (.ref 92), some (.int p1), some (.int p2), some (.int p3), none], [.int (p3 / 8), .int 6, .ref 149], (zs (zs (zs h 149 0 (zf h 92 79)) 149 1 (zf h 92 80)) 149 2 ((zf h 92 81) + 1)))) (fun hs => ?_)
  refine zg_ias hs zd_218 rfl rfl (by unfold vp_in; decide) (fun hs => ?_)
  refine zg_blk zd_218 6 hs (rfl : zb x zT0 zc_218 6 (43, [some (.ref 92), some (.int p1), some (.int p2), some (.int p3), none], [], (zs (zs (zs (zs h 149 0 (zf h 92 79)) 149 1 (zf h 92 80)) 149 2 ((zf h 92 81) + 1)) 149 6 (p3 / 8))) = some (53, [some (.ref 92), some (.int p1), some (.int p2), some (.int p3), none], [.int (zm_rm p3 8), .int 7, .ref 149], (zs (zs (zs (zs h 149 0 (zf h 92 79)) 149 1 (zf h 92 80)) 149 2 ((zf h 92 81) + 1)) 149 6 (p3 / 8)))) (fun hs => ?_)
  refine zg_ias hs zd_218 rfl rfl (by unfold vp_in; decide) (fun hs => ?_)
  refine zg_blk zd_218 11 hs (rfl : zb x zT0 zc_218 11 (54, [some (.ref 92), some (.int p1), some (.int p2), some (.int p3), none], [], (zs (zs (zs (zs (zs h 149 0 (zf h 92 79)) 149 1 (zf h 92 80)) 149 2 ((zf h 92 81) + 1)) 149 6 (p3 / 8)) 149 7 (zm_rm p3 8))) = some (69, [some (.ref 92), some (.int p1), some (.int p2), some (.int p3), some (.int ((10 * p1) + p2))], [.int (-1), .int p2, .int 3, .ref 149], (zs (zs (zs (zs (zs h 149 0 (zf h 92 79)) 149 1 (zf h 92 80)) 149 2 ((zf h 92 81) + 1)) 149 6 (p3 / 8)) 149 7 (zm_rm p3 8)))) (fun hs => ?_)
  obtain ⟨hom, ho⟩ := ho
  have K78 : zSh zT0 (zs (zs (zs (zs (zs h 149 0 (zf h 92 79)) 149 1 (zf h 92 80)) 149 2 ((zf h 92 81) + 1)) 149 6 (p3 / 8)) 149 7 (zm_rm p3 8)) → zg x (d + 3) 218 83 [some (.ref 92), some (.int p1), some (.int p2), some (.int p3), some (.int ((10 * p1) + p2))] [.int (if (p2 = (-1)) then (0 : Int32) else (zr h 126 ((10 * p1) + p2))), .int 3, .ref 149] (zs (zs (zs (zs (zs h 149 0 (zf h 92 79)) 149 1 (zf h 92 80)) 149 2 ((zf h 92 81) + 1)) 149 6 (p3 / 8)) 149 7 (zm_rm p3 8)) Q := fun hs => by
    refine zg_ias hs zd_218 rfl rfl (by unfold vp_in; decide) (fun hs => ?_)
    refine zg_blk zd_218 5 hs (rfl : zb x zT0 zc_218 5 (84, [some (.ref 92), some (.int p1), some (.int p2), some (.int p3), some (.int ((10 * p1) + p2))], [], (zs (zs (zs (zs (zs (zs h 149 0 (zf h 92 79)) 149 1 (zf h 92 80)) 149 2 ((zf h 92 81) + 1)) 149 6 (p3 / 8)) 149 7 (zm_rm p3 8)) 149 3 (if (p2 = (-1)) then (0 : Int32) else (zr h 126 ((10 * p1) + p2))))) = some (91, [some (.ref 92), some (.int p1), some (.int p2), some (.int p3), some (.int ((10 * p1) + p2))], [.int (-1), .int p2, .int 4, .ref 149], (zs (zs (zs (zs (zs (zs h 149 0 (zf h 92 79)) 149 1 (zf h 92 80)) 149 2 ((zf h 92 81) + 1)) 149 6 (p3 / 8)) 149 7 (zm_rm p3 8)) 149 3 (if (p2 = (-1)) then (0 : Int32) else (zr h 126 ((10 * p1) + p2)))))) (fun hs => ?_)
    obtain ⟨hom, ho⟩ := ho
    have K79 : zSh zT0 (zs (zs (zs (zs (zs (zs h 149 0 (zf h 92 79)) 149 1 (zf h 92 80)) 149 2 ((zf h 92 81) + 1)) 149 6 (p3 / 8)) 149 7 (zm_rm p3 8)) 149 3 (if (p2 = (-1)) then (0 : Int32) else (zr h 126 ((10 * p1) + p2)))) → zg x (d + 3) 218 104 [some (.ref 92), some (.int p1), some (.int p2), some (.int p3), some (.int ((10 * p1) + p2))] [.int (if (p2 = (-1)) then (0 : Int32) else (f_M_leastHold p1 p2 (zs (zs (zs (zs (zs (zs h 149 0 (zf h 92 79)) 149 1 (zf h 92 80)) 149 2 ((zf h 92 81) + 1)) 149 6 (p3 / 8)) 149 7 (zm_rm p3 8)) 149 3 (if (p2 = (-1)) then (0 : Int32) else (zr h 126 ((10 * p1) + p2)))))), .int 4, .ref 149] (zs (zs (zs (zs (zs (zs h 149 0 (zf h 92 79)) 149 1 (zf h 92 80)) 149 2 ((zf h 92 81) + 1)) 149 6 (p3 / 8)) 149 7 (zm_rm p3 8)) 149 3 (if (p2 = (-1)) then (0 : Int32) else (zr h 126 ((10 * p1) + p2)))) Q := fun hs => by
      refine zg_ias hs zd_218 rfl rfl (by unfold vp_in; decide) (fun hs => ?_)
      refine zg_blk zd_218 5 hs (rfl : zb x zT0 zc_218 5 (105, [some (.ref 92), some (.int p1), some (.int p2), some (.int p3), some (.int ((10 * p1) + p2))], [], (zs (zs (zs (zs (zs (zs (zs h 149 0 (zf h 92 79)) 149 1 (zf h 92 80)) 149 2 ((zf h 92 81) + 1)) 149 6 (p3 / 8)) 149 7 (zm_rm p3 8)) 149 3 (if (p2 = (-1)) then (0 : Int32) else (zr h 126 ((10 * p1) + p2)))) 149 4 (if (p2 = (-1)) then (0 : Int32) else (f_M_leastHold p1 p2 (zs (zs (zs (zs (zs (zs h 149 0 (zf h 92 79)) 149 1 (zf h 92 80)) 149 2 ((zf h 92 81) + 1)) 149 6 (p3 / 8)) 149 7 (zm_rm p3 8)) 149 3 (if (p2 = (-1)) then (0 : Int32) else (zr h 126 ((10 * p1) + p2)))))))) = some (112, [some (.ref 92), some (.int p1), some (.int p2), some (.int p3), some (.int ((10 * p1) + p2))], [.int (-1), .int p2, .int 5, .ref 149], (zs (zs (zs (zs (zs (zs (zs h 149 0 (zf h 92 79)) 149 1 (zf h 92 80)) 149 2 ((zf h 92 81) + 1)) 149 6 (p3 / 8)) 149 7 (zm_rm p3 8)) 149 3 (if (p2 = (-1)) then (0 : Int32) else (zr h 126 ((10 * p1) + p2)))) 149 4 (if (p2 = (-1)) then (0 : Int32) else (f_M_leastHold p1 p2 (zs (zs (zs (zs (zs (zs h 149 0 (zf h 92 79)) 149 1 (zf h 92 80)) 149 2 ((zf h 92 81) + 1)) 149 6 (p3 / 8)) 149 7 (zm_rm p3 8)) 149 3 (if (p2 = (-1)) then (0 : Int32) else (zr h 126 ((10 * p1) + p2))))))))) (fun hs => ?_)
      obtain ⟨hom, ho⟩ := ho
      have K80 : zSh zT0 (zs (zs (zs (zs (zs (zs (zs h 149 0 (zf h 92 79)) 149 1 (zf h 92 80)) 149 2 ((zf h 92 81) + 1)) 149 6 (p3 / 8)) 149 7 (zm_rm p3 8)) 149 3 (if (p2 = (-1)) then (0 : Int32) else (zr h 126 ((10 * p1) + p2)))) 149 4 (if (p2 = (-1)) then (0 : Int32) else (f_M_leastHold p1 p2 (zs (zs (zs (zs (zs (zs h 149 0 (zf h 92 79)) 149 1 (zf h 92 80)) 149 2 ((zf h 92 81) + 1)) 149 6 (p3 / 8)) 149 7 (zm_rm p3 8)) 149 3 (if (p2 = (-1)) then (0 : Int32) else (zr h 126 ((10 * p1) + p2))))))) → zg x (d + 3) 218 125 [some (.ref 92), some (.int p1), some (.int p2), some (.int p3), some (.int ((10 * p1) + p2))] [.int (if (p2 = (-1)) then (0 : Int32) else (zr h 112 p2)), .int 5, .ref 149] (zs (zs (zs (zs (zs (zs (zs h 149 0 (zf h 92 79)) 149 1 (zf h 92 80)) 149 2 ((zf h 92 81) + 1)) 149 6 (p3 / 8)) 149 7 (zm_rm p3 8)) 149 3 (if (p2 = (-1)) then (0 : Int32) else (zr h 126 ((10 * p1) + p2)))) 149 4 (if (p2 = (-1)) then (0 : Int32) else (f_M_leastHold p1 p2 (zs (zs (zs (zs (zs (zs h 149 0 (zf h 92 79)) 149 1 (zf h 92 80)) 149 2 ((zf h 92 81) + 1)) 149 6 (p3 / 8)) 149 7 (zm_rm p3 8)) 149 3 (if (p2 = (-1)) then (0 : Int32) else (zr h 126 ((10 * p1) + p2))))))) Q := fun hs => by
        refine zg_ias hs zd_218 rfl rfl (by unfold vp_in; decide) (fun hs => ?_)
        refine zg_blk zd_218 5 hs (rfl : zb x zT0 zc_218 5 (126, [some (.ref 92), some (.int p1), some (.int p2), some (.int p3), some (.int ((10 * p1) + p2))], [], (zs (zs (zs (zs (zs (zs (zs (zs h 149 0 (zf h 92 79)) 149 1 (zf h 92 80)) 149 2 ((zf h 92 81) + 1)) 149 6 (p3 / 8)) 149 7 (zm_rm p3 8)) 149 3 (if (p2 = (-1)) then (0 : Int32) else (zr h 126 ((10 * p1) + p2)))) 149 4 (if (p2 = (-1)) then (0 : Int32) else (f_M_leastHold p1 p2 (zs (zs (zs (zs (zs (zs h 149 0 (zf h 92 79)) 149 1 (zf h 92 80)) 149 2 ((zf h 92 81) + 1)) 149 6 (p3 / 8)) 149 7 (zm_rm p3 8)) 149 3 (if (p2 = (-1)) then (0 : Int32) else (zr h 126 ((10 * p1) + p2))))))) 149 5 (if (p2 = (-1)) then (0 : Int32) else (zr h 112 p2)))) = some (134, [some (.ref 92), some (.int p1), some (.int p2), some (.int p3), some (.int ((10 * p1) + p2))], [.int (-1), .int p2, .int 8, .ref 149], (zs (zs (zs (zs (zs (zs (zs (zs h 149 0 (zf h 92 79)) 149 1 (zf h 92 80)) 149 2 ((zf h 92 81) + 1)) 149 6 (p3 / 8)) 149 7 (zm_rm p3 8)) 149 3 (if (p2 = (-1)) then (0 : Int32) else (zr h 126 ((10 * p1) + p2)))) 149 4 (if (p2 = (-1)) then (0 : Int32) else (f_M_leastHold p1 p2 (zs (zs (zs (zs (zs (zs h 149 0 (zf h 92 79)) 149 1 (zf h 92 80)) 149 2 ((zf h 92 81) + 1)) 149 6 (p3 / 8)) 149 7 (zm_rm p3 8)) 149 3 (if (p2 = (-1)) then (0 : Int32) else (zr h 126 ((10 * p1) + p2))))))) 149 5 (if (p2 = (-1)) then (0 : Int32) else (zr h 112 p2))))) (fun hs => ?_)
        have hom := ho
        have K81 : zSh zT0 (zs (zs (zs (zs (zs (zs (zs (zs h 149 0 (zf h 92 79)) 149 1 (zf h 92 80)) 149 2 ((zf h 92 81) + 1)) 149 6 (p3 / 8)) 149 7 (zm_rm p3 8)) 149 3 (if (p2 = (-1)) then (0 : Int32) else (zr h 126 ((10 * p1) + p2)))) 149 4 (if (p2 = (-1)) then (0 : Int32) else (f_M_leastHold p1 p2 (zs (zs (zs (zs (zs (zs h 149 0 (zf h 92 79)) 149 1 (zf h 92 80)) 149 2 ((zf h 92 81) + 1)) 149 6 (p3 / 8)) 149 7 (zm_rm p3 8)) 149 3 (if (p2 = (-1)) then (0 : Int32) else (zr h 126 ((10 * p1) + p2))))))) 149 5 (if (p2 = (-1)) then (0 : Int32) else (zr h 112 p2))) → zg x (d + 3) 218 164 [some (.ref 92), some (.int p1), some (.int p2), some (.int p3), some (.int ((10 * p1) + p2))] [.int (if (¬ (p2 = (-1)) ∧ (((zr h 123 ((10 * p1) + p2)) = 1) ∨ ((zr h 123 ((10 * p1) + p2)) = 2))) then (1 : Int32) else 0), .int 8, .ref 149] (zs (zs (zs (zs (zs (zs (zs (zs h 149 0 (zf h 92 79)) 149 1 (zf h 92 80)) 149 2 ((zf h 92 81) + 1)) 149 6 (p3 / 8)) 149 7 (zm_rm p3 8)) 149 3 (if (p2 = (-1)) then (0 : Int32) else (zr h 126 ((10 * p1) + p2)))) 149 4 (if (p2 = (-1)) then (0 : Int32) else (f_M_leastHold p1 p2 (zs (zs (zs (zs (zs (zs h 149 0 (zf h 92 79)) 149 1 (zf h 92 80)) 149 2 ((zf h 92 81) + 1)) 149 6 (p3 / 8)) 149 7 (zm_rm p3 8)) 149 3 (if (p2 = (-1)) then (0 : Int32) else (zr h 126 ((10 * p1) + p2))))))) 149 5 (if (p2 = (-1)) then (0 : Int32) else (zr h 112 p2))) Q := fun hs => by
          refine zg_ias hs zd_218 rfl rfl (by unfold vp_in; decide) (fun hs => ?_)
          exact zg_ret zd_218 rfl rfl (hF hs)
        refine zg_i_eq zd_218 rfl (fun (hc : (p2 = (-1))) => ?_) (fun (hc : ¬ (p2 = (-1))) => ?_)
        · have ho := hom.1 hc
          rw [show ((if (¬ (p2 = (-1)) ∧ (((zr h 123 ((10 * p1) + p2)) = 1) ∨ ((zr h 123 ((10 * p1) + p2)) = 2))) then (1 : Int32) else 0) : Int32) = 0 from zb_nand_t hc] at K81
          refine zg_blk zd_218 1 hs (rfl : zb x zT0 zc_218 1 (163, [some (.ref 92), some (.int p1), some (.int p2), some (.int p3), some (.int ((10 * p1) + p2))], [.int 8, .ref 149], (zs (zs (zs (zs (zs (zs (zs (zs h 149 0 (zf h 92 79)) 149 1 (zf h 92 80)) 149 2 ((zf h 92 81) + 1)) 149 6 (p3 / 8)) 149 7 (zm_rm p3 8)) 149 3 (if (p2 = (-1)) then (0 : Int32) else (zr h 126 ((10 * p1) + p2)))) 149 4 (if (p2 = (-1)) then (0 : Int32) else (f_M_leastHold p1 p2 (zs (zs (zs (zs (zs (zs h 149 0 (zf h 92 79)) 149 1 (zf h 92 80)) 149 2 ((zf h 92 81) + 1)) 149 6 (p3 / 8)) 149 7 (zm_rm p3 8)) 149 3 (if (p2 = (-1)) then (0 : Int32) else (zr h 126 ((10 * p1) + p2))))))) 149 5 (if (p2 = (-1)) then (0 : Int32) else (zr h 112 p2)))) = some (164, [some (.ref 92), some (.int p1), some (.int p2), some (.int p3), some (.int ((10 * p1) + p2))], [.int 0, .int 8, .ref 149], (zs (zs (zs (zs (zs (zs (zs (zs h 149 0 (zf h 92 79)) 149 1 (zf h 92 80)) 149 2 ((zf h 92 81) + 1)) 149 6 (p3 / 8)) 149 7 (zm_rm p3 8)) 149 3 (if (p2 = (-1)) then (0 : Int32) else (zr h 126 ((10 * p1) + p2)))) 149 4 (if (p2 = (-1)) then (0 : Int32) else (f_M_leastHold p1 p2 (zs (zs (zs (zs (zs (zs h 149 0 (zf h 92 79)) 149 1 (zf h 92 80)) 149 2 ((zf h 92 81) + 1)) 149 6 (p3 / 8)) 149 7 (zm_rm p3 8)) 149 3 (if (p2 = (-1)) then (0 : Int32) else (zr h 126 ((10 * p1) + p2))))))) 149 5 (if (p2 = (-1)) then (0 : Int32) else (zr h 112 p2))))) (fun hs => ?_)
          exact K81 hs
        · have ho := hom.2 hc
          rw [show ((if (¬ (p2 = (-1)) ∧ (((zr h 123 ((10 * p1) + p2)) = 1) ∨ ((zr h 123 ((10 * p1) + p2)) = 2))) then (1 : Int32) else 0) : Int32) = (if (((zr h 123 ((10 * p1) + p2)) = 1) ∨ ((zr h 123 ((10 * p1) + p2)) = 2)) then (1 : Int32) else 0) from zb_nand_f hc] at K81
          refine zg_blk zd_218 3 hs (rfl : zb x zT0 zc_218 3 (137, [some (.ref 92), some (.int p1), some (.int p2), some (.int p3), some (.int ((10 * p1) + p2))], [.int 8, .ref 149], (zs (zs (zs (zs (zs (zs (zs (zs h 149 0 (zf h 92 79)) 149 1 (zf h 92 80)) 149 2 ((zf h 92 81) + 1)) 149 6 (p3 / 8)) 149 7 (zm_rm p3 8)) 149 3 (if (p2 = (-1)) then (0 : Int32) else (zr h 126 ((10 * p1) + p2)))) 149 4 (if (p2 = (-1)) then (0 : Int32) else (f_M_leastHold p1 p2 (zs (zs (zs (zs (zs (zs h 149 0 (zf h 92 79)) 149 1 (zf h 92 80)) 149 2 ((zf h 92 81) + 1)) 149 6 (p3 / 8)) 149 7 (zm_rm p3 8)) 149 3 (if (p2 = (-1)) then (0 : Int32) else (zr h 126 ((10 * p1) + p2))))))) 149 5 (if (p2 = (-1)) then (0 : Int32) else (zr h 112 p2)))) = some (143, [some (.ref 92), some (.int p1), some (.int p2), some (.int p3), some (.int ((10 * p1) + p2))], [.int ((10 * p1) + p2), .ref 123, .int 8, .ref 149], (zs (zs (zs (zs (zs (zs (zs (zs h 149 0 (zf h 92 79)) 149 1 (zf h 92 80)) 149 2 ((zf h 92 81) + 1)) 149 6 (p3 / 8)) 149 7 (zm_rm p3 8)) 149 3 (if (p2 = (-1)) then (0 : Int32) else (zr h 126 ((10 * p1) + p2)))) 149 4 (if (p2 = (-1)) then (0 : Int32) else (f_M_leastHold p1 p2 (zs (zs (zs (zs (zs (zs h 149 0 (zf h 92 79)) 149 1 (zf h 92 80)) 149 2 ((zf h 92 81) + 1)) 149 6 (p3 / 8)) 149 7 (zm_rm p3 8)) 149 3 (if (p2 = (-1)) then (0 : Int32) else (zr h 126 ((10 * p1) + p2))))))) 149 5 (if (p2 = (-1)) then (0 : Int32) else (zr h 112 p2))))) (fun hs => ?_)
          obtain ⟨hob, ho⟩ := ho
          refine zg_ial hs zd_218 rfl rfl hob ?_
          refine zg_blk zd_218 1 hs (rfl : zb x zT0 zc_218 1 (144, [some (.ref 92), some (.int p1), some (.int p2), some (.int p3), some (.int ((10 * p1) + p2))], [.int (zr h 123 ((10 * p1) + p2)), .int 8, .ref 149], (zs (zs (zs (zs (zs (zs (zs (zs h 149 0 (zf h 92 79)) 149 1 (zf h 92 80)) 149 2 ((zf h 92 81) + 1)) 149 6 (p3 / 8)) 149 7 (zm_rm p3 8)) 149 3 (if (p2 = (-1)) then (0 : Int32) else (zr h 126 ((10 * p1) + p2)))) 149 4 (if (p2 = (-1)) then (0 : Int32) else (f_M_leastHold p1 p2 (zs (zs (zs (zs (zs (zs h 149 0 (zf h 92 79)) 149 1 (zf h 92 80)) 149 2 ((zf h 92 81) + 1)) 149 6 (p3 / 8)) 149 7 (zm_rm p3 8)) 149 3 (if (p2 = (-1)) then (0 : Int32) else (zr h 126 ((10 * p1) + p2))))))) 149 5 (if (p2 = (-1)) then (0 : Int32) else (zr h 112 p2)))) = some (145, [some (.ref 92), some (.int p1), some (.int p2), some (.int p3), some (.int ((10 * p1) + p2))], [.int 1, .int (zr h 123 ((10 * p1) + p2)), .int 8, .ref 149], (zs (zs (zs (zs (zs (zs (zs (zs h 149 0 (zf h 92 79)) 149 1 (zf h 92 80)) 149 2 ((zf h 92 81) + 1)) 149 6 (p3 / 8)) 149 7 (zm_rm p3 8)) 149 3 (if (p2 = (-1)) then (0 : Int32) else (zr h 126 ((10 * p1) + p2)))) 149 4 (if (p2 = (-1)) then (0 : Int32) else (f_M_leastHold p1 p2 (zs (zs (zs (zs (zs (zs h 149 0 (zf h 92 79)) 149 1 (zf h 92 80)) 149 2 ((zf h 92 81) + 1)) 149 6 (p3 / 8)) 149 7 (zm_rm p3 8)) 149 3 (if (p2 = (-1)) then (0 : Int32) else (zr h 126 ((10 * p1) + p2))))))) 149 5 (if (p2 = (-1)) then (0 : Int32) else (zr h 112 p2))))) (fun hs => ?_)
          refine zg_i_eq zd_218 rfl (fun (hc : ((zr h 123 ((10 * p1) + p2)) = 1)) => ?_) (fun (hc : ¬ ((zr h 123 ((10 * p1) + p2)) = 1)) => ?_)
          · have ho := ho.1 hc
            rw [show ((if (((zr h 123 ((10 * p1) + p2)) = 1) ∨ ((zr h 123 ((10 * p1) + p2)) = 2)) then (1 : Int32) else 0) : Int32) = 1 from zb_or_t hc] at K81
            refine zg_blk zd_218 2 hs (rfl : zb x zT0 zc_218 2 (159, [some (.ref 92), some (.int p1), some (.int p2), some (.int p3), some (.int ((10 * p1) + p2))], [.int 8, .ref 149], (zs (zs (zs (zs (zs (zs (zs (zs h 149 0 (zf h 92 79)) 149 1 (zf h 92 80)) 149 2 ((zf h 92 81) + 1)) 149 6 (p3 / 8)) 149 7 (zm_rm p3 8)) 149 3 (if (p2 = (-1)) then (0 : Int32) else (zr h 126 ((10 * p1) + p2)))) 149 4 (if (p2 = (-1)) then (0 : Int32) else (f_M_leastHold p1 p2 (zs (zs (zs (zs (zs (zs h 149 0 (zf h 92 79)) 149 1 (zf h 92 80)) 149 2 ((zf h 92 81) + 1)) 149 6 (p3 / 8)) 149 7 (zm_rm p3 8)) 149 3 (if (p2 = (-1)) then (0 : Int32) else (zr h 126 ((10 * p1) + p2))))))) 149 5 (if (p2 = (-1)) then (0 : Int32) else (zr h 112 p2)))) = some (164, [some (.ref 92), some (.int p1), some (.int p2), some (.int p3), some (.int ((10 * p1) + p2))], [.int 1, .int 8, .ref 149], (zs (zs (zs (zs (zs (zs (zs (zs h 149 0 (zf h 92 79)) 149 1 (zf h 92 80)) 149 2 ((zf h 92 81) + 1)) 149 6 (p3 / 8)) 149 7 (zm_rm p3 8)) 149 3 (if (p2 = (-1)) then (0 : Int32) else (zr h 126 ((10 * p1) + p2)))) 149 4 (if (p2 = (-1)) then (0 : Int32) else (f_M_leastHold p1 p2 (zs (zs (zs (zs (zs (zs h 149 0 (zf h 92 79)) 149 1 (zf h 92 80)) 149 2 ((zf h 92 81) + 1)) 149 6 (p3 / 8)) 149 7 (zm_rm p3 8)) 149 3 (if (p2 = (-1)) then (0 : Int32) else (zr h 126 ((10 * p1) + p2))))))) 149 5 (if (p2 = (-1)) then (0 : Int32) else (zr h 112 p2))))) (fun hs => ?_)
            exact K81 hs
          · have ho := ho.2 hc
            rw [show ((if (((zr h 123 ((10 * p1) + p2)) = 1) ∨ ((zr h 123 ((10 * p1) + p2)) = 2)) then (1 : Int32) else 0) : Int32) = (if ((zr h 123 ((10 * p1) + p2)) = 2) then (1 : Int32) else 0) from zb_or_f hc] at K81
            refine zg_blk zd_218 3 hs (rfl : zb x zT0 zc_218 3 (148, [some (.ref 92), some (.int p1), some (.int p2), some (.int p3), some (.int ((10 * p1) + p2))], [.int 8, .ref 149], (zs (zs (zs (zs (zs (zs (zs (zs h 149 0 (zf h 92 79)) 149 1 (zf h 92 80)) 149 2 ((zf h 92 81) + 1)) 149 6 (p3 / 8)) 149 7 (zm_rm p3 8)) 149 3 (if (p2 = (-1)) then (0 : Int32) else (zr h 126 ((10 * p1) + p2)))) 149 4 (if (p2 = (-1)) then (0 : Int32) else (f_M_leastHold p1 p2 (zs (zs (zs (zs (zs (zs h 149 0 (zf h 92 79)) 149 1 (zf h 92 80)) 149 2 ((zf h 92 81) + 1)) 149 6 (p3 / 8)) 149 7 (zm_rm p3 8)) 149 3 (if (p2 = (-1)) then (0 : Int32) else (zr h 126 ((10 * p1) + p2))))))) 149 5 (if (p2 = (-1)) then (0 : Int32) else (zr h 112 p2)))) = some (154, [some (.ref 92), some (.int p1), some (.int p2), some (.int p3), some (.int ((10 * p1) + p2))], [.int ((10 * p1) + p2), .ref 123, .int 8, .ref 149], (zs (zs (zs (zs (zs (zs (zs (zs h 149 0 (zf h 92 79)) 149 1 (zf h 92 80)) 149 2 ((zf h 92 81) + 1)) 149 6 (p3 / 8)) 149 7 (zm_rm p3 8)) 149 3 (if (p2 = (-1)) then (0 : Int32) else (zr h 126 ((10 * p1) + p2)))) 149 4 (if (p2 = (-1)) then (0 : Int32) else (f_M_leastHold p1 p2 (zs (zs (zs (zs (zs (zs h 149 0 (zf h 92 79)) 149 1 (zf h 92 80)) 149 2 ((zf h 92 81) + 1)) 149 6 (p3 / 8)) 149 7 (zm_rm p3 8)) 149 3 (if (p2 = (-1)) then (0 : Int32) else (zr h 126 ((10 * p1) + p2))))))) 149 5 (if (p2 = (-1)) then (0 : Int32) else (zr h 112 p2))))) (fun hs => ?_)
            have hob := ho
            refine zg_ial hs zd_218 rfl rfl hob ?_
            refine zg_blk zd_218 1 hs (rfl : zb x zT0 zc_218 1 (155, [some (.ref 92), some (.int p1), some (.int p2), some (.int p3), some (.int ((10 * p1) + p2))], [.int (zr h 123 ((10 * p1) + p2)), .int 8, .ref 149], (zs (zs (zs (zs (zs (zs (zs (zs h 149 0 (zf h 92 79)) 149 1 (zf h 92 80)) 149 2 ((zf h 92 81) + 1)) 149 6 (p3 / 8)) 149 7 (zm_rm p3 8)) 149 3 (if (p2 = (-1)) then (0 : Int32) else (zr h 126 ((10 * p1) + p2)))) 149 4 (if (p2 = (-1)) then (0 : Int32) else (f_M_leastHold p1 p2 (zs (zs (zs (zs (zs (zs h 149 0 (zf h 92 79)) 149 1 (zf h 92 80)) 149 2 ((zf h 92 81) + 1)) 149 6 (p3 / 8)) 149 7 (zm_rm p3 8)) 149 3 (if (p2 = (-1)) then (0 : Int32) else (zr h 126 ((10 * p1) + p2))))))) 149 5 (if (p2 = (-1)) then (0 : Int32) else (zr h 112 p2)))) = some (156, [some (.ref 92), some (.int p1), some (.int p2), some (.int p3), some (.int ((10 * p1) + p2))], [.int 2, .int (zr h 123 ((10 * p1) + p2)), .int 8, .ref 149], (zs (zs (zs (zs (zs (zs (zs (zs h 149 0 (zf h 92 79)) 149 1 (zf h 92 80)) 149 2 ((zf h 92 81) + 1)) 149 6 (p3 / 8)) 149 7 (zm_rm p3 8)) 149 3 (if (p2 = (-1)) then (0 : Int32) else (zr h 126 ((10 * p1) + p2)))) 149 4 (if (p2 = (-1)) then (0 : Int32) else (f_M_leastHold p1 p2 (zs (zs (zs (zs (zs (zs h 149 0 (zf h 92 79)) 149 1 (zf h 92 80)) 149 2 ((zf h 92 81) + 1)) 149 6 (p3 / 8)) 149 7 (zm_rm p3 8)) 149 3 (if (p2 = (-1)) then (0 : Int32) else (zr h 126 ((10 * p1) + p2))))))) 149 5 (if (p2 = (-1)) then (0 : Int32) else (zr h 112 p2))))) (fun hs => ?_)
            refine zg_i_ne zd_218 rfl (fun (hc : ¬ ((zr h 123 ((10 * p1) + p2)) = 2)) => ?_) (fun (hc : ((zr h 123 ((10 * p1) + p2)) = 2)) => ?_)
            · skip
              rw [show ((if ((zr h 123 ((10 * p1) + p2)) = 2) then (1 : Int32) else 0) : Int32) = 0 from if_neg hc] at K81
              refine zg_blk zd_218 1 hs (rfl : zb x zT0 zc_218 1 (163, [some (.ref 92), some (.int p1), some (.int p2), some (.int p3), some (.int ((10 * p1) + p2))], [.int 8, .ref 149], (zs (zs (zs (zs (zs (zs (zs (zs h 149 0 (zf h 92 79)) 149 1 (zf h 92 80)) 149 2 ((zf h 92 81) + 1)) 149 6 (p3 / 8)) 149 7 (zm_rm p3 8)) 149 3 (if (p2 = (-1)) then (0 : Int32) else (zr h 126 ((10 * p1) + p2)))) 149 4 (if (p2 = (-1)) then (0 : Int32) else (f_M_leastHold p1 p2 (zs (zs (zs (zs (zs (zs h 149 0 (zf h 92 79)) 149 1 (zf h 92 80)) 149 2 ((zf h 92 81) + 1)) 149 6 (p3 / 8)) 149 7 (zm_rm p3 8)) 149 3 (if (p2 = (-1)) then (0 : Int32) else (zr h 126 ((10 * p1) + p2))))))) 149 5 (if (p2 = (-1)) then (0 : Int32) else (zr h 112 p2)))) = some (164, [some (.ref 92), some (.int p1), some (.int p2), some (.int p3), some (.int ((10 * p1) + p2))], [.int 0, .int 8, .ref 149], (zs (zs (zs (zs (zs (zs (zs (zs h 149 0 (zf h 92 79)) 149 1 (zf h 92 80)) 149 2 ((zf h 92 81) + 1)) 149 6 (p3 / 8)) 149 7 (zm_rm p3 8)) 149 3 (if (p2 = (-1)) then (0 : Int32) else (zr h 126 ((10 * p1) + p2)))) 149 4 (if (p2 = (-1)) then (0 : Int32) else (f_M_leastHold p1 p2 (zs (zs (zs (zs (zs (zs h 149 0 (zf h 92 79)) 149 1 (zf h 92 80)) 149 2 ((zf h 92 81) + 1)) 149 6 (p3 / 8)) 149 7 (zm_rm p3 8)) 149 3 (if (p2 = (-1)) then (0 : Int32) else (zr h 126 ((10 * p1) + p2))))))) 149 5 (if (p2 = (-1)) then (0 : Int32) else (zr h 112 p2))))) (fun hs => ?_)
              exact K81 hs
            · skip
              rw [show ((if ((zr h 123 ((10 * p1) + p2)) = 2) then (1 : Int32) else 0) : Int32) = 1 from if_pos hc] at K81
              refine zg_blk zd_218 2 hs (rfl : zb x zT0 zc_218 2 (159, [some (.ref 92), some (.int p1), some (.int p2), some (.int p3), some (.int ((10 * p1) + p2))], [.int 8, .ref 149], (zs (zs (zs (zs (zs (zs (zs (zs h 149 0 (zf h 92 79)) 149 1 (zf h 92 80)) 149 2 ((zf h 92 81) + 1)) 149 6 (p3 / 8)) 149 7 (zm_rm p3 8)) 149 3 (if (p2 = (-1)) then (0 : Int32) else (zr h 126 ((10 * p1) + p2)))) 149 4 (if (p2 = (-1)) then (0 : Int32) else (f_M_leastHold p1 p2 (zs (zs (zs (zs (zs (zs h 149 0 (zf h 92 79)) 149 1 (zf h 92 80)) 149 2 ((zf h 92 81) + 1)) 149 6 (p3 / 8)) 149 7 (zm_rm p3 8)) 149 3 (if (p2 = (-1)) then (0 : Int32) else (zr h 126 ((10 * p1) + p2))))))) 149 5 (if (p2 = (-1)) then (0 : Int32) else (zr h 112 p2)))) = some (164, [some (.ref 92), some (.int p1), some (.int p2), some (.int p3), some (.int ((10 * p1) + p2))], [.int 1, .int 8, .ref 149], (zs (zs (zs (zs (zs (zs (zs (zs h 149 0 (zf h 92 79)) 149 1 (zf h 92 80)) 149 2 ((zf h 92 81) + 1)) 149 6 (p3 / 8)) 149 7 (zm_rm p3 8)) 149 3 (if (p2 = (-1)) then (0 : Int32) else (zr h 126 ((10 * p1) + p2)))) 149 4 (if (p2 = (-1)) then (0 : Int32) else (f_M_leastHold p1 p2 (zs (zs (zs (zs (zs (zs h 149 0 (zf h 92 79)) 149 1 (zf h 92 80)) 149 2 ((zf h 92 81) + 1)) 149 6 (p3 / 8)) 149 7 (zm_rm p3 8)) 149 3 (if (p2 = (-1)) then (0 : Int32) else (zr h 126 ((10 * p1) + p2))))))) 149 5 (if (p2 = (-1)) then (0 : Int32) else (zr h 112 p2))))) (fun hs => ?_)
              exact K81 hs
      refine zg_i_ne zd_218 rfl (fun (hc : ¬ (p2 = (-1))) => ?_) (fun (hc : (p2 = (-1))) => ?_)
      · have ho := hom.2 hc
        rw [show ((if (p2 = (-1)) then (0 : Int32) else (zr h 112 p2)) : Int32) = (zr h 112 p2) from if_neg hc] at K80
        refine zg_blk zd_218 3 hs (rfl : zb x zT0 zc_218 3 (119, [some (.ref 92), some (.int p1), some (.int p2), some (.int p3), some (.int ((10 * p1) + p2))], [.int 5, .ref 149], (zs (zs (zs (zs (zs (zs (zs h 149 0 (zf h 92 79)) 149 1 (zf h 92 80)) 149 2 ((zf h 92 81) + 1)) 149 6 (p3 / 8)) 149 7 (zm_rm p3 8)) 149 3 (if (p2 = (-1)) then (0 : Int32) else (zr h 126 ((10 * p1) + p2)))) 149 4 (if (p2 = (-1)) then (0 : Int32) else (f_M_leastHold p1 p2 (zs (zs (zs (zs (zs (zs h 149 0 (zf h 92 79)) 149 1 (zf h 92 80)) 149 2 ((zf h 92 81) + 1)) 149 6 (p3 / 8)) 149 7 (zm_rm p3 8)) 149 3 (if (p2 = (-1)) then (0 : Int32) else (zr h 126 ((10 * p1) + p2)))))))) = some (124, [some (.ref 92), some (.int p1), some (.int p2), some (.int p3), some (.int ((10 * p1) + p2))], [.int p2, .ref 112, .int 5, .ref 149], (zs (zs (zs (zs (zs (zs (zs h 149 0 (zf h 92 79)) 149 1 (zf h 92 80)) 149 2 ((zf h 92 81) + 1)) 149 6 (p3 / 8)) 149 7 (zm_rm p3 8)) 149 3 (if (p2 = (-1)) then (0 : Int32) else (zr h 126 ((10 * p1) + p2)))) 149 4 (if (p2 = (-1)) then (0 : Int32) else (f_M_leastHold p1 p2 (zs (zs (zs (zs (zs (zs h 149 0 (zf h 92 79)) 149 1 (zf h 92 80)) 149 2 ((zf h 92 81) + 1)) 149 6 (p3 / 8)) 149 7 (zm_rm p3 8)) 149 3 (if (p2 = (-1)) then (0 : Int32) else (zr h 126 ((10 * p1) + p2))))))))) (fun hs => ?_)
        have hob := ho
        refine zg_ial hs zd_218 rfl rfl hob ?_
        exact K80 hs
      · have ho := hom.1 hc
        rw [show ((if (p2 = (-1)) then (0 : Int32) else (zr h 112 p2)) : Int32) = 0 from if_pos hc] at K80
        refine zg_blk zd_218 2 hs (rfl : zb x zT0 zc_218 2 (115, [some (.ref 92), some (.int p1), some (.int p2), some (.int p3), some (.int ((10 * p1) + p2))], [.int 5, .ref 149], (zs (zs (zs (zs (zs (zs (zs h 149 0 (zf h 92 79)) 149 1 (zf h 92 80)) 149 2 ((zf h 92 81) + 1)) 149 6 (p3 / 8)) 149 7 (zm_rm p3 8)) 149 3 (if (p2 = (-1)) then (0 : Int32) else (zr h 126 ((10 * p1) + p2)))) 149 4 (if (p2 = (-1)) then (0 : Int32) else (f_M_leastHold p1 p2 (zs (zs (zs (zs (zs (zs h 149 0 (zf h 92 79)) 149 1 (zf h 92 80)) 149 2 ((zf h 92 81) + 1)) 149 6 (p3 / 8)) 149 7 (zm_rm p3 8)) 149 3 (if (p2 = (-1)) then (0 : Int32) else (zr h 126 ((10 * p1) + p2)))))))) = some (125, [some (.ref 92), some (.int p1), some (.int p2), some (.int p3), some (.int ((10 * p1) + p2))], [.int 0, .int 5, .ref 149], (zs (zs (zs (zs (zs (zs (zs h 149 0 (zf h 92 79)) 149 1 (zf h 92 80)) 149 2 ((zf h 92 81) + 1)) 149 6 (p3 / 8)) 149 7 (zm_rm p3 8)) 149 3 (if (p2 = (-1)) then (0 : Int32) else (zr h 126 ((10 * p1) + p2)))) 149 4 (if (p2 = (-1)) then (0 : Int32) else (f_M_leastHold p1 p2 (zs (zs (zs (zs (zs (zs h 149 0 (zf h 92 79)) 149 1 (zf h 92 80)) 149 2 ((zf h 92 81) + 1)) 149 6 (p3 / 8)) 149 7 (zm_rm p3 8)) 149 3 (if (p2 = (-1)) then (0 : Int32) else (zr h 126 ((10 * p1) + p2))))))))) (fun hs => ?_)
        exact K80 hs
    refine zg_i_ne zd_218 rfl (fun (hc : ¬ (p2 = (-1))) => ?_) (fun (hc : (p2 = (-1))) => ?_)
    · have ho := hom.2 hc
      rw [show ((if (p2 = (-1)) then (0 : Int32) else (f_M_leastHold p1 p2 (zs (zs (zs (zs (zs (zs h 149 0 (zf h 92 79)) 149 1 (zf h 92 80)) 149 2 ((zf h 92 81) + 1)) 149 6 (p3 / 8)) 149 7 (zm_rm p3 8)) 149 3 (if (p2 = (-1)) then (0 : Int32) else (zr h 126 ((10 * p1) + p2)))))) : Int32) = (f_M_leastHold p1 p2 (zs (zs (zs (zs (zs (zs h 149 0 (zf h 92 79)) 149 1 (zf h 92 80)) 149 2 ((zf h 92 81) + 1)) 149 6 (p3 / 8)) 149 7 (zm_rm p3 8)) 149 3 (if (p2 = (-1)) then (0 : Int32) else (zr h 126 ((10 * p1) + p2))))) from if_neg hc] at K79
      refine zg_blk zd_218 3 hs (rfl : zb x zT0 zc_218 3 (98, [some (.ref 92), some (.int p1), some (.int p2), some (.int p3), some (.int ((10 * p1) + p2))], [.int 4, .ref 149], (zs (zs (zs (zs (zs (zs h 149 0 (zf h 92 79)) 149 1 (zf h 92 80)) 149 2 ((zf h 92 81) + 1)) 149 6 (p3 / 8)) 149 7 (zm_rm p3 8)) 149 3 (if (p2 = (-1)) then (0 : Int32) else (zr h 126 ((10 * p1) + p2))))) = some (101, [some (.ref 92), some (.int p1), some (.int p2), some (.int p3), some (.int ((10 * p1) + p2))], [.int p2, .int p1, .ref 92, .int 4, .ref 149], (zs (zs (zs (zs (zs (zs h 149 0 (zf h 92 79)) 149 1 (zf h 92 80)) 149 2 ((zf h 92 81) + 1)) 149 6 (p3 / 8)) 149 7 (zm_rm p3 8)) 149 3 (if (p2 = (-1)) then (0 : Int32) else (zr h 126 ((10 * p1) + p2)))))) (fun hs => ?_)
      have hob := ho
      refine zg_call hs zd_218 rfl rfl rfl rfl (as := [.ref 92, .int p1, .int p2]) (rest := [.int 4, .ref 149]) (en := [some (.ref 92), some (.int p1), some (.int p2), none, none, none, none, none]) rfl rfl rfl rfl rfl ?_
      refine f_M_leastHold_t p1 p2 (zs (zs (zs (zs (zs (zs h 149 0 (zf h 92 79)) 149 1 (zf h 92 80)) 149 2 ((zf h 92 81) + 1)) 149 6 (p3 / 8)) 149 7 (zm_rm p3 8)) 149 3 (if (p2 = (-1)) then (0 : Int32) else (zr h 126 ((10 * p1) + p2)))) hs hob ?_
      show zg x (d + 3) 218 104 [some (.ref 92), some (.int p1), some (.int p2), some (.int p3), some (.int ((10 * p1) + p2))] [.int (f_M_leastHold p1 p2 (zs (zs (zs (zs (zs (zs h 149 0 (zf h 92 79)) 149 1 (zf h 92 80)) 149 2 ((zf h 92 81) + 1)) 149 6 (p3 / 8)) 149 7 (zm_rm p3 8)) 149 3 (if (p2 = (-1)) then (0 : Int32) else (zr h 126 ((10 * p1) + p2))))), .int 4, .ref 149] (zs (zs (zs (zs (zs (zs h 149 0 (zf h 92 79)) 149 1 (zf h 92 80)) 149 2 ((zf h 92 81) + 1)) 149 6 (p3 / 8)) 149 7 (zm_rm p3 8)) 149 3 (if (p2 = (-1)) then (0 : Int32) else (zr h 126 ((10 * p1) + p2)))) Q
      exact K79 hs
    · have ho := hom.1 hc
      rw [show ((if (p2 = (-1)) then (0 : Int32) else (f_M_leastHold p1 p2 (zs (zs (zs (zs (zs (zs h 149 0 (zf h 92 79)) 149 1 (zf h 92 80)) 149 2 ((zf h 92 81) + 1)) 149 6 (p3 / 8)) 149 7 (zm_rm p3 8)) 149 3 (if (p2 = (-1)) then (0 : Int32) else (zr h 126 ((10 * p1) + p2)))))) : Int32) = 0 from if_pos hc] at K79
      refine zg_blk zd_218 2 hs (rfl : zb x zT0 zc_218 2 (94, [some (.ref 92), some (.int p1), some (.int p2), some (.int p3), some (.int ((10 * p1) + p2))], [.int 4, .ref 149], (zs (zs (zs (zs (zs (zs h 149 0 (zf h 92 79)) 149 1 (zf h 92 80)) 149 2 ((zf h 92 81) + 1)) 149 6 (p3 / 8)) 149 7 (zm_rm p3 8)) 149 3 (if (p2 = (-1)) then (0 : Int32) else (zr h 126 ((10 * p1) + p2))))) = some (104, [some (.ref 92), some (.int p1), some (.int p2), some (.int p3), some (.int ((10 * p1) + p2))], [.int 0, .int 4, .ref 149], (zs (zs (zs (zs (zs (zs h 149 0 (zf h 92 79)) 149 1 (zf h 92 80)) 149 2 ((zf h 92 81) + 1)) 149 6 (p3 / 8)) 149 7 (zm_rm p3 8)) 149 3 (if (p2 = (-1)) then (0 : Int32) else (zr h 126 ((10 * p1) + p2)))))) (fun hs => ?_)
      exact K79 hs
  refine zg_i_ne zd_218 rfl (fun (hc : ¬ (p2 = (-1))) => ?_) (fun (hc : (p2 = (-1))) => ?_)
  · have ho := hom.2 hc
    rw [show ((if (p2 = (-1)) then (0 : Int32) else (zr h 126 ((10 * p1) + p2))) : Int32) = (zr h 126 ((10 * p1) + p2)) from if_neg hc] at K78
    refine zg_blk zd_218 3 hs (rfl : zb x zT0 zc_218 3 (76, [some (.ref 92), some (.int p1), some (.int p2), some (.int p3), some (.int ((10 * p1) + p2))], [.int 3, .ref 149], (zs (zs (zs (zs (zs h 149 0 (zf h 92 79)) 149 1 (zf h 92 80)) 149 2 ((zf h 92 81) + 1)) 149 6 (p3 / 8)) 149 7 (zm_rm p3 8))) = some (82, [some (.ref 92), some (.int p1), some (.int p2), some (.int p3), some (.int ((10 * p1) + p2))], [.int ((10 * p1) + p2), .ref 126, .int 3, .ref 149], (zs (zs (zs (zs (zs h 149 0 (zf h 92 79)) 149 1 (zf h 92 80)) 149 2 ((zf h 92 81) + 1)) 149 6 (p3 / 8)) 149 7 (zm_rm p3 8)))) (fun hs => ?_)
    have hob := ho
    refine zg_ial hs zd_218 rfl rfl hob ?_
    exact K78 hs
  · have ho := hom.1 hc
    rw [show ((if (p2 = (-1)) then (0 : Int32) else (zr h 126 ((10 * p1) + p2))) : Int32) = 0 from if_pos hc] at K78
    refine zg_blk zd_218 2 hs (rfl : zb x zT0 zc_218 2 (72, [some (.ref 92), some (.int p1), some (.int p2), some (.int p3), some (.int ((10 * p1) + p2))], [.int 3, .ref 149], (zs (zs (zs (zs (zs h 149 0 (zf h 92 79)) 149 1 (zf h 92 80)) 149 2 ((zf h 92 81) + 1)) 149 6 (p3 / 8)) 149 7 (zm_rm p3 8))) = some (83, [some (.ref 92), some (.int p1), some (.int p2), some (.int p3), some (.int ((10 * p1) + p2))], [.int 0, .int 3, .ref 149], (zs (zs (zs (zs (zs h 149 0 (zf h 92 79)) 149 1 (zf h 92 80)) 149 2 ((zf h 92 81) + 1)) 149 6 (p3 / 8)) 149 7 (zm_rm p3 8)))) (fun hs => ?_)
    exact K78 hs
set_option maxRecDepth 100000 in
set_option maxHeartbeats 400000 in
theorem f_M_spell_l24_k70_t {x : zm_X} {d : Nat} (v1 : Int32) (h : zm_H) {Q : Option Value → zm_H → Prop} {FN : Nat × Int32 × zm_H → Prop} (hs : zSh zT0 h) (ho : f_M_spell_l24_k70_ok v1 h) (hF : FN (f_M_spell_l24_k70 v1 h)) (hl0 : ∀ (v1 : Int32) (h : zm_H), zSh zT0 h → FN (0, v1, h) → zg x (d + 5) 217 24 [some (.ref 92), some (.int v1)] [] h Q) (hl1 : ∀ (v1 : Int32) (h : zm_H) (o1 : Option Value), zSh zT0 h → FN (1, v1, h) → zg x (d + 5) 217 76 [some (.ref 92), o1] [] h Q) : zg x (d + 5) 217 70 [some (.ref 92), some (.int v1)] [] h Q := by
  unfold f_M_spell_l24_k70 at hF
  unfold f_M_spell_l24_k70_ok at ho
  refine zg_blk zd_217 2 hs (rfl : zb x zT0 zc_217 2 (70, [some (.ref 92), some (.int v1)], [], h) = some (24, [some (.ref 92), some (.int (v1 + 1))], [], h)) (fun hs => ?_)
  exact hl0 (v1 + 1) h hs hF
theorem zd_221 : zm_cd 221 = zc_221 := by rfl
theorem zd_222 : zm_cd 222 = zc_222 := by rfl
theorem zd_223 : zm_cd 223 = zc_223 := by rfl
set_option maxRecDepth 100000 in
set_option maxHeartbeats 400000 in
theorem f_M_near_t {x : zm_X} {d : Nat} (p0 : Int64) (h : zm_H) {Q : Option Value → zm_H → Prop} (hs : zSh zT0 h) (ho : f_M_near_ok p0 h) (hF : Q (some (.int (f_M_near p0 h))) h) : zg x (d + 1) 223 0 [some (.long p0), none] [] h Q := by
  unfold f_M_near at hF
  unfold f_M_near_ok at ho
  refine zg_blk zd_223 3 hs (rfl : zb x zT0 zc_223 3 (0, [some (.long p0), none], [], h) = some (5, [some (.long p0), none], [.int (lg_cmp p0 ((-1000000) : Int32).toInt64)], h)) (fun hs => ?_)
  have K82 : zSh zT0 h → zg x (d + 1) 223 28 [some (.long p0), none] [.int (if (0 ≤ (lg_cmp p0 ((-1000000) : Int32).toInt64)) then ((if ((lg_cmp p0 (1000000 : Int32).toInt64) ≤ 0) then (p0.toInt32 : Int32) else 1000000) : Int32) else (-1000000))] h Q := fun hs => by
    exact zg_ret zd_223 rfl rfl hF
  refine zg_f_ge zd_223 rfl (fun (hc : (0 ≤ (lg_cmp p0 ((-1000000) : Int32).toInt64))) => ?_) (fun (hc : ¬ (0 ≤ (lg_cmp p0 ((-1000000) : Int32).toInt64))) => ?_)
  · skip
    rw [show ((if (0 ≤ (lg_cmp p0 ((-1000000) : Int32).toInt64)) then ((if ((lg_cmp p0 (1000000 : Int32).toInt64) ≤ 0) then (p0.toInt32 : Int32) else 1000000) : Int32) else (-1000000)) : Int32) = (if ((lg_cmp p0 (1000000 : Int32).toInt64) ≤ 0) then (p0.toInt32 : Int32) else 1000000) from if_pos hc] at K82
    refine zg_blk zd_223 3 hs (rfl : zb x zT0 zc_223 3 (13, [some (.long p0), none], [], h) = some (18, [some (.long p0), none], [.int (lg_cmp p0 (1000000 : Int32).toInt64)], h)) (fun hs => ?_)
    refine zg_f_le zd_223 rfl (fun (hc : ((lg_cmp p0 (1000000 : Int32).toInt64) ≤ 0)) => ?_) (fun (hc : ¬ ((lg_cmp p0 (1000000 : Int32).toInt64) ≤ 0)) => ?_)
    · skip
      rw [show ((if ((lg_cmp p0 (1000000 : Int32).toInt64) ≤ 0) then (p0.toInt32 : Int32) else 1000000) : Int32) = p0.toInt32 from if_pos hc] at K82
      refine zg_blk zd_223 2 hs (rfl : zb x zT0 zc_223 2 (26, [some (.long p0), none], [], h) = some (28, [some (.long p0), none], [.int p0.toInt32], h)) (fun hs => ?_)
      exact K82 hs
    · skip
      rw [show ((if ((lg_cmp p0 (1000000 : Int32).toInt64) ≤ 0) then (p0.toInt32 : Int32) else 1000000) : Int32) = 1000000 from if_neg hc] at K82
      refine zg_blk zd_223 2 hs (rfl : zb x zT0 zc_223 2 (21, [some (.long p0), none], [], h) = some (28, [some (.long p0), none], [.int 1000000], h)) (fun hs => ?_)
      exact K82 hs
  · skip
    rw [show ((if (0 ≤ (lg_cmp p0 ((-1000000) : Int32).toInt64)) then ((if ((lg_cmp p0 (1000000 : Int32).toInt64) ≤ 0) then (p0.toInt32 : Int32) else 1000000) : Int32) else (-1000000)) : Int32) = (-1000000) from if_neg hc] at K82
    refine zg_blk zd_223 2 hs (rfl : zb x zT0 zc_223 2 (8, [some (.long p0), none], [], h) = some (28, [some (.long p0), none], [.int (-1000000)], h)) (fun hs => ?_)
    exact K82 hs
set_option maxRecDepth 100000 in
set_option maxHeartbeats 400000 in
theorem f_M_of_t {x : zm_X} {d : Nat} (p0 : Int32) (p1 : Int32) (p2 : Int32) (h : zm_H) {Q : Option Value → zm_H → Prop} (hs : zSh zT0 h) (ho : f_M_of_ok p0 p1 p2 h) (hF : Q (some (.int (f_M_of p0 p1 p2 h))) h) : zg x (d + 2) 222 0 [some (.int p0), some (.int p1), some (.int p2)] [] h Q := by
  unfold f_M_of at hF
  unfold f_M_of_ok at ho
  refine zg_blk zd_222 1 hs (rfl : zb x zT0 zc_222 1 (0, [some (.int p0), some (.int p1), some (.int p2)], [], h) = some (1, [some (.int p0), some (.int p1), some (.int p2)], [.int p0], h)) (fun hs => ?_)
  by_cases hc2 : p0 = 2
  · have ho := ho.1 hc2
    rw [if_pos hc2] at hF
    refine zg_tsw zd_222 rfl (tg := 48) (by rw [hc2]; rfl) ?_
    refine zg_blk zd_222 5 hs (rfl : zb x zT0 zc_222 5 (48, [some (.int p0), some (.int p1), some (.int p2)], [], h) = some (53, [some (.int p0), some (.int p1), some (.int p2)], [.long (p1.toInt64 + p2.toInt64)], h)) (fun hs => ?_)
    refine zg_call hs zd_222 rfl rfl rfl rfl (as := [.long (p1.toInt64 + p2.toInt64)]) (rest := []) (en := [some (.long (p1.toInt64 + p2.toInt64)), none]) rfl rfl rfl rfl rfl ?_
    refine f_M_near_t (p1.toInt64 + p2.toInt64) h hs trivial ?_
    show zg x (d + 2) 222 56 [some (.int p0), some (.int p1), some (.int p2)] [.int (f_M_near (p1.toInt64 + p2.toInt64) h)] h Q
    exact zg_ret zd_222 rfl rfl hF
  have ho := ho.2 hc2
  rw [if_neg hc2] at hF
  by_cases hc3 : p0 = 3
  · have ho := ho.1 hc3
    rw [if_pos hc3] at hF
    refine zg_tsw zd_222 rfl (tg := 57) (by rw [hc3]; rfl) ?_
    refine zg_blk zd_222 5 hs (rfl : zb x zT0 zc_222 5 (57, [some (.int p0), some (.int p1), some (.int p2)], [], h) = some (62, [some (.int p0), some (.int p1), some (.int p2)], [.long (p1.toInt64 - p2.toInt64)], h)) (fun hs => ?_)
    refine zg_call hs zd_222 rfl rfl rfl rfl (as := [.long (p1.toInt64 - p2.toInt64)]) (rest := []) (en := [some (.long (p1.toInt64 - p2.toInt64)), none]) rfl rfl rfl rfl rfl ?_
    refine f_M_near_t (p1.toInt64 - p2.toInt64) h hs trivial ?_
    show zg x (d + 2) 222 65 [some (.int p0), some (.int p1), some (.int p2)] [.int (f_M_near (p1.toInt64 - p2.toInt64) h)] h Q
    exact zg_ret zd_222 rfl rfl hF
  have ho := ho.2 hc3
  rw [if_neg hc3] at hF
  by_cases hc4 : p0 = 4
  · have ho := ho.1 hc4
    rw [if_pos hc4] at hF
    refine zg_tsw zd_222 rfl (tg := 66) (by rw [hc4]; rfl) ?_
    refine zg_blk zd_222 5 hs (rfl : zb x zT0 zc_222 5 (66, [some (.int p0), some (.int p1), some (.int p2)], [], h) = some (71, [some (.int p0), some (.int p1), some (.int p2)], [.long (p1.toInt64 * p2.toInt64)], h)) (fun hs => ?_)
    refine zg_call hs zd_222 rfl rfl rfl rfl (as := [.long (p1.toInt64 * p2.toInt64)]) (rest := []) (en := [some (.long (p1.toInt64 * p2.toInt64)), none]) rfl rfl rfl rfl rfl ?_
    refine f_M_near_t (p1.toInt64 * p2.toInt64) h hs trivial ?_
    show zg x (d + 2) 222 74 [some (.int p0), some (.int p1), some (.int p2)] [.int (f_M_near (p1.toInt64 * p2.toInt64) h)] h Q
    exact zg_ret zd_222 rfl rfl hF
  have ho := ho.2 hc4
  rw [if_neg hc4] at hF
  by_cases hc5 : p0 = 5
  · have ho := ho.1 hc5
    rw [if_pos hc5] at hF
    refine zg_tsw zd_222 rfl (tg := 75) (by rw [hc5]; rfl) ?_
    refine zg_blk zd_222 1 hs (rfl : zb x zT0 zc_222 1 (75, [some (.int p0), some (.int p1), some (.int p2)], [], h) = some (76, [some (.int p0), some (.int p1), some (.int p2)], [.int p2], h)) (fun hs => ?_)
    have hom := ho
    have K83 : zSh zT0 h → zg x (d + 2) 222 86 [some (.int p0), some (.int p1), some (.int p2)] [.int (if (p2 = 0) then (0 : Int32) else (p1 / p2))] h Q := fun hs => by
      exact zg_ret zd_222 rfl rfl hF
    refine zg_f_ne zd_222 rfl (fun (hc : ¬ (p2 = 0)) => ?_) (fun (hc : (p2 = 0)) => ?_)
    · have ho := hom.2 hc
      rw [show ((if (p2 = 0) then (0 : Int32) else (p1 / p2)) : Int32) = (p1 / p2) from if_neg hc] at K83
      refine zg_blk zd_222 2 hs (rfl : zb x zT0 zc_222 2 (83, [some (.int p0), some (.int p1), some (.int p2)], [], h) = some (85, [some (.int p0), some (.int p1), some (.int p2)], [.int p2, .int p1], h)) (fun hs => ?_)
      have hob := ho
      refine zg_div zd_222 rfl hob ?_
      exact K83 hs
    · have ho := hom.1 hc
      rw [show ((if (p2 = 0) then (0 : Int32) else (p1 / p2)) : Int32) = 0 from if_pos hc] at K83
      refine zg_blk zd_222 2 hs (rfl : zb x zT0 zc_222 2 (79, [some (.int p0), some (.int p1), some (.int p2)], [], h) = some (86, [some (.int p0), some (.int p1), some (.int p2)], [.int 0], h)) (fun hs => ?_)
      exact K83 hs
  have ho := ho.2 hc5
  rw [if_neg hc5] at hF
  by_cases hc6 : p0 = 6
  · have ho := ho.1 hc6
    rw [if_pos hc6] at hF
    refine zg_tsw zd_222 rfl (tg := 87) (by rw [hc6]; rfl) ?_
    refine zg_blk zd_222 2 hs (rfl : zb x zT0 zc_222 2 (87, [some (.int p0), some (.int p1), some (.int p2)], [], h) = some (89, [some (.int p0), some (.int p1), some (.int p2)], [.int p2, .int p1], h)) (fun hs => ?_)
    have K84 : zSh zT0 h → zg x (d + 2) 222 97 [some (.int p0), some (.int p1), some (.int p2)] [.int (if (¬ (p2 ≤ p1)) then (1 : Int32) else 0)] h Q := fun hs => by
      exact zg_ret zd_222 rfl rfl hF
    refine zg_i_ge zd_222 rfl (fun (hc : (p2 ≤ p1)) => ?_) (fun (hc : ¬ (p2 ≤ p1)) => ?_)
    · skip
      rw [show ((if (¬ (p2 ≤ p1)) then (1 : Int32) else 0) : Int32) = 0 from zb_not_t hc] at K84
      refine zg_blk zd_222 1 hs (rfl : zb x zT0 zc_222 1 (96, [some (.int p0), some (.int p1), some (.int p2)], [], h) = some (97, [some (.int p0), some (.int p1), some (.int p2)], [.int 0], h)) (fun hs => ?_)
      exact K84 hs
    · skip
      rw [show ((if (¬ (p2 ≤ p1)) then (1 : Int32) else 0) : Int32) = 1 from zb_not_f hc] at K84
      refine zg_blk zd_222 2 hs (rfl : zb x zT0 zc_222 2 (92, [some (.int p0), some (.int p1), some (.int p2)], [], h) = some (97, [some (.int p0), some (.int p1), some (.int p2)], [.int 1], h)) (fun hs => ?_)
      exact K84 hs
  have ho := ho.2 hc6
  rw [if_neg hc6] at hF
  by_cases hc7 : p0 = 7
  · have ho := ho.1 hc7
    rw [if_pos hc7] at hF
    refine zg_tsw zd_222 rfl (tg := 98) (by rw [hc7]; rfl) ?_
    refine zg_blk zd_222 2 hs (rfl : zb x zT0 zc_222 2 (98, [some (.int p0), some (.int p1), some (.int p2)], [], h) = some (100, [some (.int p0), some (.int p1), some (.int p2)], [.int p2, .int p1], h)) (fun hs => ?_)
    have K85 : zSh zT0 h → zg x (d + 2) 222 108 [some (.int p0), some (.int p1), some (.int p2)] [.int (if (¬ (p1 ≤ p2)) then (1 : Int32) else 0)] h Q := fun hs => by
      exact zg_ret zd_222 rfl rfl hF
    refine zg_i_le zd_222 rfl (fun (hc : (p1 ≤ p2)) => ?_) (fun (hc : ¬ (p1 ≤ p2)) => ?_)
    · skip
      rw [show ((if (¬ (p1 ≤ p2)) then (1 : Int32) else 0) : Int32) = 0 from zb_not_t hc] at K85
      refine zg_blk zd_222 1 hs (rfl : zb x zT0 zc_222 1 (107, [some (.int p0), some (.int p1), some (.int p2)], [], h) = some (108, [some (.int p0), some (.int p1), some (.int p2)], [.int 0], h)) (fun hs => ?_)
      exact K85 hs
    · skip
      rw [show ((if (¬ (p1 ≤ p2)) then (1 : Int32) else 0) : Int32) = 1 from zb_not_f hc] at K85
      refine zg_blk zd_222 2 hs (rfl : zb x zT0 zc_222 2 (103, [some (.int p0), some (.int p1), some (.int p2)], [], h) = some (108, [some (.int p0), some (.int p1), some (.int p2)], [.int 1], h)) (fun hs => ?_)
      exact K85 hs
  have ho := ho.2 hc7
  rw [if_neg hc7] at hF
  by_cases hc8 : p0 = 8
  · have ho := ho.1 hc8
    rw [if_pos hc8] at hF
    refine zg_tsw zd_222 rfl (tg := 109) (by rw [hc8]; rfl) ?_
    refine zg_blk zd_222 2 hs (rfl : zb x zT0 zc_222 2 (109, [some (.int p0), some (.int p1), some (.int p2)], [], h) = some (111, [some (.int p0), some (.int p1), some (.int p2)], [.int p2, .int p1], h)) (fun hs => ?_)
    have K86 : zSh zT0 h → zg x (d + 2) 222 119 [some (.int p0), some (.int p1), some (.int p2)] [.int (if (p1 = p2) then (1 : Int32) else 0)] h Q := fun hs => by
      exact zg_ret zd_222 rfl rfl hF
    refine zg_i_ne zd_222 rfl (fun (hc : ¬ (p1 = p2)) => ?_) (fun (hc : (p1 = p2)) => ?_)
    · skip
      rw [show ((if (p1 = p2) then (1 : Int32) else 0) : Int32) = 0 from if_neg hc] at K86
      refine zg_blk zd_222 1 hs (rfl : zb x zT0 zc_222 1 (118, [some (.int p0), some (.int p1), some (.int p2)], [], h) = some (119, [some (.int p0), some (.int p1), some (.int p2)], [.int 0], h)) (fun hs => ?_)
      exact K86 hs
    · skip
      rw [show ((if (p1 = p2) then (1 : Int32) else 0) : Int32) = 1 from if_pos hc] at K86
      refine zg_blk zd_222 2 hs (rfl : zb x zT0 zc_222 2 (114, [some (.int p0), some (.int p1), some (.int p2)], [], h) = some (119, [some (.int p0), some (.int p1), some (.int p2)], [.int 1], h)) (fun hs => ?_)
      exact K86 hs
  have ho := ho.2 hc8
  rw [if_neg hc8] at hF
  by_cases hc9 : p0 = 9
  · have ho := ho.1 hc9
    rw [if_pos hc9] at hF
    refine zg_tsw zd_222 rfl (tg := 120) (by rw [hc9]; rfl) ?_
    refine zg_blk zd_222 4 hs (rfl : zb x zT0 zc_222 4 (120, [some (.int p0), some (.int p1), some (.int p2)], [], h) = some (124, [some (.int p0), some (.int p1), some (.int p2)], [.int 2, .int (p1 + p2)], h)) (fun hs => ?_)
    have K87 : zSh zT0 h → zg x (d + 2) 222 132 [some (.int p0), some (.int p1), some (.int p2)] [.int (if ((p1 + p2) = 2) then (1 : Int32) else 0)] h Q := fun hs => by
      exact zg_ret zd_222 rfl rfl hF
    refine zg_i_ne zd_222 rfl (fun (hc : ¬ ((p1 + p2) = 2)) => ?_) (fun (hc : ((p1 + p2) = 2)) => ?_)
    · skip
      rw [show ((if ((p1 + p2) = 2) then (1 : Int32) else 0) : Int32) = 0 from if_neg hc] at K87
      refine zg_blk zd_222 1 hs (rfl : zb x zT0 zc_222 1 (131, [some (.int p0), some (.int p1), some (.int p2)], [], h) = some (132, [some (.int p0), some (.int p1), some (.int p2)], [.int 0], h)) (fun hs => ?_)
      exact K87 hs
    · skip
      rw [show ((if ((p1 + p2) = 2) then (1 : Int32) else 0) : Int32) = 1 from if_pos hc] at K87
      refine zg_blk zd_222 2 hs (rfl : zb x zT0 zc_222 2 (127, [some (.int p0), some (.int p1), some (.int p2)], [], h) = some (132, [some (.int p0), some (.int p1), some (.int p2)], [.int 1], h)) (fun hs => ?_)
      exact K87 hs
  have ho := ho.2 hc9
  rw [if_neg hc9] at hF
  refine zg_tsw zd_222 rfl (tg := 133) (if_pos (zsw_out (lo := 2) (hi := 9) (by decide) (by decide) (fun v h1 h2 => by
      have : v = 2 ∨ v = 3 ∨ v = 4 ∨ v = 5 ∨ v = 6 ∨ v = 7 ∨ v = 8 ∨ v = 9 := by omega
      rcases this with rfl | rfl | rfl | rfl | rfl | rfl | rfl | rfl <;> first | exact hc2 | exact hc3 | exact hc4 | exact hc5 | exact hc6 | exact hc7 | exact hc8 | exact hc9))) ?_
  refine zg_blk zd_222 3 hs (rfl : zb x zT0 zc_222 3 (133, [some (.int p0), some (.int p1), some (.int p2)], [], h) = some (136, [some (.int p0), some (.int p1), some (.int p2)], [.int (p1 + p2)], h)) (fun hs => ?_)
  have K88 : zSh zT0 h → zg x (d + 2) 222 144 [some (.int p0), some (.int p1), some (.int p2)] [.int (if (¬ ((p1 + p2) ≤ 0)) then (1 : Int32) else 0)] h Q := fun hs => by
    exact zg_ret zd_222 rfl rfl hF
  refine zg_f_le zd_222 rfl (fun (hc : ((p1 + p2) ≤ 0)) => ?_) (fun (hc : ¬ ((p1 + p2) ≤ 0)) => ?_)
  · skip
    rw [show ((if (¬ ((p1 + p2) ≤ 0)) then (1 : Int32) else 0) : Int32) = 0 from zb_not_t hc] at K88
    refine zg_blk zd_222 1 hs (rfl : zb x zT0 zc_222 1 (143, [some (.int p0), some (.int p1), some (.int p2)], [], h) = some (144, [some (.int p0), some (.int p1), some (.int p2)], [.int 0], h)) (fun hs => ?_)
    exact K88 hs
  · skip
    rw [show ((if (¬ ((p1 + p2) ≤ 0)) then (1 : Int32) else 0) : Int32) = 1 from zb_not_f hc] at K88
    refine zg_blk zd_222 2 hs (rfl : zb x zT0 zc_222 2 (139, [some (.int p0), some (.int p1), some (.int p2)], [], h) = some (144, [some (.int p0), some (.int p1), some (.int p2)], [.int 1], h)) (fun hs => ?_)
    exact K88 hs
set_option maxRecDepth 100000 in
set_option maxHeartbeats 400000 in
theorem f_M_tells_l44_b_t {x : zm_X} {d : Nat} (v1 : Int32) (v3 : Int32) (v4 : Int32) (v5 : Int32) (h : zm_H) (z2 : Int32) (o6 : Option Value) {Q : Option Value → zm_H → Prop} {FN : Nat × Int32 × Int32 × zm_H → Prop} (hs : zSh zT0 h) (ho : f_M_tells_l44_b_ok v1 v3 v4 v5 h) (hF : FN (f_M_tells_l44_b v1 v3 v4 v5 h)) (hl0 : ∀ (v4 : Int32) (v5 : Int32) (h : zm_H) (z2 : Int32) (o6 : Option Value), zSh zT0 h → FN (0, v4, v5, h) → zg x (d + 3) 221 44 [some (.ref 92), some (.int v1), some (.int z2), some (.int v3), some (.int v4), some (.int v5), o6] [] h Q) (hl1 : ∀ (v4 : Int32) (v5 : Int32) (h : zm_H) (z2 : Int32) (o4 : Option Value) (o5 : Option Value) (o6 : Option Value), zSh zT0 h → FN (1, v4, v5, h) → zg x (d + 3) 221 189 [some (.ref 92), some (.int v1), some (.int z2), some (.int v3), o4, o5, o6] [] h Q) : zg x (d + 3) 221 44 [some (.ref 92), some (.int v1), some (.int z2), some (.int v3), some (.int v4), some (.int v5), o6] [] h Q := by
  unfold f_M_tells_l44_b at hF
  unfold f_M_tells_l44_b_ok at ho
  refine zg_blk zd_221 11 hs (rfl : zb x zT0 zc_221 11 (44, [some (.ref 92), some (.int v1), some (.int z2), some (.int v3), some (.int v4), some (.int v5), o6], [], h) = some (60, [some (.ref 92), some (.int v1), some (.int z2), some (.int v3), some (.int v4), some (.int v5), o6], [.int ((4 * v3) + v1), .ref 102, .int (400 * v3), .int v5], h)) (fun hs => ?_)
  obtain ⟨hob, ho⟩ := ho
  refine zg_ial hs zd_221 rfl rfl hob ?_
  refine zg_blk zd_221 1 hs (rfl : zb x zT0 zc_221 1 (61, [some (.ref 92), some (.int v1), some (.int z2), some (.int v3), some (.int v4), some (.int v5), o6], [.int (zr h 102 ((4 * v3) + v1)), .int (400 * v3), .int v5], h) = some (62, [some (.ref 92), some (.int v1), some (.int z2), some (.int v3), some (.int v4), some (.int v5), o6], [.int ((400 * v3) + (zr h 102 ((4 * v3) + v1))), .int v5], h)) (fun hs => ?_)
  refine zg_i_ge zd_221 rfl (fun (hc : (((400 * v3) + (zr h 102 ((4 * v3) + v1))) ≤ v5)) => ?_) (fun (hc : ¬ (((400 * v3) + (zr h 102 ((4 * v3) + v1))) ≤ v5)) => ?_)
  · have ho := ho.1 hc
    rw [if_pos hc] at hF
    exact hl1 v4 v5 h z2 (some (.int v4)) (some (.int v5)) (o6) hs hF
  · have ho := ho.2 hc
    rw [if_neg hc] at hF
    refine zg_blk zd_221 3 hs (rfl : zb x zT0 zc_221 3 (65, [some (.ref 92), some (.int v1), some (.int z2), some (.int v3), some (.int v4), some (.int v5), o6], [], h) = some (71, [some (.ref 92), some (.int v1), some (.int z2), some (.int v3), some (.int v4), some (.int v5), o6], [.int v5, .ref 99], h)) (fun hs => ?_)
    obtain ⟨hob, ho⟩ := ho
    refine zg_ial hs zd_221 rfl rfl hob ?_
    refine zg_blk zd_221 3 hs (rfl : zb x zT0 zc_221 3 (72, [some (.ref 92), some (.int v1), some (.int z2), some (.int v3), some (.int v4), some (.int v5), o6], [.int (zr h 99 v5)], h) = some (77, [some (.ref 92), some (.int v1), some (.int z2), some (.int v3), some (.int v4), some (.int v5), some (.int (zr h 99 v5))], [.int 1, .int (zr h 99 v5)], h)) (fun hs => ?_)
    have hom := ho
    have K89 : zSh zT0 (if (1 < (zr h 99 v5)) then (if ((zr h 99 v5) = 11) then (zs h 150 (v4 - 1) (1 - (zr h 150 (v4 - 1)))) else (zs h 150 ((v4 + (-1)) - 1) (f_M_of (zr h 99 v5) (zr h 150 ((v4 + (-1)) - 1)) (zr h 150 (v4 + (-1))) h))) else (zs h 150 v4 (if ((zr h 99 v5) = 0) then ((zr h 100 v5) : Int32) else (zr h 149 (zr h 100 v5))))) → zg x (d + 3) 221 183 [some (.ref 92), some (.int v1), some (.int z2), some (.int v3), some (.int (if (1 < (zr h 99 v5)) then ((if ((zr h 99 v5) = 11) then (v4 : Int32) else (v4 + (-1))) : Int32) else (v4 + 1))), some (.int v5), some (.int (zr h 99 v5))] [] (if (1 < (zr h 99 v5)) then (if ((zr h 99 v5) = 11) then (zs h 150 (v4 - 1) (1 - (zr h 150 (v4 - 1)))) else (zs h 150 ((v4 + (-1)) - 1) (f_M_of (zr h 99 v5) (zr h 150 ((v4 + (-1)) - 1)) (zr h 150 (v4 + (-1))) h))) else (zs h 150 v4 (if ((zr h 99 v5) = 0) then ((zr h 100 v5) : Int32) else (zr h 149 (zr h 100 v5))))) Q := fun hs => by
      refine zg_blk zd_221 2 hs (rfl : zb x zT0 zc_221 2 (183, [some (.ref 92), some (.int v1), some (.int z2), some (.int v3), some (.int (if (1 < (zr h 99 v5)) then ((if ((zr h 99 v5) = 11) then (v4 : Int32) else (v4 + (-1))) : Int32) else (v4 + 1))), some (.int v5), some (.int (zr h 99 v5))], [], (if (1 < (zr h 99 v5)) then (if ((zr h 99 v5) = 11) then (zs h 150 (v4 - 1) (1 - (zr h 150 (v4 - 1)))) else (zs h 150 ((v4 + (-1)) - 1) (f_M_of (zr h 99 v5) (zr h 150 ((v4 + (-1)) - 1)) (zr h 150 (v4 + (-1))) h))) else (zs h 150 v4 (if ((zr h 99 v5) = 0) then ((zr h 100 v5) : Int32) else (zr h 149 (zr h 100 v5)))))) = some (44, [some (.ref 92), some (.int v1), some (.int z2), some (.int v3), some (.int (if (1 < (zr h 99 v5)) then ((if ((zr h 99 v5) = 11) then (v4 : Int32) else (v4 + (-1))) : Int32) else (v4 + 1))), some (.int (v5 + 1)), some (.int (zr h 99 v5))], [], (if (1 < (zr h 99 v5)) then (if ((zr h 99 v5) = 11) then (zs h 150 (v4 - 1) (1 - (zr h 150 (v4 - 1)))) else (zs h 150 ((v4 + (-1)) - 1) (f_M_of (zr h 99 v5) (zr h 150 ((v4 + (-1)) - 1)) (zr h 150 (v4 + (-1))) h))) else (zs h 150 v4 (if ((zr h 99 v5) = 0) then ((zr h 100 v5) : Int32) else (zr h 149 (zr h 100 v5))))))) (fun hs => ?_)
      exact hl0 (if (1 < (zr h 99 v5)) then ((if ((zr h 99 v5) = 11) then (v4 : Int32) else (v4 + (-1))) : Int32) else (v4 + 1)) (v5 + 1) (if (1 < (zr h 99 v5)) then (if ((zr h 99 v5) = 11) then (zs h 150 (v4 - 1) (1 - (zr h 150 (v4 - 1)))) else (zs h 150 ((v4 + (-1)) - 1) (f_M_of (zr h 99 v5) (zr h 150 ((v4 + (-1)) - 1)) (zr h 150 (v4 + (-1))) h))) else (zs h 150 v4 (if ((zr h 99 v5) = 0) then ((zr h 100 v5) : Int32) else (zr h 149 (zr h 100 v5))))) z2 (some (.int (zr h 99 v5))) hs hF
    refine zg_i_gt zd_221 rfl (fun (hc : (1 < (zr h 99 v5))) => ?_) (fun (hc : ¬ (1 < (zr h 99 v5))) => ?_)
    · have ho := hom.1 hc
      rw [show ((if (1 < (zr h 99 v5)) then ((if ((zr h 99 v5) = 11) then (v4 : Int32) else (v4 + (-1))) : Int32) else (v4 + 1)) : Int32) = (if ((zr h 99 v5) = 11) then (v4 : Int32) else (v4 + (-1))) from if_pos hc] at K89
      rw [show (if (1 < (zr h 99 v5)) then (if ((zr h 99 v5) = 11) then (zs h 150 (v4 - 1) (1 - (zr h 150 (v4 - 1)))) else (zs h 150 ((v4 + (-1)) - 1) (f_M_of (zr h 99 v5) (zr h 150 ((v4 + (-1)) - 1)) (zr h 150 (v4 + (-1))) h))) else (zs h 150 v4 (if ((zr h 99 v5) = 0) then ((zr h 100 v5) : Int32) else (zr h 149 (zr h 100 v5))))) = (if ((zr h 99 v5) = 11) then (zs h 150 (v4 - 1) (1 - (zr h 150 (v4 - 1)))) else (zs h 150 ((v4 + (-1)) - 1) (f_M_of (zr h 99 v5) (zr h 150 ((v4 + (-1)) - 1)) (zr h 150 (v4 + (-1))) h))) from if_pos hc] at K89
      refine zg_blk zd_221 2 hs (rfl : zb x zT0 zc_221 2 (120, [some (.ref 92), some (.int v1), some (.int z2), some (.int v3), some (.int v4), some (.int v5), some (.int (zr h 99 v5))], [], h) = some (124, [some (.ref 92), some (.int v1), some (.int z2), some (.int v3), some (.int v4), some (.int v5), some (.int (zr h 99 v5))], [.int 11, .int (zr h 99 v5)], h)) (fun hs => ?_)
      refine zg_i_ne zd_221 rfl (fun (hc : ¬ ((zr h 99 v5) = 11)) => ?_) (fun (hc : ((zr h 99 v5) = 11)) => ?_)
      · have ho := ho.2 hc
        rw [show ((if ((zr h 99 v5) = 11) then (v4 : Int32) else (v4 + (-1))) : Int32) = (v4 + (-1)) from if_neg hc] at K89
        rw [show (if ((zr h 99 v5) = 11) then (zs h 150 (v4 - 1) (1 - (zr h 150 (v4 - 1)))) else (zs h 150 ((v4 + (-1)) - 1) (f_M_of (zr h 99 v5) (zr h 150 ((v4 + (-1)) - 1)) (zr h 150 (v4 + (-1))) h))) = (zs h 150 ((v4 + (-1)) - 1) (f_M_of (zr h 99 v5) (zr h 150 ((v4 + (-1)) - 1)) (zr h 150 (v4 + (-1))) h)) from if_neg hc] at K89
        refine zg_blk zd_221 12 hs (rfl : zb x zT0 zc_221 12 (150, [some (.ref 92), some (.int v1), some (.int z2), some (.int v3), some (.int v4), some (.int v5), some (.int (zr h 99 v5))], [], h) = some (171, [some (.ref 92), some (.int v1), some (.int z2), some (.int v3), some (.int (v4 + (-1))), some (.int v5), some (.int (zr h 99 v5))], [.int ((v4 + (-1)) - 1), .ref 150, .int (zr h 99 v5), .int ((v4 + (-1)) - 1), .ref 150], h)) (fun hs => ?_)
        obtain ⟨hob, ho⟩ := ho
        refine zg_ial hs zd_221 rfl rfl hob ?_
        refine zg_blk zd_221 3 hs (rfl : zb x zT0 zc_221 3 (172, [some (.ref 92), some (.int v1), some (.int z2), some (.int v3), some (.int (v4 + (-1))), some (.int v5), some (.int (zr h 99 v5))], [.int (zr h 150 ((v4 + (-1)) - 1)), .int (zr h 99 v5), .int ((v4 + (-1)) - 1), .ref 150], h) = some (178, [some (.ref 92), some (.int v1), some (.int z2), some (.int v3), some (.int (v4 + (-1))), some (.int v5), some (.int (zr h 99 v5))], [.int (v4 + (-1)), .ref 150, .int (zr h 150 ((v4 + (-1)) - 1)), .int (zr h 99 v5), .int ((v4 + (-1)) - 1), .ref 150], h)) (fun hs => ?_)
        obtain ⟨hob, ho⟩ := ho
        refine zg_ial hs zd_221 rfl rfl hob ?_
        obtain ⟨hob, ho⟩ := ho
        refine zg_call hs zd_221 rfl rfl rfl rfl (as := [.int (zr h 99 v5), .int (zr h 150 ((v4 + (-1)) - 1)), .int (zr h 150 (v4 + (-1)))]) (rest := [.int ((v4 + (-1)) - 1), .ref 150]) (en := [some (.int (zr h 99 v5)), some (.int (zr h 150 ((v4 + (-1)) - 1))), some (.int (zr h 150 (v4 + (-1))))]) rfl rfl rfl rfl rfl ?_
        refine f_M_of_t (zr h 99 v5) (zr h 150 ((v4 + (-1)) - 1)) (zr h 150 (v4 + (-1))) h hs hob ?_
        show zg x (d + 3) 221 182 [some (.ref 92), some (.int v1), some (.int z2), some (.int v3), some (.int (v4 + (-1))), some (.int v5), some (.int (zr h 99 v5))] [.int (f_M_of (zr h 99 v5) (zr h 150 ((v4 + (-1)) - 1)) (zr h 150 (v4 + (-1))) h), .int ((v4 + (-1)) - 1), .ref 150] h Q
        have hob := ho
        refine zg_ias hs zd_221 rfl rfl hob (fun hs => ?_)
        exact K89 hs
      · have ho := ho.1 hc
        rw [show ((if ((zr h 99 v5) = 11) then (v4 : Int32) else (v4 + (-1))) : Int32) = v4 from if_pos hc] at K89
        rw [show (if ((zr h 99 v5) = 11) then (zs h 150 (v4 - 1) (1 - (zr h 150 (v4 - 1)))) else (zs h 150 ((v4 + (-1)) - 1) (f_M_of (zr h 99 v5) (zr h 150 ((v4 + (-1)) - 1)) (zr h 150 (v4 + (-1))) h))) = (zs h 150 (v4 - 1) (1 - (zr h 150 (v4 - 1)))) from if_pos hc] at K89
        refine zg_blk zd_221 11 hs (rfl : zb x zT0 zc_221 11 (127, [some (.ref 92), some (.int v1), some (.int z2), some (.int v3), some (.int v4), some (.int v5), some (.int (zr h 99 v5))], [], h) = some (144, [some (.ref 92), some (.int v1), some (.int z2), some (.int v3), some (.int v4), some (.int v5), some (.int (zr h 99 v5))], [.int (v4 - 1), .ref 150, .int 1, .int (v4 - 1), .ref 150], h)) (fun hs => ?_)
        obtain ⟨hob, ho⟩ := ho
        refine zg_ial hs zd_221 rfl rfl hob ?_
        refine zg_blk zd_221 1 hs (rfl : zb x zT0 zc_221 1 (145, [some (.ref 92), some (.int v1), some (.int z2), some (.int v3), some (.int v4), some (.int v5), some (.int (zr h 99 v5))], [.int (zr h 150 (v4 - 1)), .int 1, .int (v4 - 1), .ref 150], h) = some (146, [some (.ref 92), some (.int v1), some (.int z2), some (.int v3), some (.int v4), some (.int v5), some (.int (zr h 99 v5))], [.int (1 - (zr h 150 (v4 - 1))), .int (v4 - 1), .ref 150], h)) (fun hs => ?_)
        have hob := ho
        refine zg_ias hs zd_221 rfl rfl hob (fun hs => ?_)
        refine zg_blk zd_221 1 hs (rfl : zb x zT0 zc_221 1 (147, [some (.ref 92), some (.int v1), some (.int z2), some (.int v3), some (.int v4), some (.int v5), some (.int (zr h 99 v5))], [], (zs h 150 (v4 - 1) (1 - (zr h 150 (v4 - 1))))) = some (183, [some (.ref 92), some (.int v1), some (.int z2), some (.int v3), some (.int v4), some (.int v5), some (.int (zr h 99 v5))], [], (zs h 150 (v4 - 1) (1 - (zr h 150 (v4 - 1)))))) (fun hs => ?_)
        exact K89 hs
    · have ho := hom.2 hc
      rw [show ((if (1 < (zr h 99 v5)) then ((if ((zr h 99 v5) = 11) then (v4 : Int32) else (v4 + (-1))) : Int32) else (v4 + 1)) : Int32) = (v4 + 1) from if_neg hc] at K89
      rw [show (if (1 < (zr h 99 v5)) then (if ((zr h 99 v5) = 11) then (zs h 150 (v4 - 1) (1 - (zr h 150 (v4 - 1)))) else (zs h 150 ((v4 + (-1)) - 1) (f_M_of (zr h 99 v5) (zr h 150 ((v4 + (-1)) - 1)) (zr h 150 (v4 + (-1))) h))) else (zs h 150 v4 (if ((zr h 99 v5) = 0) then ((zr h 100 v5) : Int32) else (zr h 149 (zr h 100 v5))))) = (zs h 150 v4 (if ((zr h 99 v5) = 0) then ((zr h 100 v5) : Int32) else (zr h 149 (zr h 100 v5)))) from if_neg hc] at K89
      refine zg_blk zd_221 4 hs (rfl : zb x zT0 zc_221 4 (80, [some (.ref 92), some (.int v1), some (.int z2), some (.int v3), some (.int v4), some (.int v5), some (.int (zr h 99 v5))], [], h) = some (88, [some (.ref 92), some (.int v1), some (.int z2), some (.int v3), some (.int v4), some (.int v5), some (.int (zr h 99 v5))], [.int (zr h 99 v5), .int v4, .ref 150], h)) (fun hs => ?_)
      obtain ⟨hom, ho⟩ := ho
      have K90 : zSh zT0 h → zg x (d + 3) 221 113 [some (.ref 92), some (.int v1), some (.int z2), some (.int v3), some (.int v4), some (.int v5), some (.int (zr h 99 v5))] [.int (if ((zr h 99 v5) = 0) then ((zr h 100 v5) : Int32) else (zr h 149 (zr h 100 v5))), .int v4, .ref 150] h Q := fun hs => by
        have hob := ho
        refine zg_ias hs zd_221 rfl rfl hob (fun hs => ?_)
        refine zg_blk zd_221 2 hs (rfl : zb x zT0 zc_221 2 (114, [some (.ref 92), some (.int v1), some (.int z2), some (.int v3), some (.int v4), some (.int v5), some (.int (zr h 99 v5))], [], (zs h 150 v4 (if ((zr h 99 v5) = 0) then ((zr h 100 v5) : Int32) else (zr h 149 (zr h 100 v5))))) = some (183, [some (.ref 92), some (.int v1), some (.int z2), some (.int v3), some (.int (v4 + 1)), some (.int v5), some (.int (zr h 99 v5))], [], (zs h 150 v4 (if ((zr h 99 v5) = 0) then ((zr h 100 v5) : Int32) else (zr h 149 (zr h 100 v5)))))) (fun hs => ?_)
        exact K89 hs
      refine zg_f_ne zd_221 rfl (fun (hc : ¬ ((zr h 99 v5) = 0)) => ?_) (fun (hc : ((zr h 99 v5) = 0)) => ?_)
      · have ho := hom.2 hc
        rw [show ((if ((zr h 99 v5) = 0) then ((zr h 100 v5) : Int32) else (zr h 149 (zr h 100 v5))) : Int32) = (zr h 149 (zr h 100 v5)) from if_neg hc] at K90
        refine zg_blk zd_221 5 hs (rfl : zb x zT0 zc_221 5 (101, [some (.ref 92), some (.int v1), some (.int z2), some (.int v3), some (.int v4), some (.int v5), some (.int (zr h 99 v5))], [.int v4, .ref 150], h) = some (111, [some (.ref 92), some (.int v1), some (.int z2), some (.int v3), some (.int v4), some (.int v5), some (.int (zr h 99 v5))], [.int v5, .ref 100, .ref 149, .int v4, .ref 150], h)) (fun hs => ?_)
        obtain ⟨hob, ho⟩ := ho
        refine zg_ial hs zd_221 rfl rfl hob ?_
        have hob := ho
        refine zg_ial hs zd_221 rfl rfl hob ?_
        exact K90 hs
      · have ho := hom.1 hc
        rw [show ((if ((zr h 99 v5) = 0) then ((zr h 100 v5) : Int32) else (zr h 149 (zr h 100 v5))) : Int32) = (zr h 100 v5) from if_pos hc] at K90
        refine zg_blk zd_221 3 hs (rfl : zb x zT0 zc_221 3 (91, [some (.ref 92), some (.int v1), some (.int z2), some (.int v3), some (.int v4), some (.int v5), some (.int (zr h 99 v5))], [.int v4, .ref 150], h) = some (97, [some (.ref 92), some (.int v1), some (.int z2), some (.int v3), some (.int v4), some (.int v5), some (.int (zr h 99 v5))], [.int v5, .ref 100, .int v4, .ref 150], h)) (fun hs => ?_)
        have hob := ho
        refine zg_ial hs zd_221 rfl rfl hob ?_
        refine zg_blk zd_221 1 hs (rfl : zb x zT0 zc_221 1 (98, [some (.ref 92), some (.int v1), some (.int z2), some (.int v3), some (.int v4), some (.int v5), some (.int (zr h 99 v5))], [.int (zr h 100 v5), .int v4, .ref 150], h) = some (113, [some (.ref 92), some (.int v1), some (.int z2), some (.int v3), some (.int v4), some (.int v5), some (.int (zr h 99 v5))], [.int (zr h 100 v5), .int v4, .ref 150], h)) (fun hs => ?_)
        exact K90 hs
theorem f_M_tells_l44_t {x : zm_X} {d : Nat} (v1 : Int32) (v3 : Int32) {Q : Option Value → zm_H → Prop} (G : Nat × Int32 × Int32 × zm_H → Prop) (hx1 : ∀ (v4 : Int32) (v5 : Int32) (h : zm_H) (z2 : Int32) (o4 : Option Value) (o5 : Option Value) (o6 : Option Value), zSh zT0 h → G (1, v4, v5, h) → zg x (d + 3) 221 189 [some (.ref 92), some (.int v1), some (.int z2), some (.int v3), o4, o5, o6] [] h Q) : ∀ (n : Nat) (v4 : Int32) (v5 : Int32) (h : zm_H) (z2 : Int32) (o6 : Option Value), zSh zT0 h → f_M_tells_l44_ok v1 v3 n (v4, v5, h) → G (f_M_tells_l44 v1 v3 n (v4, v5, h)) → zg x (d + 3) 221 44 [some (.ref 92), some (.int v1), some (.int z2), some (.int v3), some (.int v4), some (.int v5), o6] [] h Q := by
  intro n
  induction n with
  | zero => intro v4 v5 h z2 o6 hs ho hG; exact ho.elim
  | succ n ih =>
    intro v4 v5 h z2 o6 hs ho hG
    refine f_M_tells_l44_b_t (FN := fun r => (r.1 = 0 → f_M_tells_l44_ok v1 v3 n r.2) ∧ G (if r.1 = 0 then f_M_tells_l44 v1 v3 n r.2 else r)) v1 v3 v4 v5 h z2 o6 hs ho.1 ⟨ho.2, hG⟩ ?_ ?_
    · intro v4 v5 h z2 o6 hs hF
      exact ih v4 v5 h z2 o6 hs (hF.1 rfl) hF.2
    · intro v4 v5 h z2 o4 o5 o6 hs hF
      exact hx1 v4 v5 h z2 o4 o5 o6 hs hF.2

set_option maxRecDepth 100000 in
set_option maxHeartbeats 400000 in
theorem f_M_tells_k189_t {x : zm_X} {d : Nat} (h : zm_H) (o1 : Option Value) (z2 : Int32) (o3 : Option Value) (o4 : Option Value) (o5 : Option Value) (o6 : Option Value) {Q : Option Value → zm_H → Prop} (hs : zSh zT0 h) (ho : f_M_tells_k189_ok h) (hF : (zSh zT0 (f_M_tells_k189 h).2 → Q (some (.int (f_M_tells_k189 h).1)) (f_M_tells_k189 h).2)) : zg x (d + 3) 221 189 [some (.ref 92), o1, some (.int z2), o3, o4, o5, o6] [] h Q := by
  unfold f_M_tells_k189 at hF
  unfold f_M_tells_k189_ok at ho
  refine zg_blk zd_221 3 hs (rfl : zb x zT0 zc_221 3 (189, [some (.ref 92), o1, some (.int z2), o3, o4, o5, o6], [], h) = some (194, [some (.ref 92), o1, some (.int z2), o3, o4, o5, o6], [.int 0, .ref 150], h)) (fun hs => ?_)
  refine zg_ial hs zd_221 rfl rfl (by unfold vp_in; decide) ?_
  exact zg_ret zd_221 rfl rfl (hF hs)
set_option maxRecDepth 100000 in
set_option maxHeartbeats 400000 in
theorem f_M_tells_t {x : zm_X} {d : Nat} (p1 : Int32) (p2 : Int32) (h : zm_H) {Q : Option Value → zm_H → Prop} (hs : zSh zT0 h) (ho : f_M_tells_ok p1 p2 h) (hF : (zSh zT0 (f_M_tells p1 p2 h).2 → Q (some (.int (f_M_tells p1 p2 h).1)) (f_M_tells p1 p2 h).2)) : zg x (d + 3) 221 0 [some (.ref 92), some (.int p1), some (.int p2), none, none, none, none] [] h Q := by
  unfold f_M_tells at hF
  unfold f_M_tells_ok at ho
  refine zg_blk zd_221 3 hs (rfl : zb x zT0 zc_221 3 (0, [some (.ref 92), some (.int p1), some (.int p2), none, none, none, none], [], h) = some (3, [some (.ref 92), some (.int p1), some (.int p2), none, none, none, none], [.int p2, .int p1, .ref 92], h)) (fun hs => ?_)
  obtain ⟨hob, ho⟩ := ho
  refine zg_call hs zd_221 rfl rfl rfl rfl (as := [.ref 92, .int p1, .int p2]) (rest := []) (en := [some (.ref 92), some (.int p1), some (.int p2), none, none, none]) rfl rfl rfl rfl rfl ?_
  refine f_M_inForce_t p1 p2 h hs hob ?_
  show zg x (d + 3) 221 6 [some (.ref 92), some (.int p1), some (.int p2), none, none, none, none] [.int (f_M_inForce p1 p2 h)] h Q
  refine zg_blk zd_221 3 hs (rfl : zb x zT0 zc_221 3 (6, [some (.ref 92), some (.int p1), some (.int p2), none, none, none, none], [.int (f_M_inForce p1 p2 h)], h) = some (9, [some (.ref 92), some (.int p1), some (.int p2), some (.int (f_M_inForce p1 p2 h)), none, none, none], [.int (-1), .int (f_M_inForce p1 p2 h)], h)) (fun hs => ?_)
  refine zg_i_ne zd_221 rfl (fun (hc : ¬ ((f_M_inForce p1 p2 h) = (-1))) => ?_) (fun (hc : ((f_M_inForce p1 p2 h) = (-1))) => ?_)
  · have ho := ho.2 hc
    rw [if_neg hc] at hF
    refine zg_blk zd_221 12 hs (rfl : zb x zT0 zc_221 12 (23, [some (.ref 92), some (.int p1), some (.int p2), some (.int (f_M_inForce p1 p2 h)), none, none, none], [], h) = some (40, [some (.ref 92), some (.int p1), some (.int p2), some (.int (f_M_inForce p1 p2 h)), some (.int 0), none, none], [.int ((4 * (f_M_inForce p1 p2 h)) + p1), .ref 101, .int (400 * (f_M_inForce p1 p2 h))], h)) (fun hs => ?_)
    obtain ⟨hob, ho⟩ := ho
    refine zg_ial hs zd_221 rfl rfl hob ?_
    refine zg_blk zd_221 2 hs (rfl : zb x zT0 zc_221 2 (41, [some (.ref 92), some (.int p1), some (.int p2), some (.int (f_M_inForce p1 p2 h)), some (.int 0), none, none], [.int (zr h 101 ((4 * (f_M_inForce p1 p2 h)) + p1)), .int (400 * (f_M_inForce p1 p2 h))], h) = some (44, [some (.ref 92), some (.int p1), some (.int p2), some (.int (f_M_inForce p1 p2 h)), some (.int 0), some (.int ((400 * (f_M_inForce p1 p2 h)) + (zr h 101 ((4 * (f_M_inForce p1 p2 h)) + p1)))), none], [], h)) (fun hs => ?_)
    refine f_M_tells_l44_t p1 (f_M_inForce p1 p2 h) (fun r => f_M_tells_a44_ok r ∧ (zSh zT0 (f_M_tells_a44 r).2 → Q (some (.int (f_M_tells_a44 r).1)) (f_M_tells_a44 r).2)) ?_ zF 0 ((400 * (f_M_inForce p1 p2 h)) + (zr h 101 ((4 * (f_M_inForce p1 p2 h)) + p1))) h p2 (none) hs ho.1 ⟨ho.2, hF⟩
    · intro v4_ v5_ h_ z2_ o4_ o5_ o6_ hs hG
      have ho : True := trivial
      have hF : (zSh zT0 ((f_M_tells_k189 h_)).2 → Q (some (.int ((f_M_tells_k189 h_)).1)) ((f_M_tells_k189 h_)).2) := hG.2
      exact f_M_tells_k189_t h_ (some (.int p1)) z2_ (some (.int (f_M_inForce p1 p2 h))) (o4_) (o5_) (o6_) hs trivial hF
  · have ho := ho.1 hc
    rw [if_pos hc] at hF
    refine zg_blk zd_221 2 hs (rfl : zb x zT0 zc_221 2 (12, [some (.ref 92), some (.int p1), some (.int p2), some (.int (f_M_inForce p1 p2 h)), none, none, none], [], h) = some (14, [some (.ref 92), some (.int p1), some (.int p2), some (.int (f_M_inForce p1 p2 h)), none, none, none], [.int 2, .int p1], h)) (fun hs => ?_)
    have K91 : zSh zT0 h → zg x (d + 3) 221 22 [some (.ref 92), some (.int p1), some (.int p2), some (.int (f_M_inForce p1 p2 h)), none, none, none] [.int (if (p1 = 2) then (1 : Int32) else 0)] h Q := fun hs => by
      exact zg_ret zd_221 rfl rfl (hF hs)
    refine zg_i_ne zd_221 rfl (fun (hc : ¬ (p1 = 2)) => ?_) (fun (hc : (p1 = 2)) => ?_)
    · skip
      rw [show ((if (p1 = 2) then (1 : Int32) else 0) : Int32) = 0 from if_neg hc] at K91
      refine zg_blk zd_221 1 hs (rfl : zb x zT0 zc_221 1 (21, [some (.ref 92), some (.int p1), some (.int p2), some (.int (f_M_inForce p1 p2 h)), none, none, none], [], h) = some (22, [some (.ref 92), some (.int p1), some (.int p2), some (.int (f_M_inForce p1 p2 h)), none, none, none], [.int 0], h)) (fun hs => ?_)
      exact K91 hs
    · skip
      rw [show ((if (p1 = 2) then (1 : Int32) else 0) : Int32) = 1 from if_pos hc] at K91
      refine zg_blk zd_221 2 hs (rfl : zb x zT0 zc_221 2 (17, [some (.ref 92), some (.int p1), some (.int p2), some (.int (f_M_inForce p1 p2 h)), none, none, none], [], h) = some (22, [some (.ref 92), some (.int p1), some (.int p2), some (.int (f_M_inForce p1 p2 h)), none, none, none], [.int 1], h)) (fun hs => ?_)
      exact K91 hs
set_option maxRecDepth 100000 in
set_option maxHeartbeats 400000 in
theorem f_M_spell_l24_k47_t {x : zm_X} {d : Nat} (v1 : Int32) (w0 : Int32) (h : zm_H) {Q : Option Value → zm_H → Prop} {FN : Nat × Int32 × zm_H → Prop} (hs : zSh zT0 h) (ho : f_M_spell_l24_k47_ok v1 w0 h) (hF : FN (f_M_spell_l24_k47 v1 w0 h)) (hl0 : ∀ (v1 : Int32) (h : zm_H), zSh zT0 h → FN (0, v1, h) → zg x (d + 5) 217 24 [some (.ref 92), some (.int v1)] [] h Q) (hl1 : ∀ (v1 : Int32) (h : zm_H) (o1 : Option Value), zSh zT0 h → FN (1, v1, h) → zg x (d + 5) 217 76 [some (.ref 92), o1] [] h Q) : zg x (d + 5) 217 47 [some (.ref 92), some (.int v1)] [.int w0] h Q := by
  unfold f_M_spell_l24_k47 at hF
  unfold f_M_spell_l24_k47_ok at ho
  have hom := ho
  have K92 : zSh zT0 (if (w0 = 0) then (zs (zs h 139 v1 (zm_nb 2 0)) 145 v1 ((zr h 145 v1) + 1)) else h) → zg x (d + 5) 217 70 [some (.ref 92), some (.int v1)] [] (if (w0 = 0) then (zs (zs h 139 v1 (zm_nb 2 0)) 145 v1 ((zr h 145 v1) + 1)) else h) Q := fun hs => by
    refine zg_blk zd_217 2 hs (rfl : zb x zT0 zc_217 2 (70, [some (.ref 92), some (.int v1)], [], (if (w0 = 0) then (zs (zs h 139 v1 (zm_nb 2 0)) 145 v1 ((zr h 145 v1) + 1)) else h)) = some (24, [some (.ref 92), some (.int (v1 + 1))], [], (if (w0 = 0) then (zs (zs h 139 v1 (zm_nb 2 0)) 145 v1 ((zr h 145 v1) + 1)) else h))) (fun hs => ?_)
    exact hl0 (v1 + 1) (if (w0 = 0) then (zs (zs h 139 v1 (zm_nb 2 0)) 145 v1 ((zr h 145 v1) + 1)) else h) hs hF
  refine zg_f_eq zd_217 rfl (fun (hc : (w0 = 0)) => ?_) (fun (hc : ¬ (w0 = 0)) => ?_)
  · have ho := hom.1 hc
    rw [show (if (w0 = 0) then (zs (zs h 139 v1 (zm_nb 2 0)) 145 v1 ((zr h 145 v1) + 1)) else h) = (zs (zs h 139 v1 (zm_nb 2 0)) 145 v1 ((zr h 145 v1) + 1)) from if_pos hc] at K92
    refine zg_blk zd_217 4 hs (rfl : zb x zT0 zc_217 4 (53, [some (.ref 92), some (.int v1)], [], h) = some (59, [some (.ref 92), some (.int v1)], [.int 0, .int v1, .ref 139], h)) (fun hs => ?_)
    obtain ⟨hob, ho⟩ := ho
    refine zg_bas hs zd_217 rfl rfl (by decide) hob (fun hs => ?_)
    refine zg_blk zd_217 4 hs (rfl : zb x zT0 zc_217 4 (60, [some (.ref 92), some (.int v1)], [], (zs h 139 v1 (zm_nb 2 0))) = some (66, [some (.ref 92), some (.int v1)], [.int v1, .ref 145, .int v1, .ref 145], (zs h 139 v1 (zm_nb 2 0)))) (fun hs => ?_)
    obtain ⟨hob, ho⟩ := ho
    refine zg_ial hs zd_217 rfl rfl hob ?_
    refine zg_blk zd_217 2 hs (rfl : zb x zT0 zc_217 2 (67, [some (.ref 92), some (.int v1)], [.int (zr h 145 v1), .int v1, .ref 145], (zs h 139 v1 (zm_nb 2 0))) = some (69, [some (.ref 92), some (.int v1)], [.int ((zr h 145 v1) + 1), .int v1, .ref 145], (zs h 139 v1 (zm_nb 2 0)))) (fun hs => ?_)
    have hob := ho
    refine zg_ias hs zd_217 rfl rfl hob (fun hs => ?_)
    exact K92 hs
  · have ho := hom.2 hc
    rw [show (if (w0 = 0) then (zs (zs h 139 v1 (zm_nb 2 0)) 145 v1 ((zr h 145 v1) + 1)) else h) = h from if_neg hc] at K92
    refine zg_blk zd_217 1 hs (rfl : zb x zT0 zc_217 1 (50, [some (.ref 92), some (.int v1)], [], h) = some (70, [some (.ref 92), some (.int v1)], [], h)) (fun hs => ?_)
    exact K92 hs
set_option maxRecDepth 100000 in
set_option maxHeartbeats 400000 in
theorem f_M_spell_l24_b_t {x : zm_X} {d : Nat} (v1 : Int32) (h : zm_H) {Q : Option Value → zm_H → Prop} {FN : Nat × Int32 × zm_H → Prop} (hs : zSh zT0 h) (ho : f_M_spell_l24_b_ok v1 h) (hF : FN (f_M_spell_l24_b v1 h)) (hl0 : ∀ (v1 : Int32) (h : zm_H), zSh zT0 h → FN (0, v1, h) → zg x (d + 5) 217 24 [some (.ref 92), some (.int v1)] [] h Q) (hl1 : ∀ (v1 : Int32) (h : zm_H) (o1 : Option Value), zSh zT0 h → FN (1, v1, h) → zg x (d + 5) 217 76 [some (.ref 92), o1] [] h Q) : zg x (d + 5) 217 24 [some (.ref 92), some (.int v1)] [] h Q := by
  unfold f_M_spell_l24_b at hF
  unfold f_M_spell_l24_b_ok at ho
  refine zg_blk zd_217 2 hs (rfl : zb x zT0 zc_217 2 (24, [some (.ref 92), some (.int v1)], [], h) = some (26, [some (.ref 92), some (.int v1)], [.int 3, .int v1], h)) (fun hs => ?_)
  refine zg_i_ge zd_217 rfl (fun (hc : (3 ≤ v1)) => ?_) (fun (hc : ¬ (3 ≤ v1)) => ?_)
  · have ho := ho.1 hc
    rw [if_pos hc] at hF
    exact hl1 v1 h (some (.int v1)) hs hF
  · have ho := ho.2 hc
    rw [if_neg hc] at hF
    refine zg_blk zd_217 3 hs (rfl : zb x zT0 zc_217 3 (29, [some (.ref 92), some (.int v1)], [], h) = some (34, [some (.ref 92), some (.int v1)], [.int v1, .ref 139], h)) (fun hs => ?_)
    obtain ⟨hob, ho⟩ := ho
    refine zg_bal hs zd_217 rfl rfl (by decide) hob ?_
    refine zg_f_eq zd_217 rfl (fun (hc : ((zr h 139 v1) = 0)) => ?_) (fun (hc : ¬ ((zr h 139 v1) = 0)) => ?_)
    · have ho := ho.1 hc
      rw [if_pos hc] at hF
      exact f_M_spell_l24_k70_t v1 h hs trivial hF hl0 hl1
    · have ho := ho.2 hc
      rw [if_neg hc] at hF
      refine zg_blk zd_217 4 hs (rfl : zb x zT0 zc_217 4 (38, [some (.ref 92), some (.int v1)], [], h) = some (44, [some (.ref 92), some (.int v1)], [.int (zf h 92 23), .int 2, .ref 92], h)) (fun hs => ?_)
      obtain ⟨hob, ho⟩ := ho
      refine zg_call hs zd_217 rfl rfl rfl rfl (as := [.ref 92, .int 2, .int (zf h 92 23)]) (rest := []) (en := [some (.ref 92), some (.int 2), some (.int (zf h 92 23)), none, none, none, none]) rfl rfl rfl rfl rfl ?_
      refine f_M_tells_t 2 (zf h 92 23) h hs hob (fun hs => ?_)
      show zg x (d + 5) 217 47 [some (.ref 92), some (.int v1)] [.int (f_M_tells 2 (zf h 92 23) h).1] (f_M_tells 2 (zf h 92 23) h).2 Q
      exact f_M_spell_l24_k47_t v1 (f_M_tells 2 (zf h 92 23) h).1 (f_M_tells 2 (zf h 92 23) h).2 hs ho hF hl0 hl1
theorem f_M_spell_l24_t {x : zm_X} {d : Nat} {Q : Option Value → zm_H → Prop} (G : Nat × Int32 × zm_H → Prop) (hx1 : ∀ (v1 : Int32) (h : zm_H) (o1 : Option Value), zSh zT0 h → G (1, v1, h) → zg x (d + 5) 217 76 [some (.ref 92), o1] [] h Q) : ∀ (n : Nat) (v1 : Int32) (h : zm_H), zSh zT0 h → f_M_spell_l24_ok n (v1, h) → G (f_M_spell_l24 n (v1, h)) → zg x (d + 5) 217 24 [some (.ref 92), some (.int v1)] [] h Q := by
  intro n
  induction n with
  | zero => intro v1 h hs ho hG; exact ho.elim
  | succ n ih =>
    intro v1 h hs ho hG
    refine f_M_spell_l24_b_t (FN := fun r => (r.1 = 0 → f_M_spell_l24_ok n r.2) ∧ G (if r.1 = 0 then f_M_spell_l24 n r.2 else r)) v1 h hs ho.1 ⟨ho.2, hG⟩ ?_ ?_
    · intro v1 h hs hF
      exact ih v1 h hs (hF.1 rfl) hF.2
    · intro v1 h o1 hs hF
      exact hx1 v1 h o1 hs hF.2

theorem zd_224 : zm_cd 224 = zc_224 := by rfl
set_option maxRecDepth 100000 in
set_option maxHeartbeats 400000 in
theorem f_M_goes_l2_k84_t {x : zm_X} {d : Nat} (v1 : Int32) (v2 : Int32) (v3 : Int32) (h : zm_H) (o4 : Option Value) {Q : Option Value → zm_H → Prop} {FN : Nat × Int32 × zm_H → Prop} (hs : zSh zT0 h) (ho : f_M_goes_l2_k84_ok v1 v2 v3 h) (hF : FN (f_M_goes_l2_k84 v1 v2 v3 h)) (hl0 : ∀ (v3 : Int32) (h : zm_H) (o4 : Option Value), zSh zT0 h → FN (0, v3, h) → zg x (d + 4) 224 2 [some (.ref 92), some (.int v1), some (.int v2), some (.int v3), o4] [] h Q) (hl1 : ∀ (v3 : Int32) (h : zm_H) (o3 : Option Value) (o4 : Option Value), zSh zT0 h → FN (1, v3, h) → zg x (d + 4) 224 90 [some (.ref 92), some (.int v1), some (.int v2), o3, o4] [] h Q) : zg x (d + 4) 224 84 [some (.ref 92), some (.int v1), some (.int v2), some (.int v3), o4] [] h Q := by
  unfold f_M_goes_l2_k84 at hF
  unfold f_M_goes_l2_k84_ok at ho
  refine zg_blk zd_224 2 hs (rfl : zb x zT0 zc_224 2 (84, [some (.ref 92), some (.int v1), some (.int v2), some (.int v3), o4], [], h) = some (2, [some (.ref 92), some (.int v1), some (.int v2), some (.int (v3 + 1)), o4], [], h)) (fun hs => ?_)
  exact hl0 (v3 + 1) h (o4) hs hF
set_option maxRecDepth 100000 in
set_option maxHeartbeats 400000 in
theorem f_M_goes_l2_k73_t {x : zm_X} {d : Nat} (v1 : Int32) (v2 : Int32) (v3 : Int32) (v4 : Int32) (w0 : Int32) (h : zm_H) {Q : Option Value → zm_H → Prop} {FN : Nat × Int32 × zm_H → Prop} (hs : zSh zT0 h) (ho : f_M_goes_l2_k73_ok v1 v2 v3 v4 w0 h) (hF : FN (f_M_goes_l2_k73 v1 v2 v3 v4 w0 h)) (hl0 : ∀ (v3 : Int32) (h : zm_H) (o4 : Option Value), zSh zT0 h → FN (0, v3, h) → zg x (d + 4) 224 2 [some (.ref 92), some (.int v1), some (.int v2), some (.int v3), o4] [] h Q) (hl1 : ∀ (v3 : Int32) (h : zm_H) (o3 : Option Value) (o4 : Option Value), zSh zT0 h → FN (1, v3, h) → zg x (d + 4) 224 90 [some (.ref 92), some (.int v1), some (.int v2), o3, o4] [] h Q) : zg x (d + 4) 224 73 [some (.ref 92), some (.int v1), some (.int v2), some (.int v3), some (.int v4)] [.int w0] h Q := by
  unfold f_M_goes_l2_k73 at hF
  unfold f_M_goes_l2_k73_ok at ho
  have hom := ho
  have K93 : zSh zT0 (if (w0 = 0) then h else (zs h 123 v4 1)) → zg x (d + 4) 224 84 [some (.ref 92), some (.int v1), some (.int v2), some (.int v3), some (.int v4)] [] (if (w0 = 0) then h else (zs h 123 v4 1)) Q := fun hs => by
    refine zg_blk zd_224 2 hs (rfl : zb x zT0 zc_224 2 (84, [some (.ref 92), some (.int v1), some (.int v2), some (.int v3), some (.int v4)], [], (if (w0 = 0) then h else (zs h 123 v4 1))) = some (2, [some (.ref 92), some (.int v1), some (.int v2), some (.int (v3 + 1)), some (.int v4)], [], (if (w0 = 0) then h else (zs h 123 v4 1)))) (fun hs => ?_)
    exact hl0 (v3 + 1) (if (w0 = 0) then h else (zs h 123 v4 1)) (some (.int v4)) hs hF
  refine zg_f_eq zd_224 rfl (fun (hc : (w0 = 0)) => ?_) (fun (hc : ¬ (w0 = 0)) => ?_)
  · have ho := hom.1 hc
    rw [show (if (w0 = 0) then h else (zs h 123 v4 1)) = h from if_pos hc] at K93
    exact K93 hs
  · have ho := hom.2 hc
    rw [show (if (w0 = 0) then h else (zs h 123 v4 1)) = (zs h 123 v4 1) from if_neg hc] at K93
    refine zg_blk zd_224 4 hs (rfl : zb x zT0 zc_224 4 (76, [some (.ref 92), some (.int v1), some (.int v2), some (.int v3), some (.int v4)], [], h) = some (83, [some (.ref 92), some (.int v1), some (.int v2), some (.int v3), some (.int v4)], [.int 1, .int v4, .ref 123], h)) (fun hs => ?_)
    have hob := ho
    refine zg_ias hs zd_224 rfl rfl hob (fun hs => ?_)
    exact K93 hs
set_option maxRecDepth 100000 in
set_option maxHeartbeats 400000 in
theorem f_M_goes_l2_k42_t {x : zm_X} {d : Nat} (v1 : Int32) (v2 : Int32) (v3 : Int32) (v4 : Int32) (w0 : Int32) (h : zm_H) {Q : Option Value → zm_H → Prop} {FN : Nat × Int32 × zm_H → Prop} (hs : zSh zT0 h) (ho : f_M_goes_l2_k42_ok v1 v2 v3 v4 w0 h) (hF : FN (f_M_goes_l2_k42 v1 v2 v3 v4 w0 h)) (hl0 : ∀ (v3 : Int32) (h : zm_H) (o4 : Option Value), zSh zT0 h → FN (0, v3, h) → zg x (d + 4) 224 2 [some (.ref 92), some (.int v1), some (.int v2), some (.int v3), o4] [] h Q) (hl1 : ∀ (v3 : Int32) (h : zm_H) (o3 : Option Value) (o4 : Option Value), zSh zT0 h → FN (1, v3, h) → zg x (d + 4) 224 90 [some (.ref 92), some (.int v1), some (.int v2), o3, o4] [] h Q) : zg x (d + 4) 224 42 [some (.ref 92), some (.int v1), some (.int v2), some (.int v3), some (.int v4)] [.int w0] h Q := by
  unfold f_M_goes_l2_k42 at hF
  unfold f_M_goes_l2_k42_ok at ho
  have hom := ho
  have K94 : zSh zT0 (if (w0 = 0) then h else (zs h 123 v4 2)) → zg x (d + 4) 224 84 [some (.ref 92), some (.int v1), some (.int v2), some (.int v3), some (.int v4)] [] (if (w0 = 0) then h else (zs h 123 v4 2)) Q := fun hs => by
    refine zg_blk zd_224 2 hs (rfl : zb x zT0 zc_224 2 (84, [some (.ref 92), some (.int v1), some (.int v2), some (.int v3), some (.int v4)], [], (if (w0 = 0) then h else (zs h 123 v4 2))) = some (2, [some (.ref 92), some (.int v1), some (.int v2), some (.int (v3 + 1)), some (.int v4)], [], (if (w0 = 0) then h else (zs h 123 v4 2)))) (fun hs => ?_)
    exact hl0 (v3 + 1) (if (w0 = 0) then h else (zs h 123 v4 2)) (some (.int v4)) hs hF
  refine zg_f_eq zd_224 rfl (fun (hc : (w0 = 0)) => ?_) (fun (hc : ¬ (w0 = 0)) => ?_)
  · have ho := hom.1 hc
    rw [show (if (w0 = 0) then h else (zs h 123 v4 2)) = h from if_pos hc] at K94
    exact K94 hs
  · have ho := hom.2 hc
    rw [show (if (w0 = 0) then h else (zs h 123 v4 2)) = (zs h 123 v4 2) from if_neg hc] at K94
    refine zg_blk zd_224 4 hs (rfl : zb x zT0 zc_224 4 (45, [some (.ref 92), some (.int v1), some (.int v2), some (.int v3), some (.int v4)], [], h) = some (52, [some (.ref 92), some (.int v1), some (.int v2), some (.int v3), some (.int v4)], [.int 2, .int v4, .ref 123], h)) (fun hs => ?_)
    have hob := ho
    refine zg_ias hs zd_224 rfl rfl hob (fun hs => ?_)
    refine zg_blk zd_224 1 hs (rfl : zb x zT0 zc_224 1 (53, [some (.ref 92), some (.int v1), some (.int v2), some (.int v3), some (.int v4)], [], (zs h 123 v4 2)) = some (84, [some (.ref 92), some (.int v1), some (.int v2), some (.int v3), some (.int v4)], [], (zs h 123 v4 2))) (fun hs => ?_)
    exact K94 hs
set_option maxRecDepth 100000 in
set_option maxHeartbeats 400000 in
theorem f_M_goes_l2_k25_t {x : zm_X} {d : Nat} (v1 : Int32) (v2 : Int32) (v3 : Int32) (v4 : Int32) (h : zm_H) {Q : Option Value → zm_H → Prop} {FN : Nat × Int32 × zm_H → Prop} (hs : zSh zT0 h) (ho : f_M_goes_l2_k25_ok v1 v2 v3 v4 h) (hF : FN (f_M_goes_l2_k25 v1 v2 v3 v4 h)) (hl0 : ∀ (v3 : Int32) (h : zm_H) (o4 : Option Value), zSh zT0 h → FN (0, v3, h) → zg x (d + 4) 224 2 [some (.ref 92), some (.int v1), some (.int v2), some (.int v3), o4] [] h Q) (hl1 : ∀ (v3 : Int32) (h : zm_H) (o3 : Option Value) (o4 : Option Value), zSh zT0 h → FN (1, v3, h) → zg x (d + 4) 224 90 [some (.ref 92), some (.int v1), some (.int v2), o3, o4] [] h Q) : zg x (d + 4) 224 25 [some (.ref 92), some (.int v1), some (.int v2), some (.int v3), some (.int v4)] [] h Q := by
  unfold f_M_goes_l2_k25 at hF
  unfold f_M_goes_l2_k25_ok at ho
  refine zg_blk zd_224 3 hs (rfl : zb x zT0 zc_224 3 (25, [some (.ref 92), some (.int v1), some (.int v2), some (.int v3), some (.int v4)], [], h) = some (31, [some (.ref 92), some (.int v1), some (.int v2), some (.int v3), some (.int v4)], [.int v4, .ref 123], h)) (fun hs => ?_)
  obtain ⟨hob, ho⟩ := ho
  refine zg_ial hs zd_224 rfl rfl hob ?_
  refine zg_blk zd_224 1 hs (rfl : zb x zT0 zc_224 1 (32, [some (.ref 92), some (.int v1), some (.int v2), some (.int v3), some (.int v4)], [.int (zr h 123 v4)], h) = some (33, [some (.ref 92), some (.int v1), some (.int v2), some (.int v3), some (.int v4)], [.int 1, .int (zr h 123 v4)], h)) (fun hs => ?_)
  refine zg_i_ne zd_224 rfl (fun (hc : ¬ ((zr h 123 v4) = 1)) => ?_) (fun (hc : ((zr h 123 v4) = 1)) => ?_)
  · have ho := ho.2 hc
    rw [if_neg hc] at hF
    refine zg_blk zd_224 3 hs (rfl : zb x zT0 zc_224 3 (56, [some (.ref 92), some (.int v1), some (.int v2), some (.int v3), some (.int v4)], [], h) = some (62, [some (.ref 92), some (.int v1), some (.int v2), some (.int v3), some (.int v4)], [.int v4, .ref 123], h)) (fun hs => ?_)
    obtain ⟨hob, ho⟩ := ho
    refine zg_ial hs zd_224 rfl rfl hob ?_
    refine zg_blk zd_224 1 hs (rfl : zb x zT0 zc_224 1 (63, [some (.ref 92), some (.int v1), some (.int v2), some (.int v3), some (.int v4)], [.int (zr h 123 v4)], h) = some (64, [some (.ref 92), some (.int v1), some (.int v2), some (.int v3), some (.int v4)], [.int 2, .int (zr h 123 v4)], h)) (fun hs => ?_)
    refine zg_i_ne zd_224 rfl (fun (hc : ¬ ((zr h 123 v4) = 2)) => ?_) (fun (hc : ((zr h 123 v4) = 2)) => ?_)
    · have ho := ho.2 hc
      rw [if_neg hc] at hF
      exact f_M_goes_l2_k84_t v1 v2 v3 h (some (.int v4)) hs trivial hF hl0 hl1
    · have ho := ho.1 hc
      rw [if_pos hc] at hF
      refine zg_blk zd_224 3 hs (rfl : zb x zT0 zc_224 3 (67, [some (.ref 92), some (.int v1), some (.int v2), some (.int v3), some (.int v4)], [], h) = some (70, [some (.ref 92), some (.int v1), some (.int v2), some (.int v3), some (.int v4)], [.int v2, .int 1, .ref 92], h)) (fun hs => ?_)
      obtain ⟨hob, ho⟩ := ho
      refine zg_call hs zd_224 rfl rfl rfl rfl (as := [.ref 92, .int 1, .int v2]) (rest := []) (en := [some (.ref 92), some (.int 1), some (.int v2), none, none, none, none]) rfl rfl rfl rfl rfl ?_
      refine f_M_tells_t 1 v2 h hs hob (fun hs => ?_)
      show zg x (d + 4) 224 73 [some (.ref 92), some (.int v1), some (.int v2), some (.int v3), some (.int v4)] [.int (f_M_tells 1 v2 h).1] (f_M_tells 1 v2 h).2 Q
      exact f_M_goes_l2_k73_t v1 v2 v3 v4 (f_M_tells 1 v2 h).1 (f_M_tells 1 v2 h).2 hs ho hF hl0 hl1
  · have ho := ho.1 hc
    rw [if_pos hc] at hF
    refine zg_blk zd_224 3 hs (rfl : zb x zT0 zc_224 3 (36, [some (.ref 92), some (.int v1), some (.int v2), some (.int v3), some (.int v4)], [], h) = some (39, [some (.ref 92), some (.int v1), some (.int v2), some (.int v3), some (.int v4)], [.int v2, .int 0, .ref 92], h)) (fun hs => ?_)
    obtain ⟨hob, ho⟩ := ho
    refine zg_call hs zd_224 rfl rfl rfl rfl (as := [.ref 92, .int 0, .int v2]) (rest := []) (en := [some (.ref 92), some (.int 0), some (.int v2), none, none, none, none]) rfl rfl rfl rfl rfl ?_
    refine f_M_tells_t 0 v2 h hs hob (fun hs => ?_)
    show zg x (d + 4) 224 42 [some (.ref 92), some (.int v1), some (.int v2), some (.int v3), some (.int v4)] [.int (f_M_tells 0 v2 h).1] (f_M_tells 0 v2 h).2 Q
    exact f_M_goes_l2_k42_t v1 v2 v3 v4 (f_M_tells 0 v2 h).1 (f_M_tells 0 v2 h).2 hs ho hF hl0 hl1
set_option maxRecDepth 100000 in
set_option maxHeartbeats 400000 in
theorem f_M_goes_l2_b_t {x : zm_X} {d : Nat} (v1 : Int32) (v2 : Int32) (v3 : Int32) (h : zm_H) (o4 : Option Value) {Q : Option Value → zm_H → Prop} {FN : Nat × Int32 × zm_H → Prop} (hs : zSh zT0 h) (ho : f_M_goes_l2_b_ok v1 v2 v3 h) (hF : FN (f_M_goes_l2_b v1 v2 v3 h)) (hl0 : ∀ (v3 : Int32) (h : zm_H) (o4 : Option Value), zSh zT0 h → FN (0, v3, h) → zg x (d + 4) 224 2 [some (.ref 92), some (.int v1), some (.int v2), some (.int v3), o4] [] h Q) (hl1 : ∀ (v3 : Int32) (h : zm_H) (o3 : Option Value) (o4 : Option Value), zSh zT0 h → FN (1, v3, h) → zg x (d + 4) 224 90 [some (.ref 92), some (.int v1), some (.int v2), o3, o4] [] h Q) : zg x (d + 4) 224 2 [some (.ref 92), some (.int v1), some (.int v2), some (.int v3), o4] [] h Q := by
  unfold f_M_goes_l2_b at hF
  unfold f_M_goes_l2_b_ok at ho
  refine zg_blk zd_224 3 hs (rfl : zb x zT0 zc_224 3 (2, [some (.ref 92), some (.int v1), some (.int v2), some (.int v3), o4], [], h) = some (7, [some (.ref 92), some (.int v1), some (.int v2), some (.int v3), o4], [.int (zf h 92 33), .int v3], h)) (fun hs => ?_)
  refine zg_i_ge zd_224 rfl (fun (hc : ((zf h 92 33) ≤ v3)) => ?_) (fun (hc : ¬ ((zf h 92 33) ≤ v3)) => ?_)
  · have ho := ho.1 hc
    rw [if_pos hc] at hF
    exact hl1 v3 h (some (.int v3)) (o4) hs hF
  · have ho := ho.2 hc
    rw [if_neg hc] at hF
    refine zg_blk zd_224 10 hs (rfl : zb x zT0 zc_224 10 (10, [some (.ref 92), some (.int v1), some (.int v2), some (.int v3), o4], [], h) = some (22, [some (.ref 92), some (.int v1), some (.int v2), some (.int v3), some (.int ((10 * v1) + v3))], [.int v2, .int v3, .int v1, .ref 92], h)) (fun hs => ?_)
    obtain ⟨hob, ho⟩ := ho
    refine zg_call hs zd_224 rfl rfl rfl rfl (as := [.ref 92, .int v1, .int v3, .int v2]) (rest := []) (en := [some (.ref 92), some (.int v1), some (.int v3), some (.int v2), none]) rfl rfl rfl rfl rfl ?_
    refine f_M_asks_t v1 v3 v2 h hs hob (fun hs => ?_)
    show zg x (d + 4) 224 25 [some (.ref 92), some (.int v1), some (.int v2), some (.int v3), some (.int ((10 * v1) + v3))] [] (f_M_asks v1 v3 v2 h) Q
    exact f_M_goes_l2_k25_t v1 v2 v3 ((10 * v1) + v3) (f_M_asks v1 v3 v2 h) hs ho hF hl0 hl1
theorem f_M_goes_l2_t {x : zm_X} {d : Nat} (v1 : Int32) (v2 : Int32) {Q : Option Value → zm_H → Prop} (G : Nat × Int32 × zm_H → Prop) (hx1 : ∀ (v3 : Int32) (h : zm_H) (o3 : Option Value) (o4 : Option Value), zSh zT0 h → G (1, v3, h) → zg x (d + 4) 224 90 [some (.ref 92), some (.int v1), some (.int v2), o3, o4] [] h Q) : ∀ (n : Nat) (v3 : Int32) (h : zm_H) (o4 : Option Value), zSh zT0 h → f_M_goes_l2_ok v1 v2 n (v3, h) → G (f_M_goes_l2 v1 v2 n (v3, h)) → zg x (d + 4) 224 2 [some (.ref 92), some (.int v1), some (.int v2), some (.int v3), o4] [] h Q := by
  intro n
  induction n with
  | zero => intro v3 h o4 hs ho hG; exact ho.elim
  | succ n ih =>
    intro v3 h o4 hs ho hG
    refine f_M_goes_l2_b_t (FN := fun r => (r.1 = 0 → f_M_goes_l2_ok v1 v2 n r.2) ∧ G (if r.1 = 0 then f_M_goes_l2 v1 v2 n r.2 else r)) v1 v2 v3 h o4 hs ho.1 ⟨ho.2, hG⟩ ?_ ?_
    · intro v3 h o4 hs hF
      exact ih v3 h o4 hs (hF.1 rfl) hF.2
    · intro v3 h o3 o4 hs hF
      exact hx1 v3 h o3 o4 hs hF.2

theorem zd_225 : zm_cd 225 = zc_225 := by rfl
set_option maxRecDepth 100000 in
set_option maxHeartbeats 400000 in
theorem f_M_waves_l17_b_t {x : zm_X} {d : Nat} (v1 : Int32) (v2 : Int32) (v3 : Int32) (h : zm_H) (o4 : Option Value) (o5 : Option Value) (o6 : Option Value) (o7 : Option Value) (o8 : Option Value) {Q : Option Value → zm_H → Prop} {FN : Nat × Int32 × zm_H → Prop} (hs : zSh zT0 h) (ho : f_M_waves_l17_b_ok v1 v2 v3 h) (hF : FN (f_M_waves_l17_b v1 v2 v3 h)) (hl0 : ∀ (v3 : Int32) (h : zm_H) (o4 : Option Value) (o5 : Option Value) (o6 : Option Value) (o7 : Option Value) (o8 : Option Value), zSh zT0 h → FN (0, v3, h) → zg x (d + 2) 225 17 [some (.ref 92), some (.int v1), some (.int v2), some (.int v3), o4, o5, o6, o7, o8] [] h Q) (hl1 : ∀ (v3 : Int32) (h : zm_H) (o3 : Option Value) (o4 : Option Value) (o5 : Option Value) (o6 : Option Value) (o7 : Option Value) (o8 : Option Value), zSh zT0 h → FN (1, v3, h) → zg x (d + 2) 225 36 [some (.ref 92), some (.int v1), some (.int v2), o3, o4, o5, o6, o7, o8] [] h Q) : zg x (d + 2) 225 17 [some (.ref 92), some (.int v1), some (.int v2), some (.int v3), o4, o5, o6, o7, o8] [] h Q := by
  unfold f_M_waves_l17_b at hF
  unfold f_M_waves_l17_b_ok at ho
  refine zg_blk zd_225 2 hs (rfl : zb x zT0 zc_225 2 (17, [some (.ref 92), some (.int v1), some (.int v2), some (.int v3), o4, o5, o6, o7, o8], [], h) = some (20, [some (.ref 92), some (.int v1), some (.int v2), some (.int v3), o4, o5, o6, o7, o8], [.int 10, .int v3], h)) (fun hs => ?_)
  refine zg_i_ge zd_225 rfl (fun (hc : (10 ≤ v3)) => ?_) (fun (hc : ¬ (10 ≤ v3)) => ?_)
  · have ho := ho.1 hc
    rw [if_pos hc] at hF
    exact hl1 v3 h (some (.int v3)) (o4) (o5) (o6) (o7) (o8) hs hF
  · have ho := ho.2 hc
    rw [if_neg hc] at hF
    refine zg_blk zd_225 4 hs (rfl : zb x zT0 zc_225 4 (23, [some (.ref 92), some (.int v1), some (.int v2), some (.int v3), o4, o5, o6, o7, o8], [], h) = some (29, [some (.ref 92), some (.int v1), some (.int v2), some (.int v3), o4, o5, o6, o7, o8], [.int v2, .int v3, .ref 151], h)) (fun hs => ?_)
    have hob := ho
    refine zg_ias hs zd_225 rfl rfl hob (fun hs => ?_)
    refine zg_blk zd_225 2 hs (rfl : zb x zT0 zc_225 2 (30, [some (.ref 92), some (.int v1), some (.int v2), some (.int v3), o4, o5, o6, o7, o8], [], (zs h 151 v3 v2)) = some (17, [some (.ref 92), some (.int v1), some (.int v2), some (.int (v3 + 1)), o4, o5, o6, o7, o8], [], (zs h 151 v3 v2))) (fun hs => ?_)
    exact hl0 (v3 + 1) (zs h 151 v3 v2) (o4) (o5) (o6) (o7) (o8) hs hF
theorem f_M_waves_l17_t {x : zm_X} {d : Nat} (v1 : Int32) (v2 : Int32) {Q : Option Value → zm_H → Prop} (G : Nat × Int32 × zm_H → Prop) (hx1 : ∀ (v3 : Int32) (h : zm_H) (o3 : Option Value) (o4 : Option Value) (o5 : Option Value) (o6 : Option Value) (o7 : Option Value) (o8 : Option Value), zSh zT0 h → G (1, v3, h) → zg x (d + 2) 225 36 [some (.ref 92), some (.int v1), some (.int v2), o3, o4, o5, o6, o7, o8] [] h Q) : ∀ (n : Nat) (v3 : Int32) (h : zm_H) (o4 : Option Value) (o5 : Option Value) (o6 : Option Value) (o7 : Option Value) (o8 : Option Value), zSh zT0 h → f_M_waves_l17_ok v1 v2 n (v3, h) → G (f_M_waves_l17 v1 v2 n (v3, h)) → zg x (d + 2) 225 17 [some (.ref 92), some (.int v1), some (.int v2), some (.int v3), o4, o5, o6, o7, o8] [] h Q := by
  intro n
  induction n with
  | zero => intro v3 h o4 o5 o6 o7 o8 hs ho hG; exact ho.elim
  | succ n ih =>
    intro v3 h o4 o5 o6 o7 o8 hs ho hG
    refine f_M_waves_l17_b_t (FN := fun r => (r.1 = 0 → f_M_waves_l17_ok v1 v2 n r.2) ∧ G (if r.1 = 0 then f_M_waves_l17 v1 v2 n r.2 else r)) v1 v2 v3 h o4 o5 o6 o7 o8 hs ho.1 ⟨ho.2, hG⟩ ?_ ?_
    · intro v3 h o4 o5 o6 o7 o8 hs hF
      exact ih v3 h o4 o5 o6 o7 o8 hs (hF.1 rfl) hF.2
    · intro v3 h o3 o4 o5 o6 o7 o8 hs hF
      exact hx1 v3 h o3 o4 o5 o6 o7 o8 hs hF.2

set_option maxRecDepth 100000 in
set_option maxHeartbeats 400000 in
theorem f_M_waves_l38_b_t {x : zm_X} {d : Nat} (v1 : Int32) (v2 : Int32) (v3 : Int32) (h : zm_H) (o4 : Option Value) (o5 : Option Value) (o6 : Option Value) (o7 : Option Value) (o8 : Option Value) {Q : Option Value → zm_H → Prop} {FN : Nat × Int32 × zm_H → Prop} (hs : zSh zT0 h) (ho : f_M_waves_l38_b_ok v1 v2 v3 h) (hF : FN (f_M_waves_l38_b v1 v2 v3 h)) (hl0 : ∀ (v3 : Int32) (h : zm_H) (o4 : Option Value) (o5 : Option Value) (o6 : Option Value) (o7 : Option Value) (o8 : Option Value), zSh zT0 h → FN (0, v3, h) → zg x (d + 2) 225 38 [some (.ref 92), some (.int v1), some (.int v2), some (.int v3), o4, o5, o6, o7, o8] [] h Q) (hl1 : ∀ (v3 : Int32) (h : zm_H) (o3 : Option Value) (o4 : Option Value) (o5 : Option Value) (o6 : Option Value) (o7 : Option Value) (o8 : Option Value), zSh zT0 h → FN (1, v3, h) → zg x (d + 2) 225 57 [some (.ref 92), some (.int v1), some (.int v2), o3, o4, o5, o6, o7, o8] [] h Q) : zg x (d + 2) 225 38 [some (.ref 92), some (.int v1), some (.int v2), some (.int v3), o4, o5, o6, o7, o8] [] h Q := by
  unfold f_M_waves_l38_b at hF
  unfold f_M_waves_l38_b_ok at ho
  refine zg_blk zd_225 2 hs (rfl : zb x zT0 zc_225 2 (38, [some (.ref 92), some (.int v1), some (.int v2), some (.int v3), o4, o5, o6, o7, o8], [], h) = some (41, [some (.ref 92), some (.int v1), some (.int v2), some (.int v3), o4, o5, o6, o7, o8], [.int 10, .int v3], h)) (fun hs => ?_)
  refine zg_i_ge zd_225 rfl (fun (hc : (10 ≤ v3)) => ?_) (fun (hc : ¬ (10 ≤ v3)) => ?_)
  · have ho := ho.1 hc
    rw [if_pos hc] at hF
    exact hl1 v3 h (some (.int v3)) (o4) (o5) (o6) (o7) (o8) hs hF
  · have ho := ho.2 hc
    rw [if_neg hc] at hF
    refine zg_blk zd_225 4 hs (rfl : zb x zT0 zc_225 4 (44, [some (.ref 92), some (.int v1), some (.int v2), some (.int v3), o4, o5, o6, o7, o8], [], h) = some (50, [some (.ref 92), some (.int v1), some (.int v2), some (.int v3), o4, o5, o6, o7, o8], [.int 0, .int v3, .ref 153], h)) (fun hs => ?_)
    have hob := ho
    refine zg_ias hs zd_225 rfl rfl hob (fun hs => ?_)
    refine zg_blk zd_225 2 hs (rfl : zb x zT0 zc_225 2 (51, [some (.ref 92), some (.int v1), some (.int v2), some (.int v3), o4, o5, o6, o7, o8], [], (zs h 153 v3 0)) = some (38, [some (.ref 92), some (.int v1), some (.int v2), some (.int (v3 + 1)), o4, o5, o6, o7, o8], [], (zs h 153 v3 0))) (fun hs => ?_)
    exact hl0 (v3 + 1) (zs h 153 v3 0) (o4) (o5) (o6) (o7) (o8) hs hF
theorem f_M_waves_l38_t {x : zm_X} {d : Nat} (v1 : Int32) (v2 : Int32) {Q : Option Value → zm_H → Prop} (G : Nat × Int32 × zm_H → Prop) (hx1 : ∀ (v3 : Int32) (h : zm_H) (o3 : Option Value) (o4 : Option Value) (o5 : Option Value) (o6 : Option Value) (o7 : Option Value) (o8 : Option Value), zSh zT0 h → G (1, v3, h) → zg x (d + 2) 225 57 [some (.ref 92), some (.int v1), some (.int v2), o3, o4, o5, o6, o7, o8] [] h Q) : ∀ (n : Nat) (v3 : Int32) (h : zm_H) (o4 : Option Value) (o5 : Option Value) (o6 : Option Value) (o7 : Option Value) (o8 : Option Value), zSh zT0 h → f_M_waves_l38_ok v1 v2 n (v3, h) → G (f_M_waves_l38 v1 v2 n (v3, h)) → zg x (d + 2) 225 38 [some (.ref 92), some (.int v1), some (.int v2), some (.int v3), o4, o5, o6, o7, o8] [] h Q := by
  intro n
  induction n with
  | zero => intro v3 h o4 o5 o6 o7 o8 hs ho hG; exact ho.elim
  | succ n ih =>
    intro v3 h o4 o5 o6 o7 o8 hs ho hG
    refine f_M_waves_l38_b_t (FN := fun r => (r.1 = 0 → f_M_waves_l38_ok v1 v2 n r.2) ∧ G (if r.1 = 0 then f_M_waves_l38 v1 v2 n r.2 else r)) v1 v2 v3 h o4 o5 o6 o7 o8 hs ho.1 ⟨ho.2, hG⟩ ?_ ?_
    · intro v3 h o4 o5 o6 o7 o8 hs hF
      exact ih v3 h o4 o5 o6 o7 o8 hs (hF.1 rfl) hF.2
    · intro v3 h o3 o4 o5 o6 o7 o8 hs hF
      exact hx1 v3 h o3 o4 o5 o6 o7 o8 hs hF.2

set_option maxRecDepth 100000 in
set_option maxHeartbeats 400000 in
theorem f_M_waves_l59_l67_b_t {x : zm_X} {d : Nat} (v1 : Int32) (v2 : Int32) (v3 : Int32) (v4 : Int32) (h : zm_H) (o5 : Option Value) (o6 : Option Value) (o7 : Option Value) (o8 : Option Value) {Q : Option Value → zm_H → Prop} {FN : Nat × Int32 × zm_H → Prop} (hs : zSh zT0 h) (ho : f_M_waves_l59_l67_b_ok v1 v2 v3 v4 h) (hF : FN (f_M_waves_l59_l67_b v1 v2 v3 v4 h)) (hl0 : ∀ (v4 : Int32) (h : zm_H) (o5 : Option Value) (o6 : Option Value) (o7 : Option Value) (o8 : Option Value), zSh zT0 h → FN (0, v4, h) → zg x (d + 2) 225 67 [some (.ref 92), some (.int v1), some (.int v2), some (.int v3), some (.int v4), o5, o6, o7, o8] [] h Q) (hl1 : ∀ (v4 : Int32) (h : zm_H) (o4 : Option Value) (o5 : Option Value) (o6 : Option Value) (o7 : Option Value) (o8 : Option Value), zSh zT0 h → FN (1, v4, h) → zg x (d + 2) 225 255 [some (.ref 92), some (.int v1), some (.int v2), some (.int v3), o4, o5, o6, o7, o8] [] h Q) : zg x (d + 2) 225 67 [some (.ref 92), some (.int v1), some (.int v2), some (.int v3), some (.int v4), o5, o6, o7, o8] [] h Q := by
  unfold f_M_waves_l59_l67_b at hF
  unfold f_M_waves_l59_l67_b_ok at ho
  refine zg_blk zd_225 3 hs (rfl : zb x zT0 zc_225 3 (67, [some (.ref 92), some (.int v1), some (.int v2), some (.int v3), some (.int v4), o5, o6, o7, o8], [], h) = some (73, [some (.ref 92), some (.int v1), some (.int v2), some (.int v3), some (.int v4), o5, o6, o7, o8], [.int (zf h 92 33), .int v4], h)) (fun hs => ?_)
  refine zg_i_ge zd_225 rfl (fun (hc : ((zf h 92 33) ≤ v4)) => ?_) (fun (hc : ¬ ((zf h 92 33) ≤ v4)) => ?_)
  · have ho := ho.1 hc
    rw [if_pos hc] at hF
    exact hl1 v4 h (some (.int v4)) (o5) (o6) (o7) (o8) hs hF
  · have ho := ho.2 hc
    rw [if_neg hc] at hF
    refine zg_blk zd_225 9 hs (rfl : zb x zT0 zc_225 9 (76, [some (.ref 92), some (.int v1), some (.int v2), some (.int v3), some (.int v4), o5, o6, o7, o8], [], h) = some (91, [some (.ref 92), some (.int v1), some (.int v2), some (.int v3), some (.int v4), some (.int ((10 * v1) + v4)), o6, o7, o8], [.int ((10 * v1) + v4), .ref 123], h)) (fun hs => ?_)
    obtain ⟨hob, ho⟩ := ho
    refine zg_ial hs zd_225 rfl rfl hob ?_
    refine zg_blk zd_225 1 hs (rfl : zb x zT0 zc_225 1 (92, [some (.ref 92), some (.int v1), some (.int v2), some (.int v3), some (.int v4), some (.int ((10 * v1) + v4)), o6, o7, o8], [.int (zr h 123 ((10 * v1) + v4))], h) = some (93, [some (.ref 92), some (.int v1), some (.int v2), some (.int v3), some (.int v4), some (.int ((10 * v1) + v4)), o6, o7, o8], [.int 1, .int (zr h 123 ((10 * v1) + v4))], h)) (fun hs => ?_)
    have hom := ho
    have K98 : ∀ (o95 : Option Value) (o96 : Option Value) (o97 : Option Value) (_ : zSh zT0 (if ((zr h 123 ((10 * v1) + v4)) = 1) then (if ((zm_rm (zr h 124 ((10 * v1) + v4)) 10) = v3) then (zs (zs h 153 v4 (((((zr h 151 ((zr h 124 ((10 * v1) + v4)) / 10)) * (if (0 ≤ (100 - (15 * (if ((zr h 113 v4) ≤ (zf h 92 80)) then (((zf h 92 80) - (zr h 113 v4)) : Int32) else ((zr h 113 v4) - (zf h 92 80)))))) then ((100 - (15 * (if ((zr h 113 v4) ≤ (zf h 92 80)) then (((zf h 92 80) - (zr h 113 v4)) : Int32) else ((zr h 113 v4) - (zf h 92 80))))) : Int32) else 0)) / 100) * (zr h 112 v4)) / ((zr h 112 v4) + 20))) 151 ((zr h 124 ((10 * v1) + v4)) / 10) ((zr h 151 ((zr h 124 ((10 * v1) + v4)) / 10)) - (zr (zs h 153 v4 (((((zr h 151 ((zr h 124 ((10 * v1) + v4)) / 10)) * (if (0 ≤ (100 - (15 * (if ((zr h 113 v4) ≤ (zf h 92 80)) then (((zf h 92 80) - (zr h 113 v4)) : Int32) else ((zr h 113 v4) - (zf h 92 80)))))) then ((100 - (15 * (if ((zr h 113 v4) ≤ (zf h 92 80)) then (((zf h 92 80) - (zr h 113 v4)) : Int32) else ((zr h 113 v4) - (zf h 92 80))))) : Int32) else 0)) / 100) * (zr h 112 v4)) / ((zr h 112 v4) + 20))) 153 v4))) else h) else h)), zg x (d + 2) 225 249 [some (.ref 92), some (.int v1), some (.int v2), some (.int v3), some (.int v4), some (.int ((10 * v1) + v4)), o95, o96, o97] [] (if ((zr h 123 ((10 * v1) + v4)) = 1) then (if ((zm_rm (zr h 124 ((10 * v1) + v4)) 10) = v3) then (zs (zs h 153 v4 (((((zr h 151 ((zr h 124 ((10 * v1) + v4)) / 10)) * (if (0 ≤ (100 - (15 * (if ((zr h 113 v4) ≤ (zf h 92 80)) then (((zf h 92 80) - (zr h 113 v4)) : Int32) else ((zr h 113 v4) - (zf h 92 80)))))) then ((100 - (15 * (if ((zr h 113 v4) ≤ (zf h 92 80)) then (((zf h 92 80) - (zr h 113 v4)) : Int32) else ((zr h 113 v4) - (zf h 92 80))))) : Int32) else 0)) / 100) * (zr h 112 v4)) / ((zr h 112 v4) + 20))) 151 ((zr h 124 ((10 * v1) + v4)) / 10) ((zr h 151 ((zr h 124 ((10 * v1) + v4)) / 10)) - (zr (zs h 153 v4 (((((zr h 151 ((zr h 124 ((10 * v1) + v4)) / 10)) * (if (0 ≤ (100 - (15 * (if ((zr h 113 v4) ≤ (zf h 92 80)) then (((zf h 92 80) - (zr h 113 v4)) : Int32) else ((zr h 113 v4) - (zf h 92 80)))))) then ((100 - (15 * (if ((zr h 113 v4) ≤ (zf h 92 80)) then (((zf h 92 80) - (zr h 113 v4)) : Int32) else ((zr h 113 v4) - (zf h 92 80))))) : Int32) else 0)) / 100) * (zr h 112 v4)) / ((zr h 112 v4) + 20))) 153 v4))) else h) else h) Q := fun o95 o96 o97 hs => by
      refine zg_blk zd_225 2 hs (rfl : zb x zT0 zc_225 2 (249, [some (.ref 92), some (.int v1), some (.int v2), some (.int v3), some (.int v4), some (.int ((10 * v1) + v4)), o95, o96, o97], [], (if ((zr h 123 ((10 * v1) + v4)) = 1) then (if ((zm_rm (zr h 124 ((10 * v1) + v4)) 10) = v3) then (zs (zs h 153 v4 (((((zr h 151 ((zr h 124 ((10 * v1) + v4)) / 10)) * (if (0 ≤ (100 - (15 * (if ((zr h 113 v4) ≤ (zf h 92 80)) then (((zf h 92 80) - (zr h 113 v4)) : Int32) else ((zr h 113 v4) - (zf h 92 80)))))) then ((100 - (15 * (if ((zr h 113 v4) ≤ (zf h 92 80)) then (((zf h 92 80) - (zr h 113 v4)) : Int32) else ((zr h 113 v4) - (zf h 92 80))))) : Int32) else 0)) / 100) * (zr h 112 v4)) / ((zr h 112 v4) + 20))) 151 ((zr h 124 ((10 * v1) + v4)) / 10) ((zr h 151 ((zr h 124 ((10 * v1) + v4)) / 10)) - (zr (zs h 153 v4 (((((zr h 151 ((zr h 124 ((10 * v1) + v4)) / 10)) * (if (0 ≤ (100 - (15 * (if ((zr h 113 v4) ≤ (zf h 92 80)) then (((zf h 92 80) - (zr h 113 v4)) : Int32) else ((zr h 113 v4) - (zf h 92 80)))))) then ((100 - (15 * (if ((zr h 113 v4) ≤ (zf h 92 80)) then (((zf h 92 80) - (zr h 113 v4)) : Int32) else ((zr h 113 v4) - (zf h 92 80))))) : Int32) else 0)) / 100) * (zr h 112 v4)) / ((zr h 112 v4) + 20))) 153 v4))) else h) else h)) = some (67, [some (.ref 92), some (.int v1), some (.int v2), some (.int v3), some (.int (v4 + 1)), some (.int ((10 * v1) + v4)), o95, o96, o97], [], (if ((zr h 123 ((10 * v1) + v4)) = 1) then (if ((zm_rm (zr h 124 ((10 * v1) + v4)) 10) = v3) then (zs (zs h 153 v4 (((((zr h 151 ((zr h 124 ((10 * v1) + v4)) / 10)) * (if (0 ≤ (100 - (15 * (if ((zr h 113 v4) ≤ (zf h 92 80)) then (((zf h 92 80) - (zr h 113 v4)) : Int32) else ((zr h 113 v4) - (zf h 92 80)))))) then ((100 - (15 * (if ((zr h 113 v4) ≤ (zf h 92 80)) then (((zf h 92 80) - (zr h 113 v4)) : Int32) else ((zr h 113 v4) - (zf h 92 80))))) : Int32) else 0)) / 100) * (zr h 112 v4)) / ((zr h 112 v4) + 20))) 151 ((zr h 124 ((10 * v1) + v4)) / 10) ((zr h 151 ((zr h 124 ((10 * v1) + v4)) / 10)) - (zr (zs h 153 v4 (((((zr h 151 ((zr h 124 ((10 * v1) + v4)) / 10)) * (if (0 ≤ (100 - (15 * (if ((zr h 113 v4) ≤ (zf h 92 80)) then (((zf h 92 80) - (zr h 113 v4)) : Int32) else ((zr h 113 v4) - (zf h 92 80)))))) then ((100 - (15 * (if ((zr h 113 v4) ≤ (zf h 92 80)) then (((zf h 92 80) - (zr h 113 v4)) : Int32) else ((zr h 113 v4) - (zf h 92 80))))) : Int32) else 0)) / 100) * (zr h 112 v4)) / ((zr h 112 v4) + 20))) 153 v4))) else h) else h))) (fun hs => ?_)
      exact hl0 (v4 + 1) (if ((zr h 123 ((10 * v1) + v4)) = 1) then (if ((zm_rm (zr h 124 ((10 * v1) + v4)) 10) = v3) then (zs (zs h 153 v4 (((((zr h 151 ((zr h 124 ((10 * v1) + v4)) / 10)) * (if (0 ≤ (100 - (15 * (if ((zr h 113 v4) ≤ (zf h 92 80)) then (((zf h 92 80) - (zr h 113 v4)) : Int32) else ((zr h 113 v4) - (zf h 92 80)))))) then ((100 - (15 * (if ((zr h 113 v4) ≤ (zf h 92 80)) then (((zf h 92 80) - (zr h 113 v4)) : Int32) else ((zr h 113 v4) - (zf h 92 80))))) : Int32) else 0)) / 100) * (zr h 112 v4)) / ((zr h 112 v4) + 20))) 151 ((zr h 124 ((10 * v1) + v4)) / 10) ((zr h 151 ((zr h 124 ((10 * v1) + v4)) / 10)) - (zr (zs h 153 v4 (((((zr h 151 ((zr h 124 ((10 * v1) + v4)) / 10)) * (if (0 ≤ (100 - (15 * (if ((zr h 113 v4) ≤ (zf h 92 80)) then (((zf h 92 80) - (zr h 113 v4)) : Int32) else ((zr h 113 v4) - (zf h 92 80)))))) then ((100 - (15 * (if ((zr h 113 v4) ≤ (zf h 92 80)) then (((zf h 92 80) - (zr h 113 v4)) : Int32) else ((zr h 113 v4) - (zf h 92 80))))) : Int32) else 0)) / 100) * (zr h 112 v4)) / ((zr h 112 v4) + 20))) 153 v4))) else h) else h) (some (.int ((10 * v1) + v4))) (o95) (o96) (o97) hs hF
    refine zg_i_ne zd_225 rfl (fun (hc : ¬ ((zr h 123 ((10 * v1) + v4)) = 1)) => ?_) (fun (hc : ((zr h 123 ((10 * v1) + v4)) = 1)) => ?_)
    · have ho := hom.2 hc
      rw [show (if ((zr h 123 ((10 * v1) + v4)) = 1) then (if ((zm_rm (zr h 124 ((10 * v1) + v4)) 10) = v3) then (zs (zs h 153 v4 (((((zr h 151 ((zr h 124 ((10 * v1) + v4)) / 10)) * (if (0 ≤ (100 - (15 * (if ((zr h 113 v4) ≤ (zf h 92 80)) then (((zf h 92 80) - (zr h 113 v4)) : Int32) else ((zr h 113 v4) - (zf h 92 80)))))) then ((100 - (15 * (if ((zr h 113 v4) ≤ (zf h 92 80)) then (((zf h 92 80) - (zr h 113 v4)) : Int32) else ((zr h 113 v4) - (zf h 92 80))))) : Int32) else 0)) / 100) * (zr h 112 v4)) / ((zr h 112 v4) + 20))) 151 ((zr h 124 ((10 * v1) + v4)) / 10) ((zr h 151 ((zr h 124 ((10 * v1) + v4)) / 10)) - (zr (zs h 153 v4 (((((zr h 151 ((zr h 124 ((10 * v1) + v4)) / 10)) * (if (0 ≤ (100 - (15 * (if ((zr h 113 v4) ≤ (zf h 92 80)) then (((zf h 92 80) - (zr h 113 v4)) : Int32) else ((zr h 113 v4) - (zf h 92 80)))))) then ((100 - (15 * (if ((zr h 113 v4) ≤ (zf h 92 80)) then (((zf h 92 80) - (zr h 113 v4)) : Int32) else ((zr h 113 v4) - (zf h 92 80))))) : Int32) else 0)) / 100) * (zr h 112 v4)) / ((zr h 112 v4) + 20))) 153 v4))) else h) else h) = h from if_neg hc] at K98
      exact K98 (o6) (o7) (o8) hs
    · have ho := hom.1 hc
      rw [show (if ((zr h 123 ((10 * v1) + v4)) = 1) then (if ((zm_rm (zr h 124 ((10 * v1) + v4)) 10) = v3) then (zs (zs h 153 v4 (((((zr h 151 ((zr h 124 ((10 * v1) + v4)) / 10)) * (if (0 ≤ (100 - (15 * (if ((zr h 113 v4) ≤ (zf h 92 80)) then (((zf h 92 80) - (zr h 113 v4)) : Int32) else ((zr h 113 v4) - (zf h 92 80)))))) then ((100 - (15 * (if ((zr h 113 v4) ≤ (zf h 92 80)) then (((zf h 92 80) - (zr h 113 v4)) : Int32) else ((zr h 113 v4) - (zf h 92 80))))) : Int32) else 0)) / 100) * (zr h 112 v4)) / ((zr h 112 v4) + 20))) 151 ((zr h 124 ((10 * v1) + v4)) / 10) ((zr h 151 ((zr h 124 ((10 * v1) + v4)) / 10)) - (zr (zs h 153 v4 (((((zr h 151 ((zr h 124 ((10 * v1) + v4)) / 10)) * (if (0 ≤ (100 - (15 * (if ((zr h 113 v4) ≤ (zf h 92 80)) then (((zf h 92 80) - (zr h 113 v4)) : Int32) else ((zr h 113 v4) - (zf h 92 80)))))) then ((100 - (15 * (if ((zr h 113 v4) ≤ (zf h 92 80)) then (((zf h 92 80) - (zr h 113 v4)) : Int32) else ((zr h 113 v4) - (zf h 92 80))))) : Int32) else 0)) / 100) * (zr h 112 v4)) / ((zr h 112 v4) + 20))) 153 v4))) else h) else h) = (if ((zm_rm (zr h 124 ((10 * v1) + v4)) 10) = v3) then (zs (zs h 153 v4 (((((zr h 151 ((zr h 124 ((10 * v1) + v4)) / 10)) * (if (0 ≤ (100 - (15 * (if ((zr h 113 v4) ≤ (zf h 92 80)) then (((zf h 92 80) - (zr h 113 v4)) : Int32) else ((zr h 113 v4) - (zf h 92 80)))))) then ((100 - (15 * (if ((zr h 113 v4) ≤ (zf h 92 80)) then (((zf h 92 80) - (zr h 113 v4)) : Int32) else ((zr h 113 v4) - (zf h 92 80))))) : Int32) else 0)) / 100) * (zr h 112 v4)) / ((zr h 112 v4) + 20))) 151 ((zr h 124 ((10 * v1) + v4)) / 10) ((zr h 151 ((zr h 124 ((10 * v1) + v4)) / 10)) - (zr (zs h 153 v4 (((((zr h 151 ((zr h 124 ((10 * v1) + v4)) / 10)) * (if (0 ≤ (100 - (15 * (if ((zr h 113 v4) ≤ (zf h 92 80)) then (((zf h 92 80) - (zr h 113 v4)) : Int32) else ((zr h 113 v4) - (zf h 92 80)))))) then ((100 - (15 * (if ((zr h 113 v4) ≤ (zf h 92 80)) then (((zf h 92 80) - (zr h 113 v4)) : Int32) else ((zr h 113 v4) - (zf h 92 80))))) : Int32) else 0)) / 100) * (zr h 112 v4)) / ((zr h 112 v4) + 20))) 153 v4))) else h) from if_pos hc] at K98
      refine zg_blk zd_225 3 hs (rfl : zb x zT0 zc_225 3 (96, [some (.ref 92), some (.int v1), some (.int v2), some (.int v3), some (.int v4), some (.int ((10 * v1) + v4)), o6, o7, o8], [], h) = some (102, [some (.ref 92), some (.int v1), some (.int v2), some (.int v3), some (.int v4), some (.int ((10 * v1) + v4)), o6, o7, o8], [.int ((10 * v1) + v4), .ref 124], h)) (fun hs => ?_)
      obtain ⟨hob, ho⟩ := ho
      refine zg_ial hs zd_225 rfl rfl hob ?_
      refine zg_blk zd_225 3 hs (rfl : zb x zT0 zc_225 3 (103, [some (.ref 92), some (.int v1), some (.int v2), some (.int v3), some (.int v4), some (.int ((10 * v1) + v4)), o6, o7, o8], [.int (zr h 124 ((10 * v1) + v4))], h) = some (107, [some (.ref 92), some (.int v1), some (.int v2), some (.int v3), some (.int v4), some (.int ((10 * v1) + v4)), o6, o7, o8], [.int v3, .int (zm_rm (zr h 124 ((10 * v1) + v4)) 10)], h)) (fun hs => ?_)
      refine zg_i_eq zd_225 rfl (fun (hc : ((zm_rm (zr h 124 ((10 * v1) + v4)) 10) = v3)) => ?_) (fun (hc : ¬ ((zm_rm (zr h 124 ((10 * v1) + v4)) 10) = v3)) => ?_)
      · have ho := ho.1 hc
        rw [show (if ((zm_rm (zr h 124 ((10 * v1) + v4)) 10) = v3) then (zs (zs h 153 v4 (((((zr h 151 ((zr h 124 ((10 * v1) + v4)) / 10)) * (if (0 ≤ (100 - (15 * (if ((zr h 113 v4) ≤ (zf h 92 80)) then (((zf h 92 80) - (zr h 113 v4)) : Int32) else ((zr h 113 v4) - (zf h 92 80)))))) then ((100 - (15 * (if ((zr h 113 v4) ≤ (zf h 92 80)) then (((zf h 92 80) - (zr h 113 v4)) : Int32) else ((zr h 113 v4) - (zf h 92 80))))) : Int32) else 0)) / 100) * (zr h 112 v4)) / ((zr h 112 v4) + 20))) 151 ((zr h 124 ((10 * v1) + v4)) / 10) ((zr h 151 ((zr h 124 ((10 * v1) + v4)) / 10)) - (zr (zs h 153 v4 (((((zr h 151 ((zr h 124 ((10 * v1) + v4)) / 10)) * (if (0 ≤ (100 - (15 * (if ((zr h 113 v4) ≤ (zf h 92 80)) then (((zf h 92 80) - (zr h 113 v4)) : Int32) else ((zr h 113 v4) - (zf h 92 80)))))) then ((100 - (15 * (if ((zr h 113 v4) ≤ (zf h 92 80)) then (((zf h 92 80) - (zr h 113 v4)) : Int32) else ((zr h 113 v4) - (zf h 92 80))))) : Int32) else 0)) / 100) * (zr h 112 v4)) / ((zr h 112 v4) + 20))) 153 v4))) else h) = (zs (zs h 153 v4 (((((zr h 151 ((zr h 124 ((10 * v1) + v4)) / 10)) * (if (0 ≤ (100 - (15 * (if ((zr h 113 v4) ≤ (zf h 92 80)) then (((zf h 92 80) - (zr h 113 v4)) : Int32) else ((zr h 113 v4) - (zf h 92 80)))))) then ((100 - (15 * (if ((zr h 113 v4) ≤ (zf h 92 80)) then (((zf h 92 80) - (zr h 113 v4)) : Int32) else ((zr h 113 v4) - (zf h 92 80))))) : Int32) else 0)) / 100) * (zr h 112 v4)) / ((zr h 112 v4) + 20))) 151 ((zr h 124 ((10 * v1) + v4)) / 10) ((zr h 151 ((zr h 124 ((10 * v1) + v4)) / 10)) - (zr (zs h 153 v4 (((((zr h 151 ((zr h 124 ((10 * v1) + v4)) / 10)) * (if (0 ≤ (100 - (15 * (if ((zr h 113 v4) ≤ (zf h 92 80)) then (((zf h 92 80) - (zr h 113 v4)) : Int32) else ((zr h 113 v4) - (zf h 92 80)))))) then ((100 - (15 * (if ((zr h 113 v4) ≤ (zf h 92 80)) then (((zf h 92 80) - (zr h 113 v4)) : Int32) else ((zr h 113 v4) - (zf h 92 80))))) : Int32) else 0)) / 100) * (zr h 112 v4)) / ((zr h 112 v4) + 20))) 153 v4))) from if_pos hc] at K98
        refine zg_blk zd_225 5 hs (rfl : zb x zT0 zc_225 5 (113, [some (.ref 92), some (.int v1), some (.int v2), some (.int v3), some (.int v4), some (.int ((10 * v1) + v4)), o6, o7, o8], [], h) = some (123, [some (.ref 92), some (.int v1), some (.int v2), some (.int v3), some (.int v4), some (.int ((10 * v1) + v4)), o6, o7, o8], [.int v4, .ref 113, .int (zf h 92 80)], h)) (fun hs => ?_)
        obtain ⟨hob, ho⟩ := ho
        refine zg_ial hs zd_225 rfl rfl hob ?_
        obtain ⟨hom, ho⟩ := ho
        have K99 : zSh zT0 h → zg x (d + 2) 225 154 [some (.ref 92), some (.int v1), some (.int v2), some (.int v3), some (.int v4), some (.int ((10 * v1) + v4)), o6, o7, o8] [.int (if ((zr h 113 v4) ≤ (zf h 92 80)) then (((zf h 92 80) - (zr h 113 v4)) : Int32) else ((zr h 113 v4) - (zf h 92 80)))] h Q := fun hs => by
          refine zg_blk zd_225 6 hs (rfl : zb x zT0 zc_225 6 (154, [some (.ref 92), some (.int v1), some (.int v2), some (.int v3), some (.int v4), some (.int ((10 * v1) + v4)), o6, o7, o8], [.int (if ((zr h 113 v4) ≤ (zf h 92 80)) then (((zf h 92 80) - (zr h 113 v4)) : Int32) else ((zr h 113 v4) - (zf h 92 80)))], h) = some (164, [some (.ref 92), some (.int v1), some (.int v2), some (.int v3), some (.int v4), some (.int ((10 * v1) + v4)), some (.int (if ((zr h 113 v4) ≤ (zf h 92 80)) then (((zf h 92 80) - (zr h 113 v4)) : Int32) else ((zr h 113 v4) - (zf h 92 80)))), o7, o8], [.int (100 - (15 * (if ((zr h 113 v4) ≤ (zf h 92 80)) then (((zf h 92 80) - (zr h 113 v4)) : Int32) else ((zr h 113 v4) - (zf h 92 80)))))], h)) (fun hs => ?_)
          have K100 : zSh zT0 h → zg x (d + 2) 225 179 [some (.ref 92), some (.int v1), some (.int v2), some (.int v3), some (.int v4), some (.int ((10 * v1) + v4)), some (.int (if ((zr h 113 v4) ≤ (zf h 92 80)) then (((zf h 92 80) - (zr h 113 v4)) : Int32) else ((zr h 113 v4) - (zf h 92 80)))), o7, o8] [.int (if (0 ≤ (100 - (15 * (if ((zr h 113 v4) ≤ (zf h 92 80)) then (((zf h 92 80) - (zr h 113 v4)) : Int32) else ((zr h 113 v4) - (zf h 92 80)))))) then ((100 - (15 * (if ((zr h 113 v4) ≤ (zf h 92 80)) then (((zf h 92 80) - (zr h 113 v4)) : Int32) else ((zr h 113 v4) - (zf h 92 80))))) : Int32) else 0)] h Q := fun hs => by
            refine zg_blk zd_225 4 hs (rfl : zb x zT0 zc_225 4 (179, [some (.ref 92), some (.int v1), some (.int v2), some (.int v3), some (.int v4), some (.int ((10 * v1) + v4)), some (.int (if ((zr h 113 v4) ≤ (zf h 92 80)) then (((zf h 92 80) - (zr h 113 v4)) : Int32) else ((zr h 113 v4) - (zf h 92 80)))), o7, o8], [.int (if (0 ≤ (100 - (15 * (if ((zr h 113 v4) ≤ (zf h 92 80)) then (((zf h 92 80) - (zr h 113 v4)) : Int32) else ((zr h 113 v4) - (zf h 92 80)))))) then ((100 - (15 * (if ((zr h 113 v4) ≤ (zf h 92 80)) then (((zf h 92 80) - (zr h 113 v4)) : Int32) else ((zr h 113 v4) - (zf h 92 80))))) : Int32) else 0)], h) = some (187, [some (.ref 92), some (.int v1), some (.int v2), some (.int v3), some (.int v4), some (.int ((10 * v1) + v4)), some (.int (if ((zr h 113 v4) ≤ (zf h 92 80)) then (((zf h 92 80) - (zr h 113 v4)) : Int32) else ((zr h 113 v4) - (zf h 92 80)))), some (.int (if (0 ≤ (100 - (15 * (if ((zr h 113 v4) ≤ (zf h 92 80)) then (((zf h 92 80) - (zr h 113 v4)) : Int32) else ((zr h 113 v4) - (zf h 92 80)))))) then ((100 - (15 * (if ((zr h 113 v4) ≤ (zf h 92 80)) then (((zf h 92 80) - (zr h 113 v4)) : Int32) else ((zr h 113 v4) - (zf h 92 80))))) : Int32) else 0)), o8], [.int ((10 * v1) + v4), .ref 124], h)) (fun hs => ?_)
            obtain ⟨hob, ho⟩ := ho
            refine zg_ial hs zd_225 rfl rfl hob ?_
            refine zg_blk zd_225 9 hs (rfl : zb x zT0 zc_225 9 (188, [some (.ref 92), some (.int v1), some (.int v2), some (.int v3), some (.int v4), some (.int ((10 * v1) + v4)), some (.int (if ((zr h 113 v4) ≤ (zf h 92 80)) then (((zf h 92 80) - (zr h 113 v4)) : Int32) else ((zr h 113 v4) - (zf h 92 80)))), some (.int (if (0 ≤ (100 - (15 * (if ((zr h 113 v4) ≤ (zf h 92 80)) then (((zf h 92 80) - (zr h 113 v4)) : Int32) else ((zr h 113 v4) - (zf h 92 80)))))) then ((100 - (15 * (if ((zr h 113 v4) ≤ (zf h 92 80)) then (((zf h 92 80) - (zr h 113 v4)) : Int32) else ((zr h 113 v4) - (zf h 92 80))))) : Int32) else 0)), o8], [.int (zr h 124 ((10 * v1) + v4))], h) = some (205, [some (.ref 92), some (.int v1), some (.int v2), some (.int v3), some (.int v4), some (.int ((10 * v1) + v4)), some (.int (if ((zr h 113 v4) ≤ (zf h 92 80)) then (((zf h 92 80) - (zr h 113 v4)) : Int32) else ((zr h 113 v4) - (zf h 92 80)))), some (.int (if (0 ≤ (100 - (15 * (if ((zr h 113 v4) ≤ (zf h 92 80)) then (((zf h 92 80) - (zr h 113 v4)) : Int32) else ((zr h 113 v4) - (zf h 92 80)))))) then ((100 - (15 * (if ((zr h 113 v4) ≤ (zf h 92 80)) then (((zf h 92 80) - (zr h 113 v4)) : Int32) else ((zr h 113 v4) - (zf h 92 80))))) : Int32) else 0)), some (.int ((zr h 124 ((10 * v1) + v4)) / 10))], [.int ((zr h 124 ((10 * v1) + v4)) / 10), .ref 151, .int v4, .ref 153], h)) (fun hs => ?_)
            obtain ⟨hob, ho⟩ := ho
            refine zg_ial hs zd_225 rfl rfl hob ?_
            refine zg_blk zd_225 7 hs (rfl : zb x zT0 zc_225 7 (206, [some (.ref 92), some (.int v1), some (.int v2), some (.int v3), some (.int v4), some (.int ((10 * v1) + v4)), some (.int (if ((zr h 113 v4) ≤ (zf h 92 80)) then (((zf h 92 80) - (zr h 113 v4)) : Int32) else ((zr h 113 v4) - (zf h 92 80)))), some (.int (if (0 ≤ (100 - (15 * (if ((zr h 113 v4) ≤ (zf h 92 80)) then (((zf h 92 80) - (zr h 113 v4)) : Int32) else ((zr h 113 v4) - (zf h 92 80)))))) then ((100 - (15 * (if ((zr h 113 v4) ≤ (zf h 92 80)) then (((zf h 92 80) - (zr h 113 v4)) : Int32) else ((zr h 113 v4) - (zf h 92 80))))) : Int32) else 0)), some (.int ((zr h 124 ((10 * v1) + v4)) / 10))], [.int (zr h 151 ((zr h 124 ((10 * v1) + v4)) / 10)), .int v4, .ref 153], h) = some (218, [some (.ref 92), some (.int v1), some (.int v2), some (.int v3), some (.int v4), some (.int ((10 * v1) + v4)), some (.int (if ((zr h 113 v4) ≤ (zf h 92 80)) then (((zf h 92 80) - (zr h 113 v4)) : Int32) else ((zr h 113 v4) - (zf h 92 80)))), some (.int (if (0 ≤ (100 - (15 * (if ((zr h 113 v4) ≤ (zf h 92 80)) then (((zf h 92 80) - (zr h 113 v4)) : Int32) else ((zr h 113 v4) - (zf h 92 80)))))) then ((100 - (15 * (if ((zr h 113 v4) ≤ (zf h 92 80)) then (((zf h 92 80) - (zr h 113 v4)) : Int32) else ((zr h 113 v4) - (zf h 92 80))))) : Int32) else 0)), some (.int ((zr h 124 ((10 * v1) + v4)) / 10))], [.int v4, .ref 112, .int (((zr h 151 ((zr h 124 ((10 * v1) + v4)) / 10)) * (if (0 ≤ (100 - (15 * (if ((zr h 113 v4) ≤ (zf h 92 80)) then (((zf h 92 80) - (zr h 113 v4)) : Int32) else ((zr h 113 v4) - (zf h 92 80)))))) then ((100 - (15 * (if ((zr h 113 v4) ≤ (zf h 92 80)) then (((zf h 92 80) - (zr h 113 v4)) : Int32) else ((zr h 113 v4) - (zf h 92 80))))) : Int32) else 0)) / 100), .int v4, .ref 153], h)) (fun hs => ?_)
            obtain ⟨hob, ho⟩ := ho
            refine zg_ial hs zd_225 rfl rfl hob ?_
            refine zg_blk zd_225 4 hs (rfl : zb x zT0 zc_225 4 (219, [some (.ref 92), some (.int v1), some (.int v2), some (.int v3), some (.int v4), some (.int ((10 * v1) + v4)), some (.int (if ((zr h 113 v4) ≤ (zf h 92 80)) then (((zf h 92 80) - (zr h 113 v4)) : Int32) else ((zr h 113 v4) - (zf h 92 80)))), some (.int (if (0 ≤ (100 - (15 * (if ((zr h 113 v4) ≤ (zf h 92 80)) then (((zf h 92 80) - (zr h 113 v4)) : Int32) else ((zr h 113 v4) - (zf h 92 80)))))) then ((100 - (15 * (if ((zr h 113 v4) ≤ (zf h 92 80)) then (((zf h 92 80) - (zr h 113 v4)) : Int32) else ((zr h 113 v4) - (zf h 92 80))))) : Int32) else 0)), some (.int ((zr h 124 ((10 * v1) + v4)) / 10))], [.int (zr h 112 v4), .int (((zr h 151 ((zr h 124 ((10 * v1) + v4)) / 10)) * (if (0 ≤ (100 - (15 * (if ((zr h 113 v4) ≤ (zf h 92 80)) then (((zf h 92 80) - (zr h 113 v4)) : Int32) else ((zr h 113 v4) - (zf h 92 80)))))) then ((100 - (15 * (if ((zr h 113 v4) ≤ (zf h 92 80)) then (((zf h 92 80) - (zr h 113 v4)) : Int32) else ((zr h 113 v4) - (zf h 92 80))))) : Int32) else 0)) / 100), .int v4, .ref 153], h) = some (226, [some (.ref 92), some (.int v1), some (.int v2), some (.int v3), some (.int v4), some (.int ((10 * v1) + v4)), some (.int (if ((zr h 113 v4) ≤ (zf h 92 80)) then (((zf h 92 80) - (zr h 113 v4)) : Int32) else ((zr h 113 v4) - (zf h 92 80)))), some (.int (if (0 ≤ (100 - (15 * (if ((zr h 113 v4) ≤ (zf h 92 80)) then (((zf h 92 80) - (zr h 113 v4)) : Int32) else ((zr h 113 v4) - (zf h 92 80)))))) then ((100 - (15 * (if ((zr h 113 v4) ≤ (zf h 92 80)) then (((zf h 92 80) - (zr h 113 v4)) : Int32) else ((zr h 113 v4) - (zf h 92 80))))) : Int32) else 0)), some (.int ((zr h 124 ((10 * v1) + v4)) / 10))], [.int v4, .ref 112, .int ((((zr h 151 ((zr h 124 ((10 * v1) + v4)) / 10)) * (if (0 ≤ (100 - (15 * (if ((zr h 113 v4) ≤ (zf h 92 80)) then (((zf h 92 80) - (zr h 113 v4)) : Int32) else ((zr h 113 v4) - (zf h 92 80)))))) then ((100 - (15 * (if ((zr h 113 v4) ≤ (zf h 92 80)) then (((zf h 92 80) - (zr h 113 v4)) : Int32) else ((zr h 113 v4) - (zf h 92 80))))) : Int32) else 0)) / 100) * (zr h 112 v4)), .int v4, .ref 153], h)) (fun hs => ?_)
            obtain ⟨hob, ho⟩ := ho
            refine zg_ial hs zd_225 rfl rfl hob ?_
            refine zg_blk zd_225 2 hs (rfl : zb x zT0 zc_225 2 (227, [some (.ref 92), some (.int v1), some (.int v2), some (.int v3), some (.int v4), some (.int ((10 * v1) + v4)), some (.int (if ((zr h 113 v4) ≤ (zf h 92 80)) then (((zf h 92 80) - (zr h 113 v4)) : Int32) else ((zr h 113 v4) - (zf h 92 80)))), some (.int (if (0 ≤ (100 - (15 * (if ((zr h 113 v4) ≤ (zf h 92 80)) then (((zf h 92 80) - (zr h 113 v4)) : Int32) else ((zr h 113 v4) - (zf h 92 80)))))) then ((100 - (15 * (if ((zr h 113 v4) ≤ (zf h 92 80)) then (((zf h 92 80) - (zr h 113 v4)) : Int32) else ((zr h 113 v4) - (zf h 92 80))))) : Int32) else 0)), some (.int ((zr h 124 ((10 * v1) + v4)) / 10))], [.int (zr h 112 v4), .int ((((zr h 151 ((zr h 124 ((10 * v1) + v4)) / 10)) * (if (0 ≤ (100 - (15 * (if ((zr h 113 v4) ≤ (zf h 92 80)) then (((zf h 92 80) - (zr h 113 v4)) : Int32) else ((zr h 113 v4) - (zf h 92 80)))))) then ((100 - (15 * (if ((zr h 113 v4) ≤ (zf h 92 80)) then (((zf h 92 80) - (zr h 113 v4)) : Int32) else ((zr h 113 v4) - (zf h 92 80))))) : Int32) else 0)) / 100) * (zr h 112 v4)), .int v4, .ref 153], h) = some (230, [some (.ref 92), some (.int v1), some (.int v2), some (.int v3), some (.int v4), some (.int ((10 * v1) + v4)), some (.int (if ((zr h 113 v4) ≤ (zf h 92 80)) then (((zf h 92 80) - (zr h 113 v4)) : Int32) else ((zr h 113 v4) - (zf h 92 80)))), some (.int (if (0 ≤ (100 - (15 * (if ((zr h 113 v4) ≤ (zf h 92 80)) then (((zf h 92 80) - (zr h 113 v4)) : Int32) else ((zr h 113 v4) - (zf h 92 80)))))) then ((100 - (15 * (if ((zr h 113 v4) ≤ (zf h 92 80)) then (((zf h 92 80) - (zr h 113 v4)) : Int32) else ((zr h 113 v4) - (zf h 92 80))))) : Int32) else 0)), some (.int ((zr h 124 ((10 * v1) + v4)) / 10))], [.int ((zr h 112 v4) + 20), .int ((((zr h 151 ((zr h 124 ((10 * v1) + v4)) / 10)) * (if (0 ≤ (100 - (15 * (if ((zr h 113 v4) ≤ (zf h 92 80)) then (((zf h 92 80) - (zr h 113 v4)) : Int32) else ((zr h 113 v4) - (zf h 92 80)))))) then ((100 - (15 * (if ((zr h 113 v4) ≤ (zf h 92 80)) then (((zf h 92 80) - (zr h 113 v4)) : Int32) else ((zr h 113 v4) - (zf h 92 80))))) : Int32) else 0)) / 100) * (zr h 112 v4)), .int v4, .ref 153], h)) (fun hs => ?_)
            obtain ⟨hob, ho⟩ := ho
            refine zg_div zd_225 rfl hob ?_
            obtain ⟨hob, ho⟩ := ho
            refine zg_ias hs zd_225 rfl rfl hob (fun hs => ?_)
            refine zg_blk zd_225 4 hs (rfl : zb x zT0 zc_225 4 (232, [some (.ref 92), some (.int v1), some (.int v2), some (.int v3), some (.int v4), some (.int ((10 * v1) + v4)), some (.int (if ((zr h 113 v4) ≤ (zf h 92 80)) then (((zf h 92 80) - (zr h 113 v4)) : Int32) else ((zr h 113 v4) - (zf h 92 80)))), some (.int (if (0 ≤ (100 - (15 * (if ((zr h 113 v4) ≤ (zf h 92 80)) then (((zf h 92 80) - (zr h 113 v4)) : Int32) else ((zr h 113 v4) - (zf h 92 80)))))) then ((100 - (15 * (if ((zr h 113 v4) ≤ (zf h 92 80)) then (((zf h 92 80) - (zr h 113 v4)) : Int32) else ((zr h 113 v4) - (zf h 92 80))))) : Int32) else 0)), some (.int ((zr h 124 ((10 * v1) + v4)) / 10))], [], (zs h 153 v4 (((((zr h 151 ((zr h 124 ((10 * v1) + v4)) / 10)) * (if (0 ≤ (100 - (15 * (if ((zr h 113 v4) ≤ (zf h 92 80)) then (((zf h 92 80) - (zr h 113 v4)) : Int32) else ((zr h 113 v4) - (zf h 92 80)))))) then ((100 - (15 * (if ((zr h 113 v4) ≤ (zf h 92 80)) then (((zf h 92 80) - (zr h 113 v4)) : Int32) else ((zr h 113 v4) - (zf h 92 80))))) : Int32) else 0)) / 100) * (zr h 112 v4)) / ((zr h 112 v4) + 20)))) = some (239, [some (.ref 92), some (.int v1), some (.int v2), some (.int v3), some (.int v4), some (.int ((10 * v1) + v4)), some (.int (if ((zr h 113 v4) ≤ (zf h 92 80)) then (((zf h 92 80) - (zr h 113 v4)) : Int32) else ((zr h 113 v4) - (zf h 92 80)))), some (.int (if (0 ≤ (100 - (15 * (if ((zr h 113 v4) ≤ (zf h 92 80)) then (((zf h 92 80) - (zr h 113 v4)) : Int32) else ((zr h 113 v4) - (zf h 92 80)))))) then ((100 - (15 * (if ((zr h 113 v4) ≤ (zf h 92 80)) then (((zf h 92 80) - (zr h 113 v4)) : Int32) else ((zr h 113 v4) - (zf h 92 80))))) : Int32) else 0)), some (.int ((zr h 124 ((10 * v1) + v4)) / 10))], [.int ((zr h 124 ((10 * v1) + v4)) / 10), .ref 151, .int ((zr h 124 ((10 * v1) + v4)) / 10), .ref 151], (zs h 153 v4 (((((zr h 151 ((zr h 124 ((10 * v1) + v4)) / 10)) * (if (0 ≤ (100 - (15 * (if ((zr h 113 v4) ≤ (zf h 92 80)) then (((zf h 92 80) - (zr h 113 v4)) : Int32) else ((zr h 113 v4) - (zf h 92 80)))))) then ((100 - (15 * (if ((zr h 113 v4) ≤ (zf h 92 80)) then (((zf h 92 80) - (zr h 113 v4)) : Int32) else ((zr h 113 v4) - (zf h 92 80))))) : Int32) else 0)) / 100) * (zr h 112 v4)) / ((zr h 112 v4) + 20))))) (fun hs => ?_)
            obtain ⟨hob, ho⟩ := ho
            refine zg_ial hs zd_225 rfl rfl hob ?_
            refine zg_blk zd_225 3 hs (rfl : zb x zT0 zc_225 3 (240, [some (.ref 92), some (.int v1), some (.int v2), some (.int v3), some (.int v4), some (.int ((10 * v1) + v4)), some (.int (if ((zr h 113 v4) ≤ (zf h 92 80)) then (((zf h 92 80) - (zr h 113 v4)) : Int32) else ((zr h 113 v4) - (zf h 92 80)))), some (.int (if (0 ≤ (100 - (15 * (if ((zr h 113 v4) ≤ (zf h 92 80)) then (((zf h 92 80) - (zr h 113 v4)) : Int32) else ((zr h 113 v4) - (zf h 92 80)))))) then ((100 - (15 * (if ((zr h 113 v4) ≤ (zf h 92 80)) then (((zf h 92 80) - (zr h 113 v4)) : Int32) else ((zr h 113 v4) - (zf h 92 80))))) : Int32) else 0)), some (.int ((zr h 124 ((10 * v1) + v4)) / 10))], [.int (zr h 151 ((zr h 124 ((10 * v1) + v4)) / 10)), .int ((zr h 124 ((10 * v1) + v4)) / 10), .ref 151], (zs h 153 v4 (((((zr h 151 ((zr h 124 ((10 * v1) + v4)) / 10)) * (if (0 ≤ (100 - (15 * (if ((zr h 113 v4) ≤ (zf h 92 80)) then (((zf h 92 80) - (zr h 113 v4)) : Int32) else ((zr h 113 v4) - (zf h 92 80)))))) then ((100 - (15 * (if ((zr h 113 v4) ≤ (zf h 92 80)) then (((zf h 92 80) - (zr h 113 v4)) : Int32) else ((zr h 113 v4) - (zf h 92 80))))) : Int32) else 0)) / 100) * (zr h 112 v4)) / ((zr h 112 v4) + 20)))) = some (246, [some (.ref 92), some (.int v1), some (.int v2), some (.int v3), some (.int v4), some (.int ((10 * v1) + v4)), some (.int (if ((zr h 113 v4) ≤ (zf h 92 80)) then (((zf h 92 80) - (zr h 113 v4)) : Int32) else ((zr h 113 v4) - (zf h 92 80)))), some (.int (if (0 ≤ (100 - (15 * (if ((zr h 113 v4) ≤ (zf h 92 80)) then (((zf h 92 80) - (zr h 113 v4)) : Int32) else ((zr h 113 v4) - (zf h 92 80)))))) then ((100 - (15 * (if ((zr h 113 v4) ≤ (zf h 92 80)) then (((zf h 92 80) - (zr h 113 v4)) : Int32) else ((zr h 113 v4) - (zf h 92 80))))) : Int32) else 0)), some (.int ((zr h 124 ((10 * v1) + v4)) / 10))], [.int v4, .ref 153, .int (zr h 151 ((zr h 124 ((10 * v1) + v4)) / 10)), .int ((zr h 124 ((10 * v1) + v4)) / 10), .ref 151], (zs h 153 v4 (((((zr h 151 ((zr h 124 ((10 * v1) + v4)) / 10)) * (if (0 ≤ (100 - (15 * (if ((zr h 113 v4) ≤ (zf h 92 80)) then (((zf h 92 80) - (zr h 113 v4)) : Int32) else ((zr h 113 v4) - (zf h 92 80)))))) then ((100 - (15 * (if ((zr h 113 v4) ≤ (zf h 92 80)) then (((zf h 92 80) - (zr h 113 v4)) : Int32) else ((zr h 113 v4) - (zf h 92 80))))) : Int32) else 0)) / 100) * (zr h 112 v4)) / ((zr h 112 v4) + 20))))) (fun hs => ?_)
            obtain ⟨hob, ho⟩ := ho
            refine zg_ial hs zd_225 rfl rfl hob ?_
            refine zg_blk zd_225 1 hs (rfl : zb x zT0 zc_225 1 (247, [some (.ref 92), some (.int v1), some (.int v2), some (.int v3), some (.int v4), some (.int ((10 * v1) + v4)), some (.int (if ((zr h 113 v4) ≤ (zf h 92 80)) then (((zf h 92 80) - (zr h 113 v4)) : Int32) else ((zr h 113 v4) - (zf h 92 80)))), some (.int (if (0 ≤ (100 - (15 * (if ((zr h 113 v4) ≤ (zf h 92 80)) then (((zf h 92 80) - (zr h 113 v4)) : Int32) else ((zr h 113 v4) - (zf h 92 80)))))) then ((100 - (15 * (if ((zr h 113 v4) ≤ (zf h 92 80)) then (((zf h 92 80) - (zr h 113 v4)) : Int32) else ((zr h 113 v4) - (zf h 92 80))))) : Int32) else 0)), some (.int ((zr h 124 ((10 * v1) + v4)) / 10))], [.int (zr (zs h 153 v4 (((((zr h 151 ((zr h 124 ((10 * v1) + v4)) / 10)) * (if (0 ≤ (100 - (15 * (if ((zr h 113 v4) ≤ (zf h 92 80)) then (((zf h 92 80) - (zr h 113 v4)) : Int32) else ((zr h 113 v4) - (zf h 92 80)))))) then ((100 - (15 * (if ((zr h 113 v4) ≤ (zf h 92 80)) then (((zf h 92 80) - (zr h 113 v4)) : Int32) else ((zr h 113 v4) - (zf h 92 80))))) : Int32) else 0)) / 100) * (zr h 112 v4)) / ((zr h 112 v4) + 20))) 153 v4), .int (zr h 151 ((zr h 124 ((10 * v1) + v4)) / 10)), .int ((zr h 124 ((10 * v1) + v4)) / 10), .ref 151], (zs h 153 v4 (((((zr h 151 ((zr h 124 ((10 * v1) + v4)) / 10)) * (if (0 ≤ (100 - (15 * (if ((zr h 113 v4) ≤ (zf h 92 80)) then (((zf h 92 80) - (zr h 113 v4)) : Int32) else ((zr h 113 v4) - (zf h 92 80)))))) then ((100 - (15 * (if ((zr h 113 v4) ≤ (zf h 92 80)) then (((zf h 92 80) - (zr h 113 v4)) : Int32) else ((zr h 113 v4) - (zf h 92 80))))) : Int32) else 0)) / 100) * (zr h 112 v4)) / ((zr h 112 v4) + 20)))) = some (248, [some (.ref 92), some (.int v1), some (.int v2), some (.int v3), some (.int v4), some (.int ((10 * v1) + v4)), some (.int (if ((zr h 113 v4) ≤ (zf h 92 80)) then (((zf h 92 80) - (zr h 113 v4)) : Int32) else ((zr h 113 v4) - (zf h 92 80)))), some (.int (if (0 ≤ (100 - (15 * (if ((zr h 113 v4) ≤ (zf h 92 80)) then (((zf h 92 80) - (zr h 113 v4)) : Int32) else ((zr h 113 v4) - (zf h 92 80)))))) then ((100 - (15 * (if ((zr h 113 v4) ≤ (zf h 92 80)) then (((zf h 92 80) - (zr h 113 v4)) : Int32) else ((zr h 113 v4) - (zf h 92 80))))) : Int32) else 0)), some (.int ((zr h 124 ((10 * v1) + v4)) / 10))], [.int ((zr h 151 ((zr h 124 ((10 * v1) + v4)) / 10)) - (zr (zs h 153 v4 (((((zr h 151 ((zr h 124 ((10 * v1) + v4)) / 10)) * (if (0 ≤ (100 - (15 * (if ((zr h 113 v4) ≤ (zf h 92 80)) then (((zf h 92 80) - (zr h 113 v4)) : Int32) else ((zr h 113 v4) - (zf h 92 80)))))) then ((100 - (15 * (if ((zr h 113 v4) ≤ (zf h 92 80)) then (((zf h 92 80) - (zr h 113 v4)) : Int32) else ((zr h 113 v4) - (zf h 92 80))))) : Int32) else 0)) / 100) * (zr h 112 v4)) / ((zr h 112 v4) + 20))) 153 v4)), .int ((zr h 124 ((10 * v1) + v4)) / 10), .ref 151], (zs h 153 v4 (((((zr h 151 ((zr h 124 ((10 * v1) + v4)) / 10)) * (if (0 ≤ (100 - (15 * (if ((zr h 113 v4) ≤ (zf h 92 80)) then (((zf h 92 80) - (zr h 113 v4)) : Int32) else ((zr h 113 v4) - (zf h 92 80)))))) then ((100 - (15 * (if ((zr h 113 v4) ≤ (zf h 92 80)) then (((zf h 92 80) - (zr h 113 v4)) : Int32) else ((zr h 113 v4) - (zf h 92 80))))) : Int32) else 0)) / 100) * (zr h 112 v4)) / ((zr h 112 v4) + 20))))) (fun hs => ?_)
            have hob := ho
            refine zg_ias hs zd_225 rfl rfl hob (fun hs => ?_)
            exact K98 (some (.int (if ((zr h 113 v4) ≤ (zf h 92 80)) then (((zf h 92 80) - (zr h 113 v4)) : Int32) else ((zr h 113 v4) - (zf h 92 80))))) (some (.int (if (0 ≤ (100 - (15 * (if ((zr h 113 v4) ≤ (zf h 92 80)) then (((zf h 92 80) - (zr h 113 v4)) : Int32) else ((zr h 113 v4) - (zf h 92 80)))))) then ((100 - (15 * (if ((zr h 113 v4) ≤ (zf h 92 80)) then (((zf h 92 80) - (zr h 113 v4)) : Int32) else ((zr h 113 v4) - (zf h 92 80))))) : Int32) else 0))) (some (.int ((zr h 124 ((10 * v1) + v4)) / 10))) hs
          refine zg_f_ge zd_225 rfl (fun (hc : (0 ≤ (100 - (15 * (if ((zr h 113 v4) ≤ (zf h 92 80)) then (((zf h 92 80) - (zr h 113 v4)) : Int32) else ((zr h 113 v4) - (zf h 92 80))))))) => ?_) (fun (hc : ¬ (0 ≤ (100 - (15 * (if ((zr h 113 v4) ≤ (zf h 92 80)) then (((zf h 92 80) - (zr h 113 v4)) : Int32) else ((zr h 113 v4) - (zf h 92 80))))))) => ?_)
          · skip
            rw [show ((if (0 ≤ (100 - (15 * (if ((zr h 113 v4) ≤ (zf h 92 80)) then (((zf h 92 80) - (zr h 113 v4)) : Int32) else ((zr h 113 v4) - (zf h 92 80)))))) then ((100 - (15 * (if ((zr h 113 v4) ≤ (zf h 92 80)) then (((zf h 92 80) - (zr h 113 v4)) : Int32) else ((zr h 113 v4) - (zf h 92 80))))) : Int32) else 0) : Int32) = (100 - (15 * (if ((zr h 113 v4) ≤ (zf h 92 80)) then (((zf h 92 80) - (zr h 113 v4)) : Int32) else ((zr h 113 v4) - (zf h 92 80))))) from if_pos hc] at K100
            refine zg_blk zd_225 5 hs (rfl : zb x zT0 zc_225 5 (171, [some (.ref 92), some (.int v1), some (.int v2), some (.int v3), some (.int v4), some (.int ((10 * v1) + v4)), some (.int (if ((zr h 113 v4) ≤ (zf h 92 80)) then (((zf h 92 80) - (zr h 113 v4)) : Int32) else ((zr h 113 v4) - (zf h 92 80)))), o7, o8], [], h) = some (179, [some (.ref 92), some (.int v1), some (.int v2), some (.int v3), some (.int v4), some (.int ((10 * v1) + v4)), some (.int (if ((zr h 113 v4) ≤ (zf h 92 80)) then (((zf h 92 80) - (zr h 113 v4)) : Int32) else ((zr h 113 v4) - (zf h 92 80)))), o7, o8], [.int (100 - (15 * (if ((zr h 113 v4) ≤ (zf h 92 80)) then (((zf h 92 80) - (zr h 113 v4)) : Int32) else ((zr h 113 v4) - (zf h 92 80)))))], h)) (fun hs => ?_)
            exact K100 hs
          · skip
            rw [show ((if (0 ≤ (100 - (15 * (if ((zr h 113 v4) ≤ (zf h 92 80)) then (((zf h 92 80) - (zr h 113 v4)) : Int32) else ((zr h 113 v4) - (zf h 92 80)))))) then ((100 - (15 * (if ((zr h 113 v4) ≤ (zf h 92 80)) then (((zf h 92 80) - (zr h 113 v4)) : Int32) else ((zr h 113 v4) - (zf h 92 80))))) : Int32) else 0) : Int32) = 0 from if_neg hc] at K100
            refine zg_blk zd_225 2 hs (rfl : zb x zT0 zc_225 2 (167, [some (.ref 92), some (.int v1), some (.int v2), some (.int v3), some (.int v4), some (.int ((10 * v1) + v4)), some (.int (if ((zr h 113 v4) ≤ (zf h 92 80)) then (((zf h 92 80) - (zr h 113 v4)) : Int32) else ((zr h 113 v4) - (zf h 92 80)))), o7, o8], [], h) = some (179, [some (.ref 92), some (.int v1), some (.int v2), some (.int v3), some (.int v4), some (.int ((10 * v1) + v4)), some (.int (if ((zr h 113 v4) ≤ (zf h 92 80)) then (((zf h 92 80) - (zr h 113 v4)) : Int32) else ((zr h 113 v4) - (zf h 92 80)))), o7, o8], [.int 0], h)) (fun hs => ?_)
            exact K100 hs
        refine zg_i_ge zd_225 rfl (fun (hc : ((zr h 113 v4) ≤ (zf h 92 80))) => ?_) (fun (hc : ¬ ((zr h 113 v4) ≤ (zf h 92 80))) => ?_)
        · have ho := hom.1 hc
          rw [show ((if ((zr h 113 v4) ≤ (zf h 92 80)) then (((zf h 92 80) - (zr h 113 v4)) : Int32) else ((zr h 113 v4) - (zf h 92 80))) : Int32) = ((zf h 92 80) - (zr h 113 v4)) from if_pos hc] at K99
          refine zg_blk zd_225 5 hs (rfl : zb x zT0 zc_225 5 (142, [some (.ref 92), some (.int v1), some (.int v2), some (.int v3), some (.int v4), some (.int ((10 * v1) + v4)), o6, o7, o8], [], h) = some (152, [some (.ref 92), some (.int v1), some (.int v2), some (.int v3), some (.int v4), some (.int ((10 * v1) + v4)), o6, o7, o8], [.int v4, .ref 113, .int (zf h 92 80)], h)) (fun hs => ?_)
          have hob := ho
          refine zg_ial hs zd_225 rfl rfl hob ?_
          refine zg_blk zd_225 1 hs (rfl : zb x zT0 zc_225 1 (153, [some (.ref 92), some (.int v1), some (.int v2), some (.int v3), some (.int v4), some (.int ((10 * v1) + v4)), o6, o7, o8], [.int (zr h 113 v4), .int (zf h 92 80)], h) = some (154, [some (.ref 92), some (.int v1), some (.int v2), some (.int v3), some (.int v4), some (.int ((10 * v1) + v4)), o6, o7, o8], [.int ((zf h 92 80) - (zr h 113 v4))], h)) (fun hs => ?_)
          exact K99 hs
        · have ho := hom.2 hc
          rw [show ((if ((zr h 113 v4) ≤ (zf h 92 80)) then (((zf h 92 80) - (zr h 113 v4)) : Int32) else ((zr h 113 v4) - (zf h 92 80))) : Int32) = ((zr h 113 v4) - (zf h 92 80)) from if_neg hc] at K99
          refine zg_blk zd_225 3 hs (rfl : zb x zT0 zc_225 3 (127, [some (.ref 92), some (.int v1), some (.int v2), some (.int v3), some (.int v4), some (.int ((10 * v1) + v4)), o6, o7, o8], [], h) = some (133, [some (.ref 92), some (.int v1), some (.int v2), some (.int v3), some (.int v4), some (.int ((10 * v1) + v4)), o6, o7, o8], [.int v4, .ref 113], h)) (fun hs => ?_)
          have hob := ho
          refine zg_ial hs zd_225 rfl rfl hob ?_
          refine zg_blk zd_225 4 hs (rfl : zb x zT0 zc_225 4 (134, [some (.ref 92), some (.int v1), some (.int v2), some (.int v3), some (.int v4), some (.int ((10 * v1) + v4)), o6, o7, o8], [.int (zr h 113 v4)], h) = some (154, [some (.ref 92), some (.int v1), some (.int v2), some (.int v3), some (.int v4), some (.int ((10 * v1) + v4)), o6, o7, o8], [.int ((zr h 113 v4) - (zf h 92 80))], h)) (fun hs => ?_)
          exact K99 hs
      · have ho := ho.2 hc
        rw [show (if ((zm_rm (zr h 124 ((10 * v1) + v4)) 10) = v3) then (zs (zs h 153 v4 (((((zr h 151 ((zr h 124 ((10 * v1) + v4)) / 10)) * (if (0 ≤ (100 - (15 * (if ((zr h 113 v4) ≤ (zf h 92 80)) then (((zf h 92 80) - (zr h 113 v4)) : Int32) else ((zr h 113 v4) - (zf h 92 80)))))) then ((100 - (15 * (if ((zr h 113 v4) ≤ (zf h 92 80)) then (((zf h 92 80) - (zr h 113 v4)) : Int32) else ((zr h 113 v4) - (zf h 92 80))))) : Int32) else 0)) / 100) * (zr h 112 v4)) / ((zr h 112 v4) + 20))) 151 ((zr h 124 ((10 * v1) + v4)) / 10) ((zr h 151 ((zr h 124 ((10 * v1) + v4)) / 10)) - (zr (zs h 153 v4 (((((zr h 151 ((zr h 124 ((10 * v1) + v4)) / 10)) * (if (0 ≤ (100 - (15 * (if ((zr h 113 v4) ≤ (zf h 92 80)) then (((zf h 92 80) - (zr h 113 v4)) : Int32) else ((zr h 113 v4) - (zf h 92 80)))))) then ((100 - (15 * (if ((zr h 113 v4) ≤ (zf h 92 80)) then (((zf h 92 80) - (zr h 113 v4)) : Int32) else ((zr h 113 v4) - (zf h 92 80))))) : Int32) else 0)) / 100) * (zr h 112 v4)) / ((zr h 112 v4) + 20))) 153 v4))) else h) = h from if_neg hc] at K98
        refine zg_blk zd_225 1 hs (rfl : zb x zT0 zc_225 1 (110, [some (.ref 92), some (.int v1), some (.int v2), some (.int v3), some (.int v4), some (.int ((10 * v1) + v4)), o6, o7, o8], [], h) = some (249, [some (.ref 92), some (.int v1), some (.int v2), some (.int v3), some (.int v4), some (.int ((10 * v1) + v4)), o6, o7, o8], [], h)) (fun hs => ?_)
        exact K98 (o6) (o7) (o8) hs
theorem f_M_waves_l59_l67_t {x : zm_X} {d : Nat} (v1 : Int32) (v2 : Int32) (v3 : Int32) {Q : Option Value → zm_H → Prop} (G : Nat × Int32 × zm_H → Prop) (hx1 : ∀ (v4 : Int32) (h : zm_H) (o4 : Option Value) (o5 : Option Value) (o6 : Option Value) (o7 : Option Value) (o8 : Option Value), zSh zT0 h → G (1, v4, h) → zg x (d + 2) 225 255 [some (.ref 92), some (.int v1), some (.int v2), some (.int v3), o4, o5, o6, o7, o8] [] h Q) : ∀ (n : Nat) (v4 : Int32) (h : zm_H) (o5 : Option Value) (o6 : Option Value) (o7 : Option Value) (o8 : Option Value), zSh zT0 h → f_M_waves_l59_l67_ok v1 v2 v3 n (v4, h) → G (f_M_waves_l59_l67 v1 v2 v3 n (v4, h)) → zg x (d + 2) 225 67 [some (.ref 92), some (.int v1), some (.int v2), some (.int v3), some (.int v4), o5, o6, o7, o8] [] h Q := by
  intro n
  induction n with
  | zero => intro v4 h o5 o6 o7 o8 hs ho hG; exact ho.elim
  | succ n ih =>
    intro v4 h o5 o6 o7 o8 hs ho hG
    refine f_M_waves_l59_l67_b_t (FN := fun r => (r.1 = 0 → f_M_waves_l59_l67_ok v1 v2 v3 n r.2) ∧ G (if r.1 = 0 then f_M_waves_l59_l67 v1 v2 v3 n r.2 else r)) v1 v2 v3 v4 h o5 o6 o7 o8 hs ho.1 ⟨ho.2, hG⟩ ?_ ?_
    · intro v4 h o5 o6 o7 o8 hs hF
      exact ih v4 h o5 o6 o7 o8 hs (hF.1 rfl) hF.2
    · intro v4 h o4 o5 o6 o7 o8 hs hF
      exact hx1 v4 h o4 o5 o6 o7 o8 hs hF.2

set_option maxRecDepth 100000 in
set_option maxHeartbeats 400000 in
theorem f_M_waves_l59_l266_b_t {x : zm_X} {d : Nat} (v1 : Int32) (v2 : Int32) (v3 : Int32) (v4 : Int32) (h : zm_H) (o5 : Option Value) (o6 : Option Value) (o7 : Option Value) (o8 : Option Value) {Q : Option Value → zm_H → Prop} {FN : Nat × Int32 × zm_H → Prop} (hs : zSh zT0 h) (ho : f_M_waves_l59_l266_b_ok v1 v2 v3 v4 h) (hF : FN (f_M_waves_l59_l266_b v1 v2 v3 v4 h)) (hl0 : ∀ (v4 : Int32) (h : zm_H) (o5 : Option Value) (o6 : Option Value) (o7 : Option Value) (o8 : Option Value), zSh zT0 h → FN (0, v4, h) → zg x (d + 2) 225 266 [some (.ref 92), some (.int v1), some (.int v2), some (.int v3), some (.int v4), o5, o6, o7, o8] [] h Q) (hl1 : ∀ (v4 : Int32) (h : zm_H) (o4 : Option Value) (o5 : Option Value) (o6 : Option Value) (o7 : Option Value) (o8 : Option Value), zSh zT0 h → FN (1, v4, h) → zg x (d + 2) 225 318 [some (.ref 92), some (.int v1), some (.int v2), some (.int v3), o4, o5, o6, o7, o8] [] h Q) : zg x (d + 2) 225 266 [some (.ref 92), some (.int v1), some (.int v2), some (.int v3), some (.int v4), o5, o6, o7, o8] [] h Q := by
  unfold f_M_waves_l59_l266_b at hF
  unfold f_M_waves_l59_l266_b_ok at ho
  refine zg_blk zd_225 2 hs (rfl : zb x zT0 zc_225 2 (266, [some (.ref 92), some (.int v1), some (.int v2), some (.int v3), some (.int v4), o5, o6, o7, o8], [], h) = some (270, [some (.ref 92), some (.int v1), some (.int v2), some (.int v3), some (.int v4), o5, o6, o7, o8], [.int 10, .int v4], h)) (fun hs => ?_)
  refine zg_i_ge zd_225 rfl (fun (hc : (10 ≤ v4)) => ?_) (fun (hc : ¬ (10 ≤ v4)) => ?_)
  · have ho := ho.1 hc
    rw [if_pos hc] at hF
    exact hl1 v4 h (some (.int v4)) (o5) (o6) (o7) (o8) hs hF
  · have ho := ho.2 hc
    rw [if_neg hc] at hF
    refine zg_blk zd_225 9 hs (rfl : zb x zT0 zc_225 9 (273, [some (.ref 92), some (.int v1), some (.int v2), some (.int v3), some (.int v4), o5, o6, o7, o8], [], h) = some (289, [some (.ref 92), some (.int v1), some (.int v2), some (.int v3), some (.int v4), o5, o6, o7, o8], [.int 9, .int 0, .int (v4 - (zf h 92 81)), .int v4, .ref 152], h)) (fun hs => ?_)
    refine zg_call hs zd_225 rfl rfl rfl rfl (as := [.int (v4 - (zf h 92 81)), .int 0, .int 9]) (rest := [.int v4, .ref 152]) (en := [some (.int (v4 - (zf h 92 81))), some (.int 0), some (.int 9)]) rfl rfl rfl rfl rfl ?_
    refine f_M_in_t (v4 - (zf h 92 81)) 0 9 h hs trivial ?_
    show zg x (d + 2) 225 292 [some (.ref 92), some (.int v1), some (.int v2), some (.int v3), some (.int v4), o5, o6, o7, o8] [.int (if (¬ ((v4 - (zf h 92 81)) < 0) ∧ (¬ (9 < (v4 - (zf h 92 81))))) then (1 : Int32) else 0), .int v4, .ref 152] h Q
    obtain ⟨hom, ho⟩ := ho
    have K101 : zSh zT0 h → zg x (d + 2) 225 311 [some (.ref 92), some (.int v1), some (.int v2), some (.int v3), some (.int v4), o5, o6, o7, o8] [.int (if (¬ ((v4 - (zf h 92 81)) < 0) ∧ (¬ (9 < (v4 - (zf h 92 81))))) then ((zr h 151 (v4 - (zf h 92 81))) : Int32) else v2), .int v4, .ref 152] h Q := fun hs => by
      have hob := ho
      refine zg_ias hs zd_225 rfl rfl hob (fun hs => ?_)
      refine zg_blk zd_225 2 hs (rfl : zb x zT0 zc_225 2 (312, [some (.ref 92), some (.int v1), some (.int v2), some (.int v3), some (.int v4), o5, o6, o7, o8], [], (zs h 152 v4 (if (¬ ((v4 - (zf h 92 81)) < 0) ∧ (¬ (9 < (v4 - (zf h 92 81))))) then ((zr h 151 (v4 - (zf h 92 81))) : Int32) else v2))) = some (266, [some (.ref 92), some (.int v1), some (.int v2), some (.int v3), some (.int (v4 + 1)), o5, o6, o7, o8], [], (zs h 152 v4 (if (¬ ((v4 - (zf h 92 81)) < 0) ∧ (¬ (9 < (v4 - (zf h 92 81))))) then ((zr h 151 (v4 - (zf h 92 81))) : Int32) else v2)))) (fun hs => ?_)
      exact hl0 (v4 + 1) (zs h 152 v4 (if (¬ ((v4 - (zf h 92 81)) < 0) ∧ (¬ (9 < (v4 - (zf h 92 81))))) then ((zr h 151 (v4 - (zf h 92 81))) : Int32) else v2)) (o5) (o6) (o7) (o8) hs hF
    refine zg_b_eq zd_225 rfl (fun (hc : ¬ (¬ ((v4 - (zf h 92 81)) < 0) ∧ (¬ (9 < (v4 - (zf h 92 81)))))) => ?_) (fun (hc : (¬ ((v4 - (zf h 92 81)) < 0) ∧ (¬ (9 < (v4 - (zf h 92 81)))))) => ?_)
    · have ho := hom.2 hc
      rw [show ((if (¬ ((v4 - (zf h 92 81)) < 0) ∧ (¬ (9 < (v4 - (zf h 92 81))))) then ((zr h 151 (v4 - (zf h 92 81))) : Int32) else v2) : Int32) = v2 from if_neg hc] at K101
      refine zg_blk zd_225 1 hs (rfl : zb x zT0 zc_225 1 (310, [some (.ref 92), some (.int v1), some (.int v2), some (.int v3), some (.int v4), o5, o6, o7, o8], [.int v4, .ref 152], h) = some (311, [some (.ref 92), some (.int v1), some (.int v2), some (.int v3), some (.int v4), o5, o6, o7, o8], [.int v2, .int v4, .ref 152], h)) (fun hs => ?_)
      exact K101 hs
    · have ho := hom.1 hc
      rw [show ((if (¬ ((v4 - (zf h 92 81)) < 0) ∧ (¬ (9 < (v4 - (zf h 92 81))))) then ((zr h 151 (v4 - (zf h 92 81))) : Int32) else v2) : Int32) = (zr h 151 (v4 - (zf h 92 81))) from if_pos hc] at K101
      refine zg_blk zd_225 6 hs (rfl : zb x zT0 zc_225 6 (295, [some (.ref 92), some (.int v1), some (.int v2), some (.int v3), some (.int v4), o5, o6, o7, o8], [.int v4, .ref 152], h) = some (306, [some (.ref 92), some (.int v1), some (.int v2), some (.int v3), some (.int v4), o5, o6, o7, o8], [.int (v4 - (zf h 92 81)), .ref 151, .int v4, .ref 152], h)) (fun hs => ?_)
      have hob := ho
      refine zg_ial hs zd_225 rfl rfl hob ?_
      refine zg_blk zd_225 1 hs (rfl : zb x zT0 zc_225 1 (307, [some (.ref 92), some (.int v1), some (.int v2), some (.int v3), some (.int v4), o5, o6, o7, o8], [.int (zr h 151 (v4 - (zf h 92 81))), .int v4, .ref 152], h) = some (311, [some (.ref 92), some (.int v1), some (.int v2), some (.int v3), some (.int v4), o5, o6, o7, o8], [.int (zr h 151 (v4 - (zf h 92 81))), .int v4, .ref 152], h)) (fun hs => ?_)
      exact K101 hs
theorem f_M_waves_l59_l266_t {x : zm_X} {d : Nat} (v1 : Int32) (v2 : Int32) (v3 : Int32) {Q : Option Value → zm_H → Prop} (G : Nat × Int32 × zm_H → Prop) (hx1 : ∀ (v4 : Int32) (h : zm_H) (o4 : Option Value) (o5 : Option Value) (o6 : Option Value) (o7 : Option Value) (o8 : Option Value), zSh zT0 h → G (1, v4, h) → zg x (d + 2) 225 318 [some (.ref 92), some (.int v1), some (.int v2), some (.int v3), o4, o5, o6, o7, o8] [] h Q) : ∀ (n : Nat) (v4 : Int32) (h : zm_H) (o5 : Option Value) (o6 : Option Value) (o7 : Option Value) (o8 : Option Value), zSh zT0 h → f_M_waves_l59_l266_ok v1 v2 v3 n (v4, h) → G (f_M_waves_l59_l266 v1 v2 v3 n (v4, h)) → zg x (d + 2) 225 266 [some (.ref 92), some (.int v1), some (.int v2), some (.int v3), some (.int v4), o5, o6, o7, o8] [] h Q := by
  intro n
  induction n with
  | zero => intro v4 h o5 o6 o7 o8 hs ho hG; exact ho.elim
  | succ n ih =>
    intro v4 h o5 o6 o7 o8 hs ho hG
    refine f_M_waves_l59_l266_b_t (FN := fun r => (r.1 = 0 → f_M_waves_l59_l266_ok v1 v2 v3 n r.2) ∧ G (if r.1 = 0 then f_M_waves_l59_l266 v1 v2 v3 n r.2 else r)) v1 v2 v3 v4 h o5 o6 o7 o8 hs ho.1 ⟨ho.2, hG⟩ ?_ ?_
    · intro v4 h o5 o6 o7 o8 hs hF
      exact ih v4 h o5 o6 o7 o8 hs (hF.1 rfl) hF.2
    · intro v4 h o4 o5 o6 o7 o8 hs hF
      exact hx1 v4 h o4 o5 o6 o7 o8 hs hF.2

set_option maxRecDepth 100000 in
set_option maxHeartbeats 400000 in
theorem f_M_waves_l59_k348_t {x : zm_X} {d : Nat} (v1 : Int32) (v2 : Int32) (v3 : Int32) (h : zm_H) (o4 : Option Value) (o5 : Option Value) (o6 : Option Value) (o7 : Option Value) (o8 : Option Value) {Q : Option Value → zm_H → Prop} {FN : Nat × Int32 × zm_H → Prop} (hs : zSh zT0 h) (ho : f_M_waves_l59_k348_ok v1 v2 v3 h) (hF : FN (f_M_waves_l59_k348 v1 v2 v3 h)) (hl0 : ∀ (v3 : Int32) (h : zm_H) (o4 : Option Value) (o5 : Option Value) (o6 : Option Value) (o7 : Option Value) (o8 : Option Value), zSh zT0 h → FN (0, v3, h) → zg x (d + 2) 225 59 [some (.ref 92), some (.int v1), some (.int v2), some (.int v3), o4, o5, o6, o7, o8] [] h Q) (hl1 : ∀ (v3 : Int32) (h : zm_H) (o3 : Option Value) (o4 : Option Value) (o5 : Option Value) (o6 : Option Value) (o7 : Option Value) (o8 : Option Value), zSh zT0 h → FN (1, v3, h) → zg x (d + 2) 225 354 [some (.ref 92), some (.int v1), some (.int v2), o3, o4, o5, o6, o7, o8] [] h Q) : zg x (d + 2) 225 348 [some (.ref 92), some (.int v1), some (.int v2), some (.int v3), o4, o5, o6, o7, o8] [] h Q := by
  unfold f_M_waves_l59_k348 at hF
  unfold f_M_waves_l59_k348_ok at ho
  refine zg_blk zd_225 2 hs (rfl : zb x zT0 zc_225 2 (348, [some (.ref 92), some (.int v1), some (.int v2), some (.int v3), o4, o5, o6, o7, o8], [], h) = some (59, [some (.ref 92), some (.int v1), some (.int v2), some (.int (v3 + 1)), o4, o5, o6, o7, o8], [], h)) (fun hs => ?_)
  exact hl0 (v3 + 1) h (o4) (o5) (o6) (o7) (o8) hs hF
set_option maxRecDepth 100000 in
set_option maxHeartbeats 400000 in
theorem f_M_waves_l59_l321_b_t {x : zm_X} {d : Nat} (v1 : Int32) (v2 : Int32) (v3 : Int32) (v4 : Int32) (h : zm_H) (o5 : Option Value) (o6 : Option Value) (o7 : Option Value) (o8 : Option Value) {Q : Option Value → zm_H → Prop} {FN : Nat × Int32 × zm_H → Prop} (hs : zSh zT0 h) (ho : f_M_waves_l59_l321_b_ok v1 v2 v3 v4 h) (hF : FN (f_M_waves_l59_l321_b v1 v2 v3 v4 h)) (hl0 : ∀ (v4 : Int32) (h : zm_H) (o5 : Option Value) (o6 : Option Value) (o7 : Option Value) (o8 : Option Value), zSh zT0 h → FN (0, v4, h) → zg x (d + 2) 225 321 [some (.ref 92), some (.int v1), some (.int v2), some (.int v3), some (.int v4), o5, o6, o7, o8] [] h Q) (hl1 : ∀ (v4 : Int32) (h : zm_H) (o4 : Option Value) (o5 : Option Value) (o6 : Option Value) (o7 : Option Value) (o8 : Option Value), zSh zT0 h → FN (1, v4, h) → zg x (d + 2) 225 348 [some (.ref 92), some (.int v1), some (.int v2), some (.int v3), o4, o5, o6, o7, o8] [] h Q) : zg x (d + 2) 225 321 [some (.ref 92), some (.int v1), some (.int v2), some (.int v3), some (.int v4), o5, o6, o7, o8] [] h Q := by
  unfold f_M_waves_l59_l321_b at hF
  unfold f_M_waves_l59_l321_b_ok at ho
  refine zg_blk zd_225 2 hs (rfl : zb x zT0 zc_225 2 (321, [some (.ref 92), some (.int v1), some (.int v2), some (.int v3), some (.int v4), o5, o6, o7, o8], [], h) = some (325, [some (.ref 92), some (.int v1), some (.int v2), some (.int v3), some (.int v4), o5, o6, o7, o8], [.int 10, .int v4], h)) (fun hs => ?_)
  refine zg_i_ge zd_225 rfl (fun (hc : (10 ≤ v4)) => ?_) (fun (hc : ¬ (10 ≤ v4)) => ?_)
  · have ho := ho.1 hc
    rw [if_pos hc] at hF
    exact hl1 v4 h (some (.int v4)) (o5) (o6) (o7) (o8) hs hF
  · have ho := ho.2 hc
    rw [if_neg hc] at hF
    refine zg_blk zd_225 6 hs (rfl : zb x zT0 zc_225 6 (328, [some (.ref 92), some (.int v1), some (.int v2), some (.int v3), some (.int v4), o5, o6, o7, o8], [], h) = some (340, [some (.ref 92), some (.int v1), some (.int v2), some (.int v3), some (.int v4), o5, o6, o7, o8], [.int v4, .ref 152, .int v4, .ref 151], h)) (fun hs => ?_)
    obtain ⟨hob, ho⟩ := ho
    refine zg_ial hs zd_225 rfl rfl hob ?_
    have hob := ho
    refine zg_ias hs zd_225 rfl rfl hob (fun hs => ?_)
    refine zg_blk zd_225 2 hs (rfl : zb x zT0 zc_225 2 (342, [some (.ref 92), some (.int v1), some (.int v2), some (.int v3), some (.int v4), o5, o6, o7, o8], [], (zs h 151 v4 (zr h 152 v4))) = some (321, [some (.ref 92), some (.int v1), some (.int v2), some (.int v3), some (.int (v4 + 1)), o5, o6, o7, o8], [], (zs h 151 v4 (zr h 152 v4)))) (fun hs => ?_)
    exact hl0 (v4 + 1) (zs h 151 v4 (zr h 152 v4)) (o5) (o6) (o7) (o8) hs hF
theorem f_M_waves_l59_l321_t {x : zm_X} {d : Nat} (v1 : Int32) (v2 : Int32) (v3 : Int32) {Q : Option Value → zm_H → Prop} (G : Nat × Int32 × zm_H → Prop) (hx1 : ∀ (v4 : Int32) (h : zm_H) (o4 : Option Value) (o5 : Option Value) (o6 : Option Value) (o7 : Option Value) (o8 : Option Value), zSh zT0 h → G (1, v4, h) → zg x (d + 2) 225 348 [some (.ref 92), some (.int v1), some (.int v2), some (.int v3), o4, o5, o6, o7, o8] [] h Q) : ∀ (n : Nat) (v4 : Int32) (h : zm_H) (o5 : Option Value) (o6 : Option Value) (o7 : Option Value) (o8 : Option Value), zSh zT0 h → f_M_waves_l59_l321_ok v1 v2 v3 n (v4, h) → G (f_M_waves_l59_l321 v1 v2 v3 n (v4, h)) → zg x (d + 2) 225 321 [some (.ref 92), some (.int v1), some (.int v2), some (.int v3), some (.int v4), o5, o6, o7, o8] [] h Q := by
  intro n
  induction n with
  | zero => intro v4 h o5 o6 o7 o8 hs ho hG; exact ho.elim
  | succ n ih =>
    intro v4 h o5 o6 o7 o8 hs ho hG
    refine f_M_waves_l59_l321_b_t (FN := fun r => (r.1 = 0 → f_M_waves_l59_l321_ok v1 v2 v3 n r.2) ∧ G (if r.1 = 0 then f_M_waves_l59_l321 v1 v2 v3 n r.2 else r)) v1 v2 v3 v4 h o5 o6 o7 o8 hs ho.1 ⟨ho.2, hG⟩ ?_ ?_
    · intro v4 h o5 o6 o7 o8 hs hF
      exact ih v4 h o5 o6 o7 o8 hs (hF.1 rfl) hF.2
    · intro v4 h o4 o5 o6 o7 o8 hs hF
      exact hx1 v4 h o4 o5 o6 o7 o8 hs hF.2

set_option maxRecDepth 100000 in
set_option maxHeartbeats 400000 in
theorem f_M_waves_l59_k318_t {x : zm_X} {d : Nat} (v1 : Int32) (v2 : Int32) (v3 : Int32) (h : zm_H) (o4 : Option Value) (o5 : Option Value) (o6 : Option Value) (o7 : Option Value) (o8 : Option Value) {Q : Option Value → zm_H → Prop} {FN : Nat × Int32 × zm_H → Prop} (hs : zSh zT0 h) (ho : f_M_waves_l59_k318_ok v1 v2 v3 h) (hF : FN (f_M_waves_l59_k318 v1 v2 v3 h)) (hl0 : ∀ (v3 : Int32) (h : zm_H) (o4 : Option Value) (o5 : Option Value) (o6 : Option Value) (o7 : Option Value) (o8 : Option Value), zSh zT0 h → FN (0, v3, h) → zg x (d + 2) 225 59 [some (.ref 92), some (.int v1), some (.int v2), some (.int v3), o4, o5, o6, o7, o8] [] h Q) (hl1 : ∀ (v3 : Int32) (h : zm_H) (o3 : Option Value) (o4 : Option Value) (o5 : Option Value) (o6 : Option Value) (o7 : Option Value) (o8 : Option Value), zSh zT0 h → FN (1, v3, h) → zg x (d + 2) 225 354 [some (.ref 92), some (.int v1), some (.int v2), o3, o4, o5, o6, o7, o8] [] h Q) : zg x (d + 2) 225 318 [some (.ref 92), some (.int v1), some (.int v2), some (.int v3), o4, o5, o6, o7, o8] [] h Q := by
  unfold f_M_waves_l59_k318 at hF
  unfold f_M_waves_l59_k318_ok at ho
  refine zg_blk zd_225 2 hs (rfl : zb x zT0 zc_225 2 (318, [some (.ref 92), some (.int v1), some (.int v2), some (.int v3), o4, o5, o6, o7, o8], [], h) = some (321, [some (.ref 92), some (.int v1), some (.int v2), some (.int v3), some (.int 0), o5, o6, o7, o8], [], h)) (fun hs => ?_)
  refine f_M_waves_l59_l321_t v1 v2 v3 (fun r => f_M_waves_l59_a321_ok v1 v2 v3 r ∧ FN (f_M_waves_l59_a321 v1 v2 v3 r)) ?_ zF 0 h (o5) (o6) (o7) (o8) hs ho.1 ⟨ho.2, hF⟩
  · intro v4_ h_ o4_ o5_ o6_ o7_ o8_ hs hG
    have ho : True := trivial
    have hF : FN ((f_M_waves_l59_k348 v1 v2 v3 h_)) := hG.2
    exact f_M_waves_l59_k348_t v1 v2 v3 h_ (o4_) (o5_) (o6_) (o7_) (o8_) hs trivial hF hl0 hl1
set_option maxRecDepth 100000 in
set_option maxHeartbeats 400000 in
theorem f_M_waves_l59_k255_t {x : zm_X} {d : Nat} (v1 : Int32) (v2 : Int32) (v3 : Int32) (h : zm_H) (o4 : Option Value) (o5 : Option Value) (o6 : Option Value) (o7 : Option Value) (o8 : Option Value) {Q : Option Value → zm_H → Prop} {FN : Nat × Int32 × zm_H → Prop} (hs : zSh zT0 h) (ho : f_M_waves_l59_k255_ok v1 v2 v3 h) (hF : FN (f_M_waves_l59_k255 v1 v2 v3 h)) (hl0 : ∀ (v3 : Int32) (h : zm_H) (o4 : Option Value) (o5 : Option Value) (o6 : Option Value) (o7 : Option Value) (o8 : Option Value), zSh zT0 h → FN (0, v3, h) → zg x (d + 2) 225 59 [some (.ref 92), some (.int v1), some (.int v2), some (.int v3), o4, o5, o6, o7, o8] [] h Q) (hl1 : ∀ (v3 : Int32) (h : zm_H) (o3 : Option Value) (o4 : Option Value) (o5 : Option Value) (o6 : Option Value) (o7 : Option Value) (o8 : Option Value), zSh zT0 h → FN (1, v3, h) → zg x (d + 2) 225 354 [some (.ref 92), some (.int v1), some (.int v2), o3, o4, o5, o6, o7, o8] [] h Q) : zg x (d + 2) 225 255 [some (.ref 92), some (.int v1), some (.int v2), some (.int v3), o4, o5, o6, o7, o8] [] h Q := by
  unfold f_M_waves_l59_k255 at hF
  unfold f_M_waves_l59_k255_ok at ho
  refine zg_blk zd_225 2 hs (rfl : zb x zT0 zc_225 2 (255, [some (.ref 92), some (.int v1), some (.int v2), some (.int v3), o4, o5, o6, o7, o8], [], h) = some (257, [some (.ref 92), some (.int v1), some (.int v2), some (.int v3), o4, o5, o6, o7, o8], [.int 4, .int v3], h)) (fun hs => ?_)
  refine zg_i_ne zd_225 rfl (fun (hc : ¬ (v3 = 4)) => ?_) (fun (hc : (v3 = 4)) => ?_)
  · have ho := ho.2 hc
    rw [if_neg hc] at hF
    refine zg_blk zd_225 2 hs (rfl : zb x zT0 zc_225 2 (263, [some (.ref 92), some (.int v1), some (.int v2), some (.int v3), o4, o5, o6, o7, o8], [], h) = some (266, [some (.ref 92), some (.int v1), some (.int v2), some (.int v3), some (.int 0), o5, o6, o7, o8], [], h)) (fun hs => ?_)
    refine f_M_waves_l59_l266_t v1 v2 v3 (fun r => f_M_waves_l59_a266_ok v1 v2 v3 r ∧ FN (f_M_waves_l59_a266 v1 v2 v3 r)) ?_ zF 0 h (o5) (o6) (o7) (o8) hs ho.1 ⟨ho.2, hF⟩
    · intro v4_ h_ o4_ o5_ o6_ o7_ o8_ hs hG
      have ho : (f_M_waves_l59_k318_ok v1 v2 v3 h_) := hG.1
      have hF : FN ((f_M_waves_l59_k318 v1 v2 v3 h_)) := hG.2
      exact f_M_waves_l59_k318_t v1 v2 v3 h_ (o4_) (o5_) (o6_) (o7_) (o8_) hs ho hF hl0 hl1
  · have ho := ho.1 hc
    rw [if_pos hc] at hF
    refine zg_blk zd_225 1 hs (rfl : zb x zT0 zc_225 1 (260, [some (.ref 92), some (.int v1), some (.int v2), some (.int v3), o4, o5, o6, o7, o8], [], h) = some (348, [some (.ref 92), some (.int v1), some (.int v2), some (.int v3), o4, o5, o6, o7, o8], [], h)) (fun hs => ?_)
    exact f_M_waves_l59_k348_t v1 v2 v3 h (o4) (o5) (o6) (o7) (o8) hs trivial hF hl0 hl1
set_option maxRecDepth 100000 in
set_option maxHeartbeats 400000 in
theorem f_M_waves_l59_b_t {x : zm_X} {d : Nat} (v1 : Int32) (v2 : Int32) (v3 : Int32) (h : zm_H) (o4 : Option Value) (o5 : Option Value) (o6 : Option Value) (o7 : Option Value) (o8 : Option Value) {Q : Option Value → zm_H → Prop} {FN : Nat × Int32 × zm_H → Prop} (hs : zSh zT0 h) (ho : f_M_waves_l59_b_ok v1 v2 v3 h) (hF : FN (f_M_waves_l59_b v1 v2 v3 h)) (hl0 : ∀ (v3 : Int32) (h : zm_H) (o4 : Option Value) (o5 : Option Value) (o6 : Option Value) (o7 : Option Value) (o8 : Option Value), zSh zT0 h → FN (0, v3, h) → zg x (d + 2) 225 59 [some (.ref 92), some (.int v1), some (.int v2), some (.int v3), o4, o5, o6, o7, o8] [] h Q) (hl1 : ∀ (v3 : Int32) (h : zm_H) (o3 : Option Value) (o4 : Option Value) (o5 : Option Value) (o6 : Option Value) (o7 : Option Value) (o8 : Option Value), zSh zT0 h → FN (1, v3, h) → zg x (d + 2) 225 354 [some (.ref 92), some (.int v1), some (.int v2), o3, o4, o5, o6, o7, o8] [] h Q) : zg x (d + 2) 225 59 [some (.ref 92), some (.int v1), some (.int v2), some (.int v3), o4, o5, o6, o7, o8] [] h Q := by
  unfold f_M_waves_l59_b at hF
  unfold f_M_waves_l59_b_ok at ho
  refine zg_blk zd_225 2 hs (rfl : zb x zT0 zc_225 2 (59, [some (.ref 92), some (.int v1), some (.int v2), some (.int v3), o4, o5, o6, o7, o8], [], h) = some (61, [some (.ref 92), some (.int v1), some (.int v2), some (.int v3), o4, o5, o6, o7, o8], [.int 5, .int v3], h)) (fun hs => ?_)
  refine zg_i_ge zd_225 rfl (fun (hc : (5 ≤ v3)) => ?_) (fun (hc : ¬ (5 ≤ v3)) => ?_)
  · have ho := ho.1 hc
    rw [if_pos hc] at hF
    exact hl1 v3 h (some (.int v3)) (o4) (o5) (o6) (o7) (o8) hs hF
  · have ho := ho.2 hc
    rw [if_neg hc] at hF
    refine zg_blk zd_225 2 hs (rfl : zb x zT0 zc_225 2 (64, [some (.ref 92), some (.int v1), some (.int v2), some (.int v3), o4, o5, o6, o7, o8], [], h) = some (67, [some (.ref 92), some (.int v1), some (.int v2), some (.int v3), some (.int 0), o5, o6, o7, o8], [], h)) (fun hs => ?_)
    refine f_M_waves_l59_l67_t v1 v2 v3 (fun r => f_M_waves_l59_a67_ok v1 v2 v3 r ∧ FN (f_M_waves_l59_a67 v1 v2 v3 r)) ?_ zF 0 h (o5) (o6) (o7) (o8) hs ho.1 ⟨ho.2, hF⟩
    · intro v4_ h_ o4_ o5_ o6_ o7_ o8_ hs hG
      have ho : (f_M_waves_l59_k255_ok v1 v2 v3 h_) := hG.1
      have hF : FN ((f_M_waves_l59_k255 v1 v2 v3 h_)) := hG.2
      exact f_M_waves_l59_k255_t v1 v2 v3 h_ (o4_) (o5_) (o6_) (o7_) (o8_) hs ho hF hl0 hl1
theorem f_M_waves_l59_t {x : zm_X} {d : Nat} (v1 : Int32) (v2 : Int32) {Q : Option Value → zm_H → Prop} (G : Nat × Int32 × zm_H → Prop) (hx1 : ∀ (v3 : Int32) (h : zm_H) (o3 : Option Value) (o4 : Option Value) (o5 : Option Value) (o6 : Option Value) (o7 : Option Value) (o8 : Option Value), zSh zT0 h → G (1, v3, h) → zg x (d + 2) 225 354 [some (.ref 92), some (.int v1), some (.int v2), o3, o4, o5, o6, o7, o8] [] h Q) : ∀ (n : Nat) (v3 : Int32) (h : zm_H) (o4 : Option Value) (o5 : Option Value) (o6 : Option Value) (o7 : Option Value) (o8 : Option Value), zSh zT0 h → f_M_waves_l59_ok v1 v2 n (v3, h) → G (f_M_waves_l59 v1 v2 n (v3, h)) → zg x (d + 2) 225 59 [some (.ref 92), some (.int v1), some (.int v2), some (.int v3), o4, o5, o6, o7, o8] [] h Q := by
  intro n
  induction n with
  | zero => intro v3 h o4 o5 o6 o7 o8 hs ho hG; exact ho.elim
  | succ n ih =>
    intro v3 h o4 o5 o6 o7 o8 hs ho hG
    refine f_M_waves_l59_b_t (FN := fun r => (r.1 = 0 → f_M_waves_l59_ok v1 v2 n r.2) ∧ G (if r.1 = 0 then f_M_waves_l59 v1 v2 n r.2 else r)) v1 v2 v3 h o4 o5 o6 o7 o8 hs ho.1 ⟨ho.2, hG⟩ ?_ ?_
    · intro v3 h o4 o5 o6 o7 o8 hs hF
      exact ih v3 h o4 o5 o6 o7 o8 hs (hF.1 rfl) hF.2
    · intro v3 h o3 o4 o5 o6 o7 o8 hs hF
      exact hx1 v3 h o3 o4 o5 o6 o7 o8 hs hF.2

set_option maxRecDepth 100000 in
set_option maxHeartbeats 400000 in
theorem f_M_waves_k354_t {x : zm_X} {d : Nat} (h : zm_H) (o0 : Option Value) (z1 : Int32) (o2 : Option Value) (o3 : Option Value) (o4 : Option Value) (o5 : Option Value) (o6 : Option Value) (o7 : Option Value) (o8 : Option Value) {Q : Option Value → zm_H → Prop} (hs : zSh zT0 h) (ho : f_M_waves_k354_ok h) (hF : (zSh zT0 (f_M_waves_k354 h) → Q none (f_M_waves_k354 h))) : zg x (d + 2) 225 354 [o0, some (.int z1), o2, o3, o4, o5, o6, o7, o8] [] h Q := by
  unfold f_M_waves_k354 at hF
  unfold f_M_waves_k354_ok at ho
  exact zg_ret zd_225 rfl rfl (hF hs)
set_option maxRecDepth 100000 in
set_option maxHeartbeats 400000 in
theorem f_M_waves_k57_t {x : zm_X} {d : Nat} (v1 : Int32) (v2 : Int32) (h : zm_H) (o3 : Option Value) (o4 : Option Value) (o5 : Option Value) (o6 : Option Value) (o7 : Option Value) (o8 : Option Value) {Q : Option Value → zm_H → Prop} (hs : zSh zT0 h) (ho : f_M_waves_k57_ok v1 v2 h) (hF : (zSh zT0 (f_M_waves_k57 v1 v2 h) → Q none (f_M_waves_k57 v1 v2 h))) : zg x (d + 2) 225 57 [some (.ref 92), some (.int v1), some (.int v2), o3, o4, o5, o6, o7, o8] [] h Q := by
  unfold f_M_waves_k57 at hF
  unfold f_M_waves_k57_ok at ho
  refine zg_blk zd_225 2 hs (rfl : zb x zT0 zc_225 2 (57, [some (.ref 92), some (.int v1), some (.int v2), o3, o4, o5, o6, o7, o8], [], h) = some (59, [some (.ref 92), some (.int v1), some (.int v2), some (.int 0), o4, o5, o6, o7, o8], [], h)) (fun hs => ?_)
  refine f_M_waves_l59_t v1 v2 (fun r => f_M_waves_a59_ok r ∧ (zSh zT0 (f_M_waves_a59 r) → Q none (f_M_waves_a59 r))) ?_ zF 0 h (o4) (o5) (o6) (o7) (o8) hs ho.1 ⟨ho.2, hF⟩
  · intro v3_ h_ o3_ o4_ o5_ o6_ o7_ o8_ hs hG
    have ho : True := trivial
    have hF : (zSh zT0 ((f_M_waves_k354 h_)) → Q none ((f_M_waves_k354 h_))) := hG.2
    exact f_M_waves_k354_t h_ (some (.ref 92)) v1 (some (.int v2)) (o3_) (o4_) (o5_) (o6_) (o7_) (o8_) hs trivial hF
set_option maxRecDepth 100000 in
set_option maxHeartbeats 400000 in
theorem f_M_waves_k36_t {x : zm_X} {d : Nat} (v1 : Int32) (v2 : Int32) (h : zm_H) (o3 : Option Value) (o4 : Option Value) (o5 : Option Value) (o6 : Option Value) (o7 : Option Value) (o8 : Option Value) {Q : Option Value → zm_H → Prop} (hs : zSh zT0 h) (ho : f_M_waves_k36_ok v1 v2 h) (hF : (zSh zT0 (f_M_waves_k36 v1 v2 h) → Q none (f_M_waves_k36 v1 v2 h))) : zg x (d + 2) 225 36 [some (.ref 92), some (.int v1), some (.int v2), o3, o4, o5, o6, o7, o8] [] h Q := by
  unfold f_M_waves_k36 at hF
  unfold f_M_waves_k36_ok at ho
  refine zg_blk zd_225 2 hs (rfl : zb x zT0 zc_225 2 (36, [some (.ref 92), some (.int v1), some (.int v2), o3, o4, o5, o6, o7, o8], [], h) = some (38, [some (.ref 92), some (.int v1), some (.int v2), some (.int 0), o4, o5, o6, o7, o8], [], h)) (fun hs => ?_)
  refine f_M_waves_l38_t v1 v2 (fun r => f_M_waves_a38_ok v1 v2 r ∧ (zSh zT0 (f_M_waves_a38 v1 v2 r) → Q none (f_M_waves_a38 v1 v2 r))) ?_ zF 0 h (o4) (o5) (o6) (o7) (o8) hs ho.1 ⟨ho.2, hF⟩
  · intro v3_ h_ o3_ o4_ o5_ o6_ o7_ o8_ hs hG
    have ho : (f_M_waves_k57_ok v1 v2 h_) := hG.1
    have hF : (zSh zT0 ((f_M_waves_k57 v1 v2 h_)) → Q none ((f_M_waves_k57 v1 v2 h_))) := hG.2
    exact f_M_waves_k57_t v1 v2 h_ (o3_) (o4_) (o5_) (o6_) (o7_) (o8_) hs ho hF
set_option maxRecDepth 100000 in
set_option maxHeartbeats 400000 in
theorem f_M_waves_t {x : zm_X} {d : Nat} (p1 : Int32) (h : zm_H) {Q : Option Value → zm_H → Prop} (hs : zSh zT0 h) (ho : f_M_waves_ok p1 h) (hF : (zSh zT0 (f_M_waves p1 h) → Q none (f_M_waves p1 h))) : zg x (d + 2) 225 0 [some (.ref 92), some (.int p1), none, none, none, none, none, none, none] [] h Q := by
  unfold f_M_waves at hF
  unfold f_M_waves_ok at ho
  refine zg_blk zd_225 11 hs (rfl : zb x zT0 zc_225 11 (0, [some (.ref 92), some (.int p1), none, none, none, none, none, none, none], [], h) = some (17, [some (.ref 92), some (.int p1), some (.int (((zf h 92 79) * (zf h 92 79)) * (zf h 92 80))), some (.int 0), none, none, none, none, none], [], h)) (fun hs => ?_)
  refine f_M_waves_l17_t p1 (((zf h 92 79) * (zf h 92 79)) * (zf h 92 80)) (fun r => f_M_waves_a17_ok p1 (((zf h 92 79) * (zf h 92 79)) * (zf h 92 80)) r ∧ (zSh zT0 (f_M_waves_a17 p1 (((zf h 92 79) * (zf h 92 79)) * (zf h 92 80)) r) → Q none (f_M_waves_a17 p1 (((zf h 92 79) * (zf h 92 79)) * (zf h 92 80)) r))) ?_ zF 0 h (none) (none) (none) (none) (none) hs ho.1 ⟨ho.2, hF⟩
  · intro v3_ h_ o3_ o4_ o5_ o6_ o7_ o8_ hs hG
    have ho : (f_M_waves_k36_ok p1 (((zf h 92 79) * (zf h 92 79)) * (zf h 92 80)) h_) := hG.1
    have hF : (zSh zT0 ((f_M_waves_k36 p1 (((zf h 92 79) * (zf h 92 79)) * (zf h 92 80)) h_)) → Q none ((f_M_waves_k36 p1 (((zf h 92 79) * (zf h 92 79)) * (zf h 92 80)) h_))) := hG.2
    exact f_M_waves_k36_t p1 (((zf h 92 79) * (zf h 92 79)) * (zf h 92 80)) h_ (o3_) (o4_) (o5_) (o6_) (o7_) (o8_) hs ho hF
theorem zd_226 : zm_cd 226 = zc_226 := by rfl
set_option maxRecDepth 100000 in
set_option maxHeartbeats 400000 in
theorem f_M_leak_t {x : zm_X} {d : Nat} (p1 : Int32) (h : zm_H) {Q : Option Value → zm_H → Prop} (hs : zSh zT0 h) (ho : f_M_leak_ok p1 h) (hF : Q (some (.int (f_M_leak p1 h))) h) : zg x (d + 1) 226 0 [some (.ref 92), some (.int p1)] [] h Q := by
  unfold f_M_leak at hF
  unfold f_M_leak_ok at ho
  refine zg_blk zd_226 3 hs (rfl : zb x zT0 zc_226 3 (0, [some (.ref 92), some (.int p1)], [], h) = some (5, [some (.ref 92), some (.int p1)], [.int p1, .ref 125], h)) (fun hs => ?_)
  obtain ⟨hob, ho⟩ := ho
  refine zg_ial hs zd_226 rfl rfl hob ?_
  refine zg_blk zd_226 3 hs (rfl : zb x zT0 zc_226 3 (6, [some (.ref 92), some (.int p1)], [.int (zr h 125 p1)], h) = some (11, [some (.ref 92), some (.int p1)], [.int 100, .int ((zr h 125 p1) / 16)], h)) (fun hs => ?_)
  have hom := ho
  have K102 : zSh zT0 h → zg x (d + 1) 226 28 [some (.ref 92), some (.int p1)] [.int (if (((zr h 125 p1) / 16) ≤ 100) then (((zr h 125 p1) / 16) : Int32) else 100)] h Q := fun hs => by
    exact zg_ret zd_226 rfl rfl hF
  refine zg_i_le zd_226 rfl (fun (hc : (((zr h 125 p1) / 16) ≤ 100)) => ?_) (fun (hc : ¬ (((zr h 125 p1) / 16) ≤ 100)) => ?_)
  · have ho := hom.1 hc
    rw [show ((if (((zr h 125 p1) / 16) ≤ 100) then (((zr h 125 p1) / 16) : Int32) else 100) : Int32) = ((zr h 125 p1) / 16) from if_pos hc] at K102
    refine zg_blk zd_226 3 hs (rfl : zb x zT0 zc_226 3 (19, [some (.ref 92), some (.int p1)], [], h) = some (24, [some (.ref 92), some (.int p1)], [.int p1, .ref 125], h)) (fun hs => ?_)
    have hob := ho
    refine zg_ial hs zd_226 rfl rfl hob ?_
    refine zg_blk zd_226 2 hs (rfl : zb x zT0 zc_226 2 (25, [some (.ref 92), some (.int p1)], [.int (zr h 125 p1)], h) = some (28, [some (.ref 92), some (.int p1)], [.int ((zr h 125 p1) / 16)], h)) (fun hs => ?_)
    exact K102 hs
  · have ho := hom.2 hc
    rw [show ((if (((zr h 125 p1) / 16) ≤ 100) then (((zr h 125 p1) / 16) : Int32) else 100) : Int32) = 100 from if_neg hc] at K102
    refine zg_blk zd_226 2 hs (rfl : zb x zT0 zc_226 2 (14, [some (.ref 92), some (.int p1)], [], h) = some (28, [some (.ref 92), some (.int p1)], [.int 100], h)) (fun hs => ?_)
    exact K102 hs
set_option maxRecDepth 100000 in
set_option maxHeartbeats 400000 in
theorem f_M_goes_l102_k216_t {x : zm_X} {d : Nat} (v1 : Int32) (v2 : Int32) (v3 : Int32) (h : zm_H) (o4 : Option Value) {Q : Option Value → zm_H → Prop} {FN : Nat × Int32 × zm_H → Prop} (hs : zSh zT0 h) (ho : f_M_goes_l102_k216_ok v1 v2 v3 h) (hF : FN (f_M_goes_l102_k216 v1 v2 v3 h)) (hl0 : ∀ (v3 : Int32) (h : zm_H) (o4 : Option Value), zSh zT0 h → FN (0, v3, h) → zg x (d + 4) 224 102 [some (.ref 92), some (.int v1), some (.int v2), some (.int v3), o4] [] h Q) (hl1 : ∀ (v3 : Int32) (h : zm_H) (o3 : Option Value) (o4 : Option Value), zSh zT0 h → FN (1, v3, h) → zg x (d + 4) 224 222 [some (.ref 92), some (.int v1), some (.int v2), o3, o4] [] h Q) : zg x (d + 4) 224 216 [some (.ref 92), some (.int v1), some (.int v2), some (.int v3), o4] [] h Q := by
  unfold f_M_goes_l102_k216 at hF
  unfold f_M_goes_l102_k216_ok at ho
  refine zg_blk zd_224 2 hs (rfl : zb x zT0 zc_224 2 (216, [some (.ref 92), some (.int v1), some (.int v2), some (.int v3), o4], [], h) = some (102, [some (.ref 92), some (.int v1), some (.int v2), some (.int (v3 + 1)), o4], [], h)) (fun hs => ?_)
  exact hl0 (v3 + 1) h (o4) hs hF
theorem zd_227 : zm_cd 227 = zc_227 := by rfl
theorem zd_228 : zm_cd 228 = zc_228 := by rfl
set_option maxRecDepth 100000 in
set_option maxHeartbeats 400000 in
theorem f_M_weight_t {x : zm_X} {d : Nat} (p1 : Int32) (h : zm_H) {Q : Option Value → zm_H → Prop} (hs : zSh zT0 h) (ho : f_M_weight_ok p1 h) (hF : Q (some (.int (f_M_weight p1 h))) h) : zg x (d + 1) 228 0 [some (.ref 92), some (.int p1)] [] h Q := by
  unfold f_M_weight at hF
  unfold f_M_weight_ok at ho
  refine zg_blk zd_228 2 hs (rfl : zb x zT0 zc_228 2 (0, [some (.ref 92), some (.int p1)], [], h) = some (2, [some (.ref 92), some (.int p1)], [.int 1, .int p1], h)) (fun hs => ?_)
  refine zg_i_ne zd_228 rfl (fun (hc : ¬ (p1 = 1)) => ?_) (fun (hc : (p1 = 1)) => ?_)
  · skip
    rw [show ((if (p1 = 1) then ((if ((zf h 92 81) = 0) then (3 : Int32) else 2) : Int32) else (if ((zf h 92 81) = 0) then (1 : Int32) else (if ((if (p1 = 0) then (1 : Int32) else 0) = (if ((zf h 92 81) = 1) then (1 : Int32) else 0)) then (3 : Int32) else 1))) : Int32) = (if ((zf h 92 81) = 0) then (1 : Int32) else (if ((if (p1 = 0) then (1 : Int32) else 0) = (if ((zf h 92 81) = 1) then (1 : Int32) else 0)) then (3 : Int32) else 1)) from if_neg hc] at hF
    refine zg_blk zd_228 2 hs (rfl : zb x zT0 zc_228 2 (18, [some (.ref 92), some (.int p1)], [], h) = some (22, [some (.ref 92), some (.int p1)], [.int (zf h 92 81)], h)) (fun hs => ?_)
    have K103 : zSh zT0 h → zg x (d + 1) 228 59 [some (.ref 92), some (.int p1)] [.int (if ((zf h 92 81) = 0) then (1 : Int32) else (if ((if (p1 = 0) then (1 : Int32) else 0) = (if ((zf h 92 81) = 1) then (1 : Int32) else 0)) then (3 : Int32) else 1))] h Q := fun hs => by
      exact zg_ret zd_228 rfl rfl hF
    refine zg_f_ne zd_228 rfl (fun (hc : ¬ ((zf h 92 81) = 0)) => ?_) (fun (hc : ((zf h 92 81) = 0)) => ?_)
    · skip
      rw [show ((if ((zf h 92 81) = 0) then (1 : Int32) else (if ((if (p1 = 0) then (1 : Int32) else 0) = (if ((zf h 92 81) = 1) then (1 : Int32) else 0)) then (3 : Int32) else 1)) : Int32) = (if ((if (p1 = 0) then (1 : Int32) else 0) = (if ((zf h 92 81) = 1) then (1 : Int32) else 0)) then (3 : Int32) else 1) from if_neg hc] at K103
      refine zg_blk zd_228 1 hs (rfl : zb x zT0 zc_228 1 (29, [some (.ref 92), some (.int p1)], [], h) = some (30, [some (.ref 92), some (.int p1)], [.int p1], h)) (fun hs => ?_)
      have K104 : zSh zT0 h → zg x (d + 1) 228 38 [some (.ref 92), some (.int p1)] [.int (if (p1 = 0) then (1 : Int32) else 0)] h Q := fun hs => by
        refine zg_blk zd_228 3 hs (rfl : zb x zT0 zc_228 3 (38, [some (.ref 92), some (.int p1)], [.int (if (p1 = 0) then (1 : Int32) else 0)], h) = some (43, [some (.ref 92), some (.int p1)], [.int 1, .int (zf h 92 81), .int (if (p1 = 0) then (1 : Int32) else 0)], h)) (fun hs => ?_)
        have K105 : zSh zT0 h → zg x (d + 1) 228 51 [some (.ref 92), some (.int p1)] [.int (if ((zf h 92 81) = 1) then (1 : Int32) else 0), .int (if (p1 = 0) then (1 : Int32) else 0)] h Q := fun hs => by
          refine zg_i_ne zd_228 rfl (fun (hc : ¬ ((if (p1 = 0) then (1 : Int32) else 0) = (if ((zf h 92 81) = 1) then (1 : Int32) else 0))) => ?_) (fun (hc : ((if (p1 = 0) then (1 : Int32) else 0) = (if ((zf h 92 81) = 1) then (1 : Int32) else 0))) => ?_)
          · skip
            rw [show ((if ((if (p1 = 0) then (1 : Int32) else 0) = (if ((zf h 92 81) = 1) then (1 : Int32) else 0)) then (3 : Int32) else 1) : Int32) = 1 from if_neg hc] at K103
            refine zg_blk zd_228 1 hs (rfl : zb x zT0 zc_228 1 (58, [some (.ref 92), some (.int p1)], [], h) = some (59, [some (.ref 92), some (.int p1)], [.int 1], h)) (fun hs => ?_)
            exact K103 hs
          · skip
            rw [show ((if ((if (p1 = 0) then (1 : Int32) else 0) = (if ((zf h 92 81) = 1) then (1 : Int32) else 0)) then (3 : Int32) else 1) : Int32) = 3 from if_pos hc] at K103
            refine zg_blk zd_228 2 hs (rfl : zb x zT0 zc_228 2 (54, [some (.ref 92), some (.int p1)], [], h) = some (59, [some (.ref 92), some (.int p1)], [.int 3], h)) (fun hs => ?_)
            exact K103 hs
        refine zg_i_ne zd_228 rfl (fun (hc : ¬ ((zf h 92 81) = 1)) => ?_) (fun (hc : ((zf h 92 81) = 1)) => ?_)
        · skip
          rw [show ((if ((zf h 92 81) = 1) then (1 : Int32) else 0) : Int32) = 0 from if_neg hc] at K105
          refine zg_blk zd_228 1 hs (rfl : zb x zT0 zc_228 1 (50, [some (.ref 92), some (.int p1)], [.int (if (p1 = 0) then (1 : Int32) else 0)], h) = some (51, [some (.ref 92), some (.int p1)], [.int 0, .int (if (p1 = 0) then (1 : Int32) else 0)], h)) (fun hs => ?_)
          exact K105 hs
        · skip
          rw [show ((if ((zf h 92 81) = 1) then (1 : Int32) else 0) : Int32) = 1 from if_pos hc] at K105
          refine zg_blk zd_228 2 hs (rfl : zb x zT0 zc_228 2 (46, [some (.ref 92), some (.int p1)], [.int (if (p1 = 0) then (1 : Int32) else 0)], h) = some (51, [some (.ref 92), some (.int p1)], [.int 1, .int (if (p1 = 0) then (1 : Int32) else 0)], h)) (fun hs => ?_)
          exact K105 hs
      refine zg_f_ne zd_228 rfl (fun (hc : ¬ (p1 = 0)) => ?_) (fun (hc : (p1 = 0)) => ?_)
      · skip
        rw [show ((if (p1 = 0) then (1 : Int32) else 0) : Int32) = 0 from if_neg hc] at K104
        refine zg_blk zd_228 1 hs (rfl : zb x zT0 zc_228 1 (37, [some (.ref 92), some (.int p1)], [], h) = some (38, [some (.ref 92), some (.int p1)], [.int 0], h)) (fun hs => ?_)
        exact K104 hs
      · skip
        rw [show ((if (p1 = 0) then (1 : Int32) else 0) : Int32) = 1 from if_pos hc] at K104
        refine zg_blk zd_228 2 hs (rfl : zb x zT0 zc_228 2 (33, [some (.ref 92), some (.int p1)], [], h) = some (38, [some (.ref 92), some (.int p1)], [.int 1], h)) (fun hs => ?_)
        exact K104 hs
    · skip
      rw [show ((if ((zf h 92 81) = 0) then (1 : Int32) else (if ((if (p1 = 0) then (1 : Int32) else 0) = (if ((zf h 92 81) = 1) then (1 : Int32) else 0)) then (3 : Int32) else 1)) : Int32) = 1 from if_pos hc] at K103
      refine zg_blk zd_228 2 hs (rfl : zb x zT0 zc_228 2 (25, [some (.ref 92), some (.int p1)], [], h) = some (59, [some (.ref 92), some (.int p1)], [.int 1], h)) (fun hs => ?_)
      exact K103 hs
  · skip
    rw [show ((if (p1 = 1) then ((if ((zf h 92 81) = 0) then (3 : Int32) else 2) : Int32) else (if ((zf h 92 81) = 0) then (1 : Int32) else (if ((if (p1 = 0) then (1 : Int32) else 0) = (if ((zf h 92 81) = 1) then (1 : Int32) else 0)) then (3 : Int32) else 1))) : Int32) = (if ((zf h 92 81) = 0) then (3 : Int32) else 2) from if_pos hc] at hF
    refine zg_blk zd_228 2 hs (rfl : zb x zT0 zc_228 2 (5, [some (.ref 92), some (.int p1)], [], h) = some (9, [some (.ref 92), some (.int p1)], [.int (zf h 92 81)], h)) (fun hs => ?_)
    have K106 : zSh zT0 h → zg x (d + 1) 228 17 [some (.ref 92), some (.int p1)] [.int (if ((zf h 92 81) = 0) then (3 : Int32) else 2)] h Q := fun hs => by
      exact zg_ret zd_228 rfl rfl hF
    refine zg_f_ne zd_228 rfl (fun (hc : ¬ ((zf h 92 81) = 0)) => ?_) (fun (hc : ((zf h 92 81) = 0)) => ?_)
    · skip
      rw [show ((if ((zf h 92 81) = 0) then (3 : Int32) else 2) : Int32) = 2 from if_neg hc] at K106
      refine zg_blk zd_228 1 hs (rfl : zb x zT0 zc_228 1 (16, [some (.ref 92), some (.int p1)], [], h) = some (17, [some (.ref 92), some (.int p1)], [.int 2], h)) (fun hs => ?_)
      exact K106 hs
    · skip
      rw [show ((if ((zf h 92 81) = 0) then (3 : Int32) else 2) : Int32) = 3 from if_pos hc] at K106
      refine zg_blk zd_228 2 hs (rfl : zb x zT0 zc_228 2 (12, [some (.ref 92), some (.int p1)], [], h) = some (17, [some (.ref 92), some (.int p1)], [.int 3], h)) (fun hs => ?_)
      exact K106 hs
set_option maxRecDepth 100000 in
set_option maxHeartbeats 400000 in
theorem f_M_chains_l21_b_t {x : zm_X} {d : Nat} (v1 : Int32) (v2 : Int32) (v3 : Int32) (v4 : Int32) (v5 : Int32) (v6 : Int32) (h : zm_H) (o7 : Option Value) (o8 : Option Value) (o9 : Option Value) {Q : Option Value → zm_H → Prop} {FN : Nat × Int32 × Int32 → Prop} (hs : zSh zT0 h) (ho : f_M_chains_l21_b_ok v1 v2 v3 v4 v5 v6 h) (hF : FN (f_M_chains_l21_b v1 v2 v3 v4 v5 v6 h)) (hl0 : ∀ (v5 : Int32) (v6 : Int32) (o7 : Option Value) (o8 : Option Value) (o9 : Option Value), zSh zT0 h → FN (0, v5, v6) → zg x (d + 2) 227 21 [some (.ref 92), some (.int v1), some (.int v2), some (.int v3), some (.int v4), some (.int v5), some (.int v6), o7, o8, o9] [] h Q) (hl1 : ∀ (v5 : Int32) (v6 : Int32) (o6 : Option Value) (o7 : Option Value) (o8 : Option Value) (o9 : Option Value), zSh zT0 h → FN (1, v5, v6) → zg x (d + 2) 227 62 [some (.ref 92), some (.int v1), some (.int v2), some (.int v3), some (.int v4), some (.int v5), o6, o7, o8, o9] [] h Q) : zg x (d + 2) 227 21 [some (.ref 92), some (.int v1), some (.int v2), some (.int v3), some (.int v4), some (.int v5), some (.int v6), o7, o8, o9] [] h Q := by
  unfold f_M_chains_l21_b at hF
  unfold f_M_chains_l21_b_ok at ho
  refine zg_blk zd_227 2 hs (rfl : zb x zT0 zc_227 2 (21, [some (.ref 92), some (.int v1), some (.int v2), some (.int v3), some (.int v4), some (.int v5), some (.int v6), o7, o8, o9], [], h) = some (24, [some (.ref 92), some (.int v1), some (.int v2), some (.int v3), some (.int v4), some (.int v5), some (.int v6), o7, o8, o9], [.int 3, .int v6], h)) (fun hs => ?_)
  refine zg_i_ge zd_227 rfl (fun (hc : (3 ≤ v6)) => ?_) (fun (hc : ¬ (3 ≤ v6)) => ?_)
  · have ho := ho.1 hc
    rw [if_pos hc] at hF
    exact hl1 v5 v6 (some (.int v6)) (o7) (o8) (o9) hs hF
  · have ho := ho.2 hc
    rw [if_neg hc] at hF
    refine zg_blk zd_227 5 hs (rfl : zb x zT0 zc_227 5 (27, [some (.ref 92), some (.int v1), some (.int v2), some (.int v3), some (.int v4), some (.int v5), some (.int v6), o7, o8, o9], [], h) = some (34, [some (.ref 92), some (.int v1), some (.int v2), some (.int v3), some (.int v4), some (.int v5), some (.int v6), o7, o8, o9], [.int v6, .int v2, .int v1, .ref 92, .int v5], h)) (fun hs => ?_)
    refine zg_call hs zd_227 rfl rfl rfl rfl (as := [.int v1, .int v2, .int v6]) (rest := [.ref 92, .int v5]) (en := [some (.int v1), some (.int v2), some (.int v6)]) rfl rfl rfl rfl rfl ?_
    refine f_M_chainAt_t v1 v2 v6 h hs trivial ?_
    show zg x (d + 2) 227 37 [some (.ref 92), some (.int v1), some (.int v2), some (.int v3), some (.int v4), some (.int v5), some (.int v6), o7, o8, o9] [.int ((3 * ((10 * v1) + v2)) + v6), .ref 92, .int v5] h Q
    have hob := ho
    refine zg_call hs zd_227 rfl rfl rfl rfl (as := [.ref 92, .int ((3 * ((10 * v1) + v2)) + v6)]) (rest := [.int v5]) (en := [some (.ref 92), some (.int ((3 * ((10 * v1) + v2)) + v6))]) rfl rfl rfl rfl rfl ?_
    refine f_M_chainHolds_t ((3 * ((10 * v1) + v2)) + v6) h hs hob ?_
    show zg x (d + 2) 227 40 [some (.ref 92), some (.int v1), some (.int v2), some (.int v3), some (.int v4), some (.int v5), some (.int v6), o7, o8, o9] [.int (f_M_chainHolds ((3 * ((10 * v1) + v2)) + v6) h), .int v5] h Q
    have K107 : zSh zT0 h → zg x (d + 2) 227 53 [some (.ref 92), some (.int v1), some (.int v2), some (.int v3), some (.int v4), some (.int v5), some (.int v6), o7, o8, o9] [.int (if ((f_M_chainHolds ((3 * ((10 * v1) + v2)) + v6) h) = 0) then (0 : Int32) else (f_M_weight v6 h)), .int v5] h Q := fun hs => by
      refine zg_blk zd_227 4 hs (rfl : zb x zT0 zc_227 4 (53, [some (.ref 92), some (.int v1), some (.int v2), some (.int v3), some (.int v4), some (.int v5), some (.int v6), o7, o8, o9], [.int (if ((f_M_chainHolds ((3 * ((10 * v1) + v2)) + v6) h) = 0) then (0 : Int32) else (f_M_weight v6 h)), .int v5], h) = some (21, [some (.ref 92), some (.int v1), some (.int v2), some (.int v3), some (.int v4), some (.int (v5 + (if ((f_M_chainHolds ((3 * ((10 * v1) + v2)) + v6) h) = 0) then (0 : Int32) else (f_M_weight v6 h)))), some (.int (v6 + 1)), o7, o8, o9], [], h)) (fun hs => ?_)
      exact hl0 (v5 + (if ((f_M_chainHolds ((3 * ((10 * v1) + v2)) + v6) h) = 0) then (0 : Int32) else (f_M_weight v6 h))) (v6 + 1) (o7) (o8) (o9) hs hF
    refine zg_f_eq zd_227 rfl (fun (hc : ((f_M_chainHolds ((3 * ((10 * v1) + v2)) + v6) h) = 0)) => ?_) (fun (hc : ¬ ((f_M_chainHolds ((3 * ((10 * v1) + v2)) + v6) h) = 0)) => ?_)
    · skip
      rw [show ((if ((f_M_chainHolds ((3 * ((10 * v1) + v2)) + v6) h) = 0) then (0 : Int32) else (f_M_weight v6 h)) : Int32) = 0 from if_pos hc] at K107
      refine zg_blk zd_227 1 hs (rfl : zb x zT0 zc_227 1 (52, [some (.ref 92), some (.int v1), some (.int v2), some (.int v3), some (.int v4), some (.int v5), some (.int v6), o7, o8, o9], [.int v5], h) = some (53, [some (.ref 92), some (.int v1), some (.int v2), some (.int v3), some (.int v4), some (.int v5), some (.int v6), o7, o8, o9], [.int 0, .int v5], h)) (fun hs => ?_)
      exact K107 hs
    · skip
      rw [show ((if ((f_M_chainHolds ((3 * ((10 * v1) + v2)) + v6) h) = 0) then (0 : Int32) else (f_M_weight v6 h)) : Int32) = (f_M_weight v6 h) from if_neg hc] at K107
      refine zg_blk zd_227 2 hs (rfl : zb x zT0 zc_227 2 (43, [some (.ref 92), some (.int v1), some (.int v2), some (.int v3), some (.int v4), some (.int v5), some (.int v6), o7, o8, o9], [.int v5], h) = some (46, [some (.ref 92), some (.int v1), some (.int v2), some (.int v3), some (.int v4), some (.int v5), some (.int v6), o7, o8, o9], [.int v6, .ref 92, .int v5], h)) (fun hs => ?_)
      refine zg_call hs zd_227 rfl rfl rfl rfl (as := [.ref 92, .int v6]) (rest := [.int v5]) (en := [some (.ref 92), some (.int v6)]) rfl rfl rfl rfl rfl ?_
      refine f_M_weight_t v6 h hs trivial ?_
      show zg x (d + 2) 227 49 [some (.ref 92), some (.int v1), some (.int v2), some (.int v3), some (.int v4), some (.int v5), some (.int v6), o7, o8, o9] [.int (f_M_weight v6 h), .int v5] h Q
      refine zg_blk zd_227 1 hs (rfl : zb x zT0 zc_227 1 (49, [some (.ref 92), some (.int v1), some (.int v2), some (.int v3), some (.int v4), some (.int v5), some (.int v6), o7, o8, o9], [.int (f_M_weight v6 h), .int v5], h) = some (53, [some (.ref 92), some (.int v1), some (.int v2), some (.int v3), some (.int v4), some (.int v5), some (.int v6), o7, o8, o9], [.int (f_M_weight v6 h), .int v5], h)) (fun hs => ?_)
      exact K107 hs
theorem f_M_chains_l21_t {x : zm_X} {d : Nat} (v1 : Int32) (v2 : Int32) (v3 : Int32) (v4 : Int32) (h : zm_H) {Q : Option Value → zm_H → Prop} (G : Nat × Int32 × Int32 → Prop) (hx1 : ∀ (v5 : Int32) (v6 : Int32) (o6 : Option Value) (o7 : Option Value) (o8 : Option Value) (o9 : Option Value), zSh zT0 h → G (1, v5, v6) → zg x (d + 2) 227 62 [some (.ref 92), some (.int v1), some (.int v2), some (.int v3), some (.int v4), some (.int v5), o6, o7, o8, o9] [] h Q) : ∀ (n : Nat) (v5 : Int32) (v6 : Int32) (o7 : Option Value) (o8 : Option Value) (o9 : Option Value), zSh zT0 h → f_M_chains_l21_ok v1 v2 v3 v4 h n (v5, v6) → G (f_M_chains_l21 v1 v2 v3 v4 h n (v5, v6)) → zg x (d + 2) 227 21 [some (.ref 92), some (.int v1), some (.int v2), some (.int v3), some (.int v4), some (.int v5), some (.int v6), o7, o8, o9] [] h Q := by
  intro n
  induction n with
  | zero => intro v5 v6 o7 o8 o9 hs ho hG; exact ho.elim
  | succ n ih =>
    intro v5 v6 o7 o8 o9 hs ho hG
    refine f_M_chains_l21_b_t (FN := fun r => (r.1 = 0 → f_M_chains_l21_ok v1 v2 v3 v4 h n r.2) ∧ G (if r.1 = 0 then f_M_chains_l21 v1 v2 v3 v4 h n r.2 else r)) v1 v2 v3 v4 v5 v6 h o7 o8 o9 hs ho.1 ⟨ho.2, hG⟩ ?_ ?_
    · intro v5 v6 o7 o8 o9 hs hF
      exact ih v5 v6 o7 o8 o9 hs (hF.1 rfl) hF.2
    · intro v5 v6 o6 o7 o8 o9 hs hF
      exact hx1 v5 v6 o6 o7 o8 o9 hs hF.2

set_option maxRecDepth 100000 in
set_option maxHeartbeats 400000 in
theorem f_M_chains_l68_b_t {x : zm_X} {d : Nat} (v1 : Int32) (v2 : Int32) (v3 : Int32) (v4 : Int32) (v5 : Int32) (v6 : Int32) (v7 : Int32) (h : zm_H) (o8 : Option Value) (o9 : Option Value) {Q : Option Value → zm_H → Prop} {FN : Nat × Int32 × Int32 × zm_H → Prop} (hs : zSh zT0 h) (ho : f_M_chains_l68_b_ok v1 v2 v3 v4 v5 v6 v7 h) (hF : FN (f_M_chains_l68_b v1 v2 v3 v4 v5 v6 v7 h)) (hl0 : ∀ (v6 : Int32) (v7 : Int32) (h : zm_H) (o8 : Option Value) (o9 : Option Value), zSh zT0 h → FN (0, v6, v7, h) → zg x (d + 2) 227 68 [some (.ref 92), some (.int v1), some (.int v2), some (.int v3), some (.int v4), some (.int v5), some (.int v6), some (.int v7), o8, o9] [] h Q) (hl1 : ∀ (v6 : Int32) (v7 : Int32) (h : zm_H) (o7 : Option Value) (o8 : Option Value) (o9 : Option Value), zSh zT0 h → FN (1, v6, v7, h) → zg x (d + 2) 227 178 [some (.ref 92), some (.int v1), some (.int v2), some (.int v3), some (.int v4), some (.int v5), some (.int v6), o7, o8, o9] [] h Q) : zg x (d + 2) 227 68 [some (.ref 92), some (.int v1), some (.int v2), some (.int v3), some (.int v4), some (.int v5), some (.int v6), some (.int v7), o8, o9] [] h Q := by
  unfold f_M_chains_l68_b at hF
  unfold f_M_chains_l68_b_ok at ho
  refine zg_blk zd_227 2 hs (rfl : zb x zT0 zc_227 2 (68, [some (.ref 92), some (.int v1), some (.int v2), some (.int v3), some (.int v4), some (.int v5), some (.int v6), some (.int v7), o8, o9], [], h) = some (71, [some (.ref 92), some (.int v1), some (.int v2), some (.int v3), some (.int v4), some (.int v5), some (.int v6), some (.int v7), o8, o9], [.int 3, .int v7], h)) (fun hs => ?_)
  refine zg_i_ge zd_227 rfl (fun (hc : (3 ≤ v7)) => ?_) (fun (hc : ¬ (3 ≤ v7)) => ?_)
  · have ho := ho.1 hc
    rw [if_pos hc] at hF
    exact hl1 v6 v7 h (some (.int v7)) (o8) (o9) hs hF
  · have ho := ho.2 hc
    rw [if_neg hc] at hF
    refine zg_blk zd_227 3 hs (rfl : zb x zT0 zc_227 3 (74, [some (.ref 92), some (.int v1), some (.int v2), some (.int v3), some (.int v4), some (.int v5), some (.int v6), some (.int v7), o8, o9], [], h) = some (78, [some (.ref 92), some (.int v1), some (.int v2), some (.int v3), some (.int v4), some (.int v5), some (.int v6), some (.int v7), o8, o9], [.int v7, .int v2, .int v1], h)) (fun hs => ?_)
    refine zg_call hs zd_227 rfl rfl rfl rfl (as := [.int v1, .int v2, .int v7]) (rest := []) (en := [some (.int v1), some (.int v2), some (.int v7)]) rfl rfl rfl rfl rfl ?_
    refine f_M_chainAt_t v1 v2 v7 h hs trivial ?_
    show zg x (d + 2) 227 81 [some (.ref 92), some (.int v1), some (.int v2), some (.int v3), some (.int v4), some (.int v5), some (.int v6), some (.int v7), o8, o9] [.int ((3 * ((10 * v1) + v2)) + v7)] h Q
    refine zg_blk zd_227 3 hs (rfl : zb x zT0 zc_227 3 (81, [some (.ref 92), some (.int v1), some (.int v2), some (.int v3), some (.int v4), some (.int v5), some (.int v6), some (.int v7), o8, o9], [.int ((3 * ((10 * v1) + v2)) + v7)], h) = some (86, [some (.ref 92), some (.int v1), some (.int v2), some (.int v3), some (.int v4), some (.int v5), some (.int v6), some (.int v7), some (.int ((3 * ((10 * v1) + v2)) + v7)), o9], [.int ((3 * ((10 * v1) + v2)) + v7), .ref 92], h)) (fun hs => ?_)
    obtain ⟨hob, ho⟩ := ho
    refine zg_call hs zd_227 rfl rfl rfl rfl (as := [.ref 92, .int ((3 * ((10 * v1) + v2)) + v7)]) (rest := []) (en := [some (.ref 92), some (.int ((3 * ((10 * v1) + v2)) + v7))]) rfl rfl rfl rfl rfl ?_
    refine f_M_chainHolds_t ((3 * ((10 * v1) + v2)) + v7) h hs hob ?_
    show zg x (d + 2) 227 89 [some (.ref 92), some (.int v1), some (.int v2), some (.int v3), some (.int v4), some (.int v5), some (.int v6), some (.int v7), some (.int ((3 * ((10 * v1) + v2)) + v7)), o9] [.int (f_M_chainHolds ((3 * ((10 * v1) + v2)) + v7) h)] h Q
    have hom := ho
    have K109 : ∀ (o108 : Option Value) (_ : zSh zT0 (if ((f_M_chainHolds ((3 * ((10 * v1) + v2)) + v7) h) = 0) then h else (if (((v4 * (f_M_weight v7 h)) / v5) ≤ ((zr h 128 ((3 * ((10 * v1) + v2)) + v7)) - ((zr h 129 ((3 * ((10 * v1) + v2)) + v7)) / 100))) then (zs h 129 ((3 * ((10 * v1) + v2)) + v7) ((zr h 129 ((3 * ((10 * v1) + v2)) + v7)) + (if (((v4 * (f_M_weight v7 h)) / v5) ≤ 100) then (0 : Int32) else (((v4 * (f_M_weight v7 h)) / v5) - 100)))) else (zs h 130 ((3 * ((10 * v1) + v2)) + v7) v3)))), zg x (d + 2) 227 172 [some (.ref 92), some (.int v1), some (.int v2), some (.int v3), some (.int v4), some (.int v5), some (.int (if ((f_M_chainHolds ((3 * ((10 * v1) + v2)) + v7) h) = 0) then (v6 : Int32) else (if (((v4 * (f_M_weight v7 h)) / v5) ≤ ((zr h 128 ((3 * ((10 * v1) + v2)) + v7)) - ((zr h 129 ((3 * ((10 * v1) + v2)) + v7)) / 100))) then ((v6 + 1) : Int32) else v6))), some (.int v7), some (.int ((3 * ((10 * v1) + v2)) + v7)), o108] [] (if ((f_M_chainHolds ((3 * ((10 * v1) + v2)) + v7) h) = 0) then h else (if (((v4 * (f_M_weight v7 h)) / v5) ≤ ((zr h 128 ((3 * ((10 * v1) + v2)) + v7)) - ((zr h 129 ((3 * ((10 * v1) + v2)) + v7)) / 100))) then (zs h 129 ((3 * ((10 * v1) + v2)) + v7) ((zr h 129 ((3 * ((10 * v1) + v2)) + v7)) + (if (((v4 * (f_M_weight v7 h)) / v5) ≤ 100) then (0 : Int32) else (((v4 * (f_M_weight v7 h)) / v5) - 100)))) else (zs h 130 ((3 * ((10 * v1) + v2)) + v7) v3))) Q := fun o108 hs => by
      refine zg_blk zd_227 2 hs (rfl : zb x zT0 zc_227 2 (172, [some (.ref 92), some (.int v1), some (.int v2), some (.int v3), some (.int v4), some (.int v5), some (.int (if ((f_M_chainHolds ((3 * ((10 * v1) + v2)) + v7) h) = 0) then (v6 : Int32) else (if (((v4 * (f_M_weight v7 h)) / v5) ≤ ((zr h 128 ((3 * ((10 * v1) + v2)) + v7)) - ((zr h 129 ((3 * ((10 * v1) + v2)) + v7)) / 100))) then ((v6 + 1) : Int32) else v6))), some (.int v7), some (.int ((3 * ((10 * v1) + v2)) + v7)), o108], [], (if ((f_M_chainHolds ((3 * ((10 * v1) + v2)) + v7) h) = 0) then h else (if (((v4 * (f_M_weight v7 h)) / v5) ≤ ((zr h 128 ((3 * ((10 * v1) + v2)) + v7)) - ((zr h 129 ((3 * ((10 * v1) + v2)) + v7)) / 100))) then (zs h 129 ((3 * ((10 * v1) + v2)) + v7) ((zr h 129 ((3 * ((10 * v1) + v2)) + v7)) + (if (((v4 * (f_M_weight v7 h)) / v5) ≤ 100) then (0 : Int32) else (((v4 * (f_M_weight v7 h)) / v5) - 100)))) else (zs h 130 ((3 * ((10 * v1) + v2)) + v7) v3)))) = some (68, [some (.ref 92), some (.int v1), some (.int v2), some (.int v3), some (.int v4), some (.int v5), some (.int (if ((f_M_chainHolds ((3 * ((10 * v1) + v2)) + v7) h) = 0) then (v6 : Int32) else (if (((v4 * (f_M_weight v7 h)) / v5) ≤ ((zr h 128 ((3 * ((10 * v1) + v2)) + v7)) - ((zr h 129 ((3 * ((10 * v1) + v2)) + v7)) / 100))) then ((v6 + 1) : Int32) else v6))), some (.int (v7 + 1)), some (.int ((3 * ((10 * v1) + v2)) + v7)), o108], [], (if ((f_M_chainHolds ((3 * ((10 * v1) + v2)) + v7) h) = 0) then h else (if (((v4 * (f_M_weight v7 h)) / v5) ≤ ((zr h 128 ((3 * ((10 * v1) + v2)) + v7)) - ((zr h 129 ((3 * ((10 * v1) + v2)) + v7)) / 100))) then (zs h 129 ((3 * ((10 * v1) + v2)) + v7) ((zr h 129 ((3 * ((10 * v1) + v2)) + v7)) + (if (((v4 * (f_M_weight v7 h)) / v5) ≤ 100) then (0 : Int32) else (((v4 * (f_M_weight v7 h)) / v5) - 100)))) else (zs h 130 ((3 * ((10 * v1) + v2)) + v7) v3))))) (fun hs => ?_)
      exact hl0 (if ((f_M_chainHolds ((3 * ((10 * v1) + v2)) + v7) h) = 0) then (v6 : Int32) else (if (((v4 * (f_M_weight v7 h)) / v5) ≤ ((zr h 128 ((3 * ((10 * v1) + v2)) + v7)) - ((zr h 129 ((3 * ((10 * v1) + v2)) + v7)) / 100))) then ((v6 + 1) : Int32) else v6)) (v7 + 1) (if ((f_M_chainHolds ((3 * ((10 * v1) + v2)) + v7) h) = 0) then h else (if (((v4 * (f_M_weight v7 h)) / v5) ≤ ((zr h 128 ((3 * ((10 * v1) + v2)) + v7)) - ((zr h 129 ((3 * ((10 * v1) + v2)) + v7)) / 100))) then (zs h 129 ((3 * ((10 * v1) + v2)) + v7) ((zr h 129 ((3 * ((10 * v1) + v2)) + v7)) + (if (((v4 * (f_M_weight v7 h)) / v5) ≤ 100) then (0 : Int32) else (((v4 * (f_M_weight v7 h)) / v5) - 100)))) else (zs h 130 ((3 * ((10 * v1) + v2)) + v7) v3))) (some (.int ((3 * ((10 * v1) + v2)) + v7))) (o108) hs hF
    refine zg_f_ne zd_227 rfl (fun (hc : ¬ ((f_M_chainHolds ((3 * ((10 * v1) + v2)) + v7) h) = 0)) => ?_) (fun (hc : ((f_M_chainHolds ((3 * ((10 * v1) + v2)) + v7) h) = 0)) => ?_)
    · have ho := hom.2 hc
      rw [show ((if ((f_M_chainHolds ((3 * ((10 * v1) + v2)) + v7) h) = 0) then (v6 : Int32) else (if (((v4 * (f_M_weight v7 h)) / v5) ≤ ((zr h 128 ((3 * ((10 * v1) + v2)) + v7)) - ((zr h 129 ((3 * ((10 * v1) + v2)) + v7)) / 100))) then ((v6 + 1) : Int32) else v6)) : Int32) = (if (((v4 * (f_M_weight v7 h)) / v5) ≤ ((zr h 128 ((3 * ((10 * v1) + v2)) + v7)) - ((zr h 129 ((3 * ((10 * v1) + v2)) + v7)) / 100))) then ((v6 + 1) : Int32) else v6) from if_neg hc] at K109
      rw [show (if ((f_M_chainHolds ((3 * ((10 * v1) + v2)) + v7) h) = 0) then h else (if (((v4 * (f_M_weight v7 h)) / v5) ≤ ((zr h 128 ((3 * ((10 * v1) + v2)) + v7)) - ((zr h 129 ((3 * ((10 * v1) + v2)) + v7)) / 100))) then (zs h 129 ((3 * ((10 * v1) + v2)) + v7) ((zr h 129 ((3 * ((10 * v1) + v2)) + v7)) + (if (((v4 * (f_M_weight v7 h)) / v5) ≤ 100) then (0 : Int32) else (((v4 * (f_M_weight v7 h)) / v5) - 100)))) else (zs h 130 ((3 * ((10 * v1) + v2)) + v7) v3))) = (if (((v4 * (f_M_weight v7 h)) / v5) ≤ ((zr h 128 ((3 * ((10 * v1) + v2)) + v7)) - ((zr h 129 ((3 * ((10 * v1) + v2)) + v7)) / 100))) then (zs h 129 ((3 * ((10 * v1) + v2)) + v7) ((zr h 129 ((3 * ((10 * v1) + v2)) + v7)) + (if (((v4 * (f_M_weight v7 h)) / v5) ≤ 100) then (0 : Int32) else (((v4 * (f_M_weight v7 h)) / v5) - 100)))) else (zs h 130 ((3 * ((10 * v1) + v2)) + v7) v3)) from if_neg hc] at K109
      refine zg_blk zd_227 3 hs (rfl : zb x zT0 zc_227 3 (95, [some (.ref 92), some (.int v1), some (.int v2), some (.int v3), some (.int v4), some (.int v5), some (.int v6), some (.int v7), some (.int ((3 * ((10 * v1) + v2)) + v7)), o9], [], h) = some (100, [some (.ref 92), some (.int v1), some (.int v2), some (.int v3), some (.int v4), some (.int v5), some (.int v6), some (.int v7), some (.int ((3 * ((10 * v1) + v2)) + v7)), o9], [.int v7, .ref 92, .int v4], h)) (fun hs => ?_)
      refine zg_call hs zd_227 rfl rfl rfl rfl (as := [.ref 92, .int v7]) (rest := [.int v4]) (en := [some (.ref 92), some (.int v7)]) rfl rfl rfl rfl rfl ?_
      refine f_M_weight_t v7 h hs trivial ?_
      show zg x (d + 2) 227 103 [some (.ref 92), some (.int v1), some (.int v2), some (.int v3), some (.int v4), some (.int v5), some (.int v6), some (.int v7), some (.int ((3 * ((10 * v1) + v2)) + v7)), o9] [.int (f_M_weight v7 h), .int v4] h Q
      refine zg_blk zd_227 2 hs (rfl : zb x zT0 zc_227 2 (103, [some (.ref 92), some (.int v1), some (.int v2), some (.int v3), some (.int v4), some (.int v5), some (.int v6), some (.int v7), some (.int ((3 * ((10 * v1) + v2)) + v7)), o9], [.int (f_M_weight v7 h), .int v4], h) = some (106, [some (.ref 92), some (.int v1), some (.int v2), some (.int v3), some (.int v4), some (.int v5), some (.int v6), some (.int v7), some (.int ((3 * ((10 * v1) + v2)) + v7)), o9], [.int v5, .int (v4 * (f_M_weight v7 h))], h)) (fun hs => ?_)
      obtain ⟨hob, ho⟩ := ho
      refine zg_div zd_227 rfl hob ?_
      refine zg_blk zd_227 5 hs (rfl : zb x zT0 zc_227 5 (107, [some (.ref 92), some (.int v1), some (.int v2), some (.int v3), some (.int v4), some (.int v5), some (.int v6), some (.int v7), some (.int ((3 * ((10 * v1) + v2)) + v7)), o9], [.int ((v4 * (f_M_weight v7 h)) / v5)], h) = some (117, [some (.ref 92), some (.int v1), some (.int v2), some (.int v3), some (.int v4), some (.int v5), some (.int v6), some (.int v7), some (.int ((3 * ((10 * v1) + v2)) + v7)), some (.int ((v4 * (f_M_weight v7 h)) / v5))], [.int ((3 * ((10 * v1) + v2)) + v7), .ref 128, .int ((v4 * (f_M_weight v7 h)) / v5)], h)) (fun hs => ?_)
      obtain ⟨hob, ho⟩ := ho
      refine zg_ial hs zd_227 rfl rfl hob ?_
      refine zg_blk zd_227 3 hs (rfl : zb x zT0 zc_227 3 (118, [some (.ref 92), some (.int v1), some (.int v2), some (.int v3), some (.int v4), some (.int v5), some (.int v6), some (.int v7), some (.int ((3 * ((10 * v1) + v2)) + v7)), some (.int ((v4 * (f_M_weight v7 h)) / v5))], [.int (zr h 128 ((3 * ((10 * v1) + v2)) + v7)), .int ((v4 * (f_M_weight v7 h)) / v5)], h) = some (124, [some (.ref 92), some (.int v1), some (.int v2), some (.int v3), some (.int v4), some (.int v5), some (.int v6), some (.int v7), some (.int ((3 * ((10 * v1) + v2)) + v7)), some (.int ((v4 * (f_M_weight v7 h)) / v5))], [.int ((3 * ((10 * v1) + v2)) + v7), .ref 129, .int (zr h 128 ((3 * ((10 * v1) + v2)) + v7)), .int ((v4 * (f_M_weight v7 h)) / v5)], h)) (fun hs => ?_)
      obtain ⟨hob, ho⟩ := ho
      refine zg_ial hs zd_227 rfl rfl hob ?_
      refine zg_blk zd_227 3 hs (rfl : zb x zT0 zc_227 3 (125, [some (.ref 92), some (.int v1), some (.int v2), some (.int v3), some (.int v4), some (.int v5), some (.int v6), some (.int v7), some (.int ((3 * ((10 * v1) + v2)) + v7)), some (.int ((v4 * (f_M_weight v7 h)) / v5))], [.int (zr h 129 ((3 * ((10 * v1) + v2)) + v7)), .int (zr h 128 ((3 * ((10 * v1) + v2)) + v7)), .int ((v4 * (f_M_weight v7 h)) / v5)], h) = some (129, [some (.ref 92), some (.int v1), some (.int v2), some (.int v3), some (.int v4), some (.int v5), some (.int v6), some (.int v7), some (.int ((3 * ((10 * v1) + v2)) + v7)), some (.int ((v4 * (f_M_weight v7 h)) / v5))], [.int ((zr h 128 ((3 * ((10 * v1) + v2)) + v7)) - ((zr h 129 ((3 * ((10 * v1) + v2)) + v7)) / 100)), .int ((v4 * (f_M_weight v7 h)) / v5)], h)) (fun hs => ?_)
      refine zg_i_le zd_227 rfl (fun (hc : (((v4 * (f_M_weight v7 h)) / v5) ≤ ((zr h 128 ((3 * ((10 * v1) + v2)) + v7)) - ((zr h 129 ((3 * ((10 * v1) + v2)) + v7)) / 100)))) => ?_) (fun (hc : ¬ (((v4 * (f_M_weight v7 h)) / v5) ≤ ((zr h 128 ((3 * ((10 * v1) + v2)) + v7)) - ((zr h 129 ((3 * ((10 * v1) + v2)) + v7)) / 100)))) => ?_)
      · have ho := ho.1 hc
        rw [show ((if (((v4 * (f_M_weight v7 h)) / v5) ≤ ((zr h 128 ((3 * ((10 * v1) + v2)) + v7)) - ((zr h 129 ((3 * ((10 * v1) + v2)) + v7)) / 100))) then ((v6 + 1) : Int32) else v6) : Int32) = (v6 + 1) from if_pos hc] at K109
        rw [show (if (((v4 * (f_M_weight v7 h)) / v5) ≤ ((zr h 128 ((3 * ((10 * v1) + v2)) + v7)) - ((zr h 129 ((3 * ((10 * v1) + v2)) + v7)) / 100))) then (zs h 129 ((3 * ((10 * v1) + v2)) + v7) ((zr h 129 ((3 * ((10 * v1) + v2)) + v7)) + (if (((v4 * (f_M_weight v7 h)) / v5) ≤ 100) then (0 : Int32) else (((v4 * (f_M_weight v7 h)) / v5) - 100)))) else (zs h 130 ((3 * ((10 * v1) + v2)) + v7) v3)) = (zs h 129 ((3 * ((10 * v1) + v2)) + v7) ((zr h 129 ((3 * ((10 * v1) + v2)) + v7)) + (if (((v4 * (f_M_weight v7 h)) / v5) ≤ 100) then (0 : Int32) else (((v4 * (f_M_weight v7 h)) / v5) - 100)))) from if_pos hc] at K109
        refine zg_blk zd_227 4 hs (rfl : zb x zT0 zc_227 4 (143, [some (.ref 92), some (.int v1), some (.int v2), some (.int v3), some (.int v4), some (.int v5), some (.int v6), some (.int v7), some (.int ((3 * ((10 * v1) + v2)) + v7)), some (.int ((v4 * (f_M_weight v7 h)) / v5))], [], h) = some (150, [some (.ref 92), some (.int v1), some (.int v2), some (.int v3), some (.int v4), some (.int v5), some (.int v6), some (.int v7), some (.int ((3 * ((10 * v1) + v2)) + v7)), some (.int ((v4 * (f_M_weight v7 h)) / v5))], [.int ((3 * ((10 * v1) + v2)) + v7), .ref 129, .int ((3 * ((10 * v1) + v2)) + v7), .ref 129], h)) (fun hs => ?_)
        obtain ⟨hob, ho⟩ := ho
        refine zg_ial hs zd_227 rfl rfl hob ?_
        refine zg_blk zd_227 2 hs (rfl : zb x zT0 zc_227 2 (151, [some (.ref 92), some (.int v1), some (.int v2), some (.int v3), some (.int v4), some (.int v5), some (.int v6), some (.int v7), some (.int ((3 * ((10 * v1) + v2)) + v7)), some (.int ((v4 * (f_M_weight v7 h)) / v5))], [.int (zr h 129 ((3 * ((10 * v1) + v2)) + v7)), .int ((3 * ((10 * v1) + v2)) + v7), .ref 129], h) = some (155, [some (.ref 92), some (.int v1), some (.int v2), some (.int v3), some (.int v4), some (.int v5), some (.int v6), some (.int v7), some (.int ((3 * ((10 * v1) + v2)) + v7)), some (.int ((v4 * (f_M_weight v7 h)) / v5))], [.int 100, .int ((v4 * (f_M_weight v7 h)) / v5), .int (zr h 129 ((3 * ((10 * v1) + v2)) + v7)), .int ((3 * ((10 * v1) + v2)) + v7), .ref 129], h)) (fun hs => ?_)
        have K110 : zSh zT0 h → zg x (d + 2) 227 167 [some (.ref 92), some (.int v1), some (.int v2), some (.int v3), some (.int v4), some (.int v5), some (.int v6), some (.int v7), some (.int ((3 * ((10 * v1) + v2)) + v7)), some (.int ((v4 * (f_M_weight v7 h)) / v5))] [.int (if (((v4 * (f_M_weight v7 h)) / v5) ≤ 100) then (0 : Int32) else (((v4 * (f_M_weight v7 h)) / v5) - 100)), .int (zr h 129 ((3 * ((10 * v1) + v2)) + v7)), .int ((3 * ((10 * v1) + v2)) + v7), .ref 129] h Q := fun hs => by
          refine zg_blk zd_227 1 hs (rfl : zb x zT0 zc_227 1 (167, [some (.ref 92), some (.int v1), some (.int v2), some (.int v3), some (.int v4), some (.int v5), some (.int v6), some (.int v7), some (.int ((3 * ((10 * v1) + v2)) + v7)), some (.int ((v4 * (f_M_weight v7 h)) / v5))], [.int (if (((v4 * (f_M_weight v7 h)) / v5) ≤ 100) then (0 : Int32) else (((v4 * (f_M_weight v7 h)) / v5) - 100)), .int (zr h 129 ((3 * ((10 * v1) + v2)) + v7)), .int ((3 * ((10 * v1) + v2)) + v7), .ref 129], h) = some (168, [some (.ref 92), some (.int v1), some (.int v2), some (.int v3), some (.int v4), some (.int v5), some (.int v6), some (.int v7), some (.int ((3 * ((10 * v1) + v2)) + v7)), some (.int ((v4 * (f_M_weight v7 h)) / v5))], [.int ((zr h 129 ((3 * ((10 * v1) + v2)) + v7)) + (if (((v4 * (f_M_weight v7 h)) / v5) ≤ 100) then (0 : Int32) else (((v4 * (f_M_weight v7 h)) / v5) - 100))), .int ((3 * ((10 * v1) + v2)) + v7), .ref 129], h)) (fun hs => ?_)
          have hob := ho
          refine zg_ias hs zd_227 rfl rfl hob (fun hs => ?_)
          refine zg_blk zd_227 1 hs (rfl : zb x zT0 zc_227 1 (169, [some (.ref 92), some (.int v1), some (.int v2), some (.int v3), some (.int v4), some (.int v5), some (.int v6), some (.int v7), some (.int ((3 * ((10 * v1) + v2)) + v7)), some (.int ((v4 * (f_M_weight v7 h)) / v5))], [], (zs h 129 ((3 * ((10 * v1) + v2)) + v7) ((zr h 129 ((3 * ((10 * v1) + v2)) + v7)) + (if (((v4 * (f_M_weight v7 h)) / v5) ≤ 100) then (0 : Int32) else (((v4 * (f_M_weight v7 h)) / v5) - 100))))) = some (172, [some (.ref 92), some (.int v1), some (.int v2), some (.int v3), some (.int v4), some (.int v5), some (.int (v6 + 1)), some (.int v7), some (.int ((3 * ((10 * v1) + v2)) + v7)), some (.int ((v4 * (f_M_weight v7 h)) / v5))], [], (zs h 129 ((3 * ((10 * v1) + v2)) + v7) ((zr h 129 ((3 * ((10 * v1) + v2)) + v7)) + (if (((v4 * (f_M_weight v7 h)) / v5) ≤ 100) then (0 : Int32) else (((v4 * (f_M_weight v7 h)) / v5) - 100)))))) (fun hs => ?_)
          exact K109 (some (.int ((v4 * (f_M_weight v7 h)) / v5))) hs
        refine zg_i_le zd_227 rfl (fun (hc : (((v4 * (f_M_weight v7 h)) / v5) ≤ 100)) => ?_) (fun (hc : ¬ (((v4 * (f_M_weight v7 h)) / v5) ≤ 100)) => ?_)
        · skip
          rw [show ((if (((v4 * (f_M_weight v7 h)) / v5) ≤ 100) then (0 : Int32) else (((v4 * (f_M_weight v7 h)) / v5) - 100)) : Int32) = 0 from if_pos hc] at K110
          refine zg_blk zd_227 1 hs (rfl : zb x zT0 zc_227 1 (166, [some (.ref 92), some (.int v1), some (.int v2), some (.int v3), some (.int v4), some (.int v5), some (.int v6), some (.int v7), some (.int ((3 * ((10 * v1) + v2)) + v7)), some (.int ((v4 * (f_M_weight v7 h)) / v5))], [.int (zr h 129 ((3 * ((10 * v1) + v2)) + v7)), .int ((3 * ((10 * v1) + v2)) + v7), .ref 129], h) = some (167, [some (.ref 92), some (.int v1), some (.int v2), some (.int v3), some (.int v4), some (.int v5), some (.int v6), some (.int v7), some (.int ((3 * ((10 * v1) + v2)) + v7)), some (.int ((v4 * (f_M_weight v7 h)) / v5))], [.int 0, .int (zr h 129 ((3 * ((10 * v1) + v2)) + v7)), .int ((3 * ((10 * v1) + v2)) + v7), .ref 129], h)) (fun hs => ?_)
          exact K110 hs
        · skip
          rw [show ((if (((v4 * (f_M_weight v7 h)) / v5) ≤ 100) then (0 : Int32) else (((v4 * (f_M_weight v7 h)) / v5) - 100)) : Int32) = (((v4 * (f_M_weight v7 h)) / v5) - 100) from if_neg hc] at K110
          refine zg_blk zd_227 4 hs (rfl : zb x zT0 zc_227 4 (158, [some (.ref 92), some (.int v1), some (.int v2), some (.int v3), some (.int v4), some (.int v5), some (.int v6), some (.int v7), some (.int ((3 * ((10 * v1) + v2)) + v7)), some (.int ((v4 * (f_M_weight v7 h)) / v5))], [.int (zr h 129 ((3 * ((10 * v1) + v2)) + v7)), .int ((3 * ((10 * v1) + v2)) + v7), .ref 129], h) = some (167, [some (.ref 92), some (.int v1), some (.int v2), some (.int v3), some (.int v4), some (.int v5), some (.int v6), some (.int v7), some (.int ((3 * ((10 * v1) + v2)) + v7)), some (.int ((v4 * (f_M_weight v7 h)) / v5))], [.int (((v4 * (f_M_weight v7 h)) / v5) - 100), .int (zr h 129 ((3 * ((10 * v1) + v2)) + v7)), .int ((3 * ((10 * v1) + v2)) + v7), .ref 129], h)) (fun hs => ?_)
          exact K110 hs
      · have ho := ho.2 hc
        rw [show ((if (((v4 * (f_M_weight v7 h)) / v5) ≤ ((zr h 128 ((3 * ((10 * v1) + v2)) + v7)) - ((zr h 129 ((3 * ((10 * v1) + v2)) + v7)) / 100))) then ((v6 + 1) : Int32) else v6) : Int32) = v6 from if_neg hc] at K109
        rw [show (if (((v4 * (f_M_weight v7 h)) / v5) ≤ ((zr h 128 ((3 * ((10 * v1) + v2)) + v7)) - ((zr h 129 ((3 * ((10 * v1) + v2)) + v7)) / 100))) then (zs h 129 ((3 * ((10 * v1) + v2)) + v7) ((zr h 129 ((3 * ((10 * v1) + v2)) + v7)) + (if (((v4 * (f_M_weight v7 h)) / v5) ≤ 100) then (0 : Int32) else (((v4 * (f_M_weight v7 h)) / v5) - 100)))) else (zs h 130 ((3 * ((10 * v1) + v2)) + v7) v3)) = (zs h 130 ((3 * ((10 * v1) + v2)) + v7) v3) from if_neg hc] at K109
        refine zg_blk zd_227 4 hs (rfl : zb x zT0 zc_227 4 (132, [some (.ref 92), some (.int v1), some (.int v2), some (.int v3), some (.int v4), some (.int v5), some (.int v6), some (.int v7), some (.int ((3 * ((10 * v1) + v2)) + v7)), some (.int ((v4 * (f_M_weight v7 h)) / v5))], [], h) = some (139, [some (.ref 92), some (.int v1), some (.int v2), some (.int v3), some (.int v4), some (.int v5), some (.int v6), some (.int v7), some (.int ((3 * ((10 * v1) + v2)) + v7)), some (.int ((v4 * (f_M_weight v7 h)) / v5))], [.int v3, .int ((3 * ((10 * v1) + v2)) + v7), .ref 130], h)) (fun hs => ?_)
        have hob := ho
        refine zg_ias hs zd_227 rfl rfl hob (fun hs => ?_)
        refine zg_blk zd_227 1 hs (rfl : zb x zT0 zc_227 1 (140, [some (.ref 92), some (.int v1), some (.int v2), some (.int v3), some (.int v4), some (.int v5), some (.int v6), some (.int v7), some (.int ((3 * ((10 * v1) + v2)) + v7)), some (.int ((v4 * (f_M_weight v7 h)) / v5))], [], (zs h 130 ((3 * ((10 * v1) + v2)) + v7) v3)) = some (172, [some (.ref 92), some (.int v1), some (.int v2), some (.int v3), some (.int v4), some (.int v5), some (.int v6), some (.int v7), some (.int ((3 * ((10 * v1) + v2)) + v7)), some (.int ((v4 * (f_M_weight v7 h)) / v5))], [], (zs h 130 ((3 * ((10 * v1) + v2)) + v7) v3))) (fun hs => ?_)
        exact K109 (some (.int ((v4 * (f_M_weight v7 h)) / v5))) hs
    · have ho := hom.1 hc
      rw [show ((if ((f_M_chainHolds ((3 * ((10 * v1) + v2)) + v7) h) = 0) then (v6 : Int32) else (if (((v4 * (f_M_weight v7 h)) / v5) ≤ ((zr h 128 ((3 * ((10 * v1) + v2)) + v7)) - ((zr h 129 ((3 * ((10 * v1) + v2)) + v7)) / 100))) then ((v6 + 1) : Int32) else v6)) : Int32) = v6 from if_pos hc] at K109
      rw [show (if ((f_M_chainHolds ((3 * ((10 * v1) + v2)) + v7) h) = 0) then h else (if (((v4 * (f_M_weight v7 h)) / v5) ≤ ((zr h 128 ((3 * ((10 * v1) + v2)) + v7)) - ((zr h 129 ((3 * ((10 * v1) + v2)) + v7)) / 100))) then (zs h 129 ((3 * ((10 * v1) + v2)) + v7) ((zr h 129 ((3 * ((10 * v1) + v2)) + v7)) + (if (((v4 * (f_M_weight v7 h)) / v5) ≤ 100) then (0 : Int32) else (((v4 * (f_M_weight v7 h)) / v5) - 100)))) else (zs h 130 ((3 * ((10 * v1) + v2)) + v7) v3))) = h from if_pos hc] at K109
      refine zg_blk zd_227 1 hs (rfl : zb x zT0 zc_227 1 (92, [some (.ref 92), some (.int v1), some (.int v2), some (.int v3), some (.int v4), some (.int v5), some (.int v6), some (.int v7), some (.int ((3 * ((10 * v1) + v2)) + v7)), o9], [], h) = some (172, [some (.ref 92), some (.int v1), some (.int v2), some (.int v3), some (.int v4), some (.int v5), some (.int v6), some (.int v7), some (.int ((3 * ((10 * v1) + v2)) + v7)), o9], [], h)) (fun hs => ?_)
      exact K109 (o9) hs
