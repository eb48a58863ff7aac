/-! ===== the code does what its functions say, 1 ===== -/
set_option maxRecDepth 100000 in
set_option maxHeartbeats 400000 in
theorem f_Text_readFactor_k75_t {x : zm_X} {d : Nat} {R : Nat → Int32 → zm_H → zm_H} {O : Nat → Int32 → zm_H → Prop} (hR : ∀ (m : Nat) (p : Int32) (h : zm_H) (Q : Option Value → zm_H → Prop), zSh zT0 h → O m p h → (zSh zT0 (R m p h) → Q none (R m p h)) → zg x (d + 20) m 0 (zm_en m [.ref 10, .int p]) [] h Q) (h : zm_H) (o1 : Option Value) {Q : Option Value → zm_H → Prop} (hs : zSh zT0 h) (ho : f_Text_readFactor_k75_ok R O h) (hF : (zSh zT0 (f_Text_readFactor_k75 R h) → Q none (f_Text_readFactor_k75 R h))) : zg x (d + 21) 103 75 [some (.ref 10), o1] [] h Q := by
  unfold f_Text_readFactor_k75 at hF
  unfold f_Text_readFactor_k75_ok at ho
  refine zg_blk zd_103 1 hs (rfl : zb x zT0 zc_103 1 (75, [some (.ref 10), o1], [], h) = some (76, [some (.ref 10), o1], [.ref 10], h)) (fun hs => ?_)
  have hob := ho
  refine zg_call hs zd_103 rfl rfl rfl rfl (as := [.ref 10]) (rest := []) (en := [some (.ref 10)]) rfl rfl rfl rfl rfl ?_
  refine f_Text_step_t  h hs hob (fun hs => ?_)
  show zg x (d + 21) 103 79 [some (.ref 10), o1] [] (f_Text_step h) Q
  refine zg_blk zd_103 1 hs (rfl : zb x zT0 zc_103 1 (79, [some (.ref 10), o1], [], (f_Text_step h)) = some (121, [some (.ref 10), o1], [], (f_Text_step h))) (fun hs => ?_)
  exact zg_ret zd_103 rfl rfl (hF hs)
set_option maxRecDepth 100000 in
set_option maxHeartbeats 400000 in
theorem f_Text_readFactor_k44_t {x : zm_X} {d : Nat} {R : Nat → Int32 → zm_H → zm_H} {O : Nat → Int32 → zm_H → Prop} (hR : ∀ (m : Nat) (p : Int32) (h : zm_H) (Q : Option Value → zm_H → Prop), zSh zT0 h → O m p h → (zSh zT0 (R m p h) → Q none (R m p h)) → zg x (d + 20) m 0 (zm_en m [.ref 10, .int p]) [] h Q) (v1 : Int32) (h : zm_H) {Q : Option Value → zm_H → Prop} (hs : zSh zT0 h) (ho : f_Text_readFactor_k44_ok R O v1 h) (hF : (zSh zT0 (f_Text_readFactor_k44 R v1 h) → Q none (f_Text_readFactor_k44 R v1 h))) : zg x (d + 21) 103 44 [some (.ref 10), some (.int v1)] [] h Q := by
  unfold f_Text_readFactor_k44 at hF
  unfold f_Text_readFactor_k44_ok at ho
  refine zg_blk zd_103 3 hs (rfl : zb x zT0 zc_103 3 (44, [some (.ref 10), some (.int v1)], [], h) = some (51, [some (.ref 10), some (.int v1)], [.int 304, .int (zf h 10 8)], h)) (fun hs => ?_)
  refine zg_i_lt zd_103 rfl (fun (hc : ((zf h 10 8) < 304)) => ?_) (fun (hc : ¬ ((zf h 10 8) < 304)) => ?_)
  · have ho := ho.1 hc
    rw [if_pos hc] at hF
    exact f_Text_readFactor_k82_t hR v1 h hs ho hF
  · have ho := ho.2 hc
    rw [if_neg hc] at hF
    refine zg_blk zd_103 3 hs (rfl : zb x zT0 zc_103 3 (54, [some (.ref 10), some (.int v1)], [], h) = some (61, [some (.ref 10), some (.int v1)], [.int 312, .int (zf h 10 8)], h)) (fun hs => ?_)
    refine zg_i_gt zd_103 rfl (fun (hc : (312 < (zf h 10 8))) => ?_) (fun (hc : ¬ (312 < (zf h 10 8))) => ?_)
    · have ho := ho.1 hc
      rw [if_pos hc] at hF
      exact f_Text_readFactor_k82_t hR v1 h hs ho hF
    · have ho := ho.2 hc
      rw [if_neg hc] at hF
      refine zg_blk zd_103 5 hs (rfl : zb x zT0 zc_103 5 (64, [some (.ref 10), some (.int v1)], [], h) = some (72, [some (.ref 10), some (.int v1)], [.int (100000 + (zf h 10 8)), .ref 10], h)) (fun hs => ?_)
      obtain ⟨hob, ho⟩ := ho
      refine zg_call hs zd_103 rfl rfl rfl rfl (as := [.ref 10, .int (100000 + (zf h 10 8))]) (rest := []) (en := [some (.ref 10), some (.int (100000 + (zf h 10 8)))]) rfl rfl rfl rfl rfl ?_
      refine f_Text_emit_t (100000 + (zf h 10 8)) h hs hob (fun hs => ?_)
      show zg x (d + 21) 103 75 [some (.ref 10), some (.int v1)] [] (f_Text_emit (100000 + (zf h 10 8)) h) Q
      exact f_Text_readFactor_k75_t hR (f_Text_emit (100000 + (zf h 10 8)) h) (some (.int v1)) hs ho hF
set_option maxRecDepth 100000 in
set_option maxHeartbeats 400000 in
theorem f_Text_readFactor_k37_t {x : zm_X} {d : Nat} {R : Nat → Int32 → zm_H → zm_H} {O : Nat → Int32 → zm_H → Prop} (hR : ∀ (m : Nat) (p : Int32) (h : zm_H) (Q : Option Value → zm_H → Prop), zSh zT0 h → O m p h → (zSh zT0 (R m p h) → Q none (R m p h)) → zg x (d + 20) m 0 (zm_en m [.ref 10, .int p]) [] h Q) (h : zm_H) (o1 : Option Value) {Q : Option Value → zm_H → Prop} (hs : zSh zT0 h) (ho : f_Text_readFactor_k37_ok R O h) (hF : (zSh zT0 (f_Text_readFactor_k37 R h) → Q none (f_Text_readFactor_k37 R h))) : zg x (d + 21) 103 37 [some (.ref 10), o1] [] h Q := by
  unfold f_Text_readFactor_k37 at hF
  unfold f_Text_readFactor_k37_ok at ho
  refine zg_blk zd_103 1 hs (rfl : zb x zT0 zc_103 1 (37, [some (.ref 10), o1], [], h) = some (38, [some (.ref 10), o1], [.ref 10], h)) (fun hs => ?_)
  have hob := ho
  refine zg_call hs zd_103 rfl rfl rfl rfl (as := [.ref 10]) (rest := []) (en := [some (.ref 10)]) rfl rfl rfl rfl rfl ?_
  refine f_Text_step_t  h hs hob (fun hs => ?_)
  show zg x (d + 21) 103 41 [some (.ref 10), o1] [] (f_Text_step h) Q
  refine zg_blk zd_103 1 hs (rfl : zb x zT0 zc_103 1 (41, [some (.ref 10), o1], [], (f_Text_step h)) = some (121, [some (.ref 10), o1], [], (f_Text_step h))) (fun hs => ?_)
  exact zg_ret zd_103 rfl rfl (hF hs)
set_option maxRecDepth 100000 in
set_option maxHeartbeats 400000 in
theorem f_Text_readFactor_t {x : zm_X} {d : Nat} {R : Nat → Int32 → zm_H → zm_H} {O : Nat → Int32 → zm_H → Prop} (hR : ∀ (m : Nat) (p : Int32) (h : zm_H) (Q : Option Value → zm_H → Prop), zSh zT0 h → O m p h → (zSh zT0 (R m p h) → Q none (R m p h)) → zg x (d + 20) m 0 (zm_en m [.ref 10, .int p]) [] h Q) (p1 : Int32) (h : zm_H) {Q : Option Value → zm_H → Prop} (hs : zSh zT0 h) (ho : f_Text_readFactor_ok R O p1 h) (hF : (zSh zT0 (f_Text_readFactor R p1 h) → Q none (f_Text_readFactor R p1 h))) : zg x (d + 21) 103 0 [some (.ref 10), some (.int p1)] [] h Q := by
  unfold f_Text_readFactor at hF
  unfold f_Text_readFactor_ok at ho
  refine zg_blk zd_103 3 hs (rfl : zb x zT0 zc_103 3 (0, [some (.ref 10), some (.int p1)], [], h) = some (7, [some (.ref 10), some (.int p1)], [.int 256, .int (zf h 10 8)], h)) (fun hs => ?_)
  refine zg_i_ne zd_103 rfl (fun (hc : ¬ ((zf h 10 8) = 256)) => ?_) (fun (hc : ((zf h 10 8) = 256)) => ?_)
  · have ho := ho.2 hc
    rw [if_neg hc] at hF
    exact f_Text_readFactor_k44_t hR p1 h hs ho hF
  · have ho := ho.1 hc
    rw [if_pos hc] at hF
    refine zg_blk zd_103 4 hs (rfl : zb x zT0 zc_103 4 (10, [some (.ref 10), some (.int p1)], [], h) = some (18, [some (.ref 10), some (.int p1)], [.int (zf h 10 7), .ref 164], h)) (fun hs => ?_)
    obtain ⟨hob, ho⟩ := ho
    refine zg_ial hs zd_103 rfl rfl hob ?_
    refine zg_blk zd_103 1 hs (rfl : zb x zT0 zc_103 1 (19, [some (.ref 10), some (.int p1)], [.int (zr h 164 (zf h 10 7))], h) = some (21, [some (.ref 10), some (.int p1)], [.int 99999, .int (zr h 164 (zf h 10 7))], h)) (fun hs => ?_)
    refine zg_i_gt zd_103 rfl (fun (hc : (99999 < (zr h 164 (zf h 10 7)))) => ?_) (fun (hc : ¬ (99999 < (zr h 164 (zf h 10 7)))) => ?_)
    · have ho := ho.1 hc
      rw [if_pos hc] at hF
      exact f_Text_readFactor_k44_t hR p1 h hs ho hF
    · have ho := ho.2 hc
      rw [if_neg hc] at hF
      refine zg_blk zd_103 5 hs (rfl : zb x zT0 zc_103 5 (24, [some (.ref 10), some (.int p1)], [], h) = some (33, [some (.ref 10), some (.int p1)], [.int (zf h 10 7), .ref 164, .ref 10], h)) (fun hs => ?_)
      obtain ⟨hob, ho⟩ := ho
      refine zg_ial hs zd_103 rfl rfl hob ?_
      obtain ⟨hob, ho⟩ := ho
      refine zg_call hs zd_103 rfl rfl rfl rfl (as := [.ref 10, .int (zr h 164 (zf h 10 7))]) (rest := []) (en := [some (.ref 10), some (.int (zr h 164 (zf h 10 7)))]) rfl rfl rfl rfl rfl ?_
      refine f_Text_emit_t (zr h 164 (zf h 10 7)) h hs hob (fun hs => ?_)
      show zg x (d + 21) 103 37 [some (.ref 10), some (.int p1)] [] (f_Text_emit (zr h 164 (zf h 10 7)) h) Q
      exact f_Text_readFactor_k37_t hR (f_Text_emit (zr h 164 (zf h 10 7)) h) (some (.int p1)) hs ho hF
theorem zd_106 : zm_cd 106 = zc_106 := by rfl
set_option maxRecDepth 100000 in
set_option maxHeartbeats 400000 in
theorem f_Text_readEither_l7_k39_t {x : zm_X} {d : Nat} {R : Nat → Int32 → zm_H → zm_H} {O : Nat → Int32 → zm_H → Prop} (hR : ∀ (m : Nat) (p : Int32) (h : zm_H) (Q : Option Value → zm_H → Prop), zSh zT0 h → O m p h → (zSh zT0 (R m p h) → Q none (R m p h)) → zg x (d + 20) m 0 (zm_en m [.ref 10, .int p]) [] h Q) (v1 : Int32) (v2 : Int32) (h : zm_H) {Q : Option Value → zm_H → Prop} {FN : Nat × Int32 × zm_H → Prop} (hs : zSh zT0 h) (ho : f_Text_readEither_l7_k39_ok R O v1 v2 h) (hF : FN (f_Text_readEither_l7_k39 R v1 v2 h)) (hl0 : ∀ (v2 : Int32) (h : zm_H), zSh zT0 h → FN (0, v2, h) → zg x (d + 21) 106 7 [some (.ref 10), some (.int v1), some (.int v2)] [] h Q) (hl1 : ∀ (v2 : Int32) (h : zm_H) (o2 : Option Value), zSh zT0 h → FN (1, v2, h) → zg x (d + 21) 106 45 [some (.ref 10), some (.int v1), o2] [] h Q) : zg x (d + 21) 106 39 [some (.ref 10), some (.int v1), some (.int v2)] [] h Q := by
  unfold f_Text_readEither_l7_k39 at hF
  unfold f_Text_readEither_l7_k39_ok at ho
  refine zg_blk zd_106 2 hs (rfl : zb x zT0 zc_106 2 (39, [some (.ref 10), some (.int v1), some (.int v2)], [], h) = some (7, [some (.ref 10), some (.int v1), some (.int (v2 + 1))], [], h)) (fun hs => ?_)
  exact hl0 (v2 + 1) h hs hF
set_option maxRecDepth 100000 in
set_option maxHeartbeats 400000 in
theorem f_Text_readEither_l7_k33_t {x : zm_X} {d : Nat} {R : Nat → Int32 → zm_H → zm_H} {O : Nat → Int32 → zm_H → Prop} (hR : ∀ (m : Nat) (p : Int32) (h : zm_H) (Q : Option Value → zm_H → Prop), zSh zT0 h → O m p h → (zSh zT0 (R m p h) → Q none (R m p h)) → zg x (d + 20) m 0 (zm_en m [.ref 10, .int p]) [] h Q) (v1 : Int32) (v2 : Int32) (h : zm_H) {Q : Option Value → zm_H → Prop} {FN : Nat × Int32 × zm_H → Prop} (hs : zSh zT0 h) (ho : f_Text_readEither_l7_k33_ok R O v1 v2 h) (hF : FN (f_Text_readEither_l7_k33 R v1 v2 h)) (hl0 : ∀ (v2 : Int32) (h : zm_H), zSh zT0 h → FN (0, v2, h) → zg x (d + 21) 106 7 [some (.ref 10), some (.int v1), some (.int v2)] [] h Q) (hl1 : ∀ (v2 : Int32) (h : zm_H) (o2 : Option Value), zSh zT0 h → FN (1, v2, h) → zg x (d + 21) 106 45 [some (.ref 10), some (.int v1), o2] [] h Q) : zg x (d + 21) 106 33 [some (.ref 10), some (.int v1), some (.int v2)] [] h Q := by
  unfold f_Text_readEither_l7_k33 at hF
  unfold f_Text_readEither_l7_k33_ok at ho
  refine zg_blk zd_106 2 hs (rfl : zb x zT0 zc_106 2 (33, [some (.ref 10), some (.int v1), some (.int v2)], [], h) = some (36, [some (.ref 10), some (.int v1), some (.int v2)], [.int 100313, .ref 10], h)) (fun hs => ?_)
  have hob := ho
  refine zg_call hs zd_106 rfl rfl rfl rfl (as := [.ref 10, .int 100313]) (rest := []) (en := [some (.ref 10), some (.int 100313)]) rfl rfl rfl rfl rfl ?_
  refine f_Text_emit_t 100313 h hs hob (fun hs => ?_)
  show zg x (d + 21) 106 39 [some (.ref 10), some (.int v1), some (.int v2)] [] (f_Text_emit 100313 h) Q
  exact f_Text_readEither_l7_k39_t hR v1 v2 (f_Text_emit 100313 h) hs trivial hF hl0 hl1
set_option maxRecDepth 100000 in
set_option maxHeartbeats 400000 in
theorem f_Text_readEither_l7_k28_t {x : zm_X} {d : Nat} {R : Nat → Int32 → zm_H → zm_H} {O : Nat → Int32 → zm_H → Prop} (hR : ∀ (m : Nat) (p : Int32) (h : zm_H) (Q : Option Value → zm_H → Prop), zSh zT0 h → O m p h → (zSh zT0 (R m p h) → Q none (R m p h)) → zg x (d + 20) m 0 (zm_en m [.ref 10, .int p]) [] h Q) (v1 : Int32) (v2 : Int32) (h : zm_H) {Q : Option Value → zm_H → Prop} {FN : Nat × Int32 × zm_H → Prop} (hs : zSh zT0 h) (ho : f_Text_readEither_l7_k28_ok R O v1 v2 h) (hF : FN (f_Text_readEither_l7_k28 R v1 v2 h)) (hl0 : ∀ (v2 : Int32) (h : zm_H), zSh zT0 h → FN (0, v2, h) → zg x (d + 21) 106 7 [some (.ref 10), some (.int v1), some (.int v2)] [] h Q) (hl1 : ∀ (v2 : Int32) (h : zm_H) (o2 : Option Value), zSh zT0 h → FN (1, v2, h) → zg x (d + 21) 106 45 [some (.ref 10), some (.int v1), o2] [] h Q) : zg x (d + 21) 106 28 [some (.ref 10), some (.int v1), some (.int v2)] [] h Q := by
  unfold f_Text_readEither_l7_k28 at hF
  unfold f_Text_readEither_l7_k28_ok at ho
  refine zg_blk zd_106 2 hs (rfl : zb x zT0 zc_106 2 (28, [some (.ref 10), some (.int v1), some (.int v2)], [], h) = some (30, [some (.ref 10), some (.int v1), some (.int v2)], [.int v1, .ref 10], h)) (fun hs => ?_)
  obtain ⟨hob, ho⟩ := ho
  refine zg_call hs zd_106 rfl rfl rfl rfl (as := [.ref 10, .int v1]) (rest := []) (en := [some (.ref 10), some (.int v1), none]) rfl rfl rfl rfl rfl ?_
  refine hR 107 v1 h _ hs hob (fun hs => ?_)
  show zg x (d + 21) 106 33 [some (.ref 10), some (.int v1), some (.int v2)] [] (R 107 v1 h) Q
  exact f_Text_readEither_l7_k33_t hR v1 v2 (R 107 v1 h) hs ho hF hl0 hl1
set_option maxRecDepth 100000 in
set_option maxHeartbeats 400000 in
theorem f_Text_readEither_l7_b_t {x : zm_X} {d : Nat} {R : Nat → Int32 → zm_H → zm_H} {O : Nat → Int32 → zm_H → Prop} (hR : ∀ (m : Nat) (p : Int32) (h : zm_H) (Q : Option Value → zm_H → Prop), zSh zT0 h → O m p h → (zSh zT0 (R m p h) → Q none (R m p h)) → zg x (d + 20) m 0 (zm_en m [.ref 10, .int p]) [] h Q) (v1 : Int32) (v2 : Int32) (h : zm_H) {Q : Option Value → zm_H → Prop} {FN : Nat × Int32 × zm_H → Prop} (hs : zSh zT0 h) (ho : f_Text_readEither_l7_b_ok R O v1 v2 h) (hF : FN (f_Text_readEither_l7_b R v1 v2 h)) (hl0 : ∀ (v2 : Int32) (h : zm_H), zSh zT0 h → FN (0, v2, h) → zg x (d + 21) 106 7 [some (.ref 10), some (.int v1), some (.int v2)] [] h Q) (hl1 : ∀ (v2 : Int32) (h : zm_H) (o2 : Option Value), zSh zT0 h → FN (1, v2, h) → zg x (d + 21) 106 45 [some (.ref 10), some (.int v1), o2] [] h Q) : zg x (d + 21) 106 7 [some (.ref 10), some (.int v1), some (.int v2)] [] h Q := by
  unfold f_Text_readEither_l7_b at hF
  unfold f_Text_readEither_l7_b_ok at ho
  refine zg_blk zd_106 2 hs (rfl : zb x zT0 zc_106 2 (7, [some (.ref 10), some (.int v1), some (.int v2)], [], h) = some (11, [some (.ref 10), some (.int v1), some (.int v2)], [.int 400, .int v2], h)) (fun hs => ?_)
  refine zg_i_ge zd_106 rfl (fun (hc : (400 ≤ v2)) => ?_) (fun (hc : ¬ (400 ≤ v2)) => ?_)
  · have ho := ho.1 hc
    rw [if_pos hc] at hF
    exact hl1 v2 h (some (.int v2)) hs hF
  · have ho := ho.2 hc
    rw [if_neg hc] at hF
    refine zg_blk zd_106 3 hs (rfl : zb x zT0 zc_106 3 (14, [some (.ref 10), some (.int v1), some (.int v2)], [], h) = some (21, [some (.ref 10), some (.int v1), some (.int v2)], [.int 313, .int (zf h 10 8)], h)) (fun hs => ?_)
    refine zg_i_ne zd_106 rfl (fun (hc : ¬ ((zf h 10 8) = 313)) => ?_) (fun (hc : ((zf h 10 8) = 313)) => ?_)
    · have ho := ho.2 hc
      rw [if_neg hc] at hF
      exact hl1 v2 h (some (.int v2)) hs hF
    · have ho := ho.1 hc
      rw [if_pos hc] at hF
      refine zg_blk zd_106 1 hs (rfl : zb x zT0 zc_106 1 (24, [some (.ref 10), some (.int v1), some (.int v2)], [], h) = some (25, [some (.ref 10), some (.int v1), some (.int v2)], [.ref 10], h)) (fun hs => ?_)
      obtain ⟨hob, ho⟩ := ho
      refine zg_call hs zd_106 rfl rfl rfl rfl (as := [.ref 10]) (rest := []) (en := [some (.ref 10)]) rfl rfl rfl rfl rfl ?_
      refine f_Text_step_t  h hs hob (fun hs => ?_)
      show zg x (d + 21) 106 28 [some (.ref 10), some (.int v1), some (.int v2)] [] (f_Text_step h) Q
      exact f_Text_readEither_l7_k28_t hR v1 v2 (f_Text_step h) hs ho hF hl0 hl1
theorem f_Text_readEither_l7_t {x : zm_X} {d : Nat} {R : Nat → Int32 → zm_H → zm_H} {O : Nat → Int32 → zm_H → Prop} (hR : ∀ (m : Nat) (p : Int32) (h : zm_H) (Q : Option Value → zm_H → Prop), zSh zT0 h → O m p h → (zSh zT0 (R m p h) → Q none (R m p h)) → zg x (d + 20) m 0 (zm_en m [.ref 10, .int p]) [] h Q) (v1 : Int32) {Q : Option Value → zm_H → Prop} (G : Nat × Int32 × zm_H → Prop) (hx1 : ∀ (v2 : Int32) (h : zm_H) (o2 : Option Value), zSh zT0 h → G (1, v2, h) → zg x (d + 21) 106 45 [some (.ref 10), some (.int v1), o2] [] h Q) : ∀ (n : Nat) (v2 : Int32) (h : zm_H), zSh zT0 h → f_Text_readEither_l7_ok R O v1 n (v2, h) → G (f_Text_readEither_l7 R v1 n (v2, h)) → zg x (d + 21) 106 7 [some (.ref 10), some (.int v1), some (.int v2)] [] h Q := by
  intro n
  induction n with
  | zero => intro v2 h hs ho hG; exact ho.elim
  | succ n ih =>
    intro v2 h hs ho hG
    refine f_Text_readEither_l7_b_t hR (FN := fun r => (r.1 = 0 → f_Text_readEither_l7_ok R O v1 n r.2) ∧ G (if r.1 = 0 then f_Text_readEither_l7 R v1 n r.2 else r)) v1 v2 h hs ho.1 ⟨ho.2, hG⟩ ?_ ?_
    · intro v2 h hs hF
      exact ih v2 h hs (hF.1 rfl) hF.2
    · intro v2 h o2 hs hF
      exact hx1 v2 h o2 hs hF.2

set_option maxRecDepth 100000 in
set_option maxHeartbeats 400000 in
theorem f_Text_readEither_k45_t {x : zm_X} {d : Nat} {R : Nat → Int32 → zm_H → zm_H} {O : Nat → Int32 → zm_H → Prop} (hR : ∀ (m : Nat) (p : Int32) (h : zm_H) (Q : Option Value → zm_H → Prop), zSh zT0 h → O m p h → (zSh zT0 (R m p h) → Q none (R m p h)) → zg x (d + 20) m 0 (zm_en m [.ref 10, .int p]) [] h Q) (h : zm_H) (o0 : Option Value) (z1 : Int32) (o2 : Option Value) {Q : Option Value → zm_H → Prop} (hs : zSh zT0 h) (ho : f_Text_readEither_k45_ok R O h) (hF : (zSh zT0 (f_Text_readEither_k45 R h) → Q none (f_Text_readEither_k45 R h))) : zg x (d + 21) 106 45 [o0, some (.int z1), o2] [] h Q := by
  unfold f_Text_readEither_k45 at hF
  unfold f_Text_readEither_k45_ok at ho
  exact zg_ret zd_106 rfl rfl (hF hs)
set_option maxRecDepth 100000 in
set_option maxHeartbeats 400000 in
theorem f_Text_readEither_k5_t {x : zm_X} {d : Nat} {R : Nat → Int32 → zm_H → zm_H} {O : Nat → Int32 → zm_H → Prop} (hR : ∀ (m : Nat) (p : Int32) (h : zm_H) (Q : Option Value → zm_H → Prop), zSh zT0 h → O m p h → (zSh zT0 (R m p h) → Q none (R m p h)) → zg x (d + 20) m 0 (zm_en m [.ref 10, .int p]) [] h Q) (v1 : Int32) (h : zm_H) (o2 : Option Value) {Q : Option Value → zm_H → Prop} (hs : zSh zT0 h) (ho : f_Text_readEither_k5_ok R O v1 h) (hF : (zSh zT0 (f_Text_readEither_k5 R v1 h) → Q none (f_Text_readEither_k5 R v1 h))) : zg x (d + 21) 106 5 [some (.ref 10), some (.int v1), o2] [] h Q := by
  unfold f_Text_readEither_k5 at hF
  unfold f_Text_readEither_k5_ok at ho
  refine zg_blk zd_106 2 hs (rfl : zb x zT0 zc_106 2 (5, [some (.ref 10), some (.int v1), o2], [], h) = some (7, [some (.ref 10), some (.int v1), some (.int 0)], [], h)) (fun hs => ?_)
  refine f_Text_readEither_l7_t hR v1 (fun r => f_Text_readEither_a7_ok R O r ∧ (zSh zT0 (f_Text_readEither_a7 R r) → Q none (f_Text_readEither_a7 R r))) ?_ zF 0 h hs ho.1 ⟨ho.2, hF⟩
  · intro v2_ h_ o2_ hs hG
    have ho : True := trivial
    have hF : (zSh zT0 ((f_Text_readEither_k45 R h_)) → Q none ((f_Text_readEither_k45 R h_))) := hG.2
    exact f_Text_readEither_k45_t hR h_ (some (.ref 10)) v1 (o2_) hs trivial hF
set_option maxRecDepth 100000 in
set_option maxHeartbeats 400000 in
theorem f_Text_readEither_t {x : zm_X} {d : Nat} {R : Nat → Int32 → zm_H → zm_H} {O : Nat → Int32 → zm_H → Prop} (hR : ∀ (m : Nat) (p : Int32) (h : zm_H) (Q : Option Value → zm_H → Prop), zSh zT0 h → O m p h → (zSh zT0 (R m p h) → Q none (R m p h)) → zg x (d + 20) m 0 (zm_en m [.ref 10, .int p]) [] h Q) (p1 : Int32) (h : zm_H) {Q : Option Value → zm_H → Prop} (hs : zSh zT0 h) (ho : f_Text_readEither_ok R O p1 h) (hF : (zSh zT0 (f_Text_readEither R p1 h) → Q none (f_Text_readEither R p1 h))) : zg x (d + 21) 106 0 [some (.ref 10), some (.int p1), none] [] h Q := by
  unfold f_Text_readEither at hF
  unfold f_Text_readEither_ok at ho
  refine zg_blk zd_106 2 hs (rfl : zb x zT0 zc_106 2 (0, [some (.ref 10), some (.int p1), none], [], h) = some (2, [some (.ref 10), some (.int p1), none], [.int p1, .ref 10], h)) (fun hs => ?_)
  obtain ⟨hob, ho⟩ := ho
  refine zg_call hs zd_106 rfl rfl rfl rfl (as := [.ref 10, .int p1]) (rest := []) (en := [some (.ref 10), some (.int p1), none]) rfl rfl rfl rfl rfl ?_
  refine hR 107 p1 h _ hs hob (fun hs => ?_)
  show zg x (d + 21) 106 5 [some (.ref 10), some (.int p1), none] [] (R 107 p1 h) Q
  exact f_Text_readEither_k5_t hR p1 (R 107 p1 h) (none) hs ho hF
theorem zd_107 : zm_cd 107 = zc_107 := by rfl
set_option maxRecDepth 100000 in
set_option maxHeartbeats 400000 in
theorem f_Text_readBoth_l7_k39_t {x : zm_X} {d : Nat} {R : Nat → Int32 → zm_H → zm_H} {O : Nat → Int32 → zm_H → Prop} (hR : ∀ (m : Nat) (p : Int32) (h : zm_H) (Q : Option Value → zm_H → Prop), zSh zT0 h → O m p h → (zSh zT0 (R m p h) → Q none (R m p h)) → zg x (d + 20) m 0 (zm_en m [.ref 10, .int p]) [] h Q) (v1 : Int32) (v2 : Int32) (h : zm_H) {Q : Option Value → zm_H → Prop} {FN : Nat × Int32 × zm_H → Prop} (hs : zSh zT0 h) (ho : f_Text_readBoth_l7_k39_ok R O v1 v2 h) (hF : FN (f_Text_readBoth_l7_k39 R v1 v2 h)) (hl0 : ∀ (v2 : Int32) (h : zm_H), zSh zT0 h → FN (0, v2, h) → zg x (d + 21) 107 7 [some (.ref 10), some (.int v1), some (.int v2)] [] h Q) (hl1 : ∀ (v2 : Int32) (h : zm_H) (o2 : Option Value), zSh zT0 h → FN (1, v2, h) → zg x (d + 21) 107 45 [some (.ref 10), some (.int v1), o2] [] h Q) : zg x (d + 21) 107 39 [some (.ref 10), some (.int v1), some (.int v2)] [] h Q := by
  unfold f_Text_readBoth_l7_k39 at hF
  unfold f_Text_readBoth_l7_k39_ok at ho
  refine zg_blk zd_107 2 hs (rfl : zb x zT0 zc_107 2 (39, [some (.ref 10), some (.int v1), some (.int v2)], [], h) = some (7, [some (.ref 10), some (.int v1), some (.int (v2 + 1))], [], h)) (fun hs => ?_)
  exact hl0 (v2 + 1) h hs hF
set_option maxRecDepth 100000 in
set_option maxHeartbeats 400000 in
theorem f_Text_readBoth_l7_k33_t {x : zm_X} {d : Nat} {R : Nat → Int32 → zm_H → zm_H} {O : Nat → Int32 → zm_H → Prop} (hR : ∀ (m : Nat) (p : Int32) (h : zm_H) (Q : Option Value → zm_H → Prop), zSh zT0 h → O m p h → (zSh zT0 (R m p h) → Q none (R m p h)) → zg x (d + 20) m 0 (zm_en m [.ref 10, .int p]) [] h Q) (v1 : Int32) (v2 : Int32) (h : zm_H) {Q : Option Value → zm_H → Prop} {FN : Nat × Int32 × zm_H → Prop} (hs : zSh zT0 h) (ho : f_Text_readBoth_l7_k33_ok R O v1 v2 h) (hF : FN (f_Text_readBoth_l7_k33 R v1 v2 h)) (hl0 : ∀ (v2 : Int32) (h : zm_H), zSh zT0 h → FN (0, v2, h) → zg x (d + 21) 107 7 [some (.ref 10), some (.int v1), some (.int v2)] [] h Q) (hl1 : ∀ (v2 : Int32) (h : zm_H) (o2 : Option Value), zSh zT0 h → FN (1, v2, h) → zg x (d + 21) 107 45 [some (.ref 10), some (.int v1), o2] [] h Q) : zg x (d + 21) 107 33 [some (.ref 10), some (.int v1), some (.int v2)] [] h Q := by
  unfold f_Text_readBoth_l7_k33 at hF
  unfold f_Text_readBoth_l7_k33_ok at ho
  refine zg_blk zd_107 2 hs (rfl : zb x zT0 zc_107 2 (33, [some (.ref 10), some (.int v1), some (.int v2)], [], h) = some (36, [some (.ref 10), some (.int v1), some (.int v2)], [.int 100314, .ref 10], h)) (fun hs => ?_)
  have hob := ho
  refine zg_call hs zd_107 rfl rfl rfl rfl (as := [.ref 10, .int 100314]) (rest := []) (en := [some (.ref 10), some (.int 100314)]) rfl rfl rfl rfl rfl ?_
  refine f_Text_emit_t 100314 h hs hob (fun hs => ?_)
  show zg x (d + 21) 107 39 [some (.ref 10), some (.int v1), some (.int v2)] [] (f_Text_emit 100314 h) Q
  exact f_Text_readBoth_l7_k39_t hR v1 v2 (f_Text_emit 100314 h) hs trivial hF hl0 hl1
set_option maxRecDepth 100000 in
set_option maxHeartbeats 400000 in
theorem f_Text_readBoth_l7_k28_t {x : zm_X} {d : Nat} {R : Nat → Int32 → zm_H → zm_H} {O : Nat → Int32 → zm_H → Prop} (hR : ∀ (m : Nat) (p : Int32) (h : zm_H) (Q : Option Value → zm_H → Prop), zSh zT0 h → O m p h → (zSh zT0 (R m p h) → Q none (R m p h)) → zg x (d + 20) m 0 (zm_en m [.ref 10, .int p]) [] h Q) (v1 : Int32) (v2 : Int32) (h : zm_H) {Q : Option Value → zm_H → Prop} {FN : Nat × Int32 × zm_H → Prop} (hs : zSh zT0 h) (ho : f_Text_readBoth_l7_k28_ok R O v1 v2 h) (hF : FN (f_Text_readBoth_l7_k28 R v1 v2 h)) (hl0 : ∀ (v2 : Int32) (h : zm_H), zSh zT0 h → FN (0, v2, h) → zg x (d + 21) 107 7 [some (.ref 10), some (.int v1), some (.int v2)] [] h Q) (hl1 : ∀ (v2 : Int32) (h : zm_H) (o2 : Option Value), zSh zT0 h → FN (1, v2, h) → zg x (d + 21) 107 45 [some (.ref 10), some (.int v1), o2] [] h Q) : zg x (d + 21) 107 28 [some (.ref 10), some (.int v1), some (.int v2)] [] h Q := by
  unfold f_Text_readBoth_l7_k28 at hF
  unfold f_Text_readBoth_l7_k28_ok at ho
  refine zg_blk zd_107 2 hs (rfl : zb x zT0 zc_107 2 (28, [some (.ref 10), some (.int v1), some (.int v2)], [], h) = some (30, [some (.ref 10), some (.int v1), some (.int v2)], [.int v1, .ref 10], h)) (fun hs => ?_)
  obtain ⟨hob, ho⟩ := ho
  refine zg_call hs zd_107 rfl rfl rfl rfl (as := [.ref 10, .int v1]) (rest := []) (en := [some (.ref 10), some (.int v1), none]) rfl rfl rfl rfl rfl ?_
  refine hR 108 v1 h _ hs hob (fun hs => ?_)
  show zg x (d + 21) 107 33 [some (.ref 10), some (.int v1), some (.int v2)] [] (R 108 v1 h) Q
  exact f_Text_readBoth_l7_k33_t hR v1 v2 (R 108 v1 h) hs ho hF hl0 hl1
set_option maxRecDepth 100000 in
set_option maxHeartbeats 400000 in
theorem f_Text_readBoth_l7_b_t {x : zm_X} {d : Nat} {R : Nat → Int32 → zm_H → zm_H} {O : Nat → Int32 → zm_H → Prop} (hR : ∀ (m : Nat) (p : Int32) (h : zm_H) (Q : Option Value → zm_H → Prop), zSh zT0 h → O m p h → (zSh zT0 (R m p h) → Q none (R m p h)) → zg x (d + 20) m 0 (zm_en m [.ref 10, .int p]) [] h Q) (v1 : Int32) (v2 : Int32) (h : zm_H) {Q : Option Value → zm_H → Prop} {FN : Nat × Int32 × zm_H → Prop} (hs : zSh zT0 h) (ho : f_Text_readBoth_l7_b_ok R O v1 v2 h) (hF : FN (f_Text_readBoth_l7_b R v1 v2 h)) (hl0 : ∀ (v2 : Int32) (h : zm_H), zSh zT0 h → FN (0, v2, h) → zg x (d + 21) 107 7 [some (.ref 10), some (.int v1), some (.int v2)] [] h Q) (hl1 : ∀ (v2 : Int32) (h : zm_H) (o2 : Option Value), zSh zT0 h → FN (1, v2, h) → zg x (d + 21) 107 45 [some (.ref 10), some (.int v1), o2] [] h Q) : zg x (d + 21) 107 7 [some (.ref 10), some (.int v1), some (.int v2)] [] h Q := by
  unfold f_Text_readBoth_l7_b at hF
  unfold f_Text_readBoth_l7_b_ok at ho
  refine zg_blk zd_107 2 hs (rfl : zb x zT0 zc_107 2 (7, [some (.ref 10), some (.int v1), some (.int v2)], [], h) = some (11, [some (.ref 10), some (.int v1), some (.int v2)], [.int 400, .int v2], h)) (fun hs => ?_)
  refine zg_i_ge zd_107 rfl (fun (hc : (400 ≤ v2)) => ?_) (fun (hc : ¬ (400 ≤ v2)) => ?_)
  · have ho := ho.1 hc
    rw [if_pos hc] at hF
    exact hl1 v2 h (some (.int v2)) hs hF
  · have ho := ho.2 hc
    rw [if_neg hc] at hF
    refine zg_blk zd_107 3 hs (rfl : zb x zT0 zc_107 3 (14, [some (.ref 10), some (.int v1), some (.int v2)], [], h) = some (21, [some (.ref 10), some (.int v1), some (.int v2)], [.int 314, .int (zf h 10 8)], h)) (fun hs => ?_)
    refine zg_i_ne zd_107 rfl (fun (hc : ¬ ((zf h 10 8) = 314)) => ?_) (fun (hc : ((zf h 10 8) = 314)) => ?_)
    · have ho := ho.2 hc
      rw [if_neg hc] at hF
      exact hl1 v2 h (some (.int v2)) hs hF
    · have ho := ho.1 hc
      rw [if_pos hc] at hF
      refine zg_blk zd_107 1 hs (rfl : zb x zT0 zc_107 1 (24, [some (.ref 10), some (.int v1), some (.int v2)], [], h) = some (25, [some (.ref 10), some (.int v1), some (.int v2)], [.ref 10], h)) (fun hs => ?_)
      obtain ⟨hob, ho⟩ := ho
      refine zg_call hs zd_107 rfl rfl rfl rfl (as := [.ref 10]) (rest := []) (en := [some (.ref 10)]) rfl rfl rfl rfl rfl ?_
      refine f_Text_step_t  h hs hob (fun hs => ?_)
      show zg x (d + 21) 107 28 [some (.ref 10), some (.int v1), some (.int v2)] [] (f_Text_step h) Q
      exact f_Text_readBoth_l7_k28_t hR v1 v2 (f_Text_step h) hs ho hF hl0 hl1
theorem f_Text_readBoth_l7_t {x : zm_X} {d : Nat} {R : Nat → Int32 → zm_H → zm_H} {O : Nat → Int32 → zm_H → Prop} (hR : ∀ (m : Nat) (p : Int32) (h : zm_H) (Q : Option Value → zm_H → Prop), zSh zT0 h → O m p h → (zSh zT0 (R m p h) → Q none (R m p h)) → zg x (d + 20) m 0 (zm_en m [.ref 10, .int p]) [] h Q) (v1 : Int32) {Q : Option Value → zm_H → Prop} (G : Nat × Int32 × zm_H → Prop) (hx1 : ∀ (v2 : Int32) (h : zm_H) (o2 : Option Value), zSh zT0 h → G (1, v2, h) → zg x (d + 21) 107 45 [some (.ref 10), some (.int v1), o2] [] h Q) : ∀ (n : Nat) (v2 : Int32) (h : zm_H), zSh zT0 h → f_Text_readBoth_l7_ok R O v1 n (v2, h) → G (f_Text_readBoth_l7 R v1 n (v2, h)) → zg x (d + 21) 107 7 [some (.ref 10), some (.int v1), some (.int v2)] [] h Q := by
  intro n
  induction n with
  | zero => intro v2 h hs ho hG; exact ho.elim
  | succ n ih =>
    intro v2 h hs ho hG
    refine f_Text_readBoth_l7_b_t hR (FN := fun r => (r.1 = 0 → f_Text_readBoth_l7_ok R O v1 n r.2) ∧ G (if r.1 = 0 then f_Text_readBoth_l7 R v1 n r.2 else r)) v1 v2 h hs ho.1 ⟨ho.2, hG⟩ ?_ ?_
    · intro v2 h hs hF
      exact ih v2 h hs (hF.1 rfl) hF.2
    · intro v2 h o2 hs hF
      exact hx1 v2 h o2 hs hF.2

set_option maxRecDepth 100000 in
set_option maxHeartbeats 400000 in
theorem f_Text_readBoth_k45_t {x : zm_X} {d : Nat} {R : Nat → Int32 → zm_H → zm_H} {O : Nat → Int32 → zm_H → Prop} (hR : ∀ (m : Nat) (p : Int32) (h : zm_H) (Q : Option Value → zm_H → Prop), zSh zT0 h → O m p h → (zSh zT0 (R m p h) → Q none (R m p h)) → zg x (d + 20) m 0 (zm_en m [.ref 10, .int p]) [] h Q) (h : zm_H) (o0 : Option Value) (z1 : Int32) (o2 : Option Value) {Q : Option Value → zm_H → Prop} (hs : zSh zT0 h) (ho : f_Text_readBoth_k45_ok R O h) (hF : (zSh zT0 (f_Text_readBoth_k45 R h) → Q none (f_Text_readBoth_k45 R h))) : zg x (d + 21) 107 45 [o0, some (.int z1), o2] [] h Q := by
  unfold f_Text_readBoth_k45 at hF
  unfold f_Text_readBoth_k45_ok at ho
  exact zg_ret zd_107 rfl rfl (hF hs)
set_option maxRecDepth 100000 in
set_option maxHeartbeats 400000 in
theorem f_Text_readBoth_k5_t {x : zm_X} {d : Nat} {R : Nat → Int32 → zm_H → zm_H} {O : Nat → Int32 → zm_H → Prop} (hR : ∀ (m : Nat) (p : Int32) (h : zm_H) (Q : Option Value → zm_H → Prop), zSh zT0 h → O m p h → (zSh zT0 (R m p h) → Q none (R m p h)) → zg x (d + 20) m 0 (zm_en m [.ref 10, .int p]) [] h Q) (v1 : Int32) (h : zm_H) (o2 : Option Value) {Q : Option Value → zm_H → Prop} (hs : zSh zT0 h) (ho : f_Text_readBoth_k5_ok R O v1 h) (hF : (zSh zT0 (f_Text_readBoth_k5 R v1 h) → Q none (f_Text_readBoth_k5 R v1 h))) : zg x (d + 21) 107 5 [some (.ref 10), some (.int v1), o2] [] h Q := by
  unfold f_Text_readBoth_k5 at hF
  unfold f_Text_readBoth_k5_ok at ho
  refine zg_blk zd_107 2 hs (rfl : zb x zT0 zc_107 2 (5, [some (.ref 10), some (.int v1), o2], [], h) = some (7, [some (.ref 10), some (.int v1), some (.int 0)], [], h)) (fun hs => ?_)
  refine f_Text_readBoth_l7_t hR v1 (fun r => f_Text_readBoth_a7_ok R O r ∧ (zSh zT0 (f_Text_readBoth_a7 R r) → Q none (f_Text_readBoth_a7 R r))) ?_ zF 0 h hs ho.1 ⟨ho.2, hF⟩
  · intro v2_ h_ o2_ hs hG
    have ho : True := trivial
    have hF : (zSh zT0 ((f_Text_readBoth_k45 R h_)) → Q none ((f_Text_readBoth_k45 R h_))) := hG.2
    exact f_Text_readBoth_k45_t hR h_ (some (.ref 10)) v1 (o2_) hs trivial hF
set_option maxRecDepth 100000 in
set_option maxHeartbeats 400000 in
theorem f_Text_readBoth_t {x : zm_X} {d : Nat} {R : Nat → Int32 → zm_H → zm_H} {O : Nat → Int32 → zm_H → Prop} (hR : ∀ (m : Nat) (p : Int32) (h : zm_H) (Q : Option Value → zm_H → Prop), zSh zT0 h → O m p h → (zSh zT0 (R m p h) → Q none (R m p h)) → zg x (d + 20) m 0 (zm_en m [.ref 10, .int p]) [] h Q) (p1 : Int32) (h : zm_H) {Q : Option Value → zm_H → Prop} (hs : zSh zT0 h) (ho : f_Text_readBoth_ok R O p1 h) (hF : (zSh zT0 (f_Text_readBoth R p1 h) → Q none (f_Text_readBoth R p1 h))) : zg x (d + 21) 107 0 [some (.ref 10), some (.int p1), none] [] h Q := by
  unfold f_Text_readBoth at hF
  unfold f_Text_readBoth_ok at ho
  refine zg_blk zd_107 2 hs (rfl : zb x zT0 zc_107 2 (0, [some (.ref 10), some (.int p1), none], [], h) = some (2, [some (.ref 10), some (.int p1), none], [.int p1, .ref 10], h)) (fun hs => ?_)
  obtain ⟨hob, ho⟩ := ho
  refine zg_call hs zd_107 rfl rfl rfl rfl (as := [.ref 10, .int p1]) (rest := []) (en := [some (.ref 10), some (.int p1), none]) rfl rfl rfl rfl rfl ?_
  refine hR 108 p1 h _ hs hob (fun hs => ?_)
  show zg x (d + 21) 107 5 [some (.ref 10), some (.int p1), none] [] (R 108 p1 h) Q
  exact f_Text_readBoth_k5_t hR p1 (R 108 p1 h) (none) hs ho hF
theorem zd_108 : zm_cd 108 = zc_108 := by rfl
set_option maxRecDepth 100000 in
set_option maxHeartbeats 400000 in
theorem f_Text_readTruth_k108_t {x : zm_X} {d : Nat} {R : Nat → Int32 → zm_H → zm_H} {O : Nat → Int32 → zm_H → Prop} (hR : ∀ (m : Nat) (p : Int32) (h : zm_H) (Q : Option Value → zm_H → Prop), zSh zT0 h → O m p h → (zSh zT0 (R m p h) → Q none (R m p h)) → zg x (d + 20) m 0 (zm_en m [.ref 10, .int p]) [] h Q) (v2 : Int32) (h : zm_H) (z1 : Int32) {Q : Option Value → zm_H → Prop} (hs : zSh zT0 h) (ho : f_Text_readTruth_k108_ok R O v2 h) (hF : (zSh zT0 (f_Text_readTruth_k108 R v2 h) → Q none (f_Text_readTruth_k108 R v2 h))) : zg x (d + 21) 108 108 [some (.ref 10), some (.int z1), some (.int v2)] [] h Q := by
  unfold f_Text_readTruth_k108 at hF
  unfold f_Text_readTruth_k108_ok at ho
  refine zg_blk zd_108 4 hs (rfl : zb x zT0 zc_108 4 (108, [some (.ref 10), some (.int z1), some (.int v2)], [], h) = some (113, [some (.ref 10), some (.int z1), some (.int v2)], [.int (100000 + v2), .ref 10], h)) (fun hs => ?_)
  have hob := ho
  refine zg_call hs zd_108 rfl rfl rfl rfl (as := [.ref 10, .int (100000 + v2)]) (rest := []) (en := [some (.ref 10), some (.int (100000 + v2))]) rfl rfl rfl rfl rfl ?_
  refine f_Text_emit_t (100000 + v2) h hs hob (fun hs => ?_)
  show zg x (d + 21) 108 116 [some (.ref 10), some (.int z1), some (.int v2)] [] (f_Text_emit (100000 + v2) h) Q
  refine zg_blk zd_108 1 hs (rfl : zb x zT0 zc_108 1 (116, [some (.ref 10), some (.int z1), some (.int v2)], [], (f_Text_emit (100000 + v2) h)) = some (123, [some (.ref 10), some (.int z1), some (.int v2)], [], (f_Text_emit (100000 + v2) h))) (fun hs => ?_)
  exact zg_ret zd_108 rfl rfl (hF hs)
set_option maxRecDepth 100000 in
set_option maxHeartbeats 400000 in
theorem f_Text_readTruth_k103_t {x : zm_X} {d : Nat} {R : Nat → Int32 → zm_H → zm_H} {O : Nat → Int32 → zm_H → Prop} (hR : ∀ (m : Nat) (p : Int32) (h : zm_H) (Q : Option Value → zm_H → Prop), zSh zT0 h → O m p h → (zSh zT0 (R m p h) → Q none (R m p h)) → zg x (d + 20) m 0 (zm_en m [.ref 10, .int p]) [] h Q) (v1 : Int32) (v2 : Int32) (h : zm_H) {Q : Option Value → zm_H → Prop} (hs : zSh zT0 h) (ho : f_Text_readTruth_k103_ok R O v1 v2 h) (hF : (zSh zT0 (f_Text_readTruth_k103 R v1 v2 h) → Q none (f_Text_readTruth_k103 R v1 v2 h))) : zg x (d + 21) 108 103 [some (.ref 10), some (.int v1), some (.int v2)] [] h Q := by
  unfold f_Text_readTruth_k103 at hF
  unfold f_Text_readTruth_k103_ok at ho
  refine zg_blk zd_108 2 hs (rfl : zb x zT0 zc_108 2 (103, [some (.ref 10), some (.int v1), some (.int v2)], [], h) = some (105, [some (.ref 10), some (.int v1), some (.int v2)], [.int v1, .ref 10], h)) (fun hs => ?_)
  obtain ⟨hob, ho⟩ := ho
  refine zg_call hs zd_108 rfl rfl rfl rfl (as := [.ref 10, .int v1]) (rest := []) (en := [some (.ref 10), some (.int v1), none, none]) rfl rfl rfl rfl rfl ?_
  refine hR 101 v1 h _ hs hob (fun hs => ?_)
  show zg x (d + 21) 108 108 [some (.ref 10), some (.int v1), some (.int v2)] [] (R 101 v1 h) Q
  exact f_Text_readTruth_k108_t hR v2 (R 101 v1 h) v1 hs ho hF
set_option maxRecDepth 100000 in
set_option maxHeartbeats 400000 in
theorem f_Text_readTruth_k99_t {x : zm_X} {d : Nat} {R : Nat → Int32 → zm_H → zm_H} {O : Nat → Int32 → zm_H → Prop} (hR : ∀ (m : Nat) (p : Int32) (h : zm_H) (Q : Option Value → zm_H → Prop), zSh zT0 h → O m p h → (zSh zT0 (R m p h) → Q none (R m p h)) → zg x (d + 20) m 0 (zm_en m [.ref 10, .int p]) [] h Q) (v1 : Int32) (v2 : Int32) (h : zm_H) {Q : Option Value → zm_H → Prop} (hs : zSh zT0 h) (ho : f_Text_readTruth_k99_ok R O v1 v2 h) (hF : (zSh zT0 (f_Text_readTruth_k99 R v1 v2 h) → Q none (f_Text_readTruth_k99 R v1 v2 h))) : zg x (d + 21) 108 99 [some (.ref 10), some (.int v1), some (.int v2)] [] h Q := by
  unfold f_Text_readTruth_k99 at hF
  unfold f_Text_readTruth_k99_ok at ho
  refine zg_blk zd_108 1 hs (rfl : zb x zT0 zc_108 1 (99, [some (.ref 10), some (.int v1), some (.int v2)], [], h) = some (100, [some (.ref 10), some (.int v1), some (.int v2)], [.ref 10], h)) (fun hs => ?_)
  obtain ⟨hob, ho⟩ := ho
  refine zg_call hs zd_108 rfl rfl rfl rfl (as := [.ref 10]) (rest := []) (en := [some (.ref 10)]) rfl rfl rfl rfl rfl ?_
  refine f_Text_step_t  h hs hob (fun hs => ?_)
  show zg x (d + 21) 108 103 [some (.ref 10), some (.int v1), some (.int v2)] [] (f_Text_step h) Q
  exact f_Text_readTruth_k103_t hR v1 v2 (f_Text_step h) hs ho hF
set_option maxRecDepth 100000 in
set_option maxHeartbeats 400000 in
theorem f_Text_readTruth_k76_t {x : zm_X} {d : Nat} {R : Nat → Int32 → zm_H → zm_H} {O : Nat → Int32 → zm_H → Prop} (hR : ∀ (m : Nat) (p : Int32) (h : zm_H) (Q : Option Value → zm_H → Prop), zSh zT0 h → O m p h → (zSh zT0 (R m p h) → Q none (R m p h)) → zg x (d + 20) m 0 (zm_en m [.ref 10, .int p]) [] h Q) (v1 : Int32) (h : zm_H) (o2 : Option Value) {Q : Option Value → zm_H → Prop} (hs : zSh zT0 h) (ho : f_Text_readTruth_k76_ok R O v1 h) (hF : (zSh zT0 (f_Text_readTruth_k76 R v1 h) → Q none (f_Text_readTruth_k76 R v1 h))) : zg x (d + 21) 108 76 [some (.ref 10), some (.int v1), o2] [] h Q := by
  unfold f_Text_readTruth_k76 at hF
  unfold f_Text_readTruth_k76_ok at ho
  refine zg_blk zd_108 5 hs (rfl : zb x zT0 zc_108 5 (76, [some (.ref 10), some (.int v1), o2], [], h) = some (84, [some (.ref 10), some (.int v1), some (.int (zf h 10 8))], [.int 60, .int (zf h 10 8)], h)) (fun hs => ?_)
  refine zg_i_eq zd_108 rfl (fun (hc : ((zf h 10 8) = 60)) => ?_) (fun (hc : ¬ ((zf h 10 8) = 60)) => ?_)
  · have ho := ho.1 hc
    rw [if_pos hc] at hF
    exact f_Text_readTruth_k99_t hR v1 (zf h 10 8) h hs ho hF
  · have ho := ho.2 hc
    rw [if_neg hc] at hF
    refine zg_blk zd_108 2 hs (rfl : zb x zT0 zc_108 2 (87, [some (.ref 10), some (.int v1), some (.int (zf h 10 8))], [], h) = some (90, [some (.ref 10), some (.int v1), some (.int (zf h 10 8))], [.int 62, .int (zf h 10 8)], h)) (fun hs => ?_)
    refine zg_i_eq zd_108 rfl (fun (hc : ((zf h 10 8) = 62)) => ?_) (fun (hc : ¬ ((zf h 10 8) = 62)) => ?_)
    · have ho := ho.1 hc
      rw [if_pos hc] at hF
      exact f_Text_readTruth_k99_t hR v1 (zf h 10 8) h hs ho hF
    · have ho := ho.2 hc
      rw [if_neg hc] at hF
      refine zg_blk zd_108 2 hs (rfl : zb x zT0 zc_108 2 (93, [some (.ref 10), some (.int v1), some (.int (zf h 10 8))], [], h) = some (96, [some (.ref 10), some (.int v1), some (.int (zf h 10 8))], [.int 61, .int (zf h 10 8)], h)) (fun hs => ?_)
      refine zg_i_ne zd_108 rfl (fun (hc : ¬ ((zf h 10 8) = 61)) => ?_) (fun (hc : ((zf h 10 8) = 61)) => ?_)
      · have ho := ho.2 hc
        rw [if_neg hc] at hF
        refine zg_blk zd_108 1 hs (rfl : zb x zT0 zc_108 1 (119, [some (.ref 10), some (.int v1), some (.int (zf h 10 8))], [], h) = some (120, [some (.ref 10), some (.int v1), some (.int (zf h 10 8))], [.ref 10], h)) (fun hs => ?_)
        have hob := ho
        refine zg_call hs zd_108 rfl rfl rfl rfl (as := [.ref 10]) (rest := []) (en := [some (.ref 10)]) rfl rfl rfl rfl rfl ?_
        refine f_Text_refuse_t  h hs hob (fun hs => ?_)
        show zg x (d + 21) 108 123 [some (.ref 10), some (.int v1), some (.int (zf h 10 8))] [] (f_Text_refuse h) Q
        exact zg_ret zd_108 rfl rfl (hF hs)
      · have ho := ho.1 hc
        rw [if_pos hc] at hF
        exact f_Text_readTruth_k99_t hR v1 (zf h 10 8) h hs ho hF
set_option maxRecDepth 100000 in
set_option maxHeartbeats 400000 in
theorem f_Text_readTruth_k71_t {x : zm_X} {d : Nat} {R : Nat → Int32 → zm_H → zm_H} {O : Nat → Int32 → zm_H → Prop} (hR : ∀ (m : Nat) (p : Int32) (h : zm_H) (Q : Option Value → zm_H → Prop), zSh zT0 h → O m p h → (zSh zT0 (R m p h) → Q none (R m p h)) → zg x (d + 20) m 0 (zm_en m [.ref 10, .int p]) [] h Q) (v1 : Int32) (h : zm_H) (o2 : Option Value) {Q : Option Value → zm_H → Prop} (hs : zSh zT0 h) (ho : f_Text_readTruth_k71_ok R O v1 h) (hF : (zSh zT0 (f_Text_readTruth_k71 R v1 h) → Q none (f_Text_readTruth_k71 R v1 h))) : zg x (d + 21) 108 71 [some (.ref 10), some (.int v1), o2] [] h Q := by
  unfold f_Text_readTruth_k71 at hF
  unfold f_Text_readTruth_k71_ok at ho
  refine zg_blk zd_108 2 hs (rfl : zb x zT0 zc_108 2 (71, [some (.ref 10), some (.int v1), o2], [], h) = some (73, [some (.ref 10), some (.int v1), o2], [.int v1, .ref 10], h)) (fun hs => ?_)
  obtain ⟨hob, ho⟩ := ho
  refine zg_call hs zd_108 rfl rfl rfl rfl (as := [.ref 10, .int v1]) (rest := []) (en := [some (.ref 10), some (.int v1), none, none]) rfl rfl rfl rfl rfl ?_
  refine hR 101 v1 h _ hs hob (fun hs => ?_)
  show zg x (d + 21) 108 76 [some (.ref 10), some (.int v1), o2] [] (R 101 v1 h) Q
  exact f_Text_readTruth_k76_t hR v1 (R 101 v1 h) (o2) hs ho hF
set_option maxRecDepth 100000 in
set_option maxHeartbeats 400000 in
theorem f_Text_readTruth_k62_t {x : zm_X} {d : Nat} {R : Nat → Int32 → zm_H → zm_H} {O : Nat → Int32 → zm_H → Prop} (hR : ∀ (m : Nat) (p : Int32) (h : zm_H) (Q : Option Value → zm_H → Prop), zSh zT0 h → O m p h → (zSh zT0 (R m p h) → Q none (R m p h)) → zg x (d + 20) m 0 (zm_en m [.ref 10, .int p]) [] h Q) (h : zm_H) (z1 : Int32) (o2 : Option Value) {Q : Option Value → zm_H → Prop} (hs : zSh zT0 h) (ho : f_Text_readTruth_k62_ok R O h) (hF : (zSh zT0 (f_Text_readTruth_k62 R h) → Q none (f_Text_readTruth_k62 R h))) : zg x (d + 21) 108 62 [some (.ref 10), some (.int z1), o2] [] h Q := by
  unfold f_Text_readTruth_k62 at hF
  unfold f_Text_readTruth_k62_ok at ho
  refine zg_blk zd_108 2 hs (rfl : zb x zT0 zc_108 2 (62, [some (.ref 10), some (.int z1), o2], [], h) = some (65, [some (.ref 10), some (.int z1), o2], [.int 93, .ref 10], h)) (fun hs => ?_)
  have hob := ho
  refine zg_call hs zd_108 rfl rfl rfl rfl (as := [.ref 10, .int 93]) (rest := []) (en := [some (.ref 10), some (.int 93)]) rfl rfl rfl rfl rfl ?_
  refine f_Text_need_t 93 h hs hob (fun hs => ?_)
  show zg x (d + 21) 108 68 [some (.ref 10), some (.int z1), o2] [] (f_Text_need 93 h) Q
  refine zg_blk zd_108 1 hs (rfl : zb x zT0 zc_108 1 (68, [some (.ref 10), some (.int z1), o2], [], (f_Text_need 93 h)) = some (123, [some (.ref 10), some (.int z1), o2], [], (f_Text_need 93 h))) (fun hs => ?_)
  exact zg_ret zd_108 rfl rfl (hF hs)
set_option maxRecDepth 100000 in
set_option maxHeartbeats 400000 in
theorem f_Text_readTruth_k55_t {x : zm_X} {d : Nat} {R : Nat → Int32 → zm_H → zm_H} {O : Nat → Int32 → zm_H → Prop} (hR : ∀ (m : Nat) (p : Int32) (h : zm_H) (Q : Option Value → zm_H → Prop), zSh zT0 h → O m p h → (zSh zT0 (R m p h) → Q none (R m p h)) → zg x (d + 20) m 0 (zm_en m [.ref 10, .int p]) [] h Q) (v1 : Int32) (h : zm_H) (o2 : Option Value) {Q : Option Value → zm_H → Prop} (hs : zSh zT0 h) (ho : f_Text_readTruth_k55_ok R O v1 h) (hF : (zSh zT0 (f_Text_readTruth_k55 R v1 h) → Q none (f_Text_readTruth_k55 R v1 h))) : zg x (d + 21) 108 55 [some (.ref 10), some (.int v1), o2] [] h Q := by
  unfold f_Text_readTruth_k55 at hF
  unfold f_Text_readTruth_k55_ok at ho
  refine zg_blk zd_108 4 hs (rfl : zb x zT0 zc_108 4 (55, [some (.ref 10), some (.int v1), o2], [], h) = some (59, [some (.ref 10), some (.int v1), o2], [.int (v1 + 1), .ref 10], h)) (fun hs => ?_)
  obtain ⟨hob, ho⟩ := ho
  refine zg_call hs zd_108 rfl rfl rfl rfl (as := [.ref 10, .int (v1 + 1)]) (rest := []) (en := [some (.ref 10), some (.int (v1 + 1)), none]) rfl rfl rfl rfl rfl ?_
  refine hR 106 (v1 + 1) h _ hs hob (fun hs => ?_)
  show zg x (d + 21) 108 62 [some (.ref 10), some (.int v1), o2] [] (R 106 (v1 + 1) h) Q
  exact f_Text_readTruth_k62_t hR (R 106 (v1 + 1) h) v1 (o2) hs ho hF
set_option maxRecDepth 100000 in
set_option maxHeartbeats 400000 in
theorem f_Text_readTruth_k36_t {x : zm_X} {d : Nat} {R : Nat → Int32 → zm_H → zm_H} {O : Nat → Int32 → zm_H → Prop} (hR : ∀ (m : Nat) (p : Int32) (h : zm_H) (Q : Option Value → zm_H → Prop), zSh zT0 h → O m p h → (zSh zT0 (R m p h) → Q none (R m p h)) → zg x (d + 20) m 0 (zm_en m [.ref 10, .int p]) [] h Q) (v1 : Int32) (h : zm_H) (o2 : Option Value) {Q : Option Value → zm_H → Prop} (hs : zSh zT0 h) (ho : f_Text_readTruth_k36_ok R O v1 h) (hF : (zSh zT0 (f_Text_readTruth_k36 R v1 h) → Q none (f_Text_readTruth_k36 R v1 h))) : zg x (d + 21) 108 36 [some (.ref 10), some (.int v1), o2] [] h Q := by
  unfold f_Text_readTruth_k36 at hF
  unfold f_Text_readTruth_k36_ok at ho
  refine zg_blk zd_108 3 hs (rfl : zb x zT0 zc_108 3 (36, [some (.ref 10), some (.int v1), o2], [], h) = some (42, [some (.ref 10), some (.int v1), o2], [.int 91, .int (zf h 10 8)], h)) (fun hs => ?_)
  refine zg_i_ne zd_108 rfl (fun (hc : ¬ ((zf h 10 8) = 91)) => ?_) (fun (hc : ((zf h 10 8) = 91)) => ?_)
  · have ho := ho.2 hc
    rw [if_neg hc] at hF
    exact f_Text_readTruth_k71_t hR v1 h (o2) hs ho hF
  · have ho := ho.1 hc
    rw [if_pos hc] at hF
    refine zg_blk zd_108 2 hs (rfl : zb x zT0 zc_108 2 (45, [some (.ref 10), some (.int v1), o2], [], h) = some (48, [some (.ref 10), some (.int v1), o2], [.int 8, .int v1], h)) (fun hs => ?_)
    refine zg_i_ge zd_108 rfl (fun (hc : (8 ≤ v1)) => ?_) (fun (hc : ¬ (8 ≤ v1)) => ?_)
    · have ho := ho.1 hc
      rw [if_pos hc] at hF
      exact f_Text_readTruth_k71_t hR v1 h (o2) hs ho hF
    · have ho := ho.2 hc
      rw [if_neg hc] at hF
      refine zg_blk zd_108 1 hs (rfl : zb x zT0 zc_108 1 (51, [some (.ref 10), some (.int v1), o2], [], h) = some (52, [some (.ref 10), some (.int v1), o2], [.ref 10], h)) (fun hs => ?_)
      obtain ⟨hob, ho⟩ := ho
      refine zg_call hs zd_108 rfl rfl rfl rfl (as := [.ref 10]) (rest := []) (en := [some (.ref 10)]) rfl rfl rfl rfl rfl ?_
      refine f_Text_step_t  h hs hob (fun hs => ?_)
      show zg x (d + 21) 108 55 [some (.ref 10), some (.int v1), o2] [] (f_Text_step h) Q
      exact f_Text_readTruth_k55_t hR v1 (f_Text_step h) (o2) hs ho hF
set_option maxRecDepth 100000 in
set_option maxHeartbeats 400000 in
theorem f_Text_readTruth_k27_t {x : zm_X} {d : Nat} {R : Nat → Int32 → zm_H → zm_H} {O : Nat → Int32 → zm_H → Prop} (hR : ∀ (m : Nat) (p : Int32) (h : zm_H) (Q : Option Value → zm_H → Prop), zSh zT0 h → O m p h → (zSh zT0 (R m p h) → Q none (R m p h)) → zg x (d + 20) m 0 (zm_en m [.ref 10, .int p]) [] h Q) (h : zm_H) (z1 : Int32) (o2 : Option Value) {Q : Option Value → zm_H → Prop} (hs : zSh zT0 h) (ho : f_Text_readTruth_k27_ok R O h) (hF : (zSh zT0 (f_Text_readTruth_k27 R h) → Q none (f_Text_readTruth_k27 R h))) : zg x (d + 21) 108 27 [some (.ref 10), some (.int z1), o2] [] h Q := by
  unfold f_Text_readTruth_k27 at hF
  unfold f_Text_readTruth_k27_ok at ho
  refine zg_blk zd_108 2 hs (rfl : zb x zT0 zc_108 2 (27, [some (.ref 10), some (.int z1), o2], [], h) = some (30, [some (.ref 10), some (.int z1), o2], [.int 100315, .ref 10], h)) (fun hs => ?_)
  have hob := ho
  refine zg_call hs zd_108 rfl rfl rfl rfl (as := [.ref 10, .int 100315]) (rest := []) (en := [some (.ref 10), some (.int 100315)]) rfl rfl rfl rfl rfl ?_
  refine f_Text_emit_t 100315 h hs hob (fun hs => ?_)
  show zg x (d + 21) 108 33 [some (.ref 10), some (.int z1), o2] [] (f_Text_emit 100315 h) Q
  refine zg_blk zd_108 1 hs (rfl : zb x zT0 zc_108 1 (33, [some (.ref 10), some (.int z1), o2], [], (f_Text_emit 100315 h)) = some (123, [some (.ref 10), some (.int z1), o2], [], (f_Text_emit 100315 h))) (fun hs => ?_)
  exact zg_ret zd_108 rfl rfl (hF hs)
set_option maxRecDepth 100000 in
set_option maxHeartbeats 400000 in
theorem f_Text_readTruth_k20_t {x : zm_X} {d : Nat} {R : Nat → Int32 → zm_H → zm_H} {O : Nat → Int32 → zm_H → Prop} (hR : ∀ (m : Nat) (p : Int32) (h : zm_H) (Q : Option Value → zm_H → Prop), zSh zT0 h → O m p h → (zSh zT0 (R m p h) → Q none (R m p h)) → zg x (d + 20) m 0 (zm_en m [.ref 10, .int p]) [] h Q) (v1 : Int32) (h : zm_H) (o2 : Option Value) {Q : Option Value → zm_H → Prop} (hs : zSh zT0 h) (ho : f_Text_readTruth_k20_ok R O v1 h) (hF : (zSh zT0 (f_Text_readTruth_k20 R v1 h) → Q none (f_Text_readTruth_k20 R v1 h))) : zg x (d + 21) 108 20 [some (.ref 10), some (.int v1), o2] [] h Q := by
  unfold f_Text_readTruth_k20 at hF
  unfold f_Text_readTruth_k20_ok at ho
  refine zg_blk zd_108 4 hs (rfl : zb x zT0 zc_108 4 (20, [some (.ref 10), some (.int v1), o2], [], h) = some (24, [some (.ref 10), some (.int v1), o2], [.int (v1 + 1), .ref 10], h)) (fun hs => ?_)
  obtain ⟨hob, ho⟩ := ho
  refine zg_call hs zd_108 rfl rfl rfl rfl (as := [.ref 10, .int (v1 + 1)]) (rest := []) (en := [some (.ref 10), some (.int (v1 + 1)), none]) rfl rfl rfl rfl rfl ?_
  refine hR 108 (v1 + 1) h _ hs hob (fun hs => ?_)
  show zg x (d + 21) 108 27 [some (.ref 10), some (.int v1), o2] [] (R 108 (v1 + 1) h) Q
  exact f_Text_readTruth_k27_t hR (R 108 (v1 + 1) h) v1 (o2) hs ho hF
set_option maxRecDepth 100000 in
set_option maxHeartbeats 400000 in
theorem f_Text_readTruth_t {x : zm_X} {d : Nat} {R : Nat → Int32 → zm_H → zm_H} {O : Nat → Int32 → zm_H → Prop} (hR : ∀ (m : Nat) (p : Int32) (h : zm_H) (Q : Option Value → zm_H → Prop), zSh zT0 h → O m p h → (zSh zT0 (R m p h) → Q none (R m p h)) → zg x (d + 20) m 0 (zm_en m [.ref 10, .int p]) [] h Q) (p1 : Int32) (h : zm_H) {Q : Option Value → zm_H → Prop} (hs : zSh zT0 h) (ho : f_Text_readTruth_ok R O p1 h) (hF : (zSh zT0 (f_Text_readTruth R p1 h) → Q none (f_Text_readTruth R p1 h))) : zg x (d + 21) 108 0 [some (.ref 10), some (.int p1), none] [] h Q := by
  unfold f_Text_readTruth at hF
  unfold f_Text_readTruth_ok at ho
  refine zg_blk zd_108 3 hs (rfl : zb x zT0 zc_108 3 (0, [some (.ref 10), some (.int p1), none], [], h) = some (7, [some (.ref 10), some (.int p1), none], [.int 315, .int (zf h 10 8)], h)) (fun hs => ?_)
  refine zg_i_ne zd_108 rfl (fun (hc : ¬ ((zf h 10 8) = 315)) => ?_) (fun (hc : ((zf h 10 8) = 315)) => ?_)
  · have ho := ho.2 hc
    rw [if_neg hc] at hF
    exact f_Text_readTruth_k36_t hR p1 h (none) hs ho hF
  · have ho := ho.1 hc
    rw [if_pos hc] at hF
    refine zg_blk zd_108 2 hs (rfl : zb x zT0 zc_108 2 (10, [some (.ref 10), some (.int p1), none], [], h) = some (13, [some (.ref 10), some (.int p1), none], [.int 8, .int p1], h)) (fun hs => ?_)
    refine zg_i_ge zd_108 rfl (fun (hc : (8 ≤ p1)) => ?_) (fun (hc : ¬ (8 ≤ p1)) => ?_)
    · have ho := ho.1 hc
      rw [if_pos hc] at hF
      exact f_Text_readTruth_k36_t hR p1 h (none) hs ho hF
    · have ho := ho.2 hc
      rw [if_neg hc] at hF
      refine zg_blk zd_108 1 hs (rfl : zb x zT0 zc_108 1 (16, [some (.ref 10), some (.int p1), none], [], h) = some (17, [some (.ref 10), some (.int p1), none], [.ref 10], h)) (fun hs => ?_)
      obtain ⟨hob, ho⟩ := ho
      refine zg_call hs zd_108 rfl rfl rfl rfl (as := [.ref 10]) (rest := []) (en := [some (.ref 10)]) rfl rfl rfl rfl rfl ?_
      refine f_Text_step_t  h hs hob (fun hs => ?_)
      show zg x (d + 21) 108 20 [some (.ref 10), some (.int p1), none] [] (f_Text_step h) Q
      exact f_Text_readTruth_k20_t hR p1 (f_Text_step h) (none) hs ho hF
set_option maxRecDepth 100000 in
theorem f_rec_t {x : zm_X} {d : Nat} : ∀ (n m : Nat) (p : Int32) (h : zm_H) (Q : Option Value → zm_H → Prop), zSh zT0 h → f_rec_ok n m p h → (zSh zT0 (f_rec n m p h) → Q none (f_rec n m p h)) → zg x (d + n + 20) m 0 (zm_en m [.ref 10, .int p]) [] h Q := by
  intro n
  induction n with
  | zero => intro m p h Q hs ho hF; exact ho.elim
  | succ n ih =>
    intro m p h Q hs ho hF
    rw [f_rec_ok] at ho
    rw [f_rec] at hF
    rcases ho with ⟨h1, ho⟩ | ⟨h1, ho⟩ | ⟨h1, ho⟩ | ⟨h1, ho⟩ | ⟨h1, ho⟩ | ⟨h1, ho⟩
    · subst h1
      have hF : zSh zT0 (f_Text_readSum (f_rec n) p h) → Q none (f_Text_readSum (f_rec n) p h) := hF
      exact f_Text_readSum_t (d := d + n) (R := f_rec n) (O := f_rec_ok n) ih p h hs ho hF
    · subst h1
      have hF : zSh zT0 (f_Text_readProduct (f_rec n) p h) → Q none (f_Text_readProduct (f_rec n) p h) := hF
      exact f_Text_readProduct_t (d := d + n) (R := f_rec n) (O := f_rec_ok n) ih p h hs ho hF
    · subst h1
      have hF : zSh zT0 (f_Text_readFactor (f_rec n) p h) → Q none (f_Text_readFactor (f_rec n) p h) := hF
      exact f_Text_readFactor_t (d := d + n) (R := f_rec n) (O := f_rec_ok n) ih p h hs ho hF
    · subst h1
      have hF : zSh zT0 (f_Text_readEither (f_rec n) p h) → Q none (f_Text_readEither (f_rec n) p h) := hF
      exact f_Text_readEither_t (d := d + n) (R := f_rec n) (O := f_rec_ok n) ih p h hs ho hF
    · subst h1
      have hF : zSh zT0 (f_Text_readBoth (f_rec n) p h) → Q none (f_Text_readBoth (f_rec n) p h) := hF
      exact f_Text_readBoth_t (d := d + n) (R := f_rec n) (O := f_rec_ok n) ih p h hs ho hF
    · subst h1
      have hF : zSh zT0 (f_Text_readTruth (f_rec n) p h) → Q none (f_Text_readTruth (f_rec n) p h) := hF
      exact f_Text_readTruth_t (d := d + n) (R := f_rec n) (O := f_rec_ok n) ih p h hs ho hF

theorem f_Text_readEither60_t {x : zm_X} {d : Nat} (p : Int32) (h : zm_H) {Q : Option Value → zm_H → Prop} (hs : zSh zT0 h) (ho : f_Text_readEither60_ok p h) (hF : zSh zT0 (f_Text_readEither60 p h) → Q none (f_Text_readEither60 p h)) : zg x (d + 80) 106 0 (zm_en 106 [.ref 10, .int p]) [] h Q := f_rec_t 60 106 p h Q hs ho hF
set_option maxRecDepth 100000 in
set_option maxHeartbeats 400000 in
theorem f_Text_readClause_k65_t {x : zm_X} {d : Nat} (v1 : Int32) (h : zm_H) {Q : Option Value → zm_H → Prop} (hs : zSh zT0 h) (ho : f_Text_readClause_k65_ok v1 h) (hF : (zSh zT0 (f_Text_readClause_k65 v1 h) → Q none (f_Text_readClause_k65 v1 h))) : zg x (d + 81) 99 65 [some (.ref 10), some (.int v1)] [] h Q := by
  unfold f_Text_readClause_k65 at hF
  unfold f_Text_readClause_k65_ok at ho
  refine zg_blk zd_99 5 hs (rfl : zb x zT0 zc_99 5 (65, [some (.ref 10), some (.int v1)], [], h) = some (74, [some (.ref 10), some (.int v1)], [.int (zf h 10 10), .int v1, .ref 14], h)) (fun hs => ?_)
  obtain ⟨hob, ho⟩ := ho
  refine zg_ias hs zd_99 rfl rfl hob (fun hs => ?_)
  refine zg_blk zd_99 2 hs (rfl : zb x zT0 zc_99 2 (75, [some (.ref 10), some (.int v1)], [], (zs h 14 v1 (zf h 10 10))) = some (78, [some (.ref 10), some (.int v1)], [.int 59, .ref 10], (zs h 14 v1 (zf h 10 10)))) (fun hs => ?_)
  have hob := ho
  refine zg_call hs zd_99 rfl rfl rfl rfl (as := [.ref 10, .int 59]) (rest := []) (en := [some (.ref 10), some (.int 59)]) rfl rfl rfl rfl rfl ?_
  refine f_Text_need_t 59 (zs h 14 v1 (zf h 10 10)) hs hob (fun hs => ?_)
  show zg x (d + 81) 99 81 [some (.ref 10), some (.int v1)] [] (f_Text_need 59 (zs h 14 v1 (zf h 10 10))) Q
  exact zg_ret zd_99 rfl rfl (hF hs)
theorem f_Text_readSum60_t {x : zm_X} {d : Nat} (p : Int32) (h : zm_H) {Q : Option Value → zm_H → Prop} (hs : zSh zT0 h) (ho : f_Text_readSum60_ok p h) (hF : zSh zT0 (f_Text_readSum60 p h) → Q none (f_Text_readSum60 p h)) : zg x (d + 80) 101 0 (zm_en 101 [.ref 10, .int p]) [] h Q := f_rec_t 60 101 p h Q hs ho hF
set_option maxRecDepth 100000 in
set_option maxHeartbeats 400000 in
theorem f_Text_readClause_k57_t {x : zm_X} {d : Nat} (v1 : Int32) (h : zm_H) {Q : Option Value → zm_H → Prop} (hs : zSh zT0 h) (ho : f_Text_readClause_k57_ok v1 h) (hF : (zSh zT0 (f_Text_readClause_k57 v1 h) → Q none (f_Text_readClause_k57 v1 h))) : zg x (d + 81) 99 57 [some (.ref 10), some (.int v1)] [] h Q := by
  unfold f_Text_readClause_k57 at hF
  unfold f_Text_readClause_k57_ok at ho
  refine zg_blk zd_99 1 hs (rfl : zb x zT0 zc_99 1 (57, [some (.ref 10), some (.int v1)], [], h) = some (65, [some (.ref 10), some (.int v1)], [], h)) (fun hs => ?_)
  exact f_Text_readClause_k65_t v1 h hs ho hF
set_option maxRecDepth 100000 in
set_option maxHeartbeats 400000 in
theorem f_Text_readClause_k37_t {x : zm_X} {d : Nat} (v1 : Int32) (h : zm_H) {Q : Option Value → zm_H → Prop} (hs : zSh zT0 h) (ho : f_Text_readClause_k37_ok v1 h) (hF : (zSh zT0 (f_Text_readClause_k37 v1 h) → Q none (f_Text_readClause_k37 v1 h))) : zg x (d + 81) 99 37 [some (.ref 10), some (.int v1)] [] h Q := by
  unfold f_Text_readClause_k37 at hF
  unfold f_Text_readClause_k37_ok at ho
  refine zg_blk zd_99 5 hs (rfl : zb x zT0 zc_99 5 (37, [some (.ref 10), some (.int v1)], [], h) = some (46, [some (.ref 10), some (.int v1)], [.int (zf h 10 10), .int v1, .ref 13], h)) (fun hs => ?_)
  obtain ⟨hob, ho⟩ := ho
  refine zg_ias hs zd_99 rfl rfl hob (fun hs => ?_)
  refine zg_blk zd_99 2 hs (rfl : zb x zT0 zc_99 2 (47, [some (.ref 10), some (.int v1)], [], (zs h 13 v1 (zf h 10 10))) = some (49, [some (.ref 10), some (.int v1)], [.int 3, .int v1], (zs h 13 v1 (zf h 10 10)))) (fun hs => ?_)
  refine zg_i_ne zd_99 rfl (fun (hc : ¬ (v1 = 3)) => ?_) (fun (hc : (v1 = 3)) => ?_)
  · have ho := ho.2 hc
    rw [if_neg hc] at hF
    refine zg_blk zd_99 2 hs (rfl : zb x zT0 zc_99 2 (60, [some (.ref 10), some (.int v1)], [], (zs h 13 v1 (zf h 10 10))) = some (62, [some (.ref 10), some (.int v1)], [.int 0, .ref 10], (zs h 13 v1 (zf h 10 10)))) (fun hs => ?_)
    obtain ⟨hob, ho⟩ := ho
    refine zg_call hs zd_99 rfl rfl rfl rfl (as := [.ref 10, .int 0]) (rest := []) (en := [some (.ref 10), some (.int 0), none]) rfl rfl rfl rfl rfl ?_
    refine f_Text_readEither60_t 0 (zs h 13 v1 (zf h 10 10)) hs hob (fun hs => ?_)
    show zg x (d + 81) 99 65 [some (.ref 10), some (.int v1)] [] (f_Text_readEither60 0 (zs h 13 v1 (zf h 10 10))) Q
    exact f_Text_readClause_k65_t v1 (f_Text_readEither60 0 (zs h 13 v1 (zf h 10 10))) hs ho hF
  · have ho := ho.1 hc
    rw [if_pos hc] at hF
    refine zg_blk zd_99 2 hs (rfl : zb x zT0 zc_99 2 (52, [some (.ref 10), some (.int v1)], [], (zs h 13 v1 (zf h 10 10))) = some (54, [some (.ref 10), some (.int v1)], [.int 0, .ref 10], (zs h 13 v1 (zf h 10 10)))) (fun hs => ?_)
    obtain ⟨hob, ho⟩ := ho
    refine zg_call hs zd_99 rfl rfl rfl rfl (as := [.ref 10, .int 0]) (rest := []) (en := [some (.ref 10), some (.int 0), none, none]) rfl rfl rfl rfl rfl ?_
    refine f_Text_readSum60_t 0 (zs h 13 v1 (zf h 10 10)) hs hob (fun hs => ?_)
    show zg x (d + 81) 99 57 [some (.ref 10), some (.int v1)] [] (f_Text_readSum60 0 (zs h 13 v1 (zf h 10 10))) Q
    exact f_Text_readClause_k57_t v1 (f_Text_readSum60 0 (zs h 13 v1 (zf h 10 10))) hs ho hF
set_option maxRecDepth 100000 in
set_option maxHeartbeats 400000 in
theorem f_Text_readClause_t {x : zm_X} {d : Nat} (h : zm_H) {Q : Option Value → zm_H → Prop} (hs : zSh zT0 h) (ho : f_Text_readClause_ok h) (hF : (zSh zT0 (f_Text_readClause h) → Q none (f_Text_readClause h))) : zg x (d + 81) 99 0 [some (.ref 10), none] [] h Q := by
  unfold f_Text_readClause at hF
  unfold f_Text_readClause_ok at ho
  refine zg_blk zd_99 6 hs (rfl : zb x zT0 zc_99 6 (0, [some (.ref 10), none], [], h) = some (10, [some (.ref 10), some (.int ((zf h 10 8) - 300))], [.int ((zf h 10 8) - 300)], h)) (fun hs => ?_)
  refine zg_f_lt zd_99 rfl (fun (hc : (((zf h 10 8) - 300) < 0)) => ?_) (fun (hc : ¬ (((zf h 10 8) - 300) < 0)) => ?_)
  · have ho := ho.1 hc
    rw [if_pos hc] at hF
    exact f_Text_readClause_k28_t h (some (.int ((zf h 10 8) - 300))) hs ho hF
  · have ho := ho.2 hc
    rw [if_neg hc] at hF
    refine zg_blk zd_99 2 hs (rfl : zb x zT0 zc_99 2 (13, [some (.ref 10), some (.int ((zf h 10 8) - 300))], [], h) = some (15, [some (.ref 10), some (.int ((zf h 10 8) - 300))], [.int 4, .int ((zf h 10 8) - 300)], h)) (fun hs => ?_)
    refine zg_i_ge zd_99 rfl (fun (hc : (4 ≤ ((zf h 10 8) - 300))) => ?_) (fun (hc : ¬ (4 ≤ ((zf h 10 8) - 300))) => ?_)
    · have ho := ho.1 hc
      rw [if_pos hc] at hF
      exact f_Text_readClause_k28_t h (some (.int ((zf h 10 8) - 300))) hs ho hF
    · have ho := ho.2 hc
      rw [if_neg hc] at hF
      refine zg_blk zd_99 3 hs (rfl : zb x zT0 zc_99 3 (18, [some (.ref 10), some (.int ((zf h 10 8) - 300))], [], h) = some (23, [some (.ref 10), some (.int ((zf h 10 8) - 300))], [.int ((zf h 10 8) - 300), .ref 13], h)) (fun hs => ?_)
      obtain ⟨hob, ho⟩ := ho
      refine zg_ial hs zd_99 rfl rfl hob ?_
      refine zg_blk zd_99 1 hs (rfl : zb x zT0 zc_99 1 (24, [some (.ref 10), some (.int ((zf h 10 8) - 300))], [.int (zr h 13 ((zf h 10 8) - 300))], h) = some (25, [some (.ref 10), some (.int ((zf h 10 8) - 300))], [.int (-1), .int (zr h 13 ((zf h 10 8) - 300))], h)) (fun hs => ?_)
      refine zg_i_eq zd_99 rfl (fun (hc : ((zr h 13 ((zf h 10 8) - 300)) = (-1))) => ?_) (fun (hc : ¬ ((zr h 13 ((zf h 10 8) - 300)) = (-1))) => ?_)
      · have ho := ho.1 hc
        rw [if_pos hc] at hF
        refine zg_blk zd_99 1 hs (rfl : zb x zT0 zc_99 1 (33, [some (.ref 10), some (.int ((zf h 10 8) - 300))], [], h) = some (34, [some (.ref 10), some (.int ((zf h 10 8) - 300))], [.ref 10], h)) (fun hs => ?_)
        obtain ⟨hob, ho⟩ := ho
        refine zg_call hs zd_99 rfl rfl rfl rfl (as := [.ref 10]) (rest := []) (en := [some (.ref 10)]) rfl rfl rfl rfl rfl ?_
        refine f_Text_step_t  h hs hob (fun hs => ?_)
        show zg x (d + 81) 99 37 [some (.ref 10), some (.int ((zf h 10 8) - 300))] [] (f_Text_step h) Q
        exact f_Text_readClause_k37_t ((zf h 10 8) - 300) (f_Text_step h) hs ho hF
      · have ho := ho.2 hc
        rw [if_neg hc] at hF
        exact f_Text_readClause_k28_t h (some (.int ((zf h 10 8) - 300))) hs ho hF
set_option maxRecDepth 100000 in
set_option maxHeartbeats 400000 in
theorem f_Text_findFault_l47_k76_t {x : zm_X} {d : Nat} (v1 : Int32) (h : zm_H) {Q : Option Value → zm_H → Prop} {FN : Nat × Int32 × zm_H → Prop} (hs : zSh zT0 h) (ho : f_Text_findFault_l47_k76_ok v1 h) (hF : FN (f_Text_findFault_l47_k76 v1 h)) (hl0 : ∀ (v1 : Int32) (h : zm_H), zSh zT0 h → FN (0, v1, h) → zg x (d + 82) 92 47 [some (.ref 10), some (.int v1)] [] h Q) (hl1 : ∀ (v1 : Int32) (h : zm_H) (o1 : Option Value), zSh zT0 h → FN (1, v1, h) → zg x (d + 82) 92 82 [some (.ref 10), o1] [] h Q) : zg x (d + 82) 92 76 [some (.ref 10), some (.int v1)] [] h Q := by
  unfold f_Text_findFault_l47_k76 at hF
  unfold f_Text_findFault_l47_k76_ok at ho
  refine zg_blk zd_92 2 hs (rfl : zb x zT0 zc_92 2 (76, [some (.ref 10), some (.int v1)], [], h) = some (47, [some (.ref 10), some (.int (v1 + 1))], [], h)) (fun hs => ?_)
  exact hl0 (v1 + 1) h hs hF
set_option maxRecDepth 100000 in
set_option maxHeartbeats 400000 in
theorem f_Text_findFault_l47_b_t {x : zm_X} {d : Nat} (v1 : Int32) (h : zm_H) {Q : Option Value → zm_H → Prop} {FN : Nat × Int32 × zm_H → Prop} (hs : zSh zT0 h) (ho : f_Text_findFault_l47_b_ok v1 h) (hF : FN (f_Text_findFault_l47_b v1 h)) (hl0 : ∀ (v1 : Int32) (h : zm_H), zSh zT0 h → FN (0, v1, h) → zg x (d + 82) 92 47 [some (.ref 10), some (.int v1)] [] h Q) (hl1 : ∀ (v1 : Int32) (h : zm_H) (o1 : Option Value), zSh zT0 h → FN (1, v1, h) → zg x (d + 82) 92 82 [some (.ref 10), o1] [] h Q) : zg x (d + 82) 92 47 [some (.ref 10), some (.int v1)] [] h Q := by
  unfold f_Text_findFault_l47_b at hF
  unfold f_Text_findFault_l47_b_ok at ho
  refine zg_blk zd_92 2 hs (rfl : zb x zT0 zc_92 2 (47, [some (.ref 10), some (.int v1)], [], h) = some (51, [some (.ref 10), some (.int v1)], [.int 400, .int v1], h)) (fun hs => ?_)
  refine zg_i_ge zd_92 rfl (fun (hc : (400 ≤ v1)) => ?_) (fun (hc : ¬ (400 ≤ v1)) => ?_)
  · have ho := ho.1 hc
    rw [if_pos hc] at hF
    exact hl1 v1 h (some (.int v1)) hs hF
  · have ho := ho.2 hc
    rw [if_neg hc] at hF
    refine zg_blk zd_92 3 hs (rfl : zb x zT0 zc_92 3 (54, [some (.ref 10), some (.int v1)], [], h) = some (59, [some (.ref 10), some (.int v1)], [.int (-1), .int (zf h 10 2)], h)) (fun hs => ?_)
    refine zg_i_ne zd_92 rfl (fun (hc : ¬ ((zf h 10 2) = (-1))) => ?_) (fun (hc : ((zf h 10 2) = (-1))) => ?_)
    · have ho := ho.2 hc
      rw [if_neg hc] at hF
      exact hl1 v1 h (some (.int v1)) hs hF
    · have ho := ho.1 hc
      rw [if_pos hc] at hF
      refine zg_blk zd_92 3 hs (rfl : zb x zT0 zc_92 3 (62, [some (.ref 10), some (.int v1)], [], h) = some (69, [some (.ref 10), some (.int v1)], [.int 257, .int (zf h 10 8)], h)) (fun hs => ?_)
      refine zg_i_eq zd_92 rfl (fun (hc : ((zf h 10 8) = 257)) => ?_) (fun (hc : ¬ ((zf h 10 8) = 257)) => ?_)
      · have ho := ho.1 hc
        rw [if_pos hc] at hF
        exact hl1 v1 h (some (.int v1)) hs hF
      · have ho := ho.2 hc
        rw [if_neg hc] at hF
        refine zg_blk zd_92 1 hs (rfl : zb x zT0 zc_92 1 (72, [some (.ref 10), some (.int v1)], [], h) = some (73, [some (.ref 10), some (.int v1)], [.ref 10], h)) (fun hs => ?_)
        have hob := ho
        refine zg_call hs zd_92 rfl rfl rfl rfl (as := [.ref 10]) (rest := []) (en := [some (.ref 10), none]) rfl rfl rfl rfl rfl ?_
        refine f_Text_readClause_t  h hs hob (fun hs => ?_)
        show zg x (d + 82) 92 76 [some (.ref 10), some (.int v1)] [] (f_Text_readClause h) Q
        exact f_Text_findFault_l47_k76_t v1 (f_Text_readClause h) hs trivial hF hl0 hl1
theorem f_Text_findFault_l47_t {x : zm_X} {d : Nat} {Q : Option Value → zm_H → Prop} (G : Nat × Int32 × zm_H → Prop) (hx1 : ∀ (v1 : Int32) (h : zm_H) (o1 : Option Value), zSh zT0 h → G (1, v1, h) → zg x (d + 82) 92 82 [some (.ref 10), o1] [] h Q) : ∀ (n : Nat) (v1 : Int32) (h : zm_H), zSh zT0 h → f_Text_findFault_l47_ok n (v1, h) → G (f_Text_findFault_l47 n (v1, h)) → zg x (d + 82) 92 47 [some (.ref 10), some (.int v1)] [] h Q := by
  intro n
  induction n with
  | zero => intro v1 h hs ho hG; exact ho.elim
  | succ n ih =>
    intro v1 h hs ho hG
    refine f_Text_findFault_l47_b_t (FN := fun r => (r.1 = 0 → f_Text_findFault_l47_ok n r.2) ∧ G (if r.1 = 0 then f_Text_findFault_l47 n r.2 else r)) v1 h hs ho.1 ⟨ho.2, hG⟩ ?_ ?_
    · intro v1 h hs hF
      exact ih v1 h hs (hF.1 rfl) hF.2
    · intro v1 h o1 hs hF
      exact hx1 v1 h o1 hs hF.2

set_option maxRecDepth 100000 in
set_option maxHeartbeats 400000 in
theorem f_Text_findFault_k82_t {x : zm_X} {d : Nat} (h : zm_H) (o1 : Option Value) {Q : Option Value → zm_H → Prop} (hs : zSh zT0 h) (ho : f_Text_findFault_k82_ok h) (hF : (zSh zT0 (f_Text_findFault_k82 h).2 → Q (some (.int (f_Text_findFault_k82 h).1)) (f_Text_findFault_k82 h).2)) : zg x (d + 82) 92 82 [some (.ref 10), o1] [] h Q := by
  unfold f_Text_findFault_k82 at hF
  unfold f_Text_findFault_k82_ok at ho
  refine zg_blk zd_92 2 hs (rfl : zb x zT0 zc_92 2 (82, [some (.ref 10), o1], [], h) = some (86, [some (.ref 10), o1], [.int (zf h 10 2)], h)) (fun hs => ?_)
  exact zg_ret zd_92 rfl rfl (hF hs)
set_option maxRecDepth 100000 in
set_option maxHeartbeats 400000 in
theorem f_Text_findFault_k30_t {x : zm_X} {d : Nat} (h : zm_H) (o1 : Option Value) {Q : Option Value → zm_H → Prop} (hs : zSh zT0 h) (ho : f_Text_findFault_k30_ok h) (hF : (zSh zT0 (f_Text_findFault_k30 h).2 → Q (some (.int (f_Text_findFault_k30 h).1)) (f_Text_findFault_k30 h).2)) : zg x (d + 82) 92 30 [some (.ref 10), o1] [] h Q := by
  unfold f_Text_findFault_k30 at hF
  unfold f_Text_findFault_k30_ok at ho
  refine zg_blk zd_92 7 hs (rfl : zb x zT0 zc_92 7 (30, [some (.ref 10), o1], [], h) = some (41, [some (.ref 10), o1], [.int 0, .ref 162, .ref 10], (zp h 10 7 0))) (fun hs => ?_)
  refine zg_ial hs zd_92 rfl rfl (by unfold vp_in; decide) ?_
  refine zg_blk zd_92 3 hs (rfl : zb x zT0 zc_92 3 (42, [some (.ref 10), o1], [.int (zr h 162 0), .ref 10], (zp h 10 7 0)) = some (47, [some (.ref 10), some (.int 0)], [], (zp (zp h 10 7 0) 10 8 (zr h 162 0)))) (fun hs => ?_)
  refine f_Text_findFault_l47_t  (fun r => f_Text_findFault_a47_ok r ∧ (zSh zT0 (f_Text_findFault_a47 r).2 → Q (some (.int (f_Text_findFault_a47 r).1)) (f_Text_findFault_a47 r).2)) ?_ zF 0 (zp (zp h 10 7 0) 10 8 (zr h 162 0)) hs ho.1 ⟨ho.2, hF⟩
  · intro v1_ h_ o1_ hs hG
    have ho : True := trivial
    have hF : (zSh zT0 ((f_Text_findFault_k82 h_)).2 → Q (some (.int ((f_Text_findFault_k82 h_)).1)) ((f_Text_findFault_k82 h_)).2) := hG.2
    exact f_Text_findFault_k82_t h_ (o1_) hs trivial hF
set_option maxRecDepth 100000 in
set_option maxHeartbeats 400000 in
theorem f_Text_findFault_k26_t {x : zm_X} {d : Nat} (h : zm_H) (o1 : Option Value) {Q : Option Value → zm_H → Prop} (hs : zSh zT0 h) (ho : f_Text_findFault_k26_ok h) (hF : (zSh zT0 (f_Text_findFault_k26 h).2 → Q (some (.int (f_Text_findFault_k26 h).1)) (f_Text_findFault_k26 h).2)) : zg x (d + 82) 92 26 [some (.ref 10), o1] [] h Q := by
  unfold f_Text_findFault_k26 at hF
  unfold f_Text_findFault_k26_ok at ho
  refine zg_blk zd_92 1 hs (rfl : zb x zT0 zc_92 1 (26, [some (.ref 10), o1], [], h) = some (27, [some (.ref 10), o1], [.ref 10], h)) (fun hs => ?_)
  obtain ⟨hob, ho⟩ := ho
  refine zg_call hs zd_92 rfl rfl rfl rfl (as := [.ref 10]) (rest := []) (en := [some (.ref 10), none, none]) rfl rfl rfl rfl rfl ?_
  refine f_Text_readTokens_t  h hs hob (fun hs => ?_)
  show zg x (d + 82) 92 30 [some (.ref 10), o1] [] (f_Text_readTokens h) Q
  exact f_Text_findFault_k30_t (f_Text_readTokens h) (o1) hs ho hF
set_option maxRecDepth 100000 in
set_option maxHeartbeats 400000 in
theorem f_Text_findFault_k18_t {x : zm_X} {d : Nat} (h : zm_H) (o1 : Option Value) {Q : Option Value → zm_H → Prop} (hs : zSh zT0 h) (ho : f_Text_findFault_k18_ok h) (hF : (zSh zT0 (f_Text_findFault_k18 h).2 → Q (some (.int (f_Text_findFault_k18 h).1)) (f_Text_findFault_k18 h).2)) : zg x (d + 82) 92 18 [some (.ref 10), o1] [] h Q := by
  unfold f_Text_findFault_k18 at hF
  unfold f_Text_findFault_k18_ok at ho
  refine zg_blk zd_92 3 hs (rfl : zb x zT0 zc_92 3 (18, [some (.ref 10), o1], [], h) = some (23, [some (.ref 10), o1], [.int (-1), .ref 14], h)) (fun hs => ?_)
  obtain ⟨hob, ho⟩ := ho
  refine zg_call hs zd_92 rfl rfl rfl rfl (as := [.ref 14, .int (-1)]) (rest := []) (en := [some (.ref 14), some (.int (-1)), none, none]) rfl rfl rfl rfl rfl ?_
  refine f_Arrays_fill_14_t (-1) h hs hob (fun hs => ?_)
  show zg x (d + 82) 92 26 [some (.ref 10), o1] [] (f_Arrays_fill_14 (-1) h) Q
  exact f_Text_findFault_k26_t (f_Arrays_fill_14 (-1) h) (o1) hs ho hF
set_option maxRecDepth 100000 in
set_option maxHeartbeats 400000 in
theorem f_Text_findFault_t {x : zm_X} {d : Nat} (h : zm_H) {Q : Option Value → zm_H → Prop} (hs : zSh zT0 h) (ho : f_Text_findFault_ok h) (hF : (zSh zT0 (f_Text_findFault h).2 → Q (some (.int (f_Text_findFault h).1)) (f_Text_findFault h).2)) : zg x (d + 82) 92 0 [some (.ref 10), none] [] h Q := by
  unfold f_Text_findFault at hF
  unfold f_Text_findFault_ok at ho
  refine zg_blk zd_92 9 hs (rfl : zb x zT0 zc_92 9 (0, [some (.ref 10), none], [], h) = some (15, [some (.ref 10), none], [.int (-1), .ref 13], (zp (zp h 10 2 (-1)) 10 10 0))) (fun hs => ?_)
  obtain ⟨hob, ho⟩ := ho
  refine zg_call hs zd_92 rfl rfl rfl rfl (as := [.ref 13, .int (-1)]) (rest := []) (en := [some (.ref 13), some (.int (-1)), none, none]) rfl rfl rfl rfl rfl ?_
  refine f_Arrays_fill_13_t (-1) (zp (zp h 10 2 (-1)) 10 10 0) hs hob (fun hs => ?_)
  show zg x (d + 82) 92 18 [some (.ref 10), none] [] (f_Arrays_fill_13 (-1) (zp (zp h 10 2 (-1)) 10 10 0)) Q
  exact f_Text_findFault_k18_t (f_Arrays_fill_13 (-1) (zp (zp h 10 2 (-1)) 10 10 0)) (none) hs ho hF
set_option maxRecDepth 100000 in
set_option maxHeartbeats 400000 in
theorem f_N_fault_t {x : zm_X} {d : Nat} (h : zm_H) {Q : Option Value → zm_H → Prop} (hs : zSh zT0 h) (ho : f_N_fault_ok h) (hF : (zSh zT0 (f_N_fault h).2 → Q (some (.int (f_N_fault h).1)) (f_N_fault h).2)) : zg x (d + 83) 130 0 [some (.ref 0)] [] h Q := by
  unfold f_N_fault at hF
  unfold f_N_fault_ok at ho
  refine zg_blk zd_130 2 hs (rfl : zb x zT0 zc_130 2 (0, [some (.ref 0)], [], h) = some (4, [some (.ref 0)], [.ref 10], h)) (fun hs => ?_)
  have hob := ho
  refine zg_call hs zd_130 rfl rfl rfl rfl (as := [.ref 10]) (rest := []) (en := [some (.ref 10), none]) rfl rfl rfl rfl rfl ?_
  refine f_Text_findFault_t  h hs hob (fun hs => ?_)
  show zg x (d + 83) 130 7 [some (.ref 0)] [.int (f_Text_findFault h).1] (f_Text_findFault h).2 Q
  exact zg_ret zd_130 rfl rfl (hF hs)
theorem zd_178 : zm_cd 178 = zc_178 := by rfl
theorem zd_179 : zm_cd 179 = zc_179 := by rfl
set_option maxRecDepth 100000 in
set_option maxHeartbeats 400000 in
theorem f_M_reads_l22_b_t {x : zm_X} {d : Nat} (v1 : Int32) (h : zm_H) {Q : Option Value → zm_H → Prop} {FN : Nat × Int32 × zm_H → Prop} (hs : zSh zT0 h) (ho : f_M_reads_l22_b_ok v1 h) (hF : FN (f_M_reads_l22_b v1 h)) (hl0 : ∀ (v1 : Int32) (h : zm_H), zSh zT0 h → FN (0, v1, h) → zg x (d + 6) 179 22 [some (.ref 92), some (.int v1)] [] h Q) (hl1 : ∀ (v1 : Int32) (h : zm_H) (o1 : Option Value), zSh zT0 h → FN (1, v1, h) → zg x (d + 6) 179 40 [some (.ref 92), o1] [] h Q) : zg x (d + 6) 179 22 [some (.ref 92), some (.int v1)] [] h Q := by
  unfold f_M_reads_l22_b at hF
  unfold f_M_reads_l22_b_ok at ho
  refine zg_blk zd_179 2 hs (rfl : zb x zT0 zc_179 2 (22, [some (.ref 92), some (.int v1)], [], h) = some (24, [some (.ref 92), some (.int v1)], [.int 4, .int v1], h)) (fun hs => ?_)
  refine zg_i_ge zd_179 rfl (fun (hc : (4 ≤ v1)) => ?_) (fun (hc : ¬ (4 ≤ v1)) => ?_)
  · have ho := ho.1 hc
    rw [if_pos hc] at hF
    exact hl1 v1 h (some (.int v1)) hs hF
  · have ho := ho.2 hc
    rw [if_neg hc] at hF
    refine zg_blk zd_179 4 hs (rfl : zb x zT0 zc_179 4 (27, [some (.ref 92), some (.int v1)], [], h) = some (33, [some (.ref 92), some (.int v1)], [.int (-1), .int v1, .ref 97], h)) (fun hs => ?_)
    have hob := ho
    refine zg_ias hs zd_179 rfl rfl hob (fun hs => ?_)
    refine zg_blk zd_179 2 hs (rfl : zb x zT0 zc_179 2 (34, [some (.ref 92), some (.int v1)], [], (zs h 97 v1 (-1))) = some (22, [some (.ref 92), some (.int (v1 + 1))], [], (zs h 97 v1 (-1)))) (fun hs => ?_)
    exact hl0 (v1 + 1) (zs h 97 v1 (-1)) hs hF
theorem f_M_reads_l22_t {x : zm_X} {d : Nat} {Q : Option Value → zm_H → Prop} (G : Nat × Int32 × zm_H → Prop) (hx1 : ∀ (v1 : Int32) (h : zm_H) (o1 : Option Value), zSh zT0 h → G (1, v1, h) → zg x (d + 6) 179 40 [some (.ref 92), o1] [] h Q) : ∀ (n : Nat) (v1 : Int32) (h : zm_H), zSh zT0 h → f_M_reads_l22_ok n (v1, h) → G (f_M_reads_l22 n (v1, h)) → zg x (d + 6) 179 22 [some (.ref 92), some (.int v1)] [] h Q := by
  intro n
  induction n with
  | zero => intro v1 h hs ho hG; exact ho.elim
  | succ n ih =>
    intro v1 h hs ho hG
    refine f_M_reads_l22_b_t (FN := fun r => (r.1 = 0 → f_M_reads_l22_ok n r.2) ∧ G (if r.1 = 0 then f_M_reads_l22 n r.2 else r)) v1 h hs ho.1 ⟨ho.2, hG⟩ ?_ ?_
    · intro v1 h hs hF
      exact ih v1 h hs (hF.1 rfl) hF.2
    · intro v1 h o1 hs hF
      exact hx1 v1 h o1 hs hF.2

theorem zd_180 : zm_cd 180 = zc_180 := by rfl
set_option maxRecDepth 100000 in
set_option maxHeartbeats 400000 in
theorem f_M_follows_l0_b_t {x : zm_X} {d : Nat} (h : zm_H) (o1 : Option Value) {Q : Option Value → zm_H → Prop} {FN : Nat × zm_H → Prop} (hs : zSh zT0 h) (ho : f_M_follows_l0_b_ok h) (hF : FN (f_M_follows_l0_b h)) (hl0 : ∀ (h : zm_H) (o1 : Option Value), zSh zT0 h → FN (0, h) → zg x (d + 2) 180 0 [some (.ref 92), o1] [] h Q) (hl1 : ∀ (h : zm_H) (o1 : Option Value), zSh zT0 h → FN (1, h) → zg x (d + 2) 180 38 [some (.ref 92), o1] [] h Q) : zg x (d + 2) 180 0 [some (.ref 92), o1] [] h Q := by
  unfold f_M_follows_l0_b at hF
  unfold f_M_follows_l0_b_ok at ho
  refine zg_blk zd_180 4 hs (rfl : zb x zT0 zc_180 4 (0, [some (.ref 92), o1], [], h) = some (8, [some (.ref 92), o1], [.int (zf h 92 1), .int (zf h 92 2)], h)) (fun hs => ?_)
  refine zg_i_ge zd_180 rfl (fun (hc : ((zf h 92 1) ≤ (zf h 92 2))) => ?_) (fun (hc : ¬ ((zf h 92 1) ≤ (zf h 92 2))) => ?_)
  · have ho := ho.1 hc
    rw [if_pos hc] at hF
    exact hl1 h (o1) hs hF
  · have ho := ho.2 hc
    rw [if_neg hc] at hF
    refine zg_blk zd_180 4 hs (rfl : zb x zT0 zc_180 4 (11, [some (.ref 92), o1], [], h) = some (19, [some (.ref 92), o1], [.int (zf h 92 2), .ref 93], h)) (fun hs => ?_)
    have hob := ho
    refine zg_bal hs zd_180 rfl rfl (by decide) hob ?_
    refine zg_blk zd_180 1 hs (rfl : zb x zT0 zc_180 1 (20, [some (.ref 92), o1], [.int (zr h 93 (zf h 92 2))], h) = some (22, [some (.ref 92), o1], [.int 32, .int (zr h 93 (zf h 92 2))], h)) (fun hs => ?_)
    refine zg_i_ne zd_180 rfl (fun (hc : ¬ ((zr h 93 (zf h 92 2)) = 32)) => ?_) (fun (hc : ((zr h 93 (zf h 92 2)) = 32)) => ?_)
    · skip
      rw [if_neg hc] at hF
      exact hl1 h (o1) hs hF
    · skip
      rw [if_pos hc] at hF
      refine zg_blk zd_180 7 hs (rfl : zb x zT0 zc_180 7 (25, [some (.ref 92), o1], [], h) = some (0, [some (.ref 92), o1], [], (zp h 92 2 ((zf h 92 2) + 1)))) (fun hs => ?_)
      exact hl0 (zp h 92 2 ((zf h 92 2) + 1)) (o1) hs hF
theorem f_M_follows_l0_t {x : zm_X} {d : Nat} {Q : Option Value → zm_H → Prop} (G : Nat × zm_H → Prop) (hx1 : ∀ (h : zm_H) (o1 : Option Value), zSh zT0 h → G (1, h) → zg x (d + 2) 180 38 [some (.ref 92), o1] [] h Q) : ∀ (n : Nat) (h : zm_H) (o1 : Option Value), zSh zT0 h → f_M_follows_l0_ok n h → G (f_M_follows_l0 n h) → zg x (d + 2) 180 0 [some (.ref 92), o1] [] h Q := by
  intro n
  induction n with
  | zero => intro h o1 hs ho hG; exact ho.elim
  | succ n ih =>
    intro h o1 hs ho hG
    refine f_M_follows_l0_b_t (FN := fun r => (r.1 = 0 → f_M_follows_l0_ok n r.2) ∧ G (if r.1 = 0 then f_M_follows_l0 n r.2 else r))  h o1 hs ho.1 ⟨ho.2, hG⟩ ?_ ?_
    · intro h o1 hs hF
      exact ih h o1 hs (hF.1 rfl) hF.2
    · intro h o1 hs hF
      exact hx1 h o1 hs hF.2

theorem zd_181 : zm_cd 181 = zc_181 := by rfl
set_option maxRecDepth 100000 in
set_option maxHeartbeats 400000 in
theorem f_M_isLetter_t {x : zm_X} {d : Nat} (p0 : Int32) (h : zm_H) {Q : Option Value → zm_H → Prop} (hs : zSh zT0 h) (ho : f_M_isLetter_ok p0 h) (hF : Q (some (.int (f_M_isLetter p0 h))) h) : zg x (d + 1) 181 0 [some (.int p0)] [] h Q := by
  unfold f_M_isLetter at hF
  unfold f_M_isLetter_ok at ho
  refine zg_blk zd_181 2 hs (rfl : zb x zT0 zc_181 2 (0, [some (.int p0)], [], h) = some (3, [some (.int p0)], [.int 97, .int p0], h)) (fun hs => ?_)
  have K19 : zSh zT0 h → zg x (d + 1) 181 17 [some (.int p0)] [.int (if (¬ (p0 < 97) ∧ (¬ (122 < p0))) then (1 : Int32) else 0)] h Q := fun hs => by
    exact zg_rtz zd_181 rfl rfl zm_nb01 hF
  refine zg_i_lt zd_181 rfl (fun (hc : (p0 < 97)) => ?_) (fun (hc : ¬ (p0 < 97)) => ?_)
  · skip
    rw [show ((if (¬ (p0 < 97) ∧ (¬ (122 < p0))) then (1 : Int32) else 0) : Int32) = 0 from zb_nand_t hc] at K19
    refine zg_blk zd_181 1 hs (rfl : zb x zT0 zc_181 1 (16, [some (.int p0)], [], h) = some (17, [some (.int p0)], [.int 0], h)) (fun hs => ?_)
    exact K19 hs
  · skip
    rw [show ((if (¬ (p0 < 97) ∧ (¬ (122 < p0))) then (1 : Int32) else 0) : Int32) = (if (¬ (122 < p0)) then (1 : Int32) else 0) from zb_nand_f hc] at K19
    refine zg_blk zd_181 2 hs (rfl : zb x zT0 zc_181 2 (6, [some (.int p0)], [], h) = some (9, [some (.int p0)], [.int 122, .int p0], h)) (fun hs => ?_)
    refine zg_i_gt zd_181 rfl (fun (hc : (122 < p0)) => ?_) (fun (hc : ¬ (122 < p0)) => ?_)
    · skip
      rw [show ((if (¬ (122 < p0)) then (1 : Int32) else 0) : Int32) = 0 from zb_not_t hc] at K19
      refine zg_blk zd_181 1 hs (rfl : zb x zT0 zc_181 1 (16, [some (.int p0)], [], h) = some (17, [some (.int p0)], [.int 0], h)) (fun hs => ?_)
      exact K19 hs
    · skip
      rw [show ((if (¬ (122 < p0)) then (1 : Int32) else 0) : Int32) = 1 from zb_not_f hc] at K19
      refine zg_blk zd_181 2 hs (rfl : zb x zT0 zc_181 2 (12, [some (.int p0)], [], h) = some (17, [some (.int p0)], [.int 1], h)) (fun hs => ?_)
      exact K19 hs
theorem zd_183 : zm_cd 183 = zc_183 := by rfl
set_option maxRecDepth 100000 in
set_option maxHeartbeats 400000 in
theorem f_M_isDigit_t {x : zm_X} {d : Nat} (p0 : Int32) (h : zm_H) {Q : Option Value → zm_H → Prop} (hs : zSh zT0 h) (ho : f_M_isDigit_ok p0 h) (hF : Q (some (.int (f_M_isDigit p0 h))) h) : zg x (d + 1) 183 0 [some (.int p0)] [] h Q := by
  unfold f_M_isDigit at hF
  unfold f_M_isDigit_ok at ho
  refine zg_blk zd_183 2 hs (rfl : zb x zT0 zc_183 2 (0, [some (.int p0)], [], h) = some (3, [some (.int p0)], [.int 48, .int p0], h)) (fun hs => ?_)
  have K20 : zSh zT0 h → zg x (d + 1) 183 17 [some (.int p0)] [.int (if (¬ (p0 < 48) ∧ (¬ (57 < p0))) then (1 : Int32) else 0)] h Q := fun hs => by
    exact zg_rtz zd_183 rfl rfl zm_nb01 hF
  refine zg_i_lt zd_183 rfl (fun (hc : (p0 < 48)) => ?_) (fun (hc : ¬ (p0 < 48)) => ?_)
  · skip
    rw [show ((if (¬ (p0 < 48) ∧ (¬ (57 < p0))) then (1 : Int32) else 0) : Int32) = 0 from zb_nand_t hc] at K20
    refine zg_blk zd_183 1 hs (rfl : zb x zT0 zc_183 1 (16, [some (.int p0)], [], h) = some (17, [some (.int p0)], [.int 0], h)) (fun hs => ?_)
    exact K20 hs
  · skip
    rw [show ((if (¬ (p0 < 48) ∧ (¬ (57 < p0))) then (1 : Int32) else 0) : Int32) = (if (¬ (57 < p0)) then (1 : Int32) else 0) from zb_nand_f hc] at K20
    refine zg_blk zd_183 2 hs (rfl : zb x zT0 zc_183 2 (6, [some (.int p0)], [], h) = some (9, [some (.int p0)], [.int 57, .int p0], h)) (fun hs => ?_)
    refine zg_i_gt zd_183 rfl (fun (hc : (57 < p0)) => ?_) (fun (hc : ¬ (57 < p0)) => ?_)
    · skip
      rw [show ((if (¬ (57 < p0)) then (1 : Int32) else 0) : Int32) = 0 from zb_not_t hc] at K20
      refine zg_blk zd_183 1 hs (rfl : zb x zT0 zc_183 1 (16, [some (.int p0)], [], h) = some (17, [some (.int p0)], [.int 0], h)) (fun hs => ?_)
      exact K20 hs
    · skip
      rw [show ((if (¬ (57 < p0)) then (1 : Int32) else 0) : Int32) = 1 from zb_not_f hc] at K20
      refine zg_blk zd_183 2 hs (rfl : zb x zT0 zc_183 2 (12, [some (.int p0)], [], h) = some (17, [some (.int p0)], [.int 1], h)) (fun hs => ?_)
      exact K20 hs
set_option maxRecDepth 100000 in
set_option maxHeartbeats 400000 in
theorem f_M_follows_l155_b_t {x : zm_X} {d : Nat} (h : zm_H) (o1 : Option Value) {Q : Option Value → zm_H → Prop} {FN : Nat × zm_H → Prop} (hs : zSh zT0 h) (ho : f_M_follows_l155_b_ok h) (hF : FN (f_M_follows_l155_b h)) (hl0 : ∀ (h : zm_H) (o1 : Option Value), zSh zT0 h → FN (0, h) → zg x (d + 2) 180 155 [some (.ref 92), o1] [] h Q) (hl1 : ∀ (h : zm_H) (o1 : Option Value), zSh zT0 h → FN (1, h) → zg x (d + 2) 180 234 [some (.ref 92), o1] [] h Q) : zg x (d + 2) 180 155 [some (.ref 92), o1] [] h Q := by
  unfold f_M_follows_l155_b at hF
  unfold f_M_follows_l155_b_ok at ho
  refine zg_blk zd_180 4 hs (rfl : zb x zT0 zc_180 4 (155, [some (.ref 92), o1], [], h) = some (163, [some (.ref 92), o1], [.int (zf h 92 1), .int (zf h 92 2)], h)) (fun hs => ?_)
  refine zg_i_ge zd_180 rfl (fun (hc : ((zf h 92 1) ≤ (zf h 92 2))) => ?_) (fun (hc : ¬ ((zf h 92 1) ≤ (zf h 92 2))) => ?_)
  · have ho := ho.1 hc
    rw [if_pos hc] at hF
    exact hl1 h (o1) hs hF
  · have ho := ho.2 hc
    rw [if_neg hc] at hF
    refine zg_blk zd_180 4 hs (rfl : zb x zT0 zc_180 4 (166, [some (.ref 92), o1], [], h) = some (174, [some (.ref 92), o1], [.int (zf h 92 2), .ref 93], h)) (fun hs => ?_)
    obtain ⟨hob, ho⟩ := ho
    refine zg_bal hs zd_180 rfl rfl (by decide) hob ?_
    refine zg_call hs zd_180 rfl rfl rfl rfl (as := [.int (zr h 93 (zf h 92 2))]) (rest := []) (en := [some (.int (zr h 93 (zf h 92 2)))]) rfl rfl rfl rfl rfl ?_
    refine f_M_isDigit_t (zr h 93 (zf h 92 2)) h hs trivial ?_
    show zg x (d + 2) 180 178 [some (.ref 92), o1] [.int (if (¬ ((zr h 93 (zf h 92 2)) < 48) ∧ (¬ (57 < (zr h 93 (zf h 92 2))))) then (1 : Int32) else 0)] h Q
    refine zg_b_eq zd_180 rfl (fun (hc : ¬ (¬ ((zr h 93 (zf h 92 2)) < 48) ∧ (¬ (57 < (zr h 93 (zf h 92 2)))))) => ?_) (fun (hc : (¬ ((zr h 93 (zf h 92 2)) < 48) ∧ (¬ (57 < (zr h 93 (zf h 92 2)))))) => ?_)
    · have ho := ho.2 hc
      rw [if_neg hc] at hF
      exact hl1 h (o1) hs hF
    · have ho := ho.1 hc
      rw [if_pos hc] at hF
      refine zg_blk zd_180 4 hs (rfl : zb x zT0 zc_180 4 (181, [some (.ref 92), o1], [], h) = some (188, [some (.ref 92), o1], [.int 1000000, .int (zf h 92 5), .ref 92], h)) (fun hs => ?_)
      have hom := ho
      have K21 : zSh zT0 h → zg x (d + 2) 180 218 [some (.ref 92), o1] [.int (if ((zf h 92 5) ≤ 1000000) then ((((10 * (zf h 92 5)) + (zr h 93 (zf h 92 2))) - 48) : Int32) else (zf h 92 5)), .ref 92] h Q := fun hs => by
        refine zg_blk zd_180 8 hs (rfl : zb x zT0 zc_180 8 (218, [some (.ref 92), o1], [.int (if ((zf h 92 5) ≤ 1000000) then ((((10 * (zf h 92 5)) + (zr h 93 (zf h 92 2))) - 48) : Int32) else (zf h 92 5)), .ref 92], h) = some (155, [some (.ref 92), o1], [], (zp (zp h 92 5 (if ((zf h 92 5) ≤ 1000000) then ((((10 * (zf h 92 5)) + (zr h 93 (zf h 92 2))) - 48) : Int32) else (zf h 92 5))) 92 2 ((zf h 92 2) + 1)))) (fun hs => ?_)
        exact hl0 (zp (zp h 92 5 (if ((zf h 92 5) ≤ 1000000) then ((((10 * (zf h 92 5)) + (zr h 93 (zf h 92 2))) - 48) : Int32) else (zf h 92 5))) 92 2 ((zf h 92 2) + 1)) (o1) hs hF
      refine zg_i_le zd_180 rfl (fun (hc : ((zf h 92 5) ≤ 1000000)) => ?_) (fun (hc : ¬ ((zf h 92 5) ≤ 1000000)) => ?_)
      · have ho := hom.1 hc
        rw [show ((if ((zf h 92 5) ≤ 1000000) then ((((10 * (zf h 92 5)) + (zr h 93 (zf h 92 2))) - 48) : Int32) else (zf h 92 5)) : Int32) = (((10 * (zf h 92 5)) + (zr h 93 (zf h 92 2))) - 48) from if_pos hc] at K21
        refine zg_blk zd_180 8 hs (rfl : zb x zT0 zc_180 8 (198, [some (.ref 92), o1], [.ref 92], h) = some (213, [some (.ref 92), o1], [.int (zf h 92 2), .ref 93, .int (10 * (zf h 92 5)), .ref 92], h)) (fun hs => ?_)
        have hob := ho
        refine zg_bal hs zd_180 rfl rfl (by decide) hob ?_
        refine zg_blk zd_180 3 hs (rfl : zb x zT0 zc_180 3 (214, [some (.ref 92), o1], [.int (zr h 93 (zf h 92 2)), .int (10 * (zf h 92 5)), .ref 92], h) = some (218, [some (.ref 92), o1], [.int (((10 * (zf h 92 5)) + (zr h 93 (zf h 92 2))) - 48), .ref 92], h)) (fun hs => ?_)
        exact K21 hs
      · have ho := hom.2 hc
        rw [show ((if ((zf h 92 5) ≤ 1000000) then ((((10 * (zf h 92 5)) + (zr h 93 (zf h 92 2))) - 48) : Int32) else (zf h 92 5)) : Int32) = (zf h 92 5) from if_neg hc] at K21
        refine zg_blk zd_180 3 hs (rfl : zb x zT0 zc_180 3 (191, [some (.ref 92), o1], [.ref 92], h) = some (218, [some (.ref 92), o1], [.int (zf h 92 5), .ref 92], h)) (fun hs => ?_)
        exact K21 hs
theorem f_M_follows_l155_t {x : zm_X} {d : Nat} {Q : Option Value → zm_H → Prop} (G : Nat × zm_H → Prop) (hx1 : ∀ (h : zm_H) (o1 : Option Value), zSh zT0 h → G (1, h) → zg x (d + 2) 180 234 [some (.ref 92), o1] [] h Q) : ∀ (n : Nat) (h : zm_H) (o1 : Option Value), zSh zT0 h → f_M_follows_l155_ok n h → G (f_M_follows_l155 n h) → zg x (d + 2) 180 155 [some (.ref 92), o1] [] h Q := by
  intro n
  induction n with
  | zero => intro h o1 hs ho hG; exact ho.elim
  | succ n ih =>
    intro h o1 hs ho hG
    refine f_M_follows_l155_b_t (FN := fun r => (r.1 = 0 → f_M_follows_l155_ok n r.2) ∧ G (if r.1 = 0 then f_M_follows_l155 n r.2 else r))  h o1 hs ho.1 ⟨ho.2, hG⟩ ?_ ?_
    · intro h o1 hs hF
      exact ih h o1 hs (hF.1 rfl) hF.2
    · intro h o1 hs hF
      exact hx1 h o1 hs hF.2

set_option maxRecDepth 100000 in
set_option maxHeartbeats 400000 in
theorem f_M_follows_l85_b_t {x : zm_X} {d : Nat} (h : zm_H) (o1 : Option Value) {Q : Option Value → zm_H → Prop} {FN : Nat × zm_H → Prop} (hs : zSh zT0 h) (ho : f_M_follows_l85_b_ok h) (hF : FN (f_M_follows_l85_b h)) (hl0 : ∀ (h : zm_H) (o1 : Option Value), zSh zT0 h → FN (0, h) → zg x (d + 2) 180 85 [some (.ref 92), o1] [] h Q) (hl1 : ∀ (h : zm_H) (o1 : Option Value), zSh zT0 h → FN (1, h) → zg x (d + 2) 180 124 [some (.ref 92), o1] [] h Q) : zg x (d + 2) 180 85 [some (.ref 92), o1] [] h Q := by
  unfold f_M_follows_l85_b at hF
  unfold f_M_follows_l85_b_ok at ho
  refine zg_blk zd_180 4 hs (rfl : zb x zT0 zc_180 4 (85, [some (.ref 92), o1], [], h) = some (93, [some (.ref 92), o1], [.int (zf h 92 1), .int (zf h 92 2)], h)) (fun hs => ?_)
  refine zg_i_ge zd_180 rfl (fun (hc : ((zf h 92 1) ≤ (zf h 92 2))) => ?_) (fun (hc : ¬ ((zf h 92 1) ≤ (zf h 92 2))) => ?_)
  · have ho := ho.1 hc
    rw [if_pos hc] at hF
    exact hl1 h (o1) hs hF
  · have ho := ho.2 hc
    rw [if_neg hc] at hF
    refine zg_blk zd_180 4 hs (rfl : zb x zT0 zc_180 4 (96, [some (.ref 92), o1], [], h) = some (104, [some (.ref 92), o1], [.int (zf h 92 2), .ref 93], h)) (fun hs => ?_)
    have hob := ho
    refine zg_bal hs zd_180 rfl rfl (by decide) hob ?_
    refine zg_call hs zd_180 rfl rfl rfl rfl (as := [.int (zr h 93 (zf h 92 2))]) (rest := []) (en := [some (.int (zr h 93 (zf h 92 2)))]) rfl rfl rfl rfl rfl ?_
    refine f_M_isLetter_t (zr h 93 (zf h 92 2)) h hs trivial ?_
    show zg x (d + 2) 180 108 [some (.ref 92), o1] [.int (if (¬ ((zr h 93 (zf h 92 2)) < 97) ∧ (¬ (122 < (zr h 93 (zf h 92 2))))) then (1 : Int32) else 0)] h Q
    refine zg_b_eq zd_180 rfl (fun (hc : ¬ (¬ ((zr h 93 (zf h 92 2)) < 97) ∧ (¬ (122 < (zr h 93 (zf h 92 2)))))) => ?_) (fun (hc : (¬ ((zr h 93 (zf h 92 2)) < 97) ∧ (¬ (122 < (zr h 93 (zf h 92 2)))))) => ?_)
    · skip
      rw [if_neg hc] at hF
      exact hl1 h (o1) hs hF
    · skip
      rw [if_pos hc] at hF
      refine zg_blk zd_180 7 hs (rfl : zb x zT0 zc_180 7 (111, [some (.ref 92), o1], [], h) = some (85, [some (.ref 92), o1], [], (zp h 92 2 ((zf h 92 2) + 1)))) (fun hs => ?_)
      exact hl0 (zp h 92 2 ((zf h 92 2) + 1)) (o1) hs hF
theorem f_M_follows_l85_t {x : zm_X} {d : Nat} {Q : Option Value → zm_H → Prop} (G : Nat × zm_H → Prop) (hx1 : ∀ (h : zm_H) (o1 : Option Value), zSh zT0 h → G (1, h) → zg x (d + 2) 180 124 [some (.ref 92), o1] [] h Q) : ∀ (n : Nat) (h : zm_H) (o1 : Option Value), zSh zT0 h → f_M_follows_l85_ok n h → G (f_M_follows_l85 n h) → zg x (d + 2) 180 85 [some (.ref 92), o1] [] h Q := by
  intro n
  induction n with
  | zero => intro h o1 hs ho hG; exact ho.elim
  | succ n ih =>
    intro h o1 hs ho hG
    refine f_M_follows_l85_b_t (FN := fun r => (r.1 = 0 → f_M_follows_l85_ok n r.2) ∧ G (if r.1 = 0 then f_M_follows_l85 n r.2 else r))  h o1 hs ho.1 ⟨ho.2, hG⟩ ?_ ?_
    · intro h o1 hs hF
      exact ih h o1 hs (hF.1 rfl) hF.2
    · intro h o1 hs hF
      exact hx1 h o1 hs hF.2

theorem zd_182 : zm_cd 182 = zc_182 := by rfl
set_option maxRecDepth 100000 in
set_option maxHeartbeats 400000 in
theorem f_M_wordAt_l5_l19_b_t {x : zm_X} {d : Nat} (v1 : Int32) (v2 : Int32) (v3 : Int32) (v4 : Int32) (v5 : Int32) (h : zm_H) (o6 : Option Value) (o7 : Option Value) {Q : Option Value → zm_H → Prop} {FN : Nat × Int32 → Prop} (hs : zSh zT0 h) (ho : f_M_wordAt_l5_l19_b_ok v1 v2 v3 v4 v5 h) (hF : FN (f_M_wordAt_l5_l19_b v1 v2 v3 v4 v5 h)) (hl0 : ∀ (v5 : Int32) (o6 : Option Value) (o7 : Option Value), zSh zT0 h → FN (0, v5) → zg x (d + 1) 182 19 [some (.ref 92), some (.int v1), some (.int v2), some (.int v3), some (.int v4), some (.int v5), o6, o7] [] h Q) (hl1 : ∀ (v5 : Int32) (o6 : Option Value) (o7 : Option Value), zSh zT0 h → FN (1, v5) → zg x (d + 1) 182 41 [some (.ref 92), some (.int v1), some (.int v2), some (.int v3), some (.int v4), some (.int v5), o6, o7] [] h Q) : zg x (d + 1) 182 19 [some (.ref 92), some (.int v1), some (.int v2), some (.int v3), some (.int v4), some (.int v5), o6, o7] [] h Q := by
  unfold f_M_wordAt_l5_l19_b at hF
  unfold f_M_wordAt_l5_l19_b_ok at ho
  refine zg_blk zd_182 4 hs (rfl : zb x zT0 zc_182 4 (19, [some (.ref 92), some (.int v1), some (.int v2), some (.int v3), some (.int v4), some (.int v5), o6, o7], [], h) = some (27, [some (.ref 92), some (.int v1), some (.int v2), some (.int v3), some (.int v4), some (.int v5), o6, o7], [.int (v4 + v5), .ref 2000002], h)) (fun hs => ?_)
  have hob := ho
  refine zg_x zd_182 rfl rfl rfl rfl (as := [.ref 2000002, .int (v4 + v5)]) (rest := []) (w := some (.int ((zm_sx 2).getD (v4 + v5).toNatClampNeg 0))) rfl rfl (zx_ch2 hob) ?_
  refine zg_blk zd_182 1 hs (rfl : zb x zT0 zc_182 1 (30, [some (.ref 92), some (.int v1), some (.int v2), some (.int v3), some (.int v4), some (.int v5), o6, o7], [.int ((zm_sx 2).getD (v4 + v5).toNatClampNeg 0)], h) = some (32, [some (.ref 92), some (.int v1), some (.int v2), some (.int v3), some (.int v4), some (.int v5), o6, o7], [.int 32, .int ((zm_sx 2).getD (v4 + v5).toNatClampNeg 0)], h)) (fun hs => ?_)
  refine zg_i_eq zd_182 rfl (fun (hc : (((zm_sx 2).getD (v4 + v5).toNatClampNeg 0) = 32)) => ?_) (fun (hc : ¬ (((zm_sx 2).getD (v4 + v5).toNatClampNeg 0) = 32)) => ?_)
  · skip
    rw [if_pos hc] at hF
    exact hl1 v5 (o6) (o7) hs hF
  · skip
    rw [if_neg hc] at hF
    refine zg_blk zd_182 2 hs (rfl : zb x zT0 zc_182 2 (35, [some (.ref 92), some (.int v1), some (.int v2), some (.int v3), some (.int v4), some (.int v5), o6, o7], [], h) = some (19, [some (.ref 92), some (.int v1), some (.int v2), some (.int v3), some (.int v4), some (.int (v5 + 1)), o6, o7], [], h)) (fun hs => ?_)
    exact hl0 (v5 + 1) (o6) (o7) hs hF
theorem f_M_wordAt_l5_l19_t {x : zm_X} {d : Nat} (v1 : Int32) (v2 : Int32) (v3 : Int32) (v4 : Int32) (h : zm_H) {Q : Option Value → zm_H → Prop} (G : Nat × Int32 → Prop) (hx1 : ∀ (v5 : Int32) (o6 : Option Value) (o7 : Option Value), zSh zT0 h → G (1, v5) → zg x (d + 1) 182 41 [some (.ref 92), some (.int v1), some (.int v2), some (.int v3), some (.int v4), some (.int v5), o6, o7] [] h Q) : ∀ (n : Nat) (v5 : Int32) (o6 : Option Value) (o7 : Option Value), zSh zT0 h → f_M_wordAt_l5_l19_ok v1 v2 v3 v4 h n v5 → G (f_M_wordAt_l5_l19 v1 v2 v3 v4 h n v5) → zg x (d + 1) 182 19 [some (.ref 92), some (.int v1), some (.int v2), some (.int v3), some (.int v4), some (.int v5), o6, o7] [] h Q := by
  intro n
  induction n with
  | zero => intro v5 o6 o7 hs ho hG; exact ho.elim
  | succ n ih =>
    intro v5 o6 o7 hs ho hG
    refine f_M_wordAt_l5_l19_b_t (FN := fun r => (r.1 = 0 → f_M_wordAt_l5_l19_ok v1 v2 v3 v4 h n r.2) ∧ G (if r.1 = 0 then f_M_wordAt_l5_l19 v1 v2 v3 v4 h n r.2 else r)) v1 v2 v3 v4 v5 h o6 o7 hs ho.1 ⟨ho.2, hG⟩ ?_ ?_
    · intro v5 o6 o7 hs hF
      exact ih v5 o6 o7 hs (hF.1 rfl) hF.2
    · intro v5 o6 o7 hs hF
      exact hx1 v5 o6 o7 hs hF.2

set_option maxRecDepth 100000 in
set_option maxHeartbeats 400000 in
theorem f_M_wordAt_l5_l59_b_t {x : zm_X} {d : Nat} (v1 : Int32) (v2 : Int32) (v3 : Int32) (v4 : Int32) (v5 : Int32) (v6 : Int32) (v7 : Int32) (h : zm_H) {Q : Option Value → zm_H → Prop} {FN : Nat × Int32 × Int32 → Prop} (hs : zSh zT0 h) (ho : f_M_wordAt_l5_l59_b_ok v1 v2 v3 v4 v5 v6 v7 h) (hF : FN (f_M_wordAt_l5_l59_b v1 v2 v3 v4 v5 v6 v7 h)) (hl0 : ∀ (v6 : Int32) (v7 : Int32), zSh zT0 h → FN (0, v6, v7) → zg x (d + 1) 182 59 [some (.ref 92), some (.int v1), some (.int v2), some (.int v3), some (.int v4), some (.int v5), some (.int v6), some (.int v7)] [] h Q) (hl1 : ∀ (v6 : Int32) (v7 : Int32) (o7 : Option Value), zSh zT0 h → FN (1, v6, v7) → zg x (d + 1) 182 107 [some (.ref 92), some (.int v1), some (.int v2), some (.int v3), some (.int v4), some (.int v5), some (.int v6), o7] [] h Q) : zg x (d + 1) 182 59 [some (.ref 92), some (.int v1), some (.int v2), some (.int v3), some (.int v4), some (.int v5), some (.int v6), some (.int v7)] [] h Q := by
  unfold f_M_wordAt_l5_l59_b at hF
  unfold f_M_wordAt_l5_l59_b_ok at ho
  refine zg_blk zd_182 2 hs (rfl : zb x zT0 zc_182 2 (59, [some (.ref 92), some (.int v1), some (.int v2), some (.int v3), some (.int v4), some (.int v5), some (.int v6), some (.int v7)], [], h) = some (63, [some (.ref 92), some (.int v1), some (.int v2), some (.int v3), some (.int v4), some (.int v5), some (.int v6), some (.int v7)], [.int v5, .int v7], h)) (fun hs => ?_)
  refine zg_i_ge zd_182 rfl (fun (hc : (v5 ≤ v7)) => ?_) (fun (hc : ¬ (v5 ≤ v7)) => ?_)
  · have ho := ho.1 hc
    rw [if_pos hc] at hF
    exact hl1 v6 v7 (some (.int v7)) hs hF
  · have ho := ho.2 hc
    rw [if_neg hc] at hF
    refine zg_blk zd_182 1 hs (rfl : zb x zT0 zc_182 1 (66, [some (.ref 92), some (.int v1), some (.int v2), some (.int v3), some (.int v4), some (.int v5), some (.int v6), some (.int v7)], [], h) = some (68, [some (.ref 92), some (.int v1), some (.int v2), some (.int v3), some (.int v4), some (.int v5), some (.int v6), some (.int v7)], [.int v6], h)) (fun hs => ?_)
    refine zg_f_eq zd_182 rfl (fun (hc : (v6 = 0)) => ?_) (fun (hc : ¬ (v6 = 0)) => ?_)
    · have ho := ho.1 hc
      rw [if_pos hc] at hF
      exact hl1 v6 v7 (some (.int v7)) hs hF
    · have ho := ho.2 hc
      rw [if_neg hc] at hF
      refine zg_blk zd_182 4 hs (rfl : zb x zT0 zc_182 4 (71, [some (.ref 92), some (.int v1), some (.int v2), some (.int v3), some (.int v4), some (.int v5), some (.int v6), some (.int v7)], [], h) = some (79, [some (.ref 92), some (.int v1), some (.int v2), some (.int v3), some (.int v4), some (.int v5), some (.int v6), some (.int v7)], [.int (v4 + v7), .ref 2000002], h)) (fun hs => ?_)
      obtain ⟨hob, ho⟩ := ho
      refine zg_x zd_182 rfl rfl rfl rfl (as := [.ref 2000002, .int (v4 + v7)]) (rest := []) (w := some (.int ((zm_sx 2).getD (v4 + v7).toNatClampNeg 0))) rfl rfl (zx_ch2 hob) ?_
      refine zg_blk zd_182 5 hs (rfl : zb x zT0 zc_182 5 (82, [some (.ref 92), some (.int v1), some (.int v2), some (.int v3), some (.int v4), some (.int v5), some (.int v6), some (.int v7)], [.int ((zm_sx 2).getD (v4 + v7).toNatClampNeg 0)], h) = some (90, [some (.ref 92), some (.int v1), some (.int v2), some (.int v3), some (.int v4), some (.int v5), some (.int v6), some (.int v7)], [.int (v1 + v7), .ref 93, .int ((zm_sx 2).getD (v4 + v7).toNatClampNeg 0)], h)) (fun hs => ?_)
      have hob := ho
      refine zg_bal hs zd_182 rfl rfl (by decide) hob ?_
      have K22 : zSh zT0 h → zg x (d + 1) 182 99 [some (.ref 92), some (.int v1), some (.int v2), some (.int v3), some (.int v4), some (.int v5), some (.int v6), some (.int v7)] [.int (if (((zm_sx 2).getD (v4 + v7).toNatClampNeg 0) = (zr h 93 (v1 + v7))) then (1 : Int32) else 0)] h Q := fun hs => by
        refine zg_blk zd_182 3 hs (rfl : zb x zT0 zc_182 3 (99, [some (.ref 92), some (.int v1), some (.int v2), some (.int v3), some (.int v4), some (.int v5), some (.int v6), some (.int v7)], [.int (if (((zm_sx 2).getD (v4 + v7).toNatClampNeg 0) = (zr h 93 (v1 + v7))) then (1 : Int32) else 0)], h) = some (59, [some (.ref 92), some (.int v1), some (.int v2), some (.int v3), some (.int v4), some (.int v5), some (.int (if (((zm_sx 2).getD (v4 + v7).toNatClampNeg 0) = (zr h 93 (v1 + v7))) then (1 : Int32) else 0)), some (.int (v7 + 1))], [], h)) (fun hs => ?_)
        exact hl0 (if (((zm_sx 2).getD (v4 + v7).toNatClampNeg 0) = (zr h 93 (v1 + v7))) then (1 : Int32) else 0) (v7 + 1) hs hF
      refine zg_i_ne zd_182 rfl (fun (hc : ¬ (((zm_sx 2).getD (v4 + v7).toNatClampNeg 0) = (zr h 93 (v1 + v7)))) => ?_) (fun (hc : (((zm_sx 2).getD (v4 + v7).toNatClampNeg 0) = (zr h 93 (v1 + v7)))) => ?_)
      · skip
        rw [show ((if (((zm_sx 2).getD (v4 + v7).toNatClampNeg 0) = (zr h 93 (v1 + v7))) then (1 : Int32) else 0) : Int32) = 0 from if_neg hc] at K22
        refine zg_blk zd_182 1 hs (rfl : zb x zT0 zc_182 1 (98, [some (.ref 92), some (.int v1), some (.int v2), some (.int v3), some (.int v4), some (.int v5), some (.int v6), some (.int v7)], [], h) = some (99, [some (.ref 92), some (.int v1), some (.int v2), some (.int v3), some (.int v4), some (.int v5), some (.int v6), some (.int v7)], [.int 0], h)) (fun hs => ?_)
        exact K22 hs
      · skip
        rw [show ((if (((zm_sx 2).getD (v4 + v7).toNatClampNeg 0) = (zr h 93 (v1 + v7))) then (1 : Int32) else 0) : Int32) = 1 from if_pos hc] at K22
        refine zg_blk zd_182 2 hs (rfl : zb x zT0 zc_182 2 (94, [some (.ref 92), some (.int v1), some (.int v2), some (.int v3), some (.int v4), some (.int v5), some (.int v6), some (.int v7)], [], h) = some (99, [some (.ref 92), some (.int v1), some (.int v2), some (.int v3), some (.int v4), some (.int v5), some (.int v6), some (.int v7)], [.int 1], h)) (fun hs => ?_)
        exact K22 hs
theorem f_M_wordAt_l5_l59_t {x : zm_X} {d : Nat} (v1 : Int32) (v2 : Int32) (v3 : Int32) (v4 : Int32) (v5 : Int32) (h : zm_H) {Q : Option Value → zm_H → Prop} (G : Nat × Int32 × Int32 → Prop) (hx1 : ∀ (v6 : Int32) (v7 : Int32) (o7 : Option Value), zSh zT0 h → G (1, v6, v7) → zg x (d + 1) 182 107 [some (.ref 92), some (.int v1), some (.int v2), some (.int v3), some (.int v4), some (.int v5), some (.int v6), o7] [] h Q) : ∀ (n : Nat) (v6 : Int32) (v7 : Int32), zSh zT0 h → f_M_wordAt_l5_l59_ok v1 v2 v3 v4 v5 h n (v6, v7) → G (f_M_wordAt_l5_l59 v1 v2 v3 v4 v5 h n (v6, v7)) → zg x (d + 1) 182 59 [some (.ref 92), some (.int v1), some (.int v2), some (.int v3), some (.int v4), some (.int v5), some (.int v6), some (.int v7)] [] h Q := by
  intro n
  induction n with
  | zero => intro v6 v7 hs ho hG; exact ho.elim
  | succ n ih =>
    intro v6 v7 hs ho hG
    refine f_M_wordAt_l5_l59_b_t (FN := fun r => (r.1 = 0 → f_M_wordAt_l5_l59_ok v1 v2 v3 v4 v5 h n r.2) ∧ G (if r.1 = 0 then f_M_wordAt_l5_l59 v1 v2 v3 v4 v5 h n r.2 else r)) v1 v2 v3 v4 v5 v6 v7 h hs ho.1 ⟨ho.2, hG⟩ ?_ ?_
    · intro v6 v7 hs hF
      exact ih v6 v7 hs (hF.1 rfl) hF.2
    · intro v6 v7 o7 hs hF
      exact hx1 v6 v7 o7 hs hF.2

set_option maxRecDepth 100000 in
set_option maxHeartbeats 400000 in
theorem f_M_wordAt_l5_k107_t {x : zm_X} {d : Nat} (v1 : Int32) (v2 : Int32) (v3 : Int32) (v4 : Int32) (v5 : Int32) (v6 : Int32) (h : zm_H) (o7 : Option Value) {Q : Option Value → zm_H → Prop} {FN : Nat × Int32 × Int32 → Prop} (hs : zSh zT0 h) (ho : f_M_wordAt_l5_k107_ok v1 v2 v3 v4 v5 v6 h) (hF : FN (f_M_wordAt_l5_k107 v1 v2 v3 v4 v5 v6 h)) (hl0 : ∀ (v3 : Int32) (v4 : Int32) (o5 : Option Value) (o6 : Option Value) (o7 : Option Value), zSh zT0 h → FN (0, v3, v4) → zg x (d + 1) 182 5 [some (.ref 92), some (.int v1), some (.int v2), some (.int v3), some (.int v4), o5, o6, o7] [] h Q) (hl1 : ∀ (v3 : Int32) (v4 : Int32) (o4 : Option Value) (o5 : Option Value) (o6 : Option Value) (o7 : Option Value), zSh zT0 h → FN (1, v3, v4) → zg x (d + 1) 182 112 [some (.ref 92), some (.int v1), some (.int v2), some (.int v3), o4, o5, o6, o7] [] h Q) (hl2 : ∀ (v3 : Int32) (v4 : Int32) (o3 : Option Value) (o4 : Option Value) (o5 : Option Value) (o6 : Option Value) (o7 : Option Value), zSh zT0 h → FN (2, v3, v4) → zg x (d + 1) 182 129 [some (.ref 92), some (.int v1), some (.int v2), o3, o4, o5, o6, o7] [] h Q) : zg x (d + 1) 182 107 [some (.ref 92), some (.int v1), some (.int v2), some (.int v3), some (.int v4), some (.int v5), some (.int v6), o7] [] h Q := by
  unfold f_M_wordAt_l5_k107 at hF
  unfold f_M_wordAt_l5_k107_ok at ho
  refine zg_blk zd_182 1 hs (rfl : zb x zT0 zc_182 1 (107, [some (.ref 92), some (.int v1), some (.int v2), some (.int v3), some (.int v4), some (.int v5), some (.int v6), o7], [], h) = some (109, [some (.ref 92), some (.int v1), some (.int v2), some (.int v3), some (.int v4), some (.int v5), some (.int v6), o7], [.int v6], h)) (fun hs => ?_)
  refine zg_f_eq zd_182 rfl (fun (hc : (v6 = 0)) => ?_) (fun (hc : ¬ (v6 = 0)) => ?_)
  · skip
    rw [if_pos hc] at hF
    refine zg_blk zd_182 8 hs (rfl : zb x zT0 zc_182 8 (114, [some (.ref 92), some (.int v1), some (.int v2), some (.int v3), some (.int v4), some (.int v5), some (.int v6), o7], [], h) = some (5, [some (.ref 92), some (.int v1), some (.int v2), some (.int (v3 + 1)), some (.int (v4 + (v5 + 1))), some (.int v5), some (.int v6), o7], [], h)) (fun hs => ?_)
    exact hl0 (v3 + 1) (v4 + (v5 + 1)) (some (.int v5)) (some (.int v6)) (o7) hs hF
  · skip
    rw [if_neg hc] at hF
    exact hl1 v3 v4 (some (.int v4)) (some (.int v5)) (some (.int v6)) (o7) hs hF
set_option maxRecDepth 100000 in
set_option maxHeartbeats 400000 in
theorem f_M_wordAt_l5_k41_t {x : zm_X} {d : Nat} (v1 : Int32) (v2 : Int32) (v3 : Int32) (v4 : Int32) (v5 : Int32) (h : zm_H) (o6 : Option Value) (o7 : Option Value) {Q : Option Value → zm_H → Prop} {FN : Nat × Int32 × Int32 → Prop} (hs : zSh zT0 h) (ho : f_M_wordAt_l5_k41_ok v1 v2 v3 v4 v5 h) (hF : FN (f_M_wordAt_l5_k41 v1 v2 v3 v4 v5 h)) (hl0 : ∀ (v3 : Int32) (v4 : Int32) (o5 : Option Value) (o6 : Option Value) (o7 : Option Value), zSh zT0 h → FN (0, v3, v4) → zg x (d + 1) 182 5 [some (.ref 92), some (.int v1), some (.int v2), some (.int v3), some (.int v4), o5, o6, o7] [] h Q) (hl1 : ∀ (v3 : Int32) (v4 : Int32) (o4 : Option Value) (o5 : Option Value) (o6 : Option Value) (o7 : Option Value), zSh zT0 h → FN (1, v3, v4) → zg x (d + 1) 182 112 [some (.ref 92), some (.int v1), some (.int v2), some (.int v3), o4, o5, o6, o7] [] h Q) (hl2 : ∀ (v3 : Int32) (v4 : Int32) (o3 : Option Value) (o4 : Option Value) (o5 : Option Value) (o6 : Option Value) (o7 : Option Value), zSh zT0 h → FN (2, v3, v4) → zg x (d + 1) 182 129 [some (.ref 92), some (.int v1), some (.int v2), o3, o4, o5, o6, o7] [] h Q) : zg x (d + 1) 182 41 [some (.ref 92), some (.int v1), some (.int v2), some (.int v3), some (.int v4), some (.int v5), o6, o7] [] h Q := by
  unfold f_M_wordAt_l5_k41 at hF
  unfold f_M_wordAt_l5_k41_ok at ho
  refine zg_blk zd_182 4 hs (rfl : zb x zT0 zc_182 4 (41, [some (.ref 92), some (.int v1), some (.int v2), some (.int v3), some (.int v4), some (.int v5), o6, o7], [], h) = some (46, [some (.ref 92), some (.int v1), some (.int v2), some (.int v3), some (.int v4), some (.int v5), o6, o7], [.int (v2 - v1), .int v5], h)) (fun hs => ?_)
  have K23 : zSh zT0 h → zg x (d + 1) 182 54 [some (.ref 92), some (.int v1), some (.int v2), some (.int v3), some (.int v4), some (.int v5), o6, o7] [.int (if (v5 = (v2 - v1)) then (1 : Int32) else 0)] h Q := fun hs => by
    refine zg_blk zd_182 3 hs (rfl : zb x zT0 zc_182 3 (54, [some (.ref 92), some (.int v1), some (.int v2), some (.int v3), some (.int v4), some (.int v5), o6, o7], [.int (if (v5 = (v2 - v1)) then (1 : Int32) else 0)], h) = some (59, [some (.ref 92), some (.int v1), some (.int v2), some (.int v3), some (.int v4), some (.int v5), some (.int (if (v5 = (v2 - v1)) then (1 : Int32) else 0)), some (.int 0)], [], h)) (fun hs => ?_)
    refine f_M_wordAt_l5_l59_t v1 v2 v3 v4 v5 h (fun r => f_M_wordAt_l5_a59_ok v1 v2 v3 v4 v5 r h ∧ FN (f_M_wordAt_l5_a59 v1 v2 v3 v4 v5 r h)) ?_ zF (if (v5 = (v2 - v1)) then (1 : Int32) else 0) 0 hs ho.1 ⟨ho.2, hF⟩
    · intro v6_ v7_ o7_ hs hG
      have ho : True := trivial
      have hF : FN ((f_M_wordAt_l5_k107 v1 v2 v3 v4 v5 v6_ h)) := hG.2
      exact f_M_wordAt_l5_k107_t v1 v2 v3 v4 v5 v6_ h (o7_) hs trivial hF hl0 hl1 hl2
  refine zg_i_ne zd_182 rfl (fun (hc : ¬ (v5 = (v2 - v1))) => ?_) (fun (hc : (v5 = (v2 - v1))) => ?_)
  · skip
    rw [show ((if (v5 = (v2 - v1)) then (1 : Int32) else 0) : Int32) = 0 from if_neg hc] at K23
    refine zg_blk zd_182 1 hs (rfl : zb x zT0 zc_182 1 (53, [some (.ref 92), some (.int v1), some (.int v2), some (.int v3), some (.int v4), some (.int v5), o6, o7], [], h) = some (54, [some (.ref 92), some (.int v1), some (.int v2), some (.int v3), some (.int v4), some (.int v5), o6, o7], [.int 0], h)) (fun hs => ?_)
    exact K23 hs
  · skip
    rw [show ((if (v5 = (v2 - v1)) then (1 : Int32) else 0) : Int32) = 1 from if_pos hc] at K23
    refine zg_blk zd_182 2 hs (rfl : zb x zT0 zc_182 2 (49, [some (.ref 92), some (.int v1), some (.int v2), some (.int v3), some (.int v4), some (.int v5), o6, o7], [], h) = some (54, [some (.ref 92), some (.int v1), some (.int v2), some (.int v3), some (.int v4), some (.int v5), o6, o7], [.int 1], h)) (fun hs => ?_)
    exact K23 hs
set_option maxRecDepth 100000 in
set_option maxHeartbeats 400000 in
theorem f_M_wordAt_l5_b_t {x : zm_X} {d : Nat} (v1 : Int32) (v2 : Int32) (v3 : Int32) (v4 : Int32) (h : zm_H) (o5 : Option Value) (o6 : Option Value) (o7 : Option Value) {Q : Option Value → zm_H → Prop} {FN : Nat × Int32 × Int32 → Prop} (hs : zSh zT0 h) (ho : f_M_wordAt_l5_b_ok v1 v2 v3 v4 h) (hF : FN (f_M_wordAt_l5_b v1 v2 v3 v4 h)) (hl0 : ∀ (v3 : Int32) (v4 : Int32) (o5 : Option Value) (o6 : Option Value) (o7 : Option Value), zSh zT0 h → FN (0, v3, v4) → zg x (d + 1) 182 5 [some (.ref 92), some (.int v1), some (.int v2), some (.int v3), some (.int v4), o5, o6, o7] [] h Q) (hl1 : ∀ (v3 : Int32) (v4 : Int32) (o4 : Option Value) (o5 : Option Value) (o6 : Option Value) (o7 : Option Value), zSh zT0 h → FN (1, v3, v4) → zg x (d + 1) 182 112 [some (.ref 92), some (.int v1), some (.int v2), some (.int v3), o4, o5, o6, o7] [] h Q) (hl2 : ∀ (v3 : Int32) (v4 : Int32) (o3 : Option Value) (o4 : Option Value) (o5 : Option Value) (o6 : Option Value) (o7 : Option Value), zSh zT0 h → FN (2, v3, v4) → zg x (d + 1) 182 129 [some (.ref 92), some (.int v1), some (.int v2), o3, o4, o5, o6, o7] [] h Q) : zg x (d + 1) 182 5 [some (.ref 92), some (.int v1), some (.int v2), some (.int v3), some (.int v4), o5, o6, o7] [] h Q := by
  unfold f_M_wordAt_l5_b at hF
  unfold f_M_wordAt_l5_b_ok at ho
  refine zg_blk zd_182 2 hs (rfl : zb x zT0 zc_182 2 (5, [some (.ref 92), some (.int v1), some (.int v2), some (.int v3), some (.int v4), o5, o6, o7], [], h) = some (10, [some (.ref 92), some (.int v1), some (.int v2), some (.int v3), some (.int v4), o5, o6, o7], [.ref 2000002, .int v4], h)) (fun hs => ?_)
  refine zg_x zd_182 rfl rfl rfl rfl (as := [.ref 2000002]) (rest := [.int v4]) (w := some (.int (Int32.ofNat 81))) rfl rfl rfl ?_
  refine zg_i_ge zd_182 rfl (fun (hc : ((Int32.ofNat 81) ≤ v4)) => ?_) (fun (hc : ¬ ((Int32.ofNat 81) ≤ v4)) => ?_)
  · have ho := ho.1 hc
    rw [if_pos hc] at hF
    exact hl2 v3 v4 (some (.int v3)) (some (.int v4)) (o5) (o6) (o7) hs hF
  · have ho := ho.2 hc
    rw [if_neg hc] at hF
    refine zg_blk zd_182 2 hs (rfl : zb x zT0 zc_182 2 (16, [some (.ref 92), some (.int v1), some (.int v2), some (.int v3), some (.int v4), o5, o6, o7], [], h) = some (19, [some (.ref 92), some (.int v1), some (.int v2), some (.int v3), some (.int v4), some (.int 0), o6, o7], [], h)) (fun hs => ?_)
    refine f_M_wordAt_l5_l19_t v1 v2 v3 v4 h (fun r => f_M_wordAt_l5_a19_ok v1 v2 v3 v4 r h ∧ FN (f_M_wordAt_l5_a19 v1 v2 v3 v4 r h)) ?_ zF 0 (o6) (o7) hs ho.1 ⟨ho.2, hF⟩
    · intro v5_ o6_ o7_ hs hG
      have ho : (f_M_wordAt_l5_k41_ok v1 v2 v3 v4 v5_ h) := hG.1
      have hF : FN ((f_M_wordAt_l5_k41 v1 v2 v3 v4 v5_ h)) := hG.2
      exact f_M_wordAt_l5_k41_t v1 v2 v3 v4 v5_ h (o6_) (o7_) hs ho hF hl0 hl1 hl2
theorem f_M_wordAt_l5_t {x : zm_X} {d : Nat} (v1 : Int32) (v2 : Int32) (h : zm_H) {Q : Option Value → zm_H → Prop} (G : Nat × Int32 × Int32 → Prop) (hx1 : ∀ (v3 : Int32) (v4 : Int32) (o4 : Option Value) (o5 : Option Value) (o6 : Option Value) (o7 : Option Value), zSh zT0 h → G (1, v3, v4) → zg x (d + 1) 182 112 [some (.ref 92), some (.int v1), some (.int v2), some (.int v3), o4, o5, o6, o7] [] h Q) (hx2 : ∀ (v3 : Int32) (v4 : Int32) (o3 : Option Value) (o4 : Option Value) (o5 : Option Value) (o6 : Option Value) (o7 : Option Value), zSh zT0 h → G (2, v3, v4) → zg x (d + 1) 182 129 [some (.ref 92), some (.int v1), some (.int v2), o3, o4, o5, o6, o7] [] h Q) : ∀ (n : Nat) (v3 : Int32) (v4 : Int32) (o5 : Option Value) (o6 : Option Value) (o7 : Option Value), zSh zT0 h → f_M_wordAt_l5_ok v1 v2 h n (v3, v4) → G (f_M_wordAt_l5 v1 v2 h n (v3, v4)) → zg x (d + 1) 182 5 [some (.ref 92), some (.int v1), some (.int v2), some (.int v3), some (.int v4), o5, o6, o7] [] h Q := by
  intro n
  induction n with
  | zero => intro v3 v4 o5 o6 o7 hs ho hG; exact ho.elim
  | succ n ih =>
    intro v3 v4 o5 o6 o7 hs ho hG
    refine f_M_wordAt_l5_b_t (FN := fun r => (r.1 = 0 → f_M_wordAt_l5_ok v1 v2 h n r.2) ∧ G (if r.1 = 0 then f_M_wordAt_l5 v1 v2 h n r.2 else r)) v1 v2 v3 v4 h o5 o6 o7 hs ho.1 ⟨ho.2, hG⟩ ?_ ?_ ?_
    · intro v3 v4 o5 o6 o7 hs hF
      exact ih v3 v4 o5 o6 o7 hs (hF.1 rfl) hF.2
    · intro v3 v4 o4 o5 o6 o7 hs hF
      exact hx1 v3 v4 o4 o5 o6 o7 hs hF.2
    · intro v3 v4 o3 o4 o5 o6 o7 hs hF
      exact hx2 v3 v4 o3 o4 o5 o6 o7 hs hF.2

set_option maxRecDepth 100000 in
set_option maxHeartbeats 400000 in
theorem f_M_wordAt_k112_t {x : zm_X} {d : Nat} (v3 : Int32) (h : zm_H) (o0 : Option Value) (o1 : Option Value) (z2 : Int32) (o4 : Option Value) (o5 : Option Value) (o6 : Option Value) (o7 : Option Value) {Q : Option Value → zm_H → Prop} (hs : zSh zT0 h) (ho : f_M_wordAt_k112_ok v3 h) (hF : Q (some (.int (f_M_wordAt_k112 v3 h))) h) : zg x (d + 1) 182 112 [o0, o1, some (.int z2), some (.int v3), o4, o5, o6, o7] [] h Q := by
  unfold f_M_wordAt_k112 at hF
  unfold f_M_wordAt_k112_ok at ho
  refine zg_blk zd_182 1 hs (rfl : zb x zT0 zc_182 1 (112, [o0, o1, some (.int z2), some (.int v3), o4, o5, o6, o7], [], h) = some (113, [o0, o1, some (.int z2), some (.int v3), o4, o5, o6, o7], [.int v3], h)) (fun hs => ?_)
  exact zg_ret zd_182 rfl rfl hF
set_option maxRecDepth 100000 in
set_option maxHeartbeats 400000 in
theorem f_M_wordAt_k129_t {x : zm_X} {d : Nat} (h : zm_H) (o0 : Option Value) (o1 : Option Value) (z2 : Int32) (o3 : Option Value) (o4 : Option Value) (o5 : Option Value) (o6 : Option Value) (o7 : Option Value) {Q : Option Value → zm_H → Prop} (hs : zSh zT0 h) (ho : f_M_wordAt_k129_ok h) (hF : Q (some (.int (f_M_wordAt_k129 h))) h) : zg x (d + 1) 182 129 [o0, o1, some (.int z2), o3, o4, o5, o6, o7] [] h Q := by
  unfold f_M_wordAt_k129 at hF
  unfold f_M_wordAt_k129_ok at ho
  refine zg_blk zd_182 1 hs (rfl : zb x zT0 zc_182 1 (129, [o0, o1, some (.int z2), o3, o4, o5, o6, o7], [], h) = some (130, [o0, o1, some (.int z2), o3, o4, o5, o6, o7], [.int (-1)], h)) (fun hs => ?_)
  exact zg_ret zd_182 rfl rfl hF
set_option maxRecDepth 100000 in
set_option maxHeartbeats 400000 in
theorem f_M_wordAt_t {x : zm_X} {d : Nat} (p1 : Int32) (p2 : Int32) (h : zm_H) {Q : Option Value → zm_H → Prop} (hs : zSh zT0 h) (ho : f_M_wordAt_ok p1 p2 h) (hF : Q (some (.int (f_M_wordAt p1 p2 h))) h) : zg x (d + 1) 182 0 [some (.ref 92), some (.int p1), some (.int p2), none, none, none, none, none] [] h Q := by
  unfold f_M_wordAt at hF
  unfold f_M_wordAt_ok at ho
  refine zg_blk zd_182 4 hs (rfl : zb x zT0 zc_182 4 (0, [some (.ref 92), some (.int p1), some (.int p2), none, none, none, none, none], [], h) = some (5, [some (.ref 92), some (.int p1), some (.int p2), some (.int 0), some (.int 1), none, none, none], [], h)) (fun hs => ?_)
  refine f_M_wordAt_l5_t p1 p2 h (fun r => f_M_wordAt_a5_ok r h ∧ Q (some (.int (f_M_wordAt_a5 r h))) h) ?_ ?_ zF 0 1 (none) (none) (none) hs ho.1 ⟨ho.2, hF⟩
  · intro v3_ v4_ o4_ o5_ o6_ o7_ hs hG
    have ho : True := trivial
    have hF : Q (some (.int ((f_M_wordAt_k112 v3_ h)))) h := hG.2
    exact f_M_wordAt_k112_t v3_ h (some (.ref 92)) (some (.int p1)) p2 (o4_) (o5_) (o6_) (o7_) hs trivial hF
  · intro v3_ v4_ o3_ o4_ o5_ o6_ o7_ hs hG
    have ho : True := trivial
    have hF : Q (some (.int ((f_M_wordAt_k129 h)))) h := hG.2
    exact f_M_wordAt_k129_t h (some (.ref 92)) (some (.int p1)) p2 (o3_) (o4_) (o5_) (o6_) (o7_) hs trivial hF
set_option maxRecDepth 100000 in
set_option maxHeartbeats 400000 in
theorem f_M_follows_k124_t {x : zm_X} {d : Nat} (h : zm_H) (o1 : Option Value) {Q : Option Value → zm_H → Prop} (hs : zSh zT0 h) (ho : f_M_follows_k124_ok h) (hF : (zSh zT0 (f_M_follows_k124 h) → Q none (f_M_follows_k124 h))) : zg x (d + 2) 180 124 [some (.ref 92), o1] [] h Q := by
  unfold f_M_follows_k124 at hF
  unfold f_M_follows_k124_ok at ho
  refine zg_blk zd_180 9 hs (rfl : zb x zT0 zc_180 9 (124, [some (.ref 92), o1], [], h) = some (139, [some (.ref 92), o1], [.int (zf h 92 2), .int (zf h 92 4), .ref 92, .ref 92], (zp h 92 3 2))) (fun hs => ?_)
  have hob := ho
  refine zg_call hs zd_180 rfl rfl rfl rfl (as := [.ref 92, .int (zf h 92 4), .int (zf h 92 2)]) (rest := [.ref 92]) (en := [some (.ref 92), some (.int (zf h 92 4)), some (.int (zf h 92 2)), none, none, none, none, none]) rfl rfl rfl rfl rfl ?_
  refine f_M_wordAt_t (zf h 92 4) (zf h 92 2) (zp h 92 3 2) hs hob ?_
  show zg x (d + 2) 180 142 [some (.ref 92), o1] [.int (f_M_wordAt (zf h 92 4) (zf h 92 2) (zp h 92 3 2)), .ref 92] (zp h 92 3 2) Q
  refine zg_blk zd_180 2 hs (rfl : zb x zT0 zc_180 2 (142, [some (.ref 92), o1], [.int (f_M_wordAt (zf h 92 4) (zf h 92 2) (zp h 92 3 2)), .ref 92], (zp h 92 3 2)) = some (338, [some (.ref 92), o1], [], (zp (zp h 92 3 2) 92 5 (f_M_wordAt (zf h 92 4) (zf h 92 2) (zp h 92 3 2))))) (fun hs => ?_)
  exact zg_ret zd_180 rfl rfl (hF hs)
set_option maxRecDepth 100000 in
set_option maxHeartbeats 400000 in
theorem f_M_follows_k234_t {x : zm_X} {d : Nat} (h : zm_H) (o1 : Option Value) {Q : Option Value → zm_H → Prop} (hs : zSh zT0 h) (ho : f_M_follows_k234_ok h) (hF : (zSh zT0 (f_M_follows_k234 h) → Q none (f_M_follows_k234 h))) : zg x (d + 2) 180 234 [some (.ref 92), o1] [] h Q := by
  unfold f_M_follows_k234 at hF
  unfold f_M_follows_k234_ok at ho
  refine zg_blk zd_180 4 hs (rfl : zb x zT0 zc_180 4 (234, [some (.ref 92), o1], [], h) = some (338, [some (.ref 92), o1], [], (zp h 92 3 1))) (fun hs => ?_)
  exact zg_ret zd_180 rfl rfl (hF hs)
set_option maxRecDepth 100000 in
set_option maxHeartbeats 400000 in
theorem f_M_follows_k38_t {x : zm_X} {d : Nat} (h : zm_H) (o1 : Option Value) {Q : Option Value → zm_H → Prop} (hs : zSh zT0 h) (ho : f_M_follows_k38_ok h) (hF : (zSh zT0 (f_M_follows_k38 h) → Q none (f_M_follows_k38 h))) : zg x (d + 2) 180 38 [some (.ref 92), o1] [] h Q := by
  unfold f_M_follows_k38 at hF
  unfold f_M_follows_k38_ok at ho
  refine zg_blk zd_180 14 hs (rfl : zb x zT0 zc_180 14 (38, [some (.ref 92), o1], [], h) = some (64, [some (.ref 92), o1], [.int (zf h 92 1), .int (zf h 92 2)], (zp (zp (zp h 92 4 (zf h 92 2)) 92 5 0) 92 3 0))) (fun hs => ?_)
  refine zg_i_ne zd_180 rfl (fun (hc : ¬ ((zf h 92 2) = (zf h 92 1))) => ?_) (fun (hc : ((zf h 92 2) = (zf h 92 1))) => ?_)
  · have ho := ho.2 hc
    rw [if_neg hc] at hF
    refine zg_blk zd_180 4 hs (rfl : zb x zT0 zc_180 4 (68, [some (.ref 92), o1], [], (zp (zp (zp h 92 4 (zf h 92 2)) 92 5 0) 92 3 0)) = some (76, [some (.ref 92), o1], [.int (zf h 92 2), .ref 93], (zp (zp (zp h 92 4 (zf h 92 2)) 92 5 0) 92 3 0))) (fun hs => ?_)
    obtain ⟨hob, ho⟩ := ho
    refine zg_bal hs zd_180 rfl rfl (by decide) hob ?_
    refine zg_blk zd_180 2 hs (rfl : zb x zT0 zc_180 2 (77, [some (.ref 92), o1], [.int (zr h 93 (zf h 92 2))], (zp (zp (zp h 92 4 (zf h 92 2)) 92 5 0) 92 3 0)) = some (79, [some (.ref 92), some (.int (zr h 93 (zf h 92 2)))], [.int (zr h 93 (zf h 92 2))], (zp (zp (zp h 92 4 (zf h 92 2)) 92 5 0) 92 3 0))) (fun hs => ?_)
    refine zg_call hs zd_180 rfl rfl rfl rfl (as := [.int (zr h 93 (zf h 92 2))]) (rest := []) (en := [some (.int (zr h 93 (zf h 92 2)))]) rfl rfl rfl rfl rfl ?_
    refine f_M_isLetter_t (zr h 93 (zf h 92 2)) (zp (zp (zp h 92 4 (zf h 92 2)) 92 5 0) 92 3 0) hs trivial ?_
    show zg x (d + 2) 180 82 [some (.ref 92), some (.int (zr h 93 (zf h 92 2)))] [.int (if (¬ ((zr h 93 (zf h 92 2)) < 97) ∧ (¬ (122 < (zr h 93 (zf h 92 2))))) then (1 : Int32) else 0)] (zp (zp (zp h 92 4 (zf h 92 2)) 92 5 0) 92 3 0) Q
    refine zg_b_eq zd_180 rfl (fun (hc : ¬ (¬ ((zr h 93 (zf h 92 2)) < 97) ∧ (¬ (122 < (zr h 93 (zf h 92 2)))))) => ?_) (fun (hc : (¬ ((zr h 93 (zf h 92 2)) < 97) ∧ (¬ (122 < (zr h 93 (zf h 92 2)))))) => ?_)
    · have ho := ho.2 hc
      rw [if_neg hc] at hF
      refine zg_blk zd_180 1 hs (rfl : zb x zT0 zc_180 1 (148, [some (.ref 92), some (.int (zr h 93 (zf h 92 2)))], [], (zp (zp (zp h 92 4 (zf h 92 2)) 92 5 0) 92 3 0)) = some (149, [some (.ref 92), some (.int (zr h 93 (zf h 92 2)))], [.int (zr h 93 (zf h 92 2))], (zp (zp (zp h 92 4 (zf h 92 2)) 92 5 0) 92 3 0))) (fun hs => ?_)
      refine zg_call hs zd_180 rfl rfl rfl rfl (as := [.int (zr h 93 (zf h 92 2))]) (rest := []) (en := [some (.int (zr h 93 (zf h 92 2)))]) rfl rfl rfl rfl rfl ?_
      refine f_M_isDigit_t (zr h 93 (zf h 92 2)) (zp (zp (zp h 92 4 (zf h 92 2)) 92 5 0) 92 3 0) hs trivial ?_
      show zg x (d + 2) 180 152 [some (.ref 92), some (.int (zr h 93 (zf h 92 2)))] [.int (if (¬ ((zr h 93 (zf h 92 2)) < 48) ∧ (¬ (57 < (zr h 93 (zf h 92 2))))) then (1 : Int32) else 0)] (zp (zp (zp h 92 4 (zf h 92 2)) 92 5 0) 92 3 0) Q
      refine zg_b_eq zd_180 rfl (fun (hc : ¬ (¬ ((zr h 93 (zf h 92 2)) < 48) ∧ (¬ (57 < (zr h 93 (zf h 92 2)))))) => ?_) (fun (hc : (¬ ((zr h 93 (zf h 92 2)) < 48) ∧ (¬ (57 < (zr h 93 (zf h 92 2)))))) => ?_)
      · have ho := ho.2 hc
        rw [if_neg hc] at hF
        refine zg_blk zd_180 3 hs (rfl : zb x zT0 zc_180 3 (242, [some (.ref 92), some (.int (zr h 93 (zf h 92 2)))], [], (zp (zp (zp h 92 4 (zf h 92 2)) 92 5 0) 92 3 0)) = some (246, [some (.ref 92), some (.int (zr h 93 (zf h 92 2)))], [.int 43, .int (zr h 93 (zf h 92 2)), .ref 92], (zp (zp (zp h 92 4 (zf h 92 2)) 92 5 0) 92 3 0))) (fun hs => ?_)
        have K24 : zSh zT0 (zp (zp (zp h 92 4 (zf h 92 2)) 92 5 0) 92 3 0) → zg x (d + 2) 180 320 [some (.ref 92), some (.int (zr h 93 (zf h 92 2)))] [.int (if ((zr h 93 (zf h 92 2)) = 43) then (3 : Int32) else (if ((zr h 93 (zf h 92 2)) = 45) then (3 : Int32) else (if ((zr h 93 (zf h 92 2)) = 42) then (3 : Int32) else (if ((zr h 93 (zf h 92 2)) = 47) then (3 : Int32) else (if ((zr h 93 (zf h 92 2)) = 40) then (3 : Int32) else (if ((zr h 93 (zf h 92 2)) = 41) then (3 : Int32) else (if ((zr h 93 (zf h 92 2)) = 91) then (3 : Int32) else (if ((zr h 93 (zf h 92 2)) = 93) then (3 : Int32) else (if ((zr h 93 (zf h 92 2)) = 60) then (3 : Int32) else (if ((zr h 93 (zf h 92 2)) = 62) then (3 : Int32) else (if ((zr h 93 (zf h 92 2)) = 61) then (3 : Int32) else (if ((zr h 93 (zf h 92 2)) = 59) then (3 : Int32) else 4)))))))))))), .ref 92] (zp (zp (zp h 92 4 (zf h 92 2)) 92 5 0) 92 3 0) Q := fun hs => by
          refine zg_blk zd_180 10 hs (rfl : zb x zT0 zc_180 10 (320, [some (.ref 92), some (.int (zr h 93 (zf h 92 2)))], [.int (if ((zr h 93 (zf h 92 2)) = 43) then (3 : Int32) else (if ((zr h 93 (zf h 92 2)) = 45) then (3 : Int32) else (if ((zr h 93 (zf h 92 2)) = 42) then (3 : Int32) else (if ((zr h 93 (zf h 92 2)) = 47) then (3 : Int32) else (if ((zr h 93 (zf h 92 2)) = 40) then (3 : Int32) else (if ((zr h 93 (zf h 92 2)) = 41) then (3 : Int32) else (if ((zr h 93 (zf h 92 2)) = 91) then (3 : Int32) else (if ((zr h 93 (zf h 92 2)) = 93) then (3 : Int32) else (if ((zr h 93 (zf h 92 2)) = 60) then (3 : Int32) else (if ((zr h 93 (zf h 92 2)) = 62) then (3 : Int32) else (if ((zr h 93 (zf h 92 2)) = 61) then (3 : Int32) else (if ((zr h 93 (zf h 92 2)) = 59) then (3 : Int32) else 4)))))))))))), .ref 92], (zp (zp (zp h 92 4 (zf h 92 2)) 92 5 0) 92 3 0)) = some (338, [some (.ref 92), some (.int (zr h 93 (zf h 92 2)))], [], (zp (zp (zp (zp (zp (zp h 92 4 (zf h 92 2)) 92 5 0) 92 3 0) 92 3 (if ((zr h 93 (zf h 92 2)) = 43) then (3 : Int32) else (if ((zr h 93 (zf h 92 2)) = 45) then (3 : Int32) else (if ((zr h 93 (zf h 92 2)) = 42) then (3 : Int32) else (if ((zr h 93 (zf h 92 2)) = 47) then (3 : Int32) else (if ((zr h 93 (zf h 92 2)) = 40) then (3 : Int32) else (if ((zr h 93 (zf h 92 2)) = 41) then (3 : Int32) else (if ((zr h 93 (zf h 92 2)) = 91) then (3 : Int32) else (if ((zr h 93 (zf h 92 2)) = 93) then (3 : Int32) else (if ((zr h 93 (zf h 92 2)) = 60) then (3 : Int32) else (if ((zr h 93 (zf h 92 2)) = 62) then (3 : Int32) else (if ((zr h 93 (zf h 92 2)) = 61) then (3 : Int32) else (if ((zr h 93 (zf h 92 2)) = 59) then (3 : Int32) else 4))))))))))))) 92 5 (zr h 93 (zf h 92 2))) 92 2 ((zf h 92 2) + 1)))) (fun hs => ?_)
          exact zg_ret zd_180 rfl rfl (hF hs)
        refine zg_i_eq zd_180 rfl (fun (hc : ((zr h 93 (zf h 92 2)) = 43)) => ?_) (fun (hc : ¬ ((zr h 93 (zf h 92 2)) = 43)) => ?_)
        · skip
          rw [show ((if ((zr h 93 (zf h 92 2)) = 43) then (3 : Int32) else (if ((zr h 93 (zf h 92 2)) = 45) then (3 : Int32) else (if ((zr h 93 (zf h 92 2)) = 42) then (3 : Int32) else (if ((zr h 93 (zf h 92 2)) = 47) then (3 : Int32) else (if ((zr h 93 (zf h 92 2)) = 40) then (3 : Int32) else (if ((zr h 93 (zf h 92 2)) = 41) then (3 : Int32) else (if ((zr h 93 (zf h 92 2)) = 91) then (3 : Int32) else (if ((zr h 93 (zf h 92 2)) = 93) then (3 : Int32) else (if ((zr h 93 (zf h 92 2)) = 60) then (3 : Int32) else (if ((zr h 93 (zf h 92 2)) = 62) then (3 : Int32) else (if ((zr h 93 (zf h 92 2)) = 61) then (3 : Int32) else (if ((zr h 93 (zf h 92 2)) = 59) then (3 : Int32) else 4)))))))))))) : Int32) = 3 from if_pos hc] at K24
          refine zg_blk zd_180 2 hs (rfl : zb x zT0 zc_180 2 (315, [some (.ref 92), some (.int (zr h 93 (zf h 92 2)))], [.ref 92], (zp (zp (zp h 92 4 (zf h 92 2)) 92 5 0) 92 3 0)) = some (320, [some (.ref 92), some (.int (zr h 93 (zf h 92 2)))], [.int 3, .ref 92], (zp (zp (zp h 92 4 (zf h 92 2)) 92 5 0) 92 3 0))) (fun hs => ?_)
          exact K24 hs
        · skip
          rw [show ((if ((zr h 93 (zf h 92 2)) = 43) then (3 : Int32) else (if ((zr h 93 (zf h 92 2)) = 45) then (3 : Int32) else (if ((zr h 93 (zf h 92 2)) = 42) then (3 : Int32) else (if ((zr h 93 (zf h 92 2)) = 47) then (3 : Int32) else (if ((zr h 93 (zf h 92 2)) = 40) then (3 : Int32) else (if ((zr h 93 (zf h 92 2)) = 41) then (3 : Int32) else (if ((zr h 93 (zf h 92 2)) = 91) then (3 : Int32) else (if ((zr h 93 (zf h 92 2)) = 93) then (3 : Int32) else (if ((zr h 93 (zf h 92 2)) = 60) then (3 : Int32) else (if ((zr h 93 (zf h 92 2)) = 62) then (3 : Int32) else (if ((zr h 93 (zf h 92 2)) = 61) then (3 : Int32) else (if ((zr h 93 (zf h 92 2)) = 59) then (3 : Int32) else 4)))))))))))) : Int32) = (if ((zr h 93 (zf h 92 2)) = 45) then (3 : Int32) else (if ((zr h 93 (zf h 92 2)) = 42) then (3 : Int32) else (if ((zr h 93 (zf h 92 2)) = 47) then (3 : Int32) else (if ((zr h 93 (zf h 92 2)) = 40) then (3 : Int32) else (if ((zr h 93 (zf h 92 2)) = 41) then (3 : Int32) else (if ((zr h 93 (zf h 92 2)) = 91) then (3 : Int32) else (if ((zr h 93 (zf h 92 2)) = 93) then (3 : Int32) else (if ((zr h 93 (zf h 92 2)) = 60) then (3 : Int32) else (if ((zr h 93 (zf h 92 2)) = 62) then (3 : Int32) else (if ((zr h 93 (zf h 92 2)) = 61) then (3 : Int32) else (if ((zr h 93 (zf h 92 2)) = 59) then (3 : Int32) else 4))))))))))) from if_neg hc] at K24
          refine zg_blk zd_180 2 hs (rfl : zb x zT0 zc_180 2 (249, [some (.ref 92), some (.int (zr h 93 (zf h 92 2)))], [.ref 92], (zp (zp (zp h 92 4 (zf h 92 2)) 92 5 0) 92 3 0)) = some (252, [some (.ref 92), some (.int (zr h 93 (zf h 92 2)))], [.int 45, .int (zr h 93 (zf h 92 2)), .ref 92], (zp (zp (zp h 92 4 (zf h 92 2)) 92 5 0) 92 3 0))) (fun hs => ?_)
          refine zg_i_eq zd_180 rfl (fun (hc : ((zr h 93 (zf h 92 2)) = 45)) => ?_) (fun (hc : ¬ ((zr h 93 (zf h 92 2)) = 45)) => ?_)
          · skip
            rw [show ((if ((zr h 93 (zf h 92 2)) = 45) then (3 : Int32) else (if ((zr h 93 (zf h 92 2)) = 42) then (3 : Int32) else (if ((zr h 93 (zf h 92 2)) = 47) then (3 : Int32) else (if ((zr h 93 (zf h 92 2)) = 40) then (3 : Int32) else (if ((zr h 93 (zf h 92 2)) = 41) then (3 : Int32) else (if ((zr h 93 (zf h 92 2)) = 91) then (3 : Int32) else (if ((zr h 93 (zf h 92 2)) = 93) then (3 : Int32) else (if ((zr h 93 (zf h 92 2)) = 60) then (3 : Int32) else (if ((zr h 93 (zf h 92 2)) = 62) then (3 : Int32) else (if ((zr h 93 (zf h 92 2)) = 61) then (3 : Int32) else (if ((zr h 93 (zf h 92 2)) = 59) then (3 : Int32) else 4))))))))))) : Int32) = 3 from if_pos hc] at K24
            refine zg_blk zd_180 2 hs (rfl : zb x zT0 zc_180 2 (315, [some (.ref 92), some (.int (zr h 93 (zf h 92 2)))], [.ref 92], (zp (zp (zp h 92 4 (zf h 92 2)) 92 5 0) 92 3 0)) = some (320, [some (.ref 92), some (.int (zr h 93 (zf h 92 2)))], [.int 3, .ref 92], (zp (zp (zp h 92 4 (zf h 92 2)) 92 5 0) 92 3 0))) (fun hs => ?_)
            exact K24 hs
          · skip
            rw [show ((if ((zr h 93 (zf h 92 2)) = 45) then (3 : Int32) else (if ((zr h 93 (zf h 92 2)) = 42) then (3 : Int32) else (if ((zr h 93 (zf h 92 2)) = 47) then (3 : Int32) else (if ((zr h 93 (zf h 92 2)) = 40) then (3 : Int32) else (if ((zr h 93 (zf h 92 2)) = 41) then (3 : Int32) else (if ((zr h 93 (zf h 92 2)) = 91) then (3 : Int32) else (if ((zr h 93 (zf h 92 2)) = 93) then (3 : Int32) else (if ((zr h 93 (zf h 92 2)) = 60) then (3 : Int32) else (if ((zr h 93 (zf h 92 2)) = 62) then (3 : Int32) else (if ((zr h 93 (zf h 92 2)) = 61) then (3 : Int32) else (if ((zr h 93 (zf h 92 2)) = 59) then (3 : Int32) else 4))))))))))) : Int32) = (if ((zr h 93 (zf h 92 2)) = 42) then (3 : Int32) else (if ((zr h 93 (zf h 92 2)) = 47) then (3 : Int32) else (if ((zr h 93 (zf h 92 2)) = 40) then (3 : Int32) else (if ((zr h 93 (zf h 92 2)) = 41) then (3 : Int32) else (if ((zr h 93 (zf h 92 2)) = 91) then (3 : Int32) else (if ((zr h 93 (zf h 92 2)) = 93) then (3 : Int32) else (if ((zr h 93 (zf h 92 2)) = 60) then (3 : Int32) else (if ((zr h 93 (zf h 92 2)) = 62) then (3 : Int32) else (if ((zr h 93 (zf h 92 2)) = 61) then (3 : Int32) else (if ((zr h 93 (zf h 92 2)) = 59) then (3 : Int32) else 4)))))))))) from if_neg hc] at K24
            refine zg_blk zd_180 2 hs (rfl : zb x zT0 zc_180 2 (255, [some (.ref 92), some (.int (zr h 93 (zf h 92 2)))], [.ref 92], (zp (zp (zp h 92 4 (zf h 92 2)) 92 5 0) 92 3 0)) = some (258, [some (.ref 92), some (.int (zr h 93 (zf h 92 2)))], [.int 42, .int (zr h 93 (zf h 92 2)), .ref 92], (zp (zp (zp h 92 4 (zf h 92 2)) 92 5 0) 92 3 0))) (fun hs => ?_)
            refine zg_i_eq zd_180 rfl (fun (hc : ((zr h 93 (zf h 92 2)) = 42)) => ?_) (fun (hc : ¬ ((zr h 93 (zf h 92 2)) = 42)) => ?_)
            · skip
              rw [show ((if ((zr h 93 (zf h 92 2)) = 42) then (3 : Int32) else (if ((zr h 93 (zf h 92 2)) = 47) then (3 : Int32) else (if ((zr h 93 (zf h 92 2)) = 40) then (3 : Int32) else (if ((zr h 93 (zf h 92 2)) = 41) then (3 : Int32) else (if ((zr h 93 (zf h 92 2)) = 91) then (3 : Int32) else (if ((zr h 93 (zf h 92 2)) = 93) then (3 : Int32) else (if ((zr h 93 (zf h 92 2)) = 60) then (3 : Int32) else (if ((zr h 93 (zf h 92 2)) = 62) then (3 : Int32) else (if ((zr h 93 (zf h 92 2)) = 61) then (3 : Int32) else (if ((zr h 93 (zf h 92 2)) = 59) then (3 : Int32) else 4)))))))))) : Int32) = 3 from if_pos hc] at K24
              refine zg_blk zd_180 2 hs (rfl : zb x zT0 zc_180 2 (315, [some (.ref 92), some (.int (zr h 93 (zf h 92 2)))], [.ref 92], (zp (zp (zp h 92 4 (zf h 92 2)) 92 5 0) 92 3 0)) = some (320, [some (.ref 92), some (.int (zr h 93 (zf h 92 2)))], [.int 3, .ref 92], (zp (zp (zp h 92 4 (zf h 92 2)) 92 5 0) 92 3 0))) (fun hs => ?_)
              exact K24 hs
            · skip
              rw [show ((if ((zr h 93 (zf h 92 2)) = 42) then (3 : Int32) else (if ((zr h 93 (zf h 92 2)) = 47) then (3 : Int32) else (if ((zr h 93 (zf h 92 2)) = 40) then (3 : Int32) else (if ((zr h 93 (zf h 92 2)) = 41) then (3 : Int32) else (if ((zr h 93 (zf h 92 2)) = 91) then (3 : Int32) else (if ((zr h 93 (zf h 92 2)) = 93) then (3 : Int32) else (if ((zr h 93 (zf h 92 2)) = 60) then (3 : Int32) else (if ((zr h 93 (zf h 92 2)) = 62) then (3 : Int32) else (if ((zr h 93 (zf h 92 2)) = 61) then (3 : Int32) else (if ((zr h 93 (zf h 92 2)) = 59) then (3 : Int32) else 4)))))))))) : Int32) = (if ((zr h 93 (zf h 92 2)) = 47) then (3 : Int32) else (if ((zr h 93 (zf h 92 2)) = 40) then (3 : Int32) else (if ((zr h 93 (zf h 92 2)) = 41) then (3 : Int32) else (if ((zr h 93 (zf h 92 2)) = 91) then (3 : Int32) else (if ((zr h 93 (zf h 92 2)) = 93) then (3 : Int32) else (if ((zr h 93 (zf h 92 2)) = 60) then (3 : Int32) else (if ((zr h 93 (zf h 92 2)) = 62) then (3 : Int32) else (if ((zr h 93 (zf h 92 2)) = 61) then (3 : Int32) else (if ((zr h 93 (zf h 92 2)) = 59) then (3 : Int32) else 4))))))))) from if_neg hc] at K24
              refine zg_blk zd_180 2 hs (rfl : zb x zT0 zc_180 2 (261, [some (.ref 92), some (.int (zr h 93 (zf h 92 2)))], [.ref 92], (zp (zp (zp h 92 4 (zf h 92 2)) 92 5 0) 92 3 0)) = some (264, [some (.ref 92), some (.int (zr h 93 (zf h 92 2)))], [.int 47, .int (zr h 93 (zf h 92 2)), .ref 92], (zp (zp (zp h 92 4 (zf h 92 2)) 92 5 0) 92 3 0))) (fun hs => ?_)
              refine zg_i_eq zd_180 rfl (fun (hc : ((zr h 93 (zf h 92 2)) = 47)) => ?_) (fun (hc : ¬ ((zr h 93 (zf h 92 2)) = 47)) => ?_)
              · skip
                rw [show ((if ((zr h 93 (zf h 92 2)) = 47) then (3 : Int32) else (if ((zr h 93 (zf h 92 2)) = 40) then (3 : Int32) else (if ((zr h 93 (zf h 92 2)) = 41) then (3 : Int32) else (if ((zr h 93 (zf h 92 2)) = 91) then (3 : Int32) else (if ((zr h 93 (zf h 92 2)) = 93) then (3 : Int32) else (if ((zr h 93 (zf h 92 2)) = 60) then (3 : Int32) else (if ((zr h 93 (zf h 92 2)) = 62) then (3 : Int32) else (if ((zr h 93 (zf h 92 2)) = 61) then (3 : Int32) else (if ((zr h 93 (zf h 92 2)) = 59) then (3 : Int32) else 4))))))))) : Int32) = 3 from if_pos hc] at K24
                refine zg_blk zd_180 2 hs (rfl : zb x zT0 zc_180 2 (315, [some (.ref 92), some (.int (zr h 93 (zf h 92 2)))], [.ref 92], (zp (zp (zp h 92 4 (zf h 92 2)) 92 5 0) 92 3 0)) = some (320, [some (.ref 92), some (.int (zr h 93 (zf h 92 2)))], [.int 3, .ref 92], (zp (zp (zp h 92 4 (zf h 92 2)) 92 5 0) 92 3 0))) (fun hs => ?_)
                exact K24 hs
              · skip
                rw [show ((if ((zr h 93 (zf h 92 2)) = 47) then (3 : Int32) else (if ((zr h 93 (zf h 92 2)) = 40) then (3 : Int32) else (if ((zr h 93 (zf h 92 2)) = 41) then (3 : Int32) else (if ((zr h 93 (zf h 92 2)) = 91) then (3 : Int32) else (if ((zr h 93 (zf h 92 2)) = 93) then (3 : Int32) else (if ((zr h 93 (zf h 92 2)) = 60) then (3 : Int32) else (if ((zr h 93 (zf h 92 2)) = 62) then (3 : Int32) else (if ((zr h 93 (zf h 92 2)) = 61) then (3 : Int32) else (if ((zr h 93 (zf h 92 2)) = 59) then (3 : Int32) else 4))))))))) : Int32) = (if ((zr h 93 (zf h 92 2)) = 40) then (3 : Int32) else (if ((zr h 93 (zf h 92 2)) = 41) then (3 : Int32) else (if ((zr h 93 (zf h 92 2)) = 91) then (3 : Int32) else (if ((zr h 93 (zf h 92 2)) = 93) then (3 : Int32) else (if ((zr h 93 (zf h 92 2)) = 60) then (3 : Int32) else (if ((zr h 93 (zf h 92 2)) = 62) then (3 : Int32) else (if ((zr h 93 (zf h 92 2)) = 61) then (3 : Int32) else (if ((zr h 93 (zf h 92 2)) = 59) then (3 : Int32) else 4)))))))) from if_neg hc] at K24
                refine zg_blk zd_180 2 hs (rfl : zb x zT0 zc_180 2 (267, [some (.ref 92), some (.int (zr h 93 (zf h 92 2)))], [.ref 92], (zp (zp (zp h 92 4 (zf h 92 2)) 92 5 0) 92 3 0)) = some (270, [some (.ref 92), some (.int (zr h 93 (zf h 92 2)))], [.int 40, .int (zr h 93 (zf h 92 2)), .ref 92], (zp (zp (zp h 92 4 (zf h 92 2)) 92 5 0) 92 3 0))) (fun hs => ?_)
                refine zg_i_eq zd_180 rfl (fun (hc : ((zr h 93 (zf h 92 2)) = 40)) => ?_) (fun (hc : ¬ ((zr h 93 (zf h 92 2)) = 40)) => ?_)
                · skip
                  rw [show ((if ((zr h 93 (zf h 92 2)) = 40) then (3 : Int32) else (if ((zr h 93 (zf h 92 2)) = 41) then (3 : Int32) else (if ((zr h 93 (zf h 92 2)) = 91) then (3 : Int32) else (if ((zr h 93 (zf h 92 2)) = 93) then (3 : Int32) else (if ((zr h 93 (zf h 92 2)) = 60) then (3 : Int32) else (if ((zr h 93 (zf h 92 2)) = 62) then (3 : Int32) else (if ((zr h 93 (zf h 92 2)) = 61) then (3 : Int32) else (if ((zr h 93 (zf h 92 2)) = 59) then (3 : Int32) else 4)))))))) : Int32) = 3 from if_pos hc] at K24
                  refine zg_blk zd_180 2 hs (rfl : zb x zT0 zc_180 2 (315, [some (.ref 92), some (.int (zr h 93 (zf h 92 2)))], [.ref 92], (zp (zp (zp h 92 4 (zf h 92 2)) 92 5 0) 92 3 0)) = some (320, [some (.ref 92), some (.int (zr h 93 (zf h 92 2)))], [.int 3, .ref 92], (zp (zp (zp h 92 4 (zf h 92 2)) 92 5 0) 92 3 0))) (fun hs => ?_)
                  exact K24 hs
                · skip
                  rw [show ((if ((zr h 93 (zf h 92 2)) = 40) then (3 : Int32) else (if ((zr h 93 (zf h 92 2)) = 41) then (3 : Int32) else (if ((zr h 93 (zf h 92 2)) = 91) then (3 : Int32) else (if ((zr h 93 (zf h 92 2)) = 93) then (3 : Int32) else (if ((zr h 93 (zf h 92 2)) = 60) then (3 : Int32) else (if ((zr h 93 (zf h 92 2)) = 62) then (3 : Int32) else (if ((zr h 93 (zf h 92 2)) = 61) then (3 : Int32) else (if ((zr h 93 (zf h 92 2)) = 59) then (3 : Int32) else 4)))))))) : Int32) = (if ((zr h 93 (zf h 92 2)) = 41) then (3 : Int32) else (if ((zr h 93 (zf h 92 2)) = 91) then (3 : Int32) else (if ((zr h 93 (zf h 92 2)) = 93) then (3 : Int32) else (if ((zr h 93 (zf h 92 2)) = 60) then (3 : Int32) else (if ((zr h 93 (zf h 92 2)) = 62) then (3 : Int32) else (if ((zr h 93 (zf h 92 2)) = 61) then (3 : Int32) else (if ((zr h 93 (zf h 92 2)) = 59) then (3 : Int32) else 4))))))) from if_neg hc] at K24
                  refine zg_blk zd_180 2 hs (rfl : zb x zT0 zc_180 2 (273, [some (.ref 92), some (.int (zr h 93 (zf h 92 2)))], [.ref 92], (zp (zp (zp h 92 4 (zf h 92 2)) 92 5 0) 92 3 0)) = some (276, [some (.ref 92), some (.int (zr h 93 (zf h 92 2)))], [.int 41, .int (zr h 93 (zf h 92 2)), .ref 92], (zp (zp (zp h 92 4 (zf h 92 2)) 92 5 0) 92 3 0))) (fun hs => ?_)
                  refine zg_i_eq zd_180 rfl (fun (hc : ((zr h 93 (zf h 92 2)) = 41)) => ?_) (fun (hc : ¬ ((zr h 93 (zf h 92 2)) = 41)) => ?_)
                  · skip
                    rw [show ((if ((zr h 93 (zf h 92 2)) = 41) then (3 : Int32) else (if ((zr h 93 (zf h 92 2)) = 91) then (3 : Int32) else (if ((zr h 93 (zf h 92 2)) = 93) then (3 : Int32) else (if ((zr h 93 (zf h 92 2)) = 60) then (3 : Int32) else (if ((zr h 93 (zf h 92 2)) = 62) then (3 : Int32) else (if ((zr h 93 (zf h 92 2)) = 61) then (3 : Int32) else (if ((zr h 93 (zf h 92 2)) = 59) then (3 : Int32) else 4))))))) : Int32) = 3 from if_pos hc] at K24
                    refine zg_blk zd_180 2 hs (rfl : zb x zT0 zc_180 2 (315, [some (.ref 92), some (.int (zr h 93 (zf h 92 2)))], [.ref 92], (zp (zp (zp h 92 4 (zf h 92 2)) 92 5 0) 92 3 0)) = some (320, [some (.ref 92), some (.int (zr h 93 (zf h 92 2)))], [.int 3, .ref 92], (zp (zp (zp h 92 4 (zf h 92 2)) 92 5 0) 92 3 0))) (fun hs => ?_)
                    exact K24 hs
                  · skip
                    rw [show ((if ((zr h 93 (zf h 92 2)) = 41) then (3 : Int32) else (if ((zr h 93 (zf h 92 2)) = 91) then (3 : Int32) else (if ((zr h 93 (zf h 92 2)) = 93) then (3 : Int32) else (if ((zr h 93 (zf h 92 2)) = 60) then (3 : Int32) else (if ((zr h 93 (zf h 92 2)) = 62) then (3 : Int32) else (if ((zr h 93 (zf h 92 2)) = 61) then (3 : Int32) else (if ((zr h 93 (zf h 92 2)) = 59) then (3 : Int32) else 4))))))) : Int32) = (if ((zr h 93 (zf h 92 2)) = 91) then (3 : Int32) else (if ((zr h 93 (zf h 92 2)) = 93) then (3 : Int32) else (if ((zr h 93 (zf h 92 2)) = 60) then (3 : Int32) else (if ((zr h 93 (zf h 92 2)) = 62) then (3 : Int32) else (if ((zr h 93 (zf h 92 2)) = 61) then (3 : Int32) else (if ((zr h 93 (zf h 92 2)) = 59) then (3 : Int32) else 4)))))) from if_neg hc] at K24
                    refine zg_blk zd_180 2 hs (rfl : zb x zT0 zc_180 2 (279, [some (.ref 92), some (.int (zr h 93 (zf h 92 2)))], [.ref 92], (zp (zp (zp h 92 4 (zf h 92 2)) 92 5 0) 92 3 0)) = some (282, [some (.ref 92), some (.int (zr h 93 (zf h 92 2)))], [.int 91, .int (zr h 93 (zf h 92 2)), .ref 92], (zp (zp (zp h 92 4 (zf h 92 2)) 92 5 0) 92 3 0))) (fun hs => ?_)
                    refine zg_i_eq zd_180 rfl (fun (hc : ((zr h 93 (zf h 92 2)) = 91)) => ?_) (fun (hc : ¬ ((zr h 93 (zf h 92 2)) = 91)) => ?_)
                    · skip
                      rw [show ((if ((zr h 93 (zf h 92 2)) = 91) then (3 : Int32) else (if ((zr h 93 (zf h 92 2)) = 93) then (3 : Int32) else (if ((zr h 93 (zf h 92 2)) = 60) then (3 : Int32) else (if ((zr h 93 (zf h 92 2)) = 62) then (3 : Int32) else (if ((zr h 93 (zf h 92 2)) = 61) then (3 : Int32) else (if ((zr h 93 (zf h 92 2)) = 59) then (3 : Int32) else 4)))))) : Int32) = 3 from if_pos hc] at K24
                      refine zg_blk zd_180 2 hs (rfl : zb x zT0 zc_180 2 (315, [some (.ref 92), some (.int (zr h 93 (zf h 92 2)))], [.ref 92], (zp (zp (zp h 92 4 (zf h 92 2)) 92 5 0) 92 3 0)) = some (320, [some (.ref 92), some (.int (zr h 93 (zf h 92 2)))], [.int 3, .ref 92], (zp (zp (zp h 92 4 (zf h 92 2)) 92 5 0) 92 3 0))) (fun hs => ?_)
                      exact K24 hs
                    · skip
                      rw [show ((if ((zr h 93 (zf h 92 2)) = 91) then (3 : Int32) else (if ((zr h 93 (zf h 92 2)) = 93) then (3 : Int32) else (if ((zr h 93 (zf h 92 2)) = 60) then (3 : Int32) else (if ((zr h 93 (zf h 92 2)) = 62) then (3 : Int32) else (if ((zr h 93 (zf h 92 2)) = 61) then (3 : Int32) else (if ((zr h 93 (zf h 92 2)) = 59) then (3 : Int32) else 4)))))) : Int32) = (if ((zr h 93 (zf h 92 2)) = 93) then (3 : Int32) else (if ((zr h 93 (zf h 92 2)) = 60) then (3 : Int32) else (if ((zr h 93 (zf h 92 2)) = 62) then (3 : Int32) else (if ((zr h 93 (zf h 92 2)) = 61) then (3 : Int32) else (if ((zr h 93 (zf h 92 2)) = 59) then (3 : Int32) else 4))))) from if_neg hc] at K24
                      refine zg_blk zd_180 2 hs (rfl : zb x zT0 zc_180 2 (285, [some (.ref 92), some (.int (zr h 93 (zf h 92 2)))], [.ref 92], (zp (zp (zp h 92 4 (zf h 92 2)) 92 5 0) 92 3 0)) = some (288, [some (.ref 92), some (.int (zr h 93 (zf h 92 2)))], [.int 93, .int (zr h 93 (zf h 92 2)), .ref 92], (zp (zp (zp h 92 4 (zf h 92 2)) 92 5 0) 92 3 0))) (fun hs => ?_)
                      refine zg_i_eq zd_180 rfl (fun (hc : ((zr h 93 (zf h 92 2)) = 93)) => ?_) (fun (hc : ¬ ((zr h 93 (zf h 92 2)) = 93)) => ?_)
                      · skip
                        rw [show ((if ((zr h 93 (zf h 92 2)) = 93) then (3 : Int32) else (if ((zr h 93 (zf h 92 2)) = 60) then (3 : Int32) else (if ((zr h 93 (zf h 92 2)) = 62) then (3 : Int32) else (if ((zr h 93 (zf h 92 2)) = 61) then (3 : Int32) else (if ((zr h 93 (zf h 92 2)) = 59) then (3 : Int32) else 4))))) : Int32) = 3 from if_pos hc] at K24
                        refine zg_blk zd_180 2 hs (rfl : zb x zT0 zc_180 2 (315, [some (.ref 92), some (.int (zr h 93 (zf h 92 2)))], [.ref 92], (zp (zp (zp h 92 4 (zf h 92 2)) 92 5 0) 92 3 0)) = some (320, [some (.ref 92), some (.int (zr h 93 (zf h 92 2)))], [.int 3, .ref 92], (zp (zp (zp h 92 4 (zf h 92 2)) 92 5 0) 92 3 0))) (fun hs => ?_)
                        exact K24 hs
                      · skip
                        rw [show ((if ((zr h 93 (zf h 92 2)) = 93) then (3 : Int32) else (if ((zr h 93 (zf h 92 2)) = 60) then (3 : Int32) else (if ((zr h 93 (zf h 92 2)) = 62) then (3 : Int32) else (if ((zr h 93 (zf h 92 2)) = 61) then (3 : Int32) else (if ((zr h 93 (zf h 92 2)) = 59) then (3 : Int32) else 4))))) : Int32) = (if ((zr h 93 (zf h 92 2)) = 60) then (3 : Int32) else (if ((zr h 93 (zf h 92 2)) = 62) then (3 : Int32) else (if ((zr h 93 (zf h 92 2)) = 61) then (3 : Int32) else (if ((zr h 93 (zf h 92 2)) = 59) then (3 : Int32) else 4)))) from if_neg hc] at K24
                        refine zg_blk zd_180 2 hs (rfl : zb x zT0 zc_180 2 (291, [some (.ref 92), some (.int (zr h 93 (zf h 92 2)))], [.ref 92], (zp (zp (zp h 92 4 (zf h 92 2)) 92 5 0) 92 3 0)) = some (294, [some (.ref 92), some (.int (zr h 93 (zf h 92 2)))], [.int 60, .int (zr h 93 (zf h 92 2)), .ref 92], (zp (zp (zp h 92 4 (zf h 92 2)) 92 5 0) 92 3 0))) (fun hs => ?_)
                        refine zg_i_eq zd_180 rfl (fun (hc : ((zr h 93 (zf h 92 2)) = 60)) => ?_) (fun (hc : ¬ ((zr h 93 (zf h 92 2)) = 60)) => ?_)
                        · skip
                          rw [show ((if ((zr h 93 (zf h 92 2)) = 60) then (3 : Int32) else (if ((zr h 93 (zf h 92 2)) = 62) then (3 : Int32) else (if ((zr h 93 (zf h 92 2)) = 61) then (3 : Int32) else (if ((zr h 93 (zf h 92 2)) = 59) then (3 : Int32) else 4)))) : Int32) = 3 from if_pos hc] at K24
                          refine zg_blk zd_180 2 hs (rfl : zb x zT0 zc_180 2 (315, [some (.ref 92), some (.int (zr h 93 (zf h 92 2)))], [.ref 92], (zp (zp (zp h 92 4 (zf h 92 2)) 92 5 0) 92 3 0)) = some (320, [some (.ref 92), some (.int (zr h 93 (zf h 92 2)))], [.int 3, .ref 92], (zp (zp (zp h 92 4 (zf h 92 2)) 92 5 0) 92 3 0))) (fun hs => ?_)
                          exact K24 hs
                        · skip
                          rw [show ((if ((zr h 93 (zf h 92 2)) = 60) then (3 : Int32) else (if ((zr h 93 (zf h 92 2)) = 62) then (3 : Int32) else (if ((zr h 93 (zf h 92 2)) = 61) then (3 : Int32) else (if ((zr h 93 (zf h 92 2)) = 59) then (3 : Int32) else 4)))) : Int32) = (if ((zr h 93 (zf h 92 2)) = 62) then (3 : Int32) else (if ((zr h 93 (zf h 92 2)) = 61) then (3 : Int32) else (if ((zr h 93 (zf h 92 2)) = 59) then (3 : Int32) else 4))) from if_neg hc] at K24
                          refine zg_blk zd_180 2 hs (rfl : zb x zT0 zc_180 2 (297, [some (.ref 92), some (.int (zr h 93 (zf h 92 2)))], [.ref 92], (zp (zp (zp h 92 4 (zf h 92 2)) 92 5 0) 92 3 0)) = some (300, [some (.ref 92), some (.int (zr h 93 (zf h 92 2)))], [.int 62, .int (zr h 93 (zf h 92 2)), .ref 92], (zp (zp (zp h 92 4 (zf h 92 2)) 92 5 0) 92 3 0))) (fun hs => ?_)
                          refine zg_i_eq zd_180 rfl (fun (hc : ((zr h 93 (zf h 92 2)) = 62)) => ?_) (fun (hc : ¬ ((zr h 93 (zf h 92 2)) = 62)) => ?_)
                          · skip
                            rw [show ((if ((zr h 93 (zf h 92 2)) = 62) then (3 : Int32) else (if ((zr h 93 (zf h 92 2)) = 61) then (3 : Int32) else (if ((zr h 93 (zf h 92 2)) = 59) then (3 : Int32) else 4))) : Int32) = 3 from if_pos hc] at K24
                            refine zg_blk zd_180 2 hs (rfl : zb x zT0 zc_180 2 (315, [some (.ref 92), some (.int (zr h 93 (zf h 92 2)))], [.ref 92], (zp (zp (zp h 92 4 (zf h 92 2)) 92 5 0) 92 3 0)) = some (320, [some (.ref 92), some (.int (zr h 93 (zf h 92 2)))], [.int 3, .ref 92], (zp (zp (zp h 92 4 (zf h 92 2)) 92 5 0) 92 3 0))) (fun hs => ?_)
                            exact K24 hs
                          · skip
                            rw [show ((if ((zr h 93 (zf h 92 2)) = 62) then (3 : Int32) else (if ((zr h 93 (zf h 92 2)) = 61) then (3 : Int32) else (if ((zr h 93 (zf h 92 2)) = 59) then (3 : Int32) else 4))) : Int32) = (if ((zr h 93 (zf h 92 2)) = 61) then (3 : Int32) else (if ((zr h 93 (zf h 92 2)) = 59) then (3 : Int32) else 4)) from if_neg hc] at K24
                            refine zg_blk zd_180 2 hs (rfl : zb x zT0 zc_180 2 (303, [some (.ref 92), some (.int (zr h 93 (zf h 92 2)))], [.ref 92], (zp (zp (zp h 92 4 (zf h 92 2)) 92 5 0) 92 3 0)) = some (306, [some (.ref 92), some (.int (zr h 93 (zf h 92 2)))], [.int 61, .int (zr h 93 (zf h 92 2)), .ref 92], (zp (zp (zp h 92 4 (zf h 92 2)) 92 5 0) 92 3 0))) (fun hs => ?_)
                            refine zg_i_eq zd_180 rfl (fun (hc : ((zr h 93 (zf h 92 2)) = 61)) => ?_) (fun (hc : ¬ ((zr h 93 (zf h 92 2)) = 61)) => ?_)
                            · skip
                              rw [show ((if ((zr h 93 (zf h 92 2)) = 61) then (3 : Int32) else (if ((zr h 93 (zf h 92 2)) = 59) then (3 : Int32) else 4)) : Int32) = 3 from if_pos hc] at K24
                              refine zg_blk zd_180 2 hs (rfl : zb x zT0 zc_180 2 (315, [some (.ref 92), some (.int (zr h 93 (zf h 92 2)))], [.ref 92], (zp (zp (zp h 92 4 (zf h 92 2)) 92 5 0) 92 3 0)) = some (320, [some (.ref 92), some (.int (zr h 93 (zf h 92 2)))], [.int 3, .ref 92], (zp (zp (zp h 92 4 (zf h 92 2)) 92 5 0) 92 3 0))) (fun hs => ?_)
                              exact K24 hs
                            · skip
                              rw [show ((if ((zr h 93 (zf h 92 2)) = 61) then (3 : Int32) else (if ((zr h 93 (zf h 92 2)) = 59) then (3 : Int32) else 4)) : Int32) = (if ((zr h 93 (zf h 92 2)) = 59) then (3 : Int32) else 4) from if_neg hc] at K24
                              refine zg_blk zd_180 2 hs (rfl : zb x zT0 zc_180 2 (309, [some (.ref 92), some (.int (zr h 93 (zf h 92 2)))], [.ref 92], (zp (zp (zp h 92 4 (zf h 92 2)) 92 5 0) 92 3 0)) = some (312, [some (.ref 92), some (.int (zr h 93 (zf h 92 2)))], [.int 59, .int (zr h 93 (zf h 92 2)), .ref 92], (zp (zp (zp h 92 4 (zf h 92 2)) 92 5 0) 92 3 0))) (fun hs => ?_)
                              refine zg_i_ne zd_180 rfl (fun (hc : ¬ ((zr h 93 (zf h 92 2)) = 59)) => ?_) (fun (hc : ((zr h 93 (zf h 92 2)) = 59)) => ?_)
                              · skip
                                rw [show ((if ((zr h 93 (zf h 92 2)) = 59) then (3 : Int32) else 4) : Int32) = 4 from if_neg hc] at K24
                                refine zg_blk zd_180 1 hs (rfl : zb x zT0 zc_180 1 (319, [some (.ref 92), some (.int (zr h 93 (zf h 92 2)))], [.ref 92], (zp (zp (zp h 92 4 (zf h 92 2)) 92 5 0) 92 3 0)) = some (320, [some (.ref 92), some (.int (zr h 93 (zf h 92 2)))], [.int 4, .ref 92], (zp (zp (zp h 92 4 (zf h 92 2)) 92 5 0) 92 3 0))) (fun hs => ?_)
                                exact K24 hs
                              · skip
                                rw [show ((if ((zr h 93 (zf h 92 2)) = 59) then (3 : Int32) else 4) : Int32) = 3 from if_pos hc] at K24
                                refine zg_blk zd_180 2 hs (rfl : zb x zT0 zc_180 2 (315, [some (.ref 92), some (.int (zr h 93 (zf h 92 2)))], [.ref 92], (zp (zp (zp h 92 4 (zf h 92 2)) 92 5 0) 92 3 0)) = some (320, [some (.ref 92), some (.int (zr h 93 (zf h 92 2)))], [.int 3, .ref 92], (zp (zp (zp h 92 4 (zf h 92 2)) 92 5 0) 92 3 0))) (fun hs => ?_)
                                exact K24 hs
      · have ho := ho.1 hc
        rw [if_pos hc] at hF
        refine f_M_follows_l155_t  (fun r => f_M_follows_a155_ok r ∧ (zSh zT0 (f_M_follows_a155 r) → Q none (f_M_follows_a155 r))) ?_ zF (zp (zp (zp h 92 4 (zf h 92 2)) 92 5 0) 92 3 0) (some (.int (zr h 93 (zf h 92 2)))) hs ho.1 ⟨ho.2, hF⟩
        · intro h_ o1_ hs hG
          have ho : True := trivial
          have hF : (zSh zT0 ((f_M_follows_k234 h_)) → Q none ((f_M_follows_k234 h_))) := hG.2
          exact f_M_follows_k234_t h_ (o1_) hs trivial hF
    · have ho := ho.1 hc
      rw [if_pos hc] at hF
      refine f_M_follows_l85_t  (fun r => f_M_follows_a85_ok r ∧ (zSh zT0 (f_M_follows_a85 r) → Q none (f_M_follows_a85 r))) ?_ zF (zp (zp (zp h 92 4 (zf h 92 2)) 92 5 0) 92 3 0) (some (.int (zr h 93 (zf h 92 2)))) hs ho.1 ⟨ho.2, hF⟩
      · intro h_ o1_ hs hG
        have ho : (f_M_follows_k124_ok h_) := hG.1
        have hF : (zSh zT0 ((f_M_follows_k124 h_)) → Q none ((f_M_follows_k124 h_))) := hG.2
        exact f_M_follows_k124_t h_ (o1_) hs ho hF
  · have ho := ho.1 hc
    rw [if_pos hc] at hF
    exact zg_ret zd_180 rfl rfl (hF hs)
set_option maxRecDepth 100000 in
set_option maxHeartbeats 400000 in
theorem f_M_follows_t {x : zm_X} {d : Nat} (h : zm_H) {Q : Option Value → zm_H → Prop} (hs : zSh zT0 h) (ho : f_M_follows_ok h) (hF : (zSh zT0 (f_M_follows h) → Q none (f_M_follows h))) : zg x (d + 2) 180 0 [some (.ref 92), none] [] h Q := by
  unfold f_M_follows at hF
  unfold f_M_follows_ok at ho
  refine f_M_follows_l0_t  (fun r => f_M_follows_a0_ok r ∧ (zSh zT0 (f_M_follows_a0 r) → Q none (f_M_follows_a0 r))) ?_ zF h (none) hs ho.1 ⟨ho.2, hF⟩
  · intro h_ o1_ hs hG
    have ho : (f_M_follows_k38_ok h_) := hG.1
    have hF : (zSh zT0 ((f_M_follows_k38 h_)) → Q none ((f_M_follows_k38 h_))) := hG.2
    exact f_M_follows_k38_t h_ (o1_) hs ho hF
theorem zd_184 : zm_cd 184 = zc_184 := by rfl
set_option maxRecDepth 100000 in
set_option maxHeartbeats 400000 in
theorem f_M_push_t {x : zm_X} {d : Nat} (p1 : Int32) (h : zm_H) {Q : Option Value → zm_H → Prop} (hs : zSh zT0 h) (ho : f_M_push_ok p1 h) (hF : (zSh zT0 (f_M_push p1 h) → Q none (f_M_push p1 h))) : zg x (d + 1) 184 0 [some (.ref 92), some (.int p1)] [] h Q := by
  unfold f_M_push at hF
  unfold f_M_push_ok at ho
  refine zg_blk zd_184 5 hs (rfl : zb x zT0 zc_184 5 (0, [some (.ref 92), some (.int p1)], [], h) = some (9, [some (.ref 92), some (.int p1)], [.int p1, .int (zf h 92 7), .ref 94], h)) (fun hs => ?_)
  have hob := ho
  refine zg_ias hs zd_184 rfl rfl hob (fun hs => ?_)
  refine zg_blk zd_184 6 hs (rfl : zb x zT0 zc_184 6 (10, [some (.ref 92), some (.int p1)], [], (zs h 94 (zf h 92 7) p1)) = some (20, [some (.ref 92), some (.int p1)], [], (zp (zs h 94 (zf h 92 7) p1) 92 7 ((zf h 92 7) + 1)))) (fun hs => ?_)
  exact zg_ret zd_184 rfl rfl (hF hs)
theorem zd_185 : zm_cd 185 = zc_185 := by rfl
theorem zd_189 : zm_cd 189 = zc_189 := by rfl
theorem zd_188 : zm_cd 188 = zc_188 := by rfl
set_option maxRecDepth 100000 in
set_option maxHeartbeats 400000 in
theorem f_M_takes_t {x : zm_X} {d : Nat} (h : zm_H) {Q : Option Value → zm_H → Prop} (hs : zSh zT0 h) (ho : f_M_takes_ok h) (hF : (zSh zT0 (f_M_takes h).2 → Q (some (.int (f_M_takes h).1)) (f_M_takes h).2)) : zg x (d + 3) 188 0 [some (.ref 92)] [] h Q := by
  unfold f_M_takes at hF
  unfold f_M_takes_ok at ho
  refine zg_blk zd_188 1 hs (rfl : zb x zT0 zc_188 1 (0, [some (.ref 92)], [], h) = some (1, [some (.ref 92)], [.ref 92], h)) (fun hs => ?_)
  have hob := ho
  refine zg_call hs zd_188 rfl rfl rfl rfl (as := [.ref 92]) (rest := []) (en := [some (.ref 92), none]) rfl rfl rfl rfl rfl ?_
  refine f_M_follows_t  h hs hob (fun hs => ?_)
  show zg x (d + 3) 188 4 [some (.ref 92)] [] (f_M_follows h) Q
  refine zg_blk zd_188 1 hs (rfl : zb x zT0 zc_188 1 (4, [some (.ref 92)], [], (f_M_follows h)) = some (5, [some (.ref 92)], [.int 1], (f_M_follows h))) (fun hs => ?_)
  exact zg_rtz zd_188 rfl rfl rfl (hF hs)
set_option maxRecDepth 100000 in
set_option maxHeartbeats 400000 in
theorem f_M_clauses_k101_t {x : zm_X} {d : Nat} (h : zm_H) {Q : Option Value → zm_H → Prop} (hs : zSh zT0 h) (ho : f_M_clauses_k101_ok h) (hF : (zSh zT0 (f_M_clauses_k101 h).2 → Q (some (.int (f_M_clauses_k101 h).1)) (f_M_clauses_k101 h).2)) : zg x (d + 4) 189 101 [some (.ref 92)] [] h Q := by
  unfold f_M_clauses_k101 at hF
  unfold f_M_clauses_k101_ok at ho
  refine zg_blk zd_189 1 hs (rfl : zb x zT0 zc_189 1 (101, [some (.ref 92)], [], h) = some (102, [some (.ref 92)], [.ref 92], h)) (fun hs => ?_)
  obtain ⟨hob, ho⟩ := ho
  refine zg_call hs zd_189 rfl rfl rfl rfl (as := [.ref 92]) (rest := []) (en := [some (.ref 92)]) rfl rfl rfl rfl rfl ?_
  refine f_M_takes_t  h hs hob (fun hs => ?_)
  show zg x (d + 4) 189 105 [some (.ref 92)] [.int (f_M_takes h).1] (f_M_takes h).2 Q
  exact zg_rtz zd_189 rfl rfl ho (hF hs)
set_option maxRecDepth 100000 in
set_option maxHeartbeats 400000 in
theorem f_M_clauses_k83_t {x : zm_X} {d : Nat} (h : zm_H) {Q : Option Value → zm_H → Prop} (hs : zSh zT0 h) (ho : f_M_clauses_k83_ok h) (hF : (zSh zT0 (f_M_clauses_k83 h).2 → Q (some (.int (f_M_clauses_k83 h).1)) (f_M_clauses_k83 h).2)) : zg x (d + 4) 189 83 [some (.ref 92)] [] h Q := by
  unfold f_M_clauses_k83 at hF
  unfold f_M_clauses_k83_ok at ho
  refine zg_blk zd_189 4 hs (rfl : zb x zT0 zc_189 4 (83, [some (.ref 92)], [], h) = some (89, [some (.ref 92)], [.int 3, .int (zf h 92 9), .ref 92], h)) (fun hs => ?_)
  have K25 : zSh zT0 h → zg x (d + 4) 189 98 [some (.ref 92)] [.int (if ((zf h 92 9) = 3) then (1 : Int32) else 6), .ref 92] h Q := fun hs => by
    obtain ⟨hob, ho⟩ := ho
    refine zg_call hs zd_189 rfl rfl rfl rfl (as := [.ref 92, .int (if ((zf h 92 9) = 3) then (1 : Int32) else 6)]) (rest := []) (en := [some (.ref 92), some (.int (if ((zf h 92 9) = 3) then (1 : Int32) else 6))]) rfl rfl rfl rfl rfl ?_
    refine f_M_push_t (if ((zf h 92 9) = 3) then (1 : Int32) else 6) h hs hob (fun hs => ?_)
    show zg x (d + 4) 189 101 [some (.ref 92)] [] (f_M_push (if ((zf h 92 9) = 3) then (1 : Int32) else 6) h) Q
    exact f_M_clauses_k101_t (f_M_push (if ((zf h 92 9) = 3) then (1 : Int32) else 6) h) hs ho hF
  refine zg_i_ne zd_189 rfl (fun (hc : ¬ ((zf h 92 9) = 3)) => ?_) (fun (hc : ((zf h 92 9) = 3)) => ?_)
  · skip
    rw [show ((if ((zf h 92 9) = 3) then (1 : Int32) else 6) : Int32) = 6 from if_neg hc] at K25
    refine zg_blk zd_189 1 hs (rfl : zb x zT0 zc_189 1 (96, [some (.ref 92)], [.ref 92], h) = some (98, [some (.ref 92)], [.int 6, .ref 92], h)) (fun hs => ?_)
    exact K25 hs
  · skip
    rw [show ((if ((zf h 92 9) = 3) then (1 : Int32) else 6) : Int32) = 1 from if_pos hc] at K25
    refine zg_blk zd_189 2 hs (rfl : zb x zT0 zc_189 2 (92, [some (.ref 92)], [.ref 92], h) = some (98, [some (.ref 92)], [.int 1, .ref 92], h)) (fun hs => ?_)
    exact K25 hs
set_option maxRecDepth 100000 in
set_option maxHeartbeats 400000 in
theorem f_M_clauses_k76_t {x : zm_X} {d : Nat} (h : zm_H) {Q : Option Value → zm_H → Prop} (hs : zSh zT0 h) (ho : f_M_clauses_k76_ok h) (hF : (zSh zT0 (f_M_clauses_k76 h).2 → Q (some (.int (f_M_clauses_k76 h).1)) (f_M_clauses_k76 h).2)) : zg x (d + 4) 189 76 [some (.ref 92)] [] h Q := by
  unfold f_M_clauses_k76 at hF
  unfold f_M_clauses_k76_ok at ho
  refine zg_blk zd_189 2 hs (rfl : zb x zT0 zc_189 2 (76, [some (.ref 92)], [], h) = some (80, [some (.ref 92)], [.int 159, .ref 92], h)) (fun hs => ?_)
  obtain ⟨hob, ho⟩ := ho
  refine zg_call hs zd_189 rfl rfl rfl rfl (as := [.ref 92, .int 159]) (rest := []) (en := [some (.ref 92), some (.int 159)]) rfl rfl rfl rfl rfl ?_
  refine f_M_push_t 159 h hs hob (fun hs => ?_)
  show zg x (d + 4) 189 83 [some (.ref 92)] [] (f_M_push 159 h) Q
  exact f_M_clauses_k83_t (f_M_push 159 h) hs ho hF
set_option maxRecDepth 100000 in
set_option maxHeartbeats 400000 in
theorem f_M_clauses_k70_t {x : zm_X} {d : Nat} (h : zm_H) {Q : Option Value → zm_H → Prop} (hs : zSh zT0 h) (ho : f_M_clauses_k70_ok h) (hF : (zSh zT0 (f_M_clauses_k70 h).2 → Q (some (.int (f_M_clauses_k70 h).1)) (f_M_clauses_k70 h).2)) : zg x (d + 4) 189 70 [some (.ref 92)] [] h Q := by
  unfold f_M_clauses_k70 at hF
  unfold f_M_clauses_k70_ok at ho
  refine zg_blk zd_189 2 hs (rfl : zb x zT0 zc_189 2 (70, [some (.ref 92)], [], h) = some (73, [some (.ref 92)], [.int 13, .ref 92], h)) (fun hs => ?_)
  obtain ⟨hob, ho⟩ := ho
  refine zg_call hs zd_189 rfl rfl rfl rfl (as := [.ref 92, .int 13]) (rest := []) (en := [some (.ref 92), some (.int 13)]) rfl rfl rfl rfl rfl ?_
  refine f_M_push_t 13 h hs hob (fun hs => ?_)
  show zg x (d + 4) 189 76 [some (.ref 92)] [] (f_M_push 13 h) Q
  exact f_M_clauses_k76_t (f_M_push 13 h) hs ho hF
set_option maxRecDepth 100000 in
set_option maxHeartbeats 400000 in
theorem f_M_clauses_t {x : zm_X} {d : Nat} (h : zm_H) {Q : Option Value → zm_H → Prop} (hs : zSh zT0 h) (ho : f_M_clauses_ok h) (hF : (zSh zT0 (f_M_clauses h).2 → Q (some (.int (f_M_clauses h).1)) (f_M_clauses h).2)) : zg x (d + 4) 189 0 [some (.ref 92)] [] h Q := by
  unfold f_M_clauses at hF
  unfold f_M_clauses_ok at ho
  refine zg_blk zd_189 2 hs (rfl : zb x zT0 zc_189 2 (0, [some (.ref 92)], [], h) = some (4, [some (.ref 92)], [.int (zf h 92 3)], h)) (fun hs => ?_)
  refine zg_f_ne zd_189 rfl (fun (hc : ¬ ((zf h 92 3) = 0)) => ?_) (fun (hc : ((zf h 92 3) = 0)) => ?_)
  · have ho := ho.2 hc
    rw [if_neg hc] at hF
    refine zg_blk zd_189 3 hs (rfl : zb x zT0 zc_189 3 (9, [some (.ref 92)], [], h) = some (14, [some (.ref 92)], [.int 2, .int (zf h 92 3)], h)) (fun hs => ?_)
    refine zg_i_ne zd_189 rfl (fun (hc : ¬ ((zf h 92 3) = 2)) => ?_) (fun (hc : ((zf h 92 3) = 2)) => ?_)
    · have ho := ho.2 hc
      rw [if_neg hc] at hF
      refine zg_blk zd_189 1 hs (rfl : zb x zT0 zc_189 1 (42, [some (.ref 92)], [], h) = some (43, [some (.ref 92)], [.int 0], h)) (fun hs => ?_)
      exact zg_rtz zd_189 rfl rfl rfl (hF hs)
    · have ho := ho.1 hc
      rw [if_pos hc] at hF
      refine zg_blk zd_189 4 hs (rfl : zb x zT0 zc_189 4 (17, [some (.ref 92)], [], h) = some (23, [some (.ref 92)], [.int 3, .int 0, .int (zf h 92 5)], h)) (fun hs => ?_)
      refine zg_call hs zd_189 rfl rfl rfl rfl (as := [.int (zf h 92 5), .int 0, .int 3]) (rest := []) (en := [some (.int (zf h 92 5)), some (.int 0), some (.int 3)]) rfl rfl rfl rfl rfl ?_
      refine f_M_in_t (zf h 92 5) 0 3 h hs trivial ?_
      show zg x (d + 4) 189 26 [some (.ref 92)] [.int (if (¬ ((zf h 92 5) < 0) ∧ (¬ (3 < (zf h 92 5)))) then (1 : Int32) else 0)] h Q
      refine zg_b_eq zd_189 rfl (fun (hc : ¬ (¬ ((zf h 92 5) < 0) ∧ (¬ (3 < (zf h 92 5))))) => ?_) (fun (hc : (¬ ((zf h 92 5) < 0) ∧ (¬ (3 < (zf h 92 5))))) => ?_)
      · have ho := ho.2 hc
        rw [if_neg hc] at hF
        refine zg_blk zd_189 1 hs (rfl : zb x zT0 zc_189 1 (42, [some (.ref 92)], [], h) = some (43, [some (.ref 92)], [.int 0], h)) (fun hs => ?_)
        exact zg_rtz zd_189 rfl rfl rfl (hF hs)
      · have ho := ho.1 hc
        rw [if_pos hc] at hF
        refine zg_blk zd_189 4 hs (rfl : zb x zT0 zc_189 4 (29, [some (.ref 92)], [], h) = some (37, [some (.ref 92)], [.int (zf h 92 5), .ref 97], h)) (fun hs => ?_)
        obtain ⟨hob, ho⟩ := ho
        refine zg_ial hs zd_189 rfl rfl hob ?_
        refine zg_blk zd_189 1 hs (rfl : zb x zT0 zc_189 1 (38, [some (.ref 92)], [.int (zr h 97 (zf h 92 5))], h) = some (39, [some (.ref 92)], [.int (-1), .int (zr h 97 (zf h 92 5))], h)) (fun hs => ?_)
        refine zg_i_eq zd_189 rfl (fun (hc : ((zr h 97 (zf h 92 5)) = (-1))) => ?_) (fun (hc : ¬ ((zr h 97 (zf h 92 5)) = (-1))) => ?_)
        · have ho := ho.1 hc
          rw [if_pos hc] at hF
          refine zg_blk zd_189 10 hs (rfl : zb x zT0 zc_189 10 (44, [some (.ref 92)], [], h) = some (64, [some (.ref 92)], [.int (zf h 92 12), .int (zf h 92 5), .ref 97], (zp h 92 9 (zf h 92 5)))) (fun hs => ?_)
          obtain ⟨hob, ho⟩ := ho
          refine zg_ias hs zd_189 rfl rfl hob (fun hs => ?_)
          refine zg_blk zd_189 2 hs (rfl : zb x zT0 zc_189 2 (65, [some (.ref 92)], [], (zs (zp h 92 9 (zf h 92 5)) 97 (zf h 92 5) (zf h 92 12))) = some (67, [some (.ref 92)], [.int 0, .ref 92], (zs (zp h 92 9 (zf h 92 5)) 97 (zf h 92 5) (zf h 92 12)))) (fun hs => ?_)
          obtain ⟨hob, ho⟩ := ho
          refine zg_call hs zd_189 rfl rfl rfl rfl (as := [.ref 92, .int 0]) (rest := []) (en := [some (.ref 92), some (.int 0)]) rfl rfl rfl rfl rfl ?_
          refine f_M_push_t 0 (zs (zp h 92 9 (zf h 92 5)) 97 (zf h 92 5) (zf h 92 12)) hs hob (fun hs => ?_)
          show zg x (d + 4) 189 70 [some (.ref 92)] [] (f_M_push 0 (zs (zp h 92 9 (zf h 92 5)) 97 (zf h 92 5) (zf h 92 12))) Q
          exact f_M_clauses_k70_t (f_M_push 0 (zs (zp h 92 9 (zf h 92 5)) 97 (zf h 92 5) (zf h 92 12))) hs ho hF
        · have ho := ho.2 hc
          rw [if_neg hc] at hF
          refine zg_blk zd_189 1 hs (rfl : zb x zT0 zc_189 1 (42, [some (.ref 92)], [], h) = some (43, [some (.ref 92)], [.int 0], h)) (fun hs => ?_)
          exact zg_rtz zd_189 rfl rfl rfl (hF hs)
  · have ho := ho.1 hc
    rw [if_pos hc] at hF
    refine zg_blk zd_189 1 hs (rfl : zb x zT0 zc_189 1 (7, [some (.ref 92)], [], h) = some (8, [some (.ref 92)], [.int 1], h)) (fun hs => ?_)
    exact zg_rtz zd_189 rfl rfl rfl (hF hs)
theorem zd_190 : zm_cd 190 = zc_190 := by rfl
set_option maxRecDepth 100000 in
set_option maxHeartbeats 400000 in
theorem f_M_both_k5_t {x : zm_X} {d : Nat} (v2 : Int32) (h : zm_H) (o1 : Option Value) {Q : Option Value → zm_H → Prop} (hs : zSh zT0 h) (ho : f_M_both_k5_ok v2 h) (hF : (zSh zT0 (f_M_both_k5 v2 h).2 → Q (some (.int (f_M_both_k5 v2 h).1)) (f_M_both_k5 v2 h).2)) : zg x (d + 2) 190 5 [some (.ref 92), o1, some (.int v2)] [] h Q := by
  unfold f_M_both_k5 at hF
  unfold f_M_both_k5_ok at ho
  refine zg_blk zd_190 2 hs (rfl : zb x zT0 zc_190 2 (5, [some (.ref 92), o1, some (.int v2)], [], h) = some (7, [some (.ref 92), o1, some (.int v2)], [.int v2, .ref 92], h)) (fun hs => ?_)
  have hob := ho
  refine zg_call hs zd_190 rfl rfl rfl rfl (as := [.ref 92, .int v2]) (rest := []) (en := [some (.ref 92), some (.int v2)]) rfl rfl rfl rfl rfl ?_
  refine f_M_push_t v2 h hs hob (fun hs => ?_)
  show zg x (d + 2) 190 10 [some (.ref 92), o1, some (.int v2)] [] (f_M_push v2 h) Q
  refine zg_blk zd_190 1 hs (rfl : zb x zT0 zc_190 1 (10, [some (.ref 92), o1, some (.int v2)], [], (f_M_push v2 h)) = some (11, [some (.ref 92), o1, some (.int v2)], [.int 1], (f_M_push v2 h))) (fun hs => ?_)
  exact zg_rtz zd_190 rfl rfl rfl (hF hs)
set_option maxRecDepth 100000 in
set_option maxHeartbeats 400000 in
theorem f_M_both_t {x : zm_X} {d : Nat} (p1 : Int32) (p2 : Int32) (h : zm_H) {Q : Option Value → zm_H → Prop} (hs : zSh zT0 h) (ho : f_M_both_ok p1 p2 h) (hF : (zSh zT0 (f_M_both p1 p2 h).2 → Q (some (.int (f_M_both p1 p2 h).1)) (f_M_both p1 p2 h).2)) : zg x (d + 2) 190 0 [some (.ref 92), some (.int p1), some (.int p2)] [] h Q := by
  unfold f_M_both at hF
  unfold f_M_both_ok at ho
  refine zg_blk zd_190 2 hs (rfl : zb x zT0 zc_190 2 (0, [some (.ref 92), some (.int p1), some (.int p2)], [], h) = some (2, [some (.ref 92), some (.int p1), some (.int p2)], [.int p1, .ref 92], h)) (fun hs => ?_)
  obtain ⟨hob, ho⟩ := ho
  refine zg_call hs zd_190 rfl rfl rfl rfl (as := [.ref 92, .int p1]) (rest := []) (en := [some (.ref 92), some (.int p1)]) rfl rfl rfl rfl rfl ?_
  refine f_M_push_t p1 h hs hob (fun hs => ?_)
  show zg x (d + 2) 190 5 [some (.ref 92), some (.int p1), some (.int p2)] [] (f_M_push p1 h) Q
  exact f_M_both_k5_t p2 (f_M_push p1 h) (some (.int p1)) hs ho hF
theorem zd_191 : zm_cd 191 = zc_191 := by rfl
theorem zd_187 : zm_cd 187 = zc_187 := by rfl
set_option maxRecDepth 100000 in
set_option maxHeartbeats 400000 in
theorem f_M_isSign_t {x : zm_X} {d : Nat} (p1 : Int32) (h : zm_H) {Q : Option Value → zm_H → Prop} (hs : zSh zT0 h) (ho : f_M_isSign_ok p1 h) (hF : Q (some (.int (f_M_isSign p1 h))) h) : zg x (d + 1) 187 0 [some (.ref 92), some (.int p1)] [] h Q := by
  unfold f_M_isSign at hF
  unfold f_M_isSign_ok at ho
  refine zg_blk zd_187 3 hs (rfl : zb x zT0 zc_187 3 (0, [some (.ref 92), some (.int p1)], [], h) = some (5, [some (.ref 92), some (.int p1)], [.int 3, .int (zf h 92 3)], h)) (fun hs => ?_)
  have K26 : zSh zT0 h → zg x (d + 1) 187 21 [some (.ref 92), some (.int p1)] [.int (if (((zf h 92 3) = 3) ∧ ((zf h 92 5) = p1)) then (1 : Int32) else 0)] h Q := fun hs => by
    exact zg_rtz zd_187 rfl rfl zm_nb01 hF
  refine zg_i_ne zd_187 rfl (fun (hc : ¬ ((zf h 92 3) = 3)) => ?_) (fun (hc : ((zf h 92 3) = 3)) => ?_)
  · skip
    rw [show ((if (((zf h 92 3) = 3) ∧ ((zf h 92 5) = p1)) then (1 : Int32) else 0) : Int32) = 0 from zb_and_f hc] at K26
    refine zg_blk zd_187 1 hs (rfl : zb x zT0 zc_187 1 (20, [some (.ref 92), some (.int p1)], [], h) = some (21, [some (.ref 92), some (.int p1)], [.int 0], h)) (fun hs => ?_)
    exact K26 hs
  · skip
    rw [show ((if (((zf h 92 3) = 3) ∧ ((zf h 92 5) = p1)) then (1 : Int32) else 0) : Int32) = (if ((zf h 92 5) = p1) then (1 : Int32) else 0) from zb_and_t hc] at K26
    refine zg_blk zd_187 3 hs (rfl : zb x zT0 zc_187 3 (8, [some (.ref 92), some (.int p1)], [], h) = some (13, [some (.ref 92), some (.int p1)], [.int p1, .int (zf h 92 5)], h)) (fun hs => ?_)
    refine zg_i_ne zd_187 rfl (fun (hc : ¬ ((zf h 92 5) = p1)) => ?_) (fun (hc : ((zf h 92 5) = p1)) => ?_)
    · skip
      rw [show ((if ((zf h 92 5) = p1) then (1 : Int32) else 0) : Int32) = 0 from if_neg hc] at K26
      refine zg_blk zd_187 1 hs (rfl : zb x zT0 zc_187 1 (20, [some (.ref 92), some (.int p1)], [], h) = some (21, [some (.ref 92), some (.int p1)], [.int 0], h)) (fun hs => ?_)
      exact K26 hs
    · skip
      rw [show ((if ((zf h 92 5) = p1) then (1 : Int32) else 0) : Int32) = 1 from if_pos hc] at K26
      refine zg_blk zd_187 2 hs (rfl : zb x zT0 zc_187 2 (16, [some (.ref 92), some (.int p1)], [], h) = some (21, [some (.ref 92), some (.int p1)], [.int 1], h)) (fun hs => ?_)
      exact K26 hs
set_option maxRecDepth 100000 in
set_option maxHeartbeats 400000 in
theorem f_M_more_k51_t {x : zm_X} {d : Nat} (v6 : Int32) (h : zm_H) (o1 : Option Value) (o2 : Option Value) (o3 : Option Value) (o4 : Option Value) (o5 : Option Value) (o7 : Option Value) {Q : Option Value → zm_H → Prop} (hs : zSh zT0 h) (ho : f_M_more_k51_ok v6 h) (hF : (zSh zT0 (f_M_more_k51 v6 h).2 → Q (some (.int (f_M_more_k51 v6 h).1)) (f_M_more_k51 v6 h).2)) : zg x (d + 3) 191 51 [some (.ref 92), o1, o2, o3, o4, o5, some (.int v6), o7] [] h Q := by
  unfold f_M_more_k51 at hF
  unfold f_M_more_k51_ok at ho
  refine zg_blk zd_191 2 hs (rfl : zb x zT0 zc_191 2 (51, [some (.ref 92), o1, o2, o3, o4, o5, some (.int v6), o7], [], h) = some (54, [some (.ref 92), o1, o2, o3, o4, o5, some (.int v6), o7], [.int v6, .ref 92], h)) (fun hs => ?_)
  have hob := ho
  refine zg_call hs zd_191 rfl rfl rfl rfl (as := [.ref 92, .int v6]) (rest := []) (en := [some (.ref 92), some (.int v6)]) rfl rfl rfl rfl rfl ?_
  refine f_M_push_t v6 h hs hob (fun hs => ?_)
  show zg x (d + 3) 191 57 [some (.ref 92), o1, o2, o3, o4, o5, some (.int v6), o7] [] (f_M_push v6 h) Q
  refine zg_blk zd_191 1 hs (rfl : zb x zT0 zc_191 1 (57, [some (.ref 92), o1, o2, o3, o4, o5, some (.int v6), o7], [], (f_M_push v6 h)) = some (58, [some (.ref 92), o1, o2, o3, o4, o5, some (.int v6), o7], [.int 1], (f_M_push v6 h))) (fun hs => ?_)
  exact zg_rtz zd_191 rfl rfl rfl (hF hs)
set_option maxRecDepth 100000 in
set_option maxHeartbeats 400000 in
theorem f_M_more_k32_t {x : zm_X} {d : Nat} (v2 : Int32) (v4 : Int32) (v6 : Int32) (v7 : Int32) (h : zm_H) (o1 : Option Value) (o3 : Option Value) (o5 : Option Value) {Q : Option Value → zm_H → Prop} (hs : zSh zT0 h) (ho : f_M_more_k32_ok v2 v4 v6 v7 h) (hF : (zSh zT0 (f_M_more_k32 v2 v4 v6 v7 h).2 → Q (some (.int (f_M_more_k32 v2 v4 v6 v7 h).1)) (f_M_more_k32 v2 v4 v6 v7 h).2)) : zg x (d + 3) 191 32 [some (.ref 92), o1, some (.int v2), o3, some (.int v4), o5, some (.int v6), some (.int v7)] [] h Q := by
  unfold f_M_more_k32 at hF
  unfold f_M_more_k32_ok at ho
  refine zg_blk zd_191 3 hs (rfl : zb x zT0 zc_191 3 (32, [some (.ref 92), o1, some (.int v2), o3, some (.int v4), o5, some (.int v6), some (.int v7)], [], h) = some (38, [some (.ref 92), o1, some (.int v2), o3, some (.int v4), o5, some (.int v6), some (.int v7)], [.int v7, .int 1000, .ref 92], h)) (fun hs => ?_)
  have K27 : zSh zT0 h → zg x (d + 3) 191 47 [some (.ref 92), o1, some (.int v2), o3, some (.int v4), o5, some (.int v6), some (.int v7)] [.int (if (v7 = 0) then (v4 : Int32) else v2), .int 1000, .ref 92] h Q := fun hs => by
    refine zg_blk zd_191 1 hs (rfl : zb x zT0 zc_191 1 (47, [some (.ref 92), o1, some (.int v2), o3, some (.int v4), o5, some (.int v6), some (.int v7)], [.int (if (v7 = 0) then (v4 : Int32) else v2), .int 1000, .ref 92], h) = some (48, [some (.ref 92), o1, some (.int v2), o3, some (.int v4), o5, some (.int v6), some (.int v7)], [.int (1000 + (if (v7 = 0) then (v4 : Int32) else v2)), .ref 92], h)) (fun hs => ?_)
    obtain ⟨hob, ho⟩ := ho
    refine zg_call hs zd_191 rfl rfl rfl rfl (as := [.ref 92, .int (1000 + (if (v7 = 0) then (v4 : Int32) else v2))]) (rest := []) (en := [some (.ref 92), some (.int (1000 + (if (v7 = 0) then (v4 : Int32) else v2)))]) rfl rfl rfl rfl rfl ?_
    refine f_M_push_t (1000 + (if (v7 = 0) then (v4 : Int32) else v2)) h hs hob (fun hs => ?_)
    show zg x (d + 3) 191 51 [some (.ref 92), o1, some (.int v2), o3, some (.int v4), o5, some (.int v6), some (.int v7)] [] (f_M_push (1000 + (if (v7 = 0) then (v4 : Int32) else v2)) h) Q
    exact f_M_more_k51_t v6 (f_M_push (1000 + (if (v7 = 0) then (v4 : Int32) else v2)) h) (o1) (some (.int v2)) (o3) (some (.int v4)) (o5) (some (.int v7)) hs ho hF
  refine zg_f_eq zd_191 rfl (fun (hc : (v7 = 0)) => ?_) (fun (hc : ¬ (v7 = 0)) => ?_)
  · skip
    rw [show ((if (v7 = 0) then (v4 : Int32) else v2) : Int32) = v4 from if_pos hc] at K27
    refine zg_blk zd_191 1 hs (rfl : zb x zT0 zc_191 1 (45, [some (.ref 92), o1, some (.int v2), o3, some (.int v4), o5, some (.int v6), some (.int v7)], [.int 1000, .ref 92], h) = some (47, [some (.ref 92), o1, some (.int v2), o3, some (.int v4), o5, some (.int v6), some (.int v7)], [.int v4, .int 1000, .ref 92], h)) (fun hs => ?_)
    exact K27 hs
  · skip
    rw [show ((if (v7 = 0) then (v4 : Int32) else v2) : Int32) = v2 from if_neg hc] at K27
    refine zg_blk zd_191 2 hs (rfl : zb x zT0 zc_191 2 (41, [some (.ref 92), o1, some (.int v2), o3, some (.int v4), o5, some (.int v6), some (.int v7)], [.int 1000, .ref 92], h) = some (47, [some (.ref 92), o1, some (.int v2), o3, some (.int v4), o5, some (.int v6), some (.int v7)], [.int v2, .int 1000, .ref 92], h)) (fun hs => ?_)
    exact K27 hs
set_option maxRecDepth 100000 in
set_option maxHeartbeats 400000 in
theorem f_M_more_k26_t {x : zm_X} {d : Nat} (v2 : Int32) (v4 : Int32) (v5 : Int32) (v6 : Int32) (v7 : Int32) (h : zm_H) (o1 : Option Value) (o3 : Option Value) {Q : Option Value → zm_H → Prop} (hs : zSh zT0 h) (ho : f_M_more_k26_ok v2 v4 v5 v6 v7 h) (hF : (zSh zT0 (f_M_more_k26 v2 v4 v5 v6 v7 h).2 → Q (some (.int (f_M_more_k26 v2 v4 v5 v6 v7 h).1)) (f_M_more_k26 v2 v4 v5 v6 v7 h).2)) : zg x (d + 3) 191 26 [some (.ref 92), o1, some (.int v2), o3, some (.int v4), some (.int v5), some (.int v6), some (.int v7)] [] h Q := by
  unfold f_M_more_k26 at hF
  unfold f_M_more_k26_ok at ho
  refine zg_blk zd_191 2 hs (rfl : zb x zT0 zc_191 2 (26, [some (.ref 92), o1, some (.int v2), o3, some (.int v4), some (.int v5), some (.int v6), some (.int v7)], [], h) = some (29, [some (.ref 92), o1, some (.int v2), o3, some (.int v4), some (.int v5), some (.int v6), some (.int v7)], [.int v5, .ref 92], h)) (fun hs => ?_)
  obtain ⟨hob, ho⟩ := ho
  refine zg_call hs zd_191 rfl rfl rfl rfl (as := [.ref 92, .int v5]) (rest := []) (en := [some (.ref 92), some (.int v5)]) rfl rfl rfl rfl rfl ?_
  refine f_M_push_t v5 h hs hob (fun hs => ?_)
  show zg x (d + 3) 191 32 [some (.ref 92), o1, some (.int v2), o3, some (.int v4), some (.int v5), some (.int v6), some (.int v7)] [] (f_M_push v5 h) Q
  exact f_M_more_k32_t v2 v4 v6 v7 (f_M_push v5 h) (o1) (o3) (some (.int v5)) hs ho hF
set_option maxRecDepth 100000 in
set_option maxHeartbeats 400000 in
theorem f_M_more_k22_t {x : zm_X} {d : Nat} (v2 : Int32) (v4 : Int32) (v5 : Int32) (v6 : Int32) (v7 : Int32) (h : zm_H) (o1 : Option Value) (o3 : Option Value) {Q : Option Value → zm_H → Prop} (hs : zSh zT0 h) (ho : f_M_more_k22_ok v2 v4 v5 v6 v7 h) (hF : (zSh zT0 (f_M_more_k22 v2 v4 v5 v6 v7 h).2 → Q (some (.int (f_M_more_k22 v2 v4 v5 v6 v7 h).1)) (f_M_more_k22 v2 v4 v5 v6 v7 h).2)) : zg x (d + 3) 191 22 [some (.ref 92), o1, some (.int v2), o3, some (.int v4), some (.int v5), some (.int v6), some (.int v7)] [] h Q := by
  unfold f_M_more_k22 at hF
  unfold f_M_more_k22_ok at ho
  refine zg_blk zd_191 1 hs (rfl : zb x zT0 zc_191 1 (22, [some (.ref 92), o1, some (.int v2), o3, some (.int v4), some (.int v5), some (.int v6), some (.int v7)], [], h) = some (23, [some (.ref 92), o1, some (.int v2), o3, some (.int v4), some (.int v5), some (.int v6), some (.int v7)], [.ref 92], h)) (fun hs => ?_)
  obtain ⟨hob, ho⟩ := ho
  refine zg_call hs zd_191 rfl rfl rfl rfl (as := [.ref 92]) (rest := []) (en := [some (.ref 92), none]) rfl rfl rfl rfl rfl ?_
  refine f_M_follows_t  h hs hob (fun hs => ?_)
  show zg x (d + 3) 191 26 [some (.ref 92), o1, some (.int v2), o3, some (.int v4), some (.int v5), some (.int v6), some (.int v7)] [] (f_M_follows h) Q
  exact f_M_more_k26_t v2 v4 v5 v6 v7 (f_M_follows h) (o1) (o3) hs ho hF
set_option maxRecDepth 100000 in
set_option maxHeartbeats 400000 in
theorem f_M_more_t {x : zm_X} {d : Nat} (p1 : Int32) (p2 : Int32) (p3 : Int32) (p4 : Int32) (p5 : Int32) (p6 : Int32) (h : zm_H) {Q : Option Value → zm_H → Prop} (hs : zSh zT0 h) (ho : f_M_more_ok p1 p2 p3 p4 p5 p6 h) (hF : (zSh zT0 (f_M_more p1 p2 p3 p4 p5 p6 h).2 → Q (some (.int (f_M_more p1 p2 p3 p4 p5 p6 h).1)) (f_M_more p1 p2 p3 p4 p5 p6 h).2)) : zg x (d + 3) 191 0 [some (.ref 92), some (.int p1), some (.int p2), some (.int p3), some (.int p4), some (.int p5), some (.int p6), none] [] h Q := by
  unfold f_M_more at hF
  unfold f_M_more_ok at ho
  refine zg_blk zd_191 2 hs (rfl : zb x zT0 zc_191 2 (0, [some (.ref 92), some (.int p1), some (.int p2), some (.int p3), some (.int p4), some (.int p5), some (.int p6), none], [], h) = some (2, [some (.ref 92), some (.int p1), some (.int p2), some (.int p3), some (.int p4), some (.int p5), some (.int p6), none], [.int p1, .ref 92], h)) (fun hs => ?_)
  refine zg_call hs zd_191 rfl rfl rfl rfl (as := [.ref 92, .int p1]) (rest := []) (en := [some (.ref 92), some (.int p1)]) rfl rfl rfl rfl rfl ?_
  refine f_M_isSign_t p1 h hs trivial ?_
  show zg x (d + 3) 191 5 [some (.ref 92), some (.int p1), some (.int p2), some (.int p3), some (.int p4), some (.int p5), some (.int p6), none] [.int (if (((zf h 92 3) = 3) ∧ ((zf h 92 5) = p1)) then (1 : Int32) else 0)] h Q
  refine zg_blk zd_191 2 hs (rfl : zb x zT0 zc_191 2 (5, [some (.ref 92), some (.int p1), some (.int p2), some (.int p3), some (.int p4), some (.int p5), some (.int p6), none], [.int (if (((zf h 92 3) = 3) ∧ ((zf h 92 5) = p1)) then (1 : Int32) else 0)], h) = some (9, [some (.ref 92), some (.int p1), some (.int p2), some (.int p3), some (.int p4), some (.int p5), some (.int p6), some (.int (if (((zf h 92 3) = 3) ∧ ((zf h 92 5) = p1)) then (1 : Int32) else 0))], [.int (if (((zf h 92 3) = 3) ∧ ((zf h 92 5) = p1)) then (1 : Int32) else 0)], h)) (fun hs => ?_)
  refine zg_b_ne zd_191 rfl (fun (hc : (((zf h 92 3) = 3) ∧ ((zf h 92 5) = p1))) => ?_) (fun (hc : ¬ (((zf h 92 3) = 3) ∧ ((zf h 92 5) = p1))) => ?_)
  · have ho := ho.1 hc
    rw [if_pos hc] at hF
    exact f_M_more_k22_t p2 p4 p5 p6 (if (((zf h 92 3) = 3) ∧ ((zf h 92 5) = p1)) then (1 : Int32) else 0) h (some (.int p1)) (some (.int p3)) hs ho hF
  · have ho := ho.2 hc
    rw [if_neg hc] at hF
    refine zg_blk zd_191 2 hs (rfl : zb x zT0 zc_191 2 (12, [some (.ref 92), some (.int p1), some (.int p2), some (.int p3), some (.int p4), some (.int p5), some (.int p6), some (.int (if (((zf h 92 3) = 3) ∧ ((zf h 92 5) = p1)) then (1 : Int32) else 0))], [], h) = some (14, [some (.ref 92), some (.int p1), some (.int p2), some (.int p3), some (.int p4), some (.int p5), some (.int p6), some (.int (if (((zf h 92 3) = 3) ∧ ((zf h 92 5) = p1)) then (1 : Int32) else 0))], [.int p3, .ref 92], h)) (fun hs => ?_)
    refine zg_call hs zd_191 rfl rfl rfl rfl (as := [.ref 92, .int p3]) (rest := []) (en := [some (.ref 92), some (.int p3)]) rfl rfl rfl rfl rfl ?_
    refine f_M_isSign_t p3 h hs trivial ?_
    show zg x (d + 3) 191 17 [some (.ref 92), some (.int p1), some (.int p2), some (.int p3), some (.int p4), some (.int p5), some (.int p6), some (.int (if (((zf h 92 3) = 3) ∧ ((zf h 92 5) = p1)) then (1 : Int32) else 0))] [.int (if (((zf h 92 3) = 3) ∧ ((zf h 92 5) = p3)) then (1 : Int32) else 0)] h Q
    refine zg_b_ne zd_191 rfl (fun (hc : (((zf h 92 3) = 3) ∧ ((zf h 92 5) = p3))) => ?_) (fun (hc : ¬ (((zf h 92 3) = 3) ∧ ((zf h 92 5) = p3))) => ?_)
    · have ho := ho.1 hc
      rw [if_pos hc] at hF
      exact f_M_more_k22_t p2 p4 p5 p6 (if (((zf h 92 3) = 3) ∧ ((zf h 92 5) = p1)) then (1 : Int32) else 0) h (some (.int p1)) (some (.int p3)) hs ho hF
    · have ho := ho.2 hc
      rw [if_neg hc] at hF
      refine zg_blk zd_191 1 hs (rfl : zb x zT0 zc_191 1 (20, [some (.ref 92), some (.int p1), some (.int p2), some (.int p3), some (.int p4), some (.int p5), some (.int p6), some (.int (if (((zf h 92 3) = 3) ∧ ((zf h 92 5) = p1)) then (1 : Int32) else 0))], [], h) = some (21, [some (.ref 92), some (.int p1), some (.int p2), some (.int p3), some (.int p4), some (.int p5), some (.int p6), some (.int (if (((zf h 92 3) = 3) ∧ ((zf h 92 5) = p1)) then (1 : Int32) else 0))], [.int 1], h)) (fun hs => ?_)
      exact zg_rtz zd_191 rfl rfl rfl (hF hs)
theorem zd_192 : zm_cd 192 = zc_192 := by rfl
theorem zd_193 : zm_cd 193 = zc_193 := by rfl
set_option maxRecDepth 100000 in
set_option maxHeartbeats 400000 in
theorem f_M_deeper_t {x : zm_X} {d : Nat} (h : zm_H) {Q : Option Value → zm_H → Prop} (hs : zSh zT0 h) (ho : f_M_deeper_ok h) (hF : (zSh zT0 (f_M_deeper h).2 → Q (some (.int (f_M_deeper h).1)) (f_M_deeper h).2)) : zg x (d + 2) 193 0 [some (.ref 92)] [] h Q := by
  unfold f_M_deeper at hF
  unfold f_M_deeper_ok at ho
  refine zg_blk zd_193 3 hs (rfl : zb x zT0 zc_193 3 (0, [some (.ref 92)], [], h) = some (6, [some (.ref 92)], [.int 8, .int (zf h 92 8)], h)) (fun hs => ?_)
  refine zg_i_ne zd_193 rfl (fun (hc : ¬ ((zf h 92 8) = 8)) => ?_) (fun (hc : ((zf h 92 8) = 8)) => ?_)
  · have ho := ho.2 hc
    rw [if_neg hc] at hF
    refine zg_blk zd_193 8 hs (rfl : zb x zT0 zc_193 8 (11, [some (.ref 92)], [], h) = some (24, [some (.ref 92)], [.int 12, .ref 92], (zp h 92 8 ((zf h 92 8) + 1)))) (fun hs => ?_)
    have hob := ho
    refine zg_call hs zd_193 rfl rfl rfl rfl (as := [.ref 92, .int 12]) (rest := []) (en := [some (.ref 92), some (.int 12)]) rfl rfl rfl rfl rfl ?_
    refine f_M_push_t 12 (zp h 92 8 ((zf h 92 8) + 1)) hs hob (fun hs => ?_)
    show zg x (d + 2) 193 27 [some (.ref 92)] [] (f_M_push 12 (zp h 92 8 ((zf h 92 8) + 1))) Q
    refine zg_blk zd_193 1 hs (rfl : zb x zT0 zc_193 1 (27, [some (.ref 92)], [], (f_M_push 12 (zp h 92 8 ((zf h 92 8) + 1)))) = some (28, [some (.ref 92)], [.int 1], (f_M_push 12 (zp h 92 8 ((zf h 92 8) + 1))))) (fun hs => ?_)
    exact zg_rtz zd_193 rfl rfl rfl (hF hs)
  · have ho := ho.1 hc
    rw [if_pos hc] at hF
    refine zg_blk zd_193 1 hs (rfl : zb x zT0 zc_193 1 (9, [some (.ref 92)], [], h) = some (10, [some (.ref 92)], [.int 0], h)) (fun hs => ?_)
    exact zg_rtz zd_193 rfl rfl rfl (hF hs)
set_option maxRecDepth 100000 in
set_option maxHeartbeats 400000 in
theorem f_M_factor_k101_t {x : zm_X} {d : Nat} (h : zm_H) {Q : Option Value → zm_H → Prop} (hs : zSh zT0 h) (ho : f_M_factor_k101_ok h) (hF : (zSh zT0 (f_M_factor_k101 h).2 → Q (some (.int (f_M_factor_k101 h).1)) (f_M_factor_k101 h).2)) : zg x (d + 4) 192 101 [some (.ref 92)] [] h Q := by
  unfold f_M_factor_k101 at hF
  unfold f_M_factor_k101_ok at ho
  refine zg_blk zd_192 1 hs (rfl : zb x zT0 zc_192 1 (101, [some (.ref 92)], [], h) = some (102, [some (.ref 92)], [.ref 92], h)) (fun hs => ?_)
  obtain ⟨hob, ho⟩ := ho
  refine zg_call hs zd_192 rfl rfl rfl rfl (as := [.ref 92]) (rest := []) (en := [some (.ref 92)]) rfl rfl rfl rfl rfl ?_
  refine f_M_takes_t  h hs hob (fun hs => ?_)
  show zg x (d + 4) 192 105 [some (.ref 92)] [.int (f_M_takes h).1] (f_M_takes h).2 Q
  exact zg_rtz zd_192 rfl rfl ho (hF hs)
set_option maxRecDepth 100000 in
set_option maxHeartbeats 400000 in
theorem f_M_factor_k96_t {x : zm_X} {d : Nat} (h : zm_H) {Q : Option Value → zm_H → Prop} (hs : zSh zT0 h) (ho : f_M_factor_k96_ok h) (hF : (zSh zT0 (f_M_factor_k96 h).2 → Q (some (.int (f_M_factor_k96 h).1)) (f_M_factor_k96 h).2)) : zg x (d + 4) 192 96 [some (.ref 92)] [] h Q := by
  unfold f_M_factor_k96 at hF
  unfold f_M_factor_k96_ok at ho
  refine zg_blk zd_192 2 hs (rfl : zb x zT0 zc_192 2 (96, [some (.ref 92)], [], h) = some (98, [some (.ref 92)], [.int 1, .ref 92], h)) (fun hs => ?_)
  obtain ⟨hob, ho⟩ := ho
  refine zg_call hs zd_192 rfl rfl rfl rfl (as := [.ref 92, .int 1]) (rest := []) (en := [some (.ref 92), some (.int 1)]) rfl rfl rfl rfl rfl ?_
  refine f_M_push_t 1 h hs hob (fun hs => ?_)
  show zg x (d + 4) 192 101 [some (.ref 92)] [] (f_M_push 1 h) Q
  exact f_M_factor_k101_t (f_M_push 1 h) hs ho hF
set_option maxRecDepth 100000 in
set_option maxHeartbeats 400000 in
theorem f_M_factor_k84_t {x : zm_X} {d : Nat} (w0 : Int32) (h : zm_H) {Q : Option Value → zm_H → Prop} (hs : zSh zT0 h) (ho : f_M_factor_k84_ok w0 h) (hF : (zSh zT0 (f_M_factor_k84 w0 h).2 → Q (some (.int (f_M_factor_k84 w0 h).1)) (f_M_factor_k84 w0 h).2)) : zg x (d + 4) 192 84 [some (.ref 92)] [.int w0] h Q := by
  unfold f_M_factor_k84 at hF
  unfold f_M_factor_k84_ok at ho
  refine zg_f_ne zd_192 rfl (fun (hc : ¬ (w0 = 0)) => ?_) (fun (hc : (w0 = 0)) => ?_)
  · have ho := ho.2 hc
    rw [if_neg hc] at hF
    refine zg_blk zd_192 2 hs (rfl : zb x zT0 zc_192 2 (89, [some (.ref 92)], [], h) = some (93, [some (.ref 92)], [.int 141, .ref 92], h)) (fun hs => ?_)
    obtain ⟨hob, ho⟩ := ho
    refine zg_call hs zd_192 rfl rfl rfl rfl (as := [.ref 92, .int 141]) (rest := []) (en := [some (.ref 92), some (.int 141)]) rfl rfl rfl rfl rfl ?_
    refine f_M_push_t 141 h hs hob (fun hs => ?_)
    show zg x (d + 4) 192 96 [some (.ref 92)] [] (f_M_push 141 h) Q
    exact f_M_factor_k96_t (f_M_push 141 h) hs ho hF
  · have ho := ho.1 hc
    rw [if_pos hc] at hF
    refine zg_blk zd_192 1 hs (rfl : zb x zT0 zc_192 1 (87, [some (.ref 92)], [], h) = some (88, [some (.ref 92)], [.int 0], h)) (fun hs => ?_)
    exact zg_rtz zd_192 rfl rfl rfl (hF hs)
set_option maxRecDepth 100000 in
set_option maxHeartbeats 400000 in
theorem f_M_factor_k71_t {x : zm_X} {d : Nat} (h : zm_H) {Q : Option Value → zm_H → Prop} (hs : zSh zT0 h) (ho : f_M_factor_k71_ok h) (hF : (zSh zT0 (f_M_factor_k71 h).2 → Q (some (.int (f_M_factor_k71 h).1)) (f_M_factor_k71 h).2)) : zg x (d + 4) 192 71 [some (.ref 92)] [] h Q := by
  unfold f_M_factor_k71 at hF
  unfold f_M_factor_k71_ok at ho
  refine zg_blk zd_192 2 hs (rfl : zb x zT0 zc_192 2 (71, [some (.ref 92)], [], h) = some (74, [some (.ref 92)], [.int 40, .ref 92], h)) (fun hs => ?_)
  refine zg_call hs zd_192 rfl rfl rfl rfl (as := [.ref 92, .int 40]) (rest := []) (en := [some (.ref 92), some (.int 40)]) rfl rfl rfl rfl rfl ?_
  refine f_M_isSign_t 40 h hs trivial ?_
  show zg x (d + 4) 192 77 [some (.ref 92)] [.int (if (((zf h 92 3) = 3) ∧ ((zf h 92 5) = 40)) then (1 : Int32) else 0)] h Q
  refine zg_b_eq zd_192 rfl (fun (hc : ¬ (((zf h 92 3) = 3) ∧ ((zf h 92 5) = 40))) => ?_) (fun (hc : (((zf h 92 3) = 3) ∧ ((zf h 92 5) = 40))) => ?_)
  · have ho := ho.2 hc
    rw [if_neg hc] at hF
    refine zg_blk zd_192 1 hs (rfl : zb x zT0 zc_192 1 (87, [some (.ref 92)], [], h) = some (88, [some (.ref 92)], [.int 0], h)) (fun hs => ?_)
    exact zg_rtz zd_192 rfl rfl rfl (hF hs)
  · have ho := ho.1 hc
    rw [if_pos hc] at hF
    refine zg_blk zd_192 1 hs (rfl : zb x zT0 zc_192 1 (80, [some (.ref 92)], [], h) = some (81, [some (.ref 92)], [.ref 92], h)) (fun hs => ?_)
    obtain ⟨hob, ho⟩ := ho
    refine zg_call hs zd_192 rfl rfl rfl rfl (as := [.ref 92]) (rest := []) (en := [some (.ref 92)]) rfl rfl rfl rfl rfl ?_
    refine f_M_deeper_t  h hs hob (fun hs => ?_)
    show zg x (d + 4) 192 84 [some (.ref 92)] [.int (f_M_deeper h).1] (f_M_deeper h).2 Q
    exact f_M_factor_k84_t (f_M_deeper h).1 (f_M_deeper h).2 hs ho hF
theorem zd_186 : zm_cd 186 = zc_186 := by rfl
set_option maxRecDepth 100000 in
set_option maxHeartbeats 400000 in
theorem f_M_emits_t {x : zm_X} {d : Nat} (p1 : Int32) (p2 : Int32) (h : zm_H) {Q : Option Value → zm_H → Prop} (hs : zSh zT0 h) (ho : f_M_emits_ok p1 p2 h) (hF : (zSh zT0 (f_M_emits p1 p2 h) → Q none (f_M_emits p1 p2 h))) : zg x (d + 1) 186 0 [some (.ref 92), some (.int p1), some (.int p2)] [] h Q := by
  unfold f_M_emits at hF
  unfold f_M_emits_ok at ho
  refine zg_blk zd_186 5 hs (rfl : zb x zT0 zc_186 5 (0, [some (.ref 92), some (.int p1), some (.int p2)], [], h) = some (9, [some (.ref 92), some (.int p1), some (.int p2)], [.int p1, .int (zf h 92 12), .ref 95], h)) (fun hs => ?_)
  obtain ⟨hob, ho⟩ := ho
  refine zg_ias hs zd_186 rfl rfl hob (fun hs => ?_)
  refine zg_blk zd_186 5 hs (rfl : zb x zT0 zc_186 5 (10, [some (.ref 92), some (.int p1), some (.int p2)], [], (zs h 95 (zf h 92 12) p1)) = some (19, [some (.ref 92), some (.int p1), some (.int p2)], [.int p2, .int (zf h 92 12), .ref 96], (zs h 95 (zf h 92 12) p1))) (fun hs => ?_)
  have hob := ho
  refine zg_ias hs zd_186 rfl rfl hob (fun hs => ?_)
  refine zg_blk zd_186 6 hs (rfl : zb x zT0 zc_186 6 (20, [some (.ref 92), some (.int p1), some (.int p2)], [], (zs (zs h 95 (zf h 92 12) p1) 96 (zf h 92 12) p2)) = some (30, [some (.ref 92), some (.int p1), some (.int p2)], [], (zp (zs (zs h 95 (zf h 92 12) p1) 96 (zf h 92 12) p2) 92 12 ((zf h 92 12) + 1)))) (fun hs => ?_)
  exact zg_ret zd_186 rfl rfl (hF hs)
set_option maxRecDepth 100000 in
set_option maxHeartbeats 400000 in
theorem f_M_factor_k66_t {x : zm_X} {d : Nat} (h : zm_H) {Q : Option Value → zm_H → Prop} (hs : zSh zT0 h) (ho : f_M_factor_k66_ok h) (hF : (zSh zT0 (f_M_factor_k66 h).2 → Q (some (.int (f_M_factor_k66 h).1)) (f_M_factor_k66 h).2)) : zg x (d + 4) 192 66 [some (.ref 92)] [] h Q := by
  unfold f_M_factor_k66 at hF
  unfold f_M_factor_k66_ok at ho
  refine zg_blk zd_192 1 hs (rfl : zb x zT0 zc_192 1 (66, [some (.ref 92)], [], h) = some (67, [some (.ref 92)], [.ref 92], h)) (fun hs => ?_)
  obtain ⟨hob, ho⟩ := ho
  refine zg_call hs zd_192 rfl rfl rfl rfl (as := [.ref 92]) (rest := []) (en := [some (.ref 92)]) rfl rfl rfl rfl rfl ?_
  refine f_M_takes_t  h hs hob (fun hs => ?_)
  show zg x (d + 4) 192 70 [some (.ref 92)] [.int (f_M_takes h).1] (f_M_takes h).2 Q
  exact zg_rtz zd_192 rfl rfl ho (hF hs)
set_option maxRecDepth 100000 in
set_option maxHeartbeats 400000 in
theorem f_M_factor_k29_t {x : zm_X} {d : Nat} (h : zm_H) {Q : Option Value → zm_H → Prop} (hs : zSh zT0 h) (ho : f_M_factor_k29_ok h) (hF : (zSh zT0 (f_M_factor_k29 h).2 → Q (some (.int (f_M_factor_k29 h).1)) (f_M_factor_k29 h).2)) : zg x (d + 4) 192 29 [some (.ref 92)] [] h Q := by
  unfold f_M_factor_k29 at hF
  unfold f_M_factor_k29_ok at ho
  refine zg_blk zd_192 1 hs (rfl : zb x zT0 zc_192 1 (29, [some (.ref 92)], [], h) = some (30, [some (.ref 92)], [.ref 92], h)) (fun hs => ?_)
  obtain ⟨hob, ho⟩ := ho
  refine zg_call hs zd_192 rfl rfl rfl rfl (as := [.ref 92]) (rest := []) (en := [some (.ref 92)]) rfl rfl rfl rfl rfl ?_
  refine f_M_takes_t  h hs hob (fun hs => ?_)
  show zg x (d + 4) 192 33 [some (.ref 92)] [.int (f_M_takes h).1] (f_M_takes h).2 Q
  exact zg_rtz zd_192 rfl rfl ho (hF hs)
set_option maxRecDepth 100000 in
set_option maxHeartbeats 400000 in
theorem f_M_factor_t {x : zm_X} {d : Nat} (h : zm_H) {Q : Option Value → zm_H → Prop} (hs : zSh zT0 h) (ho : f_M_factor_ok h) (hF : (zSh zT0 (f_M_factor h).2 → Q (some (.int (f_M_factor h).1)) (f_M_factor h).2)) : zg x (d + 4) 192 0 [some (.ref 92)] [] h Q := by
  unfold f_M_factor at hF
  unfold f_M_factor_ok at ho
  refine zg_blk zd_192 3 hs (rfl : zb x zT0 zc_192 3 (0, [some (.ref 92)], [], h) = some (5, [some (.ref 92)], [.int 1, .int (zf h 92 3)], h)) (fun hs => ?_)
  refine zg_i_ne zd_192 rfl (fun (hc : ¬ ((zf h 92 3) = 1)) => ?_) (fun (hc : ((zf h 92 3) = 1)) => ?_)
  · have ho := ho.2 hc
    rw [if_neg hc] at hF
    refine zg_blk zd_192 3 hs (rfl : zb x zT0 zc_192 3 (34, [some (.ref 92)], [], h) = some (39, [some (.ref 92)], [.int 2, .int (zf h 92 3)], h)) (fun hs => ?_)
    refine zg_i_ne zd_192 rfl (fun (hc : ¬ ((zf h 92 3) = 2)) => ?_) (fun (hc : ((zf h 92 3) = 2)) => ?_)
    · have ho := ho.2 hc
      rw [if_neg hc] at hF
      exact f_M_factor_k71_t h hs ho hF
    · have ho := ho.1 hc
      rw [if_pos hc] at hF
      refine zg_blk zd_192 4 hs (rfl : zb x zT0 zc_192 4 (42, [some (.ref 92)], [], h) = some (49, [some (.ref 92)], [.int 12, .int 4, .int (zf h 92 5)], h)) (fun hs => ?_)
      refine zg_call hs zd_192 rfl rfl rfl rfl (as := [.int (zf h 92 5), .int 4, .int 12]) (rest := []) (en := [some (.int (zf h 92 5)), some (.int 4), some (.int 12)]) rfl rfl rfl rfl rfl ?_
      refine f_M_in_t (zf h 92 5) 4 12 h hs trivial ?_
      show zg x (d + 4) 192 52 [some (.ref 92)] [.int (if (¬ ((zf h 92 5) < 4) ∧ (¬ (12 < (zf h 92 5)))) then (1 : Int32) else 0)] h Q
      refine zg_b_eq zd_192 rfl (fun (hc : ¬ (¬ ((zf h 92 5) < 4) ∧ (¬ (12 < (zf h 92 5))))) => ?_) (fun (hc : (¬ ((zf h 92 5) < 4) ∧ (¬ (12 < (zf h 92 5))))) => ?_)
      · have ho := ho.2 hc
        rw [if_neg hc] at hF
        exact f_M_factor_k71_t h hs ho hF
      · have ho := ho.1 hc
        rw [if_pos hc] at hF
        refine zg_blk zd_192 6 hs (rfl : zb x zT0 zc_192 6 (55, [some (.ref 92)], [], h) = some (63, [some (.ref 92)], [.int ((zf h 92 5) - 4), .int 1, .ref 92], h)) (fun hs => ?_)
        obtain ⟨hob, ho⟩ := ho
        refine zg_call hs zd_192 rfl rfl rfl rfl (as := [.ref 92, .int 1, .int ((zf h 92 5) - 4)]) (rest := []) (en := [some (.ref 92), some (.int 1), some (.int ((zf h 92 5) - 4))]) rfl rfl rfl rfl rfl ?_
        refine f_M_emits_t 1 ((zf h 92 5) - 4) h hs hob (fun hs => ?_)
        show zg x (d + 4) 192 66 [some (.ref 92)] [] (f_M_emits 1 ((zf h 92 5) - 4) h) Q
        exact f_M_factor_k66_t (f_M_emits 1 ((zf h 92 5) - 4) h) hs ho hF
  · have ho := ho.1 hc
    rw [if_pos hc] at hF
    refine zg_blk zd_192 3 hs (rfl : zb x zT0 zc_192 3 (8, [some (.ref 92)], [], h) = some (15, [some (.ref 92)], [.int 99999, .int (zf h 92 5)], h)) (fun hs => ?_)
    refine zg_i_le zd_192 rfl (fun (hc : ((zf h 92 5) ≤ 99999)) => ?_) (fun (hc : ¬ ((zf h 92 5) ≤ 99999)) => ?_)
    · have ho := ho.1 hc
      rw [if_pos hc] at hF
      refine zg_blk zd_192 4 hs (rfl : zb x zT0 zc_192 4 (20, [some (.ref 92)], [], h) = some (26, [some (.ref 92)], [.int (zf h 92 5), .int 0, .ref 92], h)) (fun hs => ?_)
      obtain ⟨hob, ho⟩ := ho
      refine zg_call hs zd_192 rfl rfl rfl rfl (as := [.ref 92, .int 0, .int (zf h 92 5)]) (rest := []) (en := [some (.ref 92), some (.int 0), some (.int (zf h 92 5))]) rfl rfl rfl rfl rfl ?_
      refine f_M_emits_t 0 (zf h 92 5) h hs hob (fun hs => ?_)
      show zg x (d + 4) 192 29 [some (.ref 92)] [] (f_M_emits 0 (zf h 92 5) h) Q
      exact f_M_factor_k29_t (f_M_emits 0 (zf h 92 5) h) hs ho hF
    · have ho := ho.2 hc
      rw [if_neg hc] at hF
      refine zg_blk zd_192 1 hs (rfl : zb x zT0 zc_192 1 (18, [some (.ref 92)], [], h) = some (19, [some (.ref 92)], [.int 0], h)) (fun hs => ?_)
      exact zg_rtz zd_192 rfl rfl rfl (hF hs)
theorem zd_194 : zm_cd 194 = zc_194 := by rfl
theorem zd_195 : zm_cd 195 = zc_195 := by rfl
set_option maxRecDepth 100000 in
set_option maxHeartbeats 400000 in
theorem f_M_isWord_t {x : zm_X} {d : Nat} (p1 : Int32) (h : zm_H) {Q : Option Value → zm_H → Prop} (hs : zSh zT0 h) (ho : f_M_isWord_ok p1 h) (hF : Q (some (.int (f_M_isWord p1 h))) h) : zg x (d + 1) 195 0 [some (.ref 92), some (.int p1)] [] h Q := by
  unfold f_M_isWord at hF
  unfold f_M_isWord_ok at ho
  refine zg_blk zd_195 3 hs (rfl : zb x zT0 zc_195 3 (0, [some (.ref 92), some (.int p1)], [], h) = some (5, [some (.ref 92), some (.int p1)], [.int 2, .int (zf h 92 3)], h)) (fun hs => ?_)
  have K28 : zSh zT0 h → zg x (d + 1) 195 21 [some (.ref 92), some (.int p1)] [.int (if (((zf h 92 3) = 2) ∧ ((zf h 92 5) = p1)) then (1 : Int32) else 0)] h Q := fun hs => by
    exact zg_rtz zd_195 rfl rfl zm_nb01 hF
  refine zg_i_ne zd_195 rfl (fun (hc : ¬ ((zf h 92 3) = 2)) => ?_) (fun (hc : ((zf h 92 3) = 2)) => ?_)
  · skip
    rw [show ((if (((zf h 92 3) = 2) ∧ ((zf h 92 5) = p1)) then (1 : Int32) else 0) : Int32) = 0 from zb_and_f hc] at K28
    refine zg_blk zd_195 1 hs (rfl : zb x zT0 zc_195 1 (20, [some (.ref 92), some (.int p1)], [], h) = some (21, [some (.ref 92), some (.int p1)], [.int 0], h)) (fun hs => ?_)
    exact K28 hs
  · skip
    rw [show ((if (((zf h 92 3) = 2) ∧ ((zf h 92 5) = p1)) then (1 : Int32) else 0) : Int32) = (if ((zf h 92 5) = p1) then (1 : Int32) else 0) from zb_and_t hc] at K28
    refine zg_blk zd_195 3 hs (rfl : zb x zT0 zc_195 3 (8, [some (.ref 92), some (.int p1)], [], h) = some (13, [some (.ref 92), some (.int p1)], [.int p1, .int (zf h 92 5)], h)) (fun hs => ?_)
    refine zg_i_ne zd_195 rfl (fun (hc : ¬ ((zf h 92 5) = p1)) => ?_) (fun (hc : ((zf h 92 5) = p1)) => ?_)
    · skip
      rw [show ((if ((zf h 92 5) = p1) then (1 : Int32) else 0) : Int32) = 0 from if_neg hc] at K28
      refine zg_blk zd_195 1 hs (rfl : zb x zT0 zc_195 1 (20, [some (.ref 92), some (.int p1)], [], h) = some (21, [some (.ref 92), some (.int p1)], [.int 0], h)) (fun hs => ?_)
      exact K28 hs
    · skip
      rw [show ((if ((zf h 92 5) = p1) then (1 : Int32) else 0) : Int32) = 1 from if_pos hc] at K28
      refine zg_blk zd_195 2 hs (rfl : zb x zT0 zc_195 2 (16, [some (.ref 92), some (.int p1)], [], h) = some (21, [some (.ref 92), some (.int p1)], [.int 1], h)) (fun hs => ?_)
      exact K28 hs
set_option maxRecDepth 100000 in
set_option maxHeartbeats 400000 in
theorem f_M_moreWords_k28_t {x : zm_X} {d : Nat} (v4 : Int32) (h : zm_H) (o1 : Option Value) (o2 : Option Value) (o3 : Option Value) {Q : Option Value → zm_H → Prop} (hs : zSh zT0 h) (ho : f_M_moreWords_k28_ok v4 h) (hF : (zSh zT0 (f_M_moreWords_k28 v4 h).2 → Q (some (.int (f_M_moreWords_k28 v4 h).1)) (f_M_moreWords_k28 v4 h).2)) : zg x (d + 3) 194 28 [some (.ref 92), o1, o2, o3, some (.int v4)] [] h Q := by
  unfold f_M_moreWords_k28 at hF
  unfold f_M_moreWords_k28_ok at ho
  refine zg_blk zd_194 2 hs (rfl : zb x zT0 zc_194 2 (28, [some (.ref 92), o1, o2, o3, some (.int v4)], [], h) = some (31, [some (.ref 92), o1, o2, o3, some (.int v4)], [.int v4, .ref 92], h)) (fun hs => ?_)
  have hob := ho
  refine zg_call hs zd_194 rfl rfl rfl rfl (as := [.ref 92, .int v4]) (rest := []) (en := [some (.ref 92), some (.int v4)]) rfl rfl rfl rfl rfl ?_
  refine f_M_push_t v4 h hs hob (fun hs => ?_)
  show zg x (d + 3) 194 34 [some (.ref 92), o1, o2, o3, some (.int v4)] [] (f_M_push v4 h) Q
  refine zg_blk zd_194 1 hs (rfl : zb x zT0 zc_194 1 (34, [some (.ref 92), o1, o2, o3, some (.int v4)], [], (f_M_push v4 h)) = some (35, [some (.ref 92), o1, o2, o3, some (.int v4)], [.int 1], (f_M_push v4 h))) (fun hs => ?_)
  exact zg_rtz zd_194 rfl rfl rfl (hF hs)
set_option maxRecDepth 100000 in
set_option maxHeartbeats 400000 in
theorem f_M_moreWords_k19_t {x : zm_X} {d : Nat} (v2 : Int32) (v4 : Int32) (h : zm_H) (o1 : Option Value) (o3 : Option Value) {Q : Option Value → zm_H → Prop} (hs : zSh zT0 h) (ho : f_M_moreWords_k19_ok v2 v4 h) (hF : (zSh zT0 (f_M_moreWords_k19 v2 v4 h).2 → Q (some (.int (f_M_moreWords_k19 v2 v4 h).1)) (f_M_moreWords_k19 v2 v4 h).2)) : zg x (d + 3) 194 19 [some (.ref 92), o1, some (.int v2), o3, some (.int v4)] [] h Q := by
  unfold f_M_moreWords_k19 at hF
  unfold f_M_moreWords_k19_ok at ho
  refine zg_blk zd_194 4 hs (rfl : zb x zT0 zc_194 4 (19, [some (.ref 92), o1, some (.int v2), o3, some (.int v4)], [], h) = some (25, [some (.ref 92), o1, some (.int v2), o3, some (.int v4)], [.int (1000 + v2), .ref 92], h)) (fun hs => ?_)
  obtain ⟨hob, ho⟩ := ho
  refine zg_call hs zd_194 rfl rfl rfl rfl (as := [.ref 92, .int (1000 + v2)]) (rest := []) (en := [some (.ref 92), some (.int (1000 + v2))]) rfl rfl rfl rfl rfl ?_
  refine f_M_push_t (1000 + v2) h hs hob (fun hs => ?_)
  show zg x (d + 3) 194 28 [some (.ref 92), o1, some (.int v2), o3, some (.int v4)] [] (f_M_push (1000 + v2) h) Q
  exact f_M_moreWords_k28_t v4 (f_M_push (1000 + v2) h) (o1) (some (.int v2)) (o3) hs ho hF
set_option maxRecDepth 100000 in
set_option maxHeartbeats 400000 in
theorem f_M_moreWords_k14_t {x : zm_X} {d : Nat} (v2 : Int32) (v3 : Int32) (v4 : Int32) (h : zm_H) (o1 : Option Value) {Q : Option Value → zm_H → Prop} (hs : zSh zT0 h) (ho : f_M_moreWords_k14_ok v2 v3 v4 h) (hF : (zSh zT0 (f_M_moreWords_k14 v2 v3 v4 h).2 → Q (some (.int (f_M_moreWords_k14 v2 v3 v4 h).1)) (f_M_moreWords_k14 v2 v3 v4 h).2)) : zg x (d + 3) 194 14 [some (.ref 92), o1, some (.int v2), some (.int v3), some (.int v4)] [] h Q := by
  unfold f_M_moreWords_k14 at hF
  unfold f_M_moreWords_k14_ok at ho
  refine zg_blk zd_194 2 hs (rfl : zb x zT0 zc_194 2 (14, [some (.ref 92), o1, some (.int v2), some (.int v3), some (.int v4)], [], h) = some (16, [some (.ref 92), o1, some (.int v2), some (.int v3), some (.int v4)], [.int v3, .ref 92], h)) (fun hs => ?_)
  obtain ⟨hob, ho⟩ := ho
  refine zg_call hs zd_194 rfl rfl rfl rfl (as := [.ref 92, .int v3]) (rest := []) (en := [some (.ref 92), some (.int v3)]) rfl rfl rfl rfl rfl ?_
  refine f_M_push_t v3 h hs hob (fun hs => ?_)
  show zg x (d + 3) 194 19 [some (.ref 92), o1, some (.int v2), some (.int v3), some (.int v4)] [] (f_M_push v3 h) Q
  exact f_M_moreWords_k19_t v2 v4 (f_M_push v3 h) (o1) (some (.int v3)) hs ho hF
set_option maxRecDepth 100000 in
set_option maxHeartbeats 400000 in
theorem f_M_moreWords_t {x : zm_X} {d : Nat} (p1 : Int32) (p2 : Int32) (p3 : Int32) (p4 : Int32) (h : zm_H) {Q : Option Value → zm_H → Prop} (hs : zSh zT0 h) (ho : f_M_moreWords_ok p1 p2 p3 p4 h) (hF : (zSh zT0 (f_M_moreWords p1 p2 p3 p4 h).2 → Q (some (.int (f_M_moreWords p1 p2 p3 p4 h).1)) (f_M_moreWords p1 p2 p3 p4 h).2)) : zg x (d + 3) 194 0 [some (.ref 92), some (.int p1), some (.int p2), some (.int p3), some (.int p4)] [] h Q := by
  unfold f_M_moreWords at hF
  unfold f_M_moreWords_ok at ho
  refine zg_blk zd_194 2 hs (rfl : zb x zT0 zc_194 2 (0, [some (.ref 92), some (.int p1), some (.int p2), some (.int p3), some (.int p4)], [], h) = some (2, [some (.ref 92), some (.int p1), some (.int p2), some (.int p3), some (.int p4)], [.int p1, .ref 92], h)) (fun hs => ?_)
  refine zg_call hs zd_194 rfl rfl rfl rfl (as := [.ref 92, .int p1]) (rest := []) (en := [some (.ref 92), some (.int p1)]) rfl rfl rfl rfl rfl ?_
  refine f_M_isWord_t p1 h hs trivial ?_
  show zg x (d + 3) 194 5 [some (.ref 92), some (.int p1), some (.int p2), some (.int p3), some (.int p4)] [.int (if (((zf h 92 3) = 2) ∧ ((zf h 92 5) = p1)) then (1 : Int32) else 0)] h Q
  refine zg_b_ne zd_194 rfl (fun (hc : (((zf h 92 3) = 2) ∧ ((zf h 92 5) = p1))) => ?_) (fun (hc : ¬ (((zf h 92 3) = 2) ∧ ((zf h 92 5) = p1))) => ?_)
  · have ho := ho.1 hc
    rw [if_pos hc] at hF
    refine zg_blk zd_194 1 hs (rfl : zb x zT0 zc_194 1 (10, [some (.ref 92), some (.int p1), some (.int p2), some (.int p3), some (.int p4)], [], h) = some (11, [some (.ref 92), some (.int p1), some (.int p2), some (.int p3), some (.int p4)], [.ref 92], h)) (fun hs => ?_)
    obtain ⟨hob, ho⟩ := ho
    refine zg_call hs zd_194 rfl rfl rfl rfl (as := [.ref 92]) (rest := []) (en := [some (.ref 92), none]) rfl rfl rfl rfl rfl ?_
    refine f_M_follows_t  h hs hob (fun hs => ?_)
    show zg x (d + 3) 194 14 [some (.ref 92), some (.int p1), some (.int p2), some (.int p3), some (.int p4)] [] (f_M_follows h) Q
    exact f_M_moreWords_k14_t p2 p3 p4 (f_M_follows h) (some (.int p1)) hs ho hF
  · have ho := ho.2 hc
    rw [if_neg hc] at hF
    refine zg_blk zd_194 1 hs (rfl : zb x zT0 zc_194 1 (8, [some (.ref 92), some (.int p1), some (.int p2), some (.int p3), some (.int p4)], [], h) = some (9, [some (.ref 92), some (.int p1), some (.int p2), some (.int p3), some (.int p4)], [.int 1], h)) (fun hs => ?_)
    exact zg_rtz zd_194 rfl rfl rfl (hF hs)
theorem zd_196 : zm_cd 196 = zc_196 := by rfl
set_option maxRecDepth 100000 in
set_option maxHeartbeats 400000 in
theorem f_M_holds_k70_t {x : zm_X} {d : Nat} (h : zm_H) (o1 : Option Value) {Q : Option Value → zm_H → Prop} (hs : zSh zT0 h) (ho : f_M_holds_k70_ok h) (hF : (zSh zT0 (f_M_holds_k70 h).2 → Q (some (.int (f_M_holds_k70 h).1)) (f_M_holds_k70 h).2)) : zg x (d + 4) 196 70 [some (.ref 92), o1] [] h Q := by
  unfold f_M_holds_k70 at hF
  unfold f_M_holds_k70_ok at ho
  refine zg_blk zd_196 1 hs (rfl : zb x zT0 zc_196 1 (70, [some (.ref 92), o1], [], h) = some (71, [some (.ref 92), o1], [.ref 92], h)) (fun hs => ?_)
  obtain ⟨hob, ho⟩ := ho
  refine zg_call hs zd_196 rfl rfl rfl rfl (as := [.ref 92]) (rest := []) (en := [some (.ref 92)]) rfl rfl rfl rfl rfl ?_
  refine f_M_takes_t  h hs hob (fun hs => ?_)
  show zg x (d + 4) 196 74 [some (.ref 92), o1] [.int (f_M_takes h).1] (f_M_takes h).2 Q
  exact zg_rtz zd_196 rfl rfl ho (hF hs)
set_option maxRecDepth 100000 in
set_option maxHeartbeats 400000 in
theorem f_M_holds_k64_t {x : zm_X} {d : Nat} (h : zm_H) (o1 : Option Value) {Q : Option Value → zm_H → Prop} (hs : zSh zT0 h) (ho : f_M_holds_k64_ok h) (hF : (zSh zT0 (f_M_holds_k64 h).2 → Q (some (.int (f_M_holds_k64 h).1)) (f_M_holds_k64 h).2)) : zg x (d + 4) 196 64 [some (.ref 92), o1] [] h Q := by
  unfold f_M_holds_k64 at hF
  unfold f_M_holds_k64_ok at ho
  refine zg_blk zd_196 2 hs (rfl : zb x zT0 zc_196 2 (64, [some (.ref 92), o1], [], h) = some (67, [some (.ref 92), o1], [.int 6, .ref 92], h)) (fun hs => ?_)
  obtain ⟨hob, ho⟩ := ho
  refine zg_call hs zd_196 rfl rfl rfl rfl (as := [.ref 92, .int 6]) (rest := []) (en := [some (.ref 92), some (.int 6)]) rfl rfl rfl rfl rfl ?_
  refine f_M_push_t 6 h hs hob (fun hs => ?_)
  show zg x (d + 4) 196 70 [some (.ref 92), o1] [] (f_M_push 6 h) Q
  exact f_M_holds_k70_t (f_M_push 6 h) (o1) hs ho hF
set_option maxRecDepth 100000 in
set_option maxHeartbeats 400000 in
theorem f_M_holds_k54_t {x : zm_X} {d : Nat} (h : zm_H) (o1 : Option Value) {Q : Option Value → zm_H → Prop} (hs : zSh zT0 h) (ho : f_M_holds_k54_ok h) (hF : (zSh zT0 (f_M_holds_k54 h).2 → Q (some (.int (f_M_holds_k54 h).1)) (f_M_holds_k54 h).2)) : zg x (d + 4) 196 54 [some (.ref 92), o1] [] h Q := by
  unfold f_M_holds_k54 at hF
  unfold f_M_holds_k54_ok at ho
  refine zg_blk zd_196 1 hs (rfl : zb x zT0 zc_196 1 (54, [some (.ref 92), o1], [], h) = some (70, [some (.ref 92), o1], [], h)) (fun hs => ?_)
  exact f_M_holds_k70_t h (o1) hs ho hF
set_option maxRecDepth 100000 in
set_option maxHeartbeats 400000 in
theorem f_M_holds_k48_t {x : zm_X} {d : Nat} (h : zm_H) (o1 : Option Value) {Q : Option Value → zm_H → Prop} (hs : zSh zT0 h) (ho : f_M_holds_k48_ok h) (hF : (zSh zT0 (f_M_holds_k48 h).2 → Q (some (.int (f_M_holds_k48 h).1)) (f_M_holds_k48 h).2)) : zg x (d + 4) 196 48 [some (.ref 92), o1] [] h Q := by
  unfold f_M_holds_k48 at hF
  unfold f_M_holds_k48_ok at ho
  refine zg_blk zd_196 2 hs (rfl : zb x zT0 zc_196 2 (48, [some (.ref 92), o1], [], h) = some (51, [some (.ref 92), o1], [.int 10, .ref 92], h)) (fun hs => ?_)
  obtain ⟨hob, ho⟩ := ho
  refine zg_call hs zd_196 rfl rfl rfl rfl (as := [.ref 92, .int 10]) (rest := []) (en := [some (.ref 92), some (.int 10)]) rfl rfl rfl rfl rfl ?_
  refine f_M_push_t 10 h hs hob (fun hs => ?_)
  show zg x (d + 4) 196 54 [some (.ref 92), o1] [] (f_M_push 10 h) Q
  exact f_M_holds_k54_t (f_M_push 10 h) (o1) hs ho hF
set_option maxRecDepth 100000 in
set_option maxHeartbeats 400000 in
theorem f_M_holds_k32_t {x : zm_X} {d : Nat} (v1 : Int32) (w0 : Int32) (h : zm_H) {Q : Option Value → zm_H → Prop} (hs : zSh zT0 h) (ho : f_M_holds_k32_ok v1 w0 h) (hF : (zSh zT0 (f_M_holds_k32 v1 w0 h).2 → Q (some (.int (f_M_holds_k32 v1 w0 h).1)) (f_M_holds_k32 v1 w0 h).2)) : zg x (d + 4) 196 32 [some (.ref 92), some (.int v1)] [.int w0] h Q := by
  unfold f_M_holds_k32 at hF
  unfold f_M_holds_k32_ok at ho
  refine zg_f_ne zd_196 rfl (fun (hc : ¬ (w0 = 0)) => ?_) (fun (hc : (w0 = 0)) => ?_)
  · have ho := ho.2 hc
    rw [if_neg hc] at hF
    refine zg_blk zd_196 1 hs (rfl : zb x zT0 zc_196 1 (37, [some (.ref 92), some (.int v1)], [], h) = some (38, [some (.ref 92), some (.int v1)], [.int v1], h)) (fun hs => ?_)
    refine zg_f_eq zd_196 rfl (fun (hc : (v1 = 0)) => ?_) (fun (hc : ¬ (v1 = 0)) => ?_)
    · have ho := ho.1 hc
      rw [if_pos hc] at hF
      refine zg_blk zd_196 2 hs (rfl : zb x zT0 zc_196 2 (57, [some (.ref 92), some (.int v1)], [], h) = some (61, [some (.ref 92), some (.int v1)], [.int 193, .ref 92], h)) (fun hs => ?_)
      obtain ⟨hob, ho⟩ := ho
      refine zg_call hs zd_196 rfl rfl rfl rfl (as := [.ref 92, .int 193]) (rest := []) (en := [some (.ref 92), some (.int 193)]) rfl rfl rfl rfl rfl ?_
      refine f_M_push_t 193 h hs hob (fun hs => ?_)
      show zg x (d + 4) 196 64 [some (.ref 92), some (.int v1)] [] (f_M_push 193 h) Q
      exact f_M_holds_k64_t (f_M_push 193 h) (some (.int v1)) hs ho hF
    · have ho := ho.2 hc
      rw [if_neg hc] at hF
      refine zg_blk zd_196 2 hs (rfl : zb x zT0 zc_196 2 (41, [some (.ref 92), some (.int v1)], [], h) = some (45, [some (.ref 92), some (.int v1)], [.int 1011, .ref 92], h)) (fun hs => ?_)
      obtain ⟨hob, ho⟩ := ho
      refine zg_call hs zd_196 rfl rfl rfl rfl (as := [.ref 92, .int 1011]) (rest := []) (en := [some (.ref 92), some (.int 1011)]) rfl rfl rfl rfl rfl ?_
      refine f_M_push_t 1011 h hs hob (fun hs => ?_)
      show zg x (d + 4) 196 48 [some (.ref 92), some (.int v1)] [] (f_M_push 1011 h) Q
      exact f_M_holds_k48_t (f_M_push 1011 h) (some (.int v1)) hs ho hF
  · have ho := ho.1 hc
    rw [if_pos hc] at hF
    refine zg_blk zd_196 1 hs (rfl : zb x zT0 zc_196 1 (35, [some (.ref 92), some (.int v1)], [], h) = some (36, [some (.ref 92), some (.int v1)], [.int 0], h)) (fun hs => ?_)
    exact zg_rtz zd_196 rfl rfl rfl (hF hs)
set_option maxRecDepth 100000 in
set_option maxHeartbeats 400000 in
theorem f_M_holds_k28_t {x : zm_X} {d : Nat} (v1 : Int32) (h : zm_H) {Q : Option Value → zm_H → Prop} (hs : zSh zT0 h) (ho : f_M_holds_k28_ok v1 h) (hF : (zSh zT0 (f_M_holds_k28 v1 h).2 → Q (some (.int (f_M_holds_k28 v1 h).1)) (f_M_holds_k28 v1 h).2)) : zg x (d + 4) 196 28 [some (.ref 92), some (.int v1)] [] h Q := by
  unfold f_M_holds_k28 at hF
  unfold f_M_holds_k28_ok at ho
  refine zg_blk zd_196 1 hs (rfl : zb x zT0 zc_196 1 (28, [some (.ref 92), some (.int v1)], [], h) = some (29, [some (.ref 92), some (.int v1)], [.ref 92], h)) (fun hs => ?_)
  obtain ⟨hob, ho⟩ := ho
  refine zg_call hs zd_196 rfl rfl rfl rfl (as := [.ref 92]) (rest := []) (en := [some (.ref 92)]) rfl rfl rfl rfl rfl ?_
  refine f_M_deeper_t  h hs hob (fun hs => ?_)
  show zg x (d + 4) 196 32 [some (.ref 92), some (.int v1)] [.int (f_M_deeper h).1] (f_M_deeper h).2 Q
  exact f_M_holds_k32_t v1 (f_M_deeper h).1 (f_M_deeper h).2 hs ho hF
set_option maxRecDepth 100000 in
set_option maxHeartbeats 400000 in
theorem f_M_holds_t {x : zm_X} {d : Nat} (h : zm_H) {Q : Option Value → zm_H → Prop} (hs : zSh zT0 h) (ho : f_M_holds_ok h) (hF : (zSh zT0 (f_M_holds h).2 → Q (some (.int (f_M_holds h).1)) (f_M_holds h).2)) : zg x (d + 4) 196 0 [some (.ref 92), none] [] h Q := by
  unfold f_M_holds at hF
  unfold f_M_holds_ok at ho
  refine zg_blk zd_196 2 hs (rfl : zb x zT0 zc_196 2 (0, [some (.ref 92), none], [], h) = some (3, [some (.ref 92), none], [.int 15, .ref 92], h)) (fun hs => ?_)
  refine zg_call hs zd_196 rfl rfl rfl rfl (as := [.ref 92, .int 15]) (rest := []) (en := [some (.ref 92), some (.int 15)]) rfl rfl rfl rfl rfl ?_
  refine f_M_isWord_t 15 h hs trivial ?_
  show zg x (d + 4) 196 6 [some (.ref 92), none] [.int (if (((zf h 92 3) = 2) ∧ ((zf h 92 5) = 15)) then (1 : Int32) else 0)] h Q
  refine zg_blk zd_196 2 hs (rfl : zb x zT0 zc_196 2 (6, [some (.ref 92), none], [.int (if (((zf h 92 3) = 2) ∧ ((zf h 92 5) = 15)) then (1 : Int32) else 0)], h) = some (8, [some (.ref 92), some (.int (if (((zf h 92 3) = 2) ∧ ((zf h 92 5) = 15)) then (1 : Int32) else 0))], [.int (if (((zf h 92 3) = 2) ∧ ((zf h 92 5) = 15)) then (1 : Int32) else 0)], h)) (fun hs => ?_)
  refine zg_b_ne zd_196 rfl (fun (hc : (((zf h 92 3) = 2) ∧ ((zf h 92 5) = 15))) => ?_) (fun (hc : ¬ (((zf h 92 3) = 2) ∧ ((zf h 92 5) = 15))) => ?_)
  · have ho := ho.1 hc
    rw [if_pos hc] at hF
    exact f_M_holds_k28_t (if (((zf h 92 3) = 2) ∧ ((zf h 92 5) = 15)) then (1 : Int32) else 0) h hs ho hF
  · have ho := ho.2 hc
    rw [if_neg hc] at hF
    refine zg_blk zd_196 2 hs (rfl : zb x zT0 zc_196 2 (11, [some (.ref 92), some (.int (if (((zf h 92 3) = 2) ∧ ((zf h 92 5) = 15)) then (1 : Int32) else 0))], [], h) = some (14, [some (.ref 92), some (.int (if (((zf h 92 3) = 2) ∧ ((zf h 92 5) = 15)) then (1 : Int32) else 0))], [.int 91, .ref 92], h)) (fun hs => ?_)
    refine zg_call hs zd_196 rfl rfl rfl rfl (as := [.ref 92, .int 91]) (rest := []) (en := [some (.ref 92), some (.int 91)]) rfl rfl rfl rfl rfl ?_
    refine f_M_isSign_t 91 h hs trivial ?_
    show zg x (d + 4) 196 17 [some (.ref 92), some (.int (if (((zf h 92 3) = 2) ∧ ((zf h 92 5) = 15)) then (1 : Int32) else 0))] [.int (if (((zf h 92 3) = 3) ∧ ((zf h 92 5) = 91)) then (1 : Int32) else 0)] h Q
    refine zg_b_ne zd_196 rfl (fun (hc : (((zf h 92 3) = 3) ∧ ((zf h 92 5) = 91))) => ?_) (fun (hc : ¬ (((zf h 92 3) = 3) ∧ ((zf h 92 5) = 91))) => ?_)
    · have ho := ho.1 hc
      rw [if_pos hc] at hF
      exact f_M_holds_k28_t (if (((zf h 92 3) = 2) ∧ ((zf h 92 5) = 15)) then (1 : Int32) else 0) h hs ho hF
    · have ho := ho.2 hc
      rw [if_neg hc] at hF
      refine zg_blk zd_196 3 hs (rfl : zb x zT0 zc_196 3 (20, [some (.ref 92), some (.int (if (((zf h 92 3) = 2) ∧ ((zf h 92 5) = 15)) then (1 : Int32) else 0))], [], h) = some (24, [some (.ref 92), some (.int (if (((zf h 92 3) = 2) ∧ ((zf h 92 5) = 15)) then (1 : Int32) else 0))], [.int 1, .int 11, .ref 92], h)) (fun hs => ?_)
      obtain ⟨hob, ho⟩ := ho
      refine zg_call hs zd_196 rfl rfl rfl rfl (as := [.ref 92, .int 11, .int 1]) (rest := []) (en := [some (.ref 92), some (.int 11), some (.int 1)]) rfl rfl rfl rfl rfl ?_
      refine f_M_both_t 11 1 h hs hob (fun hs => ?_)
      show zg x (d + 4) 196 27 [some (.ref 92), some (.int (if (((zf h 92 3) = 2) ∧ ((zf h 92 5) = 15)) then (1 : Int32) else 0))] [.int (f_M_both 11 1 h).1] (f_M_both 11 1 h).2 Q
      exact zg_rtz zd_196 rfl rfl ho (hF hs)
theorem zd_197 : zm_cd 197 = zc_197 := by rfl
set_option maxRecDepth 100000 in
set_option maxHeartbeats 400000 in
theorem f_M_compares_k72_t {x : zm_X} {d : Nat} (h : zm_H) {Q : Option Value → zm_H → Prop} (hs : zSh zT0 h) (ho : f_M_compares_k72_ok h) (hF : (zSh zT0 (f_M_compares_k72 h).2 → Q (some (.int (f_M_compares_k72 h).1)) (f_M_compares_k72 h).2)) : zg x (d + 4) 197 72 [some (.ref 92)] [] h Q := by
  unfold f_M_compares_k72 at hF
  unfold f_M_compares_k72_ok at ho
  refine zg_blk zd_197 1 hs (rfl : zb x zT0 zc_197 1 (72, [some (.ref 92)], [], h) = some (73, [some (.ref 92)], [.ref 92], h)) (fun hs => ?_)
  obtain ⟨hob, ho⟩ := ho
  refine zg_call hs zd_197 rfl rfl rfl rfl (as := [.ref 92]) (rest := []) (en := [some (.ref 92)]) rfl rfl rfl rfl rfl ?_
  refine f_M_takes_t  h hs hob (fun hs => ?_)
  show zg x (d + 4) 197 76 [some (.ref 92)] [.int (f_M_takes h).1] (f_M_takes h).2 Q
  exact zg_rtz zd_197 rfl rfl ho (hF hs)
set_option maxRecDepth 100000 in
set_option maxHeartbeats 400000 in
theorem f_M_compares_k67_t {x : zm_X} {d : Nat} (h : zm_H) {Q : Option Value → zm_H → Prop} (hs : zSh zT0 h) (ho : f_M_compares_k67_ok h) (hF : (zSh zT0 (f_M_compares_k67 h).2 → Q (some (.int (f_M_compares_k67 h).1)) (f_M_compares_k67 h).2)) : zg x (d + 4) 197 67 [some (.ref 92)] [] h Q := by
  unfold f_M_compares_k67 at hF
  unfold f_M_compares_k67_ok at ho
  refine zg_blk zd_197 2 hs (rfl : zb x zT0 zc_197 2 (67, [some (.ref 92)], [], h) = some (69, [some (.ref 92)], [.int 1, .ref 92], h)) (fun hs => ?_)
  obtain ⟨hob, ho⟩ := ho
  refine zg_call hs zd_197 rfl rfl rfl rfl (as := [.ref 92, .int 1]) (rest := []) (en := [some (.ref 92), some (.int 1)]) rfl rfl rfl rfl rfl ?_
  refine f_M_push_t 1 h hs hob (fun hs => ?_)
  show zg x (d + 4) 197 72 [some (.ref 92)] [] (f_M_push 1 h) Q
  exact f_M_compares_k72_t (f_M_push 1 h) hs ho hF
set_option maxRecDepth 100000 in
set_option maxHeartbeats 400000 in
theorem f_M_compares_k29_t {x : zm_X} {d : Nat} (h : zm_H) {Q : Option Value → zm_H → Prop} (hs : zSh zT0 h) (ho : f_M_compares_k29_ok h) (hF : (zSh zT0 (f_M_compares_k29 h).2 → Q (some (.int (f_M_compares_k29 h).1)) (f_M_compares_k29 h).2)) : zg x (d + 4) 197 29 [some (.ref 92)] [] h Q := by
  unfold f_M_compares_k29 at hF
  unfold f_M_compares_k29_ok at ho
  refine zg_blk zd_197 4 hs (rfl : zb x zT0 zc_197 4 (29, [some (.ref 92)], [], h) = some (36, [some (.ref 92)], [.int 60, .ref 92, .int 1000, .ref 92], h)) (fun hs => ?_)
  refine zg_call hs zd_197 rfl rfl rfl rfl (as := [.ref 92, .int 60]) (rest := [.int 1000, .ref 92]) (en := [some (.ref 92), some (.int 60)]) rfl rfl rfl rfl rfl ?_
  refine f_M_isSign_t 60 h hs trivial ?_
  show zg x (d + 4) 197 39 [some (.ref 92)] [.int (if (((zf h 92 3) = 3) ∧ ((zf h 92 5) = 60)) then (1 : Int32) else 0), .int 1000, .ref 92] h Q
  have K29 : zSh zT0 h → zg x (d + 4) 197 63 [some (.ref 92)] [.int (if (((zf h 92 3) = 3) ∧ ((zf h 92 5) = 60)) then (6 : Int32) else (if (((zf h 92 3) = 3) ∧ ((zf h 92 5) = 62)) then (7 : Int32) else 8)), .int 1000, .ref 92] h Q := fun hs => by
    refine zg_blk zd_197 1 hs (rfl : zb x zT0 zc_197 1 (63, [some (.ref 92)], [.int (if (((zf h 92 3) = 3) ∧ ((zf h 92 5) = 60)) then (6 : Int32) else (if (((zf h 92 3) = 3) ∧ ((zf h 92 5) = 62)) then (7 : Int32) else 8)), .int 1000, .ref 92], h) = some (64, [some (.ref 92)], [.int (1000 + (if (((zf h 92 3) = 3) ∧ ((zf h 92 5) = 60)) then (6 : Int32) else (if (((zf h 92 3) = 3) ∧ ((zf h 92 5) = 62)) then (7 : Int32) else 8))), .ref 92], h)) (fun hs => ?_)
    obtain ⟨hob, ho⟩ := ho
    refine zg_call hs zd_197 rfl rfl rfl rfl (as := [.ref 92, .int (1000 + (if (((zf h 92 3) = 3) ∧ ((zf h 92 5) = 60)) then (6 : Int32) else (if (((zf h 92 3) = 3) ∧ ((zf h 92 5) = 62)) then (7 : Int32) else 8)))]) (rest := []) (en := [some (.ref 92), some (.int (1000 + (if (((zf h 92 3) = 3) ∧ ((zf h 92 5) = 60)) then (6 : Int32) else (if (((zf h 92 3) = 3) ∧ ((zf h 92 5) = 62)) then (7 : Int32) else 8))))]) rfl rfl rfl rfl rfl ?_
    refine f_M_push_t (1000 + (if (((zf h 92 3) = 3) ∧ ((zf h 92 5) = 60)) then (6 : Int32) else (if (((zf h 92 3) = 3) ∧ ((zf h 92 5) = 62)) then (7 : Int32) else 8))) h hs hob (fun hs => ?_)
    show zg x (d + 4) 197 67 [some (.ref 92)] [] (f_M_push (1000 + (if (((zf h 92 3) = 3) ∧ ((zf h 92 5) = 60)) then (6 : Int32) else (if (((zf h 92 3) = 3) ∧ ((zf h 92 5) = 62)) then (7 : Int32) else 8))) h) Q
    exact f_M_compares_k67_t (f_M_push (1000 + (if (((zf h 92 3) = 3) ∧ ((zf h 92 5) = 60)) then (6 : Int32) else (if (((zf h 92 3) = 3) ∧ ((zf h 92 5) = 62)) then (7 : Int32) else 8))) h) hs ho hF
  refine zg_b_eq zd_197 rfl (fun (hc : ¬ (((zf h 92 3) = 3) ∧ ((zf h 92 5) = 60))) => ?_) (fun (hc : (((zf h 92 3) = 3) ∧ ((zf h 92 5) = 60))) => ?_)
  · skip
    rw [show ((if (((zf h 92 3) = 3) ∧ ((zf h 92 5) = 60)) then (6 : Int32) else (if (((zf h 92 3) = 3) ∧ ((zf h 92 5) = 62)) then (7 : Int32) else 8)) : Int32) = (if (((zf h 92 3) = 3) ∧ ((zf h 92 5) = 62)) then (7 : Int32) else 8) from if_neg hc] at K29
    refine zg_blk zd_197 2 hs (rfl : zb x zT0 zc_197 2 (47, [some (.ref 92)], [.int 1000, .ref 92], h) = some (50, [some (.ref 92)], [.int 62, .ref 92, .int 1000, .ref 92], h)) (fun hs => ?_)
    refine zg_call hs zd_197 rfl rfl rfl rfl (as := [.ref 92, .int 62]) (rest := [.int 1000, .ref 92]) (en := [some (.ref 92), some (.int 62)]) rfl rfl rfl rfl rfl ?_
    refine f_M_isSign_t 62 h hs trivial ?_
    show zg x (d + 4) 197 53 [some (.ref 92)] [.int (if (((zf h 92 3) = 3) ∧ ((zf h 92 5) = 62)) then (1 : Int32) else 0), .int 1000, .ref 92] h Q
    refine zg_b_eq zd_197 rfl (fun (hc : ¬ (((zf h 92 3) = 3) ∧ ((zf h 92 5) = 62))) => ?_) (fun (hc : (((zf h 92 3) = 3) ∧ ((zf h 92 5) = 62))) => ?_)
    · skip
      rw [show ((if (((zf h 92 3) = 3) ∧ ((zf h 92 5) = 62)) then (7 : Int32) else 8) : Int32) = 8 from if_neg hc] at K29
      refine zg_blk zd_197 1 hs (rfl : zb x zT0 zc_197 1 (61, [some (.ref 92)], [.int 1000, .ref 92], h) = some (63, [some (.ref 92)], [.int 8, .int 1000, .ref 92], h)) (fun hs => ?_)
      exact K29 hs
    · skip
      rw [show ((if (((zf h 92 3) = 3) ∧ ((zf h 92 5) = 62)) then (7 : Int32) else 8) : Int32) = 7 from if_pos hc] at K29
      refine zg_blk zd_197 2 hs (rfl : zb x zT0 zc_197 2 (56, [some (.ref 92)], [.int 1000, .ref 92], h) = some (63, [some (.ref 92)], [.int 7, .int 1000, .ref 92], h)) (fun hs => ?_)
      exact K29 hs
  · skip
    rw [show ((if (((zf h 92 3) = 3) ∧ ((zf h 92 5) = 60)) then (6 : Int32) else (if (((zf h 92 3) = 3) ∧ ((zf h 92 5) = 62)) then (7 : Int32) else 8)) : Int32) = 6 from if_pos hc] at K29
    refine zg_blk zd_197 2 hs (rfl : zb x zT0 zc_197 2 (42, [some (.ref 92)], [.int 1000, .ref 92], h) = some (63, [some (.ref 92)], [.int 6, .int 1000, .ref 92], h)) (fun hs => ?_)
    exact K29 hs
set_option maxRecDepth 100000 in
set_option maxHeartbeats 400000 in
theorem f_M_compares_t {x : zm_X} {d : Nat} (h : zm_H) {Q : Option Value → zm_H → Prop} (hs : zSh zT0 h) (ho : f_M_compares_ok h) (hF : (zSh zT0 (f_M_compares h).2 → Q (some (.int (f_M_compares h).1)) (f_M_compares h).2)) : zg x (d + 4) 197 0 [some (.ref 92)] [] h Q := by
  unfold f_M_compares at hF
  unfold f_M_compares_ok at ho
  refine zg_blk zd_197 2 hs (rfl : zb x zT0 zc_197 2 (0, [some (.ref 92)], [], h) = some (3, [some (.ref 92)], [.int 60, .ref 92], h)) (fun hs => ?_)
  refine zg_call hs zd_197 rfl rfl rfl rfl (as := [.ref 92, .int 60]) (rest := []) (en := [some (.ref 92), some (.int 60)]) rfl rfl rfl rfl rfl ?_
  refine f_M_isSign_t 60 h hs trivial ?_
  show zg x (d + 4) 197 6 [some (.ref 92)] [.int (if (((zf h 92 3) = 3) ∧ ((zf h 92 5) = 60)) then (1 : Int32) else 0)] h Q
  refine zg_b_ne zd_197 rfl (fun (hc : (((zf h 92 3) = 3) ∧ ((zf h 92 5) = 60))) => ?_) (fun (hc : ¬ (((zf h 92 3) = 3) ∧ ((zf h 92 5) = 60))) => ?_)
  · have ho := ho.1 hc
    rw [if_pos hc] at hF
    exact f_M_compares_k29_t h hs ho hF
  · have ho := ho.2 hc
    rw [if_neg hc] at hF
    refine zg_blk zd_197 2 hs (rfl : zb x zT0 zc_197 2 (9, [some (.ref 92)], [], h) = some (12, [some (.ref 92)], [.int 62, .ref 92], h)) (fun hs => ?_)
    refine zg_call hs zd_197 rfl rfl rfl rfl (as := [.ref 92, .int 62]) (rest := []) (en := [some (.ref 92), some (.int 62)]) rfl rfl rfl rfl rfl ?_
    refine f_M_isSign_t 62 h hs trivial ?_
    show zg x (d + 4) 197 15 [some (.ref 92)] [.int (if (((zf h 92 3) = 3) ∧ ((zf h 92 5) = 62)) then (1 : Int32) else 0)] h Q
    refine zg_b_ne zd_197 rfl (fun (hc : (((zf h 92 3) = 3) ∧ ((zf h 92 5) = 62))) => ?_) (fun (hc : ¬ (((zf h 92 3) = 3) ∧ ((zf h 92 5) = 62))) => ?_)
    · have ho := ho.1 hc
      rw [if_pos hc] at hF
      exact f_M_compares_k29_t h hs ho hF
    · have ho := ho.2 hc
      rw [if_neg hc] at hF
      refine zg_blk zd_197 2 hs (rfl : zb x zT0 zc_197 2 (18, [some (.ref 92)], [], h) = some (21, [some (.ref 92)], [.int 61, .ref 92], h)) (fun hs => ?_)
      refine zg_call hs zd_197 rfl rfl rfl rfl (as := [.ref 92, .int 61]) (rest := []) (en := [some (.ref 92), some (.int 61)]) rfl rfl rfl rfl rfl ?_
      refine f_M_isSign_t 61 h hs trivial ?_
      show zg x (d + 4) 197 24 [some (.ref 92)] [.int (if (((zf h 92 3) = 3) ∧ ((zf h 92 5) = 61)) then (1 : Int32) else 0)] h Q
      refine zg_b_ne zd_197 rfl (fun (hc : (((zf h 92 3) = 3) ∧ ((zf h 92 5) = 61))) => ?_) (fun (hc : ¬ (((zf h 92 3) = 3) ∧ ((zf h 92 5) = 61))) => ?_)
      · have ho := ho.1 hc
        rw [if_pos hc] at hF
        exact f_M_compares_k29_t h hs ho hF
      · have ho := ho.2 hc
        rw [if_neg hc] at hF
        refine zg_blk zd_197 1 hs (rfl : zb x zT0 zc_197 1 (27, [some (.ref 92)], [], h) = some (28, [some (.ref 92)], [.int 0], h)) (fun hs => ?_)
        exact zg_rtz zd_197 rfl rfl rfl (hF hs)
set_option maxRecDepth 100000 in
set_option maxHeartbeats 400000 in
theorem f_M_steps_k40_t {x : zm_X} {d : Nat} (w0 : Int32) (h : zm_H) (o0 : Option Value) (o1 : Option Value) {Q : Option Value → zm_H → Prop} (hs : zSh zT0 h) (ho : f_M_steps_k40_ok w0 h) (hF : (zSh zT0 (f_M_steps_k40 w0 h).2 → Q (some (.int (f_M_steps_k40 w0 h).1)) (f_M_steps_k40 w0 h).2)) : zg x (d + 5) 185 40 [o0, o1] [.int w0] h Q := by
  unfold f_M_steps_k40 at hF
  unfold f_M_steps_k40_ok at ho
  have K30 : zSh zT0 h → zg x (d + 5) 185 48 [o0, o1] [.int (if (¬ (w0 = 0)) then (1 : Int32) else 0)] h Q := fun hs => by
    exact zg_rtz zd_185 rfl rfl zm_nb01 (hF hs)
  refine zg_f_eq zd_185 rfl (fun (hc : (w0 = 0)) => ?_) (fun (hc : ¬ (w0 = 0)) => ?_)
  · skip
    rw [show ((if (¬ (w0 = 0)) then (1 : Int32) else 0) : Int32) = 0 from zb_not_t hc] at K30
    refine zg_blk zd_185 1 hs (rfl : zb x zT0 zc_185 1 (47, [o0, o1], [], h) = some (48, [o0, o1], [.int 0], h)) (fun hs => ?_)
    exact K30 hs
  · skip
    rw [show ((if (¬ (w0 = 0)) then (1 : Int32) else 0) : Int32) = 1 from zb_not_f hc] at K30
    refine zg_blk zd_185 2 hs (rfl : zb x zT0 zc_185 2 (43, [o0, o1], [], h) = some (48, [o0, o1], [.int 1], h)) (fun hs => ?_)
    exact K30 hs
set_option maxRecDepth 100000 in
set_option maxHeartbeats 400000 in
theorem f_M_steps_t {x : zm_X} {d : Nat} (p1 : Int32) (h : zm_H) {Q : Option Value → zm_H → Prop} (hs : zSh zT0 h) (ho : f_M_steps_ok p1 h) (hF : (zSh zT0 (f_M_steps p1 h).2 → Q (some (.int (f_M_steps p1 h).1)) (f_M_steps p1 h).2)) : zg x (d + 5) 185 0 [some (.ref 92), some (.int p1)] [] h Q := by
  unfold f_M_steps at hF
  unfold f_M_steps_ok at ho
  refine zg_blk zd_185 2 hs (rfl : zb x zT0 zc_185 2 (0, [some (.ref 92), some (.int p1)], [], h) = some (4, [some (.ref 92), some (.int p1)], [.int 1000, .int p1], h)) (fun hs => ?_)
  refine zg_i_lt zd_185 rfl (fun (hc : (p1 < 1000)) => ?_) (fun (hc : ¬ (p1 < 1000)) => ?_)
  · have ho := ho.1 hc
    rw [if_pos hc] at hF
    refine zg_blk zd_185 2 hs (rfl : zb x zT0 zc_185 2 (19, [some (.ref 92), some (.int p1)], [], h) = some (22, [some (.ref 92), some (.int p1)], [.int 100, .int p1], h)) (fun hs => ?_)
    refine zg_i_lt zd_185 rfl (fun (hc : (p1 < 100)) => ?_) (fun (hc : ¬ (p1 < 100)) => ?_)
    · have ho := ho.1 hc
      rw [if_pos hc] at hF
      refine zg_blk zd_185 1 hs (rfl : zb x zT0 zc_185 1 (49, [some (.ref 92), some (.int p1)], [], h) = some (50, [some (.ref 92), some (.int p1)], [.int p1], h)) (fun hs => ?_)
      by_cases hc0 : p1 = 0
      · have ho := ho.1 hc0
        rw [if_pos hc0] at hF
        refine zg_tsw zd_185 rfl (tg := 116) (by rw [hc0]; rfl) ?_
        refine zg_blk zd_185 1 hs (rfl : zb x zT0 zc_185 1 (116, [some (.ref 92), some (.int p1)], [], h) = some (117, [some (.ref 92), some (.int p1)], [.ref 92], h)) (fun hs => ?_)
        obtain ⟨hob, ho⟩ := ho
        refine zg_call hs zd_185 rfl rfl rfl rfl (as := [.ref 92]) (rest := []) (en := [some (.ref 92)]) rfl rfl rfl rfl rfl ?_
        refine f_M_clauses_t  h hs hob (fun hs => ?_)
        show zg x (d + 5) 185 120 [some (.ref 92), some (.int p1)] [.int (f_M_clauses h).1] (f_M_clauses h).2 Q
        exact zg_rtz zd_185 rfl rfl ho (hF hs)
      have ho := ho.2 hc0
      rw [if_neg hc0] at hF
      by_cases hc1 : p1 = 1
      · have ho := ho.1 hc1
        rw [if_pos hc1] at hF
        refine zg_tsw zd_185 rfl (tg := 121) (by rw [hc1]; rfl) ?_
        refine zg_blk zd_185 3 hs (rfl : zb x zT0 zc_185 3 (121, [some (.ref 92), some (.int p1)], [], h) = some (124, [some (.ref 92), some (.int p1)], [.int 3, .int 2, .ref 92], h)) (fun hs => ?_)
        obtain ⟨hob, ho⟩ := ho
        refine zg_call hs zd_185 rfl rfl rfl rfl (as := [.ref 92, .int 2, .int 3]) (rest := []) (en := [some (.ref 92), some (.int 2), some (.int 3)]) rfl rfl rfl rfl rfl ?_
        refine f_M_both_t 2 3 h hs hob (fun hs => ?_)
        show zg x (d + 5) 185 127 [some (.ref 92), some (.int p1)] [.int (f_M_both 2 3 h).1] (f_M_both 2 3 h).2 Q
        exact zg_rtz zd_185 rfl rfl ho (hF hs)
      have ho := ho.2 hc1
      rw [if_neg hc1] at hF
      by_cases hc2 : p1 = 2
      · have ho := ho.1 hc2
        rw [if_pos hc2] at hF
        refine zg_tsw zd_185 rfl (tg := 128) (by rw [hc2]; rfl) ?_
        refine zg_blk zd_185 7 hs (rfl : zb x zT0 zc_185 7 (128, [some (.ref 92), some (.int p1)], [], h) = some (137, [some (.ref 92), some (.int p1)], [.int 3, .int 2, .int 3, .int 45, .int 2, .int 43, .ref 92], h)) (fun hs => ?_)
        obtain ⟨hob, ho⟩ := ho
        refine zg_call hs zd_185 rfl rfl rfl rfl (as := [.ref 92, .int 43, .int 2, .int 45, .int 3, .int 2, .int 3]) (rest := []) (en := [some (.ref 92), some (.int 43), some (.int 2), some (.int 45), some (.int 3), some (.int 2), some (.int 3), none]) rfl rfl rfl rfl rfl ?_
        refine f_M_more_t 43 2 45 3 2 3 h hs hob (fun hs => ?_)
        show zg x (d + 5) 185 140 [some (.ref 92), some (.int p1)] [.int (f_M_more 43 2 45 3 2 3 h).1] (f_M_more 43 2 45 3 2 3 h).2 Q
        exact zg_rtz zd_185 rfl rfl ho (hF hs)
      have ho := ho.2 hc2
      rw [if_neg hc2] at hF
      by_cases hc3 : p1 = 3
      · have ho := ho.1 hc3
        rw [if_pos hc3] at hF
        refine zg_tsw zd_185 rfl (tg := 141) (by rw [hc3]; rfl) ?_
        refine zg_blk zd_185 3 hs (rfl : zb x zT0 zc_185 3 (141, [some (.ref 92), some (.int p1)], [], h) = some (144, [some (.ref 92), some (.int p1)], [.int 5, .int 4, .ref 92], h)) (fun hs => ?_)
        obtain ⟨hob, ho⟩ := ho
        refine zg_call hs zd_185 rfl rfl rfl rfl (as := [.ref 92, .int 4, .int 5]) (rest := []) (en := [some (.ref 92), some (.int 4), some (.int 5)]) rfl rfl rfl rfl rfl ?_
        refine f_M_both_t 4 5 h hs hob (fun hs => ?_)
        show zg x (d + 5) 185 147 [some (.ref 92), some (.int p1)] [.int (f_M_both 4 5 h).1] (f_M_both 4 5 h).2 Q
        exact zg_rtz zd_185 rfl rfl ho (hF hs)
      have ho := ho.2 hc3
      rw [if_neg hc3] at hF
      by_cases hc4 : p1 = 4
      · have ho := ho.1 hc4
        rw [if_pos hc4] at hF
        refine zg_tsw zd_185 rfl (tg := 148) (by rw [hc4]; rfl) ?_
        refine zg_blk zd_185 7 hs (rfl : zb x zT0 zc_185 7 (148, [some (.ref 92), some (.int p1)], [], h) = some (157, [some (.ref 92), some (.int p1)], [.int 5, .int 4, .int 5, .int 47, .int 4, .int 42, .ref 92], h)) (fun hs => ?_)
        obtain ⟨hob, ho⟩ := ho
        refine zg_call hs zd_185 rfl rfl rfl rfl (as := [.ref 92, .int 42, .int 4, .int 47, .int 5, .int 4, .int 5]) (rest := []) (en := [some (.ref 92), some (.int 42), some (.int 4), some (.int 47), some (.int 5), some (.int 4), some (.int 5), none]) rfl rfl rfl rfl rfl ?_
        refine f_M_more_t 42 4 47 5 4 5 h hs hob (fun hs => ?_)
        show zg x (d + 5) 185 160 [some (.ref 92), some (.int p1)] [.int (f_M_more 42 4 47 5 4 5 h).1] (f_M_more 42 4 47 5 4 5 h).2 Q
        exact zg_rtz zd_185 rfl rfl ho (hF hs)
      have ho := ho.2 hc4
      rw [if_neg hc4] at hF
      by_cases hc5 : p1 = 5
      · have ho := ho.1 hc5
        rw [if_pos hc5] at hF
        refine zg_tsw zd_185 rfl (tg := 161) (by rw [hc5]; rfl) ?_
        refine zg_blk zd_185 1 hs (rfl : zb x zT0 zc_185 1 (161, [some (.ref 92), some (.int p1)], [], h) = some (162, [some (.ref 92), some (.int p1)], [.ref 92], h)) (fun hs => ?_)
        obtain ⟨hob, ho⟩ := ho
        refine zg_call hs zd_185 rfl rfl rfl rfl (as := [.ref 92]) (rest := []) (en := [some (.ref 92)]) rfl rfl rfl rfl rfl ?_
        refine f_M_factor_t  h hs hob (fun hs => ?_)
        show zg x (d + 5) 185 165 [some (.ref 92), some (.int p1)] [.int (f_M_factor h).1] (f_M_factor h).2 Q
        exact zg_rtz zd_185 rfl rfl ho (hF hs)
      have ho := ho.2 hc5
      rw [if_neg hc5] at hF
      by_cases hc6 : p1 = 6
      · have ho := ho.1 hc6
        rw [if_pos hc6] at hF
        refine zg_tsw zd_185 rfl (tg := 166) (by rw [hc6]; rfl) ?_
        refine zg_blk zd_185 3 hs (rfl : zb x zT0 zc_185 3 (166, [some (.ref 92), some (.int p1)], [], h) = some (171, [some (.ref 92), some (.int p1)], [.int 8, .int 7, .ref 92], h)) (fun hs => ?_)
        obtain ⟨hob, ho⟩ := ho
        refine zg_call hs zd_185 rfl rfl rfl rfl (as := [.ref 92, .int 7, .int 8]) (rest := []) (en := [some (.ref 92), some (.int 7), some (.int 8)]) rfl rfl rfl rfl rfl ?_
        refine f_M_both_t 7 8 h hs hob (fun hs => ?_)
        show zg x (d + 5) 185 174 [some (.ref 92), some (.int p1)] [.int (f_M_both 7 8 h).1] (f_M_both 7 8 h).2 Q
        exact zg_rtz zd_185 rfl rfl ho (hF hs)
      have ho := ho.2 hc6
      rw [if_neg hc6] at hF
      by_cases hc7 : p1 = 7
      · have ho := ho.1 hc7
        rw [if_pos hc7] at hF
        refine zg_tsw zd_185 rfl (tg := 175) (by rw [hc7]; rfl) ?_
        refine zg_blk zd_185 5 hs (rfl : zb x zT0 zc_185 5 (175, [some (.ref 92), some (.int p1)], [], h) = some (184, [some (.ref 92), some (.int p1)], [.int 8, .int 7, .int 10, .int 13, .ref 92], h)) (fun hs => ?_)
        obtain ⟨hob, ho⟩ := ho
        refine zg_call hs zd_185 rfl rfl rfl rfl (as := [.ref 92, .int 13, .int 10, .int 7, .int 8]) (rest := []) (en := [some (.ref 92), some (.int 13), some (.int 10), some (.int 7), some (.int 8)]) rfl rfl rfl rfl rfl ?_
        refine f_M_moreWords_t 13 10 7 8 h hs hob (fun hs => ?_)
        show zg x (d + 5) 185 187 [some (.ref 92), some (.int p1)] [.int (f_M_moreWords 13 10 7 8 h).1] (f_M_moreWords 13 10 7 8 h).2 Q
        exact zg_rtz zd_185 rfl rfl ho (hF hs)
      have ho := ho.2 hc7
      rw [if_neg hc7] at hF
      by_cases hc8 : p1 = 8
      · have ho := ho.1 hc8
        rw [if_pos hc8] at hF
        refine zg_tsw zd_185 rfl (tg := 188) (by rw [hc8]; rfl) ?_
        refine zg_blk zd_185 3 hs (rfl : zb x zT0 zc_185 3 (188, [some (.ref 92), some (.int p1)], [], h) = some (193, [some (.ref 92), some (.int p1)], [.int 10, .int 9, .ref 92], h)) (fun hs => ?_)
        obtain ⟨hob, ho⟩ := ho
        refine zg_call hs zd_185 rfl rfl rfl rfl (as := [.ref 92, .int 9, .int 10]) (rest := []) (en := [some (.ref 92), some (.int 9), some (.int 10)]) rfl rfl rfl rfl rfl ?_
        refine f_M_both_t 9 10 h hs hob (fun hs => ?_)
        show zg x (d + 5) 185 196 [some (.ref 92), some (.int p1)] [.int (f_M_both 9 10 h).1] (f_M_both 9 10 h).2 Q
        exact zg_rtz zd_185 rfl rfl ho (hF hs)
      have ho := ho.2 hc8
      rw [if_neg hc8] at hF
      by_cases hc9 : p1 = 9
      · have ho := ho.1 hc9
        rw [if_pos hc9] at hF
        refine zg_tsw zd_185 rfl (tg := 197) (by rw [hc9]; rfl) ?_
        refine zg_blk zd_185 5 hs (rfl : zb x zT0 zc_185 5 (197, [some (.ref 92), some (.int p1)], [], h) = some (206, [some (.ref 92), some (.int p1)], [.int 10, .int 9, .int 9, .int 14, .ref 92], h)) (fun hs => ?_)
        obtain ⟨hob, ho⟩ := ho
        refine zg_call hs zd_185 rfl rfl rfl rfl (as := [.ref 92, .int 14, .int 9, .int 9, .int 10]) (rest := []) (en := [some (.ref 92), some (.int 14), some (.int 9), some (.int 9), some (.int 10)]) rfl rfl rfl rfl rfl ?_
        refine f_M_moreWords_t 14 9 9 10 h hs hob (fun hs => ?_)
        show zg x (d + 5) 185 209 [some (.ref 92), some (.int p1)] [.int (f_M_moreWords 14 9 9 10 h).1] (f_M_moreWords 14 9 9 10 h).2 Q
        exact zg_rtz zd_185 rfl rfl ho (hF hs)
      have ho := ho.2 hc9
      rw [if_neg hc9] at hF
      by_cases hc10 : p1 = 10
      · have ho := ho.1 hc10
        rw [if_pos hc10] at hF
        refine zg_tsw zd_185 rfl (tg := 210) (by rw [hc10]; rfl) ?_
        refine zg_blk zd_185 1 hs (rfl : zb x zT0 zc_185 1 (210, [some (.ref 92), some (.int p1)], [], h) = some (211, [some (.ref 92), some (.int p1)], [.ref 92], h)) (fun hs => ?_)
        obtain ⟨hob, ho⟩ := ho
        refine zg_call hs zd_185 rfl rfl rfl rfl (as := [.ref 92]) (rest := []) (en := [some (.ref 92), none]) rfl rfl rfl rfl rfl ?_
        refine f_M_holds_t  h hs hob (fun hs => ?_)
        show zg x (d + 5) 185 214 [some (.ref 92), some (.int p1)] [.int (f_M_holds h).1] (f_M_holds h).2 Q
        exact zg_rtz zd_185 rfl rfl ho (hF hs)
      have ho := ho.2 hc10
      rw [if_neg hc10] at hF
      by_cases hc11 : p1 = 11
      · have ho := ho.1 hc11
        rw [if_pos hc11] at hF
        refine zg_tsw zd_185 rfl (tg := 215) (by rw [hc11]; rfl) ?_
        refine zg_blk zd_185 1 hs (rfl : zb x zT0 zc_185 1 (215, [some (.ref 92), some (.int p1)], [], h) = some (216, [some (.ref 92), some (.int p1)], [.ref 92], h)) (fun hs => ?_)
        obtain ⟨hob, ho⟩ := ho
        refine zg_call hs zd_185 rfl rfl rfl rfl (as := [.ref 92]) (rest := []) (en := [some (.ref 92)]) rfl rfl rfl rfl rfl ?_
        refine f_M_compares_t  h hs hob (fun hs => ?_)
        show zg x (d + 5) 185 219 [some (.ref 92), some (.int p1)] [.int (f_M_compares h).1] (f_M_compares h).2 Q
        exact zg_rtz zd_185 rfl rfl ho (hF hs)
      have ho := ho.2 hc11
      rw [if_neg hc11] at hF
      by_cases hc12 : p1 = 12
      · have ho := ho.1 hc12
        rw [if_pos hc12] at hF
        refine zg_tsw zd_185 rfl (tg := 220) (by rw [hc12]; rfl) ?_
        refine zg_blk zd_185 7 hs (rfl : zb x zT0 zc_185 7 (220, [some (.ref 92), some (.int p1)], [], h) = some (231, [some (.ref 92), some (.int p1)], [.int 1], (zp h 92 8 ((zf h 92 8) - 1)))) (fun hs => ?_)
        exact zg_rtz zd_185 rfl rfl rfl (hF hs)
      have ho := ho.2 hc12
      rw [if_neg hc12] at hF
      refine zg_tsw zd_185 rfl (tg := 232) (if_pos (zsw_out (lo := 0) (hi := 12) (by decide) (by decide) (fun v h1 h2 => by
          have : v = 0 ∨ v = 1 ∨ v = 2 ∨ v = 3 ∨ v = 4 ∨ v = 5 ∨ v = 6 ∨ v = 7 ∨ v = 8 ∨ v = 9 ∨ v = 10 ∨ v = 11 ∨ v = 12 := by omega
          rcases this with rfl | rfl | rfl | rfl | rfl | rfl | rfl | rfl | rfl | rfl | rfl | rfl | rfl <;> first | exact hc0 | exact hc1 | exact hc2 | exact hc3 | exact hc4 | exact hc5 | exact hc6 | exact hc7 | exact hc8 | exact hc9 | exact hc10 | exact hc11 | exact hc12))) ?_
      refine zg_blk zd_185 6 hs (rfl : zb x zT0 zc_185 6 (232, [some (.ref 92), some (.int p1)], [], h) = some (244, [some (.ref 92), some (.int p1)], [.int (zf h 92 12), .int (zf h 92 9), .ref 98], h)) (fun hs => ?_)
      have hob := ho
      refine zg_ias hs zd_185 rfl rfl hob (fun hs => ?_)
      refine zg_blk zd_185 1 hs (rfl : zb x zT0 zc_185 1 (245, [some (.ref 92), some (.int p1)], [], (zs h 98 (zf h 92 9) (zf h 92 12))) = some (246, [some (.ref 92), some (.int p1)], [.int 1], (zs h 98 (zf h 92 9) (zf h 92 12)))) (fun hs => ?_)
      exact zg_rtz zd_185 rfl rfl rfl (hF hs)
    · have ho := ho.2 hc
      rw [if_neg hc] at hF
      refine zg_blk zd_185 4 hs (rfl : zb x zT0 zc_185 4 (25, [some (.ref 92), some (.int p1)], [], h) = some (30, [some (.ref 92), some (.int p1)], [.int (p1 - 100), .ref 92], h)) (fun hs => ?_)
      refine zg_call hs zd_185 rfl rfl rfl rfl (as := [.ref 92, .int (p1 - 100)]) (rest := []) (en := [some (.ref 92), some (.int (p1 - 100))]) rfl rfl rfl rfl rfl ?_
      refine f_M_isSign_t (p1 - 100) h hs trivial ?_
      show zg x (d + 5) 185 33 [some (.ref 92), some (.int p1)] [.int (if (((zf h 92 3) = 3) ∧ ((zf h 92 5) = (p1 - 100))) then (1 : Int32) else 0)] h Q
      refine zg_b_eq zd_185 rfl (fun (hc : ¬ (((zf h 92 3) = 3) ∧ ((zf h 92 5) = (p1 - 100)))) => ?_) (fun (hc : (((zf h 92 3) = 3) ∧ ((zf h 92 5) = (p1 - 100)))) => ?_)
      · have ho := ho.2 hc
        rw [if_neg hc] at hF
        refine zg_blk zd_185 1 hs (rfl : zb x zT0 zc_185 1 (47, [some (.ref 92), some (.int p1)], [], h) = some (48, [some (.ref 92), some (.int p1)], [.int 0], h)) (fun hs => ?_)
        exact zg_rtz zd_185 rfl rfl rfl (hF hs)
      · have ho := ho.1 hc
        rw [if_pos hc] at hF
        refine zg_blk zd_185 1 hs (rfl : zb x zT0 zc_185 1 (36, [some (.ref 92), some (.int p1)], [], h) = some (37, [some (.ref 92), some (.int p1)], [.ref 92], h)) (fun hs => ?_)
        have hob := ho
        refine zg_call hs zd_185 rfl rfl rfl rfl (as := [.ref 92]) (rest := []) (en := [some (.ref 92)]) rfl rfl rfl rfl rfl ?_
        refine f_M_takes_t  h hs hob (fun hs => ?_)
        show zg x (d + 5) 185 40 [some (.ref 92), some (.int p1)] [.int (f_M_takes h).1] (f_M_takes h).2 Q
        exact f_M_steps_k40_t (f_M_takes h).1 (f_M_takes h).2 (some (.ref 92)) (some (.int p1)) hs trivial hF
  · have ho := ho.2 hc
    rw [if_neg hc] at hF
    refine zg_blk zd_185 5 hs (rfl : zb x zT0 zc_185 5 (7, [some (.ref 92), some (.int p1)], [], h) = some (14, [some (.ref 92), some (.int p1)], [.int 0, .int (p1 - 1000), .ref 92], h)) (fun hs => ?_)
    have hob := ho
    refine zg_call hs zd_185 rfl rfl rfl rfl (as := [.ref 92, .int (p1 - 1000), .int 0]) (rest := []) (en := [some (.ref 92), some (.int (p1 - 1000)), some (.int 0)]) rfl rfl rfl rfl rfl ?_
    refine f_M_emits_t (p1 - 1000) 0 h hs hob (fun hs => ?_)
    show zg x (d + 5) 185 17 [some (.ref 92), some (.int p1)] [] (f_M_emits (p1 - 1000) 0 h) Q
    refine zg_blk zd_185 1 hs (rfl : zb x zT0 zc_185 1 (17, [some (.ref 92), some (.int p1)], [], (f_M_emits (p1 - 1000) 0 h)) = some (18, [some (.ref 92), some (.int p1)], [.int 1], (f_M_emits (p1 - 1000) 0 h))) (fun hs => ?_)
    exact zg_rtz zd_185 rfl rfl rfl (hF hs)
set_option maxRecDepth 100000 in
set_option maxHeartbeats 400000 in
theorem f_M_reads_l49_k79_t {x : zm_X} {d : Nat} (w0 : Int32) (h : zm_H) (o1 : Option Value) {Q : Option Value → zm_H → Prop} {FN : Nat × zm_H → Prop} (hs : zSh zT0 h) (ho : f_M_reads_l49_k79_ok w0 h) (hF : FN (f_M_reads_l49_k79 w0 h)) (hl0 : ∀ (h : zm_H) (o1 : Option Value), zSh zT0 h → FN (0, h) → zg x (d + 6) 179 49 [some (.ref 92), o1] [] h Q) (hl1 : ∀ (h : zm_H) (o1 : Option Value), zSh zT0 h → FN (1, h) → zg x (d + 6) 179 82 [some (.ref 92), o1] [] h Q) (hl2 : ∀ (h : zm_H) (o1 : Option Value), zSh zT0 h → FN (2, h) → zg x (d + 6) 179 87 [some (.ref 92), o1] [] h Q) : zg x (d + 6) 179 79 [some (.ref 92), o1] [.int w0] h Q := by
  unfold f_M_reads_l49_k79 at hF
  unfold f_M_reads_l49_k79_ok at ho
  refine zg_f_ne zd_179 rfl (fun (hc : ¬ (w0 = 0)) => ?_) (fun (hc : (w0 = 0)) => ?_)
  · skip
    rw [if_neg hc] at hF
    exact hl0 h (o1) hs hF
  · skip
    rw [if_pos hc] at hF
    exact hl1 h (o1) hs hF
set_option maxRecDepth 100000 in
set_option maxHeartbeats 400000 in
theorem f_M_reads_l49_b_t {x : zm_X} {d : Nat} (h : zm_H) (o1 : Option Value) {Q : Option Value → zm_H → Prop} {FN : Nat × zm_H → Prop} (hs : zSh zT0 h) (ho : f_M_reads_l49_b_ok h) (hF : FN (f_M_reads_l49_b h)) (hl0 : ∀ (h : zm_H) (o1 : Option Value), zSh zT0 h → FN (0, h) → zg x (d + 6) 179 49 [some (.ref 92), o1] [] h Q) (hl1 : ∀ (h : zm_H) (o1 : Option Value), zSh zT0 h → FN (1, h) → zg x (d + 6) 179 82 [some (.ref 92), o1] [] h Q) (hl2 : ∀ (h : zm_H) (o1 : Option Value), zSh zT0 h → FN (2, h) → zg x (d + 6) 179 87 [some (.ref 92), o1] [] h Q) : zg x (d + 6) 179 49 [some (.ref 92), o1] [] h Q := by
  unfold f_M_reads_l49_b at hF
  unfold f_M_reads_l49_b_ok at ho
  refine zg_blk zd_179 2 hs (rfl : zb x zT0 zc_179 2 (49, [some (.ref 92), o1], [], h) = some (53, [some (.ref 92), o1], [.int (zf h 92 7)], h)) (fun hs => ?_)
  refine zg_f_le zd_179 rfl (fun (hc : ((zf h 92 7) ≤ 0)) => ?_) (fun (hc : ¬ ((zf h 92 7) ≤ 0)) => ?_)
  · have ho := ho.1 hc
    rw [if_pos hc] at hF
    exact hl2 h (o1) hs hF
  · have ho := ho.2 hc
    rw [if_neg hc] at hF
    refine zg_blk zd_179 11 hs (rfl : zb x zT0 zc_179 11 (56, [some (.ref 92), o1], [], h) = some (75, [some (.ref 92), o1], [.int ((zf h 92 7) - 1), .ref 94, .ref 92], (zp h 92 7 ((zf h 92 7) - 1)))) (fun hs => ?_)
    obtain ⟨hob, ho⟩ := ho
    refine zg_ial hs zd_179 rfl rfl hob ?_
    have hob := ho
    refine zg_call hs zd_179 rfl rfl rfl rfl (as := [.ref 92, .int (zr h 94 ((zf h 92 7) - 1))]) (rest := []) (en := [some (.ref 92), some (.int (zr h 94 ((zf h 92 7) - 1)))]) rfl rfl rfl rfl rfl ?_
    refine f_M_steps_t (zr h 94 ((zf h 92 7) - 1)) (zp h 92 7 ((zf h 92 7) - 1)) hs hob (fun hs => ?_)
    show zg x (d + 6) 179 79 [some (.ref 92), o1] [.int (f_M_steps (zr h 94 ((zf h 92 7) - 1)) (zp h 92 7 ((zf h 92 7) - 1))).1] (f_M_steps (zr h 94 ((zf h 92 7) - 1)) (zp h 92 7 ((zf h 92 7) - 1))).2 Q
    exact f_M_reads_l49_k79_t (f_M_steps (zr h 94 ((zf h 92 7) - 1)) (zp h 92 7 ((zf h 92 7) - 1))).1 (f_M_steps (zr h 94 ((zf h 92 7) - 1)) (zp h 92 7 ((zf h 92 7) - 1))).2 (o1) hs trivial hF hl0 hl1 hl2
theorem f_M_reads_l49_t {x : zm_X} {d : Nat} {Q : Option Value → zm_H → Prop} (G : Nat × zm_H → Prop) (hx1 : ∀ (h : zm_H) (o1 : Option Value), zSh zT0 h → G (1, h) → zg x (d + 6) 179 82 [some (.ref 92), o1] [] h Q) (hx2 : ∀ (h : zm_H) (o1 : Option Value), zSh zT0 h → G (2, h) → zg x (d + 6) 179 87 [some (.ref 92), o1] [] h Q) : ∀ (n : Nat) (h : zm_H) (o1 : Option Value), zSh zT0 h → f_M_reads_l49_ok n h → G (f_M_reads_l49 n h) → zg x (d + 6) 179 49 [some (.ref 92), o1] [] h Q := by
  intro n
  induction n with
  | zero => intro h o1 hs ho hG; exact ho.elim
  | succ n ih =>
    intro h o1 hs ho hG
    refine f_M_reads_l49_b_t (FN := fun r => (r.1 = 0 → f_M_reads_l49_ok n r.2) ∧ G (if r.1 = 0 then f_M_reads_l49 n r.2 else r))  h o1 hs ho.1 ⟨ho.2, hG⟩ ?_ ?_ ?_
    · intro h o1 hs hF
      exact ih h o1 hs (hF.1 rfl) hF.2
    · intro h o1 hs hF
      exact hx1 h o1 hs hF.2
    · intro h o1 hs hF
      exact hx2 h o1 hs hF.2

set_option maxRecDepth 100000 in
set_option maxHeartbeats 400000 in
theorem f_M_reads_k82_t {x : zm_X} {d : Nat} (h : zm_H) (o1 : Option Value) {Q : Option Value → zm_H → Prop} (hs : zSh zT0 h) (ho : f_M_reads_k82_ok h) (hF : (zSh zT0 (f_M_reads_k82 h).2 → Q (some (.int (f_M_reads_k82 h).1)) (f_M_reads_k82 h).2)) : zg x (d + 6) 179 82 [some (.ref 92), o1] [] h Q := by
  unfold f_M_reads_k82 at hF
  unfold f_M_reads_k82_ok at ho
  refine zg_blk zd_179 2 hs (rfl : zb x zT0 zc_179 2 (82, [some (.ref 92), o1], [], h) = some (86, [some (.ref 92), o1], [.int (zf h 92 4)], h)) (fun hs => ?_)
  exact zg_ret zd_179 rfl rfl (hF hs)
set_option maxRecDepth 100000 in
set_option maxHeartbeats 400000 in
theorem f_M_reads_k87_t {x : zm_X} {d : Nat} (h : zm_H) (o0 : Option Value) (o1 : Option Value) {Q : Option Value → zm_H → Prop} (hs : zSh zT0 h) (ho : f_M_reads_k87_ok h) (hF : (zSh zT0 (f_M_reads_k87 h).2 → Q (some (.int (f_M_reads_k87 h).1)) (f_M_reads_k87 h).2)) : zg x (d + 6) 179 87 [o0, o1] [] h Q := by
  unfold f_M_reads_k87 at hF
  unfold f_M_reads_k87_ok at ho
  refine zg_blk zd_179 1 hs (rfl : zb x zT0 zc_179 1 (87, [o0, o1], [], h) = some (88, [o0, o1], [.int (-1)], h)) (fun hs => ?_)
  exact zg_ret zd_179 rfl rfl (hF hs)
set_option maxRecDepth 100000 in
set_option maxHeartbeats 400000 in
theorem f_M_reads_k44_t {x : zm_X} {d : Nat} (h : zm_H) (o1 : Option Value) {Q : Option Value → zm_H → Prop} (hs : zSh zT0 h) (ho : f_M_reads_k44_ok h) (hF : (zSh zT0 (f_M_reads_k44 h).2 → Q (some (.int (f_M_reads_k44 h).1)) (f_M_reads_k44 h).2)) : zg x (d + 6) 179 44 [some (.ref 92), o1] [] h Q := by
  unfold f_M_reads_k44 at hF
  unfold f_M_reads_k44_ok at ho
  refine zg_blk zd_179 2 hs (rfl : zb x zT0 zc_179 2 (44, [some (.ref 92), o1], [], h) = some (46, [some (.ref 92), o1], [.int 0, .ref 92], h)) (fun hs => ?_)
  obtain ⟨hob, ho⟩ := ho
  refine zg_call hs zd_179 rfl rfl rfl rfl (as := [.ref 92, .int 0]) (rest := []) (en := [some (.ref 92), some (.int 0)]) rfl rfl rfl rfl rfl ?_
  refine f_M_push_t 0 h hs hob (fun hs => ?_)
  show zg x (d + 6) 179 49 [some (.ref 92), o1] [] (f_M_push 0 h) Q
  refine f_M_reads_l49_t  (fun r => f_M_reads_a49_ok r ∧ (zSh zT0 (f_M_reads_a49 r).2 → Q (some (.int (f_M_reads_a49 r).1)) (f_M_reads_a49 r).2)) ?_ ?_ zF (f_M_push 0 h) (o1) hs ho.1 ⟨ho.2, hF⟩
  · intro h_ o1_ hs hG
    have ho : True := trivial
    have hF : (zSh zT0 ((f_M_reads_k82 h_)).2 → Q (some (.int ((f_M_reads_k82 h_)).1)) ((f_M_reads_k82 h_)).2) := hG.2
    exact f_M_reads_k82_t h_ (o1_) hs trivial hF
  · intro h_ o1_ hs hG
    have ho : True := trivial
    have hF : (zSh zT0 ((f_M_reads_k87 h_)).2 → Q (some (.int ((f_M_reads_k87 h_)).1)) ((f_M_reads_k87 h_)).2) := hG.2
    exact f_M_reads_k87_t h_ (some (.ref 92)) (o1_) hs trivial hF
set_option maxRecDepth 100000 in
set_option maxHeartbeats 400000 in
theorem f_M_reads_k40_t {x : zm_X} {d : Nat} (h : zm_H) (o1 : Option Value) {Q : Option Value → zm_H → Prop} (hs : zSh zT0 h) (ho : f_M_reads_k40_ok h) (hF : (zSh zT0 (f_M_reads_k40 h).2 → Q (some (.int (f_M_reads_k40 h).1)) (f_M_reads_k40 h).2)) : zg x (d + 6) 179 40 [some (.ref 92), o1] [] h Q := by
  unfold f_M_reads_k40 at hF
  unfold f_M_reads_k40_ok at ho
  refine zg_blk zd_179 1 hs (rfl : zb x zT0 zc_179 1 (40, [some (.ref 92), o1], [], h) = some (41, [some (.ref 92), o1], [.ref 92], h)) (fun hs => ?_)
  obtain ⟨hob, ho⟩ := ho
  refine zg_call hs zd_179 rfl rfl rfl rfl (as := [.ref 92]) (rest := []) (en := [some (.ref 92), none]) rfl rfl rfl rfl rfl ?_
  refine f_M_follows_t  h hs hob (fun hs => ?_)
  show zg x (d + 6) 179 44 [some (.ref 92), o1] [] (f_M_follows h) Q
  exact f_M_reads_k44_t (f_M_follows h) (o1) hs ho hF
set_option maxRecDepth 100000 in
set_option maxHeartbeats 400000 in
theorem f_M_reads_t {x : zm_X} {d : Nat} (h : zm_H) {Q : Option Value → zm_H → Prop} (hs : zSh zT0 h) (ho : f_M_reads_ok h) (hF : (zSh zT0 (f_M_reads h).2 → Q (some (.int (f_M_reads h).1)) (f_M_reads h).2)) : zg x (d + 6) 179 0 [some (.ref 92), none] [] h Q := by
  unfold f_M_reads at hF
  unfold f_M_reads_ok at ho
  refine zg_blk zd_179 14 hs (rfl : zb x zT0 zc_179 14 (0, [some (.ref 92), none], [], h) = some (22, [some (.ref 92), some (.int 0)], [], (zp (zp (zp (zp h 92 2 0) 92 7 0) 92 8 0) 92 12 0))) (fun hs => ?_)
  refine f_M_reads_l22_t  (fun r => f_M_reads_a22_ok r ∧ (zSh zT0 (f_M_reads_a22 r).2 → Q (some (.int (f_M_reads_a22 r).1)) (f_M_reads_a22 r).2)) ?_ zF 0 (zp (zp (zp (zp h 92 2 0) 92 7 0) 92 8 0) 92 12 0) hs ho.1 ⟨ho.2, hF⟩
  · intro v1_ h_ o1_ hs hG
    have ho : (f_M_reads_k40_ok h_) := hG.1
    have hF : (zSh zT0 ((f_M_reads_k40 h_)).2 → Q (some (.int ((f_M_reads_k40 h_)).1)) ((f_M_reads_k40 h_)).2) := hG.2
    exact f_M_reads_k40_t h_ (o1_) hs ho hF
set_option maxRecDepth 100000 in
set_option maxHeartbeats 400000 in
theorem f_M_fault_t {x : zm_X} {d : Nat} (h : zm_H) {Q : Option Value → zm_H → Prop} (hs : zSh zT0 h) (ho : f_M_fault_ok h) (hF : (zSh zT0 (f_M_fault h).2 → Q (some (.int (f_M_fault h).1)) (f_M_fault h).2)) : zg x (d + 7) 178 0 [some (.ref 92)] [] h Q := by
  unfold f_M_fault at hF
  unfold f_M_fault_ok at ho
  refine zg_blk zd_178 1 hs (rfl : zb x zT0 zc_178 1 (0, [some (.ref 92)], [], h) = some (1, [some (.ref 92)], [.ref 92], h)) (fun hs => ?_)
  have hob := ho
  refine zg_call hs zd_178 rfl rfl rfl rfl (as := [.ref 92]) (rest := []) (en := [some (.ref 92), none]) rfl rfl rfl rfl rfl ?_
  refine f_M_reads_t  h hs hob (fun hs => ?_)
  show zg x (d + 7) 178 4 [some (.ref 92)] [.int (f_M_reads h).1] (f_M_reads h).2 Q
  exact zg_ret zd_178 rfl rfl (hF hs)
theorem zd_131 : zm_cd 131 = zc_131 := by rfl
theorem zd_69 : zm_cd 69 = zc_69 := by rfl
set_option maxRecDepth 100000 in
set_option maxHeartbeats 400000 in
theorem f_Rules_hasRoomForSheet_t {x : zm_X} {d : Nat} (h : zm_H) {Q : Option Value → zm_H → Prop} (hs : zSh zT0 h) (ho : f_Rules_hasRoomForSheet_ok h) (hF : Q (some (.int (f_Rules_hasRoomForSheet h))) h) : zg x (d + 1) 69 0 [some (.ref 15)] [] h Q := by
  unfold f_Rules_hasRoomForSheet at hF
  unfold f_Rules_hasRoomForSheet_ok at ho
  refine zg_blk zd_69 3 hs (rfl : zb x zT0 zc_69 3 (0, [some (.ref 15)], [], h) = some (6, [some (.ref 15)], [.int 10, .int (zf h 15 0)], h)) (fun hs => ?_)
  have K31 : zSh zT0 h → zg x (d + 1) 69 14 [some (.ref 15)] [.int (if (¬ (10 ≤ (zf h 15 0))) then (1 : Int32) else 0)] h Q := fun hs => by
    exact zg_rtz zd_69 rfl rfl zm_nb01 hF
  refine zg_i_ge zd_69 rfl (fun (hc : (10 ≤ (zf h 15 0))) => ?_) (fun (hc : ¬ (10 ≤ (zf h 15 0))) => ?_)
  · skip
    rw [show ((if (¬ (10 ≤ (zf h 15 0))) then (1 : Int32) else 0) : Int32) = 0 from zb_not_t hc] at K31
    refine zg_blk zd_69 1 hs (rfl : zb x zT0 zc_69 1 (13, [some (.ref 15)], [], h) = some (14, [some (.ref 15)], [.int 0], h)) (fun hs => ?_)
    exact K31 hs
  · skip
    rw [show ((if (¬ (10 ≤ (zf h 15 0))) then (1 : Int32) else 0) : Int32) = 1 from zb_not_f hc] at K31
    refine zg_blk zd_69 2 hs (rfl : zb x zT0 zc_69 2 (9, [some (.ref 15)], [], h) = some (14, [some (.ref 15)], [.int 1], h)) (fun hs => ?_)
    exact K31 hs
theorem zd_70 : zm_cd 70 = zc_70 := by rfl
theorem zd_266 : zm_cd 266 = zc_266 := by rfl
set_option maxRecDepth 100000 in
set_option maxHeartbeats 400000 in
theorem f_Arrays_copyOf_12_t {x : zm_X} {d : Nat} (p1 : Int32) (h : zm_H) {Q : Option Value → zm_H → Prop} (hs : zSh zT0 h) (ho : f_Arrays_copyOf_12_ok p1 h) (hF : (zSh zT0 (f_Arrays_copyOf_12 p1 h).2 → Q (some (.ref (f_Arrays_copyOf_12 p1 h).1)) (f_Arrays_copyOf_12 p1 h).2)) : zg x (d + 1) 266 0 [some (.ref 12), some (.int p1), none] [] h Q := by
  unfold f_Arrays_copyOf_12 at hF
  unfold f_Arrays_copyOf_12_ok at ho
  refine zg_blk zd_266 3 hs (rfl : zb x zT0 zc_266 3 (0, [some (.ref 12), some (.int p1), none], [], h) = some (3, [some (.ref 12), some (.int p1), none], [.int (Int32.ofNat 400), .int p1], h)) (fun hs => ?_)
  refine zg_i_ne zd_266 rfl (fun (hc : ¬ (p1 = (Int32.ofNat 400))) => ?_) (fun (hc : (p1 = (Int32.ofNat 400))) => ?_)
  · have ho := ho.2 hc
    rw [if_neg hc] at hF
    refine zg_blk zd_266 1 hs (rfl : zb x zT0 zc_266 1 (14, [some (.ref 12), some (.int p1), none], [], h) = some (15, [some (.ref 12), some (.int p1), none], [.int p1], h)) (fun hs => ?_)
    obtain ⟨hob, ho⟩ := ho
    refine zg_nwi hs zd_266 rfl hob (fun hs => ?_)
    refine zg_blk zd_266 8 hs (rfl : zb x zT0 zc_266 8 (17, [some (.ref 12), some (.int p1), none], [.ref (h).1.length], (znw h p1)) = some (25, [some (.ref 12), some (.int p1), some (.ref (h).1.length)], [.int p1, .int (Int32.ofNat 400), .int 0, .ref (h).1.length, .int 0, .ref 12], (znw h p1))) (fun hs => ?_)
    refine zg_x zd_266 rfl rfl rfl rfl (as := [.int (Int32.ofNat 400), .int p1]) (rest := [.int 0, .ref (h).1.length, .int 0, .ref 12]) (w := some (.int (if p1 < (Int32.ofNat 400) then p1 else (Int32.ofNat 400)))) rfl rfl rfl ?_
    have hob := ho
    refine zg_x zd_266 rfl rfl rfl rfl (as := [.ref 12, .int 0, .ref (h).1.length, .int 0, .int (if p1 < (Int32.ofNat 400) then p1 else (Int32.ofNat 400))]) (rest := []) (w := none) rfl rfl (zx_cpd hs rfl hob) ?_
    have hs : zSh zT0 (zcp (znw h p1) 12 0 (h).1.length 0 (if p1 < (Int32.ofNat 400) then p1 else (Int32.ofNat 400))) := zx_cps hs
    refine zg_blk zd_266 1 hs (rfl : zb x zT0 zc_266 1 (31, [some (.ref 12), some (.int p1), some (.ref (h).1.length)], [], (zcp (znw h p1) 12 0 (h).1.length 0 (if p1 < (Int32.ofNat 400) then p1 else (Int32.ofNat 400)))) = some (32, [some (.ref 12), some (.int p1), some (.ref (h).1.length)], [.ref (h).1.length], (zcp (znw h p1) 12 0 (h).1.length 0 (if p1 < (Int32.ofNat 400) then p1 else (Int32.ofNat 400))))) (fun hs => ?_)
    exact zg_ret zd_266 rfl rfl (hF hs)
  · have ho := ho.1 hc
    rw [if_pos hc] at hF
    refine zg_blk zd_266 1 hs (rfl : zb x zT0 zc_266 1 (6, [some (.ref 12), some (.int p1), none], [], h) = some (7, [some (.ref 12), some (.int p1), none], [.ref 12], h)) (fun hs => ?_)
    exact ho.elim
set_option maxRecDepth 100000 in
set_option maxHeartbeats 400000 in
theorem f_Rules_addSheet_l22_b_t {x : zm_X} {d : Nat} (v2 : Int32) (h : zm_H) {Q : Option Value → zm_H → Prop} {FN : Nat × Int32 × zm_H → Prop} (hs : zSh zT0 h) (ho : f_Rules_addSheet_l22_b_ok v2 h) (hF : FN (f_Rules_addSheet_l22_b v2 h)) (hl0 : ∀ (v2 : Int32) (h : zm_H), zSh zT0 h → FN (0, v2, h) → zg x (d + 2) 70 22 [some (.ref 15), some (.ref 10), some (.int v2)] [] h Q) (hl1 : ∀ (v2 : Int32) (h : zm_H) (o2 : Option Value), zSh zT0 h → FN (1, v2, h) → zg x (d + 2) 70 71 [some (.ref 15), some (.ref 10), o2] [] h Q) : zg x (d + 2) 70 22 [some (.ref 15), some (.ref 10), some (.int v2)] [] h Q := by
  unfold f_Rules_addSheet_l22_b at hF
  unfold f_Rules_addSheet_l22_b_ok at ho
  refine zg_blk zd_70 2 hs (rfl : zb x zT0 zc_70 2 (22, [some (.ref 15), some (.ref 10), some (.int v2)], [], h) = some (24, [some (.ref 15), some (.ref 10), some (.int v2)], [.int 4, .int v2], h)) (fun hs => ?_)
  refine zg_i_ge zd_70 rfl (fun (hc : (4 ≤ v2)) => ?_) (fun (hc : ¬ (4 ≤ v2)) => ?_)
  · have ho := ho.1 hc
    rw [if_pos hc] at hF
    exact hl1 v2 h (some (.int v2)) hs hF
  · have ho := ho.2 hc
    rw [if_neg hc] at hF
    refine zg_blk zd_70 11 hs (rfl : zb x zT0 zc_70 11 (27, [some (.ref 15), some (.ref 10), some (.int v2)], [], h) = some (44, [some (.ref 15), some (.ref 10), some (.int v2)], [.int v2, .ref 13, .int (((zf h 15 0) * 4) + v2), .ref 17], h)) (fun hs => ?_)
    obtain ⟨hob, ho⟩ := ho
    refine zg_ial hs zd_70 rfl rfl hob ?_
    obtain ⟨hob, ho⟩ := ho
    refine zg_ias hs zd_70 rfl rfl hob (fun hs => ?_)
    refine zg_blk zd_70 11 hs (rfl : zb x zT0 zc_70 11 (46, [some (.ref 15), some (.ref 10), some (.int v2)], [], (zs h 17 (((zf h 15 0) * 4) + v2) (zr h 13 v2))) = some (63, [some (.ref 15), some (.ref 10), some (.int v2)], [.int v2, .ref 14, .int (((zf h 15 0) * 4) + v2), .ref 18], (zs h 17 (((zf h 15 0) * 4) + v2) (zr h 13 v2)))) (fun hs => ?_)
    obtain ⟨hob, ho⟩ := ho
    refine zg_ial hs zd_70 rfl rfl hob ?_
    have hob := ho
    refine zg_ias hs zd_70 rfl rfl hob (fun hs => ?_)
    refine zg_blk zd_70 2 hs (rfl : zb x zT0 zc_70 2 (65, [some (.ref 15), some (.ref 10), some (.int v2)], [], (zs (zs h 17 (((zf h 15 0) * 4) + v2) (zr h 13 v2)) 18 (((zf h 15 0) * 4) + v2) (zr h 14 v2))) = some (22, [some (.ref 15), some (.ref 10), some (.int (v2 + 1))], [], (zs (zs h 17 (((zf h 15 0) * 4) + v2) (zr h 13 v2)) 18 (((zf h 15 0) * 4) + v2) (zr h 14 v2)))) (fun hs => ?_)
    exact hl0 (v2 + 1) (zs (zs h 17 (((zf h 15 0) * 4) + v2) (zr h 13 v2)) 18 (((zf h 15 0) * 4) + v2) (zr h 14 v2)) hs hF
theorem f_Rules_addSheet_l22_t {x : zm_X} {d : Nat} {Q : Option Value → zm_H → Prop} (G : Nat × Int32 × zm_H → Prop) (hx1 : ∀ (v2 : Int32) (h : zm_H) (o2 : Option Value), zSh zT0 h → G (1, v2, h) → zg x (d + 2) 70 71 [some (.ref 15), some (.ref 10), o2] [] h Q) : ∀ (n : Nat) (v2 : Int32) (h : zm_H), zSh zT0 h → f_Rules_addSheet_l22_ok n (v2, h) → G (f_Rules_addSheet_l22 n (v2, h)) → zg x (d + 2) 70 22 [some (.ref 15), some (.ref 10), some (.int v2)] [] h Q := by
  intro n
  induction n with
  | zero => intro v2 h hs ho hG; exact ho.elim
  | succ n ih =>
    intro v2 h hs ho hG
    refine f_Rules_addSheet_l22_b_t (FN := fun r => (r.1 = 0 → f_Rules_addSheet_l22_ok n r.2) ∧ G (if r.1 = 0 then f_Rules_addSheet_l22 n r.2 else r)) v2 h hs ho.1 ⟨ho.2, hG⟩ ?_ ?_
    · intro v2 h hs hF
      exact ih v2 h hs (hF.1 rfl) hF.2
    · intro v2 h o2 hs hF
      exact hx1 v2 h o2 hs hF.2

set_option maxRecDepth 100000 in
set_option maxHeartbeats 400000 in
theorem f_Rules_addSheet_k71_t {x : zm_X} {d : Nat} (h : zm_H) (o1 : Option Value) (o2 : Option Value) {Q : Option Value → zm_H → Prop} (hs : zSh zT0 h) (ho : f_Rules_addSheet_k71_ok h) (hF : (zSh zT0 (f_Rules_addSheet_k71 h).2 → Q (some (.int (f_Rules_addSheet_k71 h).1)) (f_Rules_addSheet_k71 h).2)) : zg x (d + 2) 70 71 [some (.ref 15), o1, o2] [] h Q := by
  unfold f_Rules_addSheet_k71 at hF
  unfold f_Rules_addSheet_k71_ok at ho
  refine zg_blk zd_70 10 hs (rfl : zb x zT0 zc_70 10 (71, [some (.ref 15), o1, o2], [], h) = some (87, [some (.ref 15), o1, o2], [.int (((zf h 15 0) + 1) - 1)], (zp h 15 0 ((zf h 15 0) + 1)))) (fun hs => ?_)
  exact zg_ret zd_70 rfl rfl (hF hs)
set_option maxRecDepth 100000 in
set_option maxHeartbeats 400000 in
theorem f_Rules_addSheet_k19_t {x : zm_X} {d : Nat} (w1 : Int32) (w2 : Nat) (h : zm_H) (o2 : Option Value) {Q : Option Value → zm_H → Prop} (hs : zSh zT0 h) (ho : f_Rules_addSheet_k19_ok w1 w2 h) (hF : (zSh zT0 (f_Rules_addSheet_k19 w1 w2 h).2 → Q (some (.int (f_Rules_addSheet_k19 w1 w2 h).1)) (f_Rules_addSheet_k19 w1 w2 h).2)) : zg x (d + 2) 70 19 [some (.ref 15), some (.ref 10), o2] [.ref w2, .int w1, .ref 16] h Q := by
  unfold f_Rules_addSheet_k19 at hF
  unfold f_Rules_addSheet_k19_ok at ho
  obtain ⟨hob, ho⟩ := ho
  refine zg_aas hs zd_70 rfl rfl rfl hob (fun hs => ?_)
  refine zg_blk zd_70 2 hs (rfl : zb x zT0 zc_70 2 (20, [some (.ref 15), some (.ref 10), o2], [], (zsr h 16 w1 w2)) = some (22, [some (.ref 15), some (.ref 10), some (.int 0)], [], (zsr h 16 w1 w2))) (fun hs => ?_)
  refine f_Rules_addSheet_l22_t  (fun r => f_Rules_addSheet_a22_ok r ∧ (zSh zT0 (f_Rules_addSheet_a22 r).2 → Q (some (.int (f_Rules_addSheet_a22 r).1)) (f_Rules_addSheet_a22 r).2)) ?_ zF 0 (zsr h 16 w1 w2) hs ho.1 ⟨ho.2, hF⟩
  · intro v2_ h_ o2_ hs hG
    have ho : True := trivial
    have hF : (zSh zT0 ((f_Rules_addSheet_k71 h_)).2 → Q (some (.int ((f_Rules_addSheet_k71 h_)).1)) ((f_Rules_addSheet_k71 h_)).2) := hG.2
    exact f_Rules_addSheet_k71_t h_ (some (.ref 10)) (o2_) hs trivial hF
set_option maxRecDepth 100000 in
set_option maxHeartbeats 400000 in
theorem f_Rules_addSheet_t {x : zm_X} {d : Nat} (h : zm_H) {Q : Option Value → zm_H → Prop} (hs : zSh zT0 h) (ho : f_Rules_addSheet_ok h) (hF : (zSh zT0 (f_Rules_addSheet h).2 → Q (some (.int (f_Rules_addSheet h).1)) (f_Rules_addSheet h).2)) : zg x (d + 2) 70 0 [some (.ref 15), some (.ref 10), none] [] h Q := by
  unfold f_Rules_addSheet at hF
  unfold f_Rules_addSheet_ok at ho
  refine zg_blk zd_70 8 hs (rfl : zb x zT0 zc_70 8 (0, [some (.ref 15), some (.ref 10), none], [], h) = some (16, [some (.ref 15), some (.ref 10), none], [.int (zf h 10 10), .ref 12, .int (zf h 15 0), .ref 16], h)) (fun hs => ?_)
  obtain ⟨hob, ho⟩ := ho
  refine zg_call hs zd_70 rfl rfl rfl rfl (as := [.ref 12, .int (zf h 10 10)]) (rest := [.int (zf h 15 0), .ref 16]) (en := [some (.ref 12), some (.int (zf h 10 10)), none]) rfl rfl rfl rfl rfl ?_
  refine f_Arrays_copyOf_12_t (zf h 10 10) h hs hob (fun hs => ?_)
  show zg x (d + 2) 70 19 [some (.ref 15), some (.ref 10), none] [.ref (f_Arrays_copyOf_12 (zf h 10 10) h).1, .int (zf h 15 0), .ref 16] (f_Arrays_copyOf_12 (zf h 10 10) h).2 Q
  exact f_Rules_addSheet_k19_t (zf h 15 0) (f_Arrays_copyOf_12 (zf h 10 10) h).1 (f_Arrays_copyOf_12 (zf h 10 10) h).2 (none) hs ho hF
set_option maxRecDepth 100000 in
set_option maxHeartbeats 400000 in
theorem f_N_sheet_k34_t {x : zm_X} {d : Nat} (w0 : Int32) (h : zm_H) (o1 : Option Value) {Q : Option Value → zm_H → Prop} (hs : zSh zT0 h) (ho : f_N_sheet_k34_ok w0 h) (hF : (zSh zT0 (f_N_sheet_k34 w0 h).2 → Q (some (.int (f_N_sheet_k34 w0 h).1)) (f_N_sheet_k34 w0 h).2)) : zg x (d + 83) 131 34 [some (.ref 0), o1] [.int w0] h Q := by
  unfold f_N_sheet_k34 at hF
  unfold f_N_sheet_k34_ok at ho
  refine zg_blk zd_131 6 hs (rfl : zb x zT0 zc_131 6 (34, [some (.ref 0), o1], [.int w0], h) = some (44, [some (.ref 0), some (.int w0)], [.int w0], (zp h 10 1 0))) (fun hs => ?_)
  exact zg_ret zd_131 rfl rfl (hF hs)
set_option maxRecDepth 100000 in
set_option maxHeartbeats 400000 in
theorem f_N_sheet_k17_t {x : zm_X} {d : Nat} (w0 : Int32) (h : zm_H) (o1 : Option Value) {Q : Option Value → zm_H → Prop} (hs : zSh zT0 h) (ho : f_N_sheet_k17_ok w0 h) (hF : (zSh zT0 (f_N_sheet_k17 w0 h).2 → Q (some (.int (f_N_sheet_k17 w0 h).1)) (f_N_sheet_k17 w0 h).2)) : zg x (d + 83) 131 17 [some (.ref 0), o1] [.int w0] h Q := by
  unfold f_N_sheet_k17 at hF
  unfold f_N_sheet_k17_ok at ho
  refine zg_blk zd_131 1 hs (rfl : zb x zT0 zc_131 1 (17, [some (.ref 0), o1], [.int w0], h) = some (18, [some (.ref 0), o1], [.int (-1), .int w0], h)) (fun hs => ?_)
  refine zg_i_eq zd_131 rfl (fun (hc : (w0 = (-1))) => ?_) (fun (hc : ¬ (w0 = (-1))) => ?_)
  · have ho := ho.1 hc
    rw [if_pos hc] at hF
    refine zg_blk zd_131 4 hs (rfl : zb x zT0 zc_131 4 (23, [some (.ref 0), o1], [], h) = some (31, [some (.ref 0), o1], [.ref 10, .ref 15], h)) (fun hs => ?_)
    have hob := ho
    refine zg_call hs zd_131 rfl rfl rfl rfl (as := [.ref 15, .ref 10]) (rest := []) (en := [some (.ref 15), some (.ref 10), none]) rfl rfl rfl rfl rfl ?_
    refine f_Rules_addSheet_t  h hs hob (fun hs => ?_)
    show zg x (d + 83) 131 34 [some (.ref 0), o1] [.int (f_Rules_addSheet h).1] (f_Rules_addSheet h).2 Q
    exact f_N_sheet_k34_t (f_Rules_addSheet h).1 (f_Rules_addSheet h).2 (o1) hs trivial hF
  · have ho := ho.2 hc
    rw [if_neg hc] at hF
    refine zg_blk zd_131 1 hs (rfl : zb x zT0 zc_131 1 (21, [some (.ref 0), o1], [], h) = some (22, [some (.ref 0), o1], [.int (-1)], h)) (fun hs => ?_)
    exact zg_ret zd_131 rfl rfl (hF hs)
set_option maxRecDepth 100000 in
set_option maxHeartbeats 400000 in
theorem f_N_sheet_t {x : zm_X} {d : Nat} (h : zm_H) {Q : Option Value → zm_H → Prop} (hs : zSh zT0 h) (ho : f_N_sheet_ok h) (hF : (zSh zT0 (f_N_sheet h).2 → Q (some (.int (f_N_sheet h).1)) (f_N_sheet h).2)) : zg x (d + 83) 131 0 [some (.ref 0), none] [] h Q := by
  unfold f_N_sheet at hF
  unfold f_N_sheet_ok at ho
  refine zg_blk zd_131 2 hs (rfl : zb x zT0 zc_131 2 (0, [some (.ref 0), none], [], h) = some (4, [some (.ref 0), none], [.ref 15], h)) (fun hs => ?_)
  refine zg_call hs zd_131 rfl rfl rfl rfl (as := [.ref 15]) (rest := []) (en := [some (.ref 15)]) rfl rfl rfl rfl rfl ?_
  refine f_Rules_hasRoomForSheet_t  h hs trivial ?_
  show zg x (d + 83) 131 7 [some (.ref 0), none] [.int (if (¬ (10 ≤ (zf h 15 0))) then (1 : Int32) else 0)] h Q
  refine zg_b_eq zd_131 rfl (fun (hc : ¬ (¬ (10 ≤ (zf h 15 0)))) => ?_) (fun (hc : (¬ (10 ≤ (zf h 15 0)))) => ?_)
  · have ho := ho.2 hc
    rw [if_neg hc] at hF
    refine zg_blk zd_131 1 hs (rfl : zb x zT0 zc_131 1 (21, [some (.ref 0), none], [], h) = some (22, [some (.ref 0), none], [.int (-1)], h)) (fun hs => ?_)
    exact zg_ret zd_131 rfl rfl (hF hs)
  · have ho := ho.1 hc
    rw [if_pos hc] at hF
    refine zg_blk zd_131 2 hs (rfl : zb x zT0 zc_131 2 (10, [some (.ref 0), none], [], h) = some (14, [some (.ref 0), none], [.ref 10], h)) (fun hs => ?_)
    obtain ⟨hob, ho⟩ := ho
    refine zg_call hs zd_131 rfl rfl rfl rfl (as := [.ref 10]) (rest := []) (en := [some (.ref 10), none]) rfl rfl rfl rfl rfl ?_
    refine f_Text_findFault_t  h hs hob (fun hs => ?_)
    show zg x (d + 83) 131 17 [some (.ref 0), none] [.int (f_Text_findFault h).1] (f_Text_findFault h).2 Q
    exact f_N_sheet_k17_t (f_Text_findFault h).1 (f_Text_findFault h).2 (none) hs ho hF
theorem zd_198 : zm_cd 198 = zc_198 := by rfl
set_option maxRecDepth 100000 in
set_option maxHeartbeats 400000 in
theorem f_M_sheet_l21_b_t {x : zm_X} {d : Nat} (v1 : Int32) (h : zm_H) {Q : Option Value → zm_H → Prop} {FN : Nat × Int32 × zm_H → Prop} (hs : zSh zT0 h) (ho : f_M_sheet_l21_b_ok v1 h) (hF : FN (f_M_sheet_l21_b v1 h)) (hl0 : ∀ (v1 : Int32) (h : zm_H), zSh zT0 h → FN (0, v1, h) → zg x (d + 7) 198 21 [some (.ref 92), some (.int v1)] [] h Q) (hl1 : ∀ (v1 : Int32) (h : zm_H) (o1 : Option Value), zSh zT0 h → FN (1, v1, h) → zg x (d + 7) 198 77 [some (.ref 92), o1] [] h Q) : zg x (d + 7) 198 21 [some (.ref 92), some (.int v1)] [] h Q := by
  unfold f_M_sheet_l21_b at hF
  unfold f_M_sheet_l21_b_ok at ho
  refine zg_blk zd_198 3 hs (rfl : zb x zT0 zc_198 3 (21, [some (.ref 92), some (.int v1)], [], h) = some (26, [some (.ref 92), some (.int v1)], [.int (zf h 92 12), .int v1], h)) (fun hs => ?_)
  refine zg_i_ge zd_198 rfl (fun (hc : ((zf h 92 12) ≤ v1)) => ?_) (fun (hc : ¬ ((zf h 92 12) ≤ v1)) => ?_)
  · have ho := ho.1 hc
    rw [if_pos hc] at hF
    exact hl1 v1 h (some (.int v1)) hs hF
  · have ho := ho.2 hc
    rw [if_neg hc] at hF
    refine zg_blk zd_198 11 hs (rfl : zb x zT0 zc_198 11 (29, [some (.ref 92), some (.int v1)], [], h) = some (48, [some (.ref 92), some (.int v1)], [.int v1, .ref 95, .int ((400 * (zf h 92 15)) + v1), .ref 99], h)) (fun hs => ?_)
    obtain ⟨hob, ho⟩ := ho
    refine zg_ial hs zd_198 rfl rfl hob ?_
    obtain ⟨hob, ho⟩ := ho
    refine zg_ias hs zd_198 rfl rfl hob (fun hs => ?_)
    refine zg_blk zd_198 11 hs (rfl : zb x zT0 zc_198 11 (50, [some (.ref 92), some (.int v1)], [], (zs h 99 ((400 * (zf h 92 15)) + v1) (zr h 95 v1))) = some (69, [some (.ref 92), some (.int v1)], [.int v1, .ref 96, .int ((400 * (zf h 92 15)) + v1), .ref 100], (zs h 99 ((400 * (zf h 92 15)) + v1) (zr h 95 v1)))) (fun hs => ?_)
    obtain ⟨hob, ho⟩ := ho
    refine zg_ial hs zd_198 rfl rfl hob ?_
    have hob := ho
    refine zg_ias hs zd_198 rfl rfl hob (fun hs => ?_)
    refine zg_blk zd_198 2 hs (rfl : zb x zT0 zc_198 2 (71, [some (.ref 92), some (.int v1)], [], (zs (zs h 99 ((400 * (zf h 92 15)) + v1) (zr h 95 v1)) 100 ((400 * (zf h 92 15)) + v1) (zr h 96 v1))) = some (21, [some (.ref 92), some (.int (v1 + 1))], [], (zs (zs h 99 ((400 * (zf h 92 15)) + v1) (zr h 95 v1)) 100 ((400 * (zf h 92 15)) + v1) (zr h 96 v1)))) (fun hs => ?_)
    exact hl0 (v1 + 1) (zs (zs h 99 ((400 * (zf h 92 15)) + v1) (zr h 95 v1)) 100 ((400 * (zf h 92 15)) + v1) (zr h 96 v1)) hs hF
theorem f_M_sheet_l21_t {x : zm_X} {d : Nat} {Q : Option Value → zm_H → Prop} (G : Nat × Int32 × zm_H → Prop) (hx1 : ∀ (v1 : Int32) (h : zm_H) (o1 : Option Value), zSh zT0 h → G (1, v1, h) → zg x (d + 7) 198 77 [some (.ref 92), o1] [] h Q) : ∀ (n : Nat) (v1 : Int32) (h : zm_H), zSh zT0 h → f_M_sheet_l21_ok n (v1, h) → G (f_M_sheet_l21 n (v1, h)) → zg x (d + 7) 198 21 [some (.ref 92), some (.int v1)] [] h Q := by
  intro n
  induction n with
  | zero => intro v1 h hs ho hG; exact ho.elim
  | succ n ih =>
    intro v1 h hs ho hG
    refine f_M_sheet_l21_b_t (FN := fun r => (r.1 = 0 → f_M_sheet_l21_ok n r.2) ∧ G (if r.1 = 0 then f_M_sheet_l21 n r.2 else r)) v1 h hs ho.1 ⟨ho.2, hG⟩ ?_ ?_
    · intro v1 h hs hF
      exact ih v1 h hs (hF.1 rfl) hF.2
    · intro v1 h o1 hs hF
      exact hx1 v1 h o1 hs hF.2

set_option maxRecDepth 100000 in
set_option maxHeartbeats 400000 in
theorem f_M_sheet_l79_b_t {x : zm_X} {d : Nat} (v1 : Int32) (h : zm_H) {Q : Option Value → zm_H → Prop} {FN : Nat × Int32 × zm_H → Prop} (hs : zSh zT0 h) (ho : f_M_sheet_l79_b_ok v1 h) (hF : FN (f_M_sheet_l79_b v1 h)) (hl0 : ∀ (v1 : Int32) (h : zm_H), zSh zT0 h → FN (0, v1, h) → zg x (d + 7) 198 79 [some (.ref 92), some (.int v1)] [] h Q) (hl1 : ∀ (v1 : Int32) (h : zm_H) (o1 : Option Value), zSh zT0 h → FN (1, v1, h) → zg x (d + 7) 198 128 [some (.ref 92), o1] [] h Q) : zg x (d + 7) 198 79 [some (.ref 92), some (.int v1)] [] h Q := by
  unfold f_M_sheet_l79_b at hF
  unfold f_M_sheet_l79_b_ok at ho
  refine zg_blk zd_198 2 hs (rfl : zb x zT0 zc_198 2 (79, [some (.ref 92), some (.int v1)], [], h) = some (81, [some (.ref 92), some (.int v1)], [.int 4, .int v1], h)) (fun hs => ?_)
  refine zg_i_ge zd_198 rfl (fun (hc : (4 ≤ v1)) => ?_) (fun (hc : ¬ (4 ≤ v1)) => ?_)
  · have ho := ho.1 hc
    rw [if_pos hc] at hF
    exact hl1 v1 h (some (.int v1)) hs hF
  · have ho := ho.2 hc
    rw [if_neg hc] at hF
    refine zg_blk zd_198 11 hs (rfl : zb x zT0 zc_198 11 (84, [some (.ref 92), some (.int v1)], [], h) = some (101, [some (.ref 92), some (.int v1)], [.int v1, .ref 97, .int ((4 * (zf h 92 15)) + v1), .ref 101], h)) (fun hs => ?_)
    obtain ⟨hob, ho⟩ := ho
    refine zg_ial hs zd_198 rfl rfl hob ?_
    obtain ⟨hob, ho⟩ := ho
    refine zg_ias hs zd_198 rfl rfl hob (fun hs => ?_)
    refine zg_blk zd_198 11 hs (rfl : zb x zT0 zc_198 11 (103, [some (.ref 92), some (.int v1)], [], (zs h 101 ((4 * (zf h 92 15)) + v1) (zr h 97 v1))) = some (120, [some (.ref 92), some (.int v1)], [.int v1, .ref 98, .int ((4 * (zf h 92 15)) + v1), .ref 102], (zs h 101 ((4 * (zf h 92 15)) + v1) (zr h 97 v1)))) (fun hs => ?_)
    obtain ⟨hob, ho⟩ := ho
    refine zg_ial hs zd_198 rfl rfl hob ?_
    have hob := ho
    refine zg_ias hs zd_198 rfl rfl hob (fun hs => ?_)
    refine zg_blk zd_198 2 hs (rfl : zb x zT0 zc_198 2 (122, [some (.ref 92), some (.int v1)], [], (zs (zs h 101 ((4 * (zf h 92 15)) + v1) (zr h 97 v1)) 102 ((4 * (zf h 92 15)) + v1) (zr h 98 v1))) = some (79, [some (.ref 92), some (.int (v1 + 1))], [], (zs (zs h 101 ((4 * (zf h 92 15)) + v1) (zr h 97 v1)) 102 ((4 * (zf h 92 15)) + v1) (zr h 98 v1)))) (fun hs => ?_)
    exact hl0 (v1 + 1) (zs (zs h 101 ((4 * (zf h 92 15)) + v1) (zr h 97 v1)) 102 ((4 * (zf h 92 15)) + v1) (zr h 98 v1)) hs hF
theorem f_M_sheet_l79_t {x : zm_X} {d : Nat} {Q : Option Value → zm_H → Prop} (G : Nat × Int32 × zm_H → Prop) (hx1 : ∀ (v1 : Int32) (h : zm_H) (o1 : Option Value), zSh zT0 h → G (1, v1, h) → zg x (d + 7) 198 128 [some (.ref 92), o1] [] h Q) : ∀ (n : Nat) (v1 : Int32) (h : zm_H), zSh zT0 h → f_M_sheet_l79_ok n (v1, h) → G (f_M_sheet_l79 n (v1, h)) → zg x (d + 7) 198 79 [some (.ref 92), some (.int v1)] [] h Q := by
  intro n
  induction n with
  | zero => intro v1 h hs ho hG; exact ho.elim
  | succ n ih =>
    intro v1 h hs ho hG
    refine f_M_sheet_l79_b_t (FN := fun r => (r.1 = 0 → f_M_sheet_l79_ok n r.2) ∧ G (if r.1 = 0 then f_M_sheet_l79 n r.2 else r)) v1 h hs ho.1 ⟨ho.2, hG⟩ ?_ ?_
    · intro v1 h hs hF
      exact ih v1 h hs (hF.1 rfl) hF.2
    · intro v1 h o1 hs hF
      exact hx1 v1 h o1 hs hF.2

set_option maxRecDepth 100000 in
set_option maxHeartbeats 400000 in
theorem f_M_sheet_k128_t {x : zm_X} {d : Nat} (h : zm_H) (o1 : Option Value) {Q : Option Value → zm_H → Prop} (hs : zSh zT0 h) (ho : f_M_sheet_k128_ok h) (hF : (zSh zT0 (f_M_sheet_k128 h).2 → Q (some (.int (f_M_sheet_k128 h).1)) (f_M_sheet_k128 h).2)) : zg x (d + 7) 198 128 [some (.ref 92), o1] [] h Q := by
  unfold f_M_sheet_k128 at hF
  unfold f_M_sheet_k128_ok at ho
  refine zg_blk zd_198 13 hs (rfl : zb x zT0 zc_198 13 (128, [some (.ref 92), o1], [], h) = some (149, [some (.ref 92), o1], [.int (((zf h 92 15) + 1) - 1)], (zp (zp h 92 1 0) 92 15 ((zf h 92 15) + 1)))) (fun hs => ?_)
  exact zg_ret zd_198 rfl rfl (hF hs)
set_option maxRecDepth 100000 in
set_option maxHeartbeats 400000 in
theorem f_M_sheet_k77_t {x : zm_X} {d : Nat} (h : zm_H) (o1 : Option Value) {Q : Option Value → zm_H → Prop} (hs : zSh zT0 h) (ho : f_M_sheet_k77_ok h) (hF : (zSh zT0 (f_M_sheet_k77 h).2 → Q (some (.int (f_M_sheet_k77 h).1)) (f_M_sheet_k77 h).2)) : zg x (d + 7) 198 77 [some (.ref 92), o1] [] h Q := by
  unfold f_M_sheet_k77 at hF
  unfold f_M_sheet_k77_ok at ho
  refine zg_blk zd_198 2 hs (rfl : zb x zT0 zc_198 2 (77, [some (.ref 92), o1], [], h) = some (79, [some (.ref 92), some (.int 0)], [], h)) (fun hs => ?_)
  refine f_M_sheet_l79_t  (fun r => f_M_sheet_a79_ok r ∧ (zSh zT0 (f_M_sheet_a79 r).2 → Q (some (.int (f_M_sheet_a79 r).1)) (f_M_sheet_a79 r).2)) ?_ zF 0 h hs ho.1 ⟨ho.2, hF⟩
  · intro v1_ h_ o1_ hs hG
    have ho : True := trivial
    have hF : (zSh zT0 ((f_M_sheet_k128 h_)).2 → Q (some (.int ((f_M_sheet_k128 h_)).1)) ((f_M_sheet_k128 h_)).2) := hG.2
    exact f_M_sheet_k128_t h_ (o1_) hs trivial hF
set_option maxRecDepth 100000 in
set_option maxHeartbeats 400000 in
theorem f_M_sheet_k13_t {x : zm_X} {d : Nat} (w0 : Int32) (h : zm_H) (o1 : Option Value) {Q : Option Value → zm_H → Prop} (hs : zSh zT0 h) (ho : f_M_sheet_k13_ok w0 h) (hF : (zSh zT0 (f_M_sheet_k13 w0 h).2 → Q (some (.int (f_M_sheet_k13 w0 h).1)) (f_M_sheet_k13 w0 h).2)) : zg x (d + 7) 198 13 [some (.ref 92), o1] [.int w0] h Q := by
  unfold f_M_sheet_k13 at hF
  unfold f_M_sheet_k13_ok at ho
  refine zg_blk zd_198 1 hs (rfl : zb x zT0 zc_198 1 (13, [some (.ref 92), o1], [.int w0], h) = some (14, [some (.ref 92), o1], [.int (-1), .int w0], h)) (fun hs => ?_)
  refine zg_i_eq zd_198 rfl (fun (hc : (w0 = (-1))) => ?_) (fun (hc : ¬ (w0 = (-1))) => ?_)
  · have ho := ho.1 hc
    rw [if_pos hc] at hF
    refine zg_blk zd_198 2 hs (rfl : zb x zT0 zc_198 2 (19, [some (.ref 92), o1], [], h) = some (21, [some (.ref 92), some (.int 0)], [], h)) (fun hs => ?_)
    refine f_M_sheet_l21_t  (fun r => f_M_sheet_a21_ok r ∧ (zSh zT0 (f_M_sheet_a21 r).2 → Q (some (.int (f_M_sheet_a21 r).1)) (f_M_sheet_a21 r).2)) ?_ zF 0 h hs ho.1 ⟨ho.2, hF⟩
    · intro v1_ h_ o1_ hs hG
      have ho : (f_M_sheet_k77_ok h_) := hG.1
      have hF : (zSh zT0 ((f_M_sheet_k77 h_)).2 → Q (some (.int ((f_M_sheet_k77 h_)).1)) ((f_M_sheet_k77 h_)).2) := hG.2
      exact f_M_sheet_k77_t h_ (o1_) hs ho hF
  · have ho := ho.2 hc
    rw [if_neg hc] at hF
    refine zg_blk zd_198 1 hs (rfl : zb x zT0 zc_198 1 (17, [some (.ref 92), o1], [], h) = some (18, [some (.ref 92), o1], [.int (-1)], h)) (fun hs => ?_)
    exact zg_ret zd_198 rfl rfl (hF hs)
