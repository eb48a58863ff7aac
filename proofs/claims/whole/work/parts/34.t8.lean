/-! ===== the code does what its functions say, 8 ===== -/
theorem zd_253 : zm_cd 253 = zc_253 := by rfl
set_option maxRecDepth 100000 in
set_option maxHeartbeats 400000 in
theorem f_M_valueIn_l8_k75_t {x : zm_X} {d : Nat} (v1 : Int32) (v2 : Int32) (v3 : Int32) (v4 : Int32) (v5 : Int32) (h : zm_H) {Q : Option Value → zm_H → Prop} {FN : Nat × Int32 × Int32 × Int32 → Prop} (hs : zSh zT0 h) (ho : f_M_valueIn_l8_k75_ok v1 v2 v3 v4 v5 h) (hF : FN (f_M_valueIn_l8_k75 v1 v2 v3 v4 v5 h)) (hl0 : ∀ (v3 : Int32) (v4 : Int32) (v5 : Int32), zSh zT0 h → FN (0, v3, v4, v5) → zg x (d + 1) 253 8 [some (.ref 92), some (.int v1), some (.int v2), some (.int v3), some (.int v4), some (.int v5)] [] h Q) (hl1 : ∀ (v3 : Int32) (v4 : Int32) (v5 : Int32) (o3 : Option Value) (o4 : Option Value) (o5 : Option Value), zSh zT0 h → FN (1, v3, v4, v5) → zg x (d + 1) 253 51 [some (.ref 92), some (.int v1), some (.int v2), o3, o4, o5] [] h Q) (hl2 : ∀ (v3 : Int32) (v4 : Int32) (v5 : Int32) (o5 : Option Value), zSh zT0 h → FN (2, v3, v4, v5) → zg x (d + 1) 253 81 [some (.ref 92), some (.int v1), some (.int v2), some (.int v3), some (.int v4), o5] [] h Q) : zg x (d + 1) 253 75 [some (.ref 92), some (.int v1), some (.int v2), some (.int v3), some (.int v4), some (.int v5)] [] h Q := by
  unfold f_M_valueIn_l8_k75 at hF
  unfold f_M_valueIn_l8_k75_ok at ho
  refine zg_blk zd_253 2 hs (rfl : zb x zT0 zc_253 2 (75, [some (.ref 92), some (.int v1), some (.int v2), some (.int v3), some (.int v4), some (.int v5)], [], h) = some (8, [some (.ref 92), some (.int v1), some (.int v2), some (.int v3), some (.int v4), some (.int (v5 + 1))], [], h)) (fun hs => ?_)
  exact hl0 v3 v4 (v5 + 1) hs hF
set_option maxRecDepth 100000 in
set_option maxHeartbeats 400000 in
theorem f_M_valueIn_l8_k53_t {x : zm_X} {d : Nat} (v1 : Int32) (v2 : Int32) (v3 : Int32) (v4 : Int32) (v5 : Int32) (h : zm_H) {Q : Option Value → zm_H → Prop} {FN : Nat × Int32 × Int32 × Int32 → Prop} (hs : zSh zT0 h) (ho : f_M_valueIn_l8_k53_ok v1 v2 v3 v4 v5 h) (hF : FN (f_M_valueIn_l8_k53 v1 v2 v3 v4 v5 h)) (hl0 : ∀ (v3 : Int32) (v4 : Int32) (v5 : Int32), zSh zT0 h → FN (0, v3, v4, v5) → zg x (d + 1) 253 8 [some (.ref 92), some (.int v1), some (.int v2), some (.int v3), some (.int v4), some (.int v5)] [] h Q) (hl1 : ∀ (v3 : Int32) (v4 : Int32) (v5 : Int32) (o3 : Option Value) (o4 : Option Value) (o5 : Option Value), zSh zT0 h → FN (1, v3, v4, v5) → zg x (d + 1) 253 51 [some (.ref 92), some (.int v1), some (.int v2), o3, o4, o5] [] h Q) (hl2 : ∀ (v3 : Int32) (v4 : Int32) (v5 : Int32) (o5 : Option Value), zSh zT0 h → FN (2, v3, v4, v5) → zg x (d + 1) 253 81 [some (.ref 92), some (.int v1), some (.int v2), some (.int v3), some (.int v4), o5] [] h Q) : zg x (d + 1) 253 53 [some (.ref 92), some (.int v1), some (.int v2), some (.int v3), some (.int v4), some (.int v5)] [] h Q := by
  unfold f_M_valueIn_l8_k53 at hF
  unfold f_M_valueIn_l8_k53_ok at ho
  refine zg_blk zd_253 4 hs (rfl : zb x zT0 zc_253 4 (53, [some (.ref 92), some (.int v1), some (.int v2), some (.int v3), some (.int v4), some (.int v5)], [], h) = some (60, [some (.ref 92), some (.int v1), some (.int v2), some (.int v3), some (.int v4), some (.int v5)], [.int v5, .ref 146, .int v3], h)) (fun hs => ?_)
  obtain ⟨hob, ho⟩ := ho
  refine zg_ial hs zd_253 rfl rfl hob ?_
  refine zg_blk zd_253 6 hs (rfl : zb x zT0 zc_253 6 (61, [some (.ref 92), some (.int v1), some (.int v2), some (.int v3), some (.int v4), some (.int v5)], [.int (zr h 146 v5), .int v3], h) = some (71, [some (.ref 92), some (.int v1), some (.int v2), some (.int (v3 + (zr h 146 v5))), some (.int v4), some (.int v5)], [.int v5, .ref 147, .int v4], h)) (fun hs => ?_)
  have hob := ho
  refine zg_ial hs zd_253 rfl rfl hob ?_
  refine zg_blk zd_253 2 hs (rfl : zb x zT0 zc_253 2 (72, [some (.ref 92), some (.int v1), some (.int v2), some (.int (v3 + (zr h 146 v5))), some (.int v4), some (.int v5)], [.int (zr h 147 v5), .int v4], h) = some (75, [some (.ref 92), some (.int v1), some (.int v2), some (.int (v3 + (zr h 146 v5))), some (.int (v4 + (zr h 147 v5))), some (.int v5)], [], h)) (fun hs => ?_)
  exact f_M_valueIn_l8_k75_t v1 v2 (v3 + (zr h 146 v5)) (v4 + (zr h 147 v5)) v5 h hs trivial hF hl0 hl1 hl2
set_option maxRecDepth 100000 in
set_option maxHeartbeats 400000 in
theorem f_M_valueIn_l8_b_t {x : zm_X} {d : Nat} (v1 : Int32) (v2 : Int32) (v3 : Int32) (v4 : Int32) (v5 : Int32) (h : zm_H) {Q : Option Value → zm_H → Prop} {FN : Nat × Int32 × Int32 × Int32 → Prop} (hs : zSh zT0 h) (ho : f_M_valueIn_l8_b_ok v1 v2 v3 v4 v5 h) (hF : FN (f_M_valueIn_l8_b v1 v2 v3 v4 v5 h)) (hl0 : ∀ (v3 : Int32) (v4 : Int32) (v5 : Int32), zSh zT0 h → FN (0, v3, v4, v5) → zg x (d + 1) 253 8 [some (.ref 92), some (.int v1), some (.int v2), some (.int v3), some (.int v4), some (.int v5)] [] h Q) (hl1 : ∀ (v3 : Int32) (v4 : Int32) (v5 : Int32) (o3 : Option Value) (o4 : Option Value) (o5 : Option Value), zSh zT0 h → FN (1, v3, v4, v5) → zg x (d + 1) 253 51 [some (.ref 92), some (.int v1), some (.int v2), o3, o4, o5] [] h Q) (hl2 : ∀ (v3 : Int32) (v4 : Int32) (v5 : Int32) (o5 : Option Value), zSh zT0 h → FN (2, v3, v4, v5) → zg x (d + 1) 253 81 [some (.ref 92), some (.int v1), some (.int v2), some (.int v3), some (.int v4), o5] [] h Q) : zg x (d + 1) 253 8 [some (.ref 92), some (.int v1), some (.int v2), some (.int v3), some (.int v4), some (.int v5)] [] h Q := by
  unfold f_M_valueIn_l8_b at hF
  unfold f_M_valueIn_l8_b_ok at ho
  refine zg_blk zd_253 3 hs (rfl : zb x zT0 zc_253 3 (8, [some (.ref 92), some (.int v1), some (.int v2), some (.int v3), some (.int v4), some (.int v5)], [], h) = some (14, [some (.ref 92), some (.int v1), some (.int v2), some (.int v3), some (.int v4), some (.int v5)], [.int (zf h 92 72), .int v5], h)) (fun hs => ?_)
  refine zg_i_ge zd_253 rfl (fun (hc : ((zf h 92 72) ≤ v5)) => ?_) (fun (hc : ¬ ((zf h 92 72) ≤ v5)) => ?_)
  · have ho := ho.1 hc
    rw [if_pos hc] at hF
    exact hl2 v3 v4 v5 (some (.int v5)) hs hF
  · have ho := ho.2 hc
    rw [if_neg hc] at hF
    refine zg_blk zd_253 5 hs (rfl : zb x zT0 zc_253 5 (17, [some (.ref 92), some (.int v1), some (.int v2), some (.int v3), some (.int v4), some (.int v5)], [], h) = some (23, [some (.ref 92), some (.int v1), some (.int v2), some (.int v3), some (.int v4), some (.int v5)], [.int ((v1 >>> (v5 &&& 31)) &&& 1)], h)) (fun hs => ?_)
    refine zg_f_ne zd_253 rfl (fun (hc : ¬ (((v1 >>> (v5 &&& 31)) &&& 1) = 0)) => ?_) (fun (hc : (((v1 >>> (v5 &&& 31)) &&& 1) = 0)) => ?_)
    · have ho := ho.2 hc
      rw [if_neg hc] at hF
      refine zg_blk zd_253 3 hs (rfl : zb x zT0 zc_253 3 (29, [some (.ref 92), some (.int v1), some (.int v2), some (.int v3), some (.int v4), some (.int v5)], [], h) = some (35, [some (.ref 92), some (.int v1), some (.int v2), some (.int v3), some (.int v4), some (.int v5)], [.int v5, .ref 156], h)) (fun hs => ?_)
      obtain ⟨hob, ho⟩ := ho
      refine zg_ial hs zd_253 rfl rfl hob ?_
      refine zg_blk zd_253 1 hs (rfl : zb x zT0 zc_253 1 (36, [some (.ref 92), some (.int v1), some (.int v2), some (.int v3), some (.int v4), some (.int v5)], [.int (zr h 156 v5)], h) = some (37, [some (.ref 92), some (.int v1), some (.int v2), some (.int v3), some (.int v4), some (.int v5)], [.int (-1), .int (zr h 156 v5)], h)) (fun hs => ?_)
      refine zg_i_eq zd_253 rfl (fun (hc : ((zr h 156 v5) = (-1))) => ?_) (fun (hc : ¬ ((zr h 156 v5) = (-1))) => ?_)
      · have ho := ho.1 hc
        rw [if_pos hc] at hF
        exact f_M_valueIn_l8_k53_t v1 v2 v3 v4 v5 h hs ho hF hl0 hl1 hl2
      · have ho := ho.2 hc
        rw [if_neg hc] at hF
        refine zg_blk zd_253 3 hs (rfl : zb x zT0 zc_253 3 (40, [some (.ref 92), some (.int v1), some (.int v2), some (.int v3), some (.int v4), some (.int v5)], [], h) = some (46, [some (.ref 92), some (.int v1), some (.int v2), some (.int v3), some (.int v4), some (.int v5)], [.int v5, .ref 156], h)) (fun hs => ?_)
        obtain ⟨hob, ho⟩ := ho
        refine zg_ial hs zd_253 rfl rfl hob ?_
        refine zg_blk zd_253 1 hs (rfl : zb x zT0 zc_253 1 (47, [some (.ref 92), some (.int v1), some (.int v2), some (.int v3), some (.int v4), some (.int v5)], [.int (zr h 156 v5)], h) = some (48, [some (.ref 92), some (.int v1), some (.int v2), some (.int v3), some (.int v4), some (.int v5)], [.int v2, .int (zr h 156 v5)], h)) (fun hs => ?_)
        refine zg_i_eq zd_253 rfl (fun (hc : ((zr h 156 v5) = v2)) => ?_) (fun (hc : ¬ ((zr h 156 v5) = v2)) => ?_)
        · have ho := ho.1 hc
          rw [if_pos hc] at hF
          exact f_M_valueIn_l8_k53_t v1 v2 v3 v4 v5 h hs ho hF hl0 hl1 hl2
        · have ho := ho.2 hc
          rw [if_neg hc] at hF
          exact hl1 v3 v4 v5 (some (.int v3)) (some (.int v4)) (some (.int v5)) hs hF
    · have ho := ho.1 hc
      rw [if_pos hc] at hF
      refine zg_blk zd_253 1 hs (rfl : zb x zT0 zc_253 1 (26, [some (.ref 92), some (.int v1), some (.int v2), some (.int v3), some (.int v4), some (.int v5)], [], h) = some (75, [some (.ref 92), some (.int v1), some (.int v2), some (.int v3), some (.int v4), some (.int v5)], [], h)) (fun hs => ?_)
      exact f_M_valueIn_l8_k75_t v1 v2 v3 v4 v5 h hs trivial hF hl0 hl1 hl2
theorem f_M_valueIn_l8_t {x : zm_X} {d : Nat} (v1 : Int32) (v2 : Int32) (h : zm_H) {Q : Option Value → zm_H → Prop} (G : Nat × Int32 × Int32 × Int32 → Prop) (hx1 : ∀ (v3 : Int32) (v4 : Int32) (v5 : Int32) (o3 : Option Value) (o4 : Option Value) (o5 : Option Value), zSh zT0 h → G (1, v3, v4, v5) → zg x (d + 1) 253 51 [some (.ref 92), some (.int v1), some (.int v2), o3, o4, o5] [] h Q) (hx2 : ∀ (v3 : Int32) (v4 : Int32) (v5 : Int32) (o5 : Option Value), zSh zT0 h → G (2, v3, v4, v5) → zg x (d + 1) 253 81 [some (.ref 92), some (.int v1), some (.int v2), some (.int v3), some (.int v4), o5] [] h Q) : ∀ (n : Nat) (v3 : Int32) (v4 : Int32) (v5 : Int32), zSh zT0 h → f_M_valueIn_l8_ok v1 v2 h n (v3, v4, v5) → G (f_M_valueIn_l8 v1 v2 h n (v3, v4, v5)) → zg x (d + 1) 253 8 [some (.ref 92), some (.int v1), some (.int v2), some (.int v3), some (.int v4), some (.int v5)] [] h Q := by
  intro n
  induction n with
  | zero => intro v3 v4 v5 hs ho hG; exact ho.elim
  | succ n ih =>
    intro v3 v4 v5 hs ho hG
    refine f_M_valueIn_l8_b_t (FN := fun r => (r.1 = 0 → f_M_valueIn_l8_ok v1 v2 h n r.2) ∧ G (if r.1 = 0 then f_M_valueIn_l8 v1 v2 h n r.2 else r)) v1 v2 v3 v4 v5 h hs ho.1 ⟨ho.2, hG⟩ ?_ ?_ ?_
    · intro v3 v4 v5 hs hF
      exact ih v3 v4 v5 hs (hF.1 rfl) hF.2
    · intro v3 v4 v5 o3 o4 o5 hs hF
      exact hx1 v3 v4 v5 o3 o4 o5 hs hF.2
    · intro v3 v4 v5 o5 hs hF
      exact hx2 v3 v4 v5 o5 hs hF.2

set_option maxRecDepth 100000 in
set_option maxHeartbeats 400000 in
theorem f_M_valueIn_k51_t {x : zm_X} {d : Nat} (h : zm_H) (o0 : Option Value) (o1 : Option Value) (z2 : Int32) (o3 : Option Value) (o4 : Option Value) (o5 : Option Value) {Q : Option Value → zm_H → Prop} (hs : zSh zT0 h) (ho : f_M_valueIn_k51_ok h) (hF : Q (some (.int (f_M_valueIn_k51 h))) h) : zg x (d + 1) 253 51 [o0, o1, some (.int z2), o3, o4, o5] [] h Q := by
  unfold f_M_valueIn_k51 at hF
  unfold f_M_valueIn_k51_ok at ho
  refine zg_blk zd_253 1 hs (rfl : zb x zT0 zc_253 1 (51, [o0, o1, some (.int z2), o3, o4, o5], [], h) = some (52, [o0, o1, some (.int z2), o3, o4, o5], [.int 0], h)) (fun hs => ?_)
  exact zg_ret zd_253 rfl rfl hF
set_option maxRecDepth 100000 in
set_option maxHeartbeats 400000 in
theorem f_M_valueIn_k81_t {x : zm_X} {d : Nat} (v2 : Int32) (v3 : Int32) (v4 : Int32) (h : zm_H) (o1 : Option Value) (o5 : Option Value) {Q : Option Value → zm_H → Prop} (hs : zSh zT0 h) (ho : f_M_valueIn_k81_ok v2 v3 v4 h) (hF : Q (some (.int (f_M_valueIn_k81 v2 v3 v4 h))) h) : zg x (d + 1) 253 81 [some (.ref 92), o1, some (.int v2), some (.int v3), some (.int v4), o5] [] h Q := by
  unfold f_M_valueIn_k81 at hF
  unfold f_M_valueIn_k81_ok at ho
  refine zg_blk zd_253 4 hs (rfl : zb x zT0 zc_253 4 (81, [some (.ref 92), o1, some (.int v2), some (.int v3), some (.int v4), o5], [], h) = some (87, [some (.ref 92), o1, some (.int v2), some (.int v3), some (.int v4), o5], [.int v2, .ref 155, .int v3], h)) (fun hs => ?_)
  have hob := ho
  refine zg_ial hs zd_253 rfl rfl hob ?_
  have K162 : zSh zT0 h → zg x (d + 1) 253 103 [some (.ref 92), o1, some (.int v2), some (.int v3), some (.int v4), o5] [.int (if (v3 ≤ (zr h 155 v2)) then (((1000 * v4) - v3) : Int32) else 0)] h Q := fun hs => by
    exact zg_ret zd_253 rfl rfl hF
  refine zg_i_le zd_253 rfl (fun (hc : (v3 ≤ (zr h 155 v2))) => ?_) (fun (hc : ¬ (v3 ≤ (zr h 155 v2))) => ?_)
  · skip
    rw [show ((if (v3 ≤ (zr h 155 v2)) then (((1000 * v4) - v3) : Int32) else 0) : Int32) = ((1000 * v4) - v3) from if_pos hc] at K162
    refine zg_blk zd_253 5 hs (rfl : zb x zT0 zc_253 5 (95, [some (.ref 92), o1, some (.int v2), some (.int v3), some (.int v4), o5], [], h) = some (103, [some (.ref 92), o1, some (.int v2), some (.int v3), some (.int v4), o5], [.int ((1000 * v4) - v3)], h)) (fun hs => ?_)
    exact K162 hs
  · skip
    rw [show ((if (v3 ≤ (zr h 155 v2)) then (((1000 * v4) - v3) : Int32) else 0) : Int32) = 0 from if_neg hc] at K162
    refine zg_blk zd_253 2 hs (rfl : zb x zT0 zc_253 2 (91, [some (.ref 92), o1, some (.int v2), some (.int v3), some (.int v4), o5], [], h) = some (103, [some (.ref 92), o1, some (.int v2), some (.int v3), some (.int v4), o5], [.int 0], h)) (fun hs => ?_)
    exact K162 hs
set_option maxRecDepth 100000 in
set_option maxHeartbeats 400000 in
theorem f_M_valueIn_t {x : zm_X} {d : Nat} (p1 : Int32) (p2 : Int32) (h : zm_H) {Q : Option Value → zm_H → Prop} (hs : zSh zT0 h) (ho : f_M_valueIn_ok p1 p2 h) (hF : Q (some (.int (f_M_valueIn p1 p2 h))) h) : zg x (d + 1) 253 0 [some (.ref 92), some (.int p1), some (.int p2), none, none, none] [] h Q := by
  unfold f_M_valueIn at hF
  unfold f_M_valueIn_ok at ho
  refine zg_blk zd_253 6 hs (rfl : zb x zT0 zc_253 6 (0, [some (.ref 92), some (.int p1), some (.int p2), none, none, none], [], h) = some (8, [some (.ref 92), some (.int p1), some (.int p2), some (.int 0), some (.int 0), some (.int 0)], [], h)) (fun hs => ?_)
  refine f_M_valueIn_l8_t p1 p2 h (fun r => f_M_valueIn_a8_ok p2 r h ∧ Q (some (.int (f_M_valueIn_a8 p2 r h))) h) ?_ ?_ zF 0 0 0 hs ho.1 ⟨ho.2, hF⟩
  · intro v3_ v4_ v5_ o3_ o4_ o5_ hs hG
    have ho : True := trivial
    have hF : Q (some (.int ((f_M_valueIn_k51 h)))) h := hG.2
    exact f_M_valueIn_k51_t h (some (.ref 92)) (some (.int p1)) p2 (o3_) (o4_) (o5_) hs trivial hF
  · intro v3_ v4_ v5_ o5_ hs hG
    have ho : (f_M_valueIn_k81_ok p2 v3_ v4_ h) := (hG.1).2 (show ¬ (2 : Nat) = 1 by decide)
    have hF : Q (some (.int ((f_M_valueIn_k81 p2 v3_ v4_ h)))) h := hG.2
    exact f_M_valueIn_k81_t p2 v3_ v4_ h (some (.int p1)) (o5_) hs ho hF
set_option maxRecDepth 100000 in
set_option maxHeartbeats 400000 in
theorem f_M_bestOf_l37_l74_l96_b_t {x : zm_X} {d : Nat} (v1 : Int32) (v2 : Int32) (v3 : Int32) (v4 : Int32) (v5 : Int32) (h : zm_H) (o6 : Option Value) {Q : Option Value → zm_H → Prop} {FN : Nat × Int32 × zm_H → Prop} (hs : zSh zT0 h) (ho : f_M_bestOf_l37_l74_l96_b_ok v1 v2 v3 v4 v5 h) (hF : FN (f_M_bestOf_l37_l74_l96_b v1 v2 v3 v4 v5 h)) (hl0 : ∀ (v5 : Int32) (h : zm_H) (o6 : Option Value), zSh zT0 h → FN (0, v5, h) → zg x (d + 2) 252 96 [some (.ref 92), some (.int v1), some (.int v2), some (.int v3), some (.int v4), some (.int v5), o6] [] h Q) (hl1 : ∀ (v5 : Int32) (h : zm_H) (o5 : Option Value) (o6 : Option Value), zSh zT0 h → FN (1, v5, h) → zg x (d + 2) 252 173 [some (.ref 92), some (.int v1), some (.int v2), some (.int v3), some (.int v4), o5, o6] [] h Q) : zg x (d + 2) 252 96 [some (.ref 92), some (.int v1), some (.int v2), some (.int v3), some (.int v4), some (.int v5), o6] [] h Q := by
  unfold f_M_bestOf_l37_l74_l96_b at hF
  unfold f_M_bestOf_l37_l74_l96_b_ok at ho
  refine zg_blk zd_252 2 hs (rfl : zb x zT0 zc_252 2 (96, [some (.ref 92), some (.int v1), some (.int v2), some (.int v3), some (.int v4), some (.int v5), o6], [], h) = some (99, [some (.ref 92), some (.int v1), some (.int v2), some (.int v3), some (.int v4), some (.int v5), o6], [.int v2, .int v5], h)) (fun hs => ?_)
  refine zg_i_ge zd_252 rfl (fun (hc : (v2 ≤ v5)) => ?_) (fun (hc : ¬ (v2 ≤ v5)) => ?_)
  · have ho := ho.1 hc
    rw [if_pos hc] at hF
    exact hl1 v5 h (some (.int v5)) (o6) hs hF
  · have ho := ho.2 hc
    rw [if_neg hc] at hF
    refine zg_blk zd_252 3 hs (rfl : zb x zT0 zc_252 3 (102, [some (.ref 92), some (.int v1), some (.int v2), some (.int v3), some (.int v4), some (.int v5), o6], [], h) = some (107, [some (.ref 92), some (.int v1), some (.int v2), some (.int v3), some (.int v4), some (.int v5), o6], [.int (v5 &&& v4)], h)) (fun hs => ?_)
    have hom := ho
    have K164 : ∀ (o163 : Option Value) (_ : zSh zT0 (if ((v5 &&& v4) = 0) then (if ((f_M_valueIn v5 v3 h) ≤ 0) then h else (if (((zr h 157 v4) + (f_M_valueIn v5 v3 h)) ≤ (zr h 158 (v4 ||| v5))) then h else (zs h 158 (v4 ||| v5) ((zr h 157 v4) + (f_M_valueIn v5 v3 h))))) else h)), zg x (d + 2) 252 167 [some (.ref 92), some (.int v1), some (.int v2), some (.int v3), some (.int v4), some (.int v5), o163] [] (if ((v5 &&& v4) = 0) then (if ((f_M_valueIn v5 v3 h) ≤ 0) then h else (if (((zr h 157 v4) + (f_M_valueIn v5 v3 h)) ≤ (zr h 158 (v4 ||| v5))) then h else (zs h 158 (v4 ||| v5) ((zr h 157 v4) + (f_M_valueIn v5 v3 h))))) else h) Q := fun o163 hs => by
      refine zg_blk zd_252 2 hs (rfl : zb x zT0 zc_252 2 (167, [some (.ref 92), some (.int v1), some (.int v2), some (.int v3), some (.int v4), some (.int v5), o163], [], (if ((v5 &&& v4) = 0) then (if ((f_M_valueIn v5 v3 h) ≤ 0) then h else (if (((zr h 157 v4) + (f_M_valueIn v5 v3 h)) ≤ (zr h 158 (v4 ||| v5))) then h else (zs h 158 (v4 ||| v5) ((zr h 157 v4) + (f_M_valueIn v5 v3 h))))) else h)) = some (96, [some (.ref 92), some (.int v1), some (.int v2), some (.int v3), some (.int v4), some (.int (v5 + 1)), o163], [], (if ((v5 &&& v4) = 0) then (if ((f_M_valueIn v5 v3 h) ≤ 0) then h else (if (((zr h 157 v4) + (f_M_valueIn v5 v3 h)) ≤ (zr h 158 (v4 ||| v5))) then h else (zs h 158 (v4 ||| v5) ((zr h 157 v4) + (f_M_valueIn v5 v3 h))))) else h))) (fun hs => ?_)
      exact hl0 (v5 + 1) (if ((v5 &&& v4) = 0) then (if ((f_M_valueIn v5 v3 h) ≤ 0) then h else (if (((zr h 157 v4) + (f_M_valueIn v5 v3 h)) ≤ (zr h 158 (v4 ||| v5))) then h else (zs h 158 (v4 ||| v5) ((zr h 157 v4) + (f_M_valueIn v5 v3 h))))) else h) (o163) hs hF
    refine zg_f_eq zd_252 rfl (fun (hc : ((v5 &&& v4) = 0)) => ?_) (fun (hc : ¬ ((v5 &&& v4) = 0)) => ?_)
    · have ho := hom.1 hc
      rw [show (if ((v5 &&& v4) = 0) then (if ((f_M_valueIn v5 v3 h) ≤ 0) then h else (if (((zr h 157 v4) + (f_M_valueIn v5 v3 h)) ≤ (zr h 158 (v4 ||| v5))) then h else (zs h 158 (v4 ||| v5) ((zr h 157 v4) + (f_M_valueIn v5 v3 h))))) else h) = (if ((f_M_valueIn v5 v3 h) ≤ 0) then h else (if (((zr h 157 v4) + (f_M_valueIn v5 v3 h)) ≤ (zr h 158 (v4 ||| v5))) then h else (zs h 158 (v4 ||| v5) ((zr h 157 v4) + (f_M_valueIn v5 v3 h))))) from if_pos hc] at K164
      refine zg_blk zd_252 3 hs (rfl : zb x zT0 zc_252 3 (113, [some (.ref 92), some (.int v1), some (.int v2), some (.int v3), some (.int v4), some (.int v5), o6], [], h) = some (119, [some (.ref 92), some (.int v1), some (.int v2), some (.int v3), some (.int v4), some (.int v5), o6], [.int v4, .ref 157], h)) (fun hs => ?_)
      obtain ⟨hob, ho⟩ := ho
      refine zg_ial hs zd_252 rfl rfl hob ?_
      refine zg_blk zd_252 3 hs (rfl : zb x zT0 zc_252 3 (120, [some (.ref 92), some (.int v1), some (.int v2), some (.int v3), some (.int v4), some (.int v5), o6], [.int (zr h 157 v4)], h) = some (124, [some (.ref 92), some (.int v1), some (.int v2), some (.int v3), some (.int v4), some (.int v5), o6], [.int v3, .int v5, .ref 92, .int (zr h 157 v4)], h)) (fun hs => ?_)
      obtain ⟨hob, ho⟩ := ho
      refine zg_call hs zd_252 rfl rfl rfl rfl (as := [.ref 92, .int v5, .int v3]) (rest := [.int (zr h 157 v4)]) (en := [some (.ref 92), some (.int v5), some (.int v3), none, none, none]) rfl rfl rfl rfl rfl ?_
      refine f_M_valueIn_t v5 v3 h hs hob ?_
      show zg x (d + 2) 252 127 [some (.ref 92), some (.int v1), some (.int v2), some (.int v3), some (.int v4), some (.int v5), o6] [.int (f_M_valueIn v5 v3 h), .int (zr h 157 v4)] h Q
      refine zg_blk zd_252 5 hs (rfl : zb x zT0 zc_252 5 (127, [some (.ref 92), some (.int v1), some (.int v2), some (.int v3), some (.int v4), some (.int v5), o6], [.int (f_M_valueIn v5 v3 h), .int (zr h 157 v4)], h) = some (134, [some (.ref 92), some (.int v1), some (.int v2), some (.int v3), some (.int v4), some (.int v5), some (.int ((zr h 157 v4) + (f_M_valueIn v5 v3 h)))], [.int v3, .int v5, .ref 92], h)) (fun hs => ?_)
      obtain ⟨hob, ho⟩ := ho
      refine zg_call hs zd_252 rfl rfl rfl rfl (as := [.ref 92, .int v5, .int v3]) (rest := []) (en := [some (.ref 92), some (.int v5), some (.int v3), none, none, none]) rfl rfl rfl rfl rfl ?_
      refine f_M_valueIn_t v5 v3 h hs hob ?_
      show zg x (d + 2) 252 137 [some (.ref 92), some (.int v1), some (.int v2), some (.int v3), some (.int v4), some (.int v5), some (.int ((zr h 157 v4) + (f_M_valueIn v5 v3 h)))] [.int (f_M_valueIn v5 v3 h)] h Q
      refine zg_f_le zd_252 rfl (fun (hc : ((f_M_valueIn v5 v3 h) ≤ 0)) => ?_) (fun (hc : ¬ ((f_M_valueIn v5 v3 h) ≤ 0)) => ?_)
      · have ho := ho.1 hc
        rw [show (if ((f_M_valueIn v5 v3 h) ≤ 0) then h else (if (((zr h 157 v4) + (f_M_valueIn v5 v3 h)) ≤ (zr h 158 (v4 ||| v5))) then h else (zs h 158 (v4 ||| v5) ((zr h 157 v4) + (f_M_valueIn v5 v3 h))))) = h from if_pos hc] at K164
        exact K164 (some (.int ((zr h 157 v4) + (f_M_valueIn v5 v3 h)))) hs
      · have ho := ho.2 hc
        rw [show (if ((f_M_valueIn v5 v3 h) ≤ 0) then h else (if (((zr h 157 v4) + (f_M_valueIn v5 v3 h)) ≤ (zr h 158 (v4 ||| v5))) then h else (zs h 158 (v4 ||| v5) ((zr h 157 v4) + (f_M_valueIn v5 v3 h))))) = (if (((zr h 157 v4) + (f_M_valueIn v5 v3 h)) ≤ (zr h 158 (v4 ||| v5))) then h else (zs h 158 (v4 ||| v5) ((zr h 157 v4) + (f_M_valueIn v5 v3 h)))) from if_neg hc] at K164
        refine zg_blk zd_252 6 hs (rfl : zb x zT0 zc_252 6 (140, [some (.ref 92), some (.int v1), some (.int v2), some (.int v3), some (.int v4), some (.int v5), some (.int ((zr h 157 v4) + (f_M_valueIn v5 v3 h)))], [], h) = some (151, [some (.ref 92), some (.int v1), some (.int v2), some (.int v3), some (.int v4), some (.int v5), some (.int ((zr h 157 v4) + (f_M_valueIn v5 v3 h)))], [.int (v4 ||| v5), .ref 158, .int ((zr h 157 v4) + (f_M_valueIn v5 v3 h))], h)) (fun hs => ?_)
        obtain ⟨hob, ho⟩ := ho
        refine zg_ial hs zd_252 rfl rfl hob ?_
        refine zg_i_le zd_252 rfl (fun (hc : (((zr h 157 v4) + (f_M_valueIn v5 v3 h)) ≤ (zr h 158 (v4 ||| v5)))) => ?_) (fun (hc : ¬ (((zr h 157 v4) + (f_M_valueIn v5 v3 h)) ≤ (zr h 158 (v4 ||| v5)))) => ?_)
        · have ho := ho.1 hc
          rw [show (if (((zr h 157 v4) + (f_M_valueIn v5 v3 h)) ≤ (zr h 158 (v4 ||| v5))) then h else (zs h 158 (v4 ||| v5) ((zr h 157 v4) + (f_M_valueIn v5 v3 h)))) = h from if_pos hc] at K164
          exact K164 (some (.int ((zr h 157 v4) + (f_M_valueIn v5 v3 h)))) hs
        · have ho := ho.2 hc
          rw [show (if (((zr h 157 v4) + (f_M_valueIn v5 v3 h)) ≤ (zr h 158 (v4 ||| v5))) then h else (zs h 158 (v4 ||| v5) ((zr h 157 v4) + (f_M_valueIn v5 v3 h)))) = (zs h 158 (v4 ||| v5) ((zr h 157 v4) + (f_M_valueIn v5 v3 h))) from if_neg hc] at K164
          refine zg_blk zd_252 6 hs (rfl : zb x zT0 zc_252 6 (155, [some (.ref 92), some (.int v1), some (.int v2), some (.int v3), some (.int v4), some (.int v5), some (.int ((zr h 157 v4) + (f_M_valueIn v5 v3 h)))], [], h) = some (166, [some (.ref 92), some (.int v1), some (.int v2), some (.int v3), some (.int v4), some (.int v5), some (.int ((zr h 157 v4) + (f_M_valueIn v5 v3 h)))], [.int ((zr h 157 v4) + (f_M_valueIn v5 v3 h)), .int (v4 ||| v5), .ref 158], h)) (fun hs => ?_)
          have hob := ho
          refine zg_ias hs zd_252 rfl rfl hob (fun hs => ?_)
          exact K164 (some (.int ((zr h 157 v4) + (f_M_valueIn v5 v3 h)))) hs
    · have ho := hom.2 hc
      rw [show (if ((v5 &&& v4) = 0) then (if ((f_M_valueIn v5 v3 h) ≤ 0) then h else (if (((zr h 157 v4) + (f_M_valueIn v5 v3 h)) ≤ (zr h 158 (v4 ||| v5))) then h else (zs h 158 (v4 ||| v5) ((zr h 157 v4) + (f_M_valueIn v5 v3 h))))) else h) = h from if_neg hc] at K164
      refine zg_blk zd_252 1 hs (rfl : zb x zT0 zc_252 1 (110, [some (.ref 92), some (.int v1), some (.int v2), some (.int v3), some (.int v4), some (.int v5), o6], [], h) = some (167, [some (.ref 92), some (.int v1), some (.int v2), some (.int v3), some (.int v4), some (.int v5), o6], [], h)) (fun hs => ?_)
      exact K164 (o6) hs
theorem f_M_bestOf_l37_l74_l96_t {x : zm_X} {d : Nat} (v1 : Int32) (v2 : Int32) (v3 : Int32) (v4 : Int32) {Q : Option Value → zm_H → Prop} (G : Nat × Int32 × zm_H → Prop) (hx1 : ∀ (v5 : Int32) (h : zm_H) (o5 : Option Value) (o6 : Option Value), zSh zT0 h → G (1, v5, h) → zg x (d + 2) 252 173 [some (.ref 92), some (.int v1), some (.int v2), some (.int v3), some (.int v4), o5, o6] [] h Q) : ∀ (n : Nat) (v5 : Int32) (h : zm_H) (o6 : Option Value), zSh zT0 h → f_M_bestOf_l37_l74_l96_ok v1 v2 v3 v4 n (v5, h) → G (f_M_bestOf_l37_l74_l96 v1 v2 v3 v4 n (v5, h)) → zg x (d + 2) 252 96 [some (.ref 92), some (.int v1), some (.int v2), some (.int v3), some (.int v4), some (.int v5), o6] [] h Q := by
  intro n
  induction n with
  | zero => intro v5 h o6 hs ho hG; exact ho.elim
  | succ n ih =>
    intro v5 h o6 hs ho hG
    refine f_M_bestOf_l37_l74_l96_b_t (FN := fun r => (r.1 = 0 → f_M_bestOf_l37_l74_l96_ok v1 v2 v3 v4 n r.2) ∧ G (if r.1 = 0 then f_M_bestOf_l37_l74_l96 v1 v2 v3 v4 n r.2 else r)) v1 v2 v3 v4 v5 h o6 hs ho.1 ⟨ho.2, hG⟩ ?_ ?_
    · intro v5 h o6 hs hF
      exact ih v5 h o6 hs (hF.1 rfl) hF.2
    · intro v5 h o5 o6 hs hF
      exact hx1 v5 h o5 o6 hs hF.2

set_option maxRecDepth 100000 in
set_option maxHeartbeats 400000 in
theorem f_M_bestOf_l37_l74_k173_t {x : zm_X} {d : Nat} (v1 : Int32) (v2 : Int32) (v3 : Int32) (v4 : Int32) (h : zm_H) (o5 : Option Value) (o6 : Option Value) {Q : Option Value → zm_H → Prop} {FN : Nat × Int32 × zm_H → Prop} (hs : zSh zT0 h) (ho : f_M_bestOf_l37_l74_k173_ok v1 v2 v3 v4 h) (hF : FN (f_M_bestOf_l37_l74_k173 v1 v2 v3 v4 h)) (hl0 : ∀ (v4 : Int32) (h : zm_H) (o5 : Option Value) (o6 : Option Value), zSh zT0 h → FN (0, v4, h) → zg x (d + 2) 252 74 [some (.ref 92), some (.int v1), some (.int v2), some (.int v3), some (.int v4), o5, o6] [] h Q) (hl1 : ∀ (v4 : Int32) (h : zm_H) (o4 : Option Value) (o5 : Option Value) (o6 : Option Value), zSh zT0 h → FN (1, v4, h) → zg x (d + 2) 252 179 [some (.ref 92), some (.int v1), some (.int v2), some (.int v3), o4, o5, o6] [] h Q) : zg x (d + 2) 252 173 [some (.ref 92), some (.int v1), some (.int v2), some (.int v3), some (.int v4), o5, o6] [] h Q := by
  unfold f_M_bestOf_l37_l74_k173 at hF
  unfold f_M_bestOf_l37_l74_k173_ok at ho
  refine zg_blk zd_252 2 hs (rfl : zb x zT0 zc_252 2 (173, [some (.ref 92), some (.int v1), some (.int v2), some (.int v3), some (.int v4), o5, o6], [], h) = some (74, [some (.ref 92), some (.int v1), some (.int v2), some (.int v3), some (.int (v4 + 1)), o5, o6], [], h)) (fun hs => ?_)
  exact hl0 (v4 + 1) h (o5) (o6) hs hF
set_option maxRecDepth 100000 in
set_option maxHeartbeats 400000 in
theorem f_M_bestOf_l37_l74_b_t {x : zm_X} {d : Nat} (v1 : Int32) (v2 : Int32) (v3 : Int32) (v4 : Int32) (h : zm_H) (o5 : Option Value) (o6 : Option Value) {Q : Option Value → zm_H → Prop} {FN : Nat × Int32 × zm_H → Prop} (hs : zSh zT0 h) (ho : f_M_bestOf_l37_l74_b_ok v1 v2 v3 v4 h) (hF : FN (f_M_bestOf_l37_l74_b v1 v2 v3 v4 h)) (hl0 : ∀ (v4 : Int32) (h : zm_H) (o5 : Option Value) (o6 : Option Value), zSh zT0 h → FN (0, v4, h) → zg x (d + 2) 252 74 [some (.ref 92), some (.int v1), some (.int v2), some (.int v3), some (.int v4), o5, o6] [] h Q) (hl1 : ∀ (v4 : Int32) (h : zm_H) (o4 : Option Value) (o5 : Option Value) (o6 : Option Value), zSh zT0 h → FN (1, v4, h) → zg x (d + 2) 252 179 [some (.ref 92), some (.int v1), some (.int v2), some (.int v3), o4, o5, o6] [] h Q) : zg x (d + 2) 252 74 [some (.ref 92), some (.int v1), some (.int v2), some (.int v3), some (.int v4), o5, o6] [] h Q := by
  unfold f_M_bestOf_l37_l74_b at hF
  unfold f_M_bestOf_l37_l74_b_ok at ho
  refine zg_blk zd_252 2 hs (rfl : zb x zT0 zc_252 2 (74, [some (.ref 92), some (.int v1), some (.int v2), some (.int v3), some (.int v4), o5, o6], [], h) = some (77, [some (.ref 92), some (.int v1), some (.int v2), some (.int v3), some (.int v4), o5, o6], [.int v2, .int v4], h)) (fun hs => ?_)
  refine zg_i_ge zd_252 rfl (fun (hc : (v2 ≤ v4)) => ?_) (fun (hc : ¬ (v2 ≤ v4)) => ?_)
  · have ho := ho.1 hc
    rw [if_pos hc] at hF
    exact hl1 v4 h (some (.int v4)) (o5) (o6) hs hF
  · have ho := ho.2 hc
    rw [if_neg hc] at hF
    refine zg_blk zd_252 3 hs (rfl : zb x zT0 zc_252 3 (80, [some (.ref 92), some (.int v1), some (.int v2), some (.int v3), some (.int v4), o5, o6], [], h) = some (86, [some (.ref 92), some (.int v1), some (.int v2), some (.int v3), some (.int v4), o5, o6], [.int v4, .ref 157], h)) (fun hs => ?_)
    obtain ⟨hob, ho⟩ := ho
    refine zg_ial hs zd_252 rfl rfl hob ?_
    refine zg_f_ge zd_252 rfl (fun (hc : (0 ≤ (zr h 157 v4))) => ?_) (fun (hc : ¬ (0 ≤ (zr h 157 v4))) => ?_)
    · have ho := ho.1 hc
      rw [if_pos hc] at hF
      refine zg_blk zd_252 2 hs (rfl : zb x zT0 zc_252 2 (93, [some (.ref 92), some (.int v1), some (.int v2), some (.int v3), some (.int v4), o5, o6], [], h) = some (96, [some (.ref 92), some (.int v1), some (.int v2), some (.int v3), some (.int v4), some (.int 1), o6], [], h)) (fun hs => ?_)
      refine f_M_bestOf_l37_l74_l96_t v1 v2 v3 v4 (fun r => f_M_bestOf_l37_l74_a96_ok v1 v2 v3 v4 r ∧ FN (f_M_bestOf_l37_l74_a96 v1 v2 v3 v4 r)) ?_ zF 1 h (o6) hs ho.1 ⟨ho.2, hF⟩
      · intro v5_ h_ o5_ o6_ hs hG
        have ho : True := trivial
        have hF : FN ((f_M_bestOf_l37_l74_k173 v1 v2 v3 v4 h_)) := hG.2
        exact f_M_bestOf_l37_l74_k173_t v1 v2 v3 v4 h_ (o5_) (o6_) hs trivial hF hl0 hl1
    · have ho := ho.2 hc
      rw [if_neg hc] at hF
      refine zg_blk zd_252 1 hs (rfl : zb x zT0 zc_252 1 (90, [some (.ref 92), some (.int v1), some (.int v2), some (.int v3), some (.int v4), o5, o6], [], h) = some (173, [some (.ref 92), some (.int v1), some (.int v2), some (.int v3), some (.int v4), o5, o6], [], h)) (fun hs => ?_)
      exact f_M_bestOf_l37_l74_k173_t v1 v2 v3 v4 h (o5) (o6) hs trivial hF hl0 hl1
theorem f_M_bestOf_l37_l74_t {x : zm_X} {d : Nat} (v1 : Int32) (v2 : Int32) (v3 : Int32) {Q : Option Value → zm_H → Prop} (G : Nat × Int32 × zm_H → Prop) (hx1 : ∀ (v4 : Int32) (h : zm_H) (o4 : Option Value) (o5 : Option Value) (o6 : Option Value), zSh zT0 h → G (1, v4, h) → zg x (d + 2) 252 179 [some (.ref 92), some (.int v1), some (.int v2), some (.int v3), o4, o5, o6] [] h Q) : ∀ (n : Nat) (v4 : Int32) (h : zm_H) (o5 : Option Value) (o6 : Option Value), zSh zT0 h → f_M_bestOf_l37_l74_ok v1 v2 v3 n (v4, h) → G (f_M_bestOf_l37_l74 v1 v2 v3 n (v4, h)) → zg x (d + 2) 252 74 [some (.ref 92), some (.int v1), some (.int v2), some (.int v3), some (.int v4), o5, o6] [] h Q := by
  intro n
  induction n with
  | zero => intro v4 h o5 o6 hs ho hG; exact ho.elim
  | succ n ih =>
    intro v4 h o5 o6 hs ho hG
    refine f_M_bestOf_l37_l74_b_t (FN := fun r => (r.1 = 0 → f_M_bestOf_l37_l74_ok v1 v2 v3 n r.2) ∧ G (if r.1 = 0 then f_M_bestOf_l37_l74 v1 v2 v3 n r.2 else r)) v1 v2 v3 v4 h o5 o6 hs ho.1 ⟨ho.2, hG⟩ ?_ ?_
    · intro v4 h o5 o6 hs hF
      exact ih v4 h o5 o6 hs (hF.1 rfl) hF.2
    · intro v4 h o4 o5 o6 hs hF
      exact hx1 v4 h o4 o5 o6 hs hF.2

set_option maxRecDepth 100000 in
set_option maxHeartbeats 400000 in
theorem f_M_bestOf_l37_l182_b_t {x : zm_X} {d : Nat} (v1 : Int32) (v2 : Int32) (v3 : Int32) (v4 : Int32) (h : zm_H) (o5 : Option Value) (o6 : Option Value) {Q : Option Value → zm_H → Prop} {FN : Nat × Int32 × zm_H → Prop} (hs : zSh zT0 h) (ho : f_M_bestOf_l37_l182_b_ok v1 v2 v3 v4 h) (hF : FN (f_M_bestOf_l37_l182_b v1 v2 v3 v4 h)) (hl0 : ∀ (v4 : Int32) (h : zm_H) (o5 : Option Value) (o6 : Option Value), zSh zT0 h → FN (0, v4, h) → zg x (d + 2) 252 182 [some (.ref 92), some (.int v1), some (.int v2), some (.int v3), some (.int v4), o5, o6] [] h Q) (hl1 : ∀ (v4 : Int32) (h : zm_H) (o4 : Option Value) (o5 : Option Value) (o6 : Option Value), zSh zT0 h → FN (1, v4, h) → zg x (d + 2) 252 208 [some (.ref 92), some (.int v1), some (.int v2), some (.int v3), o4, o5, o6] [] h Q) : zg x (d + 2) 252 182 [some (.ref 92), some (.int v1), some (.int v2), some (.int v3), some (.int v4), o5, o6] [] h Q := by
  unfold f_M_bestOf_l37_l182_b at hF
  unfold f_M_bestOf_l37_l182_b_ok at ho
  refine zg_blk zd_252 2 hs (rfl : zb x zT0 zc_252 2 (182, [some (.ref 92), some (.int v1), some (.int v2), some (.int v3), some (.int v4), o5, o6], [], h) = some (185, [some (.ref 92), some (.int v1), some (.int v2), some (.int v3), some (.int v4), o5, o6], [.int v2, .int v4], h)) (fun hs => ?_)
  refine zg_i_ge zd_252 rfl (fun (hc : (v2 ≤ v4)) => ?_) (fun (hc : ¬ (v2 ≤ v4)) => ?_)
  · have ho := ho.1 hc
    rw [if_pos hc] at hF
    exact hl1 v4 h (some (.int v4)) (o5) (o6) hs hF
  · have ho := ho.2 hc
    rw [if_neg hc] at hF
    refine zg_blk zd_252 6 hs (rfl : zb x zT0 zc_252 6 (188, [some (.ref 92), some (.int v1), some (.int v2), some (.int v3), some (.int v4), o5, o6], [], h) = some (200, [some (.ref 92), some (.int v1), some (.int v2), some (.int v3), some (.int v4), o5, o6], [.int v4, .ref 158, .int v4, .ref 157], h)) (fun hs => ?_)
    obtain ⟨hob, ho⟩ := ho
    refine zg_ial hs zd_252 rfl rfl hob ?_
    have hob := ho
    refine zg_ias hs zd_252 rfl rfl hob (fun hs => ?_)
    refine zg_blk zd_252 2 hs (rfl : zb x zT0 zc_252 2 (202, [some (.ref 92), some (.int v1), some (.int v2), some (.int v3), some (.int v4), o5, o6], [], (zs h 157 v4 (zr h 158 v4))) = some (182, [some (.ref 92), some (.int v1), some (.int v2), some (.int v3), some (.int (v4 + 1)), o5, o6], [], (zs h 157 v4 (zr h 158 v4)))) (fun hs => ?_)
    exact hl0 (v4 + 1) (zs h 157 v4 (zr h 158 v4)) (o5) (o6) hs hF
theorem f_M_bestOf_l37_l182_t {x : zm_X} {d : Nat} (v1 : Int32) (v2 : Int32) (v3 : Int32) {Q : Option Value → zm_H → Prop} (G : Nat × Int32 × zm_H → Prop) (hx1 : ∀ (v4 : Int32) (h : zm_H) (o4 : Option Value) (o5 : Option Value) (o6 : Option Value), zSh zT0 h → G (1, v4, h) → zg x (d + 2) 252 208 [some (.ref 92), some (.int v1), some (.int v2), some (.int v3), o4, o5, o6] [] h Q) : ∀ (n : Nat) (v4 : Int32) (h : zm_H) (o5 : Option Value) (o6 : Option Value), zSh zT0 h → f_M_bestOf_l37_l182_ok v1 v2 v3 n (v4, h) → G (f_M_bestOf_l37_l182 v1 v2 v3 n (v4, h)) → zg x (d + 2) 252 182 [some (.ref 92), some (.int v1), some (.int v2), some (.int v3), some (.int v4), o5, o6] [] h Q := by
  intro n
  induction n with
  | zero => intro v4 h o5 o6 hs ho hG; exact ho.elim
  | succ n ih =>
    intro v4 h o5 o6 hs ho hG
    refine f_M_bestOf_l37_l182_b_t (FN := fun r => (r.1 = 0 → f_M_bestOf_l37_l182_ok v1 v2 v3 n r.2) ∧ G (if r.1 = 0 then f_M_bestOf_l37_l182 v1 v2 v3 n r.2 else r)) v1 v2 v3 v4 h o5 o6 hs ho.1 ⟨ho.2, hG⟩ ?_ ?_
    · intro v4 h o5 o6 hs hF
      exact ih v4 h o5 o6 hs (hF.1 rfl) hF.2
    · intro v4 h o4 o5 o6 hs hF
      exact hx1 v4 h o4 o5 o6 hs hF.2

set_option maxRecDepth 100000 in
set_option maxHeartbeats 400000 in
theorem f_M_bestOf_l37_k208_t {x : zm_X} {d : Nat} (v1 : Int32) (v2 : Int32) (v3 : Int32) (h : zm_H) (o4 : Option Value) (o5 : Option Value) (o6 : Option Value) {Q : Option Value → zm_H → Prop} {FN : Nat × Int32 × zm_H → Prop} (hs : zSh zT0 h) (ho : f_M_bestOf_l37_k208_ok v1 v2 v3 h) (hF : FN (f_M_bestOf_l37_k208 v1 v2 v3 h)) (hl0 : ∀ (v3 : Int32) (h : zm_H) (o4 : Option Value) (o5 : Option Value) (o6 : Option Value), zSh zT0 h → FN (0, v3, h) → zg x (d + 2) 252 37 [some (.ref 92), some (.int v1), some (.int v2), some (.int v3), o4, o5, o6] [] h Q) (hl1 : ∀ (v3 : Int32) (h : zm_H) (o3 : Option Value) (o4 : Option Value) (o5 : Option Value) (o6 : Option Value), zSh zT0 h → FN (1, v3, h) → zg x (d + 2) 252 214 [some (.ref 92), some (.int v1), some (.int v2), o3, o4, o5, o6] [] h Q) : zg x (d + 2) 252 208 [some (.ref 92), some (.int v1), some (.int v2), some (.int v3), o4, o5, o6] [] h Q := by
  unfold f_M_bestOf_l37_k208 at hF
  unfold f_M_bestOf_l37_k208_ok at ho
  refine zg_blk zd_252 2 hs (rfl : zb x zT0 zc_252 2 (208, [some (.ref 92), some (.int v1), some (.int v2), some (.int v3), o4, o5, o6], [], h) = some (37, [some (.ref 92), some (.int v1), some (.int v2), some (.int (v3 + 1)), o4, o5, o6], [], h)) (fun hs => ?_)
  exact hl0 (v3 + 1) h (o4) (o5) (o6) hs hF
set_option maxRecDepth 100000 in
set_option maxHeartbeats 400000 in
theorem f_M_bestOf_l37_k179_t {x : zm_X} {d : Nat} (v1 : Int32) (v2 : Int32) (v3 : Int32) (h : zm_H) (o4 : Option Value) (o5 : Option Value) (o6 : Option Value) {Q : Option Value → zm_H → Prop} {FN : Nat × Int32 × zm_H → Prop} (hs : zSh zT0 h) (ho : f_M_bestOf_l37_k179_ok v1 v2 v3 h) (hF : FN (f_M_bestOf_l37_k179 v1 v2 v3 h)) (hl0 : ∀ (v3 : Int32) (h : zm_H) (o4 : Option Value) (o5 : Option Value) (o6 : Option Value), zSh zT0 h → FN (0, v3, h) → zg x (d + 2) 252 37 [some (.ref 92), some (.int v1), some (.int v2), some (.int v3), o4, o5, o6] [] h Q) (hl1 : ∀ (v3 : Int32) (h : zm_H) (o3 : Option Value) (o4 : Option Value) (o5 : Option Value) (o6 : Option Value), zSh zT0 h → FN (1, v3, h) → zg x (d + 2) 252 214 [some (.ref 92), some (.int v1), some (.int v2), o3, o4, o5, o6] [] h Q) : zg x (d + 2) 252 179 [some (.ref 92), some (.int v1), some (.int v2), some (.int v3), o4, o5, o6] [] h Q := by
  unfold f_M_bestOf_l37_k179 at hF
  unfold f_M_bestOf_l37_k179_ok at ho
  refine zg_blk zd_252 2 hs (rfl : zb x zT0 zc_252 2 (179, [some (.ref 92), some (.int v1), some (.int v2), some (.int v3), o4, o5, o6], [], h) = some (182, [some (.ref 92), some (.int v1), some (.int v2), some (.int v3), some (.int 0), o5, o6], [], h)) (fun hs => ?_)
  refine f_M_bestOf_l37_l182_t v1 v2 v3 (fun r => f_M_bestOf_l37_a182_ok v1 v2 v3 r ∧ FN (f_M_bestOf_l37_a182 v1 v2 v3 r)) ?_ zF 0 h (o5) (o6) hs ho.1 ⟨ho.2, hF⟩
  · intro v4_ h_ o4_ o5_ o6_ hs hG
    have ho : True := trivial
    have hF : FN ((f_M_bestOf_l37_k208 v1 v2 v3 h_)) := hG.2
    exact f_M_bestOf_l37_k208_t v1 v2 v3 h_ (o4_) (o5_) (o6_) hs trivial hF hl0 hl1
set_option maxRecDepth 100000 in
set_option maxHeartbeats 400000 in
theorem f_M_bestOf_l37_k71_t {x : zm_X} {d : Nat} (v1 : Int32) (v2 : Int32) (v3 : Int32) (h : zm_H) (o4 : Option Value) (o5 : Option Value) (o6 : Option Value) {Q : Option Value → zm_H → Prop} {FN : Nat × Int32 × zm_H → Prop} (hs : zSh zT0 h) (ho : f_M_bestOf_l37_k71_ok v1 v2 v3 h) (hF : FN (f_M_bestOf_l37_k71 v1 v2 v3 h)) (hl0 : ∀ (v3 : Int32) (h : zm_H) (o4 : Option Value) (o5 : Option Value) (o6 : Option Value), zSh zT0 h → FN (0, v3, h) → zg x (d + 2) 252 37 [some (.ref 92), some (.int v1), some (.int v2), some (.int v3), o4, o5, o6] [] h Q) (hl1 : ∀ (v3 : Int32) (h : zm_H) (o3 : Option Value) (o4 : Option Value) (o5 : Option Value) (o6 : Option Value), zSh zT0 h → FN (1, v3, h) → zg x (d + 2) 252 214 [some (.ref 92), some (.int v1), some (.int v2), o3, o4, o5, o6] [] h Q) : zg x (d + 2) 252 71 [some (.ref 92), some (.int v1), some (.int v2), some (.int v3), o4, o5, o6] [] h Q := by
  unfold f_M_bestOf_l37_k71 at hF
  unfold f_M_bestOf_l37_k71_ok at ho
  refine zg_blk zd_252 2 hs (rfl : zb x zT0 zc_252 2 (71, [some (.ref 92), some (.int v1), some (.int v2), some (.int v3), o4, o5, o6], [], h) = some (74, [some (.ref 92), some (.int v1), some (.int v2), some (.int v3), some (.int 0), o5, o6], [], h)) (fun hs => ?_)
  refine f_M_bestOf_l37_l74_t v1 v2 v3 (fun r => f_M_bestOf_l37_a74_ok v1 v2 v3 r ∧ FN (f_M_bestOf_l37_a74 v1 v2 v3 r)) ?_ zF 0 h (o5) (o6) hs ho.1 ⟨ho.2, hF⟩
  · intro v4_ h_ o4_ o5_ o6_ hs hG
    have ho : (f_M_bestOf_l37_k179_ok v1 v2 v3 h_) := hG.1
    have hF : FN ((f_M_bestOf_l37_k179 v1 v2 v3 h_)) := hG.2
    exact f_M_bestOf_l37_k179_t v1 v2 v3 h_ (o4_) (o5_) (o6_) hs ho hF hl0 hl1
set_option maxRecDepth 100000 in
set_option maxHeartbeats 400000 in
theorem f_M_bestOf_l37_b_t {x : zm_X} {d : Nat} (v1 : Int32) (v2 : Int32) (v3 : Int32) (h : zm_H) (o4 : Option Value) (o5 : Option Value) (o6 : Option Value) {Q : Option Value → zm_H → Prop} {FN : Nat × Int32 × zm_H → Prop} (hs : zSh zT0 h) (ho : f_M_bestOf_l37_b_ok v1 v2 v3 h) (hF : FN (f_M_bestOf_l37_b v1 v2 v3 h)) (hl0 : ∀ (v3 : Int32) (h : zm_H) (o4 : Option Value) (o5 : Option Value) (o6 : Option Value), zSh zT0 h → FN (0, v3, h) → zg x (d + 2) 252 37 [some (.ref 92), some (.int v1), some (.int v2), some (.int v3), o4, o5, o6] [] h Q) (hl1 : ∀ (v3 : Int32) (h : zm_H) (o3 : Option Value) (o4 : Option Value) (o5 : Option Value) (o6 : Option Value), zSh zT0 h → FN (1, v3, h) → zg x (d + 2) 252 214 [some (.ref 92), some (.int v1), some (.int v2), o3, o4, o5, o6] [] h Q) : zg x (d + 2) 252 37 [some (.ref 92), some (.int v1), some (.int v2), some (.int v3), o4, o5, o6] [] h Q := by
  unfold f_M_bestOf_l37_b at hF
  unfold f_M_bestOf_l37_b_ok at ho
  refine zg_blk zd_252 2 hs (rfl : zb x zT0 zc_252 2 (37, [some (.ref 92), some (.int v1), some (.int v2), some (.int v3), o4, o5, o6], [], h) = some (39, [some (.ref 92), some (.int v1), some (.int v2), some (.int v3), o4, o5, o6], [.int v1, .int v3], h)) (fun hs => ?_)
  refine zg_i_ge zd_252 rfl (fun (hc : (v1 ≤ v3)) => ?_) (fun (hc : ¬ (v1 ≤ v3)) => ?_)
  · have ho := ho.1 hc
    rw [if_pos hc] at hF
    exact hl1 v3 h (some (.int v3)) (o4) (o5) (o6) hs hF
  · have ho := ho.2 hc
    rw [if_neg hc] at hF
    refine zg_blk zd_252 2 hs (rfl : zb x zT0 zc_252 2 (42, [some (.ref 92), some (.int v1), some (.int v2), some (.int v3), o4, o5, o6], [], h) = some (45, [some (.ref 92), some (.int v1), some (.int v2), some (.int v3), some (.int 0), o5, o6], [], h)) (fun hs => ?_)
    refine f_M_bestOf_l37_l45_t v1 v2 v3 (fun r => f_M_bestOf_l37_a45_ok v1 v2 v3 r ∧ FN (f_M_bestOf_l37_a45 v1 v2 v3 r)) ?_ zF 0 h (o5) (o6) hs ho.1 ⟨ho.2, hF⟩
    · intro v4_ h_ o4_ o5_ o6_ hs hG
      have ho : (f_M_bestOf_l37_k71_ok v1 v2 v3 h_) := hG.1
      have hF : FN ((f_M_bestOf_l37_k71 v1 v2 v3 h_)) := hG.2
      exact f_M_bestOf_l37_k71_t v1 v2 v3 h_ (o4_) (o5_) (o6_) hs ho hF hl0 hl1
theorem f_M_bestOf_l37_t {x : zm_X} {d : Nat} (v1 : Int32) (v2 : Int32) {Q : Option Value → zm_H → Prop} (G : Nat × Int32 × zm_H → Prop) (hx1 : ∀ (v3 : Int32) (h : zm_H) (o3 : Option Value) (o4 : Option Value) (o5 : Option Value) (o6 : Option Value), zSh zT0 h → G (1, v3, h) → zg x (d + 2) 252 214 [some (.ref 92), some (.int v1), some (.int v2), o3, o4, o5, o6] [] h Q) : ∀ (n : Nat) (v3 : Int32) (h : zm_H) (o4 : Option Value) (o5 : Option Value) (o6 : Option Value), zSh zT0 h → f_M_bestOf_l37_ok v1 v2 n (v3, h) → G (f_M_bestOf_l37 v1 v2 n (v3, h)) → zg x (d + 2) 252 37 [some (.ref 92), some (.int v1), some (.int v2), some (.int v3), o4, o5, o6] [] h Q := by
  intro n
  induction n with
  | zero => intro v3 h o4 o5 o6 hs ho hG; exact ho.elim
  | succ n ih =>
    intro v3 h o4 o5 o6 hs ho hG
    refine f_M_bestOf_l37_b_t (FN := fun r => (r.1 = 0 → f_M_bestOf_l37_ok v1 v2 n r.2) ∧ G (if r.1 = 0 then f_M_bestOf_l37 v1 v2 n r.2 else r)) v1 v2 v3 h o4 o5 o6 hs ho.1 ⟨ho.2, hG⟩ ?_ ?_
    · intro v3 h o4 o5 o6 hs hF
      exact ih v3 h o4 o5 o6 hs (hF.1 rfl) hF.2
    · intro v3 h o3 o4 o5 o6 hs hF
      exact hx1 v3 h o3 o4 o5 o6 hs hF.2

set_option maxRecDepth 100000 in
set_option maxHeartbeats 400000 in
theorem f_M_bestOf_l219_l245_b_t {x : zm_X} {d : Nat} (v1 : Int32) (v2 : Int32) (v3 : Int32) (v4 : Int32) (v5 : Int32) (v6 : Int32) (h : zm_H) {Q : Option Value → zm_H → Prop} {FN : Nat × Int32 × Int32 → Prop} (hs : zSh zT0 h) (ho : f_M_bestOf_l219_l245_b_ok v1 v2 v3 v4 v5 v6 h) (hF : FN (f_M_bestOf_l219_l245_b v1 v2 v3 v4 v5 v6 h)) (hl0 : ∀ (v5 : Int32) (v6 : Int32), zSh zT0 h → FN (0, v5, v6) → zg x (d + 2) 252 245 [some (.ref 92), some (.int v1), some (.int v2), some (.int v3), some (.int v4), some (.int v5), some (.int v6)] [] h Q) (hl1 : ∀ (v5 : Int32) (v6 : Int32) (o6 : Option Value), zSh zT0 h → FN (1, v5, v6) → zg x (d + 2) 252 317 [some (.ref 92), some (.int v1), some (.int v2), some (.int v3), some (.int v4), some (.int v5), o6] [] h Q) : zg x (d + 2) 252 245 [some (.ref 92), some (.int v1), some (.int v2), some (.int v3), some (.int v4), some (.int v5), some (.int v6)] [] h Q := by
  unfold f_M_bestOf_l219_l245_b at hF
  unfold f_M_bestOf_l219_l245_b_ok at ho
  refine zg_blk zd_252 3 hs (rfl : zb x zT0 zc_252 3 (245, [some (.ref 92), some (.int v1), some (.int v2), some (.int v3), some (.int v4), some (.int v5), some (.int v6)], [], h) = some (251, [some (.ref 92), some (.int v1), some (.int v2), some (.int v3), some (.int v4), some (.int v5), some (.int v6)], [.int (zf h 92 72), .int v6], h)) (fun hs => ?_)
  refine zg_i_ge zd_252 rfl (fun (hc : ((zf h 92 72) ≤ v6)) => ?_) (fun (hc : ¬ ((zf h 92 72) ≤ v6)) => ?_)
  · have ho := ho.1 hc
    rw [if_pos hc] at hF
    exact hl1 v5 v6 (some (.int v6)) hs hF
  · have ho := ho.2 hc
    rw [if_neg hc] at hF
    refine zg_blk zd_252 1 hs (rfl : zb x zT0 zc_252 1 (254, [some (.ref 92), some (.int v1), some (.int v2), some (.int v3), some (.int v4), some (.int v5), some (.int v6)], [], h) = some (256, [some (.ref 92), some (.int v1), some (.int v2), some (.int v3), some (.int v4), some (.int v5), some (.int v6)], [.int v5], h)) (fun hs => ?_)
    have hom := ho
    have K165 : zSh zT0 h → zg x (d + 2) 252 309 [some (.ref 92), some (.int v1), some (.int v2), some (.int v3), some (.int v4), some (.int v5), some (.int v6)] [.int (if (¬ (v5 = 0) ∧ (((zr h 156 v6) = (-1)) ∨ ((if ((zr h 156 v6) = v1) then (1 : Int32) else 0) = (if (((v4 >>> (v6 &&& 31)) &&& 1) = 0) then (1 : Int32) else 0)))) then (1 : Int32) else 0)] h Q := fun hs => by
      refine zg_blk zd_252 3 hs (rfl : zb x zT0 zc_252 3 (309, [some (.ref 92), some (.int v1), some (.int v2), some (.int v3), some (.int v4), some (.int v5), some (.int v6)], [.int (if (¬ (v5 = 0) ∧ (((zr h 156 v6) = (-1)) ∨ ((if ((zr h 156 v6) = v1) then (1 : Int32) else 0) = (if (((v4 >>> (v6 &&& 31)) &&& 1) = 0) then (1 : Int32) else 0)))) then (1 : Int32) else 0)], h) = some (245, [some (.ref 92), some (.int v1), some (.int v2), some (.int v3), some (.int v4), some (.int (if (¬ (v5 = 0) ∧ (((zr h 156 v6) = (-1)) ∨ ((if ((zr h 156 v6) = v1) then (1 : Int32) else 0) = (if (((v4 >>> (v6 &&& 31)) &&& 1) = 0) then (1 : Int32) else 0)))) then (1 : Int32) else 0)), some (.int (v6 + 1))], [], h)) (fun hs => ?_)
      exact hl0 (if (¬ (v5 = 0) ∧ (((zr h 156 v6) = (-1)) ∨ ((if ((zr h 156 v6) = v1) then (1 : Int32) else 0) = (if (((v4 >>> (v6 &&& 31)) &&& 1) = 0) then (1 : Int32) else 0)))) then (1 : Int32) else 0) (v6 + 1) hs hF
    refine zg_f_eq zd_252 rfl (fun (hc : (v5 = 0)) => ?_) (fun (hc : ¬ (v5 = 0)) => ?_)
    · have ho := hom.1 hc
      rw [show ((if (¬ (v5 = 0) ∧ (((zr h 156 v6) = (-1)) ∨ ((if ((zr h 156 v6) = v1) then (1 : Int32) else 0) = (if (((v4 >>> (v6 &&& 31)) &&& 1) = 0) then (1 : Int32) else 0)))) then (1 : Int32) else 0) : Int32) = 0 from zb_nand_t hc] at K165
      refine zg_blk zd_252 1 hs (rfl : zb x zT0 zc_252 1 (308, [some (.ref 92), some (.int v1), some (.int v2), some (.int v3), some (.int v4), some (.int v5), some (.int v6)], [], h) = some (309, [some (.ref 92), some (.int v1), some (.int v2), some (.int v3), some (.int v4), some (.int v5), some (.int v6)], [.int 0], h)) (fun hs => ?_)
      exact K165 hs
    · have ho := hom.2 hc
      rw [show ((if (¬ (v5 = 0) ∧ (((zr h 156 v6) = (-1)) ∨ ((if ((zr h 156 v6) = v1) then (1 : Int32) else 0) = (if (((v4 >>> (v6 &&& 31)) &&& 1) = 0) then (1 : Int32) else 0)))) then (1 : Int32) else 0) : Int32) = (if (((zr h 156 v6) = (-1)) ∨ ((if ((zr h 156 v6) = v1) then (1 : Int32) else 0) = (if (((v4 >>> (v6 &&& 31)) &&& 1) = 0) then (1 : Int32) else 0))) then (1 : Int32) else 0) from zb_nand_f hc] at K165
      refine zg_blk zd_252 3 hs (rfl : zb x zT0 zc_252 3 (259, [some (.ref 92), some (.int v1), some (.int v2), some (.int v3), some (.int v4), some (.int v5), some (.int v6)], [], h) = some (265, [some (.ref 92), some (.int v1), some (.int v2), some (.int v3), some (.int v4), some (.int v5), some (.int v6)], [.int v6, .ref 156], h)) (fun hs => ?_)
      obtain ⟨hob, ho⟩ := ho
      refine zg_ial hs zd_252 rfl rfl hob ?_
      refine zg_blk zd_252 1 hs (rfl : zb x zT0 zc_252 1 (266, [some (.ref 92), some (.int v1), some (.int v2), some (.int v3), some (.int v4), some (.int v5), some (.int v6)], [.int (zr h 156 v6)], h) = some (267, [some (.ref 92), some (.int v1), some (.int v2), some (.int v3), some (.int v4), some (.int v5), some (.int v6)], [.int (-1), .int (zr h 156 v6)], h)) (fun hs => ?_)
      refine zg_i_eq zd_252 rfl (fun (hc : ((zr h 156 v6) = (-1))) => ?_) (fun (hc : ¬ ((zr h 156 v6) = (-1))) => ?_)
      · have ho := ho.1 hc
        rw [show ((if (((zr h 156 v6) = (-1)) ∨ ((if ((zr h 156 v6) = v1) then (1 : Int32) else 0) = (if (((v4 >>> (v6 &&& 31)) &&& 1) = 0) then (1 : Int32) else 0))) then (1 : Int32) else 0) : Int32) = 1 from zb_or_t hc] at K165
        refine zg_blk zd_252 2 hs (rfl : zb x zT0 zc_252 2 (304, [some (.ref 92), some (.int v1), some (.int v2), some (.int v3), some (.int v4), some (.int v5), some (.int v6)], [], h) = some (309, [some (.ref 92), some (.int v1), some (.int v2), some (.int v3), some (.int v4), some (.int v5), some (.int v6)], [.int 1], h)) (fun hs => ?_)
        exact K165 hs
      · have ho := ho.2 hc
        rw [show ((if (((zr h 156 v6) = (-1)) ∨ ((if ((zr h 156 v6) = v1) then (1 : Int32) else 0) = (if (((v4 >>> (v6 &&& 31)) &&& 1) = 0) then (1 : Int32) else 0))) then (1 : Int32) else 0) : Int32) = (if ((if ((zr h 156 v6) = v1) then (1 : Int32) else 0) = (if (((v4 >>> (v6 &&& 31)) &&& 1) = 0) then (1 : Int32) else 0)) then (1 : Int32) else 0) from zb_or_f hc] at K165
        refine zg_blk zd_252 3 hs (rfl : zb x zT0 zc_252 3 (270, [some (.ref 92), some (.int v1), some (.int v2), some (.int v3), some (.int v4), some (.int v5), some (.int v6)], [], h) = some (276, [some (.ref 92), some (.int v1), some (.int v2), some (.int v3), some (.int v4), some (.int v5), some (.int v6)], [.int v6, .ref 156], h)) (fun hs => ?_)
        have hob := ho
        refine zg_ial hs zd_252 rfl rfl hob ?_
        refine zg_blk zd_252 1 hs (rfl : zb x zT0 zc_252 1 (277, [some (.ref 92), some (.int v1), some (.int v2), some (.int v3), some (.int v4), some (.int v5), some (.int v6)], [.int (zr h 156 v6)], h) = some (278, [some (.ref 92), some (.int v1), some (.int v2), some (.int v3), some (.int v4), some (.int v5), some (.int v6)], [.int v1, .int (zr h 156 v6)], h)) (fun hs => ?_)
        have K166 : zSh zT0 h → zg x (d + 2) 252 286 [some (.ref 92), some (.int v1), some (.int v2), some (.int v3), some (.int v4), some (.int v5), some (.int v6)] [.int (if ((zr h 156 v6) = v1) then (1 : Int32) else 0)] h Q := fun hs => by
          refine zg_blk zd_252 5 hs (rfl : zb x zT0 zc_252 5 (286, [some (.ref 92), some (.int v1), some (.int v2), some (.int v3), some (.int v4), some (.int v5), some (.int v6)], [.int (if ((zr h 156 v6) = v1) then (1 : Int32) else 0)], h) = some (293, [some (.ref 92), some (.int v1), some (.int v2), some (.int v3), some (.int v4), some (.int v5), some (.int v6)], [.int ((v4 >>> (v6 &&& 31)) &&& 1), .int (if ((zr h 156 v6) = v1) then (1 : Int32) else 0)], h)) (fun hs => ?_)
          have K167 : zSh zT0 h → zg x (d + 2) 252 301 [some (.ref 92), some (.int v1), some (.int v2), some (.int v3), some (.int v4), some (.int v5), some (.int v6)] [.int (if (((v4 >>> (v6 &&& 31)) &&& 1) = 0) then (1 : Int32) else 0), .int (if ((zr h 156 v6) = v1) then (1 : Int32) else 0)] h Q := fun hs => by
            refine zg_i_ne zd_252 rfl (fun (hc : ¬ ((if ((zr h 156 v6) = v1) then (1 : Int32) else 0) = (if (((v4 >>> (v6 &&& 31)) &&& 1) = 0) then (1 : Int32) else 0))) => ?_) (fun (hc : ((if ((zr h 156 v6) = v1) then (1 : Int32) else 0) = (if (((v4 >>> (v6 &&& 31)) &&& 1) = 0) then (1 : Int32) else 0))) => ?_)
            · skip
              rw [show ((if ((if ((zr h 156 v6) = v1) then (1 : Int32) else 0) = (if (((v4 >>> (v6 &&& 31)) &&& 1) = 0) then (1 : Int32) else 0)) then (1 : Int32) else 0) : Int32) = 0 from if_neg hc] at K165
              refine zg_blk zd_252 1 hs (rfl : zb x zT0 zc_252 1 (308, [some (.ref 92), some (.int v1), some (.int v2), some (.int v3), some (.int v4), some (.int v5), some (.int v6)], [], h) = some (309, [some (.ref 92), some (.int v1), some (.int v2), some (.int v3), some (.int v4), some (.int v5), some (.int v6)], [.int 0], h)) (fun hs => ?_)
              exact K165 hs
            · skip
              rw [show ((if ((if ((zr h 156 v6) = v1) then (1 : Int32) else 0) = (if (((v4 >>> (v6 &&& 31)) &&& 1) = 0) then (1 : Int32) else 0)) then (1 : Int32) else 0) : Int32) = 1 from if_pos hc] at K165
              refine zg_blk zd_252 2 hs (rfl : zb x zT0 zc_252 2 (304, [some (.ref 92), some (.int v1), some (.int v2), some (.int v3), some (.int v4), some (.int v5), some (.int v6)], [], h) = some (309, [some (.ref 92), some (.int v1), some (.int v2), some (.int v3), some (.int v4), some (.int v5), some (.int v6)], [.int 1], h)) (fun hs => ?_)
              exact K165 hs
          refine zg_f_ne zd_252 rfl (fun (hc : ¬ (((v4 >>> (v6 &&& 31)) &&& 1) = 0)) => ?_) (fun (hc : (((v4 >>> (v6 &&& 31)) &&& 1) = 0)) => ?_)
          · skip
            rw [show ((if (((v4 >>> (v6 &&& 31)) &&& 1) = 0) then (1 : Int32) else 0) : Int32) = 0 from if_neg hc] at K167
            refine zg_blk zd_252 1 hs (rfl : zb x zT0 zc_252 1 (300, [some (.ref 92), some (.int v1), some (.int v2), some (.int v3), some (.int v4), some (.int v5), some (.int v6)], [.int (if ((zr h 156 v6) = v1) then (1 : Int32) else 0)], h) = some (301, [some (.ref 92), some (.int v1), some (.int v2), some (.int v3), some (.int v4), some (.int v5), some (.int v6)], [.int 0, .int (if ((zr h 156 v6) = v1) then (1 : Int32) else 0)], h)) (fun hs => ?_)
            exact K167 hs
          · skip
            rw [show ((if (((v4 >>> (v6 &&& 31)) &&& 1) = 0) then (1 : Int32) else 0) : Int32) = 1 from if_pos hc] at K167
            refine zg_blk zd_252 2 hs (rfl : zb x zT0 zc_252 2 (296, [some (.ref 92), some (.int v1), some (.int v2), some (.int v3), some (.int v4), some (.int v5), some (.int v6)], [.int (if ((zr h 156 v6) = v1) then (1 : Int32) else 0)], h) = some (301, [some (.ref 92), some (.int v1), some (.int v2), some (.int v3), some (.int v4), some (.int v5), some (.int v6)], [.int 1, .int (if ((zr h 156 v6) = v1) then (1 : Int32) else 0)], h)) (fun hs => ?_)
            exact K167 hs
        refine zg_i_ne zd_252 rfl (fun (hc : ¬ ((zr h 156 v6) = v1)) => ?_) (fun (hc : ((zr h 156 v6) = v1)) => ?_)
        · skip
          rw [show ((if ((zr h 156 v6) = v1) then (1 : Int32) else 0) : Int32) = 0 from if_neg hc] at K166
          refine zg_blk zd_252 1 hs (rfl : zb x zT0 zc_252 1 (285, [some (.ref 92), some (.int v1), some (.int v2), some (.int v3), some (.int v4), some (.int v5), some (.int v6)], [], h) = some (286, [some (.ref 92), some (.int v1), some (.int v2), some (.int v3), some (.int v4), some (.int v5), some (.int v6)], [.int 0], h)) (fun hs => ?_)
          exact K166 hs
        · skip
          rw [show ((if ((zr h 156 v6) = v1) then (1 : Int32) else 0) : Int32) = 1 from if_pos hc] at K166
          refine zg_blk zd_252 2 hs (rfl : zb x zT0 zc_252 2 (281, [some (.ref 92), some (.int v1), some (.int v2), some (.int v3), some (.int v4), some (.int v5), some (.int v6)], [], h) = some (286, [some (.ref 92), some (.int v1), some (.int v2), some (.int v3), some (.int v4), some (.int v5), some (.int v6)], [.int 1], h)) (fun hs => ?_)
          exact K166 hs
theorem f_M_bestOf_l219_l245_t {x : zm_X} {d : Nat} (v1 : Int32) (v2 : Int32) (v3 : Int32) (v4 : Int32) (h : zm_H) {Q : Option Value → zm_H → Prop} (G : Nat × Int32 × Int32 → Prop) (hx1 : ∀ (v5 : Int32) (v6 : Int32) (o6 : Option Value), zSh zT0 h → G (1, v5, v6) → zg x (d + 2) 252 317 [some (.ref 92), some (.int v1), some (.int v2), some (.int v3), some (.int v4), some (.int v5), o6] [] h Q) : ∀ (n : Nat) (v5 : Int32) (v6 : Int32), zSh zT0 h → f_M_bestOf_l219_l245_ok v1 v2 v3 v4 h n (v5, v6) → G (f_M_bestOf_l219_l245 v1 v2 v3 v4 h n (v5, v6)) → zg x (d + 2) 252 245 [some (.ref 92), some (.int v1), some (.int v2), some (.int v3), some (.int v4), some (.int v5), some (.int v6)] [] h Q := by
  intro n
  induction n with
  | zero => intro v5 v6 hs ho hG; exact ho.elim
  | succ n ih =>
    intro v5 v6 hs ho hG
    refine f_M_bestOf_l219_l245_b_t (FN := fun r => (r.1 = 0 → f_M_bestOf_l219_l245_ok v1 v2 v3 v4 h n r.2) ∧ G (if r.1 = 0 then f_M_bestOf_l219_l245 v1 v2 v3 v4 h n r.2 else r)) v1 v2 v3 v4 v5 v6 h hs ho.1 ⟨ho.2, hG⟩ ?_ ?_
    · intro v5 v6 hs hF
      exact ih v5 v6 hs (hF.1 rfl) hF.2
    · intro v5 v6 o6 hs hF
      exact hx1 v5 v6 o6 hs hF.2

set_option maxRecDepth 100000 in
set_option maxHeartbeats 400000 in
theorem f_M_bestOf_l219_k317_t {x : zm_X} {d : Nat} (v1 : Int32) (v2 : Int32) (v3 : Int32) (v4 : Int32) (v5 : Int32) (h : zm_H) (o6 : Option Value) {Q : Option Value → zm_H → Prop} {FN : Nat × Int32 × Int32 → Prop} (hs : zSh zT0 h) (ho : f_M_bestOf_l219_k317_ok v1 v2 v3 v4 v5 h) (hF : FN (f_M_bestOf_l219_k317 v1 v2 v3 v4 v5 h)) (hl0 : ∀ (v3 : Int32) (v4 : Int32) (o5 : Option Value) (o6 : Option Value), zSh zT0 h → FN (0, v3, v4) → zg x (d + 2) 252 219 [some (.ref 92), some (.int v1), some (.int v2), some (.int v3), some (.int v4), o5, o6] [] h Q) (hl1 : ∀ (v3 : Int32) (v4 : Int32) (o4 : Option Value) (o5 : Option Value) (o6 : Option Value), zSh zT0 h → FN (1, v3, v4) → zg x (d + 2) 252 347 [some (.ref 92), some (.int v1), some (.int v2), some (.int v3), o4, o5, o6] [] h Q) : zg x (d + 2) 252 317 [some (.ref 92), some (.int v1), some (.int v2), some (.int v3), some (.int v4), some (.int v5), o6] [] h Q := by
  unfold f_M_bestOf_l219_k317 at hF
  unfold f_M_bestOf_l219_k317_ok at ho
  refine zg_blk zd_252 1 hs (rfl : zb x zT0 zc_252 1 (317, [some (.ref 92), some (.int v1), some (.int v2), some (.int v3), some (.int v4), some (.int v5), o6], [], h) = some (319, [some (.ref 92), some (.int v1), some (.int v2), some (.int v3), some (.int v4), some (.int v5), o6], [.int v5], h)) (fun hs => ?_)
  have hom := ho
  have K168 : zSh zT0 h → zg x (d + 2) 252 341 [some (.ref 92), some (.int v1), some (.int v2), some (.int (if (v5 = 0) then (v3 : Int32) else (if ((zr h 157 v4) ≤ v3) then (v3 : Int32) else (zr h 157 v4)))), some (.int v4), some (.int v5), o6] [] h Q := fun hs => by
    refine zg_blk zd_252 2 hs (rfl : zb x zT0 zc_252 2 (341, [some (.ref 92), some (.int v1), some (.int v2), some (.int (if (v5 = 0) then (v3 : Int32) else (if ((zr h 157 v4) ≤ v3) then (v3 : Int32) else (zr h 157 v4)))), some (.int v4), some (.int v5), o6], [], h) = some (219, [some (.ref 92), some (.int v1), some (.int v2), some (.int (if (v5 = 0) then (v3 : Int32) else (if ((zr h 157 v4) ≤ v3) then (v3 : Int32) else (zr h 157 v4)))), some (.int (v4 + 1)), some (.int v5), o6], [], h)) (fun hs => ?_)
    exact hl0 (if (v5 = 0) then (v3 : Int32) else (if ((zr h 157 v4) ≤ v3) then (v3 : Int32) else (zr h 157 v4))) (v4 + 1) (some (.int v5)) (o6) hs hF
  refine zg_f_eq zd_252 rfl (fun (hc : (v5 = 0)) => ?_) (fun (hc : ¬ (v5 = 0)) => ?_)
  · have ho := hom.1 hc
    rw [show ((if (v5 = 0) then (v3 : Int32) else (if ((zr h 157 v4) ≤ v3) then (v3 : Int32) else (zr h 157 v4))) : Int32) = v3 from if_pos hc] at K168
    exact K168 hs
  · have ho := hom.2 hc
    rw [show ((if (v5 = 0) then (v3 : Int32) else (if ((zr h 157 v4) ≤ v3) then (v3 : Int32) else (zr h 157 v4))) : Int32) = (if ((zr h 157 v4) ≤ v3) then (v3 : Int32) else (zr h 157 v4)) from if_neg hc] at K168
    refine zg_blk zd_252 3 hs (rfl : zb x zT0 zc_252 3 (322, [some (.ref 92), some (.int v1), some (.int v2), some (.int v3), some (.int v4), some (.int v5), o6], [], h) = some (328, [some (.ref 92), some (.int v1), some (.int v2), some (.int v3), some (.int v4), some (.int v5), o6], [.int v4, .ref 157], h)) (fun hs => ?_)
    obtain ⟨hob, ho⟩ := ho
    refine zg_ial hs zd_252 rfl rfl hob ?_
    refine zg_blk zd_252 1 hs (rfl : zb x zT0 zc_252 1 (329, [some (.ref 92), some (.int v1), some (.int v2), some (.int v3), some (.int v4), some (.int v5), o6], [.int (zr h 157 v4)], h) = some (330, [some (.ref 92), some (.int v1), some (.int v2), some (.int v3), some (.int v4), some (.int v5), o6], [.int v3, .int (zr h 157 v4)], h)) (fun hs => ?_)
    refine zg_i_le zd_252 rfl (fun (hc : ((zr h 157 v4) ≤ v3)) => ?_) (fun (hc : ¬ ((zr h 157 v4) ≤ v3)) => ?_)
    · have ho := ho.1 hc
      rw [show ((if ((zr h 157 v4) ≤ v3) then (v3 : Int32) else (zr h 157 v4)) : Int32) = v3 from if_pos hc] at K168
      exact K168 hs
    · have ho := ho.2 hc
      rw [show ((if ((zr h 157 v4) ≤ v3) then (v3 : Int32) else (zr h 157 v4)) : Int32) = (zr h 157 v4) from if_neg hc] at K168
      refine zg_blk zd_252 3 hs (rfl : zb x zT0 zc_252 3 (333, [some (.ref 92), some (.int v1), some (.int v2), some (.int v3), some (.int v4), some (.int v5), o6], [], h) = some (339, [some (.ref 92), some (.int v1), some (.int v2), some (.int v3), some (.int v4), some (.int v5), o6], [.int v4, .ref 157], h)) (fun hs => ?_)
      have hob := ho
      refine zg_ial hs zd_252 rfl rfl hob ?_
      refine zg_blk zd_252 1 hs (rfl : zb x zT0 zc_252 1 (340, [some (.ref 92), some (.int v1), some (.int v2), some (.int v3), some (.int v4), some (.int v5), o6], [.int (zr h 157 v4)], h) = some (341, [some (.ref 92), some (.int v1), some (.int v2), some (.int (zr h 157 v4)), some (.int v4), some (.int v5), o6], [], h)) (fun hs => ?_)
      exact K168 hs
set_option maxRecDepth 100000 in
set_option maxHeartbeats 400000 in
theorem f_M_bestOf_l219_b_t {x : zm_X} {d : Nat} (v1 : Int32) (v2 : Int32) (v3 : Int32) (v4 : Int32) (h : zm_H) (o5 : Option Value) (o6 : Option Value) {Q : Option Value → zm_H → Prop} {FN : Nat × Int32 × Int32 → Prop} (hs : zSh zT0 h) (ho : f_M_bestOf_l219_b_ok v1 v2 v3 v4 h) (hF : FN (f_M_bestOf_l219_b v1 v2 v3 v4 h)) (hl0 : ∀ (v3 : Int32) (v4 : Int32) (o5 : Option Value) (o6 : Option Value), zSh zT0 h → FN (0, v3, v4) → zg x (d + 2) 252 219 [some (.ref 92), some (.int v1), some (.int v2), some (.int v3), some (.int v4), o5, o6] [] h Q) (hl1 : ∀ (v3 : Int32) (v4 : Int32) (o4 : Option Value) (o5 : Option Value) (o6 : Option Value), zSh zT0 h → FN (1, v3, v4) → zg x (d + 2) 252 347 [some (.ref 92), some (.int v1), some (.int v2), some (.int v3), o4, o5, o6] [] h Q) : zg x (d + 2) 252 219 [some (.ref 92), some (.int v1), some (.int v2), some (.int v3), some (.int v4), o5, o6] [] h Q := by
  unfold f_M_bestOf_l219_b at hF
  unfold f_M_bestOf_l219_b_ok at ho
  refine zg_blk zd_252 2 hs (rfl : zb x zT0 zc_252 2 (219, [some (.ref 92), some (.int v1), some (.int v2), some (.int v3), some (.int v4), o5, o6], [], h) = some (222, [some (.ref 92), some (.int v1), some (.int v2), some (.int v3), some (.int v4), o5, o6], [.int v2, .int v4], h)) (fun hs => ?_)
  refine zg_i_ge zd_252 rfl (fun (hc : (v2 ≤ v4)) => ?_) (fun (hc : ¬ (v2 ≤ v4)) => ?_)
  · have ho := ho.1 hc
    rw [if_pos hc] at hF
    exact hl1 v3 v4 (some (.int v4)) (o5) (o6) hs hF
  · have ho := ho.2 hc
    rw [if_neg hc] at hF
    refine zg_blk zd_252 3 hs (rfl : zb x zT0 zc_252 3 (225, [some (.ref 92), some (.int v1), some (.int v2), some (.int v3), some (.int v4), o5, o6], [], h) = some (231, [some (.ref 92), some (.int v1), some (.int v2), some (.int v3), some (.int v4), o5, o6], [.int v4, .ref 157], h)) (fun hs => ?_)
    obtain ⟨hob, ho⟩ := ho
    refine zg_ial hs zd_252 rfl rfl hob ?_
    have K169 : zSh zT0 h → zg x (d + 2) 252 240 [some (.ref 92), some (.int v1), some (.int v2), some (.int v3), some (.int v4), o5, o6] [.int (if (¬ ((zr h 157 v4) < 0)) then (1 : Int32) else 0)] h Q := fun hs => by
      refine zg_blk zd_252 3 hs (rfl : zb x zT0 zc_252 3 (240, [some (.ref 92), some (.int v1), some (.int v2), some (.int v3), some (.int v4), o5, o6], [.int (if (¬ ((zr h 157 v4) < 0)) then (1 : Int32) else 0)], h) = some (245, [some (.ref 92), some (.int v1), some (.int v2), some (.int v3), some (.int v4), some (.int (if (¬ ((zr h 157 v4) < 0)) then (1 : Int32) else 0)), some (.int 0)], [], h)) (fun hs => ?_)
      refine f_M_bestOf_l219_l245_t v1 v2 v3 v4 h (fun r => f_M_bestOf_l219_a245_ok v1 v2 v3 v4 r h ∧ FN (f_M_bestOf_l219_a245 v1 v2 v3 v4 r h)) ?_ zF (if (¬ ((zr h 157 v4) < 0)) then (1 : Int32) else 0) 0 hs ho.1 ⟨ho.2, hF⟩
      · intro v5_ v6_ o6_ hs hG
        have ho : (f_M_bestOf_l219_k317_ok v1 v2 v3 v4 v5_ h) := hG.1
        have hF : FN ((f_M_bestOf_l219_k317 v1 v2 v3 v4 v5_ h)) := hG.2
        exact f_M_bestOf_l219_k317_t v1 v2 v3 v4 v5_ h (o6_) hs ho hF hl0 hl1
    refine zg_f_lt zd_252 rfl (fun (hc : ((zr h 157 v4) < 0)) => ?_) (fun (hc : ¬ ((zr h 157 v4) < 0)) => ?_)
    · skip
      rw [show ((if (¬ ((zr h 157 v4) < 0)) then (1 : Int32) else 0) : Int32) = 0 from zb_not_t hc] at K169
      refine zg_blk zd_252 1 hs (rfl : zb x zT0 zc_252 1 (239, [some (.ref 92), some (.int v1), some (.int v2), some (.int v3), some (.int v4), o5, o6], [], h) = some (240, [some (.ref 92), some (.int v1), some (.int v2), some (.int v3), some (.int v4), o5, o6], [.int 0], h)) (fun hs => ?_)
      exact K169 hs
    · skip
      rw [show ((if (¬ ((zr h 157 v4) < 0)) then (1 : Int32) else 0) : Int32) = 1 from zb_not_f hc] at K169
      refine zg_blk zd_252 2 hs (rfl : zb x zT0 zc_252 2 (235, [some (.ref 92), some (.int v1), some (.int v2), some (.int v3), some (.int v4), o5, o6], [], h) = some (240, [some (.ref 92), some (.int v1), some (.int v2), some (.int v3), some (.int v4), o5, o6], [.int 1], h)) (fun hs => ?_)
      exact K169 hs
theorem f_M_bestOf_l219_t {x : zm_X} {d : Nat} (v1 : Int32) (v2 : Int32) (h : zm_H) {Q : Option Value → zm_H → Prop} (G : Nat × Int32 × Int32 → Prop) (hx1 : ∀ (v3 : Int32) (v4 : Int32) (o4 : Option Value) (o5 : Option Value) (o6 : Option Value), zSh zT0 h → G (1, v3, v4) → zg x (d + 2) 252 347 [some (.ref 92), some (.int v1), some (.int v2), some (.int v3), o4, o5, o6] [] h Q) : ∀ (n : Nat) (v3 : Int32) (v4 : Int32) (o5 : Option Value) (o6 : Option Value), zSh zT0 h → f_M_bestOf_l219_ok v1 v2 h n (v3, v4) → G (f_M_bestOf_l219 v1 v2 h n (v3, v4)) → zg x (d + 2) 252 219 [some (.ref 92), some (.int v1), some (.int v2), some (.int v3), some (.int v4), o5, o6] [] h Q := by
  intro n
  induction n with
  | zero => intro v3 v4 o5 o6 hs ho hG; exact ho.elim
  | succ n ih =>
    intro v3 v4 o5 o6 hs ho hG
    refine f_M_bestOf_l219_b_t (FN := fun r => (r.1 = 0 → f_M_bestOf_l219_ok v1 v2 h n r.2) ∧ G (if r.1 = 0 then f_M_bestOf_l219 v1 v2 h n r.2 else r)) v1 v2 v3 v4 h o5 o6 hs ho.1 ⟨ho.2, hG⟩ ?_ ?_
    · intro v3 v4 o5 o6 hs hF
      exact ih v3 v4 o5 o6 hs (hF.1 rfl) hF.2
    · intro v3 v4 o4 o5 o6 hs hF
      exact hx1 v3 v4 o4 o5 o6 hs hF.2

set_option maxRecDepth 100000 in
set_option maxHeartbeats 400000 in
theorem f_M_bestOf_k347_t {x : zm_X} {d : Nat} (v3 : Int32) (h : zm_H) (o0 : Option Value) (z1 : Int32) (o2 : Option Value) (o4 : Option Value) (o5 : Option Value) (o6 : Option Value) {Q : Option Value → zm_H → Prop} (hs : zSh zT0 h) (ho : f_M_bestOf_k347_ok v3 h) (hF : (zSh zT0 (f_M_bestOf_k347 v3 h).2 → Q (some (.int (f_M_bestOf_k347 v3 h).1)) (f_M_bestOf_k347 v3 h).2)) : zg x (d + 2) 252 347 [o0, some (.int z1), o2, some (.int v3), o4, o5, o6] [] h Q := by
  unfold f_M_bestOf_k347 at hF
  unfold f_M_bestOf_k347_ok at ho
  refine zg_blk zd_252 1 hs (rfl : zb x zT0 zc_252 1 (347, [o0, some (.int z1), o2, some (.int v3), o4, o5, o6], [], h) = some (348, [o0, some (.int z1), o2, some (.int v3), o4, o5, o6], [.int v3], h)) (fun hs => ?_)
  exact zg_ret zd_252 rfl rfl (hF hs)
set_option maxRecDepth 100000 in
set_option maxHeartbeats 400000 in
theorem f_M_bestOf_k214_t {x : zm_X} {d : Nat} (v1 : Int32) (v2 : Int32) (h : zm_H) (o3 : Option Value) (o4 : Option Value) (o5 : Option Value) (o6 : Option Value) {Q : Option Value → zm_H → Prop} (hs : zSh zT0 h) (ho : f_M_bestOf_k214_ok v1 v2 h) (hF : (zSh zT0 (f_M_bestOf_k214 v1 v2 h).2 → Q (some (.int (f_M_bestOf_k214 v1 v2 h).1)) (f_M_bestOf_k214 v1 v2 h).2)) : zg x (d + 2) 252 214 [some (.ref 92), some (.int v1), some (.int v2), o3, o4, o5, o6] [] h Q := by
  unfold f_M_bestOf_k214 at hF
  unfold f_M_bestOf_k214_ok at ho
  refine zg_blk zd_252 4 hs (rfl : zb x zT0 zc_252 4 (214, [some (.ref 92), some (.int v1), some (.int v2), o3, o4, o5, o6], [], h) = some (219, [some (.ref 92), some (.int v1), some (.int v2), some (.int (-1)), some (.int 0), o5, o6], [], h)) (fun hs => ?_)
  refine f_M_bestOf_l219_t v1 v2 h (fun r => f_M_bestOf_a219_ok r h ∧ (zSh zT0 (f_M_bestOf_a219 r h).2 → Q (some (.int (f_M_bestOf_a219 r h).1)) (f_M_bestOf_a219 r h).2)) ?_ zF (-1) 0 (o5) (o6) hs ho.1 ⟨ho.2, hF⟩
  · intro v3_ v4_ o4_ o5_ o6_ hs hG
    have ho : True := trivial
    have hF : (zSh zT0 ((f_M_bestOf_k347 v3_ h)).2 → Q (some (.int ((f_M_bestOf_k347 v3_ h)).1)) ((f_M_bestOf_k347 v3_ h)).2) := hG.2
    exact f_M_bestOf_k347_t v3_ h (some (.ref 92)) v1 (some (.int v2)) (o4_) (o5_) (o6_) hs trivial hF
set_option maxRecDepth 100000 in
set_option maxHeartbeats 400000 in
theorem f_M_bestOf_k35_t {x : zm_X} {d : Nat} (v1 : Int32) (v2 : Int32) (h : zm_H) (o3 : Option Value) (o4 : Option Value) (o5 : Option Value) (o6 : Option Value) {Q : Option Value → zm_H → Prop} (hs : zSh zT0 h) (ho : f_M_bestOf_k35_ok v1 v2 h) (hF : (zSh zT0 (f_M_bestOf_k35 v1 v2 h).2 → Q (some (.int (f_M_bestOf_k35 v1 v2 h).1)) (f_M_bestOf_k35 v1 v2 h).2)) : zg x (d + 2) 252 35 [some (.ref 92), some (.int v1), some (.int v2), o3, o4, o5, o6] [] h Q := by
  unfold f_M_bestOf_k35 at hF
  unfold f_M_bestOf_k35_ok at ho
  refine zg_blk zd_252 2 hs (rfl : zb x zT0 zc_252 2 (35, [some (.ref 92), some (.int v1), some (.int v2), o3, o4, o5, o6], [], h) = some (37, [some (.ref 92), some (.int v1), some (.int v2), some (.int 0), o4, o5, o6], [], h)) (fun hs => ?_)
  refine f_M_bestOf_l37_t v1 v2 (fun r => f_M_bestOf_a37_ok v1 v2 r ∧ (zSh zT0 (f_M_bestOf_a37 v1 v2 r).2 → Q (some (.int (f_M_bestOf_a37 v1 v2 r).1)) (f_M_bestOf_a37 v1 v2 r).2)) ?_ zF 0 h (o4) (o5) (o6) hs ho.1 ⟨ho.2, hF⟩
  · intro v3_ h_ o3_ o4_ o5_ o6_ hs hG
    have ho : (f_M_bestOf_k214_ok v1 v2 h_) := hG.1
    have hF : (zSh zT0 ((f_M_bestOf_k214 v1 v2 h_)).2 → Q (some (.int ((f_M_bestOf_k214 v1 v2 h_)).1)) ((f_M_bestOf_k214 v1 v2 h_)).2) := hG.2
    exact f_M_bestOf_k214_t v1 v2 h_ (o3_) (o4_) (o5_) (o6_) hs ho hF
set_option maxRecDepth 100000 in
set_option maxHeartbeats 400000 in
theorem f_M_bestOf_t {x : zm_X} {d : Nat} (p1 : Int32) (h : zm_H) {Q : Option Value → zm_H → Prop} (hs : zSh zT0 h) (ho : f_M_bestOf_ok p1 h) (hF : (zSh zT0 (f_M_bestOf p1 h).2 → Q (some (.int (f_M_bestOf p1 h).1)) (f_M_bestOf p1 h).2)) : zg x (d + 2) 252 0 [some (.ref 92), some (.int p1), none, none, none, none, none] [] h Q := by
  unfold f_M_bestOf at hF
  unfold f_M_bestOf_ok at ho
  refine zg_blk zd_252 7 hs (rfl : zb x zT0 zc_252 7 (0, [some (.ref 92), some (.int p1), none, none, none, none, none], [], h) = some (9, [some (.ref 92), some (.int p1), some (.int (1 <<< ((zf h 92 72) &&& 31))), some (.int 0), none, none, none], [], h)) (fun hs => ?_)
  refine f_M_bestOf_l9_t p1 (1 <<< ((zf h 92 72) &&& 31)) (fun r => f_M_bestOf_a9_ok p1 (1 <<< ((zf h 92 72) &&& 31)) r ∧ (zSh zT0 (f_M_bestOf_a9 p1 (1 <<< ((zf h 92 72) &&& 31)) r).2 → Q (some (.int (f_M_bestOf_a9 p1 (1 <<< ((zf h 92 72) &&& 31)) r).1)) (f_M_bestOf_a9 p1 (1 <<< ((zf h 92 72) &&& 31)) r).2)) ?_ zF 0 h (none) (none) (none) hs ho.1 ⟨ho.2, hF⟩
  · intro v3_ h_ o3_ o4_ o5_ o6_ hs hG
    have ho : (f_M_bestOf_k35_ok p1 (1 <<< ((zf h 92 72) &&& 31)) h_) := hG.1
    have hF : (zSh zT0 ((f_M_bestOf_k35 p1 (1 <<< ((zf h 92 72) &&& 31)) h_)).2 → Q (some (.int ((f_M_bestOf_k35 p1 (1 <<< ((zf h 92 72) &&& 31)) h_)).1)) ((f_M_bestOf_k35 p1 (1 <<< ((zf h 92 72) &&& 31)) h_)).2) := hG.2
    exact f_M_bestOf_k35_t p1 (1 <<< ((zf h 92 72) &&& 31)) h_ (o3_) (o4_) (o5_) (o6_) hs ho hF
set_option maxRecDepth 100000 in
set_option maxHeartbeats 400000 in
theorem f_M_plan_l84_l98_k103_t {x : zm_X} {d : Nat} (v2 : Int32) (v3 : Int32) (v4 : Int32) (v5 : Int32) (w0 : Int32) (h : zm_H) (o1 : Option Value) {Q : Option Value → zm_H → Prop} {FN : Nat × zm_H → Prop} (hs : zSh zT0 h) (ho : f_M_plan_l84_l98_k103_ok v2 v3 v4 v5 w0 h) (hF : FN (f_M_plan_l84_l98_k103 v2 v3 v4 v5 w0 h)) (hl0 : ∀ (h : zm_H) (o1 : Option Value), zSh zT0 h → FN (0, h) → zg x (d + 5) 251 98 [some (.ref 92), o1, some (.int v2), some (.int v3), some (.int v4), some (.int v5)] [] h Q) (hl1 : ∀ (h : zm_H) (o1 : Option Value), zSh zT0 h → FN (1, h) → zg x (d + 5) 251 122 [some (.ref 92), o1, some (.int v2), some (.int v3), some (.int v4), some (.int v5)] [] h Q) : zg x (d + 5) 251 103 [some (.ref 92), o1, some (.int v2), some (.int v3), some (.int v4), some (.int v5)] [.int w0] h Q := by
  unfold f_M_plan_l84_l98_k103 at hF
  unfold f_M_plan_l84_l98_k103_ok at ho
  refine zg_blk zd_251 1 hs (rfl : zb x zT0 zc_251 1 (103, [some (.ref 92), o1, some (.int v2), some (.int v3), some (.int v4), some (.int v5)], [.int w0], h) = some (105, [some (.ref 92), o1, some (.int v2), some (.int v3), some (.int v4), some (.int v5)], [.int v4, .int w0], h)) (fun hs => ?_)
  refine zg_i_eq zd_251 rfl (fun (hc : (w0 = v4)) => ?_) (fun (hc : ¬ (w0 = v4)) => ?_)
  · have ho := ho.1 hc
    rw [if_pos hc] at hF
    exact hl1 h (o1) hs hF
  · have ho := ho.2 hc
    rw [if_neg hc] at hF
    refine zg_blk zd_251 4 hs (rfl : zb x zT0 zc_251 4 (108, [some (.ref 92), o1, some (.int v2), some (.int v3), some (.int v4), some (.int v5)], [], h) = some (115, [some (.ref 92), o1, some (.int v2), some (.int v3), some (.int v4), some (.int v5)], [.int v5, .ref 156, .int v5, .ref 156], h)) (fun hs => ?_)
    obtain ⟨hob, ho⟩ := ho
    refine zg_ial hs zd_251 rfl rfl hob ?_
    refine zg_blk zd_251 2 hs (rfl : zb x zT0 zc_251 2 (116, [some (.ref 92), o1, some (.int v2), some (.int v3), some (.int v4), some (.int v5)], [.int (zr h 156 v5), .int v5, .ref 156], h) = some (118, [some (.ref 92), o1, some (.int v2), some (.int v3), some (.int v4), some (.int v5)], [.int ((zr h 156 v5) + 1), .int v5, .ref 156], h)) (fun hs => ?_)
    have hob := ho
    refine zg_ias hs zd_251 rfl rfl hob (fun hs => ?_)
    refine zg_blk zd_251 1 hs (rfl : zb x zT0 zc_251 1 (119, [some (.ref 92), o1, some (.int v2), some (.int v3), some (.int v4), some (.int v5)], [], (zs h 156 v5 ((zr h 156 v5) + 1))) = some (98, [some (.ref 92), o1, some (.int v2), some (.int v3), some (.int v4), some (.int v5)], [], (zs h 156 v5 ((zr h 156 v5) + 1)))) (fun hs => ?_)
    exact hl0 (zs h 156 v5 ((zr h 156 v5) + 1)) (o1) hs hF
set_option maxRecDepth 100000 in
set_option maxHeartbeats 400000 in
theorem f_M_plan_l84_l98_b_t {x : zm_X} {d : Nat} (v2 : Int32) (v3 : Int32) (v4 : Int32) (v5 : Int32) (h : zm_H) (o1 : Option Value) {Q : Option Value → zm_H → Prop} {FN : Nat × zm_H → Prop} (hs : zSh zT0 h) (ho : f_M_plan_l84_l98_b_ok v2 v3 v4 v5 h) (hF : FN (f_M_plan_l84_l98_b v2 v3 v4 v5 h)) (hl0 : ∀ (h : zm_H) (o1 : Option Value), zSh zT0 h → FN (0, h) → zg x (d + 5) 251 98 [some (.ref 92), o1, some (.int v2), some (.int v3), some (.int v4), some (.int v5)] [] h Q) (hl1 : ∀ (h : zm_H) (o1 : Option Value), zSh zT0 h → FN (1, h) → zg x (d + 5) 251 122 [some (.ref 92), o1, some (.int v2), some (.int v3), some (.int v4), some (.int v5)] [] h Q) : zg x (d + 5) 251 98 [some (.ref 92), o1, some (.int v2), some (.int v3), some (.int v4), some (.int v5)] [] h Q := by
  unfold f_M_plan_l84_l98_b at hF
  unfold f_M_plan_l84_l98_b_ok at ho
  refine zg_blk zd_251 2 hs (rfl : zb x zT0 zc_251 2 (98, [some (.ref 92), o1, some (.int v2), some (.int v3), some (.int v4), some (.int v5)], [], h) = some (100, [some (.ref 92), o1, some (.int v2), some (.int v3), some (.int v4), some (.int v5)], [.int v3, .ref 92], h)) (fun hs => ?_)
  obtain ⟨hob, ho⟩ := ho
  refine zg_call hs zd_251 rfl rfl rfl rfl (as := [.ref 92, .int v3]) (rest := []) (en := [some (.ref 92), some (.int v3), none, none, none, none, none]) rfl rfl rfl rfl rfl ?_
  refine f_M_bestOf_t v3 h hs hob (fun hs => ?_)
  show zg x (d + 5) 251 103 [some (.ref 92), o1, some (.int v2), some (.int v3), some (.int v4), some (.int v5)] [.int (f_M_bestOf v3 h).1] (f_M_bestOf v3 h).2 Q
  exact f_M_plan_l84_l98_k103_t v2 v3 v4 v5 (f_M_bestOf v3 h).1 (f_M_bestOf v3 h).2 (o1) hs ho hF hl0 hl1
theorem f_M_plan_l84_l98_t {x : zm_X} {d : Nat} (v2 : Int32) (v3 : Int32) (v4 : Int32) (v5 : Int32) {Q : Option Value → zm_H → Prop} (G : Nat × zm_H → Prop) (hx1 : ∀ (h : zm_H) (o1 : Option Value), zSh zT0 h → G (1, h) → zg x (d + 5) 251 122 [some (.ref 92), o1, some (.int v2), some (.int v3), some (.int v4), some (.int v5)] [] h Q) : ∀ (n : Nat) (h : zm_H) (o1 : Option Value), zSh zT0 h → f_M_plan_l84_l98_ok v2 v3 v4 v5 n h → G (f_M_plan_l84_l98 v2 v3 v4 v5 n h) → zg x (d + 5) 251 98 [some (.ref 92), o1, some (.int v2), some (.int v3), some (.int v4), some (.int v5)] [] h Q := by
  intro n
  induction n with
  | zero => intro h o1 hs ho hG; exact ho.elim
  | succ n ih =>
    intro h o1 hs ho hG
    refine f_M_plan_l84_l98_b_t (FN := fun r => (r.1 = 0 → f_M_plan_l84_l98_ok v2 v3 v4 v5 n r.2) ∧ G (if r.1 = 0 then f_M_plan_l84_l98 v2 v3 v4 v5 n r.2 else r)) v2 v3 v4 v5 h o1 hs ho.1 ⟨ho.2, hG⟩ ?_ ?_
    · intro h o1 hs hF
      exact ih h o1 hs (hF.1 rfl) hF.2
    · intro h o1 hs hF
      exact hx1 h o1 hs hF.2

set_option maxRecDepth 100000 in
set_option maxHeartbeats 400000 in
theorem f_M_plan_l84_k122_t {x : zm_X} {d : Nat} (v2 : Int32) (v3 : Int32) (v4 : Int32) (v5 : Int32) (h : zm_H) (o1 : Option Value) {Q : Option Value → zm_H → Prop} {FN : Nat × Int32 × zm_H → Prop} (hs : zSh zT0 h) (ho : f_M_plan_l84_k122_ok v2 v3 v4 v5 h) (hF : FN (f_M_plan_l84_k122 v2 v3 v4 v5 h)) (hl0 : ∀ (v5 : Int32) (h : zm_H) (o1 : Option Value), zSh zT0 h → FN (0, v5, h) → zg x (d + 5) 251 84 [some (.ref 92), o1, some (.int v2), some (.int v3), some (.int v4), some (.int v5)] [] h Q) (hl1 : ∀ (v5 : Int32) (h : zm_H) (o1 : Option Value) (o5 : Option Value), zSh zT0 h → FN (1, v5, h) → zg x (d + 5) 251 128 [some (.ref 92), o1, some (.int v2), some (.int v3), some (.int v4), o5] [] h Q) : zg x (d + 5) 251 122 [some (.ref 92), o1, some (.int v2), some (.int v3), some (.int v4), some (.int v5)] [] h Q := by
  unfold f_M_plan_l84_k122 at hF
  unfold f_M_plan_l84_k122_ok at ho
  refine zg_blk zd_251 2 hs (rfl : zb x zT0 zc_251 2 (122, [some (.ref 92), o1, some (.int v2), some (.int v3), some (.int v4), some (.int v5)], [], h) = some (84, [some (.ref 92), o1, some (.int v2), some (.int v3), some (.int v4), some (.int (v5 + 1))], [], h)) (fun hs => ?_)
  exact hl0 (v5 + 1) h (o1) hs hF
set_option maxRecDepth 100000 in
set_option maxHeartbeats 400000 in
theorem f_M_plan_l84_b_t {x : zm_X} {d : Nat} (v2 : Int32) (v3 : Int32) (v4 : Int32) (v5 : Int32) (h : zm_H) (o1 : Option Value) {Q : Option Value → zm_H → Prop} {FN : Nat × Int32 × zm_H → Prop} (hs : zSh zT0 h) (ho : f_M_plan_l84_b_ok v2 v3 v4 v5 h) (hF : FN (f_M_plan_l84_b v2 v3 v4 v5 h)) (hl0 : ∀ (v5 : Int32) (h : zm_H) (o1 : Option Value), zSh zT0 h → FN (0, v5, h) → zg x (d + 5) 251 84 [some (.ref 92), o1, some (.int v2), some (.int v3), some (.int v4), some (.int v5)] [] h Q) (hl1 : ∀ (v5 : Int32) (h : zm_H) (o1 : Option Value) (o5 : Option Value), zSh zT0 h → FN (1, v5, h) → zg x (d + 5) 251 128 [some (.ref 92), o1, some (.int v2), some (.int v3), some (.int v4), o5] [] h Q) : zg x (d + 5) 251 84 [some (.ref 92), o1, some (.int v2), some (.int v3), some (.int v4), some (.int v5)] [] h Q := by
  unfold f_M_plan_l84_b at hF
  unfold f_M_plan_l84_b_ok at ho
  refine zg_blk zd_251 2 hs (rfl : zb x zT0 zc_251 2 (84, [some (.ref 92), o1, some (.int v2), some (.int v3), some (.int v4), some (.int v5)], [], h) = some (87, [some (.ref 92), o1, some (.int v2), some (.int v3), some (.int v4), some (.int v5)], [.int v2, .int v5], h)) (fun hs => ?_)
  refine zg_i_gt zd_251 rfl (fun (hc : (v2 < v5)) => ?_) (fun (hc : ¬ (v2 < v5)) => ?_)
  · have ho := ho.1 hc
    rw [if_pos hc] at hF
    exact hl1 v5 h (o1) (some (.int v5)) hs hF
  · have ho := ho.2 hc
    rw [if_neg hc] at hF
    refine zg_blk zd_251 4 hs (rfl : zb x zT0 zc_251 4 (90, [some (.ref 92), o1, some (.int v2), some (.int v3), some (.int v4), some (.int v5)], [], h) = some (97, [some (.ref 92), o1, some (.int v2), some (.int v3), some (.int v4), some (.int v5)], [.int 0, .int v5, .ref 156], h)) (fun hs => ?_)
    obtain ⟨hob, ho⟩ := ho
    refine zg_ias hs zd_251 rfl rfl hob (fun hs => ?_)
    refine f_M_plan_l84_l98_t v2 v3 v4 v5 (fun r => f_M_plan_l84_a98_ok v2 v3 v4 v5 r ∧ FN (f_M_plan_l84_a98 v2 v3 v4 v5 r)) ?_ zF (zs h 156 v5 0) (o1) hs ho.1 ⟨ho.2, hF⟩
    · intro h_ o1_ hs hG
      have ho : True := trivial
      have hF : FN ((f_M_plan_l84_k122 v2 v3 v4 v5 h_)) := hG.2
      exact f_M_plan_l84_k122_t v2 v3 v4 v5 h_ (o1_) hs trivial hF hl0 hl1
theorem f_M_plan_l84_t {x : zm_X} {d : Nat} (v2 : Int32) (v3 : Int32) (v4 : Int32) {Q : Option Value → zm_H → Prop} (G : Nat × Int32 × zm_H → Prop) (hx1 : ∀ (v5 : Int32) (h : zm_H) (o1 : Option Value) (o5 : Option Value), zSh zT0 h → G (1, v5, h) → zg x (d + 5) 251 128 [some (.ref 92), o1, some (.int v2), some (.int v3), some (.int v4), o5] [] h Q) : ∀ (n : Nat) (v5 : Int32) (h : zm_H) (o1 : Option Value), zSh zT0 h → f_M_plan_l84_ok v2 v3 v4 n (v5, h) → G (f_M_plan_l84 v2 v3 v4 n (v5, h)) → zg x (d + 5) 251 84 [some (.ref 92), o1, some (.int v2), some (.int v3), some (.int v4), some (.int v5)] [] h Q := by
  intro n
  induction n with
  | zero => intro v5 h o1 hs ho hG; exact ho.elim
  | succ n ih =>
    intro v5 h o1 hs ho hG
    refine f_M_plan_l84_b_t (FN := fun r => (r.1 = 0 → f_M_plan_l84_ok v2 v3 v4 n r.2) ∧ G (if r.1 = 0 then f_M_plan_l84 v2 v3 v4 n r.2 else r)) v2 v3 v4 v5 h o1 hs ho.1 ⟨ho.2, hG⟩ ?_ ?_
    · intro v5 h o1 hs hF
      exact ih v5 h o1 hs (hF.1 rfl) hF.2
    · intro v5 h o1 o5 hs hF
      exact hx1 v5 h o1 o5 hs hF.2

set_option maxRecDepth 100000 in
set_option maxHeartbeats 400000 in
theorem f_M_plan_k128_t {x : zm_X} {d : Nat} (v2 : Int32) (v3 : Int32) (h : zm_H) (o1 : Option Value) (o4 : Option Value) (o5 : Option Value) {Q : Option Value → zm_H → Prop} (hs : zSh zT0 h) (ho : f_M_plan_k128_ok v2 v3 h) (hF : (zSh zT0 (f_M_plan_k128 v2 v3 h).2 → Q (some (.int (f_M_plan_k128 v2 v3 h).1)) (f_M_plan_k128 v2 v3 h).2)) : zg x (d + 5) 251 128 [some (.ref 92), o1, some (.int v2), some (.int v3), o4, o5] [] h Q := by
  unfold f_M_plan_k128 at hF
  unfold f_M_plan_k128_ok at ho
  refine zg_blk zd_251 3 hs (rfl : zb x zT0 zc_251 3 (128, [some (.ref 92), o1, some (.int v2), some (.int v3), o4, o5], [], h) = some (133, [some (.ref 92), o1, some (.int v2), some (.int v3), o4, o5], [.int v2, .ref 156], h)) (fun hs => ?_)
  obtain ⟨hob, ho⟩ := ho
  refine zg_ial hs zd_251 rfl rfl hob ?_
  refine zg_blk zd_251 1 hs (rfl : zb x zT0 zc_251 1 (134, [some (.ref 92), o1, some (.int v2), some (.int v3), o4, o5], [.int (zr h 156 v2)], h) = some (135, [some (.ref 92), o1, some (.int v2), some (.int v3), o4, o5], [.int v3, .int (zr h 156 v2)], h)) (fun hs => ?_)
  have hom := ho
  have K170 : zSh zT0 h → zg x (d + 5) 251 148 [some (.ref 92), o1, some (.int v2), some (.int v3), o4, o5] [.int (if ((zr h 156 v2) = v3) then ((-1) : Int32) else (zr h 156 v2))] h Q := fun hs => by
    exact zg_ret zd_251 rfl rfl (hF hs)
  refine zg_i_ne zd_251 rfl (fun (hc : ¬ ((zr h 156 v2) = v3)) => ?_) (fun (hc : ((zr h 156 v2) = v3)) => ?_)
  · have ho := hom.2 hc
    rw [show ((if ((zr h 156 v2) = v3) then ((-1) : Int32) else (zr h 156 v2)) : Int32) = (zr h 156 v2) from if_neg hc] at K170
    refine zg_blk zd_251 3 hs (rfl : zb x zT0 zc_251 3 (142, [some (.ref 92), o1, some (.int v2), some (.int v3), o4, o5], [], h) = some (147, [some (.ref 92), o1, some (.int v2), some (.int v3), o4, o5], [.int v2, .ref 156], h)) (fun hs => ?_)
    have hob := ho
    refine zg_ial hs zd_251 rfl rfl hob ?_
    exact K170 hs
  · have ho := hom.1 hc
    rw [show ((if ((zr h 156 v2) = v3) then ((-1) : Int32) else (zr h 156 v2)) : Int32) = (-1) from if_pos hc] at K170
    refine zg_blk zd_251 2 hs (rfl : zb x zT0 zc_251 2 (138, [some (.ref 92), o1, some (.int v2), some (.int v3), o4, o5], [], h) = some (148, [some (.ref 92), o1, some (.int v2), some (.int v3), o4, o5], [.int (-1)], h)) (fun hs => ?_)
    exact K170 hs
set_option maxRecDepth 100000 in
set_option maxHeartbeats 400000 in
theorem f_M_plan_k63_t {x : zm_X} {d : Nat} (v2 : Int32) (v3 : Int32) (w0 : Int32) (h : zm_H) (o1 : Option Value) (o4 : Option Value) (o5 : Option Value) {Q : Option Value → zm_H → Prop} (hs : zSh zT0 h) (ho : f_M_plan_k63_ok v2 v3 w0 h) (hF : (zSh zT0 (f_M_plan_k63 v2 v3 w0 h).2 → Q (some (.int (f_M_plan_k63 v2 v3 w0 h).1)) (f_M_plan_k63 v2 v3 w0 h).2)) : zg x (d + 5) 251 63 [some (.ref 92), o1, some (.int v2), some (.int v3), o4, o5] [.int w0] h Q := by
  unfold f_M_plan_k63 at hF
  unfold f_M_plan_k63_ok at ho
  refine zg_blk zd_251 3 hs (rfl : zb x zT0 zc_251 3 (63, [some (.ref 92), o1, some (.int v2), some (.int v3), o4, o5], [.int w0], h) = some (67, [some (.ref 92), o1, some (.int v2), some (.int v3), some (.int w0), o5], [.int (-1), .int v2], h)) (fun hs => ?_)
  refine zg_i_ne zd_251 rfl (fun (hc : ¬ (v2 = (-1))) => ?_) (fun (hc : (v2 = (-1))) => ?_)
  · have ho := ho.2 hc
    rw [if_neg hc] at hF
    refine zg_blk zd_251 2 hs (rfl : zb x zT0 zc_251 2 (81, [some (.ref 92), o1, some (.int v2), some (.int v3), some (.int w0), o5], [], h) = some (84, [some (.ref 92), o1, some (.int v2), some (.int v3), some (.int w0), some (.int 0)], [], h)) (fun hs => ?_)
    refine f_M_plan_l84_t v2 v3 w0 (fun r => f_M_plan_a84_ok v2 v3 r ∧ (zSh zT0 (f_M_plan_a84 v2 v3 r).2 → Q (some (.int (f_M_plan_a84 v2 v3 r).1)) (f_M_plan_a84 v2 v3 r).2)) ?_ zF 0 h (o1) hs ho.1 ⟨ho.2, hF⟩
    · intro v5_ h_ o1_ o5_ hs hG
      have ho : (f_M_plan_k128_ok v2 v3 h_) := hG.1
      have hF : (zSh zT0 ((f_M_plan_k128 v2 v3 h_)).2 → Q (some (.int ((f_M_plan_k128 v2 v3 h_)).1)) ((f_M_plan_k128 v2 v3 h_)).2) := hG.2
      exact f_M_plan_k128_t v2 v3 h_ (o1_) (some (.int w0)) (o5_) hs ho hF
  · have ho := ho.1 hc
    rw [if_pos hc] at hF
    refine zg_blk zd_251 5 hs (rfl : zb x zT0 zc_251 5 (70, [some (.ref 92), o1, some (.int v2), some (.int v3), some (.int w0), o5], [], h) = some (80, [some (.ref 92), o1, some (.int v2), some (.int v3), some (.int w0), o5], [.int ((w0 + 999) / 1000)], h)) (fun hs => ?_)
    exact zg_ret zd_251 rfl rfl (hF hs)
set_option maxRecDepth 100000 in
set_option maxHeartbeats 400000 in
theorem f_M_plan_k58_t {x : zm_X} {d : Nat} (v2 : Int32) (v3 : Int32) (h : zm_H) (o1 : Option Value) (o4 : Option Value) (o5 : Option Value) {Q : Option Value → zm_H → Prop} (hs : zSh zT0 h) (ho : f_M_plan_k58_ok v2 v3 h) (hF : (zSh zT0 (f_M_plan_k58 v2 v3 h).2 → Q (some (.int (f_M_plan_k58 v2 v3 h).1)) (f_M_plan_k58 v2 v3 h).2)) : zg x (d + 5) 251 58 [some (.ref 92), o1, some (.int v2), some (.int v3), o4, o5] [] h Q := by
  unfold f_M_plan_k58 at hF
  unfold f_M_plan_k58_ok at ho
  refine zg_blk zd_251 2 hs (rfl : zb x zT0 zc_251 2 (58, [some (.ref 92), o1, some (.int v2), some (.int v3), o4, o5], [], h) = some (60, [some (.ref 92), o1, some (.int v2), some (.int v3), o4, o5], [.int v3, .ref 92], h)) (fun hs => ?_)
  obtain ⟨hob, ho⟩ := ho
  refine zg_call hs zd_251 rfl rfl rfl rfl (as := [.ref 92, .int v3]) (rest := []) (en := [some (.ref 92), some (.int v3), none, none, none, none, none]) rfl rfl rfl rfl rfl ?_
  refine f_M_bestOf_t v3 h hs hob (fun hs => ?_)
  show zg x (d + 5) 251 63 [some (.ref 92), o1, some (.int v2), some (.int v3), o4, o5] [.int (f_M_bestOf v3 h).1] (f_M_bestOf v3 h).2 Q
  exact f_M_plan_k63_t v2 v3 (f_M_bestOf v3 h).1 (f_M_bestOf v3 h).2 (o1) (o4) (o5) hs ho hF
set_option maxRecDepth 100000 in
set_option maxHeartbeats 400000 in
theorem f_M_plan_k32_t {x : zm_X} {d : Nat} (v2 : Int32) (v3 : Int32) (h : zm_H) (o1 : Option Value) (o4 : Option Value) (o5 : Option Value) {Q : Option Value → zm_H → Prop} (hs : zSh zT0 h) (ho : f_M_plan_k32_ok v2 v3 h) (hF : (zSh zT0 (f_M_plan_k32 v2 v3 h).2 → Q (some (.int (f_M_plan_k32 v2 v3 h).1)) (f_M_plan_k32 v2 v3 h).2)) : zg x (d + 5) 251 32 [some (.ref 92), o1, some (.int v2), some (.int v3), o4, o5] [] h Q := by
  unfold f_M_plan_k32 at hF
  unfold f_M_plan_k32_ok at ho
  refine zg_blk zd_251 2 hs (rfl : zb x zT0 zc_251 2 (32, [some (.ref 92), o1, some (.int v2), some (.int v3), o4, o5], [], h) = some (35, [some (.ref 92), o1, some (.int v2), some (.int v3), some (.int 0), o5], [], h)) (fun hs => ?_)
  refine f_M_plan_l35_t v2 v3 (fun r => f_M_plan_a35_ok v2 v3 r ∧ (zSh zT0 (f_M_plan_a35 v2 v3 r).2 → Q (some (.int (f_M_plan_a35 v2 v3 r).1)) (f_M_plan_a35 v2 v3 r).2)) ?_ zF 0 h (o1) (o5) hs ho.1 ⟨ho.2, hF⟩
  · intro v4_ h_ o1_ o4_ o5_ hs hG
    have ho : (f_M_plan_k58_ok v2 v3 h_) := hG.1
    have hF : (zSh zT0 ((f_M_plan_k58 v2 v3 h_)).2 → Q (some (.int ((f_M_plan_k58 v2 v3 h_)).1)) ((f_M_plan_k58 v2 v3 h_)).2) := hG.2
    exact f_M_plan_k58_t v2 v3 h_ (o1_) (o4_) (o5_) hs ho hF
set_option maxRecDepth 100000 in
set_option maxHeartbeats 400000 in
theorem f_M_plan_k5_t {x : zm_X} {d : Nat} (v2 : Int32) (w0 : Int32) (h : zm_H) (o1 : Option Value) (o3 : Option Value) (o4 : Option Value) (o5 : Option Value) {Q : Option Value → zm_H → Prop} (hs : zSh zT0 h) (ho : f_M_plan_k5_ok v2 w0 h) (hF : (zSh zT0 (f_M_plan_k5 v2 w0 h).2 → Q (some (.int (f_M_plan_k5 v2 w0 h).1)) (f_M_plan_k5 v2 w0 h).2)) : zg x (d + 5) 251 5 [some (.ref 92), o1, some (.int v2), o3, o4, o5] [.int w0] h Q := by
  unfold f_M_plan_k5 at hF
  unfold f_M_plan_k5_ok at ho
  refine zg_blk zd_251 3 hs (rfl : zb x zT0 zc_251 3 (5, [some (.ref 92), o1, some (.int v2), o3, o4, o5], [.int w0], h) = some (8, [some (.ref 92), o1, some (.int v2), some (.int w0), o4, o5], [.int (-1), .int w0], h)) (fun hs => ?_)
  refine zg_i_eq zd_251 rfl (fun (hc : (w0 = (-1))) => ?_) (fun (hc : ¬ (w0 = (-1))) => ?_)
  · have ho := ho.1 hc
    rw [if_pos hc] at hF
    refine zg_blk zd_251 1 hs (rfl : zb x zT0 zc_251 1 (30, [some (.ref 92), o1, some (.int v2), some (.int w0), o4, o5], [], h) = some (31, [some (.ref 92), o1, some (.int v2), some (.int w0), o4, o5], [.int (-1)], h)) (fun hs => ?_)
    exact zg_ret zd_251 rfl rfl (hF hs)
  · have ho := ho.2 hc
    rw [if_neg hc] at hF
    refine zg_blk zd_251 2 hs (rfl : zb x zT0 zc_251 2 (11, [some (.ref 92), o1, some (.int v2), some (.int w0), o4, o5], [], h) = some (13, [some (.ref 92), o1, some (.int v2), some (.int w0), o4, o5], [.int (-1), .int v2], h)) (fun hs => ?_)
    refine zg_i_eq zd_251 rfl (fun (hc : (v2 = (-1))) => ?_) (fun (hc : ¬ (v2 = (-1))) => ?_)
    · have ho := ho.1 hc
      rw [if_pos hc] at hF
      exact f_M_plan_k32_t v2 w0 h (o1) (o4) (o5) hs ho hF
    · have ho := ho.2 hc
      rw [if_neg hc] at hF
      refine zg_blk zd_251 6 hs (rfl : zb x zT0 zc_251 6 (16, [some (.ref 92), o1, some (.int v2), some (.int w0), o4, o5], [], h) = some (24, [some (.ref 92), o1, some (.int v2), some (.int w0), o4, o5], [.int ((zf h 92 72) - 1), .int 0, .int v2], h)) (fun hs => ?_)
      refine zg_call hs zd_251 rfl rfl rfl rfl (as := [.int v2, .int 0, .int ((zf h 92 72) - 1)]) (rest := []) (en := [some (.int v2), some (.int 0), some (.int ((zf h 92 72) - 1))]) rfl rfl rfl rfl rfl ?_
      refine f_M_in_t v2 0 ((zf h 92 72) - 1) h hs trivial ?_
      show zg x (d + 5) 251 27 [some (.ref 92), o1, some (.int v2), some (.int w0), o4, o5] [.int (if (¬ (v2 < 0) ∧ (¬ (((zf h 92 72) - 1) < v2))) then (1 : Int32) else 0)] h Q
      refine zg_b_ne zd_251 rfl (fun (hc : (¬ (v2 < 0) ∧ (¬ (((zf h 92 72) - 1) < v2)))) => ?_) (fun (hc : ¬ (¬ (v2 < 0) ∧ (¬ (((zf h 92 72) - 1) < v2)))) => ?_)
      · have ho := ho.1 hc
        rw [if_pos hc] at hF
        exact f_M_plan_k32_t v2 w0 h (o1) (o4) (o5) hs ho hF
      · have ho := ho.2 hc
        rw [if_neg hc] at hF
        refine zg_blk zd_251 1 hs (rfl : zb x zT0 zc_251 1 (30, [some (.ref 92), o1, some (.int v2), some (.int w0), o4, o5], [], h) = some (31, [some (.ref 92), o1, some (.int v2), some (.int w0), o4, o5], [.int (-1)], h)) (fun hs => ?_)
        exact zg_ret zd_251 rfl rfl (hF hs)
set_option maxRecDepth 100000 in
set_option maxHeartbeats 400000 in
theorem f_M_plan_t {x : zm_X} {d : Nat} (p1 : Int32) (p2 : Int32) (h : zm_H) {Q : Option Value → zm_H → Prop} (hs : zSh zT0 h) (ho : f_M_plan_ok p1 p2 h) (hF : (zSh zT0 (f_M_plan p1 p2 h).2 → Q (some (.int (f_M_plan p1 p2 h).1)) (f_M_plan p1 p2 h).2)) : zg x (d + 5) 251 0 [some (.ref 92), some (.int p1), some (.int p2), none, none, none] [] h Q := by
  unfold f_M_plan at hF
  unfold f_M_plan_ok at ho
  refine zg_blk zd_251 2 hs (rfl : zb x zT0 zc_251 2 (0, [some (.ref 92), some (.int p1), some (.int p2), none, none, none], [], h) = some (2, [some (.ref 92), some (.int p1), some (.int p2), none, none, none], [.int p1, .ref 92], h)) (fun hs => ?_)
  obtain ⟨hob, ho⟩ := ho
  refine zg_call hs zd_251 rfl rfl rfl rfl (as := [.ref 92, .int p1]) (rest := []) (en := [some (.ref 92), some (.int p1), none, none, none, none]) rfl rfl rfl rfl rfl ?_
  refine f_M_windows_t p1 h hs hob (fun hs => ?_)
  show zg x (d + 5) 251 5 [some (.ref 92), some (.int p1), some (.int p2), none, none, none] [.int (f_M_windows p1 h).1] (f_M_windows p1 h).2 Q
  exact f_M_plan_k5_t p2 (f_M_windows p1 h).1 (f_M_windows p1 h).2 (some (.int p1)) (none) (none) (none) hs ho hF
theorem zd_162 : zm_cd 162 = zc_162 := by rfl
theorem zd_35 : zm_cd 35 = zc_35 := by rfl
set_option maxRecDepth 100000 in
set_option maxHeartbeats 400000 in
theorem f_Ground_addPlace_l2_b_t {x : zm_X} {d : Nat} (v1 : Int32) (v2 : Int32) (h : zm_H) {Q : Option Value → zm_H → Prop} {FN : Nat × Int32 → Prop} (hs : zSh zT0 h) (ho : f_Ground_addPlace_l2_b_ok v1 v2 h) (hF : FN (f_Ground_addPlace_l2_b v1 v2 h)) (hl0 : ∀ (v2 : Int32), zSh zT0 h → FN (0, v2) → zg x (d + 1) 35 2 [some (.ref 82), some (.int v1), some (.int v2)] [] h Q) (hl1 : ∀ (v2 : Int32) (o2 : Option Value), zSh zT0 h → FN (1, v2) → zg x (d + 1) 35 20 [some (.ref 82), some (.int v1), o2] [] h Q) (hl2 : ∀ (v2 : Int32) (o2 : Option Value), zSh zT0 h → FN (2, v2) → zg x (d + 1) 35 28 [some (.ref 82), some (.int v1), o2] [] h Q) : zg x (d + 1) 35 2 [some (.ref 82), some (.int v1), some (.int v2)] [] h Q := by
  unfold f_Ground_addPlace_l2_b at hF
  unfold f_Ground_addPlace_l2_b_ok at ho
  refine zg_blk zd_35 3 hs (rfl : zb x zT0 zc_35 3 (2, [some (.ref 82), some (.int v1), some (.int v2)], [], h) = some (7, [some (.ref 82), some (.int v1), some (.int v2)], [.int (zf h 82 7), .int v2], h)) (fun hs => ?_)
  refine zg_i_ge zd_35 rfl (fun (hc : ((zf h 82 7) ≤ v2)) => ?_) (fun (hc : ¬ ((zf h 82 7) ≤ v2)) => ?_)
  · have ho := ho.1 hc
    rw [if_pos hc] at hF
    exact hl2 v2 (some (.int v2)) hs hF
  · have ho := ho.2 hc
    rw [if_neg hc] at hF
    refine zg_blk zd_35 3 hs (rfl : zb x zT0 zc_35 3 (10, [some (.ref 82), some (.int v1), some (.int v2)], [], h) = some (15, [some (.ref 82), some (.int v1), some (.int v2)], [.int v2, .ref 86], h)) (fun hs => ?_)
    have hob := ho
    refine zg_ial hs zd_35 rfl rfl hob ?_
    refine zg_blk zd_35 1 hs (rfl : zb x zT0 zc_35 1 (16, [some (.ref 82), some (.int v1), some (.int v2)], [.int (zr h 86 v2)], h) = some (17, [some (.ref 82), some (.int v1), some (.int v2)], [.int v1, .int (zr h 86 v2)], h)) (fun hs => ?_)
    refine zg_i_ne zd_35 rfl (fun (hc : ¬ ((zr h 86 v2) = v1)) => ?_) (fun (hc : ((zr h 86 v2) = v1)) => ?_)
    · skip
      rw [if_neg hc] at hF
      refine zg_blk zd_35 2 hs (rfl : zb x zT0 zc_35 2 (22, [some (.ref 82), some (.int v1), some (.int v2)], [], h) = some (2, [some (.ref 82), some (.int v1), some (.int (v2 + 1))], [], h)) (fun hs => ?_)
      exact hl0 (v2 + 1) hs hF
    · skip
      rw [if_pos hc] at hF
      exact hl1 v2 (some (.int v2)) hs hF
theorem f_Ground_addPlace_l2_t {x : zm_X} {d : Nat} (v1 : Int32) (h : zm_H) {Q : Option Value → zm_H → Prop} (G : Nat × Int32 → Prop) (hx1 : ∀ (v2 : Int32) (o2 : Option Value), zSh zT0 h → G (1, v2) → zg x (d + 1) 35 20 [some (.ref 82), some (.int v1), o2] [] h Q) (hx2 : ∀ (v2 : Int32) (o2 : Option Value), zSh zT0 h → G (2, v2) → zg x (d + 1) 35 28 [some (.ref 82), some (.int v1), o2] [] h Q) : ∀ (n : Nat) (v2 : Int32), zSh zT0 h → f_Ground_addPlace_l2_ok v1 h n v2 → G (f_Ground_addPlace_l2 v1 h n v2) → zg x (d + 1) 35 2 [some (.ref 82), some (.int v1), some (.int v2)] [] h Q := by
  intro n
  induction n with
  | zero => intro v2 hs ho hG; exact ho.elim
  | succ n ih =>
    intro v2 hs ho hG
    refine f_Ground_addPlace_l2_b_t (FN := fun r => (r.1 = 0 → f_Ground_addPlace_l2_ok v1 h n r.2) ∧ G (if r.1 = 0 then f_Ground_addPlace_l2 v1 h n r.2 else r)) v1 v2 h hs ho.1 ⟨ho.2, hG⟩ ?_ ?_ ?_
    · intro v2 hs hF
      exact ih v2 hs (hF.1 rfl) hF.2
    · intro v2 o2 hs hF
      exact hx1 v2 o2 hs hF.2
    · intro v2 o2 hs hF
      exact hx2 v2 o2 hs hF.2

set_option maxRecDepth 100000 in
set_option maxHeartbeats 400000 in
theorem f_Ground_addPlace_k20_t {x : zm_X} {d : Nat} (h : zm_H) (o0 : Option Value) (z1 : Int32) (o2 : Option Value) {Q : Option Value → zm_H → Prop} (hs : zSh zT0 h) (ho : f_Ground_addPlace_k20_ok h) (hF : (zSh zT0 (f_Ground_addPlace_k20 h).2 → Q (some (.int (f_Ground_addPlace_k20 h).1)) (f_Ground_addPlace_k20 h).2)) : zg x (d + 1) 35 20 [o0, some (.int z1), o2] [] h Q := by
  unfold f_Ground_addPlace_k20 at hF
  unfold f_Ground_addPlace_k20_ok at ho
  refine zg_blk zd_35 1 hs (rfl : zb x zT0 zc_35 1 (20, [o0, some (.int z1), o2], [], h) = some (21, [o0, some (.int z1), o2], [.int (-1)], h)) (fun hs => ?_)
  exact zg_ret zd_35 rfl rfl (hF hs)
set_option maxRecDepth 100000 in
set_option maxHeartbeats 400000 in
theorem f_Ground_addPlace_k28_t {x : zm_X} {d : Nat} (v1 : Int32) (h : zm_H) (o2 : Option Value) {Q : Option Value → zm_H → Prop} (hs : zSh zT0 h) (ho : f_Ground_addPlace_k28_ok v1 h) (hF : (zSh zT0 (f_Ground_addPlace_k28 v1 h).2 → Q (some (.int (f_Ground_addPlace_k28 v1 h).1)) (f_Ground_addPlace_k28 v1 h).2)) : zg x (d + 1) 35 28 [some (.ref 82), some (.int v1), o2] [] h Q := by
  unfold f_Ground_addPlace_k28 at hF
  unfold f_Ground_addPlace_k28_ok at ho
  refine zg_blk zd_35 3 hs (rfl : zb x zT0 zc_35 3 (28, [some (.ref 82), some (.int v1), o2], [], h) = some (34, [some (.ref 82), some (.int v1), o2], [.int 8, .int (zf h 82 7)], h)) (fun hs => ?_)
  refine zg_i_lt zd_35 rfl (fun (hc : ((zf h 82 7) < 8)) => ?_) (fun (hc : ¬ ((zf h 82 7) < 8)) => ?_)
  · have ho := ho.1 hc
    rw [if_pos hc] at hF
    refine zg_blk zd_35 5 hs (rfl : zb x zT0 zc_35 5 (39, [some (.ref 82), some (.int v1), o2], [], h) = some (48, [some (.ref 82), some (.int v1), o2], [.int v1, .int (zf h 82 7), .ref 86], h)) (fun hs => ?_)
    have hob := ho
    refine zg_ias hs zd_35 rfl rfl hob (fun hs => ?_)
    refine zg_blk zd_35 8 hs (rfl : zb x zT0 zc_35 8 (49, [some (.ref 82), some (.int v1), o2], [], (zs h 86 (zf h 82 7) v1)) = some (63, [some (.ref 82), some (.int v1), o2], [.int ((zf h 82 7) + 1)], (zp (zs h 86 (zf h 82 7) v1) 82 7 ((zf h 82 7) + 1)))) (fun hs => ?_)
    exact zg_ret zd_35 rfl rfl (hF hs)
  · have ho := ho.2 hc
    rw [if_neg hc] at hF
    refine zg_blk zd_35 1 hs (rfl : zb x zT0 zc_35 1 (37, [some (.ref 82), some (.int v1), o2], [], h) = some (38, [some (.ref 82), some (.int v1), o2], [.int (-1)], h)) (fun hs => ?_)
    exact zg_ret zd_35 rfl rfl (hF hs)
set_option maxRecDepth 100000 in
set_option maxHeartbeats 400000 in
theorem f_Ground_addPlace_t {x : zm_X} {d : Nat} (p1 : Int32) (h : zm_H) {Q : Option Value → zm_H → Prop} (hs : zSh zT0 h) (ho : f_Ground_addPlace_ok p1 h) (hF : (zSh zT0 (f_Ground_addPlace p1 h).2 → Q (some (.int (f_Ground_addPlace p1 h).1)) (f_Ground_addPlace p1 h).2)) : zg x (d + 1) 35 0 [some (.ref 82), some (.int p1), none] [] h Q := by
  unfold f_Ground_addPlace at hF
  unfold f_Ground_addPlace_ok at ho
  refine zg_blk zd_35 2 hs (rfl : zb x zT0 zc_35 2 (0, [some (.ref 82), some (.int p1), none], [], h) = some (2, [some (.ref 82), some (.int p1), some (.int 0)], [], h)) (fun hs => ?_)
  refine f_Ground_addPlace_l2_t p1 h (fun r => f_Ground_addPlace_a2_ok p1 r h ∧ (zSh zT0 (f_Ground_addPlace_a2 p1 r h).2 → Q (some (.int (f_Ground_addPlace_a2 p1 r h).1)) (f_Ground_addPlace_a2 p1 r h).2)) ?_ ?_ zF 0 hs ho.1 ⟨ho.2, hF⟩
  · intro v2_ o2_ hs hG
    have ho : True := trivial
    have hF : (zSh zT0 ((f_Ground_addPlace_k20 h)).2 → Q (some (.int ((f_Ground_addPlace_k20 h)).1)) ((f_Ground_addPlace_k20 h)).2) := hG.2
    exact f_Ground_addPlace_k20_t h (some (.ref 82)) p1 (o2_) hs trivial hF
  · intro v2_ o2_ hs hG
    have ho : (f_Ground_addPlace_k28_ok p1 h) := (hG.1).2 (show ¬ (2 : Nat) = 1 by decide)
    have hF : (zSh zT0 ((f_Ground_addPlace_k28 p1 h)).2 → Q (some (.int ((f_Ground_addPlace_k28 p1 h)).1)) ((f_Ground_addPlace_k28 p1 h)).2) := hG.2
    exact f_Ground_addPlace_k28_t p1 h (o2_) hs ho hF
set_option maxRecDepth 100000 in
set_option maxHeartbeats 400000 in
theorem f_N_place_t {x : zm_X} {d : Nat} (p1 : Int32) (h : zm_H) {Q : Option Value → zm_H → Prop} (hs : zSh zT0 h) (ho : f_N_place_ok p1 h) (hF : (zSh zT0 (f_N_place p1 h).2 → Q (some (.int (f_N_place p1 h).1)) (f_N_place p1 h).2)) : zg x (d + 2) 162 0 [some (.ref 0), some (.int p1)] [] h Q := by
  unfold f_N_place at hF
  unfold f_N_place_ok at ho
  refine zg_blk zd_162 1 hs (rfl : zb x zT0 zc_162 1 (0, [some (.ref 0), some (.int p1)], [], h) = some (1, [some (.ref 0), some (.int p1)], [.int p1], h)) (fun hs => ?_)
  refine zg_call hs zd_162 rfl rfl rfl rfl (as := [.int p1]) (rest := []) (en := [some (.int p1)]) rfl rfl rfl rfl rfl ?_
  refine f_N_isPlace_t p1 h hs trivial ?_
  show zg x (d + 2) 162 4 [some (.ref 0), some (.int p1)] [.int (if (¬ (p1 < 0) ∧ (¬ (100 ≤ p1) ∧ (¬ (5 ≤ (zm_rm p1 10))))) then (1 : Int32) else 0)] h Q
  refine zg_b_eq zd_162 rfl (fun (hc : ¬ (¬ (p1 < 0) ∧ (¬ (100 ≤ p1) ∧ (¬ (5 ≤ (zm_rm p1 10)))))) => ?_) (fun (hc : (¬ (p1 < 0) ∧ (¬ (100 ≤ p1) ∧ (¬ (5 ≤ (zm_rm p1 10)))))) => ?_)
  · have ho := ho.2 hc
    rw [if_neg hc] at hF
    refine zg_blk zd_162 1 hs (rfl : zb x zT0 zc_162 1 (18, [some (.ref 0), some (.int p1)], [], h) = some (19, [some (.ref 0), some (.int p1)], [.int (-1)], h)) (fun hs => ?_)
    exact zg_ret zd_162 rfl rfl (hF hs)
  · have ho := ho.1 hc
    rw [if_pos hc] at hF
    refine zg_blk zd_162 3 hs (rfl : zb x zT0 zc_162 3 (7, [some (.ref 0), some (.int p1)], [], h) = some (12, [some (.ref 0), some (.int p1)], [.int p1, .ref 82], h)) (fun hs => ?_)
    have hob := ho
    refine zg_call hs zd_162 rfl rfl rfl rfl (as := [.ref 82, .int p1]) (rest := []) (en := [some (.ref 82), some (.int p1), none]) rfl rfl rfl rfl rfl ?_
    refine f_Ground_addPlace_t p1 h hs hob (fun hs => ?_)
    show zg x (d + 2) 162 15 [some (.ref 0), some (.int p1)] [.int (f_Ground_addPlace p1 h).1] (f_Ground_addPlace p1 h).2 Q
    refine zg_blk zd_162 1 hs (rfl : zb x zT0 zc_162 1 (15, [some (.ref 0), some (.int p1)], [.int (f_Ground_addPlace p1 h).1], (f_Ground_addPlace p1 h).2) = some (19, [some (.ref 0), some (.int p1)], [.int (f_Ground_addPlace p1 h).1], (f_Ground_addPlace p1 h).2)) (fun hs => ?_)
    exact zg_ret zd_162 rfl rfl (hF hs)
theorem zd_254 : zm_cd 254 = zc_254 := by rfl
set_option maxRecDepth 100000 in
set_option maxHeartbeats 400000 in
theorem f_M_place_l20_b_t {x : zm_X} {d : Nat} (v1 : Int32) (v2 : Int32) (h : zm_H) {Q : Option Value → zm_H → Prop} {FN : Nat × Int32 → Prop} (hs : zSh zT0 h) (ho : f_M_place_l20_b_ok v1 v2 h) (hF : FN (f_M_place_l20_b v1 v2 h)) (hl0 : ∀ (v2 : Int32), zSh zT0 h → FN (0, v2) → zg x (d + 2) 254 20 [some (.ref 92), some (.int v1), some (.int v2)] [] h Q) (hl1 : ∀ (v2 : Int32) (o2 : Option Value), zSh zT0 h → FN (1, v2) → zg x (d + 2) 254 38 [some (.ref 92), some (.int v1), o2] [] h Q) (hl2 : ∀ (v2 : Int32) (o2 : Option Value), zSh zT0 h → FN (2, v2) → zg x (d + 2) 254 46 [some (.ref 92), some (.int v1), o2] [] h Q) : zg x (d + 2) 254 20 [some (.ref 92), some (.int v1), some (.int v2)] [] h Q := by
  unfold f_M_place_l20_b at hF
  unfold f_M_place_l20_b_ok at ho
  refine zg_blk zd_254 3 hs (rfl : zb x zT0 zc_254 3 (20, [some (.ref 92), some (.int v1), some (.int v2)], [], h) = some (25, [some (.ref 92), some (.int v1), some (.int v2)], [.int (zf h 92 75), .int v2], h)) (fun hs => ?_)
  refine zg_i_ge zd_254 rfl (fun (hc : ((zf h 92 75) ≤ v2)) => ?_) (fun (hc : ¬ ((zf h 92 75) ≤ v2)) => ?_)
  · have ho := ho.1 hc
    rw [if_pos hc] at hF
    exact hl2 v2 (some (.int v2)) hs hF
  · have ho := ho.2 hc
    rw [if_neg hc] at hF
    refine zg_blk zd_254 3 hs (rfl : zb x zT0 zc_254 3 (28, [some (.ref 92), some (.int v1), some (.int v2)], [], h) = some (33, [some (.ref 92), some (.int v1), some (.int v2)], [.int v2, .ref 148], h)) (fun hs => ?_)
    have hob := ho
    refine zg_ial hs zd_254 rfl rfl hob ?_
    refine zg_blk zd_254 1 hs (rfl : zb x zT0 zc_254 1 (34, [some (.ref 92), some (.int v1), some (.int v2)], [.int (zr h 148 v2)], h) = some (35, [some (.ref 92), some (.int v1), some (.int v2)], [.int v1, .int (zr h 148 v2)], h)) (fun hs => ?_)
    refine zg_i_ne zd_254 rfl (fun (hc : ¬ ((zr h 148 v2) = v1)) => ?_) (fun (hc : ((zr h 148 v2) = v1)) => ?_)
    · skip
      rw [if_neg hc] at hF
      refine zg_blk zd_254 2 hs (rfl : zb x zT0 zc_254 2 (40, [some (.ref 92), some (.int v1), some (.int v2)], [], h) = some (20, [some (.ref 92), some (.int v1), some (.int (v2 + 1))], [], h)) (fun hs => ?_)
      exact hl0 (v2 + 1) hs hF
    · skip
      rw [if_pos hc] at hF
      exact hl1 v2 (some (.int v2)) hs hF
theorem f_M_place_l20_t {x : zm_X} {d : Nat} (v1 : Int32) (h : zm_H) {Q : Option Value → zm_H → Prop} (G : Nat × Int32 → Prop) (hx1 : ∀ (v2 : Int32) (o2 : Option Value), zSh zT0 h → G (1, v2) → zg x (d + 2) 254 38 [some (.ref 92), some (.int v1), o2] [] h Q) (hx2 : ∀ (v2 : Int32) (o2 : Option Value), zSh zT0 h → G (2, v2) → zg x (d + 2) 254 46 [some (.ref 92), some (.int v1), o2] [] h Q) : ∀ (n : Nat) (v2 : Int32), zSh zT0 h → f_M_place_l20_ok v1 h n v2 → G (f_M_place_l20 v1 h n v2) → zg x (d + 2) 254 20 [some (.ref 92), some (.int v1), some (.int v2)] [] h Q := by
  intro n
  induction n with
  | zero => intro v2 hs ho hG; exact ho.elim
  | succ n ih =>
    intro v2 hs ho hG
    refine f_M_place_l20_b_t (FN := fun r => (r.1 = 0 → f_M_place_l20_ok v1 h n r.2) ∧ G (if r.1 = 0 then f_M_place_l20 v1 h n r.2 else r)) v1 v2 h hs ho.1 ⟨ho.2, hG⟩ ?_ ?_ ?_
    · intro v2 hs hF
      exact ih v2 hs (hF.1 rfl) hF.2
    · intro v2 o2 hs hF
      exact hx1 v2 o2 hs hF.2
    · intro v2 o2 hs hF
      exact hx2 v2 o2 hs hF.2

set_option maxRecDepth 100000 in
set_option maxHeartbeats 400000 in
theorem f_M_place_k38_t {x : zm_X} {d : Nat} (h : zm_H) (o0 : Option Value) (z1 : Int32) (o2 : Option Value) {Q : Option Value → zm_H → Prop} (hs : zSh zT0 h) (ho : f_M_place_k38_ok h) (hF : (zSh zT0 (f_M_place_k38 h).2 → Q (some (.int (f_M_place_k38 h).1)) (f_M_place_k38 h).2)) : zg x (d + 2) 254 38 [o0, some (.int z1), o2] [] h Q := by
  unfold f_M_place_k38 at hF
  unfold f_M_place_k38_ok at ho
  refine zg_blk zd_254 1 hs (rfl : zb x zT0 zc_254 1 (38, [o0, some (.int z1), o2], [], h) = some (39, [o0, some (.int z1), o2], [.int (-1)], h)) (fun hs => ?_)
  exact zg_ret zd_254 rfl rfl (hF hs)
set_option maxRecDepth 100000 in
set_option maxHeartbeats 400000 in
theorem f_M_place_k46_t {x : zm_X} {d : Nat} (v1 : Int32) (h : zm_H) (o2 : Option Value) {Q : Option Value → zm_H → Prop} (hs : zSh zT0 h) (ho : f_M_place_k46_ok v1 h) (hF : (zSh zT0 (f_M_place_k46 v1 h).2 → Q (some (.int (f_M_place_k46 v1 h).1)) (f_M_place_k46 v1 h).2)) : zg x (d + 2) 254 46 [some (.ref 92), some (.int v1), o2] [] h Q := by
  unfold f_M_place_k46 at hF
  unfold f_M_place_k46_ok at ho
  refine zg_blk zd_254 5 hs (rfl : zb x zT0 zc_254 5 (46, [some (.ref 92), some (.int v1), o2], [], h) = some (55, [some (.ref 92), some (.int v1), o2], [.int v1, .int (zf h 92 75), .ref 148], h)) (fun hs => ?_)
  have hob := ho
  refine zg_ias hs zd_254 rfl rfl hob (fun hs => ?_)
  refine zg_blk zd_254 8 hs (rfl : zb x zT0 zc_254 8 (56, [some (.ref 92), some (.int v1), o2], [], (zs h 148 (zf h 92 75) v1)) = some (70, [some (.ref 92), some (.int v1), o2], [.int ((zf h 92 75) + 1)], (zp (zs h 148 (zf h 92 75) v1) 92 75 ((zf h 92 75) + 1)))) (fun hs => ?_)
  exact zg_ret zd_254 rfl rfl (hF hs)
set_option maxRecDepth 100000 in
set_option maxHeartbeats 400000 in
theorem f_M_place_t {x : zm_X} {d : Nat} (p1 : Int32) (h : zm_H) {Q : Option Value → zm_H → Prop} (hs : zSh zT0 h) (ho : f_M_place_ok p1 h) (hF : (zSh zT0 (f_M_place p1 h).2 → Q (some (.int (f_M_place p1 h).1)) (f_M_place p1 h).2)) : zg x (d + 2) 254 0 [some (.ref 92), some (.int p1), none] [] h Q := by
  unfold f_M_place at hF
  unfold f_M_place_ok at ho
  refine zg_blk zd_254 1 hs (rfl : zb x zT0 zc_254 1 (0, [some (.ref 92), some (.int p1), none], [], h) = some (1, [some (.ref 92), some (.int p1), none], [.int p1], h)) (fun hs => ?_)
  refine zg_call hs zd_254 rfl rfl rfl rfl (as := [.int p1]) (rest := []) (en := [some (.int p1)]) rfl rfl rfl rfl rfl ?_
  refine f_M_isPlace_t p1 h hs trivial ?_
  show zg x (d + 2) 254 4 [some (.ref 92), some (.int p1), none] [.int (if (¬ (p1 < 0) ∧ (¬ (10 ≤ (p1 / 10)) ∧ (¬ (5 ≤ (zm_rm p1 10))))) then (1 : Int32) else 0)] h Q
  refine zg_b_eq zd_254 rfl (fun (hc : ¬ (¬ (p1 < 0) ∧ (¬ (10 ≤ (p1 / 10)) ∧ (¬ (5 ≤ (zm_rm p1 10)))))) => ?_) (fun (hc : (¬ (p1 < 0) ∧ (¬ (10 ≤ (p1 / 10)) ∧ (¬ (5 ≤ (zm_rm p1 10)))))) => ?_)
  · have ho := ho.2 hc
    rw [if_neg hc] at hF
    refine zg_blk zd_254 1 hs (rfl : zb x zT0 zc_254 1 (16, [some (.ref 92), some (.int p1), none], [], h) = some (17, [some (.ref 92), some (.int p1), none], [.int (-1)], h)) (fun hs => ?_)
    exact zg_ret zd_254 rfl rfl (hF hs)
  · have ho := ho.1 hc
    rw [if_pos hc] at hF
    refine zg_blk zd_254 3 hs (rfl : zb x zT0 zc_254 3 (7, [some (.ref 92), some (.int p1), none], [], h) = some (13, [some (.ref 92), some (.int p1), none], [.int 8, .int (zf h 92 75)], h)) (fun hs => ?_)
    refine zg_i_ne zd_254 rfl (fun (hc : ¬ ((zf h 92 75) = 8)) => ?_) (fun (hc : ((zf h 92 75) = 8)) => ?_)
    · have ho := ho.2 hc
      rw [if_neg hc] at hF
      refine zg_blk zd_254 2 hs (rfl : zb x zT0 zc_254 2 (18, [some (.ref 92), some (.int p1), none], [], h) = some (20, [some (.ref 92), some (.int p1), some (.int 0)], [], h)) (fun hs => ?_)
      refine f_M_place_l20_t p1 h (fun r => f_M_place_a20_ok p1 r h ∧ (zSh zT0 (f_M_place_a20 p1 r h).2 → Q (some (.int (f_M_place_a20 p1 r h).1)) (f_M_place_a20 p1 r h).2)) ?_ ?_ zF 0 hs ho.1 ⟨ho.2, hF⟩
      · intro v2_ o2_ hs hG
        have ho : True := trivial
        have hF : (zSh zT0 ((f_M_place_k38 h)).2 → Q (some (.int ((f_M_place_k38 h)).1)) ((f_M_place_k38 h)).2) := hG.2
        exact f_M_place_k38_t h (some (.ref 92)) p1 (o2_) hs trivial hF
      · intro v2_ o2_ hs hG
        have ho : (f_M_place_k46_ok p1 h) := (hG.1).2 (show ¬ (2 : Nat) = 1 by decide)
        have hF : (zSh zT0 ((f_M_place_k46 p1 h)).2 → Q (some (.int ((f_M_place_k46 p1 h)).1)) ((f_M_place_k46 p1 h)).2) := hG.2
        exact f_M_place_k46_t p1 h (o2_) hs ho hF
    · have ho := ho.1 hc
      rw [if_pos hc] at hF
      refine zg_blk zd_254 1 hs (rfl : zb x zT0 zc_254 1 (16, [some (.ref 92), some (.int p1), none], [], h) = some (17, [some (.ref 92), some (.int p1), none], [.int (-1)], h)) (fun hs => ?_)
      exact zg_ret zd_254 rfl rfl (hF hs)
theorem zd_163 : zm_cd 163 = zc_163 := by rfl
set_option maxRecDepth 100000 in
set_option maxHeartbeats 400000 in
theorem f_N_clear_t {x : zm_X} {d : Nat} (h : zm_H) {Q : Option Value → zm_H → Prop} (hs : zSh zT0 h) (ho : f_N_clear_ok h) (hF : (zSh zT0 (f_N_clear h).2 → Q (some (.int (f_N_clear h).1)) (f_N_clear h).2)) : zg x (d + 1) 163 0 [some (.ref 0), none] [] h Q := by
  unfold f_N_clear at hF
  unfold f_N_clear_ok at ho
  refine zg_blk zd_163 9 hs (rfl : zb x zT0 zc_163 9 (0, [some (.ref 0), none], [], h) = some (17, [some (.ref 0), some (.int (zf h 82 7))], [.int (zf h 82 7)], (zp h 82 7 0))) (fun hs => ?_)
  exact zg_ret zd_163 rfl rfl (hF hs)
theorem zd_255 : zm_cd 255 = zc_255 := by rfl
set_option maxRecDepth 100000 in
set_option maxHeartbeats 400000 in
theorem f_M_clear_t {x : zm_X} {d : Nat} (h : zm_H) {Q : Option Value → zm_H → Prop} (hs : zSh zT0 h) (ho : f_M_clear_ok h) (hF : (zSh zT0 (f_M_clear h).2 → Q (some (.int (f_M_clear h).1)) (f_M_clear h).2)) : zg x (d + 1) 255 0 [some (.ref 92), none] [] h Q := by
  unfold f_M_clear at hF
  unfold f_M_clear_ok at ho
  refine zg_blk zd_255 7 hs (rfl : zb x zT0 zc_255 7 (0, [some (.ref 92), none], [], h) = some (11, [some (.ref 92), some (.int (zf h 92 75))], [.int (zf h 92 75)], (zp h 92 75 0))) (fun hs => ?_)
  exact zg_ret zd_255 rfl rfl (hF hs)
theorem zd_164 : zm_cd 164 = zc_164 := by rfl
theorem zd_36 : zm_cd 36 = zc_36 := by rfl
set_option maxRecDepth 100000 in
set_option maxHeartbeats 400000 in
theorem f_Ground_chooseRafts_l22_b_t {x : zm_X} {d : Nat} (v3 : Int32) (v4 : Int32) (v5 : Int32) (h : zm_H) (o1 : Option Value) (z2 : Int32) (o6 : Option Value) {Q : Option Value → zm_H → Prop} {FN : Nat × Int32 × Int32 × Int32 × zm_H → Prop} (hs : zSh zT0 h) (ho : f_Ground_chooseRafts_l22_b_ok v3 v4 v5 h) (hF : FN (f_Ground_chooseRafts_l22_b v3 v4 v5 h)) (hl0 : ∀ (v3 : Int32) (v4 : Int32) (v5 : Int32) (h : zm_H) (o1 : Option Value) (z2 : Int32) (o6 : Option Value), zSh zT0 h → FN (0, v3, v4, v5, h) → zg x (d + 1) 36 22 [some (.ref 82), o1, some (.int z2), some (.int v3), some (.int v4), some (.int v5), o6] [] h Q) (hl1 : ∀ (v3 : Int32) (v4 : Int32) (v5 : Int32) (h : zm_H) (o1 : Option Value) (z2 : Int32) (o3 : Option Value) (o4 : Option Value) (o5 : Option Value) (o6 : Option Value), zSh zT0 h → FN (1, v3, v4, v5, h) → zg x (d + 1) 36 75 [some (.ref 82), o1, some (.int z2), o3, o4, o5, o6] [] h Q) (hl2 : ∀ (v3 : Int32) (v4 : Int32) (v5 : Int32) (h : zm_H) (o1 : Option Value) (z2 : Int32) (o4 : Option Value) (o5 : Option Value) (o6 : Option Value), zSh zT0 h → FN (2, v3, v4, v5, h) → zg x (d + 1) 36 106 [some (.ref 82), o1, some (.int z2), some (.int v3), o4, o5, o6] [] h Q) : zg x (d + 1) 36 22 [some (.ref 82), o1, some (.int z2), some (.int v3), some (.int v4), some (.int v5), o6] [] h Q := by
  unfold f_Ground_chooseRafts_l22_b at hF
  unfold f_Ground_chooseRafts_l22_b_ok at ho
  refine zg_blk zd_36 1 hs (rfl : zb x zT0 zc_36 1 (22, [some (.ref 82), o1, some (.int z2), some (.int v3), some (.int v4), some (.int v5), o6], [], h) = some (24, [some (.ref 82), o1, some (.int z2), some (.int v3), some (.int v4), some (.int v5), o6], [.int v5], h)) (fun hs => ?_)
  refine zg_f_lt zd_36 rfl (fun (hc : (v5 < 0)) => ?_) (fun (hc : ¬ (v5 < 0)) => ?_)
  · have ho := ho.1 hc
    rw [if_pos hc] at hF
    exact hl2 v3 v4 v5 h (o1) z2 (some (.int v4)) (some (.int v5)) (o6) hs hF
  · have ho := ho.2 hc
    rw [if_neg hc] at hF
    refine zg_blk zd_36 5 hs (rfl : zb x zT0 zc_36 5 (27, [some (.ref 82), o1, some (.int z2), some (.int v3), some (.int v4), some (.int v5), o6], [], h) = some (34, [some (.ref 82), o1, some (.int z2), some (.int v3), some (.int v4), some (.int v5), some (.int (zm_rm v3 10))], [.int v3], h)) (fun hs => ?_)
    refine zg_f_lt zd_36 rfl (fun (hc : (v3 < 0)) => ?_) (fun (hc : ¬ (v3 < 0)) => ?_)
    · have ho := ho.1 hc
      rw [if_pos hc] at hF
      exact hl1 v3 v4 v5 h (o1) z2 (some (.int v3)) (some (.int v4)) (some (.int v5)) (some (.int (zm_rm v3 10))) hs hF
    · have ho := ho.2 hc
      rw [if_neg hc] at hF
      refine zg_blk zd_36 5 hs (rfl : zb x zT0 zc_36 5 (37, [some (.ref 82), o1, some (.int z2), some (.int v3), some (.int v4), some (.int v5), some (.int (zm_rm v3 10))], [], h) = some (49, [some (.ref 82), o1, some (.int z2), some (.int v3), some (.int v4), some (.int v5), some (.int (zm_rm v3 10))], [.int (zf h 23 0), .int (zm_rm v3 10)], h)) (fun hs => ?_)
      refine zg_i_ge zd_36 rfl (fun (hc : ((zf h 23 0) ≤ (zm_rm v3 10))) => ?_) (fun (hc : ¬ ((zf h 23 0) ≤ (zm_rm v3 10))) => ?_)
      · have ho := ho.1 hc
        rw [if_pos hc] at hF
        exact hl1 v3 v4 v5 h (o1) z2 (some (.int v3)) (some (.int v4)) (some (.int v5)) (some (.int (zm_rm v3 10))) hs hF
      · have ho := ho.2 hc
        rw [if_neg hc] at hF
        refine zg_blk zd_36 4 hs (rfl : zb x zT0 zc_36 4 (52, [some (.ref 82), o1, some (.int z2), some (.int v3), some (.int v4), some (.int v5), some (.int (zm_rm v3 10))], [], h) = some (61, [some (.ref 82), o1, some (.int z2), some (.int v3), some (.int v4), some (.int v5), some (.int (zm_rm v3 10))], [.int (zm_rm v3 10), .ref 38], h)) (fun hs => ?_)
        obtain ⟨hob, ho⟩ := ho
        refine zg_ial hs zd_36 rfl rfl hob ?_
        refine zg_f_ne zd_36 rfl (fun (hc : ¬ ((zr h 38 (zm_rm v3 10)) = 0)) => ?_) (fun (hc : ((zr h 38 (zm_rm v3 10)) = 0)) => ?_)
        · have ho := ho.2 hc
          rw [if_neg hc] at hF
          exact hl1 v3 v4 v5 h (o1) z2 (some (.int v3)) (some (.int v4)) (some (.int v5)) (some (.int (zm_rm v3 10))) hs hF
        · have ho := ho.1 hc
          rw [if_pos hc] at hF
          refine zg_blk zd_36 5 hs (rfl : zb x zT0 zc_36 5 (65, [some (.ref 82), o1, some (.int z2), some (.int v3), some (.int v4), some (.int v5), some (.int (zm_rm v3 10))], [], h) = some (72, [some (.ref 82), o1, some (.int z2), some (.int v3), some (.int v4), some (.int v5), some (.int (zm_rm v3 10))], [.int ((v4 >>> ((zm_rm v3 10) &&& 31)) &&& 1)], h)) (fun hs => ?_)
          refine zg_f_eq zd_36 rfl (fun (hc : (((v4 >>> ((zm_rm v3 10) &&& 31)) &&& 1) = 0)) => ?_) (fun (hc : ¬ (((v4 >>> ((zm_rm v3 10) &&& 31)) &&& 1) = 0)) => ?_)
          · have ho := ho.1 hc
            rw [if_pos hc] at hF
            refine zg_blk zd_36 4 hs (rfl : zb x zT0 zc_36 4 (77, [some (.ref 82), o1, some (.int z2), some (.int v3), some (.int v4), some (.int v5), some (.int (zm_rm v3 10))], [], h) = some (85, [some (.ref 82), o1, some (.int z2), some (.int v3), some (.int v4), some (.int v5), some (.int (zm_rm v3 10))], [.int (zm_rm v3 10), .int v5, .ref 87], h)) (fun hs => ?_)
            have hob := ho
            refine zg_ias hs zd_36 rfl rfl hob (fun hs => ?_)
            refine zg_blk zd_36 12 hs (rfl : zb x zT0 zc_36 12 (86, [some (.ref 82), o1, some (.int z2), some (.int v3), some (.int v4), some (.int v5), some (.int (zm_rm v3 10))], [], (zs h 87 v5 (zm_rm v3 10))) = some (22, [some (.ref 82), o1, some (.int z2), some (.int (v3 / 10)), some (.int (v4 ||| (1 <<< ((zm_rm v3 10) &&& 31)))), some (.int (v5 + (-1))), some (.int (zm_rm v3 10))], [], (zs h 87 v5 (zm_rm v3 10)))) (fun hs => ?_)
            exact hl0 (v3 / 10) (v4 ||| (1 <<< ((zm_rm v3 10) &&& 31))) (v5 + (-1)) (zs h 87 v5 (zm_rm v3 10)) (o1) z2 (some (.int (zm_rm v3 10))) hs hF
          · have ho := ho.2 hc
            rw [if_neg hc] at hF
            exact hl1 v3 v4 v5 h (o1) z2 (some (.int v3)) (some (.int v4)) (some (.int v5)) (some (.int (zm_rm v3 10))) hs hF
theorem f_Ground_chooseRafts_l22_t {x : zm_X} {d : Nat} {Q : Option Value → zm_H → Prop} (G : Nat × Int32 × Int32 × Int32 × zm_H → Prop) (hx1 : ∀ (v3 : Int32) (v4 : Int32) (v5 : Int32) (h : zm_H) (o1 : Option Value) (z2 : Int32) (o3 : Option Value) (o4 : Option Value) (o5 : Option Value) (o6 : Option Value), zSh zT0 h → G (1, v3, v4, v5, h) → zg x (d + 1) 36 75 [some (.ref 82), o1, some (.int z2), o3, o4, o5, o6] [] h Q) (hx2 : ∀ (v3 : Int32) (v4 : Int32) (v5 : Int32) (h : zm_H) (o1 : Option Value) (z2 : Int32) (o4 : Option Value) (o5 : Option Value) (o6 : Option Value), zSh zT0 h → G (2, v3, v4, v5, h) → zg x (d + 1) 36 106 [some (.ref 82), o1, some (.int z2), some (.int v3), o4, o5, o6] [] h Q) : ∀ (n : Nat) (v3 : Int32) (v4 : Int32) (v5 : Int32) (h : zm_H) (o1 : Option Value) (z2 : Int32) (o6 : Option Value), zSh zT0 h → f_Ground_chooseRafts_l22_ok n (v3, v4, v5, h) → G (f_Ground_chooseRafts_l22 n (v3, v4, v5, h)) → zg x (d + 1) 36 22 [some (.ref 82), o1, some (.int z2), some (.int v3), some (.int v4), some (.int v5), o6] [] h Q := by
  intro n
  induction n with
  | zero => intro v3 v4 v5 h o1 z2 o6 hs ho hG; exact ho.elim
  | succ n ih =>
    intro v3 v4 v5 h o1 z2 o6 hs ho hG
    refine f_Ground_chooseRafts_l22_b_t (FN := fun r => (r.1 = 0 → f_Ground_chooseRafts_l22_ok n r.2) ∧ G (if r.1 = 0 then f_Ground_chooseRafts_l22 n r.2 else r)) v3 v4 v5 h o1 z2 o6 hs ho.1 ⟨ho.2, hG⟩ ?_ ?_ ?_
    · intro v3 v4 v5 h o1 z2 o6 hs hF
      exact ih v3 v4 v5 h o1 z2 o6 hs (hF.1 rfl) hF.2
    · intro v3 v4 v5 h o1 z2 o3 o4 o5 o6 hs hF
      exact hx1 v3 v4 v5 h o1 z2 o3 o4 o5 o6 hs hF.2
    · intro v3 v4 v5 h o1 z2 o4 o5 o6 hs hF
      exact hx2 v3 v4 v5 h o1 z2 o4 o5 o6 hs hF.2

set_option maxRecDepth 100000 in
set_option maxHeartbeats 400000 in
theorem f_Ground_chooseRafts_k75_t {x : zm_X} {d : Nat} (h : zm_H) (o0 : Option Value) (o1 : Option Value) (z2 : Int32) (o3 : Option Value) (o4 : Option Value) (o5 : Option Value) (o6 : Option Value) {Q : Option Value → zm_H → Prop} (hs : zSh zT0 h) (ho : f_Ground_chooseRafts_k75_ok h) (hF : (zSh zT0 (f_Ground_chooseRafts_k75 h).2 → Q (some (.int (f_Ground_chooseRafts_k75 h).1)) (f_Ground_chooseRafts_k75 h).2)) : zg x (d + 1) 36 75 [o0, o1, some (.int z2), o3, o4, o5, o6] [] h Q := by
  unfold f_Ground_chooseRafts_k75 at hF
  unfold f_Ground_chooseRafts_k75_ok at ho
  refine zg_blk zd_36 1 hs (rfl : zb x zT0 zc_36 1 (75, [o0, o1, some (.int z2), o3, o4, o5, o6], [], h) = some (76, [o0, o1, some (.int z2), o3, o4, o5, o6], [.int 0], h)) (fun hs => ?_)
  exact zg_rtz zd_36 rfl rfl rfl (hF hs)
set_option maxRecDepth 100000 in
set_option maxHeartbeats 400000 in
theorem f_Ground_chooseRafts_k106_t {x : zm_X} {d : Nat} (v3 : Int32) (h : zm_H) (o0 : Option Value) (o1 : Option Value) (z2 : Int32) (o4 : Option Value) (o5 : Option Value) (o6 : Option Value) {Q : Option Value → zm_H → Prop} (hs : zSh zT0 h) (ho : f_Ground_chooseRafts_k106_ok v3 h) (hF : (zSh zT0 (f_Ground_chooseRafts_k106 v3 h).2 → Q (some (.int (f_Ground_chooseRafts_k106 v3 h).1)) (f_Ground_chooseRafts_k106 v3 h).2)) : zg x (d + 1) 36 106 [o0, o1, some (.int z2), some (.int v3), o4, o5, o6] [] h Q := by
  unfold f_Ground_chooseRafts_k106 at hF
  unfold f_Ground_chooseRafts_k106_ok at ho
  refine zg_blk zd_36 1 hs (rfl : zb x zT0 zc_36 1 (106, [o0, o1, some (.int z2), some (.int v3), o4, o5, o6], [], h) = some (107, [o0, o1, some (.int z2), some (.int v3), o4, o5, o6], [.int v3], h)) (fun hs => ?_)
  have K171 : zSh zT0 h → zg x (d + 1) 36 115 [o0, o1, some (.int z2), some (.int v3), o4, o5, o6] [.int (if (v3 = 0) then (1 : Int32) else 0)] h Q := fun hs => by
    exact zg_rtz zd_36 rfl rfl zm_nb01 (hF hs)
  refine zg_f_ne zd_36 rfl (fun (hc : ¬ (v3 = 0)) => ?_) (fun (hc : (v3 = 0)) => ?_)
  · skip
    rw [show ((if (v3 = 0) then (1 : Int32) else 0) : Int32) = 0 from if_neg hc] at K171
    refine zg_blk zd_36 1 hs (rfl : zb x zT0 zc_36 1 (114, [o0, o1, some (.int z2), some (.int v3), o4, o5, o6], [], h) = some (115, [o0, o1, some (.int z2), some (.int v3), o4, o5, o6], [.int 0], h)) (fun hs => ?_)
    exact K171 hs
  · skip
    rw [show ((if (v3 = 0) then (1 : Int32) else 0) : Int32) = 1 from if_pos hc] at K171
    refine zg_blk zd_36 2 hs (rfl : zb x zT0 zc_36 2 (110, [o0, o1, some (.int z2), some (.int v3), o4, o5, o6], [], h) = some (115, [o0, o1, some (.int z2), some (.int v3), o4, o5, o6], [.int 1], h)) (fun hs => ?_)
    exact K171 hs
set_option maxRecDepth 100000 in
set_option maxHeartbeats 400000 in
theorem f_Ground_chooseRafts_t {x : zm_X} {d : Nat} (p1 : Int32) (p2 : Int32) (h : zm_H) {Q : Option Value → zm_H → Prop} (hs : zSh zT0 h) (ho : f_Ground_chooseRafts_ok p1 p2 h) (hF : (zSh zT0 (f_Ground_chooseRafts p1 p2 h).2 → Q (some (.int (f_Ground_chooseRafts p1 p2 h).1)) (f_Ground_chooseRafts p1 p2 h).2)) : zg x (d + 1) 36 0 [some (.ref 82), some (.int p1), some (.int p2), none, none, none, none] [] h Q := by
  unfold f_Ground_chooseRafts at hF
  unfold f_Ground_chooseRafts_ok at ho
  refine zg_blk zd_36 7 hs (rfl : zb x zT0 zc_36 7 (0, [some (.ref 82), some (.int p1), some (.int p2), none, none, none, none], [], h) = some (8, [some (.ref 82), some (.int p1), some (.int p2), some (.int p1), some (.int 0), none, none], [.int 3, .int p2, .ref 82], h)) (fun hs => ?_)
  refine zg_x zd_36 rfl rfl rfl rfl (as := [.int p2, .int 3]) (rest := [.ref 82]) (w := some (.int (if 3 < p2 then 3 else p2))) rfl rfl rfl ?_
  refine zg_blk zd_36 6 hs (rfl : zb x zT0 zc_36 6 (11, [some (.ref 82), some (.int p1), some (.int p2), some (.int p1), some (.int 0), none, none], [.int (if 3 < p2 then 3 else p2), .ref 82], h) = some (22, [some (.ref 82), some (.int p1), some (.int p2), some (.int p1), some (.int 0), some (.int ((if 3 < p2 then 3 else p2) - 1)), none], [], (zp h 82 9 (if 3 < p2 then 3 else p2)))) (fun hs => ?_)
  refine f_Ground_chooseRafts_l22_t  (fun r => f_Ground_chooseRafts_a22_ok r ∧ (zSh zT0 (f_Ground_chooseRafts_a22 r).2 → Q (some (.int (f_Ground_chooseRafts_a22 r).1)) (f_Ground_chooseRafts_a22 r).2)) ?_ ?_ zF p1 0 ((if 3 < p2 then 3 else p2) - 1) (zp h 82 9 (if 3 < p2 then 3 else p2)) (some (.int p1)) p2 (none) hs ho.1 ⟨ho.2, hF⟩
  · intro v3_ v4_ v5_ h_ o1_ z2_ o3_ o4_ o5_ o6_ hs hG
    have ho : True := trivial
    have hF : (zSh zT0 ((f_Ground_chooseRafts_k75 h_)).2 → Q (some (.int ((f_Ground_chooseRafts_k75 h_)).1)) ((f_Ground_chooseRafts_k75 h_)).2) := hG.2
    exact f_Ground_chooseRafts_k75_t h_ (some (.ref 82)) (o1_) z2_ (o3_) (o4_) (o5_) (o6_) hs trivial hF
  · intro v3_ v4_ v5_ h_ o1_ z2_ o4_ o5_ o6_ hs hG
    have ho : True := trivial
    have hF : (zSh zT0 ((f_Ground_chooseRafts_k106 v3_ h_)).2 → Q (some (.int ((f_Ground_chooseRafts_k106 v3_ h_)).1)) ((f_Ground_chooseRafts_k106 v3_ h_)).2) := hG.2
    exact f_Ground_chooseRafts_k106_t v3_ h_ (some (.ref 82)) (o1_) z2_ (o4_) (o5_) (o6_) hs trivial hF
theorem zd_37 : zm_cd 37 = zc_37 := by rfl
set_option maxRecDepth 100000 in
set_option maxHeartbeats 400000 in
theorem f_Ground_chooseSpells_l22_b_t {x : zm_X} {d : Nat} (v1 : Int32) (v3 : Int32) (h : zm_H) (z2 : Int32) {Q : Option Value → zm_H → Prop} {FN : Nat × Int32 × zm_H → Prop} (hs : zSh zT0 h) (ho : f_Ground_chooseSpells_l22_b_ok v1 v3 h) (hF : FN (f_Ground_chooseSpells_l22_b v1 v3 h)) (hl0 : ∀ (v3 : Int32) (h : zm_H) (z2 : Int32), zSh zT0 h → FN (0, v3, h) → zg x (d + 5) 37 22 [some (.ref 82), some (.int v1), some (.int z2), some (.int v3)] [] h Q) (hl1 : ∀ (v3 : Int32) (h : zm_H) (z2 : Int32) (o3 : Option Value), zSh zT0 h → FN (1, v3, h) → zg x (d + 5) 37 52 [some (.ref 82), some (.int v1), some (.int z2), o3] [] h Q) : zg x (d + 5) 37 22 [some (.ref 82), some (.int v1), some (.int z2), some (.int v3)] [] h Q := by
  unfold f_Ground_chooseSpells_l22_b at hF
  unfold f_Ground_chooseSpells_l22_b_ok at ho
  refine zg_blk zd_37 3 hs (rfl : zb x zT0 zc_37 3 (22, [some (.ref 82), some (.int v1), some (.int z2), some (.int v3)], [], h) = some (27, [some (.ref 82), some (.int v1), some (.int z2), some (.int v3)], [.int (zf h 82 11), .int v3], h)) (fun hs => ?_)
  refine zg_i_ge zd_37 rfl (fun (hc : ((zf h 82 11) ≤ v3)) => ?_) (fun (hc : ¬ ((zf h 82 11) ≤ v3)) => ?_)
  · have ho := ho.1 hc
    rw [if_pos hc] at hF
    exact hl1 v3 h z2 (some (.int v3)) hs hF
  · have ho := ho.2 hc
    rw [if_neg hc] at hF
    refine zg_blk zd_37 8 hs (rfl : zb x zT0 zc_37 8 (30, [some (.ref 82), some (.int v1), some (.int z2), some (.int v3)], [], h) = some (42, [some (.ref 82), some (.int v1), some (.int z2), some (.int v3)], [.int (v1 + v3), .ref 1, .int v3, .ref 88], h)) (fun hs => ?_)
    obtain ⟨hob, ho⟩ := ho
    refine zg_call hs zd_37 rfl rfl rfl rfl (as := [.ref 1, .int (v1 + v3)]) (rest := [.int v3, .ref 88]) (en := [some (.ref 1), some (.int (v1 + v3))]) rfl rfl rfl rfl rfl ?_
    refine f_Swell_lookNow_t (v1 + v3) h hs hob ?_
    show zg x (d + 5) 37 45 [some (.ref 82), some (.int v1), some (.int z2), some (.int v3)] [.int (f_Swell_lookNow (v1 + v3) h), .int v3, .ref 88] h Q
    have hob := ho
    refine zg_ias hs zd_37 rfl rfl hob (fun hs => ?_)
    refine zg_blk zd_37 2 hs (rfl : zb x zT0 zc_37 2 (46, [some (.ref 82), some (.int v1), some (.int z2), some (.int v3)], [], (zs h 88 v3 (f_Swell_lookNow (v1 + v3) h))) = some (22, [some (.ref 82), some (.int v1), some (.int z2), some (.int (v3 + 1))], [], (zs h 88 v3 (f_Swell_lookNow (v1 + v3) h)))) (fun hs => ?_)
    exact hl0 (v3 + 1) (zs h 88 v3 (f_Swell_lookNow (v1 + v3) h)) z2 hs hF
theorem f_Ground_chooseSpells_l22_t {x : zm_X} {d : Nat} (v1 : Int32) {Q : Option Value → zm_H → Prop} (G : Nat × Int32 × zm_H → Prop) (hx1 : ∀ (v3 : Int32) (h : zm_H) (z2 : Int32) (o3 : Option Value), zSh zT0 h → G (1, v3, h) → zg x (d + 5) 37 52 [some (.ref 82), some (.int v1), some (.int z2), o3] [] h Q) : ∀ (n : Nat) (v3 : Int32) (h : zm_H) (z2 : Int32), zSh zT0 h → f_Ground_chooseSpells_l22_ok v1 n (v3, h) → G (f_Ground_chooseSpells_l22 v1 n (v3, h)) → zg x (d + 5) 37 22 [some (.ref 82), some (.int v1), some (.int z2), some (.int v3)] [] h Q := by
  intro n
  induction n with
  | zero => intro v3 h z2 hs ho hG; exact ho.elim
  | succ n ih =>
    intro v3 h z2 hs ho hG
    refine f_Ground_chooseSpells_l22_b_t (FN := fun r => (r.1 = 0 → f_Ground_chooseSpells_l22_ok v1 n r.2) ∧ G (if r.1 = 0 then f_Ground_chooseSpells_l22 v1 n r.2 else r)) v1 v3 h z2 hs ho.1 ⟨ho.2, hG⟩ ?_ ?_
    · intro v3 h z2 hs hF
      exact ih v3 h z2 hs (hF.1 rfl) hF.2
    · intro v3 h z2 o3 hs hF
      exact hx1 v3 h z2 o3 hs hF.2

set_option maxRecDepth 100000 in
set_option maxHeartbeats 400000 in
theorem f_Ground_chooseSpells_k52_t {x : zm_X} {d : Nat} (h : zm_H) (o0 : Option Value) (o1 : Option Value) (z2 : Int32) (o3 : Option Value) {Q : Option Value → zm_H → Prop} (hs : zSh zT0 h) (ho : f_Ground_chooseSpells_k52_ok h) (hF : (zSh zT0 (f_Ground_chooseSpells_k52 h).2 → Q (some (.int (f_Ground_chooseSpells_k52 h).1)) (f_Ground_chooseSpells_k52 h).2)) : zg x (d + 5) 37 52 [o0, o1, some (.int z2), o3] [] h Q := by
  unfold f_Ground_chooseSpells_k52 at hF
  unfold f_Ground_chooseSpells_k52_ok at ho
  refine zg_blk zd_37 1 hs (rfl : zb x zT0 zc_37 1 (52, [o0, o1, some (.int z2), o3], [], h) = some (53, [o0, o1, some (.int z2), o3], [.int 1], h)) (fun hs => ?_)
  exact zg_rtz zd_37 rfl rfl rfl (hF hs)
set_option maxRecDepth 100000 in
set_option maxHeartbeats 400000 in
theorem f_Ground_chooseSpells_t {x : zm_X} {d : Nat} (p1 : Int32) (p2 : Int32) (h : zm_H) {Q : Option Value → zm_H → Prop} (hs : zSh zT0 h) (ho : f_Ground_chooseSpells_ok p1 p2 h) (hF : (zSh zT0 (f_Ground_chooseSpells p1 p2 h).2 → Q (some (.int (f_Ground_chooseSpells p1 p2 h).1)) (f_Ground_chooseSpells p1 p2 h).2)) : zg x (d + 5) 37 0 [some (.ref 82), some (.int p1), some (.int p2), none] [] h Q := by
  unfold f_Ground_chooseSpells at hF
  unfold f_Ground_chooseSpells_ok at ho
  refine zg_blk zd_37 10 hs (rfl : zb x zT0 zc_37 10 (0, [some (.ref 82), some (.int p1), some (.int p2), none], [], h) = some (15, [some (.ref 82), some (.int p1), some (.int p2), none], [.int 24, .int ((p2 - p1) + 1)], (zp h 82 11 ((p2 - p1) + 1)))) (fun hs => ?_)
  refine zg_i_le zd_37 rfl (fun (hc : (((p2 - p1) + 1) ≤ 24)) => ?_) (fun (hc : ¬ (((p2 - p1) + 1) ≤ 24)) => ?_)
  · have ho := ho.1 hc
    rw [if_pos hc] at hF
    refine zg_blk zd_37 2 hs (rfl : zb x zT0 zc_37 2 (20, [some (.ref 82), some (.int p1), some (.int p2), none], [], (zp h 82 11 ((p2 - p1) + 1))) = some (22, [some (.ref 82), some (.int p1), some (.int p2), some (.int 0)], [], (zp h 82 11 ((p2 - p1) + 1)))) (fun hs => ?_)
    refine f_Ground_chooseSpells_l22_t p1 (fun r => f_Ground_chooseSpells_a22_ok r ∧ (zSh zT0 (f_Ground_chooseSpells_a22 r).2 → Q (some (.int (f_Ground_chooseSpells_a22 r).1)) (f_Ground_chooseSpells_a22 r).2)) ?_ zF 0 (zp h 82 11 ((p2 - p1) + 1)) p2 hs ho.1 ⟨ho.2, hF⟩
    · intro v3_ h_ z2_ o3_ hs hG
      have ho : True := trivial
      have hF : (zSh zT0 ((f_Ground_chooseSpells_k52 h_)).2 → Q (some (.int ((f_Ground_chooseSpells_k52 h_)).1)) ((f_Ground_chooseSpells_k52 h_)).2) := hG.2
      exact f_Ground_chooseSpells_k52_t h_ (some (.ref 82)) (some (.int p1)) z2_ (o3_) hs trivial hF
  · have ho := ho.2 hc
    rw [if_neg hc] at hF
    refine zg_blk zd_37 1 hs (rfl : zb x zT0 zc_37 1 (18, [some (.ref 82), some (.int p1), some (.int p2), none], [], (zp h 82 11 ((p2 - p1) + 1))) = some (19, [some (.ref 82), some (.int p1), some (.int p2), none], [.int 0], (zp h 82 11 ((p2 - p1) + 1)))) (fun hs => ?_)
    exact zg_rtz zd_37 rfl rfl rfl (hF hs)
theorem zd_38 : zm_cd 38 = zc_38 := by rfl
set_option maxRecDepth 100000 in
set_option maxHeartbeats 400000 in
theorem f_Ground_search_l5_b_t {x : zm_X} {d : Nat} (v1 : Int32) (v2 : Int32) (v3 : Int32) (v4 : Int32) (h : zm_H) (o5 : Option Value) (o6 : Option Value) {Q : Option Value → zm_H → Prop} {FN : Nat × Int32 × Int32 → Prop} (hs : zSh zT0 h) (ho : f_Ground_search_l5_b_ok v1 v2 v3 v4 h) (hF : FN (f_Ground_search_l5_b v1 v2 v3 v4 h)) (hl0 : ∀ (v3 : Int32) (v4 : Int32) (o5 : Option Value) (o6 : Option Value), zSh zT0 h → FN (0, v3, v4) → zg x (d + 5) 38 5 [some (.ref 82), some (.int v1), some (.int v2), some (.int v3), some (.int v4), o5, o6] [] h Q) (hl1 : ∀ (v3 : Int32) (v4 : Int32) (o4 : Option Value) (o5 : Option Value) (o6 : Option Value), zSh zT0 h → FN (1, v3, v4) → zg x (d + 5) 38 27 [some (.ref 82), some (.int v1), some (.int v2), some (.int v3), o4, o5, o6] [] h Q) : zg x (d + 5) 38 5 [some (.ref 82), some (.int v1), some (.int v2), some (.int v3), some (.int v4), o5, o6] [] h Q := by
  unfold f_Ground_search_l5_b at hF
  unfold f_Ground_search_l5_b_ok at ho
  refine zg_blk zd_38 3 hs (rfl : zb x zT0 zc_38 3 (5, [some (.ref 82), some (.int v1), some (.int v2), some (.int v3), some (.int v4), o5, o6], [], h) = some (11, [some (.ref 82), some (.int v1), some (.int v2), some (.int v3), some (.int v4), o5, o6], [.int (zf h 82 9), .int v4], h)) (fun hs => ?_)
  refine zg_i_ge zd_38 rfl (fun (hc : ((zf h 82 9) ≤ v4)) => ?_) (fun (hc : ¬ ((zf h 82 9) ≤ v4)) => ?_)
  · skip
    rw [if_pos hc] at hF
    exact hl1 v3 v4 (some (.int v4)) (o5) (o6) hs hF
  · skip
    rw [if_neg hc] at hF
    refine zg_blk zd_38 7 hs (rfl : zb x zT0 zc_38 7 (14, [some (.ref 82), some (.int v1), some (.int v2), some (.int v3), some (.int v4), o5, o6], [], h) = some (5, [some (.ref 82), some (.int v1), some (.int v2), some (.int (v3 * (zf h 82 7))), some (.int (v4 + 1)), o5, o6], [], h)) (fun hs => ?_)
    exact hl0 (v3 * (zf h 82 7)) (v4 + 1) (o5) (o6) hs hF
theorem f_Ground_search_l5_t {x : zm_X} {d : Nat} (v1 : Int32) (v2 : Int32) (h : zm_H) {Q : Option Value → zm_H → Prop} (G : Nat × Int32 × Int32 → Prop) (hx1 : ∀ (v3 : Int32) (v4 : Int32) (o4 : Option Value) (o5 : Option Value) (o6 : Option Value), zSh zT0 h → G (1, v3, v4) → zg x (d + 5) 38 27 [some (.ref 82), some (.int v1), some (.int v2), some (.int v3), o4, o5, o6] [] h Q) : ∀ (n : Nat) (v3 : Int32) (v4 : Int32) (o5 : Option Value) (o6 : Option Value), zSh zT0 h → f_Ground_search_l5_ok v1 v2 h n (v3, v4) → G (f_Ground_search_l5 v1 v2 h n (v3, v4)) → zg x (d + 5) 38 5 [some (.ref 82), some (.int v1), some (.int v2), some (.int v3), some (.int v4), o5, o6] [] h Q := by
  intro n
  induction n with
  | zero => intro v3 v4 o5 o6 hs ho hG; exact ho.elim
  | succ n ih =>
    intro v3 v4 o5 o6 hs ho hG
    refine f_Ground_search_l5_b_t (FN := fun r => (r.1 = 0 → f_Ground_search_l5_ok v1 v2 h n r.2) ∧ G (if r.1 = 0 then f_Ground_search_l5 v1 v2 h n r.2 else r)) v1 v2 v3 v4 h o5 o6 hs ho.1 ⟨ho.2, hG⟩ ?_ ?_
    · intro v3 v4 o5 o6 hs hF
      exact ih v3 v4 o5 o6 hs (hF.1 rfl) hF.2
    · intro v3 v4 o4 o5 o6 hs hF
      exact hx1 v3 v4 o4 o5 o6 hs hF.2

theorem zd_39 : zm_cd 39 = zc_39 := by rfl
set_option maxRecDepth 100000 in
set_option maxHeartbeats 400000 in
theorem f_Ground_setTrial_l12_b_t {x : zm_X} {d : Nat} (v2 : Int32) (v3 : Int32) (v4 : Int32) (h : zm_H) (z1 : Int32) {Q : Option Value → zm_H → Prop} {FN : Nat × Int32 × Int32 × Int32 × zm_H → Prop} (hs : zSh zT0 h) (ho : f_Ground_setTrial_l12_b_ok v2 v3 v4 h) (hF : FN (f_Ground_setTrial_l12_b v2 v3 v4 h)) (hl0 : ∀ (v2 : Int32) (v3 : Int32) (v4 : Int32) (h : zm_H) (z1 : Int32), zSh zT0 h → FN (0, v2, v3, v4, h) → zg x (d + 1) 39 12 [some (.ref 82), some (.int z1), some (.int v2), some (.int v3), some (.int v4)] [] h Q) (hl1 : ∀ (v2 : Int32) (v3 : Int32) (v4 : Int32) (h : zm_H) (z1 : Int32) (o2 : Option Value) (o3 : Option Value) (o4 : Option Value), zSh zT0 h → FN (1, v2, v3, v4, h) → zg x (d + 1) 39 73 [some (.ref 82), some (.int z1), o2, o3, o4] [] h Q) (hl2 : ∀ (v2 : Int32) (v3 : Int32) (v4 : Int32) (h : zm_H) (z1 : Int32) (o2 : Option Value) (o3 : Option Value) (o4 : Option Value), zSh zT0 h → FN (2, v2, v3, v4, h) → zg x (d + 1) 39 93 [some (.ref 82), some (.int z1), o2, o3, o4] [] h Q) : zg x (d + 1) 39 12 [some (.ref 82), some (.int z1), some (.int v2), some (.int v3), some (.int v4)] [] h Q := by
  unfold f_Ground_setTrial_l12_b at hF
  unfold f_Ground_setTrial_l12_b_ok at ho
  refine zg_blk zd_39 1 hs (rfl : zb x zT0 zc_39 1 (12, [some (.ref 82), some (.int z1), some (.int v2), some (.int v3), some (.int v4)], [], h) = some (14, [some (.ref 82), some (.int z1), some (.int v2), some (.int v3), some (.int v4)], [.int v4], h)) (fun hs => ?_)
  refine zg_f_lt zd_39 rfl (fun (hc : (v4 < 0)) => ?_) (fun (hc : ¬ (v4 < 0)) => ?_)
  · have ho := ho.1 hc
    rw [if_pos hc] at hF
    exact hl2 v2 v3 v4 h z1 (some (.int v2)) (some (.int v3)) (some (.int v4)) hs hF
  · have ho := ho.2 hc
    rw [if_neg hc] at hF
    refine zg_blk zd_39 5 hs (rfl : zb x zT0 zc_39 5 (17, [some (.ref 82), some (.int z1), some (.int v2), some (.int v3), some (.int v4)], [], h) = some (27, [some (.ref 82), some (.int z1), some (.int v2), some (.int v3), some (.int v4)], [.int (zf h 82 7), .int v4, .ref 89], h)) (fun hs => ?_)
    obtain ⟨hom, ho⟩ := ho
    have K172 : zSh zT0 h → zg x (d + 1) 39 40 [some (.ref 82), some (.int z1), some (.int v2), some (.int v3), some (.int v4)] [.int (if ((zf h 82 7) = 0) then (0 : Int32) else (zm_rm v2 (zf h 82 7))), .int v4, .ref 89] h Q := fun hs => by
      obtain ⟨hob, ho⟩ := ho
      refine zg_ias hs zd_39 rfl rfl hob (fun hs => ?_)
      refine zg_blk zd_39 2 hs (rfl : zb x zT0 zc_39 2 (41, [some (.ref 82), some (.int z1), some (.int v2), some (.int v3), some (.int v4)], [], (zs h 89 v4 (if ((zf h 82 7) = 0) then (0 : Int32) else (zm_rm v2 (zf h 82 7))))) = some (45, [some (.ref 82), some (.int z1), some (.int v2), some (.int v3), some (.int v4)], [.int (zf h 82 7)], (zs h 89 v4 (if ((zf h 82 7) = 0) then (0 : Int32) else (zm_rm v2 (zf h 82 7)))))) (fun hs => ?_)
      obtain ⟨hom, ho⟩ := ho
      have K173 : zSh zT0 (zs h 89 v4 (if ((zf h 82 7) = 0) then (0 : Int32) else (zm_rm v2 (zf h 82 7)))) → zg x (d + 1) 39 58 [some (.ref 82), some (.int z1), some (.int v2), some (.int v3), some (.int v4)] [.int (if ((zf h 82 7) = 0) then (0 : Int32) else (v2 / (zf h 82 7)))] (zs h 89 v4 (if ((zf h 82 7) = 0) then (0 : Int32) else (zm_rm v2 (zf h 82 7)))) Q := fun hs => by
        refine zg_blk zd_39 5 hs (rfl : zb x zT0 zc_39 5 (58, [some (.ref 82), some (.int z1), some (.int v2), some (.int v3), some (.int v4)], [.int (if ((zf h 82 7) = 0) then (0 : Int32) else (v2 / (zf h 82 7)))], (zs h 89 v4 (if ((zf h 82 7) = 0) then (0 : Int32) else (zm_rm v2 (zf h 82 7))))) = some (66, [some (.ref 82), some (.int z1), some (.int (if ((zf h 82 7) = 0) then (0 : Int32) else (v2 / (zf h 82 7)))), some (.int v3), some (.int v4)], [.int v4, .ref 89, .int v3], (zs h 89 v4 (if ((zf h 82 7) = 0) then (0 : Int32) else (zm_rm v2 (zf h 82 7)))))) (fun hs => ?_)
        obtain ⟨hob, ho⟩ := ho
        refine zg_ial hs zd_39 rfl rfl hob ?_
        refine zg_blk zd_39 3 hs (rfl : zb x zT0 zc_39 3 (67, [some (.ref 82), some (.int z1), some (.int (if ((zf h 82 7) = 0) then (0 : Int32) else (v2 / (zf h 82 7)))), some (.int v3), some (.int v4)], [.int (zr (zs h 89 v4 (if ((zf h 82 7) = 0) then (0 : Int32) else (zm_rm v2 (zf h 82 7)))) 89 v4), .int v3], (zs h 89 v4 (if ((zf h 82 7) = 0) then (0 : Int32) else (zm_rm v2 (zf h 82 7))))) = some (70, [some (.ref 82), some (.int z1), some (.int (if ((zf h 82 7) = 0) then (0 : Int32) else (v2 / (zf h 82 7)))), some (.int v3), some (.int v4)], [.int ((v3 >>> ((zr (zs h 89 v4 (if ((zf h 82 7) = 0) then (0 : Int32) else (zm_rm v2 (zf h 82 7)))) 89 v4) &&& 31)) &&& 1)], (zs h 89 v4 (if ((zf h 82 7) = 0) then (0 : Int32) else (zm_rm v2 (zf h 82 7)))))) (fun hs => ?_)
        refine zg_f_eq zd_39 rfl (fun (hc : (((v3 >>> ((zr (zs h 89 v4 (if ((zf h 82 7) = 0) then (0 : Int32) else (zm_rm v2 (zf h 82 7)))) 89 v4) &&& 31)) &&& 1) = 0)) => ?_) (fun (hc : ¬ (((v3 >>> ((zr (zs h 89 v4 (if ((zf h 82 7) = 0) then (0 : Int32) else (zm_rm v2 (zf h 82 7)))) 89 v4) &&& 31)) &&& 1) = 0)) => ?_)
        · have ho := ho.1 hc
          rw [if_pos hc] at hF
          refine zg_blk zd_39 5 hs (rfl : zb x zT0 zc_39 5 (75, [some (.ref 82), some (.int z1), some (.int (if ((zf h 82 7) = 0) then (0 : Int32) else (v2 / (zf h 82 7)))), some (.int v3), some (.int v4)], [], (zs h 89 v4 (if ((zf h 82 7) = 0) then (0 : Int32) else (zm_rm v2 (zf h 82 7))))) = some (83, [some (.ref 82), some (.int z1), some (.int (if ((zf h 82 7) = 0) then (0 : Int32) else (v2 / (zf h 82 7)))), some (.int v3), some (.int v4)], [.int v4, .ref 89, .int 1, .int v3], (zs h 89 v4 (if ((zf h 82 7) = 0) then (0 : Int32) else (zm_rm v2 (zf h 82 7)))))) (fun hs => ?_)
          have hob := ho
          refine zg_ial hs zd_39 rfl rfl hob ?_
          refine zg_blk zd_39 5 hs (rfl : zb x zT0 zc_39 5 (84, [some (.ref 82), some (.int z1), some (.int (if ((zf h 82 7) = 0) then (0 : Int32) else (v2 / (zf h 82 7)))), some (.int v3), some (.int v4)], [.int (zr (zs h 89 v4 (if ((zf h 82 7) = 0) then (0 : Int32) else (zm_rm v2 (zf h 82 7)))) 89 v4), .int 1, .int v3], (zs h 89 v4 (if ((zf h 82 7) = 0) then (0 : Int32) else (zm_rm v2 (zf h 82 7))))) = some (12, [some (.ref 82), some (.int z1), some (.int (if ((zf h 82 7) = 0) then (0 : Int32) else (v2 / (zf h 82 7)))), some (.int (v3 ||| (1 <<< ((zr (zs h 89 v4 (if ((zf h 82 7) = 0) then (0 : Int32) else (zm_rm v2 (zf h 82 7)))) 89 v4) &&& 31)))), some (.int (v4 + (-1)))], [], (zs h 89 v4 (if ((zf h 82 7) = 0) then (0 : Int32) else (zm_rm v2 (zf h 82 7)))))) (fun hs => ?_)
          exact hl0 (if ((zf h 82 7) = 0) then (0 : Int32) else (v2 / (zf h 82 7))) (v3 ||| (1 <<< ((zr (zs h 89 v4 (if ((zf h 82 7) = 0) then (0 : Int32) else (zm_rm v2 (zf h 82 7)))) 89 v4) &&& 31))) (v4 + (-1)) (zs h 89 v4 (if ((zf h 82 7) = 0) then (0 : Int32) else (zm_rm v2 (zf h 82 7)))) z1 hs hF
        · have ho := ho.2 hc
          rw [if_neg hc] at hF
          exact hl1 (if ((zf h 82 7) = 0) then (0 : Int32) else (v2 / (zf h 82 7))) v3 v4 (zs h 89 v4 (if ((zf h 82 7) = 0) then (0 : Int32) else (zm_rm v2 (zf h 82 7)))) z1 (some (.int (if ((zf h 82 7) = 0) then (0 : Int32) else (v2 / (zf h 82 7))))) (some (.int v3)) (some (.int v4)) hs hF
      refine zg_f_ne zd_39 rfl (fun (hc : ¬ ((zf h 82 7) = 0)) => ?_) (fun (hc : ((zf h 82 7) = 0)) => ?_)
      · have ho := hom.2 hc
        rw [show ((if ((zf h 82 7) = 0) then (0 : Int32) else (v2 / (zf h 82 7))) : Int32) = (v2 / (zf h 82 7)) from if_neg hc] at K173
        refine zg_blk zd_39 3 hs (rfl : zb x zT0 zc_39 3 (52, [some (.ref 82), some (.int z1), some (.int v2), some (.int v3), some (.int v4)], [], (zs h 89 v4 (if ((zf h 82 7) = 0) then (0 : Int32) else (zm_rm v2 (zf h 82 7))))) = some (57, [some (.ref 82), some (.int z1), some (.int v2), some (.int v3), some (.int v4)], [.int (zf h 82 7), .int v2], (zs h 89 v4 (if ((zf h 82 7) = 0) then (0 : Int32) else (zm_rm v2 (zf h 82 7)))))) (fun hs => ?_)
        have hob := ho
        refine zg_div zd_39 rfl hob ?_
        exact K173 hs
      · have ho := hom.1 hc
        rw [show ((if ((zf h 82 7) = 0) then (0 : Int32) else (v2 / (zf h 82 7))) : Int32) = 0 from if_pos hc] at K173
        refine zg_blk zd_39 2 hs (rfl : zb x zT0 zc_39 2 (48, [some (.ref 82), some (.int z1), some (.int v2), some (.int v3), some (.int v4)], [], (zs h 89 v4 (if ((zf h 82 7) = 0) then (0 : Int32) else (zm_rm v2 (zf h 82 7))))) = some (58, [some (.ref 82), some (.int z1), some (.int v2), some (.int v3), some (.int v4)], [.int 0], (zs h 89 v4 (if ((zf h 82 7) = 0) then (0 : Int32) else (zm_rm v2 (zf h 82 7)))))) (fun hs => ?_)
        exact K173 hs
    refine zg_f_ne zd_39 rfl (fun (hc : ¬ ((zf h 82 7) = 0)) => ?_) (fun (hc : ((zf h 82 7) = 0)) => ?_)
    · have ho := hom.2 hc
      rw [show ((if ((zf h 82 7) = 0) then (0 : Int32) else (zm_rm v2 (zf h 82 7))) : Int32) = (zm_rm v2 (zf h 82 7)) from if_neg hc] at K172
      refine zg_blk zd_39 3 hs (rfl : zb x zT0 zc_39 3 (34, [some (.ref 82), some (.int z1), some (.int v2), some (.int v3), some (.int v4)], [.int v4, .ref 89], h) = some (39, [some (.ref 82), some (.int z1), some (.int v2), some (.int v3), some (.int v4)], [.int (zf h 82 7), .int v2, .int v4, .ref 89], h)) (fun hs => ?_)
      have hob := ho
      refine zg_rem zd_39 rfl hob ?_
      exact K172 hs
    · have ho := hom.1 hc
      rw [show ((if ((zf h 82 7) = 0) then (0 : Int32) else (zm_rm v2 (zf h 82 7))) : Int32) = 0 from if_pos hc] at K172
      refine zg_blk zd_39 2 hs (rfl : zb x zT0 zc_39 2 (30, [some (.ref 82), some (.int z1), some (.int v2), some (.int v3), some (.int v4)], [.int v4, .ref 89], h) = some (40, [some (.ref 82), some (.int z1), some (.int v2), some (.int v3), some (.int v4)], [.int 0, .int v4, .ref 89], h)) (fun hs => ?_)
      exact K172 hs
theorem f_Ground_setTrial_l12_t {x : zm_X} {d : Nat} {Q : Option Value → zm_H → Prop} (G : Nat × Int32 × Int32 × Int32 × zm_H → Prop) (hx1 : ∀ (v2 : Int32) (v3 : Int32) (v4 : Int32) (h : zm_H) (z1 : Int32) (o2 : Option Value) (o3 : Option Value) (o4 : Option Value), zSh zT0 h → G (1, v2, v3, v4, h) → zg x (d + 1) 39 73 [some (.ref 82), some (.int z1), o2, o3, o4] [] h Q) (hx2 : ∀ (v2 : Int32) (v3 : Int32) (v4 : Int32) (h : zm_H) (z1 : Int32) (o2 : Option Value) (o3 : Option Value) (o4 : Option Value), zSh zT0 h → G (2, v2, v3, v4, h) → zg x (d + 1) 39 93 [some (.ref 82), some (.int z1), o2, o3, o4] [] h Q) : ∀ (n : Nat) (v2 : Int32) (v3 : Int32) (v4 : Int32) (h : zm_H) (z1 : Int32), zSh zT0 h → f_Ground_setTrial_l12_ok n (v2, v3, v4, h) → G (f_Ground_setTrial_l12 n (v2, v3, v4, h)) → zg x (d + 1) 39 12 [some (.ref 82), some (.int z1), some (.int v2), some (.int v3), some (.int v4)] [] h Q := by
  intro n
  induction n with
  | zero => intro v2 v3 v4 h z1 hs ho hG; exact ho.elim
  | succ n ih =>
    intro v2 v3 v4 h z1 hs ho hG
    refine f_Ground_setTrial_l12_b_t (FN := fun r => (r.1 = 0 → f_Ground_setTrial_l12_ok n r.2) ∧ G (if r.1 = 0 then f_Ground_setTrial_l12 n r.2 else r)) v2 v3 v4 h z1 hs ho.1 ⟨ho.2, hG⟩ ?_ ?_ ?_
    · intro v2 v3 v4 h z1 hs hF
      exact ih v2 v3 v4 h z1 hs (hF.1 rfl) hF.2
    · intro v2 v3 v4 h z1 o2 o3 o4 hs hF
      exact hx1 v2 v3 v4 h z1 o2 o3 o4 hs hF.2
    · intro v2 v3 v4 h z1 o2 o3 o4 hs hF
      exact hx2 v2 v3 v4 h z1 o2 o3 o4 hs hF.2

set_option maxRecDepth 100000 in
set_option maxHeartbeats 400000 in
theorem f_Ground_setTrial_k73_t {x : zm_X} {d : Nat} (h : zm_H) (o0 : Option Value) (z1 : Int32) (o2 : Option Value) (o3 : Option Value) (o4 : Option Value) {Q : Option Value → zm_H → Prop} (hs : zSh zT0 h) (ho : f_Ground_setTrial_k73_ok h) (hF : (zSh zT0 (f_Ground_setTrial_k73 h).2 → Q (some (.int (f_Ground_setTrial_k73 h).1)) (f_Ground_setTrial_k73 h).2)) : zg x (d + 1) 39 73 [o0, some (.int z1), o2, o3, o4] [] h Q := by
  unfold f_Ground_setTrial_k73 at hF
  unfold f_Ground_setTrial_k73_ok at ho
  refine zg_blk zd_39 1 hs (rfl : zb x zT0 zc_39 1 (73, [o0, some (.int z1), o2, o3, o4], [], h) = some (74, [o0, some (.int z1), o2, o3, o4], [.int 0], h)) (fun hs => ?_)
  exact zg_rtz zd_39 rfl rfl rfl (hF hs)
set_option maxRecDepth 100000 in
set_option maxHeartbeats 400000 in
theorem f_Ground_setTrial_k93_t {x : zm_X} {d : Nat} (h : zm_H) (o0 : Option Value) (z1 : Int32) (o2 : Option Value) (o3 : Option Value) (o4 : Option Value) {Q : Option Value → zm_H → Prop} (hs : zSh zT0 h) (ho : f_Ground_setTrial_k93_ok h) (hF : (zSh zT0 (f_Ground_setTrial_k93 h).2 → Q (some (.int (f_Ground_setTrial_k93 h).1)) (f_Ground_setTrial_k93 h).2)) : zg x (d + 1) 39 93 [o0, some (.int z1), o2, o3, o4] [] h Q := by
  unfold f_Ground_setTrial_k93 at hF
  unfold f_Ground_setTrial_k93_ok at ho
  refine zg_blk zd_39 1 hs (rfl : zb x zT0 zc_39 1 (93, [o0, some (.int z1), o2, o3, o4], [], h) = some (94, [o0, some (.int z1), o2, o3, o4], [.int 1], h)) (fun hs => ?_)
  exact zg_rtz zd_39 rfl rfl rfl (hF hs)
set_option maxRecDepth 100000 in
set_option maxHeartbeats 400000 in
theorem f_Ground_setTrial_t {x : zm_X} {d : Nat} (p1 : Int32) (h : zm_H) {Q : Option Value → zm_H → Prop} (hs : zSh zT0 h) (ho : f_Ground_setTrial_ok p1 h) (hF : (zSh zT0 (f_Ground_setTrial p1 h).2 → Q (some (.int (f_Ground_setTrial p1 h).1)) (f_Ground_setTrial p1 h).2)) : zg x (d + 1) 39 0 [some (.ref 82), some (.int p1), none, none, none] [] h Q := by
  unfold f_Ground_setTrial at hF
  unfold f_Ground_setTrial_ok at ho
  refine zg_blk zd_39 9 hs (rfl : zb x zT0 zc_39 9 (0, [some (.ref 82), some (.int p1), none, none, none], [], h) = some (12, [some (.ref 82), some (.int p1), some (.int p1), some (.int 0), some (.int ((zf h 82 9) - 1))], [], h)) (fun hs => ?_)
  refine f_Ground_setTrial_l12_t  (fun r => f_Ground_setTrial_a12_ok r ∧ (zSh zT0 (f_Ground_setTrial_a12 r).2 → Q (some (.int (f_Ground_setTrial_a12 r).1)) (f_Ground_setTrial_a12 r).2)) ?_ ?_ zF p1 0 ((zf h 82 9) - 1) h p1 hs ho.1 ⟨ho.2, hF⟩
  · intro v2_ v3_ v4_ h_ z1_ o2_ o3_ o4_ hs hG
    have ho : True := trivial
    have hF : (zSh zT0 ((f_Ground_setTrial_k73 h_)).2 → Q (some (.int ((f_Ground_setTrial_k73 h_)).1)) ((f_Ground_setTrial_k73 h_)).2) := hG.2
    exact f_Ground_setTrial_k73_t h_ (some (.ref 82)) z1_ (o2_) (o3_) (o4_) hs trivial hF
  · intro v2_ v3_ v4_ h_ z1_ o2_ o3_ o4_ hs hG
    have ho : True := trivial
    have hF : (zSh zT0 ((f_Ground_setTrial_k93 h_)).2 → Q (some (.int ((f_Ground_setTrial_k93 h_)).1)) ((f_Ground_setTrial_k93 h_)).2) := hG.2
    exact f_Ground_setTrial_k93_t h_ (some (.ref 82)) z1_ (o2_) (o3_) (o4_) hs trivial hF
set_option maxRecDepth 100000 in
set_option maxHeartbeats 400000 in
theorem f_Ground_search_l35_k121_t {x : zm_X} {d : Nat} (v1 : Int32) (v2 : Int32) (v3 : Int32) (v4 : Int32) (h : zm_H) (o5 : Option Value) (o6 : Option Value) {Q : Option Value → zm_H → Prop} {FN : Nat × Int32 × zm_H → Prop} (hs : zSh zT0 h) (ho : f_Ground_search_l35_k121_ok v1 v2 v3 v4 h) (hF : FN (f_Ground_search_l35_k121 v1 v2 v3 v4 h)) (hl0 : ∀ (v4 : Int32) (h : zm_H) (o5 : Option Value) (o6 : Option Value), zSh zT0 h → FN (0, v4, h) → zg x (d + 5) 38 35 [some (.ref 82), some (.int v1), some (.int v2), some (.int v3), some (.int v4), o5, o6] [] h Q) (hl1 : ∀ (v4 : Int32) (h : zm_H) (o4 : Option Value) (o5 : Option Value) (o6 : Option Value), zSh zT0 h → FN (1, v4, h) → zg x (d + 5) 38 127 [some (.ref 82), some (.int v1), some (.int v2), some (.int v3), o4, o5, o6] [] h Q) : zg x (d + 5) 38 121 [some (.ref 82), some (.int v1), some (.int v2), some (.int v3), some (.int v4), o5, o6] [] h Q := by
  unfold f_Ground_search_l35_k121 at hF
  unfold f_Ground_search_l35_k121_ok at ho
  refine zg_blk zd_38 2 hs (rfl : zb x zT0 zc_38 2 (121, [some (.ref 82), some (.int v1), some (.int v2), some (.int v3), some (.int v4), o5, o6], [], h) = some (35, [some (.ref 82), some (.int v1), some (.int v2), some (.int v3), some (.int (v4 + 1)), o5, o6], [], h)) (fun hs => ?_)
  exact hl0 (v4 + 1) h (o5) (o6) hs hF
set_option maxRecDepth 100000 in
set_option maxHeartbeats 400000 in
theorem f_Ground_search_l35_l87_b_t {x : zm_X} {d : Nat} (v1 : Int32) (v2 : Int32) (v3 : Int32) (v4 : Int32) (v5 : Int32) (v6 : Int32) (h : zm_H) {Q : Option Value → zm_H → Prop} {FN : Nat × Int32 × zm_H → Prop} (hs : zSh zT0 h) (ho : f_Ground_search_l35_l87_b_ok v1 v2 v3 v4 v5 v6 h) (hF : FN (f_Ground_search_l35_l87_b v1 v2 v3 v4 v5 v6 h)) (hl0 : ∀ (v6 : Int32) (h : zm_H), zSh zT0 h → FN (0, v6, h) → zg x (d + 5) 38 87 [some (.ref 82), some (.int v1), some (.int v2), some (.int v3), some (.int v4), some (.int v5), some (.int v6)] [] h Q) (hl1 : ∀ (v6 : Int32) (h : zm_H) (o6 : Option Value), zSh zT0 h → FN (1, v6, h) → zg x (d + 5) 38 121 [some (.ref 82), some (.int v1), some (.int v2), some (.int v3), some (.int v4), some (.int v5), o6] [] h Q) : zg x (d + 5) 38 87 [some (.ref 82), some (.int v1), some (.int v2), some (.int v3), some (.int v4), some (.int v5), some (.int v6)] [] h Q := by
  unfold f_Ground_search_l35_l87_b at hF
  unfold f_Ground_search_l35_l87_b_ok at ho
  refine zg_blk zd_38 3 hs (rfl : zb x zT0 zc_38 3 (87, [some (.ref 82), some (.int v1), some (.int v2), some (.int v3), some (.int v4), some (.int v5), some (.int v6)], [], h) = some (93, [some (.ref 82), some (.int v1), some (.int v2), some (.int v3), some (.int v4), some (.int v5), some (.int v6)], [.int (zf h 82 9), .int v6], h)) (fun hs => ?_)
  refine zg_i_ge zd_38 rfl (fun (hc : ((zf h 82 9) ≤ v6)) => ?_) (fun (hc : ¬ ((zf h 82 9) ≤ v6)) => ?_)
  · have ho := ho.1 hc
    rw [if_pos hc] at hF
    exact hl1 v6 h (some (.int v6)) hs hF
  · have ho := ho.2 hc
    rw [if_neg hc] at hF
    refine zg_blk zd_38 8 hs (rfl : zb x zT0 zc_38 8 (96, [some (.ref 82), some (.int v1), some (.int v2), some (.int v3), some (.int v4), some (.int v5), some (.int v6)], [], h) = some (112, [some (.ref 82), some (.int v1), some (.int v2), some (.int v3), some (.int v4), some (.int v5), some (.int v6)], [.int v6, .ref 89, .ref 86, .int v6, .ref 90], h)) (fun hs => ?_)
    obtain ⟨hob, ho⟩ := ho
    refine zg_ial hs zd_38 rfl rfl hob ?_
    obtain ⟨hob, ho⟩ := ho
    refine zg_ial hs zd_38 rfl rfl hob ?_
    have hob := ho
    refine zg_ias hs zd_38 rfl rfl hob (fun hs => ?_)
    refine zg_blk zd_38 2 hs (rfl : zb x zT0 zc_38 2 (115, [some (.ref 82), some (.int v1), some (.int v2), some (.int v3), some (.int v4), some (.int v5), some (.int v6)], [], (zs h 90 v6 (zr h 86 (zr h 89 v6)))) = some (87, [some (.ref 82), some (.int v1), some (.int v2), some (.int v3), some (.int v4), some (.int v5), some (.int (v6 + 1))], [], (zs h 90 v6 (zr h 86 (zr h 89 v6))))) (fun hs => ?_)
    exact hl0 (v6 + 1) (zs h 90 v6 (zr h 86 (zr h 89 v6))) hs hF
theorem f_Ground_search_l35_l87_t {x : zm_X} {d : Nat} (v1 : Int32) (v2 : Int32) (v3 : Int32) (v4 : Int32) (v5 : Int32) {Q : Option Value → zm_H → Prop} (G : Nat × Int32 × zm_H → Prop) (hx1 : ∀ (v6 : Int32) (h : zm_H) (o6 : Option Value), zSh zT0 h → G (1, v6, h) → zg x (d + 5) 38 121 [some (.ref 82), some (.int v1), some (.int v2), some (.int v3), some (.int v4), some (.int v5), o6] [] h Q) : ∀ (n : Nat) (v6 : Int32) (h : zm_H), zSh zT0 h → f_Ground_search_l35_l87_ok v1 v2 v3 v4 v5 n (v6, h) → G (f_Ground_search_l35_l87 v1 v2 v3 v4 v5 n (v6, h)) → zg x (d + 5) 38 87 [some (.ref 82), some (.int v1), some (.int v2), some (.int v3), some (.int v4), some (.int v5), some (.int v6)] [] h Q := by
  intro n
  induction n with
  | zero => intro v6 h hs ho hG; exact ho.elim
  | succ n ih =>
    intro v6 h hs ho hG
    refine f_Ground_search_l35_l87_b_t (FN := fun r => (r.1 = 0 → f_Ground_search_l35_l87_ok v1 v2 v3 v4 v5 n r.2) ∧ G (if r.1 = 0 then f_Ground_search_l35_l87 v1 v2 v3 v4 v5 n r.2 else r)) v1 v2 v3 v4 v5 v6 h hs ho.1 ⟨ho.2, hG⟩ ?_ ?_
    · intro v6 h hs hF
      exact ih v6 h hs (hF.1 rfl) hF.2
    · intro v6 h o6 hs hF
      exact hx1 v6 h o6 hs hF.2

set_option maxRecDepth 100000 in
set_option maxHeartbeats 400000 in
theorem f_Ground_search_l35_k67_t {x : zm_X} {d : Nat} (v1 : Int32) (v2 : Int32) (v3 : Int32) (v4 : Int32) (w0 : Int32) (h : zm_H) (o5 : Option Value) (o6 : Option Value) {Q : Option Value → zm_H → Prop} {FN : Nat × Int32 × zm_H → Prop} (hs : zSh zT0 h) (ho : f_Ground_search_l35_k67_ok v1 v2 v3 v4 w0 h) (hF : FN (f_Ground_search_l35_k67 v1 v2 v3 v4 w0 h)) (hl0 : ∀ (v4 : Int32) (h : zm_H) (o5 : Option Value) (o6 : Option Value), zSh zT0 h → FN (0, v4, h) → zg x (d + 5) 38 35 [some (.ref 82), some (.int v1), some (.int v2), some (.int v3), some (.int v4), o5, o6] [] h Q) (hl1 : ∀ (v4 : Int32) (h : zm_H) (o4 : Option Value) (o5 : Option Value) (o6 : Option Value), zSh zT0 h → FN (1, v4, h) → zg x (d + 5) 38 127 [some (.ref 82), some (.int v1), some (.int v2), some (.int v3), o4, o5, o6] [] h Q) : zg x (d + 5) 38 67 [some (.ref 82), some (.int v1), some (.int v2), some (.int v3), some (.int v4), o5, o6] [.int w0] h Q := by
  unfold f_Ground_search_l35_k67 at hF
  unfold f_Ground_search_l35_k67_ok at ho
  refine zg_blk zd_38 4 hs (rfl : zb x zT0 zc_38 4 (67, [some (.ref 82), some (.int v1), some (.int v2), some (.int v3), some (.int v4), o5, o6], [.int w0], h) = some (75, [some (.ref 82), some (.int v1), some (.int v2), some (.int v3), some (.int v4), some (.int w0), o6], [.int (zf h 82 14), .int w0], h)) (fun hs => ?_)
  refine zg_i_le zd_38 rfl (fun (hc : (w0 ≤ (zf h 82 14))) => ?_) (fun (hc : ¬ (w0 ≤ (zf h 82 14))) => ?_)
  · have ho := ho.1 hc
    rw [if_pos hc] at hF
    exact f_Ground_search_l35_k121_t v1 v2 v3 v4 h (some (.int w0)) (o6) hs trivial hF hl0 hl1
  · have ho := ho.2 hc
    rw [if_neg hc] at hF
    refine zg_blk zd_38 5 hs (rfl : zb x zT0 zc_38 5 (78, [some (.ref 82), some (.int v1), some (.int v2), some (.int v3), some (.int v4), some (.int w0), o6], [], h) = some (87, [some (.ref 82), some (.int v1), some (.int v2), some (.int v3), some (.int v4), some (.int w0), some (.int 0)], [], (zp h 82 14 w0))) (fun hs => ?_)
    refine f_Ground_search_l35_l87_t v1 v2 v3 v4 w0 (fun r => f_Ground_search_l35_a87_ok v1 v2 v3 v4 r ∧ FN (f_Ground_search_l35_a87 v1 v2 v3 v4 r)) ?_ zF 0 (zp h 82 14 w0) hs ho.1 ⟨ho.2, hF⟩
    · intro v6_ h_ o6_ hs hG
      have ho : True := trivial
      have hF : FN ((f_Ground_search_l35_k121 v1 v2 v3 v4 h_)) := hG.2
      exact f_Ground_search_l35_k121_t v1 v2 v3 v4 h_ (some (.int w0)) (o6_) hs trivial hF hl0 hl1
set_option maxRecDepth 100000 in
set_option maxHeartbeats 400000 in
theorem f_Ground_search_l35_k66_t {x : zm_X} {d : Nat} (v1 : Int32) (v2 : Int32) (v3 : Int32) (v4 : Int32) (h : zm_H) (o5 : Option Value) (o6 : Option Value) {Q : Option Value → zm_H → Prop} {FN : Nat × Int32 × zm_H → Prop} (hs : zSh zT0 h) (ho : f_Ground_search_l35_k66_ok v1 v2 v3 v4 h) (hF : FN (f_Ground_search_l35_k66 v1 v2 v3 v4 h)) (hl0 : ∀ (v4 : Int32) (h : zm_H) (o5 : Option Value) (o6 : Option Value), zSh zT0 h → FN (0, v4, h) → zg x (d + 5) 38 35 [some (.ref 82), some (.int v1), some (.int v2), some (.int v3), some (.int v4), o5, o6] [] h Q) (hl1 : ∀ (v4 : Int32) (h : zm_H) (o4 : Option Value) (o5 : Option Value) (o6 : Option Value), zSh zT0 h → FN (1, v4, h) → zg x (d + 5) 38 127 [some (.ref 82), some (.int v1), some (.int v2), some (.int v3), o4, o5, o6] [] h Q) : zg x (d + 5) 38 66 [some (.ref 82), some (.int v1), some (.int v2), some (.int v3), some (.int v4), o5, o6] [] h Q := by
  unfold f_Ground_search_l35_k66 at hF
  unfold f_Ground_search_l35_k66_ok at ho
  refine zg_blk zd_38 1 hs (rfl : zb x zT0 zc_38 1 (66, [some (.ref 82), some (.int v1), some (.int v2), some (.int v3), some (.int v4), o5, o6], [], h) = some (67, [some (.ref 82), some (.int v1), some (.int v2), some (.int v3), some (.int v4), o5, o6], [.int (-1)], h)) (fun hs => ?_)
  exact f_Ground_search_l35_k67_t v1 v2 v3 v4 (-1) h (o5) (o6) hs ho hF hl0 hl1
theorem zd_40 : zm_cd 40 = zc_40 := by rfl
set_option maxRecDepth 100000 in
set_option maxHeartbeats 400000 in
theorem f_Ground_isOpen_l2_b_t {x : zm_X} {d : Nat} (v1 : Int32) (v2 : Int32) (h : zm_H) (o3 : Option Value) {Q : Option Value → zm_H → Prop} {FN : Nat × Int32 → Prop} (hs : zSh zT0 h) (ho : f_Ground_isOpen_l2_b_ok v1 v2 h) (hF : FN (f_Ground_isOpen_l2_b v1 v2 h)) (hl0 : ∀ (v2 : Int32) (o3 : Option Value), zSh zT0 h → FN (0, v2) → zg x (d + 2) 40 2 [some (.ref 82), some (.int v1), some (.int v2), o3] [] h Q) (hl1 : ∀ (v2 : Int32) (o2 : Option Value) (o3 : Option Value), zSh zT0 h → FN (1, v2) → zg x (d + 2) 40 45 [some (.ref 82), some (.int v1), o2, o3] [] h Q) (hl2 : ∀ (v2 : Int32) (o2 : Option Value) (o3 : Option Value), zSh zT0 h → FN (2, v2) → zg x (d + 2) 40 53 [some (.ref 82), some (.int v1), o2, o3] [] h Q) : zg x (d + 2) 40 2 [some (.ref 82), some (.int v1), some (.int v2), o3] [] h Q := by
  unfold f_Ground_isOpen_l2_b at hF
  unfold f_Ground_isOpen_l2_b_ok at ho
  refine zg_blk zd_40 3 hs (rfl : zb x zT0 zc_40 3 (2, [some (.ref 82), some (.int v1), some (.int v2), o3], [], h) = some (7, [some (.ref 82), some (.int v1), some (.int v2), o3], [.int (zf h 82 9), .int v2], h)) (fun hs => ?_)
  refine zg_i_ge zd_40 rfl (fun (hc : ((zf h 82 9) ≤ v2)) => ?_) (fun (hc : ¬ ((zf h 82 9) ≤ v2)) => ?_)
  · have ho := ho.1 hc
    rw [if_pos hc] at hF
    exact hl2 v2 (some (.int v2)) (o3) hs hF
  · have ho := ho.2 hc
    rw [if_neg hc] at hF
    refine zg_blk zd_40 5 hs (rfl : zb x zT0 zc_40 5 (10, [some (.ref 82), some (.int v1), some (.int v2), o3], [], h) = some (19, [some (.ref 82), some (.int v1), some (.int v2), o3], [.int v2, .ref 89, .ref 86], h)) (fun hs => ?_)
    obtain ⟨hob, ho⟩ := ho
    refine zg_ial hs zd_40 rfl rfl hob ?_
    obtain ⟨hob, ho⟩ := ho
    refine zg_ial hs zd_40 rfl rfl hob ?_
    refine zg_blk zd_40 6 hs (rfl : zb x zT0 zc_40 6 (21, [some (.ref 82), some (.int v1), some (.int v2), o3], [.int (zr h 86 (zr h 89 v2))], h) = some (28, [some (.ref 82), some (.int v1), some (.int v2), some (.int (zr h 86 (zr h 89 v2)))], [.int v1, .int ((zr h 86 (zr h 89 v2)) / 10), .ref 82], h)) (fun hs => ?_)
    obtain ⟨hob, ho⟩ := ho
    refine zg_call hs zd_40 rfl rfl rfl rfl (as := [.ref 82, .int ((zr h 86 (zr h 89 v2)) / 10), .int v1]) (rest := []) (en := [some (.ref 82), some (.int ((zr h 86 (zr h 89 v2)) / 10)), some (.int v1), none]) rfl rfl rfl rfl rfl ?_
    refine f_Ground_isShut_t ((zr h 86 (zr h 89 v2)) / 10) v1 h hs hob ?_
    show zg x (d + 2) 40 31 [some (.ref 82), some (.int v1), some (.int v2), some (.int (zr h 86 (zr h 89 v2)))] [.int (f_Ground_isShut ((zr h 86 (zr h 89 v2)) / 10) v1 h)] h Q
    refine zg_f_ne zd_40 rfl (fun (hc : ¬ ((f_Ground_isShut ((zr h 86 (zr h 89 v2)) / 10) v1 h) = 0)) => ?_) (fun (hc : ((f_Ground_isShut ((zr h 86 (zr h 89 v2)) / 10) v1 h) = 0)) => ?_)
    · have ho := ho.2 hc
      rw [if_neg hc] at hF
      exact hl1 v2 (some (.int v2)) (some (.int (zr h 86 (zr h 89 v2)))) hs hF
    · have ho := ho.1 hc
      rw [if_pos hc] at hF
      refine zg_blk zd_40 3 hs (rfl : zb x zT0 zc_40 3 (34, [some (.ref 82), some (.int v1), some (.int v2), some (.int (zr h 86 (zr h 89 v2)))], [], h) = some (39, [some (.ref 82), some (.int v1), some (.int v2), some (.int (zr h 86 (zr h 89 v2)))], [.int (zr h 86 (zr h 89 v2)), .ref 37], h)) (fun hs => ?_)
      have hob := ho
      refine zg_call hs zd_40 rfl rfl rfl rfl (as := [.ref 37, .int (zr h 86 (zr h 89 v2))]) (rest := []) (en := [some (.ref 37), some (.int (zr h 86 (zr h 89 v2))), none]) rfl rfl rfl rfl rfl ?_
      refine f_Course_isFree_37_t (zr h 86 (zr h 89 v2)) h hs hob ?_
      show zg x (d + 2) 40 42 [some (.ref 82), some (.int v1), some (.int v2), some (.int (zr h 86 (zr h 89 v2)))] [.int (f_Course_isFree_37 (zr h 86 (zr h 89 v2)) h)] h Q
      refine zg_f_ne zd_40 rfl (fun (hc : ¬ ((f_Course_isFree_37 (zr h 86 (zr h 89 v2)) h) = 0)) => ?_) (fun (hc : ((f_Course_isFree_37 (zr h 86 (zr h 89 v2)) h) = 0)) => ?_)
      · skip
        rw [if_neg hc] at hF
        refine zg_blk zd_40 2 hs (rfl : zb x zT0 zc_40 2 (47, [some (.ref 82), some (.int v1), some (.int v2), some (.int (zr h 86 (zr h 89 v2)))], [], h) = some (2, [some (.ref 82), some (.int v1), some (.int (v2 + 1)), some (.int (zr h 86 (zr h 89 v2)))], [], h)) (fun hs => ?_)
        exact hl0 (v2 + 1) (some (.int (zr h 86 (zr h 89 v2)))) hs hF
      · skip
        rw [if_pos hc] at hF
        exact hl1 v2 (some (.int v2)) (some (.int (zr h 86 (zr h 89 v2)))) hs hF
theorem f_Ground_isOpen_l2_t {x : zm_X} {d : Nat} (v1 : Int32) (h : zm_H) {Q : Option Value → zm_H → Prop} (G : Nat × Int32 → Prop) (hx1 : ∀ (v2 : Int32) (o2 : Option Value) (o3 : Option Value), zSh zT0 h → G (1, v2) → zg x (d + 2) 40 45 [some (.ref 82), some (.int v1), o2, o3] [] h Q) (hx2 : ∀ (v2 : Int32) (o2 : Option Value) (o3 : Option Value), zSh zT0 h → G (2, v2) → zg x (d + 2) 40 53 [some (.ref 82), some (.int v1), o2, o3] [] h Q) : ∀ (n : Nat) (v2 : Int32) (o3 : Option Value), zSh zT0 h → f_Ground_isOpen_l2_ok v1 h n v2 → G (f_Ground_isOpen_l2 v1 h n v2) → zg x (d + 2) 40 2 [some (.ref 82), some (.int v1), some (.int v2), o3] [] h Q := by
  intro n
  induction n with
  | zero => intro v2 o3 hs ho hG; exact ho.elim
  | succ n ih =>
    intro v2 o3 hs ho hG
    refine f_Ground_isOpen_l2_b_t (FN := fun r => (r.1 = 0 → f_Ground_isOpen_l2_ok v1 h n r.2) ∧ G (if r.1 = 0 then f_Ground_isOpen_l2 v1 h n r.2 else r)) v1 v2 h o3 hs ho.1 ⟨ho.2, hG⟩ ?_ ?_ ?_
    · intro v2 o3 hs hF
      exact ih v2 o3 hs (hF.1 rfl) hF.2
    · intro v2 o2 o3 hs hF
      exact hx1 v2 o2 o3 hs hF.2
    · intro v2 o2 o3 hs hF
      exact hx2 v2 o2 o3 hs hF.2

set_option maxRecDepth 100000 in
set_option maxHeartbeats 400000 in
theorem f_Ground_isOpen_k45_t {x : zm_X} {d : Nat} (h : zm_H) (o0 : Option Value) (z1 : Int32) (o2 : Option Value) (o3 : Option Value) {Q : Option Value → zm_H → Prop} (hs : zSh zT0 h) (ho : f_Ground_isOpen_k45_ok h) (hF : Q (some (.int (f_Ground_isOpen_k45 h))) h) : zg x (d + 2) 40 45 [o0, some (.int z1), o2, o3] [] h Q := by
  unfold f_Ground_isOpen_k45 at hF
  unfold f_Ground_isOpen_k45_ok at ho
  refine zg_blk zd_40 1 hs (rfl : zb x zT0 zc_40 1 (45, [o0, some (.int z1), o2, o3], [], h) = some (46, [o0, some (.int z1), o2, o3], [.int 0], h)) (fun hs => ?_)
  exact zg_rtz zd_40 rfl rfl rfl hF
set_option maxRecDepth 100000 in
set_option maxHeartbeats 400000 in
theorem f_Ground_isOpen_k53_t {x : zm_X} {d : Nat} (h : zm_H) (o0 : Option Value) (z1 : Int32) (o2 : Option Value) (o3 : Option Value) {Q : Option Value → zm_H → Prop} (hs : zSh zT0 h) (ho : f_Ground_isOpen_k53_ok h) (hF : Q (some (.int (f_Ground_isOpen_k53 h))) h) : zg x (d + 2) 40 53 [o0, some (.int z1), o2, o3] [] h Q := by
  unfold f_Ground_isOpen_k53 at hF
  unfold f_Ground_isOpen_k53_ok at ho
  refine zg_blk zd_40 1 hs (rfl : zb x zT0 zc_40 1 (53, [o0, some (.int z1), o2, o3], [], h) = some (54, [o0, some (.int z1), o2, o3], [.int 1], h)) (fun hs => ?_)
  exact zg_rtz zd_40 rfl rfl rfl hF
set_option maxRecDepth 100000 in
set_option maxHeartbeats 400000 in
theorem f_Ground_isOpen_t {x : zm_X} {d : Nat} (p1 : Int32) (h : zm_H) {Q : Option Value → zm_H → Prop} (hs : zSh zT0 h) (ho : f_Ground_isOpen_ok p1 h) (hF : Q (some (.int (f_Ground_isOpen p1 h))) h) : zg x (d + 2) 40 0 [some (.ref 82), some (.int p1), none, none] [] h Q := by
  unfold f_Ground_isOpen at hF
  unfold f_Ground_isOpen_ok at ho
  refine zg_blk zd_40 2 hs (rfl : zb x zT0 zc_40 2 (0, [some (.ref 82), some (.int p1), none, none], [], h) = some (2, [some (.ref 82), some (.int p1), some (.int 0), none], [], h)) (fun hs => ?_)
  refine f_Ground_isOpen_l2_t p1 h (fun r => f_Ground_isOpen_a2_ok r h ∧ Q (some (.int (f_Ground_isOpen_a2 r h))) h) ?_ ?_ zF 0 (none) hs ho.1 ⟨ho.2, hF⟩
  · intro v2_ o2_ o3_ hs hG
    have ho : True := trivial
    have hF : Q (some (.int ((f_Ground_isOpen_k45 h)))) h := hG.2
    exact f_Ground_isOpen_k45_t h (some (.ref 82)) p1 (o2_) (o3_) hs trivial hF
  · intro v2_ o2_ o3_ hs hG
    have ho : True := trivial
    have hF : Q (some (.int ((f_Ground_isOpen_k53 h)))) h := hG.2
    exact f_Ground_isOpen_k53_t h (some (.ref 82)) p1 (o2_) (o3_) hs trivial hF
theorem zd_41 : zm_cd 41 = zc_41 := by rfl
set_option maxRecDepth 100000 in
set_option maxHeartbeats 400000 in
theorem f_Ground_tryOut_l13_k45_t {x : zm_X} {d : Nat} (v1 : Int32) (v2 : Int32) (h : zm_H) (o3 : Option Value) (o4 : Option Value) {Q : Option Value → zm_H → Prop} {FN : Nat × Int32 × zm_H → Prop} (hs : zSh zT0 h) (ho : f_Ground_tryOut_l13_k45_ok v1 v2 h) (hF : FN (f_Ground_tryOut_l13_k45 v1 v2 h)) (hl0 : ∀ (v2 : Int32) (h : zm_H) (o3 : Option Value) (o4 : Option Value), zSh zT0 h → FN (0, v2, h) → zg x (d + 4) 41 13 [some (.ref 82), some (.int v1), some (.int v2), o3, o4] [] h Q) (hl1 : ∀ (v2 : Int32) (h : zm_H) (o2 : Option Value) (o3 : Option Value) (o4 : Option Value), zSh zT0 h → FN (1, v2, h) → zg x (d + 4) 41 51 [some (.ref 82), some (.int v1), o2, o3, o4] [] h Q) : zg x (d + 4) 41 45 [some (.ref 82), some (.int v1), some (.int v2), o3, o4] [] h Q := by
  unfold f_Ground_tryOut_l13_k45 at hF
  unfold f_Ground_tryOut_l13_k45_ok at ho
  refine zg_blk zd_41 2 hs (rfl : zb x zT0 zc_41 2 (45, [some (.ref 82), some (.int v1), some (.int v2), o3, o4], [], h) = some (13, [some (.ref 82), some (.int v1), some (.int (v2 + 1)), o3, o4], [], h)) (fun hs => ?_)
  exact hl0 (v2 + 1) h (o3) (o4) hs hF
set_option maxRecDepth 100000 in
set_option maxHeartbeats 400000 in
theorem f_Ground_tryOut_l13_b_t {x : zm_X} {d : Nat} (v1 : Int32) (v2 : Int32) (h : zm_H) (o3 : Option Value) (o4 : Option Value) {Q : Option Value → zm_H → Prop} {FN : Nat × Int32 × zm_H → Prop} (hs : zSh zT0 h) (ho : f_Ground_tryOut_l13_b_ok v1 v2 h) (hF : FN (f_Ground_tryOut_l13_b v1 v2 h)) (hl0 : ∀ (v2 : Int32) (h : zm_H) (o3 : Option Value) (o4 : Option Value), zSh zT0 h → FN (0, v2, h) → zg x (d + 4) 41 13 [some (.ref 82), some (.int v1), some (.int v2), o3, o4] [] h Q) (hl1 : ∀ (v2 : Int32) (h : zm_H) (o2 : Option Value) (o3 : Option Value) (o4 : Option Value), zSh zT0 h → FN (1, v2, h) → zg x (d + 4) 41 51 [some (.ref 82), some (.int v1), o2, o3, o4] [] h Q) : zg x (d + 4) 41 13 [some (.ref 82), some (.int v1), some (.int v2), o3, o4] [] h Q := by
  unfold f_Ground_tryOut_l13_b at hF
  unfold f_Ground_tryOut_l13_b_ok at ho
  refine zg_blk zd_41 3 hs (rfl : zb x zT0 zc_41 3 (13, [some (.ref 82), some (.int v1), some (.int v2), o3, o4], [], h) = some (18, [some (.ref 82), some (.int v1), some (.int v2), o3, o4], [.int (zf h 82 9), .int v2], h)) (fun hs => ?_)
  refine zg_i_ge zd_41 rfl (fun (hc : ((zf h 82 9) ≤ v2)) => ?_) (fun (hc : ¬ ((zf h 82 9) ≤ v2)) => ?_)
  · have ho := ho.1 hc
    rw [if_pos hc] at hF
    exact hl1 v2 h (some (.int v2)) (o3) (o4) hs hF
  · have ho := ho.2 hc
    rw [if_neg hc] at hF
    refine zg_blk zd_41 5 hs (rfl : zb x zT0 zc_41 5 (21, [some (.ref 82), some (.int v1), some (.int v2), o3, o4], [], h) = some (30, [some (.ref 82), some (.int v1), some (.int v2), o3, o4], [.int v2, .ref 87, .ref 32], h)) (fun hs => ?_)
    obtain ⟨hob, ho⟩ := ho
    refine zg_ial hs zd_41 rfl rfl hob ?_
    refine zg_blk zd_41 5 hs (rfl : zb x zT0 zc_41 5 (31, [some (.ref 82), some (.int v1), some (.int v2), o3, o4], [.int (zr h 87 v2), .ref 32], h) = some (40, [some (.ref 82), some (.int v1), some (.int v2), o3, o4], [.int v2, .ref 89, .ref 86, .int (zr h 87 v2), .ref 32], h)) (fun hs => ?_)
    obtain ⟨hob, ho⟩ := ho
    refine zg_ial hs zd_41 rfl rfl hob ?_
    obtain ⟨hob, ho⟩ := ho
    refine zg_ial hs zd_41 rfl rfl hob ?_
    have hob := ho
    refine zg_call hs zd_41 rfl rfl rfl rfl (as := [.ref 32, .int (zr h 87 v2), .int (zr h 86 (zr h 89 v2))]) (rest := []) (en := [some (.ref 32), some (.int (zr h 87 v2)), some (.int (zr h 86 (zr h 89 v2)))]) rfl rfl rfl rfl rfl ?_
    refine f_Waves_putIn_t (zr h 87 v2) (zr h 86 (zr h 89 v2)) h hs hob (fun hs => ?_)
    show zg x (d + 4) 41 45 [some (.ref 82), some (.int v1), some (.int v2), o3, o4] [] (f_Waves_putIn (zr h 87 v2) (zr h 86 (zr h 89 v2)) h) Q
    exact f_Ground_tryOut_l13_k45_t v1 v2 (f_Waves_putIn (zr h 87 v2) (zr h 86 (zr h 89 v2)) h) (o3) (o4) hs trivial hF hl0 hl1
theorem f_Ground_tryOut_l13_t {x : zm_X} {d : Nat} (v1 : Int32) {Q : Option Value → zm_H → Prop} (G : Nat × Int32 × zm_H → Prop) (hx1 : ∀ (v2 : Int32) (h : zm_H) (o2 : Option Value) (o3 : Option Value) (o4 : Option Value), zSh zT0 h → G (1, v2, h) → zg x (d + 4) 41 51 [some (.ref 82), some (.int v1), o2, o3, o4] [] h Q) : ∀ (n : Nat) (v2 : Int32) (h : zm_H) (o3 : Option Value) (o4 : Option Value), zSh zT0 h → f_Ground_tryOut_l13_ok v1 n (v2, h) → G (f_Ground_tryOut_l13 v1 n (v2, h)) → zg x (d + 4) 41 13 [some (.ref 82), some (.int v1), some (.int v2), o3, o4] [] h Q := by
  intro n
  induction n with
  | zero => intro v2 h o3 o4 hs ho hG; exact ho.elim
  | succ n ih =>
    intro v2 h o3 o4 hs ho hG
    refine f_Ground_tryOut_l13_b_t (FN := fun r => (r.1 = 0 → f_Ground_tryOut_l13_ok v1 n r.2) ∧ G (if r.1 = 0 then f_Ground_tryOut_l13 v1 n r.2 else r)) v1 v2 h o3 o4 hs ho.1 ⟨ho.2, hG⟩ ?_ ?_
    · intro v2 h o3 o4 hs hF
      exact ih v2 h o3 o4 hs (hF.1 rfl) hF.2
    · intro v2 h o2 o3 o4 hs hF
      exact hx1 v2 h o2 o3 o4 hs hF.2

theorem zd_42 : zm_cd 42 = zc_42 := by rfl
set_option maxRecDepth 100000 in
set_option maxHeartbeats 400000 in
theorem f_Ground_keepsBeach_l2_b_t {x : zm_X} {d : Nat} (v1 : Int32) (v2 : Int32) (v3 : Int32) (h : zm_H) {Q : Option Value → zm_H → Prop} {FN : Nat × Int32 → Prop} (hs : zSh zT0 h) (ho : f_Ground_keepsBeach_l2_b_ok v1 v2 v3 h) (hF : FN (f_Ground_keepsBeach_l2_b v1 v2 v3 h)) (hl0 : ∀ (v3 : Int32), zSh zT0 h → FN (0, v3) → zg x (d + 1) 42 2 [some (.ref 82), some (.int v1), some (.int v2), some (.int v3)] [] h Q) (hl1 : ∀ (v3 : Int32) (o3 : Option Value), zSh zT0 h → FN (1, v3) → zg x (d + 1) 42 26 [some (.ref 82), some (.int v1), some (.int v2), o3] [] h Q) (hl2 : ∀ (v3 : Int32) (o3 : Option Value), zSh zT0 h → FN (2, v3) → zg x (d + 1) 42 34 [some (.ref 82), some (.int v1), some (.int v2), o3] [] h Q) : zg x (d + 1) 42 2 [some (.ref 82), some (.int v1), some (.int v2), some (.int v3)] [] h Q := by
  unfold f_Ground_keepsBeach_l2_b at hF
  unfold f_Ground_keepsBeach_l2_b_ok at ho
  refine zg_blk zd_42 2 hs (rfl : zb x zT0 zc_42 2 (2, [some (.ref 82), some (.int v1), some (.int v2), some (.int v3)], [], h) = some (5, [some (.ref 82), some (.int v1), some (.int v2), some (.int v3)], [.int 10, .int v3], h)) (fun hs => ?_)
  refine zg_i_ge zd_42 rfl (fun (hc : (10 ≤ v3)) => ?_) (fun (hc : ¬ (10 ≤ v3)) => ?_)
  · have ho := ho.1 hc
    rw [if_pos hc] at hF
    exact hl2 v3 (some (.int v3)) hs hF
  · have ho := ho.2 hc
    rw [if_neg hc] at hF
    refine zg_blk zd_42 5 hs (rfl : zb x zT0 zc_42 5 (8, [some (.ref 82), some (.int v1), some (.int v2), some (.int v3)], [], h) = some (18, [some (.ref 82), some (.int v1), some (.int v2), some (.int v3)], [.int v3, .ref 35, .int 100], h)) (fun hs => ?_)
    have hob := ho
    refine zg_ial hs zd_42 rfl rfl hob ?_
    refine zg_blk zd_42 4 hs (rfl : zb x zT0 zc_42 4 (19, [some (.ref 82), some (.int v1), some (.int v2), some (.int v3)], [.int (zr h 35 v3), .int 100], h) = some (23, [some (.ref 82), some (.int v1), some (.int v2), some (.int v3)], [.int (v1 * v2), .int (100 * (zr h 35 v3))], h)) (fun hs => ?_)
    refine zg_i_ge zd_42 rfl (fun (hc : ((v1 * v2) ≤ (100 * (zr h 35 v3)))) => ?_) (fun (hc : ¬ ((v1 * v2) ≤ (100 * (zr h 35 v3)))) => ?_)
    · skip
      rw [if_pos hc] at hF
      refine zg_blk zd_42 2 hs (rfl : zb x zT0 zc_42 2 (28, [some (.ref 82), some (.int v1), some (.int v2), some (.int v3)], [], h) = some (2, [some (.ref 82), some (.int v1), some (.int v2), some (.int (v3 + 1))], [], h)) (fun hs => ?_)
      exact hl0 (v3 + 1) hs hF
    · skip
      rw [if_neg hc] at hF
      exact hl1 v3 (some (.int v3)) hs hF
theorem f_Ground_keepsBeach_l2_t {x : zm_X} {d : Nat} (v1 : Int32) (v2 : Int32) (h : zm_H) {Q : Option Value → zm_H → Prop} (G : Nat × Int32 → Prop) (hx1 : ∀ (v3 : Int32) (o3 : Option Value), zSh zT0 h → G (1, v3) → zg x (d + 1) 42 26 [some (.ref 82), some (.int v1), some (.int v2), o3] [] h Q) (hx2 : ∀ (v3 : Int32) (o3 : Option Value), zSh zT0 h → G (2, v3) → zg x (d + 1) 42 34 [some (.ref 82), some (.int v1), some (.int v2), o3] [] h Q) : ∀ (n : Nat) (v3 : Int32), zSh zT0 h → f_Ground_keepsBeach_l2_ok v1 v2 h n v3 → G (f_Ground_keepsBeach_l2 v1 v2 h n v3) → zg x (d + 1) 42 2 [some (.ref 82), some (.int v1), some (.int v2), some (.int v3)] [] h Q := by
  intro n
  induction n with
  | zero => intro v3 hs ho hG; exact ho.elim
  | succ n ih =>
    intro v3 hs ho hG
    refine f_Ground_keepsBeach_l2_b_t (FN := fun r => (r.1 = 0 → f_Ground_keepsBeach_l2_ok v1 v2 h n r.2) ∧ G (if r.1 = 0 then f_Ground_keepsBeach_l2 v1 v2 h n r.2 else r)) v1 v2 v3 h hs ho.1 ⟨ho.2, hG⟩ ?_ ?_ ?_
    · intro v3 hs hF
      exact ih v3 hs (hF.1 rfl) hF.2
    · intro v3 o3 hs hF
      exact hx1 v3 o3 hs hF.2
    · intro v3 o3 hs hF
      exact hx2 v3 o3 hs hF.2

set_option maxRecDepth 100000 in
set_option maxHeartbeats 400000 in
theorem f_Ground_keepsBeach_k26_t {x : zm_X} {d : Nat} (h : zm_H) (o0 : Option Value) (o1 : Option Value) (z2 : Int32) (o3 : Option Value) {Q : Option Value → zm_H → Prop} (hs : zSh zT0 h) (ho : f_Ground_keepsBeach_k26_ok h) (hF : Q (some (.int (f_Ground_keepsBeach_k26 h))) h) : zg x (d + 1) 42 26 [o0, o1, some (.int z2), o3] [] h Q := by
  unfold f_Ground_keepsBeach_k26 at hF
  unfold f_Ground_keepsBeach_k26_ok at ho
  refine zg_blk zd_42 1 hs (rfl : zb x zT0 zc_42 1 (26, [o0, o1, some (.int z2), o3], [], h) = some (27, [o0, o1, some (.int z2), o3], [.int 0], h)) (fun hs => ?_)
  exact zg_rtz zd_42 rfl rfl rfl hF
set_option maxRecDepth 100000 in
set_option maxHeartbeats 400000 in
theorem f_Ground_keepsBeach_k34_t {x : zm_X} {d : Nat} (h : zm_H) (o0 : Option Value) (o1 : Option Value) (z2 : Int32) (o3 : Option Value) {Q : Option Value → zm_H → Prop} (hs : zSh zT0 h) (ho : f_Ground_keepsBeach_k34_ok h) (hF : Q (some (.int (f_Ground_keepsBeach_k34 h))) h) : zg x (d + 1) 42 34 [o0, o1, some (.int z2), o3] [] h Q := by
  unfold f_Ground_keepsBeach_k34 at hF
  unfold f_Ground_keepsBeach_k34_ok at ho
  refine zg_blk zd_42 1 hs (rfl : zb x zT0 zc_42 1 (34, [o0, o1, some (.int z2), o3], [], h) = some (35, [o0, o1, some (.int z2), o3], [.int 1], h)) (fun hs => ?_)
  exact zg_rtz zd_42 rfl rfl rfl hF
set_option maxRecDepth 100000 in
set_option maxHeartbeats 400000 in
theorem f_Ground_keepsBeach_t {x : zm_X} {d : Nat} (p1 : Int32) (p2 : Int32) (h : zm_H) {Q : Option Value → zm_H → Prop} (hs : zSh zT0 h) (ho : f_Ground_keepsBeach_ok p1 p2 h) (hF : Q (some (.int (f_Ground_keepsBeach p1 p2 h))) h) : zg x (d + 1) 42 0 [some (.ref 82), some (.int p1), some (.int p2), none] [] h Q := by
  unfold f_Ground_keepsBeach at hF
  unfold f_Ground_keepsBeach_ok at ho
  refine zg_blk zd_42 2 hs (rfl : zb x zT0 zc_42 2 (0, [some (.ref 82), some (.int p1), some (.int p2), none], [], h) = some (2, [some (.ref 82), some (.int p1), some (.int p2), some (.int 0)], [], h)) (fun hs => ?_)
  refine f_Ground_keepsBeach_l2_t p1 p2 h (fun r => f_Ground_keepsBeach_a2_ok r h ∧ Q (some (.int (f_Ground_keepsBeach_a2 r h))) h) ?_ ?_ zF 0 hs ho.1 ⟨ho.2, hF⟩
  · intro v3_ o3_ hs hG
    have ho : True := trivial
    have hF : Q (some (.int ((f_Ground_keepsBeach_k26 h)))) h := hG.2
    exact f_Ground_keepsBeach_k26_t h (some (.ref 82)) (some (.int p1)) p2 (o3_) hs trivial hF
  · intro v3_ o3_ hs hG
    have ho : True := trivial
    have hF : Q (some (.int ((f_Ground_keepsBeach_k34 h)))) h := hG.2
    exact f_Ground_keepsBeach_k34_t h (some (.ref 82)) (some (.int p1)) p2 (o3_) hs trivial hF
set_option maxRecDepth 100000 in
set_option maxHeartbeats 400000 in
theorem f_Ground_tryOut_l55_l98_b_t {x : zm_X} {d : Nat} (v1 : Int32) (v2 : Int32) (v3 : Int32) (v4 : Int32) (h : zm_H) {Q : Option Value → zm_H → Prop} {FN : Nat × Int32 × Int32 → Prop} (hs : zSh zT0 h) (ho : f_Ground_tryOut_l55_l98_b_ok v1 v2 v3 v4 h) (hF : FN (f_Ground_tryOut_l55_l98_b v1 v2 v3 v4 h)) (hl0 : ∀ (v2 : Int32) (v4 : Int32), zSh zT0 h → FN (0, v2, v4) → zg x (d + 4) 41 98 [some (.ref 82), some (.int v1), some (.int v2), some (.int v3), some (.int v4)] [] h Q) (hl1 : ∀ (v2 : Int32) (v4 : Int32) (o4 : Option Value), zSh zT0 h → FN (1, v2, v4) → zg x (d + 4) 41 141 [some (.ref 82), some (.int v1), some (.int v2), some (.int v3), o4] [] h Q) : zg x (d + 4) 41 98 [some (.ref 82), some (.int v1), some (.int v2), some (.int v3), some (.int v4)] [] h Q := by
  unfold f_Ground_tryOut_l55_l98_b at hF
  unfold f_Ground_tryOut_l55_l98_b_ok at ho
  refine zg_blk zd_41 5 hs (rfl : zb x zT0 zc_41 5 (98, [some (.ref 82), some (.int v1), some (.int v2), some (.int v3), some (.int v4)], [], h) = some (110, [some (.ref 82), some (.int v1), some (.int v2), some (.int v3), some (.int v4)], [.int (zf h 23 0), .int v4], h)) (fun hs => ?_)
  refine zg_i_ge zd_41 rfl (fun (hc : ((zf h 23 0) ≤ v4)) => ?_) (fun (hc : ¬ ((zf h 23 0) ≤ v4)) => ?_)
  · have ho := ho.1 hc
    rw [if_pos hc] at hF
    exact hl1 v2 v4 (some (.int v4)) hs hF
  · have ho := ho.2 hc
    rw [if_neg hc] at hF
    refine zg_blk zd_41 7 hs (rfl : zb x zT0 zc_41 7 (113, [some (.ref 82), some (.int v1), some (.int v2), some (.int v3), some (.int v4)], [], h) = some (127, [some (.ref 82), some (.int v1), some (.int v2), some (.int v3), some (.int v4)], [.int v4, .ref 34, .ref 37, .int v2], h)) (fun hs => ?_)
    obtain ⟨hob, ho⟩ := ho
    refine zg_ial hs zd_41 rfl rfl hob ?_
    refine zg_blk zd_41 1 hs (rfl : zb x zT0 zc_41 1 (128, [some (.ref 82), some (.int v1), some (.int v2), some (.int v3), some (.int v4)], [.int (zr h 34 v4), .ref 37, .int v2], h) = some (130, [some (.ref 82), some (.int v1), some (.int v2), some (.int v3), some (.int v4)], [.int v4, .int (zr h 34 v4), .ref 37, .int v2], h)) (fun hs => ?_)
    have hob := ho
    refine zg_call hs zd_41 rfl rfl rfl rfl (as := [.ref 37, .int (zr h 34 v4), .int v4]) (rest := [.int v2]) (en := [some (.ref 37), some (.int (zr h 34 v4)), some (.int v4)]) rfl rfl rfl rfl rfl ?_
    refine f_Course_powerFrom_37_t (zr h 34 v4) v4 h hs hob ?_
    show zg x (d + 4) 41 133 [some (.ref 82), some (.int v1), some (.int v2), some (.int v3), some (.int v4)] [.int (f_Course_powerFrom_37 (zr h 34 v4) v4 h), .int v2] h Q
    refine zg_blk zd_41 4 hs (rfl : zb x zT0 zc_41 4 (133, [some (.ref 82), some (.int v1), some (.int v2), some (.int v3), some (.int v4)], [.int (f_Course_powerFrom_37 (zr h 34 v4) v4 h), .int v2], h) = some (98, [some (.ref 82), some (.int v1), some (.int (v2 + (f_Course_powerFrom_37 (zr h 34 v4) v4 h))), some (.int v3), some (.int (v4 + 1))], [], h)) (fun hs => ?_)
    exact hl0 (v2 + (f_Course_powerFrom_37 (zr h 34 v4) v4 h)) (v4 + 1) hs hF
theorem f_Ground_tryOut_l55_l98_t {x : zm_X} {d : Nat} (v1 : Int32) (v3 : Int32) (h : zm_H) {Q : Option Value → zm_H → Prop} (G : Nat × Int32 × Int32 → Prop) (hx1 : ∀ (v2 : Int32) (v4 : Int32) (o4 : Option Value), zSh zT0 h → G (1, v2, v4) → zg x (d + 4) 41 141 [some (.ref 82), some (.int v1), some (.int v2), some (.int v3), o4] [] h Q) : ∀ (n : Nat) (v2 : Int32) (v4 : Int32), zSh zT0 h → f_Ground_tryOut_l55_l98_ok v1 v3 h n (v2, v4) → G (f_Ground_tryOut_l55_l98 v1 v3 h n (v2, v4)) → zg x (d + 4) 41 98 [some (.ref 82), some (.int v1), some (.int v2), some (.int v3), some (.int v4)] [] h Q := by
  intro n
  induction n with
  | zero => intro v2 v4 hs ho hG; exact ho.elim
  | succ n ih =>
    intro v2 v4 hs ho hG
    refine f_Ground_tryOut_l55_l98_b_t (FN := fun r => (r.1 = 0 → f_Ground_tryOut_l55_l98_ok v1 v3 h n r.2) ∧ G (if r.1 = 0 then f_Ground_tryOut_l55_l98 v1 v3 h n r.2 else r)) v1 v2 v3 v4 h hs ho.1 ⟨ho.2, hG⟩ ?_ ?_
    · intro v2 v4 hs hF
      exact ih v2 v4 hs (hF.1 rfl) hF.2
    · intro v2 v4 o4 hs hF
      exact hx1 v2 v4 o4 hs hF.2

set_option maxRecDepth 100000 in
set_option maxHeartbeats 400000 in
theorem f_Ground_tryOut_l55_k141_t {x : zm_X} {d : Nat} (v1 : Int32) (v2 : Int32) (v3 : Int32) (h : zm_H) (o4 : Option Value) {Q : Option Value → zm_H → Prop} {FN : Nat × Int32 × Int32 × zm_H → Prop} (hs : zSh zT0 h) (ho : f_Ground_tryOut_l55_k141_ok v1 v2 v3 h) (hF : FN (f_Ground_tryOut_l55_k141 v1 v2 v3 h)) (hl0 : ∀ (v2 : Int32) (v3 : Int32) (h : zm_H) (o4 : Option Value), zSh zT0 h → FN (0, v2, v3, h) → zg x (d + 4) 41 55 [some (.ref 82), some (.int v1), some (.int v2), some (.int v3), o4] [] h Q) (hl1 : ∀ (v2 : Int32) (v3 : Int32) (h : zm_H) (o2 : Option Value) (o3 : Option Value) (o4 : Option Value), zSh zT0 h → FN (1, v2, v3, h) → zg x (d + 4) 41 93 [some (.ref 82), some (.int v1), o2, o3, o4] [] h Q) (hl2 : ∀ (v2 : Int32) (v3 : Int32) (h : zm_H) (o3 : Option Value) (o4 : Option Value), zSh zT0 h → FN (2, v2, v3, h) → zg x (d + 4) 41 147 [some (.ref 82), some (.int v1), some (.int v2), o3, o4] [] h Q) : zg x (d + 4) 41 141 [some (.ref 82), some (.int v1), some (.int v2), some (.int v3), o4] [] h Q := by
  unfold f_Ground_tryOut_l55_k141 at hF
  unfold f_Ground_tryOut_l55_k141_ok at ho
  refine zg_blk zd_41 2 hs (rfl : zb x zT0 zc_41 2 (141, [some (.ref 82), some (.int v1), some (.int v2), some (.int v3), o4], [], h) = some (55, [some (.ref 82), some (.int v1), some (.int v2), some (.int (v3 + 1)), o4], [], h)) (fun hs => ?_)
  exact hl0 v2 (v3 + 1) h (o4) hs hF
set_option maxRecDepth 100000 in
set_option maxHeartbeats 400000 in
theorem f_Ground_tryOut_l55_k76_t {x : zm_X} {d : Nat} (v1 : Int32) (v2 : Int32) (v3 : Int32) (h : zm_H) (o4 : Option Value) {Q : Option Value → zm_H → Prop} {FN : Nat × Int32 × Int32 × zm_H → Prop} (hs : zSh zT0 h) (ho : f_Ground_tryOut_l55_k76_ok v1 v2 v3 h) (hF : FN (f_Ground_tryOut_l55_k76 v1 v2 v3 h)) (hl0 : ∀ (v2 : Int32) (v3 : Int32) (h : zm_H) (o4 : Option Value), zSh zT0 h → FN (0, v2, v3, h) → zg x (d + 4) 41 55 [some (.ref 82), some (.int v1), some (.int v2), some (.int v3), o4] [] h Q) (hl1 : ∀ (v2 : Int32) (v3 : Int32) (h : zm_H) (o2 : Option Value) (o3 : Option Value) (o4 : Option Value), zSh zT0 h → FN (1, v2, v3, h) → zg x (d + 4) 41 93 [some (.ref 82), some (.int v1), o2, o3, o4] [] h Q) (hl2 : ∀ (v2 : Int32) (v3 : Int32) (h : zm_H) (o3 : Option Value) (o4 : Option Value), zSh zT0 h → FN (2, v2, v3, h) → zg x (d + 4) 41 147 [some (.ref 82), some (.int v1), some (.int v2), o3, o4] [] h Q) : zg x (d + 4) 41 76 [some (.ref 82), some (.int v1), some (.int v2), some (.int v3), o4] [] h Q := by
  unfold f_Ground_tryOut_l55_k76 at hF
  unfold f_Ground_tryOut_l55_k76_ok at ho
  refine zg_blk zd_41 5 hs (rfl : zb x zT0 zc_41 5 (76, [some (.ref 82), some (.int v1), some (.int v2), some (.int v3), o4], [], h) = some (83, [some (.ref 82), some (.int v1), some (.int v2), some (.int v3), o4], [.int v3, .ref 88, .int v1, .ref 82], h)) (fun hs => ?_)
  obtain ⟨hob, ho⟩ := ho
  refine zg_ial hs zd_41 rfl rfl hob ?_
  refine zg_call hs zd_41 rfl rfl rfl rfl (as := [.int (zr h 88 v3)]) (rest := [.int v1, .ref 82]) (en := [some (.int (zr h 88 v3))]) rfl rfl rfl rfl rfl ?_
  refine f_Waves_openSea_t (zr h 88 v3) h hs trivial ?_
  show zg x (d + 4) 41 87 [some (.ref 82), some (.int v1), some (.int v2), some (.int v3), o4] [.int ((((zr h 88 v3) / 1000) * ((zr h 88 v3) / 1000)) * ((zm_rm (zr h 88 v3) 1000) / 10)), .int v1, .ref 82] h Q
  obtain ⟨hob, ho⟩ := ho
  refine zg_call hs zd_41 rfl rfl rfl rfl (as := [.ref 82, .int v1, .int ((((zr h 88 v3) / 1000) * ((zr h 88 v3) / 1000)) * ((zm_rm (zr h 88 v3) 1000) / 10))]) (rest := []) (en := [some (.ref 82), some (.int v1), some (.int ((((zr h 88 v3) / 1000) * ((zr h 88 v3) / 1000)) * ((zm_rm (zr h 88 v3) 1000) / 10))), none]) rfl rfl rfl rfl rfl ?_
  refine f_Ground_keepsBeach_t v1 ((((zr h 88 v3) / 1000) * ((zr h 88 v3) / 1000)) * ((zm_rm (zr h 88 v3) 1000) / 10)) h hs hob ?_
  show zg x (d + 4) 41 90 [some (.ref 82), some (.int v1), some (.int v2), some (.int v3), o4] [.int (f_Ground_keepsBeach v1 ((((zr h 88 v3) / 1000) * ((zr h 88 v3) / 1000)) * ((zm_rm (zr h 88 v3) 1000) / 10)) h)] h Q
  refine zg_f_ne zd_41 rfl (fun (hc : ¬ ((f_Ground_keepsBeach v1 ((((zr h 88 v3) / 1000) * ((zr h 88 v3) / 1000)) * ((zm_rm (zr h 88 v3) 1000) / 10)) h) = 0)) => ?_) (fun (hc : ((f_Ground_keepsBeach v1 ((((zr h 88 v3) / 1000) * ((zr h 88 v3) / 1000)) * ((zm_rm (zr h 88 v3) 1000) / 10)) h) = 0)) => ?_)
  · have ho := ho.2 hc
    rw [if_neg hc] at hF
    refine zg_blk zd_41 2 hs (rfl : zb x zT0 zc_41 2 (95, [some (.ref 82), some (.int v1), some (.int v2), some (.int v3), o4], [], h) = some (98, [some (.ref 82), some (.int v1), some (.int v2), some (.int v3), some (.int 0)], [], h)) (fun hs => ?_)
    refine f_Ground_tryOut_l55_l98_t v1 v3 h (fun r => f_Ground_tryOut_l55_a98_ok v1 v3 r h ∧ FN (f_Ground_tryOut_l55_a98 v1 v3 r h)) ?_ zF v2 0 hs ho.1 ⟨ho.2, hF⟩
    · intro v2_ v4_ o4_ hs hG
      have ho : True := trivial
      have hF : FN ((f_Ground_tryOut_l55_k141 v1 v2_ v3 h)) := hG.2
      exact f_Ground_tryOut_l55_k141_t v1 v2_ v3 h (o4_) hs trivial hF hl0 hl1 hl2
  · have ho := ho.1 hc
    rw [if_pos hc] at hF
    exact hl1 v2 v3 h (some (.int v2)) (some (.int v3)) (o4) hs hF
set_option maxRecDepth 100000 in
set_option maxHeartbeats 400000 in
theorem f_Ground_tryOut_l55_b_t {x : zm_X} {d : Nat} (v1 : Int32) (v2 : Int32) (v3 : Int32) (h : zm_H) (o4 : Option Value) {Q : Option Value → zm_H → Prop} {FN : Nat × Int32 × Int32 × zm_H → Prop} (hs : zSh zT0 h) (ho : f_Ground_tryOut_l55_b_ok v1 v2 v3 h) (hF : FN (f_Ground_tryOut_l55_b v1 v2 v3 h)) (hl0 : ∀ (v2 : Int32) (v3 : Int32) (h : zm_H) (o4 : Option Value), zSh zT0 h → FN (0, v2, v3, h) → zg x (d + 4) 41 55 [some (.ref 82), some (.int v1), some (.int v2), some (.int v3), o4] [] h Q) (hl1 : ∀ (v2 : Int32) (v3 : Int32) (h : zm_H) (o2 : Option Value) (o3 : Option Value) (o4 : Option Value), zSh zT0 h → FN (1, v2, v3, h) → zg x (d + 4) 41 93 [some (.ref 82), some (.int v1), o2, o3, o4] [] h Q) (hl2 : ∀ (v2 : Int32) (v3 : Int32) (h : zm_H) (o3 : Option Value) (o4 : Option Value), zSh zT0 h → FN (2, v2, v3, h) → zg x (d + 4) 41 147 [some (.ref 82), some (.int v1), some (.int v2), o3, o4] [] h Q) : zg x (d + 4) 41 55 [some (.ref 82), some (.int v1), some (.int v2), some (.int v3), o4] [] h Q := by
  unfold f_Ground_tryOut_l55_b at hF
  unfold f_Ground_tryOut_l55_b_ok at ho
  refine zg_blk zd_41 3 hs (rfl : zb x zT0 zc_41 3 (55, [some (.ref 82), some (.int v1), some (.int v2), some (.int v3), o4], [], h) = some (60, [some (.ref 82), some (.int v1), some (.int v2), some (.int v3), o4], [.int (zf h 82 11), .int v3], h)) (fun hs => ?_)
  refine zg_i_ge zd_41 rfl (fun (hc : ((zf h 82 11) ≤ v3)) => ?_) (fun (hc : ¬ ((zf h 82 11) ≤ v3)) => ?_)
  · have ho := ho.1 hc
    rw [if_pos hc] at hF
    exact hl2 v2 v3 h (some (.int v3)) (o4) hs hF
  · have ho := ho.2 hc
    rw [if_neg hc] at hF
    refine zg_blk zd_41 5 hs (rfl : zb x zT0 zc_41 5 (63, [some (.ref 82), some (.int v1), some (.int v2), some (.int v3), o4], [], h) = some (72, [some (.ref 82), some (.int v1), some (.int v2), some (.int v3), o4], [.int v3, .ref 88, .ref 32], h)) (fun hs => ?_)
    obtain ⟨hob, ho⟩ := ho
    refine zg_ial hs zd_41 rfl rfl hob ?_
    obtain ⟨hob, ho⟩ := ho
    refine zg_call hs zd_41 rfl rfl rfl rfl (as := [.ref 32, .int (zr h 88 v3)]) (rest := []) (en := [some (.ref 32), some (.int (zr h 88 v3)), none, none, none, none]) rfl rfl rfl rfl rfl ?_
    refine f_Waves_run_t (zr h 88 v3) h hs hob (fun hs => ?_)
    show zg x (d + 4) 41 76 [some (.ref 82), some (.int v1), some (.int v2), some (.int v3), o4] [] (f_Waves_run (zr h 88 v3) h) Q
    exact f_Ground_tryOut_l55_k76_t v1 v2 v3 (f_Waves_run (zr h 88 v3) h) (o4) hs ho hF hl0 hl1 hl2
theorem f_Ground_tryOut_l55_t {x : zm_X} {d : Nat} (v1 : Int32) {Q : Option Value → zm_H → Prop} (G : Nat × Int32 × Int32 × zm_H → Prop) (hx1 : ∀ (v2 : Int32) (v3 : Int32) (h : zm_H) (o2 : Option Value) (o3 : Option Value) (o4 : Option Value), zSh zT0 h → G (1, v2, v3, h) → zg x (d + 4) 41 93 [some (.ref 82), some (.int v1), o2, o3, o4] [] h Q) (hx2 : ∀ (v2 : Int32) (v3 : Int32) (h : zm_H) (o3 : Option Value) (o4 : Option Value), zSh zT0 h → G (2, v2, v3, h) → zg x (d + 4) 41 147 [some (.ref 82), some (.int v1), some (.int v2), o3, o4] [] h Q) : ∀ (n : Nat) (v2 : Int32) (v3 : Int32) (h : zm_H) (o4 : Option Value), zSh zT0 h → f_Ground_tryOut_l55_ok v1 n (v2, v3, h) → G (f_Ground_tryOut_l55 v1 n (v2, v3, h)) → zg x (d + 4) 41 55 [some (.ref 82), some (.int v1), some (.int v2), some (.int v3), o4] [] h Q := by
  intro n
  induction n with
  | zero => intro v2 v3 h o4 hs ho hG; exact ho.elim
  | succ n ih =>
    intro v2 v3 h o4 hs ho hG
    refine f_Ground_tryOut_l55_b_t (FN := fun r => (r.1 = 0 → f_Ground_tryOut_l55_ok v1 n r.2) ∧ G (if r.1 = 0 then f_Ground_tryOut_l55 v1 n r.2 else r)) v1 v2 v3 h o4 hs ho.1 ⟨ho.2, hG⟩ ?_ ?_ ?_
    · intro v2 v3 h o4 hs hF
      exact ih v2 v3 h o4 hs (hF.1 rfl) hF.2
    · intro v2 v3 h o2 o3 o4 hs hF
      exact hx1 v2 v3 h o2 o3 o4 hs hF.2
    · intro v2 v3 h o3 o4 hs hF
      exact hx2 v2 v3 h o3 o4 hs hF.2

set_option maxRecDepth 100000 in
set_option maxHeartbeats 400000 in
theorem f_Ground_tryOut_k93_t {x : zm_X} {d : Nat} (h : zm_H) (o0 : Option Value) (z1 : Int32) (o2 : Option Value) (o3 : Option Value) (o4 : Option Value) {Q : Option Value → zm_H → Prop} (hs : zSh zT0 h) (ho : f_Ground_tryOut_k93_ok h) (hF : (zSh zT0 (f_Ground_tryOut_k93 h).2 → Q (some (.int (f_Ground_tryOut_k93 h).1)) (f_Ground_tryOut_k93 h).2)) : zg x (d + 4) 41 93 [o0, some (.int z1), o2, o3, o4] [] h Q := by
  unfold f_Ground_tryOut_k93 at hF
  unfold f_Ground_tryOut_k93_ok at ho
  refine zg_blk zd_41 1 hs (rfl : zb x zT0 zc_41 1 (93, [o0, some (.int z1), o2, o3, o4], [], h) = some (94, [o0, some (.int z1), o2, o3, o4], [.int (-1)], h)) (fun hs => ?_)
  exact zg_ret zd_41 rfl rfl (hF hs)
set_option maxRecDepth 100000 in
set_option maxHeartbeats 400000 in
theorem f_Ground_tryOut_k147_t {x : zm_X} {d : Nat} (v2 : Int32) (h : zm_H) (o0 : Option Value) (z1 : Int32) (o3 : Option Value) (o4 : Option Value) {Q : Option Value → zm_H → Prop} (hs : zSh zT0 h) (ho : f_Ground_tryOut_k147_ok v2 h) (hF : (zSh zT0 (f_Ground_tryOut_k147 v2 h).2 → Q (some (.int (f_Ground_tryOut_k147 v2 h).1)) (f_Ground_tryOut_k147 v2 h).2)) : zg x (d + 4) 41 147 [o0, some (.int z1), some (.int v2), o3, o4] [] h Q := by
  unfold f_Ground_tryOut_k147 at hF
  unfold f_Ground_tryOut_k147_ok at ho
  refine zg_blk zd_41 1 hs (rfl : zb x zT0 zc_41 1 (147, [o0, some (.int z1), some (.int v2), o3, o4], [], h) = some (148, [o0, some (.int z1), some (.int v2), o3, o4], [.int v2], h)) (fun hs => ?_)
  exact zg_ret zd_41 rfl rfl (hF hs)
set_option maxRecDepth 100000 in
set_option maxHeartbeats 400000 in
theorem f_Ground_tryOut_k51_t {x : zm_X} {d : Nat} (v1 : Int32) (h : zm_H) (o2 : Option Value) (o3 : Option Value) (o4 : Option Value) {Q : Option Value → zm_H → Prop} (hs : zSh zT0 h) (ho : f_Ground_tryOut_k51_ok v1 h) (hF : (zSh zT0 (f_Ground_tryOut_k51 v1 h).2 → Q (some (.int (f_Ground_tryOut_k51 v1 h).1)) (f_Ground_tryOut_k51 v1 h).2)) : zg x (d + 4) 41 51 [some (.ref 82), some (.int v1), o2, o3, o4] [] h Q := by
  unfold f_Ground_tryOut_k51 at hF
  unfold f_Ground_tryOut_k51_ok at ho
  refine zg_blk zd_41 4 hs (rfl : zb x zT0 zc_41 4 (51, [some (.ref 82), some (.int v1), o2, o3, o4], [], h) = some (55, [some (.ref 82), some (.int v1), some (.int 0), some (.int 0), o4], [], h)) (fun hs => ?_)
  refine f_Ground_tryOut_l55_t v1 (fun r => f_Ground_tryOut_a55_ok r ∧ (zSh zT0 (f_Ground_tryOut_a55 r).2 → Q (some (.int (f_Ground_tryOut_a55 r).1)) (f_Ground_tryOut_a55 r).2)) ?_ ?_ zF 0 0 h (o4) hs ho.1 ⟨ho.2, hF⟩
  · intro v2_ v3_ h_ o2_ o3_ o4_ hs hG
    have ho : True := trivial
    have hF : (zSh zT0 ((f_Ground_tryOut_k93 h_)).2 → Q (some (.int ((f_Ground_tryOut_k93 h_)).1)) ((f_Ground_tryOut_k93 h_)).2) := hG.2
    exact f_Ground_tryOut_k93_t h_ (some (.ref 82)) v1 (o2_) (o3_) (o4_) hs trivial hF
  · intro v2_ v3_ h_ o3_ o4_ hs hG
    have ho : True := trivial
    have hF : (zSh zT0 ((f_Ground_tryOut_k147 v2_ h_)).2 → Q (some (.int ((f_Ground_tryOut_k147 v2_ h_)).1)) ((f_Ground_tryOut_k147 v2_ h_)).2) := hG.2
    exact f_Ground_tryOut_k147_t v2_ h_ (some (.ref 82)) v1 (o3_) (o4_) hs trivial hF
set_option maxRecDepth 100000 in
set_option maxHeartbeats 400000 in
theorem f_Ground_tryOut_k11_t {x : zm_X} {d : Nat} (v1 : Int32) (h : zm_H) (o2 : Option Value) (o3 : Option Value) (o4 : Option Value) {Q : Option Value → zm_H → Prop} (hs : zSh zT0 h) (ho : f_Ground_tryOut_k11_ok v1 h) (hF : (zSh zT0 (f_Ground_tryOut_k11 v1 h).2 → Q (some (.int (f_Ground_tryOut_k11 v1 h).1)) (f_Ground_tryOut_k11 v1 h).2)) : zg x (d + 4) 41 11 [some (.ref 82), some (.int v1), o2, o3, o4] [] h Q := by
  unfold f_Ground_tryOut_k11 at hF
  unfold f_Ground_tryOut_k11_ok at ho
  refine zg_blk zd_41 2 hs (rfl : zb x zT0 zc_41 2 (11, [some (.ref 82), some (.int v1), o2, o3, o4], [], h) = some (13, [some (.ref 82), some (.int v1), some (.int 0), o3, o4], [], h)) (fun hs => ?_)
  refine f_Ground_tryOut_l13_t v1 (fun r => f_Ground_tryOut_a13_ok v1 r ∧ (zSh zT0 (f_Ground_tryOut_a13 v1 r).2 → Q (some (.int (f_Ground_tryOut_a13 v1 r).1)) (f_Ground_tryOut_a13 v1 r).2)) ?_ zF 0 h (o3) (o4) hs ho.1 ⟨ho.2, hF⟩
  · intro v2_ h_ o2_ o3_ o4_ hs hG
    have ho : (f_Ground_tryOut_k51_ok v1 h_) := hG.1
    have hF : (zSh zT0 ((f_Ground_tryOut_k51 v1 h_)).2 → Q (some (.int ((f_Ground_tryOut_k51 v1 h_)).1)) ((f_Ground_tryOut_k51 v1 h_)).2) := hG.2
    exact f_Ground_tryOut_k51_t v1 h_ (o2_) (o3_) (o4_) hs ho hF
set_option maxRecDepth 100000 in
set_option maxHeartbeats 400000 in
theorem f_Ground_tryOut_t {x : zm_X} {d : Nat} (p1 : Int32) (h : zm_H) {Q : Option Value → zm_H → Prop} (hs : zSh zT0 h) (ho : f_Ground_tryOut_ok p1 h) (hF : (zSh zT0 (f_Ground_tryOut p1 h).2 → Q (some (.int (f_Ground_tryOut p1 h).1)) (f_Ground_tryOut p1 h).2)) : zg x (d + 4) 41 0 [some (.ref 82), some (.int p1), none, none, none] [] h Q := by
  unfold f_Ground_tryOut at hF
  unfold f_Ground_tryOut_ok at ho
  refine zg_blk zd_41 4 hs (rfl : zb x zT0 zc_41 4 (0, [some (.ref 82), some (.int p1), none, none, none], [], h) = some (8, [some (.ref 82), some (.int p1), none, none, none], [.ref 32, .ref 37], h)) (fun hs => ?_)
  obtain ⟨hob, ho⟩ := ho
  refine zg_call hs zd_41 rfl rfl rfl rfl (as := [.ref 37, .ref 32]) (rest := []) (en := [some (.ref 37), some (.ref 32), none]) rfl rfl rfl rfl rfl ?_
  refine f_Course_putInto_37_t  h hs hob (fun hs => ?_)
  show zg x (d + 4) 41 11 [some (.ref 82), some (.int p1), none, none, none] [] (f_Course_putInto_37 h) Q
  exact f_Ground_tryOut_k11_t p1 (f_Course_putInto_37 h) (none) (none) (none) hs ho hF
set_option maxRecDepth 100000 in
set_option maxHeartbeats 400000 in
theorem f_Ground_search_l35_k63_t {x : zm_X} {d : Nat} (v1 : Int32) (v2 : Int32) (v3 : Int32) (v4 : Int32) (w0 : Int32) (h : zm_H) (o5 : Option Value) (o6 : Option Value) {Q : Option Value → zm_H → Prop} {FN : Nat × Int32 × zm_H → Prop} (hs : zSh zT0 h) (ho : f_Ground_search_l35_k63_ok v1 v2 v3 v4 w0 h) (hF : FN (f_Ground_search_l35_k63 v1 v2 v3 v4 w0 h)) (hl0 : ∀ (v4 : Int32) (h : zm_H) (o5 : Option Value) (o6 : Option Value), zSh zT0 h → FN (0, v4, h) → zg x (d + 5) 38 35 [some (.ref 82), some (.int v1), some (.int v2), some (.int v3), some (.int v4), o5, o6] [] h Q) (hl1 : ∀ (v4 : Int32) (h : zm_H) (o4 : Option Value) (o5 : Option Value) (o6 : Option Value), zSh zT0 h → FN (1, v4, h) → zg x (d + 5) 38 127 [some (.ref 82), some (.int v1), some (.int v2), some (.int v3), o4, o5, o6] [] h Q) : zg x (d + 5) 38 63 [some (.ref 82), some (.int v1), some (.int v2), some (.int v3), some (.int v4), o5, o6] [.int w0] h Q := by
  unfold f_Ground_search_l35_k63 at hF
  unfold f_Ground_search_l35_k63_ok at ho
  refine zg_blk zd_38 1 hs (rfl : zb x zT0 zc_38 1 (63, [some (.ref 82), some (.int v1), some (.int v2), some (.int v3), some (.int v4), o5, o6], [.int w0], h) = some (67, [some (.ref 82), some (.int v1), some (.int v2), some (.int v3), some (.int v4), o5, o6], [.int w0], h)) (fun hs => ?_)
  exact f_Ground_search_l35_k67_t v1 v2 v3 v4 w0 h (o5) (o6) hs ho hF hl0 hl1
set_option maxRecDepth 100000 in
set_option maxHeartbeats 400000 in
theorem f_Ground_search_l35_k47_t {x : zm_X} {d : Nat} (v1 : Int32) (v2 : Int32) (v3 : Int32) (v4 : Int32) (w0 : Int32) (h : zm_H) (o5 : Option Value) (o6 : Option Value) {Q : Option Value → zm_H → Prop} {FN : Nat × Int32 × zm_H → Prop} (hs : zSh zT0 h) (ho : f_Ground_search_l35_k47_ok v1 v2 v3 v4 w0 h) (hF : FN (f_Ground_search_l35_k47 v1 v2 v3 v4 w0 h)) (hl0 : ∀ (v4 : Int32) (h : zm_H) (o5 : Option Value) (o6 : Option Value), zSh zT0 h → FN (0, v4, h) → zg x (d + 5) 38 35 [some (.ref 82), some (.int v1), some (.int v2), some (.int v3), some (.int v4), o5, o6] [] h Q) (hl1 : ∀ (v4 : Int32) (h : zm_H) (o4 : Option Value) (o5 : Option Value) (o6 : Option Value), zSh zT0 h → FN (1, v4, h) → zg x (d + 5) 38 127 [some (.ref 82), some (.int v1), some (.int v2), some (.int v3), o4, o5, o6] [] h Q) : zg x (d + 5) 38 47 [some (.ref 82), some (.int v1), some (.int v2), some (.int v3), some (.int v4), o5, o6] [.int w0] h Q := by
  unfold f_Ground_search_l35_k47 at hF
  unfold f_Ground_search_l35_k47_ok at ho
  refine zg_f_eq zd_38 rfl (fun (hc : (w0 = 0)) => ?_) (fun (hc : ¬ (w0 = 0)) => ?_)
  · have ho := ho.1 hc
    rw [if_pos hc] at hF
    exact f_Ground_search_l35_k66_t v1 v2 v3 v4 h (o5) (o6) hs ho hF hl0 hl1
  · have ho := ho.2 hc
    rw [if_neg hc] at hF
    refine zg_blk zd_38 2 hs (rfl : zb x zT0 zc_38 2 (50, [some (.ref 82), some (.int v1), some (.int v2), some (.int v3), some (.int v4), o5, o6], [], h) = some (52, [some (.ref 82), some (.int v1), some (.int v2), some (.int v3), some (.int v4), o5, o6], [.int v2, .ref 82], h)) (fun hs => ?_)
    obtain ⟨hob, ho⟩ := ho
    refine zg_call hs zd_38 rfl rfl rfl rfl (as := [.ref 82, .int v2]) (rest := []) (en := [some (.ref 82), some (.int v2), none, none]) rfl rfl rfl rfl rfl ?_
    refine f_Ground_isOpen_t v2 h hs hob ?_
    show zg x (d + 5) 38 55 [some (.ref 82), some (.int v1), some (.int v2), some (.int v3), some (.int v4), o5, o6] [.int (f_Ground_isOpen v2 h)] h Q
    refine zg_f_eq zd_38 rfl (fun (hc : ((f_Ground_isOpen v2 h) = 0)) => ?_) (fun (hc : ¬ ((f_Ground_isOpen v2 h) = 0)) => ?_)
    · have ho := ho.1 hc
      rw [if_pos hc] at hF
      exact f_Ground_search_l35_k66_t v1 v2 v3 v4 h (o5) (o6) hs ho hF hl0 hl1
    · have ho := ho.2 hc
      rw [if_neg hc] at hF
      refine zg_blk zd_38 2 hs (rfl : zb x zT0 zc_38 2 (58, [some (.ref 82), some (.int v1), some (.int v2), some (.int v3), some (.int v4), o5, o6], [], h) = some (60, [some (.ref 82), some (.int v1), some (.int v2), some (.int v3), some (.int v4), o5, o6], [.int v1, .ref 82], h)) (fun hs => ?_)
      obtain ⟨hob, ho⟩ := ho
      refine zg_call hs zd_38 rfl rfl rfl rfl (as := [.ref 82, .int v1]) (rest := []) (en := [some (.ref 82), some (.int v1), none, none, none]) rfl rfl rfl rfl rfl ?_
      refine f_Ground_tryOut_t v1 h hs hob (fun hs => ?_)
      show zg x (d + 5) 38 63 [some (.ref 82), some (.int v1), some (.int v2), some (.int v3), some (.int v4), o5, o6] [.int (f_Ground_tryOut v1 h).1] (f_Ground_tryOut v1 h).2 Q
      exact f_Ground_search_l35_k63_t v1 v2 v3 v4 (f_Ground_tryOut v1 h).1 (f_Ground_tryOut v1 h).2 (o5) (o6) hs ho hF hl0 hl1
set_option maxRecDepth 100000 in
set_option maxHeartbeats 400000 in
theorem f_Ground_search_l35_b_t {x : zm_X} {d : Nat} (v1 : Int32) (v2 : Int32) (v3 : Int32) (v4 : Int32) (h : zm_H) (o5 : Option Value) (o6 : Option Value) {Q : Option Value → zm_H → Prop} {FN : Nat × Int32 × zm_H → Prop} (hs : zSh zT0 h) (ho : f_Ground_search_l35_b_ok v1 v2 v3 v4 h) (hF : FN (f_Ground_search_l35_b v1 v2 v3 v4 h)) (hl0 : ∀ (v4 : Int32) (h : zm_H) (o5 : Option Value) (o6 : Option Value), zSh zT0 h → FN (0, v4, h) → zg x (d + 5) 38 35 [some (.ref 82), some (.int v1), some (.int v2), some (.int v3), some (.int v4), o5, o6] [] h Q) (hl1 : ∀ (v4 : Int32) (h : zm_H) (o4 : Option Value) (o5 : Option Value) (o6 : Option Value), zSh zT0 h → FN (1, v4, h) → zg x (d + 5) 38 127 [some (.ref 82), some (.int v1), some (.int v2), some (.int v3), o4, o5, o6] [] h Q) : zg x (d + 5) 38 35 [some (.ref 82), some (.int v1), some (.int v2), some (.int v3), some (.int v4), o5, o6] [] h Q := by
  unfold f_Ground_search_l35_b at hF
  unfold f_Ground_search_l35_b_ok at ho
  refine zg_blk zd_38 2 hs (rfl : zb x zT0 zc_38 2 (35, [some (.ref 82), some (.int v1), some (.int v2), some (.int v3), some (.int v4), o5, o6], [], h) = some (38, [some (.ref 82), some (.int v1), some (.int v2), some (.int v3), some (.int v4), o5, o6], [.int v3, .int v4], h)) (fun hs => ?_)
  refine zg_i_ge zd_38 rfl (fun (hc : (v3 ≤ v4)) => ?_) (fun (hc : ¬ (v3 ≤ v4)) => ?_)
  · have ho := ho.1 hc
    rw [if_pos hc] at hF
    exact hl1 v4 h (some (.int v4)) (o5) (o6) hs hF
  · have ho := ho.2 hc
    rw [if_neg hc] at hF
    refine zg_blk zd_38 2 hs (rfl : zb x zT0 zc_38 2 (41, [some (.ref 82), some (.int v1), some (.int v2), some (.int v3), some (.int v4), o5, o6], [], h) = some (44, [some (.ref 82), some (.int v1), some (.int v2), some (.int v3), some (.int v4), o5, o6], [.int v4, .ref 82], h)) (fun hs => ?_)
    obtain ⟨hob, ho⟩ := ho
    refine zg_call hs zd_38 rfl rfl rfl rfl (as := [.ref 82, .int v4]) (rest := []) (en := [some (.ref 82), some (.int v4), none, none, none]) rfl rfl rfl rfl rfl ?_
    refine f_Ground_setTrial_t v4 h hs hob (fun hs => ?_)
    show zg x (d + 5) 38 47 [some (.ref 82), some (.int v1), some (.int v2), some (.int v3), some (.int v4), o5, o6] [.int (f_Ground_setTrial v4 h).1] (f_Ground_setTrial v4 h).2 Q
    exact f_Ground_search_l35_k47_t v1 v2 v3 v4 (f_Ground_setTrial v4 h).1 (f_Ground_setTrial v4 h).2 (o5) (o6) hs ho hF hl0 hl1
theorem f_Ground_search_l35_t {x : zm_X} {d : Nat} (v1 : Int32) (v2 : Int32) (v3 : Int32) {Q : Option Value → zm_H → Prop} (G : Nat × Int32 × zm_H → Prop) (hx1 : ∀ (v4 : Int32) (h : zm_H) (o4 : Option Value) (o5 : Option Value) (o6 : Option Value), zSh zT0 h → G (1, v4, h) → zg x (d + 5) 38 127 [some (.ref 82), some (.int v1), some (.int v2), some (.int v3), o4, o5, o6] [] h Q) : ∀ (n : Nat) (v4 : Int32) (h : zm_H) (o5 : Option Value) (o6 : Option Value), zSh zT0 h → f_Ground_search_l35_ok v1 v2 v3 n (v4, h) → G (f_Ground_search_l35 v1 v2 v3 n (v4, h)) → zg x (d + 5) 38 35 [some (.ref 82), some (.int v1), some (.int v2), some (.int v3), some (.int v4), o5, o6] [] h Q := by
  intro n
  induction n with
  | zero => intro v4 h o5 o6 hs ho hG; exact ho.elim
  | succ n ih =>
    intro v4 h o5 o6 hs ho hG
    refine f_Ground_search_l35_b_t (FN := fun r => (r.1 = 0 → f_Ground_search_l35_ok v1 v2 v3 n r.2) ∧ G (if r.1 = 0 then f_Ground_search_l35 v1 v2 v3 n r.2 else r)) v1 v2 v3 v4 h o5 o6 hs ho.1 ⟨ho.2, hG⟩ ?_ ?_
    · intro v4 h o5 o6 hs hF
      exact ih v4 h o5 o6 hs (hF.1 rfl) hF.2
    · intro v4 h o4 o5 o6 hs hF
      exact hx1 v4 h o4 o5 o6 hs hF.2

set_option maxRecDepth 100000 in
set_option maxHeartbeats 400000 in
theorem f_Ground_search_k127_t {x : zm_X} {d : Nat} (h : zm_H) (o0 : Option Value) (o1 : Option Value) (z2 : Int32) (o3 : Option Value) (o4 : Option Value) (o5 : Option Value) (o6 : Option Value) {Q : Option Value → zm_H → Prop} (hs : zSh zT0 h) (ho : f_Ground_search_k127_ok h) (hF : (zSh zT0 (f_Ground_search_k127 h) → Q none (f_Ground_search_k127 h))) : zg x (d + 5) 38 127 [o0, o1, some (.int z2), o3, o4, o5, o6] [] h Q := by
  unfold f_Ground_search_k127 at hF
  unfold f_Ground_search_k127_ok at ho
  exact zg_ret zd_38 rfl rfl (hF hs)
set_option maxRecDepth 100000 in
set_option maxHeartbeats 400000 in
theorem f_Ground_search_k27_t {x : zm_X} {d : Nat} (v1 : Int32) (v2 : Int32) (v3 : Int32) (h : zm_H) (o4 : Option Value) (o5 : Option Value) (o6 : Option Value) {Q : Option Value → zm_H → Prop} (hs : zSh zT0 h) (ho : f_Ground_search_k27_ok v1 v2 v3 h) (hF : (zSh zT0 (f_Ground_search_k27 v1 v2 v3 h) → Q none (f_Ground_search_k27 v1 v2 v3 h))) : zg x (d + 5) 38 27 [some (.ref 82), some (.int v1), some (.int v2), some (.int v3), o4, o5, o6] [] h Q := by
  unfold f_Ground_search_k27 at hF
  unfold f_Ground_search_k27_ok at ho
  refine zg_blk zd_38 5 hs (rfl : zb x zT0 zc_38 5 (27, [some (.ref 82), some (.int v1), some (.int v2), some (.int v3), o4, o5, o6], [], h) = some (35, [some (.ref 82), some (.int v1), some (.int v2), some (.int v3), some (.int 0), o5, o6], [], (zp h 82 14 (-1)))) (fun hs => ?_)
  refine f_Ground_search_l35_t v1 v2 v3 (fun r => f_Ground_search_a35_ok r ∧ (zSh zT0 (f_Ground_search_a35 r) → Q none (f_Ground_search_a35 r))) ?_ zF 0 (zp h 82 14 (-1)) (o5) (o6) hs ho.1 ⟨ho.2, hF⟩
  · intro v4_ h_ o4_ o5_ o6_ hs hG
    have ho : True := trivial
    have hF : (zSh zT0 ((f_Ground_search_k127 h_)) → Q none ((f_Ground_search_k127 h_))) := hG.2
    exact f_Ground_search_k127_t h_ (some (.ref 82)) (some (.int v1)) v2 (some (.int v3)) (o4_) (o5_) (o6_) hs trivial hF
set_option maxRecDepth 100000 in
set_option maxHeartbeats 400000 in
theorem f_Ground_search_t {x : zm_X} {d : Nat} (p1 : Int32) (p2 : Int32) (h : zm_H) {Q : Option Value → zm_H → Prop} (hs : zSh zT0 h) (ho : f_Ground_search_ok p1 p2 h) (hF : (zSh zT0 (f_Ground_search p1 p2 h) → Q none (f_Ground_search p1 p2 h))) : zg x (d + 5) 38 0 [some (.ref 82), some (.int p1), some (.int p2), none, none, none, none] [] h Q := by
  unfold f_Ground_search at hF
  unfold f_Ground_search_ok at ho
  refine zg_blk zd_38 4 hs (rfl : zb x zT0 zc_38 4 (0, [some (.ref 82), some (.int p1), some (.int p2), none, none, none, none], [], h) = some (5, [some (.ref 82), some (.int p1), some (.int p2), some (.int 1), some (.int 0), none, none], [], h)) (fun hs => ?_)
  refine f_Ground_search_l5_t p1 p2 h (fun r => f_Ground_search_a5_ok p1 p2 r h ∧ (zSh zT0 (f_Ground_search_a5 p1 p2 r h) → Q none (f_Ground_search_a5 p1 p2 r h))) ?_ zF 1 0 (none) (none) hs ho.1 ⟨ho.2, hF⟩
  · intro v3_ v4_ o4_ o5_ o6_ hs hG
    have ho : (f_Ground_search_k27_ok p1 p2 v3_ h) := hG.1
    have hF : (zSh zT0 ((f_Ground_search_k27 p1 p2 v3_ h)) → Q none ((f_Ground_search_k27 p1 p2 v3_ h))) := hG.2
    exact f_Ground_search_k27_t p1 p2 v3_ h (o4_) (o5_) (o6_) hs ho hF
set_option maxRecDepth 100000 in
set_option maxHeartbeats 400000 in
theorem f_N_laying_k111_t {x : zm_X} {d : Nat} (v5 : Int32) (h : zm_H) (o1 : Option Value) (o2 : Option Value) (o3 : Option Value) (o4 : Option Value) {Q : Option Value → zm_H → Prop} (hs : zSh zT0 h) (ho : f_N_laying_k111_ok v5 h) (hF : (zSh zT0 (f_N_laying_k111 v5 h).2 → Q (some (.int (f_N_laying_k111 v5 h).1)) (f_N_laying_k111 v5 h).2)) : zg x (d + 6) 164 111 [some (.ref 0), o1, o2, o3, o4, some (.int v5)] [] h Q := by
  unfold f_N_laying_k111 at hF
  unfold f_N_laying_k111_ok at ho
  refine zg_blk zd_164 2 hs (rfl : zb x zT0 zc_164 2 (111, [some (.ref 0), o1, o2, o3, o4, some (.int v5)], [], h) = some (114, [some (.ref 0), o1, o2, o3, o4, some (.int v5)], [.int (-1), .int v5], h)) (fun hs => ?_)
  have hom := ho
  have K174 : zSh zT0 h → zg x (d + 6) 164 148 [some (.ref 0), o1, o2, o3, o4, some (.int v5)] [.int (if (v5 = (-1)) then ((zf h 82 14) : Int32) else (if ((zf h 82 14) = (-1)) then ((zf h 82 14) : Int32) else (zr h 90 v5)))] h Q := fun hs => by
    exact zg_ret zd_164 rfl rfl (hF hs)
  refine zg_i_eq zd_164 rfl (fun (hc : (v5 = (-1))) => ?_) (fun (hc : ¬ (v5 = (-1))) => ?_)
  · have ho := hom.1 hc
    rw [show ((if (v5 = (-1)) then ((zf h 82 14) : Int32) else (if ((zf h 82 14) = (-1)) then ((zf h 82 14) : Int32) else (zr h 90 v5))) : Int32) = (zf h 82 14) from if_pos hc] at K174
    refine zg_blk zd_164 4 hs (rfl : zb x zT0 zc_164 4 (128, [some (.ref 0), o1, o2, o3, o4, some (.int v5)], [], h) = some (148, [some (.ref 0), o1, o2, o3, o4, some (.int v5)], [.int (zf h 82 14)], h)) (fun hs => ?_)
    exact K174 hs
  · have ho := hom.2 hc
    rw [show ((if (v5 = (-1)) then ((zf h 82 14) : Int32) else (if ((zf h 82 14) = (-1)) then ((zf h 82 14) : Int32) else (zr h 90 v5))) : Int32) = (if ((zf h 82 14) = (-1)) then ((zf h 82 14) : Int32) else (zr h 90 v5)) from if_neg hc] at K174
    refine zg_blk zd_164 4 hs (rfl : zb x zT0 zc_164 4 (117, [some (.ref 0), o1, o2, o3, o4, some (.int v5)], [], h) = some (125, [some (.ref 0), o1, o2, o3, o4, some (.int v5)], [.int (-1), .int (zf h 82 14)], h)) (fun hs => ?_)
    refine zg_i_ne zd_164 rfl (fun (hc : ¬ ((zf h 82 14) = (-1))) => ?_) (fun (hc : ((zf h 82 14) = (-1))) => ?_)
    · have ho := ho.2 hc
      rw [show ((if ((zf h 82 14) = (-1)) then ((zf h 82 14) : Int32) else (zr h 90 v5)) : Int32) = (zr h 90 v5) from if_neg hc] at K174
      refine zg_blk zd_164 4 hs (rfl : zb x zT0 zc_164 4 (138, [some (.ref 0), o1, o2, o3, o4, some (.int v5)], [], h) = some (147, [some (.ref 0), o1, o2, o3, o4, some (.int v5)], [.int v5, .ref 90], h)) (fun hs => ?_)
      have hob := ho
      refine zg_ial hs zd_164 rfl rfl hob ?_
      exact K174 hs
    · have ho := ho.1 hc
      rw [show ((if ((zf h 82 14) = (-1)) then ((zf h 82 14) : Int32) else (zr h 90 v5)) : Int32) = (zf h 82 14) from if_pos hc] at K174
      refine zg_blk zd_164 4 hs (rfl : zb x zT0 zc_164 4 (128, [some (.ref 0), o1, o2, o3, o4, some (.int v5)], [], h) = some (148, [some (.ref 0), o1, o2, o3, o4, some (.int v5)], [.int (zf h 82 14)], h)) (fun hs => ?_)
      exact K174 hs
set_option maxRecDepth 100000 in
set_option maxHeartbeats 400000 in
theorem f_N_laying_k90_t {x : zm_X} {d : Nat} (v4 : Int32) (v5 : Int32) (w0 : Int32) (h : zm_H) (o1 : Option Value) (o2 : Option Value) (o3 : Option Value) {Q : Option Value → zm_H → Prop} (hs : zSh zT0 h) (ho : f_N_laying_k90_ok v4 v5 w0 h) (hF : (zSh zT0 (f_N_laying_k90 v4 v5 w0 h).2 → Q (some (.int (f_N_laying_k90 v4 v5 w0 h).1)) (f_N_laying_k90 v4 v5 w0 h).2)) : zg x (d + 6) 164 90 [some (.ref 0), o1, o2, o3, some (.int v4), some (.int v5)] [.int w0] h Q := by
  unfold f_N_laying_k90 at hF
  unfold f_N_laying_k90_ok at ho
  refine zg_f_ne zd_164 rfl (fun (hc : ¬ (w0 = 0)) => ?_) (fun (hc : (w0 = 0)) => ?_)
  · have ho := ho.2 hc
    rw [if_neg hc] at hF
    refine zg_blk zd_164 7 hs (rfl : zb x zT0 zc_164 7 (95, [some (.ref 0), o1, o2, o3, some (.int v4), some (.int v5)], [], h) = some (108, [some (.ref 0), o1, o2, o3, some (.int v4), some (.int v5)], [.int ((zf h 0 0) / 8), .int v4, .ref 82], h)) (fun hs => ?_)
    obtain ⟨hob, ho⟩ := ho
    refine zg_call hs zd_164 rfl rfl rfl rfl (as := [.ref 82, .int v4, .int ((zf h 0 0) / 8)]) (rest := []) (en := [some (.ref 82), some (.int v4), some (.int ((zf h 0 0) / 8)), none, none, none, none]) rfl rfl rfl rfl rfl ?_
    refine f_Ground_search_t v4 ((zf h 0 0) / 8) h hs hob (fun hs => ?_)
    show zg x (d + 6) 164 111 [some (.ref 0), o1, o2, o3, some (.int v4), some (.int v5)] [] (f_Ground_search v4 ((zf h 0 0) / 8) h) Q
    exact f_N_laying_k111_t v5 (f_Ground_search v4 ((zf h 0 0) / 8) h) (o1) (o2) (o3) (some (.int v4)) hs ho hF
  · have ho := ho.1 hc
    rw [if_pos hc] at hF
    refine zg_blk zd_164 1 hs (rfl : zb x zT0 zc_164 1 (93, [some (.ref 0), o1, o2, o3, some (.int v4), some (.int v5)], [], h) = some (94, [some (.ref 0), o1, o2, o3, some (.int v4), some (.int v5)], [.int (-1)], h)) (fun hs => ?_)
    exact zg_ret zd_164 rfl rfl (hF hs)
set_option maxRecDepth 100000 in
set_option maxHeartbeats 400000 in
theorem f_N_laying_k70_t {x : zm_X} {d : Nat} (v3 : Int32) (v4 : Int32) (v5 : Int32) (w0 : Int32) (h : zm_H) (o1 : Option Value) (o2 : Option Value) {Q : Option Value → zm_H → Prop} (hs : zSh zT0 h) (ho : f_N_laying_k70_ok v3 v4 v5 w0 h) (hF : (zSh zT0 (f_N_laying_k70 v3 v4 v5 w0 h).2 → Q (some (.int (f_N_laying_k70 v3 v4 v5 w0 h).1)) (f_N_laying_k70 v3 v4 v5 w0 h).2)) : zg x (d + 6) 164 70 [some (.ref 0), o1, o2, some (.int v3), some (.int v4), some (.int v5)] [.int w0] h Q := by
  unfold f_N_laying_k70 at hF
  unfold f_N_laying_k70_ok at ho
  refine zg_f_eq zd_164 rfl (fun (hc : (w0 = 0)) => ?_) (fun (hc : ¬ (w0 = 0)) => ?_)
  · have ho := ho.1 hc
    rw [if_pos hc] at hF
    refine zg_blk zd_164 1 hs (rfl : zb x zT0 zc_164 1 (93, [some (.ref 0), o1, o2, some (.int v3), some (.int v4), some (.int v5)], [], h) = some (94, [some (.ref 0), o1, o2, some (.int v3), some (.int v4), some (.int v5)], [.int (-1)], h)) (fun hs => ?_)
    exact zg_ret zd_164 rfl rfl (hF hs)
  · have ho := ho.2 hc
    rw [if_neg hc] at hF
    refine zg_blk zd_164 8 hs (rfl : zb x zT0 zc_164 8 (73, [some (.ref 0), o1, o2, some (.int v3), some (.int v4), some (.int v5)], [], h) = some (87, [some (.ref 0), o1, o2, some (.int v3), some (.int v4), some (.int v5)], [.int (zm_rm v3 1000), .int (v3 / 1000), .ref 82], h)) (fun hs => ?_)
    obtain ⟨hob, ho⟩ := ho
    refine zg_call hs zd_164 rfl rfl rfl rfl (as := [.ref 82, .int (v3 / 1000), .int (zm_rm v3 1000)]) (rest := []) (en := [some (.ref 82), some (.int (v3 / 1000)), some (.int (zm_rm v3 1000)), none]) rfl rfl rfl rfl rfl ?_
    refine f_Ground_chooseSpells_t (v3 / 1000) (zm_rm v3 1000) h hs hob (fun hs => ?_)
    show zg x (d + 6) 164 90 [some (.ref 0), o1, o2, some (.int v3), some (.int v4), some (.int v5)] [.int (f_Ground_chooseSpells (v3 / 1000) (zm_rm v3 1000) h).1] (f_Ground_chooseSpells (v3 / 1000) (zm_rm v3 1000) h).2 Q
    exact f_N_laying_k90_t v4 v5 (f_Ground_chooseSpells (v3 / 1000) (zm_rm v3 1000) h).1 (f_Ground_chooseSpells (v3 / 1000) (zm_rm v3 1000) h).2 (o1) (o2) (some (.int v3)) hs ho hF
set_option maxRecDepth 100000 in
set_option maxHeartbeats 400000 in
theorem f_N_laying_t {x : zm_X} {d : Nat} (p1 : Int32) (p2 : Int32) (p3 : Int32) (p4 : Int32) (p5 : Int32) (h : zm_H) {Q : Option Value → zm_H → Prop} (hs : zSh zT0 h) (ho : f_N_laying_ok p1 p2 p3 p4 p5 h) (hF : (zSh zT0 (f_N_laying p1 p2 p3 p4 p5 h).2 → Q (some (.int (f_N_laying p1 p2 p3 p4 p5 h).1)) (f_N_laying p1 p2 p3 p4 p5 h).2)) : zg x (d + 6) 164 0 [some (.ref 0), some (.int p1), some (.int p2), some (.int p3), some (.int p4), some (.int p5)] [] h Q := by
  unfold f_N_laying at hF
  unfold f_N_laying_ok at ho
  refine zg_blk zd_164 2 hs (rfl : zb x zT0 zc_164 2 (0, [some (.ref 0), some (.int p1), some (.int p2), some (.int p3), some (.int p4), some (.int p5)], [], h) = some (2, [some (.ref 0), some (.int p1), some (.int p2), some (.int p3), some (.int p4), some (.int p5)], [.int 1, .int p2], h)) (fun hs => ?_)
  refine zg_i_lt zd_164 rfl (fun (hc : (p2 < 1)) => ?_) (fun (hc : ¬ (p2 < 1)) => ?_)
  · have ho := ho.1 hc
    rw [if_pos hc] at hF
    refine zg_blk zd_164 1 hs (rfl : zb x zT0 zc_164 1 (34, [some (.ref 0), some (.int p1), some (.int p2), some (.int p3), some (.int p4), some (.int p5)], [], h) = some (35, [some (.ref 0), some (.int p1), some (.int p2), some (.int p3), some (.int p4), some (.int p5)], [.int (-1)], h)) (fun hs => ?_)
    exact zg_ret zd_164 rfl rfl (hF hs)
  · have ho := ho.2 hc
    rw [if_neg hc] at hF
    refine zg_blk zd_164 2 hs (rfl : zb x zT0 zc_164 2 (5, [some (.ref 0), some (.int p1), some (.int p2), some (.int p3), some (.int p4), some (.int p5)], [], h) = some (7, [some (.ref 0), some (.int p1), some (.int p2), some (.int p3), some (.int p4), some (.int p5)], [.int 3, .int p2], h)) (fun hs => ?_)
    refine zg_i_gt zd_164 rfl (fun (hc : (3 < p2)) => ?_) (fun (hc : ¬ (3 < p2)) => ?_)
    · have ho := ho.1 hc
      rw [if_pos hc] at hF
      refine zg_blk zd_164 1 hs (rfl : zb x zT0 zc_164 1 (34, [some (.ref 0), some (.int p1), some (.int p2), some (.int p3), some (.int p4), some (.int p5)], [], h) = some (35, [some (.ref 0), some (.int p1), some (.int p2), some (.int p3), some (.int p4), some (.int p5)], [.int (-1)], h)) (fun hs => ?_)
      exact zg_ret zd_164 rfl rfl (hF hs)
    · have ho := ho.2 hc
      rw [if_neg hc] at hF
      refine zg_blk zd_164 2 hs (rfl : zb x zT0 zc_164 2 (10, [some (.ref 0), some (.int p1), some (.int p2), some (.int p3), some (.int p4), some (.int p5)], [], h) = some (13, [some (.ref 0), some (.int p1), some (.int p2), some (.int p3), some (.int p4), some (.int p5)], [.int (-1), .int p5], h)) (fun hs => ?_)
      refine zg_i_lt zd_164 rfl (fun (hc : (p5 < (-1))) => ?_) (fun (hc : ¬ (p5 < (-1))) => ?_)
      · have ho := ho.1 hc
        rw [if_pos hc] at hF
        refine zg_blk zd_164 1 hs (rfl : zb x zT0 zc_164 1 (34, [some (.ref 0), some (.int p1), some (.int p2), some (.int p3), some (.int p4), some (.int p5)], [], h) = some (35, [some (.ref 0), some (.int p1), some (.int p2), some (.int p3), some (.int p4), some (.int p5)], [.int (-1)], h)) (fun hs => ?_)
        exact zg_ret zd_164 rfl rfl (hF hs)
      · have ho := ho.2 hc
        rw [if_neg hc] at hF
        refine zg_blk zd_164 2 hs (rfl : zb x zT0 zc_164 2 (16, [some (.ref 0), some (.int p1), some (.int p2), some (.int p3), some (.int p4), some (.int p5)], [], h) = some (19, [some (.ref 0), some (.int p1), some (.int p2), some (.int p3), some (.int p4), some (.int p5)], [.int p2, .int p5], h)) (fun hs => ?_)
        refine zg_i_ge zd_164 rfl (fun (hc : (p2 ≤ p5)) => ?_) (fun (hc : ¬ (p2 ≤ p5)) => ?_)
        · have ho := ho.1 hc
          rw [if_pos hc] at hF
          refine zg_blk zd_164 1 hs (rfl : zb x zT0 zc_164 1 (34, [some (.ref 0), some (.int p1), some (.int p2), some (.int p3), some (.int p4), some (.int p5)], [], h) = some (35, [some (.ref 0), some (.int p1), some (.int p2), some (.int p3), some (.int p4), some (.int p5)], [.int (-1)], h)) (fun hs => ?_)
          exact zg_ret zd_164 rfl rfl (hF hs)
        · have ho := ho.2 hc
          rw [if_neg hc] at hF
          refine zg_blk zd_164 1 hs (rfl : zb x zT0 zc_164 1 (22, [some (.ref 0), some (.int p1), some (.int p2), some (.int p3), some (.int p4), some (.int p5)], [], h) = some (24, [some (.ref 0), some (.int p1), some (.int p2), some (.int p3), some (.int p4), some (.int p5)], [.int p4], h)) (fun hs => ?_)
          refine zg_f_lt zd_164 rfl (fun (hc : (p4 < 0)) => ?_) (fun (hc : ¬ (p4 < 0)) => ?_)
          · have ho := ho.1 hc
            rw [if_pos hc] at hF
            refine zg_blk zd_164 1 hs (rfl : zb x zT0 zc_164 1 (34, [some (.ref 0), some (.int p1), some (.int p2), some (.int p3), some (.int p4), some (.int p5)], [], h) = some (35, [some (.ref 0), some (.int p1), some (.int p2), some (.int p3), some (.int p4), some (.int p5)], [.int (-1)], h)) (fun hs => ?_)
            exact zg_ret zd_164 rfl rfl (hF hs)
          · have ho := ho.2 hc
            rw [if_neg hc] at hF
            refine zg_blk zd_164 2 hs (rfl : zb x zT0 zc_164 2 (27, [some (.ref 0), some (.int p1), some (.int p2), some (.int p3), some (.int p4), some (.int p5)], [], h) = some (31, [some (.ref 0), some (.int p1), some (.int p2), some (.int p3), some (.int p4), some (.int p5)], [.int 100, .int p4], h)) (fun hs => ?_)
            refine zg_i_le zd_164 rfl (fun (hc : (p4 ≤ 100)) => ?_) (fun (hc : ¬ (p4 ≤ 100)) => ?_)
            · have ho := ho.1 hc
              rw [if_pos hc] at hF
              refine zg_blk zd_164 1 hs (rfl : zb x zT0 zc_164 1 (36, [some (.ref 0), some (.int p1), some (.int p2), some (.int p3), some (.int p4), some (.int p5)], [], h) = some (37, [some (.ref 0), some (.int p1), some (.int p2), some (.int p3), some (.int p4), some (.int p5)], [.int p3], h)) (fun hs => ?_)
              refine zg_f_lt zd_164 rfl (fun (hc : (p3 < 0)) => ?_) (fun (hc : ¬ (p3 < 0)) => ?_)
              · have ho := ho.1 hc
                rw [if_pos hc] at hF
                refine zg_blk zd_164 1 hs (rfl : zb x zT0 zc_164 1 (59, [some (.ref 0), some (.int p1), some (.int p2), some (.int p3), some (.int p4), some (.int p5)], [], h) = some (60, [some (.ref 0), some (.int p1), some (.int p2), some (.int p3), some (.int p4), some (.int p5)], [.int (-1)], h)) (fun hs => ?_)
                exact zg_ret zd_164 rfl rfl (hF hs)
              · have ho := ho.2 hc
                rw [if_neg hc] at hF
                refine zg_blk zd_164 7 hs (rfl : zb x zT0 zc_164 7 (40, [some (.ref 0), some (.int p1), some (.int p2), some (.int p3), some (.int p4), some (.int p5)], [], h) = some (53, [some (.ref 0), some (.int p1), some (.int p2), some (.int p3), some (.int p4), some (.int p5)], [.int 480, .int (zm_rm p3 1000), .int (p3 / 1000)], h)) (fun hs => ?_)
                refine zg_call hs zd_164 rfl rfl rfl rfl (as := [.int (p3 / 1000), .int (zm_rm p3 1000), .int 480]) (rest := []) (en := [some (.int (p3 / 1000)), some (.int (zm_rm p3 1000)), some (.int 480)]) rfl rfl rfl rfl rfl ?_
                refine f_N_isRange_t (p3 / 1000) (zm_rm p3 1000) 480 h hs trivial ?_
                show zg x (d + 6) 164 56 [some (.ref 0), some (.int p1), some (.int p2), some (.int p3), some (.int p4), some (.int p5)] [.int (if (¬ ((p3 / 1000) < 0) ∧ (¬ ((zm_rm p3 1000) < (p3 / 1000)) ∧ (¬ (480 ≤ (zm_rm p3 1000))))) then (1 : Int32) else 0)] h Q
                refine zg_b_ne zd_164 rfl (fun (hc : (¬ ((p3 / 1000) < 0) ∧ (¬ ((zm_rm p3 1000) < (p3 / 1000)) ∧ (¬ (480 ≤ (zm_rm p3 1000)))))) => ?_) (fun (hc : ¬ (¬ ((p3 / 1000) < 0) ∧ (¬ ((zm_rm p3 1000) < (p3 / 1000)) ∧ (¬ (480 ≤ (zm_rm p3 1000)))))) => ?_)
                · have ho := ho.1 hc
                  rw [if_pos hc] at hF
                  refine zg_blk zd_164 4 hs (rfl : zb x zT0 zc_164 4 (61, [some (.ref 0), some (.int p1), some (.int p2), some (.int p3), some (.int p4), some (.int p5)], [], h) = some (67, [some (.ref 0), some (.int p1), some (.int p2), some (.int p3), some (.int p4), some (.int p5)], [.int p2, .int p1, .ref 82], h)) (fun hs => ?_)
                  obtain ⟨hob, ho⟩ := ho
                  refine zg_call hs zd_164 rfl rfl rfl rfl (as := [.ref 82, .int p1, .int p2]) (rest := []) (en := [some (.ref 82), some (.int p1), some (.int p2), none, none, none, none]) rfl rfl rfl rfl rfl ?_
                  refine f_Ground_chooseRafts_t p1 p2 h hs hob (fun hs => ?_)
                  show zg x (d + 6) 164 70 [some (.ref 0), some (.int p1), some (.int p2), some (.int p3), some (.int p4), some (.int p5)] [.int (f_Ground_chooseRafts p1 p2 h).1] (f_Ground_chooseRafts p1 p2 h).2 Q
                  exact f_N_laying_k70_t p3 p4 p5 (f_Ground_chooseRafts p1 p2 h).1 (f_Ground_chooseRafts p1 p2 h).2 (some (.int p1)) (some (.int p2)) hs ho hF
                · have ho := ho.2 hc
                  rw [if_neg hc] at hF
                  refine zg_blk zd_164 1 hs (rfl : zb x zT0 zc_164 1 (59, [some (.ref 0), some (.int p1), some (.int p2), some (.int p3), some (.int p4), some (.int p5)], [], h) = some (60, [some (.ref 0), some (.int p1), some (.int p2), some (.int p3), some (.int p4), some (.int p5)], [.int (-1)], h)) (fun hs => ?_)
                  exact zg_ret zd_164 rfl rfl (hF hs)
            · have ho := ho.2 hc
              rw [if_neg hc] at hF
              refine zg_blk zd_164 1 hs (rfl : zb x zT0 zc_164 1 (34, [some (.ref 0), some (.int p1), some (.int p2), some (.int p3), some (.int p4), some (.int p5)], [], h) = some (35, [some (.ref 0), some (.int p1), some (.int p2), some (.int p3), some (.int p4), some (.int p5)], [.int (-1)], h)) (fun hs => ?_)
              exact zg_ret zd_164 rfl rfl (hF hs)
theorem zd_256 : zm_cd 256 = zc_256 := by rfl
set_option maxRecDepth 100000 in
set_option maxHeartbeats 400000 in
theorem f_M_laying_l92_l153_b_t {x : zm_X} {d : Nat} (v2 : Int32) (v3 : Int32) (v4 : Int32) (v5 : Int32) (v6 : Int32) (v7 : Int32) (v8 : Int32) (h : zm_H) (o1 : Option Value) (o9 : Option Value) (o10 : Option Value) (o11 : Option Value) (o12 : Option Value) (o13 : Option Value) {Q : Option Value → zm_H → Prop} {FN : Nat × Int32 → Prop} (hs : zSh zT0 h) (ho : f_M_laying_l92_l153_b_ok v2 v3 v4 v5 v6 v7 v8 h) (hF : FN (f_M_laying_l92_l153_b v2 v3 v4 v5 v6 v7 v8 h)) (hl0 : ∀ (v8 : Int32) (o1 : Option Value) (o9 : Option Value) (o10 : Option Value) (o11 : Option Value) (o12 : Option Value) (o13 : Option Value), zSh zT0 h → FN (0, v8) → zg x (d + 4) 256 153 [some (.ref 92), o1, some (.int v2), some (.int v3), some (.int v4), some (.int v5), some (.int v6), some (.int v7), some (.int v8), o9, o10, o11, o12, o13] [] h Q) (hl1 : ∀ (v8 : Int32) (o1 : Option Value) (o8 : Option Value) (o9 : Option Value) (o10 : Option Value) (o11 : Option Value) (o12 : Option Value) (o13 : Option Value), zSh zT0 h → FN (1, v8) → zg x (d + 4) 256 176 [some (.ref 92), o1, some (.int v2), some (.int v3), some (.int v4), some (.int v5), some (.int v6), some (.int v7), o8, o9, o10, o11, o12, o13] [] h Q) (hl2 : ∀ (v8 : Int32) (o1 : Option Value) (o8 : Option Value) (o9 : Option Value) (o10 : Option Value) (o11 : Option Value) (o12 : Option Value) (o13 : Option Value), zSh zT0 h → FN (2, v8) → zg x (d + 4) 256 184 [some (.ref 92), o1, some (.int v2), some (.int v3), some (.int v4), some (.int v5), some (.int v6), some (.int v7), o8, o9, o10, o11, o12, o13] [] h Q) : zg x (d + 4) 256 153 [some (.ref 92), o1, some (.int v2), some (.int v3), some (.int v4), some (.int v5), some (.int v6), some (.int v7), some (.int v8), o9, o10, o11, o12, o13] [] h Q := by
  unfold f_M_laying_l92_l153_b at hF
  unfold f_M_laying_l92_l153_b_ok at ho
  refine zg_blk zd_256 2 hs (rfl : zb x zT0 zc_256 2 (153, [some (.ref 92), o1, some (.int v2), some (.int v3), some (.int v4), some (.int v5), some (.int v6), some (.int v7), some (.int v8), o9, o10, o11, o12, o13], [], h) = some (156, [some (.ref 92), o1, some (.int v2), some (.int v3), some (.int v4), some (.int v5), some (.int v6), some (.int v7), some (.int v8), o9, o10, o11, o12, o13], [.int v2, .int v8], h)) (fun hs => ?_)
  refine zg_i_ge zd_256 rfl (fun (hc : (v2 ≤ v8)) => ?_) (fun (hc : ¬ (v2 ≤ v8)) => ?_)
  · have ho := ho.1 hc
    rw [if_pos hc] at hF
    exact hl2 v8 (o1) (some (.int v8)) (o9) (o10) (o11) (o12) (o13) hs hF
  · have ho := ho.2 hc
    rw [if_neg hc] at hF
    refine zg_blk zd_256 3 hs (rfl : zb x zT0 zc_256 3 (159, [some (.ref 92), o1, some (.int v2), some (.int v3), some (.int v4), some (.int v5), some (.int v6), some (.int v7), some (.int v8), o9, o10, o11, o12, o13], [], h) = some (165, [some (.ref 92), o1, some (.int v2), some (.int v3), some (.int v4), some (.int v5), some (.int v6), some (.int v7), some (.int v8), o9, o10, o11, o12, o13], [.int v8, .ref 159], h)) (fun hs => ?_)
    obtain ⟨hob, ho⟩ := ho
    refine zg_ial hs zd_256 rfl rfl hob ?_
    refine zg_blk zd_256 3 hs (rfl : zb x zT0 zc_256 3 (166, [some (.ref 92), o1, some (.int v2), some (.int v3), some (.int v4), some (.int v5), some (.int v6), some (.int v7), some (.int v8), o9, o10, o11, o12, o13], [.int (zr h 159 v8)], h) = some (172, [some (.ref 92), o1, some (.int v2), some (.int v3), some (.int v4), some (.int v5), some (.int v6), some (.int v7), some (.int v8), o9, o10, o11, o12, o13], [.int v7, .ref 159, .int (zr h 159 v8)], h)) (fun hs => ?_)
    have hob := ho
    refine zg_ial hs zd_256 rfl rfl hob ?_
    refine zg_i_ne zd_256 rfl (fun (hc : ¬ ((zr h 159 v8) = (zr h 159 v7))) => ?_) (fun (hc : ((zr h 159 v8) = (zr h 159 v7))) => ?_)
    · skip
      rw [if_neg hc] at hF
      refine zg_blk zd_256 2 hs (rfl : zb x zT0 zc_256 2 (178, [some (.ref 92), o1, some (.int v2), some (.int v3), some (.int v4), some (.int v5), some (.int v6), some (.int v7), some (.int v8), o9, o10, o11, o12, o13], [], h) = some (153, [some (.ref 92), o1, some (.int v2), some (.int v3), some (.int v4), some (.int v5), some (.int v6), some (.int v7), some (.int (v8 + 1)), o9, o10, o11, o12, o13], [], h)) (fun hs => ?_)
      exact hl0 (v8 + 1) (o1) (o9) (o10) (o11) (o12) (o13) hs hF
    · skip
      rw [if_pos hc] at hF
      exact hl1 v8 (o1) (some (.int v8)) (o9) (o10) (o11) (o12) (o13) hs hF
theorem f_M_laying_l92_l153_t {x : zm_X} {d : Nat} (v2 : Int32) (v3 : Int32) (v4 : Int32) (v5 : Int32) (v6 : Int32) (v7 : Int32) (h : zm_H) {Q : Option Value → zm_H → Prop} (G : Nat × Int32 → Prop) (hx1 : ∀ (v8 : Int32) (o1 : Option Value) (o8 : Option Value) (o9 : Option Value) (o10 : Option Value) (o11 : Option Value) (o12 : Option Value) (o13 : Option Value), zSh zT0 h → G (1, v8) → zg x (d + 4) 256 176 [some (.ref 92), o1, some (.int v2), some (.int v3), some (.int v4), some (.int v5), some (.int v6), some (.int v7), o8, o9, o10, o11, o12, o13] [] h Q) (hx2 : ∀ (v8 : Int32) (o1 : Option Value) (o8 : Option Value) (o9 : Option Value) (o10 : Option Value) (o11 : Option Value) (o12 : Option Value) (o13 : Option Value), zSh zT0 h → G (2, v8) → zg x (d + 4) 256 184 [some (.ref 92), o1, some (.int v2), some (.int v3), some (.int v4), some (.int v5), some (.int v6), some (.int v7), o8, o9, o10, o11, o12, o13] [] h Q) : ∀ (n : Nat) (v8 : Int32) (o1 : Option Value) (o9 : Option Value) (o10 : Option Value) (o11 : Option Value) (o12 : Option Value) (o13 : Option Value), zSh zT0 h → f_M_laying_l92_l153_ok v2 v3 v4 v5 v6 v7 h n v8 → G (f_M_laying_l92_l153 v2 v3 v4 v5 v6 v7 h n v8) → zg x (d + 4) 256 153 [some (.ref 92), o1, some (.int v2), some (.int v3), some (.int v4), some (.int v5), some (.int v6), some (.int v7), some (.int v8), o9, o10, o11, o12, o13] [] h Q := by
  intro n
  induction n with
  | zero => intro v8 o1 o9 o10 o11 o12 o13 hs ho hG; exact ho.elim
  | succ n ih =>
    intro v8 o1 o9 o10 o11 o12 o13 hs ho hG
    refine f_M_laying_l92_l153_b_t (FN := fun r => (r.1 = 0 → f_M_laying_l92_l153_ok v2 v3 v4 v5 v6 v7 h n r.2) ∧ G (if r.1 = 0 then f_M_laying_l92_l153 v2 v3 v4 v5 v6 v7 h n r.2 else r)) v2 v3 v4 v5 v6 v7 v8 h o1 o9 o10 o11 o12 o13 hs ho.1 ⟨ho.2, hG⟩ ?_ ?_ ?_
    · intro v8 o1 o9 o10 o11 o12 o13 hs hF
      exact ih v8 o1 o9 o10 o11 o12 o13 hs (hF.1 rfl) hF.2
    · intro v8 o1 o8 o9 o10 o11 o12 o13 hs hF
      exact hx1 v8 o1 o8 o9 o10 o11 o12 o13 hs hF.2
    · intro v8 o1 o8 o9 o10 o11 o12 o13 hs hF
      exact hx2 v8 o1 o8 o9 o10 o11 o12 o13 hs hF.2

set_option maxRecDepth 100000 in
set_option maxHeartbeats 400000 in
theorem f_M_laying_l92_k184_t {x : zm_X} {d : Nat} (v2 : Int32) (v3 : Int32) (v4 : Int32) (v5 : Int32) (v6 : Int32) (v7 : Int32) (h : zm_H) (o1 : Option Value) (o8 : Option Value) (o9 : Option Value) (o10 : Option Value) (o11 : Option Value) (o12 : Option Value) (o13 : Option Value) {Q : Option Value → zm_H → Prop} {FN : Nat × Int32 × Int32 × zm_H → Prop} (hs : zSh zT0 h) (ho : f_M_laying_l92_k184_ok v2 v3 v4 v5 v6 v7 h) (hF : FN (f_M_laying_l92_k184 v2 v3 v4 v5 v6 v7 h)) (hl0 : ∀ (v6 : Int32) (v7 : Int32) (h : zm_H) (o1 : Option Value) (o8 : Option Value) (o9 : Option Value) (o10 : Option Value) (o11 : Option Value) (o12 : Option Value) (o13 : Option Value), zSh zT0 h → FN (0, v6, v7, h) → zg x (d + 4) 256 92 [some (.ref 92), o1, some (.int v2), some (.int v3), some (.int v4), some (.int v5), some (.int v6), some (.int v7), o8, o9, o10, o11, o12, o13] [] h Q) (hl1 : ∀ (v6 : Int32) (v7 : Int32) (h : zm_H) (o1 : Option Value) (o6 : Option Value) (o7 : Option Value) (o8 : Option Value) (o9 : Option Value) (o10 : Option Value) (o11 : Option Value) (o12 : Option Value) (o13 : Option Value), zSh zT0 h → FN (1, v6, v7, h) → zg x (d + 4) 256 145 [some (.ref 92), o1, some (.int v2), some (.int v3), some (.int v4), some (.int v5), o6, o7, o8, o9, o10, o11, o12, o13] [] h Q) (hl2 : ∀ (v6 : Int32) (v7 : Int32) (h : zm_H) (o1 : Option Value) (o6 : Option Value) (o7 : Option Value) (o8 : Option Value) (o9 : Option Value) (o10 : Option Value) (o11 : Option Value) (o12 : Option Value) (o13 : Option Value), zSh zT0 h → FN (2, v6, v7, h) → zg x (d + 4) 256 176 [some (.ref 92), o1, some (.int v2), some (.int v3), some (.int v4), some (.int v5), o6, o7, o8, o9, o10, o11, o12, o13] [] h Q) (hl3 : ∀ (v6 : Int32) (v7 : Int32) (h : zm_H) (o1 : Option Value) (o7 : Option Value) (o8 : Option Value) (o9 : Option Value) (o10 : Option Value) (o11 : Option Value) (o12 : Option Value) (o13 : Option Value), zSh zT0 h → FN (3, v6, v7, h) → zg x (d + 4) 256 190 [some (.ref 92), o1, some (.int v2), some (.int v3), some (.int v4), some (.int v5), some (.int v6), o7, o8, o9, o10, o11, o12, o13] [] h Q) : zg x (d + 4) 256 184 [some (.ref 92), o1, some (.int v2), some (.int v3), some (.int v4), some (.int v5), some (.int v6), some (.int v7), o8, o9, o10, o11, o12, o13] [] h Q := by
  unfold f_M_laying_l92_k184 at hF
  unfold f_M_laying_l92_k184_ok at ho
  refine zg_blk zd_256 2 hs (rfl : zb x zT0 zc_256 2 (184, [some (.ref 92), o1, some (.int v2), some (.int v3), some (.int v4), some (.int v5), some (.int v6), some (.int v7), o8, o9, o10, o11, o12, o13], [], h) = some (92, [some (.ref 92), o1, some (.int v2), some (.int v3), some (.int v4), some (.int v5), some (.int v6), some (.int (v7 + (-1))), o8, o9, o10, o11, o12, o13], [], h)) (fun hs => ?_)
  exact hl0 v6 (v7 + (-1)) h (o1) (o8) (o9) (o10) (o11) (o12) (o13) hs hF
set_option maxRecDepth 100000 in
set_option maxHeartbeats 400000 in
theorem f_M_laying_l92_b_t {x : zm_X} {d : Nat} (v2 : Int32) (v3 : Int32) (v4 : Int32) (v5 : Int32) (v6 : Int32) (v7 : Int32) (h : zm_H) (o1 : Option Value) (o8 : Option Value) (o9 : Option Value) (o10 : Option Value) (o11 : Option Value) (o12 : Option Value) (o13 : Option Value) {Q : Option Value → zm_H → Prop} {FN : Nat × Int32 × Int32 × zm_H → Prop} (hs : zSh zT0 h) (ho : f_M_laying_l92_b_ok v2 v3 v4 v5 v6 v7 h) (hF : FN (f_M_laying_l92_b v2 v3 v4 v5 v6 v7 h)) (hl0 : ∀ (v6 : Int32) (v7 : Int32) (h : zm_H) (o1 : Option Value) (o8 : Option Value) (o9 : Option Value) (o10 : Option Value) (o11 : Option Value) (o12 : Option Value) (o13 : Option Value), zSh zT0 h → FN (0, v6, v7, h) → zg x (d + 4) 256 92 [some (.ref 92), o1, some (.int v2), some (.int v3), some (.int v4), some (.int v5), some (.int v6), some (.int v7), o8, o9, o10, o11, o12, o13] [] h Q) (hl1 : ∀ (v6 : Int32) (v7 : Int32) (h : zm_H) (o1 : Option Value) (o6 : Option Value) (o7 : Option Value) (o8 : Option Value) (o9 : Option Value) (o10 : Option Value) (o11 : Option Value) (o12 : Option Value) (o13 : Option Value), zSh zT0 h → FN (1, v6, v7, h) → zg x (d + 4) 256 145 [some (.ref 92), o1, some (.int v2), some (.int v3), some (.int v4), some (.int v5), o6, o7, o8, o9, o10, o11, o12, o13] [] h Q) (hl2 : ∀ (v6 : Int32) (v7 : Int32) (h : zm_H) (o1 : Option Value) (o6 : Option Value) (o7 : Option Value) (o8 : Option Value) (o9 : Option Value) (o10 : Option Value) (o11 : Option Value) (o12 : Option Value) (o13 : Option Value), zSh zT0 h → FN (2, v6, v7, h) → zg x (d + 4) 256 176 [some (.ref 92), o1, some (.int v2), some (.int v3), some (.int v4), some (.int v5), o6, o7, o8, o9, o10, o11, o12, o13] [] h Q) (hl3 : ∀ (v6 : Int32) (v7 : Int32) (h : zm_H) (o1 : Option Value) (o7 : Option Value) (o8 : Option Value) (o9 : Option Value) (o10 : Option Value) (o11 : Option Value) (o12 : Option Value) (o13 : Option Value), zSh zT0 h → FN (3, v6, v7, h) → zg x (d + 4) 256 190 [some (.ref 92), o1, some (.int v2), some (.int v3), some (.int v4), some (.int v5), some (.int v6), o7, o8, o9, o10, o11, o12, o13] [] h Q) : zg x (d + 4) 256 92 [some (.ref 92), o1, some (.int v2), some (.int v3), some (.int v4), some (.int v5), some (.int v6), some (.int v7), o8, o9, o10, o11, o12, o13] [] h Q := by
  unfold f_M_laying_l92_b at hF
  unfold f_M_laying_l92_b_ok at ho
  refine zg_blk zd_256 1 hs (rfl : zb x zT0 zc_256 1 (92, [some (.ref 92), o1, some (.int v2), some (.int v3), some (.int v4), some (.int v5), some (.int v6), some (.int v7), o8, o9, o10, o11, o12, o13], [], h) = some (94, [some (.ref 92), o1, some (.int v2), some (.int v3), some (.int v4), some (.int v5), some (.int v6), some (.int v7), o8, o9, o10, o11, o12, o13], [.int v7], h)) (fun hs => ?_)
  refine zg_f_lt zd_256 rfl (fun (hc : (v7 < 0)) => ?_) (fun (hc : ¬ (v7 < 0)) => ?_)
  · have ho := ho.1 hc
    rw [if_pos hc] at hF
    exact hl3 v6 v7 h (o1) (some (.int v7)) (o8) (o9) (o10) (o11) (o12) (o13) hs hF
  · have ho := ho.2 hc
    rw [if_neg hc] at hF
    refine zg_blk zd_256 6 hs (rfl : zb x zT0 zc_256 6 (97, [some (.ref 92), o1, some (.int v2), some (.int v3), some (.int v4), some (.int v5), some (.int v6), some (.int v7), o8, o9, o10, o11, o12, o13], [], h) = some (108, [some (.ref 92), o1, some (.int v2), some (.int v3), some (.int v4), some (.int v5), some (.int v6), some (.int v7), o8, o9, o10, o11, o12, o13], [.int (zm_rm v6 10), .int v7, .ref 159], h)) (fun hs => ?_)
    obtain ⟨hob, ho⟩ := ho
    refine zg_ias hs zd_256 rfl rfl hob (fun hs => ?_)
    refine zg_blk zd_256 8 hs (rfl : zb x zT0 zc_256 8 (109, [some (.ref 92), o1, some (.int v2), some (.int v3), some (.int v4), some (.int v5), some (.int v6), some (.int v7), o8, o9, o10, o11, o12, o13], [], (zs h 159 v7 (zm_rm v6 10))) = some (123, [some (.ref 92), o1, some (.int v2), some (.int v3), some (.int v4), some (.int v5), some (.int (v6 / 10)), some (.int v7), o8, o9, o10, o11, o12, o13], [.int v7, .ref 159, .ref 92], (zs h 159 v7 (zm_rm v6 10)))) (fun hs => ?_)
    obtain ⟨hob, ho⟩ := ho
    refine zg_ial hs zd_256 rfl rfl hob ?_
    refine zg_call hs zd_256 rfl rfl rfl rfl (as := [.ref 92, .int (zr (zs h 159 v7 (zm_rm v6 10)) 159 v7)]) (rest := []) (en := [some (.ref 92), some (.int (zr (zs h 159 v7 (zm_rm v6 10)) 159 v7))]) rfl rfl rfl rfl rfl ?_
    refine f_M_isRaft_t (zr (zs h 159 v7 (zm_rm v6 10)) 159 v7) (zs h 159 v7 (zm_rm v6 10)) hs trivial ?_
    show zg x (d + 4) 256 127 [some (.ref 92), o1, some (.int v2), some (.int v3), some (.int v4), some (.int v5), some (.int (v6 / 10)), some (.int v7), o8, o9, o10, o11, o12, o13] [.int (if (¬ ((zr (zs h 159 v7 (zm_rm v6 10)) 159 v7) < 0) ∧ (¬ (((zf h 92 33) - 1) < (zr (zs h 159 v7 (zm_rm v6 10)) 159 v7)))) then (1 : Int32) else 0)] (zs h 159 v7 (zm_rm v6 10)) Q
    refine zg_b_eq zd_256 rfl (fun (hc : ¬ (¬ ((zr (zs h 159 v7 (zm_rm v6 10)) 159 v7) < 0) ∧ (¬ (((zf h 92 33) - 1) < (zr (zs h 159 v7 (zm_rm v6 10)) 159 v7))))) => ?_) (fun (hc : (¬ ((zr (zs h 159 v7 (zm_rm v6 10)) 159 v7) < 0) ∧ (¬ (((zf h 92 33) - 1) < (zr (zs h 159 v7 (zm_rm v6 10)) 159 v7))))) => ?_)
    · have ho := ho.2 hc
      rw [if_neg hc] at hF
      exact hl1 (v6 / 10) v7 (zs h 159 v7 (zm_rm v6 10)) (o1) (some (.int (v6 / 10))) (some (.int v7)) (o8) (o9) (o10) (o11) (o12) (o13) hs hF
    · have ho := ho.1 hc
      rw [if_pos hc] at hF
      refine zg_blk zd_256 5 hs (rfl : zb x zT0 zc_256 5 (130, [some (.ref 92), o1, some (.int v2), some (.int v3), some (.int v4), some (.int v5), some (.int (v6 / 10)), some (.int v7), o8, o9, o10, o11, o12, o13], [], (zs h 159 v7 (zm_rm v6 10))) = some (140, [some (.ref 92), o1, some (.int v2), some (.int v3), some (.int v4), some (.int v5), some (.int (v6 / 10)), some (.int v7), o8, o9, o10, o11, o12, o13], [.int v7, .ref 159, .ref 123], (zs h 159 v7 (zm_rm v6 10)))) (fun hs => ?_)
      obtain ⟨hob, ho⟩ := ho
      refine zg_ial hs zd_256 rfl rfl hob ?_
      obtain ⟨hob, ho⟩ := ho
      refine zg_ial hs zd_256 rfl rfl hob ?_
      refine zg_f_eq zd_256 rfl (fun (hc : ((zr h 123 (zr (zs h 159 v7 (zm_rm v6 10)) 159 v7)) = 0)) => ?_) (fun (hc : ¬ ((zr h 123 (zr (zs h 159 v7 (zm_rm v6 10)) 159 v7)) = 0)) => ?_)
      · have ho := ho.1 hc
        rw [if_pos hc] at hF
        refine zg_blk zd_256 4 hs (rfl : zb x zT0 zc_256 4 (147, [some (.ref 92), o1, some (.int v2), some (.int v3), some (.int v4), some (.int v5), some (.int (v6 / 10)), some (.int v7), o8, o9, o10, o11, o12, o13], [], (zs h 159 v7 (zm_rm v6 10))) = some (153, [some (.ref 92), o1, some (.int v2), some (.int v3), some (.int v4), some (.int v5), some (.int (v6 / 10)), some (.int v7), some (.int (v7 + 1)), o9, o10, o11, o12, o13], [], (zs h 159 v7 (zm_rm v6 10)))) (fun hs => ?_)
        refine f_M_laying_l92_l153_t v2 v3 v4 v5 (v6 / 10) v7 (zs h 159 v7 (zm_rm v6 10)) (fun r => f_M_laying_l92_a153_ok v2 v3 v4 v5 (v6 / 10) v7 r (zs h 159 v7 (zm_rm v6 10)) ∧ FN (f_M_laying_l92_a153 v2 v3 v4 v5 (v6 / 10) v7 r (zs h 159 v7 (zm_rm v6 10)))) ?_ ?_ zF (v7 + 1) (o1) (o9) (o10) (o11) (o12) (o13) hs ho.1 ⟨ho.2, hF⟩
        · intro v8_ o1_ o8_ o9_ o10_ o11_ o12_ o13_ hs hG
          have ho : True := trivial
          have hF : FN ((2, (v6 / 10), v7, (zs h 159 v7 (zm_rm v6 10)))) := hG.2
          exact hl2 (v6 / 10) v7 (zs h 159 v7 (zm_rm v6 10)) (o1_) (some (.int (v6 / 10))) (some (.int v7)) (o8_) (o9_) (o10_) (o11_) (o12_) (o13_) hs hF
        · intro v8_ o1_ o8_ o9_ o10_ o11_ o12_ o13_ hs hG
          have ho : True := trivial
          have hF : FN ((f_M_laying_l92_k184 v2 v3 v4 v5 (v6 / 10) v7 (zs h 159 v7 (zm_rm v6 10)))) := hG.2
          exact f_M_laying_l92_k184_t v2 v3 v4 v5 (v6 / 10) v7 (zs h 159 v7 (zm_rm v6 10)) (o1_) (o8_) (o9_) (o10_) (o11_) (o12_) (o13_) hs trivial hF hl0 hl1 hl2 hl3
      · have ho := ho.2 hc
        rw [if_neg hc] at hF
        exact hl1 (v6 / 10) v7 (zs h 159 v7 (zm_rm v6 10)) (o1) (some (.int (v6 / 10))) (some (.int v7)) (o8) (o9) (o10) (o11) (o12) (o13) hs hF
theorem f_M_laying_l92_t {x : zm_X} {d : Nat} (v2 : Int32) (v3 : Int32) (v4 : Int32) (v5 : Int32) {Q : Option Value → zm_H → Prop} (G : Nat × Int32 × Int32 × zm_H → Prop) (hx1 : ∀ (v6 : Int32) (v7 : Int32) (h : zm_H) (o1 : Option Value) (o6 : Option Value) (o7 : Option Value) (o8 : Option Value) (o9 : Option Value) (o10 : Option Value) (o11 : Option Value) (o12 : Option Value) (o13 : Option Value), zSh zT0 h → G (1, v6, v7, h) → zg x (d + 4) 256 145 [some (.ref 92), o1, some (.int v2), some (.int v3), some (.int v4), some (.int v5), o6, o7, o8, o9, o10, o11, o12, o13] [] h Q) (hx2 : ∀ (v6 : Int32) (v7 : Int32) (h : zm_H) (o1 : Option Value) (o6 : Option Value) (o7 : Option Value) (o8 : Option Value) (o9 : Option Value) (o10 : Option Value) (o11 : Option Value) (o12 : Option Value) (o13 : Option Value), zSh zT0 h → G (2, v6, v7, h) → zg x (d + 4) 256 176 [some (.ref 92), o1, some (.int v2), some (.int v3), some (.int v4), some (.int v5), o6, o7, o8, o9, o10, o11, o12, o13] [] h Q) (hx3 : ∀ (v6 : Int32) (v7 : Int32) (h : zm_H) (o1 : Option Value) (o7 : Option Value) (o8 : Option Value) (o9 : Option Value) (o10 : Option Value) (o11 : Option Value) (o12 : Option Value) (o13 : Option Value), zSh zT0 h → G (3, v6, v7, h) → zg x (d + 4) 256 190 [some (.ref 92), o1, some (.int v2), some (.int v3), some (.int v4), some (.int v5), some (.int v6), o7, o8, o9, o10, o11, o12, o13] [] h Q) : ∀ (n : Nat) (v6 : Int32) (v7 : Int32) (h : zm_H) (o1 : Option Value) (o8 : Option Value) (o9 : Option Value) (o10 : Option Value) (o11 : Option Value) (o12 : Option Value) (o13 : Option Value), zSh zT0 h → f_M_laying_l92_ok v2 v3 v4 v5 n (v6, v7, h) → G (f_M_laying_l92 v2 v3 v4 v5 n (v6, v7, h)) → zg x (d + 4) 256 92 [some (.ref 92), o1, some (.int v2), some (.int v3), some (.int v4), some (.int v5), some (.int v6), some (.int v7), o8, o9, o10, o11, o12, o13] [] h Q := by
  intro n
  induction n with
  | zero => intro v6 v7 h o1 o8 o9 o10 o11 o12 o13 hs ho hG; exact ho.elim
  | succ n ih =>
    intro v6 v7 h o1 o8 o9 o10 o11 o12 o13 hs ho hG
    refine f_M_laying_l92_b_t (FN := fun r => (r.1 = 0 → f_M_laying_l92_ok v2 v3 v4 v5 n r.2) ∧ G (if r.1 = 0 then f_M_laying_l92 v2 v3 v4 v5 n r.2 else r)) v2 v3 v4 v5 v6 v7 h o1 o8 o9 o10 o11 o12 o13 hs ho.1 ⟨ho.2, hG⟩ ?_ ?_ ?_ ?_
    · intro v6 v7 h o1 o8 o9 o10 o11 o12 o13 hs hF
      exact ih v6 v7 h o1 o8 o9 o10 o11 o12 o13 hs (hF.1 rfl) hF.2
    · intro v6 v7 h o1 o6 o7 o8 o9 o10 o11 o12 o13 hs hF
      exact hx1 v6 v7 h o1 o6 o7 o8 o9 o10 o11 o12 o13 hs hF.2
    · intro v6 v7 h o1 o6 o7 o8 o9 o10 o11 o12 o13 hs hF
      exact hx2 v6 v7 h o1 o6 o7 o8 o9 o10 o11 o12 o13 hs hF.2
    · intro v6 v7 h o1 o7 o8 o9 o10 o11 o12 o13 hs hF
      exact hx3 v6 v7 h o1 o7 o8 o9 o10 o11 o12 o13 hs hF.2

set_option maxRecDepth 100000 in
set_option maxHeartbeats 400000 in
theorem f_M_laying_k145_t {x : zm_X} {d : Nat} (h : zm_H) (o0 : Option Value) (o1 : Option Value) (o2 : Option Value) (o3 : Option Value) (o4 : Option Value) (z5 : Int32) (o6 : Option Value) (o7 : Option Value) (o8 : Option Value) (o9 : Option Value) (o10 : Option Value) (o11 : Option Value) (o12 : Option Value) (o13 : Option Value) {Q : Option Value → zm_H → Prop} (hs : zSh zT0 h) (ho : f_M_laying_k145_ok h) (hF : (zSh zT0 (f_M_laying_k145 h).2 → Q (some (.int (f_M_laying_k145 h).1)) (f_M_laying_k145 h).2)) : zg x (d + 4) 256 145 [o0, o1, o2, o3, o4, some (.int z5), o6, o7, o8, o9, o10, o11, o12, o13] [] h Q := by
  unfold f_M_laying_k145 at hF
  unfold f_M_laying_k145_ok at ho
  refine zg_blk zd_256 1 hs (rfl : zb x zT0 zc_256 1 (145, [o0, o1, o2, o3, o4, some (.int z5), o6, o7, o8, o9, o10, o11, o12, o13], [], h) = some (146, [o0, o1, o2, o3, o4, some (.int z5), o6, o7, o8, o9, o10, o11, o12, o13], [.int (-1)], h)) (fun hs => ?_)
  exact zg_ret zd_256 rfl rfl (hF hs)
set_option maxRecDepth 100000 in
set_option maxHeartbeats 400000 in
theorem f_M_laying_k176_t {x : zm_X} {d : Nat} (h : zm_H) (o0 : Option Value) (o1 : Option Value) (o2 : Option Value) (o3 : Option Value) (o4 : Option Value) (z5 : Int32) (o6 : Option Value) (o7 : Option Value) (o8 : Option Value) (o9 : Option Value) (o10 : Option Value) (o11 : Option Value) (o12 : Option Value) (o13 : Option Value) {Q : Option Value → zm_H → Prop} (hs : zSh zT0 h) (ho : f_M_laying_k176_ok h) (hF : (zSh zT0 (f_M_laying_k176 h).2 → Q (some (.int (f_M_laying_k176 h).1)) (f_M_laying_k176 h).2)) : zg x (d + 4) 256 176 [o0, o1, o2, o3, o4, some (.int z5), o6, o7, o8, o9, o10, o11, o12, o13] [] h Q := by
  unfold f_M_laying_k176 at hF
  unfold f_M_laying_k176_ok at ho
  refine zg_blk zd_256 1 hs (rfl : zb x zT0 zc_256 1 (176, [o0, o1, o2, o3, o4, some (.int z5), o6, o7, o8, o9, o10, o11, o12, o13], [], h) = some (177, [o0, o1, o2, o3, o4, some (.int z5), o6, o7, o8, o9, o10, o11, o12, o13], [.int (-1)], h)) (fun hs => ?_)
  exact zg_ret zd_256 rfl rfl (hF hs)
set_option maxRecDepth 100000 in
set_option maxHeartbeats 400000 in
theorem f_M_laying_l203_b_t {x : zm_X} {d : Nat} (v2 : Int32) (v3 : Int32) (v4 : Int32) (v5 : Int32) (v6 : Int32) (v7 : Int32) (v8 : Int32) (h : zm_H) (o1 : Option Value) (o9 : Option Value) (o10 : Option Value) (o11 : Option Value) (o12 : Option Value) (o13 : Option Value) {Q : Option Value → zm_H → Prop} {FN : Nat × Int32 × Int32 → Prop} (hs : zSh zT0 h) (ho : f_M_laying_l203_b_ok v2 v3 v4 v5 v6 v7 v8 h) (hF : FN (f_M_laying_l203_b v2 v3 v4 v5 v6 v7 v8 h)) (hl0 : ∀ (v7 : Int32) (v8 : Int32) (o1 : Option Value) (o9 : Option Value) (o10 : Option Value) (o11 : Option Value) (o12 : Option Value) (o13 : Option Value), zSh zT0 h → FN (0, v7, v8) → zg x (d + 4) 256 203 [some (.ref 92), o1, some (.int v2), some (.int v3), some (.int v4), some (.int v5), some (.int v6), some (.int v7), some (.int v8), o9, o10, o11, o12, o13] [] h Q) (hl1 : ∀ (v7 : Int32) (v8 : Int32) (o1 : Option Value) (o8 : Option Value) (o9 : Option Value) (o10 : Option Value) (o11 : Option Value) (o12 : Option Value) (o13 : Option Value), zSh zT0 h → FN (1, v7, v8) → zg x (d + 4) 256 224 [some (.ref 92), o1, some (.int v2), some (.int v3), some (.int v4), some (.int v5), some (.int v6), some (.int v7), o8, o9, o10, o11, o12, o13] [] h Q) : zg x (d + 4) 256 203 [some (.ref 92), o1, some (.int v2), some (.int v3), some (.int v4), some (.int v5), some (.int v6), some (.int v7), some (.int v8), o9, o10, o11, o12, o13] [] h Q := by
  unfold f_M_laying_l203_b at hF
  unfold f_M_laying_l203_b_ok at ho
  refine zg_blk zd_256 2 hs (rfl : zb x zT0 zc_256 2 (203, [some (.ref 92), o1, some (.int v2), some (.int v3), some (.int v4), some (.int v5), some (.int v6), some (.int v7), some (.int v8), o9, o10, o11, o12, o13], [], h) = some (206, [some (.ref 92), o1, some (.int v2), some (.int v3), some (.int v4), some (.int v5), some (.int v6), some (.int v7), some (.int v8), o9, o10, o11, o12, o13], [.int v2, .int v8], h)) (fun hs => ?_)
  refine zg_i_ge zd_256 rfl (fun (hc : (v2 ≤ v8)) => ?_) (fun (hc : ¬ (v2 ≤ v8)) => ?_)
  · skip
    rw [if_pos hc] at hF
    exact hl1 v7 v8 (o1) (some (.int v8)) (o9) (o10) (o11) (o12) (o13) hs hF
  · skip
    rw [if_neg hc] at hF
    refine zg_blk zd_256 7 hs (rfl : zb x zT0 zc_256 7 (209, [some (.ref 92), o1, some (.int v2), some (.int v3), some (.int v4), some (.int v5), some (.int v6), some (.int v7), some (.int v8), o9, o10, o11, o12, o13], [], h) = some (203, [some (.ref 92), o1, some (.int v2), some (.int v3), some (.int v4), some (.int v5), some (.int v6), some (.int (v7 * (zf h 92 75))), some (.int (v8 + 1)), o9, o10, o11, o12, o13], [], h)) (fun hs => ?_)
    exact hl0 (v7 * (zf h 92 75)) (v8 + 1) (o1) (o9) (o10) (o11) (o12) (o13) hs hF
theorem f_M_laying_l203_t {x : zm_X} {d : Nat} (v2 : Int32) (v3 : Int32) (v4 : Int32) (v5 : Int32) (v6 : Int32) (h : zm_H) {Q : Option Value → zm_H → Prop} (G : Nat × Int32 × Int32 → Prop) (hx1 : ∀ (v7 : Int32) (v8 : Int32) (o1 : Option Value) (o8 : Option Value) (o9 : Option Value) (o10 : Option Value) (o11 : Option Value) (o12 : Option Value) (o13 : Option Value), zSh zT0 h → G (1, v7, v8) → zg x (d + 4) 256 224 [some (.ref 92), o1, some (.int v2), some (.int v3), some (.int v4), some (.int v5), some (.int v6), some (.int v7), o8, o9, o10, o11, o12, o13] [] h Q) : ∀ (n : Nat) (v7 : Int32) (v8 : Int32) (o1 : Option Value) (o9 : Option Value) (o10 : Option Value) (o11 : Option Value) (o12 : Option Value) (o13 : Option Value), zSh zT0 h → f_M_laying_l203_ok v2 v3 v4 v5 v6 h n (v7, v8) → G (f_M_laying_l203 v2 v3 v4 v5 v6 h n (v7, v8)) → zg x (d + 4) 256 203 [some (.ref 92), o1, some (.int v2), some (.int v3), some (.int v4), some (.int v5), some (.int v6), some (.int v7), some (.int v8), o9, o10, o11, o12, o13] [] h Q := by
  intro n
  induction n with
  | zero => intro v7 v8 o1 o9 o10 o11 o12 o13 hs ho hG; exact ho.elim
  | succ n ih =>
    intro v7 v8 o1 o9 o10 o11 o12 o13 hs ho hG
    refine f_M_laying_l203_b_t (FN := fun r => (r.1 = 0 → f_M_laying_l203_ok v2 v3 v4 v5 v6 h n r.2) ∧ G (if r.1 = 0 then f_M_laying_l203 v2 v3 v4 v5 v6 h n r.2 else r)) v2 v3 v4 v5 v6 v7 v8 h o1 o9 o10 o11 o12 o13 hs ho.1 ⟨ho.2, hG⟩ ?_ ?_
    · intro v7 v8 o1 o9 o10 o11 o12 o13 hs hF
      exact ih v7 v8 o1 o9 o10 o11 o12 o13 hs (hF.1 rfl) hF.2
    · intro v7 v8 o1 o8 o9 o10 o11 o12 o13 hs hF
      exact hx1 v7 v8 o1 o8 o9 o10 o11 o12 o13 hs hF.2

set_option maxRecDepth 100000 in
set_option maxHeartbeats 400000 in
theorem f_M_laying_l230_l249_l329_b_t {x : zm_X} {d : Nat} (v2 : Int32) (v3 : Int32) (v4 : Int32) (v5 : Int32) (v7 : Int32) (v8 : Int32) (v9 : Int32) (v10 : Int32) (v11 : Int32) (v12 : Int32) (v13 : Int32) (h : zm_H) (o1 : Option Value) (o6 : Option Value) {Q : Option Value → zm_H → Prop} {FN : Nat × Int32 × Int32 → Prop} (hs : zSh zT0 h) (ho : f_M_laying_l230_l249_l329_b_ok v2 v3 v4 v5 v7 v8 v9 v10 v11 v12 v13 h) (hF : FN (f_M_laying_l230_l249_l329_b v2 v3 v4 v5 v7 v8 v9 v10 v11 v12 v13 h)) (hl0 : ∀ (v11 : Int32) (v13 : Int32) (o1 : Option Value) (o6 : Option Value), zSh zT0 h → FN (0, v11, v13) → zg x (d + 4) 256 329 [some (.ref 92), o1, some (.int v2), some (.int v3), some (.int v4), some (.int v5), o6, some (.int v7), some (.int v8), some (.int v9), some (.int v10), some (.int v11), some (.int v12), some (.int v13)] [] h Q) (hl1 : ∀ (v11 : Int32) (v13 : Int32) (o1 : Option Value) (o6 : Option Value) (o13 : Option Value), zSh zT0 h → FN (1, v11, v13) → zg x (d + 4) 256 370 [some (.ref 92), o1, some (.int v2), some (.int v3), some (.int v4), some (.int v5), o6, some (.int v7), some (.int v8), some (.int v9), some (.int v10), some (.int v11), some (.int v12), o13] [] h Q) : zg x (d + 4) 256 329 [some (.ref 92), o1, some (.int v2), some (.int v3), some (.int v4), some (.int v5), o6, some (.int v7), some (.int v8), some (.int v9), some (.int v10), some (.int v11), some (.int v12), some (.int v13)] [] h Q := by
  unfold f_M_laying_l230_l249_l329_b at hF
  unfold f_M_laying_l230_l249_l329_b_ok at ho
  refine zg_blk zd_256 2 hs (rfl : zb x zT0 zc_256 2 (329, [some (.ref 92), o1, some (.int v2), some (.int v3), some (.int v4), some (.int v5), o6, some (.int v7), some (.int v8), some (.int v9), some (.int v10), some (.int v11), some (.int v12), some (.int v13)], [], h) = some (332, [some (.ref 92), o1, some (.int v2), some (.int v3), some (.int v4), some (.int v5), o6, some (.int v7), some (.int v8), some (.int v9), some (.int v10), some (.int v11), some (.int v12), some (.int v13)], [.int v2, .int v13], h)) (fun hs => ?_)
  refine zg_i_ge zd_256 rfl (fun (hc : (v2 ≤ v13)) => ?_) (fun (hc : ¬ (v2 ≤ v13)) => ?_)
  · have ho := ho.1 hc
    rw [if_pos hc] at hF
    exact hl1 v11 v13 (o1) (o6) (some (.int v13)) hs hF
  · have ho := ho.2 hc
    rw [if_neg hc] at hF
    refine zg_blk zd_256 1 hs (rfl : zb x zT0 zc_256 1 (335, [some (.ref 92), o1, some (.int v2), some (.int v3), some (.int v4), some (.int v5), o6, some (.int v7), some (.int v8), some (.int v9), some (.int v10), some (.int v11), some (.int v12), some (.int v13)], [], h) = some (337, [some (.ref 92), o1, some (.int v2), some (.int v3), some (.int v4), some (.int v5), o6, some (.int v7), some (.int v8), some (.int v9), some (.int v10), some (.int v11), some (.int v12), some (.int v13)], [.int v11], h)) (fun hs => ?_)
    have hom := ho
    have K175 : zSh zT0 h → zg x (d + 4) 256 362 [some (.ref 92), o1, some (.int v2), some (.int v3), some (.int v4), some (.int v5), o6, some (.int v7), some (.int v8), some (.int v9), some (.int v10), some (.int v11), some (.int v12), some (.int v13)] [.int (if (¬ (v11 = 0) ∧ (¬ ((zr h 160 v13) = (zr h 160 v12)))) then (1 : Int32) else 0)] h Q := fun hs => by
      refine zg_blk zd_256 3 hs (rfl : zb x zT0 zc_256 3 (362, [some (.ref 92), o1, some (.int v2), some (.int v3), some (.int v4), some (.int v5), o6, some (.int v7), some (.int v8), some (.int v9), some (.int v10), some (.int v11), some (.int v12), some (.int v13)], [.int (if (¬ (v11 = 0) ∧ (¬ ((zr h 160 v13) = (zr h 160 v12)))) then (1 : Int32) else 0)], h) = some (329, [some (.ref 92), o1, some (.int v2), some (.int v3), some (.int v4), some (.int v5), o6, some (.int v7), some (.int v8), some (.int v9), some (.int v10), some (.int (if (¬ (v11 = 0) ∧ (¬ ((zr h 160 v13) = (zr h 160 v12)))) then (1 : Int32) else 0)), some (.int v12), some (.int (v13 + 1))], [], h)) (fun hs => ?_)
      exact hl0 (if (¬ (v11 = 0) ∧ (¬ ((zr h 160 v13) = (zr h 160 v12)))) then (1 : Int32) else 0) (v13 + 1) (o1) (o6) hs hF
    refine zg_f_eq zd_256 rfl (fun (hc : (v11 = 0)) => ?_) (fun (hc : ¬ (v11 = 0)) => ?_)
    · have ho := hom.1 hc
      rw [show ((if (¬ (v11 = 0) ∧ (¬ ((zr h 160 v13) = (zr h 160 v12)))) then (1 : Int32) else 0) : Int32) = 0 from zb_nand_t hc] at K175
      refine zg_blk zd_256 1 hs (rfl : zb x zT0 zc_256 1 (361, [some (.ref 92), o1, some (.int v2), some (.int v3), some (.int v4), some (.int v5), o6, some (.int v7), some (.int v8), some (.int v9), some (.int v10), some (.int v11), some (.int v12), some (.int v13)], [], h) = some (362, [some (.ref 92), o1, some (.int v2), some (.int v3), some (.int v4), some (.int v5), o6, some (.int v7), some (.int v8), some (.int v9), some (.int v10), some (.int v11), some (.int v12), some (.int v13)], [.int 0], h)) (fun hs => ?_)
      exact K175 hs
    · have ho := hom.2 hc
      rw [show ((if (¬ (v11 = 0) ∧ (¬ ((zr h 160 v13) = (zr h 160 v12)))) then (1 : Int32) else 0) : Int32) = (if (¬ ((zr h 160 v13) = (zr h 160 v12))) then (1 : Int32) else 0) from zb_nand_f hc] at K175
      refine zg_blk zd_256 3 hs (rfl : zb x zT0 zc_256 3 (340, [some (.ref 92), o1, some (.int v2), some (.int v3), some (.int v4), some (.int v5), o6, some (.int v7), some (.int v8), some (.int v9), some (.int v10), some (.int v11), some (.int v12), some (.int v13)], [], h) = some (346, [some (.ref 92), o1, some (.int v2), some (.int v3), some (.int v4), some (.int v5), o6, some (.int v7), some (.int v8), some (.int v9), some (.int v10), some (.int v11), some (.int v12), some (.int v13)], [.int v13, .ref 160], h)) (fun hs => ?_)
      obtain ⟨hob, ho⟩ := ho
      refine zg_ial hs zd_256 rfl rfl hob ?_
      refine zg_blk zd_256 3 hs (rfl : zb x zT0 zc_256 3 (347, [some (.ref 92), o1, some (.int v2), some (.int v3), some (.int v4), some (.int v5), o6, some (.int v7), some (.int v8), some (.int v9), some (.int v10), some (.int v11), some (.int v12), some (.int v13)], [.int (zr h 160 v13)], h) = some (353, [some (.ref 92), o1, some (.int v2), some (.int v3), some (.int v4), some (.int v5), o6, some (.int v7), some (.int v8), some (.int v9), some (.int v10), some (.int v11), some (.int v12), some (.int v13)], [.int v12, .ref 160, .int (zr h 160 v13)], h)) (fun hs => ?_)
      have hob := ho
      refine zg_ial hs zd_256 rfl rfl hob ?_
      refine zg_i_eq zd_256 rfl (fun (hc : ((zr h 160 v13) = (zr h 160 v12))) => ?_) (fun (hc : ¬ ((zr h 160 v13) = (zr h 160 v12))) => ?_)
      · skip
        rw [show ((if (¬ ((zr h 160 v13) = (zr h 160 v12))) then (1 : Int32) else 0) : Int32) = 0 from zb_not_t hc] at K175
        refine zg_blk zd_256 1 hs (rfl : zb x zT0 zc_256 1 (361, [some (.ref 92), o1, some (.int v2), some (.int v3), some (.int v4), some (.int v5), o6, some (.int v7), some (.int v8), some (.int v9), some (.int v10), some (.int v11), some (.int v12), some (.int v13)], [], h) = some (362, [some (.ref 92), o1, some (.int v2), some (.int v3), some (.int v4), some (.int v5), o6, some (.int v7), some (.int v8), some (.int v9), some (.int v10), some (.int v11), some (.int v12), some (.int v13)], [.int 0], h)) (fun hs => ?_)
        exact K175 hs
      · skip
        rw [show ((if (¬ ((zr h 160 v13) = (zr h 160 v12))) then (1 : Int32) else 0) : Int32) = 1 from zb_not_f hc] at K175
        refine zg_blk zd_256 2 hs (rfl : zb x zT0 zc_256 2 (357, [some (.ref 92), o1, some (.int v2), some (.int v3), some (.int v4), some (.int v5), o6, some (.int v7), some (.int v8), some (.int v9), some (.int v10), some (.int v11), some (.int v12), some (.int v13)], [], h) = some (362, [some (.ref 92), o1, some (.int v2), some (.int v3), some (.int v4), some (.int v5), o6, some (.int v7), some (.int v8), some (.int v9), some (.int v10), some (.int v11), some (.int v12), some (.int v13)], [.int 1], h)) (fun hs => ?_)
        exact K175 hs
theorem f_M_laying_l230_l249_l329_t {x : zm_X} {d : Nat} (v2 : Int32) (v3 : Int32) (v4 : Int32) (v5 : Int32) (v7 : Int32) (v8 : Int32) (v9 : Int32) (v10 : Int32) (v12 : Int32) (h : zm_H) {Q : Option Value → zm_H → Prop} (G : Nat × Int32 × Int32 → Prop) (hx1 : ∀ (v11 : Int32) (v13 : Int32) (o1 : Option Value) (o6 : Option Value) (o13 : Option Value), zSh zT0 h → G (1, v11, v13) → zg x (d + 4) 256 370 [some (.ref 92), o1, some (.int v2), some (.int v3), some (.int v4), some (.int v5), o6, some (.int v7), some (.int v8), some (.int v9), some (.int v10), some (.int v11), some (.int v12), o13] [] h Q) : ∀ (n : Nat) (v11 : Int32) (v13 : Int32) (o1 : Option Value) (o6 : Option Value), zSh zT0 h → f_M_laying_l230_l249_l329_ok v2 v3 v4 v5 v7 v8 v9 v10 v12 h n (v11, v13) → G (f_M_laying_l230_l249_l329 v2 v3 v4 v5 v7 v8 v9 v10 v12 h n (v11, v13)) → zg x (d + 4) 256 329 [some (.ref 92), o1, some (.int v2), some (.int v3), some (.int v4), some (.int v5), o6, some (.int v7), some (.int v8), some (.int v9), some (.int v10), some (.int v11), some (.int v12), some (.int v13)] [] h Q := by
  intro n
  induction n with
  | zero => intro v11 v13 o1 o6 hs ho hG; exact ho.elim
  | succ n ih =>
    intro v11 v13 o1 o6 hs ho hG
    refine f_M_laying_l230_l249_l329_b_t (FN := fun r => (r.1 = 0 → f_M_laying_l230_l249_l329_ok v2 v3 v4 v5 v7 v8 v9 v10 v12 h n r.2) ∧ G (if r.1 = 0 then f_M_laying_l230_l249_l329 v2 v3 v4 v5 v7 v8 v9 v10 v12 h n r.2 else r)) v2 v3 v4 v5 v7 v8 v9 v10 v11 v12 v13 h o1 o6 hs ho.1 ⟨ho.2, hG⟩ ?_ ?_
    · intro v11 v13 o1 o6 hs hF
      exact ih v11 v13 o1 o6 hs (hF.1 rfl) hF.2
    · intro v11 v13 o1 o6 o13 hs hF
      exact hx1 v11 v13 o1 o6 o13 hs hF.2

set_option maxRecDepth 100000 in
set_option maxHeartbeats 400000 in
theorem f_M_laying_l230_l249_k370_t {x : zm_X} {d : Nat} (v2 : Int32) (v3 : Int32) (v4 : Int32) (v5 : Int32) (v7 : Int32) (v8 : Int32) (v9 : Int32) (v10 : Int32) (v11 : Int32) (v12 : Int32) (h : zm_H) (o1 : Option Value) (o6 : Option Value) (o13 : Option Value) {Q : Option Value → zm_H → Prop} {FN : Nat × Int32 × Int32 × Int32 × zm_H → Prop} (hs : zSh zT0 h) (ho : f_M_laying_l230_l249_k370_ok v2 v3 v4 v5 v7 v8 v9 v10 v11 v12 h) (hF : FN (f_M_laying_l230_l249_k370 v2 v3 v4 v5 v7 v8 v9 v10 v11 v12 h)) (hl0 : ∀ (v10 : Int32) (v11 : Int32) (v12 : Int32) (h : zm_H) (o1 : Option Value) (o6 : Option Value) (o13 : Option Value), zSh zT0 h → FN (0, v10, v11, v12, h) → zg x (d + 4) 256 249 [some (.ref 92), o1, some (.int v2), some (.int v3), some (.int v4), some (.int v5), o6, some (.int v7), some (.int v8), some (.int v9), some (.int v10), some (.int v11), some (.int v12), o13] [] h Q) (hl1 : ∀ (v10 : Int32) (v11 : Int32) (v12 : Int32) (h : zm_H) (o1 : Option Value) (o6 : Option Value) (o10 : Option Value) (o12 : Option Value) (o13 : Option Value), zSh zT0 h → FN (1, v10, v11, v12, h) → zg x (d + 4) 256 376 [some (.ref 92), o1, some (.int v2), some (.int v3), some (.int v4), some (.int v5), o6, some (.int v7), some (.int v8), some (.int v9), o10, some (.int v11), o12, o13] [] h Q) : zg x (d + 4) 256 370 [some (.ref 92), o1, some (.int v2), some (.int v3), some (.int v4), some (.int v5), o6, some (.int v7), some (.int v8), some (.int v9), some (.int v10), some (.int v11), some (.int v12), o13] [] h Q := by
  unfold f_M_laying_l230_l249_k370 at hF
  unfold f_M_laying_l230_l249_k370_ok at ho
  refine zg_blk zd_256 2 hs (rfl : zb x zT0 zc_256 2 (370, [some (.ref 92), o1, some (.int v2), some (.int v3), some (.int v4), some (.int v5), o6, some (.int v7), some (.int v8), some (.int v9), some (.int v10), some (.int v11), some (.int v12), o13], [], h) = some (249, [some (.ref 92), o1, some (.int v2), some (.int v3), some (.int v4), some (.int v5), o6, some (.int v7), some (.int v8), some (.int v9), some (.int v10), some (.int v11), some (.int (v12 + (-1))), o13], [], h)) (fun hs => ?_)
  exact hl0 v10 v11 (v12 + (-1)) h (o1) (o6) (o13) hs hF
set_option maxRecDepth 100000 in
set_option maxHeartbeats 400000 in
theorem f_M_laying_l230_l249_b_t {x : zm_X} {d : Nat} (v2 : Int32) (v3 : Int32) (v4 : Int32) (v5 : Int32) (v7 : Int32) (v8 : Int32) (v9 : Int32) (v10 : Int32) (v11 : Int32) (v12 : Int32) (h : zm_H) (o1 : Option Value) (o6 : Option Value) (o13 : Option Value) {Q : Option Value → zm_H → Prop} {FN : Nat × Int32 × Int32 × Int32 × zm_H → Prop} (hs : zSh zT0 h) (ho : f_M_laying_l230_l249_b_ok v2 v3 v4 v5 v7 v8 v9 v10 v11 v12 h) (hF : FN (f_M_laying_l230_l249_b v2 v3 v4 v5 v7 v8 v9 v10 v11 v12 h)) (hl0 : ∀ (v10 : Int32) (v11 : Int32) (v12 : Int32) (h : zm_H) (o1 : Option Value) (o6 : Option Value) (o13 : Option Value), zSh zT0 h → FN (0, v10, v11, v12, h) → zg x (d + 4) 256 249 [some (.ref 92), o1, some (.int v2), some (.int v3), some (.int v4), some (.int v5), o6, some (.int v7), some (.int v8), some (.int v9), some (.int v10), some (.int v11), some (.int v12), o13] [] h Q) (hl1 : ∀ (v10 : Int32) (v11 : Int32) (v12 : Int32) (h : zm_H) (o1 : Option Value) (o6 : Option Value) (o10 : Option Value) (o12 : Option Value) (o13 : Option Value), zSh zT0 h → FN (1, v10, v11, v12, h) → zg x (d + 4) 256 376 [some (.ref 92), o1, some (.int v2), some (.int v3), some (.int v4), some (.int v5), o6, some (.int v7), some (.int v8), some (.int v9), o10, some (.int v11), o12, o13] [] h Q) : zg x (d + 4) 256 249 [some (.ref 92), o1, some (.int v2), some (.int v3), some (.int v4), some (.int v5), o6, some (.int v7), some (.int v8), some (.int v9), some (.int v10), some (.int v11), some (.int v12), o13] [] h Q := by
  unfold f_M_laying_l230_l249_b at hF
  unfold f_M_laying_l230_l249_b_ok at ho
  refine zg_blk zd_256 1 hs (rfl : zb x zT0 zc_256 1 (249, [some (.ref 92), o1, some (.int v2), some (.int v3), some (.int v4), some (.int v5), o6, some (.int v7), some (.int v8), some (.int v9), some (.int v10), some (.int v11), some (.int v12), o13], [], h) = some (251, [some (.ref 92), o1, some (.int v2), some (.int v3), some (.int v4), some (.int v5), o6, some (.int v7), some (.int v8), some (.int v9), some (.int v10), some (.int v11), some (.int v12), o13], [.int v12], h)) (fun hs => ?_)
  refine zg_f_lt zd_256 rfl (fun (hc : (v12 < 0)) => ?_) (fun (hc : ¬ (v12 < 0)) => ?_)
  · have ho := ho.1 hc
    rw [if_pos hc] at hF
    exact hl1 v10 v11 v12 h (o1) (o6) (some (.int v10)) (some (.int v12)) (o13) hs hF
  · have ho := ho.2 hc
    rw [if_neg hc] at hF
    refine zg_blk zd_256 8 hs (rfl : zb x zT0 zc_256 8 (254, [some (.ref 92), o1, some (.int v2), some (.int v3), some (.int v4), some (.int v5), o6, some (.int v7), some (.int v8), some (.int v9), some (.int v10), some (.int v11), some (.int v12), o13], [], h) = some (270, [some (.ref 92), o1, some (.int v2), some (.int v3), some (.int v4), some (.int v5), o6, some (.int v7), some (.int v8), some (.int v9), some (.int v10), some (.int v11), some (.int v12), o13], [.int (zf h 92 75), .int v10, .ref 148, .int v12, .ref 160], h)) (fun hs => ?_)
    obtain ⟨hob, ho⟩ := ho
    refine zg_rem zd_256 rfl hob ?_
    obtain ⟨hob, ho⟩ := ho
    refine zg_ial hs zd_256 rfl rfl hob ?_
    obtain ⟨hob, ho⟩ := ho
    refine zg_ias hs zd_256 rfl rfl hob (fun hs => ?_)
    refine zg_blk zd_256 3 hs (rfl : zb x zT0 zc_256 3 (273, [some (.ref 92), o1, some (.int v2), some (.int v3), some (.int v4), some (.int v5), o6, some (.int v7), some (.int v8), some (.int v9), some (.int v10), some (.int v11), some (.int v12), o13], [], (zs h 160 v12 (zr h 148 (zm_rm v10 (zf h 92 75))))) = some (279, [some (.ref 92), o1, some (.int v2), some (.int v3), some (.int v4), some (.int v5), o6, some (.int v7), some (.int v8), some (.int v9), some (.int v10), some (.int v11), some (.int v12), o13], [.int (zf h 92 75), .int v10], (zs h 160 v12 (zr h 148 (zm_rm v10 (zf h 92 75)))))) (fun hs => ?_)
    obtain ⟨hob, ho⟩ := ho
    refine zg_div zd_256 rfl hob ?_
    refine zg_blk zd_256 2 hs (rfl : zb x zT0 zc_256 2 (280, [some (.ref 92), o1, some (.int v2), some (.int v3), some (.int v4), some (.int v5), o6, some (.int v7), some (.int v8), some (.int v9), some (.int v10), some (.int v11), some (.int v12), o13], [.int (v10 / (zf h 92 75))], (zs h 160 v12 (zr h 148 (zm_rm v10 (zf h 92 75))))) = some (284, [some (.ref 92), o1, some (.int v2), some (.int v3), some (.int v4), some (.int v5), o6, some (.int v7), some (.int v8), some (.int v9), some (.int (v10 / (zf h 92 75))), some (.int v11), some (.int v12), o13], [.int v11], (zs h 160 v12 (zr h 148 (zm_rm v10 (zf h 92 75)))))) (fun hs => ?_)
    obtain ⟨hom, ho⟩ := ho
    have K176 : zSh zT0 (zs h 160 v12 (zr h 148 (zm_rm v10 (zf h 92 75)))) → zg x (d + 4) 256 321 [some (.ref 92), o1, some (.int v2), some (.int v3), some (.int v4), some (.int v5), o6, some (.int v7), some (.int v8), some (.int v9), some (.int (v10 / (zf h 92 75))), some (.int v11), some (.int v12), o13] [.int (if (¬ (v11 = 0) ∧ (((f_M_isShut (zr (zs h 160 v12 (zr h 148 (zm_rm v10 (zf h 92 75)))) 160 v12) (zs h 160 v12 (zr h 148 (zm_rm v10 (zf h 92 75))))) = 0) ∧ ((f_M_isTaken 0 (zr (zs h 160 v12 (zr h 148 (zm_rm v10 (zf h 92 75)))) 160 v12) (zs h 160 v12 (zr h 148 (zm_rm v10 (zf h 92 75))))) = 0))) then (1 : Int32) else 0)] (zs h 160 v12 (zr h 148 (zm_rm v10 (zf h 92 75)))) Q := fun hs => by
      refine zg_blk zd_256 5 hs (rfl : zb x zT0 zc_256 5 (321, [some (.ref 92), o1, some (.int v2), some (.int v3), some (.int v4), some (.int v5), o6, some (.int v7), some (.int v8), some (.int v9), some (.int (v10 / (zf h 92 75))), some (.int v11), some (.int v12), o13], [.int (if (¬ (v11 = 0) ∧ (((f_M_isShut (zr (zs h 160 v12 (zr h 148 (zm_rm v10 (zf h 92 75)))) 160 v12) (zs h 160 v12 (zr h 148 (zm_rm v10 (zf h 92 75))))) = 0) ∧ ((f_M_isTaken 0 (zr (zs h 160 v12 (zr h 148 (zm_rm v10 (zf h 92 75)))) 160 v12) (zs h 160 v12 (zr h 148 (zm_rm v10 (zf h 92 75))))) = 0))) then (1 : Int32) else 0)], (zs h 160 v12 (zr h 148 (zm_rm v10 (zf h 92 75))))) = some (329, [some (.ref 92), o1, some (.int v2), some (.int v3), some (.int v4), some (.int v5), o6, some (.int v7), some (.int v8), some (.int v9), some (.int (v10 / (zf h 92 75))), some (.int (if (¬ (v11 = 0) ∧ (((f_M_isShut (zr (zs h 160 v12 (zr h 148 (zm_rm v10 (zf h 92 75)))) 160 v12) (zs h 160 v12 (zr h 148 (zm_rm v10 (zf h 92 75))))) = 0) ∧ ((f_M_isTaken 0 (zr (zs h 160 v12 (zr h 148 (zm_rm v10 (zf h 92 75)))) 160 v12) (zs h 160 v12 (zr h 148 (zm_rm v10 (zf h 92 75))))) = 0))) then (1 : Int32) else 0)), some (.int v12), some (.int (v12 + 1))], [], (zs h 160 v12 (zr h 148 (zm_rm v10 (zf h 92 75)))))) (fun hs => ?_)
      refine f_M_laying_l230_l249_l329_t v2 v3 v4 v5 v7 v8 v9 (v10 / (zf h 92 75)) v12 (zs h 160 v12 (zr h 148 (zm_rm v10 (zf h 92 75)))) (fun r => f_M_laying_l230_l249_a329_ok v2 v3 v4 v5 v7 v8 v9 (v10 / (zf h 92 75)) v12 r (zs h 160 v12 (zr h 148 (zm_rm v10 (zf h 92 75)))) ∧ FN (f_M_laying_l230_l249_a329 v2 v3 v4 v5 v7 v8 v9 (v10 / (zf h 92 75)) v12 r (zs h 160 v12 (zr h 148 (zm_rm v10 (zf h 92 75)))))) ?_ zF (if (¬ (v11 = 0) ∧ (((f_M_isShut (zr (zs h 160 v12 (zr h 148 (zm_rm v10 (zf h 92 75)))) 160 v12) (zs h 160 v12 (zr h 148 (zm_rm v10 (zf h 92 75))))) = 0) ∧ ((f_M_isTaken 0 (zr (zs h 160 v12 (zr h 148 (zm_rm v10 (zf h 92 75)))) 160 v12) (zs h 160 v12 (zr h 148 (zm_rm v10 (zf h 92 75))))) = 0))) then (1 : Int32) else 0) (v12 + 1) (o1) (o6) hs ho.1 ⟨ho.2, hF⟩
      · intro v11_ v13_ o1_ o6_ o13_ hs hG
        have ho : True := trivial
        have hF : FN ((f_M_laying_l230_l249_k370 v2 v3 v4 v5 v7 v8 v9 (v10 / (zf h 92 75)) v11_ v12 (zs h 160 v12 (zr h 148 (zm_rm v10 (zf h 92 75)))))) := hG.2
        exact f_M_laying_l230_l249_k370_t v2 v3 v4 v5 v7 v8 v9 (v10 / (zf h 92 75)) v11_ v12 (zs h 160 v12 (zr h 148 (zm_rm v10 (zf h 92 75)))) (o1_) (o6_) (o13_) hs trivial hF hl0 hl1
    refine zg_f_eq zd_256 rfl (fun (hc : (v11 = 0)) => ?_) (fun (hc : ¬ (v11 = 0)) => ?_)
    · have ho := hom.1 hc
      rw [show ((if (¬ (v11 = 0) ∧ (((f_M_isShut (zr (zs h 160 v12 (zr h 148 (zm_rm v10 (zf h 92 75)))) 160 v12) (zs h 160 v12 (zr h 148 (zm_rm v10 (zf h 92 75))))) = 0) ∧ ((f_M_isTaken 0 (zr (zs h 160 v12 (zr h 148 (zm_rm v10 (zf h 92 75)))) 160 v12) (zs h 160 v12 (zr h 148 (zm_rm v10 (zf h 92 75))))) = 0))) then (1 : Int32) else 0) : Int32) = 0 from zb_nand_t hc] at K176
      refine zg_blk zd_256 1 hs (rfl : zb x zT0 zc_256 1 (320, [some (.ref 92), o1, some (.int v2), some (.int v3), some (.int v4), some (.int v5), o6, some (.int v7), some (.int v8), some (.int v9), some (.int (v10 / (zf h 92 75))), some (.int v11), some (.int v12), o13], [], (zs h 160 v12 (zr h 148 (zm_rm v10 (zf h 92 75))))) = some (321, [some (.ref 92), o1, some (.int v2), some (.int v3), some (.int v4), some (.int v5), o6, some (.int v7), some (.int v8), some (.int v9), some (.int (v10 / (zf h 92 75))), some (.int v11), some (.int v12), o13], [.int 0], (zs h 160 v12 (zr h 148 (zm_rm v10 (zf h 92 75)))))) (fun hs => ?_)
      exact K176 hs
    · have ho := hom.2 hc
      rw [show ((if (¬ (v11 = 0) ∧ (((f_M_isShut (zr (zs h 160 v12 (zr h 148 (zm_rm v10 (zf h 92 75)))) 160 v12) (zs h 160 v12 (zr h 148 (zm_rm v10 (zf h 92 75))))) = 0) ∧ ((f_M_isTaken 0 (zr (zs h 160 v12 (zr h 148 (zm_rm v10 (zf h 92 75)))) 160 v12) (zs h 160 v12 (zr h 148 (zm_rm v10 (zf h 92 75))))) = 0))) then (1 : Int32) else 0) : Int32) = (if (((f_M_isShut (zr (zs h 160 v12 (zr h 148 (zm_rm v10 (zf h 92 75)))) 160 v12) (zs h 160 v12 (zr h 148 (zm_rm v10 (zf h 92 75))))) = 0) ∧ ((f_M_isTaken 0 (zr (zs h 160 v12 (zr h 148 (zm_rm v10 (zf h 92 75)))) 160 v12) (zs h 160 v12 (zr h 148 (zm_rm v10 (zf h 92 75))))) = 0)) then (1 : Int32) else 0) from zb_nand_f hc] at K176
      refine zg_blk zd_256 4 hs (rfl : zb x zT0 zc_256 4 (287, [some (.ref 92), o1, some (.int v2), some (.int v3), some (.int v4), some (.int v5), o6, some (.int v7), some (.int v8), some (.int v9), some (.int (v10 / (zf h 92 75))), some (.int v11), some (.int v12), o13], [], (zs h 160 v12 (zr h 148 (zm_rm v10 (zf h 92 75))))) = some (294, [some (.ref 92), o1, some (.int v2), some (.int v3), some (.int v4), some (.int v5), o6, some (.int v7), some (.int v8), some (.int v9), some (.int (v10 / (zf h 92 75))), some (.int v11), some (.int v12), o13], [.int v12, .ref 160, .ref 92], (zs h 160 v12 (zr h 148 (zm_rm v10 (zf h 92 75)))))) (fun hs => ?_)
      obtain ⟨hob, ho⟩ := ho
      refine zg_ial hs zd_256 rfl rfl hob ?_
      obtain ⟨hob, ho⟩ := ho
      refine zg_call hs zd_256 rfl rfl rfl rfl (as := [.ref 92, .int (zr (zs h 160 v12 (zr h 148 (zm_rm v10 (zf h 92 75)))) 160 v12)]) (rest := []) (en := [some (.ref 92), some (.int (zr (zs h 160 v12 (zr h 148 (zm_rm v10 (zf h 92 75)))) 160 v12)), none]) rfl rfl rfl rfl rfl ?_
      refine f_M_isShut_t (zr (zs h 160 v12 (zr h 148 (zm_rm v10 (zf h 92 75)))) 160 v12) (zs h 160 v12 (zr h 148 (zm_rm v10 (zf h 92 75)))) hs hob ?_
      show zg x (d + 4) 256 298 [some (.ref 92), o1, some (.int v2), some (.int v3), some (.int v4), some (.int v5), o6, some (.int v7), some (.int v8), some (.int v9), some (.int (v10 / (zf h 92 75))), some (.int v11), some (.int v12), o13] [.int (f_M_isShut (zr (zs h 160 v12 (zr h 148 (zm_rm v10 (zf h 92 75)))) 160 v12) (zs h 160 v12 (zr h 148 (zm_rm v10 (zf h 92 75)))))] (zs h 160 v12 (zr h 148 (zm_rm v10 (zf h 92 75)))) Q
      refine zg_f_ne zd_256 rfl (fun (hc : ¬ ((f_M_isShut (zr (zs h 160 v12 (zr h 148 (zm_rm v10 (zf h 92 75)))) 160 v12) (zs h 160 v12 (zr h 148 (zm_rm v10 (zf h 92 75))))) = 0)) => ?_) (fun (hc : ((f_M_isShut (zr (zs h 160 v12 (zr h 148 (zm_rm v10 (zf h 92 75)))) 160 v12) (zs h 160 v12 (zr h 148 (zm_rm v10 (zf h 92 75))))) = 0)) => ?_)
      · have ho := ho.2 hc
        rw [show ((if (((f_M_isShut (zr (zs h 160 v12 (zr h 148 (zm_rm v10 (zf h 92 75)))) 160 v12) (zs h 160 v12 (zr h 148 (zm_rm v10 (zf h 92 75))))) = 0) ∧ ((f_M_isTaken 0 (zr (zs h 160 v12 (zr h 148 (zm_rm v10 (zf h 92 75)))) 160 v12) (zs h 160 v12 (zr h 148 (zm_rm v10 (zf h 92 75))))) = 0)) then (1 : Int32) else 0) : Int32) = 0 from zb_and_f hc] at K176
        refine zg_blk zd_256 1 hs (rfl : zb x zT0 zc_256 1 (320, [some (.ref 92), o1, some (.int v2), some (.int v3), some (.int v4), some (.int v5), o6, some (.int v7), some (.int v8), some (.int v9), some (.int (v10 / (zf h 92 75))), some (.int v11), some (.int v12), o13], [], (zs h 160 v12 (zr h 148 (zm_rm v10 (zf h 92 75))))) = some (321, [some (.ref 92), o1, some (.int v2), some (.int v3), some (.int v4), some (.int v5), o6, some (.int v7), some (.int v8), some (.int v9), some (.int (v10 / (zf h 92 75))), some (.int v11), some (.int v12), o13], [.int 0], (zs h 160 v12 (zr h 148 (zm_rm v10 (zf h 92 75)))))) (fun hs => ?_)
        exact K176 hs
      · have ho := ho.1 hc
        rw [show ((if (((f_M_isShut (zr (zs h 160 v12 (zr h 148 (zm_rm v10 (zf h 92 75)))) 160 v12) (zs h 160 v12 (zr h 148 (zm_rm v10 (zf h 92 75))))) = 0) ∧ ((f_M_isTaken 0 (zr (zs h 160 v12 (zr h 148 (zm_rm v10 (zf h 92 75)))) 160 v12) (zs h 160 v12 (zr h 148 (zm_rm v10 (zf h 92 75))))) = 0)) then (1 : Int32) else 0) : Int32) = (if ((f_M_isTaken 0 (zr (zs h 160 v12 (zr h 148 (zm_rm v10 (zf h 92 75)))) 160 v12) (zs h 160 v12 (zr h 148 (zm_rm v10 (zf h 92 75))))) = 0) then (1 : Int32) else 0) from zb_and_t hc] at K176
        refine zg_blk zd_256 5 hs (rfl : zb x zT0 zc_256 5 (301, [some (.ref 92), o1, some (.int v2), some (.int v3), some (.int v4), some (.int v5), o6, some (.int v7), some (.int v8), some (.int v9), some (.int (v10 / (zf h 92 75))), some (.int v11), some (.int v12), o13], [], (zs h 160 v12 (zr h 148 (zm_rm v10 (zf h 92 75))))) = some (309, [some (.ref 92), o1, some (.int v2), some (.int v3), some (.int v4), some (.int v5), o6, some (.int v7), some (.int v8), some (.int v9), some (.int (v10 / (zf h 92 75))), some (.int v11), some (.int v12), o13], [.int v12, .ref 160, .int 0, .ref 92], (zs h 160 v12 (zr h 148 (zm_rm v10 (zf h 92 75)))))) (fun hs => ?_)
        obtain ⟨hob, ho⟩ := ho
        refine zg_ial hs zd_256 rfl rfl hob ?_
        have hob := ho
        refine zg_call hs zd_256 rfl rfl rfl rfl (as := [.ref 92, .int 0, .int (zr (zs h 160 v12 (zr h 148 (zm_rm v10 (zf h 92 75)))) 160 v12)]) (rest := []) (en := [some (.ref 92), some (.int 0), some (.int (zr (zs h 160 v12 (zr h 148 (zm_rm v10 (zf h 92 75)))) 160 v12)), none]) rfl rfl rfl rfl rfl ?_
        refine f_M_isTaken_t 0 (zr (zs h 160 v12 (zr h 148 (zm_rm v10 (zf h 92 75)))) 160 v12) (zs h 160 v12 (zr h 148 (zm_rm v10 (zf h 92 75)))) hs hob ?_
        show zg x (d + 4) 256 313 [some (.ref 92), o1, some (.int v2), some (.int v3), some (.int v4), some (.int v5), o6, some (.int v7), some (.int v8), some (.int v9), some (.int (v10 / (zf h 92 75))), some (.int v11), some (.int v12), o13] [.int (f_M_isTaken 0 (zr (zs h 160 v12 (zr h 148 (zm_rm v10 (zf h 92 75)))) 160 v12) (zs h 160 v12 (zr h 148 (zm_rm v10 (zf h 92 75)))))] (zs h 160 v12 (zr h 148 (zm_rm v10 (zf h 92 75)))) Q
        refine zg_f_ne zd_256 rfl (fun (hc : ¬ ((f_M_isTaken 0 (zr (zs h 160 v12 (zr h 148 (zm_rm v10 (zf h 92 75)))) 160 v12) (zs h 160 v12 (zr h 148 (zm_rm v10 (zf h 92 75))))) = 0)) => ?_) (fun (hc : ((f_M_isTaken 0 (zr (zs h 160 v12 (zr h 148 (zm_rm v10 (zf h 92 75)))) 160 v12) (zs h 160 v12 (zr h 148 (zm_rm v10 (zf h 92 75))))) = 0)) => ?_)
        · skip
          rw [show ((if ((f_M_isTaken 0 (zr (zs h 160 v12 (zr h 148 (zm_rm v10 (zf h 92 75)))) 160 v12) (zs h 160 v12 (zr h 148 (zm_rm v10 (zf h 92 75))))) = 0) then (1 : Int32) else 0) : Int32) = 0 from if_neg hc] at K176
          refine zg_blk zd_256 1 hs (rfl : zb x zT0 zc_256 1 (320, [some (.ref 92), o1, some (.int v2), some (.int v3), some (.int v4), some (.int v5), o6, some (.int v7), some (.int v8), some (.int v9), some (.int (v10 / (zf h 92 75))), some (.int v11), some (.int v12), o13], [], (zs h 160 v12 (zr h 148 (zm_rm v10 (zf h 92 75))))) = some (321, [some (.ref 92), o1, some (.int v2), some (.int v3), some (.int v4), some (.int v5), o6, some (.int v7), some (.int v8), some (.int v9), some (.int (v10 / (zf h 92 75))), some (.int v11), some (.int v12), o13], [.int 0], (zs h 160 v12 (zr h 148 (zm_rm v10 (zf h 92 75)))))) (fun hs => ?_)
          exact K176 hs
        · skip
          rw [show ((if ((f_M_isTaken 0 (zr (zs h 160 v12 (zr h 148 (zm_rm v10 (zf h 92 75)))) 160 v12) (zs h 160 v12 (zr h 148 (zm_rm v10 (zf h 92 75))))) = 0) then (1 : Int32) else 0) : Int32) = 1 from if_pos hc] at K176
          refine zg_blk zd_256 2 hs (rfl : zb x zT0 zc_256 2 (316, [some (.ref 92), o1, some (.int v2), some (.int v3), some (.int v4), some (.int v5), o6, some (.int v7), some (.int v8), some (.int v9), some (.int (v10 / (zf h 92 75))), some (.int v11), some (.int v12), o13], [], (zs h 160 v12 (zr h 148 (zm_rm v10 (zf h 92 75))))) = some (321, [some (.ref 92), o1, some (.int v2), some (.int v3), some (.int v4), some (.int v5), o6, some (.int v7), some (.int v8), some (.int v9), some (.int (v10 / (zf h 92 75))), some (.int v11), some (.int v12), o13], [.int 1], (zs h 160 v12 (zr h 148 (zm_rm v10 (zf h 92 75)))))) (fun hs => ?_)
          exact K176 hs
