/-! ===== the code does what its functions say, 9 ===== -/
theorem f_M_laying_l230_l249_t {x : zm_X} {d : Nat} (v2 : Int32) (v3 : Int32) (v4 : Int32) (v5 : Int32) (v7 : Int32) (v8 : Int32) (v9 : Int32) {Q : Option Value → zm_H → Prop} (G : Nat × Int32 × Int32 × Int32 × zm_H → Prop) (hx1 : ∀ (v10 : Int32) (v11 : Int32) (v12 : Int32) (h : zm_H) (o1 : Option Value) (o6 : Option Value) (o10 : Option Value) (o12 : Option Value) (o13 : Option Value), zSh zT0 h → G (1, v10, v11, v12, h) → zg x (d + 4) 256 376 [some (.ref 92), o1, some (.int v2), some (.int v3), some (.int v4), some (.int v5), o6, some (.int v7), some (.int v8), some (.int v9), o10, some (.int v11), o12, o13] [] h Q) : ∀ (n : Nat) (v10 : Int32) (v11 : Int32) (v12 : Int32) (h : zm_H) (o1 : Option Value) (o6 : Option Value) (o13 : Option Value), zSh zT0 h → f_M_laying_l230_l249_ok v2 v3 v4 v5 v7 v8 v9 n (v10, v11, v12, h) → G (f_M_laying_l230_l249 v2 v3 v4 v5 v7 v8 v9 n (v10, v11, v12, h)) → zg x (d + 4) 256 249 [some (.ref 92), o1, some (.int v2), some (.int v3), some (.int v4), some (.int v5), o6, some (.int v7), some (.int v8), some (.int v9), some (.int v10), some (.int v11), some (.int v12), o13] [] h Q := by
  intro n
  induction n with
  | zero => intro v10 v11 v12 h o1 o6 o13 hs ho hG; exact ho.elim
  | succ n ih =>
    intro v10 v11 v12 h o1 o6 o13 hs ho hG
    refine f_M_laying_l230_l249_b_t (FN := fun r => (r.1 = 0 → f_M_laying_l230_l249_ok v2 v3 v4 v5 v7 v8 v9 n r.2) ∧ G (if r.1 = 0 then f_M_laying_l230_l249 v2 v3 v4 v5 v7 v8 v9 n r.2 else r)) v2 v3 v4 v5 v7 v8 v9 v10 v11 v12 h o1 o6 o13 hs ho.1 ⟨ho.2, hG⟩ ?_ ?_
    · intro v10 v11 v12 h o1 o6 o13 hs hF
      exact ih v10 v11 v12 h o1 o6 o13 hs (hF.1 rfl) hF.2
    · intro v10 v11 v12 h o1 o6 o10 o12 o13 hs hF
      exact hx1 v10 v11 v12 h o1 o6 o10 o12 o13 hs hF.2

set_option maxRecDepth 100000 in
set_option maxHeartbeats 400000 in
theorem f_M_laying_l230_l412_b_t {x : zm_X} {d : Nat} (v2 : Int32) (v3 : Int32) (v4 : Int32) (v5 : Int32) (v7 : Int32) (v8 : Int32) (v9 : Int32) (v12 : Int32) (v13 : Int32) (h : zm_H) (o1 : Option Value) (o6 : Option Value) (o10 : Option Value) (o11 : Option Value) {Q : Option Value → zm_H → Prop} {FN : Nat × Int32 × zm_H → Prop} (hs : zSh zT0 h) (ho : f_M_laying_l230_l412_b_ok v2 v3 v4 v5 v7 v8 v9 v12 v13 h) (hF : FN (f_M_laying_l230_l412_b v2 v3 v4 v5 v7 v8 v9 v12 v13 h)) (hl0 : ∀ (v13 : Int32) (h : zm_H) (o1 : Option Value) (o6 : Option Value) (o10 : Option Value) (o11 : Option Value), zSh zT0 h → FN (0, v13, h) → zg x (d + 4) 256 412 [some (.ref 92), o1, some (.int v2), some (.int v3), some (.int v4), some (.int v5), o6, some (.int v7), some (.int v8), some (.int v9), o10, o11, some (.int v12), some (.int v13)] [] h Q) (hl1 : ∀ (v13 : Int32) (h : zm_H) (o1 : Option Value) (o6 : Option Value) (o10 : Option Value) (o11 : Option Value) (o13 : Option Value), zSh zT0 h → FN (1, v13, h) → zg x (d + 4) 256 438 [some (.ref 92), o1, some (.int v2), some (.int v3), some (.int v4), some (.int v5), o6, some (.int v7), some (.int v8), some (.int v9), o10, o11, some (.int v12), o13] [] h Q) : zg x (d + 4) 256 412 [some (.ref 92), o1, some (.int v2), some (.int v3), some (.int v4), some (.int v5), o6, some (.int v7), some (.int v8), some (.int v9), o10, o11, some (.int v12), some (.int v13)] [] h Q := by
  unfold f_M_laying_l230_l412_b at hF
  unfold f_M_laying_l230_l412_b_ok at ho
  refine zg_blk zd_256 2 hs (rfl : zb x zT0 zc_256 2 (412, [some (.ref 92), o1, some (.int v2), some (.int v3), some (.int v4), some (.int v5), o6, some (.int v7), some (.int v8), some (.int v9), o10, o11, some (.int v12), some (.int v13)], [], h) = some (415, [some (.ref 92), o1, some (.int v2), some (.int v3), some (.int v4), some (.int v5), o6, some (.int v7), some (.int v8), some (.int v9), o10, o11, some (.int v12), some (.int v13)], [.int v2, .int v13], h)) (fun hs => ?_)
  refine zg_i_ge zd_256 rfl (fun (hc : (v2 ≤ v13)) => ?_) (fun (hc : ¬ (v2 ≤ v13)) => ?_)
  · have ho := ho.1 hc
    rw [if_pos hc] at hF
    exact hl1 v13 h (o1) (o6) (o10) (o11) (some (.int v13)) hs hF
  · have ho := ho.2 hc
    rw [if_neg hc] at hF
    refine zg_blk zd_256 6 hs (rfl : zb x zT0 zc_256 6 (418, [some (.ref 92), o1, some (.int v2), some (.int v3), some (.int v4), some (.int v5), o6, some (.int v7), some (.int v8), some (.int v9), o10, o11, some (.int v12), some (.int v13)], [], h) = some (430, [some (.ref 92), o1, some (.int v2), some (.int v3), some (.int v4), some (.int v5), o6, some (.int v7), some (.int v8), some (.int v9), o10, o11, some (.int v12), some (.int v13)], [.int v13, .ref 160, .int v13, .ref 161], h)) (fun hs => ?_)
    obtain ⟨hob, ho⟩ := ho
    refine zg_ial hs zd_256 rfl rfl hob ?_
    have hob := ho
    refine zg_ias hs zd_256 rfl rfl hob (fun hs => ?_)
    refine zg_blk zd_256 2 hs (rfl : zb x zT0 zc_256 2 (432, [some (.ref 92), o1, some (.int v2), some (.int v3), some (.int v4), some (.int v5), o6, some (.int v7), some (.int v8), some (.int v9), o10, o11, some (.int v12), some (.int v13)], [], (zs h 161 v13 (zr h 160 v13))) = some (412, [some (.ref 92), o1, some (.int v2), some (.int v3), some (.int v4), some (.int v5), o6, some (.int v7), some (.int v8), some (.int v9), o10, o11, some (.int v12), some (.int (v13 + 1))], [], (zs h 161 v13 (zr h 160 v13)))) (fun hs => ?_)
    exact hl0 (v13 + 1) (zs h 161 v13 (zr h 160 v13)) (o1) (o6) (o10) (o11) hs hF
theorem f_M_laying_l230_l412_t {x : zm_X} {d : Nat} (v2 : Int32) (v3 : Int32) (v4 : Int32) (v5 : Int32) (v7 : Int32) (v8 : Int32) (v9 : Int32) (v12 : Int32) {Q : Option Value → zm_H → Prop} (G : Nat × Int32 × zm_H → Prop) (hx1 : ∀ (v13 : Int32) (h : zm_H) (o1 : Option Value) (o6 : Option Value) (o10 : Option Value) (o11 : Option Value) (o13 : Option Value), zSh zT0 h → G (1, v13, h) → zg x (d + 4) 256 438 [some (.ref 92), o1, some (.int v2), some (.int v3), some (.int v4), some (.int v5), o6, some (.int v7), some (.int v8), some (.int v9), o10, o11, some (.int v12), o13] [] h Q) : ∀ (n : Nat) (v13 : Int32) (h : zm_H) (o1 : Option Value) (o6 : Option Value) (o10 : Option Value) (o11 : Option Value), zSh zT0 h → f_M_laying_l230_l412_ok v2 v3 v4 v5 v7 v8 v9 v12 n (v13, h) → G (f_M_laying_l230_l412 v2 v3 v4 v5 v7 v8 v9 v12 n (v13, h)) → zg x (d + 4) 256 412 [some (.ref 92), o1, some (.int v2), some (.int v3), some (.int v4), some (.int v5), o6, some (.int v7), some (.int v8), some (.int v9), o10, o11, some (.int v12), some (.int v13)] [] h Q := by
  intro n
  induction n with
  | zero => intro v13 h o1 o6 o10 o11 hs ho hG; exact ho.elim
  | succ n ih =>
    intro v13 h o1 o6 o10 o11 hs ho hG
    refine f_M_laying_l230_l412_b_t (FN := fun r => (r.1 = 0 → f_M_laying_l230_l412_ok v2 v3 v4 v5 v7 v8 v9 v12 n r.2) ∧ G (if r.1 = 0 then f_M_laying_l230_l412 v2 v3 v4 v5 v7 v8 v9 v12 n r.2 else r)) v2 v3 v4 v5 v7 v8 v9 v12 v13 h o1 o6 o10 o11 hs ho.1 ⟨ho.2, hG⟩ ?_ ?_
    · intro v13 h o1 o6 o10 o11 hs hF
      exact ih v13 h o1 o6 o10 o11 hs (hF.1 rfl) hF.2
    · intro v13 h o1 o6 o10 o11 o13 hs hF
      exact hx1 v13 h o1 o6 o10 o11 o13 hs hF.2

set_option maxRecDepth 100000 in
set_option maxHeartbeats 400000 in
theorem f_M_laying_l230_k438_t {x : zm_X} {d : Nat} (v2 : Int32) (v3 : Int32) (v4 : Int32) (v5 : Int32) (v7 : Int32) (v8 : Int32) (v9 : Int32) (h : zm_H) (o1 : Option Value) (o6 : Option Value) (o10 : Option Value) (o11 : Option Value) (o12 : Option Value) (o13 : Option Value) {Q : Option Value → zm_H → Prop} {FN : Nat × Int32 × Int32 × zm_H → Prop} (hs : zSh zT0 h) (ho : f_M_laying_l230_k438_ok v2 v3 v4 v5 v7 v8 v9 h) (hF : FN (f_M_laying_l230_k438 v2 v3 v4 v5 v7 v8 v9 h)) (hl0 : ∀ (v8 : Int32) (v9 : Int32) (h : zm_H) (o1 : Option Value) (o6 : Option Value) (o10 : Option Value) (o11 : Option Value) (o12 : Option Value) (o13 : Option Value), zSh zT0 h → FN (0, v8, v9, h) → zg x (d + 4) 256 230 [some (.ref 92), o1, some (.int v2), some (.int v3), some (.int v4), some (.int v5), o6, some (.int v7), some (.int v8), some (.int v9), o10, o11, o12, o13] [] h Q) (hl1 : ∀ (v8 : Int32) (v9 : Int32) (h : zm_H) (o1 : Option Value) (o6 : Option Value) (o9 : Option Value) (o10 : Option Value) (o11 : Option Value) (o12 : Option Value) (o13 : Option Value), zSh zT0 h → FN (1, v8, v9, h) → zg x (d + 4) 256 444 [some (.ref 92), o1, some (.int v2), some (.int v3), some (.int v4), some (.int v5), o6, some (.int v7), some (.int v8), o9, o10, o11, o12, o13] [] h Q) : zg x (d + 4) 256 438 [some (.ref 92), o1, some (.int v2), some (.int v3), some (.int v4), some (.int v5), o6, some (.int v7), some (.int v8), some (.int v9), o10, o11, o12, o13] [] h Q := by
  unfold f_M_laying_l230_k438 at hF
  unfold f_M_laying_l230_k438_ok at ho
  refine zg_blk zd_256 2 hs (rfl : zb x zT0 zc_256 2 (438, [some (.ref 92), o1, some (.int v2), some (.int v3), some (.int v4), some (.int v5), o6, some (.int v7), some (.int v8), some (.int v9), o10, o11, o12, o13], [], h) = some (230, [some (.ref 92), o1, some (.int v2), some (.int v3), some (.int v4), some (.int v5), o6, some (.int v7), some (.int v8), some (.int (v9 + 1)), o10, o11, o12, o13], [], h)) (fun hs => ?_)
  exact hl0 v8 (v9 + 1) h (o1) (o6) (o10) (o11) (o12) (o13) hs hF
set_option maxRecDepth 100000 in
set_option maxHeartbeats 400000 in
theorem f_M_laying_l230_k393_t {x : zm_X} {d : Nat} (v2 : Int32) (v3 : Int32) (v4 : Int32) (v5 : Int32) (v7 : Int32) (v8 : Int32) (v9 : Int32) (v11 : Int32) (w0 : Int32) (h : zm_H) (o1 : Option Value) (o6 : Option Value) (o10 : Option Value) (o12 : Option Value) (o13 : Option Value) {Q : Option Value → zm_H → Prop} {FN : Nat × Int32 × Int32 × zm_H → Prop} (hs : zSh zT0 h) (ho : f_M_laying_l230_k393_ok v2 v3 v4 v5 v7 v8 v9 v11 w0 h) (hF : FN (f_M_laying_l230_k393 v2 v3 v4 v5 v7 v8 v9 v11 w0 h)) (hl0 : ∀ (v8 : Int32) (v9 : Int32) (h : zm_H) (o1 : Option Value) (o6 : Option Value) (o10 : Option Value) (o11 : Option Value) (o12 : Option Value) (o13 : Option Value), zSh zT0 h → FN (0, v8, v9, h) → zg x (d + 4) 256 230 [some (.ref 92), o1, some (.int v2), some (.int v3), some (.int v4), some (.int v5), o6, some (.int v7), some (.int v8), some (.int v9), o10, o11, o12, o13] [] h Q) (hl1 : ∀ (v8 : Int32) (v9 : Int32) (h : zm_H) (o1 : Option Value) (o6 : Option Value) (o9 : Option Value) (o10 : Option Value) (o11 : Option Value) (o12 : Option Value) (o13 : Option Value), zSh zT0 h → FN (1, v8, v9, h) → zg x (d + 4) 256 444 [some (.ref 92), o1, some (.int v2), some (.int v3), some (.int v4), some (.int v5), o6, some (.int v7), some (.int v8), o9, o10, o11, o12, o13] [] h Q) : zg x (d + 4) 256 393 [some (.ref 92), o1, some (.int v2), some (.int v3), some (.int v4), some (.int v5), o6, some (.int v7), some (.int v8), some (.int v9), o10, some (.int v11), o12, o13] [.int w0] h Q := by
  unfold f_M_laying_l230_k393 at hF
  unfold f_M_laying_l230_k393_ok at ho
  refine zg_blk zd_256 3 hs (rfl : zb x zT0 zc_256 3 (393, [some (.ref 92), o1, some (.int v2), some (.int v3), some (.int v4), some (.int v5), o6, some (.int v7), some (.int v8), some (.int v9), o10, some (.int v11), o12, o13], [.int w0], h) = some (399, [some (.ref 92), o1, some (.int v2), some (.int v3), some (.int v4), some (.int v5), o6, some (.int v7), some (.int v8), some (.int v9), o10, some (.int v11), some (.int w0), o13], [.int v8, .int w0], h)) (fun hs => ?_)
  refine zg_i_gt zd_256 rfl (fun (hc : (v8 < w0)) => ?_) (fun (hc : ¬ (v8 < w0)) => ?_)
  · have ho := ho.1 hc
    rw [if_pos hc] at hF
    refine zg_blk zd_256 4 hs (rfl : zb x zT0 zc_256 4 (405, [some (.ref 92), o1, some (.int v2), some (.int v3), some (.int v4), some (.int v5), o6, some (.int v7), some (.int v8), some (.int v9), o10, some (.int v11), some (.int w0), o13], [], h) = some (412, [some (.ref 92), o1, some (.int v2), some (.int v3), some (.int v4), some (.int v5), o6, some (.int v7), some (.int w0), some (.int v9), o10, some (.int v11), some (.int w0), some (.int 0)], [], h)) (fun hs => ?_)
    refine f_M_laying_l230_l412_t v2 v3 v4 v5 v7 w0 v9 w0 (fun r => f_M_laying_l230_a412_ok v2 v3 v4 v5 v7 w0 v9 r ∧ FN (f_M_laying_l230_a412 v2 v3 v4 v5 v7 w0 v9 r)) ?_ zF 0 h (o1) (o6) (o10) (some (.int v11)) hs ho.1 ⟨ho.2, hF⟩
    · intro v13_ h_ o1_ o6_ o10_ o11_ o13_ hs hG
      have ho : True := trivial
      have hF : FN ((f_M_laying_l230_k438 v2 v3 v4 v5 v7 w0 v9 h_)) := hG.2
      exact f_M_laying_l230_k438_t v2 v3 v4 v5 v7 w0 v9 h_ (o1_) (o6_) (o10_) (o11_) (some (.int w0)) (o13_) hs trivial hF hl0 hl1
  · have ho := ho.2 hc
    rw [if_neg hc] at hF
    refine zg_blk zd_256 1 hs (rfl : zb x zT0 zc_256 1 (402, [some (.ref 92), o1, some (.int v2), some (.int v3), some (.int v4), some (.int v5), o6, some (.int v7), some (.int v8), some (.int v9), o10, some (.int v11), some (.int w0), o13], [], h) = some (438, [some (.ref 92), o1, some (.int v2), some (.int v3), some (.int v4), some (.int v5), o6, some (.int v7), some (.int v8), some (.int v9), o10, some (.int v11), some (.int w0), o13], [], h)) (fun hs => ?_)
    exact f_M_laying_l230_k438_t v2 v3 v4 v5 v7 v8 v9 h (o1) (o6) (o10) (some (.int v11)) (some (.int w0)) (o13) hs trivial hF hl0 hl1
theorem zd_257 : zm_cd 257 = zc_257 := by rfl
set_option maxRecDepth 100000 in
set_option maxHeartbeats 400000 in
theorem f_M_worth_l3_b_t {x : zm_X} {d : Nat} (v1 : Int32) (v2 : Int32) (v3 : Int32) (v4 : Int32) (h : zm_H) (o5 : Option Value) (o6 : Option Value) (o7 : Option Value) {Q : Option Value → zm_H → Prop} {FN : Nat × Int32 × zm_H → Prop} (hs : zSh zT0 h) (ho : f_M_worth_l3_b_ok v1 v2 v3 v4 h) (hF : FN (f_M_worth_l3_b v1 v2 v3 v4 h)) (hl0 : ∀ (v4 : Int32) (h : zm_H) (o5 : Option Value) (o6 : Option Value) (o7 : Option Value), zSh zT0 h → FN (0, v4, h) → zg x (d + 3) 257 3 [some (.ref 92), some (.int v1), some (.int v2), some (.int v3), some (.int v4), o5, o6, o7] [] h Q) (hl1 : ∀ (v4 : Int32) (h : zm_H) (o4 : Option Value) (o5 : Option Value) (o6 : Option Value) (o7 : Option Value), zSh zT0 h → FN (1, v4, h) → zg x (d + 3) 257 59 [some (.ref 92), some (.int v1), some (.int v2), some (.int v3), o4, o5, o6, o7] [] h Q) : zg x (d + 3) 257 3 [some (.ref 92), some (.int v1), some (.int v2), some (.int v3), some (.int v4), o5, o6, o7] [] h Q := by
  unfold f_M_worth_l3_b at hF
  unfold f_M_worth_l3_b_ok at ho
  refine zg_blk zd_257 2 hs (rfl : zb x zT0 zc_257 2 (3, [some (.ref 92), some (.int v1), some (.int v2), some (.int v3), some (.int v4), o5, o6, o7], [], h) = some (7, [some (.ref 92), some (.int v1), some (.int v2), some (.int v3), some (.int v4), o5, o6, o7], [.int 10, .int v4], h)) (fun hs => ?_)
  refine zg_i_ge zd_257 rfl (fun (hc : (10 ≤ v4)) => ?_) (fun (hc : ¬ (10 ≤ v4)) => ?_)
  · have ho := ho.1 hc
    rw [if_pos hc] at hF
    exact hl1 v4 h (some (.int v4)) (o5) (o6) (o7) hs hF
  · have ho := ho.2 hc
    rw [if_neg hc] at hF
    refine zg_blk zd_257 8 hs (rfl : zb x zT0 zc_257 8 (10, [some (.ref 92), some (.int v1), some (.int v2), some (.int v3), some (.int v4), o5, o6, o7], [], h) = some (25, [some (.ref 92), some (.int v1), some (.int v2), some (.int v3), some (.int v4), o5, o6, o7], [.int v4, .ref 123, .int (10 + v4), .ref 123], h)) (fun hs => ?_)
    obtain ⟨hob, ho⟩ := ho
    refine zg_ial hs zd_257 rfl rfl hob ?_
    refine zg_blk zd_257 1 hs (rfl : zb x zT0 zc_257 1 (26, [some (.ref 92), some (.int v1), some (.int v2), some (.int v3), some (.int v4), o5, o6, o7], [.int (zr h 123 v4), .int (10 + v4), .ref 123], h) = some (27, [some (.ref 92), some (.int v1), some (.int v2), some (.int v3), some (.int v4), o5, o6, o7], [.int 1, .int (zr h 123 v4), .int (10 + v4), .ref 123], h)) (fun hs => ?_)
    have K177 : zSh zT0 h → zg x (d + 3) 257 35 [some (.ref 92), some (.int v1), some (.int v2), some (.int v3), some (.int v4), o5, o6, o7] [.int (if ((zr h 123 v4) = 1) then (1 : Int32) else 0), .int (10 + v4), .ref 123] h Q := fun hs => by
      obtain ⟨hob, ho⟩ := ho
      refine zg_ias hs zd_257 rfl rfl hob (fun hs => ?_)
      refine zg_blk zd_257 8 hs (rfl : zb x zT0 zc_257 8 (36, [some (.ref 92), some (.int v1), some (.int v2), some (.int v3), some (.int v4), o5, o6, o7], [], (zs h 123 (10 + v4) (if ((zr h 123 v4) = 1) then (1 : Int32) else 0))) = some (51, [some (.ref 92), some (.int v1), some (.int v2), some (.int v3), some (.int v4), o5, o6, o7], [.int v4, .ref 124, .int (10 + v4), .ref 124], (zs h 123 (10 + v4) (if ((zr h 123 v4) = 1) then (1 : Int32) else 0)))) (fun hs => ?_)
      obtain ⟨hob, ho⟩ := ho
      refine zg_ial hs zd_257 rfl rfl hob ?_
      have hob := ho
      refine zg_ias hs zd_257 rfl rfl hob (fun hs => ?_)
      refine zg_blk zd_257 2 hs (rfl : zb x zT0 zc_257 2 (53, [some (.ref 92), some (.int v1), some (.int v2), some (.int v3), some (.int v4), o5, o6, o7], [], (zs (zs h 123 (10 + v4) (if ((zr h 123 v4) = 1) then (1 : Int32) else 0)) 124 (10 + v4) (zr h 124 v4))) = some (3, [some (.ref 92), some (.int v1), some (.int v2), some (.int v3), some (.int (v4 + 1)), o5, o6, o7], [], (zs (zs h 123 (10 + v4) (if ((zr h 123 v4) = 1) then (1 : Int32) else 0)) 124 (10 + v4) (zr h 124 v4)))) (fun hs => ?_)
      exact hl0 (v4 + 1) (zs (zs h 123 (10 + v4) (if ((zr h 123 v4) = 1) then (1 : Int32) else 0)) 124 (10 + v4) (zr h 124 v4)) (o5) (o6) (o7) hs hF
    refine zg_i_ne zd_257 rfl (fun (hc : ¬ ((zr h 123 v4) = 1)) => ?_) (fun (hc : ((zr h 123 v4) = 1)) => ?_)
    · skip
      rw [show ((if ((zr h 123 v4) = 1) then (1 : Int32) else 0) : Int32) = 0 from if_neg hc] at K177
      refine zg_blk zd_257 1 hs (rfl : zb x zT0 zc_257 1 (34, [some (.ref 92), some (.int v1), some (.int v2), some (.int v3), some (.int v4), o5, o6, o7], [.int (10 + v4), .ref 123], h) = some (35, [some (.ref 92), some (.int v1), some (.int v2), some (.int v3), some (.int v4), o5, o6, o7], [.int 0, .int (10 + v4), .ref 123], h)) (fun hs => ?_)
      exact K177 hs
    · skip
      rw [show ((if ((zr h 123 v4) = 1) then (1 : Int32) else 0) : Int32) = 1 from if_pos hc] at K177
      refine zg_blk zd_257 2 hs (rfl : zb x zT0 zc_257 2 (30, [some (.ref 92), some (.int v1), some (.int v2), some (.int v3), some (.int v4), o5, o6, o7], [.int (10 + v4), .ref 123], h) = some (35, [some (.ref 92), some (.int v1), some (.int v2), some (.int v3), some (.int v4), o5, o6, o7], [.int 1, .int (10 + v4), .ref 123], h)) (fun hs => ?_)
      exact K177 hs
theorem f_M_worth_l3_t {x : zm_X} {d : Nat} (v1 : Int32) (v2 : Int32) (v3 : Int32) {Q : Option Value → zm_H → Prop} (G : Nat × Int32 × zm_H → Prop) (hx1 : ∀ (v4 : Int32) (h : zm_H) (o4 : Option Value) (o5 : Option Value) (o6 : Option Value) (o7 : Option Value), zSh zT0 h → G (1, v4, h) → zg x (d + 3) 257 59 [some (.ref 92), some (.int v1), some (.int v2), some (.int v3), o4, o5, o6, o7] [] h Q) : ∀ (n : Nat) (v4 : Int32) (h : zm_H) (o5 : Option Value) (o6 : Option Value) (o7 : Option Value), zSh zT0 h → f_M_worth_l3_ok v1 v2 v3 n (v4, h) → G (f_M_worth_l3 v1 v2 v3 n (v4, h)) → zg x (d + 3) 257 3 [some (.ref 92), some (.int v1), some (.int v2), some (.int v3), some (.int v4), o5, o6, o7] [] h Q := by
  intro n
  induction n with
  | zero => intro v4 h o5 o6 o7 hs ho hG; exact ho.elim
  | succ n ih =>
    intro v4 h o5 o6 o7 hs ho hG
    refine f_M_worth_l3_b_t (FN := fun r => (r.1 = 0 → f_M_worth_l3_ok v1 v2 v3 n r.2) ∧ G (if r.1 = 0 then f_M_worth_l3 v1 v2 v3 n r.2 else r)) v1 v2 v3 v4 h o5 o6 o7 hs ho.1 ⟨ho.2, hG⟩ ?_ ?_
    · intro v4 h o5 o6 o7 hs hF
      exact ih v4 h o5 o6 o7 hs (hF.1 rfl) hF.2
    · intro v4 h o4 o5 o6 o7 hs hF
      exact hx1 v4 h o4 o5 o6 o7 hs hF.2

set_option maxRecDepth 100000 in
set_option maxHeartbeats 400000 in
theorem f_M_worth_l62_b_t {x : zm_X} {d : Nat} (v1 : Int32) (v2 : Int32) (v3 : Int32) (v4 : Int32) (h : zm_H) (o5 : Option Value) (o6 : Option Value) (o7 : Option Value) {Q : Option Value → zm_H → Prop} {FN : Nat × Int32 × zm_H → Prop} (hs : zSh zT0 h) (ho : f_M_worth_l62_b_ok v1 v2 v3 v4 h) (hF : FN (f_M_worth_l62_b v1 v2 v3 v4 h)) (hl0 : ∀ (v4 : Int32) (h : zm_H) (o5 : Option Value) (o6 : Option Value) (o7 : Option Value), zSh zT0 h → FN (0, v4, h) → zg x (d + 3) 257 62 [some (.ref 92), some (.int v1), some (.int v2), some (.int v3), some (.int v4), o5, o6, o7] [] h Q) (hl1 : ∀ (v4 : Int32) (h : zm_H) (o4 : Option Value) (o5 : Option Value) (o6 : Option Value) (o7 : Option Value), zSh zT0 h → FN (1, v4, h) → zg x (d + 3) 257 112 [some (.ref 92), some (.int v1), some (.int v2), some (.int v3), o4, o5, o6, o7] [] h Q) : zg x (d + 3) 257 62 [some (.ref 92), some (.int v1), some (.int v2), some (.int v3), some (.int v4), o5, o6, o7] [] h Q := by
  unfold f_M_worth_l62_b at hF
  unfold f_M_worth_l62_b_ok at ho
  refine zg_blk zd_257 2 hs (rfl : zb x zT0 zc_257 2 (62, [some (.ref 92), some (.int v1), some (.int v2), some (.int v3), some (.int v4), o5, o6, o7], [], h) = some (65, [some (.ref 92), some (.int v1), some (.int v2), some (.int v3), some (.int v4), o5, o6, o7], [.int v1, .int v4], h)) (fun hs => ?_)
  refine zg_i_ge zd_257 rfl (fun (hc : (v1 ≤ v4)) => ?_) (fun (hc : ¬ (v1 ≤ v4)) => ?_)
  · have ho := ho.1 hc
    rw [if_pos hc] at hF
    exact hl1 v4 h (some (.int v4)) (o5) (o6) (o7) hs hF
  · have ho := ho.2 hc
    rw [if_neg hc] at hF
    refine zg_blk zd_257 6 hs (rfl : zb x zT0 zc_257 6 (68, [some (.ref 92), some (.int v1), some (.int v2), some (.int v3), some (.int v4), o5, o6, o7], [], h) = some (80, [some (.ref 92), some (.int v1), some (.int v2), some (.int v3), some (.int v4), o5, o6, o7], [.int v4, .ref 159, .int 10, .ref 123], h)) (fun hs => ?_)
    obtain ⟨hob, ho⟩ := ho
    refine zg_ial hs zd_257 rfl rfl hob ?_
    refine zg_blk zd_257 2 hs (rfl : zb x zT0 zc_257 2 (81, [some (.ref 92), some (.int v1), some (.int v2), some (.int v3), some (.int v4), o5, o6, o7], [.int (zr h 159 v4), .int 10, .ref 123], h) = some (83, [some (.ref 92), some (.int v1), some (.int v2), some (.int v3), some (.int v4), o5, o6, o7], [.int 1, .int (10 + (zr h 159 v4)), .ref 123], h)) (fun hs => ?_)
    obtain ⟨hob, ho⟩ := ho
    refine zg_ias hs zd_257 rfl rfl hob (fun hs => ?_)
    refine zg_blk zd_257 6 hs (rfl : zb x zT0 zc_257 6 (84, [some (.ref 92), some (.int v1), some (.int v2), some (.int v3), some (.int v4), o5, o6, o7], [], (zs h 123 (10 + (zr h 159 v4)) 1)) = some (96, [some (.ref 92), some (.int v1), some (.int v2), some (.int v3), some (.int v4), o5, o6, o7], [.int v4, .ref 159, .int 10, .ref 124], (zs h 123 (10 + (zr h 159 v4)) 1))) (fun hs => ?_)
    obtain ⟨hob, ho⟩ := ho
    refine zg_ial hs zd_257 rfl rfl hob ?_
    refine zg_blk zd_257 4 hs (rfl : zb x zT0 zc_257 4 (97, [some (.ref 92), some (.int v1), some (.int v2), some (.int v3), some (.int v4), o5, o6, o7], [.int (zr h 159 v4), .int 10, .ref 124], (zs h 123 (10 + (zr h 159 v4)) 1)) = some (104, [some (.ref 92), some (.int v1), some (.int v2), some (.int v3), some (.int v4), o5, o6, o7], [.int v4, .ref 160, .int (10 + (zr h 159 v4)), .ref 124], (zs h 123 (10 + (zr h 159 v4)) 1))) (fun hs => ?_)
    obtain ⟨hob, ho⟩ := ho
    refine zg_ial hs zd_257 rfl rfl hob ?_
    have hob := ho
    refine zg_ias hs zd_257 rfl rfl hob (fun hs => ?_)
    refine zg_blk zd_257 2 hs (rfl : zb x zT0 zc_257 2 (106, [some (.ref 92), some (.int v1), some (.int v2), some (.int v3), some (.int v4), o5, o6, o7], [], (zs (zs h 123 (10 + (zr h 159 v4)) 1) 124 (10 + (zr h 159 v4)) (zr h 160 v4))) = some (62, [some (.ref 92), some (.int v1), some (.int v2), some (.int v3), some (.int (v4 + 1)), o5, o6, o7], [], (zs (zs h 123 (10 + (zr h 159 v4)) 1) 124 (10 + (zr h 159 v4)) (zr h 160 v4)))) (fun hs => ?_)
    exact hl0 (v4 + 1) (zs (zs h 123 (10 + (zr h 159 v4)) 1) 124 (10 + (zr h 159 v4)) (zr h 160 v4)) (o5) (o6) (o7) hs hF
theorem f_M_worth_l62_t {x : zm_X} {d : Nat} (v1 : Int32) (v2 : Int32) (v3 : Int32) {Q : Option Value → zm_H → Prop} (G : Nat × Int32 × zm_H → Prop) (hx1 : ∀ (v4 : Int32) (h : zm_H) (o4 : Option Value) (o5 : Option Value) (o6 : Option Value) (o7 : Option Value), zSh zT0 h → G (1, v4, h) → zg x (d + 3) 257 112 [some (.ref 92), some (.int v1), some (.int v2), some (.int v3), o4, o5, o6, o7] [] h Q) : ∀ (n : Nat) (v4 : Int32) (h : zm_H) (o5 : Option Value) (o6 : Option Value) (o7 : Option Value), zSh zT0 h → f_M_worth_l62_ok v1 v2 v3 n (v4, h) → G (f_M_worth_l62 v1 v2 v3 n (v4, h)) → zg x (d + 3) 257 62 [some (.ref 92), some (.int v1), some (.int v2), some (.int v3), some (.int v4), o5, o6, o7] [] h Q := by
  intro n
  induction n with
  | zero => intro v4 h o5 o6 o7 hs ho hG; exact ho.elim
  | succ n ih =>
    intro v4 h o5 o6 o7 hs ho hG
    refine f_M_worth_l62_b_t (FN := fun r => (r.1 = 0 → f_M_worth_l62_ok v1 v2 v3 n r.2) ∧ G (if r.1 = 0 then f_M_worth_l62 v1 v2 v3 n r.2 else r)) v1 v2 v3 v4 h o5 o6 o7 hs ho.1 ⟨ho.2, hG⟩ ?_ ?_
    · intro v4 h o5 o6 o7 hs hF
      exact ih v4 h o5 o6 o7 hs (hF.1 rfl) hF.2
    · intro v4 h o4 o5 o6 o7 hs hF
      exact hx1 v4 h o4 o5 o6 o7 hs hF.2

set_option maxRecDepth 100000 in
set_option maxHeartbeats 400000 in
theorem f_M_worth_l122_l166_b_t {x : zm_X} {d : Nat} (v2 : Int32) (v3 : Int32) (v4 : Int32) (v5 : Int32) (v6 : Int32) (v7 : Int32) (h : zm_H) (o1 : Option Value) {Q : Option Value → zm_H → Prop} {FN : Nat × Int32 → Prop} (hs : zSh zT0 h) (ho : f_M_worth_l122_l166_b_ok v2 v3 v4 v5 v6 v7 h) (hF : FN (f_M_worth_l122_l166_b v2 v3 v4 v5 v6 v7 h)) (hl0 : ∀ (v7 : Int32) (o1 : Option Value), zSh zT0 h → FN (0, v7) → zg x (d + 3) 257 166 [some (.ref 92), o1, some (.int v2), some (.int v3), some (.int v4), some (.int v5), some (.int v6), some (.int v7)] [] h Q) (hl1 : ∀ (v7 : Int32) (o1 : Option Value) (o7 : Option Value), zSh zT0 h → FN (1, v7) → zg x (d + 3) 257 190 [some (.ref 92), o1, some (.int v2), some (.int v3), some (.int v4), some (.int v5), some (.int v6), o7] [] h Q) (hl2 : ∀ (v7 : Int32) (o1 : Option Value) (o7 : Option Value), zSh zT0 h → FN (2, v7) → zg x (d + 3) 257 198 [some (.ref 92), o1, some (.int v2), some (.int v3), some (.int v4), some (.int v5), some (.int v6), o7] [] h Q) : zg x (d + 3) 257 166 [some (.ref 92), o1, some (.int v2), some (.int v3), some (.int v4), some (.int v5), some (.int v6), some (.int v7)] [] h Q := by
  unfold f_M_worth_l122_l166_b at hF
  unfold f_M_worth_l122_l166_b_ok at ho
  refine zg_blk zd_257 2 hs (rfl : zb x zT0 zc_257 2 (166, [some (.ref 92), o1, some (.int v2), some (.int v3), some (.int v4), some (.int v5), some (.int v6), some (.int v7)], [], h) = some (170, [some (.ref 92), o1, some (.int v2), some (.int v3), some (.int v4), some (.int v5), some (.int v6), some (.int v7)], [.int 10, .int v7], h)) (fun hs => ?_)
  refine zg_i_ge zd_257 rfl (fun (hc : (10 ≤ v7)) => ?_) (fun (hc : ¬ (10 ≤ v7)) => ?_)
  · have ho := ho.1 hc
    rw [if_pos hc] at hF
    exact hl2 v7 (o1) (some (.int v7)) hs hF
  · have ho := ho.2 hc
    rw [if_neg hc] at hF
    refine zg_blk zd_257 4 hs (rfl : zb x zT0 zc_257 4 (173, [some (.ref 92), o1, some (.int v2), some (.int v3), some (.int v4), some (.int v5), some (.int v6), some (.int v7)], [], h) = some (181, [some (.ref 92), o1, some (.int v2), some (.int v3), some (.int v4), some (.int v5), some (.int v6), some (.int v7)], [.int v7, .ref 151, .int 100], h)) (fun hs => ?_)
    have hob := ho
    refine zg_ial hs zd_257 rfl rfl hob ?_
    refine zg_blk zd_257 4 hs (rfl : zb x zT0 zc_257 4 (182, [some (.ref 92), o1, some (.int v2), some (.int v3), some (.int v4), some (.int v5), some (.int v6), some (.int v7)], [.int (zr h 151 v7), .int 100], h) = some (187, [some (.ref 92), o1, some (.int v2), some (.int v3), some (.int v4), some (.int v5), some (.int v6), some (.int v7)], [.int (v3 * v6), .int (100 * (zr h 151 v7))], h)) (fun hs => ?_)
    refine zg_i_ge zd_257 rfl (fun (hc : ((v3 * v6) ≤ (100 * (zr h 151 v7)))) => ?_) (fun (hc : ¬ ((v3 * v6) ≤ (100 * (zr h 151 v7)))) => ?_)
    · skip
      rw [if_pos hc] at hF
      refine zg_blk zd_257 2 hs (rfl : zb x zT0 zc_257 2 (192, [some (.ref 92), o1, some (.int v2), some (.int v3), some (.int v4), some (.int v5), some (.int v6), some (.int v7)], [], h) = some (166, [some (.ref 92), o1, some (.int v2), some (.int v3), some (.int v4), some (.int v5), some (.int v6), some (.int (v7 + 1))], [], h)) (fun hs => ?_)
      exact hl0 (v7 + 1) (o1) hs hF
    · skip
      rw [if_neg hc] at hF
      exact hl1 v7 (o1) (some (.int v7)) hs hF
theorem f_M_worth_l122_l166_t {x : zm_X} {d : Nat} (v2 : Int32) (v3 : Int32) (v4 : Int32) (v5 : Int32) (v6 : Int32) (h : zm_H) {Q : Option Value → zm_H → Prop} (G : Nat × Int32 → Prop) (hx1 : ∀ (v7 : Int32) (o1 : Option Value) (o7 : Option Value), zSh zT0 h → G (1, v7) → zg x (d + 3) 257 190 [some (.ref 92), o1, some (.int v2), some (.int v3), some (.int v4), some (.int v5), some (.int v6), o7] [] h Q) (hx2 : ∀ (v7 : Int32) (o1 : Option Value) (o7 : Option Value), zSh zT0 h → G (2, v7) → zg x (d + 3) 257 198 [some (.ref 92), o1, some (.int v2), some (.int v3), some (.int v4), some (.int v5), some (.int v6), o7] [] h Q) : ∀ (n : Nat) (v7 : Int32) (o1 : Option Value), zSh zT0 h → f_M_worth_l122_l166_ok v2 v3 v4 v5 v6 h n v7 → G (f_M_worth_l122_l166 v2 v3 v4 v5 v6 h n v7) → zg x (d + 3) 257 166 [some (.ref 92), o1, some (.int v2), some (.int v3), some (.int v4), some (.int v5), some (.int v6), some (.int v7)] [] h Q := by
  intro n
  induction n with
  | zero => intro v7 o1 hs ho hG; exact ho.elim
  | succ n ih =>
    intro v7 o1 hs ho hG
    refine f_M_worth_l122_l166_b_t (FN := fun r => (r.1 = 0 → f_M_worth_l122_l166_ok v2 v3 v4 v5 v6 h n r.2) ∧ G (if r.1 = 0 then f_M_worth_l122_l166 v2 v3 v4 v5 v6 h n r.2 else r)) v2 v3 v4 v5 v6 v7 h o1 hs ho.1 ⟨ho.2, hG⟩ ?_ ?_ ?_
    · intro v7 o1 hs hF
      exact ih v7 o1 hs (hF.1 rfl) hF.2
    · intro v7 o1 o7 hs hF
      exact hx1 v7 o1 o7 hs hF.2
    · intro v7 o1 o7 hs hF
      exact hx2 v7 o1 o7 hs hF.2

set_option maxRecDepth 100000 in
set_option maxHeartbeats 400000 in
theorem f_M_worth_l122_l201_b_t {x : zm_X} {d : Nat} (v2 : Int32) (v3 : Int32) (v4 : Int32) (v5 : Int32) (v6 : Int32) (v7 : Int32) (h : zm_H) (o1 : Option Value) {Q : Option Value → zm_H → Prop} {FN : Nat × Int32 × Int32 → Prop} (hs : zSh zT0 h) (ho : f_M_worth_l122_l201_b_ok v2 v3 v4 v5 v6 v7 h) (hF : FN (f_M_worth_l122_l201_b v2 v3 v4 v5 v6 v7 h)) (hl0 : ∀ (v4 : Int32) (v7 : Int32) (o1 : Option Value), zSh zT0 h → FN (0, v4, v7) → zg x (d + 3) 257 201 [some (.ref 92), o1, some (.int v2), some (.int v3), some (.int v4), some (.int v5), some (.int v6), some (.int v7)] [] h Q) (hl1 : ∀ (v4 : Int32) (v7 : Int32) (o1 : Option Value) (o7 : Option Value), zSh zT0 h → FN (1, v4, v7) → zg x (d + 3) 257 241 [some (.ref 92), o1, some (.int v2), some (.int v3), some (.int v4), some (.int v5), some (.int v6), o7] [] h Q) : zg x (d + 3) 257 201 [some (.ref 92), o1, some (.int v2), some (.int v3), some (.int v4), some (.int v5), some (.int v6), some (.int v7)] [] h Q := by
  unfold f_M_worth_l122_l201_b at hF
  unfold f_M_worth_l122_l201_b_ok at ho
  refine zg_blk zd_257 3 hs (rfl : zb x zT0 zc_257 3 (201, [some (.ref 92), o1, some (.int v2), some (.int v3), some (.int v4), some (.int v5), some (.int v6), some (.int v7)], [], h) = some (207, [some (.ref 92), o1, some (.int v2), some (.int v3), some (.int v4), some (.int v5), some (.int v6), some (.int v7)], [.int (zf h 92 33), .int v7], h)) (fun hs => ?_)
  refine zg_i_ge zd_257 rfl (fun (hc : ((zf h 92 33) ≤ v7)) => ?_) (fun (hc : ¬ ((zf h 92 33) ≤ v7)) => ?_)
  · have ho := ho.1 hc
    rw [if_pos hc] at hF
    exact hl1 v4 v7 (o1) (some (.int v7)) hs hF
  · have ho := ho.2 hc
    rw [if_neg hc] at hF
    refine zg_blk zd_257 4 hs (rfl : zb x zT0 zc_257 4 (210, [some (.ref 92), o1, some (.int v2), some (.int v3), some (.int v4), some (.int v5), some (.int v6), some (.int v7)], [], h) = some (218, [some (.ref 92), o1, some (.int v2), some (.int v3), some (.int v4), some (.int v5), some (.int v6), some (.int v7)], [.int v7, .ref 153, .int v4], h)) (fun hs => ?_)
    obtain ⟨hob, ho⟩ := ho
    refine zg_ial hs zd_257 rfl rfl hob ?_
    refine zg_blk zd_257 3 hs (rfl : zb x zT0 zc_257 3 (219, [some (.ref 92), o1, some (.int v2), some (.int v3), some (.int v4), some (.int v5), some (.int v6), some (.int v7)], [.int (zr h 153 v7), .int v4], h) = some (224, [some (.ref 92), o1, some (.int v2), some (.int v3), some (.int v4), some (.int v5), some (.int v6), some (.int v7)], [.int v7, .ref 92, .int 100, .int (zr h 153 v7), .int v4], h)) (fun hs => ?_)
    have hob := ho
    refine zg_call hs zd_257 rfl rfl rfl rfl (as := [.ref 92, .int v7]) (rest := [.int 100, .int (zr h 153 v7), .int v4]) (en := [some (.ref 92), some (.int v7)]) rfl rfl rfl rfl rfl ?_
    refine f_M_leak_t v7 h hs hob ?_
    show zg x (d + 3) 257 227 [some (.ref 92), o1, some (.int v2), some (.int v3), some (.int v4), some (.int v5), some (.int v6), some (.int v7)] [.int (f_M_leak v7 h), .int 100, .int (zr h 153 v7), .int v4] h Q
    refine zg_blk zd_257 8 hs (rfl : zb x zT0 zc_257 8 (227, [some (.ref 92), o1, some (.int v2), some (.int v3), some (.int v4), some (.int v5), some (.int v6), some (.int v7)], [.int (f_M_leak v7 h), .int 100, .int (zr h 153 v7), .int v4], h) = some (201, [some (.ref 92), o1, some (.int v2), some (.int v3), some (.int (v4 + (((zr h 153 v7) * (100 - (f_M_leak v7 h))) / 100))), some (.int v5), some (.int v6), some (.int (v7 + 1))], [], h)) (fun hs => ?_)
    exact hl0 (v4 + (((zr h 153 v7) * (100 - (f_M_leak v7 h))) / 100)) (v7 + 1) (o1) hs hF
theorem f_M_worth_l122_l201_t {x : zm_X} {d : Nat} (v2 : Int32) (v3 : Int32) (v5 : Int32) (v6 : Int32) (h : zm_H) {Q : Option Value → zm_H → Prop} (G : Nat × Int32 × Int32 → Prop) (hx1 : ∀ (v4 : Int32) (v7 : Int32) (o1 : Option Value) (o7 : Option Value), zSh zT0 h → G (1, v4, v7) → zg x (d + 3) 257 241 [some (.ref 92), o1, some (.int v2), some (.int v3), some (.int v4), some (.int v5), some (.int v6), o7] [] h Q) : ∀ (n : Nat) (v4 : Int32) (v7 : Int32) (o1 : Option Value), zSh zT0 h → f_M_worth_l122_l201_ok v2 v3 v5 v6 h n (v4, v7) → G (f_M_worth_l122_l201 v2 v3 v5 v6 h n (v4, v7)) → zg x (d + 3) 257 201 [some (.ref 92), o1, some (.int v2), some (.int v3), some (.int v4), some (.int v5), some (.int v6), some (.int v7)] [] h Q := by
  intro n
  induction n with
  | zero => intro v4 v7 o1 hs ho hG; exact ho.elim
  | succ n ih =>
    intro v4 v7 o1 hs ho hG
    refine f_M_worth_l122_l201_b_t (FN := fun r => (r.1 = 0 → f_M_worth_l122_l201_ok v2 v3 v5 v6 h n r.2) ∧ G (if r.1 = 0 then f_M_worth_l122_l201 v2 v3 v5 v6 h n r.2 else r)) v2 v3 v4 v5 v6 v7 h o1 hs ho.1 ⟨ho.2, hG⟩ ?_ ?_
    · intro v4 v7 o1 hs hF
      exact ih v4 v7 o1 hs (hF.1 rfl) hF.2
    · intro v4 v7 o1 o7 hs hF
      exact hx1 v4 v7 o1 o7 hs hF.2

set_option maxRecDepth 100000 in
set_option maxHeartbeats 400000 in
theorem f_M_worth_l122_k241_t {x : zm_X} {d : Nat} (v2 : Int32) (v3 : Int32) (v4 : Int32) (v5 : Int32) (h : zm_H) (o1 : Option Value) (o6 : Option Value) (o7 : Option Value) {Q : Option Value → zm_H → Prop} {FN : Nat × Int32 × Int32 × zm_H → Prop} (hs : zSh zT0 h) (ho : f_M_worth_l122_k241_ok v2 v3 v4 v5 h) (hF : FN (f_M_worth_l122_k241 v2 v3 v4 v5 h)) (hl0 : ∀ (v4 : Int32) (v5 : Int32) (h : zm_H) (o1 : Option Value) (o6 : Option Value) (o7 : Option Value), zSh zT0 h → FN (0, v4, v5, h) → zg x (d + 3) 257 122 [some (.ref 92), o1, some (.int v2), some (.int v3), some (.int v4), some (.int v5), o6, o7] [] h Q) (hl1 : ∀ (v4 : Int32) (v5 : Int32) (h : zm_H) (o1 : Option Value) (o4 : Option Value) (o5 : Option Value) (o6 : Option Value) (o7 : Option Value), zSh zT0 h → FN (1, v4, v5, h) → zg x (d + 3) 257 190 [some (.ref 92), o1, some (.int v2), some (.int v3), o4, o5, o6, o7] [] h Q) (hl2 : ∀ (v4 : Int32) (v5 : Int32) (h : zm_H) (o1 : Option Value) (o5 : Option Value) (o6 : Option Value) (o7 : Option Value), zSh zT0 h → FN (2, v4, v5, h) → zg x (d + 3) 257 247 [some (.ref 92), o1, some (.int v2), some (.int v3), some (.int v4), o5, o6, o7] [] h Q) : zg x (d + 3) 257 241 [some (.ref 92), o1, some (.int v2), some (.int v3), some (.int v4), some (.int v5), o6, o7] [] h Q := by
  unfold f_M_worth_l122_k241 at hF
  unfold f_M_worth_l122_k241_ok at ho
  refine zg_blk zd_257 2 hs (rfl : zb x zT0 zc_257 2 (241, [some (.ref 92), o1, some (.int v2), some (.int v3), some (.int v4), some (.int v5), o6, o7], [], h) = some (122, [some (.ref 92), o1, some (.int v2), some (.int v3), some (.int v4), some (.int (v5 + 1)), o6, o7], [], h)) (fun hs => ?_)
  exact hl0 v4 (v5 + 1) h (o1) (o6) (o7) hs hF
set_option maxRecDepth 100000 in
set_option maxHeartbeats 400000 in
theorem f_M_worth_l122_k198_t {x : zm_X} {d : Nat} (v2 : Int32) (v3 : Int32) (v4 : Int32) (v5 : Int32) (v6 : Int32) (h : zm_H) (o1 : Option Value) (o7 : Option Value) {Q : Option Value → zm_H → Prop} {FN : Nat × Int32 × Int32 × zm_H → Prop} (hs : zSh zT0 h) (ho : f_M_worth_l122_k198_ok v2 v3 v4 v5 v6 h) (hF : FN (f_M_worth_l122_k198 v2 v3 v4 v5 v6 h)) (hl0 : ∀ (v4 : Int32) (v5 : Int32) (h : zm_H) (o1 : Option Value) (o6 : Option Value) (o7 : Option Value), zSh zT0 h → FN (0, v4, v5, h) → zg x (d + 3) 257 122 [some (.ref 92), o1, some (.int v2), some (.int v3), some (.int v4), some (.int v5), o6, o7] [] h Q) (hl1 : ∀ (v4 : Int32) (v5 : Int32) (h : zm_H) (o1 : Option Value) (o4 : Option Value) (o5 : Option Value) (o6 : Option Value) (o7 : Option Value), zSh zT0 h → FN (1, v4, v5, h) → zg x (d + 3) 257 190 [some (.ref 92), o1, some (.int v2), some (.int v3), o4, o5, o6, o7] [] h Q) (hl2 : ∀ (v4 : Int32) (v5 : Int32) (h : zm_H) (o1 : Option Value) (o5 : Option Value) (o6 : Option Value) (o7 : Option Value), zSh zT0 h → FN (2, v4, v5, h) → zg x (d + 3) 257 247 [some (.ref 92), o1, some (.int v2), some (.int v3), some (.int v4), o5, o6, o7] [] h Q) : zg x (d + 3) 257 198 [some (.ref 92), o1, some (.int v2), some (.int v3), some (.int v4), some (.int v5), some (.int v6), o7] [] h Q := by
  unfold f_M_worth_l122_k198 at hF
  unfold f_M_worth_l122_k198_ok at ho
  refine zg_blk zd_257 2 hs (rfl : zb x zT0 zc_257 2 (198, [some (.ref 92), o1, some (.int v2), some (.int v3), some (.int v4), some (.int v5), some (.int v6), o7], [], h) = some (201, [some (.ref 92), o1, some (.int v2), some (.int v3), some (.int v4), some (.int v5), some (.int v6), some (.int 0)], [], h)) (fun hs => ?_)
  refine f_M_worth_l122_l201_t v2 v3 v5 v6 h (fun r => f_M_worth_l122_a201_ok v2 v3 v5 r h ∧ FN (f_M_worth_l122_a201 v2 v3 v5 r h)) ?_ zF v4 0 (o1) hs ho.1 ⟨ho.2, hF⟩
  · intro v4_ v7_ o1_ o7_ hs hG
    have ho : True := trivial
    have hF : FN ((f_M_worth_l122_k241 v2 v3 v4_ v5 h)) := hG.2
    exact f_M_worth_l122_k241_t v2 v3 v4_ v5 h (o1_) (some (.int v6)) (o7_) hs trivial hF hl0 hl1 hl2
set_option maxRecDepth 100000 in
set_option maxHeartbeats 400000 in
theorem f_M_worth_l122_k147_t {x : zm_X} {d : Nat} (v2 : Int32) (v3 : Int32) (v4 : Int32) (v5 : Int32) (h : zm_H) (o1 : Option Value) (o6 : Option Value) (o7 : Option Value) {Q : Option Value → zm_H → Prop} {FN : Nat × Int32 × Int32 × zm_H → Prop} (hs : zSh zT0 h) (ho : f_M_worth_l122_k147_ok v2 v3 v4 v5 h) (hF : FN (f_M_worth_l122_k147 v2 v3 v4 v5 h)) (hl0 : ∀ (v4 : Int32) (v5 : Int32) (h : zm_H) (o1 : Option Value) (o6 : Option Value) (o7 : Option Value), zSh zT0 h → FN (0, v4, v5, h) → zg x (d + 3) 257 122 [some (.ref 92), o1, some (.int v2), some (.int v3), some (.int v4), some (.int v5), o6, o7] [] h Q) (hl1 : ∀ (v4 : Int32) (v5 : Int32) (h : zm_H) (o1 : Option Value) (o4 : Option Value) (o5 : Option Value) (o6 : Option Value) (o7 : Option Value), zSh zT0 h → FN (1, v4, v5, h) → zg x (d + 3) 257 190 [some (.ref 92), o1, some (.int v2), some (.int v3), o4, o5, o6, o7] [] h Q) (hl2 : ∀ (v4 : Int32) (v5 : Int32) (h : zm_H) (o1 : Option Value) (o5 : Option Value) (o6 : Option Value) (o7 : Option Value), zSh zT0 h → FN (2, v4, v5, h) → zg x (d + 3) 257 247 [some (.ref 92), o1, some (.int v2), some (.int v3), some (.int v4), o5, o6, o7] [] h Q) : zg x (d + 3) 257 147 [some (.ref 92), o1, some (.int v2), some (.int v3), some (.int v4), some (.int v5), o6, o7] [] h Q := by
  unfold f_M_worth_l122_k147 at hF
  unfold f_M_worth_l122_k147_ok at ho
  refine zg_blk zd_257 11 hs (rfl : zb x zT0 zc_257 11 (147, [some (.ref 92), o1, some (.int v2), some (.int v3), some (.int v4), some (.int v5), o6, o7], [], h) = some (166, [some (.ref 92), o1, some (.int v2), some (.int v3), some (.int v4), some (.int v5), some (.int (((zf h 92 79) * (zf h 92 79)) * (zf h 92 80))), some (.int 0)], [], h)) (fun hs => ?_)
  refine f_M_worth_l122_l166_t v2 v3 v4 v5 (((zf h 92 79) * (zf h 92 79)) * (zf h 92 80)) h (fun r => f_M_worth_l122_a166_ok v2 v3 v4 v5 (((zf h 92 79) * (zf h 92 79)) * (zf h 92 80)) r h ∧ FN (f_M_worth_l122_a166 v2 v3 v4 v5 (((zf h 92 79) * (zf h 92 79)) * (zf h 92 80)) r h)) ?_ ?_ zF 0 (o1) hs ho.1 ⟨ho.2, hF⟩
  · intro v7_ o1_ o7_ hs hG
    have ho : True := trivial
    have hF : FN ((1, v4, v5, h)) := hG.2
    exact hl1 v4 v5 h (o1_) (some (.int v4)) (some (.int v5)) (some (.int (((zf h 92 79) * (zf h 92 79)) * (zf h 92 80)))) (o7_) hs hF
  · intro v7_ o1_ o7_ hs hG
    have ho : (f_M_worth_l122_k198_ok v2 v3 v4 v5 (((zf h 92 79) * (zf h 92 79)) * (zf h 92 80)) h) := (hG.1).2 (show ¬ (2 : Nat) = 1 by decide)
    have hF : FN ((f_M_worth_l122_k198 v2 v3 v4 v5 (((zf h 92 79) * (zf h 92 79)) * (zf h 92 80)) h)) := hG.2
    exact f_M_worth_l122_k198_t v2 v3 v4 v5 (((zf h 92 79) * (zf h 92 79)) * (zf h 92 80)) h (o1_) (o7_) hs ho hF hl0 hl1 hl2
set_option maxRecDepth 100000 in
set_option maxHeartbeats 400000 in
theorem f_M_worth_l122_k142_t {x : zm_X} {d : Nat} (v2 : Int32) (v3 : Int32) (v4 : Int32) (v5 : Int32) (h : zm_H) (o1 : Option Value) (o6 : Option Value) (o7 : Option Value) {Q : Option Value → zm_H → Prop} {FN : Nat × Int32 × Int32 × zm_H → Prop} (hs : zSh zT0 h) (ho : f_M_worth_l122_k142_ok v2 v3 v4 v5 h) (hF : FN (f_M_worth_l122_k142 v2 v3 v4 v5 h)) (hl0 : ∀ (v4 : Int32) (v5 : Int32) (h : zm_H) (o1 : Option Value) (o6 : Option Value) (o7 : Option Value), zSh zT0 h → FN (0, v4, v5, h) → zg x (d + 3) 257 122 [some (.ref 92), o1, some (.int v2), some (.int v3), some (.int v4), some (.int v5), o6, o7] [] h Q) (hl1 : ∀ (v4 : Int32) (v5 : Int32) (h : zm_H) (o1 : Option Value) (o4 : Option Value) (o5 : Option Value) (o6 : Option Value) (o7 : Option Value), zSh zT0 h → FN (1, v4, v5, h) → zg x (d + 3) 257 190 [some (.ref 92), o1, some (.int v2), some (.int v3), o4, o5, o6, o7] [] h Q) (hl2 : ∀ (v4 : Int32) (v5 : Int32) (h : zm_H) (o1 : Option Value) (o5 : Option Value) (o6 : Option Value) (o7 : Option Value), zSh zT0 h → FN (2, v4, v5, h) → zg x (d + 3) 257 247 [some (.ref 92), o1, some (.int v2), some (.int v3), some (.int v4), o5, o6, o7] [] h Q) : zg x (d + 3) 257 142 [some (.ref 92), o1, some (.int v2), some (.int v3), some (.int v4), some (.int v5), o6, o7] [] h Q := by
  unfold f_M_worth_l122_k142 at hF
  unfold f_M_worth_l122_k142_ok at ho
  refine zg_blk zd_257 2 hs (rfl : zb x zT0 zc_257 2 (142, [some (.ref 92), o1, some (.int v2), some (.int v3), some (.int v4), some (.int v5), o6, o7], [], h) = some (144, [some (.ref 92), o1, some (.int v2), some (.int v3), some (.int v4), some (.int v5), o6, o7], [.int 1, .ref 92], h)) (fun hs => ?_)
  obtain ⟨hob, ho⟩ := ho
  refine zg_call hs zd_257 rfl rfl rfl rfl (as := [.ref 92, .int 1]) (rest := []) (en := [some (.ref 92), some (.int 1), none, none, none, none, none, none, none]) rfl rfl rfl rfl rfl ?_
  refine f_M_waves_t 1 h hs hob (fun hs => ?_)
  show zg x (d + 3) 257 147 [some (.ref 92), o1, some (.int v2), some (.int v3), some (.int v4), some (.int v5), o6, o7] [] (f_M_waves 1 h) Q
  exact f_M_worth_l122_k147_t v2 v3 v4 v5 (f_M_waves 1 h) (o1) (o6) (o7) hs ho hF hl0 hl1 hl2
set_option maxRecDepth 100000 in
set_option maxHeartbeats 400000 in
theorem f_M_worth_l122_b_t {x : zm_X} {d : Nat} (v2 : Int32) (v3 : Int32) (v4 : Int32) (v5 : Int32) (h : zm_H) (o1 : Option Value) (o6 : Option Value) (o7 : Option Value) {Q : Option Value → zm_H → Prop} {FN : Nat × Int32 × Int32 × zm_H → Prop} (hs : zSh zT0 h) (ho : f_M_worth_l122_b_ok v2 v3 v4 v5 h) (hF : FN (f_M_worth_l122_b v2 v3 v4 v5 h)) (hl0 : ∀ (v4 : Int32) (v5 : Int32) (h : zm_H) (o1 : Option Value) (o6 : Option Value) (o7 : Option Value), zSh zT0 h → FN (0, v4, v5, h) → zg x (d + 3) 257 122 [some (.ref 92), o1, some (.int v2), some (.int v3), some (.int v4), some (.int v5), o6, o7] [] h Q) (hl1 : ∀ (v4 : Int32) (v5 : Int32) (h : zm_H) (o1 : Option Value) (o4 : Option Value) (o5 : Option Value) (o6 : Option Value) (o7 : Option Value), zSh zT0 h → FN (1, v4, v5, h) → zg x (d + 3) 257 190 [some (.ref 92), o1, some (.int v2), some (.int v3), o4, o5, o6, o7] [] h Q) (hl2 : ∀ (v4 : Int32) (v5 : Int32) (h : zm_H) (o1 : Option Value) (o5 : Option Value) (o6 : Option Value) (o7 : Option Value), zSh zT0 h → FN (2, v4, v5, h) → zg x (d + 3) 257 247 [some (.ref 92), o1, some (.int v2), some (.int v3), some (.int v4), o5, o6, o7] [] h Q) : zg x (d + 3) 257 122 [some (.ref 92), o1, some (.int v2), some (.int v3), some (.int v4), some (.int v5), o6, o7] [] h Q := by
  unfold f_M_worth_l122_b at hF
  unfold f_M_worth_l122_b_ok at ho
  refine zg_blk zd_257 4 hs (rfl : zb x zT0 zc_257 4 (122, [some (.ref 92), o1, some (.int v2), some (.int v3), some (.int v4), some (.int v5), o6, o7], [], h) = some (129, [some (.ref 92), o1, some (.int v2), some (.int v3), some (.int v4), some (.int v5), o6, o7], [.int (zm_rm v2 1000), .int v5], h)) (fun hs => ?_)
  refine zg_i_gt zd_257 rfl (fun (hc : ((zm_rm v2 1000) < v5)) => ?_) (fun (hc : ¬ ((zm_rm v2 1000) < v5)) => ?_)
  · have ho := ho.1 hc
    rw [if_pos hc] at hF
    exact hl2 v4 v5 h (o1) (some (.int v5)) (o6) (o7) hs hF
  · have ho := ho.2 hc
    rw [if_neg hc] at hF
    refine zg_blk zd_257 3 hs (rfl : zb x zT0 zc_257 3 (132, [some (.ref 92), o1, some (.int v2), some (.int v3), some (.int v4), some (.int v5), o6, o7], [], h) = some (136, [some (.ref 92), o1, some (.int v2), some (.int v3), some (.int v4), some (.int v5), o6, o7], [.ref 92, .int v5, .ref 92], h)) (fun hs => ?_)
    refine zg_call hs zd_257 rfl rfl rfl rfl (as := [.ref 92]) (rest := [.int v5, .ref 92]) (en := [some (.ref 92)]) rfl rfl rfl rfl rfl ?_
    refine f_M_lastKnown_t  h hs trivial ?_
    show zg x (d + 3) 257 139 [some (.ref 92), o1, some (.int v2), some (.int v3), some (.int v4), some (.int v5), o6, o7] [.int (if (480 ≤ (zf h 92 23)) then (479 : Int32) else (zf h 92 23)), .int v5, .ref 92] h Q
    obtain ⟨hob, ho⟩ := ho
    refine zg_call hs zd_257 rfl rfl rfl rfl (as := [.ref 92, .int v5, .int (if (480 ≤ (zf h 92 23)) then (479 : Int32) else (zf h 92 23))]) (rest := []) (en := [some (.ref 92), some (.int v5), some (.int (if (480 ≤ (zf h 92 23)) then (479 : Int32) else (zf h 92 23))), none, none, none]) rfl rfl rfl rfl rfl ?_
    refine f_M_looks_t v5 (if (480 ≤ (zf h 92 23)) then (479 : Int32) else (zf h 92 23)) h hs hob (fun hs => ?_)
    show zg x (d + 3) 257 142 [some (.ref 92), o1, some (.int v2), some (.int v3), some (.int v4), some (.int v5), o6, o7] [] (f_M_looks v5 (if (480 ≤ (zf h 92 23)) then (479 : Int32) else (zf h 92 23)) h) Q
    exact f_M_worth_l122_k142_t v2 v3 v4 v5 (f_M_looks v5 (if (480 ≤ (zf h 92 23)) then (479 : Int32) else (zf h 92 23)) h) (o1) (o6) (o7) hs ho hF hl0 hl1 hl2
theorem f_M_worth_l122_t {x : zm_X} {d : Nat} (v2 : Int32) (v3 : Int32) {Q : Option Value → zm_H → Prop} (G : Nat × Int32 × Int32 × zm_H → Prop) (hx1 : ∀ (v4 : Int32) (v5 : Int32) (h : zm_H) (o1 : Option Value) (o4 : Option Value) (o5 : Option Value) (o6 : Option Value) (o7 : Option Value), zSh zT0 h → G (1, v4, v5, h) → zg x (d + 3) 257 190 [some (.ref 92), o1, some (.int v2), some (.int v3), o4, o5, o6, o7] [] h Q) (hx2 : ∀ (v4 : Int32) (v5 : Int32) (h : zm_H) (o1 : Option Value) (o5 : Option Value) (o6 : Option Value) (o7 : Option Value), zSh zT0 h → G (2, v4, v5, h) → zg x (d + 3) 257 247 [some (.ref 92), o1, some (.int v2), some (.int v3), some (.int v4), o5, o6, o7] [] h Q) : ∀ (n : Nat) (v4 : Int32) (v5 : Int32) (h : zm_H) (o1 : Option Value) (o6 : Option Value) (o7 : Option Value), zSh zT0 h → f_M_worth_l122_ok v2 v3 n (v4, v5, h) → G (f_M_worth_l122 v2 v3 n (v4, v5, h)) → zg x (d + 3) 257 122 [some (.ref 92), o1, some (.int v2), some (.int v3), some (.int v4), some (.int v5), o6, o7] [] h Q := by
  intro n
  induction n with
  | zero => intro v4 v5 h o1 o6 o7 hs ho hG; exact ho.elim
  | succ n ih =>
    intro v4 v5 h o1 o6 o7 hs ho hG
    refine f_M_worth_l122_b_t (FN := fun r => (r.1 = 0 → f_M_worth_l122_ok v2 v3 n r.2) ∧ G (if r.1 = 0 then f_M_worth_l122 v2 v3 n r.2 else r)) v2 v3 v4 v5 h o1 o6 o7 hs ho.1 ⟨ho.2, hG⟩ ?_ ?_ ?_
    · intro v4 v5 h o1 o6 o7 hs hF
      exact ih v4 v5 h o1 o6 o7 hs (hF.1 rfl) hF.2
    · intro v4 v5 h o1 o4 o5 o6 o7 hs hF
      exact hx1 v4 v5 h o1 o4 o5 o6 o7 hs hF.2
    · intro v4 v5 h o1 o5 o6 o7 hs hF
      exact hx2 v4 v5 h o1 o5 o6 o7 hs hF.2

set_option maxRecDepth 100000 in
set_option maxHeartbeats 400000 in
theorem f_M_worth_k190_t {x : zm_X} {d : Nat} (h : zm_H) (o0 : Option Value) (o1 : Option Value) (o2 : Option Value) (z3 : Int32) (o4 : Option Value) (o5 : Option Value) (o6 : Option Value) (o7 : Option Value) {Q : Option Value → zm_H → Prop} (hs : zSh zT0 h) (ho : f_M_worth_k190_ok h) (hF : (zSh zT0 (f_M_worth_k190 h).2 → Q (some (.int (f_M_worth_k190 h).1)) (f_M_worth_k190 h).2)) : zg x (d + 3) 257 190 [o0, o1, o2, some (.int z3), o4, o5, o6, o7] [] h Q := by
  unfold f_M_worth_k190 at hF
  unfold f_M_worth_k190_ok at ho
  refine zg_blk zd_257 1 hs (rfl : zb x zT0 zc_257 1 (190, [o0, o1, o2, some (.int z3), o4, o5, o6, o7], [], h) = some (191, [o0, o1, o2, some (.int z3), o4, o5, o6, o7], [.int (-1)], h)) (fun hs => ?_)
  exact zg_ret zd_257 rfl rfl (hF hs)
set_option maxRecDepth 100000 in
set_option maxHeartbeats 400000 in
theorem f_M_worth_k247_t {x : zm_X} {d : Nat} (v4 : Int32) (h : zm_H) (o0 : Option Value) (o1 : Option Value) (o2 : Option Value) (z3 : Int32) (o5 : Option Value) (o6 : Option Value) (o7 : Option Value) {Q : Option Value → zm_H → Prop} (hs : zSh zT0 h) (ho : f_M_worth_k247_ok v4 h) (hF : (zSh zT0 (f_M_worth_k247 v4 h).2 → Q (some (.int (f_M_worth_k247 v4 h).1)) (f_M_worth_k247 v4 h).2)) : zg x (d + 3) 257 247 [o0, o1, o2, some (.int z3), some (.int v4), o5, o6, o7] [] h Q := by
  unfold f_M_worth_k247 at hF
  unfold f_M_worth_k247_ok at ho
  refine zg_blk zd_257 1 hs (rfl : zb x zT0 zc_257 1 (247, [o0, o1, o2, some (.int z3), some (.int v4), o5, o6, o7], [], h) = some (249, [o0, o1, o2, some (.int z3), some (.int v4), o5, o6, o7], [.int v4], h)) (fun hs => ?_)
  exact zg_ret zd_257 rfl rfl (hF hs)
set_option maxRecDepth 100000 in
set_option maxHeartbeats 400000 in
theorem f_M_worth_k112_t {x : zm_X} {d : Nat} (v2 : Int32) (v3 : Int32) (h : zm_H) (o1 : Option Value) (o4 : Option Value) (o5 : Option Value) (o6 : Option Value) (o7 : Option Value) {Q : Option Value → zm_H → Prop} (hs : zSh zT0 h) (ho : f_M_worth_k112_ok v2 v3 h) (hF : (zSh zT0 (f_M_worth_k112 v2 v3 h).2 → Q (some (.int (f_M_worth_k112 v2 v3 h).1)) (f_M_worth_k112 v2 v3 h).2)) : zg x (d + 3) 257 112 [some (.ref 92), o1, some (.int v2), some (.int v3), o4, o5, o6, o7] [] h Q := by
  unfold f_M_worth_k112 at hF
  unfold f_M_worth_k112_ok at ho
  refine zg_blk zd_257 6 hs (rfl : zb x zT0 zc_257 6 (112, [some (.ref 92), o1, some (.int v2), some (.int v3), o4, o5, o6, o7], [], h) = some (122, [some (.ref 92), o1, some (.int v2), some (.int v3), some (.int 0), some (.int (v2 / 1000)), o6, o7], [], h)) (fun hs => ?_)
  refine f_M_worth_l122_t v2 v3 (fun r => f_M_worth_a122_ok r ∧ (zSh zT0 (f_M_worth_a122 r).2 → Q (some (.int (f_M_worth_a122 r).1)) (f_M_worth_a122 r).2)) ?_ ?_ zF 0 (v2 / 1000) h (o1) (o6) (o7) hs ho.1 ⟨ho.2, hF⟩
  · intro v4_ v5_ h_ o1_ o4_ o5_ o6_ o7_ hs hG
    have ho : True := trivial
    have hF : (zSh zT0 ((f_M_worth_k190 h_)).2 → Q (some (.int ((f_M_worth_k190 h_)).1)) ((f_M_worth_k190 h_)).2) := hG.2
    exact f_M_worth_k190_t h_ (some (.ref 92)) (o1_) (some (.int v2)) v3 (o4_) (o5_) (o6_) (o7_) hs trivial hF
  · intro v4_ v5_ h_ o1_ o5_ o6_ o7_ hs hG
    have ho : True := trivial
    have hF : (zSh zT0 ((f_M_worth_k247 v4_ h_)).2 → Q (some (.int ((f_M_worth_k247 v4_ h_)).1)) ((f_M_worth_k247 v4_ h_)).2) := hG.2
    exact f_M_worth_k247_t v4_ h_ (some (.ref 92)) (o1_) (some (.int v2)) v3 (o5_) (o6_) (o7_) hs trivial hF
set_option maxRecDepth 100000 in
set_option maxHeartbeats 400000 in
theorem f_M_worth_k59_t {x : zm_X} {d : Nat} (v1 : Int32) (v2 : Int32) (v3 : Int32) (h : zm_H) (o4 : Option Value) (o5 : Option Value) (o6 : Option Value) (o7 : Option Value) {Q : Option Value → zm_H → Prop} (hs : zSh zT0 h) (ho : f_M_worth_k59_ok v1 v2 v3 h) (hF : (zSh zT0 (f_M_worth_k59 v1 v2 v3 h).2 → Q (some (.int (f_M_worth_k59 v1 v2 v3 h).1)) (f_M_worth_k59 v1 v2 v3 h).2)) : zg x (d + 3) 257 59 [some (.ref 92), some (.int v1), some (.int v2), some (.int v3), o4, o5, o6, o7] [] h Q := by
  unfold f_M_worth_k59 at hF
  unfold f_M_worth_k59_ok at ho
  refine zg_blk zd_257 2 hs (rfl : zb x zT0 zc_257 2 (59, [some (.ref 92), some (.int v1), some (.int v2), some (.int v3), o4, o5, o6, o7], [], h) = some (62, [some (.ref 92), some (.int v1), some (.int v2), some (.int v3), some (.int 0), o5, o6, o7], [], h)) (fun hs => ?_)
  refine f_M_worth_l62_t v1 v2 v3 (fun r => f_M_worth_a62_ok v2 v3 r ∧ (zSh zT0 (f_M_worth_a62 v2 v3 r).2 → Q (some (.int (f_M_worth_a62 v2 v3 r).1)) (f_M_worth_a62 v2 v3 r).2)) ?_ zF 0 h (o5) (o6) (o7) hs ho.1 ⟨ho.2, hF⟩
  · intro v4_ h_ o4_ o5_ o6_ o7_ hs hG
    have ho : (f_M_worth_k112_ok v2 v3 h_) := hG.1
    have hF : (zSh zT0 ((f_M_worth_k112 v2 v3 h_)).2 → Q (some (.int ((f_M_worth_k112 v2 v3 h_)).1)) ((f_M_worth_k112 v2 v3 h_)).2) := hG.2
    exact f_M_worth_k112_t v2 v3 h_ (some (.int v1)) (o4_) (o5_) (o6_) (o7_) hs ho hF
set_option maxRecDepth 100000 in
set_option maxHeartbeats 400000 in
theorem f_M_worth_t {x : zm_X} {d : Nat} (p1 : Int32) (p2 : Int32) (p3 : Int32) (h : zm_H) {Q : Option Value → zm_H → Prop} (hs : zSh zT0 h) (ho : f_M_worth_ok p1 p2 p3 h) (hF : (zSh zT0 (f_M_worth p1 p2 p3 h).2 → Q (some (.int (f_M_worth p1 p2 p3 h).1)) (f_M_worth p1 p2 p3 h).2)) : zg x (d + 3) 257 0 [some (.ref 92), some (.int p1), some (.int p2), some (.int p3), none, none, none, none] [] h Q := by
  unfold f_M_worth at hF
  unfold f_M_worth_ok at ho
  refine zg_blk zd_257 2 hs (rfl : zb x zT0 zc_257 2 (0, [some (.ref 92), some (.int p1), some (.int p2), some (.int p3), none, none, none, none], [], h) = some (3, [some (.ref 92), some (.int p1), some (.int p2), some (.int p3), some (.int 0), none, none, none], [], h)) (fun hs => ?_)
  refine f_M_worth_l3_t p1 p2 p3 (fun r => f_M_worth_a3_ok p1 p2 p3 r ∧ (zSh zT0 (f_M_worth_a3 p1 p2 p3 r).2 → Q (some (.int (f_M_worth_a3 p1 p2 p3 r).1)) (f_M_worth_a3 p1 p2 p3 r).2)) ?_ zF 0 h (none) (none) (none) hs ho.1 ⟨ho.2, hF⟩
  · intro v4_ h_ o4_ o5_ o6_ o7_ hs hG
    have ho : (f_M_worth_k59_ok p1 p2 p3 h_) := hG.1
    have hF : (zSh zT0 ((f_M_worth_k59 p1 p2 p3 h_)).2 → Q (some (.int ((f_M_worth_k59 p1 p2 p3 h_)).1)) ((f_M_worth_k59 p1 p2 p3 h_)).2) := hG.2
    exact f_M_worth_k59_t p1 p2 p3 h_ (o4_) (o5_) (o6_) (o7_) hs ho hF
set_option maxRecDepth 100000 in
set_option maxHeartbeats 400000 in
theorem f_M_laying_l230_k389_t {x : zm_X} {d : Nat} (v2 : Int32) (v3 : Int32) (v4 : Int32) (v5 : Int32) (v7 : Int32) (v8 : Int32) (v9 : Int32) (v11 : Int32) (w0 : Int32) (h : zm_H) (o1 : Option Value) (o6 : Option Value) (o10 : Option Value) (o12 : Option Value) (o13 : Option Value) {Q : Option Value → zm_H → Prop} {FN : Nat × Int32 × Int32 × zm_H → Prop} (hs : zSh zT0 h) (ho : f_M_laying_l230_k389_ok v2 v3 v4 v5 v7 v8 v9 v11 w0 h) (hF : FN (f_M_laying_l230_k389 v2 v3 v4 v5 v7 v8 v9 v11 w0 h)) (hl0 : ∀ (v8 : Int32) (v9 : Int32) (h : zm_H) (o1 : Option Value) (o6 : Option Value) (o10 : Option Value) (o11 : Option Value) (o12 : Option Value) (o13 : Option Value), zSh zT0 h → FN (0, v8, v9, h) → zg x (d + 4) 256 230 [some (.ref 92), o1, some (.int v2), some (.int v3), some (.int v4), some (.int v5), o6, some (.int v7), some (.int v8), some (.int v9), o10, o11, o12, o13] [] h Q) (hl1 : ∀ (v8 : Int32) (v9 : Int32) (h : zm_H) (o1 : Option Value) (o6 : Option Value) (o9 : Option Value) (o10 : Option Value) (o11 : Option Value) (o12 : Option Value) (o13 : Option Value), zSh zT0 h → FN (1, v8, v9, h) → zg x (d + 4) 256 444 [some (.ref 92), o1, some (.int v2), some (.int v3), some (.int v4), some (.int v5), o6, some (.int v7), some (.int v8), o9, o10, o11, o12, o13] [] h Q) : zg x (d + 4) 256 389 [some (.ref 92), o1, some (.int v2), some (.int v3), some (.int v4), some (.int v5), o6, some (.int v7), some (.int v8), some (.int v9), o10, some (.int v11), o12, o13] [.int w0] h Q := by
  unfold f_M_laying_l230_k389 at hF
  unfold f_M_laying_l230_k389_ok at ho
  refine zg_blk zd_256 1 hs (rfl : zb x zT0 zc_256 1 (389, [some (.ref 92), o1, some (.int v2), some (.int v3), some (.int v4), some (.int v5), o6, some (.int v7), some (.int v8), some (.int v9), o10, some (.int v11), o12, o13], [.int w0], h) = some (393, [some (.ref 92), o1, some (.int v2), some (.int v3), some (.int v4), some (.int v5), o6, some (.int v7), some (.int v8), some (.int v9), o10, some (.int v11), o12, o13], [.int w0], h)) (fun hs => ?_)
  exact f_M_laying_l230_k393_t v2 v3 v4 v5 v7 v8 v9 v11 w0 h (o1) (o6) (o10) (o12) (o13) hs ho hF hl0 hl1
set_option maxRecDepth 100000 in
set_option maxHeartbeats 400000 in
theorem f_M_laying_l230_k376_t {x : zm_X} {d : Nat} (v2 : Int32) (v3 : Int32) (v4 : Int32) (v5 : Int32) (v7 : Int32) (v8 : Int32) (v9 : Int32) (v11 : Int32) (h : zm_H) (o1 : Option Value) (o6 : Option Value) (o10 : Option Value) (o12 : Option Value) (o13 : Option Value) {Q : Option Value → zm_H → Prop} {FN : Nat × Int32 × Int32 × zm_H → Prop} (hs : zSh zT0 h) (ho : f_M_laying_l230_k376_ok v2 v3 v4 v5 v7 v8 v9 v11 h) (hF : FN (f_M_laying_l230_k376 v2 v3 v4 v5 v7 v8 v9 v11 h)) (hl0 : ∀ (v8 : Int32) (v9 : Int32) (h : zm_H) (o1 : Option Value) (o6 : Option Value) (o10 : Option Value) (o11 : Option Value) (o12 : Option Value) (o13 : Option Value), zSh zT0 h → FN (0, v8, v9, h) → zg x (d + 4) 256 230 [some (.ref 92), o1, some (.int v2), some (.int v3), some (.int v4), some (.int v5), o6, some (.int v7), some (.int v8), some (.int v9), o10, o11, o12, o13] [] h Q) (hl1 : ∀ (v8 : Int32) (v9 : Int32) (h : zm_H) (o1 : Option Value) (o6 : Option Value) (o9 : Option Value) (o10 : Option Value) (o11 : Option Value) (o12 : Option Value) (o13 : Option Value), zSh zT0 h → FN (1, v8, v9, h) → zg x (d + 4) 256 444 [some (.ref 92), o1, some (.int v2), some (.int v3), some (.int v4), some (.int v5), o6, some (.int v7), some (.int v8), o9, o10, o11, o12, o13] [] h Q) : zg x (d + 4) 256 376 [some (.ref 92), o1, some (.int v2), some (.int v3), some (.int v4), some (.int v5), o6, some (.int v7), some (.int v8), some (.int v9), o10, some (.int v11), o12, o13] [] h Q := by
  unfold f_M_laying_l230_k376 at hF
  unfold f_M_laying_l230_k376_ok at ho
  refine zg_blk zd_256 1 hs (rfl : zb x zT0 zc_256 1 (376, [some (.ref 92), o1, some (.int v2), some (.int v3), some (.int v4), some (.int v5), o6, some (.int v7), some (.int v8), some (.int v9), o10, some (.int v11), o12, o13], [], h) = some (378, [some (.ref 92), o1, some (.int v2), some (.int v3), some (.int v4), some (.int v5), o6, some (.int v7), some (.int v8), some (.int v9), o10, some (.int v11), o12, o13], [.int v11], h)) (fun hs => ?_)
  refine zg_f_eq zd_256 rfl (fun (hc : (v11 = 0)) => ?_) (fun (hc : ¬ (v11 = 0)) => ?_)
  · have ho := ho.1 hc
    rw [if_pos hc] at hF
    refine zg_blk zd_256 1 hs (rfl : zb x zT0 zc_256 1 (392, [some (.ref 92), o1, some (.int v2), some (.int v3), some (.int v4), some (.int v5), o6, some (.int v7), some (.int v8), some (.int v9), o10, some (.int v11), o12, o13], [], h) = some (393, [some (.ref 92), o1, some (.int v2), some (.int v3), some (.int v4), some (.int v5), o6, some (.int v7), some (.int v8), some (.int v9), o10, some (.int v11), o12, o13], [.int (-1)], h)) (fun hs => ?_)
    exact f_M_laying_l230_k393_t v2 v3 v4 v5 v7 v8 v9 v11 (-1) h (o1) (o6) (o10) (o12) (o13) hs ho hF hl0 hl1
  · have ho := ho.2 hc
    rw [if_neg hc] at hF
    refine zg_blk zd_256 4 hs (rfl : zb x zT0 zc_256 4 (381, [some (.ref 92), o1, some (.int v2), some (.int v3), some (.int v4), some (.int v5), o6, some (.int v7), some (.int v8), some (.int v9), o10, some (.int v11), o12, o13], [], h) = some (386, [some (.ref 92), o1, some (.int v2), some (.int v3), some (.int v4), some (.int v5), o6, some (.int v7), some (.int v8), some (.int v9), o10, some (.int v11), o12, o13], [.int v4, .int v3, .int v2, .ref 92], h)) (fun hs => ?_)
    obtain ⟨hob, ho⟩ := ho
    refine zg_call hs zd_256 rfl rfl rfl rfl (as := [.ref 92, .int v2, .int v3, .int v4]) (rest := []) (en := [some (.ref 92), some (.int v2), some (.int v3), some (.int v4), none, none, none, none]) rfl rfl rfl rfl rfl ?_
    refine f_M_worth_t v2 v3 v4 h hs hob (fun hs => ?_)
    show zg x (d + 4) 256 389 [some (.ref 92), o1, some (.int v2), some (.int v3), some (.int v4), some (.int v5), o6, some (.int v7), some (.int v8), some (.int v9), o10, some (.int v11), o12, o13] [.int (f_M_worth v2 v3 v4 h).1] (f_M_worth v2 v3 v4 h).2 Q
    exact f_M_laying_l230_k389_t v2 v3 v4 v5 v7 v8 v9 v11 (f_M_worth v2 v3 v4 h).1 (f_M_worth v2 v3 v4 h).2 (o1) (o6) (o10) (o12) (o13) hs ho hF hl0 hl1
set_option maxRecDepth 100000 in
set_option maxHeartbeats 400000 in
theorem f_M_laying_l230_b_t {x : zm_X} {d : Nat} (v2 : Int32) (v3 : Int32) (v4 : Int32) (v5 : Int32) (v7 : Int32) (v8 : Int32) (v9 : Int32) (h : zm_H) (o1 : Option Value) (o6 : Option Value) (o10 : Option Value) (o11 : Option Value) (o12 : Option Value) (o13 : Option Value) {Q : Option Value → zm_H → Prop} {FN : Nat × Int32 × Int32 × zm_H → Prop} (hs : zSh zT0 h) (ho : f_M_laying_l230_b_ok v2 v3 v4 v5 v7 v8 v9 h) (hF : FN (f_M_laying_l230_b v2 v3 v4 v5 v7 v8 v9 h)) (hl0 : ∀ (v8 : Int32) (v9 : Int32) (h : zm_H) (o1 : Option Value) (o6 : Option Value) (o10 : Option Value) (o11 : Option Value) (o12 : Option Value) (o13 : Option Value), zSh zT0 h → FN (0, v8, v9, h) → zg x (d + 4) 256 230 [some (.ref 92), o1, some (.int v2), some (.int v3), some (.int v4), some (.int v5), o6, some (.int v7), some (.int v8), some (.int v9), o10, o11, o12, o13] [] h Q) (hl1 : ∀ (v8 : Int32) (v9 : Int32) (h : zm_H) (o1 : Option Value) (o6 : Option Value) (o9 : Option Value) (o10 : Option Value) (o11 : Option Value) (o12 : Option Value) (o13 : Option Value), zSh zT0 h → FN (1, v8, v9, h) → zg x (d + 4) 256 444 [some (.ref 92), o1, some (.int v2), some (.int v3), some (.int v4), some (.int v5), o6, some (.int v7), some (.int v8), o9, o10, o11, o12, o13] [] h Q) : zg x (d + 4) 256 230 [some (.ref 92), o1, some (.int v2), some (.int v3), some (.int v4), some (.int v5), o6, some (.int v7), some (.int v8), some (.int v9), o10, o11, o12, o13] [] h Q := by
  unfold f_M_laying_l230_b at hF
  unfold f_M_laying_l230_b_ok at ho
  refine zg_blk zd_256 2 hs (rfl : zb x zT0 zc_256 2 (230, [some (.ref 92), o1, some (.int v2), some (.int v3), some (.int v4), some (.int v5), o6, some (.int v7), some (.int v8), some (.int v9), o10, o11, o12, o13], [], h) = some (234, [some (.ref 92), o1, some (.int v2), some (.int v3), some (.int v4), some (.int v5), o6, some (.int v7), some (.int v8), some (.int v9), o10, o11, o12, o13], [.int v7, .int v9], h)) (fun hs => ?_)
  refine zg_i_ge zd_256 rfl (fun (hc : (v7 ≤ v9)) => ?_) (fun (hc : ¬ (v7 ≤ v9)) => ?_)
  · have ho := ho.1 hc
    rw [if_pos hc] at hF
    exact hl1 v8 v9 h (o1) (o6) (some (.int v9)) (o10) (o11) (o12) (o13) hs hF
  · have ho := ho.2 hc
    rw [if_neg hc] at hF
    refine zg_blk zd_256 8 hs (rfl : zb x zT0 zc_256 8 (237, [some (.ref 92), o1, some (.int v2), some (.int v3), some (.int v4), some (.int v5), o6, some (.int v7), some (.int v8), some (.int v9), o10, o11, o12, o13], [], h) = some (249, [some (.ref 92), o1, some (.int v2), some (.int v3), some (.int v4), some (.int v5), o6, some (.int v7), some (.int v8), some (.int v9), some (.int v9), some (.int 1), some (.int (v2 - 1)), o13], [], h)) (fun hs => ?_)
    refine f_M_laying_l230_l249_t v2 v3 v4 v5 v7 v8 v9 (fun r => f_M_laying_l230_a249_ok v2 v3 v4 v5 v7 v8 v9 r ∧ FN (f_M_laying_l230_a249 v2 v3 v4 v5 v7 v8 v9 r)) ?_ zF v9 1 (v2 - 1) h (o1) (o6) (o13) hs ho.1 ⟨ho.2, hF⟩
    · intro v10_ v11_ v12_ h_ o1_ o6_ o10_ o12_ o13_ hs hG
      have ho : (f_M_laying_l230_k376_ok v2 v3 v4 v5 v7 v8 v9 v11_ h_) := hG.1
      have hF : FN ((f_M_laying_l230_k376 v2 v3 v4 v5 v7 v8 v9 v11_ h_)) := hG.2
      exact f_M_laying_l230_k376_t v2 v3 v4 v5 v7 v8 v9 v11_ h_ (o1_) (o6_) (o10_) (o12_) (o13_) hs ho hF hl0 hl1
theorem f_M_laying_l230_t {x : zm_X} {d : Nat} (v2 : Int32) (v3 : Int32) (v4 : Int32) (v5 : Int32) (v7 : Int32) {Q : Option Value → zm_H → Prop} (G : Nat × Int32 × Int32 × zm_H → Prop) (hx1 : ∀ (v8 : Int32) (v9 : Int32) (h : zm_H) (o1 : Option Value) (o6 : Option Value) (o9 : Option Value) (o10 : Option Value) (o11 : Option Value) (o12 : Option Value) (o13 : Option Value), zSh zT0 h → G (1, v8, v9, h) → zg x (d + 4) 256 444 [some (.ref 92), o1, some (.int v2), some (.int v3), some (.int v4), some (.int v5), o6, some (.int v7), some (.int v8), o9, o10, o11, o12, o13] [] h Q) : ∀ (n : Nat) (v8 : Int32) (v9 : Int32) (h : zm_H) (o1 : Option Value) (o6 : Option Value) (o10 : Option Value) (o11 : Option Value) (o12 : Option Value) (o13 : Option Value), zSh zT0 h → f_M_laying_l230_ok v2 v3 v4 v5 v7 n (v8, v9, h) → G (f_M_laying_l230 v2 v3 v4 v5 v7 n (v8, v9, h)) → zg x (d + 4) 256 230 [some (.ref 92), o1, some (.int v2), some (.int v3), some (.int v4), some (.int v5), o6, some (.int v7), some (.int v8), some (.int v9), o10, o11, o12, o13] [] h Q := by
  intro n
  induction n with
  | zero => intro v8 v9 h o1 o6 o10 o11 o12 o13 hs ho hG; exact ho.elim
  | succ n ih =>
    intro v8 v9 h o1 o6 o10 o11 o12 o13 hs ho hG
    refine f_M_laying_l230_b_t (FN := fun r => (r.1 = 0 → f_M_laying_l230_ok v2 v3 v4 v5 v7 n r.2) ∧ G (if r.1 = 0 then f_M_laying_l230 v2 v3 v4 v5 v7 n r.2 else r)) v2 v3 v4 v5 v7 v8 v9 h o1 o6 o10 o11 o12 o13 hs ho.1 ⟨ho.2, hG⟩ ?_ ?_
    · intro v8 v9 h o1 o6 o10 o11 o12 o13 hs hF
      exact ih v8 v9 h o1 o6 o10 o11 o12 o13 hs (hF.1 rfl) hF.2
    · intro v8 v9 h o1 o6 o9 o10 o11 o12 o13 hs hF
      exact hx1 v8 v9 h o1 o6 o9 o10 o11 o12 o13 hs hF.2

set_option maxRecDepth 100000 in
set_option maxHeartbeats 400000 in
theorem f_M_laying_k444_t {x : zm_X} {d : Nat} (v5 : Int32) (v8 : Int32) (h : zm_H) (o1 : Option Value) (o2 : Option Value) (o3 : Option Value) (o4 : Option Value) (o6 : Option Value) (o7 : Option Value) (o9 : Option Value) (o10 : Option Value) (o11 : Option Value) (o12 : Option Value) (o13 : Option Value) {Q : Option Value → zm_H → Prop} (hs : zSh zT0 h) (ho : f_M_laying_k444_ok v5 v8 h) (hF : (zSh zT0 (f_M_laying_k444 v5 v8 h).2 → Q (some (.int (f_M_laying_k444 v5 v8 h).1)) (f_M_laying_k444 v5 v8 h).2)) : zg x (d + 4) 256 444 [some (.ref 92), o1, o2, o3, o4, some (.int v5), o6, o7, some (.int v8), o9, o10, o11, o12, o13] [] h Q := by
  unfold f_M_laying_k444 at hF
  unfold f_M_laying_k444_ok at ho
  refine zg_blk zd_256 2 hs (rfl : zb x zT0 zc_256 2 (444, [some (.ref 92), o1, o2, o3, o4, some (.int v5), o6, o7, some (.int v8), o9, o10, o11, o12, o13], [], h) = some (447, [some (.ref 92), o1, o2, o3, o4, some (.int v5), o6, o7, some (.int v8), o9, o10, o11, o12, o13], [.int (-1), .int v8], h)) (fun hs => ?_)
  have hom := ho
  have K178 : zSh zT0 h → zg x (d + 4) 256 472 [some (.ref 92), o1, o2, o3, o4, some (.int v5), o6, o7, some (.int v8), o9, o10, o11, o12, o13] [.int (if (v8 = (-1)) then ((-1) : Int32) else (if (v5 = (-1)) then (v8 : Int32) else (zr h 161 v5)))] h Q := fun hs => by
    exact zg_ret zd_256 rfl rfl (hF hs)
  refine zg_i_ne zd_256 rfl (fun (hc : ¬ (v8 = (-1))) => ?_) (fun (hc : (v8 = (-1))) => ?_)
  · have ho := hom.2 hc
    rw [show ((if (v8 = (-1)) then ((-1) : Int32) else (if (v5 = (-1)) then (v8 : Int32) else (zr h 161 v5))) : Int32) = (if (v5 = (-1)) then (v8 : Int32) else (zr h 161 v5)) from if_neg hc] at K178
    refine zg_blk zd_256 2 hs (rfl : zb x zT0 zc_256 2 (454, [some (.ref 92), o1, o2, o3, o4, some (.int v5), o6, o7, some (.int v8), o9, o10, o11, o12, o13], [], h) = some (457, [some (.ref 92), o1, o2, o3, o4, some (.int v5), o6, o7, some (.int v8), o9, o10, o11, o12, o13], [.int (-1), .int v5], h)) (fun hs => ?_)
    refine zg_i_ne zd_256 rfl (fun (hc : ¬ (v5 = (-1))) => ?_) (fun (hc : (v5 = (-1))) => ?_)
    · have ho := ho.2 hc
      rw [show ((if (v5 = (-1)) then (v8 : Int32) else (zr h 161 v5)) : Int32) = (zr h 161 v5) from if_neg hc] at K178
      refine zg_blk zd_256 3 hs (rfl : zb x zT0 zc_256 3 (465, [some (.ref 92), o1, o2, o3, o4, some (.int v5), o6, o7, some (.int v8), o9, o10, o11, o12, o13], [], h) = some (471, [some (.ref 92), o1, o2, o3, o4, some (.int v5), o6, o7, some (.int v8), o9, o10, o11, o12, o13], [.int v5, .ref 161], h)) (fun hs => ?_)
      have hob := ho
      refine zg_ial hs zd_256 rfl rfl hob ?_
      exact K178 hs
    · have ho := ho.1 hc
      rw [show ((if (v5 = (-1)) then (v8 : Int32) else (zr h 161 v5)) : Int32) = v8 from if_pos hc] at K178
      refine zg_blk zd_256 2 hs (rfl : zb x zT0 zc_256 2 (460, [some (.ref 92), o1, o2, o3, o4, some (.int v5), o6, o7, some (.int v8), o9, o10, o11, o12, o13], [], h) = some (472, [some (.ref 92), o1, o2, o3, o4, some (.int v5), o6, o7, some (.int v8), o9, o10, o11, o12, o13], [.int v8], h)) (fun hs => ?_)
      exact K178 hs
  · have ho := hom.1 hc
    rw [show ((if (v8 = (-1)) then ((-1) : Int32) else (if (v5 = (-1)) then (v8 : Int32) else (zr h 161 v5))) : Int32) = (-1) from if_pos hc] at K178
    refine zg_blk zd_256 2 hs (rfl : zb x zT0 zc_256 2 (450, [some (.ref 92), o1, o2, o3, o4, some (.int v5), o6, o7, some (.int v8), o9, o10, o11, o12, o13], [], h) = some (472, [some (.ref 92), o1, o2, o3, o4, some (.int v5), o6, o7, some (.int v8), o9, o10, o11, o12, o13], [.int (-1)], h)) (fun hs => ?_)
    exact K178 hs
set_option maxRecDepth 100000 in
set_option maxHeartbeats 400000 in
theorem f_M_laying_k224_t {x : zm_X} {d : Nat} (v2 : Int32) (v3 : Int32) (v4 : Int32) (v5 : Int32) (v7 : Int32) (h : zm_H) (o1 : Option Value) (o6 : Option Value) (o8 : Option Value) (o9 : Option Value) (o10 : Option Value) (o11 : Option Value) (o12 : Option Value) (o13 : Option Value) {Q : Option Value → zm_H → Prop} (hs : zSh zT0 h) (ho : f_M_laying_k224_ok v2 v3 v4 v5 v7 h) (hF : (zSh zT0 (f_M_laying_k224 v2 v3 v4 v5 v7 h).2 → Q (some (.int (f_M_laying_k224 v2 v3 v4 v5 v7 h).1)) (f_M_laying_k224 v2 v3 v4 v5 v7 h).2)) : zg x (d + 4) 256 224 [some (.ref 92), o1, some (.int v2), some (.int v3), some (.int v4), some (.int v5), o6, some (.int v7), o8, o9, o10, o11, o12, o13] [] h Q := by
  unfold f_M_laying_k224 at hF
  unfold f_M_laying_k224_ok at ho
  refine zg_blk zd_256 4 hs (rfl : zb x zT0 zc_256 4 (224, [some (.ref 92), o1, some (.int v2), some (.int v3), some (.int v4), some (.int v5), o6, some (.int v7), o8, o9, o10, o11, o12, o13], [], h) = some (230, [some (.ref 92), o1, some (.int v2), some (.int v3), some (.int v4), some (.int v5), o6, some (.int v7), some (.int (-1)), some (.int 0), o10, o11, o12, o13], [], h)) (fun hs => ?_)
  refine f_M_laying_l230_t v2 v3 v4 v5 v7 (fun r => f_M_laying_a230_ok v5 r ∧ (zSh zT0 (f_M_laying_a230 v5 r).2 → Q (some (.int (f_M_laying_a230 v5 r).1)) (f_M_laying_a230 v5 r).2)) ?_ zF (-1) 0 h (o1) (o6) (o10) (o11) (o12) (o13) hs ho.1 ⟨ho.2, hF⟩
  · intro v8_ v9_ h_ o1_ o6_ o9_ o10_ o11_ o12_ o13_ hs hG
    have ho : (f_M_laying_k444_ok v5 v8_ h_) := hG.1
    have hF : (zSh zT0 ((f_M_laying_k444 v5 v8_ h_)).2 → Q (some (.int ((f_M_laying_k444 v5 v8_ h_)).1)) ((f_M_laying_k444 v5 v8_ h_)).2) := hG.2
    exact f_M_laying_k444_t v5 v8_ h_ (o1_) (some (.int v2)) (some (.int v3)) (some (.int v4)) (o6_) (some (.int v7)) (o9_) (o10_) (o11_) (o12_) (o13_) hs ho hF
set_option maxRecDepth 100000 in
set_option maxHeartbeats 400000 in
theorem f_M_laying_k190_t {x : zm_X} {d : Nat} (v2 : Int32) (v3 : Int32) (v4 : Int32) (v5 : Int32) (v6 : Int32) (h : zm_H) (o1 : Option Value) (o7 : Option Value) (o8 : Option Value) (o9 : Option Value) (o10 : Option Value) (o11 : Option Value) (o12 : Option Value) (o13 : Option Value) {Q : Option Value → zm_H → Prop} (hs : zSh zT0 h) (ho : f_M_laying_k190_ok v2 v3 v4 v5 v6 h) (hF : (zSh zT0 (f_M_laying_k190 v2 v3 v4 v5 v6 h).2 → Q (some (.int (f_M_laying_k190 v2 v3 v4 v5 v6 h).1)) (f_M_laying_k190 v2 v3 v4 v5 v6 h).2)) : zg x (d + 4) 256 190 [some (.ref 92), o1, some (.int v2), some (.int v3), some (.int v4), some (.int v5), some (.int v6), o7, o8, o9, o10, o11, o12, o13] [] h Q := by
  unfold f_M_laying_k190 at hF
  unfold f_M_laying_k190_ok at ho
  refine zg_blk zd_256 1 hs (rfl : zb x zT0 zc_256 1 (190, [some (.ref 92), o1, some (.int v2), some (.int v3), some (.int v4), some (.int v5), some (.int v6), o7, o8, o9, o10, o11, o12, o13], [], h) = some (192, [some (.ref 92), o1, some (.int v2), some (.int v3), some (.int v4), some (.int v5), some (.int v6), o7, o8, o9, o10, o11, o12, o13], [.int v6], h)) (fun hs => ?_)
  refine zg_f_le zd_256 rfl (fun (hc : (v6 ≤ 0)) => ?_) (fun (hc : ¬ (v6 ≤ 0)) => ?_)
  · have ho := ho.1 hc
    rw [if_pos hc] at hF
    refine zg_blk zd_256 4 hs (rfl : zb x zT0 zc_256 4 (197, [some (.ref 92), o1, some (.int v2), some (.int v3), some (.int v4), some (.int v5), some (.int v6), o7, o8, o9, o10, o11, o12, o13], [], h) = some (203, [some (.ref 92), o1, some (.int v2), some (.int v3), some (.int v4), some (.int v5), some (.int v6), some (.int 1), some (.int 0), o9, o10, o11, o12, o13], [], h)) (fun hs => ?_)
    refine f_M_laying_l203_t v2 v3 v4 v5 v6 h (fun r => f_M_laying_a203_ok v2 v3 v4 v5 r h ∧ (zSh zT0 (f_M_laying_a203 v2 v3 v4 v5 r h).2 → Q (some (.int (f_M_laying_a203 v2 v3 v4 v5 r h).1)) (f_M_laying_a203 v2 v3 v4 v5 r h).2)) ?_ zF 1 0 (o1) (o9) (o10) (o11) (o12) (o13) hs ho.1 ⟨ho.2, hF⟩
    · intro v7_ v8_ o1_ o8_ o9_ o10_ o11_ o12_ o13_ hs hG
      have ho : (f_M_laying_k224_ok v2 v3 v4 v5 v7_ h) := hG.1
      have hF : (zSh zT0 ((f_M_laying_k224 v2 v3 v4 v5 v7_ h)).2 → Q (some (.int ((f_M_laying_k224 v2 v3 v4 v5 v7_ h)).1)) ((f_M_laying_k224 v2 v3 v4 v5 v7_ h)).2) := hG.2
      exact f_M_laying_k224_t v2 v3 v4 v5 v7_ h (o1_) (some (.int v6)) (o8_) (o9_) (o10_) (o11_) (o12_) (o13_) hs ho hF
  · have ho := ho.2 hc
    rw [if_neg hc] at hF
    refine zg_blk zd_256 1 hs (rfl : zb x zT0 zc_256 1 (195, [some (.ref 92), o1, some (.int v2), some (.int v3), some (.int v4), some (.int v5), some (.int v6), o7, o8, o9, o10, o11, o12, o13], [], h) = some (196, [some (.ref 92), o1, some (.int v2), some (.int v3), some (.int v4), some (.int v5), some (.int v6), o7, o8, o9, o10, o11, o12, o13], [.int (-1)], h)) (fun hs => ?_)
    exact zg_ret zd_256 rfl rfl (hF hs)
set_option maxRecDepth 100000 in
set_option maxHeartbeats 400000 in
theorem f_M_laying_t {x : zm_X} {d : Nat} (p1 : Int32) (p2 : Int32) (p3 : Int32) (p4 : Int32) (p5 : Int32) (h : zm_H) {Q : Option Value → zm_H → Prop} (hs : zSh zT0 h) (ho : f_M_laying_ok p1 p2 p3 p4 p5 h) (hF : (zSh zT0 (f_M_laying p1 p2 p3 p4 p5 h).2 → Q (some (.int (f_M_laying p1 p2 p3 p4 p5 h).1)) (f_M_laying p1 p2 p3 p4 p5 h).2)) : zg x (d + 4) 256 0 [some (.ref 92), some (.int p1), some (.int p2), some (.int p3), some (.int p4), some (.int p5), none, none, none, none, none, none, none, none] [] h Q := by
  unfold f_M_laying at hF
  unfold f_M_laying_ok at ho
  refine zg_blk zd_256 1 hs (rfl : zb x zT0 zc_256 1 (0, [some (.ref 92), some (.int p1), some (.int p2), some (.int p3), some (.int p4), some (.int p5), none, none, none, none, none, none, none, none], [], h) = some (1, [some (.ref 92), some (.int p1), some (.int p2), some (.int p3), some (.int p4), some (.int p5), none, none, none, none, none, none, none, none], [.int p1], h)) (fun hs => ?_)
  refine zg_f_lt zd_256 rfl (fun (hc : (p1 < 0)) => ?_) (fun (hc : ¬ (p1 < 0)) => ?_)
  · have ho := ho.1 hc
    rw [if_pos hc] at hF
    refine zg_blk zd_256 1 hs (rfl : zb x zT0 zc_256 1 (82, [some (.ref 92), some (.int p1), some (.int p2), some (.int p3), some (.int p4), some (.int p5), none, none, none, none, none, none, none, none], [], h) = some (83, [some (.ref 92), some (.int p1), some (.int p2), some (.int p3), some (.int p4), some (.int p5), none, none, none, none, none, none, none, none], [.int (-1)], h)) (fun hs => ?_)
    exact zg_ret zd_256 rfl rfl (hF hs)
  · have ho := ho.2 hc
    rw [if_neg hc] at hF
    refine zg_blk zd_256 3 hs (rfl : zb x zT0 zc_256 3 (4, [some (.ref 92), some (.int p1), some (.int p2), some (.int p3), some (.int p4), some (.int p5), none, none, none, none, none, none, none, none], [], h) = some (7, [some (.ref 92), some (.int p1), some (.int p2), some (.int p3), some (.int p4), some (.int p5), none, none, none, none, none, none, none, none], [.int 3, .int 1, .int p2], h)) (fun hs => ?_)
    refine zg_call hs zd_256 rfl rfl rfl rfl (as := [.int p2, .int 1, .int 3]) (rest := []) (en := [some (.int p2), some (.int 1), some (.int 3)]) rfl rfl rfl rfl rfl ?_
    refine f_M_in_t p2 1 3 h hs trivial ?_
    show zg x (d + 4) 256 10 [some (.ref 92), some (.int p1), some (.int p2), some (.int p3), some (.int p4), some (.int p5), none, none, none, none, none, none, none, none] [.int (if (¬ (p2 < 1) ∧ (¬ (3 < p2))) then (1 : Int32) else 0)] h Q
    refine zg_b_eq zd_256 rfl (fun (hc : ¬ (¬ (p2 < 1) ∧ (¬ (3 < p2)))) => ?_) (fun (hc : (¬ (p2 < 1) ∧ (¬ (3 < p2)))) => ?_)
    · have ho := ho.2 hc
      rw [if_neg hc] at hF
      refine zg_blk zd_256 1 hs (rfl : zb x zT0 zc_256 1 (82, [some (.ref 92), some (.int p1), some (.int p2), some (.int p3), some (.int p4), some (.int p5), none, none, none, none, none, none, none, none], [], h) = some (83, [some (.ref 92), some (.int p1), some (.int p2), some (.int p3), some (.int p4), some (.int p5), none, none, none, none, none, none, none, none], [.int (-1)], h)) (fun hs => ?_)
      exact zg_ret zd_256 rfl rfl (hF hs)
    · have ho := ho.1 hc
      rw [if_pos hc] at hF
      refine zg_blk zd_256 1 hs (rfl : zb x zT0 zc_256 1 (13, [some (.ref 92), some (.int p1), some (.int p2), some (.int p3), some (.int p4), some (.int p5), none, none, none, none, none, none, none, none], [], h) = some (14, [some (.ref 92), some (.int p1), some (.int p2), some (.int p3), some (.int p4), some (.int p5), none, none, none, none, none, none, none, none], [.int p3], h)) (fun hs => ?_)
      refine zg_f_lt zd_256 rfl (fun (hc : (p3 < 0)) => ?_) (fun (hc : ¬ (p3 < 0)) => ?_)
      · have ho := ho.1 hc
        rw [if_pos hc] at hF
        refine zg_blk zd_256 1 hs (rfl : zb x zT0 zc_256 1 (82, [some (.ref 92), some (.int p1), some (.int p2), some (.int p3), some (.int p4), some (.int p5), none, none, none, none, none, none, none, none], [], h) = some (83, [some (.ref 92), some (.int p1), some (.int p2), some (.int p3), some (.int p4), some (.int p5), none, none, none, none, none, none, none, none], [.int (-1)], h)) (fun hs => ?_)
        exact zg_ret zd_256 rfl rfl (hF hs)
      · have ho := ho.2 hc
        rw [if_neg hc] at hF
        refine zg_blk zd_256 3 hs (rfl : zb x zT0 zc_256 3 (17, [some (.ref 92), some (.int p1), some (.int p2), some (.int p3), some (.int p4), some (.int p5), none, none, none, none, none, none, none, none], [], h) = some (22, [some (.ref 92), some (.int p1), some (.int p2), some (.int p3), some (.int p4), some (.int p5), none, none, none, none, none, none, none, none], [.int (p3 / 1000)], h)) (fun hs => ?_)
        refine zg_call hs zd_256 rfl rfl rfl rfl (as := [.int (p3 / 1000)]) (rest := []) (en := [some (.int (p3 / 1000))]) rfl rfl rfl rfl rfl ?_
        refine f_M_isSpell_t (p3 / 1000) h hs trivial ?_
        show zg x (d + 4) 256 25 [some (.ref 92), some (.int p1), some (.int p2), some (.int p3), some (.int p4), some (.int p5), none, none, none, none, none, none, none, none] [.int (if (¬ ((p3 / 1000) < 0) ∧ (¬ (479 < (p3 / 1000)))) then (1 : Int32) else 0)] h Q
        refine zg_b_eq zd_256 rfl (fun (hc : ¬ (¬ ((p3 / 1000) < 0) ∧ (¬ (479 < (p3 / 1000))))) => ?_) (fun (hc : (¬ ((p3 / 1000) < 0) ∧ (¬ (479 < (p3 / 1000))))) => ?_)
        · have ho := ho.2 hc
          rw [if_neg hc] at hF
          refine zg_blk zd_256 1 hs (rfl : zb x zT0 zc_256 1 (82, [some (.ref 92), some (.int p1), some (.int p2), some (.int p3), some (.int p4), some (.int p5), none, none, none, none, none, none, none, none], [], h) = some (83, [some (.ref 92), some (.int p1), some (.int p2), some (.int p3), some (.int p4), some (.int p5), none, none, none, none, none, none, none, none], [.int (-1)], h)) (fun hs => ?_)
          exact zg_ret zd_256 rfl rfl (hF hs)
        · have ho := ho.1 hc
          rw [if_pos hc] at hF
          refine zg_blk zd_256 3 hs (rfl : zb x zT0 zc_256 3 (28, [some (.ref 92), some (.int p1), some (.int p2), some (.int p3), some (.int p4), some (.int p5), none, none, none, none, none, none, none, none], [], h) = some (33, [some (.ref 92), some (.int p1), some (.int p2), some (.int p3), some (.int p4), some (.int p5), none, none, none, none, none, none, none, none], [.int (zm_rm p3 1000)], h)) (fun hs => ?_)
          refine zg_call hs zd_256 rfl rfl rfl rfl (as := [.int (zm_rm p3 1000)]) (rest := []) (en := [some (.int (zm_rm p3 1000))]) rfl rfl rfl rfl rfl ?_
          refine f_M_isSpell_t (zm_rm p3 1000) h hs trivial ?_
          show zg x (d + 4) 256 36 [some (.ref 92), some (.int p1), some (.int p2), some (.int p3), some (.int p4), some (.int p5), none, none, none, none, none, none, none, none] [.int (if (¬ ((zm_rm p3 1000) < 0) ∧ (¬ (479 < (zm_rm p3 1000)))) then (1 : Int32) else 0)] h Q
          refine zg_b_eq zd_256 rfl (fun (hc : ¬ (¬ ((zm_rm p3 1000) < 0) ∧ (¬ (479 < (zm_rm p3 1000))))) => ?_) (fun (hc : (¬ ((zm_rm p3 1000) < 0) ∧ (¬ (479 < (zm_rm p3 1000))))) => ?_)
          · have ho := ho.2 hc
            rw [if_neg hc] at hF
            refine zg_blk zd_256 1 hs (rfl : zb x zT0 zc_256 1 (82, [some (.ref 92), some (.int p1), some (.int p2), some (.int p3), some (.int p4), some (.int p5), none, none, none, none, none, none, none, none], [], h) = some (83, [some (.ref 92), some (.int p1), some (.int p2), some (.int p3), some (.int p4), some (.int p5), none, none, none, none, none, none, none, none], [.int (-1)], h)) (fun hs => ?_)
            exact zg_ret zd_256 rfl rfl (hF hs)
          · have ho := ho.1 hc
            rw [if_pos hc] at hF
            refine zg_blk zd_256 9 hs (rfl : zb x zT0 zc_256 9 (39, [some (.ref 92), some (.int p1), some (.int p2), some (.int p3), some (.int p4), some (.int p5), none, none, none, none, none, none, none, none], [], h) = some (53, [some (.ref 92), some (.int p1), some (.int p2), some (.int p3), some (.int p4), some (.int p5), none, none, none, none, none, none, none, none], [.int 23, .int 0, .int ((zm_rm p3 1000) - (p3 / 1000))], h)) (fun hs => ?_)
            refine zg_call hs zd_256 rfl rfl rfl rfl (as := [.int ((zm_rm p3 1000) - (p3 / 1000)), .int 0, .int 23]) (rest := []) (en := [some (.int ((zm_rm p3 1000) - (p3 / 1000))), some (.int 0), some (.int 23)]) rfl rfl rfl rfl rfl ?_
            refine f_M_in_t ((zm_rm p3 1000) - (p3 / 1000)) 0 23 h hs trivial ?_
            show zg x (d + 4) 256 56 [some (.ref 92), some (.int p1), some (.int p2), some (.int p3), some (.int p4), some (.int p5), none, none, none, none, none, none, none, none] [.int (if (¬ (((zm_rm p3 1000) - (p3 / 1000)) < 0) ∧ (¬ (23 < ((zm_rm p3 1000) - (p3 / 1000))))) then (1 : Int32) else 0)] h Q
            refine zg_b_eq zd_256 rfl (fun (hc : ¬ (¬ (((zm_rm p3 1000) - (p3 / 1000)) < 0) ∧ (¬ (23 < ((zm_rm p3 1000) - (p3 / 1000)))))) => ?_) (fun (hc : (¬ (((zm_rm p3 1000) - (p3 / 1000)) < 0) ∧ (¬ (23 < ((zm_rm p3 1000) - (p3 / 1000)))))) => ?_)
            · have ho := ho.2 hc
              rw [if_neg hc] at hF
              refine zg_blk zd_256 1 hs (rfl : zb x zT0 zc_256 1 (82, [some (.ref 92), some (.int p1), some (.int p2), some (.int p3), some (.int p4), some (.int p5), none, none, none, none, none, none, none, none], [], h) = some (83, [some (.ref 92), some (.int p1), some (.int p2), some (.int p3), some (.int p4), some (.int p5), none, none, none, none, none, none, none, none], [.int (-1)], h)) (fun hs => ?_)
              exact zg_ret zd_256 rfl rfl (hF hs)
            · have ho := ho.1 hc
              rw [if_pos hc] at hF
              refine zg_blk zd_256 3 hs (rfl : zb x zT0 zc_256 3 (59, [some (.ref 92), some (.int p1), some (.int p2), some (.int p3), some (.int p4), some (.int p5), none, none, none, none, none, none, none, none], [], h) = some (64, [some (.ref 92), some (.int p1), some (.int p2), some (.int p3), some (.int p4), some (.int p5), none, none, none, none, none, none, none, none], [.int 100, .int 0, .int p4], h)) (fun hs => ?_)
              refine zg_call hs zd_256 rfl rfl rfl rfl (as := [.int p4, .int 0, .int 100]) (rest := []) (en := [some (.int p4), some (.int 0), some (.int 100)]) rfl rfl rfl rfl rfl ?_
              refine f_M_in_t p4 0 100 h hs trivial ?_
              show zg x (d + 4) 256 67 [some (.ref 92), some (.int p1), some (.int p2), some (.int p3), some (.int p4), some (.int p5), none, none, none, none, none, none, none, none] [.int (if (¬ (p4 < 0) ∧ (¬ (100 < p4))) then (1 : Int32) else 0)] h Q
              refine zg_b_eq zd_256 rfl (fun (hc : ¬ (¬ (p4 < 0) ∧ (¬ (100 < p4)))) => ?_) (fun (hc : (¬ (p4 < 0) ∧ (¬ (100 < p4)))) => ?_)
              · have ho := ho.2 hc
                rw [if_neg hc] at hF
                refine zg_blk zd_256 1 hs (rfl : zb x zT0 zc_256 1 (82, [some (.ref 92), some (.int p1), some (.int p2), some (.int p3), some (.int p4), some (.int p5), none, none, none, none, none, none, none, none], [], h) = some (83, [some (.ref 92), some (.int p1), some (.int p2), some (.int p3), some (.int p4), some (.int p5), none, none, none, none, none, none, none, none], [.int (-1)], h)) (fun hs => ?_)
                exact zg_ret zd_256 rfl rfl (hF hs)
              · have ho := ho.1 hc
                rw [if_pos hc] at hF
                refine zg_blk zd_256 5 hs (rfl : zb x zT0 zc_256 5 (70, [some (.ref 92), some (.int p1), some (.int p2), some (.int p3), some (.int p4), some (.int p5), none, none, none, none, none, none, none, none], [], h) = some (76, [some (.ref 92), some (.int p1), some (.int p2), some (.int p3), some (.int p4), some (.int p5), none, none, none, none, none, none, none, none], [.int (p2 - 1), .int (-1), .int p5], h)) (fun hs => ?_)
                refine zg_call hs zd_256 rfl rfl rfl rfl (as := [.int p5, .int (-1), .int (p2 - 1)]) (rest := []) (en := [some (.int p5), some (.int (-1)), some (.int (p2 - 1))]) rfl rfl rfl rfl rfl ?_
                refine f_M_in_t p5 (-1) (p2 - 1) h hs trivial ?_
                show zg x (d + 4) 256 79 [some (.ref 92), some (.int p1), some (.int p2), some (.int p3), some (.int p4), some (.int p5), none, none, none, none, none, none, none, none] [.int (if (¬ (p5 < (-1)) ∧ (¬ ((p2 - 1) < p5))) then (1 : Int32) else 0)] h Q
                refine zg_b_ne zd_256 rfl (fun (hc : (¬ (p5 < (-1)) ∧ (¬ ((p2 - 1) < p5)))) => ?_) (fun (hc : ¬ (¬ (p5 < (-1)) ∧ (¬ ((p2 - 1) < p5)))) => ?_)
                · have ho := ho.1 hc
                  rw [if_pos hc] at hF
                  refine zg_blk zd_256 6 hs (rfl : zb x zT0 zc_256 6 (84, [some (.ref 92), some (.int p1), some (.int p2), some (.int p3), some (.int p4), some (.int p5), none, none, none, none, none, none, none, none], [], h) = some (92, [some (.ref 92), some (.int p1), some (.int p2), some (.int p3), some (.int p4), some (.int p5), some (.int p1), some (.int (p2 - 1)), none, none, none, none, none, none], [], h)) (fun hs => ?_)
                  refine f_M_laying_l92_t p2 p3 p4 p5 (fun r => f_M_laying_a92_ok p2 p3 p4 p5 r ∧ (zSh zT0 (f_M_laying_a92 p2 p3 p4 p5 r).2 → Q (some (.int (f_M_laying_a92 p2 p3 p4 p5 r).1)) (f_M_laying_a92 p2 p3 p4 p5 r).2)) ?_ ?_ ?_ zF p1 (p2 - 1) h (some (.int p1)) (none) (none) (none) (none) (none) (none) hs ho.1 ⟨ho.2, hF⟩
                  · intro v6_ v7_ h_ o1_ o6_ o7_ o8_ o9_ o10_ o11_ o12_ o13_ hs hG
                    have ho : True := trivial
                    have hF : (zSh zT0 ((f_M_laying_k145 h_)).2 → Q (some (.int ((f_M_laying_k145 h_)).1)) ((f_M_laying_k145 h_)).2) := hG.2
                    exact f_M_laying_k145_t h_ (some (.ref 92)) (o1_) (some (.int p2)) (some (.int p3)) (some (.int p4)) p5 (o6_) (o7_) (o8_) (o9_) (o10_) (o11_) (o12_) (o13_) hs trivial hF
                  · intro v6_ v7_ h_ o1_ o6_ o7_ o8_ o9_ o10_ o11_ o12_ o13_ hs hG
                    have ho : True := trivial
                    have hF : (zSh zT0 ((f_M_laying_k176 h_)).2 → Q (some (.int ((f_M_laying_k176 h_)).1)) ((f_M_laying_k176 h_)).2) := hG.2
                    exact f_M_laying_k176_t h_ (some (.ref 92)) (o1_) (some (.int p2)) (some (.int p3)) (some (.int p4)) p5 (o6_) (o7_) (o8_) (o9_) (o10_) (o11_) (o12_) (o13_) hs trivial hF
                  · intro v6_ v7_ h_ o1_ o7_ o8_ o9_ o10_ o11_ o12_ o13_ hs hG
                    have ho : (f_M_laying_k190_ok p2 p3 p4 p5 v6_ h_) := ((hG.1).2 (show ¬ (3 : Nat) = 1 by decide)).2 (show ¬ (3 : Nat) = 2 by decide)
                    have hF : (zSh zT0 ((f_M_laying_k190 p2 p3 p4 p5 v6_ h_)).2 → Q (some (.int ((f_M_laying_k190 p2 p3 p4 p5 v6_ h_)).1)) ((f_M_laying_k190 p2 p3 p4 p5 v6_ h_)).2) := hG.2
                    exact f_M_laying_k190_t p2 p3 p4 p5 v6_ h_ (o1_) (o7_) (o8_) (o9_) (o10_) (o11_) (o12_) (o13_) hs ho hF
                · have ho := ho.2 hc
                  rw [if_neg hc] at hF
                  refine zg_blk zd_256 1 hs (rfl : zb x zT0 zc_256 1 (82, [some (.ref 92), some (.int p1), some (.int p2), some (.int p3), some (.int p4), some (.int p5), none, none, none, none, none, none, none, none], [], h) = some (83, [some (.ref 92), some (.int p1), some (.int p2), some (.int p3), some (.int p4), some (.int p5), none, none, none, none, none, none, none, none], [.int (-1)], h)) (fun hs => ?_)
                  exact zg_ret zd_256 rfl rfl (hF hs)
theorem zd_165 : zm_cd 165 = zc_165 := by rfl
set_option maxRecDepth 100000 in
set_option maxHeartbeats 400000 in
theorem f_N_blame_t {x : zm_X} {d : Nat} (p1 : Int32) (p2 : Int32) (h : zm_H) {Q : Option Value → zm_H → Prop} (hs : zSh zT0 h) (ho : f_N_blame_ok p1 p2 h) (hF : Q (some (.int (f_N_blame p1 p2 h))) h) : zg x (d + 5) 165 0 [some (.ref 0), some (.int p1), some (.int p2), none] [] h Q := by
  unfold f_N_blame at hF
  unfold f_N_blame_ok at ho
  refine zg_blk zd_165 2 hs (rfl : zb x zT0 zc_165 2 (0, [some (.ref 0), some (.int p1), some (.int p2), none], [], h) = some (2, [some (.ref 0), some (.int p1), some (.int p2), none], [.int p1, .ref 0], h)) (fun hs => ?_)
  refine zg_call hs zd_165 rfl rfl rfl rfl (as := [.ref 0, .int p1]) (rest := []) (en := [some (.ref 0), some (.int p1)]) rfl rfl rfl rfl rfl ?_
  refine f_N_isRaft_t p1 h hs trivial ?_
  show zg x (d + 5) 165 5 [some (.ref 0), some (.int p1), some (.int p2), none] [.int (if (¬ (p1 < 0) ∧ (¬ ((zf h 23 0) ≤ p1))) then (1 : Int32) else 0)] h Q
  refine zg_b_eq zd_165 rfl (fun (hc : ¬ (¬ (p1 < 0) ∧ (¬ ((zf h 23 0) ≤ p1)))) => ?_) (fun (hc : (¬ (p1 < 0) ∧ (¬ ((zf h 23 0) ≤ p1)))) => ?_)
  · have ho := ho.2 hc
    rw [show ((if (¬ (p1 < 0) ∧ (¬ ((zf h 23 0) ≤ p1))) then ((if (p2 < 0) then ((-1) : Int32) else (if (p2 < 3) then ((if (¬ ((zr h 45 ((p1 * 3) + p2)) < 0) ∧ (¬ (480 ≤ (zr h 45 ((p1 * 3) + p2))))) then ((if (((f_Swell_lookNow (zr h 45 ((p1 * 3) + p2)) h) / 1000) ≤ (zf h 0 2)) then ((if ((zr h 44 ((p1 * 3) + p2)) ≤ ((100 * (zr h 43 ((p1 * 3) + p2))) / 3)) then (0 : Int32) else 2) : Int32) else 1) : Int32) else (-1)) : Int32) else (-1))) : Int32) else (-1)) : Int32) = (-1) from if_neg hc] at hF
    refine zg_blk zd_165 1 hs (rfl : zb x zT0 zc_165 1 (17, [some (.ref 0), some (.int p1), some (.int p2), none], [], h) = some (18, [some (.ref 0), some (.int p1), some (.int p2), none], [.int (-1)], h)) (fun hs => ?_)
    exact zg_ret zd_165 rfl rfl hF
  · have ho := ho.1 hc
    rw [show ((if (¬ (p1 < 0) ∧ (¬ ((zf h 23 0) ≤ p1))) then ((if (p2 < 0) then ((-1) : Int32) else (if (p2 < 3) then ((if (¬ ((zr h 45 ((p1 * 3) + p2)) < 0) ∧ (¬ (480 ≤ (zr h 45 ((p1 * 3) + p2))))) then ((if (((f_Swell_lookNow (zr h 45 ((p1 * 3) + p2)) h) / 1000) ≤ (zf h 0 2)) then ((if ((zr h 44 ((p1 * 3) + p2)) ≤ ((100 * (zr h 43 ((p1 * 3) + p2))) / 3)) then (0 : Int32) else 2) : Int32) else 1) : Int32) else (-1)) : Int32) else (-1))) : Int32) else (-1)) : Int32) = (if (p2 < 0) then ((-1) : Int32) else (if (p2 < 3) then ((if (¬ ((zr h 45 ((p1 * 3) + p2)) < 0) ∧ (¬ (480 ≤ (zr h 45 ((p1 * 3) + p2))))) then ((if (((f_Swell_lookNow (zr h 45 ((p1 * 3) + p2)) h) / 1000) ≤ (zf h 0 2)) then ((if ((zr h 44 ((p1 * 3) + p2)) ≤ ((100 * (zr h 43 ((p1 * 3) + p2))) / 3)) then (0 : Int32) else 2) : Int32) else 1) : Int32) else (-1)) : Int32) else (-1))) from if_pos hc] at hF
    refine zg_blk zd_165 1 hs (rfl : zb x zT0 zc_165 1 (8, [some (.ref 0), some (.int p1), some (.int p2), none], [], h) = some (9, [some (.ref 0), some (.int p1), some (.int p2), none], [.int p2], h)) (fun hs => ?_)
    refine zg_f_lt zd_165 rfl (fun (hc : (p2 < 0)) => ?_) (fun (hc : ¬ (p2 < 0)) => ?_)
    · have ho := ho.1 hc
      rw [show ((if (p2 < 0) then ((-1) : Int32) else (if (p2 < 3) then ((if (¬ ((zr h 45 ((p1 * 3) + p2)) < 0) ∧ (¬ (480 ≤ (zr h 45 ((p1 * 3) + p2))))) then ((if (((f_Swell_lookNow (zr h 45 ((p1 * 3) + p2)) h) / 1000) ≤ (zf h 0 2)) then ((if ((zr h 44 ((p1 * 3) + p2)) ≤ ((100 * (zr h 43 ((p1 * 3) + p2))) / 3)) then (0 : Int32) else 2) : Int32) else 1) : Int32) else (-1)) : Int32) else (-1))) : Int32) = (-1) from if_pos hc] at hF
      refine zg_blk zd_165 1 hs (rfl : zb x zT0 zc_165 1 (17, [some (.ref 0), some (.int p1), some (.int p2), none], [], h) = some (18, [some (.ref 0), some (.int p1), some (.int p2), none], [.int (-1)], h)) (fun hs => ?_)
      exact zg_ret zd_165 rfl rfl hF
    · have ho := ho.2 hc
      rw [show ((if (p2 < 0) then ((-1) : Int32) else (if (p2 < 3) then ((if (¬ ((zr h 45 ((p1 * 3) + p2)) < 0) ∧ (¬ (480 ≤ (zr h 45 ((p1 * 3) + p2))))) then ((if (((f_Swell_lookNow (zr h 45 ((p1 * 3) + p2)) h) / 1000) ≤ (zf h 0 2)) then ((if ((zr h 44 ((p1 * 3) + p2)) ≤ ((100 * (zr h 43 ((p1 * 3) + p2))) / 3)) then (0 : Int32) else 2) : Int32) else 1) : Int32) else (-1)) : Int32) else (-1))) : Int32) = (if (p2 < 3) then ((if (¬ ((zr h 45 ((p1 * 3) + p2)) < 0) ∧ (¬ (480 ≤ (zr h 45 ((p1 * 3) + p2))))) then ((if (((f_Swell_lookNow (zr h 45 ((p1 * 3) + p2)) h) / 1000) ≤ (zf h 0 2)) then ((if ((zr h 44 ((p1 * 3) + p2)) ≤ ((100 * (zr h 43 ((p1 * 3) + p2))) / 3)) then (0 : Int32) else 2) : Int32) else 1) : Int32) else (-1)) : Int32) else (-1)) from if_neg hc] at hF
      refine zg_blk zd_165 2 hs (rfl : zb x zT0 zc_165 2 (12, [some (.ref 0), some (.int p1), some (.int p2), none], [], h) = some (14, [some (.ref 0), some (.int p1), some (.int p2), none], [.int 3, .int p2], h)) (fun hs => ?_)
      refine zg_i_lt zd_165 rfl (fun (hc : (p2 < 3)) => ?_) (fun (hc : ¬ (p2 < 3)) => ?_)
      · have ho := ho.1 hc
        rw [show ((if (p2 < 3) then ((if (¬ ((zr h 45 ((p1 * 3) + p2)) < 0) ∧ (¬ (480 ≤ (zr h 45 ((p1 * 3) + p2))))) then ((if (((f_Swell_lookNow (zr h 45 ((p1 * 3) + p2)) h) / 1000) ≤ (zf h 0 2)) then ((if ((zr h 44 ((p1 * 3) + p2)) ≤ ((100 * (zr h 43 ((p1 * 3) + p2))) / 3)) then (0 : Int32) else 2) : Int32) else 1) : Int32) else (-1)) : Int32) else (-1)) : Int32) = (if (¬ ((zr h 45 ((p1 * 3) + p2)) < 0) ∧ (¬ (480 ≤ (zr h 45 ((p1 * 3) + p2))))) then ((if (((f_Swell_lookNow (zr h 45 ((p1 * 3) + p2)) h) / 1000) ≤ (zf h 0 2)) then ((if ((zr h 44 ((p1 * 3) + p2)) ≤ ((100 * (zr h 43 ((p1 * 3) + p2))) / 3)) then (0 : Int32) else 2) : Int32) else 1) : Int32) else (-1)) from if_pos hc] at hF
        refine zg_blk zd_165 8 hs (rfl : zb x zT0 zc_165 8 (19, [some (.ref 0), some (.int p1), some (.int p2), none], [], h) = some (31, [some (.ref 0), some (.int p1), some (.int p2), none], [.int ((p1 * 3) + p2), .ref 45], h)) (fun hs => ?_)
        obtain ⟨hob, ho⟩ := ho
        refine zg_ial hs zd_165 rfl rfl hob ?_
        refine zg_blk zd_165 2 hs (rfl : zb x zT0 zc_165 2 (32, [some (.ref 0), some (.int p1), some (.int p2), none], [.int (zr h 45 ((p1 * 3) + p2))], h) = some (34, [some (.ref 0), some (.int p1), some (.int p2), some (.int (zr h 45 ((p1 * 3) + p2)))], [.int (zr h 45 ((p1 * 3) + p2))], h)) (fun hs => ?_)
        refine zg_call hs zd_165 rfl rfl rfl rfl (as := [.int (zr h 45 ((p1 * 3) + p2))]) (rest := []) (en := [some (.int (zr h 45 ((p1 * 3) + p2)))]) rfl rfl rfl rfl rfl ?_
        refine f_N_isSpell_t (zr h 45 ((p1 * 3) + p2)) h hs trivial ?_
        show zg x (d + 5) 165 37 [some (.ref 0), some (.int p1), some (.int p2), some (.int (zr h 45 ((p1 * 3) + p2)))] [.int (if (¬ ((zr h 45 ((p1 * 3) + p2)) < 0) ∧ (¬ (480 ≤ (zr h 45 ((p1 * 3) + p2))))) then (1 : Int32) else 0)] h Q
        refine zg_b_ne zd_165 rfl (fun (hc : (¬ ((zr h 45 ((p1 * 3) + p2)) < 0) ∧ (¬ (480 ≤ (zr h 45 ((p1 * 3) + p2)))))) => ?_) (fun (hc : ¬ (¬ ((zr h 45 ((p1 * 3) + p2)) < 0) ∧ (¬ (480 ≤ (zr h 45 ((p1 * 3) + p2)))))) => ?_)
        · have ho := ho.1 hc
          rw [show ((if (¬ ((zr h 45 ((p1 * 3) + p2)) < 0) ∧ (¬ (480 ≤ (zr h 45 ((p1 * 3) + p2))))) then ((if (((f_Swell_lookNow (zr h 45 ((p1 * 3) + p2)) h) / 1000) ≤ (zf h 0 2)) then ((if ((zr h 44 ((p1 * 3) + p2)) ≤ ((100 * (zr h 43 ((p1 * 3) + p2))) / 3)) then (0 : Int32) else 2) : Int32) else 1) : Int32) else (-1)) : Int32) = (if (((f_Swell_lookNow (zr h 45 ((p1 * 3) + p2)) h) / 1000) ≤ (zf h 0 2)) then ((if ((zr h 44 ((p1 * 3) + p2)) ≤ ((100 * (zr h 43 ((p1 * 3) + p2))) / 3)) then (0 : Int32) else 2) : Int32) else 1) from if_pos hc] at hF
          refine zg_blk zd_165 3 hs (rfl : zb x zT0 zc_165 3 (42, [some (.ref 0), some (.int p1), some (.int p2), some (.int (zr h 45 ((p1 * 3) + p2)))], [], h) = some (47, [some (.ref 0), some (.int p1), some (.int p2), some (.int (zr h 45 ((p1 * 3) + p2)))], [.int (zr h 45 ((p1 * 3) + p2)), .ref 1], h)) (fun hs => ?_)
          obtain ⟨hob, ho⟩ := ho
          refine zg_call hs zd_165 rfl rfl rfl rfl (as := [.ref 1, .int (zr h 45 ((p1 * 3) + p2))]) (rest := []) (en := [some (.ref 1), some (.int (zr h 45 ((p1 * 3) + p2)))]) rfl rfl rfl rfl rfl ?_
          refine f_Swell_lookNow_t (zr h 45 ((p1 * 3) + p2)) h hs hob ?_
          show zg x (d + 5) 165 50 [some (.ref 0), some (.int p1), some (.int p2), some (.int (zr h 45 ((p1 * 3) + p2)))] [.int (f_Swell_lookNow (zr h 45 ((p1 * 3) + p2)) h)] h Q
          refine zg_call hs zd_165 rfl rfl rfl rfl (as := [.int (f_Swell_lookNow (zr h 45 ((p1 * 3) + p2)) h)]) (rest := []) (en := [some (.int (f_Swell_lookNow (zr h 45 ((p1 * 3) + p2)) h))]) rfl rfl rfl rfl rfl ?_
          refine f_N_heightOf_t (f_Swell_lookNow (zr h 45 ((p1 * 3) + p2)) h) h hs trivial ?_
          show zg x (d + 5) 165 53 [some (.ref 0), some (.int p1), some (.int p2), some (.int (zr h 45 ((p1 * 3) + p2)))] [.int ((f_Swell_lookNow (zr h 45 ((p1 * 3) + p2)) h) / 1000)] h Q
          refine zg_blk zd_165 2 hs (rfl : zb x zT0 zc_165 2 (53, [some (.ref 0), some (.int p1), some (.int p2), some (.int (zr h 45 ((p1 * 3) + p2)))], [.int ((f_Swell_lookNow (zr h 45 ((p1 * 3) + p2)) h) / 1000)], h) = some (57, [some (.ref 0), some (.int p1), some (.int p2), some (.int (zr h 45 ((p1 * 3) + p2)))], [.int (zf h 0 2), .int ((f_Swell_lookNow (zr h 45 ((p1 * 3) + p2)) h) / 1000)], h)) (fun hs => ?_)
          refine zg_i_le zd_165 rfl (fun (hc : (((f_Swell_lookNow (zr h 45 ((p1 * 3) + p2)) h) / 1000) ≤ (zf h 0 2))) => ?_) (fun (hc : ¬ (((f_Swell_lookNow (zr h 45 ((p1 * 3) + p2)) h) / 1000) ≤ (zf h 0 2))) => ?_)
          · have ho := ho.1 hc
            rw [show ((if (((f_Swell_lookNow (zr h 45 ((p1 * 3) + p2)) h) / 1000) ≤ (zf h 0 2)) then ((if ((zr h 44 ((p1 * 3) + p2)) ≤ ((100 * (zr h 43 ((p1 * 3) + p2))) / 3)) then (0 : Int32) else 2) : Int32) else 1) : Int32) = (if ((zr h 44 ((p1 * 3) + p2)) ≤ ((100 * (zr h 43 ((p1 * 3) + p2))) / 3)) then (0 : Int32) else 2) from if_pos hc] at hF
            refine zg_blk zd_165 8 hs (rfl : zb x zT0 zc_165 8 (62, [some (.ref 0), some (.int p1), some (.int p2), some (.int (zr h 45 ((p1 * 3) + p2)))], [], h) = some (74, [some (.ref 0), some (.int p1), some (.int p2), some (.int (zr h 45 ((p1 * 3) + p2)))], [.int ((p1 * 3) + p2), .ref 44], h)) (fun hs => ?_)
            obtain ⟨hob, ho⟩ := ho
            refine zg_ial hs zd_165 rfl rfl hob ?_
            refine zg_blk zd_165 9 hs (rfl : zb x zT0 zc_165 9 (75, [some (.ref 0), some (.int p1), some (.int p2), some (.int (zr h 45 ((p1 * 3) + p2)))], [.int (zr h 44 ((p1 * 3) + p2))], h) = some (89, [some (.ref 0), some (.int p1), some (.int p2), some (.int (zr h 45 ((p1 * 3) + p2)))], [.int ((p1 * 3) + p2), .ref 43, .int 100, .int (zr h 44 ((p1 * 3) + p2))], h)) (fun hs => ?_)
            have hob := ho
            refine zg_ial hs zd_165 rfl rfl hob ?_
            refine zg_blk zd_165 3 hs (rfl : zb x zT0 zc_165 3 (90, [some (.ref 0), some (.int p1), some (.int p2), some (.int (zr h 45 ((p1 * 3) + p2)))], [.int (zr h 43 ((p1 * 3) + p2)), .int 100, .int (zr h 44 ((p1 * 3) + p2))], h) = some (93, [some (.ref 0), some (.int p1), some (.int p2), some (.int (zr h 45 ((p1 * 3) + p2)))], [.int ((100 * (zr h 43 ((p1 * 3) + p2))) / 3), .int (zr h 44 ((p1 * 3) + p2))], h)) (fun hs => ?_)
            have K179 : zSh zT0 h → zg x (d + 5) 165 101 [some (.ref 0), some (.int p1), some (.int p2), some (.int (zr h 45 ((p1 * 3) + p2)))] [.int (if ((zr h 44 ((p1 * 3) + p2)) ≤ ((100 * (zr h 43 ((p1 * 3) + p2))) / 3)) then (0 : Int32) else 2)] h Q := fun hs => by
              exact zg_ret zd_165 rfl rfl hF
            refine zg_i_le zd_165 rfl (fun (hc : ((zr h 44 ((p1 * 3) + p2)) ≤ ((100 * (zr h 43 ((p1 * 3) + p2))) / 3))) => ?_) (fun (hc : ¬ ((zr h 44 ((p1 * 3) + p2)) ≤ ((100 * (zr h 43 ((p1 * 3) + p2))) / 3))) => ?_)
            · skip
              rw [show ((if ((zr h 44 ((p1 * 3) + p2)) ≤ ((100 * (zr h 43 ((p1 * 3) + p2))) / 3)) then (0 : Int32) else 2) : Int32) = 0 from if_pos hc] at K179
              refine zg_blk zd_165 1 hs (rfl : zb x zT0 zc_165 1 (100, [some (.ref 0), some (.int p1), some (.int p2), some (.int (zr h 45 ((p1 * 3) + p2)))], [], h) = some (101, [some (.ref 0), some (.int p1), some (.int p2), some (.int (zr h 45 ((p1 * 3) + p2)))], [.int 0], h)) (fun hs => ?_)
              exact K179 hs
            · skip
              rw [show ((if ((zr h 44 ((p1 * 3) + p2)) ≤ ((100 * (zr h 43 ((p1 * 3) + p2))) / 3)) then (0 : Int32) else 2) : Int32) = 2 from if_neg hc] at K179
              refine zg_blk zd_165 2 hs (rfl : zb x zT0 zc_165 2 (96, [some (.ref 0), some (.int p1), some (.int p2), some (.int (zr h 45 ((p1 * 3) + p2)))], [], h) = some (101, [some (.ref 0), some (.int p1), some (.int p2), some (.int (zr h 45 ((p1 * 3) + p2)))], [.int 2], h)) (fun hs => ?_)
              exact K179 hs
          · have ho := ho.2 hc
            rw [show ((if (((f_Swell_lookNow (zr h 45 ((p1 * 3) + p2)) h) / 1000) ≤ (zf h 0 2)) then ((if ((zr h 44 ((p1 * 3) + p2)) ≤ ((100 * (zr h 43 ((p1 * 3) + p2))) / 3)) then (0 : Int32) else 2) : Int32) else 1) : Int32) = 1 from if_neg hc] at hF
            refine zg_blk zd_165 1 hs (rfl : zb x zT0 zc_165 1 (60, [some (.ref 0), some (.int p1), some (.int p2), some (.int (zr h 45 ((p1 * 3) + p2)))], [], h) = some (61, [some (.ref 0), some (.int p1), some (.int p2), some (.int (zr h 45 ((p1 * 3) + p2)))], [.int 1], h)) (fun hs => ?_)
            exact zg_ret zd_165 rfl rfl hF
        · have ho := ho.2 hc
          rw [show ((if (¬ ((zr h 45 ((p1 * 3) + p2)) < 0) ∧ (¬ (480 ≤ (zr h 45 ((p1 * 3) + p2))))) then ((if (((f_Swell_lookNow (zr h 45 ((p1 * 3) + p2)) h) / 1000) ≤ (zf h 0 2)) then ((if ((zr h 44 ((p1 * 3) + p2)) ≤ ((100 * (zr h 43 ((p1 * 3) + p2))) / 3)) then (0 : Int32) else 2) : Int32) else 1) : Int32) else (-1)) : Int32) = (-1) from if_neg hc] at hF
          refine zg_blk zd_165 1 hs (rfl : zb x zT0 zc_165 1 (40, [some (.ref 0), some (.int p1), some (.int p2), some (.int (zr h 45 ((p1 * 3) + p2)))], [], h) = some (41, [some (.ref 0), some (.int p1), some (.int p2), some (.int (zr h 45 ((p1 * 3) + p2)))], [.int (-1)], h)) (fun hs => ?_)
          exact zg_ret zd_165 rfl rfl hF
      · have ho := ho.2 hc
        rw [show ((if (p2 < 3) then ((if (¬ ((zr h 45 ((p1 * 3) + p2)) < 0) ∧ (¬ (480 ≤ (zr h 45 ((p1 * 3) + p2))))) then ((if (((f_Swell_lookNow (zr h 45 ((p1 * 3) + p2)) h) / 1000) ≤ (zf h 0 2)) then ((if ((zr h 44 ((p1 * 3) + p2)) ≤ ((100 * (zr h 43 ((p1 * 3) + p2))) / 3)) then (0 : Int32) else 2) : Int32) else 1) : Int32) else (-1)) : Int32) else (-1)) : Int32) = (-1) from if_neg hc] at hF
        refine zg_blk zd_165 1 hs (rfl : zb x zT0 zc_165 1 (17, [some (.ref 0), some (.int p1), some (.int p2), none], [], h) = some (18, [some (.ref 0), some (.int p1), some (.int p2), none], [.int (-1)], h)) (fun hs => ?_)
        exact zg_ret zd_165 rfl rfl hF
theorem zd_258 : zm_cd 258 = zc_258 := by rfl
set_option maxRecDepth 100000 in
set_option maxHeartbeats 400000 in
theorem f_M_blame_k55_t {x : zm_X} {d : Nat} (v3 : Int32) (h : zm_H) (o1 : Option Value) (z2 : Int32) {Q : Option Value → zm_H → Prop} (hs : zSh zT0 h) (ho : f_M_blame_k55_ok v3 h) (hF : (zSh zT0 (f_M_blame_k55 v3 h).2 → Q (some (.int (f_M_blame_k55 v3 h).1)) (f_M_blame_k55 v3 h).2)) : zg x (d + 3) 258 55 [some (.ref 92), o1, some (.int z2), some (.int v3)] [] h Q := by
  unfold f_M_blame_k55 at hF
  unfold f_M_blame_k55_ok at ho
  refine zg_blk zd_258 4 hs (rfl : zb x zT0 zc_258 4 (55, [some (.ref 92), o1, some (.int z2), some (.int v3)], [], h) = some (63, [some (.ref 92), o1, some (.int z2), some (.int v3)], [.int (zf h 92 48), .int (zf h 92 79)], h)) (fun hs => ?_)
  have hom := ho
  have K180 : zSh zT0 h → zg x (d + 3) 258 95 [some (.ref 92), o1, some (.int z2), some (.int v3)] [.int (if ((zf h 92 79) ≤ (zf h 92 48)) then ((if ((zr h 129 v3) ≤ ((100 * (zr h 128 v3)) / 3)) then (0 : Int32) else 2) : Int32) else 1)] h Q := fun hs => by
    exact zg_ret zd_258 rfl rfl (hF hs)
  refine zg_i_le zd_258 rfl (fun (hc : ((zf h 92 79) ≤ (zf h 92 48))) => ?_) (fun (hc : ¬ ((zf h 92 79) ≤ (zf h 92 48))) => ?_)
  · have ho := hom.1 hc
    rw [show ((if ((zf h 92 79) ≤ (zf h 92 48)) then ((if ((zr h 129 v3) ≤ ((100 * (zr h 128 v3)) / 3)) then (0 : Int32) else 2) : Int32) else 1) : Int32) = (if ((zr h 129 v3) ≤ ((100 * (zr h 128 v3)) / 3)) then (0 : Int32) else 2) from if_pos hc] at K180
    refine zg_blk zd_258 3 hs (rfl : zb x zT0 zc_258 3 (70, [some (.ref 92), o1, some (.int z2), some (.int v3)], [], h) = some (75, [some (.ref 92), o1, some (.int z2), some (.int v3)], [.int v3, .ref 129], h)) (fun hs => ?_)
    obtain ⟨hob, ho⟩ := ho
    refine zg_ial hs zd_258 rfl rfl hob ?_
    refine zg_blk zd_258 4 hs (rfl : zb x zT0 zc_258 4 (76, [some (.ref 92), o1, some (.int z2), some (.int v3)], [.int (zr h 129 v3)], h) = some (83, [some (.ref 92), o1, some (.int z2), some (.int v3)], [.int v3, .ref 128, .int 100, .int (zr h 129 v3)], h)) (fun hs => ?_)
    have hob := ho
    refine zg_ial hs zd_258 rfl rfl hob ?_
    refine zg_blk zd_258 3 hs (rfl : zb x zT0 zc_258 3 (84, [some (.ref 92), o1, some (.int z2), some (.int v3)], [.int (zr h 128 v3), .int 100, .int (zr h 129 v3)], h) = some (87, [some (.ref 92), o1, some (.int z2), some (.int v3)], [.int ((100 * (zr h 128 v3)) / 3), .int (zr h 129 v3)], h)) (fun hs => ?_)
    refine zg_i_le zd_258 rfl (fun (hc : ((zr h 129 v3) ≤ ((100 * (zr h 128 v3)) / 3))) => ?_) (fun (hc : ¬ ((zr h 129 v3) ≤ ((100 * (zr h 128 v3)) / 3))) => ?_)
    · skip
      rw [show ((if ((zr h 129 v3) ≤ ((100 * (zr h 128 v3)) / 3)) then (0 : Int32) else 2) : Int32) = 0 from if_pos hc] at K180
      refine zg_blk zd_258 1 hs (rfl : zb x zT0 zc_258 1 (94, [some (.ref 92), o1, some (.int z2), some (.int v3)], [], h) = some (95, [some (.ref 92), o1, some (.int z2), some (.int v3)], [.int 0], h)) (fun hs => ?_)
      exact K180 hs
    · skip
      rw [show ((if ((zr h 129 v3) ≤ ((100 * (zr h 128 v3)) / 3)) then (0 : Int32) else 2) : Int32) = 2 from if_neg hc] at K180
      refine zg_blk zd_258 2 hs (rfl : zb x zT0 zc_258 2 (90, [some (.ref 92), o1, some (.int z2), some (.int v3)], [], h) = some (95, [some (.ref 92), o1, some (.int z2), some (.int v3)], [.int 2], h)) (fun hs => ?_)
      exact K180 hs
  · have ho := hom.2 hc
    rw [show ((if ((zf h 92 79) ≤ (zf h 92 48)) then ((if ((zr h 129 v3) ≤ ((100 * (zr h 128 v3)) / 3)) then (0 : Int32) else 2) : Int32) else 1) : Int32) = 1 from if_neg hc] at K180
    refine zg_blk zd_258 2 hs (rfl : zb x zT0 zc_258 2 (66, [some (.ref 92), o1, some (.int z2), some (.int v3)], [], h) = some (95, [some (.ref 92), o1, some (.int z2), some (.int v3)], [.int 1], h)) (fun hs => ?_)
    exact K180 hs
set_option maxRecDepth 100000 in
set_option maxHeartbeats 400000 in
theorem f_M_blame_t {x : zm_X} {d : Nat} (p1 : Int32) (p2 : Int32) (h : zm_H) {Q : Option Value → zm_H → Prop} (hs : zSh zT0 h) (ho : f_M_blame_ok p1 p2 h) (hF : (zSh zT0 (f_M_blame p1 p2 h).2 → Q (some (.int (f_M_blame p1 p2 h).1)) (f_M_blame p1 p2 h).2)) : zg x (d + 3) 258 0 [some (.ref 92), some (.int p1), some (.int p2), none] [] h Q := by
  unfold f_M_blame at hF
  unfold f_M_blame_ok at ho
  refine zg_blk zd_258 2 hs (rfl : zb x zT0 zc_258 2 (0, [some (.ref 92), some (.int p1), some (.int p2), none], [], h) = some (2, [some (.ref 92), some (.int p1), some (.int p2), none], [.int p1, .ref 92], h)) (fun hs => ?_)
  refine zg_call hs zd_258 rfl rfl rfl rfl (as := [.ref 92, .int p1]) (rest := []) (en := [some (.ref 92), some (.int p1)]) rfl rfl rfl rfl rfl ?_
  refine f_M_isRaft_t p1 h hs trivial ?_
  show zg x (d + 3) 258 5 [some (.ref 92), some (.int p1), some (.int p2), none] [.int (if (¬ (p1 < 0) ∧ (¬ (((zf h 92 33) - 1) < p1))) then (1 : Int32) else 0)] h Q
  refine zg_b_eq zd_258 rfl (fun (hc : ¬ (¬ (p1 < 0) ∧ (¬ (((zf h 92 33) - 1) < p1)))) => ?_) (fun (hc : (¬ (p1 < 0) ∧ (¬ (((zf h 92 33) - 1) < p1)))) => ?_)
  · have ho := ho.2 hc
    rw [if_neg hc] at hF
    refine zg_blk zd_258 1 hs (rfl : zb x zT0 zc_258 1 (32, [some (.ref 92), some (.int p1), some (.int p2), none], [], h) = some (33, [some (.ref 92), some (.int p1), some (.int p2), none], [.int (-1)], h)) (fun hs => ?_)
    exact zg_ret zd_258 rfl rfl (hF hs)
  · have ho := ho.1 hc
    rw [if_pos hc] at hF
    refine zg_blk zd_258 3 hs (rfl : zb x zT0 zc_258 3 (8, [some (.ref 92), some (.int p1), some (.int p2), none], [], h) = some (11, [some (.ref 92), some (.int p1), some (.int p2), none], [.int 2, .int 0, .int p2], h)) (fun hs => ?_)
    refine zg_call hs zd_258 rfl rfl rfl rfl (as := [.int p2, .int 0, .int 2]) (rest := []) (en := [some (.int p2), some (.int 0), some (.int 2)]) rfl rfl rfl rfl rfl ?_
    refine f_M_in_t p2 0 2 h hs trivial ?_
    show zg x (d + 3) 258 14 [some (.ref 92), some (.int p1), some (.int p2), none] [.int (if (¬ (p2 < 0) ∧ (¬ (2 < p2))) then (1 : Int32) else 0)] h Q
    refine zg_b_eq zd_258 rfl (fun (hc : ¬ (¬ (p2 < 0) ∧ (¬ (2 < p2)))) => ?_) (fun (hc : (¬ (p2 < 0) ∧ (¬ (2 < p2)))) => ?_)
    · have ho := ho.2 hc
      rw [if_neg hc] at hF
      refine zg_blk zd_258 1 hs (rfl : zb x zT0 zc_258 1 (32, [some (.ref 92), some (.int p1), some (.int p2), none], [], h) = some (33, [some (.ref 92), some (.int p1), some (.int p2), none], [.int (-1)], h)) (fun hs => ?_)
      exact zg_ret zd_258 rfl rfl (hF hs)
    · have ho := ho.1 hc
      rw [if_pos hc] at hF
      refine zg_blk zd_258 5 hs (rfl : zb x zT0 zc_258 5 (17, [some (.ref 92), some (.int p1), some (.int p2), none], [], h) = some (24, [some (.ref 92), some (.int p1), some (.int p2), none], [.int p2, .int p1, .int 0, .ref 130], h)) (fun hs => ?_)
      refine zg_call hs zd_258 rfl rfl rfl rfl (as := [.int 0, .int p1, .int p2]) (rest := [.ref 130]) (en := [some (.int 0), some (.int p1), some (.int p2)]) rfl rfl rfl rfl rfl ?_
      refine f_M_chainAt_t 0 p1 p2 h hs trivial ?_
      show zg x (d + 3) 258 27 [some (.ref 92), some (.int p1), some (.int p2), none] [.int ((3 * ((10 * 0) + p1)) + p2), .ref 130] h Q
      obtain ⟨hob, ho⟩ := ho
      refine zg_ial hs zd_258 rfl rfl hob ?_
      refine zg_blk zd_258 1 hs (rfl : zb x zT0 zc_258 1 (28, [some (.ref 92), some (.int p1), some (.int p2), none], [.int (zr h 130 ((3 * ((10 * 0) + p1)) + p2))], h) = some (29, [some (.ref 92), some (.int p1), some (.int p2), none], [.int (-1), .int (zr h 130 ((3 * ((10 * 0) + p1)) + p2))], h)) (fun hs => ?_)
      refine zg_i_ne zd_258 rfl (fun (hc : ¬ ((zr h 130 ((3 * ((10 * 0) + p1)) + p2)) = (-1))) => ?_) (fun (hc : ((zr h 130 ((3 * ((10 * 0) + p1)) + p2)) = (-1))) => ?_)
      · have ho := ho.2 hc
        rw [if_neg hc] at hF
        refine zg_blk zd_258 3 hs (rfl : zb x zT0 zc_258 3 (34, [some (.ref 92), some (.int p1), some (.int p2), none], [], h) = some (37, [some (.ref 92), some (.int p1), some (.int p2), none], [.int p2, .int p1, .int 0], h)) (fun hs => ?_)
        refine zg_call hs zd_258 rfl rfl rfl rfl (as := [.int 0, .int p1, .int p2]) (rest := []) (en := [some (.int 0), some (.int p1), some (.int p2)]) rfl rfl rfl rfl rfl ?_
        refine f_M_chainAt_t 0 p1 p2 h hs trivial ?_
        show zg x (d + 3) 258 40 [some (.ref 92), some (.int p1), some (.int p2), none] [.int ((3 * ((10 * 0) + p1)) + p2)] h Q
        refine zg_blk zd_258 5 hs (rfl : zb x zT0 zc_258 5 (40, [some (.ref 92), some (.int p1), some (.int p2), none], [.int ((3 * ((10 * 0) + p1)) + p2)], h) = some (47, [some (.ref 92), some (.int p1), some (.int p2), some (.int ((3 * ((10 * 0) + p1)) + p2))], [.int ((3 * ((10 * 0) + p1)) + p2), .ref 130, .ref 92], h)) (fun hs => ?_)
        obtain ⟨hob, ho⟩ := ho
        refine zg_ial hs zd_258 rfl rfl hob ?_
        refine zg_blk zd_258 1 hs (rfl : zb x zT0 zc_258 1 (48, [some (.ref 92), some (.int p1), some (.int p2), some (.int ((3 * ((10 * 0) + p1)) + p2))], [.int (zr h 130 ((3 * ((10 * 0) + p1)) + p2)), .ref 92], h) = some (49, [some (.ref 92), some (.int p1), some (.int p2), some (.int ((3 * ((10 * 0) + p1)) + p2))], [.ref 92, .int (zr h 130 ((3 * ((10 * 0) + p1)) + p2)), .ref 92], h)) (fun hs => ?_)
        refine zg_call hs zd_258 rfl rfl rfl rfl (as := [.ref 92]) (rest := [.int (zr h 130 ((3 * ((10 * 0) + p1)) + p2)), .ref 92]) (en := [some (.ref 92)]) rfl rfl rfl rfl rfl ?_
        refine f_M_lastKnown_t  h hs trivial ?_
        show zg x (d + 3) 258 52 [some (.ref 92), some (.int p1), some (.int p2), some (.int ((3 * ((10 * 0) + p1)) + p2))] [.int (if (480 ≤ (zf h 92 23)) then (479 : Int32) else (zf h 92 23)), .int (zr h 130 ((3 * ((10 * 0) + p1)) + p2)), .ref 92] h Q
        obtain ⟨hob, ho⟩ := ho
        refine zg_call hs zd_258 rfl rfl rfl rfl (as := [.ref 92, .int (zr h 130 ((3 * ((10 * 0) + p1)) + p2)), .int (if (480 ≤ (zf h 92 23)) then (479 : Int32) else (zf h 92 23))]) (rest := []) (en := [some (.ref 92), some (.int (zr h 130 ((3 * ((10 * 0) + p1)) + p2))), some (.int (if (480 ≤ (zf h 92 23)) then (479 : Int32) else (zf h 92 23))), none, none, none]) rfl rfl rfl rfl rfl ?_
        refine f_M_looks_t (zr h 130 ((3 * ((10 * 0) + p1)) + p2)) (if (480 ≤ (zf h 92 23)) then (479 : Int32) else (zf h 92 23)) h hs hob (fun hs => ?_)
        show zg x (d + 3) 258 55 [some (.ref 92), some (.int p1), some (.int p2), some (.int ((3 * ((10 * 0) + p1)) + p2))] [] (f_M_looks (zr h 130 ((3 * ((10 * 0) + p1)) + p2)) (if (480 ≤ (zf h 92 23)) then (479 : Int32) else (zf h 92 23)) h) Q
        exact f_M_blame_k55_t ((3 * ((10 * 0) + p1)) + p2) (f_M_looks (zr h 130 ((3 * ((10 * 0) + p1)) + p2)) (if (480 ≤ (zf h 92 23)) then (479 : Int32) else (zf h 92 23)) h) (some (.int p1)) p2 hs ho hF
      · have ho := ho.1 hc
        rw [if_pos hc] at hF
        refine zg_blk zd_258 1 hs (rfl : zb x zT0 zc_258 1 (32, [some (.ref 92), some (.int p1), some (.int p2), none], [], h) = some (33, [some (.ref 92), some (.int p1), some (.int p2), none], [.int (-1)], h)) (fun hs => ?_)
        exact zg_ret zd_258 rfl rfl (hF hs)
theorem zd_166 : zm_cd 166 = zc_166 := by rfl
theorem zd_1 : zm_cd 1 = zc_1 := by rfl
theorem zd_2 : zm_cd 2 = zc_2 := by rfl
set_option maxRecDepth 100000 in
set_option maxHeartbeats 400000 in
theorem f_Cable_bits_t {x : zm_X} {d : Nat} (p0 : Int32) (p1 : Int32) (h : zm_H) {Q : Option Value → zm_H → Prop} (hs : zSh zT0 h) (ho : f_Cable_bits_ok p0 p1 h) (hF : Q (some (.int (f_Cable_bits p0 p1 h))) h) : zg x (d + 1) 2 0 [some (.int p0), some (.int p1)] [] h Q := by
  unfold f_Cable_bits at hF
  unfold f_Cable_bits_ok at ho
  refine zg_blk zd_2 9 hs (rfl : zb x zT0 zc_2 9 (0, [some (.int p0), some (.int p1)], [], h) = some (9, [some (.int p0), some (.int p1)], [.int ((1 <<< ((p1 + 1) &&& 31)) - (1 <<< (p0 &&& 31)))], h)) (fun hs => ?_)
  exact zg_ret zd_2 rfl rfl hF
set_option maxRecDepth 100000 in
set_option maxHeartbeats 400000 in
theorem f_Cable_tell_t {x : zm_X} {d : Nat} (p1 : Int32) (p2 : Int32) (p3 : Int32) (h : zm_H) {Q : Option Value → zm_H → Prop} (hs : zSh zT0 h) (ho : f_Cable_tell_ok p1 p2 p3 h) (hF : (zSh zT0 (f_Cable_tell p1 p2 p3 h).2 → Q (some (.int (f_Cable_tell p1 p2 p3 h).1)) (f_Cable_tell p1 p2 p3 h).2)) : zg x (d + 2) 1 0 [some (.ref 91), some (.int p1), some (.int p2), some (.int p3)] [] h Q := by
  unfold f_Cable_tell at hF
  unfold f_Cable_tell_ok at ho
  refine zg_blk zd_1 3 hs (rfl : zb x zT0 zc_1 3 (0, [some (.ref 91), some (.int p1), some (.int p2), some (.int p3)], [], h) = some (6, [some (.ref 91), some (.int p1), some (.int p2), some (.int p3)], [.int 20, .int (zf h 91 0)], h)) (fun hs => ?_)
  refine zg_i_lt zd_1 rfl (fun (hc : ((zf h 91 0) < 20)) => ?_) (fun (hc : ¬ ((zf h 91 0) < 20)) => ?_)
  · skip
    rw [if_pos hc] at hF
    refine zg_blk zd_1 10 hs (rfl : zb x zT0 zc_1 10 (11, [some (.ref 91), some (.int p1), some (.int p2), some (.int p3)], [], h) = some (27, [some (.ref 91), some (.int p1), some (.int p2), some (.int p3)], [.int p3, .int (zf h 91 1), .ref 91], (zp h 91 0 ((zf h 91 0) + 1)))) (fun hs => ?_)
    have K181 : zSh zT0 (zp h 91 0 ((zf h 91 0) + 1)) → zg x (d + 2) 1 45 [some (.ref 91), some (.int p1), some (.int p2), some (.int p3)] [.int (if (p3 = 0) then ((((1 <<< ((p2 + 1) &&& 31)) - (1 <<< (p1 &&& 31))) ^^^ (-1)) : Int32) else ((1 <<< ((p2 + 1) &&& 31)) - (1 <<< (p1 &&& 31)))), .int (zf h 91 1), .ref 91] (zp h 91 0 ((zf h 91 0) + 1)) Q := fun hs => by
      refine zg_blk zd_1 4 hs (rfl : zb x zT0 zc_1 4 (45, [some (.ref 91), some (.int p1), some (.int p2), some (.int p3)], [.int (if (p3 = 0) then ((((1 <<< ((p2 + 1) &&& 31)) - (1 <<< (p1 &&& 31))) ^^^ (-1)) : Int32) else ((1 <<< ((p2 + 1) &&& 31)) - (1 <<< (p1 &&& 31)))), .int (zf h 91 1), .ref 91], (zp h 91 0 ((zf h 91 0) + 1))) = some (53, [some (.ref 91), some (.int p1), some (.int p2), some (.int p3)], [.int ((zf h 91 1) &&& (if (p3 = 0) then ((((1 <<< ((p2 + 1) &&& 31)) - (1 <<< (p1 &&& 31))) ^^^ (-1)) : Int32) else ((1 <<< ((p2 + 1) &&& 31)) - (1 <<< (p1 &&& 31)))))], (zp (zp h 91 0 ((zf h 91 0) + 1)) 91 1 ((zf h 91 1) &&& (if (p3 = 0) then ((((1 <<< ((p2 + 1) &&& 31)) - (1 <<< (p1 &&& 31))) ^^^ (-1)) : Int32) else ((1 <<< ((p2 + 1) &&& 31)) - (1 <<< (p1 &&& 31)))))))) (fun hs => ?_)
      exact zg_ret zd_1 rfl rfl (hF hs)
    refine zg_f_eq zd_1 rfl (fun (hc : (p3 = 0)) => ?_) (fun (hc : ¬ (p3 = 0)) => ?_)
    · skip
      rw [show ((if (p3 = 0) then ((((1 <<< ((p2 + 1) &&& 31)) - (1 <<< (p1 &&& 31))) ^^^ (-1)) : Int32) else ((1 <<< ((p2 + 1) &&& 31)) - (1 <<< (p1 &&& 31)))) : Int32) = (((1 <<< ((p2 + 1) &&& 31)) - (1 <<< (p1 &&& 31))) ^^^ (-1)) from if_pos hc] at K181
      refine zg_blk zd_1 2 hs (rfl : zb x zT0 zc_1 2 (38, [some (.ref 91), some (.int p1), some (.int p2), some (.int p3)], [.int (zf h 91 1), .ref 91], (zp h 91 0 ((zf h 91 0) + 1))) = some (40, [some (.ref 91), some (.int p1), some (.int p2), some (.int p3)], [.int p2, .int p1, .int (zf h 91 1), .ref 91], (zp h 91 0 ((zf h 91 0) + 1)))) (fun hs => ?_)
      refine zg_call hs zd_1 rfl rfl rfl rfl (as := [.int p1, .int p2]) (rest := [.int (zf h 91 1), .ref 91]) (en := [some (.int p1), some (.int p2)]) rfl rfl rfl rfl rfl ?_
      refine f_Cable_bits_t p1 p2 (zp h 91 0 ((zf h 91 0) + 1)) hs trivial ?_
      show zg x (d + 2) 1 43 [some (.ref 91), some (.int p1), some (.int p2), some (.int p3)] [.int ((1 <<< ((p2 + 1) &&& 31)) - (1 <<< (p1 &&& 31))), .int (zf h 91 1), .ref 91] (zp h 91 0 ((zf h 91 0) + 1)) Q
      refine zg_blk zd_1 2 hs (rfl : zb x zT0 zc_1 2 (43, [some (.ref 91), some (.int p1), some (.int p2), some (.int p3)], [.int ((1 <<< ((p2 + 1) &&& 31)) - (1 <<< (p1 &&& 31))), .int (zf h 91 1), .ref 91], (zp h 91 0 ((zf h 91 0) + 1))) = some (45, [some (.ref 91), some (.int p1), some (.int p2), some (.int p3)], [.int (((1 <<< ((p2 + 1) &&& 31)) - (1 <<< (p1 &&& 31))) ^^^ (-1)), .int (zf h 91 1), .ref 91], (zp h 91 0 ((zf h 91 0) + 1)))) (fun hs => ?_)
      exact K181 hs
    · skip
      rw [show ((if (p3 = 0) then ((((1 <<< ((p2 + 1) &&& 31)) - (1 <<< (p1 &&& 31))) ^^^ (-1)) : Int32) else ((1 <<< ((p2 + 1) &&& 31)) - (1 <<< (p1 &&& 31)))) : Int32) = ((1 <<< ((p2 + 1) &&& 31)) - (1 <<< (p1 &&& 31))) from if_neg hc] at K181
      refine zg_blk zd_1 2 hs (rfl : zb x zT0 zc_1 2 (30, [some (.ref 91), some (.int p1), some (.int p2), some (.int p3)], [.int (zf h 91 1), .ref 91], (zp h 91 0 ((zf h 91 0) + 1))) = some (32, [some (.ref 91), some (.int p1), some (.int p2), some (.int p3)], [.int p2, .int p1, .int (zf h 91 1), .ref 91], (zp h 91 0 ((zf h 91 0) + 1)))) (fun hs => ?_)
      refine zg_call hs zd_1 rfl rfl rfl rfl (as := [.int p1, .int p2]) (rest := [.int (zf h 91 1), .ref 91]) (en := [some (.int p1), some (.int p2)]) rfl rfl rfl rfl rfl ?_
      refine f_Cable_bits_t p1 p2 (zp h 91 0 ((zf h 91 0) + 1)) hs trivial ?_
      show zg x (d + 2) 1 35 [some (.ref 91), some (.int p1), some (.int p2), some (.int p3)] [.int ((1 <<< ((p2 + 1) &&& 31)) - (1 <<< (p1 &&& 31))), .int (zf h 91 1), .ref 91] (zp h 91 0 ((zf h 91 0) + 1)) Q
      refine zg_blk zd_1 1 hs (rfl : zb x zT0 zc_1 1 (35, [some (.ref 91), some (.int p1), some (.int p2), some (.int p3)], [.int ((1 <<< ((p2 + 1) &&& 31)) - (1 <<< (p1 &&& 31))), .int (zf h 91 1), .ref 91], (zp h 91 0 ((zf h 91 0) + 1))) = some (45, [some (.ref 91), some (.int p1), some (.int p2), some (.int p3)], [.int ((1 <<< ((p2 + 1) &&& 31)) - (1 <<< (p1 &&& 31))), .int (zf h 91 1), .ref 91], (zp h 91 0 ((zf h 91 0) + 1)))) (fun hs => ?_)
      exact K181 hs
  · skip
    rw [if_neg hc] at hF
    refine zg_blk zd_1 1 hs (rfl : zb x zT0 zc_1 1 (9, [some (.ref 91), some (.int p1), some (.int p2), some (.int p3)], [], h) = some (10, [some (.ref 91), some (.int p1), some (.int p2), some (.int p3)], [.int (-1)], h)) (fun hs => ?_)
    exact zg_ret zd_1 rfl rfl (hF hs)
set_option maxRecDepth 100000 in
set_option maxHeartbeats 400000 in
theorem f_N_test_t {x : zm_X} {d : Nat} (p1 : Int32) (p2 : Int32) (p3 : Int32) (h : zm_H) {Q : Option Value → zm_H → Prop} (hs : zSh zT0 h) (ho : f_N_test_ok p1 p2 p3 h) (hF : (zSh zT0 (f_N_test p1 p2 p3 h).2 → Q (some (.int (f_N_test p1 p2 p3 h).1)) (f_N_test p1 p2 p3 h).2)) : zg x (d + 3) 166 0 [some (.ref 0), some (.int p1), some (.int p2), some (.int p3)] [] h Q := by
  unfold f_N_test at hF
  unfold f_N_test_ok at ho
  refine zg_blk zd_166 3 hs (rfl : zb x zT0 zc_166 3 (0, [some (.ref 0), some (.int p1), some (.int p2), some (.int p3)], [], h) = some (4, [some (.ref 0), some (.int p1), some (.int p2), some (.int p3)], [.int 16, .int p2, .int p1], h)) (fun hs => ?_)
  refine zg_call hs zd_166 rfl rfl rfl rfl (as := [.int p1, .int p2, .int 16]) (rest := []) (en := [some (.int p1), some (.int p2), some (.int 16)]) rfl rfl rfl rfl rfl ?_
  refine f_N_isRange_t p1 p2 16 h hs trivial ?_
  show zg x (d + 3) 166 7 [some (.ref 0), some (.int p1), some (.int p2), some (.int p3)] [.int (if (¬ (p1 < 0) ∧ (¬ (p2 < p1) ∧ (¬ (16 ≤ p2)))) then (1 : Int32) else 0)] h Q
  refine zg_b_eq zd_166 rfl (fun (hc : ¬ (¬ (p1 < 0) ∧ (¬ (p2 < p1) ∧ (¬ (16 ≤ p2))))) => ?_) (fun (hc : (¬ (p1 < 0) ∧ (¬ (p2 < p1) ∧ (¬ (16 ≤ p2))))) => ?_)
  · skip
    rw [if_neg hc] at hF
    refine zg_blk zd_166 1 hs (rfl : zb x zT0 zc_166 1 (23, [some (.ref 0), some (.int p1), some (.int p2), some (.int p3)], [], h) = some (24, [some (.ref 0), some (.int p1), some (.int p2), some (.int p3)], [.int (-1)], h)) (fun hs => ?_)
    exact zg_ret zd_166 rfl rfl (hF hs)
  · skip
    rw [if_pos hc] at hF
    refine zg_blk zd_166 5 hs (rfl : zb x zT0 zc_166 5 (10, [some (.ref 0), some (.int p1), some (.int p2), some (.int p3)], [], h) = some (17, [some (.ref 0), some (.int p1), some (.int p2), some (.int p3)], [.int p3, .int p2, .int p1, .ref 91], h)) (fun hs => ?_)
    refine zg_call hs zd_166 rfl rfl rfl rfl (as := [.ref 91, .int p1, .int p2, .int p3]) (rest := []) (en := [some (.ref 91), some (.int p1), some (.int p2), some (.int p3)]) rfl rfl rfl rfl rfl ?_
    refine f_Cable_tell_t p1 p2 p3 h hs trivial (fun hs => ?_)
    show zg x (d + 3) 166 20 [some (.ref 0), some (.int p1), some (.int p2), some (.int p3)] [.int (f_Cable_tell p1 p2 p3 h).1] (f_Cable_tell p1 p2 p3 h).2 Q
    refine zg_blk zd_166 1 hs (rfl : zb x zT0 zc_166 1 (20, [some (.ref 0), some (.int p1), some (.int p2), some (.int p3)], [.int (f_Cable_tell p1 p2 p3 h).1], (f_Cable_tell p1 p2 p3 h).2) = some (24, [some (.ref 0), some (.int p1), some (.int p2), some (.int p3)], [.int (f_Cable_tell p1 p2 p3 h).1], (f_Cable_tell p1 p2 p3 h).2)) (fun hs => ?_)
    exact zg_ret zd_166 rfl rfl (hF hs)
theorem zd_259 : zm_cd 259 = zc_259 := by rfl
theorem zd_260 : zm_cd 260 = zc_260 := by rfl
set_option maxRecDepth 100000 in
set_option maxHeartbeats 400000 in
theorem f_M_span_t {x : zm_X} {d : Nat} (p0 : Int32) (p1 : Int32) (h : zm_H) {Q : Option Value → zm_H → Prop} (hs : zSh zT0 h) (ho : f_M_span_ok p0 p1 h) (hF : Q (some (.int (f_M_span p0 p1 h))) h) : zg x (d + 1) 260 0 [some (.int p0), some (.int p1)] [] h Q := by
  unfold f_M_span at hF
  unfold f_M_span_ok at ho
  refine zg_blk zd_260 9 hs (rfl : zb x zT0 zc_260 9 (0, [some (.int p0), some (.int p1)], [], h) = some (9, [some (.int p0), some (.int p1)], [.int ((1 <<< ((p1 + 1) &&& 31)) - (1 <<< (p0 &&& 31)))], h)) (fun hs => ?_)
  exact zg_ret zd_260 rfl rfl hF
set_option maxRecDepth 100000 in
set_option maxHeartbeats 400000 in
theorem f_M_test_t {x : zm_X} {d : Nat} (p1 : Int32) (p2 : Int32) (p3 : Int32) (h : zm_H) {Q : Option Value → zm_H → Prop} (hs : zSh zT0 h) (ho : f_M_test_ok p1 p2 p3 h) (hF : (zSh zT0 (f_M_test p1 p2 p3 h).2 → Q (some (.int (f_M_test p1 p2 p3 h).1)) (f_M_test p1 p2 p3 h).2)) : zg x (d + 2) 259 0 [some (.ref 92), some (.int p1), some (.int p2), some (.int p3)] [] h Q := by
  unfold f_M_test at hF
  unfold f_M_test_ok at ho
  refine zg_blk zd_259 3 hs (rfl : zb x zT0 zc_259 3 (0, [some (.ref 92), some (.int p1), some (.int p2), some (.int p3)], [], h) = some (4, [some (.ref 92), some (.int p1), some (.int p2), some (.int p3)], [.int 15, .int 0, .int p1], h)) (fun hs => ?_)
  refine zg_call hs zd_259 rfl rfl rfl rfl (as := [.int p1, .int 0, .int 15]) (rest := []) (en := [some (.int p1), some (.int 0), some (.int 15)]) rfl rfl rfl rfl rfl ?_
  refine f_M_in_t p1 0 15 h hs trivial ?_
  show zg x (d + 2) 259 7 [some (.ref 92), some (.int p1), some (.int p2), some (.int p3)] [.int (if (¬ (p1 < 0) ∧ (¬ (15 < p1))) then (1 : Int32) else 0)] h Q
  refine zg_b_eq zd_259 rfl (fun (hc : ¬ (¬ (p1 < 0) ∧ (¬ (15 < p1)))) => ?_) (fun (hc : (¬ (p1 < 0) ∧ (¬ (15 < p1)))) => ?_)
  · skip
    rw [if_neg hc] at hF
    refine zg_blk zd_259 1 hs (rfl : zb x zT0 zc_259 1 (29, [some (.ref 92), some (.int p1), some (.int p2), some (.int p3)], [], h) = some (30, [some (.ref 92), some (.int p1), some (.int p2), some (.int p3)], [.int (-1)], h)) (fun hs => ?_)
    exact zg_ret zd_259 rfl rfl (hF hs)
  · skip
    rw [if_pos hc] at hF
    refine zg_blk zd_259 3 hs (rfl : zb x zT0 zc_259 3 (10, [some (.ref 92), some (.int p1), some (.int p2), some (.int p3)], [], h) = some (14, [some (.ref 92), some (.int p1), some (.int p2), some (.int p3)], [.int 15, .int p1, .int p2], h)) (fun hs => ?_)
    refine zg_call hs zd_259 rfl rfl rfl rfl (as := [.int p2, .int p1, .int 15]) (rest := []) (en := [some (.int p2), some (.int p1), some (.int 15)]) rfl rfl rfl rfl rfl ?_
    refine f_M_in_t p2 p1 15 h hs trivial ?_
    show zg x (d + 2) 259 17 [some (.ref 92), some (.int p1), some (.int p2), some (.int p3)] [.int (if (¬ (p2 < p1) ∧ (¬ (15 < p2))) then (1 : Int32) else 0)] h Q
    refine zg_b_eq zd_259 rfl (fun (hc : ¬ (¬ (p2 < p1) ∧ (¬ (15 < p2)))) => ?_) (fun (hc : (¬ (p2 < p1) ∧ (¬ (15 < p2)))) => ?_)
    · skip
      rw [if_neg hc] at hF
      refine zg_blk zd_259 1 hs (rfl : zb x zT0 zc_259 1 (29, [some (.ref 92), some (.int p1), some (.int p2), some (.int p3)], [], h) = some (30, [some (.ref 92), some (.int p1), some (.int p2), some (.int p3)], [.int (-1)], h)) (fun hs => ?_)
      exact zg_ret zd_259 rfl rfl (hF hs)
    · skip
      rw [if_pos hc] at hF
      refine zg_blk zd_259 3 hs (rfl : zb x zT0 zc_259 3 (20, [some (.ref 92), some (.int p1), some (.int p2), some (.int p3)], [], h) = some (26, [some (.ref 92), some (.int p1), some (.int p2), some (.int p3)], [.int 20, .int (zf h 92 77)], h)) (fun hs => ?_)
      refine zg_i_ne zd_259 rfl (fun (hc : ¬ ((zf h 92 77) = 20)) => ?_) (fun (hc : ((zf h 92 77) = 20)) => ?_)
      · skip
        rw [if_neg hc] at hF
        refine zg_blk zd_259 4 hs (rfl : zb x zT0 zc_259 4 (31, [some (.ref 92), some (.int p1), some (.int p2), some (.int p3)], [], h) = some (37, [some (.ref 92), some (.int p1), some (.int p2), some (.int p3)], [.int p3, .int (zf h 92 78), .ref 92], h)) (fun hs => ?_)
        have K182 : zSh zT0 h → zg x (d + 2) 259 55 [some (.ref 92), some (.int p1), some (.int p2), some (.int p3)] [.int (if (p3 = 0) then ((((1 <<< ((p2 + 1) &&& 31)) - (1 <<< (p1 &&& 31))) ^^^ (-1)) : Int32) else ((1 <<< ((p2 + 1) &&& 31)) - (1 <<< (p1 &&& 31)))), .int (zf h 92 78), .ref 92] h Q := fun hs => by
          refine zg_blk zd_259 10 hs (rfl : zb x zT0 zc_259 10 (55, [some (.ref 92), some (.int p1), some (.int p2), some (.int p3)], [.int (if (p3 = 0) then ((((1 <<< ((p2 + 1) &&& 31)) - (1 <<< (p1 &&& 31))) ^^^ (-1)) : Int32) else ((1 <<< ((p2 + 1) &&& 31)) - (1 <<< (p1 &&& 31)))), .int (zf h 92 78), .ref 92], h) = some (73, [some (.ref 92), some (.int p1), some (.int p2), some (.int p3)], [.int ((zf h 92 78) &&& (if (p3 = 0) then ((((1 <<< ((p2 + 1) &&& 31)) - (1 <<< (p1 &&& 31))) ^^^ (-1)) : Int32) else ((1 <<< ((p2 + 1) &&& 31)) - (1 <<< (p1 &&& 31)))))], (zp (zp h 92 78 ((zf h 92 78) &&& (if (p3 = 0) then ((((1 <<< ((p2 + 1) &&& 31)) - (1 <<< (p1 &&& 31))) ^^^ (-1)) : Int32) else ((1 <<< ((p2 + 1) &&& 31)) - (1 <<< (p1 &&& 31)))))) 92 77 ((zf h 92 77) + 1)))) (fun hs => ?_)
          exact zg_ret zd_259 rfl rfl (hF hs)
        refine zg_f_eq zd_259 rfl (fun (hc : (p3 = 0)) => ?_) (fun (hc : ¬ (p3 = 0)) => ?_)
        · skip
          rw [show ((if (p3 = 0) then ((((1 <<< ((p2 + 1) &&& 31)) - (1 <<< (p1 &&& 31))) ^^^ (-1)) : Int32) else ((1 <<< ((p2 + 1) &&& 31)) - (1 <<< (p1 &&& 31)))) : Int32) = (((1 <<< ((p2 + 1) &&& 31)) - (1 <<< (p1 &&& 31))) ^^^ (-1)) from if_pos hc] at K182
          refine zg_blk zd_259 2 hs (rfl : zb x zT0 zc_259 2 (48, [some (.ref 92), some (.int p1), some (.int p2), some (.int p3)], [.int (zf h 92 78), .ref 92], h) = some (50, [some (.ref 92), some (.int p1), some (.int p2), some (.int p3)], [.int p2, .int p1, .int (zf h 92 78), .ref 92], h)) (fun hs => ?_)
          refine zg_call hs zd_259 rfl rfl rfl rfl (as := [.int p1, .int p2]) (rest := [.int (zf h 92 78), .ref 92]) (en := [some (.int p1), some (.int p2)]) rfl rfl rfl rfl rfl ?_
          refine f_M_span_t p1 p2 h hs trivial ?_
          show zg x (d + 2) 259 53 [some (.ref 92), some (.int p1), some (.int p2), some (.int p3)] [.int ((1 <<< ((p2 + 1) &&& 31)) - (1 <<< (p1 &&& 31))), .int (zf h 92 78), .ref 92] h Q
          refine zg_blk zd_259 2 hs (rfl : zb x zT0 zc_259 2 (53, [some (.ref 92), some (.int p1), some (.int p2), some (.int p3)], [.int ((1 <<< ((p2 + 1) &&& 31)) - (1 <<< (p1 &&& 31))), .int (zf h 92 78), .ref 92], h) = some (55, [some (.ref 92), some (.int p1), some (.int p2), some (.int p3)], [.int (((1 <<< ((p2 + 1) &&& 31)) - (1 <<< (p1 &&& 31))) ^^^ (-1)), .int (zf h 92 78), .ref 92], h)) (fun hs => ?_)
          exact K182 hs
        · skip
          rw [show ((if (p3 = 0) then ((((1 <<< ((p2 + 1) &&& 31)) - (1 <<< (p1 &&& 31))) ^^^ (-1)) : Int32) else ((1 <<< ((p2 + 1) &&& 31)) - (1 <<< (p1 &&& 31)))) : Int32) = ((1 <<< ((p2 + 1) &&& 31)) - (1 <<< (p1 &&& 31))) from if_neg hc] at K182
          refine zg_blk zd_259 2 hs (rfl : zb x zT0 zc_259 2 (40, [some (.ref 92), some (.int p1), some (.int p2), some (.int p3)], [.int (zf h 92 78), .ref 92], h) = some (42, [some (.ref 92), some (.int p1), some (.int p2), some (.int p3)], [.int p2, .int p1, .int (zf h 92 78), .ref 92], h)) (fun hs => ?_)
          refine zg_call hs zd_259 rfl rfl rfl rfl (as := [.int p1, .int p2]) (rest := [.int (zf h 92 78), .ref 92]) (en := [some (.int p1), some (.int p2)]) rfl rfl rfl rfl rfl ?_
          refine f_M_span_t p1 p2 h hs trivial ?_
          show zg x (d + 2) 259 45 [some (.ref 92), some (.int p1), some (.int p2), some (.int p3)] [.int ((1 <<< ((p2 + 1) &&& 31)) - (1 <<< (p1 &&& 31))), .int (zf h 92 78), .ref 92] h Q
          refine zg_blk zd_259 1 hs (rfl : zb x zT0 zc_259 1 (45, [some (.ref 92), some (.int p1), some (.int p2), some (.int p3)], [.int ((1 <<< ((p2 + 1) &&& 31)) - (1 <<< (p1 &&& 31))), .int (zf h 92 78), .ref 92], h) = some (55, [some (.ref 92), some (.int p1), some (.int p2), some (.int p3)], [.int ((1 <<< ((p2 + 1) &&& 31)) - (1 <<< (p1 &&& 31))), .int (zf h 92 78), .ref 92], h)) (fun hs => ?_)
          exact K182 hs
      · skip
        rw [if_pos hc] at hF
        refine zg_blk zd_259 1 hs (rfl : zb x zT0 zc_259 1 (29, [some (.ref 92), some (.int p1), some (.int p2), some (.int p3)], [], h) = some (30, [some (.ref 92), some (.int p1), some (.int p2), some (.int p3)], [.int (-1)], h)) (fun hs => ?_)
        exact zg_ret zd_259 rfl rfl (hF hs)
theorem zd_167 : zm_cd 167 = zc_167 := by rfl
theorem zd_3 : zm_cd 3 = zc_3 := by rfl
theorem zd_264 : zm_cd 264 = zc_264 := by rfl
set_option maxRecDepth 100000 in
set_option maxHeartbeats 400000 in
theorem f_Integer_bitCount_k34_t {x : zm_X} {d : Nat} (v0 : Int32) (h : zm_H) {Q : Option Value → zm_H → Prop} (hs : zSh zT0 h) (ho : f_Integer_bitCount_k34_ok v0 h) (hF : Q (some (.int (f_Integer_bitCount_k34 v0 h))) h) : zg x (d + 1) 264 34 [some (.int v0)] [] h Q := by
  unfold f_Integer_bitCount_k34 at hF
  unfold f_Integer_bitCount_k34_ok at ho
  refine zg_blk zd_264 15 hs (rfl : zb x zT0 zc_264 15 (34, [some (.int v0)], [], h) = some (52, [some (.int ((v0 + (zm_us v0 8)) + (zm_us (v0 + (zm_us v0 8)) 16)))], [.int (((v0 + (zm_us v0 8)) + (zm_us (v0 + (zm_us v0 8)) 16)) &&& 63)], h)) (fun hs => ?_)
  exact zg_ret zd_264 rfl rfl hF
set_option maxRecDepth 100000 in
set_option maxHeartbeats 400000 in
theorem f_Integer_bitCount_t {x : zm_X} {d : Nat} (p0 : Int32) (h : zm_H) {Q : Option Value → zm_H → Prop} (hs : zSh zT0 h) (ho : f_Integer_bitCount_ok p0 h) (hF : Q (some (.int (f_Integer_bitCount p0 h))) h) : zg x (d + 1) 264 0 [some (.int p0)] [] h Q := by
  unfold f_Integer_bitCount at hF
  unfold f_Integer_bitCount_ok at ho
  refine zg_blk zd_264 26 hs (rfl : zb x zT0 zc_264 26 (0, [some (.int p0)], [], h) = some (34, [some (.int (((((p0 - ((zm_us p0 1) &&& 1431655765)) &&& 858993459) + ((zm_us (p0 - ((zm_us p0 1) &&& 1431655765)) 2) &&& 858993459)) + (zm_us (((p0 - ((zm_us p0 1) &&& 1431655765)) &&& 858993459) + ((zm_us (p0 - ((zm_us p0 1) &&& 1431655765)) 2) &&& 858993459)) 4)) &&& 252645135))], [], h)) (fun hs => ?_)
  exact f_Integer_bitCount_k34_t (((((p0 - ((zm_us p0 1) &&& 1431655765)) &&& 858993459) + ((zm_us (p0 - ((zm_us p0 1) &&& 1431655765)) 2) &&& 858993459)) + (zm_us (((p0 - ((zm_us p0 1) &&& 1431655765)) &&& 858993459) + ((zm_us (p0 - ((zm_us p0 1) &&& 1431655765)) 2) &&& 858993459)) 4)) &&& 252645135) h hs trivial hF
set_option maxRecDepth 100000 in
set_option maxHeartbeats 400000 in
theorem f_Cable_findNext_l23_l34_k69_t {x : zm_X} {d : Nat} (v1 : Int32) (v2 : Int32) (v3 : Int32) (v4 : Int32) (v5 : Int32) (v7 : Int32) (h : zm_H) (o6 : Option Value) {Q : Option Value → zm_H → Prop} {FN : Nat × Int32 × Int32 × Int32 → Prop} (hs : zSh zT0 h) (ho : f_Cable_findNext_l23_l34_k69_ok v1 v2 v3 v4 v5 v7 h) (hF : FN (f_Cable_findNext_l23_l34_k69 v1 v2 v3 v4 v5 v7 h)) (hl0 : ∀ (v2 : Int32) (v3 : Int32) (v5 : Int32) (o6 : Option Value) (o7 : Option Value), zSh zT0 h → FN (0, v2, v3, v5) → zg x (d + 2) 3 34 [some (.ref 91), some (.int v1), some (.int v2), some (.int v3), some (.int v4), some (.int v5), o6, o7] [] h Q) (hl1 : ∀ (v2 : Int32) (v3 : Int32) (v5 : Int32) (o5 : Option Value) (o6 : Option Value) (o7 : Option Value), zSh zT0 h → FN (1, v2, v3, v5) → zg x (d + 2) 3 93 [some (.ref 91), some (.int v1), some (.int v2), some (.int v3), some (.int v4), o5, o6, o7] [] h Q) : zg x (d + 2) 3 69 [some (.ref 91), some (.int v1), some (.int v2), some (.int v3), some (.int v4), some (.int v5), o6, some (.int v7)] [] h Q := by
  unfold f_Cable_findNext_l23_l34_k69 at hF
  unfold f_Cable_findNext_l23_l34_k69_ok at ho
  refine zg_blk zd_3 2 hs (rfl : zb x zT0 zc_3 2 (69, [some (.ref 91), some (.int v1), some (.int v2), some (.int v3), some (.int v4), some (.int v5), o6, some (.int v7)], [], h) = some (72, [some (.ref 91), some (.int v1), some (.int v2), some (.int v3), some (.int v4), some (.int v5), o6, some (.int v7)], [.int v3, .int v7], h)) (fun hs => ?_)
  have K183 : zSh zT0 h → zg x (d + 2) 3 87 [some (.ref 91), some (.int v1), some (.int (if (v3 ≤ v7) then (v2 : Int32) else ((v4 * 100) + v5))), some (.int (if (v3 ≤ v7) then (v3 : Int32) else v7)), some (.int v4), some (.int v5), o6, some (.int v7)] [] h Q := fun hs => by
    refine zg_blk zd_3 2 hs (rfl : zb x zT0 zc_3 2 (87, [some (.ref 91), some (.int v1), some (.int (if (v3 ≤ v7) then (v2 : Int32) else ((v4 * 100) + v5))), some (.int (if (v3 ≤ v7) then (v3 : Int32) else v7)), some (.int v4), some (.int v5), o6, some (.int v7)], [], h) = some (34, [some (.ref 91), some (.int v1), some (.int (if (v3 ≤ v7) then (v2 : Int32) else ((v4 * 100) + v5))), some (.int (if (v3 ≤ v7) then (v3 : Int32) else v7)), some (.int v4), some (.int (v5 + 1)), o6, some (.int v7)], [], h)) (fun hs => ?_)
    exact hl0 (if (v3 ≤ v7) then (v2 : Int32) else ((v4 * 100) + v5)) (if (v3 ≤ v7) then (v3 : Int32) else v7) (v5 + 1) (o6) (some (.int v7)) hs hF
  refine zg_i_ge zd_3 rfl (fun (hc : (v3 ≤ v7)) => ?_) (fun (hc : ¬ (v3 ≤ v7)) => ?_)
  · skip
    rw [show ((if (v3 ≤ v7) then (v2 : Int32) else ((v4 * 100) + v5)) : Int32) = v2 from if_pos hc] at K183
    rw [show ((if (v3 ≤ v7) then (v3 : Int32) else v7) : Int32) = v3 from if_pos hc] at K183
    exact K183 hs
  · skip
    rw [show ((if (v3 ≤ v7) then (v2 : Int32) else ((v4 * 100) + v5)) : Int32) = ((v4 * 100) + v5) from if_neg hc] at K183
    rw [show ((if (v3 ≤ v7) then (v3 : Int32) else v7) : Int32) = v7 from if_neg hc] at K183
    refine zg_blk zd_3 8 hs (rfl : zb x zT0 zc_3 8 (75, [some (.ref 91), some (.int v1), some (.int v2), some (.int v3), some (.int v4), some (.int v5), o6, some (.int v7)], [], h) = some (87, [some (.ref 91), some (.int v1), some (.int ((v4 * 100) + v5)), some (.int v7), some (.int v4), some (.int v5), o6, some (.int v7)], [], h)) (fun hs => ?_)
    exact K183 hs
set_option maxRecDepth 100000 in
set_option maxHeartbeats 400000 in
theorem f_Cable_findNext_l23_l34_b_t {x : zm_X} {d : Nat} (v1 : Int32) (v2 : Int32) (v3 : Int32) (v4 : Int32) (v5 : Int32) (h : zm_H) (o6 : Option Value) (o7 : Option Value) {Q : Option Value → zm_H → Prop} {FN : Nat × Int32 × Int32 × Int32 → Prop} (hs : zSh zT0 h) (ho : f_Cable_findNext_l23_l34_b_ok v1 v2 v3 v4 v5 h) (hF : FN (f_Cable_findNext_l23_l34_b v1 v2 v3 v4 v5 h)) (hl0 : ∀ (v2 : Int32) (v3 : Int32) (v5 : Int32) (o6 : Option Value) (o7 : Option Value), zSh zT0 h → FN (0, v2, v3, v5) → zg x (d + 2) 3 34 [some (.ref 91), some (.int v1), some (.int v2), some (.int v3), some (.int v4), some (.int v5), o6, o7] [] h Q) (hl1 : ∀ (v2 : Int32) (v3 : Int32) (v5 : Int32) (o5 : Option Value) (o6 : Option Value) (o7 : Option Value), zSh zT0 h → FN (1, v2, v3, v5) → zg x (d + 2) 3 93 [some (.ref 91), some (.int v1), some (.int v2), some (.int v3), some (.int v4), o5, o6, o7] [] h Q) : zg x (d + 2) 3 34 [some (.ref 91), some (.int v1), some (.int v2), some (.int v3), some (.int v4), some (.int v5), o6, o7] [] h Q := by
  unfold f_Cable_findNext_l23_l34_b at hF
  unfold f_Cable_findNext_l23_l34_b_ok at ho
  refine zg_blk zd_3 2 hs (rfl : zb x zT0 zc_3 2 (34, [some (.ref 91), some (.int v1), some (.int v2), some (.int v3), some (.int v4), some (.int v5), o6, o7], [], h) = some (38, [some (.ref 91), some (.int v1), some (.int v2), some (.int v3), some (.int v4), some (.int v5), o6, o7], [.int 16, .int v5], h)) (fun hs => ?_)
  refine zg_i_ge zd_3 rfl (fun (hc : (16 ≤ v5)) => ?_) (fun (hc : ¬ (16 ≤ v5)) => ?_)
  · skip
    rw [if_pos hc] at hF
    exact hl1 v2 v3 v5 (some (.int v5)) (o6) (o7) hs hF
  · skip
    rw [if_neg hc] at hF
    refine zg_blk zd_3 4 hs (rfl : zb x zT0 zc_3 4 (41, [some (.ref 91), some (.int v1), some (.int v2), some (.int v3), some (.int v4), some (.int v5), o6, o7], [], h) = some (49, [some (.ref 91), some (.int v1), some (.int v2), some (.int v3), some (.int v4), some (.int v5), o6, o7], [.int v5, .int v4, .int (zf h 91 1)], h)) (fun hs => ?_)
    refine zg_call hs zd_3 rfl rfl rfl rfl (as := [.int v4, .int v5]) (rest := [.int (zf h 91 1)]) (en := [some (.int v4), some (.int v5)]) rfl rfl rfl rfl rfl ?_
    refine f_Cable_bits_t v4 v5 h hs trivial ?_
    show zg x (d + 2) 3 52 [some (.ref 91), some (.int v1), some (.int v2), some (.int v3), some (.int v4), some (.int v5), o6, o7] [.int ((1 <<< ((v5 + 1) &&& 31)) - (1 <<< (v4 &&& 31))), .int (zf h 91 1)] h Q
    refine zg_blk zd_3 1 hs (rfl : zb x zT0 zc_3 1 (52, [some (.ref 91), some (.int v1), some (.int v2), some (.int v3), some (.int v4), some (.int v5), o6, o7], [.int ((1 <<< ((v5 + 1) &&& 31)) - (1 <<< (v4 &&& 31))), .int (zf h 91 1)], h) = some (53, [some (.ref 91), some (.int v1), some (.int v2), some (.int v3), some (.int v4), some (.int v5), o6, o7], [.int ((zf h 91 1) &&& ((1 <<< ((v5 + 1) &&& 31)) - (1 <<< (v4 &&& 31))))], h)) (fun hs => ?_)
    refine zg_call hs zd_3 rfl rfl rfl rfl (as := [.int ((zf h 91 1) &&& ((1 <<< ((v5 + 1) &&& 31)) - (1 <<< (v4 &&& 31))))]) (rest := []) (en := [some (.int ((zf h 91 1) &&& ((1 <<< ((v5 + 1) &&& 31)) - (1 <<< (v4 &&& 31)))))]) rfl rfl rfl rfl rfl ?_
    refine f_Integer_bitCount_t ((zf h 91 1) &&& ((1 <<< ((v5 + 1) &&& 31)) - (1 <<< (v4 &&& 31)))) h hs trivial ?_
    show zg x (d + 2) 3 56 [some (.ref 91), some (.int v1), some (.int v2), some (.int v3), some (.int v4), some (.int v5), o6, o7] [.int (f_Integer_bitCount ((zf h 91 1) &&& ((1 <<< ((v5 + 1) &&& 31)) - (1 <<< (v4 &&& 31)))) h)] h Q
    refine zg_blk zd_3 5 hs (rfl : zb x zT0 zc_3 5 (56, [some (.ref 91), some (.int v1), some (.int v2), some (.int v3), some (.int v4), some (.int v5), o6, o7], [.int (f_Integer_bitCount ((zf h 91 1) &&& ((1 <<< ((v5 + 1) &&& 31)) - (1 <<< (v4 &&& 31)))) h)], h) = some (64, [some (.ref 91), some (.int v1), some (.int v2), some (.int v3), some (.int v4), some (.int v5), some (.int (f_Integer_bitCount ((zf h 91 1) &&& ((1 <<< ((v5 + 1) &&& 31)) - (1 <<< (v4 &&& 31)))) h)), o7], [.int (v1 - (f_Integer_bitCount ((zf h 91 1) &&& ((1 <<< ((v5 + 1) &&& 31)) - (1 <<< (v4 &&& 31)))) h)), .int (f_Integer_bitCount ((zf h 91 1) &&& ((1 <<< ((v5 + 1) &&& 31)) - (1 <<< (v4 &&& 31)))) h)], h)) (fun hs => ?_)
    refine zg_x zd_3 rfl rfl rfl rfl (as := [.int (f_Integer_bitCount ((zf h 91 1) &&& ((1 <<< ((v5 + 1) &&& 31)) - (1 <<< (v4 &&& 31)))) h), .int (v1 - (f_Integer_bitCount ((zf h 91 1) &&& ((1 <<< ((v5 + 1) &&& 31)) - (1 <<< (v4 &&& 31)))) h))]) (rest := []) (w := some (.int (if (f_Integer_bitCount ((zf h 91 1) &&& ((1 <<< ((v5 + 1) &&& 31)) - (1 <<< (v4 &&& 31)))) h) < (v1 - (f_Integer_bitCount ((zf h 91 1) &&& ((1 <<< ((v5 + 1) &&& 31)) - (1 <<< (v4 &&& 31)))) h)) then (v1 - (f_Integer_bitCount ((zf h 91 1) &&& ((1 <<< ((v5 + 1) &&& 31)) - (1 <<< (v4 &&& 31)))) h)) else (f_Integer_bitCount ((zf h 91 1) &&& ((1 <<< ((v5 + 1) &&& 31)) - (1 <<< (v4 &&& 31)))) h)))) rfl rfl rfl ?_
    refine zg_blk zd_3 1 hs (rfl : zb x zT0 zc_3 1 (67, [some (.ref 91), some (.int v1), some (.int v2), some (.int v3), some (.int v4), some (.int v5), some (.int (f_Integer_bitCount ((zf h 91 1) &&& ((1 <<< ((v5 + 1) &&& 31)) - (1 <<< (v4 &&& 31)))) h)), o7], [.int (if (f_Integer_bitCount ((zf h 91 1) &&& ((1 <<< ((v5 + 1) &&& 31)) - (1 <<< (v4 &&& 31)))) h) < (v1 - (f_Integer_bitCount ((zf h 91 1) &&& ((1 <<< ((v5 + 1) &&& 31)) - (1 <<< (v4 &&& 31)))) h)) then (v1 - (f_Integer_bitCount ((zf h 91 1) &&& ((1 <<< ((v5 + 1) &&& 31)) - (1 <<< (v4 &&& 31)))) h)) else (f_Integer_bitCount ((zf h 91 1) &&& ((1 <<< ((v5 + 1) &&& 31)) - (1 <<< (v4 &&& 31)))) h))], h) = some (69, [some (.ref 91), some (.int v1), some (.int v2), some (.int v3), some (.int v4), some (.int v5), some (.int (f_Integer_bitCount ((zf h 91 1) &&& ((1 <<< ((v5 + 1) &&& 31)) - (1 <<< (v4 &&& 31)))) h)), some (.int (if (f_Integer_bitCount ((zf h 91 1) &&& ((1 <<< ((v5 + 1) &&& 31)) - (1 <<< (v4 &&& 31)))) h) < (v1 - (f_Integer_bitCount ((zf h 91 1) &&& ((1 <<< ((v5 + 1) &&& 31)) - (1 <<< (v4 &&& 31)))) h)) then (v1 - (f_Integer_bitCount ((zf h 91 1) &&& ((1 <<< ((v5 + 1) &&& 31)) - (1 <<< (v4 &&& 31)))) h)) else (f_Integer_bitCount ((zf h 91 1) &&& ((1 <<< ((v5 + 1) &&& 31)) - (1 <<< (v4 &&& 31)))) h)))], [], h)) (fun hs => ?_)
    exact f_Cable_findNext_l23_l34_k69_t v1 v2 v3 v4 v5 (if (f_Integer_bitCount ((zf h 91 1) &&& ((1 <<< ((v5 + 1) &&& 31)) - (1 <<< (v4 &&& 31)))) h) < (v1 - (f_Integer_bitCount ((zf h 91 1) &&& ((1 <<< ((v5 + 1) &&& 31)) - (1 <<< (v4 &&& 31)))) h)) then (v1 - (f_Integer_bitCount ((zf h 91 1) &&& ((1 <<< ((v5 + 1) &&& 31)) - (1 <<< (v4 &&& 31)))) h)) else (f_Integer_bitCount ((zf h 91 1) &&& ((1 <<< ((v5 + 1) &&& 31)) - (1 <<< (v4 &&& 31)))) h)) h (some (.int (f_Integer_bitCount ((zf h 91 1) &&& ((1 <<< ((v5 + 1) &&& 31)) - (1 <<< (v4 &&& 31)))) h))) hs trivial hF hl0 hl1
theorem f_Cable_findNext_l23_l34_t {x : zm_X} {d : Nat} (v1 : Int32) (v4 : Int32) (h : zm_H) {Q : Option Value → zm_H → Prop} (G : Nat × Int32 × Int32 × Int32 → Prop) (hx1 : ∀ (v2 : Int32) (v3 : Int32) (v5 : Int32) (o5 : Option Value) (o6 : Option Value) (o7 : Option Value), zSh zT0 h → G (1, v2, v3, v5) → zg x (d + 2) 3 93 [some (.ref 91), some (.int v1), some (.int v2), some (.int v3), some (.int v4), o5, o6, o7] [] h Q) : ∀ (n : Nat) (v2 : Int32) (v3 : Int32) (v5 : Int32) (o6 : Option Value) (o7 : Option Value), zSh zT0 h → f_Cable_findNext_l23_l34_ok v1 v4 h n (v2, v3, v5) → G (f_Cable_findNext_l23_l34 v1 v4 h n (v2, v3, v5)) → zg x (d + 2) 3 34 [some (.ref 91), some (.int v1), some (.int v2), some (.int v3), some (.int v4), some (.int v5), o6, o7] [] h Q := by
  intro n
  induction n with
  | zero => intro v2 v3 v5 o6 o7 hs ho hG; exact ho.elim
  | succ n ih =>
    intro v2 v3 v5 o6 o7 hs ho hG
    refine f_Cable_findNext_l23_l34_b_t (FN := fun r => (r.1 = 0 → f_Cable_findNext_l23_l34_ok v1 v4 h n r.2) ∧ G (if r.1 = 0 then f_Cable_findNext_l23_l34 v1 v4 h n r.2 else r)) v1 v2 v3 v4 v5 h o6 o7 hs ho.1 ⟨ho.2, hG⟩ ?_ ?_
    · intro v2 v3 v5 o6 o7 hs hF
      exact ih v2 v3 v5 o6 o7 hs (hF.1 rfl) hF.2
    · intro v2 v3 v5 o5 o6 o7 hs hF
      exact hx1 v2 v3 v5 o5 o6 o7 hs hF.2

set_option maxRecDepth 100000 in
set_option maxHeartbeats 400000 in
theorem f_Cable_findNext_l23_k93_t {x : zm_X} {d : Nat} (v1 : Int32) (v2 : Int32) (v3 : Int32) (v4 : Int32) (h : zm_H) (o5 : Option Value) (o6 : Option Value) (o7 : Option Value) {Q : Option Value → zm_H → Prop} {FN : Nat × Int32 × Int32 × Int32 → Prop} (hs : zSh zT0 h) (ho : f_Cable_findNext_l23_k93_ok v1 v2 v3 v4 h) (hF : FN (f_Cable_findNext_l23_k93 v1 v2 v3 v4 h)) (hl0 : ∀ (v2 : Int32) (v3 : Int32) (v4 : Int32) (o5 : Option Value) (o6 : Option Value) (o7 : Option Value), zSh zT0 h → FN (0, v2, v3, v4) → zg x (d + 2) 3 23 [some (.ref 91), some (.int v1), some (.int v2), some (.int v3), some (.int v4), o5, o6, o7] [] h Q) (hl1 : ∀ (v2 : Int32) (v3 : Int32) (v4 : Int32) (o3 : Option Value) (o4 : Option Value) (o5 : Option Value) (o6 : Option Value) (o7 : Option Value), zSh zT0 h → FN (1, v2, v3, v4) → zg x (d + 2) 3 99 [some (.ref 91), some (.int v1), some (.int v2), o3, o4, o5, o6, o7] [] h Q) : zg x (d + 2) 3 93 [some (.ref 91), some (.int v1), some (.int v2), some (.int v3), some (.int v4), o5, o6, o7] [] h Q := by
  unfold f_Cable_findNext_l23_k93 at hF
  unfold f_Cable_findNext_l23_k93_ok at ho
  refine zg_blk zd_3 2 hs (rfl : zb x zT0 zc_3 2 (93, [some (.ref 91), some (.int v1), some (.int v2), some (.int v3), some (.int v4), o5, o6, o7], [], h) = some (23, [some (.ref 91), some (.int v1), some (.int v2), some (.int v3), some (.int (v4 + 1)), o5, o6, o7], [], h)) (fun hs => ?_)
  exact hl0 v2 v3 (v4 + 1) (o5) (o6) (o7) hs hF
set_option maxRecDepth 100000 in
set_option maxHeartbeats 400000 in
theorem f_Cable_findNext_l23_b_t {x : zm_X} {d : Nat} (v1 : Int32) (v2 : Int32) (v3 : Int32) (v4 : Int32) (h : zm_H) (o5 : Option Value) (o6 : Option Value) (o7 : Option Value) {Q : Option Value → zm_H → Prop} {FN : Nat × Int32 × Int32 × Int32 → Prop} (hs : zSh zT0 h) (ho : f_Cable_findNext_l23_b_ok v1 v2 v3 v4 h) (hF : FN (f_Cable_findNext_l23_b v1 v2 v3 v4 h)) (hl0 : ∀ (v2 : Int32) (v3 : Int32) (v4 : Int32) (o5 : Option Value) (o6 : Option Value) (o7 : Option Value), zSh zT0 h → FN (0, v2, v3, v4) → zg x (d + 2) 3 23 [some (.ref 91), some (.int v1), some (.int v2), some (.int v3), some (.int v4), o5, o6, o7] [] h Q) (hl1 : ∀ (v2 : Int32) (v3 : Int32) (v4 : Int32) (o3 : Option Value) (o4 : Option Value) (o5 : Option Value) (o6 : Option Value) (o7 : Option Value), zSh zT0 h → FN (1, v2, v3, v4) → zg x (d + 2) 3 99 [some (.ref 91), some (.int v1), some (.int v2), o3, o4, o5, o6, o7] [] h Q) : zg x (d + 2) 3 23 [some (.ref 91), some (.int v1), some (.int v2), some (.int v3), some (.int v4), o5, o6, o7] [] h Q := by
  unfold f_Cable_findNext_l23_b at hF
  unfold f_Cable_findNext_l23_b_ok at ho
  refine zg_blk zd_3 2 hs (rfl : zb x zT0 zc_3 2 (23, [some (.ref 91), some (.int v1), some (.int v2), some (.int v3), some (.int v4), o5, o6, o7], [], h) = some (27, [some (.ref 91), some (.int v1), some (.int v2), some (.int v3), some (.int v4), o5, o6, o7], [.int 16, .int v4], h)) (fun hs => ?_)
  refine zg_i_ge zd_3 rfl (fun (hc : (16 ≤ v4)) => ?_) (fun (hc : ¬ (16 ≤ v4)) => ?_)
  · have ho := ho.1 hc
    rw [if_pos hc] at hF
    exact hl1 v2 v3 v4 (some (.int v3)) (some (.int v4)) (o5) (o6) (o7) hs hF
  · have ho := ho.2 hc
    rw [if_neg hc] at hF
    refine zg_blk zd_3 2 hs (rfl : zb x zT0 zc_3 2 (30, [some (.ref 91), some (.int v1), some (.int v2), some (.int v3), some (.int v4), o5, o6, o7], [], h) = some (34, [some (.ref 91), some (.int v1), some (.int v2), some (.int v3), some (.int v4), some (.int v4), o6, o7], [], h)) (fun hs => ?_)
    refine f_Cable_findNext_l23_l34_t v1 v4 h (fun r => f_Cable_findNext_l23_a34_ok v1 v4 r h ∧ FN (f_Cable_findNext_l23_a34 v1 v4 r h)) ?_ zF v2 v3 v4 (o6) (o7) hs ho.1 ⟨ho.2, hF⟩
    · intro v2_ v3_ v5_ o5_ o6_ o7_ hs hG
      have ho : True := trivial
      have hF : FN ((f_Cable_findNext_l23_k93 v1 v2_ v3_ v4 h)) := hG.2
      exact f_Cable_findNext_l23_k93_t v1 v2_ v3_ v4 h (o5_) (o6_) (o7_) hs trivial hF hl0 hl1
theorem f_Cable_findNext_l23_t {x : zm_X} {d : Nat} (v1 : Int32) (h : zm_H) {Q : Option Value → zm_H → Prop} (G : Nat × Int32 × Int32 × Int32 → Prop) (hx1 : ∀ (v2 : Int32) (v3 : Int32) (v4 : Int32) (o3 : Option Value) (o4 : Option Value) (o5 : Option Value) (o6 : Option Value) (o7 : Option Value), zSh zT0 h → G (1, v2, v3, v4) → zg x (d + 2) 3 99 [some (.ref 91), some (.int v1), some (.int v2), o3, o4, o5, o6, o7] [] h Q) : ∀ (n : Nat) (v2 : Int32) (v3 : Int32) (v4 : Int32) (o5 : Option Value) (o6 : Option Value) (o7 : Option Value), zSh zT0 h → f_Cable_findNext_l23_ok v1 h n (v2, v3, v4) → G (f_Cable_findNext_l23 v1 h n (v2, v3, v4)) → zg x (d + 2) 3 23 [some (.ref 91), some (.int v1), some (.int v2), some (.int v3), some (.int v4), o5, o6, o7] [] h Q := by
  intro n
  induction n with
  | zero => intro v2 v3 v4 o5 o6 o7 hs ho hG; exact ho.elim
  | succ n ih =>
    intro v2 v3 v4 o5 o6 o7 hs ho hG
    refine f_Cable_findNext_l23_b_t (FN := fun r => (r.1 = 0 → f_Cable_findNext_l23_ok v1 h n r.2) ∧ G (if r.1 = 0 then f_Cable_findNext_l23 v1 h n r.2 else r)) v1 v2 v3 v4 h o5 o6 o7 hs ho.1 ⟨ho.2, hG⟩ ?_ ?_
    · intro v2 v3 v4 o5 o6 o7 hs hF
      exact ih v2 v3 v4 o5 o6 o7 hs (hF.1 rfl) hF.2
    · intro v2 v3 v4 o3 o4 o5 o6 o7 hs hF
      exact hx1 v2 v3 v4 o3 o4 o5 o6 o7 hs hF.2

set_option maxRecDepth 100000 in
set_option maxHeartbeats 400000 in
theorem f_Cable_findNext_k99_t {x : zm_X} {d : Nat} (v2 : Int32) (h : zm_H) (o0 : Option Value) (o1 : Option Value) (o3 : Option Value) (o4 : Option Value) (o5 : Option Value) (o6 : Option Value) (o7 : Option Value) {Q : Option Value → zm_H → Prop} (hs : zSh zT0 h) (ho : f_Cable_findNext_k99_ok v2 h) (hF : Q (some (.int (f_Cable_findNext_k99 v2 h))) h) : zg x (d + 2) 3 99 [o0, o1, some (.int v2), o3, o4, o5, o6, o7] [] h Q := by
  unfold f_Cable_findNext_k99 at hF
  unfold f_Cable_findNext_k99_ok at ho
  refine zg_blk zd_3 1 hs (rfl : zb x zT0 zc_3 1 (99, [o0, o1, some (.int v2), o3, o4, o5, o6, o7], [], h) = some (100, [o0, o1, some (.int v2), o3, o4, o5, o6, o7], [.int v2], h)) (fun hs => ?_)
  exact zg_ret zd_3 rfl rfl hF
set_option maxRecDepth 100000 in
set_option maxHeartbeats 400000 in
theorem f_Cable_findNext_t {x : zm_X} {d : Nat} (h : zm_H) {Q : Option Value → zm_H → Prop} (hs : zSh zT0 h) (ho : f_Cable_findNext_ok h) (hF : Q (some (.int (f_Cable_findNext h))) h) : zg x (d + 2) 3 0 [some (.ref 91), none, none, none, none, none, none, none] [] h Q := by
  unfold f_Cable_findNext at hF
  unfold f_Cable_findNext_ok at ho
  refine zg_blk zd_3 2 hs (rfl : zb x zT0 zc_3 2 (0, [some (.ref 91), none, none, none, none, none, none, none], [], h) = some (4, [some (.ref 91), none, none, none, none, none, none, none], [.int (zf h 91 1)], h)) (fun hs => ?_)
  refine zg_call hs zd_3 rfl rfl rfl rfl (as := [.int (zf h 91 1)]) (rest := []) (en := [some (.int (zf h 91 1))]) rfl rfl rfl rfl rfl ?_
  refine f_Integer_bitCount_t (zf h 91 1) h hs trivial ?_
  show zg x (d + 2) 3 7 [some (.ref 91), none, none, none, none, none, none, none] [.int (f_Integer_bitCount (zf h 91 1) h)] h Q
  refine zg_blk zd_3 3 hs (rfl : zb x zT0 zc_3 3 (7, [some (.ref 91), none, none, none, none, none, none, none], [.int (f_Integer_bitCount (zf h 91 1) h)], h) = some (10, [some (.ref 91), some (.int (f_Integer_bitCount (zf h 91 1) h)), none, none, none, none, none, none], [.int 2, .int (f_Integer_bitCount (zf h 91 1) h)], h)) (fun hs => ?_)
  refine zg_i_ge zd_3 rfl (fun (hc : (2 ≤ (f_Integer_bitCount (zf h 91 1) h))) => ?_) (fun (hc : ¬ (2 ≤ (f_Integer_bitCount (zf h 91 1) h))) => ?_)
  · have ho := ho.1 hc
    rw [if_pos hc] at hF
    refine zg_blk zd_3 6 hs (rfl : zb x zT0 zc_3 6 (15, [some (.ref 91), some (.int (f_Integer_bitCount (zf h 91 1) h)), none, none, none, none, none, none], [], h) = some (23, [some (.ref 91), some (.int (f_Integer_bitCount (zf h 91 1) h)), some (.int (-1)), some (.int 17), some (.int 0), none, none, none], [], h)) (fun hs => ?_)
    refine f_Cable_findNext_l23_t (f_Integer_bitCount (zf h 91 1) h) h (fun r => f_Cable_findNext_a23_ok r h ∧ Q (some (.int (f_Cable_findNext_a23 r h))) h) ?_ zF (-1) 17 0 (none) (none) (none) hs ho.1 ⟨ho.2, hF⟩
    · intro v2_ v3_ v4_ o3_ o4_ o5_ o6_ o7_ hs hG
      have ho : True := trivial
      have hF : Q (some (.int ((f_Cable_findNext_k99 v2_ h)))) h := hG.2
      exact f_Cable_findNext_k99_t v2_ h (some (.ref 91)) (some (.int (f_Integer_bitCount (zf h 91 1) h))) (o3_) (o4_) (o5_) (o6_) (o7_) hs trivial hF
  · have ho := ho.2 hc
    rw [if_neg hc] at hF
    refine zg_blk zd_3 1 hs (rfl : zb x zT0 zc_3 1 (13, [some (.ref 91), some (.int (f_Integer_bitCount (zf h 91 1) h)), none, none, none, none, none, none], [], h) = some (14, [some (.ref 91), some (.int (f_Integer_bitCount (zf h 91 1) h)), none, none, none, none, none, none], [.int (-1)], h)) (fun hs => ?_)
    exact zg_ret zd_3 rfl rfl hF
set_option maxRecDepth 100000 in
set_option maxHeartbeats 400000 in
theorem f_N_next_t {x : zm_X} {d : Nat} (h : zm_H) {Q : Option Value → zm_H → Prop} (hs : zSh zT0 h) (ho : f_N_next_ok h) (hF : Q (some (.int (f_N_next h))) h) : zg x (d + 3) 167 0 [some (.ref 0)] [] h Q := by
  unfold f_N_next at hF
  unfold f_N_next_ok at ho
  refine zg_blk zd_167 2 hs (rfl : zb x zT0 zc_167 2 (0, [some (.ref 0)], [], h) = some (4, [some (.ref 0)], [.ref 91], h)) (fun hs => ?_)
  have hob := ho
  refine zg_call hs zd_167 rfl rfl rfl rfl (as := [.ref 91]) (rest := []) (en := [some (.ref 91), none, none, none, none, none, none, none]) rfl rfl rfl rfl rfl ?_
  refine f_Cable_findNext_t  h hs hob ?_
  show zg x (d + 3) 167 7 [some (.ref 0)] [.int (f_Cable_findNext h)] h Q
  exact zg_ret zd_167 rfl rfl hF
theorem zd_261 : zm_cd 261 = zc_261 := by rfl
theorem zd_262 : zm_cd 262 = zc_262 := by rfl
set_option maxRecDepth 100000 in
set_option maxHeartbeats 400000 in
theorem f_M_bits_l4_b_t {x : zm_X} {d : Nat} (v0 : Int32) (v1 : Int32) (v2 : Int32) (h : zm_H) {Q : Option Value → zm_H → Prop} {FN : Nat × Int32 × Int32 → Prop} (hs : zSh zT0 h) (ho : f_M_bits_l4_b_ok v0 v1 v2 h) (hF : FN (f_M_bits_l4_b v0 v1 v2 h)) (hl0 : ∀ (v1 : Int32) (v2 : Int32), zSh zT0 h → FN (0, v1, v2) → zg x (d + 1) 262 4 [some (.int v0), some (.int v1), some (.int v2)] [] h Q) (hl1 : ∀ (v1 : Int32) (v2 : Int32) (o2 : Option Value), zSh zT0 h → FN (1, v1, v2) → zg x (d + 1) 262 24 [some (.int v0), some (.int v1), o2] [] h Q) : zg x (d + 1) 262 4 [some (.int v0), some (.int v1), some (.int v2)] [] h Q := by
  unfold f_M_bits_l4_b at hF
  unfold f_M_bits_l4_b_ok at ho
  refine zg_blk zd_262 2 hs (rfl : zb x zT0 zc_262 2 (4, [some (.int v0), some (.int v1), some (.int v2)], [], h) = some (7, [some (.int v0), some (.int v1), some (.int v2)], [.int 16, .int v2], h)) (fun hs => ?_)
  refine zg_i_ge zd_262 rfl (fun (hc : (16 ≤ v2)) => ?_) (fun (hc : ¬ (16 ≤ v2)) => ?_)
  · skip
    rw [if_pos hc] at hF
    exact hl1 v1 v2 (some (.int v2)) hs hF
  · skip
    rw [if_neg hc] at hF
    refine zg_blk zd_262 10 hs (rfl : zb x zT0 zc_262 10 (10, [some (.int v0), some (.int v1), some (.int v2)], [], h) = some (4, [some (.int v0), some (.int (v1 + ((v0 >>> (v2 &&& 31)) &&& 1))), some (.int (v2 + 1))], [], h)) (fun hs => ?_)
    exact hl0 (v1 + ((v0 >>> (v2 &&& 31)) &&& 1)) (v2 + 1) hs hF
theorem f_M_bits_l4_t {x : zm_X} {d : Nat} (v0 : Int32) (h : zm_H) {Q : Option Value → zm_H → Prop} (G : Nat × Int32 × Int32 → Prop) (hx1 : ∀ (v1 : Int32) (v2 : Int32) (o2 : Option Value), zSh zT0 h → G (1, v1, v2) → zg x (d + 1) 262 24 [some (.int v0), some (.int v1), o2] [] h Q) : ∀ (n : Nat) (v1 : Int32) (v2 : Int32), zSh zT0 h → f_M_bits_l4_ok v0 h n (v1, v2) → G (f_M_bits_l4 v0 h n (v1, v2)) → zg x (d + 1) 262 4 [some (.int v0), some (.int v1), some (.int v2)] [] h Q := by
  intro n
  induction n with
  | zero => intro v1 v2 hs ho hG; exact ho.elim
  | succ n ih =>
    intro v1 v2 hs ho hG
    refine f_M_bits_l4_b_t (FN := fun r => (r.1 = 0 → f_M_bits_l4_ok v0 h n r.2) ∧ G (if r.1 = 0 then f_M_bits_l4 v0 h n r.2 else r)) v0 v1 v2 h hs ho.1 ⟨ho.2, hG⟩ ?_ ?_
    · intro v1 v2 hs hF
      exact ih v1 v2 hs (hF.1 rfl) hF.2
    · intro v1 v2 o2 hs hF
      exact hx1 v1 v2 o2 hs hF.2

set_option maxRecDepth 100000 in
set_option maxHeartbeats 400000 in
theorem f_M_bits_k24_t {x : zm_X} {d : Nat} (v1 : Int32) (h : zm_H) (z0 : Int32) (o2 : Option Value) {Q : Option Value → zm_H → Prop} (hs : zSh zT0 h) (ho : f_M_bits_k24_ok v1 h) (hF : Q (some (.int (f_M_bits_k24 v1 h))) h) : zg x (d + 1) 262 24 [some (.int z0), some (.int v1), o2] [] h Q := by
  unfold f_M_bits_k24 at hF
  unfold f_M_bits_k24_ok at ho
  refine zg_blk zd_262 1 hs (rfl : zb x zT0 zc_262 1 (24, [some (.int z0), some (.int v1), o2], [], h) = some (25, [some (.int z0), some (.int v1), o2], [.int v1], h)) (fun hs => ?_)
  exact zg_ret zd_262 rfl rfl hF
set_option maxRecDepth 100000 in
set_option maxHeartbeats 400000 in
theorem f_M_bits_t {x : zm_X} {d : Nat} (p0 : Int32) (h : zm_H) {Q : Option Value → zm_H → Prop} (hs : zSh zT0 h) (ho : f_M_bits_ok p0 h) (hF : Q (some (.int (f_M_bits p0 h))) h) : zg x (d + 1) 262 0 [some (.int p0), none, none] [] h Q := by
  unfold f_M_bits at hF
  unfold f_M_bits_ok at ho
  refine zg_blk zd_262 4 hs (rfl : zb x zT0 zc_262 4 (0, [some (.int p0), none, none], [], h) = some (4, [some (.int p0), some (.int 0), some (.int 0)], [], h)) (fun hs => ?_)
  refine f_M_bits_l4_t p0 h (fun r => f_M_bits_a4_ok r h ∧ Q (some (.int (f_M_bits_a4 r h))) h) ?_ zF 0 0 hs ho.1 ⟨ho.2, hF⟩
  · intro v1_ v2_ o2_ hs hG
    have ho : True := trivial
    have hF : Q (some (.int ((f_M_bits_k24 v1_ h)))) h := hG.2
    exact f_M_bits_k24_t v1_ h p0 (o2_) hs trivial hF
set_option maxRecDepth 100000 in
set_option maxHeartbeats 400000 in
theorem f_M_next_l20_l29_k80_t {x : zm_X} {d : Nat} (v1 : Int32) (v2 : Int32) (v3 : Int32) (v4 : Int32) (v7 : Int32) (h : zm_H) (o5 : Option Value) (o6 : Option Value) {Q : Option Value → zm_H → Prop} {FN : Nat × Int32 × Int32 × Int32 → Prop} (hs : zSh zT0 h) (ho : f_M_next_l20_l29_k80_ok v1 v2 v3 v4 v7 h) (hF : FN (f_M_next_l20_l29_k80 v1 v2 v3 v4 v7 h)) (hl0 : ∀ (v1 : Int32) (v2 : Int32) (v4 : Int32) (o5 : Option Value) (o6 : Option Value) (o7 : Option Value), zSh zT0 h → FN (0, v1, v2, v4) → zg x (d + 2) 261 29 [some (.ref 92), some (.int v1), some (.int v2), some (.int v3), some (.int v4), o5, o6, o7] [] h Q) (hl1 : ∀ (v1 : Int32) (v2 : Int32) (v4 : Int32) (o4 : Option Value) (o5 : Option Value) (o6 : Option Value) (o7 : Option Value), zSh zT0 h → FN (1, v1, v2, v4) → zg x (d + 2) 261 106 [some (.ref 92), some (.int v1), some (.int v2), some (.int v3), o4, o5, o6, o7] [] h Q) : zg x (d + 2) 261 80 [some (.ref 92), some (.int v1), some (.int v2), some (.int v3), some (.int v4), o5, o6, some (.int v7)] [] h Q := by
  unfold f_M_next_l20_l29_k80 at hF
  unfold f_M_next_l20_l29_k80_ok at ho
  refine zg_blk zd_261 2 hs (rfl : zb x zT0 zc_261 2 (80, [some (.ref 92), some (.int v1), some (.int v2), some (.int v3), some (.int v4), o5, o6, some (.int v7)], [], h) = some (83, [some (.ref 92), some (.int v1), some (.int v2), some (.int v3), some (.int v4), o5, o6, some (.int v7)], [.int v1, .int v7], h)) (fun hs => ?_)
  have K184 : zSh zT0 h → zg x (d + 2) 261 100 [some (.ref 92), some (.int (if (v7 < v1) then (v7 : Int32) else v1)), some (.int (if (v7 < v1) then (((100 * v3) + v4) : Int32) else v2)), some (.int v3), some (.int v4), o5, o6, some (.int v7)] [] h Q := fun hs => by
    refine zg_blk zd_261 2 hs (rfl : zb x zT0 zc_261 2 (100, [some (.ref 92), some (.int (if (v7 < v1) then (v7 : Int32) else v1)), some (.int (if (v7 < v1) then (((100 * v3) + v4) : Int32) else v2)), some (.int v3), some (.int v4), o5, o6, some (.int v7)], [], h) = some (29, [some (.ref 92), some (.int (if (v7 < v1) then (v7 : Int32) else v1)), some (.int (if (v7 < v1) then (((100 * v3) + v4) : Int32) else v2)), some (.int v3), some (.int (v4 + 1)), o5, o6, some (.int v7)], [], h)) (fun hs => ?_)
    exact hl0 (if (v7 < v1) then (v7 : Int32) else v1) (if (v7 < v1) then (((100 * v3) + v4) : Int32) else v2) (v4 + 1) (o5) (o6) (some (.int v7)) hs hF
  refine zg_i_lt zd_261 rfl (fun (hc : (v7 < v1)) => ?_) (fun (hc : ¬ (v7 < v1)) => ?_)
  · skip
    rw [show ((if (v7 < v1) then (v7 : Int32) else v1) : Int32) = v7 from if_pos hc] at K184
    rw [show ((if (v7 < v1) then (((100 * v3) + v4) : Int32) else v2) : Int32) = ((100 * v3) + v4) from if_pos hc] at K184
    refine zg_blk zd_261 8 hs (rfl : zb x zT0 zc_261 8 (89, [some (.ref 92), some (.int v1), some (.int v2), some (.int v3), some (.int v4), o5, o6, some (.int v7)], [], h) = some (100, [some (.ref 92), some (.int v7), some (.int ((100 * v3) + v4)), some (.int v3), some (.int v4), o5, o6, some (.int v7)], [], h)) (fun hs => ?_)
    exact K184 hs
  · skip
    rw [show ((if (v7 < v1) then (v7 : Int32) else v1) : Int32) = v1 from if_neg hc] at K184
    rw [show ((if (v7 < v1) then (((100 * v3) + v4) : Int32) else v2) : Int32) = v2 from if_neg hc] at K184
    refine zg_blk zd_261 1 hs (rfl : zb x zT0 zc_261 1 (86, [some (.ref 92), some (.int v1), some (.int v2), some (.int v3), some (.int v4), o5, o6, some (.int v7)], [], h) = some (100, [some (.ref 92), some (.int v1), some (.int v2), some (.int v3), some (.int v4), o5, o6, some (.int v7)], [], h)) (fun hs => ?_)
    exact K184 hs
set_option maxRecDepth 100000 in
set_option maxHeartbeats 400000 in
theorem f_M_next_l20_l29_b_t {x : zm_X} {d : Nat} (v1 : Int32) (v2 : Int32) (v3 : Int32) (v4 : Int32) (h : zm_H) (o5 : Option Value) (o6 : Option Value) (o7 : Option Value) {Q : Option Value → zm_H → Prop} {FN : Nat × Int32 × Int32 × Int32 → Prop} (hs : zSh zT0 h) (ho : f_M_next_l20_l29_b_ok v1 v2 v3 v4 h) (hF : FN (f_M_next_l20_l29_b v1 v2 v3 v4 h)) (hl0 : ∀ (v1 : Int32) (v2 : Int32) (v4 : Int32) (o5 : Option Value) (o6 : Option Value) (o7 : Option Value), zSh zT0 h → FN (0, v1, v2, v4) → zg x (d + 2) 261 29 [some (.ref 92), some (.int v1), some (.int v2), some (.int v3), some (.int v4), o5, o6, o7] [] h Q) (hl1 : ∀ (v1 : Int32) (v2 : Int32) (v4 : Int32) (o4 : Option Value) (o5 : Option Value) (o6 : Option Value) (o7 : Option Value), zSh zT0 h → FN (1, v1, v2, v4) → zg x (d + 2) 261 106 [some (.ref 92), some (.int v1), some (.int v2), some (.int v3), o4, o5, o6, o7] [] h Q) : zg x (d + 2) 261 29 [some (.ref 92), some (.int v1), some (.int v2), some (.int v3), some (.int v4), o5, o6, o7] [] h Q := by
  unfold f_M_next_l20_l29_b at hF
  unfold f_M_next_l20_l29_b_ok at ho
  refine zg_blk zd_261 2 hs (rfl : zb x zT0 zc_261 2 (29, [some (.ref 92), some (.int v1), some (.int v2), some (.int v3), some (.int v4), o5, o6, o7], [], h) = some (33, [some (.ref 92), some (.int v1), some (.int v2), some (.int v3), some (.int v4), o5, o6, o7], [.int 16, .int v4], h)) (fun hs => ?_)
  refine zg_i_ge zd_261 rfl (fun (hc : (16 ≤ v4)) => ?_) (fun (hc : ¬ (16 ≤ v4)) => ?_)
  · have ho := ho.1 hc
    rw [if_pos hc] at hF
    exact hl1 v1 v2 v4 (some (.int v4)) (o5) (o6) (o7) hs hF
  · have ho := ho.2 hc
    rw [if_neg hc] at hF
    refine zg_blk zd_261 4 hs (rfl : zb x zT0 zc_261 4 (36, [some (.ref 92), some (.int v1), some (.int v2), some (.int v3), some (.int v4), o5, o6, o7], [], h) = some (43, [some (.ref 92), some (.int v1), some (.int v2), some (.int v3), some (.int v4), o5, o6, o7], [.int v4, .int v3, .int (zf h 92 78)], h)) (fun hs => ?_)
    refine zg_call hs zd_261 rfl rfl rfl rfl (as := [.int v3, .int v4]) (rest := [.int (zf h 92 78)]) (en := [some (.int v3), some (.int v4)]) rfl rfl rfl rfl rfl ?_
    refine f_M_span_t v3 v4 h hs trivial ?_
    show zg x (d + 2) 261 46 [some (.ref 92), some (.int v1), some (.int v2), some (.int v3), some (.int v4), o5, o6, o7] [.int ((1 <<< ((v4 + 1) &&& 31)) - (1 <<< (v3 &&& 31))), .int (zf h 92 78)] h Q
    refine zg_blk zd_261 1 hs (rfl : zb x zT0 zc_261 1 (46, [some (.ref 92), some (.int v1), some (.int v2), some (.int v3), some (.int v4), o5, o6, o7], [.int ((1 <<< ((v4 + 1) &&& 31)) - (1 <<< (v3 &&& 31))), .int (zf h 92 78)], h) = some (47, [some (.ref 92), some (.int v1), some (.int v2), some (.int v3), some (.int v4), o5, o6, o7], [.int ((zf h 92 78) &&& ((1 <<< ((v4 + 1) &&& 31)) - (1 <<< (v3 &&& 31))))], h)) (fun hs => ?_)
    obtain ⟨hob, ho⟩ := ho
    refine zg_call hs zd_261 rfl rfl rfl rfl (as := [.int ((zf h 92 78) &&& ((1 <<< ((v4 + 1) &&& 31)) - (1 <<< (v3 &&& 31))))]) (rest := []) (en := [some (.int ((zf h 92 78) &&& ((1 <<< ((v4 + 1) &&& 31)) - (1 <<< (v3 &&& 31))))), none, none]) rfl rfl rfl rfl rfl ?_
    refine f_M_bits_t ((zf h 92 78) &&& ((1 <<< ((v4 + 1) &&& 31)) - (1 <<< (v3 &&& 31)))) h hs hob ?_
    show zg x (d + 2) 261 50 [some (.ref 92), some (.int v1), some (.int v2), some (.int v3), some (.int v4), o5, o6, o7] [.int (f_M_bits ((zf h 92 78) &&& ((1 <<< ((v4 + 1) &&& 31)) - (1 <<< (v3 &&& 31)))) h)] h Q
    refine zg_blk zd_261 3 hs (rfl : zb x zT0 zc_261 3 (50, [some (.ref 92), some (.int v1), some (.int v2), some (.int v3), some (.int v4), o5, o6, o7], [.int (f_M_bits ((zf h 92 78) &&& ((1 <<< ((v4 + 1) &&& 31)) - (1 <<< (v3 &&& 31)))) h)], h) = some (56, [some (.ref 92), some (.int v1), some (.int v2), some (.int v3), some (.int v4), some (.int (f_M_bits ((zf h 92 78) &&& ((1 <<< ((v4 + 1) &&& 31)) - (1 <<< (v3 &&& 31)))) h)), o6, o7], [.int (zf h 92 78)], h)) (fun hs => ?_)
    have hob := ho
    refine zg_call hs zd_261 rfl rfl rfl rfl (as := [.int (zf h 92 78)]) (rest := []) (en := [some (.int (zf h 92 78)), none, none]) rfl rfl rfl rfl rfl ?_
    refine f_M_bits_t (zf h 92 78) h hs hob ?_
    show zg x (d + 2) 261 59 [some (.ref 92), some (.int v1), some (.int v2), some (.int v3), some (.int v4), some (.int (f_M_bits ((zf h 92 78) &&& ((1 <<< ((v4 + 1) &&& 31)) - (1 <<< (v3 &&& 31)))) h)), o6, o7] [.int (f_M_bits (zf h 92 78) h)] h Q
    refine zg_blk zd_261 5 hs (rfl : zb x zT0 zc_261 5 (59, [some (.ref 92), some (.int v1), some (.int v2), some (.int v3), some (.int v4), some (.int (f_M_bits ((zf h 92 78) &&& ((1 <<< ((v4 + 1) &&& 31)) - (1 <<< (v3 &&& 31)))) h)), o6, o7], [.int (f_M_bits (zf h 92 78) h)], h) = some (68, [some (.ref 92), some (.int v1), some (.int v2), some (.int v3), some (.int v4), some (.int (f_M_bits ((zf h 92 78) &&& ((1 <<< ((v4 + 1) &&& 31)) - (1 <<< (v3 &&& 31)))) h)), some (.int ((f_M_bits (zf h 92 78) h) - (f_M_bits ((zf h 92 78) &&& ((1 <<< ((v4 + 1) &&& 31)) - (1 <<< (v3 &&& 31)))) h))), o7], [.int ((f_M_bits (zf h 92 78) h) - (f_M_bits ((zf h 92 78) &&& ((1 <<< ((v4 + 1) &&& 31)) - (1 <<< (v3 &&& 31)))) h)), .int (f_M_bits ((zf h 92 78) &&& ((1 <<< ((v4 + 1) &&& 31)) - (1 <<< (v3 &&& 31)))) h)], h)) (fun hs => ?_)
    have K185 : zSh zT0 h → zg x (d + 2) 261 78 [some (.ref 92), some (.int v1), some (.int v2), some (.int v3), some (.int v4), some (.int (f_M_bits ((zf h 92 78) &&& ((1 <<< ((v4 + 1) &&& 31)) - (1 <<< (v3 &&& 31)))) h)), some (.int ((f_M_bits (zf h 92 78) h) - (f_M_bits ((zf h 92 78) &&& ((1 <<< ((v4 + 1) &&& 31)) - (1 <<< (v3 &&& 31)))) h))), o7] [.int (if ((f_M_bits ((zf h 92 78) &&& ((1 <<< ((v4 + 1) &&& 31)) - (1 <<< (v3 &&& 31)))) h) ≤ ((f_M_bits (zf h 92 78) h) - (f_M_bits ((zf h 92 78) &&& ((1 <<< ((v4 + 1) &&& 31)) - (1 <<< (v3 &&& 31)))) h))) then (((f_M_bits (zf h 92 78) h) - (f_M_bits ((zf h 92 78) &&& ((1 <<< ((v4 + 1) &&& 31)) - (1 <<< (v3 &&& 31)))) h)) : Int32) else (f_M_bits ((zf h 92 78) &&& ((1 <<< ((v4 + 1) &&& 31)) - (1 <<< (v3 &&& 31)))) h))] h Q := fun hs => by
      refine zg_blk zd_261 1 hs (rfl : zb x zT0 zc_261 1 (78, [some (.ref 92), some (.int v1), some (.int v2), some (.int v3), some (.int v4), some (.int (f_M_bits ((zf h 92 78) &&& ((1 <<< ((v4 + 1) &&& 31)) - (1 <<< (v3 &&& 31)))) h)), some (.int ((f_M_bits (zf h 92 78) h) - (f_M_bits ((zf h 92 78) &&& ((1 <<< ((v4 + 1) &&& 31)) - (1 <<< (v3 &&& 31)))) h))), o7], [.int (if ((f_M_bits ((zf h 92 78) &&& ((1 <<< ((v4 + 1) &&& 31)) - (1 <<< (v3 &&& 31)))) h) ≤ ((f_M_bits (zf h 92 78) h) - (f_M_bits ((zf h 92 78) &&& ((1 <<< ((v4 + 1) &&& 31)) - (1 <<< (v3 &&& 31)))) h))) then (((f_M_bits (zf h 92 78) h) - (f_M_bits ((zf h 92 78) &&& ((1 <<< ((v4 + 1) &&& 31)) - (1 <<< (v3 &&& 31)))) h)) : Int32) else (f_M_bits ((zf h 92 78) &&& ((1 <<< ((v4 + 1) &&& 31)) - (1 <<< (v3 &&& 31)))) h))], h) = some (80, [some (.ref 92), some (.int v1), some (.int v2), some (.int v3), some (.int v4), some (.int (f_M_bits ((zf h 92 78) &&& ((1 <<< ((v4 + 1) &&& 31)) - (1 <<< (v3 &&& 31)))) h)), some (.int ((f_M_bits (zf h 92 78) h) - (f_M_bits ((zf h 92 78) &&& ((1 <<< ((v4 + 1) &&& 31)) - (1 <<< (v3 &&& 31)))) h))), some (.int (if ((f_M_bits ((zf h 92 78) &&& ((1 <<< ((v4 + 1) &&& 31)) - (1 <<< (v3 &&& 31)))) h) ≤ ((f_M_bits (zf h 92 78) h) - (f_M_bits ((zf h 92 78) &&& ((1 <<< ((v4 + 1) &&& 31)) - (1 <<< (v3 &&& 31)))) h))) then (((f_M_bits (zf h 92 78) h) - (f_M_bits ((zf h 92 78) &&& ((1 <<< ((v4 + 1) &&& 31)) - (1 <<< (v3 &&& 31)))) h)) : Int32) else (f_M_bits ((zf h 92 78) &&& ((1 <<< ((v4 + 1) &&& 31)) - (1 <<< (v3 &&& 31)))) h)))], [], h)) (fun hs => ?_)
      exact f_M_next_l20_l29_k80_t v1 v2 v3 v4 (if ((f_M_bits ((zf h 92 78) &&& ((1 <<< ((v4 + 1) &&& 31)) - (1 <<< (v3 &&& 31)))) h) ≤ ((f_M_bits (zf h 92 78) h) - (f_M_bits ((zf h 92 78) &&& ((1 <<< ((v4 + 1) &&& 31)) - (1 <<< (v3 &&& 31)))) h))) then (((f_M_bits (zf h 92 78) h) - (f_M_bits ((zf h 92 78) &&& ((1 <<< ((v4 + 1) &&& 31)) - (1 <<< (v3 &&& 31)))) h)) : Int32) else (f_M_bits ((zf h 92 78) &&& ((1 <<< ((v4 + 1) &&& 31)) - (1 <<< (v3 &&& 31)))) h)) h (some (.int (f_M_bits ((zf h 92 78) &&& ((1 <<< ((v4 + 1) &&& 31)) - (1 <<< (v3 &&& 31)))) h))) (some (.int ((f_M_bits (zf h 92 78) h) - (f_M_bits ((zf h 92 78) &&& ((1 <<< ((v4 + 1) &&& 31)) - (1 <<< (v3 &&& 31)))) h)))) hs trivial hF hl0 hl1
    refine zg_i_le zd_261 rfl (fun (hc : ((f_M_bits ((zf h 92 78) &&& ((1 <<< ((v4 + 1) &&& 31)) - (1 <<< (v3 &&& 31)))) h) ≤ ((f_M_bits (zf h 92 78) h) - (f_M_bits ((zf h 92 78) &&& ((1 <<< ((v4 + 1) &&& 31)) - (1 <<< (v3 &&& 31)))) h)))) => ?_) (fun (hc : ¬ ((f_M_bits ((zf h 92 78) &&& ((1 <<< ((v4 + 1) &&& 31)) - (1 <<< (v3 &&& 31)))) h) ≤ ((f_M_bits (zf h 92 78) h) - (f_M_bits ((zf h 92 78) &&& ((1 <<< ((v4 + 1) &&& 31)) - (1 <<< (v3 &&& 31)))) h)))) => ?_)
    · skip
      rw [show ((if ((f_M_bits ((zf h 92 78) &&& ((1 <<< ((v4 + 1) &&& 31)) - (1 <<< (v3 &&& 31)))) h) ≤ ((f_M_bits (zf h 92 78) h) - (f_M_bits ((zf h 92 78) &&& ((1 <<< ((v4 + 1) &&& 31)) - (1 <<< (v3 &&& 31)))) h))) then (((f_M_bits (zf h 92 78) h) - (f_M_bits ((zf h 92 78) &&& ((1 <<< ((v4 + 1) &&& 31)) - (1 <<< (v3 &&& 31)))) h)) : Int32) else (f_M_bits ((zf h 92 78) &&& ((1 <<< ((v4 + 1) &&& 31)) - (1 <<< (v3 &&& 31)))) h)) : Int32) = ((f_M_bits (zf h 92 78) h) - (f_M_bits ((zf h 92 78) &&& ((1 <<< ((v4 + 1) &&& 31)) - (1 <<< (v3 &&& 31)))) h)) from if_pos hc] at K185
      refine zg_blk zd_261 1 hs (rfl : zb x zT0 zc_261 1 (76, [some (.ref 92), some (.int v1), some (.int v2), some (.int v3), some (.int v4), some (.int (f_M_bits ((zf h 92 78) &&& ((1 <<< ((v4 + 1) &&& 31)) - (1 <<< (v3 &&& 31)))) h)), some (.int ((f_M_bits (zf h 92 78) h) - (f_M_bits ((zf h 92 78) &&& ((1 <<< ((v4 + 1) &&& 31)) - (1 <<< (v3 &&& 31)))) h))), o7], [], h) = some (78, [some (.ref 92), some (.int v1), some (.int v2), some (.int v3), some (.int v4), some (.int (f_M_bits ((zf h 92 78) &&& ((1 <<< ((v4 + 1) &&& 31)) - (1 <<< (v3 &&& 31)))) h)), some (.int ((f_M_bits (zf h 92 78) h) - (f_M_bits ((zf h 92 78) &&& ((1 <<< ((v4 + 1) &&& 31)) - (1 <<< (v3 &&& 31)))) h))), o7], [.int ((f_M_bits (zf h 92 78) h) - (f_M_bits ((zf h 92 78) &&& ((1 <<< ((v4 + 1) &&& 31)) - (1 <<< (v3 &&& 31)))) h))], h)) (fun hs => ?_)
      exact K185 hs
    · skip
      rw [show ((if ((f_M_bits ((zf h 92 78) &&& ((1 <<< ((v4 + 1) &&& 31)) - (1 <<< (v3 &&& 31)))) h) ≤ ((f_M_bits (zf h 92 78) h) - (f_M_bits ((zf h 92 78) &&& ((1 <<< ((v4 + 1) &&& 31)) - (1 <<< (v3 &&& 31)))) h))) then (((f_M_bits (zf h 92 78) h) - (f_M_bits ((zf h 92 78) &&& ((1 <<< ((v4 + 1) &&& 31)) - (1 <<< (v3 &&& 31)))) h)) : Int32) else (f_M_bits ((zf h 92 78) &&& ((1 <<< ((v4 + 1) &&& 31)) - (1 <<< (v3 &&& 31)))) h)) : Int32) = (f_M_bits ((zf h 92 78) &&& ((1 <<< ((v4 + 1) &&& 31)) - (1 <<< (v3 &&& 31)))) h) from if_neg hc] at K185
      refine zg_blk zd_261 2 hs (rfl : zb x zT0 zc_261 2 (71, [some (.ref 92), some (.int v1), some (.int v2), some (.int v3), some (.int v4), some (.int (f_M_bits ((zf h 92 78) &&& ((1 <<< ((v4 + 1) &&& 31)) - (1 <<< (v3 &&& 31)))) h)), some (.int ((f_M_bits (zf h 92 78) h) - (f_M_bits ((zf h 92 78) &&& ((1 <<< ((v4 + 1) &&& 31)) - (1 <<< (v3 &&& 31)))) h))), o7], [], h) = some (78, [some (.ref 92), some (.int v1), some (.int v2), some (.int v3), some (.int v4), some (.int (f_M_bits ((zf h 92 78) &&& ((1 <<< ((v4 + 1) &&& 31)) - (1 <<< (v3 &&& 31)))) h)), some (.int ((f_M_bits (zf h 92 78) h) - (f_M_bits ((zf h 92 78) &&& ((1 <<< ((v4 + 1) &&& 31)) - (1 <<< (v3 &&& 31)))) h))), o7], [.int (f_M_bits ((zf h 92 78) &&& ((1 <<< ((v4 + 1) &&& 31)) - (1 <<< (v3 &&& 31)))) h)], h)) (fun hs => ?_)
      exact K185 hs
theorem f_M_next_l20_l29_t {x : zm_X} {d : Nat} (v3 : Int32) (h : zm_H) {Q : Option Value → zm_H → Prop} (G : Nat × Int32 × Int32 × Int32 → Prop) (hx1 : ∀ (v1 : Int32) (v2 : Int32) (v4 : Int32) (o4 : Option Value) (o5 : Option Value) (o6 : Option Value) (o7 : Option Value), zSh zT0 h → G (1, v1, v2, v4) → zg x (d + 2) 261 106 [some (.ref 92), some (.int v1), some (.int v2), some (.int v3), o4, o5, o6, o7] [] h Q) : ∀ (n : Nat) (v1 : Int32) (v2 : Int32) (v4 : Int32) (o5 : Option Value) (o6 : Option Value) (o7 : Option Value), zSh zT0 h → f_M_next_l20_l29_ok v3 h n (v1, v2, v4) → G (f_M_next_l20_l29 v3 h n (v1, v2, v4)) → zg x (d + 2) 261 29 [some (.ref 92), some (.int v1), some (.int v2), some (.int v3), some (.int v4), o5, o6, o7] [] h Q := by
  intro n
  induction n with
  | zero => intro v1 v2 v4 o5 o6 o7 hs ho hG; exact ho.elim
  | succ n ih =>
    intro v1 v2 v4 o5 o6 o7 hs ho hG
    refine f_M_next_l20_l29_b_t (FN := fun r => (r.1 = 0 → f_M_next_l20_l29_ok v3 h n r.2) ∧ G (if r.1 = 0 then f_M_next_l20_l29 v3 h n r.2 else r)) v1 v2 v3 v4 h o5 o6 o7 hs ho.1 ⟨ho.2, hG⟩ ?_ ?_
    · intro v1 v2 v4 o5 o6 o7 hs hF
      exact ih v1 v2 v4 o5 o6 o7 hs (hF.1 rfl) hF.2
    · intro v1 v2 v4 o4 o5 o6 o7 hs hF
      exact hx1 v1 v2 v4 o4 o5 o6 o7 hs hF.2

set_option maxRecDepth 100000 in
set_option maxHeartbeats 400000 in
theorem f_M_next_l20_k106_t {x : zm_X} {d : Nat} (v1 : Int32) (v2 : Int32) (v3 : Int32) (h : zm_H) (o4 : Option Value) (o5 : Option Value) (o6 : Option Value) (o7 : Option Value) {Q : Option Value → zm_H → Prop} {FN : Nat × Int32 × Int32 × Int32 → Prop} (hs : zSh zT0 h) (ho : f_M_next_l20_k106_ok v1 v2 v3 h) (hF : FN (f_M_next_l20_k106 v1 v2 v3 h)) (hl0 : ∀ (v1 : Int32) (v2 : Int32) (v3 : Int32) (o4 : Option Value) (o5 : Option Value) (o6 : Option Value) (o7 : Option Value), zSh zT0 h → FN (0, v1, v2, v3) → zg x (d + 2) 261 20 [some (.ref 92), some (.int v1), some (.int v2), some (.int v3), o4, o5, o6, o7] [] h Q) (hl1 : ∀ (v1 : Int32) (v2 : Int32) (v3 : Int32) (o1 : Option Value) (o3 : Option Value) (o4 : Option Value) (o5 : Option Value) (o6 : Option Value) (o7 : Option Value), zSh zT0 h → FN (1, v1, v2, v3) → zg x (d + 2) 261 112 [some (.ref 92), o1, some (.int v2), o3, o4, o5, o6, o7] [] h Q) : zg x (d + 2) 261 106 [some (.ref 92), some (.int v1), some (.int v2), some (.int v3), o4, o5, o6, o7] [] h Q := by
  unfold f_M_next_l20_k106 at hF
  unfold f_M_next_l20_k106_ok at ho
  refine zg_blk zd_261 2 hs (rfl : zb x zT0 zc_261 2 (106, [some (.ref 92), some (.int v1), some (.int v2), some (.int v3), o4, o5, o6, o7], [], h) = some (20, [some (.ref 92), some (.int v1), some (.int v2), some (.int (v3 + 1)), o4, o5, o6, o7], [], h)) (fun hs => ?_)
  exact hl0 v1 v2 (v3 + 1) (o4) (o5) (o6) (o7) hs hF
set_option maxRecDepth 100000 in
set_option maxHeartbeats 400000 in
theorem f_M_next_l20_b_t {x : zm_X} {d : Nat} (v1 : Int32) (v2 : Int32) (v3 : Int32) (h : zm_H) (o4 : Option Value) (o5 : Option Value) (o6 : Option Value) (o7 : Option Value) {Q : Option Value → zm_H → Prop} {FN : Nat × Int32 × Int32 × Int32 → Prop} (hs : zSh zT0 h) (ho : f_M_next_l20_b_ok v1 v2 v3 h) (hF : FN (f_M_next_l20_b v1 v2 v3 h)) (hl0 : ∀ (v1 : Int32) (v2 : Int32) (v3 : Int32) (o4 : Option Value) (o5 : Option Value) (o6 : Option Value) (o7 : Option Value), zSh zT0 h → FN (0, v1, v2, v3) → zg x (d + 2) 261 20 [some (.ref 92), some (.int v1), some (.int v2), some (.int v3), o4, o5, o6, o7] [] h Q) (hl1 : ∀ (v1 : Int32) (v2 : Int32) (v3 : Int32) (o1 : Option Value) (o3 : Option Value) (o4 : Option Value) (o5 : Option Value) (o6 : Option Value) (o7 : Option Value), zSh zT0 h → FN (1, v1, v2, v3) → zg x (d + 2) 261 112 [some (.ref 92), o1, some (.int v2), o3, o4, o5, o6, o7] [] h Q) : zg x (d + 2) 261 20 [some (.ref 92), some (.int v1), some (.int v2), some (.int v3), o4, o5, o6, o7] [] h Q := by
  unfold f_M_next_l20_b at hF
  unfold f_M_next_l20_b_ok at ho
  refine zg_blk zd_261 2 hs (rfl : zb x zT0 zc_261 2 (20, [some (.ref 92), some (.int v1), some (.int v2), some (.int v3), o4, o5, o6, o7], [], h) = some (23, [some (.ref 92), some (.int v1), some (.int v2), some (.int v3), o4, o5, o6, o7], [.int 16, .int v3], h)) (fun hs => ?_)
  refine zg_i_ge zd_261 rfl (fun (hc : (16 ≤ v3)) => ?_) (fun (hc : ¬ (16 ≤ v3)) => ?_)
  · have ho := ho.1 hc
    rw [if_pos hc] at hF
    exact hl1 v1 v2 v3 (some (.int v1)) (some (.int v3)) (o4) (o5) (o6) (o7) hs hF
  · have ho := ho.2 hc
    rw [if_neg hc] at hF
    refine zg_blk zd_261 2 hs (rfl : zb x zT0 zc_261 2 (26, [some (.ref 92), some (.int v1), some (.int v2), some (.int v3), o4, o5, o6, o7], [], h) = some (29, [some (.ref 92), some (.int v1), some (.int v2), some (.int v3), some (.int v3), o5, o6, o7], [], h)) (fun hs => ?_)
    refine f_M_next_l20_l29_t v3 h (fun r => f_M_next_l20_a29_ok v3 r h ∧ FN (f_M_next_l20_a29 v3 r h)) ?_ zF v1 v2 v3 (o5) (o6) (o7) hs ho.1 ⟨ho.2, hF⟩
    · intro v1_ v2_ v4_ o4_ o5_ o6_ o7_ hs hG
      have ho : True := trivial
      have hF : FN ((f_M_next_l20_k106 v1_ v2_ v3 h)) := hG.2
      exact f_M_next_l20_k106_t v1_ v2_ v3 h (o4_) (o5_) (o6_) (o7_) hs trivial hF hl0 hl1
theorem f_M_next_l20_t {x : zm_X} {d : Nat} (h : zm_H) {Q : Option Value → zm_H → Prop} (G : Nat × Int32 × Int32 × Int32 → Prop) (hx1 : ∀ (v1 : Int32) (v2 : Int32) (v3 : Int32) (o1 : Option Value) (o3 : Option Value) (o4 : Option Value) (o5 : Option Value) (o6 : Option Value) (o7 : Option Value), zSh zT0 h → G (1, v1, v2, v3) → zg x (d + 2) 261 112 [some (.ref 92), o1, some (.int v2), o3, o4, o5, o6, o7] [] h Q) : ∀ (n : Nat) (v1 : Int32) (v2 : Int32) (v3 : Int32) (o4 : Option Value) (o5 : Option Value) (o6 : Option Value) (o7 : Option Value), zSh zT0 h → f_M_next_l20_ok h n (v1, v2, v3) → G (f_M_next_l20 h n (v1, v2, v3)) → zg x (d + 2) 261 20 [some (.ref 92), some (.int v1), some (.int v2), some (.int v3), o4, o5, o6, o7] [] h Q := by
  intro n
  induction n with
  | zero => intro v1 v2 v3 o4 o5 o6 o7 hs ho hG; exact ho.elim
  | succ n ih =>
    intro v1 v2 v3 o4 o5 o6 o7 hs ho hG
    refine f_M_next_l20_b_t (FN := fun r => (r.1 = 0 → f_M_next_l20_ok h n r.2) ∧ G (if r.1 = 0 then f_M_next_l20 h n r.2 else r)) v1 v2 v3 h o4 o5 o6 o7 hs ho.1 ⟨ho.2, hG⟩ ?_ ?_
    · intro v1 v2 v3 o4 o5 o6 o7 hs hF
      exact ih v1 v2 v3 o4 o5 o6 o7 hs (hF.1 rfl) hF.2
    · intro v1 v2 v3 o1 o3 o4 o5 o6 o7 hs hF
      exact hx1 v1 v2 v3 o1 o3 o4 o5 o6 o7 hs hF.2

set_option maxRecDepth 100000 in
set_option maxHeartbeats 400000 in
theorem f_M_next_k112_t {x : zm_X} {d : Nat} (v2 : Int32) (h : zm_H) (o0 : Option Value) (o1 : Option Value) (o3 : Option Value) (o4 : Option Value) (o5 : Option Value) (o6 : Option Value) (o7 : Option Value) {Q : Option Value → zm_H → Prop} (hs : zSh zT0 h) (ho : f_M_next_k112_ok v2 h) (hF : Q (some (.int (f_M_next_k112 v2 h))) h) : zg x (d + 2) 261 112 [o0, o1, some (.int v2), o3, o4, o5, o6, o7] [] h Q := by
  unfold f_M_next_k112 at hF
  unfold f_M_next_k112_ok at ho
  refine zg_blk zd_261 1 hs (rfl : zb x zT0 zc_261 1 (112, [o0, o1, some (.int v2), o3, o4, o5, o6, o7], [], h) = some (113, [o0, o1, some (.int v2), o3, o4, o5, o6, o7], [.int v2], h)) (fun hs => ?_)
  exact zg_ret zd_261 rfl rfl hF
set_option maxRecDepth 100000 in
set_option maxHeartbeats 400000 in
theorem f_M_next_t {x : zm_X} {d : Nat} (h : zm_H) {Q : Option Value → zm_H → Prop} (hs : zSh zT0 h) (ho : f_M_next_ok h) (hF : Q (some (.int (f_M_next h))) h) : zg x (d + 2) 261 0 [some (.ref 92), none, none, none, none, none, none, none] [] h Q := by
  unfold f_M_next at hF
  unfold f_M_next_ok at ho
  refine zg_blk zd_261 2 hs (rfl : zb x zT0 zc_261 2 (0, [some (.ref 92), none, none, none, none, none, none, none], [], h) = some (4, [some (.ref 92), none, none, none, none, none, none, none], [.int (zf h 92 78)], h)) (fun hs => ?_)
  obtain ⟨hob, ho⟩ := ho
  refine zg_call hs zd_261 rfl rfl rfl rfl (as := [.int (zf h 92 78)]) (rest := []) (en := [some (.int (zf h 92 78)), none, none]) rfl rfl rfl rfl rfl ?_
  refine f_M_bits_t (zf h 92 78) h hs hob ?_
  show zg x (d + 2) 261 7 [some (.ref 92), none, none, none, none, none, none, none] [.int (f_M_bits (zf h 92 78) h)] h Q
  refine zg_blk zd_261 1 hs (rfl : zb x zT0 zc_261 1 (7, [some (.ref 92), none, none, none, none, none, none, none], [.int (f_M_bits (zf h 92 78) h)], h) = some (8, [some (.ref 92), none, none, none, none, none, none, none], [.int 2, .int (f_M_bits (zf h 92 78) h)], h)) (fun hs => ?_)
  refine zg_i_ge zd_261 rfl (fun (hc : (2 ≤ (f_M_bits (zf h 92 78) h))) => ?_) (fun (hc : ¬ (2 ≤ (f_M_bits (zf h 92 78) h))) => ?_)
  · have ho := ho.1 hc
    rw [if_pos hc] at hF
    refine zg_blk zd_261 6 hs (rfl : zb x zT0 zc_261 6 (13, [some (.ref 92), none, none, none, none, none, none, none], [], h) = some (20, [some (.ref 92), some (.int 17), some (.int (-1)), some (.int 0), none, none, none, none], [], h)) (fun hs => ?_)
    refine f_M_next_l20_t h (fun r => f_M_next_a20_ok r h ∧ Q (some (.int (f_M_next_a20 r h))) h) ?_ zF 17 (-1) 0 (none) (none) (none) (none) hs ho.1 ⟨ho.2, hF⟩
    · intro v1_ v2_ v3_ o1_ o3_ o4_ o5_ o6_ o7_ hs hG
      have ho : True := trivial
      have hF : Q (some (.int ((f_M_next_k112 v2_ h)))) h := hG.2
      exact f_M_next_k112_t v2_ h (some (.ref 92)) (o1_) (o3_) (o4_) (o5_) (o6_) (o7_) hs trivial hF
  · have ho := ho.2 hc
    rw [if_neg hc] at hF
    refine zg_blk zd_261 1 hs (rfl : zb x zT0 zc_261 1 (11, [some (.ref 92), none, none, none, none, none, none, none], [], h) = some (12, [some (.ref 92), none, none, none, none, none, none, none], [.int (-1)], h)) (fun hs => ?_)
    exact zg_ret zd_261 rfl rfl hF
theorem zd_168 : zm_cd 168 = zc_168 := by rfl
theorem zd_52 : zm_cd 52 = zc_52 := by rfl
set_option maxRecDepth 100000 in
set_option maxHeartbeats 400000 in
theorem f_Harbour_onShore_t {x : zm_X} {d : Nat} (p1 : Int32) (h : zm_H) {Q : Option Value → zm_H → Prop} (hs : zSh zT0 h) (ho : f_Harbour_onShore_ok p1 h) (hF : Q (some (.int (f_Harbour_onShore p1 h))) h) : zg x (d + 1) 52 0 [some (.ref 63), some (.int p1)] [] h Q := by
  unfold f_Harbour_onShore at hF
  unfold f_Harbour_onShore_ok at ho
  refine zg_blk zd_52 1 hs (rfl : zb x zT0 zc_52 1 (0, [some (.ref 63), some (.int p1)], [], h) = some (1, [some (.ref 63), some (.int p1)], [.int p1], h)) (fun hs => ?_)
  have hom := ho
  have K186 : zSh zT0 h → zg x (d + 1) 52 19 [some (.ref 63), some (.int p1)] [.int (if (p1 < 0) then ((-1) : Int32) else (if (3 ≤ p1) then ((-1) : Int32) else (zr h 64 p1)))] h Q := fun hs => by
    exact zg_ret zd_52 rfl rfl hF
  refine zg_f_lt zd_52 rfl (fun (hc : (p1 < 0)) => ?_) (fun (hc : ¬ (p1 < 0)) => ?_)
  · have ho := hom.1 hc
    rw [show ((if (p1 < 0) then ((-1) : Int32) else (if (3 ≤ p1) then ((-1) : Int32) else (zr h 64 p1))) : Int32) = (-1) from if_pos hc] at K186
    refine zg_blk zd_52 1 hs (rfl : zb x zT0 zc_52 1 (18, [some (.ref 63), some (.int p1)], [], h) = some (19, [some (.ref 63), some (.int p1)], [.int (-1)], h)) (fun hs => ?_)
    exact K186 hs
  · have ho := hom.2 hc
    rw [show ((if (p1 < 0) then ((-1) : Int32) else (if (3 ≤ p1) then ((-1) : Int32) else (zr h 64 p1))) : Int32) = (if (3 ≤ p1) then ((-1) : Int32) else (zr h 64 p1)) from if_neg hc] at K186
    refine zg_blk zd_52 2 hs (rfl : zb x zT0 zc_52 2 (4, [some (.ref 63), some (.int p1)], [], h) = some (6, [some (.ref 63), some (.int p1)], [.int 3, .int p1], h)) (fun hs => ?_)
    refine zg_i_ge zd_52 rfl (fun (hc : (3 ≤ p1)) => ?_) (fun (hc : ¬ (3 ≤ p1)) => ?_)
    · have ho := ho.1 hc
      rw [show ((if (3 ≤ p1) then ((-1) : Int32) else (zr h 64 p1)) : Int32) = (-1) from if_pos hc] at K186
      refine zg_blk zd_52 1 hs (rfl : zb x zT0 zc_52 1 (18, [some (.ref 63), some (.int p1)], [], h) = some (19, [some (.ref 63), some (.int p1)], [.int (-1)], h)) (fun hs => ?_)
      exact K186 hs
    · have ho := ho.2 hc
      rw [show ((if (3 ≤ p1) then ((-1) : Int32) else (zr h 64 p1)) : Int32) = (zr h 64 p1) from if_neg hc] at K186
      refine zg_blk zd_52 3 hs (rfl : zb x zT0 zc_52 3 (9, [some (.ref 63), some (.int p1)], [], h) = some (14, [some (.ref 63), some (.int p1)], [.int p1, .ref 64], h)) (fun hs => ?_)
      have hob := ho
      refine zg_ial hs zd_52 rfl rfl hob ?_
      refine zg_blk zd_52 1 hs (rfl : zb x zT0 zc_52 1 (15, [some (.ref 63), some (.int p1)], [.int (zr h 64 p1)], h) = some (19, [some (.ref 63), some (.int p1)], [.int (zr h 64 p1)], h)) (fun hs => ?_)
      exact K186 hs
set_option maxRecDepth 100000 in
set_option maxHeartbeats 400000 in
theorem f_N_count_t {x : zm_X} {d : Nat} (p1 : Int32) (h : zm_H) {Q : Option Value → zm_H → Prop} (hs : zSh zT0 h) (ho : f_N_count_ok p1 h) (hF : Q (some (.int (f_N_count p1 h))) h) : zg x (d + 2) 168 0 [some (.ref 0), some (.int p1)] [] h Q := by
  unfold f_N_count at hF
  unfold f_N_count_ok at ho
  refine zg_blk zd_168 1 hs (rfl : zb x zT0 zc_168 1 (0, [some (.ref 0), some (.int p1)], [], h) = some (1, [some (.ref 0), some (.int p1)], [.int p1], h)) (fun hs => ?_)
  by_cases hc0 : p1 = 0
  · have ho := ho.1 hc0
    rw [if_pos hc0] at hF
    refine zg_tsw zd_168 rfl (tg := 60) (by rw [hc0]; rfl) ?_
    refine zg_blk zd_168 2 hs (rfl : zb x zT0 zc_168 2 (60, [some (.ref 0), some (.int p1)], [], h) = some (64, [some (.ref 0), some (.int p1)], [.int (zf h 0 0)], h)) (fun hs => ?_)
    exact zg_ret zd_168 rfl rfl hF
  have ho := ho.2 hc0
  rw [if_neg hc0] at hF
  by_cases hc1 : p1 = 1
  · have ho := ho.1 hc1
    rw [if_pos hc1] at hF
    refine zg_tsw zd_168 rfl (tg := 65) (by rw [hc1]; rfl) ?_
    refine zg_blk zd_168 3 hs (rfl : zb x zT0 zc_168 3 (65, [some (.ref 0), some (.int p1)], [], h) = some (72, [some (.ref 0), some (.int p1)], [.int (zf h 23 0)], h)) (fun hs => ?_)
    exact zg_ret zd_168 rfl rfl hF
  have ho := ho.2 hc1
  rw [if_neg hc1] at hF
  by_cases hc2 : p1 = 2
  · have ho := ho.1 hc2
    rw [if_pos hc2] at hF
    refine zg_tsw zd_168 rfl (tg := 73) (by rw [hc2]; rfl) ?_
    refine zg_blk zd_168 3 hs (rfl : zb x zT0 zc_168 3 (73, [some (.ref 0), some (.int p1)], [], h) = some (80, [some (.ref 0), some (.int p1)], [.int (zf h 1 0)], h)) (fun hs => ?_)
    exact zg_ret zd_168 rfl rfl hF
  have ho := ho.2 hc2
  rw [if_neg hc2] at hF
  by_cases hc3 : p1 = 3
  · have ho := ho.1 hc3
    rw [if_pos hc3] at hF
    refine zg_tsw zd_168 rfl (tg := 81) (by rw [hc3]; rfl) ?_
    refine zg_blk zd_168 3 hs (rfl : zb x zT0 zc_168 3 (81, [some (.ref 0), some (.int p1)], [], h) = some (88, [some (.ref 0), some (.int p1)], [.int (zf h 1 1)], h)) (fun hs => ?_)
    exact zg_ret zd_168 rfl rfl hF
  have ho := ho.2 hc3
  rw [if_neg hc3] at hF
  by_cases hc4 : p1 = 4
  · have ho := ho.1 hc4
    rw [if_pos hc4] at hF
    refine zg_tsw zd_168 rfl (tg := 89) (by rw [hc4]; rfl) ?_
    refine zg_blk zd_168 3 hs (rfl : zb x zT0 zc_168 3 (89, [some (.ref 0), some (.int p1)], [], h) = some (96, [some (.ref 0), some (.int p1)], [.int (zf h 15 0)], h)) (fun hs => ?_)
    exact zg_ret zd_168 rfl rfl hF
  have ho := ho.2 hc4
  rw [if_neg hc4] at hF
  by_cases hc5 : p1 = 5
  · have ho := ho.1 hc5
    rw [if_pos hc5] at hF
    refine zg_tsw zd_168 rfl (tg := 97) (by rw [hc5]; rfl) ?_
    refine zg_blk zd_168 3 hs (rfl : zb x zT0 zc_168 3 (97, [some (.ref 0), some (.int p1)], [], h) = some (104, [some (.ref 0), some (.int p1)], [.int (zf h 23 4)], h)) (fun hs => ?_)
    exact zg_ret zd_168 rfl rfl hF
  have ho := ho.2 hc5
  rw [if_neg hc5] at hF
  by_cases hc6 : p1 = 6
  · have ho := ho.1 hc6
    rw [if_pos hc6] at hF
    refine zg_tsw zd_168 rfl (tg := 105) (by rw [hc6]; rfl) ?_
    refine zg_blk zd_168 3 hs (rfl : zb x zT0 zc_168 3 (105, [some (.ref 0), some (.int p1)], [], h) = some (112, [some (.ref 0), some (.int p1)], [.int (zf h 82 3)], h)) (fun hs => ?_)
    exact zg_ret zd_168 rfl rfl hF
  have ho := ho.2 hc6
  rw [if_neg hc6] at hF
  by_cases hc7 : p1 = 7
  · have ho := ho.1 hc7
    rw [if_pos hc7] at hF
    refine zg_tsw zd_168 rfl (tg := 113) (by rw [hc7]; rfl) ?_
    refine zg_blk zd_168 3 hs (rfl : zb x zT0 zc_168 3 (113, [some (.ref 0), some (.int p1)], [], h) = some (120, [some (.ref 0), some (.int p1)], [.int (zf h 10 1)], h)) (fun hs => ?_)
    exact zg_ret zd_168 rfl rfl hF
  have ho := ho.2 hc7
  rw [if_neg hc7] at hF
  by_cases hc8 : p1 = 8
  · have ho := ho.1 hc8
    rw [if_pos hc8] at hF
    refine zg_tsw zd_168 rfl (tg := 121) (by rw [hc8]; rfl) ?_
    refine zg_blk zd_168 3 hs (rfl : zb x zT0 zc_168 3 (121, [some (.ref 0), some (.int p1)], [], h) = some (128, [some (.ref 0), some (.int p1)], [.int (zf h 91 1)], h)) (fun hs => ?_)
    exact zg_ret zd_168 rfl rfl hF
  have ho := ho.2 hc8
  rw [if_neg hc8] at hF
  by_cases hc9 : p1 = 9
  · have ho := ho.1 hc9
    rw [if_pos hc9] at hF
    refine zg_tsw zd_168 rfl (tg := 129) (by rw [hc9]; rfl) ?_
    refine zg_blk zd_168 3 hs (rfl : zb x zT0 zc_168 3 (129, [some (.ref 0), some (.int p1)], [], h) = some (136, [some (.ref 0), some (.int p1)], [.int (zf h 72 2)], h)) (fun hs => ?_)
    exact zg_ret zd_168 rfl rfl hF
  have ho := ho.2 hc9
  rw [if_neg hc9] at hF
  by_cases hc10 : p1 = 10
  · have ho := ho.1 hc10
    rw [if_pos hc10] at hF
    refine zg_tsw zd_168 rfl (tg := 137) (by rw [hc10]; rfl) ?_
    refine zg_blk zd_168 3 hs (rfl : zb x zT0 zc_168 3 (137, [some (.ref 0), some (.int p1)], [], h) = some (144, [some (.ref 0), some (.int p1)], [.int (zf h 82 7)], h)) (fun hs => ?_)
    exact zg_ret zd_168 rfl rfl hF
  have ho := ho.2 hc10
  rw [if_neg hc10] at hF
  refine zg_tsw zd_168 rfl (tg := 145) (if_pos (zsw_out (lo := 0) (hi := 10) (by decide) (by decide) (fun v h1 h2 => by
      have : v = 0 ∨ v = 1 ∨ v = 2 ∨ v = 3 ∨ v = 4 ∨ v = 5 ∨ v = 6 ∨ v = 7 ∨ v = 8 ∨ v = 9 ∨ v = 10 := by omega
      rcases this with rfl | rfl | rfl | rfl | rfl | rfl | rfl | rfl | rfl | rfl | rfl <;> first | exact hc0 | exact hc1 | exact hc2 | exact hc3 | exact hc4 | exact hc5 | exact hc6 | exact hc7 | exact hc8 | exact hc9 | exact hc10))) ?_
  refine zg_blk zd_168 5 hs (rfl : zb x zT0 zc_168 5 (145, [some (.ref 0), some (.int p1)], [], h) = some (153, [some (.ref 0), some (.int p1)], [.int (p1 - 20), .ref 63], h)) (fun hs => ?_)
  have hob := ho
  refine zg_call hs zd_168 rfl rfl rfl rfl (as := [.ref 63, .int (p1 - 20)]) (rest := []) (en := [some (.ref 63), some (.int (p1 - 20))]) rfl rfl rfl rfl rfl ?_
  refine f_Harbour_onShore_t (p1 - 20) h hs hob ?_
  show zg x (d + 2) 168 156 [some (.ref 0), some (.int p1)] [.int (f_Harbour_onShore (p1 - 20) h)] h Q
  exact zg_ret zd_168 rfl rfl hF
theorem zd_263 : zm_cd 263 = zc_263 := by rfl
set_option maxRecDepth 100000 in
set_option maxHeartbeats 400000 in
theorem f_M_count_t {x : zm_X} {d : Nat} (p1 : Int32) (h : zm_H) {Q : Option Value → zm_H → Prop} (hs : zSh zT0 h) (ho : f_M_count_ok p1 h) (hF : Q (some (.int (f_M_count p1 h))) h) : zg x (d + 2) 263 0 [some (.ref 92), some (.int p1)] [] h Q := by
  unfold f_M_count at hF
  unfold f_M_count_ok at ho
  refine zg_blk zd_263 3 hs (rfl : zb x zT0 zc_263 3 (0, [some (.ref 92), some (.int p1)], [], h) = some (5, [some (.ref 92), some (.int p1)], [.int 22, .int 20, .int p1], h)) (fun hs => ?_)
  refine zg_call hs zd_263 rfl rfl rfl rfl (as := [.int p1, .int 20, .int 22]) (rest := []) (en := [some (.int p1), some (.int 20), some (.int 22)]) rfl rfl rfl rfl rfl ?_
  refine f_M_in_t p1 20 22 h hs trivial ?_
  show zg x (d + 2) 263 8 [some (.ref 92), some (.int p1)] [.int (if (¬ (p1 < 20) ∧ (¬ (22 < p1))) then (1 : Int32) else 0)] h Q
  refine zg_b_eq zd_263 rfl (fun (hc : ¬ (¬ (p1 < 20) ∧ (¬ (22 < p1)))) => ?_) (fun (hc : (¬ (p1 < 20) ∧ (¬ (22 < p1)))) => ?_)
  · have ho := ho.2 hc
    rw [if_neg hc] at hF
    refine zg_blk zd_263 1 hs (rfl : zb x zT0 zc_263 1 (21, [some (.ref 92), some (.int p1)], [], h) = some (22, [some (.ref 92), some (.int p1)], [.int p1], h)) (fun hs => ?_)
    by_cases hc0 : p1 = 0
    · skip
      rw [if_pos hc0] at hF
      refine zg_tsw zd_263 rfl (tg := 80) (by rw [hc0]; rfl) ?_
      refine zg_blk zd_263 2 hs (rfl : zb x zT0 zc_263 2 (80, [some (.ref 92), some (.int p1)], [], h) = some (84, [some (.ref 92), some (.int p1)], [.int (zf h 92 23)], h)) (fun hs => ?_)
      exact zg_ret zd_263 rfl rfl hF
    rw [if_neg hc0] at hF
    by_cases hc1 : p1 = 1
    · skip
      rw [if_pos hc1] at hF
      refine zg_tsw zd_263 rfl (tg := 85) (by rw [hc1]; rfl) ?_
      refine zg_blk zd_263 2 hs (rfl : zb x zT0 zc_263 2 (85, [some (.ref 92), some (.int p1)], [], h) = some (89, [some (.ref 92), some (.int p1)], [.int (zf h 92 33)], h)) (fun hs => ?_)
      exact zg_ret zd_263 rfl rfl hF
    rw [if_neg hc1] at hF
    by_cases hc2 : p1 = 2
    · skip
      rw [if_pos hc2] at hF
      refine zg_tsw zd_263 rfl (tg := 90) (by rw [hc2]; rfl) ?_
      refine zg_blk zd_263 2 hs (rfl : zb x zT0 zc_263 2 (90, [some (.ref 92), some (.int p1)], [], h) = some (94, [some (.ref 92), some (.int p1)], [.int (zf h 92 24)], h)) (fun hs => ?_)
      exact zg_ret zd_263 rfl rfl hF
    rw [if_neg hc2] at hF
    by_cases hc3 : p1 = 3
    · skip
      rw [if_pos hc3] at hF
      refine zg_tsw zd_263 rfl (tg := 95) (by rw [hc3]; rfl) ?_
      refine zg_blk zd_263 2 hs (rfl : zb x zT0 zc_263 2 (95, [some (.ref 92), some (.int p1)], [], h) = some (99, [some (.ref 92), some (.int p1)], [.int (zf h 92 28)], h)) (fun hs => ?_)
      exact zg_ret zd_263 rfl rfl hF
    rw [if_neg hc3] at hF
    by_cases hc4 : p1 = 4
    · skip
      rw [if_pos hc4] at hF
      refine zg_tsw zd_263 rfl (tg := 100) (by rw [hc4]; rfl) ?_
      refine zg_blk zd_263 2 hs (rfl : zb x zT0 zc_263 2 (100, [some (.ref 92), some (.int p1)], [], h) = some (104, [some (.ref 92), some (.int p1)], [.int (zf h 92 15)], h)) (fun hs => ?_)
      exact zg_ret zd_263 rfl rfl hF
    rw [if_neg hc4] at hF
    by_cases hc5 : p1 = 5
    · skip
      rw [if_pos hc5] at hF
      refine zg_tsw zd_263 rfl (tg := 105) (by rw [hc5]; rfl) ?_
      refine zg_blk zd_263 2 hs (rfl : zb x zT0 zc_263 2 (105, [some (.ref 92), some (.int p1)], [], h) = some (109, [some (.ref 92), some (.int p1)], [.int (zf h 92 41)], h)) (fun hs => ?_)
      exact zg_ret zd_263 rfl rfl hF
    rw [if_neg hc5] at hF
    by_cases hc6 : p1 = 6
    · skip
      rw [if_pos hc6] at hF
      refine zg_tsw zd_263 rfl (tg := 110) (by rw [hc6]; rfl) ?_
      refine zg_blk zd_263 2 hs (rfl : zb x zT0 zc_263 2 (110, [some (.ref 92), some (.int p1)], [], h) = some (114, [some (.ref 92), some (.int p1)], [.int (zf h 92 37)], h)) (fun hs => ?_)
      exact zg_ret zd_263 rfl rfl hF
    rw [if_neg hc6] at hF
    by_cases hc7 : p1 = 7
    · skip
      rw [if_pos hc7] at hF
      refine zg_tsw zd_263 rfl (tg := 115) (by rw [hc7]; rfl) ?_
      refine zg_blk zd_263 2 hs (rfl : zb x zT0 zc_263 2 (115, [some (.ref 92), some (.int p1)], [], h) = some (119, [some (.ref 92), some (.int p1)], [.int (zf h 92 1)], h)) (fun hs => ?_)
      exact zg_ret zd_263 rfl rfl hF
    rw [if_neg hc7] at hF
    by_cases hc8 : p1 = 8
    · skip
      rw [if_pos hc8] at hF
      refine zg_tsw zd_263 rfl (tg := 120) (by rw [hc8]; rfl) ?_
      refine zg_blk zd_263 2 hs (rfl : zb x zT0 zc_263 2 (120, [some (.ref 92), some (.int p1)], [], h) = some (124, [some (.ref 92), some (.int p1)], [.int (zf h 92 78)], h)) (fun hs => ?_)
      exact zg_ret zd_263 rfl rfl hF
    rw [if_neg hc8] at hF
    by_cases hc9 : p1 = 9
    · skip
      rw [if_pos hc9] at hF
      refine zg_tsw zd_263 rfl (tg := 125) (by rw [hc9]; rfl) ?_
      refine zg_blk zd_263 2 hs (rfl : zb x zT0 zc_263 2 (125, [some (.ref 92), some (.int p1)], [], h) = some (129, [some (.ref 92), some (.int p1)], [.int (zf h 92 72)], h)) (fun hs => ?_)
      exact zg_ret zd_263 rfl rfl hF
    rw [if_neg hc9] at hF
    by_cases hc10 : p1 = 10
    · skip
      rw [if_pos hc10] at hF
      refine zg_tsw zd_263 rfl (tg := 130) (by rw [hc10]; rfl) ?_
      refine zg_blk zd_263 2 hs (rfl : zb x zT0 zc_263 2 (130, [some (.ref 92), some (.int p1)], [], h) = some (134, [some (.ref 92), some (.int p1)], [.int (zf h 92 75)], h)) (fun hs => ?_)
      exact zg_ret zd_263 rfl rfl hF
    rw [if_neg hc10] at hF
    refine zg_tsw zd_263 rfl (tg := 135) (if_pos (zsw_out (lo := 0) (hi := 10) (by decide) (by decide) (fun v h1 h2 => by
        have : v = 0 ∨ v = 1 ∨ v = 2 ∨ v = 3 ∨ v = 4 ∨ v = 5 ∨ v = 6 ∨ v = 7 ∨ v = 8 ∨ v = 9 ∨ v = 10 := by omega
        rcases this with rfl | rfl | rfl | rfl | rfl | rfl | rfl | rfl | rfl | rfl | rfl <;> first | exact hc0 | exact hc1 | exact hc2 | exact hc3 | exact hc4 | exact hc5 | exact hc6 | exact hc7 | exact hc8 | exact hc9 | exact hc10))) ?_
    refine zg_blk zd_263 1 hs (rfl : zb x zT0 zc_263 1 (135, [some (.ref 92), some (.int p1)], [], h) = some (136, [some (.ref 92), some (.int p1)], [.int (-1)], h)) (fun hs => ?_)
    exact zg_ret zd_263 rfl rfl hF
  · have ho := ho.1 hc
    rw [if_pos hc] at hF
    refine zg_blk zd_263 5 hs (rfl : zb x zT0 zc_263 5 (11, [some (.ref 92), some (.int p1)], [], h) = some (19, [some (.ref 92), some (.int p1)], [.int (p1 - 20), .ref 137], h)) (fun hs => ?_)
    have hob := ho
    refine zg_ial hs zd_263 rfl rfl hob ?_
    exact zg_ret zd_263 rfl rfl hF
