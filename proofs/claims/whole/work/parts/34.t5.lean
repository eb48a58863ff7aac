/-! ===== the code does what its functions say, 5 ===== -/
theorem f_M_chains_l68_t {x : zm_X} {d : Nat} (v1 : Int32) (v2 : Int32) (v3 : Int32) (v4 : Int32) (v5 : Int32) {Q : Option Value → zm_H → Prop} (G : Nat × Int32 × Int32 × zm_H → Prop) (hx1 : ∀ (v6 : Int32) (v7 : Int32) (h : zm_H) (o7 : Option Value) (o8 : Option Value) (o9 : Option Value), zSh zT0 h → G (1, v6, v7, h) → zg x (d + 2) 227 178 [some (.ref 92), some (.int v1), some (.int v2), some (.int v3), some (.int v4), some (.int v5), some (.int v6), o7, o8, o9] [] h Q) : ∀ (n : Nat) (v6 : Int32) (v7 : Int32) (h : zm_H) (o8 : Option Value) (o9 : Option Value), zSh zT0 h → f_M_chains_l68_ok v1 v2 v3 v4 v5 n (v6, v7, h) → G (f_M_chains_l68 v1 v2 v3 v4 v5 n (v6, v7, h)) → zg x (d + 2) 227 68 [some (.ref 92), some (.int v1), some (.int v2), some (.int v3), some (.int v4), some (.int v5), some (.int v6), some (.int v7), o8, o9] [] h Q := by
  intro n
  induction n with
  | zero => intro v6 v7 h o8 o9 hs ho hG; exact ho.elim
  | succ n ih =>
    intro v6 v7 h o8 o9 hs ho hG
    refine f_M_chains_l68_b_t (FN := fun r => (r.1 = 0 → f_M_chains_l68_ok v1 v2 v3 v4 v5 n r.2) ∧ G (if r.1 = 0 then f_M_chains_l68 v1 v2 v3 v4 v5 n r.2 else r)) v1 v2 v3 v4 v5 v6 v7 h o8 o9 hs ho.1 ⟨ho.2, hG⟩ ?_ ?_
    · intro v6 v7 h o8 o9 hs hF
      exact ih v6 v7 h o8 o9 hs (hF.1 rfl) hF.2
    · intro v6 v7 h o7 o8 o9 hs hF
      exact hx1 v6 v7 h o7 o8 o9 hs hF.2

set_option maxRecDepth 100000 in
set_option maxHeartbeats 400000 in
theorem f_M_chains_k178_t {x : zm_X} {d : Nat} (v1 : Int32) (v2 : Int32) (v6 : Int32) (h : zm_H) (z3 : Int32) (o4 : Option Value) (o5 : Option Value) (o7 : Option Value) (o8 : Option Value) (o9 : Option Value) {Q : Option Value → zm_H → Prop} (hs : zSh zT0 h) (ho : f_M_chains_k178_ok v1 v2 v6 h) (hF : (zSh zT0 (f_M_chains_k178 v1 v2 v6 h) → Q none (f_M_chains_k178 v1 v2 v6 h))) : zg x (d + 2) 227 178 [some (.ref 92), some (.int v1), some (.int v2), some (.int z3), o4, o5, some (.int v6), o7, o8, o9] [] h Q := by
  unfold f_M_chains_k178 at hF
  unfold f_M_chains_k178_ok at ho
  refine zg_blk zd_227 1 hs (rfl : zb x zT0 zc_227 1 (178, [some (.ref 92), some (.int v1), some (.int v2), some (.int z3), o4, o5, some (.int v6), o7, o8, o9], [], h) = some (180, [some (.ref 92), some (.int v1), some (.int v2), some (.int z3), o4, o5, some (.int v6), o7, o8, o9], [.int v6], h)) (fun hs => ?_)
  refine zg_f_le zd_227 rfl (fun (hc : (v6 ≤ 0)) => ?_) (fun (hc : ¬ (v6 ≤ 0)) => ?_)
  · have ho := ho.1 hc
    rw [if_pos hc] at hF
    refine zg_blk zd_227 8 hs (rfl : zb x zT0 zc_227 8 (184, [some (.ref 92), some (.int v1), some (.int v2), some (.int z3), o4, o5, some (.int v6), o7, o8, o9], [], h) = some (195, [some (.ref 92), some (.int v1), some (.int v2), some (.int z3), o4, o5, some (.int v6), o7, o8, o9], [.int 3, .int ((10 * v1) + v2), .ref 123], h)) (fun hs => ?_)
    obtain ⟨hob, ho⟩ := ho
    refine zg_ias hs zd_227 rfl rfl hob (fun hs => ?_)
    refine zg_blk zd_227 8 hs (rfl : zb x zT0 zc_227 8 (196, [some (.ref 92), some (.int v1), some (.int v2), some (.int z3), o4, o5, some (.int v6), o7, o8, o9], [], (zs h 123 ((10 * v1) + v2) 3)) = some (207, [some (.ref 92), some (.int v1), some (.int v2), some (.int z3), o4, o5, some (.int v6), o7, o8, o9], [.int (-1), .int ((10 * v1) + v2), .ref 124], (zs h 123 ((10 * v1) + v2) 3))) (fun hs => ?_)
    have hob := ho
    refine zg_ias hs zd_227 rfl rfl hob (fun hs => ?_)
    exact zg_ret zd_227 rfl rfl (hF hs)
  · have ho := ho.2 hc
    rw [if_neg hc] at hF
    exact zg_ret zd_227 rfl rfl (hF hs)
set_option maxRecDepth 100000 in
set_option maxHeartbeats 400000 in
theorem f_M_chains_k62_t {x : zm_X} {d : Nat} (v1 : Int32) (v2 : Int32) (v3 : Int32) (v4 : Int32) (v5 : Int32) (h : zm_H) (o6 : Option Value) (o7 : Option Value) (o8 : Option Value) (o9 : Option Value) {Q : Option Value → zm_H → Prop} (hs : zSh zT0 h) (ho : f_M_chains_k62_ok v1 v2 v3 v4 v5 h) (hF : (zSh zT0 (f_M_chains_k62 v1 v2 v3 v4 v5 h) → Q none (f_M_chains_k62 v1 v2 v3 v4 v5 h))) : zg x (d + 2) 227 62 [some (.ref 92), some (.int v1), some (.int v2), some (.int v3), some (.int v4), some (.int v5), o6, o7, o8, o9] [] h Q := by
  unfold f_M_chains_k62 at hF
  unfold f_M_chains_k62_ok at ho
  refine zg_blk zd_227 4 hs (rfl : zb x zT0 zc_227 4 (62, [some (.ref 92), some (.int v1), some (.int v2), some (.int v3), some (.int v4), some (.int v5), o6, o7, o8, o9], [], h) = some (68, [some (.ref 92), some (.int v1), some (.int v2), some (.int v3), some (.int v4), some (.int v5), some (.int 0), some (.int 0), o8, o9], [], h)) (fun hs => ?_)
  refine f_M_chains_l68_t v1 v2 v3 v4 v5 (fun r => f_M_chains_a68_ok v1 v2 r ∧ (zSh zT0 (f_M_chains_a68 v1 v2 r) → Q none (f_M_chains_a68 v1 v2 r))) ?_ zF 0 0 h (o8) (o9) hs ho.1 ⟨ho.2, hF⟩
  · intro v6_ v7_ h_ o7_ o8_ o9_ hs hG
    have ho : (f_M_chains_k178_ok v1 v2 v6_ h_) := hG.1
    have hF : (zSh zT0 ((f_M_chains_k178 v1 v2 v6_ h_)) → Q none ((f_M_chains_k178 v1 v2 v6_ h_))) := hG.2
    exact f_M_chains_k178_t v1 v2 v6_ h_ v3 (some (.int v4)) (some (.int v5)) (o7_) (o8_) (o9_) hs ho hF
set_option maxRecDepth 100000 in
set_option maxHeartbeats 400000 in
theorem f_M_chains_t {x : zm_X} {d : Nat} (p1 : Int32) (p2 : Int32) (p3 : Int32) (h : zm_H) {Q : Option Value → zm_H → Prop} (hs : zSh zT0 h) (ho : f_M_chains_ok p1 p2 p3 h) (hF : (zSh zT0 (f_M_chains p1 p2 p3 h) → Q none (f_M_chains p1 p2 p3 h))) : zg x (d + 2) 227 0 [some (.ref 92), some (.int p1), some (.int p2), some (.int p3), none, none, none, none, none, none] [] h Q := by
  unfold f_M_chains at hF
  unfold f_M_chains_ok at ho
  refine zg_blk zd_227 5 hs (rfl : zb x zT0 zc_227 5 (0, [some (.ref 92), some (.int p1), some (.int p2), some (.int p3), none, none, none, none, none, none], [], h) = some (9, [some (.ref 92), some (.int p1), some (.int p2), some (.int p3), none, none, none, none, none, none], [.int p2, .ref 112, .int (zf h 92 79)], h)) (fun hs => ?_)
  obtain ⟨hob, ho⟩ := ho
  refine zg_ial hs zd_227 rfl rfl hob ?_
  refine zg_blk zd_227 8 hs (rfl : zb x zT0 zc_227 8 (10, [some (.ref 92), some (.int p1), some (.int p2), some (.int p3), none, none, none, none, none, none], [.int (zr h 112 p2), .int (zf h 92 79)], h) = some (21, [some (.ref 92), some (.int p1), some (.int p2), some (.int p3), some (.int ((zf h 92 79) * ((zr h 112 p2) + 5))), some (.int 0), some (.int 0), none, none, none], [], h)) (fun hs => ?_)
  refine f_M_chains_l21_t p1 p2 p3 ((zf h 92 79) * ((zr h 112 p2) + 5)) h (fun r => f_M_chains_a21_ok p1 p2 p3 ((zf h 92 79) * ((zr h 112 p2) + 5)) r h ∧ (zSh zT0 (f_M_chains_a21 p1 p2 p3 ((zf h 92 79) * ((zr h 112 p2) + 5)) r h) → Q none (f_M_chains_a21 p1 p2 p3 ((zf h 92 79) * ((zr h 112 p2) + 5)) r h))) ?_ zF 0 0 (none) (none) (none) hs ho.1 ⟨ho.2, hF⟩
  · intro v5_ v6_ o6_ o7_ o8_ o9_ hs hG
    have ho : (f_M_chains_k62_ok p1 p2 p3 ((zf h 92 79) * ((zr h 112 p2) + 5)) v5_ h) := hG.1
    have hF : (zSh zT0 ((f_M_chains_k62 p1 p2 p3 ((zf h 92 79) * ((zr h 112 p2) + 5)) v5_ h)) → Q none ((f_M_chains_k62 p1 p2 p3 ((zf h 92 79) * ((zr h 112 p2) + 5)) v5_ h))) := hG.2
    exact f_M_chains_k62_t p1 p2 p3 ((zf h 92 79) * ((zr h 112 p2) + 5)) v5_ h (o6_) (o7_) (o8_) (o9_) hs ho hF
set_option maxRecDepth 100000 in
set_option maxHeartbeats 400000 in
theorem f_M_goes_l102_b_t {x : zm_X} {d : Nat} (v1 : Int32) (v2 : Int32) (v3 : Int32) (h : zm_H) (o4 : Option Value) {Q : Option Value → zm_H → Prop} {FN : Nat × Int32 × zm_H → Prop} (hs : zSh zT0 h) (ho : f_M_goes_l102_b_ok v1 v2 v3 h) (hF : FN (f_M_goes_l102_b v1 v2 v3 h)) (hl0 : ∀ (v3 : Int32) (h : zm_H) (o4 : Option Value), zSh zT0 h → FN (0, v3, h) → zg x (d + 4) 224 102 [some (.ref 92), some (.int v1), some (.int v2), some (.int v3), o4] [] h Q) (hl1 : ∀ (v3 : Int32) (h : zm_H) (o3 : Option Value) (o4 : Option Value), zSh zT0 h → FN (1, v3, h) → zg x (d + 4) 224 222 [some (.ref 92), some (.int v1), some (.int v2), o3, o4] [] h Q) : zg x (d + 4) 224 102 [some (.ref 92), some (.int v1), some (.int v2), some (.int v3), o4] [] h Q := by
  unfold f_M_goes_l102_b at hF
  unfold f_M_goes_l102_b_ok at ho
  refine zg_blk zd_224 3 hs (rfl : zb x zT0 zc_224 3 (102, [some (.ref 92), some (.int v1), some (.int v2), some (.int v3), o4], [], h) = some (107, [some (.ref 92), some (.int v1), some (.int v2), some (.int v3), o4], [.int (zf h 92 33), .int v3], h)) (fun hs => ?_)
  refine zg_i_ge zd_224 rfl (fun (hc : ((zf h 92 33) ≤ v3)) => ?_) (fun (hc : ¬ ((zf h 92 33) ≤ v3)) => ?_)
  · have ho := ho.1 hc
    rw [if_pos hc] at hF
    exact hl1 v3 h (some (.int v3)) (o4) hs hF
  · have ho := ho.2 hc
    rw [if_neg hc] at hF
    refine zg_blk zd_224 12 hs (rfl : zb x zT0 zc_224 12 (110, [some (.ref 92), some (.int v1), some (.int v2), some (.int v3), o4], [], h) = some (129, [some (.ref 92), some (.int v1), some (.int v2), some (.int v3), some (.int ((10 * v1) + v3))], [.int v3, .ref 153, .int ((10 * v1) + v3), .ref 126], h)) (fun hs => ?_)
    obtain ⟨hob, ho⟩ := ho
    refine zg_ial hs zd_224 rfl rfl hob ?_
    refine zg_blk zd_224 3 hs (rfl : zb x zT0 zc_224 3 (130, [some (.ref 92), some (.int v1), some (.int v2), some (.int v3), some (.int ((10 * v1) + v3))], [.int (zr h 153 v3), .int ((10 * v1) + v3), .ref 126], h) = some (135, [some (.ref 92), some (.int v1), some (.int v2), some (.int v3), some (.int ((10 * v1) + v3))], [.int ((10 * v1) + v3), .ref 92, .int 100, .int (zr h 153 v3), .int ((10 * v1) + v3), .ref 126], h)) (fun hs => ?_)
    obtain ⟨hob, ho⟩ := ho
    refine zg_call hs zd_224 rfl rfl rfl rfl (as := [.ref 92, .int ((10 * v1) + v3)]) (rest := [.int 100, .int (zr h 153 v3), .int ((10 * v1) + v3), .ref 126]) (en := [some (.ref 92), some (.int ((10 * v1) + v3))]) rfl rfl rfl rfl rfl ?_
    refine f_M_leak_t ((10 * v1) + v3) h hs hob ?_
    show zg x (d + 4) 224 138 [some (.ref 92), some (.int v1), some (.int v2), some (.int v3), some (.int ((10 * v1) + v3))] [.int (f_M_leak ((10 * v1) + v3) h), .int 100, .int (zr h 153 v3), .int ((10 * v1) + v3), .ref 126] h Q
    refine zg_blk zd_224 4 hs (rfl : zb x zT0 zc_224 4 (138, [some (.ref 92), some (.int v1), some (.int v2), some (.int v3), some (.int ((10 * v1) + v3))], [.int (f_M_leak ((10 * v1) + v3) h), .int 100, .int (zr h 153 v3), .int ((10 * v1) + v3), .ref 126], h) = some (143, [some (.ref 92), some (.int v1), some (.int v2), some (.int v3), some (.int ((10 * v1) + v3))], [.int (((zr h 153 v3) * (100 - (f_M_leak ((10 * v1) + v3) h))) / 100), .int ((10 * v1) + v3), .ref 126], h)) (fun hs => ?_)
    obtain ⟨hob, ho⟩ := ho
    refine zg_ias hs zd_224 rfl rfl hob (fun hs => ?_)
    refine zg_blk zd_224 4 hs (rfl : zb x zT0 zc_224 4 (144, [some (.ref 92), some (.int v1), some (.int v2), some (.int v3), some (.int ((10 * v1) + v3))], [], (zs h 126 ((10 * v1) + v3) (((zr h 153 v3) * (100 - (f_M_leak ((10 * v1) + v3) h))) / 100))) = some (151, [some (.ref 92), some (.int v1), some (.int v2), some (.int v3), some (.int ((10 * v1) + v3))], [.int ((10 * v1) + v3), .ref 127, .int ((10 * v1) + v3), .ref 127], (zs h 126 ((10 * v1) + v3) (((zr h 153 v3) * (100 - (f_M_leak ((10 * v1) + v3) h))) / 100)))) (fun hs => ?_)
    obtain ⟨hob, ho⟩ := ho
    refine zg_lal hs zd_224 rfl rfl hob ?_
    refine zg_blk zd_224 3 hs (rfl : zb x zT0 zc_224 3 (152, [some (.ref 92), some (.int v1), some (.int v2), some (.int v3), some (.int ((10 * v1) + v3))], [.long (zrl h 127 ((10 * v1) + v3)), .int ((10 * v1) + v3), .ref 127], (zs h 126 ((10 * v1) + v3) (((zr h 153 v3) * (100 - (f_M_leak ((10 * v1) + v3) h))) / 100))) = some (158, [some (.ref 92), some (.int v1), some (.int v2), some (.int v3), some (.int ((10 * v1) + v3))], [.int ((10 * v1) + v3), .ref 126, .long (zrl h 127 ((10 * v1) + v3)), .int ((10 * v1) + v3), .ref 127], (zs h 126 ((10 * v1) + v3) (((zr h 153 v3) * (100 - (f_M_leak ((10 * v1) + v3) h))) / 100)))) (fun hs => ?_)
    obtain ⟨hob, ho⟩ := ho
    refine zg_ial hs zd_224 rfl rfl hob ?_
    refine zg_blk zd_224 2 hs (rfl : zb x zT0 zc_224 2 (159, [some (.ref 92), some (.int v1), some (.int v2), some (.int v3), some (.int ((10 * v1) + v3))], [.int (zr (zs h 126 ((10 * v1) + v3) (((zr h 153 v3) * (100 - (f_M_leak ((10 * v1) + v3) h))) / 100)) 126 ((10 * v1) + v3)), .long (zrl h 127 ((10 * v1) + v3)), .int ((10 * v1) + v3), .ref 127], (zs h 126 ((10 * v1) + v3) (((zr h 153 v3) * (100 - (f_M_leak ((10 * v1) + v3) h))) / 100))) = some (161, [some (.ref 92), some (.int v1), some (.int v2), some (.int v3), some (.int ((10 * v1) + v3))], [.long ((zrl h 127 ((10 * v1) + v3)) + (zr (zs h 126 ((10 * v1) + v3) (((zr h 153 v3) * (100 - (f_M_leak ((10 * v1) + v3) h))) / 100)) 126 ((10 * v1) + v3)).toInt64), .int ((10 * v1) + v3), .ref 127], (zs h 126 ((10 * v1) + v3) (((zr h 153 v3) * (100 - (f_M_leak ((10 * v1) + v3) h))) / 100)))) (fun hs => ?_)
    obtain ⟨hob, ho⟩ := ho
    refine zg_las hs zd_224 rfl rfl hob (fun hs => ?_)
    refine zg_blk zd_224 6 hs (rfl : zb x zT0 zc_224 6 (162, [some (.ref 92), some (.int v1), some (.int v2), some (.int v3), some (.int ((10 * v1) + v3))], [], (zsl (zs h 126 ((10 * v1) + v3) (((zr h 153 v3) * (100 - (f_M_leak ((10 * v1) + v3) h))) / 100)) 127 ((10 * v1) + v3) ((zrl h 127 ((10 * v1) + v3)) + (zr (zs h 126 ((10 * v1) + v3) (((zr h 153 v3) * (100 - (f_M_leak ((10 * v1) + v3) h))) / 100)) 126 ((10 * v1) + v3)).toInt64))) = some (173, [some (.ref 92), some (.int v1), some (.int v2), some (.int v3), some (.int ((10 * v1) + v3))], [.int ((10 * v1) + v3), .ref 126, .int (zf h 92 88), .ref 92], (zsl (zs h 126 ((10 * v1) + v3) (((zr h 153 v3) * (100 - (f_M_leak ((10 * v1) + v3) h))) / 100)) 127 ((10 * v1) + v3) ((zrl h 127 ((10 * v1) + v3)) + (zr (zs h 126 ((10 * v1) + v3) (((zr h 153 v3) * (100 - (f_M_leak ((10 * v1) + v3) h))) / 100)) 126 ((10 * v1) + v3)).toInt64)))) (fun hs => ?_)
    obtain ⟨hob, ho⟩ := ho
    refine zg_ial hs zd_224 rfl rfl hob ?_
    refine zg_blk zd_224 5 hs (rfl : zb x zT0 zc_224 5 (174, [some (.ref 92), some (.int v1), some (.int v2), some (.int v3), some (.int ((10 * v1) + v3))], [.int (zr (zs h 126 ((10 * v1) + v3) (((zr h 153 v3) * (100 - (f_M_leak ((10 * v1) + v3) h))) / 100)) 126 ((10 * v1) + v3)), .int (zf h 92 88), .ref 92], (zsl (zs h 126 ((10 * v1) + v3) (((zr h 153 v3) * (100 - (f_M_leak ((10 * v1) + v3) h))) / 100)) 127 ((10 * v1) + v3) ((zrl h 127 ((10 * v1) + v3)) + (zr (zs h 126 ((10 * v1) + v3) (((zr h 153 v3) * (100 - (f_M_leak ((10 * v1) + v3) h))) / 100)) 126 ((10 * v1) + v3)).toInt64))) = some (183, [some (.ref 92), some (.int v1), some (.int v2), some (.int v3), some (.int ((10 * v1) + v3))], [.int v3, .ref 153], (zp (zsl (zs h 126 ((10 * v1) + v3) (((zr h 153 v3) * (100 - (f_M_leak ((10 * v1) + v3) h))) / 100)) 127 ((10 * v1) + v3) ((zrl h 127 ((10 * v1) + v3)) + (zr (zs h 126 ((10 * v1) + v3) (((zr h 153 v3) * (100 - (f_M_leak ((10 * v1) + v3) h))) / 100)) 126 ((10 * v1) + v3)).toInt64)) 92 88 ((zf h 92 88) + (zr (zs h 126 ((10 * v1) + v3) (((zr h 153 v3) * (100 - (f_M_leak ((10 * v1) + v3) h))) / 100)) 126 ((10 * v1) + v3)))))) (fun hs => ?_)
    obtain ⟨hob, ho⟩ := ho
    refine zg_ial hs zd_224 rfl rfl hob ?_
    obtain ⟨hom, ho⟩ := ho
    have K111 : zSh zT0 (if ((zr h 153 v3) ≤ 0) then (zp (zsl (zs h 126 ((10 * v1) + v3) (((zr h 153 v3) * (100 - (f_M_leak ((10 * v1) + v3) h))) / 100)) 127 ((10 * v1) + v3) ((zrl h 127 ((10 * v1) + v3)) + (zr (zs h 126 ((10 * v1) + v3) (((zr h 153 v3) * (100 - (f_M_leak ((10 * v1) + v3) h))) / 100)) 126 ((10 * v1) + v3)).toInt64)) 92 88 ((zf h 92 88) + (zr (zs h 126 ((10 * v1) + v3) (((zr h 153 v3) * (100 - (f_M_leak ((10 * v1) + v3) h))) / 100)) 126 ((10 * v1) + v3)))) else (zs (zp (zsl (zs h 126 ((10 * v1) + v3) (((zr h 153 v3) * (100 - (f_M_leak ((10 * v1) + v3) h))) / 100)) 127 ((10 * v1) + v3) ((zrl h 127 ((10 * v1) + v3)) + (zr (zs h 126 ((10 * v1) + v3) (((zr h 153 v3) * (100 - (f_M_leak ((10 * v1) + v3) h))) / 100)) 126 ((10 * v1) + v3)).toInt64)) 92 88 ((zf h 92 88) + (zr (zs h 126 ((10 * v1) + v3) (((zr h 153 v3) * (100 - (f_M_leak ((10 * v1) + v3) h))) / 100)) 126 ((10 * v1) + v3)))) 125 ((10 * v1) + v3) ((zr h 125 ((10 * v1) + v3)) + 1))) → zg x (d + 4) 224 198 [some (.ref 92), some (.int v1), some (.int v2), some (.int v3), some (.int ((10 * v1) + v3))] [] (if ((zr h 153 v3) ≤ 0) then (zp (zsl (zs h 126 ((10 * v1) + v3) (((zr h 153 v3) * (100 - (f_M_leak ((10 * v1) + v3) h))) / 100)) 127 ((10 * v1) + v3) ((zrl h 127 ((10 * v1) + v3)) + (zr (zs h 126 ((10 * v1) + v3) (((zr h 153 v3) * (100 - (f_M_leak ((10 * v1) + v3) h))) / 100)) 126 ((10 * v1) + v3)).toInt64)) 92 88 ((zf h 92 88) + (zr (zs h 126 ((10 * v1) + v3) (((zr h 153 v3) * (100 - (f_M_leak ((10 * v1) + v3) h))) / 100)) 126 ((10 * v1) + v3)))) else (zs (zp (zsl (zs h 126 ((10 * v1) + v3) (((zr h 153 v3) * (100 - (f_M_leak ((10 * v1) + v3) h))) / 100)) 127 ((10 * v1) + v3) ((zrl h 127 ((10 * v1) + v3)) + (zr (zs h 126 ((10 * v1) + v3) (((zr h 153 v3) * (100 - (f_M_leak ((10 * v1) + v3) h))) / 100)) 126 ((10 * v1) + v3)).toInt64)) 92 88 ((zf h 92 88) + (zr (zs h 126 ((10 * v1) + v3) (((zr h 153 v3) * (100 - (f_M_leak ((10 * v1) + v3) h))) / 100)) 126 ((10 * v1) + v3)))) 125 ((10 * v1) + v3) ((zr h 125 ((10 * v1) + v3)) + 1))) Q := fun hs => by
      refine zg_blk zd_224 3 hs (rfl : zb x zT0 zc_224 3 (198, [some (.ref 92), some (.int v1), some (.int v2), some (.int v3), some (.int ((10 * v1) + v3))], [], (if ((zr h 153 v3) ≤ 0) then (zp (zsl (zs h 126 ((10 * v1) + v3) (((zr h 153 v3) * (100 - (f_M_leak ((10 * v1) + v3) h))) / 100)) 127 ((10 * v1) + v3) ((zrl h 127 ((10 * v1) + v3)) + (zr (zs h 126 ((10 * v1) + v3) (((zr h 153 v3) * (100 - (f_M_leak ((10 * v1) + v3) h))) / 100)) 126 ((10 * v1) + v3)).toInt64)) 92 88 ((zf h 92 88) + (zr (zs h 126 ((10 * v1) + v3) (((zr h 153 v3) * (100 - (f_M_leak ((10 * v1) + v3) h))) / 100)) 126 ((10 * v1) + v3)))) else (zs (zp (zsl (zs h 126 ((10 * v1) + v3) (((zr h 153 v3) * (100 - (f_M_leak ((10 * v1) + v3) h))) / 100)) 127 ((10 * v1) + v3) ((zrl h 127 ((10 * v1) + v3)) + (zr (zs h 126 ((10 * v1) + v3) (((zr h 153 v3) * (100 - (f_M_leak ((10 * v1) + v3) h))) / 100)) 126 ((10 * v1) + v3)).toInt64)) 92 88 ((zf h 92 88) + (zr (zs h 126 ((10 * v1) + v3) (((zr h 153 v3) * (100 - (f_M_leak ((10 * v1) + v3) h))) / 100)) 126 ((10 * v1) + v3)))) 125 ((10 * v1) + v3) ((zr h 125 ((10 * v1) + v3)) + 1)))) = some (204, [some (.ref 92), some (.int v1), some (.int v2), some (.int v3), some (.int ((10 * v1) + v3))], [.int ((10 * v1) + v3), .ref 123], (if ((zr h 153 v3) ≤ 0) then (zp (zsl (zs h 126 ((10 * v1) + v3) (((zr h 153 v3) * (100 - (f_M_leak ((10 * v1) + v3) h))) / 100)) 127 ((10 * v1) + v3) ((zrl h 127 ((10 * v1) + v3)) + (zr (zs h 126 ((10 * v1) + v3) (((zr h 153 v3) * (100 - (f_M_leak ((10 * v1) + v3) h))) / 100)) 126 ((10 * v1) + v3)).toInt64)) 92 88 ((zf h 92 88) + (zr (zs h 126 ((10 * v1) + v3) (((zr h 153 v3) * (100 - (f_M_leak ((10 * v1) + v3) h))) / 100)) 126 ((10 * v1) + v3)))) else (zs (zp (zsl (zs h 126 ((10 * v1) + v3) (((zr h 153 v3) * (100 - (f_M_leak ((10 * v1) + v3) h))) / 100)) 127 ((10 * v1) + v3) ((zrl h 127 ((10 * v1) + v3)) + (zr (zs h 126 ((10 * v1) + v3) (((zr h 153 v3) * (100 - (f_M_leak ((10 * v1) + v3) h))) / 100)) 126 ((10 * v1) + v3)).toInt64)) 92 88 ((zf h 92 88) + (zr (zs h 126 ((10 * v1) + v3) (((zr h 153 v3) * (100 - (f_M_leak ((10 * v1) + v3) h))) / 100)) 126 ((10 * v1) + v3)))) 125 ((10 * v1) + v3) ((zr h 125 ((10 * v1) + v3)) + 1))))) (fun hs => ?_)
      obtain ⟨hob, ho⟩ := ho
      refine zg_ial hs zd_224 rfl rfl hob ?_
      refine zg_blk zd_224 1 hs (rfl : zb x zT0 zc_224 1 (205, [some (.ref 92), some (.int v1), some (.int v2), some (.int v3), some (.int ((10 * v1) + v3))], [.int (zr (if ((zr h 153 v3) ≤ 0) then (zp (zsl (zs h 126 ((10 * v1) + v3) (((zr h 153 v3) * (100 - (f_M_leak ((10 * v1) + v3) h))) / 100)) 127 ((10 * v1) + v3) ((zrl h 127 ((10 * v1) + v3)) + (zr (zs h 126 ((10 * v1) + v3) (((zr h 153 v3) * (100 - (f_M_leak ((10 * v1) + v3) h))) / 100)) 126 ((10 * v1) + v3)).toInt64)) 92 88 ((zf h 92 88) + (zr (zs h 126 ((10 * v1) + v3) (((zr h 153 v3) * (100 - (f_M_leak ((10 * v1) + v3) h))) / 100)) 126 ((10 * v1) + v3)))) else (zs (zp (zsl (zs h 126 ((10 * v1) + v3) (((zr h 153 v3) * (100 - (f_M_leak ((10 * v1) + v3) h))) / 100)) 127 ((10 * v1) + v3) ((zrl h 127 ((10 * v1) + v3)) + (zr (zs h 126 ((10 * v1) + v3) (((zr h 153 v3) * (100 - (f_M_leak ((10 * v1) + v3) h))) / 100)) 126 ((10 * v1) + v3)).toInt64)) 92 88 ((zf h 92 88) + (zr (zs h 126 ((10 * v1) + v3) (((zr h 153 v3) * (100 - (f_M_leak ((10 * v1) + v3) h))) / 100)) 126 ((10 * v1) + v3)))) 125 ((10 * v1) + v3) ((zr h 125 ((10 * v1) + v3)) + 1))) 123 ((10 * v1) + v3))], (if ((zr h 153 v3) ≤ 0) then (zp (zsl (zs h 126 ((10 * v1) + v3) (((zr h 153 v3) * (100 - (f_M_leak ((10 * v1) + v3) h))) / 100)) 127 ((10 * v1) + v3) ((zrl h 127 ((10 * v1) + v3)) + (zr (zs h 126 ((10 * v1) + v3) (((zr h 153 v3) * (100 - (f_M_leak ((10 * v1) + v3) h))) / 100)) 126 ((10 * v1) + v3)).toInt64)) 92 88 ((zf h 92 88) + (zr (zs h 126 ((10 * v1) + v3) (((zr h 153 v3) * (100 - (f_M_leak ((10 * v1) + v3) h))) / 100)) 126 ((10 * v1) + v3)))) else (zs (zp (zsl (zs h 126 ((10 * v1) + v3) (((zr h 153 v3) * (100 - (f_M_leak ((10 * v1) + v3) h))) / 100)) 127 ((10 * v1) + v3) ((zrl h 127 ((10 * v1) + v3)) + (zr (zs h 126 ((10 * v1) + v3) (((zr h 153 v3) * (100 - (f_M_leak ((10 * v1) + v3) h))) / 100)) 126 ((10 * v1) + v3)).toInt64)) 92 88 ((zf h 92 88) + (zr (zs h 126 ((10 * v1) + v3) (((zr h 153 v3) * (100 - (f_M_leak ((10 * v1) + v3) h))) / 100)) 126 ((10 * v1) + v3)))) 125 ((10 * v1) + v3) ((zr h 125 ((10 * v1) + v3)) + 1)))) = some (206, [some (.ref 92), some (.int v1), some (.int v2), some (.int v3), some (.int ((10 * v1) + v3))], [.int 1, .int (zr (if ((zr h 153 v3) ≤ 0) then (zp (zsl (zs h 126 ((10 * v1) + v3) (((zr h 153 v3) * (100 - (f_M_leak ((10 * v1) + v3) h))) / 100)) 127 ((10 * v1) + v3) ((zrl h 127 ((10 * v1) + v3)) + (zr (zs h 126 ((10 * v1) + v3) (((zr h 153 v3) * (100 - (f_M_leak ((10 * v1) + v3) h))) / 100)) 126 ((10 * v1) + v3)).toInt64)) 92 88 ((zf h 92 88) + (zr (zs h 126 ((10 * v1) + v3) (((zr h 153 v3) * (100 - (f_M_leak ((10 * v1) + v3) h))) / 100)) 126 ((10 * v1) + v3)))) else (zs (zp (zsl (zs h 126 ((10 * v1) + v3) (((zr h 153 v3) * (100 - (f_M_leak ((10 * v1) + v3) h))) / 100)) 127 ((10 * v1) + v3) ((zrl h 127 ((10 * v1) + v3)) + (zr (zs h 126 ((10 * v1) + v3) (((zr h 153 v3) * (100 - (f_M_leak ((10 * v1) + v3) h))) / 100)) 126 ((10 * v1) + v3)).toInt64)) 92 88 ((zf h 92 88) + (zr (zs h 126 ((10 * v1) + v3) (((zr h 153 v3) * (100 - (f_M_leak ((10 * v1) + v3) h))) / 100)) 126 ((10 * v1) + v3)))) 125 ((10 * v1) + v3) ((zr h 125 ((10 * v1) + v3)) + 1))) 123 ((10 * v1) + v3))], (if ((zr h 153 v3) ≤ 0) then (zp (zsl (zs h 126 ((10 * v1) + v3) (((zr h 153 v3) * (100 - (f_M_leak ((10 * v1) + v3) h))) / 100)) 127 ((10 * v1) + v3) ((zrl h 127 ((10 * v1) + v3)) + (zr (zs h 126 ((10 * v1) + v3) (((zr h 153 v3) * (100 - (f_M_leak ((10 * v1) + v3) h))) / 100)) 126 ((10 * v1) + v3)).toInt64)) 92 88 ((zf h 92 88) + (zr (zs h 126 ((10 * v1) + v3) (((zr h 153 v3) * (100 - (f_M_leak ((10 * v1) + v3) h))) / 100)) 126 ((10 * v1) + v3)))) else (zs (zp (zsl (zs h 126 ((10 * v1) + v3) (((zr h 153 v3) * (100 - (f_M_leak ((10 * v1) + v3) h))) / 100)) 127 ((10 * v1) + v3) ((zrl h 127 ((10 * v1) + v3)) + (zr (zs h 126 ((10 * v1) + v3) (((zr h 153 v3) * (100 - (f_M_leak ((10 * v1) + v3) h))) / 100)) 126 ((10 * v1) + v3)).toInt64)) 92 88 ((zf h 92 88) + (zr (zs h 126 ((10 * v1) + v3) (((zr h 153 v3) * (100 - (f_M_leak ((10 * v1) + v3) h))) / 100)) 126 ((10 * v1) + v3)))) 125 ((10 * v1) + v3) ((zr h 125 ((10 * v1) + v3)) + 1))))) (fun hs => ?_)
      refine zg_i_ne zd_224 rfl (fun (hc : ¬ ((zr (if ((zr h 153 v3) ≤ 0) then (zp (zsl (zs h 126 ((10 * v1) + v3) (((zr h 153 v3) * (100 - (f_M_leak ((10 * v1) + v3) h))) / 100)) 127 ((10 * v1) + v3) ((zrl h 127 ((10 * v1) + v3)) + (zr (zs h 126 ((10 * v1) + v3) (((zr h 153 v3) * (100 - (f_M_leak ((10 * v1) + v3) h))) / 100)) 126 ((10 * v1) + v3)).toInt64)) 92 88 ((zf h 92 88) + (zr (zs h 126 ((10 * v1) + v3) (((zr h 153 v3) * (100 - (f_M_leak ((10 * v1) + v3) h))) / 100)) 126 ((10 * v1) + v3)))) else (zs (zp (zsl (zs h 126 ((10 * v1) + v3) (((zr h 153 v3) * (100 - (f_M_leak ((10 * v1) + v3) h))) / 100)) 127 ((10 * v1) + v3) ((zrl h 127 ((10 * v1) + v3)) + (zr (zs h 126 ((10 * v1) + v3) (((zr h 153 v3) * (100 - (f_M_leak ((10 * v1) + v3) h))) / 100)) 126 ((10 * v1) + v3)).toInt64)) 92 88 ((zf h 92 88) + (zr (zs h 126 ((10 * v1) + v3) (((zr h 153 v3) * (100 - (f_M_leak ((10 * v1) + v3) h))) / 100)) 126 ((10 * v1) + v3)))) 125 ((10 * v1) + v3) ((zr h 125 ((10 * v1) + v3)) + 1))) 123 ((10 * v1) + v3)) = 1)) => ?_) (fun (hc : ((zr (if ((zr h 153 v3) ≤ 0) then (zp (zsl (zs h 126 ((10 * v1) + v3) (((zr h 153 v3) * (100 - (f_M_leak ((10 * v1) + v3) h))) / 100)) 127 ((10 * v1) + v3) ((zrl h 127 ((10 * v1) + v3)) + (zr (zs h 126 ((10 * v1) + v3) (((zr h 153 v3) * (100 - (f_M_leak ((10 * v1) + v3) h))) / 100)) 126 ((10 * v1) + v3)).toInt64)) 92 88 ((zf h 92 88) + (zr (zs h 126 ((10 * v1) + v3) (((zr h 153 v3) * (100 - (f_M_leak ((10 * v1) + v3) h))) / 100)) 126 ((10 * v1) + v3)))) else (zs (zp (zsl (zs h 126 ((10 * v1) + v3) (((zr h 153 v3) * (100 - (f_M_leak ((10 * v1) + v3) h))) / 100)) 127 ((10 * v1) + v3) ((zrl h 127 ((10 * v1) + v3)) + (zr (zs h 126 ((10 * v1) + v3) (((zr h 153 v3) * (100 - (f_M_leak ((10 * v1) + v3) h))) / 100)) 126 ((10 * v1) + v3)).toInt64)) 92 88 ((zf h 92 88) + (zr (zs h 126 ((10 * v1) + v3) (((zr h 153 v3) * (100 - (f_M_leak ((10 * v1) + v3) h))) / 100)) 126 ((10 * v1) + v3)))) 125 ((10 * v1) + v3) ((zr h 125 ((10 * v1) + v3)) + 1))) 123 ((10 * v1) + v3)) = 1)) => ?_)
      · have ho := ho.2 hc
        rw [if_neg hc] at hF
        exact f_M_goes_l102_k216_t v1 v2 v3 (if ((zr h 153 v3) ≤ 0) then (zp (zsl (zs h 126 ((10 * v1) + v3) (((zr h 153 v3) * (100 - (f_M_leak ((10 * v1) + v3) h))) / 100)) 127 ((10 * v1) + v3) ((zrl h 127 ((10 * v1) + v3)) + (zr (zs h 126 ((10 * v1) + v3) (((zr h 153 v3) * (100 - (f_M_leak ((10 * v1) + v3) h))) / 100)) 126 ((10 * v1) + v3)).toInt64)) 92 88 ((zf h 92 88) + (zr (zs h 126 ((10 * v1) + v3) (((zr h 153 v3) * (100 - (f_M_leak ((10 * v1) + v3) h))) / 100)) 126 ((10 * v1) + v3)))) else (zs (zp (zsl (zs h 126 ((10 * v1) + v3) (((zr h 153 v3) * (100 - (f_M_leak ((10 * v1) + v3) h))) / 100)) 127 ((10 * v1) + v3) ((zrl h 127 ((10 * v1) + v3)) + (zr (zs h 126 ((10 * v1) + v3) (((zr h 153 v3) * (100 - (f_M_leak ((10 * v1) + v3) h))) / 100)) 126 ((10 * v1) + v3)).toInt64)) 92 88 ((zf h 92 88) + (zr (zs h 126 ((10 * v1) + v3) (((zr h 153 v3) * (100 - (f_M_leak ((10 * v1) + v3) h))) / 100)) 126 ((10 * v1) + v3)))) 125 ((10 * v1) + v3) ((zr h 125 ((10 * v1) + v3)) + 1))) (some (.int ((10 * v1) + v3))) hs trivial hF hl0 hl1
      · have ho := ho.1 hc
        rw [if_pos hc] at hF
        refine zg_blk zd_224 4 hs (rfl : zb x zT0 zc_224 4 (209, [some (.ref 92), some (.int v1), some (.int v2), some (.int v3), some (.int ((10 * v1) + v3))], [], (if ((zr h 153 v3) ≤ 0) then (zp (zsl (zs h 126 ((10 * v1) + v3) (((zr h 153 v3) * (100 - (f_M_leak ((10 * v1) + v3) h))) / 100)) 127 ((10 * v1) + v3) ((zrl h 127 ((10 * v1) + v3)) + (zr (zs h 126 ((10 * v1) + v3) (((zr h 153 v3) * (100 - (f_M_leak ((10 * v1) + v3) h))) / 100)) 126 ((10 * v1) + v3)).toInt64)) 92 88 ((zf h 92 88) + (zr (zs h 126 ((10 * v1) + v3) (((zr h 153 v3) * (100 - (f_M_leak ((10 * v1) + v3) h))) / 100)) 126 ((10 * v1) + v3)))) else (zs (zp (zsl (zs h 126 ((10 * v1) + v3) (((zr h 153 v3) * (100 - (f_M_leak ((10 * v1) + v3) h))) / 100)) 127 ((10 * v1) + v3) ((zrl h 127 ((10 * v1) + v3)) + (zr (zs h 126 ((10 * v1) + v3) (((zr h 153 v3) * (100 - (f_M_leak ((10 * v1) + v3) h))) / 100)) 126 ((10 * v1) + v3)).toInt64)) 92 88 ((zf h 92 88) + (zr (zs h 126 ((10 * v1) + v3) (((zr h 153 v3) * (100 - (f_M_leak ((10 * v1) + v3) h))) / 100)) 126 ((10 * v1) + v3)))) 125 ((10 * v1) + v3) ((zr h 125 ((10 * v1) + v3)) + 1)))) = some (213, [some (.ref 92), some (.int v1), some (.int v2), some (.int v3), some (.int ((10 * v1) + v3))], [.int v2, .int v3, .int v1, .ref 92], (if ((zr h 153 v3) ≤ 0) then (zp (zsl (zs h 126 ((10 * v1) + v3) (((zr h 153 v3) * (100 - (f_M_leak ((10 * v1) + v3) h))) / 100)) 127 ((10 * v1) + v3) ((zrl h 127 ((10 * v1) + v3)) + (zr (zs h 126 ((10 * v1) + v3) (((zr h 153 v3) * (100 - (f_M_leak ((10 * v1) + v3) h))) / 100)) 126 ((10 * v1) + v3)).toInt64)) 92 88 ((zf h 92 88) + (zr (zs h 126 ((10 * v1) + v3) (((zr h 153 v3) * (100 - (f_M_leak ((10 * v1) + v3) h))) / 100)) 126 ((10 * v1) + v3)))) else (zs (zp (zsl (zs h 126 ((10 * v1) + v3) (((zr h 153 v3) * (100 - (f_M_leak ((10 * v1) + v3) h))) / 100)) 127 ((10 * v1) + v3) ((zrl h 127 ((10 * v1) + v3)) + (zr (zs h 126 ((10 * v1) + v3) (((zr h 153 v3) * (100 - (f_M_leak ((10 * v1) + v3) h))) / 100)) 126 ((10 * v1) + v3)).toInt64)) 92 88 ((zf h 92 88) + (zr (zs h 126 ((10 * v1) + v3) (((zr h 153 v3) * (100 - (f_M_leak ((10 * v1) + v3) h))) / 100)) 126 ((10 * v1) + v3)))) 125 ((10 * v1) + v3) ((zr h 125 ((10 * v1) + v3)) + 1))))) (fun hs => ?_)
        have hob := ho
        refine zg_call hs zd_224 rfl rfl rfl rfl (as := [.ref 92, .int v1, .int v3, .int v2]) (rest := []) (en := [some (.ref 92), some (.int v1), some (.int v3), some (.int v2), none, none, none, none, none, none]) rfl rfl rfl rfl rfl ?_
        refine f_M_chains_t v1 v3 v2 (if ((zr h 153 v3) ≤ 0) then (zp (zsl (zs h 126 ((10 * v1) + v3) (((zr h 153 v3) * (100 - (f_M_leak ((10 * v1) + v3) h))) / 100)) 127 ((10 * v1) + v3) ((zrl h 127 ((10 * v1) + v3)) + (zr (zs h 126 ((10 * v1) + v3) (((zr h 153 v3) * (100 - (f_M_leak ((10 * v1) + v3) h))) / 100)) 126 ((10 * v1) + v3)).toInt64)) 92 88 ((zf h 92 88) + (zr (zs h 126 ((10 * v1) + v3) (((zr h 153 v3) * (100 - (f_M_leak ((10 * v1) + v3) h))) / 100)) 126 ((10 * v1) + v3)))) else (zs (zp (zsl (zs h 126 ((10 * v1) + v3) (((zr h 153 v3) * (100 - (f_M_leak ((10 * v1) + v3) h))) / 100)) 127 ((10 * v1) + v3) ((zrl h 127 ((10 * v1) + v3)) + (zr (zs h 126 ((10 * v1) + v3) (((zr h 153 v3) * (100 - (f_M_leak ((10 * v1) + v3) h))) / 100)) 126 ((10 * v1) + v3)).toInt64)) 92 88 ((zf h 92 88) + (zr (zs h 126 ((10 * v1) + v3) (((zr h 153 v3) * (100 - (f_M_leak ((10 * v1) + v3) h))) / 100)) 126 ((10 * v1) + v3)))) 125 ((10 * v1) + v3) ((zr h 125 ((10 * v1) + v3)) + 1))) hs hob (fun hs => ?_)
        show zg x (d + 4) 224 216 [some (.ref 92), some (.int v1), some (.int v2), some (.int v3), some (.int ((10 * v1) + v3))] [] (f_M_chains v1 v3 v2 (if ((zr h 153 v3) ≤ 0) then (zp (zsl (zs h 126 ((10 * v1) + v3) (((zr h 153 v3) * (100 - (f_M_leak ((10 * v1) + v3) h))) / 100)) 127 ((10 * v1) + v3) ((zrl h 127 ((10 * v1) + v3)) + (zr (zs h 126 ((10 * v1) + v3) (((zr h 153 v3) * (100 - (f_M_leak ((10 * v1) + v3) h))) / 100)) 126 ((10 * v1) + v3)).toInt64)) 92 88 ((zf h 92 88) + (zr (zs h 126 ((10 * v1) + v3) (((zr h 153 v3) * (100 - (f_M_leak ((10 * v1) + v3) h))) / 100)) 126 ((10 * v1) + v3)))) else (zs (zp (zsl (zs h 126 ((10 * v1) + v3) (((zr h 153 v3) * (100 - (f_M_leak ((10 * v1) + v3) h))) / 100)) 127 ((10 * v1) + v3) ((zrl h 127 ((10 * v1) + v3)) + (zr (zs h 126 ((10 * v1) + v3) (((zr h 153 v3) * (100 - (f_M_leak ((10 * v1) + v3) h))) / 100)) 126 ((10 * v1) + v3)).toInt64)) 92 88 ((zf h 92 88) + (zr (zs h 126 ((10 * v1) + v3) (((zr h 153 v3) * (100 - (f_M_leak ((10 * v1) + v3) h))) / 100)) 126 ((10 * v1) + v3)))) 125 ((10 * v1) + v3) ((zr h 125 ((10 * v1) + v3)) + 1)))) Q
        exact f_M_goes_l102_k216_t v1 v2 v3 (f_M_chains v1 v3 v2 (if ((zr h 153 v3) ≤ 0) then (zp (zsl (zs h 126 ((10 * v1) + v3) (((zr h 153 v3) * (100 - (f_M_leak ((10 * v1) + v3) h))) / 100)) 127 ((10 * v1) + v3) ((zrl h 127 ((10 * v1) + v3)) + (zr (zs h 126 ((10 * v1) + v3) (((zr h 153 v3) * (100 - (f_M_leak ((10 * v1) + v3) h))) / 100)) 126 ((10 * v1) + v3)).toInt64)) 92 88 ((zf h 92 88) + (zr (zs h 126 ((10 * v1) + v3) (((zr h 153 v3) * (100 - (f_M_leak ((10 * v1) + v3) h))) / 100)) 126 ((10 * v1) + v3)))) else (zs (zp (zsl (zs h 126 ((10 * v1) + v3) (((zr h 153 v3) * (100 - (f_M_leak ((10 * v1) + v3) h))) / 100)) 127 ((10 * v1) + v3) ((zrl h 127 ((10 * v1) + v3)) + (zr (zs h 126 ((10 * v1) + v3) (((zr h 153 v3) * (100 - (f_M_leak ((10 * v1) + v3) h))) / 100)) 126 ((10 * v1) + v3)).toInt64)) 92 88 ((zf h 92 88) + (zr (zs h 126 ((10 * v1) + v3) (((zr h 153 v3) * (100 - (f_M_leak ((10 * v1) + v3) h))) / 100)) 126 ((10 * v1) + v3)))) 125 ((10 * v1) + v3) ((zr h 125 ((10 * v1) + v3)) + 1)))) (some (.int ((10 * v1) + v3))) hs trivial hF hl0 hl1
    refine zg_f_le zd_224 rfl (fun (hc : ((zr h 153 v3) ≤ 0)) => ?_) (fun (hc : ¬ ((zr h 153 v3) ≤ 0)) => ?_)
    · have ho := hom.1 hc
      rw [show (if ((zr h 153 v3) ≤ 0) then (zp (zsl (zs h 126 ((10 * v1) + v3) (((zr h 153 v3) * (100 - (f_M_leak ((10 * v1) + v3) h))) / 100)) 127 ((10 * v1) + v3) ((zrl h 127 ((10 * v1) + v3)) + (zr (zs h 126 ((10 * v1) + v3) (((zr h 153 v3) * (100 - (f_M_leak ((10 * v1) + v3) h))) / 100)) 126 ((10 * v1) + v3)).toInt64)) 92 88 ((zf h 92 88) + (zr (zs h 126 ((10 * v1) + v3) (((zr h 153 v3) * (100 - (f_M_leak ((10 * v1) + v3) h))) / 100)) 126 ((10 * v1) + v3)))) else (zs (zp (zsl (zs h 126 ((10 * v1) + v3) (((zr h 153 v3) * (100 - (f_M_leak ((10 * v1) + v3) h))) / 100)) 127 ((10 * v1) + v3) ((zrl h 127 ((10 * v1) + v3)) + (zr (zs h 126 ((10 * v1) + v3) (((zr h 153 v3) * (100 - (f_M_leak ((10 * v1) + v3) h))) / 100)) 126 ((10 * v1) + v3)).toInt64)) 92 88 ((zf h 92 88) + (zr (zs h 126 ((10 * v1) + v3) (((zr h 153 v3) * (100 - (f_M_leak ((10 * v1) + v3) h))) / 100)) 126 ((10 * v1) + v3)))) 125 ((10 * v1) + v3) ((zr h 125 ((10 * v1) + v3)) + 1))) = (zp (zsl (zs h 126 ((10 * v1) + v3) (((zr h 153 v3) * (100 - (f_M_leak ((10 * v1) + v3) h))) / 100)) 127 ((10 * v1) + v3) ((zrl h 127 ((10 * v1) + v3)) + (zr (zs h 126 ((10 * v1) + v3) (((zr h 153 v3) * (100 - (f_M_leak ((10 * v1) + v3) h))) / 100)) 126 ((10 * v1) + v3)).toInt64)) 92 88 ((zf h 92 88) + (zr (zs h 126 ((10 * v1) + v3) (((zr h 153 v3) * (100 - (f_M_leak ((10 * v1) + v3) h))) / 100)) 126 ((10 * v1) + v3)))) from if_pos hc] at K111
      exact K111 hs
    · have ho := hom.2 hc
      rw [show (if ((zr h 153 v3) ≤ 0) then (zp (zsl (zs h 126 ((10 * v1) + v3) (((zr h 153 v3) * (100 - (f_M_leak ((10 * v1) + v3) h))) / 100)) 127 ((10 * v1) + v3) ((zrl h 127 ((10 * v1) + v3)) + (zr (zs h 126 ((10 * v1) + v3) (((zr h 153 v3) * (100 - (f_M_leak ((10 * v1) + v3) h))) / 100)) 126 ((10 * v1) + v3)).toInt64)) 92 88 ((zf h 92 88) + (zr (zs h 126 ((10 * v1) + v3) (((zr h 153 v3) * (100 - (f_M_leak ((10 * v1) + v3) h))) / 100)) 126 ((10 * v1) + v3)))) else (zs (zp (zsl (zs h 126 ((10 * v1) + v3) (((zr h 153 v3) * (100 - (f_M_leak ((10 * v1) + v3) h))) / 100)) 127 ((10 * v1) + v3) ((zrl h 127 ((10 * v1) + v3)) + (zr (zs h 126 ((10 * v1) + v3) (((zr h 153 v3) * (100 - (f_M_leak ((10 * v1) + v3) h))) / 100)) 126 ((10 * v1) + v3)).toInt64)) 92 88 ((zf h 92 88) + (zr (zs h 126 ((10 * v1) + v3) (((zr h 153 v3) * (100 - (f_M_leak ((10 * v1) + v3) h))) / 100)) 126 ((10 * v1) + v3)))) 125 ((10 * v1) + v3) ((zr h 125 ((10 * v1) + v3)) + 1))) = (zs (zp (zsl (zs h 126 ((10 * v1) + v3) (((zr h 153 v3) * (100 - (f_M_leak ((10 * v1) + v3) h))) / 100)) 127 ((10 * v1) + v3) ((zrl h 127 ((10 * v1) + v3)) + (zr (zs h 126 ((10 * v1) + v3) (((zr h 153 v3) * (100 - (f_M_leak ((10 * v1) + v3) h))) / 100)) 126 ((10 * v1) + v3)).toInt64)) 92 88 ((zf h 92 88) + (zr (zs h 126 ((10 * v1) + v3) (((zr h 153 v3) * (100 - (f_M_leak ((10 * v1) + v3) h))) / 100)) 126 ((10 * v1) + v3)))) 125 ((10 * v1) + v3) ((zr h 125 ((10 * v1) + v3)) + 1)) from if_neg hc] at K111
      refine zg_blk zd_224 4 hs (rfl : zb x zT0 zc_224 4 (187, [some (.ref 92), some (.int v1), some (.int v2), some (.int v3), some (.int ((10 * v1) + v3))], [], (zp (zsl (zs h 126 ((10 * v1) + v3) (((zr h 153 v3) * (100 - (f_M_leak ((10 * v1) + v3) h))) / 100)) 127 ((10 * v1) + v3) ((zrl h 127 ((10 * v1) + v3)) + (zr (zs h 126 ((10 * v1) + v3) (((zr h 153 v3) * (100 - (f_M_leak ((10 * v1) + v3) h))) / 100)) 126 ((10 * v1) + v3)).toInt64)) 92 88 ((zf h 92 88) + (zr (zs h 126 ((10 * v1) + v3) (((zr h 153 v3) * (100 - (f_M_leak ((10 * v1) + v3) h))) / 100)) 126 ((10 * v1) + v3))))) = some (194, [some (.ref 92), some (.int v1), some (.int v2), some (.int v3), some (.int ((10 * v1) + v3))], [.int ((10 * v1) + v3), .ref 125, .int ((10 * v1) + v3), .ref 125], (zp (zsl (zs h 126 ((10 * v1) + v3) (((zr h 153 v3) * (100 - (f_M_leak ((10 * v1) + v3) h))) / 100)) 127 ((10 * v1) + v3) ((zrl h 127 ((10 * v1) + v3)) + (zr (zs h 126 ((10 * v1) + v3) (((zr h 153 v3) * (100 - (f_M_leak ((10 * v1) + v3) h))) / 100)) 126 ((10 * v1) + v3)).toInt64)) 92 88 ((zf h 92 88) + (zr (zs h 126 ((10 * v1) + v3) (((zr h 153 v3) * (100 - (f_M_leak ((10 * v1) + v3) h))) / 100)) 126 ((10 * v1) + v3)))))) (fun hs => ?_)
      obtain ⟨hob, ho⟩ := ho
      refine zg_ial hs zd_224 rfl rfl hob ?_
      refine zg_blk zd_224 2 hs (rfl : zb x zT0 zc_224 2 (195, [some (.ref 92), some (.int v1), some (.int v2), some (.int v3), some (.int ((10 * v1) + v3))], [.int (zr h 125 ((10 * v1) + v3)), .int ((10 * v1) + v3), .ref 125], (zp (zsl (zs h 126 ((10 * v1) + v3) (((zr h 153 v3) * (100 - (f_M_leak ((10 * v1) + v3) h))) / 100)) 127 ((10 * v1) + v3) ((zrl h 127 ((10 * v1) + v3)) + (zr (zs h 126 ((10 * v1) + v3) (((zr h 153 v3) * (100 - (f_M_leak ((10 * v1) + v3) h))) / 100)) 126 ((10 * v1) + v3)).toInt64)) 92 88 ((zf h 92 88) + (zr (zs h 126 ((10 * v1) + v3) (((zr h 153 v3) * (100 - (f_M_leak ((10 * v1) + v3) h))) / 100)) 126 ((10 * v1) + v3))))) = some (197, [some (.ref 92), some (.int v1), some (.int v2), some (.int v3), some (.int ((10 * v1) + v3))], [.int ((zr h 125 ((10 * v1) + v3)) + 1), .int ((10 * v1) + v3), .ref 125], (zp (zsl (zs h 126 ((10 * v1) + v3) (((zr h 153 v3) * (100 - (f_M_leak ((10 * v1) + v3) h))) / 100)) 127 ((10 * v1) + v3) ((zrl h 127 ((10 * v1) + v3)) + (zr (zs h 126 ((10 * v1) + v3) (((zr h 153 v3) * (100 - (f_M_leak ((10 * v1) + v3) h))) / 100)) 126 ((10 * v1) + v3)).toInt64)) 92 88 ((zf h 92 88) + (zr (zs h 126 ((10 * v1) + v3) (((zr h 153 v3) * (100 - (f_M_leak ((10 * v1) + v3) h))) / 100)) 126 ((10 * v1) + v3)))))) (fun hs => ?_)
      have hob := ho
      refine zg_ias hs zd_224 rfl rfl hob (fun hs => ?_)
      exact K111 hs
theorem f_M_goes_l102_t {x : zm_X} {d : Nat} (v1 : Int32) (v2 : Int32) {Q : Option Value → zm_H → Prop} (G : Nat × Int32 × zm_H → Prop) (hx1 : ∀ (v3 : Int32) (h : zm_H) (o3 : Option Value) (o4 : Option Value), zSh zT0 h → G (1, v3, h) → zg x (d + 4) 224 222 [some (.ref 92), some (.int v1), some (.int v2), o3, o4] [] h Q) : ∀ (n : Nat) (v3 : Int32) (h : zm_H) (o4 : Option Value), zSh zT0 h → f_M_goes_l102_ok v1 v2 n (v3, h) → G (f_M_goes_l102 v1 v2 n (v3, h)) → zg x (d + 4) 224 102 [some (.ref 92), some (.int v1), some (.int v2), some (.int v3), o4] [] h Q := by
  intro n
  induction n with
  | zero => intro v3 h o4 hs ho hG; exact ho.elim
  | succ n ih =>
    intro v3 h o4 hs ho hG
    refine f_M_goes_l102_b_t (FN := fun r => (r.1 = 0 → f_M_goes_l102_ok v1 v2 n r.2) ∧ G (if r.1 = 0 then f_M_goes_l102 v1 v2 n r.2 else r)) v1 v2 v3 h o4 hs ho.1 ⟨ho.2, hG⟩ ?_ ?_
    · intro v3 h o4 hs hF
      exact ih v3 h o4 hs (hF.1 rfl) hF.2
    · intro v3 h o3 o4 hs hF
      exact hx1 v3 h o3 o4 hs hF.2

set_option maxRecDepth 100000 in
set_option maxHeartbeats 400000 in
theorem f_M_goes_l229_k304_t {x : zm_X} {d : Nat} (v1 : Int32) (v2 : Int32) (v3 : Int32) (h : zm_H) (o4 : Option Value) {Q : Option Value → zm_H → Prop} {FN : Nat × Int32 × zm_H → Prop} (hs : zSh zT0 h) (ho : f_M_goes_l229_k304_ok v1 v2 v3 h) (hF : FN (f_M_goes_l229_k304 v1 v2 v3 h)) (hl0 : ∀ (v3 : Int32) (h : zm_H) (o4 : Option Value), zSh zT0 h → FN (0, v3, h) → zg x (d + 4) 224 229 [some (.ref 92), some (.int v1), some (.int v2), some (.int v3), o4] [] h Q) (hl1 : ∀ (v3 : Int32) (h : zm_H) (o3 : Option Value) (o4 : Option Value), zSh zT0 h → FN (1, v3, h) → zg x (d + 4) 224 310 [some (.ref 92), some (.int v1), some (.int v2), o3, o4] [] h Q) : zg x (d + 4) 224 304 [some (.ref 92), some (.int v1), some (.int v2), some (.int v3), o4] [] h Q := by
  unfold f_M_goes_l229_k304 at hF
  unfold f_M_goes_l229_k304_ok at ho
  refine zg_blk zd_224 2 hs (rfl : zb x zT0 zc_224 2 (304, [some (.ref 92), some (.int v1), some (.int v2), some (.int v3), o4], [], h) = some (229, [some (.ref 92), some (.int v1), some (.int v2), some (.int (v3 + 1)), o4], [], h)) (fun hs => ?_)
  exact hl0 (v3 + 1) h (o4) hs hF
set_option maxRecDepth 100000 in
set_option maxHeartbeats 400000 in
theorem f_M_goes_l229_k263_t {x : zm_X} {d : Nat} (v1 : Int32) (v2 : Int32) (v3 : Int32) (w0 : Int32) (h : zm_H) (o4 : Option Value) {Q : Option Value → zm_H → Prop} {FN : Nat × Int32 × zm_H → Prop} (hs : zSh zT0 h) (ho : f_M_goes_l229_k263_ok v1 v2 v3 w0 h) (hF : FN (f_M_goes_l229_k263 v1 v2 v3 w0 h)) (hl0 : ∀ (v3 : Int32) (h : zm_H) (o4 : Option Value), zSh zT0 h → FN (0, v3, h) → zg x (d + 4) 224 229 [some (.ref 92), some (.int v1), some (.int v2), some (.int v3), o4] [] h Q) (hl1 : ∀ (v3 : Int32) (h : zm_H) (o3 : Option Value) (o4 : Option Value), zSh zT0 h → FN (1, v3, h) → zg x (d + 4) 224 310 [some (.ref 92), some (.int v1), some (.int v2), o3, o4] [] h Q) : zg x (d + 4) 224 263 [some (.ref 92), some (.int v1), some (.int v2), some (.int v3), o4] [.int w0] h Q := by
  unfold f_M_goes_l229_k263 at hF
  unfold f_M_goes_l229_k263_ok at ho
  refine zg_blk zd_224 6 hs (rfl : zb x zT0 zc_224 6 (263, [some (.ref 92), some (.int v1), some (.int v2), some (.int v3), o4], [.int w0], h) = some (275, [some (.ref 92), some (.int v1), some (.int v2), some (.int v3), some (.int w0)], [.int (-100000), .int w0, .int (zf h 92 87), .ref 92], h)) (fun hs => ?_)
  have K112 : zSh zT0 h → zg x (d + 4) 224 300 [some (.ref 92), some (.int v1), some (.int v2), some (.int v3), some (.int w0)] [.int (if ((-100000) ≤ w0) then ((if (w0 ≤ 100000) then (w0 : Int32) else 100000) : Int32) else (-100000)), .int (zf h 92 87), .ref 92] h Q := fun hs => by
    refine zg_blk zd_224 2 hs (rfl : zb x zT0 zc_224 2 (300, [some (.ref 92), some (.int v1), some (.int v2), some (.int v3), some (.int w0)], [.int (if ((-100000) ≤ w0) then ((if (w0 ≤ 100000) then (w0 : Int32) else 100000) : Int32) else (-100000)), .int (zf h 92 87), .ref 92], h) = some (304, [some (.ref 92), some (.int v1), some (.int v2), some (.int v3), some (.int w0)], [], (zp h 92 87 ((zf h 92 87) + (if ((-100000) ≤ w0) then ((if (w0 ≤ 100000) then (w0 : Int32) else 100000) : Int32) else (-100000)))))) (fun hs => ?_)
    exact f_M_goes_l229_k304_t v1 v2 v3 (zp h 92 87 ((zf h 92 87) + (if ((-100000) ≤ w0) then ((if (w0 ≤ 100000) then (w0 : Int32) else 100000) : Int32) else (-100000)))) (some (.int w0)) hs trivial hF hl0 hl1
  refine zg_i_ge zd_224 rfl (fun (hc : ((-100000) ≤ w0)) => ?_) (fun (hc : ¬ ((-100000) ≤ w0)) => ?_)
  · skip
    rw [show ((if ((-100000) ≤ w0) then ((if (w0 ≤ 100000) then (w0 : Int32) else 100000) : Int32) else (-100000)) : Int32) = (if (w0 ≤ 100000) then (w0 : Int32) else 100000) from if_pos hc] at K112
    refine zg_blk zd_224 2 hs (rfl : zb x zT0 zc_224 2 (284, [some (.ref 92), some (.int v1), some (.int v2), some (.int v3), some (.int w0)], [.int (zf h 92 87), .ref 92], h) = some (289, [some (.ref 92), some (.int v1), some (.int v2), some (.int v3), some (.int w0)], [.int 100000, .int w0, .int (zf h 92 87), .ref 92], h)) (fun hs => ?_)
    refine zg_i_le zd_224 rfl (fun (hc : (w0 ≤ 100000)) => ?_) (fun (hc : ¬ (w0 ≤ 100000)) => ?_)
    · skip
      rw [show ((if (w0 ≤ 100000) then (w0 : Int32) else 100000) : Int32) = w0 from if_pos hc] at K112
      refine zg_blk zd_224 1 hs (rfl : zb x zT0 zc_224 1 (298, [some (.ref 92), some (.int v1), some (.int v2), some (.int v3), some (.int w0)], [.int (zf h 92 87), .ref 92], h) = some (300, [some (.ref 92), some (.int v1), some (.int v2), some (.int v3), some (.int w0)], [.int w0, .int (zf h 92 87), .ref 92], h)) (fun hs => ?_)
      exact K112 hs
    · skip
      rw [show ((if (w0 ≤ 100000) then (w0 : Int32) else 100000) : Int32) = 100000 from if_neg hc] at K112
      refine zg_blk zd_224 2 hs (rfl : zb x zT0 zc_224 2 (292, [some (.ref 92), some (.int v1), some (.int v2), some (.int v3), some (.int w0)], [.int (zf h 92 87), .ref 92], h) = some (300, [some (.ref 92), some (.int v1), some (.int v2), some (.int v3), some (.int w0)], [.int 100000, .int (zf h 92 87), .ref 92], h)) (fun hs => ?_)
      exact K112 hs
  · skip
    rw [show ((if ((-100000) ≤ w0) then ((if (w0 ≤ 100000) then (w0 : Int32) else 100000) : Int32) else (-100000)) : Int32) = (-100000) from if_neg hc] at K112
    refine zg_blk zd_224 2 hs (rfl : zb x zT0 zc_224 2 (278, [some (.ref 92), some (.int v1), some (.int v2), some (.int v3), some (.int w0)], [.int (zf h 92 87), .ref 92], h) = some (300, [some (.ref 92), some (.int v1), some (.int v2), some (.int v3), some (.int w0)], [.int (-100000), .int (zf h 92 87), .ref 92], h)) (fun hs => ?_)
    exact K112 hs
set_option maxRecDepth 100000 in
set_option maxHeartbeats 400000 in
theorem f_M_goes_l229_k257_t {x : zm_X} {d : Nat} (v1 : Int32) (v2 : Int32) (v3 : Int32) (h : zm_H) (o4 : Option Value) {Q : Option Value → zm_H → Prop} {FN : Nat × Int32 × zm_H → Prop} (hs : zSh zT0 h) (ho : f_M_goes_l229_k257_ok v1 v2 v3 h) (hF : FN (f_M_goes_l229_k257 v1 v2 v3 h)) (hl0 : ∀ (v3 : Int32) (h : zm_H) (o4 : Option Value), zSh zT0 h → FN (0, v3, h) → zg x (d + 4) 224 229 [some (.ref 92), some (.int v1), some (.int v2), some (.int v3), o4] [] h Q) (hl1 : ∀ (v3 : Int32) (h : zm_H) (o3 : Option Value) (o4 : Option Value), zSh zT0 h → FN (1, v3, h) → zg x (d + 4) 224 310 [some (.ref 92), some (.int v1), some (.int v2), o3, o4] [] h Q) : zg x (d + 4) 224 257 [some (.ref 92), some (.int v1), some (.int v2), some (.int v3), o4] [] h Q := by
  unfold f_M_goes_l229_k257 at hF
  unfold f_M_goes_l229_k257_ok at ho
  refine zg_blk zd_224 3 hs (rfl : zb x zT0 zc_224 3 (257, [some (.ref 92), some (.int v1), some (.int v2), some (.int v3), o4], [], h) = some (260, [some (.ref 92), some (.int v1), some (.int v2), some (.int v3), o4], [.int v2, .int 3, .ref 92], h)) (fun hs => ?_)
  have hob := ho
  refine zg_call hs zd_224 rfl rfl rfl rfl (as := [.ref 92, .int 3, .int v2]) (rest := []) (en := [some (.ref 92), some (.int 3), some (.int v2), none, none, none, none]) rfl rfl rfl rfl rfl ?_
  refine f_M_tells_t 3 v2 h hs hob (fun hs => ?_)
  show zg x (d + 4) 224 263 [some (.ref 92), some (.int v1), some (.int v2), some (.int v3), o4] [.int (f_M_tells 3 v2 h).1] (f_M_tells 3 v2 h).2 Q
  exact f_M_goes_l229_k263_t v1 v2 v3 (f_M_tells 3 v2 h).1 (f_M_tells 3 v2 h).2 (o4) hs trivial hF hl0 hl1
set_option maxRecDepth 100000 in
set_option maxHeartbeats 400000 in
theorem f_M_goes_l229_b_t {x : zm_X} {d : Nat} (v1 : Int32) (v2 : Int32) (v3 : Int32) (h : zm_H) (o4 : Option Value) {Q : Option Value → zm_H → Prop} {FN : Nat × Int32 × zm_H → Prop} (hs : zSh zT0 h) (ho : f_M_goes_l229_b_ok v1 v2 v3 h) (hF : FN (f_M_goes_l229_b v1 v2 v3 h)) (hl0 : ∀ (v3 : Int32) (h : zm_H) (o4 : Option Value), zSh zT0 h → FN (0, v3, h) → zg x (d + 4) 224 229 [some (.ref 92), some (.int v1), some (.int v2), some (.int v3), o4] [] h Q) (hl1 : ∀ (v3 : Int32) (h : zm_H) (o3 : Option Value) (o4 : Option Value), zSh zT0 h → FN (1, v3, h) → zg x (d + 4) 224 310 [some (.ref 92), some (.int v1), some (.int v2), o3, o4] [] h Q) : zg x (d + 4) 224 229 [some (.ref 92), some (.int v1), some (.int v2), some (.int v3), o4] [] h Q := by
  unfold f_M_goes_l229_b at hF
  unfold f_M_goes_l229_b_ok at ho
  refine zg_blk zd_224 3 hs (rfl : zb x zT0 zc_224 3 (229, [some (.ref 92), some (.int v1), some (.int v2), some (.int v3), o4], [], h) = some (234, [some (.ref 92), some (.int v1), some (.int v2), some (.int v3), o4], [.int (zf h 92 33), .int v3], h)) (fun hs => ?_)
  refine zg_i_ge zd_224 rfl (fun (hc : ((zf h 92 33) ≤ v3)) => ?_) (fun (hc : ¬ ((zf h 92 33) ≤ v3)) => ?_)
  · have ho := ho.1 hc
    rw [if_pos hc] at hF
    exact hl1 v3 h (some (.int v3)) (o4) hs hF
  · have ho := ho.2 hc
    rw [if_neg hc] at hF
    refine zg_blk zd_224 3 hs (rfl : zb x zT0 zc_224 3 (237, [some (.ref 92), some (.int v1), some (.int v2), some (.int v3), o4], [], h) = some (242, [some (.ref 92), some (.int v1), some (.int v2), some (.int v3), o4], [.int v3, .ref 114], h)) (fun hs => ?_)
    obtain ⟨hob, ho⟩ := ho
    refine zg_ial hs zd_224 rfl rfl hob ?_
    refine zg_blk zd_224 1 hs (rfl : zb x zT0 zc_224 1 (243, [some (.ref 92), some (.int v1), some (.int v2), some (.int v3), o4], [.int (zr h 114 v3)], h) = some (244, [some (.ref 92), some (.int v1), some (.int v2), some (.int v3), o4], [.int v2, .int (zr h 114 v3)], h)) (fun hs => ?_)
    refine zg_i_le zd_224 rfl (fun (hc : ((zr h 114 v3) ≤ v2)) => ?_) (fun (hc : ¬ ((zr h 114 v3) ≤ v2)) => ?_)
    · have ho := ho.1 hc
      rw [if_pos hc] at hF
      refine zg_blk zd_224 4 hs (rfl : zb x zT0 zc_224 4 (250, [some (.ref 92), some (.int v1), some (.int v2), some (.int v3), o4], [], h) = some (254, [some (.ref 92), some (.int v1), some (.int v2), some (.int v3), o4], [.int v2, .int v3, .int v1, .ref 92], h)) (fun hs => ?_)
      obtain ⟨hob, ho⟩ := ho
      refine zg_call hs zd_224 rfl rfl rfl rfl (as := [.ref 92, .int v1, .int v3, .int v2]) (rest := []) (en := [some (.ref 92), some (.int v1), some (.int v3), some (.int v2), none]) rfl rfl rfl rfl rfl ?_
      refine f_M_asks_t v1 v3 v2 h hs hob (fun hs => ?_)
      show zg x (d + 4) 224 257 [some (.ref 92), some (.int v1), some (.int v2), some (.int v3), o4] [] (f_M_asks v1 v3 v2 h) Q
      exact f_M_goes_l229_k257_t v1 v2 v3 (f_M_asks v1 v3 v2 h) (o4) hs ho hF hl0 hl1
    · have ho := ho.2 hc
      rw [if_neg hc] at hF
      refine zg_blk zd_224 1 hs (rfl : zb x zT0 zc_224 1 (247, [some (.ref 92), some (.int v1), some (.int v2), some (.int v3), o4], [], h) = some (304, [some (.ref 92), some (.int v1), some (.int v2), some (.int v3), o4], [], h)) (fun hs => ?_)
      exact f_M_goes_l229_k304_t v1 v2 v3 h (o4) hs trivial hF hl0 hl1
theorem f_M_goes_l229_t {x : zm_X} {d : Nat} (v1 : Int32) (v2 : Int32) {Q : Option Value → zm_H → Prop} (G : Nat × Int32 × zm_H → Prop) (hx1 : ∀ (v3 : Int32) (h : zm_H) (o3 : Option Value) (o4 : Option Value), zSh zT0 h → G (1, v3, h) → zg x (d + 4) 224 310 [some (.ref 92), some (.int v1), some (.int v2), o3, o4] [] h Q) : ∀ (n : Nat) (v3 : Int32) (h : zm_H) (o4 : Option Value), zSh zT0 h → f_M_goes_l229_ok v1 v2 n (v3, h) → G (f_M_goes_l229 v1 v2 n (v3, h)) → zg x (d + 4) 224 229 [some (.ref 92), some (.int v1), some (.int v2), some (.int v3), o4] [] h Q := by
  intro n
  induction n with
  | zero => intro v3 h o4 hs ho hG; exact ho.elim
  | succ n ih =>
    intro v3 h o4 hs ho hG
    refine f_M_goes_l229_b_t (FN := fun r => (r.1 = 0 → f_M_goes_l229_ok v1 v2 n r.2) ∧ G (if r.1 = 0 then f_M_goes_l229 v1 v2 n r.2 else r)) v1 v2 v3 h o4 hs ho.1 ⟨ho.2, hG⟩ ?_ ?_
    · intro v3 h o4 hs hF
      exact ih v3 h o4 hs (hF.1 rfl) hF.2
    · intro v3 h o3 o4 hs hF
      exact hx1 v3 h o3 o4 hs hF.2

set_option maxRecDepth 100000 in
set_option maxHeartbeats 400000 in
theorem f_M_goes_k310_t {x : zm_X} {d : Nat} (h : zm_H) (o0 : Option Value) (o1 : Option Value) (z2 : Int32) (o3 : Option Value) (o4 : Option Value) {Q : Option Value → zm_H → Prop} (hs : zSh zT0 h) (ho : f_M_goes_k310_ok h) (hF : (zSh zT0 (f_M_goes_k310 h) → Q none (f_M_goes_k310 h))) : zg x (d + 4) 224 310 [o0, o1, some (.int z2), o3, o4] [] h Q := by
  unfold f_M_goes_k310 at hF
  unfold f_M_goes_k310_ok at ho
  exact zg_ret zd_224 rfl rfl (hF hs)
set_option maxRecDepth 100000 in
set_option maxHeartbeats 400000 in
theorem f_M_goes_k222_t {x : zm_X} {d : Nat} (v1 : Int32) (v2 : Int32) (h : zm_H) (o3 : Option Value) (o4 : Option Value) {Q : Option Value → zm_H → Prop} (hs : zSh zT0 h) (ho : f_M_goes_k222_ok v1 v2 h) (hF : (zSh zT0 (f_M_goes_k222 v1 v2 h) → Q none (f_M_goes_k222 v1 v2 h))) : zg x (d + 4) 224 222 [some (.ref 92), some (.int v1), some (.int v2), o3, o4] [] h Q := by
  unfold f_M_goes_k222 at hF
  unfold f_M_goes_k222_ok at ho
  refine zg_blk zd_224 5 hs (rfl : zb x zT0 zc_224 5 (222, [some (.ref 92), some (.int v1), some (.int v2), o3, o4], [], h) = some (229, [some (.ref 92), some (.int v1), some (.int v2), some (.int 0), o4], [], (zp h 92 87 0))) (fun hs => ?_)
  refine f_M_goes_l229_t v1 v2 (fun r => f_M_goes_a229_ok r ∧ (zSh zT0 (f_M_goes_a229 r) → Q none (f_M_goes_a229 r))) ?_ zF 0 (zp h 92 87 0) (o4) hs ho.1 ⟨ho.2, hF⟩
  · intro v3_ h_ o3_ o4_ hs hG
    have ho : True := trivial
    have hF : (zSh zT0 ((f_M_goes_k310 h_)) → Q none ((f_M_goes_k310 h_))) := hG.2
    exact f_M_goes_k310_t h_ (some (.ref 92)) (some (.int v1)) v2 (o3_) (o4_) hs trivial hF
set_option maxRecDepth 100000 in
set_option maxHeartbeats 400000 in
theorem f_M_goes_k95_t {x : zm_X} {d : Nat} (v1 : Int32) (v2 : Int32) (h : zm_H) (o3 : Option Value) (o4 : Option Value) {Q : Option Value → zm_H → Prop} (hs : zSh zT0 h) (ho : f_M_goes_k95_ok v1 v2 h) (hF : (zSh zT0 (f_M_goes_k95 v1 v2 h) → Q none (f_M_goes_k95 v1 v2 h))) : zg x (d + 4) 224 95 [some (.ref 92), some (.int v1), some (.int v2), o3, o4] [] h Q := by
  unfold f_M_goes_k95 at hF
  unfold f_M_goes_k95_ok at ho
  refine zg_blk zd_224 5 hs (rfl : zb x zT0 zc_224 5 (95, [some (.ref 92), some (.int v1), some (.int v2), o3, o4], [], h) = some (102, [some (.ref 92), some (.int v1), some (.int v2), some (.int 0), o4], [], (zp h 92 88 0))) (fun hs => ?_)
  refine f_M_goes_l102_t v1 v2 (fun r => f_M_goes_a102_ok v1 v2 r ∧ (zSh zT0 (f_M_goes_a102 v1 v2 r) → Q none (f_M_goes_a102 v1 v2 r))) ?_ zF 0 (zp h 92 88 0) (o4) hs ho.1 ⟨ho.2, hF⟩
  · intro v3_ h_ o3_ o4_ hs hG
    have ho : (f_M_goes_k222_ok v1 v2 h_) := hG.1
    have hF : (zSh zT0 ((f_M_goes_k222 v1 v2 h_)) → Q none ((f_M_goes_k222 v1 v2 h_))) := hG.2
    exact f_M_goes_k222_t v1 v2 h_ (o3_) (o4_) hs ho hF
set_option maxRecDepth 100000 in
set_option maxHeartbeats 400000 in
theorem f_M_goes_k90_t {x : zm_X} {d : Nat} (v1 : Int32) (v2 : Int32) (h : zm_H) (o3 : Option Value) (o4 : Option Value) {Q : Option Value → zm_H → Prop} (hs : zSh zT0 h) (ho : f_M_goes_k90_ok v1 v2 h) (hF : (zSh zT0 (f_M_goes_k90 v1 v2 h) → Q none (f_M_goes_k90 v1 v2 h))) : zg x (d + 4) 224 90 [some (.ref 92), some (.int v1), some (.int v2), o3, o4] [] h Q := by
  unfold f_M_goes_k90 at hF
  unfold f_M_goes_k90_ok at ho
  refine zg_blk zd_224 2 hs (rfl : zb x zT0 zc_224 2 (90, [some (.ref 92), some (.int v1), some (.int v2), o3, o4], [], h) = some (92, [some (.ref 92), some (.int v1), some (.int v2), o3, o4], [.int v1, .ref 92], h)) (fun hs => ?_)
  obtain ⟨hob, ho⟩ := ho
  refine zg_call hs zd_224 rfl rfl rfl rfl (as := [.ref 92, .int v1]) (rest := []) (en := [some (.ref 92), some (.int v1), none, none, none, none, none, none, none]) rfl rfl rfl rfl rfl ?_
  refine f_M_waves_t v1 h hs hob (fun hs => ?_)
  show zg x (d + 4) 224 95 [some (.ref 92), some (.int v1), some (.int v2), o3, o4] [] (f_M_waves v1 h) Q
  exact f_M_goes_k95_t v1 v2 (f_M_waves v1 h) (o3) (o4) hs ho hF
set_option maxRecDepth 100000 in
set_option maxHeartbeats 400000 in
theorem f_M_goes_t {x : zm_X} {d : Nat} (p1 : Int32) (p2 : Int32) (h : zm_H) {Q : Option Value → zm_H → Prop} (hs : zSh zT0 h) (ho : f_M_goes_ok p1 p2 h) (hF : (zSh zT0 (f_M_goes p1 p2 h) → Q none (f_M_goes p1 p2 h))) : zg x (d + 4) 224 0 [some (.ref 92), some (.int p1), some (.int p2), none, none] [] h Q := by
  unfold f_M_goes at hF
  unfold f_M_goes_ok at ho
  refine zg_blk zd_224 2 hs (rfl : zb x zT0 zc_224 2 (0, [some (.ref 92), some (.int p1), some (.int p2), none, none], [], h) = some (2, [some (.ref 92), some (.int p1), some (.int p2), some (.int 0), none], [], h)) (fun hs => ?_)
  refine f_M_goes_l2_t p1 p2 (fun r => f_M_goes_a2_ok p1 p2 r ∧ (zSh zT0 (f_M_goes_a2 p1 p2 r) → Q none (f_M_goes_a2 p1 p2 r))) ?_ zF 0 h (none) hs ho.1 ⟨ho.2, hF⟩
  · intro v3_ h_ o3_ o4_ hs hG
    have ho : (f_M_goes_k90_ok p1 p2 h_) := hG.1
    have hF : (zSh zT0 ((f_M_goes_k90 p1 p2 h_)) → Q none ((f_M_goes_k90 p1 p2 h_))) := hG.2
    exact f_M_goes_k90_t p1 p2 h_ (o3_) (o4_) hs ho hF
set_option maxRecDepth 100000 in
set_option maxHeartbeats 400000 in
theorem f_M_spell_l113_b_t {x : zm_X} {d : Nat} (v1 : Int32) (h : zm_H) {Q : Option Value → zm_H → Prop} {FN : Nat × Int32 × zm_H → Prop} (hs : zSh zT0 h) (ho : f_M_spell_l113_b_ok v1 h) (hF : FN (f_M_spell_l113_b v1 h)) (hl0 : ∀ (v1 : Int32) (h : zm_H), zSh zT0 h → FN (0, v1, h) → zg x (d + 5) 217 113 [some (.ref 92), some (.int v1)] [] h Q) (hl1 : ∀ (v1 : Int32) (h : zm_H) (o1 : Option Value), zSh zT0 h → FN (1, v1, h) → zg x (d + 5) 217 145 [some (.ref 92), o1] [] h Q) : zg x (d + 5) 217 113 [some (.ref 92), some (.int v1)] [] h Q := by
  unfold f_M_spell_l113_b at hF
  unfold f_M_spell_l113_b_ok at ho
  refine zg_blk zd_217 2 hs (rfl : zb x zT0 zc_217 2 (113, [some (.ref 92), some (.int v1)], [], h) = some (116, [some (.ref 92), some (.int v1)], [.int 10, .int v1], h)) (fun hs => ?_)
  refine zg_i_ge zd_217 rfl (fun (hc : (10 ≤ v1)) => ?_) (fun (hc : ¬ (10 ≤ v1)) => ?_)
  · have ho := ho.1 hc
    rw [if_pos hc] at hF
    exact hl1 v1 h (some (.int v1)) hs hF
  · have ho := ho.2 hc
    rw [if_neg hc] at hF
    refine zg_blk zd_217 11 hs (rfl : zb x zT0 zc_217 11 (119, [some (.ref 92), some (.int v1)], [], h) = some (137, [some (.ref 92), some (.int v1)], [.int v1, .ref 151, .int ((10 * (zf h 92 23)) + v1), .ref 133], h)) (fun hs => ?_)
    obtain ⟨hob, ho⟩ := ho
    refine zg_ial hs zd_217 rfl rfl hob ?_
    have hob := ho
    refine zg_ias hs zd_217 rfl rfl hob (fun hs => ?_)
    refine zg_blk zd_217 2 hs (rfl : zb x zT0 zc_217 2 (139, [some (.ref 92), some (.int v1)], [], (zs h 133 ((10 * (zf h 92 23)) + v1) (zr h 151 v1))) = some (113, [some (.ref 92), some (.int (v1 + 1))], [], (zs h 133 ((10 * (zf h 92 23)) + v1) (zr h 151 v1)))) (fun hs => ?_)
    exact hl0 (v1 + 1) (zs h 133 ((10 * (zf h 92 23)) + v1) (zr h 151 v1)) hs hF
theorem f_M_spell_l113_t {x : zm_X} {d : Nat} {Q : Option Value → zm_H → Prop} (G : Nat × Int32 × zm_H → Prop) (hx1 : ∀ (v1 : Int32) (h : zm_H) (o1 : Option Value), zSh zT0 h → G (1, v1, h) → zg x (d + 5) 217 145 [some (.ref 92), o1] [] h Q) : ∀ (n : Nat) (v1 : Int32) (h : zm_H), zSh zT0 h → f_M_spell_l113_ok n (v1, h) → G (f_M_spell_l113 n (v1, h)) → zg x (d + 5) 217 113 [some (.ref 92), some (.int v1)] [] h Q := by
  intro n
  induction n with
  | zero => intro v1 h hs ho hG; exact ho.elim
  | succ n ih =>
    intro v1 h hs ho hG
    refine f_M_spell_l113_b_t (FN := fun r => (r.1 = 0 → f_M_spell_l113_ok n r.2) ∧ G (if r.1 = 0 then f_M_spell_l113 n r.2 else r)) v1 h hs ho.1 ⟨ho.2, hG⟩ ?_ ?_
    · intro v1 h hs hF
      exact ih v1 h hs (hF.1 rfl) hF.2
    · intro v1 h o1 hs hF
      exact hx1 v1 h o1 hs hF.2

set_option maxRecDepth 100000 in
set_option maxHeartbeats 400000 in
theorem f_M_spell_l147_k179_t {x : zm_X} {d : Nat} (v1 : Int32) (h : zm_H) {Q : Option Value → zm_H → Prop} {FN : Nat × Int32 × zm_H → Prop} (hs : zSh zT0 h) (ho : f_M_spell_l147_k179_ok v1 h) (hF : FN (f_M_spell_l147_k179 v1 h)) (hl0 : ∀ (v1 : Int32) (h : zm_H), zSh zT0 h → FN (0, v1, h) → zg x (d + 5) 217 147 [some (.ref 92), some (.int v1)] [] h Q) (hl1 : ∀ (v1 : Int32) (h : zm_H) (o1 : Option Value), zSh zT0 h → FN (1, v1, h) → zg x (d + 5) 217 185 [some (.ref 92), o1] [] h Q) : zg x (d + 5) 217 179 [some (.ref 92), some (.int v1)] [] h Q := by
  unfold f_M_spell_l147_k179 at hF
  unfold f_M_spell_l147_k179_ok at ho
  refine zg_blk zd_217 2 hs (rfl : zb x zT0 zc_217 2 (179, [some (.ref 92), some (.int v1)], [], h) = some (147, [some (.ref 92), some (.int (v1 + 1))], [], h)) (fun hs => ?_)
  exact hl0 (v1 + 1) h hs hF
theorem zd_229 : zm_cd 229 = zc_229 := by rfl
set_option maxRecDepth 100000 in
set_option maxHeartbeats 400000 in
theorem f_M_comesBack_k66_t {x : zm_X} {d : Nat} (v1 : Int32) (h : zm_H) (o2 : Option Value) (o3 : Option Value) {Q : Option Value → zm_H → Prop} (hs : zSh zT0 h) (ho : f_M_comesBack_k66_ok v1 h) (hF : (zSh zT0 (f_M_comesBack_k66 v1 h) → Q none (f_M_comesBack_k66 v1 h))) : zg x (d + 4) 229 66 [some (.ref 92), some (.int v1), o2, o3] [] h Q := by
  unfold f_M_comesBack_k66 at hF
  unfold f_M_comesBack_k66_ok at ho
  refine zg_blk zd_229 4 hs (rfl : zb x zT0 zc_229 4 (66, [some (.ref 92), some (.int v1), o2, o3], [], h) = some (72, [some (.ref 92), some (.int v1), o2, o3], [.int v1, .ref 145, .int v1, .ref 145], h)) (fun hs => ?_)
  obtain ⟨hob, ho⟩ := ho
  refine zg_ial hs zd_229 rfl rfl hob ?_
  refine zg_blk zd_229 2 hs (rfl : zb x zT0 zc_229 2 (73, [some (.ref 92), some (.int v1), o2, o3], [.int (zr h 145 v1), .int v1, .ref 145], h) = some (75, [some (.ref 92), some (.int v1), o2, o3], [.int ((zr h 145 v1) + 1), .int v1, .ref 145], h)) (fun hs => ?_)
  have hob := ho
  refine zg_ias hs zd_229 rfl rfl hob (fun hs => ?_)
  exact zg_ret zd_229 rfl rfl (hF hs)
theorem zd_230 : zm_cd 230 = zc_230 := by rfl
set_option maxRecDepth 100000 in
set_option maxHeartbeats 400000 in
theorem f_M_partOf_t {x : zm_X} {d : Nat} (p0 : Int32) (h : zm_H) {Q : Option Value → zm_H → Prop} (hs : zSh zT0 h) (ho : f_M_partOf_ok p0 h) (hF : Q (some (.int (f_M_partOf p0 h))) h) : zg x (d + 1) 230 0 [some (.int p0)] [] h Q := by
  unfold f_M_partOf at hF
  unfold f_M_partOf_ok at ho
  refine zg_blk zd_230 2 hs (rfl : zb x zT0 zc_230 2 (0, [some (.int p0)], [], h) = some (2, [some (.int p0)], [.int 3, .int p0], h)) (fun hs => ?_)
  have K113 : zSh zT0 h → zg x (d + 1) 230 12 [some (.int p0)] [.int (if (3 ≤ p0) then ((p0 - 2) : Int32) else 0)] h Q := fun hs => by
    exact zg_ret zd_230 rfl rfl hF
  refine zg_i_ge zd_230 rfl (fun (hc : (3 ≤ p0)) => ?_) (fun (hc : ¬ (3 ≤ p0)) => ?_)
  · skip
    rw [show ((if (3 ≤ p0) then ((p0 - 2) : Int32) else 0) : Int32) = (p0 - 2) from if_pos hc] at K113
    refine zg_blk zd_230 3 hs (rfl : zb x zT0 zc_230 3 (9, [some (.int p0)], [], h) = some (12, [some (.int p0)], [.int (p0 - 2)], h)) (fun hs => ?_)
    exact K113 hs
  · skip
    rw [show ((if (3 ≤ p0) then ((p0 - 2) : Int32) else 0) : Int32) = 0 from if_neg hc] at K113
    refine zg_blk zd_230 2 hs (rfl : zb x zT0 zc_230 2 (5, [some (.int p0)], [], h) = some (12, [some (.int p0)], [.int 0], h)) (fun hs => ?_)
    exact K113 hs
set_option maxRecDepth 100000 in
set_option maxHeartbeats 400000 in
theorem f_M_comesBack_k101_t {x : zm_X} {d : Nat} (v1 : Int32) (v2 : Int32) (h : zm_H) (o3 : Option Value) {Q : Option Value → zm_H → Prop} (hs : zSh zT0 h) (ho : f_M_comesBack_k101_ok v1 v2 h) (hF : (zSh zT0 (f_M_comesBack_k101 v1 v2 h) → Q none (f_M_comesBack_k101 v1 v2 h))) : zg x (d + 4) 229 101 [some (.ref 92), some (.int v1), some (.int v2), o3] [] h Q := by
  unfold f_M_comesBack_k101 at hF
  unfold f_M_comesBack_k101_ok at ho
  refine zg_blk zd_229 4 hs (rfl : zb x zT0 zc_229 4 (101, [some (.ref 92), some (.int v1), some (.int v2), o3], [], h) = some (107, [some (.ref 92), some (.int v1), some (.int v2), o3], [.int v1, .ref 144, .int v1, .ref 144], h)) (fun hs => ?_)
  obtain ⟨hob, ho⟩ := ho
  refine zg_ial hs zd_229 rfl rfl hob ?_
  refine zg_blk zd_229 2 hs (rfl : zb x zT0 zc_229 2 (108, [some (.ref 92), some (.int v1), some (.int v2), o3], [.int (zr h 144 v1), .int v1, .ref 144], h) = some (110, [some (.ref 92), some (.int v1), some (.int v2), o3], [.int ((zr h 144 v1) + 1), .int v1, .ref 144], h)) (fun hs => ?_)
  obtain ⟨hob, ho⟩ := ho
  refine zg_ias hs zd_229 rfl rfl hob (fun hs => ?_)
  refine zg_blk zd_229 2 hs (rfl : zb x zT0 zc_229 2 (111, [some (.ref 92), some (.int v1), some (.int v2), o3], [], (zs h 144 v1 ((zr h 144 v1) + 1))) = some (113, [some (.ref 92), some (.int v1), some (.int v2), o3], [.int 4, .int v2], (zs h 144 v1 ((zr h 144 v1) + 1)))) (fun hs => ?_)
  have hom := ho
  have K114 : zSh zT0 (if (4 ≤ v2) then (zs h 144 v1 ((zr h 144 v1) + 1)) else (zs (zs h 144 v1 ((zr h 144 v1) + 1)) 138 ((3 * v1) + (if (3 ≤ v2) then ((v2 - 2) : Int32) else 0)) ((zr h 138 ((3 * v1) + (if (3 ≤ v2) then ((v2 - 2) : Int32) else 0))) - 1))) → zg x (d + 4) 229 133 [some (.ref 92), some (.int v1), some (.int v2), o3] [] (if (4 ≤ v2) then (zs h 144 v1 ((zr h 144 v1) + 1)) else (zs (zs h 144 v1 ((zr h 144 v1) + 1)) 138 ((3 * v1) + (if (3 ≤ v2) then ((v2 - 2) : Int32) else 0)) ((zr h 138 ((3 * v1) + (if (3 ≤ v2) then ((v2 - 2) : Int32) else 0))) - 1))) Q := fun hs => by
    exact zg_ret zd_229 rfl rfl (hF hs)
  refine zg_i_ge zd_229 rfl (fun (hc : (4 ≤ v2)) => ?_) (fun (hc : ¬ (4 ≤ v2)) => ?_)
  · have ho := hom.1 hc
    rw [show (if (4 ≤ v2) then (zs h 144 v1 ((zr h 144 v1) + 1)) else (zs (zs h 144 v1 ((zr h 144 v1) + 1)) 138 ((3 * v1) + (if (3 ≤ v2) then ((v2 - 2) : Int32) else 0)) ((zr h 138 ((3 * v1) + (if (3 ≤ v2) then ((v2 - 2) : Int32) else 0))) - 1))) = (zs h 144 v1 ((zr h 144 v1) + 1)) from if_pos hc] at K114
    exact K114 hs
  · have ho := hom.2 hc
    rw [show (if (4 ≤ v2) then (zs h 144 v1 ((zr h 144 v1) + 1)) else (zs (zs h 144 v1 ((zr h 144 v1) + 1)) 138 ((3 * v1) + (if (3 ≤ v2) then ((v2 - 2) : Int32) else 0)) ((zr h 138 ((3 * v1) + (if (3 ≤ v2) then ((v2 - 2) : Int32) else 0))) - 1))) = (zs (zs h 144 v1 ((zr h 144 v1) + 1)) 138 ((3 * v1) + (if (3 ≤ v2) then ((v2 - 2) : Int32) else 0)) ((zr h 138 ((3 * v1) + (if (3 ≤ v2) then ((v2 - 2) : Int32) else 0))) - 1)) from if_neg hc] at K114
    refine zg_blk zd_229 6 hs (rfl : zb x zT0 zc_229 6 (116, [some (.ref 92), some (.int v1), some (.int v2), o3], [], (zs h 144 v1 ((zr h 144 v1) + 1))) = some (124, [some (.ref 92), some (.int v1), some (.int v2), o3], [.int v2, .int (3 * v1), .ref 138], (zs h 144 v1 ((zr h 144 v1) + 1)))) (fun hs => ?_)
    refine zg_call hs zd_229 rfl rfl rfl rfl (as := [.int v2]) (rest := [.int (3 * v1), .ref 138]) (en := [some (.int v2)]) rfl rfl rfl rfl rfl ?_
    refine f_M_partOf_t v2 (zs h 144 v1 ((zr h 144 v1) + 1)) hs trivial ?_
    show zg x (d + 4) 229 127 [some (.ref 92), some (.int v1), some (.int v2), o3] [.int (if (3 ≤ v2) then ((v2 - 2) : Int32) else 0), .int (3 * v1), .ref 138] (zs h 144 v1 ((zr h 144 v1) + 1)) Q
    refine zg_blk zd_229 2 hs (rfl : zb x zT0 zc_229 2 (127, [some (.ref 92), some (.int v1), some (.int v2), o3], [.int (if (3 ≤ v2) then ((v2 - 2) : Int32) else 0), .int (3 * v1), .ref 138], (zs h 144 v1 ((zr h 144 v1) + 1))) = some (129, [some (.ref 92), some (.int v1), some (.int v2), o3], [.int ((3 * v1) + (if (3 ≤ v2) then ((v2 - 2) : Int32) else 0)), .ref 138, .int ((3 * v1) + (if (3 ≤ v2) then ((v2 - 2) : Int32) else 0)), .ref 138], (zs h 144 v1 ((zr h 144 v1) + 1)))) (fun hs => ?_)
    obtain ⟨hob, ho⟩ := ho
    refine zg_ial hs zd_229 rfl rfl hob ?_
    refine zg_blk zd_229 2 hs (rfl : zb x zT0 zc_229 2 (130, [some (.ref 92), some (.int v1), some (.int v2), o3], [.int (zr h 138 ((3 * v1) + (if (3 ≤ v2) then ((v2 - 2) : Int32) else 0))), .int ((3 * v1) + (if (3 ≤ v2) then ((v2 - 2) : Int32) else 0)), .ref 138], (zs h 144 v1 ((zr h 144 v1) + 1))) = some (132, [some (.ref 92), some (.int v1), some (.int v2), o3], [.int ((zr h 138 ((3 * v1) + (if (3 ≤ v2) then ((v2 - 2) : Int32) else 0))) - 1), .int ((3 * v1) + (if (3 ≤ v2) then ((v2 - 2) : Int32) else 0)), .ref 138], (zs h 144 v1 ((zr h 144 v1) + 1)))) (fun hs => ?_)
    have hob := ho
    refine zg_ias hs zd_229 rfl rfl hob (fun hs => ?_)
    exact K114 hs
set_option maxRecDepth 100000 in
set_option maxHeartbeats 400000 in
theorem f_M_comesBack_k63_t {x : zm_X} {d : Nat} (v1 : Int32) (v2 : Int32) (v3 : Int32) (w0 : Int32) (h : zm_H) {Q : Option Value → zm_H → Prop} (hs : zSh zT0 h) (ho : f_M_comesBack_k63_ok v1 v2 v3 w0 h) (hF : (zSh zT0 (f_M_comesBack_k63 v1 v2 v3 w0 h) → Q none (f_M_comesBack_k63 v1 v2 v3 w0 h))) : zg x (d + 4) 229 63 [some (.ref 92), some (.int v1), some (.int v2), some (.int v3)] [.int w0] h Q := by
  unfold f_M_comesBack_k63 at hF
  unfold f_M_comesBack_k63_ok at ho
  refine zg_f_ne zd_229 rfl (fun (hc : ¬ (w0 = 0)) => ?_) (fun (hc : (w0 = 0)) => ?_)
  · have ho := ho.2 hc
    rw [if_neg hc] at hF
    refine zg_blk zd_229 9 hs (rfl : zb x zT0 zc_229 9 (77, [some (.ref 92), some (.int v1), some (.int v2), some (.int v3)], [], h) = some (90, [some (.ref 92), some (.int v1), some (.int v2), some (.int v3)], [.int v1, .ref 140, .int v3, .int ((zf h 92 23) + 1), .ref 92], h)) (fun hs => ?_)
    obtain ⟨hob, ho⟩ := ho
    refine zg_ial hs zd_229 rfl rfl hob ?_
    refine zg_blk zd_229 4 hs (rfl : zb x zT0 zc_229 4 (91, [some (.ref 92), some (.int v1), some (.int v2), some (.int v3)], [.int (zr h 140 v1), .int v3, .int ((zf h 92 23) + 1), .ref 92], h) = some (97, [some (.ref 92), some (.int v1), some (.int v2), some (.int v3)], [.int v1, .ref 143, .int v2, .int (zr h 140 v1), .int v3, .int ((zf h 92 23) + 1), .ref 92], h)) (fun hs => ?_)
    obtain ⟨hob, ho⟩ := ho
    refine zg_ial hs zd_229 rfl rfl hob ?_
    obtain ⟨hob, ho⟩ := ho
    refine zg_call hs zd_229 rfl rfl rfl rfl (as := [.ref 92, .int ((zf h 92 23) + 1), .int v3, .int (zr h 140 v1), .int v2, .int (zr h 143 v1)]) (rest := []) (en := [some (.ref 92), some (.int ((zf h 92 23) + 1)), some (.int v3), some (.int (zr h 140 v1)), some (.int v2), some (.int (zr h 143 v1))]) rfl rfl rfl rfl rfl ?_
    refine f_M_keeps_t ((zf h 92 23) + 1) v3 (zr h 140 v1) v2 (zr h 143 v1) h hs hob (fun hs => ?_)
    show zg x (d + 4) 229 101 [some (.ref 92), some (.int v1), some (.int v2), some (.int v3)] [] (f_M_keeps ((zf h 92 23) + 1) v3 (zr h 140 v1) v2 (zr h 143 v1) h) Q
    exact f_M_comesBack_k101_t v1 v2 (f_M_keeps ((zf h 92 23) + 1) v3 (zr h 140 v1) v2 (zr h 143 v1) h) (some (.int v3)) hs ho hF
  · have ho := ho.1 hc
    rw [if_pos hc] at hF
    exact f_M_comesBack_k66_t v1 h (some (.int v2)) (some (.int v3)) hs ho hF
set_option maxRecDepth 100000 in
set_option maxHeartbeats 400000 in
theorem f_M_comesBack_t {x : zm_X} {d : Nat} (p1 : Int32) (h : zm_H) {Q : Option Value → zm_H → Prop} (hs : zSh zT0 h) (ho : f_M_comesBack_ok p1 h) (hF : (zSh zT0 (f_M_comesBack p1 h) → Q none (f_M_comesBack p1 h))) : zg x (d + 4) 229 0 [some (.ref 92), some (.int p1), none, none] [] h Q := by
  unfold f_M_comesBack at hF
  unfold f_M_comesBack_ok at ho
  refine zg_blk zd_229 4 hs (rfl : zb x zT0 zc_229 4 (0, [some (.ref 92), some (.int p1), none, none], [], h) = some (6, [some (.ref 92), some (.int p1), none, none], [.int 0, .int p1, .ref 139], h)) (fun hs => ?_)
  obtain ⟨hob, ho⟩ := ho
  refine zg_bas hs zd_229 rfl rfl (by decide) hob (fun hs => ?_)
  refine zg_blk zd_229 3 hs (rfl : zb x zT0 zc_229 3 (7, [some (.ref 92), some (.int p1), none, none], [], (zs h 139 p1 (zm_nb 2 0))) = some (12, [some (.ref 92), some (.int p1), none, none], [.int p1, .ref 141], (zs h 139 p1 (zm_nb 2 0)))) (fun hs => ?_)
  obtain ⟨hob, ho⟩ := ho
  refine zg_ial hs zd_229 rfl rfl hob ?_
  refine zg_blk zd_229 3 hs (rfl : zb x zT0 zc_229 3 (13, [some (.ref 92), some (.int p1), none, none], [.int (zr h 141 p1)], (zs h 139 p1 (zm_nb 2 0))) = some (16, [some (.ref 92), some (.int p1), some (.int (zr h 141 p1)), none], [.int 3, .int (zr h 141 p1)], (zs h 139 p1 (zm_nb 2 0)))) (fun hs => ?_)
  have K115 : zSh zT0 (zs h 139 p1 (zm_nb 2 0)) → zg x (d + 4) 229 33 [some (.ref 92), some (.int p1), some (.int (zr h 141 p1)), none] [.int (if (3 ≤ (zr h 141 p1)) then ((if ((zr h 141 p1) = 3) then (2 : Int32) else 3) : Int32) else 1)] (zs h 139 p1 (zm_nb 2 0)) Q := fun hs => by
    refine zg_blk zd_229 4 hs (rfl : zb x zT0 zc_229 4 (33, [some (.ref 92), some (.int p1), some (.int (zr h 141 p1)), none], [.int (if (3 ≤ (zr h 141 p1)) then ((if ((zr h 141 p1) = 3) then (2 : Int32) else 3) : Int32) else 1)], (zs h 139 p1 (zm_nb 2 0))) = some (41, [some (.ref 92), some (.int p1), some (.int (zr h 141 p1)), some (.int (if (3 ≤ (zr h 141 p1)) then ((if ((zr h 141 p1) = 3) then (2 : Int32) else 3) : Int32) else 1))], [.int 200, .int (zf h 92 41)], (zs h 139 p1 (zm_nb 2 0)))) (fun hs => ?_)
    refine zg_i_eq zd_229 rfl (fun (hc : ((zf h 92 41) = 200)) => ?_) (fun (hc : ¬ ((zf h 92 41) = 200)) => ?_)
    · have ho := ho.1 hc
      rw [if_pos hc] at hF
      exact f_M_comesBack_k66_t p1 (zs h 139 p1 (zm_nb 2 0)) (some (.int (zr h 141 p1))) (some (.int (if (3 ≤ (zr h 141 p1)) then ((if ((zr h 141 p1) = 3) then (2 : Int32) else 3) : Int32) else 1))) hs ho hF
    · have ho := ho.2 hc
      rw [if_neg hc] at hF
      refine zg_blk zd_229 6 hs (rfl : zb x zT0 zc_229 6 (44, [some (.ref 92), some (.int p1), some (.int (zr h 141 p1)), some (.int (if (3 ≤ (zr h 141 p1)) then ((if ((zr h 141 p1) = 3) then (2 : Int32) else 3) : Int32) else 1))], [], (zs h 139 p1 (zm_nb 2 0))) = some (52, [some (.ref 92), some (.int p1), some (.int (zr h 141 p1)), some (.int (if (3 ≤ (zr h 141 p1)) then ((if ((zr h 141 p1) = 3) then (2 : Int32) else 3) : Int32) else 1))], [.int p1, .ref 140, .int (if (3 ≤ (zr h 141 p1)) then ((if ((zr h 141 p1) = 3) then (2 : Int32) else 3) : Int32) else 1), .int 0, .ref 92], (zs h 139 p1 (zm_nb 2 0)))) (fun hs => ?_)
      obtain ⟨hob, ho⟩ := ho
      refine zg_ial hs zd_229 rfl rfl hob ?_
      refine zg_blk zd_229 4 hs (rfl : zb x zT0 zc_229 4 (53, [some (.ref 92), some (.int p1), some (.int (zr h 141 p1)), some (.int (if (3 ≤ (zr h 141 p1)) then ((if ((zr h 141 p1) = 3) then (2 : Int32) else 3) : Int32) else 1))], [.int (zr h 140 p1), .int (if (3 ≤ (zr h 141 p1)) then ((if ((zr h 141 p1) = 3) then (2 : Int32) else 3) : Int32) else 1), .int 0, .ref 92], (zs h 139 p1 (zm_nb 2 0))) = some (59, [some (.ref 92), some (.int p1), some (.int (zr h 141 p1)), some (.int (if (3 ≤ (zr h 141 p1)) then ((if ((zr h 141 p1) = 3) then (2 : Int32) else 3) : Int32) else 1))], [.int p1, .ref 143, .int (zr h 141 p1), .int (zr h 140 p1), .int (if (3 ≤ (zr h 141 p1)) then ((if ((zr h 141 p1) = 3) then (2 : Int32) else 3) : Int32) else 1), .int 0, .ref 92], (zs h 139 p1 (zm_nb 2 0)))) (fun hs => ?_)
      obtain ⟨hob, ho⟩ := ho
      refine zg_ial hs zd_229 rfl rfl hob ?_
      obtain ⟨hob, ho⟩ := ho
      refine zg_call hs zd_229 rfl rfl rfl rfl (as := [.ref 92, .int 0, .int (if (3 ≤ (zr h 141 p1)) then ((if ((zr h 141 p1) = 3) then (2 : Int32) else 3) : Int32) else 1), .int (zr h 140 p1), .int (zr h 141 p1), .int (zr h 143 p1)]) (rest := []) (en := [some (.ref 92), some (.int 0), some (.int (if (3 ≤ (zr h 141 p1)) then ((if ((zr h 141 p1) = 3) then (2 : Int32) else 3) : Int32) else 1)), some (.int (zr h 140 p1)), some (.int (zr h 141 p1)), some (.int (zr h 143 p1)), none, none, none]) rfl rfl rfl rfl rfl ?_
      refine f_M_does_t 0 (if (3 ≤ (zr h 141 p1)) then ((if ((zr h 141 p1) = 3) then (2 : Int32) else 3) : Int32) else 1) (zr h 140 p1) (zr h 141 p1) (zr h 143 p1) (zs h 139 p1 (zm_nb 2 0)) hs hob (fun hs => ?_)
      show zg x (d + 4) 229 63 [some (.ref 92), some (.int p1), some (.int (zr h 141 p1)), some (.int (if (3 ≤ (zr h 141 p1)) then ((if ((zr h 141 p1) = 3) then (2 : Int32) else 3) : Int32) else 1))] [.int (f_M_does 0 (if (3 ≤ (zr h 141 p1)) then ((if ((zr h 141 p1) = 3) then (2 : Int32) else 3) : Int32) else 1) (zr h 140 p1) (zr h 141 p1) (zr h 143 p1) (zs h 139 p1 (zm_nb 2 0))).1] (f_M_does 0 (if (3 ≤ (zr h 141 p1)) then ((if ((zr h 141 p1) = 3) then (2 : Int32) else 3) : Int32) else 1) (zr h 140 p1) (zr h 141 p1) (zr h 143 p1) (zs h 139 p1 (zm_nb 2 0))).2 Q
      exact f_M_comesBack_k63_t p1 (zr h 141 p1) (if (3 ≤ (zr h 141 p1)) then ((if ((zr h 141 p1) = 3) then (2 : Int32) else 3) : Int32) else 1) (f_M_does 0 (if (3 ≤ (zr h 141 p1)) then ((if ((zr h 141 p1) = 3) then (2 : Int32) else 3) : Int32) else 1) (zr h 140 p1) (zr h 141 p1) (zr h 143 p1) (zs h 139 p1 (zm_nb 2 0))).1 (f_M_does 0 (if (3 ≤ (zr h 141 p1)) then ((if ((zr h 141 p1) = 3) then (2 : Int32) else 3) : Int32) else 1) (zr h 140 p1) (zr h 141 p1) (zr h 143 p1) (zs h 139 p1 (zm_nb 2 0))).2 hs ho hF
  refine zg_i_ge zd_229 rfl (fun (hc : (3 ≤ (zr h 141 p1))) => ?_) (fun (hc : ¬ (3 ≤ (zr h 141 p1))) => ?_)
  · skip
    rw [show ((if (3 ≤ (zr h 141 p1)) then ((if ((zr h 141 p1) = 3) then (2 : Int32) else 3) : Int32) else 1) : Int32) = (if ((zr h 141 p1) = 3) then (2 : Int32) else 3) from if_pos hc] at K115
    refine zg_blk zd_229 2 hs (rfl : zb x zT0 zc_229 2 (23, [some (.ref 92), some (.int p1), some (.int (zr h 141 p1)), none], [], (zs h 139 p1 (zm_nb 2 0))) = some (25, [some (.ref 92), some (.int p1), some (.int (zr h 141 p1)), none], [.int 3, .int (zr h 141 p1)], (zs h 139 p1 (zm_nb 2 0)))) (fun hs => ?_)
    refine zg_i_ne zd_229 rfl (fun (hc : ¬ ((zr h 141 p1) = 3)) => ?_) (fun (hc : ((zr h 141 p1) = 3)) => ?_)
    · skip
      rw [show ((if ((zr h 141 p1) = 3) then (2 : Int32) else 3) : Int32) = 3 from if_neg hc] at K115
      refine zg_blk zd_229 1 hs (rfl : zb x zT0 zc_229 1 (32, [some (.ref 92), some (.int p1), some (.int (zr h 141 p1)), none], [], (zs h 139 p1 (zm_nb 2 0))) = some (33, [some (.ref 92), some (.int p1), some (.int (zr h 141 p1)), none], [.int 3], (zs h 139 p1 (zm_nb 2 0)))) (fun hs => ?_)
      exact K115 hs
    · skip
      rw [show ((if ((zr h 141 p1) = 3) then (2 : Int32) else 3) : Int32) = 2 from if_pos hc] at K115
      refine zg_blk zd_229 2 hs (rfl : zb x zT0 zc_229 2 (28, [some (.ref 92), some (.int p1), some (.int (zr h 141 p1)), none], [], (zs h 139 p1 (zm_nb 2 0))) = some (33, [some (.ref 92), some (.int p1), some (.int (zr h 141 p1)), none], [.int 2], (zs h 139 p1 (zm_nb 2 0)))) (fun hs => ?_)
      exact K115 hs
  · skip
    rw [show ((if (3 ≤ (zr h 141 p1)) then ((if ((zr h 141 p1) = 3) then (2 : Int32) else 3) : Int32) else 1) : Int32) = 1 from if_neg hc] at K115
    refine zg_blk zd_229 2 hs (rfl : zb x zT0 zc_229 2 (19, [some (.ref 92), some (.int p1), some (.int (zr h 141 p1)), none], [], (zs h 139 p1 (zm_nb 2 0))) = some (33, [some (.ref 92), some (.int p1), some (.int (zr h 141 p1)), none], [.int 1], (zs h 139 p1 (zm_nb 2 0)))) (fun hs => ?_)
    exact K115 hs
set_option maxRecDepth 100000 in
set_option maxHeartbeats 400000 in
theorem f_M_spell_l147_b_t {x : zm_X} {d : Nat} (v1 : Int32) (h : zm_H) {Q : Option Value → zm_H → Prop} {FN : Nat × Int32 × zm_H → Prop} (hs : zSh zT0 h) (ho : f_M_spell_l147_b_ok v1 h) (hF : FN (f_M_spell_l147_b v1 h)) (hl0 : ∀ (v1 : Int32) (h : zm_H), zSh zT0 h → FN (0, v1, h) → zg x (d + 5) 217 147 [some (.ref 92), some (.int v1)] [] h Q) (hl1 : ∀ (v1 : Int32) (h : zm_H) (o1 : Option Value), zSh zT0 h → FN (1, v1, h) → zg x (d + 5) 217 185 [some (.ref 92), o1] [] h Q) : zg x (d + 5) 217 147 [some (.ref 92), some (.int v1)] [] h Q := by
  unfold f_M_spell_l147_b at hF
  unfold f_M_spell_l147_b_ok at ho
  refine zg_blk zd_217 2 hs (rfl : zb x zT0 zc_217 2 (147, [some (.ref 92), some (.int v1)], [], h) = some (149, [some (.ref 92), some (.int v1)], [.int 3, .int v1], h)) (fun hs => ?_)
  refine zg_i_ge zd_217 rfl (fun (hc : (3 ≤ v1)) => ?_) (fun (hc : ¬ (3 ≤ v1)) => ?_)
  · have ho := ho.1 hc
    rw [if_pos hc] at hF
    exact hl1 v1 h (some (.int v1)) hs hF
  · have ho := ho.2 hc
    rw [if_neg hc] at hF
    refine zg_blk zd_217 3 hs (rfl : zb x zT0 zc_217 3 (152, [some (.ref 92), some (.int v1)], [], h) = some (157, [some (.ref 92), some (.int v1)], [.int v1, .ref 139], h)) (fun hs => ?_)
    obtain ⟨hob, ho⟩ := ho
    refine zg_bal hs zd_217 rfl rfl (by decide) hob ?_
    refine zg_f_eq zd_217 rfl (fun (hc : ((zr h 139 v1) = 0)) => ?_) (fun (hc : ¬ ((zr h 139 v1) = 0)) => ?_)
    · have ho := ho.1 hc
      rw [if_pos hc] at hF
      exact f_M_spell_l147_k179_t v1 h hs trivial hF hl0 hl1
    · have ho := ho.2 hc
      rw [if_neg hc] at hF
      refine zg_blk zd_217 3 hs (rfl : zb x zT0 zc_217 3 (161, [some (.ref 92), some (.int v1)], [], h) = some (166, [some (.ref 92), some (.int v1)], [.int v1, .ref 142], h)) (fun hs => ?_)
      obtain ⟨hob, ho⟩ := ho
      refine zg_ial hs zd_217 rfl rfl hob ?_
      refine zg_blk zd_217 2 hs (rfl : zb x zT0 zc_217 2 (167, [some (.ref 92), some (.int v1)], [.int (zr h 142 v1)], h) = some (171, [some (.ref 92), some (.int v1)], [.int (zf h 92 23), .int (zr h 142 v1)], h)) (fun hs => ?_)
      refine zg_i_ne zd_217 rfl (fun (hc : ¬ ((zr h 142 v1) = (zf h 92 23))) => ?_) (fun (hc : ((zr h 142 v1) = (zf h 92 23))) => ?_)
      · have ho := ho.2 hc
        rw [if_neg hc] at hF
        exact f_M_spell_l147_k179_t v1 h hs trivial hF hl0 hl1
      · have ho := ho.1 hc
        rw [if_pos hc] at hF
        refine zg_blk zd_217 2 hs (rfl : zb x zT0 zc_217 2 (174, [some (.ref 92), some (.int v1)], [], h) = some (176, [some (.ref 92), some (.int v1)], [.int v1, .ref 92], h)) (fun hs => ?_)
        have hob := ho
        refine zg_call hs zd_217 rfl rfl rfl rfl (as := [.ref 92, .int v1]) (rest := []) (en := [some (.ref 92), some (.int v1), none, none]) rfl rfl rfl rfl rfl ?_
        refine f_M_comesBack_t v1 h hs hob (fun hs => ?_)
        show zg x (d + 5) 217 179 [some (.ref 92), some (.int v1)] [] (f_M_comesBack v1 h) Q
        exact f_M_spell_l147_k179_t v1 (f_M_comesBack v1 h) hs trivial hF hl0 hl1
theorem f_M_spell_l147_t {x : zm_X} {d : Nat} {Q : Option Value → zm_H → Prop} (G : Nat × Int32 × zm_H → Prop) (hx1 : ∀ (v1 : Int32) (h : zm_H) (o1 : Option Value), zSh zT0 h → G (1, v1, h) → zg x (d + 5) 217 185 [some (.ref 92), o1] [] h Q) : ∀ (n : Nat) (v1 : Int32) (h : zm_H), zSh zT0 h → f_M_spell_l147_ok n (v1, h) → G (f_M_spell_l147 n (v1, h)) → zg x (d + 5) 217 147 [some (.ref 92), some (.int v1)] [] h Q := by
  intro n
  induction n with
  | zero => intro v1 h hs ho hG; exact ho.elim
  | succ n ih =>
    intro v1 h hs ho hG
    refine f_M_spell_l147_b_t (FN := fun r => (r.1 = 0 → f_M_spell_l147_ok n r.2) ∧ G (if r.1 = 0 then f_M_spell_l147 n r.2 else r)) v1 h hs ho.1 ⟨ho.2, hG⟩ ?_ ?_
    · intro v1 h hs hF
      exact ih v1 h hs (hF.1 rfl) hF.2
    · intro v1 h o1 hs hF
      exact hx1 v1 h o1 hs hF.2

set_option maxRecDepth 100000 in
set_option maxHeartbeats 400000 in
theorem f_M_spell_k185_t {x : zm_X} {d : Nat} (h : zm_H) (o1 : Option Value) {Q : Option Value → zm_H → Prop} (hs : zSh zT0 h) (ho : f_M_spell_k185_ok h) (hF : (zSh zT0 (f_M_spell_k185 h) → Q none (f_M_spell_k185 h))) : zg x (d + 5) 217 185 [some (.ref 92), o1] [] h Q := by
  unfold f_M_spell_k185 at hF
  unfold f_M_spell_k185_ok at ho
  refine zg_blk zd_217 6 hs (rfl : zb x zT0 zc_217 6 (185, [some (.ref 92), o1], [], h) = some (195, [some (.ref 92), o1], [], (zp h 92 23 ((zf h 92 23) + 1)))) (fun hs => ?_)
  exact zg_ret zd_217 rfl rfl (hF hs)
set_option maxRecDepth 100000 in
set_option maxHeartbeats 400000 in
theorem f_M_spell_k145_t {x : zm_X} {d : Nat} (h : zm_H) (o1 : Option Value) {Q : Option Value → zm_H → Prop} (hs : zSh zT0 h) (ho : f_M_spell_k145_ok h) (hF : (zSh zT0 (f_M_spell_k145 h) → Q none (f_M_spell_k145 h))) : zg x (d + 5) 217 145 [some (.ref 92), o1] [] h Q := by
  unfold f_M_spell_k145 at hF
  unfold f_M_spell_k145_ok at ho
  refine zg_blk zd_217 2 hs (rfl : zb x zT0 zc_217 2 (145, [some (.ref 92), o1], [], h) = some (147, [some (.ref 92), some (.int 0)], [], h)) (fun hs => ?_)
  refine f_M_spell_l147_t  (fun r => f_M_spell_a147_ok r ∧ (zSh zT0 (f_M_spell_a147 r) → Q none (f_M_spell_a147 r))) ?_ zF 0 h hs ho.1 ⟨ho.2, hF⟩
  · intro v1_ h_ o1_ hs hG
    have ho : True := trivial
    have hF : (zSh zT0 ((f_M_spell_k185 h_)) → Q none ((f_M_spell_k185 h_))) := hG.2
    exact f_M_spell_k185_t h_ (o1_) hs trivial hF
set_option maxRecDepth 100000 in
set_option maxHeartbeats 400000 in
theorem f_M_spell_k85_t {x : zm_X} {d : Nat} (h : zm_H) (o1 : Option Value) {Q : Option Value → zm_H → Prop} (hs : zSh zT0 h) (ho : f_M_spell_k85_ok h) (hF : (zSh zT0 (f_M_spell_k85 h) → Q none (f_M_spell_k85 h))) : zg x (d + 5) 217 85 [some (.ref 92), o1] [] h Q := by
  unfold f_M_spell_k85 at hF
  unfold f_M_spell_k85_ok at ho
  refine zg_blk zd_217 6 hs (rfl : zb x zT0 zc_217 6 (85, [some (.ref 92), o1], [], h) = some (97, [some (.ref 92), o1], [.int (zf h 92 88), .int (zf h 92 23), .ref 131], h)) (fun hs => ?_)
  obtain ⟨hob, ho⟩ := ho
  refine zg_ias hs zd_217 rfl rfl hob (fun hs => ?_)
  refine zg_blk zd_217 6 hs (rfl : zb x zT0 zc_217 6 (98, [some (.ref 92), o1], [], (zs h 131 (zf h 92 23) (zf h 92 88))) = some (110, [some (.ref 92), o1], [.int (zf h 92 87), .int (zf h 92 23), .ref 132], (zs h 131 (zf h 92 23) (zf h 92 88)))) (fun hs => ?_)
  obtain ⟨hob, ho⟩ := ho
  refine zg_ias hs zd_217 rfl rfl hob (fun hs => ?_)
  refine zg_blk zd_217 2 hs (rfl : zb x zT0 zc_217 2 (111, [some (.ref 92), o1], [], (zs (zs h 131 (zf h 92 23) (zf h 92 88)) 132 (zf h 92 23) (zf h 92 87))) = some (113, [some (.ref 92), some (.int 0)], [], (zs (zs h 131 (zf h 92 23) (zf h 92 88)) 132 (zf h 92 23) (zf h 92 87)))) (fun hs => ?_)
  refine f_M_spell_l113_t  (fun r => f_M_spell_a113_ok r ∧ (zSh zT0 (f_M_spell_a113 r) → Q none (f_M_spell_a113 r))) ?_ zF 0 (zs (zs h 131 (zf h 92 23) (zf h 92 88)) 132 (zf h 92 23) (zf h 92 87)) hs ho.1 ⟨ho.2, hF⟩
  · intro v1_ h_ o1_ hs hG
    have ho : (f_M_spell_k145_ok h_) := hG.1
    have hF : (zSh zT0 ((f_M_spell_k145 h_)) → Q none ((f_M_spell_k145 h_))) := hG.2
    exact f_M_spell_k145_t h_ (o1_) hs ho hF
set_option maxRecDepth 100000 in
set_option maxHeartbeats 400000 in
theorem f_M_spell_k76_t {x : zm_X} {d : Nat} (h : zm_H) (o1 : Option Value) {Q : Option Value → zm_H → Prop} (hs : zSh zT0 h) (ho : f_M_spell_k76_ok h) (hF : (zSh zT0 (f_M_spell_k76 h) → Q none (f_M_spell_k76 h))) : zg x (d + 5) 217 76 [some (.ref 92), o1] [] h Q := by
  unfold f_M_spell_k76 at hF
  unfold f_M_spell_k76_ok at ho
  refine zg_blk zd_217 4 hs (rfl : zb x zT0 zc_217 4 (76, [some (.ref 92), o1], [], h) = some (82, [some (.ref 92), o1], [.int (zf h 92 23), .int 0, .ref 92], h)) (fun hs => ?_)
  obtain ⟨hob, ho⟩ := ho
  refine zg_call hs zd_217 rfl rfl rfl rfl (as := [.ref 92, .int 0, .int (zf h 92 23)]) (rest := []) (en := [some (.ref 92), some (.int 0), some (.int (zf h 92 23)), none, none]) rfl rfl rfl rfl rfl ?_
  refine f_M_goes_t 0 (zf h 92 23) h hs hob (fun hs => ?_)
  show zg x (d + 5) 217 85 [some (.ref 92), o1] [] (f_M_goes 0 (zf h 92 23) h) Q
  exact f_M_spell_k85_t (f_M_goes 0 (zf h 92 23) h) (o1) hs ho hF
set_option maxRecDepth 100000 in
set_option maxHeartbeats 400000 in
theorem f_M_spell_k22_t {x : zm_X} {d : Nat} (h : zm_H) (o1 : Option Value) {Q : Option Value → zm_H → Prop} (hs : zSh zT0 h) (ho : f_M_spell_k22_ok h) (hF : (zSh zT0 (f_M_spell_k22 h) → Q none (f_M_spell_k22 h))) : zg x (d + 5) 217 22 [some (.ref 92), o1] [] h Q := by
  unfold f_M_spell_k22 at hF
  unfold f_M_spell_k22_ok at ho
  refine zg_blk zd_217 2 hs (rfl : zb x zT0 zc_217 2 (22, [some (.ref 92), o1], [], h) = some (24, [some (.ref 92), some (.int 0)], [], h)) (fun hs => ?_)
  refine f_M_spell_l24_t  (fun r => f_M_spell_a24_ok r ∧ (zSh zT0 (f_M_spell_a24 r) → Q none (f_M_spell_a24 r))) ?_ zF 0 h hs ho.1 ⟨ho.2, hF⟩
  · intro v1_ h_ o1_ hs hG
    have ho : (f_M_spell_k76_ok h_) := hG.1
    have hF : (zSh zT0 ((f_M_spell_k76 h_)) → Q none ((f_M_spell_k76 h_))) := hG.2
    exact f_M_spell_k76_t h_ (o1_) hs ho hF
set_option maxRecDepth 100000 in
set_option maxHeartbeats 400000 in
theorem f_M_spell_k12_t {x : zm_X} {d : Nat} (h : zm_H) (o1 : Option Value) {Q : Option Value → zm_H → Prop} (hs : zSh zT0 h) (ho : f_M_spell_k12_ok h) (hF : (zSh zT0 (f_M_spell_k12 h) → Q none (f_M_spell_k12 h))) : zg x (d + 5) 217 12 [some (.ref 92), o1] [] h Q := by
  unfold f_M_spell_k12 at hF
  unfold f_M_spell_k12_ok at ho
  refine zg_blk zd_217 5 hs (rfl : zb x zT0 zc_217 5 (12, [some (.ref 92), o1], [], h) = some (19, [some (.ref 92), o1], [.int (zf h 92 23), .int (-1), .int 0, .ref 92], h)) (fun hs => ?_)
  obtain ⟨hob, ho⟩ := ho
  refine zg_call hs zd_217 rfl rfl rfl rfl (as := [.ref 92, .int 0, .int (-1), .int (zf h 92 23)]) (rest := []) (en := [some (.ref 92), some (.int 0), some (.int (-1)), some (.int (zf h 92 23)), none]) rfl rfl rfl rfl rfl ?_
  refine f_M_asks_t 0 (-1) (zf h 92 23) h hs hob (fun hs => ?_)
  show zg x (d + 5) 217 22 [some (.ref 92), o1] [] (f_M_asks 0 (-1) (zf h 92 23) h) Q
  exact f_M_spell_k22_t (f_M_asks 0 (-1) (zf h 92 23) h) (o1) hs ho hF
set_option maxRecDepth 100000 in
set_option maxHeartbeats 400000 in
theorem f_M_spell_t {x : zm_X} {d : Nat} (h : zm_H) {Q : Option Value → zm_H → Prop} (hs : zSh zT0 h) (ho : f_M_spell_ok h) (hF : (zSh zT0 (f_M_spell h) → Q none (f_M_spell h))) : zg x (d + 5) 217 0 [some (.ref 92), none] [] h Q := by
  unfold f_M_spell at hF
  unfold f_M_spell_ok at ho
  refine zg_blk zd_217 5 hs (rfl : zb x zT0 zc_217 5 (0, [some (.ref 92), none], [], h) = some (9, [some (.ref 92), none], [.int (zf h 92 23), .int (zf h 92 23), .ref 92], h)) (fun hs => ?_)
  obtain ⟨hob, ho⟩ := ho
  refine zg_call hs zd_217 rfl rfl rfl rfl (as := [.ref 92, .int (zf h 92 23), .int (zf h 92 23)]) (rest := []) (en := [some (.ref 92), some (.int (zf h 92 23)), some (.int (zf h 92 23)), none, none, none]) rfl rfl rfl rfl rfl ?_
  refine f_M_looks_t (zf h 92 23) (zf h 92 23) h hs hob (fun hs => ?_)
  show zg x (d + 5) 217 12 [some (.ref 92), none] [] (f_M_looks (zf h 92 23) (zf h 92 23) h) Q
  exact f_M_spell_k12_t (f_M_looks (zf h 92 23) (zf h 92 23) h) (none) hs ho hF
set_option maxRecDepth 100000 in
set_option maxHeartbeats 400000 in
theorem f_M_go_l14_k33_t {x : zm_X} {d : Nat} (v1 : Int32) (v2 : Int32) (h : zm_H) {Q : Option Value → zm_H → Prop} {FN : Nat × Int32 × zm_H → Prop} (hs : zSh zT0 h) (ho : f_M_go_l14_k33_ok v1 v2 h) (hF : FN (f_M_go_l14_k33 v1 v2 h)) (hl0 : ∀ (v2 : Int32) (h : zm_H), zSh zT0 h → FN (0, v2, h) → zg x (d + 6) 216 14 [some (.ref 92), some (.int v1), some (.int v2)] [] h Q) (hl1 : ∀ (v2 : Int32) (h : zm_H) (o2 : Option Value), zSh zT0 h → FN (1, v2, h) → zg x (d + 6) 216 39 [some (.ref 92), some (.int v1), o2] [] h Q) : zg x (d + 6) 216 33 [some (.ref 92), some (.int v1), some (.int v2)] [] h Q := by
  unfold f_M_go_l14_k33 at hF
  unfold f_M_go_l14_k33_ok at ho
  refine zg_blk zd_216 2 hs (rfl : zb x zT0 zc_216 2 (33, [some (.ref 92), some (.int v1), some (.int v2)], [], h) = some (14, [some (.ref 92), some (.int v1), some (.int (v2 + 1))], [], h)) (fun hs => ?_)
  exact hl0 (v2 + 1) h hs hF
set_option maxRecDepth 100000 in
set_option maxHeartbeats 400000 in
theorem f_M_go_l14_b_t {x : zm_X} {d : Nat} (v1 : Int32) (v2 : Int32) (h : zm_H) {Q : Option Value → zm_H → Prop} {FN : Nat × Int32 × zm_H → Prop} (hs : zSh zT0 h) (ho : f_M_go_l14_b_ok v1 v2 h) (hF : FN (f_M_go_l14_b v1 v2 h)) (hl0 : ∀ (v2 : Int32) (h : zm_H), zSh zT0 h → FN (0, v2, h) → zg x (d + 6) 216 14 [some (.ref 92), some (.int v1), some (.int v2)] [] h Q) (hl1 : ∀ (v2 : Int32) (h : zm_H) (o2 : Option Value), zSh zT0 h → FN (1, v2, h) → zg x (d + 6) 216 39 [some (.ref 92), some (.int v1), o2] [] h Q) : zg x (d + 6) 216 14 [some (.ref 92), some (.int v1), some (.int v2)] [] h Q := by
  unfold f_M_go_l14_b at hF
  unfold f_M_go_l14_b_ok at ho
  refine zg_blk zd_216 2 hs (rfl : zb x zT0 zc_216 2 (14, [some (.ref 92), some (.int v1), some (.int v2)], [], h) = some (16, [some (.ref 92), some (.int v1), some (.int v2)], [.int v1, .int v2], h)) (fun hs => ?_)
  refine zg_i_ge zd_216 rfl (fun (hc : (v1 ≤ v2)) => ?_) (fun (hc : ¬ (v1 ≤ v2)) => ?_)
  · have ho := ho.1 hc
    rw [if_pos hc] at hF
    exact hl1 v2 h (some (.int v2)) hs hF
  · have ho := ho.2 hc
    rw [if_neg hc] at hF
    refine zg_blk zd_216 3 hs (rfl : zb x zT0 zc_216 3 (19, [some (.ref 92), some (.int v1), some (.int v2)], [], h) = some (26, [some (.ref 92), some (.int v1), some (.int v2)], [.int 480, .int (zf h 92 23)], h)) (fun hs => ?_)
    refine zg_i_ge zd_216 rfl (fun (hc : (480 ≤ (zf h 92 23))) => ?_) (fun (hc : ¬ (480 ≤ (zf h 92 23))) => ?_)
    · have ho := ho.1 hc
      rw [if_pos hc] at hF
      exact hl1 v2 h (some (.int v2)) hs hF
    · have ho := ho.2 hc
      rw [if_neg hc] at hF
      refine zg_blk zd_216 1 hs (rfl : zb x zT0 zc_216 1 (29, [some (.ref 92), some (.int v1), some (.int v2)], [], h) = some (30, [some (.ref 92), some (.int v1), some (.int v2)], [.ref 92], h)) (fun hs => ?_)
      have hob := ho
      refine zg_call hs zd_216 rfl rfl rfl rfl (as := [.ref 92]) (rest := []) (en := [some (.ref 92), none]) rfl rfl rfl rfl rfl ?_
      refine f_M_spell_t  h hs hob (fun hs => ?_)
      show zg x (d + 6) 216 33 [some (.ref 92), some (.int v1), some (.int v2)] [] (f_M_spell h) Q
      exact f_M_go_l14_k33_t v1 v2 (f_M_spell h) hs trivial hF hl0 hl1
theorem f_M_go_l14_t {x : zm_X} {d : Nat} (v1 : Int32) {Q : Option Value → zm_H → Prop} (G : Nat × Int32 × zm_H → Prop) (hx1 : ∀ (v2 : Int32) (h : zm_H) (o2 : Option Value), zSh zT0 h → G (1, v2, h) → zg x (d + 6) 216 39 [some (.ref 92), some (.int v1), o2] [] h Q) : ∀ (n : Nat) (v2 : Int32) (h : zm_H), zSh zT0 h → f_M_go_l14_ok v1 n (v2, h) → G (f_M_go_l14 v1 n (v2, h)) → zg x (d + 6) 216 14 [some (.ref 92), some (.int v1), some (.int v2)] [] h Q := by
  intro n
  induction n with
  | zero => intro v2 h hs ho hG; exact ho.elim
  | succ n ih =>
    intro v2 h hs ho hG
    refine f_M_go_l14_b_t (FN := fun r => (r.1 = 0 → f_M_go_l14_ok v1 n r.2) ∧ G (if r.1 = 0 then f_M_go_l14 v1 n r.2 else r)) v1 v2 h hs ho.1 ⟨ho.2, hG⟩ ?_ ?_
    · intro v2 h hs hF
      exact ih v2 h hs (hF.1 rfl) hF.2
    · intro v2 h o2 hs hF
      exact hx1 v2 h o2 hs hF.2

set_option maxRecDepth 100000 in
set_option maxHeartbeats 400000 in
theorem f_M_go_k39_t {x : zm_X} {d : Nat} (h : zm_H) (z1 : Int32) (o2 : Option Value) {Q : Option Value → zm_H → Prop} (hs : zSh zT0 h) (ho : f_M_go_k39_ok h) (hF : (zSh zT0 (f_M_go_k39 h).2 → Q (some (.int (f_M_go_k39 h).1)) (f_M_go_k39 h).2)) : zg x (d + 6) 216 39 [some (.ref 92), some (.int z1), o2] [] h Q := by
  unfold f_M_go_k39 at hF
  unfold f_M_go_k39_ok at ho
  refine zg_blk zd_216 2 hs (rfl : zb x zT0 zc_216 2 (39, [some (.ref 92), some (.int z1), o2], [], h) = some (43, [some (.ref 92), some (.int z1), o2], [.int (zf h 92 23)], h)) (fun hs => ?_)
  exact zg_ret zd_216 rfl rfl (hF hs)
set_option maxRecDepth 100000 in
set_option maxHeartbeats 400000 in
theorem f_M_go_t {x : zm_X} {d : Nat} (p1 : Int32) (h : zm_H) {Q : Option Value → zm_H → Prop} (hs : zSh zT0 h) (ho : f_M_go_ok p1 h) (hF : (zSh zT0 (f_M_go p1 h).2 → Q (some (.int (f_M_go p1 h).1)) (f_M_go p1 h).2)) : zg x (d + 6) 216 0 [some (.ref 92), some (.int p1), none] [] h Q := by
  unfold f_M_go at hF
  unfold f_M_go_ok at ho
  refine zg_blk zd_216 3 hs (rfl : zb x zT0 zc_216 3 (0, [some (.ref 92), some (.int p1), none], [], h) = some (4, [some (.ref 92), some (.int p1), none], [.int 80, .int 0, .int p1], h)) (fun hs => ?_)
  refine zg_call hs zd_216 rfl rfl rfl rfl (as := [.int p1, .int 0, .int 80]) (rest := []) (en := [some (.int p1), some (.int 0), some (.int 80)]) rfl rfl rfl rfl rfl ?_
  refine f_M_in_t p1 0 80 h hs trivial ?_
  show zg x (d + 6) 216 7 [some (.ref 92), some (.int p1), none] [.int (if (¬ (p1 < 0) ∧ (¬ (80 < p1))) then (1 : Int32) else 0)] h Q
  refine zg_b_ne zd_216 rfl (fun (hc : (¬ (p1 < 0) ∧ (¬ (80 < p1)))) => ?_) (fun (hc : ¬ (¬ (p1 < 0) ∧ (¬ (80 < p1)))) => ?_)
  · have ho := ho.1 hc
    rw [if_pos hc] at hF
    refine zg_blk zd_216 2 hs (rfl : zb x zT0 zc_216 2 (12, [some (.ref 92), some (.int p1), none], [], h) = some (14, [some (.ref 92), some (.int p1), some (.int 0)], [], h)) (fun hs => ?_)
    refine f_M_go_l14_t p1 (fun r => f_M_go_a14_ok r ∧ (zSh zT0 (f_M_go_a14 r).2 → Q (some (.int (f_M_go_a14 r).1)) (f_M_go_a14 r).2)) ?_ zF 0 h hs ho.1 ⟨ho.2, hF⟩
    · intro v2_ h_ o2_ hs hG
      have ho : True := trivial
      have hF : (zSh zT0 ((f_M_go_k39 h_)).2 → Q (some (.int ((f_M_go_k39 h_)).1)) ((f_M_go_k39 h_)).2) := hG.2
      exact f_M_go_k39_t h_ p1 (o2_) hs trivial hF
  · have ho := ho.2 hc
    rw [if_neg hc] at hF
    refine zg_blk zd_216 1 hs (rfl : zb x zT0 zc_216 1 (10, [some (.ref 92), some (.int p1), none], [], h) = some (11, [some (.ref 92), some (.int p1), none], [.int (-1)], h)) (fun hs => ?_)
    exact zg_ret zd_216 rfl rfl (hF hs)
theorem zd_145 : zm_cd 145 = zc_145 := by rfl
theorem zd_29 : zm_cd 29 = zc_29 := by rfl
set_option maxRecDepth 100000 in
set_option maxHeartbeats 400000 in
theorem f_Course_ofRaft_37_t {x : zm_X} {d : Nat} (p1 : Int32) (p2 : Int32) (h : zm_H) {Q : Option Value → zm_H → Prop} (hs : zSh zT0 h) (ho : f_Course_ofRaft_37_ok p1 p2 h) (hF : Q (some (.int (f_Course_ofRaft_37 p1 p2 h))) h) : zg x (d + 3) 29 0 [some (.ref 37), some (.int p1), some (.int p2)] [] h Q := by
  unfold f_Course_ofRaft_37 at hF
  unfold f_Course_ofRaft_37_ok at ho
  refine zg_blk zd_29 1 hs (rfl : zb x zT0 zc_29 1 (0, [some (.ref 37), some (.int p1), some (.int p2)], [], h) = some (1, [some (.ref 37), some (.int p1), some (.int p2)], [.int p2], h)) (fun hs => ?_)
  by_cases hc0 : p2 = 0
  · have ho := ho.1 hc0
    rw [if_pos hc0] at hF
    refine zg_tsw zd_29 rfl (tg := 48) (by rw [hc0]; rfl) ?_
    refine zg_blk zd_29 3 hs (rfl : zb x zT0 zc_29 3 (48, [some (.ref 37), some (.int p1), some (.int p2)], [], h) = some (53, [some (.ref 37), some (.int p1), some (.int p2)], [.int p1, .ref 38], h)) (fun hs => ?_)
    have hob := ho
    refine zg_ial hs zd_29 rfl rfl hob ?_
    exact zg_ret zd_29 rfl rfl hF
  have ho := ho.2 hc0
  rw [if_neg hc0] at hF
  by_cases hc1 : p2 = 1
  · have ho := ho.1 hc1
    rw [if_pos hc1] at hF
    refine zg_tsw zd_29 rfl (tg := 55) (by rw [hc1]; rfl) ?_
    refine zg_blk zd_29 3 hs (rfl : zb x zT0 zc_29 3 (55, [some (.ref 37), some (.int p1), some (.int p2)], [], h) = some (60, [some (.ref 37), some (.int p1), some (.int p2)], [.int p1, .ref 39], h)) (fun hs => ?_)
    have hob := ho
    refine zg_ial hs zd_29 rfl rfl hob ?_
    exact zg_ret zd_29 rfl rfl hF
  have ho := ho.2 hc1
  rw [if_neg hc1] at hF
  by_cases hc2 : p2 = 2
  · have ho := ho.1 hc2
    rw [if_pos hc2] at hF
    refine zg_tsw zd_29 rfl (tg := 62) (by rw [hc2]; rfl) ?_
    refine zg_blk zd_29 4 hs (rfl : zb x zT0 zc_29 4 (62, [some (.ref 37), some (.int p1), some (.int p2)], [], h) = some (70, [some (.ref 37), some (.int p1), some (.int p2)], [.int p1, .ref 24], h)) (fun hs => ?_)
    have hob := ho
    refine zg_ial hs zd_29 rfl rfl hob ?_
    exact zg_ret zd_29 rfl rfl hF
  have ho := ho.2 hc2
  rw [if_neg hc2] at hF
  by_cases hc3 : p2 = 3
  · have ho := ho.1 hc3
    rw [if_pos hc3] at hF
    refine zg_tsw zd_29 rfl (tg := 72) (by rw [hc3]; rfl) ?_
    refine zg_blk zd_29 4 hs (rfl : zb x zT0 zc_29 4 (72, [some (.ref 37), some (.int p1), some (.int p2)], [], h) = some (80, [some (.ref 37), some (.int p1), some (.int p2)], [.int p1, .ref 25], h)) (fun hs => ?_)
    have hob := ho
    refine zg_ial hs zd_29 rfl rfl hob ?_
    exact zg_ret zd_29 rfl rfl hF
  have ho := ho.2 hc3
  rw [if_neg hc3] at hF
  by_cases hc4 : p2 = 4
  · have ho := ho.1 hc4
    rw [if_pos hc4] at hF
    refine zg_tsw zd_29 rfl (tg := 82) (by rw [hc4]; rfl) ?_
    refine zg_blk zd_29 2 hs (rfl : zb x zT0 zc_29 2 (82, [some (.ref 37), some (.int p1), some (.int p2)], [], h) = some (84, [some (.ref 37), some (.int p1), some (.int p2)], [.int p1, .ref 37], h)) (fun hs => ?_)
    have hob := ho
    refine zg_call hs zd_29 rfl rfl rfl rfl (as := [.ref 37, .int p1]) (rest := []) (en := [some (.ref 37), some (.int p1)]) rfl rfl rfl rfl rfl ?_
    refine f_Course_leak_37_t p1 h hs hob ?_
    show zg x (d + 3) 29 87 [some (.ref 37), some (.int p1), some (.int p2)] [.int (f_Course_leak_37 p1 h)] h Q
    exact zg_ret zd_29 rfl rfl hF
  have ho := ho.2 hc4
  rw [if_neg hc4] at hF
  by_cases hc5 : p2 = 5
  · have ho := ho.1 hc5
    rw [if_pos hc5] at hF
    refine zg_tsw zd_29 rfl (tg := 88) (by rw [hc5]; rfl) ?_
    refine zg_blk zd_29 3 hs (rfl : zb x zT0 zc_29 3 (88, [some (.ref 37), some (.int p1), some (.int p2)], [], h) = some (93, [some (.ref 37), some (.int p1), some (.int p2)], [.int p1, .ref 41], h)) (fun hs => ?_)
    have hob := ho
    refine zg_ial hs zd_29 rfl rfl hob ?_
    exact zg_ret zd_29 rfl rfl hF
  have ho := ho.2 hc5
  rw [if_neg hc5] at hF
  by_cases hc6 : p2 = 6
  · have ho := ho.1 hc6
    rw [if_pos hc6] at hF
    refine zg_tsw zd_29 rfl (tg := 95) (by rw [hc6]; rfl) ?_
    refine zg_blk zd_29 2 hs (rfl : zb x zT0 zc_29 2 (95, [some (.ref 37), some (.int p1), some (.int p2)], [], h) = some (97, [some (.ref 37), some (.int p1), some (.int p2)], [.int p1, .ref 37], h)) (fun hs => ?_)
    have hob := ho
    refine zg_call hs zd_29 rfl rfl rfl rfl (as := [.ref 37, .int p1]) (rest := []) (en := [some (.ref 37), some (.int p1), none, none]) rfl rfl rfl rfl rfl ?_
    refine f_Course_holdBits_37_t p1 h hs hob ?_
    show zg x (d + 3) 29 100 [some (.ref 37), some (.int p1), some (.int p2)] [.int (f_Course_holdBits_37 p1 h)] h Q
    exact zg_ret zd_29 rfl rfl hF
  have ho := ho.2 hc6
  rw [if_neg hc6] at hF
  by_cases hc7 : p2 = 7
  · have ho := ho.1 hc7
    rw [if_pos hc7] at hF
    refine zg_tsw zd_29 rfl (tg := 101) (by rw [hc7]; rfl) ?_
    refine zg_blk zd_29 3 hs (rfl : zb x zT0 zc_29 3 (101, [some (.ref 37), some (.int p1), some (.int p2)], [], h) = some (106, [some (.ref 37), some (.int p1), some (.int p2)], [.int p1, .ref 42], h)) (fun hs => ?_)
    have hob := ho
    refine zg_ial hs zd_29 rfl rfl hob ?_
    exact zg_ret zd_29 rfl rfl hF
  have ho := ho.2 hc7
  rw [if_neg hc7] at hF
  refine zg_tsw zd_29 rfl (tg := 108) (if_pos (zsw_out (lo := 0) (hi := 7) (by decide) (by decide) (fun v h1 h2 => by
      have : v = 0 ∨ v = 1 ∨ v = 2 ∨ v = 3 ∨ v = 4 ∨ v = 5 ∨ v = 6 ∨ v = 7 := by omega
      rcases this with rfl | rfl | rfl | rfl | rfl | rfl | rfl | rfl <;> first | exact hc0 | exact hc1 | exact hc2 | exact hc3 | exact hc4 | exact hc5 | exact hc6 | exact hc7))) ?_
  refine zg_blk zd_29 1 hs (rfl : zb x zT0 zc_29 1 (108, [some (.ref 37), some (.int p1), some (.int p2)], [], h) = some (109, [some (.ref 37), some (.int p1), some (.int p2)], [.int (-1)], h)) (fun hs => ?_)
  exact zg_ret zd_29 rfl rfl hF
theorem zd_28 : zm_cd 28 = zc_28 := by rfl
set_option maxRecDepth 100000 in
set_option maxHeartbeats 400000 in
theorem f_Course_ofChain_37_t {x : zm_X} {d : Nat} (p1 : Int32) (p2 : Int32) (p3 : Int32) (h : zm_H) {Q : Option Value → zm_H → Prop} (hs : zSh zT0 h) (ho : f_Course_ofChain_37_ok p1 p2 p3 h) (hF : Q (some (.int (f_Course_ofChain_37 p1 p2 p3 h))) h) : zg x (d + 1) 28 0 [some (.ref 37), some (.int p1), some (.int p2), some (.int p3)] [] h Q := by
  unfold f_Course_ofChain_37 at hF
  unfold f_Course_ofChain_37_ok at ho
  refine zg_blk zd_28 2 hs (rfl : zb x zT0 zc_28 2 (0, [some (.ref 37), some (.int p1), some (.int p2), some (.int p3)], [], h) = some (2, [some (.ref 37), some (.int p1), some (.int p2), some (.int p3)], [.int 3, .int p3], h)) (fun hs => ?_)
  refine zg_i_lt zd_28 rfl (fun (hc : (p3 < 3)) => ?_) (fun (hc : ¬ (p3 < 3)) => ?_)
  · have ho := ho.1 hc
    rw [if_pos hc] at hF
    refine zg_blk zd_28 1 hs (rfl : zb x zT0 zc_28 1 (7, [some (.ref 37), some (.int p1), some (.int p2), some (.int p3)], [], h) = some (8, [some (.ref 37), some (.int p1), some (.int p2), some (.int p3)], [.int p2], h)) (fun hs => ?_)
    by_cases hc1 : p2 = 1
    · have ho := ho.1 hc1
      rw [if_pos hc1] at hF
      refine zg_tsw zd_28 rfl (tg := 36) (by rw [hc1]; rfl) ?_
      refine zg_blk zd_28 7 hs (rfl : zb x zT0 zc_28 7 (36, [some (.ref 37), some (.int p1), some (.int p2), some (.int p3)], [], h) = some (45, [some (.ref 37), some (.int p1), some (.int p2), some (.int p3)], [.int ((p1 * 3) + p3), .ref 43], h)) (fun hs => ?_)
      have hob := ho
      refine zg_ial hs zd_28 rfl rfl hob ?_
      exact zg_ret zd_28 rfl rfl hF
    have ho := ho.2 hc1
    rw [if_neg hc1] at hF
    by_cases hc2 : p2 = 2
    · have ho := ho.1 hc2
      rw [if_pos hc2] at hF
      refine zg_tsw zd_28 rfl (tg := 47) (by rw [hc2]; rfl) ?_
      refine zg_blk zd_28 7 hs (rfl : zb x zT0 zc_28 7 (47, [some (.ref 37), some (.int p1), some (.int p2), some (.int p3)], [], h) = some (56, [some (.ref 37), some (.int p1), some (.int p2), some (.int p3)], [.int ((p1 * 3) + p3), .ref 44], h)) (fun hs => ?_)
      have hob := ho
      refine zg_ial hs zd_28 rfl rfl hob ?_
      exact zg_ret zd_28 rfl rfl hF
    have ho := ho.2 hc2
    rw [if_neg hc2] at hF
    by_cases hc3 : p2 = 3
    · have ho := ho.1 hc3
      rw [if_pos hc3] at hF
      refine zg_tsw zd_28 rfl (tg := 58) (by rw [hc3]; rfl) ?_
      refine zg_blk zd_28 7 hs (rfl : zb x zT0 zc_28 7 (58, [some (.ref 37), some (.int p1), some (.int p2), some (.int p3)], [], h) = some (67, [some (.ref 37), some (.int p1), some (.int p2), some (.int p3)], [.int ((p1 * 3) + p3), .ref 45], h)) (fun hs => ?_)
      have hob := ho
      refine zg_ial hs zd_28 rfl rfl hob ?_
      exact zg_ret zd_28 rfl rfl hF
    have ho := ho.2 hc3
    rw [if_neg hc3] at hF
    refine zg_tsw zd_28 rfl (tg := 69) (if_pos (zsw_out (lo := 1) (hi := 3) (by decide) (by decide) (fun v h1 h2 => by
        have : v = 1 ∨ v = 2 ∨ v = 3 := by omega
        rcases this with rfl | rfl | rfl <;> first | exact hc1 | exact hc2 | exact hc3))) ?_
    refine zg_blk zd_28 1 hs (rfl : zb x zT0 zc_28 1 (69, [some (.ref 37), some (.int p1), some (.int p2), some (.int p3)], [], h) = some (70, [some (.ref 37), some (.int p1), some (.int p2), some (.int p3)], [.int (-1)], h)) (fun hs => ?_)
    exact zg_ret zd_28 rfl rfl hF
  · have ho := ho.2 hc
    rw [if_neg hc] at hF
    refine zg_blk zd_28 1 hs (rfl : zb x zT0 zc_28 1 (5, [some (.ref 37), some (.int p1), some (.int p2), some (.int p3)], [], h) = some (6, [some (.ref 37), some (.int p1), some (.int p2), some (.int p3)], [.int (-1)], h)) (fun hs => ?_)
    exact zg_ret zd_28 rfl rfl hF
set_option maxRecDepth 100000 in
set_option maxHeartbeats 400000 in
theorem f_N_told_t {x : zm_X} {d : Nat} (p1 : Int32) (p2 : Int32) (h : zm_H) {Q : Option Value → zm_H → Prop} (hs : zSh zT0 h) (ho : f_N_told_ok p1 p2 h) (hF : Q (some (.int (f_N_told p1 p2 h))) h) : zg x (d + 4) 145 0 [some (.ref 0), some (.int p1), some (.int p2)] [] h Q := by
  unfold f_N_told at hF
  unfold f_N_told_ok at ho
  refine zg_blk zd_145 2 hs (rfl : zb x zT0 zc_145 2 (0, [some (.ref 0), some (.int p1), some (.int p2)], [], h) = some (2, [some (.ref 0), some (.int p1), some (.int p2)], [.int p1, .ref 0], h)) (fun hs => ?_)
  refine zg_call hs zd_145 rfl rfl rfl rfl (as := [.ref 0, .int p1]) (rest := []) (en := [some (.ref 0), some (.int p1)]) rfl rfl rfl rfl rfl ?_
  refine f_N_isRaft_t p1 h hs trivial ?_
  show zg x (d + 4) 145 5 [some (.ref 0), some (.int p1), some (.int p2)] [.int (if (¬ (p1 < 0) ∧ (¬ ((zf h 23 0) ≤ p1))) then (1 : Int32) else 0)] h Q
  refine zg_b_ne zd_145 rfl (fun (hc : (¬ (p1 < 0) ∧ (¬ ((zf h 23 0) ≤ p1)))) => ?_) (fun (hc : ¬ (¬ (p1 < 0) ∧ (¬ ((zf h 23 0) ≤ p1)))) => ?_)
  · have ho := ho.1 hc
    rw [show ((if (¬ (p1 < 0) ∧ (¬ ((zf h 23 0) ≤ p1))) then ((if (p2 < 10) then ((f_Course_ofRaft_37 p1 p2 h) : Int32) else (f_Course_ofChain_37 p1 (p2 / 10) (zm_rm p2 10) h)) : Int32) else (-1)) : Int32) = (if (p2 < 10) then ((f_Course_ofRaft_37 p1 p2 h) : Int32) else (f_Course_ofChain_37 p1 (p2 / 10) (zm_rm p2 10) h)) from if_pos hc] at hF
    refine zg_blk zd_145 2 hs (rfl : zb x zT0 zc_145 2 (10, [some (.ref 0), some (.int p1), some (.int p2)], [], h) = some (13, [some (.ref 0), some (.int p1), some (.int p2)], [.int 10, .int p2], h)) (fun hs => ?_)
    refine zg_i_lt zd_145 rfl (fun (hc : (p2 < 10)) => ?_) (fun (hc : ¬ (p2 < 10)) => ?_)
    · have ho := ho.1 hc
      rw [show ((if (p2 < 10) then ((f_Course_ofRaft_37 p1 p2 h) : Int32) else (f_Course_ofChain_37 p1 (p2 / 10) (zm_rm p2 10) h)) : Int32) = (f_Course_ofRaft_37 p1 p2 h) from if_pos hc] at hF
      refine zg_blk zd_145 4 hs (rfl : zb x zT0 zc_145 4 (33, [some (.ref 0), some (.int p1), some (.int p2)], [], h) = some (39, [some (.ref 0), some (.int p1), some (.int p2)], [.int p2, .int p1, .ref 37], h)) (fun hs => ?_)
      have hob := ho
      refine zg_call hs zd_145 rfl rfl rfl rfl (as := [.ref 37, .int p1, .int p2]) (rest := []) (en := [some (.ref 37), some (.int p1), some (.int p2)]) rfl rfl rfl rfl rfl ?_
      refine f_Course_ofRaft_37_t p1 p2 h hs hob ?_
      show zg x (d + 4) 145 42 [some (.ref 0), some (.int p1), some (.int p2)] [.int (f_Course_ofRaft_37 p1 p2 h)] h Q
      exact zg_ret zd_145 rfl rfl hF
    · have ho := ho.2 hc
      rw [show ((if (p2 < 10) then ((f_Course_ofRaft_37 p1 p2 h) : Int32) else (f_Course_ofChain_37 p1 (p2 / 10) (zm_rm p2 10) h)) : Int32) = (f_Course_ofChain_37 p1 (p2 / 10) (zm_rm p2 10) h) from if_neg hc] at hF
      refine zg_blk zd_145 9 hs (rfl : zb x zT0 zc_145 9 (16, [some (.ref 0), some (.int p1), some (.int p2)], [], h) = some (29, [some (.ref 0), some (.int p1), some (.int p2)], [.int (zm_rm p2 10), .int (p2 / 10), .int p1, .ref 37], h)) (fun hs => ?_)
      have hob := ho
      refine zg_call hs zd_145 rfl rfl rfl rfl (as := [.ref 37, .int p1, .int (p2 / 10), .int (zm_rm p2 10)]) (rest := []) (en := [some (.ref 37), some (.int p1), some (.int (p2 / 10)), some (.int (zm_rm p2 10))]) rfl rfl rfl rfl rfl ?_
      refine f_Course_ofChain_37_t p1 (p2 / 10) (zm_rm p2 10) h hs hob ?_
      show zg x (d + 4) 145 32 [some (.ref 0), some (.int p1), some (.int p2)] [.int (f_Course_ofChain_37 p1 (p2 / 10) (zm_rm p2 10) h)] h Q
      exact zg_ret zd_145 rfl rfl hF
  · have ho := ho.2 hc
    rw [show ((if (¬ (p1 < 0) ∧ (¬ ((zf h 23 0) ≤ p1))) then ((if (p2 < 10) then ((f_Course_ofRaft_37 p1 p2 h) : Int32) else (f_Course_ofChain_37 p1 (p2 / 10) (zm_rm p2 10) h)) : Int32) else (-1)) : Int32) = (-1) from if_neg hc] at hF
    refine zg_blk zd_145 1 hs (rfl : zb x zT0 zc_145 1 (8, [some (.ref 0), some (.int p1), some (.int p2)], [], h) = some (9, [some (.ref 0), some (.int p1), some (.int p2)], [.int (-1)], h)) (fun hs => ?_)
    exact zg_ret zd_145 rfl rfl hF
theorem zd_231 : zm_cd 231 = zc_231 := by rfl
theorem zd_232 : zm_cd 232 = zc_232 := by rfl
set_option maxRecDepth 100000 in
set_option maxHeartbeats 400000 in
theorem f_M_toldOf_l184_b_t {x : zm_X} {d : Nat} (v1 : Int32) (v2 : Int32) (v4 : Int32) (v5 : Int32) (v6 : Int32) (v7 : Int32) (h : zm_H) (z3 : Int32) {Q : Option Value → zm_H → Prop} {FN : Nat × Int32 × Int32 → Prop} (hs : zSh zT0 h) (ho : f_M_toldOf_l184_b_ok v1 v2 v4 v5 v6 v7 h) (hF : FN (f_M_toldOf_l184_b v1 v2 v4 v5 v6 v7 h)) (hl0 : ∀ (v5 : Int32) (v7 : Int32) (z3 : Int32), zSh zT0 h → FN (0, v5, v7) → zg x (d + 2) 232 184 [some (.ref 92), some (.int v1), some (.int v2), some (.int z3), some (.int v4), some (.int v5), some (.int v6), some (.int v7)] [] h Q) (hl1 : ∀ (v5 : Int32) (v7 : Int32) (z3 : Int32) (o7 : Option Value), zSh zT0 h → FN (1, v5, v7) → zg x (d + 2) 232 223 [some (.ref 92), some (.int v1), some (.int v2), some (.int z3), some (.int v4), some (.int v5), some (.int v6), o7] [] h Q) : zg x (d + 2) 232 184 [some (.ref 92), some (.int v1), some (.int v2), some (.int z3), some (.int v4), some (.int v5), some (.int v6), some (.int v7)] [] h Q := by
  unfold f_M_toldOf_l184_b at hF
  unfold f_M_toldOf_l184_b_ok at ho
  refine zg_blk zd_232 2 hs (rfl : zb x zT0 zc_232 2 (184, [some (.ref 92), some (.int v1), some (.int v2), some (.int z3), some (.int v4), some (.int v5), some (.int v6), some (.int v7)], [], h) = some (187, [some (.ref 92), some (.int v1), some (.int v2), some (.int z3), some (.int v4), some (.int v5), some (.int v6), some (.int v7)], [.int 3, .int v7], h)) (fun hs => ?_)
  refine zg_i_ge zd_232 rfl (fun (hc : (3 ≤ v7)) => ?_) (fun (hc : ¬ (3 ≤ v7)) => ?_)
  · have ho := ho.1 hc
    rw [if_pos hc] at hF
    exact hl1 v5 v7 z3 (some (.int v7)) hs hF
  · have ho := ho.2 hc
    rw [if_neg hc] at hF
    refine zg_blk zd_232 5 hs (rfl : zb x zT0 zc_232 5 (190, [some (.ref 92), some (.int v1), some (.int v2), some (.int z3), some (.int v4), some (.int v5), some (.int v6), some (.int v7)], [], h) = some (197, [some (.ref 92), some (.int v1), some (.int v2), some (.int z3), some (.int v4), some (.int v5), some (.int v6), some (.int v7)], [.int v7, .int v2, .int v1, .ref 92, .int v5], h)) (fun hs => ?_)
    refine zg_call hs zd_232 rfl rfl rfl rfl (as := [.int v1, .int v2, .int v7]) (rest := [.ref 92, .int v5]) (en := [some (.int v1), some (.int v2), some (.int v7)]) rfl rfl rfl rfl rfl ?_
    refine f_M_chainAt_t v1 v2 v7 h hs trivial ?_
    show zg x (d + 2) 232 200 [some (.ref 92), some (.int v1), some (.int v2), some (.int z3), some (.int v4), some (.int v5), some (.int v6), some (.int v7)] [.int ((3 * ((10 * v1) + v2)) + v7), .ref 92, .int v5] h Q
    have hob := ho
    refine zg_call hs zd_232 rfl rfl rfl rfl (as := [.ref 92, .int ((3 * ((10 * v1) + v2)) + v7)]) (rest := [.int v5]) (en := [some (.ref 92), some (.int ((3 * ((10 * v1) + v2)) + v7))]) rfl rfl rfl rfl rfl ?_
    refine f_M_chainHolds_t ((3 * ((10 * v1) + v2)) + v7) h hs hob ?_
    show zg x (d + 2) 232 203 [some (.ref 92), some (.int v1), some (.int v2), some (.int z3), some (.int v4), some (.int v5), some (.int v6), some (.int v7)] [.int (f_M_chainHolds ((3 * ((10 * v1) + v2)) + v7) h), .int v5] h Q
    have K116 : zSh zT0 h → zg x (d + 2) 232 214 [some (.ref 92), some (.int v1), some (.int v2), some (.int z3), some (.int v4), some (.int v5), some (.int v6), some (.int v7)] [.int (if ((f_M_chainHolds ((3 * ((10 * v1) + v2)) + v7) h) = 0) then (0 : Int32) else (1 <<< (v7 &&& 31))), .int v5] h Q := fun hs => by
      refine zg_blk zd_232 4 hs (rfl : zb x zT0 zc_232 4 (214, [some (.ref 92), some (.int v1), some (.int v2), some (.int z3), some (.int v4), some (.int v5), some (.int v6), some (.int v7)], [.int (if ((f_M_chainHolds ((3 * ((10 * v1) + v2)) + v7) h) = 0) then (0 : Int32) else (1 <<< (v7 &&& 31))), .int v5], h) = some (184, [some (.ref 92), some (.int v1), some (.int v2), some (.int z3), some (.int v4), some (.int (v5 ||| (if ((f_M_chainHolds ((3 * ((10 * v1) + v2)) + v7) h) = 0) then (0 : Int32) else (1 <<< (v7 &&& 31))))), some (.int v6), some (.int (v7 + 1))], [], h)) (fun hs => ?_)
      exact hl0 (v5 ||| (if ((f_M_chainHolds ((3 * ((10 * v1) + v2)) + v7) h) = 0) then (0 : Int32) else (1 <<< (v7 &&& 31)))) (v7 + 1) z3 hs hF
    refine zg_f_eq zd_232 rfl (fun (hc : ((f_M_chainHolds ((3 * ((10 * v1) + v2)) + v7) h) = 0)) => ?_) (fun (hc : ¬ ((f_M_chainHolds ((3 * ((10 * v1) + v2)) + v7) h) = 0)) => ?_)
    · skip
      rw [show ((if ((f_M_chainHolds ((3 * ((10 * v1) + v2)) + v7) h) = 0) then (0 : Int32) else (1 <<< (v7 &&& 31))) : Int32) = 0 from if_pos hc] at K116
      refine zg_blk zd_232 1 hs (rfl : zb x zT0 zc_232 1 (213, [some (.ref 92), some (.int v1), some (.int v2), some (.int z3), some (.int v4), some (.int v5), some (.int v6), some (.int v7)], [.int v5], h) = some (214, [some (.ref 92), some (.int v1), some (.int v2), some (.int z3), some (.int v4), some (.int v5), some (.int v6), some (.int v7)], [.int 0, .int v5], h)) (fun hs => ?_)
      exact K116 hs
    · skip
      rw [show ((if ((f_M_chainHolds ((3 * ((10 * v1) + v2)) + v7) h) = 0) then (0 : Int32) else (1 <<< (v7 &&& 31))) : Int32) = (1 <<< (v7 &&& 31)) from if_neg hc] at K116
      refine zg_blk zd_232 4 hs (rfl : zb x zT0 zc_232 4 (206, [some (.ref 92), some (.int v1), some (.int v2), some (.int z3), some (.int v4), some (.int v5), some (.int v6), some (.int v7)], [.int v5], h) = some (214, [some (.ref 92), some (.int v1), some (.int v2), some (.int z3), some (.int v4), some (.int v5), some (.int v6), some (.int v7)], [.int (1 <<< (v7 &&& 31)), .int v5], h)) (fun hs => ?_)
      exact K116 hs
theorem f_M_toldOf_l184_t {x : zm_X} {d : Nat} (v1 : Int32) (v2 : Int32) (v4 : Int32) (v6 : Int32) (h : zm_H) {Q : Option Value → zm_H → Prop} (G : Nat × Int32 × Int32 → Prop) (hx1 : ∀ (v5 : Int32) (v7 : Int32) (z3 : Int32) (o7 : Option Value), zSh zT0 h → G (1, v5, v7) → zg x (d + 2) 232 223 [some (.ref 92), some (.int v1), some (.int v2), some (.int z3), some (.int v4), some (.int v5), some (.int v6), o7] [] h Q) : ∀ (n : Nat) (v5 : Int32) (v7 : Int32) (z3 : Int32), zSh zT0 h → f_M_toldOf_l184_ok v1 v2 v4 v6 h n (v5, v7) → G (f_M_toldOf_l184 v1 v2 v4 v6 h n (v5, v7)) → zg x (d + 2) 232 184 [some (.ref 92), some (.int v1), some (.int v2), some (.int z3), some (.int v4), some (.int v5), some (.int v6), some (.int v7)] [] h Q := by
  intro n
  induction n with
  | zero => intro v5 v7 z3 hs ho hG; exact ho.elim
  | succ n ih =>
    intro v5 v7 z3 hs ho hG
    refine f_M_toldOf_l184_b_t (FN := fun r => (r.1 = 0 → f_M_toldOf_l184_ok v1 v2 v4 v6 h n r.2) ∧ G (if r.1 = 0 then f_M_toldOf_l184 v1 v2 v4 v6 h n r.2 else r)) v1 v2 v4 v5 v6 v7 h z3 hs ho.1 ⟨ho.2, hG⟩ ?_ ?_
    · intro v5 v7 z3 hs hF
      exact ih v5 v7 z3 hs (hF.1 rfl) hF.2
    · intro v5 v7 z3 o7 hs hF
      exact hx1 v5 v7 z3 o7 hs hF.2

set_option maxRecDepth 100000 in
set_option maxHeartbeats 400000 in
theorem f_M_toldOf_k223_t {x : zm_X} {d : Nat} (v5 : Int32) (h : zm_H) (o0 : Option Value) (o1 : Option Value) (o2 : Option Value) (z3 : Int32) (o4 : Option Value) (o6 : Option Value) (o7 : Option Value) {Q : Option Value → zm_H → Prop} (hs : zSh zT0 h) (ho : f_M_toldOf_k223_ok v5 h) (hF : Q (some (.int (f_M_toldOf_k223 v5 h))) h) : zg x (d + 2) 232 223 [o0, o1, o2, some (.int z3), o4, some (.int v5), o6, o7] [] h Q := by
  unfold f_M_toldOf_k223 at hF
  unfold f_M_toldOf_k223_ok at ho
  refine zg_blk zd_232 1 hs (rfl : zb x zT0 zc_232 1 (223, [o0, o1, o2, some (.int z3), o4, some (.int v5), o6, o7], [], h) = some (225, [o0, o1, o2, some (.int z3), o4, some (.int v5), o6, o7], [.int v5], h)) (fun hs => ?_)
  exact zg_ret zd_232 rfl rfl hF
set_option maxRecDepth 100000 in
set_option maxHeartbeats 400000 in
theorem f_M_toldOf_k89_t {x : zm_X} {d : Nat} (v1 : Int32) (v2 : Int32) (v3 : Int32) (v4 : Int32) (v5 : Int32) (v6 : Int32) (h : zm_H) (o7 : Option Value) {Q : Option Value → zm_H → Prop} (hs : zSh zT0 h) (ho : f_M_toldOf_k89_ok v1 v2 v3 v4 v5 v6 h) (hF : Q (some (.int (f_M_toldOf_k89 v1 v2 v3 v4 v5 v6 h))) h) : zg x (d + 2) 232 89 [some (.ref 92), some (.int v1), some (.int v2), some (.int v3), some (.int v4), some (.int v5), some (.int v6), o7] [] h Q := by
  unfold f_M_toldOf_k89 at hF
  unfold f_M_toldOf_k89_ok at ho
  refine zg_blk zd_232 1 hs (rfl : zb x zT0 zc_232 1 (89, [some (.ref 92), some (.int v1), some (.int v2), some (.int v3), some (.int v4), some (.int v5), some (.int v6), o7], [], h) = some (90, [some (.ref 92), some (.int v1), some (.int v2), some (.int v3), some (.int v4), some (.int v5), some (.int v6), o7], [.int v3], h)) (fun hs => ?_)
  by_cases hc0 : v3 = 0
  · have ho := ho.1 hc0
    rw [if_pos hc0] at hF
    refine zg_tsw zd_232 rfl (tg := 136) (by rw [hc0]; rfl) ?_
    refine zg_blk zd_232 3 hs (rfl : zb x zT0 zc_232 3 (136, [some (.ref 92), some (.int v1), some (.int v2), some (.int v3), some (.int v4), some (.int v5), some (.int v6), o7], [], h) = some (142, [some (.ref 92), some (.int v1), some (.int v2), some (.int v3), some (.int v4), some (.int v5), some (.int v6), o7], [.int v4, .ref 123], h)) (fun hs => ?_)
    have hob := ho
    refine zg_ial hs zd_232 rfl rfl hob ?_
    exact zg_ret zd_232 rfl rfl hF
  have ho := ho.2 hc0
  rw [if_neg hc0] at hF
  by_cases hc1 : v3 = 1
  · have ho := ho.1 hc1
    rw [if_pos hc1] at hF
    refine zg_tsw zd_232 rfl (tg := 144) (by rw [hc1]; rfl) ?_
    refine zg_blk zd_232 3 hs (rfl : zb x zT0 zc_232 3 (144, [some (.ref 92), some (.int v1), some (.int v2), some (.int v3), some (.int v4), some (.int v5), some (.int v6), o7], [], h) = some (150, [some (.ref 92), some (.int v1), some (.int v2), some (.int v3), some (.int v4), some (.int v5), some (.int v6), o7], [.int v4, .ref 124], h)) (fun hs => ?_)
    have hob := ho
    refine zg_ial hs zd_232 rfl rfl hob ?_
    exact zg_ret zd_232 rfl rfl hF
  have ho := ho.2 hc1
  rw [if_neg hc1] at hF
  by_cases hc2 : v3 = 2
  · have ho := ho.1 hc2
    rw [if_pos hc2] at hF
    refine zg_tsw zd_232 rfl (tg := 152) (by rw [hc2]; rfl) ?_
    refine zg_blk zd_232 3 hs (rfl : zb x zT0 zc_232 3 (152, [some (.ref 92), some (.int v1), some (.int v2), some (.int v3), some (.int v4), some (.int v5), some (.int v6), o7], [], h) = some (157, [some (.ref 92), some (.int v1), some (.int v2), some (.int v3), some (.int v4), some (.int v5), some (.int v6), o7], [.int v2, .ref 112], h)) (fun hs => ?_)
    have hob := ho
    refine zg_ial hs zd_232 rfl rfl hob ?_
    exact zg_ret zd_232 rfl rfl hF
  have ho := ho.2 hc2
  rw [if_neg hc2] at hF
  by_cases hc3 : v3 = 3
  · have ho := ho.1 hc3
    rw [if_pos hc3] at hF
    refine zg_tsw zd_232 rfl (tg := 159) (by rw [hc3]; rfl) ?_
    refine zg_blk zd_232 3 hs (rfl : zb x zT0 zc_232 3 (159, [some (.ref 92), some (.int v1), some (.int v2), some (.int v3), some (.int v4), some (.int v5), some (.int v6), o7], [], h) = some (164, [some (.ref 92), some (.int v1), some (.int v2), some (.int v3), some (.int v4), some (.int v5), some (.int v6), o7], [.int v2, .ref 113], h)) (fun hs => ?_)
    have hob := ho
    refine zg_ial hs zd_232 rfl rfl hob ?_
    exact zg_ret zd_232 rfl rfl hF
  have ho := ho.2 hc3
  rw [if_neg hc3] at hF
  by_cases hc4 : v3 = 4
  · have ho := ho.1 hc4
    rw [if_pos hc4] at hF
    refine zg_tsw zd_232 rfl (tg := 166) (by rw [hc4]; rfl) ?_
    refine zg_blk zd_232 2 hs (rfl : zb x zT0 zc_232 2 (166, [some (.ref 92), some (.int v1), some (.int v2), some (.int v3), some (.int v4), some (.int v5), some (.int v6), o7], [], h) = some (169, [some (.ref 92), some (.int v1), some (.int v2), some (.int v3), some (.int v4), some (.int v5), some (.int v6), o7], [.int v4, .ref 92], h)) (fun hs => ?_)
    have hob := ho
    refine zg_call hs zd_232 rfl rfl rfl rfl (as := [.ref 92, .int v4]) (rest := []) (en := [some (.ref 92), some (.int v4)]) rfl rfl rfl rfl rfl ?_
    refine f_M_leak_t v4 h hs hob ?_
    show zg x (d + 2) 232 172 [some (.ref 92), some (.int v1), some (.int v2), some (.int v3), some (.int v4), some (.int v5), some (.int v6), o7] [.int (f_M_leak v4 h)] h Q
    exact zg_ret zd_232 rfl rfl hF
  have ho := ho.2 hc4
  rw [if_neg hc4] at hF
  by_cases hc5 : v3 = 5
  · have ho := ho.1 hc5
    rw [if_pos hc5] at hF
    refine zg_tsw zd_232 rfl (tg := 173) (by rw [hc5]; rfl) ?_
    refine zg_blk zd_232 3 hs (rfl : zb x zT0 zc_232 3 (173, [some (.ref 92), some (.int v1), some (.int v2), some (.int v3), some (.int v4), some (.int v5), some (.int v6), o7], [], h) = some (179, [some (.ref 92), some (.int v1), some (.int v2), some (.int v3), some (.int v4), some (.int v5), some (.int v6), o7], [.int v4, .ref 126], h)) (fun hs => ?_)
    have hob := ho
    refine zg_ial hs zd_232 rfl rfl hob ?_
    exact zg_ret zd_232 rfl rfl hF
  have ho := ho.2 hc5
  rw [if_neg hc5] at hF
  by_cases hc6 : v3 = 6
  · have ho := ho.1 hc6
    rw [if_pos hc6] at hF
    refine zg_tsw zd_232 rfl (tg := 181) (by rw [hc6]; rfl) ?_
    refine zg_blk zd_232 2 hs (rfl : zb x zT0 zc_232 2 (181, [some (.ref 92), some (.int v1), some (.int v2), some (.int v3), some (.int v4), some (.int v5), some (.int v6), o7], [], h) = some (184, [some (.ref 92), some (.int v1), some (.int v2), some (.int v3), some (.int v4), some (.int v5), some (.int v6), some (.int 0)], [], h)) (fun hs => ?_)
    refine f_M_toldOf_l184_t v1 v2 v4 v6 h (fun r => f_M_toldOf_a184_ok r h ∧ Q (some (.int (f_M_toldOf_a184 r h))) h) ?_ zF v5 0 v3 hs ho.1 ⟨ho.2, hF⟩
    · intro v5_ v7_ z3_ o7_ hs hG
      have ho : True := trivial
      have hF : Q (some (.int ((f_M_toldOf_k223 v5_ h)))) h := hG.2
      exact f_M_toldOf_k223_t v5_ h (some (.ref 92)) (some (.int v1)) (some (.int v2)) z3_ (some (.int v4)) (some (.int v6)) (o7_) hs trivial hF
  have ho := ho.2 hc6
  rw [if_neg hc6] at hF
  by_cases hc7 : v3 = 7
  · have ho := ho.1 hc7
    rw [if_pos hc7] at hF
    refine zg_tsw zd_232 rfl (tg := 226) (by rw [hc7]; rfl) ?_
    refine zg_blk zd_232 3 hs (rfl : zb x zT0 zc_232 3 (226, [some (.ref 92), some (.int v1), some (.int v2), some (.int v3), some (.int v4), some (.int v5), some (.int v6), o7], [], h) = some (232, [some (.ref 92), some (.int v1), some (.int v2), some (.int v3), some (.int v4), some (.int v5), some (.int v6), o7], [.int v4, .ref 127], h)) (fun hs => ?_)
    have hob := ho
    refine zg_lal hs zd_232 rfl rfl hob ?_
    refine zg_blk zd_232 1 hs (rfl : zb x zT0 zc_232 1 (233, [some (.ref 92), some (.int v1), some (.int v2), some (.int v3), some (.int v4), some (.int v5), some (.int v6), o7], [.long (zrl h 127 v4)], h) = some (234, [some (.ref 92), some (.int v1), some (.int v2), some (.int v3), some (.int v4), some (.int v5), some (.int v6), o7], [.int (zrl h 127 v4).toInt32], h)) (fun hs => ?_)
    exact zg_ret zd_232 rfl rfl hF
  have ho := ho.2 hc7
  rw [if_neg hc7] at hF
  refine zg_tsw zd_232 rfl (tg := 235) (if_pos (zsw_out (lo := 0) (hi := 7) (by decide) (by decide) (fun v h1 h2 => by
      have : v = 0 ∨ v = 1 ∨ v = 2 ∨ v = 3 ∨ v = 4 ∨ v = 5 ∨ v = 6 ∨ v = 7 := by omega
      rcases this with rfl | rfl | rfl | rfl | rfl | rfl | rfl | rfl <;> first | exact hc0 | exact hc1 | exact hc2 | exact hc3 | exact hc4 | exact hc5 | exact hc6 | exact hc7))) ?_
  refine zg_blk zd_232 1 hs (rfl : zb x zT0 zc_232 1 (235, [some (.ref 92), some (.int v1), some (.int v2), some (.int v3), some (.int v4), some (.int v5), some (.int v6), o7], [], h) = some (236, [some (.ref 92), some (.int v1), some (.int v2), some (.int v3), some (.int v4), some (.int v5), some (.int v6), o7], [.int (-1)], h)) (fun hs => ?_)
  exact zg_ret zd_232 rfl rfl hF
set_option maxRecDepth 100000 in
set_option maxHeartbeats 400000 in
theorem f_M_toldOf_t {x : zm_X} {d : Nat} (p1 : Int32) (p2 : Int32) (p3 : Int32) (h : zm_H) {Q : Option Value → zm_H → Prop} (hs : zSh zT0 h) (ho : f_M_toldOf_ok p1 p2 p3 h) (hF : Q (some (.int (f_M_toldOf p1 p2 p3 h))) h) : zg x (d + 2) 232 0 [some (.ref 92), some (.int p1), some (.int p2), some (.int p3), none, none, none, none] [] h Q := by
  unfold f_M_toldOf at hF
  unfold f_M_toldOf_ok at ho
  refine zg_blk zd_232 15 hs (rfl : zb x zT0 zc_232 15 (0, [some (.ref 92), some (.int p1), some (.int p2), some (.int p3), none, none, none, none], [], h) = some (22, [some (.ref 92), some (.int p1), some (.int p2), some (.int p3), some (.int ((10 * p1) + p2)), some (.int 0), some (.int (zm_rm p3 10)), none], [.int 39, .int 10, .int p3], h)) (fun hs => ?_)
  refine zg_call hs zd_232 rfl rfl rfl rfl (as := [.int p3, .int 10, .int 39]) (rest := []) (en := [some (.int p3), some (.int 10), some (.int 39)]) rfl rfl rfl rfl rfl ?_
  refine f_M_in_t p3 10 39 h hs trivial ?_
  show zg x (d + 2) 232 25 [some (.ref 92), some (.int p1), some (.int p2), some (.int p3), some (.int ((10 * p1) + p2)), some (.int 0), some (.int (zm_rm p3 10)), none] [.int (if (¬ (p3 < 10) ∧ (¬ (39 < p3))) then (1 : Int32) else 0)] h Q
  refine zg_b_eq zd_232 rfl (fun (hc : ¬ (¬ (p3 < 10) ∧ (¬ (39 < p3)))) => ?_) (fun (hc : (¬ (p3 < 10) ∧ (¬ (39 < p3)))) => ?_)
  · have ho := ho.2 hc
    rw [if_neg hc] at hF
    exact f_M_toldOf_k89_t p1 p2 p3 ((10 * p1) + p2) 0 (zm_rm p3 10) h (none) hs ho hF
  · have ho := ho.1 hc
    rw [if_pos hc] at hF
    refine zg_blk zd_232 2 hs (rfl : zb x zT0 zc_232 2 (28, [some (.ref 92), some (.int p1), some (.int p2), some (.int p3), some (.int ((10 * p1) + p2)), some (.int 0), some (.int (zm_rm p3 10)), none], [], h) = some (31, [some (.ref 92), some (.int p1), some (.int p2), some (.int p3), some (.int ((10 * p1) + p2)), some (.int 0), some (.int (zm_rm p3 10)), none], [.int 3, .int (zm_rm p3 10)], h)) (fun hs => ?_)
    refine zg_i_ge zd_232 rfl (fun (hc : (3 ≤ (zm_rm p3 10))) => ?_) (fun (hc : ¬ (3 ≤ (zm_rm p3 10))) => ?_)
    · have ho := ho.1 hc
      rw [if_pos hc] at hF
      exact f_M_toldOf_k89_t p1 p2 p3 ((10 * p1) + p2) 0 (zm_rm p3 10) h (none) hs ho hF
    · have ho := ho.2 hc
      rw [if_neg hc] at hF
      refine zg_blk zd_232 2 hs (rfl : zb x zT0 zc_232 2 (34, [some (.ref 92), some (.int p1), some (.int p2), some (.int p3), some (.int ((10 * p1) + p2)), some (.int 0), some (.int (zm_rm p3 10)), none], [], h) = some (37, [some (.ref 92), some (.int p1), some (.int p2), some (.int p3), some (.int ((10 * p1) + p2)), some (.int 0), some (.int (zm_rm p3 10)), none], [.int 20, .int p3], h)) (fun hs => ?_)
      have hom := ho
      have K117 : zSh zT0 h → zg x (d + 2) 232 88 [some (.ref 92), some (.int p1), some (.int p2), some (.int p3), some (.int ((10 * p1) + p2)), some (.int 0), some (.int (zm_rm p3 10)), none] [.int (if (20 ≤ p3) then ((if (30 ≤ p3) then ((zr h 130 ((3 * ((10 * p1) + p2)) + (zm_rm p3 10))) : Int32) else (zr h 129 ((3 * ((10 * p1) + p2)) + (zm_rm p3 10)))) : Int32) else (zr h 128 ((3 * ((10 * p1) + p2)) + (zm_rm p3 10))))] h Q := fun hs => by
        exact zg_ret zd_232 rfl rfl hF
      refine zg_i_ge zd_232 rfl (fun (hc : (20 ≤ p3)) => ?_) (fun (hc : ¬ (20 ≤ p3)) => ?_)
      · have ho := hom.1 hc
        rw [show ((if (20 ≤ p3) then ((if (30 ≤ p3) then ((zr h 130 ((3 * ((10 * p1) + p2)) + (zm_rm p3 10))) : Int32) else (zr h 129 ((3 * ((10 * p1) + p2)) + (zm_rm p3 10)))) : Int32) else (zr h 128 ((3 * ((10 * p1) + p2)) + (zm_rm p3 10)))) : Int32) = (if (30 ≤ p3) then ((zr h 130 ((3 * ((10 * p1) + p2)) + (zm_rm p3 10))) : Int32) else (zr h 129 ((3 * ((10 * p1) + p2)) + (zm_rm p3 10)))) from if_pos hc] at K117
        refine zg_blk zd_232 2 hs (rfl : zb x zT0 zc_232 2 (55, [some (.ref 92), some (.int p1), some (.int p2), some (.int p3), some (.int ((10 * p1) + p2)), some (.int 0), some (.int (zm_rm p3 10)), none], [], h) = some (58, [some (.ref 92), some (.int p1), some (.int p2), some (.int p3), some (.int ((10 * p1) + p2)), some (.int 0), some (.int (zm_rm p3 10)), none], [.int 30, .int p3], h)) (fun hs => ?_)
        refine zg_i_ge zd_232 rfl (fun (hc : (30 ≤ p3)) => ?_) (fun (hc : ¬ (30 ≤ p3)) => ?_)
        · have ho := ho.1 hc
          rw [show ((if (30 ≤ p3) then ((zr h 130 ((3 * ((10 * p1) + p2)) + (zm_rm p3 10))) : Int32) else (zr h 129 ((3 * ((10 * p1) + p2)) + (zm_rm p3 10)))) : Int32) = (zr h 130 ((3 * ((10 * p1) + p2)) + (zm_rm p3 10))) from if_pos hc] at K117
          refine zg_blk zd_232 5 hs (rfl : zb x zT0 zc_232 5 (76, [some (.ref 92), some (.int p1), some (.int p2), some (.int p3), some (.int ((10 * p1) + p2)), some (.int 0), some (.int (zm_rm p3 10)), none], [], h) = some (84, [some (.ref 92), some (.int p1), some (.int p2), some (.int p3), some (.int ((10 * p1) + p2)), some (.int 0), some (.int (zm_rm p3 10)), none], [.int (zm_rm p3 10), .int p2, .int p1, .ref 130], h)) (fun hs => ?_)
          refine zg_call hs zd_232 rfl rfl rfl rfl (as := [.int p1, .int p2, .int (zm_rm p3 10)]) (rest := [.ref 130]) (en := [some (.int p1), some (.int p2), some (.int (zm_rm p3 10))]) rfl rfl rfl rfl rfl ?_
          refine f_M_chainAt_t p1 p2 (zm_rm p3 10) h hs trivial ?_
          show zg x (d + 2) 232 87 [some (.ref 92), some (.int p1), some (.int p2), some (.int p3), some (.int ((10 * p1) + p2)), some (.int 0), some (.int (zm_rm p3 10)), none] [.int ((3 * ((10 * p1) + p2)) + (zm_rm p3 10)), .ref 130] h Q
          have hob := ho
          refine zg_ial hs zd_232 rfl rfl hob ?_
          exact K117 hs
        · have ho := ho.2 hc
          rw [show ((if (30 ≤ p3) then ((zr h 130 ((3 * ((10 * p1) + p2)) + (zm_rm p3 10))) : Int32) else (zr h 129 ((3 * ((10 * p1) + p2)) + (zm_rm p3 10)))) : Int32) = (zr h 129 ((3 * ((10 * p1) + p2)) + (zm_rm p3 10))) from if_neg hc] at K117
          refine zg_blk zd_232 5 hs (rfl : zb x zT0 zc_232 5 (61, [some (.ref 92), some (.int p1), some (.int p2), some (.int p3), some (.int ((10 * p1) + p2)), some (.int 0), some (.int (zm_rm p3 10)), none], [], h) = some (69, [some (.ref 92), some (.int p1), some (.int p2), some (.int p3), some (.int ((10 * p1) + p2)), some (.int 0), some (.int (zm_rm p3 10)), none], [.int (zm_rm p3 10), .int p2, .int p1, .ref 129], h)) (fun hs => ?_)
          refine zg_call hs zd_232 rfl rfl rfl rfl (as := [.int p1, .int p2, .int (zm_rm p3 10)]) (rest := [.ref 129]) (en := [some (.int p1), some (.int p2), some (.int (zm_rm p3 10))]) rfl rfl rfl rfl rfl ?_
          refine f_M_chainAt_t p1 p2 (zm_rm p3 10) h hs trivial ?_
          show zg x (d + 2) 232 72 [some (.ref 92), some (.int p1), some (.int p2), some (.int p3), some (.int ((10 * p1) + p2)), some (.int 0), some (.int (zm_rm p3 10)), none] [.int ((3 * ((10 * p1) + p2)) + (zm_rm p3 10)), .ref 129] h Q
          have hob := ho
          refine zg_ial hs zd_232 rfl rfl hob ?_
          refine zg_blk zd_232 1 hs (rfl : zb x zT0 zc_232 1 (73, [some (.ref 92), some (.int p1), some (.int p2), some (.int p3), some (.int ((10 * p1) + p2)), some (.int 0), some (.int (zm_rm p3 10)), none], [.int (zr h 129 ((3 * ((10 * p1) + p2)) + (zm_rm p3 10)))], h) = some (88, [some (.ref 92), some (.int p1), some (.int p2), some (.int p3), some (.int ((10 * p1) + p2)), some (.int 0), some (.int (zm_rm p3 10)), none], [.int (zr h 129 ((3 * ((10 * p1) + p2)) + (zm_rm p3 10)))], h)) (fun hs => ?_)
          exact K117 hs
      · have ho := hom.2 hc
        rw [show ((if (20 ≤ p3) then ((if (30 ≤ p3) then ((zr h 130 ((3 * ((10 * p1) + p2)) + (zm_rm p3 10))) : Int32) else (zr h 129 ((3 * ((10 * p1) + p2)) + (zm_rm p3 10)))) : Int32) else (zr h 128 ((3 * ((10 * p1) + p2)) + (zm_rm p3 10)))) : Int32) = (zr h 128 ((3 * ((10 * p1) + p2)) + (zm_rm p3 10))) from if_neg hc] at K117
        refine zg_blk zd_232 5 hs (rfl : zb x zT0 zc_232 5 (40, [some (.ref 92), some (.int p1), some (.int p2), some (.int p3), some (.int ((10 * p1) + p2)), some (.int 0), some (.int (zm_rm p3 10)), none], [], h) = some (48, [some (.ref 92), some (.int p1), some (.int p2), some (.int p3), some (.int ((10 * p1) + p2)), some (.int 0), some (.int (zm_rm p3 10)), none], [.int (zm_rm p3 10), .int p2, .int p1, .ref 128], h)) (fun hs => ?_)
        refine zg_call hs zd_232 rfl rfl rfl rfl (as := [.int p1, .int p2, .int (zm_rm p3 10)]) (rest := [.ref 128]) (en := [some (.int p1), some (.int p2), some (.int (zm_rm p3 10))]) rfl rfl rfl rfl rfl ?_
        refine f_M_chainAt_t p1 p2 (zm_rm p3 10) h hs trivial ?_
        show zg x (d + 2) 232 51 [some (.ref 92), some (.int p1), some (.int p2), some (.int p3), some (.int ((10 * p1) + p2)), some (.int 0), some (.int (zm_rm p3 10)), none] [.int ((3 * ((10 * p1) + p2)) + (zm_rm p3 10)), .ref 128] h Q
        have hob := ho
        refine zg_ial hs zd_232 rfl rfl hob ?_
        refine zg_blk zd_232 1 hs (rfl : zb x zT0 zc_232 1 (52, [some (.ref 92), some (.int p1), some (.int p2), some (.int p3), some (.int ((10 * p1) + p2)), some (.int 0), some (.int (zm_rm p3 10)), none], [.int (zr h 128 ((3 * ((10 * p1) + p2)) + (zm_rm p3 10)))], h) = some (88, [some (.ref 92), some (.int p1), some (.int p2), some (.int p3), some (.int ((10 * p1) + p2)), some (.int 0), some (.int (zm_rm p3 10)), none], [.int (zr h 128 ((3 * ((10 * p1) + p2)) + (zm_rm p3 10)))], h)) (fun hs => ?_)
        exact K117 hs
set_option maxRecDepth 100000 in
set_option maxHeartbeats 400000 in
theorem f_M_told_t {x : zm_X} {d : Nat} (p1 : Int32) (p2 : Int32) (h : zm_H) {Q : Option Value → zm_H → Prop} (hs : zSh zT0 h) (ho : f_M_told_ok p1 p2 h) (hF : Q (some (.int (f_M_told p1 p2 h))) h) : zg x (d + 3) 231 0 [some (.ref 92), some (.int p1), some (.int p2)] [] h Q := by
  unfold f_M_told at hF
  unfold f_M_told_ok at ho
  refine zg_blk zd_231 2 hs (rfl : zb x zT0 zc_231 2 (0, [some (.ref 92), some (.int p1), some (.int p2)], [], h) = some (2, [some (.ref 92), some (.int p1), some (.int p2)], [.int p1, .ref 92], h)) (fun hs => ?_)
  refine zg_call hs zd_231 rfl rfl rfl rfl (as := [.ref 92, .int p1]) (rest := []) (en := [some (.ref 92), some (.int p1)]) rfl rfl rfl rfl rfl ?_
  refine f_M_isRaft_t p1 h hs trivial ?_
  show zg x (d + 3) 231 5 [some (.ref 92), some (.int p1), some (.int p2)] [.int (if (¬ (p1 < 0) ∧ (¬ (((zf h 92 33) - 1) < p1))) then (1 : Int32) else 0)] h Q
  have hom := ho
  have K118 : zSh zT0 h → zg x (d + 3) 231 19 [some (.ref 92), some (.int p1), some (.int p2)] [.int (if (¬ (p1 < 0) ∧ (¬ (((zf h 92 33) - 1) < p1))) then ((f_M_toldOf 0 p1 p2 h) : Int32) else (-1))] h Q := fun hs => by
    exact zg_ret zd_231 rfl rfl hF
  refine zg_b_eq zd_231 rfl (fun (hc : ¬ (¬ (p1 < 0) ∧ (¬ (((zf h 92 33) - 1) < p1)))) => ?_) (fun (hc : (¬ (p1 < 0) ∧ (¬ (((zf h 92 33) - 1) < p1)))) => ?_)
  · have ho := hom.2 hc
    rw [show ((if (¬ (p1 < 0) ∧ (¬ (((zf h 92 33) - 1) < p1))) then ((f_M_toldOf 0 p1 p2 h) : Int32) else (-1)) : Int32) = (-1) from if_neg hc] at K118
    refine zg_blk zd_231 1 hs (rfl : zb x zT0 zc_231 1 (18, [some (.ref 92), some (.int p1), some (.int p2)], [], h) = some (19, [some (.ref 92), some (.int p1), some (.int p2)], [.int (-1)], h)) (fun hs => ?_)
    exact K118 hs
  · have ho := hom.1 hc
    rw [show ((if (¬ (p1 < 0) ∧ (¬ (((zf h 92 33) - 1) < p1))) then ((f_M_toldOf 0 p1 p2 h) : Int32) else (-1)) : Int32) = (f_M_toldOf 0 p1 p2 h) from if_pos hc] at K118
    refine zg_blk zd_231 4 hs (rfl : zb x zT0 zc_231 4 (8, [some (.ref 92), some (.int p1), some (.int p2)], [], h) = some (12, [some (.ref 92), some (.int p1), some (.int p2)], [.int p2, .int p1, .int 0, .ref 92], h)) (fun hs => ?_)
    have hob := ho
    refine zg_call hs zd_231 rfl rfl rfl rfl (as := [.ref 92, .int 0, .int p1, .int p2]) (rest := []) (en := [some (.ref 92), some (.int 0), some (.int p1), some (.int p2), none, none, none, none]) rfl rfl rfl rfl rfl ?_
    refine f_M_toldOf_t 0 p1 p2 h hs hob ?_
    show zg x (d + 3) 231 15 [some (.ref 92), some (.int p1), some (.int p2)] [.int (f_M_toldOf 0 p1 p2 h)] h Q
    refine zg_blk zd_231 1 hs (rfl : zb x zT0 zc_231 1 (15, [some (.ref 92), some (.int p1), some (.int p2)], [.int (f_M_toldOf 0 p1 p2 h)], h) = some (19, [some (.ref 92), some (.int p1), some (.int p2)], [.int (f_M_toldOf 0 p1 p2 h)], h)) (fun hs => ?_)
    exact K118 hs
theorem zd_146 : zm_cd 146 = zc_146 := by rfl
theorem zd_147 : zm_cd 147 = zc_147 := by rfl
set_option maxRecDepth 100000 in
set_option maxHeartbeats 400000 in
theorem f_N_isOver_t {x : zm_X} {d : Nat} (p1 : Int32) (h : zm_H) {Q : Option Value → zm_H → Prop} (hs : zSh zT0 h) (ho : f_N_isOver_ok p1 h) (hF : Q (some (.int (f_N_isOver p1 h))) h) : zg x (d + 1) 147 0 [some (.ref 0), some (.int p1)] [] h Q := by
  unfold f_N_isOver at hF
  unfold f_N_isOver_ok at ho
  refine zg_blk zd_147 1 hs (rfl : zb x zT0 zc_147 1 (0, [some (.ref 0), some (.int p1)], [], h) = some (1, [some (.ref 0), some (.int p1)], [.int p1], h)) (fun hs => ?_)
  have K119 : zSh zT0 h → zg x (d + 1) 147 17 [some (.ref 0), some (.int p1)] [.int (if (¬ (p1 < 0) ∧ (¬ ((zf h 0 0) ≤ p1))) then (1 : Int32) else 0)] h Q := fun hs => by
    exact zg_rtz zd_147 rfl rfl zm_nb01 hF
  refine zg_f_lt zd_147 rfl (fun (hc : (p1 < 0)) => ?_) (fun (hc : ¬ (p1 < 0)) => ?_)
  · skip
    rw [show ((if (¬ (p1 < 0) ∧ (¬ ((zf h 0 0) ≤ p1))) then (1 : Int32) else 0) : Int32) = 0 from zb_nand_t hc] at K119
    refine zg_blk zd_147 1 hs (rfl : zb x zT0 zc_147 1 (16, [some (.ref 0), some (.int p1)], [], h) = some (17, [some (.ref 0), some (.int p1)], [.int 0], h)) (fun hs => ?_)
    exact K119 hs
  · skip
    rw [show ((if (¬ (p1 < 0) ∧ (¬ ((zf h 0 0) ≤ p1))) then (1 : Int32) else 0) : Int32) = (if (¬ ((zf h 0 0) ≤ p1)) then (1 : Int32) else 0) from zb_nand_f hc] at K119
    refine zg_blk zd_147 3 hs (rfl : zb x zT0 zc_147 3 (4, [some (.ref 0), some (.int p1)], [], h) = some (9, [some (.ref 0), some (.int p1)], [.int (zf h 0 0), .int p1], h)) (fun hs => ?_)
    refine zg_i_ge zd_147 rfl (fun (hc : ((zf h 0 0) ≤ p1)) => ?_) (fun (hc : ¬ ((zf h 0 0) ≤ p1)) => ?_)
    · skip
      rw [show ((if (¬ ((zf h 0 0) ≤ p1)) then (1 : Int32) else 0) : Int32) = 0 from zb_not_t hc] at K119
      refine zg_blk zd_147 1 hs (rfl : zb x zT0 zc_147 1 (16, [some (.ref 0), some (.int p1)], [], h) = some (17, [some (.ref 0), some (.int p1)], [.int 0], h)) (fun hs => ?_)
      exact K119 hs
    · skip
      rw [show ((if (¬ ((zf h 0 0) ≤ p1)) then (1 : Int32) else 0) : Int32) = 1 from zb_not_f hc] at K119
      refine zg_blk zd_147 2 hs (rfl : zb x zT0 zc_147 2 (12, [some (.ref 0), some (.int p1)], [], h) = some (17, [some (.ref 0), some (.int p1)], [.int 1], h)) (fun hs => ?_)
      exact K119 hs
theorem zd_30 : zm_cd 30 = zc_30 := by rfl
set_option maxRecDepth 100000 in
set_option maxHeartbeats 400000 in
theorem f_Course_ofSpell_37_t {x : zm_X} {d : Nat} (p1 : Int32) (p2 : Int32) (h : zm_H) {Q : Option Value → zm_H → Prop} (hs : zSh zT0 h) (ho : f_Course_ofSpell_37_ok p1 p2 h) (hF : Q (some (.int (f_Course_ofSpell_37 p1 p2 h))) h) : zg x (d + 1) 30 0 [some (.ref 37), some (.int p1), some (.int p2)] [] h Q := by
  unfold f_Course_ofSpell_37 at hF
  unfold f_Course_ofSpell_37_ok at ho
  refine zg_blk zd_30 1 hs (rfl : zb x zT0 zc_30 1 (0, [some (.ref 37), some (.int p1), some (.int p2)], [], h) = some (1, [some (.ref 37), some (.int p1), some (.int p2)], [.int p2], h)) (fun hs => ?_)
  refine zg_f_ne zd_30 rfl (fun (hc : ¬ (p2 = 0)) => ?_) (fun (hc : (p2 = 0)) => ?_)
  · have ho := ho.2 hc
    rw [show ((if (p2 = 0) then ((zr h 47 p1) : Int32) else (if (p2 = 1) then ((zr h 48 p1) : Int32) else (if (p2 < 10) then ((-2147483648) : Int32) else (if (20 ≤ p2) then ((-2147483648) : Int32) else (zr h 49 (((p1 * 10) + p2) - 10)))))) : Int32) = (if (p2 = 1) then ((zr h 48 p1) : Int32) else (if (p2 < 10) then ((-2147483648) : Int32) else (if (20 ≤ p2) then ((-2147483648) : Int32) else (zr h 49 (((p1 * 10) + p2) - 10))))) from if_neg hc] at hF
    refine zg_blk zd_30 2 hs (rfl : zb x zT0 zc_30 2 (11, [some (.ref 37), some (.int p1), some (.int p2)], [], h) = some (13, [some (.ref 37), some (.int p1), some (.int p2)], [.int 1, .int p2], h)) (fun hs => ?_)
    refine zg_i_ne zd_30 rfl (fun (hc : ¬ (p2 = 1)) => ?_) (fun (hc : (p2 = 1)) => ?_)
    · have ho := ho.2 hc
      rw [show ((if (p2 = 1) then ((zr h 48 p1) : Int32) else (if (p2 < 10) then ((-2147483648) : Int32) else (if (20 ≤ p2) then ((-2147483648) : Int32) else (zr h 49 (((p1 * 10) + p2) - 10))))) : Int32) = (if (p2 < 10) then ((-2147483648) : Int32) else (if (20 ≤ p2) then ((-2147483648) : Int32) else (zr h 49 (((p1 * 10) + p2) - 10)))) from if_neg hc] at hF
      refine zg_blk zd_30 2 hs (rfl : zb x zT0 zc_30 2 (23, [some (.ref 37), some (.int p1), some (.int p2)], [], h) = some (26, [some (.ref 37), some (.int p1), some (.int p2)], [.int 10, .int p2], h)) (fun hs => ?_)
      have hom := ho
      have K120 : zSh zT0 h → zg x (d + 1) 30 54 [some (.ref 37), some (.int p1), some (.int p2)] [.int (if (p2 < 10) then ((-2147483648) : Int32) else (if (20 ≤ p2) then ((-2147483648) : Int32) else (zr h 49 (((p1 * 10) + p2) - 10))))] h Q := fun hs => by
        exact zg_ret zd_30 rfl rfl hF
      refine zg_i_lt zd_30 rfl (fun (hc : (p2 < 10)) => ?_) (fun (hc : ¬ (p2 < 10)) => ?_)
      · have ho := hom.1 hc
        rw [show ((if (p2 < 10) then ((-2147483648) : Int32) else (if (20 ≤ p2) then ((-2147483648) : Int32) else (zr h 49 (((p1 * 10) + p2) - 10)))) : Int32) = (-2147483648) from if_pos hc] at K120
        refine zg_blk zd_30 1 hs (rfl : zb x zT0 zc_30 1 (52, [some (.ref 37), some (.int p1), some (.int p2)], [], h) = some (54, [some (.ref 37), some (.int p1), some (.int p2)], [.int (-2147483648)], h)) (fun hs => ?_)
        exact K120 hs
      · have ho := hom.2 hc
        rw [show ((if (p2 < 10) then ((-2147483648) : Int32) else (if (20 ≤ p2) then ((-2147483648) : Int32) else (zr h 49 (((p1 * 10) + p2) - 10)))) : Int32) = (if (20 ≤ p2) then ((-2147483648) : Int32) else (zr h 49 (((p1 * 10) + p2) - 10))) from if_neg hc] at K120
        refine zg_blk zd_30 2 hs (rfl : zb x zT0 zc_30 2 (29, [some (.ref 37), some (.int p1), some (.int p2)], [], h) = some (32, [some (.ref 37), some (.int p1), some (.int p2)], [.int 20, .int p2], h)) (fun hs => ?_)
        refine zg_i_ge zd_30 rfl (fun (hc : (20 ≤ p2)) => ?_) (fun (hc : ¬ (20 ≤ p2)) => ?_)
        · have ho := ho.1 hc
          rw [show ((if (20 ≤ p2) then ((-2147483648) : Int32) else (zr h 49 (((p1 * 10) + p2) - 10))) : Int32) = (-2147483648) from if_pos hc] at K120
          refine zg_blk zd_30 1 hs (rfl : zb x zT0 zc_30 1 (52, [some (.ref 37), some (.int p1), some (.int p2)], [], h) = some (54, [some (.ref 37), some (.int p1), some (.int p2)], [.int (-2147483648)], h)) (fun hs => ?_)
          exact K120 hs
        · have ho := ho.2 hc
          rw [show ((if (20 ≤ p2) then ((-2147483648) : Int32) else (zr h 49 (((p1 * 10) + p2) - 10))) : Int32) = (zr h 49 (((p1 * 10) + p2) - 10)) from if_neg hc] at K120
          refine zg_blk zd_30 9 hs (rfl : zb x zT0 zc_30 9 (35, [some (.ref 37), some (.int p1), some (.int p2)], [], h) = some (48, [some (.ref 37), some (.int p1), some (.int p2)], [.int (((p1 * 10) + p2) - 10), .ref 49], h)) (fun hs => ?_)
          have hob := ho
          refine zg_ial hs zd_30 rfl rfl hob ?_
          refine zg_blk zd_30 1 hs (rfl : zb x zT0 zc_30 1 (49, [some (.ref 37), some (.int p1), some (.int p2)], [.int (zr h 49 (((p1 * 10) + p2) - 10))], h) = some (54, [some (.ref 37), some (.int p1), some (.int p2)], [.int (zr h 49 (((p1 * 10) + p2) - 10))], h)) (fun hs => ?_)
          exact K120 hs
    · have ho := ho.1 hc
      rw [show ((if (p2 = 1) then ((zr h 48 p1) : Int32) else (if (p2 < 10) then ((-2147483648) : Int32) else (if (20 ≤ p2) then ((-2147483648) : Int32) else (zr h 49 (((p1 * 10) + p2) - 10))))) : Int32) = (zr h 48 p1) from if_pos hc] at hF
      refine zg_blk zd_30 3 hs (rfl : zb x zT0 zc_30 3 (16, [some (.ref 37), some (.int p1), some (.int p2)], [], h) = some (21, [some (.ref 37), some (.int p1), some (.int p2)], [.int p1, .ref 48], h)) (fun hs => ?_)
      have hob := ho
      refine zg_ial hs zd_30 rfl rfl hob ?_
      exact zg_ret zd_30 rfl rfl hF
  · have ho := ho.1 hc
    rw [show ((if (p2 = 0) then ((zr h 47 p1) : Int32) else (if (p2 = 1) then ((zr h 48 p1) : Int32) else (if (p2 < 10) then ((-2147483648) : Int32) else (if (20 ≤ p2) then ((-2147483648) : Int32) else (zr h 49 (((p1 * 10) + p2) - 10)))))) : Int32) = (zr h 47 p1) from if_pos hc] at hF
    refine zg_blk zd_30 3 hs (rfl : zb x zT0 zc_30 3 (4, [some (.ref 37), some (.int p1), some (.int p2)], [], h) = some (9, [some (.ref 37), some (.int p1), some (.int p2)], [.int p1, .ref 47], h)) (fun hs => ?_)
    have hob := ho
    refine zg_ial hs zd_30 rfl rfl hob ?_
    exact zg_ret zd_30 rfl rfl hF
set_option maxRecDepth 100000 in
set_option maxHeartbeats 400000 in
theorem f_N_booked_t {x : zm_X} {d : Nat} (p1 : Int32) (p2 : Int32) (h : zm_H) {Q : Option Value → zm_H → Prop} (hs : zSh zT0 h) (ho : f_N_booked_ok p1 p2 h) (hF : Q (some (.int (f_N_booked p1 p2 h))) h) : zg x (d + 2) 146 0 [some (.ref 0), some (.int p1), some (.int p2)] [] h Q := by
  unfold f_N_booked at hF
  unfold f_N_booked_ok at ho
  refine zg_blk zd_146 2 hs (rfl : zb x zT0 zc_146 2 (0, [some (.ref 0), some (.int p1), some (.int p2)], [], h) = some (2, [some (.ref 0), some (.int p1), some (.int p2)], [.int p1, .ref 0], h)) (fun hs => ?_)
  refine zg_call hs zd_146 rfl rfl rfl rfl (as := [.ref 0, .int p1]) (rest := []) (en := [some (.ref 0), some (.int p1)]) rfl rfl rfl rfl rfl ?_
  refine f_N_isOver_t p1 h hs trivial ?_
  show zg x (d + 2) 146 5 [some (.ref 0), some (.int p1), some (.int p2)] [.int (if (¬ (p1 < 0) ∧ (¬ ((zf h 0 0) ≤ p1))) then (1 : Int32) else 0)] h Q
  refine zg_b_ne zd_146 rfl (fun (hc : (¬ (p1 < 0) ∧ (¬ ((zf h 0 0) ≤ p1)))) => ?_) (fun (hc : ¬ (¬ (p1 < 0) ∧ (¬ ((zf h 0 0) ≤ p1)))) => ?_)
  · have ho := ho.1 hc
    rw [show ((if (¬ (p1 < 0) ∧ (¬ ((zf h 0 0) ≤ p1))) then ((f_Course_ofSpell_37 p1 p2 h) : Int32) else (-2147483648)) : Int32) = (f_Course_ofSpell_37 p1 p2 h) from if_pos hc] at hF
    refine zg_blk zd_146 4 hs (rfl : zb x zT0 zc_146 4 (11, [some (.ref 0), some (.int p1), some (.int p2)], [], h) = some (17, [some (.ref 0), some (.int p1), some (.int p2)], [.int p2, .int p1, .ref 37], h)) (fun hs => ?_)
    have hob := ho
    refine zg_call hs zd_146 rfl rfl rfl rfl (as := [.ref 37, .int p1, .int p2]) (rest := []) (en := [some (.ref 37), some (.int p1), some (.int p2)]) rfl rfl rfl rfl rfl ?_
    refine f_Course_ofSpell_37_t p1 p2 h hs hob ?_
    show zg x (d + 2) 146 20 [some (.ref 0), some (.int p1), some (.int p2)] [.int (f_Course_ofSpell_37 p1 p2 h)] h Q
    exact zg_ret zd_146 rfl rfl hF
  · have ho := ho.2 hc
    rw [show ((if (¬ (p1 < 0) ∧ (¬ ((zf h 0 0) ≤ p1))) then ((f_Course_ofSpell_37 p1 p2 h) : Int32) else (-2147483648)) : Int32) = (-2147483648) from if_neg hc] at hF
    refine zg_blk zd_146 1 hs (rfl : zb x zT0 zc_146 1 (8, [some (.ref 0), some (.int p1), some (.int p2)], [], h) = some (10, [some (.ref 0), some (.int p1), some (.int p2)], [.int (-2147483648)], h)) (fun hs => ?_)
    exact zg_ret zd_146 rfl rfl hF
theorem zd_233 : zm_cd 233 = zc_233 := by rfl
theorem zd_234 : zm_cd 234 = zc_234 := by rfl
set_option maxRecDepth 100000 in
set_option maxHeartbeats 400000 in
theorem f_M_isOver_t {x : zm_X} {d : Nat} (p1 : Int32) (h : zm_H) {Q : Option Value → zm_H → Prop} (hs : zSh zT0 h) (ho : f_M_isOver_ok p1 h) (hF : Q (some (.int (f_M_isOver p1 h))) h) : zg x (d + 2) 234 0 [some (.ref 92), some (.int p1)] [] h Q := by
  unfold f_M_isOver at hF
  unfold f_M_isOver_ok at ho
  refine zg_blk zd_234 6 hs (rfl : zb x zT0 zc_234 6 (0, [some (.ref 92), some (.int p1)], [], h) = some (8, [some (.ref 92), some (.int p1)], [.int ((zf h 92 23) - 1), .int 0, .int p1], h)) (fun hs => ?_)
  refine zg_call hs zd_234 rfl rfl rfl rfl (as := [.int p1, .int 0, .int ((zf h 92 23) - 1)]) (rest := []) (en := [some (.int p1), some (.int 0), some (.int ((zf h 92 23) - 1))]) rfl rfl rfl rfl rfl ?_
  refine f_M_in_t p1 0 ((zf h 92 23) - 1) h hs trivial ?_
  show zg x (d + 2) 234 11 [some (.ref 92), some (.int p1)] [.int (if (¬ (p1 < 0) ∧ (¬ (((zf h 92 23) - 1) < p1))) then (1 : Int32) else 0)] h Q
  exact zg_rtz zd_234 rfl rfl zm_nb01 hF
theorem zd_235 : zm_cd 235 = zc_235 := by rfl
set_option maxRecDepth 100000 in
set_option maxHeartbeats 400000 in
theorem f_M_isAsked_t {x : zm_X} {d : Nat} (p0 : Int32) (h : zm_H) {Q : Option Value → zm_H → Prop} (hs : zSh zT0 h) (ho : f_M_isAsked_ok p0 h) (hF : Q (some (.int (f_M_isAsked p0 h))) h) : zg x (d + 2) 235 0 [some (.int p0)] [] h Q := by
  unfold f_M_isAsked at hF
  unfold f_M_isAsked_ok at ho
  refine zg_blk zd_235 3 hs (rfl : zb x zT0 zc_235 3 (0, [some (.int p0)], [], h) = some (3, [some (.int p0)], [.int 1, .int 0, .int p0], h)) (fun hs => ?_)
  refine zg_call hs zd_235 rfl rfl rfl rfl (as := [.int p0, .int 0, .int 1]) (rest := []) (en := [some (.int p0), some (.int 0), some (.int 1)]) rfl rfl rfl rfl rfl ?_
  refine f_M_in_t p0 0 1 h hs trivial ?_
  show zg x (d + 2) 235 6 [some (.int p0)] [.int (if (¬ (p0 < 0) ∧ (¬ (1 < p0))) then (1 : Int32) else 0)] h Q
  have K121 : zSh zT0 h → zg x (d + 2) 235 25 [some (.int p0)] [.int (if ((¬ (p0 < 0) ∧ (¬ (1 < p0))) ∨ (¬ (p0 < 10) ∧ (¬ (19 < p0)))) then (1 : Int32) else 0)] h Q := fun hs => by
    exact zg_rtz zd_235 rfl rfl zm_nb01 hF
  refine zg_b_ne zd_235 rfl (fun (hc : (¬ (p0 < 0) ∧ (¬ (1 < p0)))) => ?_) (fun (hc : ¬ (¬ (p0 < 0) ∧ (¬ (1 < p0)))) => ?_)
  · skip
    rw [show ((if ((¬ (p0 < 0) ∧ (¬ (1 < p0))) ∨ (¬ (p0 < 10) ∧ (¬ (19 < p0)))) then (1 : Int32) else 0) : Int32) = 1 from zb_or_t hc] at K121
    refine zg_blk zd_235 2 hs (rfl : zb x zT0 zc_235 2 (20, [some (.int p0)], [], h) = some (25, [some (.int p0)], [.int 1], h)) (fun hs => ?_)
    exact K121 hs
  · skip
    rw [show ((if ((¬ (p0 < 0) ∧ (¬ (1 < p0))) ∨ (¬ (p0 < 10) ∧ (¬ (19 < p0)))) then (1 : Int32) else 0) : Int32) = (if (¬ (p0 < 10) ∧ (¬ (19 < p0))) then (1 : Int32) else 0) from zb_or_f hc] at K121
    refine zg_blk zd_235 3 hs (rfl : zb x zT0 zc_235 3 (9, [some (.int p0)], [], h) = some (14, [some (.int p0)], [.int 19, .int 10, .int p0], h)) (fun hs => ?_)
    refine zg_call hs zd_235 rfl rfl rfl rfl (as := [.int p0, .int 10, .int 19]) (rest := []) (en := [some (.int p0), some (.int 10), some (.int 19)]) rfl rfl rfl rfl rfl ?_
    refine f_M_in_t p0 10 19 h hs trivial ?_
    show zg x (d + 2) 235 17 [some (.int p0)] [.int (if (¬ (p0 < 10) ∧ (¬ (19 < p0))) then (1 : Int32) else 0)] h Q
    refine zg_b_eq zd_235 rfl (fun (hc : ¬ (¬ (p0 < 10) ∧ (¬ (19 < p0)))) => ?_) (fun (hc : (¬ (p0 < 10) ∧ (¬ (19 < p0)))) => ?_)
    · skip
      rw [show ((if (¬ (p0 < 10) ∧ (¬ (19 < p0))) then (1 : Int32) else 0) : Int32) = 0 from if_neg hc] at K121
      refine zg_blk zd_235 1 hs (rfl : zb x zT0 zc_235 1 (24, [some (.int p0)], [], h) = some (25, [some (.int p0)], [.int 0], h)) (fun hs => ?_)
      exact K121 hs
    · skip
      rw [show ((if (¬ (p0 < 10) ∧ (¬ (19 < p0))) then (1 : Int32) else 0) : Int32) = 1 from if_pos hc] at K121
      refine zg_blk zd_235 2 hs (rfl : zb x zT0 zc_235 2 (20, [some (.int p0)], [], h) = some (25, [some (.int p0)], [.int 1], h)) (fun hs => ?_)
      exact K121 hs
set_option maxRecDepth 100000 in
set_option maxHeartbeats 400000 in
theorem f_M_booked_t {x : zm_X} {d : Nat} (p1 : Int32) (p2 : Int32) (h : zm_H) {Q : Option Value → zm_H → Prop} (hs : zSh zT0 h) (ho : f_M_booked_ok p1 p2 h) (hF : Q (some (.int (f_M_booked p1 p2 h))) h) : zg x (d + 3) 233 0 [some (.ref 92), some (.int p1), some (.int p2)] [] h Q := by
  unfold f_M_booked at hF
  unfold f_M_booked_ok at ho
  refine zg_blk zd_233 2 hs (rfl : zb x zT0 zc_233 2 (0, [some (.ref 92), some (.int p1), some (.int p2)], [], h) = some (2, [some (.ref 92), some (.int p1), some (.int p2)], [.int p1, .ref 92], h)) (fun hs => ?_)
  refine zg_call hs zd_233 rfl rfl rfl rfl (as := [.ref 92, .int p1]) (rest := []) (en := [some (.ref 92), some (.int p1)]) rfl rfl rfl rfl rfl ?_
  refine f_M_isOver_t p1 h hs trivial ?_
  show zg x (d + 3) 233 5 [some (.ref 92), some (.int p1), some (.int p2)] [.int (if (¬ (p1 < 0) ∧ (¬ (((zf h 92 23) - 1) < p1))) then (1 : Int32) else 0)] h Q
  refine zg_b_eq zd_233 rfl (fun (hc : ¬ (¬ (p1 < 0) ∧ (¬ (((zf h 92 23) - 1) < p1)))) => ?_) (fun (hc : (¬ (p1 < 0) ∧ (¬ (((zf h 92 23) - 1) < p1)))) => ?_)
  · have ho := ho.2 hc
    rw [show ((if (¬ (p1 < 0) ∧ (¬ (((zf h 92 23) - 1) < p1))) then ((if ((¬ (p2 < 0) ∧ (¬ (1 < p2))) ∨ (¬ (p2 < 10) ∧ (¬ (19 < p2)))) then ((if (p2 = 0) then ((zr h 131 p1) : Int32) else (if (p2 = 1) then ((zr h 132 p1) : Int32) else (zr h 133 (((10 * p1) + p2) - 10)))) : Int32) else (-2147483648)) : Int32) else (-2147483648)) : Int32) = (-2147483648) from if_neg hc] at hF
    refine zg_blk zd_233 1 hs (rfl : zb x zT0 zc_233 1 (15, [some (.ref 92), some (.int p1), some (.int p2)], [], h) = some (18, [some (.ref 92), some (.int p1), some (.int p2)], [.int (-2147483648)], h)) (fun hs => ?_)
    exact zg_ret zd_233 rfl rfl hF
  · have ho := ho.1 hc
    rw [show ((if (¬ (p1 < 0) ∧ (¬ (((zf h 92 23) - 1) < p1))) then ((if ((¬ (p2 < 0) ∧ (¬ (1 < p2))) ∨ (¬ (p2 < 10) ∧ (¬ (19 < p2)))) then ((if (p2 = 0) then ((zr h 131 p1) : Int32) else (if (p2 = 1) then ((zr h 132 p1) : Int32) else (zr h 133 (((10 * p1) + p2) - 10)))) : Int32) else (-2147483648)) : Int32) else (-2147483648)) : Int32) = (if ((¬ (p2 < 0) ∧ (¬ (1 < p2))) ∨ (¬ (p2 < 10) ∧ (¬ (19 < p2)))) then ((if (p2 = 0) then ((zr h 131 p1) : Int32) else (if (p2 = 1) then ((zr h 132 p1) : Int32) else (zr h 133 (((10 * p1) + p2) - 10)))) : Int32) else (-2147483648)) from if_pos hc] at hF
    refine zg_blk zd_233 1 hs (rfl : zb x zT0 zc_233 1 (8, [some (.ref 92), some (.int p1), some (.int p2)], [], h) = some (9, [some (.ref 92), some (.int p1), some (.int p2)], [.int p2], h)) (fun hs => ?_)
    refine zg_call hs zd_233 rfl rfl rfl rfl (as := [.int p2]) (rest := []) (en := [some (.int p2)]) rfl rfl rfl rfl rfl ?_
    refine f_M_isAsked_t p2 h hs trivial ?_
    show zg x (d + 3) 233 12 [some (.ref 92), some (.int p1), some (.int p2)] [.int (if ((¬ (p2 < 0) ∧ (¬ (1 < p2))) ∨ (¬ (p2 < 10) ∧ (¬ (19 < p2)))) then (1 : Int32) else 0)] h Q
    refine zg_b_ne zd_233 rfl (fun (hc : ((¬ (p2 < 0) ∧ (¬ (1 < p2))) ∨ (¬ (p2 < 10) ∧ (¬ (19 < p2))))) => ?_) (fun (hc : ¬ ((¬ (p2 < 0) ∧ (¬ (1 < p2))) ∨ (¬ (p2 < 10) ∧ (¬ (19 < p2))))) => ?_)
    · have ho := ho.1 hc
      rw [show ((if ((¬ (p2 < 0) ∧ (¬ (1 < p2))) ∨ (¬ (p2 < 10) ∧ (¬ (19 < p2)))) then ((if (p2 = 0) then ((zr h 131 p1) : Int32) else (if (p2 = 1) then ((zr h 132 p1) : Int32) else (zr h 133 (((10 * p1) + p2) - 10)))) : Int32) else (-2147483648)) : Int32) = (if (p2 = 0) then ((zr h 131 p1) : Int32) else (if (p2 = 1) then ((zr h 132 p1) : Int32) else (zr h 133 (((10 * p1) + p2) - 10)))) from if_pos hc] at hF
      refine zg_blk zd_233 1 hs (rfl : zb x zT0 zc_233 1 (19, [some (.ref 92), some (.int p1), some (.int p2)], [], h) = some (20, [some (.ref 92), some (.int p1), some (.int p2)], [.int p2], h)) (fun hs => ?_)
      have hom := ho
      have K122 : zSh zT0 h → zg x (d + 3) 233 60 [some (.ref 92), some (.int p1), some (.int p2)] [.int (if (p2 = 0) then ((zr h 131 p1) : Int32) else (if (p2 = 1) then ((zr h 132 p1) : Int32) else (zr h 133 (((10 * p1) + p2) - 10))))] h Q := fun hs => by
        exact zg_ret zd_233 rfl rfl hF
      refine zg_f_ne zd_233 rfl (fun (hc : ¬ (p2 = 0)) => ?_) (fun (hc : (p2 = 0)) => ?_)
      · have ho := hom.2 hc
        rw [show ((if (p2 = 0) then ((zr h 131 p1) : Int32) else (if (p2 = 1) then ((zr h 132 p1) : Int32) else (zr h 133 (((10 * p1) + p2) - 10)))) : Int32) = (if (p2 = 1) then ((zr h 132 p1) : Int32) else (zr h 133 (((10 * p1) + p2) - 10))) from if_neg hc] at K122
        refine zg_blk zd_233 2 hs (rfl : zb x zT0 zc_233 2 (32, [some (.ref 92), some (.int p1), some (.int p2)], [], h) = some (34, [some (.ref 92), some (.int p1), some (.int p2)], [.int 1, .int p2], h)) (fun hs => ?_)
        refine zg_i_ne zd_233 rfl (fun (hc : ¬ (p2 = 1)) => ?_) (fun (hc : (p2 = 1)) => ?_)
        · have ho := ho.2 hc
          rw [show ((if (p2 = 1) then ((zr h 132 p1) : Int32) else (zr h 133 (((10 * p1) + p2) - 10))) : Int32) = (zr h 133 (((10 * p1) + p2) - 10)) from if_neg hc] at K122
          refine zg_blk zd_233 9 hs (rfl : zb x zT0 zc_233 9 (46, [some (.ref 92), some (.int p1), some (.int p2)], [], h) = some (59, [some (.ref 92), some (.int p1), some (.int p2)], [.int (((10 * p1) + p2) - 10), .ref 133], h)) (fun hs => ?_)
          have hob := ho
          refine zg_ial hs zd_233 rfl rfl hob ?_
          exact K122 hs
        · have ho := ho.1 hc
          rw [show ((if (p2 = 1) then ((zr h 132 p1) : Int32) else (zr h 133 (((10 * p1) + p2) - 10))) : Int32) = (zr h 132 p1) from if_pos hc] at K122
          refine zg_blk zd_233 3 hs (rfl : zb x zT0 zc_233 3 (37, [some (.ref 92), some (.int p1), some (.int p2)], [], h) = some (42, [some (.ref 92), some (.int p1), some (.int p2)], [.int p1, .ref 132], h)) (fun hs => ?_)
          have hob := ho
          refine zg_ial hs zd_233 rfl rfl hob ?_
          refine zg_blk zd_233 1 hs (rfl : zb x zT0 zc_233 1 (43, [some (.ref 92), some (.int p1), some (.int p2)], [.int (zr h 132 p1)], h) = some (60, [some (.ref 92), some (.int p1), some (.int p2)], [.int (zr h 132 p1)], h)) (fun hs => ?_)
          exact K122 hs
      · have ho := hom.1 hc
        rw [show ((if (p2 = 0) then ((zr h 131 p1) : Int32) else (if (p2 = 1) then ((zr h 132 p1) : Int32) else (zr h 133 (((10 * p1) + p2) - 10)))) : Int32) = (zr h 131 p1) from if_pos hc] at K122
        refine zg_blk zd_233 3 hs (rfl : zb x zT0 zc_233 3 (23, [some (.ref 92), some (.int p1), some (.int p2)], [], h) = some (28, [some (.ref 92), some (.int p1), some (.int p2)], [.int p1, .ref 131], h)) (fun hs => ?_)
        have hob := ho
        refine zg_ial hs zd_233 rfl rfl hob ?_
        refine zg_blk zd_233 1 hs (rfl : zb x zT0 zc_233 1 (29, [some (.ref 92), some (.int p1), some (.int p2)], [.int (zr h 131 p1)], h) = some (60, [some (.ref 92), some (.int p1), some (.int p2)], [.int (zr h 131 p1)], h)) (fun hs => ?_)
        exact K122 hs
    · have ho := ho.2 hc
      rw [show ((if ((¬ (p2 < 0) ∧ (¬ (1 < p2))) ∨ (¬ (p2 < 10) ∧ (¬ (19 < p2)))) then ((if (p2 = 0) then ((zr h 131 p1) : Int32) else (if (p2 = 1) then ((zr h 132 p1) : Int32) else (zr h 133 (((10 * p1) + p2) - 10)))) : Int32) else (-2147483648)) : Int32) = (-2147483648) from if_neg hc] at hF
      refine zg_blk zd_233 1 hs (rfl : zb x zT0 zc_233 1 (15, [some (.ref 92), some (.int p1), some (.int p2)], [], h) = some (18, [some (.ref 92), some (.int p1), some (.int p2)], [.int (-2147483648)], h)) (fun hs => ?_)
      exact zg_ret zd_233 rfl rfl hF
theorem zd_148 : zm_cd 148 = zc_148 := by rfl
theorem zd_149 : zm_cd 149 = zc_149 := by rfl
theorem zd_31 : zm_cd 31 = zc_31 := by rfl
set_option maxRecDepth 100000 in
set_option maxHeartbeats 400000 in
theorem f_Arrays_fill_53_l5_b_t {x : zm_X} {d : Nat} (v1 : Int32) (v2 : Int32) (v3 : Int32) (h : zm_H) {Q : Option Value → zm_H → Prop} {FN : Nat × Int32 × zm_H → Prop} (hs : zSh zT0 h) (ho : f_Arrays_fill_53_l5_b_ok v1 v2 v3 h) (hF : FN (f_Arrays_fill_53_l5_b v1 v2 v3 h)) (hl0 : ∀ (v2 : Int32) (h : zm_H), zSh zT0 h → FN (0, v2, h) → zg x (d + 1) 265 5 [some (.ref 53), some (.int v1), some (.int v2), some (.int v3)] [] h Q) (hl1 : ∀ (v2 : Int32) (h : zm_H) (o2 : Option Value), zSh zT0 h → FN (1, v2, h) → zg x (d + 1) 265 20 [some (.ref 53), some (.int v1), o2, some (.int v3)] [] h Q) : zg x (d + 1) 265 5 [some (.ref 53), some (.int v1), some (.int v2), some (.int v3)] [] h Q := by
  unfold f_Arrays_fill_53_l5_b at hF
  unfold f_Arrays_fill_53_l5_b_ok at ho
  refine zg_blk zd_265 2 hs (rfl : zb x zT0 zc_265 2 (5, [some (.ref 53), some (.int v1), some (.int v2), some (.int v3)], [], h) = some (7, [some (.ref 53), some (.int v1), some (.int v2), some (.int v3)], [.int v3, .int v2], h)) (fun hs => ?_)
  refine zg_i_ge zd_265 rfl (fun (hc : (v3 ≤ v2)) => ?_) (fun (hc : ¬ (v3 ≤ v2)) => ?_)
  · have ho := ho.1 hc
    rw [if_pos hc] at hF
    exact hl1 v2 h (some (.int v2)) hs hF
  · have ho := ho.2 hc
    rw [if_neg hc] at hF
    refine zg_blk zd_265 3 hs (rfl : zb x zT0 zc_265 3 (10, [some (.ref 53), some (.int v1), some (.int v2), some (.int v3)], [], h) = some (13, [some (.ref 53), some (.int v1), some (.int v2), some (.int v3)], [.int v1, .int v2, .ref 53], h)) (fun hs => ?_)
    have hob := ho
    refine zg_ias hs zd_265 rfl rfl hob (fun hs => ?_)
    refine zg_blk zd_265 2 hs (rfl : zb x zT0 zc_265 2 (14, [some (.ref 53), some (.int v1), some (.int v2), some (.int v3)], [], (zs h 53 v2 v1)) = some (5, [some (.ref 53), some (.int v1), some (.int (v2 + 1)), some (.int v3)], [], (zs h 53 v2 v1))) (fun hs => ?_)
    exact hl0 (v2 + 1) (zs h 53 v2 v1) hs hF
theorem f_Arrays_fill_53_l5_t {x : zm_X} {d : Nat} (v1 : Int32) (v3 : Int32) {Q : Option Value → zm_H → Prop} (G : Nat × Int32 × zm_H → Prop) (hx1 : ∀ (v2 : Int32) (h : zm_H) (o2 : Option Value), zSh zT0 h → G (1, v2, h) → zg x (d + 1) 265 20 [some (.ref 53), some (.int v1), o2, some (.int v3)] [] h Q) : ∀ (n : Nat) (v2 : Int32) (h : zm_H), zSh zT0 h → f_Arrays_fill_53_l5_ok v1 v3 n (v2, h) → G (f_Arrays_fill_53_l5 v1 v3 n (v2, h)) → zg x (d + 1) 265 5 [some (.ref 53), some (.int v1), some (.int v2), some (.int v3)] [] h Q := by
  intro n
  induction n with
  | zero => intro v2 h hs ho hG; exact ho.elim
  | succ n ih =>
    intro v2 h hs ho hG
    refine f_Arrays_fill_53_l5_b_t (FN := fun r => (r.1 = 0 → f_Arrays_fill_53_l5_ok v1 v3 n r.2) ∧ G (if r.1 = 0 then f_Arrays_fill_53_l5 v1 v3 n r.2 else r)) v1 v2 v3 h hs ho.1 ⟨ho.2, hG⟩ ?_ ?_
    · intro v2 h hs hF
      exact ih v2 h hs (hF.1 rfl) hF.2
    · intro v2 h o2 hs hF
      exact hx1 v2 h o2 hs hF.2

set_option maxRecDepth 100000 in
set_option maxHeartbeats 400000 in
theorem f_Arrays_fill_53_k20_t {x : zm_X} {d : Nat} (h : zm_H) (o0 : Option Value) (z1 : Int32) (o2 : Option Value) (o3 : Option Value) {Q : Option Value → zm_H → Prop} (hs : zSh zT0 h) (ho : f_Arrays_fill_53_k20_ok h) (hF : (zSh zT0 (f_Arrays_fill_53_k20 h) → Q none (f_Arrays_fill_53_k20 h))) : zg x (d + 1) 265 20 [o0, some (.int z1), o2, o3] [] h Q := by
  unfold f_Arrays_fill_53_k20 at hF
  unfold f_Arrays_fill_53_k20_ok at ho
  exact zg_ret zd_265 rfl rfl (hF hs)
set_option maxRecDepth 100000 in
set_option maxHeartbeats 400000 in
theorem f_Arrays_fill_53_t {x : zm_X} {d : Nat} (p1 : Int32) (h : zm_H) {Q : Option Value → zm_H → Prop} (hs : zSh zT0 h) (ho : f_Arrays_fill_53_ok p1 h) (hF : (zSh zT0 (f_Arrays_fill_53 p1 h) → Q none (f_Arrays_fill_53 p1 h))) : zg x (d + 1) 265 0 [some (.ref 53), some (.int p1), none, none] [] h Q := by
  unfold f_Arrays_fill_53 at hF
  unfold f_Arrays_fill_53_ok at ho
  refine zg_blk zd_265 5 hs (rfl : zb x zT0 zc_265 5 (0, [some (.ref 53), some (.int p1), none, none], [], h) = some (5, [some (.ref 53), some (.int p1), some (.int 0), some (.int (Int32.ofNat 10))], [], h)) (fun hs => ?_)
  refine f_Arrays_fill_53_l5_t p1 (Int32.ofNat 10) (fun r => f_Arrays_fill_53_a5_ok r ∧ (zSh zT0 (f_Arrays_fill_53_a5 r) → Q none (f_Arrays_fill_53_a5 r))) ?_ zF 0 h hs ho.1 ⟨ho.2, hF⟩
  · intro v2_ h_ o2_ hs hG
    have ho : True := trivial
    have hF : (zSh zT0 ((f_Arrays_fill_53_k20 h_)) → Q none ((f_Arrays_fill_53_k20 h_))) := hG.2
    exact f_Arrays_fill_53_k20_t h_ (some (.ref 53)) p1 (o2_) (some (.int (Int32.ofNat 10))) hs trivial hF
set_option maxRecDepth 100000 in
set_option maxHeartbeats 400000 in
theorem f_Arrays_fill_54_l5_b_t {x : zm_X} {d : Nat} (v1 : Int32) (v2 : Int32) (v3 : Int32) (h : zm_H) {Q : Option Value → zm_H → Prop} {FN : Nat × Int32 × zm_H → Prop} (hs : zSh zT0 h) (ho : f_Arrays_fill_54_l5_b_ok v1 v2 v3 h) (hF : FN (f_Arrays_fill_54_l5_b v1 v2 v3 h)) (hl0 : ∀ (v2 : Int32) (h : zm_H), zSh zT0 h → FN (0, v2, h) → zg x (d + 1) 265 5 [some (.ref 54), some (.int v1), some (.int v2), some (.int v3)] [] h Q) (hl1 : ∀ (v2 : Int32) (h : zm_H) (o2 : Option Value), zSh zT0 h → FN (1, v2, h) → zg x (d + 1) 265 20 [some (.ref 54), some (.int v1), o2, some (.int v3)] [] h Q) : zg x (d + 1) 265 5 [some (.ref 54), some (.int v1), some (.int v2), some (.int v3)] [] h Q := by
  unfold f_Arrays_fill_54_l5_b at hF
  unfold f_Arrays_fill_54_l5_b_ok at ho
  refine zg_blk zd_265 2 hs (rfl : zb x zT0 zc_265 2 (5, [some (.ref 54), some (.int v1), some (.int v2), some (.int v3)], [], h) = some (7, [some (.ref 54), some (.int v1), some (.int v2), some (.int v3)], [.int v3, .int v2], h)) (fun hs => ?_)
  refine zg_i_ge zd_265 rfl (fun (hc : (v3 ≤ v2)) => ?_) (fun (hc : ¬ (v3 ≤ v2)) => ?_)
  · have ho := ho.1 hc
    rw [if_pos hc] at hF
    exact hl1 v2 h (some (.int v2)) hs hF
  · have ho := ho.2 hc
    rw [if_neg hc] at hF
    refine zg_blk zd_265 3 hs (rfl : zb x zT0 zc_265 3 (10, [some (.ref 54), some (.int v1), some (.int v2), some (.int v3)], [], h) = some (13, [some (.ref 54), some (.int v1), some (.int v2), some (.int v3)], [.int v1, .int v2, .ref 54], h)) (fun hs => ?_)
    have hob := ho
    refine zg_ias hs zd_265 rfl rfl hob (fun hs => ?_)
    refine zg_blk zd_265 2 hs (rfl : zb x zT0 zc_265 2 (14, [some (.ref 54), some (.int v1), some (.int v2), some (.int v3)], [], (zs h 54 v2 v1)) = some (5, [some (.ref 54), some (.int v1), some (.int (v2 + 1)), some (.int v3)], [], (zs h 54 v2 v1))) (fun hs => ?_)
    exact hl0 (v2 + 1) (zs h 54 v2 v1) hs hF
theorem f_Arrays_fill_54_l5_t {x : zm_X} {d : Nat} (v1 : Int32) (v3 : Int32) {Q : Option Value → zm_H → Prop} (G : Nat × Int32 × zm_H → Prop) (hx1 : ∀ (v2 : Int32) (h : zm_H) (o2 : Option Value), zSh zT0 h → G (1, v2, h) → zg x (d + 1) 265 20 [some (.ref 54), some (.int v1), o2, some (.int v3)] [] h Q) : ∀ (n : Nat) (v2 : Int32) (h : zm_H), zSh zT0 h → f_Arrays_fill_54_l5_ok v1 v3 n (v2, h) → G (f_Arrays_fill_54_l5 v1 v3 n (v2, h)) → zg x (d + 1) 265 5 [some (.ref 54), some (.int v1), some (.int v2), some (.int v3)] [] h Q := by
  intro n
  induction n with
  | zero => intro v2 h hs ho hG; exact ho.elim
  | succ n ih =>
    intro v2 h hs ho hG
    refine f_Arrays_fill_54_l5_b_t (FN := fun r => (r.1 = 0 → f_Arrays_fill_54_l5_ok v1 v3 n r.2) ∧ G (if r.1 = 0 then f_Arrays_fill_54_l5 v1 v3 n r.2 else r)) v1 v2 v3 h hs ho.1 ⟨ho.2, hG⟩ ?_ ?_
    · intro v2 h hs hF
      exact ih v2 h hs (hF.1 rfl) hF.2
    · intro v2 h o2 hs hF
      exact hx1 v2 h o2 hs hF.2

set_option maxRecDepth 100000 in
set_option maxHeartbeats 400000 in
theorem f_Arrays_fill_54_k20_t {x : zm_X} {d : Nat} (h : zm_H) (o0 : Option Value) (z1 : Int32) (o2 : Option Value) (o3 : Option Value) {Q : Option Value → zm_H → Prop} (hs : zSh zT0 h) (ho : f_Arrays_fill_54_k20_ok h) (hF : (zSh zT0 (f_Arrays_fill_54_k20 h) → Q none (f_Arrays_fill_54_k20 h))) : zg x (d + 1) 265 20 [o0, some (.int z1), o2, o3] [] h Q := by
  unfold f_Arrays_fill_54_k20 at hF
  unfold f_Arrays_fill_54_k20_ok at ho
  exact zg_ret zd_265 rfl rfl (hF hs)
set_option maxRecDepth 100000 in
set_option maxHeartbeats 400000 in
theorem f_Arrays_fill_54_t {x : zm_X} {d : Nat} (p1 : Int32) (h : zm_H) {Q : Option Value → zm_H → Prop} (hs : zSh zT0 h) (ho : f_Arrays_fill_54_ok p1 h) (hF : (zSh zT0 (f_Arrays_fill_54 p1 h) → Q none (f_Arrays_fill_54 p1 h))) : zg x (d + 1) 265 0 [some (.ref 54), some (.int p1), none, none] [] h Q := by
  unfold f_Arrays_fill_54 at hF
  unfold f_Arrays_fill_54_ok at ho
  refine zg_blk zd_265 5 hs (rfl : zb x zT0 zc_265 5 (0, [some (.ref 54), some (.int p1), none, none], [], h) = some (5, [some (.ref 54), some (.int p1), some (.int 0), some (.int (Int32.ofNat 10))], [], h)) (fun hs => ?_)
  refine f_Arrays_fill_54_l5_t p1 (Int32.ofNat 10) (fun r => f_Arrays_fill_54_a5_ok r ∧ (zSh zT0 (f_Arrays_fill_54_a5 r) → Q none (f_Arrays_fill_54_a5 r))) ?_ zF 0 h hs ho.1 ⟨ho.2, hF⟩
  · intro v2_ h_ o2_ hs hG
    have ho : True := trivial
    have hF : (zSh zT0 ((f_Arrays_fill_54_k20 h_)) → Q none ((f_Arrays_fill_54_k20 h_))) := hG.2
    exact f_Arrays_fill_54_k20_t h_ (some (.ref 54)) p1 (o2_) (some (.int (Int32.ofNat 10))) hs trivial hF
set_option maxRecDepth 100000 in
set_option maxHeartbeats 400000 in
theorem f_Arrays_fill_55_l5_b_t {x : zm_X} {d : Nat} (v1 : Int32) (v2 : Int32) (v3 : Int32) (h : zm_H) {Q : Option Value → zm_H → Prop} {FN : Nat × Int32 × zm_H → Prop} (hs : zSh zT0 h) (ho : f_Arrays_fill_55_l5_b_ok v1 v2 v3 h) (hF : FN (f_Arrays_fill_55_l5_b v1 v2 v3 h)) (hl0 : ∀ (v2 : Int32) (h : zm_H), zSh zT0 h → FN (0, v2, h) → zg x (d + 1) 265 5 [some (.ref 55), some (.int v1), some (.int v2), some (.int v3)] [] h Q) (hl1 : ∀ (v2 : Int32) (h : zm_H) (o2 : Option Value), zSh zT0 h → FN (1, v2, h) → zg x (d + 1) 265 20 [some (.ref 55), some (.int v1), o2, some (.int v3)] [] h Q) : zg x (d + 1) 265 5 [some (.ref 55), some (.int v1), some (.int v2), some (.int v3)] [] h Q := by
  unfold f_Arrays_fill_55_l5_b at hF
  unfold f_Arrays_fill_55_l5_b_ok at ho
  refine zg_blk zd_265 2 hs (rfl : zb x zT0 zc_265 2 (5, [some (.ref 55), some (.int v1), some (.int v2), some (.int v3)], [], h) = some (7, [some (.ref 55), some (.int v1), some (.int v2), some (.int v3)], [.int v3, .int v2], h)) (fun hs => ?_)
  refine zg_i_ge zd_265 rfl (fun (hc : (v3 ≤ v2)) => ?_) (fun (hc : ¬ (v3 ≤ v2)) => ?_)
  · have ho := ho.1 hc
    rw [if_pos hc] at hF
    exact hl1 v2 h (some (.int v2)) hs hF
  · have ho := ho.2 hc
    rw [if_neg hc] at hF
    refine zg_blk zd_265 3 hs (rfl : zb x zT0 zc_265 3 (10, [some (.ref 55), some (.int v1), some (.int v2), some (.int v3)], [], h) = some (13, [some (.ref 55), some (.int v1), some (.int v2), some (.int v3)], [.int v1, .int v2, .ref 55], h)) (fun hs => ?_)
    have hob := ho
    refine zg_ias hs zd_265 rfl rfl hob (fun hs => ?_)
    refine zg_blk zd_265 2 hs (rfl : zb x zT0 zc_265 2 (14, [some (.ref 55), some (.int v1), some (.int v2), some (.int v3)], [], (zs h 55 v2 v1)) = some (5, [some (.ref 55), some (.int v1), some (.int (v2 + 1)), some (.int v3)], [], (zs h 55 v2 v1))) (fun hs => ?_)
    exact hl0 (v2 + 1) (zs h 55 v2 v1) hs hF
theorem f_Arrays_fill_55_l5_t {x : zm_X} {d : Nat} (v1 : Int32) (v3 : Int32) {Q : Option Value → zm_H → Prop} (G : Nat × Int32 × zm_H → Prop) (hx1 : ∀ (v2 : Int32) (h : zm_H) (o2 : Option Value), zSh zT0 h → G (1, v2, h) → zg x (d + 1) 265 20 [some (.ref 55), some (.int v1), o2, some (.int v3)] [] h Q) : ∀ (n : Nat) (v2 : Int32) (h : zm_H), zSh zT0 h → f_Arrays_fill_55_l5_ok v1 v3 n (v2, h) → G (f_Arrays_fill_55_l5 v1 v3 n (v2, h)) → zg x (d + 1) 265 5 [some (.ref 55), some (.int v1), some (.int v2), some (.int v3)] [] h Q := by
  intro n
  induction n with
  | zero => intro v2 h hs ho hG; exact ho.elim
  | succ n ih =>
    intro v2 h hs ho hG
    refine f_Arrays_fill_55_l5_b_t (FN := fun r => (r.1 = 0 → f_Arrays_fill_55_l5_ok v1 v3 n r.2) ∧ G (if r.1 = 0 then f_Arrays_fill_55_l5 v1 v3 n r.2 else r)) v1 v2 v3 h hs ho.1 ⟨ho.2, hG⟩ ?_ ?_
    · intro v2 h hs hF
      exact ih v2 h hs (hF.1 rfl) hF.2
    · intro v2 h o2 hs hF
      exact hx1 v2 h o2 hs hF.2

set_option maxRecDepth 100000 in
set_option maxHeartbeats 400000 in
theorem f_Arrays_fill_55_k20_t {x : zm_X} {d : Nat} (h : zm_H) (o0 : Option Value) (z1 : Int32) (o2 : Option Value) (o3 : Option Value) {Q : Option Value → zm_H → Prop} (hs : zSh zT0 h) (ho : f_Arrays_fill_55_k20_ok h) (hF : (zSh zT0 (f_Arrays_fill_55_k20 h) → Q none (f_Arrays_fill_55_k20 h))) : zg x (d + 1) 265 20 [o0, some (.int z1), o2, o3] [] h Q := by
  unfold f_Arrays_fill_55_k20 at hF
  unfold f_Arrays_fill_55_k20_ok at ho
  exact zg_ret zd_265 rfl rfl (hF hs)
set_option maxRecDepth 100000 in
set_option maxHeartbeats 400000 in
theorem f_Arrays_fill_55_t {x : zm_X} {d : Nat} (p1 : Int32) (h : zm_H) {Q : Option Value → zm_H → Prop} (hs : zSh zT0 h) (ho : f_Arrays_fill_55_ok p1 h) (hF : (zSh zT0 (f_Arrays_fill_55 p1 h) → Q none (f_Arrays_fill_55 p1 h))) : zg x (d + 1) 265 0 [some (.ref 55), some (.int p1), none, none] [] h Q := by
  unfold f_Arrays_fill_55 at hF
  unfold f_Arrays_fill_55_ok at ho
  refine zg_blk zd_265 5 hs (rfl : zb x zT0 zc_265 5 (0, [some (.ref 55), some (.int p1), none, none], [], h) = some (5, [some (.ref 55), some (.int p1), some (.int 0), some (.int (Int32.ofNat 10))], [], h)) (fun hs => ?_)
  refine f_Arrays_fill_55_l5_t p1 (Int32.ofNat 10) (fun r => f_Arrays_fill_55_a5_ok r ∧ (zSh zT0 (f_Arrays_fill_55_a5 r) → Q none (f_Arrays_fill_55_a5 r))) ?_ zF 0 h hs ho.1 ⟨ho.2, hF⟩
  · intro v2_ h_ o2_ hs hG
    have ho : True := trivial
    have hF : (zSh zT0 ((f_Arrays_fill_55_k20 h_)) → Q none ((f_Arrays_fill_55_k20 h_))) := hG.2
    exact f_Arrays_fill_55_k20_t h_ (some (.ref 55)) p1 (o2_) (some (.int (Int32.ofNat 10))) hs trivial hF
set_option maxRecDepth 100000 in
set_option maxHeartbeats 400000 in
theorem f_Course_renewChain_50_t {x : zm_X} {d : Nat} (p1 : Int32) (p2 : Int32) (p3 : Int32) (h : zm_H) {Q : Option Value → zm_H → Prop} (hs : zSh zT0 h) (ho : f_Course_renewChain_50_ok p1 p2 p3 h) (hF : (zSh zT0 (f_Course_renewChain_50 p1 p2 p3 h) → Q none (f_Course_renewChain_50 p1 p2 p3 h))) : zg x (d + 1) 10 0 [some (.ref 50), some (.int p1), some (.int p2), some (.int p3)] [] h Q := by
  unfold f_Course_renewChain_50 at hF
  unfold f_Course_renewChain_50_ok at ho
  refine zg_blk zd_10 8 hs (rfl : zb x zT0 zc_10 8 (0, [some (.ref 50), some (.int p1), some (.int p2), some (.int p3)], [], h) = some (10, [some (.ref 50), some (.int p1), some (.int p2), some (.int p3)], [.int p3, .int ((p1 * 3) + p2), .ref 56], h)) (fun hs => ?_)
  obtain ⟨hob, ho⟩ := ho
  refine zg_ias hs zd_10 rfl rfl hob (fun hs => ?_)
  refine zg_blk zd_10 8 hs (rfl : zb x zT0 zc_10 8 (11, [some (.ref 50), some (.int p1), some (.int p2), some (.int p3)], [], (zs h 56 ((p1 * 3) + p2) p3)) = some (21, [some (.ref 50), some (.int p1), some (.int p2), some (.int p3)], [.int 0, .int ((p1 * 3) + p2), .ref 57], (zs h 56 ((p1 * 3) + p2) p3))) (fun hs => ?_)
  obtain ⟨hob, ho⟩ := ho
  refine zg_ias hs zd_10 rfl rfl hob (fun hs => ?_)
  refine zg_blk zd_10 8 hs (rfl : zb x zT0 zc_10 8 (22, [some (.ref 50), some (.int p1), some (.int p2), some (.int p3)], [], (zs (zs h 56 ((p1 * 3) + p2) p3) 57 ((p1 * 3) + p2) 0)) = some (32, [some (.ref 50), some (.int p1), some (.int p2), some (.int p3)], [.int (-1), .int ((p1 * 3) + p2), .ref 58], (zs (zs h 56 ((p1 * 3) + p2) p3) 57 ((p1 * 3) + p2) 0))) (fun hs => ?_)
  have hob := ho
  refine zg_ias hs zd_10 rfl rfl hob (fun hs => ?_)
  exact zg_ret zd_10 rfl rfl (hF hs)
set_option maxRecDepth 100000 in
set_option maxHeartbeats 400000 in
theorem f_Course_bringHome_50_l16_k28_t {x : zm_X} {d : Nat} (v1 : Int32) (v2 : Int32) (h : zm_H) {Q : Option Value → zm_H → Prop} {FN : Nat × Int32 × zm_H → Prop} (hs : zSh zT0 h) (ho : f_Course_bringHome_50_l16_k28_ok v1 v2 h) (hF : FN (f_Course_bringHome_50_l16_k28 v1 v2 h)) (hl0 : ∀ (v2 : Int32) (h : zm_H), zSh zT0 h → FN (0, v2, h) → zg x (d + 2) 11 16 [some (.ref 50), some (.int v1), some (.int v2)] [] h Q) (hl1 : ∀ (v2 : Int32) (h : zm_H) (o2 : Option Value), zSh zT0 h → FN (1, v2, h) → zg x (d + 2) 11 34 [some (.ref 50), some (.int v1), o2] [] h Q) : zg x (d + 2) 11 28 [some (.ref 50), some (.int v1), some (.int v2)] [] h Q := by
  unfold f_Course_bringHome_50_l16_k28 at hF
  unfold f_Course_bringHome_50_l16_k28_ok at ho
  refine zg_blk zd_11 2 hs (rfl : zb x zT0 zc_11 2 (28, [some (.ref 50), some (.int v1), some (.int v2)], [], h) = some (16, [some (.ref 50), some (.int v1), some (.int (v2 + 1))], [], h)) (fun hs => ?_)
  exact hl0 (v2 + 1) h hs hF
set_option maxRecDepth 100000 in
set_option maxHeartbeats 400000 in
theorem f_Course_bringHome_50_l16_b_t {x : zm_X} {d : Nat} (v1 : Int32) (v2 : Int32) (h : zm_H) {Q : Option Value → zm_H → Prop} {FN : Nat × Int32 × zm_H → Prop} (hs : zSh zT0 h) (ho : f_Course_bringHome_50_l16_b_ok v1 v2 h) (hF : FN (f_Course_bringHome_50_l16_b v1 v2 h)) (hl0 : ∀ (v2 : Int32) (h : zm_H), zSh zT0 h → FN (0, v2, h) → zg x (d + 2) 11 16 [some (.ref 50), some (.int v1), some (.int v2)] [] h Q) (hl1 : ∀ (v2 : Int32) (h : zm_H) (o2 : Option Value), zSh zT0 h → FN (1, v2, h) → zg x (d + 2) 11 34 [some (.ref 50), some (.int v1), o2] [] h Q) : zg x (d + 2) 11 16 [some (.ref 50), some (.int v1), some (.int v2)] [] h Q := by
  unfold f_Course_bringHome_50_l16_b at hF
  unfold f_Course_bringHome_50_l16_b_ok at ho
  refine zg_blk zd_11 2 hs (rfl : zb x zT0 zc_11 2 (16, [some (.ref 50), some (.int v1), some (.int v2)], [], h) = some (18, [some (.ref 50), some (.int v1), some (.int v2)], [.int 3, .int v2], h)) (fun hs => ?_)
  refine zg_i_ge zd_11 rfl (fun (hc : (3 ≤ v2)) => ?_) (fun (hc : ¬ (3 ≤ v2)) => ?_)
  · have ho := ho.1 hc
    rw [if_pos hc] at hF
    exact hl1 v2 h (some (.int v2)) hs hF
  · have ho := ho.2 hc
    rw [if_neg hc] at hF
    refine zg_blk zd_11 4 hs (rfl : zb x zT0 zc_11 4 (21, [some (.ref 50), some (.int v1), some (.int v2)], [], h) = some (25, [some (.ref 50), some (.int v1), some (.int v2)], [.int 0, .int v2, .int v1, .ref 50], h)) (fun hs => ?_)
    have hob := ho
    refine zg_call hs zd_11 rfl rfl rfl rfl (as := [.ref 50, .int v1, .int v2, .int 0]) (rest := []) (en := [some (.ref 50), some (.int v1), some (.int v2), some (.int 0)]) rfl rfl rfl rfl rfl ?_
    refine f_Course_renewChain_50_t v1 v2 0 h hs hob (fun hs => ?_)
    show zg x (d + 2) 11 28 [some (.ref 50), some (.int v1), some (.int v2)] [] (f_Course_renewChain_50 v1 v2 0 h) Q
    exact f_Course_bringHome_50_l16_k28_t v1 v2 (f_Course_renewChain_50 v1 v2 0 h) hs trivial hF hl0 hl1
theorem f_Course_bringHome_50_l16_t {x : zm_X} {d : Nat} (v1 : Int32) {Q : Option Value → zm_H → Prop} (G : Nat × Int32 × zm_H → Prop) (hx1 : ∀ (v2 : Int32) (h : zm_H) (o2 : Option Value), zSh zT0 h → G (1, v2, h) → zg x (d + 2) 11 34 [some (.ref 50), some (.int v1), o2] [] h Q) : ∀ (n : Nat) (v2 : Int32) (h : zm_H), zSh zT0 h → f_Course_bringHome_50_l16_ok v1 n (v2, h) → G (f_Course_bringHome_50_l16 v1 n (v2, h)) → zg x (d + 2) 11 16 [some (.ref 50), some (.int v1), some (.int v2)] [] h Q := by
  intro n
  induction n with
  | zero => intro v2 h hs ho hG; exact ho.elim
  | succ n ih =>
    intro v2 h hs ho hG
    refine f_Course_bringHome_50_l16_b_t (FN := fun r => (r.1 = 0 → f_Course_bringHome_50_l16_ok v1 n r.2) ∧ G (if r.1 = 0 then f_Course_bringHome_50_l16 v1 n r.2 else r)) v1 v2 h hs ho.1 ⟨ho.2, hG⟩ ?_ ?_
    · intro v2 h hs hF
      exact ih v2 h hs (hF.1 rfl) hF.2
    · intro v2 h o2 hs hF
      exact hx1 v2 h o2 hs hF.2

set_option maxRecDepth 100000 in
set_option maxHeartbeats 400000 in
theorem f_Course_bringHome_50_k34_t {x : zm_X} {d : Nat} (h : zm_H) (o0 : Option Value) (z1 : Int32) (o2 : Option Value) {Q : Option Value → zm_H → Prop} (hs : zSh zT0 h) (ho : f_Course_bringHome_50_k34_ok h) (hF : (zSh zT0 (f_Course_bringHome_50_k34 h) → Q none (f_Course_bringHome_50_k34 h))) : zg x (d + 2) 11 34 [o0, some (.int z1), o2] [] h Q := by
  unfold f_Course_bringHome_50_k34 at hF
  unfold f_Course_bringHome_50_k34_ok at ho
  exact zg_ret zd_11 rfl rfl (hF hs)
set_option maxRecDepth 100000 in
set_option maxHeartbeats 400000 in
theorem f_Course_bringHome_50_t {x : zm_X} {d : Nat} (p1 : Int32) (h : zm_H) {Q : Option Value → zm_H → Prop} (hs : zSh zT0 h) (ho : f_Course_bringHome_50_ok p1 h) (hF : (zSh zT0 (f_Course_bringHome_50 p1 h) → Q none (f_Course_bringHome_50 p1 h))) : zg x (d + 2) 11 0 [some (.ref 50), some (.int p1), none] [] h Q := by
  unfold f_Course_bringHome_50 at hF
  unfold f_Course_bringHome_50_ok at ho
  refine zg_blk zd_11 4 hs (rfl : zb x zT0 zc_11 4 (0, [some (.ref 50), some (.int p1), none], [], h) = some (6, [some (.ref 50), some (.int p1), none], [.int 0, .int p1, .ref 51], h)) (fun hs => ?_)
  obtain ⟨hob, ho⟩ := ho
  refine zg_ias hs zd_11 rfl rfl hob (fun hs => ?_)
  refine zg_blk zd_11 4 hs (rfl : zb x zT0 zc_11 4 (7, [some (.ref 50), some (.int p1), none], [], (zs h 51 p1 0)) = some (13, [some (.ref 50), some (.int p1), none], [.int (-1), .int p1, .ref 52], (zs h 51 p1 0))) (fun hs => ?_)
  obtain ⟨hob, ho⟩ := ho
  refine zg_ias hs zd_11 rfl rfl hob (fun hs => ?_)
  refine zg_blk zd_11 2 hs (rfl : zb x zT0 zc_11 2 (14, [some (.ref 50), some (.int p1), none], [], (zs (zs h 51 p1 0) 52 p1 (-1))) = some (16, [some (.ref 50), some (.int p1), some (.int 0)], [], (zs (zs h 51 p1 0) 52 p1 (-1)))) (fun hs => ?_)
  refine f_Course_bringHome_50_l16_t p1 (fun r => f_Course_bringHome_50_a16_ok r ∧ (zSh zT0 (f_Course_bringHome_50_a16 r) → Q none (f_Course_bringHome_50_a16 r))) ?_ zF 0 (zs (zs h 51 p1 0) 52 p1 (-1)) hs ho.1 ⟨ho.2, hF⟩
  · intro v2_ h_ o2_ hs hG
    have ho : True := trivial
    have hF : (zSh zT0 ((f_Course_bringHome_50_k34 h_)) → Q none ((f_Course_bringHome_50_k34 h_))) := hG.2
    exact f_Course_bringHome_50_k34_t h_ (some (.ref 50)) p1 (o2_) hs trivial hF
set_option maxRecDepth 100000 in
set_option maxHeartbeats 400000 in
theorem f_Course_forgetAll_50_l36_k47_t {x : zm_X} {d : Nat} (v1 : Int32) (h : zm_H) {Q : Option Value → zm_H → Prop} {FN : Nat × Int32 × zm_H → Prop} (hs : zSh zT0 h) (ho : f_Course_forgetAll_50_l36_k47_ok v1 h) (hF : FN (f_Course_forgetAll_50_l36_k47 v1 h)) (hl0 : ∀ (v1 : Int32) (h : zm_H), zSh zT0 h → FN (0, v1, h) → zg x (d + 3) 31 36 [some (.ref 50), some (.int v1)] [] h Q) (hl1 : ∀ (v1 : Int32) (h : zm_H) (o1 : Option Value), zSh zT0 h → FN (1, v1, h) → zg x (d + 3) 31 53 [some (.ref 50), o1] [] h Q) : zg x (d + 3) 31 47 [some (.ref 50), some (.int v1)] [] h Q := by
  unfold f_Course_forgetAll_50_l36_k47 at hF
  unfold f_Course_forgetAll_50_l36_k47_ok at ho
  refine zg_blk zd_31 2 hs (rfl : zb x zT0 zc_31 2 (47, [some (.ref 50), some (.int v1)], [], h) = some (36, [some (.ref 50), some (.int (v1 + 1))], [], h)) (fun hs => ?_)
  exact hl0 (v1 + 1) h hs hF
set_option maxRecDepth 100000 in
set_option maxHeartbeats 400000 in
theorem f_Course_forgetAll_50_l36_b_t {x : zm_X} {d : Nat} (v1 : Int32) (h : zm_H) {Q : Option Value → zm_H → Prop} {FN : Nat × Int32 × zm_H → Prop} (hs : zSh zT0 h) (ho : f_Course_forgetAll_50_l36_b_ok v1 h) (hF : FN (f_Course_forgetAll_50_l36_b v1 h)) (hl0 : ∀ (v1 : Int32) (h : zm_H), zSh zT0 h → FN (0, v1, h) → zg x (d + 3) 31 36 [some (.ref 50), some (.int v1)] [] h Q) (hl1 : ∀ (v1 : Int32) (h : zm_H) (o1 : Option Value), zSh zT0 h → FN (1, v1, h) → zg x (d + 3) 31 53 [some (.ref 50), o1] [] h Q) : zg x (d + 3) 31 36 [some (.ref 50), some (.int v1)] [] h Q := by
  unfold f_Course_forgetAll_50_l36_b at hF
  unfold f_Course_forgetAll_50_l36_b_ok at ho
  refine zg_blk zd_31 2 hs (rfl : zb x zT0 zc_31 2 (36, [some (.ref 50), some (.int v1)], [], h) = some (39, [some (.ref 50), some (.int v1)], [.int 10, .int v1], h)) (fun hs => ?_)
  refine zg_i_ge zd_31 rfl (fun (hc : (10 ≤ v1)) => ?_) (fun (hc : ¬ (10 ≤ v1)) => ?_)
  · have ho := ho.1 hc
    rw [if_pos hc] at hF
    exact hl1 v1 h (some (.int v1)) hs hF
  · have ho := ho.2 hc
    rw [if_neg hc] at hF
    refine zg_blk zd_31 2 hs (rfl : zb x zT0 zc_31 2 (42, [some (.ref 50), some (.int v1)], [], h) = some (44, [some (.ref 50), some (.int v1)], [.int v1, .ref 50], h)) (fun hs => ?_)
    have hob := ho
    refine zg_call hs zd_31 rfl rfl rfl rfl (as := [.ref 50, .int v1]) (rest := []) (en := [some (.ref 50), some (.int v1), none]) rfl rfl rfl rfl rfl ?_
    refine f_Course_bringHome_50_t v1 h hs hob (fun hs => ?_)
    show zg x (d + 3) 31 47 [some (.ref 50), some (.int v1)] [] (f_Course_bringHome_50 v1 h) Q
    exact f_Course_forgetAll_50_l36_k47_t v1 (f_Course_bringHome_50 v1 h) hs trivial hF hl0 hl1
theorem f_Course_forgetAll_50_l36_t {x : zm_X} {d : Nat} {Q : Option Value → zm_H → Prop} (G : Nat × Int32 × zm_H → Prop) (hx1 : ∀ (v1 : Int32) (h : zm_H) (o1 : Option Value), zSh zT0 h → G (1, v1, h) → zg x (d + 3) 31 53 [some (.ref 50), o1] [] h Q) : ∀ (n : Nat) (v1 : Int32) (h : zm_H), zSh zT0 h → f_Course_forgetAll_50_l36_ok n (v1, h) → G (f_Course_forgetAll_50_l36 n (v1, h)) → zg x (d + 3) 31 36 [some (.ref 50), some (.int v1)] [] h Q := by
  intro n
  induction n with
  | zero => intro v1 h hs ho hG; exact ho.elim
  | succ n ih =>
    intro v1 h hs ho hG
    refine f_Course_forgetAll_50_l36_b_t (FN := fun r => (r.1 = 0 → f_Course_forgetAll_50_l36_ok n r.2) ∧ G (if r.1 = 0 then f_Course_forgetAll_50_l36 n r.2 else r)) v1 h hs ho.1 ⟨ho.2, hG⟩ ?_ ?_
    · intro v1 h hs hF
      exact ih v1 h hs (hF.1 rfl) hF.2
    · intro v1 h o1 hs hF
      exact hx1 v1 h o1 hs hF.2

set_option maxRecDepth 100000 in
set_option maxHeartbeats 400000 in
theorem f_Course_forgetAll_50_k53_t {x : zm_X} {d : Nat} (h : zm_H) (o0 : Option Value) (o1 : Option Value) {Q : Option Value → zm_H → Prop} (hs : zSh zT0 h) (ho : f_Course_forgetAll_50_k53_ok h) (hF : (zSh zT0 (f_Course_forgetAll_50_k53 h) → Q none (f_Course_forgetAll_50_k53 h))) : zg x (d + 3) 31 53 [o0, o1] [] h Q := by
  unfold f_Course_forgetAll_50_k53 at hF
  unfold f_Course_forgetAll_50_k53_ok at ho
  exact zg_ret zd_31 rfl rfl (hF hs)
set_option maxRecDepth 100000 in
set_option maxHeartbeats 400000 in
theorem f_Course_forgetAll_50_k34_t {x : zm_X} {d : Nat} (h : zm_H) (o1 : Option Value) {Q : Option Value → zm_H → Prop} (hs : zSh zT0 h) (ho : f_Course_forgetAll_50_k34_ok h) (hF : (zSh zT0 (f_Course_forgetAll_50_k34 h) → Q none (f_Course_forgetAll_50_k34 h))) : zg x (d + 3) 31 34 [some (.ref 50), o1] [] h Q := by
  unfold f_Course_forgetAll_50_k34 at hF
  unfold f_Course_forgetAll_50_k34_ok at ho
  refine zg_blk zd_31 2 hs (rfl : zb x zT0 zc_31 2 (34, [some (.ref 50), o1], [], h) = some (36, [some (.ref 50), some (.int 0)], [], h)) (fun hs => ?_)
  refine f_Course_forgetAll_50_l36_t  (fun r => f_Course_forgetAll_50_a36_ok r ∧ (zSh zT0 (f_Course_forgetAll_50_a36 r) → Q none (f_Course_forgetAll_50_a36 r))) ?_ zF 0 h hs ho.1 ⟨ho.2, hF⟩
  · intro v1_ h_ o1_ hs hG
    have ho : True := trivial
    have hF : (zSh zT0 ((f_Course_forgetAll_50_k53 h_)) → Q none ((f_Course_forgetAll_50_k53 h_))) := hG.2
    exact f_Course_forgetAll_50_k53_t h_ (some (.ref 50)) (o1_) hs trivial hF
set_option maxRecDepth 100000 in
set_option maxHeartbeats 400000 in
theorem f_Course_forgetAll_50_k26_t {x : zm_X} {d : Nat} (h : zm_H) (o1 : Option Value) {Q : Option Value → zm_H → Prop} (hs : zSh zT0 h) (ho : f_Course_forgetAll_50_k26_ok h) (hF : (zSh zT0 (f_Course_forgetAll_50_k26 h) → Q none (f_Course_forgetAll_50_k26 h))) : zg x (d + 3) 31 26 [some (.ref 50), o1] [] h Q := by
  unfold f_Course_forgetAll_50_k26 at hF
  unfold f_Course_forgetAll_50_k26_ok at ho
  refine zg_blk zd_31 3 hs (rfl : zb x zT0 zc_31 3 (26, [some (.ref 50), o1], [], h) = some (31, [some (.ref 50), o1], [.int 0, .ref 55], h)) (fun hs => ?_)
  obtain ⟨hob, ho⟩ := ho
  refine zg_call hs zd_31 rfl rfl rfl rfl (as := [.ref 55, .int 0]) (rest := []) (en := [some (.ref 55), some (.int 0), none, none]) rfl rfl rfl rfl rfl ?_
  refine f_Arrays_fill_55_t 0 h hs hob (fun hs => ?_)
  show zg x (d + 3) 31 34 [some (.ref 50), o1] [] (f_Arrays_fill_55 0 h) Q
  exact f_Course_forgetAll_50_k34_t (f_Arrays_fill_55 0 h) (o1) hs ho hF
set_option maxRecDepth 100000 in
set_option maxHeartbeats 400000 in
theorem f_Course_forgetAll_50_k18_t {x : zm_X} {d : Nat} (h : zm_H) (o1 : Option Value) {Q : Option Value → zm_H → Prop} (hs : zSh zT0 h) (ho : f_Course_forgetAll_50_k18_ok h) (hF : (zSh zT0 (f_Course_forgetAll_50_k18 h) → Q none (f_Course_forgetAll_50_k18 h))) : zg x (d + 3) 31 18 [some (.ref 50), o1] [] h Q := by
  unfold f_Course_forgetAll_50_k18 at hF
  unfold f_Course_forgetAll_50_k18_ok at ho
  refine zg_blk zd_31 3 hs (rfl : zb x zT0 zc_31 3 (18, [some (.ref 50), o1], [], h) = some (23, [some (.ref 50), o1], [.int 0, .ref 54], h)) (fun hs => ?_)
  obtain ⟨hob, ho⟩ := ho
  refine zg_call hs zd_31 rfl rfl rfl rfl (as := [.ref 54, .int 0]) (rest := []) (en := [some (.ref 54), some (.int 0), none, none]) rfl rfl rfl rfl rfl ?_
  refine f_Arrays_fill_54_t 0 h hs hob (fun hs => ?_)
  show zg x (d + 3) 31 26 [some (.ref 50), o1] [] (f_Arrays_fill_54 0 h) Q
  exact f_Course_forgetAll_50_k26_t (f_Arrays_fill_54 0 h) (o1) hs ho hF
set_option maxRecDepth 100000 in
set_option maxHeartbeats 400000 in
theorem f_Course_forgetAll_50_t {x : zm_X} {d : Nat} (h : zm_H) {Q : Option Value → zm_H → Prop} (hs : zSh zT0 h) (ho : f_Course_forgetAll_50_ok h) (hF : (zSh zT0 (f_Course_forgetAll_50 h) → Q none (f_Course_forgetAll_50 h))) : zg x (d + 3) 31 0 [some (.ref 50), none] [] h Q := by
  unfold f_Course_forgetAll_50 at hF
  unfold f_Course_forgetAll_50_ok at ho
  refine zg_blk zd_31 9 hs (rfl : zb x zT0 zc_31 9 (0, [some (.ref 50), none], [], h) = some (15, [some (.ref 50), none], [.int 0, .ref 53], (zp (zp h 50 3 0) 50 4 0))) (fun hs => ?_)
  obtain ⟨hob, ho⟩ := ho
  refine zg_call hs zd_31 rfl rfl rfl rfl (as := [.ref 53, .int 0]) (rest := []) (en := [some (.ref 53), some (.int 0), none, none]) rfl rfl rfl rfl rfl ?_
  refine f_Arrays_fill_53_t 0 (zp (zp h 50 3 0) 50 4 0) hs hob (fun hs => ?_)
  show zg x (d + 3) 31 18 [some (.ref 50), none] [] (f_Arrays_fill_53 0 (zp (zp h 50 3 0) 50 4 0)) Q
  exact f_Course_forgetAll_50_k18_t (f_Arrays_fill_53 0 (zp (zp h 50 3 0) 50 4 0)) (none) hs ho hF
set_option maxRecDepth 100000 in
set_option maxHeartbeats 400000 in
theorem f_Course_isReady_50_t {x : zm_X} {d : Nat} (p1 : Int32) (h : zm_H) {Q : Option Value → zm_H → Prop} (hs : zSh zT0 h) (ho : f_Course_isReady_50_ok p1 h) (hF : Q (some (.int (f_Course_isReady_50 p1 h))) h) : zg x (d + 1) 7 0 [some (.ref 50), some (.int p1)] [] h Q := by
  unfold f_Course_isReady_50 at hF
  unfold f_Course_isReady_50_ok at ho
  refine zg_blk zd_7 3 hs (rfl : zb x zT0 zc_7 3 (0, [some (.ref 50), some (.int p1)], [], h) = some (5, [some (.ref 50), some (.int p1)], [.int p1, .ref 51], h)) (fun hs => ?_)
  obtain ⟨hob, ho⟩ := ho
  refine zg_ial hs zd_7 rfl rfl hob ?_
  refine zg_blk zd_7 1 hs (rfl : zb x zT0 zc_7 1 (6, [some (.ref 50), some (.int p1)], [.int (zr h 51 p1)], h) = some (7, [some (.ref 50), some (.int p1)], [.int 1, .int (zr h 51 p1)], h)) (fun hs => ?_)
  have hom := ho
  have K123 : zSh zT0 h → zg x (d + 1) 7 25 [some (.ref 50), some (.int p1)] [.int (if (((zr h 51 p1) = 1) ∨ ((zr h 51 p1) = 2)) then (1 : Int32) else 0)] h Q := fun hs => by
    exact zg_rtz zd_7 rfl rfl zm_nb01 hF
  refine zg_i_eq zd_7 rfl (fun (hc : ((zr h 51 p1) = 1)) => ?_) (fun (hc : ¬ ((zr h 51 p1) = 1)) => ?_)
  · have ho := hom.1 hc
    rw [show ((if (((zr h 51 p1) = 1) ∨ ((zr h 51 p1) = 2)) then (1 : Int32) else 0) : Int32) = 1 from zb_or_t hc] at K123
    refine zg_blk zd_7 2 hs (rfl : zb x zT0 zc_7 2 (20, [some (.ref 50), some (.int p1)], [], h) = some (25, [some (.ref 50), some (.int p1)], [.int 1], h)) (fun hs => ?_)
    exact K123 hs
  · have ho := hom.2 hc
    rw [show ((if (((zr h 51 p1) = 1) ∨ ((zr h 51 p1) = 2)) then (1 : Int32) else 0) : Int32) = (if ((zr h 51 p1) = 2) then (1 : Int32) else 0) from zb_or_f hc] at K123
    refine zg_blk zd_7 3 hs (rfl : zb x zT0 zc_7 3 (10, [some (.ref 50), some (.int p1)], [], h) = some (15, [some (.ref 50), some (.int p1)], [.int p1, .ref 51], h)) (fun hs => ?_)
    have hob := ho
    refine zg_ial hs zd_7 rfl rfl hob ?_
    refine zg_blk zd_7 1 hs (rfl : zb x zT0 zc_7 1 (16, [some (.ref 50), some (.int p1)], [.int (zr h 51 p1)], h) = some (17, [some (.ref 50), some (.int p1)], [.int 2, .int (zr h 51 p1)], h)) (fun hs => ?_)
    refine zg_i_ne zd_7 rfl (fun (hc : ¬ ((zr h 51 p1) = 2)) => ?_) (fun (hc : ((zr h 51 p1) = 2)) => ?_)
    · skip
      rw [show ((if ((zr h 51 p1) = 2) then (1 : Int32) else 0) : Int32) = 0 from if_neg hc] at K123
      refine zg_blk zd_7 1 hs (rfl : zb x zT0 zc_7 1 (24, [some (.ref 50), some (.int p1)], [], h) = some (25, [some (.ref 50), some (.int p1)], [.int 0], h)) (fun hs => ?_)
      exact K123 hs
    · skip
      rw [show ((if ((zr h 51 p1) = 2) then (1 : Int32) else 0) : Int32) = 1 from if_pos hc] at K123
      refine zg_blk zd_7 2 hs (rfl : zb x zT0 zc_7 2 (20, [some (.ref 50), some (.int p1)], [], h) = some (25, [some (.ref 50), some (.int p1)], [.int 1], h)) (fun hs => ?_)
      exact K123 hs
set_option maxRecDepth 100000 in
set_option maxHeartbeats 400000 in
theorem f_Course_isFree_50_l2_b_t {x : zm_X} {d : Nat} (v1 : Int32) (v2 : Int32) (h : zm_H) {Q : Option Value → zm_H → Prop} {FN : Nat × Int32 → Prop} (hs : zSh zT0 h) (ho : f_Course_isFree_50_l2_b_ok v1 v2 h) (hF : FN (f_Course_isFree_50_l2_b v1 v2 h)) (hl0 : ∀ (v2 : Int32), zSh zT0 h → FN (0, v2) → zg x (d + 1) 6 2 [some (.ref 50), some (.int v1), some (.int v2)] [] h Q) (hl1 : ∀ (v2 : Int32) (o2 : Option Value), zSh zT0 h → FN (1, v2) → zg x (d + 1) 6 18 [some (.ref 50), some (.int v1), o2] [] h Q) (hl2 : ∀ (v2 : Int32) (o2 : Option Value), zSh zT0 h → FN (2, v2) → zg x (d + 1) 6 26 [some (.ref 50), some (.int v1), o2] [] h Q) : zg x (d + 1) 6 2 [some (.ref 50), some (.int v1), some (.int v2)] [] h Q := by
  unfold f_Course_isFree_50_l2_b at hF
  unfold f_Course_isFree_50_l2_b_ok at ho
  refine zg_blk zd_6 2 hs (rfl : zb x zT0 zc_6 2 (2, [some (.ref 50), some (.int v1), some (.int v2)], [], h) = some (5, [some (.ref 50), some (.int v1), some (.int v2)], [.int 10, .int v2], h)) (fun hs => ?_)
  refine zg_i_ge zd_6 rfl (fun (hc : (10 ≤ v2)) => ?_) (fun (hc : ¬ (10 ≤ v2)) => ?_)
  · have ho := ho.1 hc
    rw [if_pos hc] at hF
    exact hl2 v2 (some (.int v2)) hs hF
  · have ho := ho.2 hc
    rw [if_neg hc] at hF
    refine zg_blk zd_6 3 hs (rfl : zb x zT0 zc_6 3 (8, [some (.ref 50), some (.int v1), some (.int v2)], [], h) = some (13, [some (.ref 50), some (.int v1), some (.int v2)], [.int v2, .ref 52], h)) (fun hs => ?_)
    have hob := ho
    refine zg_ial hs zd_6 rfl rfl hob ?_
    refine zg_blk zd_6 1 hs (rfl : zb x zT0 zc_6 1 (14, [some (.ref 50), some (.int v1), some (.int v2)], [.int (zr h 52 v2)], h) = some (15, [some (.ref 50), some (.int v1), some (.int v2)], [.int v1, .int (zr h 52 v2)], h)) (fun hs => ?_)
    refine zg_i_ne zd_6 rfl (fun (hc : ¬ ((zr h 52 v2) = v1)) => ?_) (fun (hc : ((zr h 52 v2) = v1)) => ?_)
    · skip
      rw [if_neg hc] at hF
      refine zg_blk zd_6 2 hs (rfl : zb x zT0 zc_6 2 (20, [some (.ref 50), some (.int v1), some (.int v2)], [], h) = some (2, [some (.ref 50), some (.int v1), some (.int (v2 + 1))], [], h)) (fun hs => ?_)
      exact hl0 (v2 + 1) hs hF
    · skip
      rw [if_pos hc] at hF
      exact hl1 v2 (some (.int v2)) hs hF
theorem f_Course_isFree_50_l2_t {x : zm_X} {d : Nat} (v1 : Int32) (h : zm_H) {Q : Option Value → zm_H → Prop} (G : Nat × Int32 → Prop) (hx1 : ∀ (v2 : Int32) (o2 : Option Value), zSh zT0 h → G (1, v2) → zg x (d + 1) 6 18 [some (.ref 50), some (.int v1), o2] [] h Q) (hx2 : ∀ (v2 : Int32) (o2 : Option Value), zSh zT0 h → G (2, v2) → zg x (d + 1) 6 26 [some (.ref 50), some (.int v1), o2] [] h Q) : ∀ (n : Nat) (v2 : Int32), zSh zT0 h → f_Course_isFree_50_l2_ok v1 h n v2 → G (f_Course_isFree_50_l2 v1 h n v2) → zg x (d + 1) 6 2 [some (.ref 50), some (.int v1), some (.int v2)] [] h Q := by
  intro n
  induction n with
  | zero => intro v2 hs ho hG; exact ho.elim
  | succ n ih =>
    intro v2 hs ho hG
    refine f_Course_isFree_50_l2_b_t (FN := fun r => (r.1 = 0 → f_Course_isFree_50_l2_ok v1 h n r.2) ∧ G (if r.1 = 0 then f_Course_isFree_50_l2 v1 h n r.2 else r)) v1 v2 h hs ho.1 ⟨ho.2, hG⟩ ?_ ?_ ?_
    · intro v2 hs hF
      exact ih v2 hs (hF.1 rfl) hF.2
    · intro v2 o2 hs hF
      exact hx1 v2 o2 hs hF.2
    · intro v2 o2 hs hF
      exact hx2 v2 o2 hs hF.2

set_option maxRecDepth 100000 in
set_option maxHeartbeats 400000 in
theorem f_Course_isFree_50_k18_t {x : zm_X} {d : Nat} (h : zm_H) (o0 : Option Value) (z1 : Int32) (o2 : Option Value) {Q : Option Value → zm_H → Prop} (hs : zSh zT0 h) (ho : f_Course_isFree_50_k18_ok h) (hF : Q (some (.int (f_Course_isFree_50_k18 h))) h) : zg x (d + 1) 6 18 [o0, some (.int z1), o2] [] h Q := by
  unfold f_Course_isFree_50_k18 at hF
  unfold f_Course_isFree_50_k18_ok at ho
  refine zg_blk zd_6 1 hs (rfl : zb x zT0 zc_6 1 (18, [o0, some (.int z1), o2], [], h) = some (19, [o0, some (.int z1), o2], [.int 0], h)) (fun hs => ?_)
  exact zg_rtz zd_6 rfl rfl rfl hF
set_option maxRecDepth 100000 in
set_option maxHeartbeats 400000 in
theorem f_Course_isFree_50_k26_t {x : zm_X} {d : Nat} (h : zm_H) (o0 : Option Value) (z1 : Int32) (o2 : Option Value) {Q : Option Value → zm_H → Prop} (hs : zSh zT0 h) (ho : f_Course_isFree_50_k26_ok h) (hF : Q (some (.int (f_Course_isFree_50_k26 h))) h) : zg x (d + 1) 6 26 [o0, some (.int z1), o2] [] h Q := by
  unfold f_Course_isFree_50_k26 at hF
  unfold f_Course_isFree_50_k26_ok at ho
  refine zg_blk zd_6 1 hs (rfl : zb x zT0 zc_6 1 (26, [o0, some (.int z1), o2], [], h) = some (27, [o0, some (.int z1), o2], [.int 1], h)) (fun hs => ?_)
  exact zg_rtz zd_6 rfl rfl rfl hF
set_option maxRecDepth 100000 in
set_option maxHeartbeats 400000 in
theorem f_Course_isFree_50_t {x : zm_X} {d : Nat} (p1 : Int32) (h : zm_H) {Q : Option Value → zm_H → Prop} (hs : zSh zT0 h) (ho : f_Course_isFree_50_ok p1 h) (hF : Q (some (.int (f_Course_isFree_50 p1 h))) h) : zg x (d + 1) 6 0 [some (.ref 50), some (.int p1), none] [] h Q := by
  unfold f_Course_isFree_50 at hF
  unfold f_Course_isFree_50_ok at ho
  refine zg_blk zd_6 2 hs (rfl : zb x zT0 zc_6 2 (0, [some (.ref 50), some (.int p1), none], [], h) = some (2, [some (.ref 50), some (.int p1), some (.int 0)], [], h)) (fun hs => ?_)
  refine f_Course_isFree_50_l2_t p1 h (fun r => f_Course_isFree_50_a2_ok r h ∧ Q (some (.int (f_Course_isFree_50_a2 r h))) h) ?_ ?_ zF 0 hs ho.1 ⟨ho.2, hF⟩
  · intro v2_ o2_ hs hG
    have ho : True := trivial
    have hF : Q (some (.int ((f_Course_isFree_50_k18 h)))) h := hG.2
    exact f_Course_isFree_50_k18_t h (some (.ref 50)) p1 (o2_) hs trivial hF
  · intro v2_ o2_ hs hG
    have ho : True := trivial
    have hF : Q (some (.int ((f_Course_isFree_50_k26 h)))) h := hG.2
    exact f_Course_isFree_50_k26_t h (some (.ref 50)) p1 (o2_) hs trivial hF
set_option maxRecDepth 100000 in
set_option maxHeartbeats 400000 in
theorem f_Course_isDoable_50_t {x : zm_X} {d : Nat} (p1 : Int32) (p2 : Int32) (p3 : Int32) (h : zm_H) {Q : Option Value → zm_H → Prop} (hs : zSh zT0 h) (ho : f_Course_isDoable_50_ok p1 p2 p3 h) (hF : Q (some (.int (f_Course_isDoable_50 p1 p2 p3 h))) h) : zg x (d + 2) 5 0 [some (.ref 50), some (.int p1), some (.int p2), some (.int p3)] [] h Q := by
  unfold f_Course_isDoable_50 at hF
  unfold f_Course_isDoable_50_ok at ho
  refine zg_blk zd_5 2 hs (rfl : zb x zT0 zc_5 2 (0, [some (.ref 50), some (.int p1), some (.int p2), some (.int p3)], [], h) = some (2, [some (.ref 50), some (.int p1), some (.int p2), some (.int p3)], [.int 5, .int p1], h)) (fun hs => ?_)
  refine zg_i_ne zd_5 rfl (fun (hc : ¬ (p1 = 5)) => ?_) (fun (hc : (p1 = 5)) => ?_)
  · have ho := ho.2 hc
    rw [show ((if (p1 = 5) then ((if (((zr h 51 p2) = 0) ∧ (¬ ((f_Course_isFree_50 p3 h) = 0))) then (1 : Int32) else 0) : Int32) else (if (p1 = 4) then ((if (¬ ((zr h 51 p2) = 0)) then (1 : Int32) else 0) : Int32) else (f_Course_isReady_50 p2 h))) : Int32) = (if (p1 = 4) then ((if (¬ ((zr h 51 p2) = 0)) then (1 : Int32) else 0) : Int32) else (f_Course_isReady_50 p2 h)) from if_neg hc] at hF
    refine zg_blk zd_5 2 hs (rfl : zb x zT0 zc_5 2 (28, [some (.ref 50), some (.int p1), some (.int p2), some (.int p3)], [], h) = some (30, [some (.ref 50), some (.int p1), some (.int p2), some (.int p3)], [.int 4, .int p1], h)) (fun hs => ?_)
    obtain ⟨hom, ho⟩ := ho
    have K124 : zSh zT0 h → zg x (d + 2) 5 55 [some (.ref 50), some (.int p1), some (.int p2), some (.int p3)] [.int (if (p1 = 4) then ((if (¬ ((zr h 51 p2) = 0)) then (1 : Int32) else 0) : Int32) else (f_Course_isReady_50 p2 h))] h Q := fun hs => by
      exact zg_rtz zd_5 rfl rfl ho hF
    refine zg_i_ne zd_5 rfl (fun (hc : ¬ (p1 = 4)) => ?_) (fun (hc : (p1 = 4)) => ?_)
    · have ho := hom.2 hc
      rw [show ((if (p1 = 4) then ((if (¬ ((zr h 51 p2) = 0)) then (1 : Int32) else 0) : Int32) else (f_Course_isReady_50 p2 h)) : Int32) = (f_Course_isReady_50 p2 h) from if_neg hc] at K124
      refine zg_blk zd_5 2 hs (rfl : zb x zT0 zc_5 2 (50, [some (.ref 50), some (.int p1), some (.int p2), some (.int p3)], [], h) = some (52, [some (.ref 50), some (.int p1), some (.int p2), some (.int p3)], [.int p2, .ref 50], h)) (fun hs => ?_)
      have hob := ho
      refine zg_call hs zd_5 rfl rfl rfl rfl (as := [.ref 50, .int p2]) (rest := []) (en := [some (.ref 50), some (.int p2)]) rfl rfl rfl rfl rfl ?_
      refine f_Course_isReady_50_t p2 h hs hob ?_
      show zg x (d + 2) 5 55 [some (.ref 50), some (.int p1), some (.int p2), some (.int p3)] [.int (f_Course_isReady_50 p2 h)] h Q
      exact K124 hs
    · have ho := hom.1 hc
      rw [show ((if (p1 = 4) then ((if (¬ ((zr h 51 p2) = 0)) then (1 : Int32) else 0) : Int32) else (f_Course_isReady_50 p2 h)) : Int32) = (if (¬ ((zr h 51 p2) = 0)) then (1 : Int32) else 0) from if_pos hc] at K124
      refine zg_blk zd_5 3 hs (rfl : zb x zT0 zc_5 3 (33, [some (.ref 50), some (.int p1), some (.int p2), some (.int p3)], [], h) = some (38, [some (.ref 50), some (.int p1), some (.int p2), some (.int p3)], [.int p2, .ref 51], h)) (fun hs => ?_)
      have hob := ho
      refine zg_ial hs zd_5 rfl rfl hob ?_
      refine zg_f_eq zd_5 rfl (fun (hc : ((zr h 51 p2) = 0)) => ?_) (fun (hc : ¬ ((zr h 51 p2) = 0)) => ?_)
      · skip
        rw [show ((if (¬ ((zr h 51 p2) = 0)) then (1 : Int32) else 0) : Int32) = 0 from zb_not_t hc] at K124
        refine zg_blk zd_5 2 hs (rfl : zb x zT0 zc_5 2 (46, [some (.ref 50), some (.int p1), some (.int p2), some (.int p3)], [], h) = some (55, [some (.ref 50), some (.int p1), some (.int p2), some (.int p3)], [.int 0], h)) (fun hs => ?_)
        exact K124 hs
      · skip
        rw [show ((if (¬ ((zr h 51 p2) = 0)) then (1 : Int32) else 0) : Int32) = 1 from zb_not_f hc] at K124
        refine zg_blk zd_5 2 hs (rfl : zb x zT0 zc_5 2 (42, [some (.ref 50), some (.int p1), some (.int p2), some (.int p3)], [], h) = some (55, [some (.ref 50), some (.int p1), some (.int p2), some (.int p3)], [.int 1], h)) (fun hs => ?_)
        exact K124 hs
  · have ho := ho.1 hc
    rw [show ((if (p1 = 5) then ((if (((zr h 51 p2) = 0) ∧ (¬ ((f_Course_isFree_50 p3 h) = 0))) then (1 : Int32) else 0) : Int32) else (if (p1 = 4) then ((if (¬ ((zr h 51 p2) = 0)) then (1 : Int32) else 0) : Int32) else (f_Course_isReady_50 p2 h))) : Int32) = (if (((zr h 51 p2) = 0) ∧ (¬ ((f_Course_isFree_50 p3 h) = 0))) then (1 : Int32) else 0) from if_pos hc] at hF
    refine zg_blk zd_5 3 hs (rfl : zb x zT0 zc_5 3 (5, [some (.ref 50), some (.int p1), some (.int p2), some (.int p3)], [], h) = some (10, [some (.ref 50), some (.int p1), some (.int p2), some (.int p3)], [.int p2, .ref 51], h)) (fun hs => ?_)
    obtain ⟨hob, ho⟩ := ho
    refine zg_ial hs zd_5 rfl rfl hob ?_
    have hom := ho
    have K125 : zSh zT0 h → zg x (d + 2) 5 27 [some (.ref 50), some (.int p1), some (.int p2), some (.int p3)] [.int (if (((zr h 51 p2) = 0) ∧ (¬ ((f_Course_isFree_50 p3 h) = 0))) then (1 : Int32) else 0)] h Q := fun hs => by
      exact zg_rtz zd_5 rfl rfl zm_nb01 hF
    refine zg_f_ne zd_5 rfl (fun (hc : ¬ ((zr h 51 p2) = 0)) => ?_) (fun (hc : ((zr h 51 p2) = 0)) => ?_)
    · have ho := hom.2 hc
      rw [show ((if (((zr h 51 p2) = 0) ∧ (¬ ((f_Course_isFree_50 p3 h) = 0))) then (1 : Int32) else 0) : Int32) = 0 from zb_and_f hc] at K125
      refine zg_blk zd_5 1 hs (rfl : zb x zT0 zc_5 1 (26, [some (.ref 50), some (.int p1), some (.int p2), some (.int p3)], [], h) = some (27, [some (.ref 50), some (.int p1), some (.int p2), some (.int p3)], [.int 0], h)) (fun hs => ?_)
      exact K125 hs
    · have ho := hom.1 hc
      rw [show ((if (((zr h 51 p2) = 0) ∧ (¬ ((f_Course_isFree_50 p3 h) = 0))) then (1 : Int32) else 0) : Int32) = (if (¬ ((f_Course_isFree_50 p3 h) = 0)) then (1 : Int32) else 0) from zb_and_t hc] at K125
      refine zg_blk zd_5 2 hs (rfl : zb x zT0 zc_5 2 (14, [some (.ref 50), some (.int p1), some (.int p2), some (.int p3)], [], h) = some (16, [some (.ref 50), some (.int p1), some (.int p2), some (.int p3)], [.int p3, .ref 50], h)) (fun hs => ?_)
      have hob := ho
      refine zg_call hs zd_5 rfl rfl rfl rfl (as := [.ref 50, .int p3]) (rest := []) (en := [some (.ref 50), some (.int p3), none]) rfl rfl rfl rfl rfl ?_
      refine f_Course_isFree_50_t p3 h hs hob ?_
      show zg x (d + 2) 5 19 [some (.ref 50), some (.int p1), some (.int p2), some (.int p3)] [.int (f_Course_isFree_50 p3 h)] h Q
      refine zg_f_eq zd_5 rfl (fun (hc : ((f_Course_isFree_50 p3 h) = 0)) => ?_) (fun (hc : ¬ ((f_Course_isFree_50 p3 h) = 0)) => ?_)
      · skip
        rw [show ((if (¬ ((f_Course_isFree_50 p3 h) = 0)) then (1 : Int32) else 0) : Int32) = 0 from zb_not_t hc] at K125
        refine zg_blk zd_5 1 hs (rfl : zb x zT0 zc_5 1 (26, [some (.ref 50), some (.int p1), some (.int p2), some (.int p3)], [], h) = some (27, [some (.ref 50), some (.int p1), some (.int p2), some (.int p3)], [.int 0], h)) (fun hs => ?_)
        exact K125 hs
      · skip
        rw [show ((if (¬ ((f_Course_isFree_50 p3 h) = 0)) then (1 : Int32) else 0) : Int32) = 1 from zb_not_f hc] at K125
        refine zg_blk zd_5 2 hs (rfl : zb x zT0 zc_5 2 (22, [some (.ref 50), some (.int p1), some (.int p2), some (.int p3)], [], h) = some (27, [some (.ref 50), some (.int p1), some (.int p2), some (.int p3)], [.int 1], h)) (fun hs => ?_)
        exact K125 hs
set_option maxRecDepth 100000 in
set_option maxHeartbeats 400000 in
theorem f_Course_doThings_50_l0_k109_t {x : zm_X} {d : Nat} (v1 : Int32) (h : zm_H) (o2 : Option Value) {Q : Option Value → zm_H → Prop} {FN : Nat × zm_H → Prop} (hs : zSh zT0 h) (ho : f_Course_doThings_50_l0_k109_ok v1 h) (hF : FN (f_Course_doThings_50_l0_k109 v1 h)) (hl0 : ∀ (h : zm_H) (o2 : Option Value), zSh zT0 h → FN (0, h) → zg x (d + 4) 8 0 [some (.ref 50), some (.int v1), o2] [] h Q) (hl1 : ∀ (h : zm_H) (o2 : Option Value), zSh zT0 h → FN (1, h) → zg x (d + 4) 8 122 [some (.ref 50), some (.int v1), o2] [] h Q) : zg x (d + 4) 8 109 [some (.ref 50), some (.int v1), o2] [] h Q := by
  unfold f_Course_doThings_50_l0_k109 at hF
  unfold f_Course_doThings_50_l0_k109_ok at ho
  refine zg_blk zd_8 7 hs (rfl : zb x zT0 zc_8 7 (109, [some (.ref 50), some (.int v1), o2], [], h) = some (0, [some (.ref 50), some (.int v1), o2], [], (zp h 50 4 ((zf h 50 4) + 1)))) (fun hs => ?_)
  exact hl0 (zp h 50 4 ((zf h 50 4) + 1)) (o2) hs hF
set_option maxRecDepth 100000 in
set_option maxHeartbeats 400000 in
theorem f_Course_doThing_50_l22_k37_t {x : zm_X} {d : Nat} (v2 : Int32) (v4 : Int32) (v5 : Int32) (h : zm_H) (o1 : Option Value) (o3 : Option Value) {Q : Option Value → zm_H → Prop} {FN : Nat × Int32 × zm_H → Prop} (hs : zSh zT0 h) (ho : f_Course_doThing_50_l22_k37_ok v2 v4 v5 h) (hF : FN (f_Course_doThing_50_l22_k37 v2 v4 v5 h)) (hl0 : ∀ (v5 : Int32) (h : zm_H) (o1 : Option Value) (o3 : Option Value), zSh zT0 h → FN (0, v5, h) → zg x (d + 3) 9 22 [some (.ref 50), o1, some (.int v2), o3, some (.int v4), some (.int v5)] [] h Q) (hl1 : ∀ (v5 : Int32) (h : zm_H) (o1 : Option Value) (o3 : Option Value) (o5 : Option Value), zSh zT0 h → FN (1, v5, h) → zg x (d + 3) 9 43 [some (.ref 50), o1, some (.int v2), o3, some (.int v4), o5] [] h Q) : zg x (d + 3) 9 37 [some (.ref 50), o1, some (.int v2), o3, some (.int v4), some (.int v5)] [] h Q := by
  unfold f_Course_doThing_50_l22_k37 at hF
  unfold f_Course_doThing_50_l22_k37_ok at ho
  refine zg_blk zd_9 2 hs (rfl : zb x zT0 zc_9 2 (37, [some (.ref 50), o1, some (.int v2), o3, some (.int v4), some (.int v5)], [], h) = some (22, [some (.ref 50), o1, some (.int v2), o3, some (.int v4), some (.int (v5 + 1))], [], h)) (fun hs => ?_)
  exact hl0 (v5 + 1) h (o1) (o3) hs hF
set_option maxRecDepth 100000 in
set_option maxHeartbeats 400000 in
theorem f_Course_doThing_50_l22_b_t {x : zm_X} {d : Nat} (v2 : Int32) (v4 : Int32) (v5 : Int32) (h : zm_H) (o1 : Option Value) (o3 : Option Value) {Q : Option Value → zm_H → Prop} {FN : Nat × Int32 × zm_H → Prop} (hs : zSh zT0 h) (ho : f_Course_doThing_50_l22_b_ok v2 v4 v5 h) (hF : FN (f_Course_doThing_50_l22_b v2 v4 v5 h)) (hl0 : ∀ (v5 : Int32) (h : zm_H) (o1 : Option Value) (o3 : Option Value), zSh zT0 h → FN (0, v5, h) → zg x (d + 3) 9 22 [some (.ref 50), o1, some (.int v2), o3, some (.int v4), some (.int v5)] [] h Q) (hl1 : ∀ (v5 : Int32) (h : zm_H) (o1 : Option Value) (o3 : Option Value) (o5 : Option Value), zSh zT0 h → FN (1, v5, h) → zg x (d + 3) 9 43 [some (.ref 50), o1, some (.int v2), o3, some (.int v4), o5] [] h Q) : zg x (d + 3) 9 22 [some (.ref 50), o1, some (.int v2), o3, some (.int v4), some (.int v5)] [] h Q := by
  unfold f_Course_doThing_50_l22_b at hF
  unfold f_Course_doThing_50_l22_b_ok at ho
  refine zg_blk zd_9 2 hs (rfl : zb x zT0 zc_9 2 (22, [some (.ref 50), o1, some (.int v2), o3, some (.int v4), some (.int v5)], [], h) = some (25, [some (.ref 50), o1, some (.int v2), o3, some (.int v4), some (.int v5)], [.int 3, .int v5], h)) (fun hs => ?_)
  refine zg_i_ge zd_9 rfl (fun (hc : (3 ≤ v5)) => ?_) (fun (hc : ¬ (3 ≤ v5)) => ?_)
  · have ho := ho.1 hc
    rw [if_pos hc] at hF
    exact hl1 v5 h (o1) (o3) (some (.int v5)) hs hF
  · have ho := ho.2 hc
    rw [if_neg hc] at hF
    refine zg_blk zd_9 4 hs (rfl : zb x zT0 zc_9 4 (28, [some (.ref 50), o1, some (.int v2), o3, some (.int v4), some (.int v5)], [], h) = some (34, [some (.ref 50), o1, some (.int v2), o3, some (.int v4), some (.int v5)], [.int v4, .int v5, .int v2, .ref 50], h)) (fun hs => ?_)
    have hob := ho
    refine zg_call hs zd_9 rfl rfl rfl rfl (as := [.ref 50, .int v2, .int v5, .int v4]) (rest := []) (en := [some (.ref 50), some (.int v2), some (.int v5), some (.int v4)]) rfl rfl rfl rfl rfl ?_
    refine f_Course_renewChain_50_t v2 v5 v4 h hs hob (fun hs => ?_)
    show zg x (d + 3) 9 37 [some (.ref 50), o1, some (.int v2), o3, some (.int v4), some (.int v5)] [] (f_Course_renewChain_50 v2 v5 v4 h) Q
    exact f_Course_doThing_50_l22_k37_t v2 v4 v5 (f_Course_renewChain_50 v2 v5 v4 h) (o1) (o3) hs trivial hF hl0 hl1
theorem f_Course_doThing_50_l22_t {x : zm_X} {d : Nat} (v2 : Int32) (v4 : Int32) {Q : Option Value → zm_H → Prop} (G : Nat × Int32 × zm_H → Prop) (hx1 : ∀ (v5 : Int32) (h : zm_H) (o1 : Option Value) (o3 : Option Value) (o5 : Option Value), zSh zT0 h → G (1, v5, h) → zg x (d + 3) 9 43 [some (.ref 50), o1, some (.int v2), o3, some (.int v4), o5] [] h Q) : ∀ (n : Nat) (v5 : Int32) (h : zm_H) (o1 : Option Value) (o3 : Option Value), zSh zT0 h → f_Course_doThing_50_l22_ok v2 v4 n (v5, h) → G (f_Course_doThing_50_l22 v2 v4 n (v5, h)) → zg x (d + 3) 9 22 [some (.ref 50), o1, some (.int v2), o3, some (.int v4), some (.int v5)] [] h Q := by
  intro n
  induction n with
  | zero => intro v5 h o1 o3 hs ho hG; exact ho.elim
  | succ n ih =>
    intro v5 h o1 o3 hs ho hG
    refine f_Course_doThing_50_l22_b_t (FN := fun r => (r.1 = 0 → f_Course_doThing_50_l22_ok v2 v4 n r.2) ∧ G (if r.1 = 0 then f_Course_doThing_50_l22 v2 v4 n r.2 else r)) v2 v4 v5 h o1 o3 hs ho.1 ⟨ho.2, hG⟩ ?_ ?_
    · intro v5 h o1 o3 hs hF
      exact ih v5 h o1 o3 hs (hF.1 rfl) hF.2
    · intro v5 h o1 o3 o5 hs hF
      exact hx1 v5 h o1 o3 o5 hs hF.2

set_option maxRecDepth 100000 in
set_option maxHeartbeats 400000 in
theorem f_Course_doThing_50_k43_t {x : zm_X} {d : Nat} (h : zm_H) (o0 : Option Value) (o1 : Option Value) (o2 : Option Value) (o3 : Option Value) (z4 : Int32) (o5 : Option Value) {Q : Option Value → zm_H → Prop} (hs : zSh zT0 h) (ho : f_Course_doThing_50_k43_ok h) (hF : (zSh zT0 (f_Course_doThing_50_k43 h) → Q none (f_Course_doThing_50_k43 h))) : zg x (d + 3) 9 43 [o0, o1, o2, o3, some (.int z4), o5] [] h Q := by
  unfold f_Course_doThing_50_k43 at hF
  unfold f_Course_doThing_50_k43_ok at ho
  refine zg_blk zd_9 1 hs (rfl : zb x zT0 zc_9 1 (43, [o0, o1, o2, o3, some (.int z4), o5], [], h) = some (82, [o0, o1, o2, o3, some (.int z4), o5], [], h)) (fun hs => ?_)
  exact zg_ret zd_9 rfl rfl (hF hs)
set_option maxRecDepth 100000 in
set_option maxHeartbeats 400000 in
theorem f_Course_doThing_50_t {x : zm_X} {d : Nat} (p1 : Int32) (p2 : Int32) (p3 : Int32) (p4 : Int32) (h : zm_H) {Q : Option Value → zm_H → Prop} (hs : zSh zT0 h) (ho : f_Course_doThing_50_ok p1 p2 p3 p4 h) (hF : (zSh zT0 (f_Course_doThing_50 p1 p2 p3 p4 h) → Q none (f_Course_doThing_50 p1 p2 p3 p4 h))) : zg x (d + 3) 9 0 [some (.ref 50), some (.int p1), some (.int p2), some (.int p3), some (.int p4), none] [] h Q := by
  unfold f_Course_doThing_50 at hF
  unfold f_Course_doThing_50_ok at ho
  refine zg_blk zd_9 2 hs (rfl : zb x zT0 zc_9 2 (0, [some (.ref 50), some (.int p1), some (.int p2), some (.int p3), some (.int p4), none], [], h) = some (2, [some (.ref 50), some (.int p1), some (.int p2), some (.int p3), some (.int p4), none], [.int 5, .int p1], h)) (fun hs => ?_)
  refine zg_i_ne zd_9 rfl (fun (hc : ¬ (p1 = 5)) => ?_) (fun (hc : (p1 = 5)) => ?_)
  · have ho := ho.2 hc
    rw [if_neg hc] at hF
    refine zg_blk zd_9 2 hs (rfl : zb x zT0 zc_9 2 (46, [some (.ref 50), some (.int p1), some (.int p2), some (.int p3), some (.int p4), none], [], h) = some (48, [some (.ref 50), some (.int p1), some (.int p2), some (.int p3), some (.int p4), none], [.int 4, .int p1], h)) (fun hs => ?_)
    refine zg_i_ne zd_9 rfl (fun (hc : ¬ (p1 = 4)) => ?_) (fun (hc : (p1 = 4)) => ?_)
    · have ho := ho.2 hc
      rw [if_neg hc] at hF
      refine zg_blk zd_9 2 hs (rfl : zb x zT0 zc_9 2 (59, [some (.ref 50), some (.int p1), some (.int p2), some (.int p3), some (.int p4), none], [], h) = some (61, [some (.ref 50), some (.int p1), some (.int p2), some (.int p3), some (.int p4), none], [.int 3, .int p1], h)) (fun hs => ?_)
      refine zg_i_ne zd_9 rfl (fun (hc : ¬ (p1 = 3)) => ?_) (fun (hc : (p1 = 3)) => ?_)
      · have ho := ho.2 hc
        rw [if_neg hc] at hF
        refine zg_blk zd_9 4 hs (rfl : zb x zT0 zc_9 4 (74, [some (.ref 50), some (.int p1), some (.int p2), some (.int p3), some (.int p4), none], [], h) = some (79, [some (.ref 50), some (.int p1), some (.int p2), some (.int p3), some (.int p4), none], [.int p4, .int p1, .int p2, .ref 50], h)) (fun hs => ?_)
        have hob := ho
        refine zg_call hs zd_9 rfl rfl rfl rfl (as := [.ref 50, .int p2, .int p1, .int p4]) (rest := []) (en := [some (.ref 50), some (.int p2), some (.int p1), some (.int p4)]) rfl rfl rfl rfl rfl ?_
        refine f_Course_renewChain_50_t p2 p1 p4 h hs hob (fun hs => ?_)
        show zg x (d + 3) 9 82 [some (.ref 50), some (.int p1), some (.int p2), some (.int p3), some (.int p4), none] [] (f_Course_renewChain_50 p2 p1 p4 h) Q
        exact zg_ret zd_9 rfl rfl (hF hs)
      · have ho := ho.1 hc
        rw [if_pos hc] at hF
        refine zg_blk zd_9 4 hs (rfl : zb x zT0 zc_9 4 (64, [some (.ref 50), some (.int p1), some (.int p2), some (.int p3), some (.int p4), none], [], h) = some (70, [some (.ref 50), some (.int p1), some (.int p2), some (.int p3), some (.int p4), none], [.int 0, .int p2, .ref 53], h)) (fun hs => ?_)
        have hob := ho
        refine zg_ias hs zd_9 rfl rfl hob (fun hs => ?_)
        refine zg_blk zd_9 1 hs (rfl : zb x zT0 zc_9 1 (71, [some (.ref 50), some (.int p1), some (.int p2), some (.int p3), some (.int p4), none], [], (zs h 53 p2 0)) = some (82, [some (.ref 50), some (.int p1), some (.int p2), some (.int p3), some (.int p4), none], [], (zs h 53 p2 0))) (fun hs => ?_)
        exact zg_ret zd_9 rfl rfl (hF hs)
    · have ho := ho.1 hc
      rw [if_pos hc] at hF
      refine zg_blk zd_9 2 hs (rfl : zb x zT0 zc_9 2 (51, [some (.ref 50), some (.int p1), some (.int p2), some (.int p3), some (.int p4), none], [], h) = some (53, [some (.ref 50), some (.int p1), some (.int p2), some (.int p3), some (.int p4), none], [.int p2, .ref 50], h)) (fun hs => ?_)
      have hob := ho
      refine zg_call hs zd_9 rfl rfl rfl rfl (as := [.ref 50, .int p2]) (rest := []) (en := [some (.ref 50), some (.int p2), none]) rfl rfl rfl rfl rfl ?_
      refine f_Course_bringHome_50_t p2 h hs hob (fun hs => ?_)
      show zg x (d + 3) 9 56 [some (.ref 50), some (.int p1), some (.int p2), some (.int p3), some (.int p4), none] [] (f_Course_bringHome_50 p2 h) Q
      refine zg_blk zd_9 1 hs (rfl : zb x zT0 zc_9 1 (56, [some (.ref 50), some (.int p1), some (.int p2), some (.int p3), some (.int p4), none], [], (f_Course_bringHome_50 p2 h)) = some (82, [some (.ref 50), some (.int p1), some (.int p2), some (.int p3), some (.int p4), none], [], (f_Course_bringHome_50 p2 h))) (fun hs => ?_)
      exact zg_ret zd_9 rfl rfl (hF hs)
  · have ho := ho.1 hc
    rw [if_pos hc] at hF
    refine zg_blk zd_9 4 hs (rfl : zb x zT0 zc_9 4 (5, [some (.ref 50), some (.int p1), some (.int p2), some (.int p3), some (.int p4), none], [], h) = some (11, [some (.ref 50), some (.int p1), some (.int p2), some (.int p3), some (.int p4), none], [.int 1, .int p2, .ref 51], h)) (fun hs => ?_)
    obtain ⟨hob, ho⟩ := ho
    refine zg_ias hs zd_9 rfl rfl hob (fun hs => ?_)
    refine zg_blk zd_9 4 hs (rfl : zb x zT0 zc_9 4 (12, [some (.ref 50), some (.int p1), some (.int p2), some (.int p3), some (.int p4), none], [], (zs h 51 p2 1)) = some (18, [some (.ref 50), some (.int p1), some (.int p2), some (.int p3), some (.int p4), none], [.int p3, .int p2, .ref 52], (zs h 51 p2 1))) (fun hs => ?_)
    obtain ⟨hob, ho⟩ := ho
    refine zg_ias hs zd_9 rfl rfl hob (fun hs => ?_)
    refine zg_blk zd_9 2 hs (rfl : zb x zT0 zc_9 2 (19, [some (.ref 50), some (.int p1), some (.int p2), some (.int p3), some (.int p4), none], [], (zs (zs h 51 p2 1) 52 p2 p3)) = some (22, [some (.ref 50), some (.int p1), some (.int p2), some (.int p3), some (.int p4), some (.int 0)], [], (zs (zs h 51 p2 1) 52 p2 p3))) (fun hs => ?_)
    refine f_Course_doThing_50_l22_t p2 p4 (fun r => f_Course_doThing_50_a22_ok r ∧ (zSh zT0 (f_Course_doThing_50_a22 r) → Q none (f_Course_doThing_50_a22 r))) ?_ zF 0 (zs (zs h 51 p2 1) 52 p2 p3) (some (.int p1)) (some (.int p3)) hs ho.1 ⟨ho.2, hF⟩
    · intro v5_ h_ o1_ o3_ o5_ hs hG
      have ho : True := trivial
      have hF : (zSh zT0 ((f_Course_doThing_50_k43 h_)) → Q none ((f_Course_doThing_50_k43 h_))) := hG.2
      exact f_Course_doThing_50_k43_t h_ (some (.ref 50)) (o1_) (some (.int p2)) (o3_) p4 (o5_) hs trivial hF
set_option maxRecDepth 100000 in
set_option maxHeartbeats 400000 in
theorem f_Course_doThings_50_l0_b_t {x : zm_X} {d : Nat} (v1 : Int32) (h : zm_H) (o2 : Option Value) {Q : Option Value → zm_H → Prop} {FN : Nat × zm_H → Prop} (hs : zSh zT0 h) (ho : f_Course_doThings_50_l0_b_ok v1 h) (hF : FN (f_Course_doThings_50_l0_b v1 h)) (hl0 : ∀ (h : zm_H) (o2 : Option Value), zSh zT0 h → FN (0, h) → zg x (d + 4) 8 0 [some (.ref 50), some (.int v1), o2] [] h Q) (hl1 : ∀ (h : zm_H) (o2 : Option Value), zSh zT0 h → FN (1, h) → zg x (d + 4) 8 122 [some (.ref 50), some (.int v1), o2] [] h Q) : zg x (d + 4) 8 0 [some (.ref 50), some (.int v1), o2] [] h Q := by
  unfold f_Course_doThings_50_l0_b at hF
  unfold f_Course_doThings_50_l0_b_ok at ho
  refine zg_blk zd_8 5 hs (rfl : zb x zT0 zc_8 5 (0, [some (.ref 50), some (.int v1), o2], [], h) = some (11, [some (.ref 50), some (.int v1), o2], [.int (zf h 23 4), .int (zf h 50 4)], h)) (fun hs => ?_)
  refine zg_i_ge zd_8 rfl (fun (hc : ((zf h 23 4) ≤ (zf h 50 4))) => ?_) (fun (hc : ¬ ((zf h 23 4) ≤ (zf h 50 4))) => ?_)
  · have ho := ho.1 hc
    rw [if_pos hc] at hF
    exact hl1 h (o2) hs hF
  · have ho := ho.2 hc
    rw [if_neg hc] at hF
    refine zg_blk zd_8 5 hs (rfl : zb x zT0 zc_8 5 (14, [some (.ref 50), some (.int v1), o2], [], h) = some (25, [some (.ref 50), some (.int v1), o2], [.int (zf h 50 4), .ref 27], h)) (fun hs => ?_)
    obtain ⟨hob, ho⟩ := ho
    refine zg_ial hs zd_8 rfl rfl hob ?_
    refine zg_blk zd_8 1 hs (rfl : zb x zT0 zc_8 1 (26, [some (.ref 50), some (.int v1), o2], [.int (zr h 27 (zf h 50 4))], h) = some (27, [some (.ref 50), some (.int v1), o2], [.int v1, .int (zr h 27 (zf h 50 4))], h)) (fun hs => ?_)
    refine zg_i_gt zd_8 rfl (fun (hc : (v1 < (zr h 27 (zf h 50 4)))) => ?_) (fun (hc : ¬ (v1 < (zr h 27 (zf h 50 4)))) => ?_)
    · have ho := ho.1 hc
      rw [if_pos hc] at hF
      exact hl1 h (o2) hs hF
    · have ho := ho.2 hc
      rw [if_neg hc] at hF
      refine zg_blk zd_8 8 hs (rfl : zb x zT0 zc_8 8 (30, [some (.ref 50), some (.int v1), o2], [], h) = some (44, [some (.ref 50), some (.int v1), some (.int (zf h 50 4))], [.int (zf h 50 4), .ref 28, .ref 50], h)) (fun hs => ?_)
      obtain ⟨hob, ho⟩ := ho
      refine zg_ial hs zd_8 rfl rfl hob ?_
      refine zg_blk zd_8 4 hs (rfl : zb x zT0 zc_8 4 (45, [some (.ref 50), some (.int v1), some (.int (zf h 50 4))], [.int (zr h 28 (zf h 50 4)), .ref 50], h) = some (53, [some (.ref 50), some (.int v1), some (.int (zf h 50 4))], [.int (zf h 50 4), .ref 29, .int (zr h 28 (zf h 50 4)), .ref 50], h)) (fun hs => ?_)
      obtain ⟨hob, ho⟩ := ho
      refine zg_ial hs zd_8 rfl rfl hob ?_
      refine zg_blk zd_8 4 hs (rfl : zb x zT0 zc_8 4 (54, [some (.ref 50), some (.int v1), some (.int (zf h 50 4))], [.int (zr h 29 (zf h 50 4)), .int (zr h 28 (zf h 50 4)), .ref 50], h) = some (62, [some (.ref 50), some (.int v1), some (.int (zf h 50 4))], [.int (zf h 50 4), .ref 30, .int (zr h 29 (zf h 50 4)), .int (zr h 28 (zf h 50 4)), .ref 50], h)) (fun hs => ?_)
      obtain ⟨hob, ho⟩ := ho
      refine zg_ial hs zd_8 rfl rfl hob ?_
      obtain ⟨hob, ho⟩ := ho
      refine zg_call hs zd_8 rfl rfl rfl rfl (as := [.ref 50, .int (zr h 28 (zf h 50 4)), .int (zr h 29 (zf h 50 4)), .int (zr h 30 (zf h 50 4))]) (rest := []) (en := [some (.ref 50), some (.int (zr h 28 (zf h 50 4))), some (.int (zr h 29 (zf h 50 4))), some (.int (zr h 30 (zf h 50 4)))]) rfl rfl rfl rfl rfl ?_
      refine f_Course_isDoable_50_t (zr h 28 (zf h 50 4)) (zr h 29 (zf h 50 4)) (zr h 30 (zf h 50 4)) h hs hob ?_
      show zg x (d + 4) 8 66 [some (.ref 50), some (.int v1), some (.int (zf h 50 4))] [.int (f_Course_isDoable_50 (zr h 28 (zf h 50 4)) (zr h 29 (zf h 50 4)) (zr h 30 (zf h 50 4)) h)] h Q
      refine zg_f_eq zd_8 rfl (fun (hc : ((f_Course_isDoable_50 (zr h 28 (zf h 50 4)) (zr h 29 (zf h 50 4)) (zr h 30 (zf h 50 4)) h) = 0)) => ?_) (fun (hc : ¬ ((f_Course_isDoable_50 (zr h 28 (zf h 50 4)) (zr h 29 (zf h 50 4)) (zr h 30 (zf h 50 4)) h) = 0)) => ?_)
      · have ho := ho.1 hc
        rw [if_pos hc] at hF
        exact f_Course_doThings_50_l0_k109_t v1 h (some (.int (zf h 50 4))) hs trivial hF hl0 hl1
      · have ho := ho.2 hc
        rw [if_neg hc] at hF
        refine zg_blk zd_8 5 hs (rfl : zb x zT0 zc_8 5 (69, [some (.ref 50), some (.int v1), some (.int (zf h 50 4))], [], h) = some (78, [some (.ref 50), some (.int v1), some (.int (zf h 50 4))], [.int (zf h 50 4), .ref 28, .ref 50], h)) (fun hs => ?_)
        obtain ⟨hob, ho⟩ := ho
        refine zg_ial hs zd_8 rfl rfl hob ?_
        refine zg_blk zd_8 4 hs (rfl : zb x zT0 zc_8 4 (79, [some (.ref 50), some (.int v1), some (.int (zf h 50 4))], [.int (zr h 28 (zf h 50 4)), .ref 50], h) = some (87, [some (.ref 50), some (.int v1), some (.int (zf h 50 4))], [.int (zf h 50 4), .ref 29, .int (zr h 28 (zf h 50 4)), .ref 50], h)) (fun hs => ?_)
        obtain ⟨hob, ho⟩ := ho
        refine zg_ial hs zd_8 rfl rfl hob ?_
        refine zg_blk zd_8 4 hs (rfl : zb x zT0 zc_8 4 (88, [some (.ref 50), some (.int v1), some (.int (zf h 50 4))], [.int (zr h 29 (zf h 50 4)), .int (zr h 28 (zf h 50 4)), .ref 50], h) = some (96, [some (.ref 50), some (.int v1), some (.int (zf h 50 4))], [.int (zf h 50 4), .ref 30, .int (zr h 29 (zf h 50 4)), .int (zr h 28 (zf h 50 4)), .ref 50], h)) (fun hs => ?_)
        obtain ⟨hob, ho⟩ := ho
        refine zg_ial hs zd_8 rfl rfl hob ?_
        refine zg_blk zd_8 4 hs (rfl : zb x zT0 zc_8 4 (97, [some (.ref 50), some (.int v1), some (.int (zf h 50 4))], [.int (zr h 30 (zf h 50 4)), .int (zr h 29 (zf h 50 4)), .int (zr h 28 (zf h 50 4)), .ref 50], h) = some (105, [some (.ref 50), some (.int v1), some (.int (zf h 50 4))], [.int (zf h 50 4), .ref 31, .int (zr h 30 (zf h 50 4)), .int (zr h 29 (zf h 50 4)), .int (zr h 28 (zf h 50 4)), .ref 50], h)) (fun hs => ?_)
        obtain ⟨hob, ho⟩ := ho
        refine zg_ial hs zd_8 rfl rfl hob ?_
        have hob := ho
        refine zg_call hs zd_8 rfl rfl rfl rfl (as := [.ref 50, .int (zr h 28 (zf h 50 4)), .int (zr h 29 (zf h 50 4)), .int (zr h 30 (zf h 50 4)), .int (zr h 31 (zf h 50 4))]) (rest := []) (en := [some (.ref 50), some (.int (zr h 28 (zf h 50 4))), some (.int (zr h 29 (zf h 50 4))), some (.int (zr h 30 (zf h 50 4))), some (.int (zr h 31 (zf h 50 4))), none]) rfl rfl rfl rfl rfl ?_
        refine f_Course_doThing_50_t (zr h 28 (zf h 50 4)) (zr h 29 (zf h 50 4)) (zr h 30 (zf h 50 4)) (zr h 31 (zf h 50 4)) h hs hob (fun hs => ?_)
        show zg x (d + 4) 8 109 [some (.ref 50), some (.int v1), some (.int (zf h 50 4))] [] (f_Course_doThing_50 (zr h 28 (zf h 50 4)) (zr h 29 (zf h 50 4)) (zr h 30 (zf h 50 4)) (zr h 31 (zf h 50 4)) h) Q
        exact f_Course_doThings_50_l0_k109_t v1 (f_Course_doThing_50 (zr h 28 (zf h 50 4)) (zr h 29 (zf h 50 4)) (zr h 30 (zf h 50 4)) (zr h 31 (zf h 50 4)) h) (some (.int (zf h 50 4))) hs trivial hF hl0 hl1
theorem f_Course_doThings_50_l0_t {x : zm_X} {d : Nat} (v1 : Int32) {Q : Option Value → zm_H → Prop} (G : Nat × zm_H → Prop) (hx1 : ∀ (h : zm_H) (o2 : Option Value), zSh zT0 h → G (1, h) → zg x (d + 4) 8 122 [some (.ref 50), some (.int v1), o2] [] h Q) : ∀ (n : Nat) (h : zm_H) (o2 : Option Value), zSh zT0 h → f_Course_doThings_50_l0_ok v1 n h → G (f_Course_doThings_50_l0 v1 n h) → zg x (d + 4) 8 0 [some (.ref 50), some (.int v1), o2] [] h Q := by
  intro n
  induction n with
  | zero => intro h o2 hs ho hG; exact ho.elim
  | succ n ih =>
    intro h o2 hs ho hG
    refine f_Course_doThings_50_l0_b_t (FN := fun r => (r.1 = 0 → f_Course_doThings_50_l0_ok v1 n r.2) ∧ G (if r.1 = 0 then f_Course_doThings_50_l0 v1 n r.2 else r)) v1 h o2 hs ho.1 ⟨ho.2, hG⟩ ?_ ?_
    · intro h o2 hs hF
      exact ih h o2 hs (hF.1 rfl) hF.2
    · intro h o2 hs hF
      exact hx1 h o2 hs hF.2

set_option maxRecDepth 100000 in
set_option maxHeartbeats 400000 in
theorem f_Course_doThings_50_k122_t {x : zm_X} {d : Nat} (h : zm_H) (o0 : Option Value) (z1 : Int32) (o2 : Option Value) {Q : Option Value → zm_H → Prop} (hs : zSh zT0 h) (ho : f_Course_doThings_50_k122_ok h) (hF : (zSh zT0 (f_Course_doThings_50_k122 h) → Q none (f_Course_doThings_50_k122 h))) : zg x (d + 4) 8 122 [o0, some (.int z1), o2] [] h Q := by
  unfold f_Course_doThings_50_k122 at hF
  unfold f_Course_doThings_50_k122_ok at ho
  exact zg_ret zd_8 rfl rfl (hF hs)
set_option maxRecDepth 100000 in
set_option maxHeartbeats 400000 in
theorem f_Course_doThings_50_t {x : zm_X} {d : Nat} (p1 : Int32) (h : zm_H) {Q : Option Value → zm_H → Prop} (hs : zSh zT0 h) (ho : f_Course_doThings_50_ok p1 h) (hF : (zSh zT0 (f_Course_doThings_50 p1 h) → Q none (f_Course_doThings_50 p1 h))) : zg x (d + 4) 8 0 [some (.ref 50), some (.int p1), none] [] h Q := by
  unfold f_Course_doThings_50 at hF
  unfold f_Course_doThings_50_ok at ho
  refine f_Course_doThings_50_l0_t p1 (fun r => f_Course_doThings_50_a0_ok r ∧ (zSh zT0 (f_Course_doThings_50_a0 r) → Q none (f_Course_doThings_50_a0 r))) ?_ zF h (none) hs ho.1 ⟨ho.2, hF⟩
  · intro h_ o2_ hs hG
    have ho : True := trivial
    have hF : (zSh zT0 ((f_Course_doThings_50_k122 h_)) → Q none ((f_Course_doThings_50_k122 h_))) := hG.2
    exact f_Course_doThings_50_k122_t h_ (some (.ref 50)) p1 (o2_) hs trivial hF
set_option maxRecDepth 100000 in
set_option maxHeartbeats 400000 in
theorem f_Course_sinkAndRise_50_l23_k106_t {x : zm_X} {d : Nat} (v2 : Int32) (v3 : Int32) (v4 : Int32) (h : zm_H) (z1 : Int32) {Q : Option Value → zm_H → Prop} {FN : Nat × Int32 × zm_H → Prop} (hs : zSh zT0 h) (ho : f_Course_sinkAndRise_50_l23_k106_ok v2 v3 v4 h) (hF : FN (f_Course_sinkAndRise_50_l23_k106 v2 v3 v4 h)) (hl0 : ∀ (v4 : Int32) (h : zm_H) (z1 : Int32), zSh zT0 h → FN (0, v4, h) → zg x (d + 4) 13 23 [some (.ref 50), some (.int z1), some (.int v2), some (.int v3), some (.int v4)] [] h Q) (hl1 : ∀ (v4 : Int32) (h : zm_H) (z1 : Int32) (o4 : Option Value), zSh zT0 h → FN (1, v4, h) → zg x (d + 4) 13 112 [some (.ref 50), some (.int z1), some (.int v2), some (.int v3), o4] [] h Q) : zg x (d + 4) 13 106 [some (.ref 50), some (.int z1), some (.int v2), some (.int v3), some (.int v4)] [] h Q := by
  unfold f_Course_sinkAndRise_50_l23_k106 at hF
  unfold f_Course_sinkAndRise_50_l23_k106_ok at ho
  refine zg_blk zd_13 2 hs (rfl : zb x zT0 zc_13 2 (106, [some (.ref 50), some (.int z1), some (.int v2), some (.int v3), some (.int v4)], [], h) = some (23, [some (.ref 50), some (.int z1), some (.int v2), some (.int v3), some (.int (v4 + 1))], [], h)) (fun hs => ?_)
  exact hl0 (v4 + 1) h z1 hs hF
set_option maxRecDepth 100000 in
set_option maxHeartbeats 400000 in
theorem f_Course_holds_50_t {x : zm_X} {d : Nat} (p1 : Int32) (h : zm_H) {Q : Option Value → zm_H → Prop} (hs : zSh zT0 h) (ho : f_Course_holds_50_ok p1 h) (hF : Q (some (.int (f_Course_holds_50 p1 h))) h) : zg x (d + 1) 16 0 [some (.ref 50), some (.int p1)] [] h Q := by
  unfold f_Course_holds_50 at hF
  unfold f_Course_holds_50_ok at ho
  refine zg_blk zd_16 3 hs (rfl : zb x zT0 zc_16 3 (0, [some (.ref 50), some (.int p1)], [], h) = some (5, [some (.ref 50), some (.int p1)], [.int p1, .ref 56], h)) (fun hs => ?_)
  obtain ⟨hob, ho⟩ := ho
  refine zg_ial hs zd_16 rfl rfl hob ?_
  have hom := ho
  have K126 : zSh zT0 h → zg x (d + 1) 16 24 [some (.ref 50), some (.int p1)] [.int (if (¬ ((zr h 56 p1) ≤ 0) ∧ ((zr h 58 p1) = (-1))) then (1 : Int32) else 0)] h Q := fun hs => by
    exact zg_rtz zd_16 rfl rfl zm_nb01 hF
  refine zg_f_le zd_16 rfl (fun (hc : ((zr h 56 p1) ≤ 0)) => ?_) (fun (hc : ¬ ((zr h 56 p1) ≤ 0)) => ?_)
  · have ho := hom.1 hc
    rw [show ((if (¬ ((zr h 56 p1) ≤ 0) ∧ ((zr h 58 p1) = (-1))) then (1 : Int32) else 0) : Int32) = 0 from zb_nand_t hc] at K126
    refine zg_blk zd_16 1 hs (rfl : zb x zT0 zc_16 1 (23, [some (.ref 50), some (.int p1)], [], h) = some (24, [some (.ref 50), some (.int p1)], [.int 0], h)) (fun hs => ?_)
    exact K126 hs
  · have ho := hom.2 hc
    rw [show ((if (¬ ((zr h 56 p1) ≤ 0) ∧ ((zr h 58 p1) = (-1))) then (1 : Int32) else 0) : Int32) = (if ((zr h 58 p1) = (-1)) then (1 : Int32) else 0) from zb_nand_f hc] at K126
    refine zg_blk zd_16 3 hs (rfl : zb x zT0 zc_16 3 (9, [some (.ref 50), some (.int p1)], [], h) = some (14, [some (.ref 50), some (.int p1)], [.int p1, .ref 58], h)) (fun hs => ?_)
    have hob := ho
    refine zg_ial hs zd_16 rfl rfl hob ?_
    refine zg_blk zd_16 1 hs (rfl : zb x zT0 zc_16 1 (15, [some (.ref 50), some (.int p1)], [.int (zr h 58 p1)], h) = some (16, [some (.ref 50), some (.int p1)], [.int (-1), .int (zr h 58 p1)], h)) (fun hs => ?_)
    refine zg_i_ne zd_16 rfl (fun (hc : ¬ ((zr h 58 p1) = (-1))) => ?_) (fun (hc : ((zr h 58 p1) = (-1))) => ?_)
    · skip
      rw [show ((if ((zr h 58 p1) = (-1)) then (1 : Int32) else 0) : Int32) = 0 from if_neg hc] at K126
      refine zg_blk zd_16 1 hs (rfl : zb x zT0 zc_16 1 (23, [some (.ref 50), some (.int p1)], [], h) = some (24, [some (.ref 50), some (.int p1)], [.int 0], h)) (fun hs => ?_)
      exact K126 hs
    · skip
      rw [show ((if ((zr h 58 p1) = (-1)) then (1 : Int32) else 0) : Int32) = 1 from if_pos hc] at K126
      refine zg_blk zd_16 2 hs (rfl : zb x zT0 zc_16 2 (19, [some (.ref 50), some (.int p1)], [], h) = some (24, [some (.ref 50), some (.int p1)], [.int 1], h)) (fun hs => ?_)
      exact K126 hs
set_option maxRecDepth 100000 in
set_option maxHeartbeats 400000 in
theorem f_Course_hold_50_t {x : zm_X} {d : Nat} (p1 : Int32) (h : zm_H) {Q : Option Value → zm_H → Prop} (hs : zSh zT0 h) (ho : f_Course_hold_50_ok p1 h) (hF : Q (some (.int (f_Course_hold_50 p1 h))) h) : zg x (d + 1) 17 0 [some (.ref 50), some (.int p1)] [] h Q := by
  unfold f_Course_hold_50 at hF
  unfold f_Course_hold_50_ok at ho
  refine zg_blk zd_17 3 hs (rfl : zb x zT0 zc_17 3 (0, [some (.ref 50), some (.int p1)], [], h) = some (5, [some (.ref 50), some (.int p1)], [.int p1, .ref 56], h)) (fun hs => ?_)
  obtain ⟨hob, ho⟩ := ho
  refine zg_ial hs zd_17 rfl rfl hob ?_
  refine zg_blk zd_17 3 hs (rfl : zb x zT0 zc_17 3 (6, [some (.ref 50), some (.int p1)], [.int (zr h 56 p1)], h) = some (11, [some (.ref 50), some (.int p1)], [.int p1, .ref 57, .int (zr h 56 p1)], h)) (fun hs => ?_)
  have hob := ho
  refine zg_ial hs zd_17 rfl rfl hob ?_
  refine zg_blk zd_17 3 hs (rfl : zb x zT0 zc_17 3 (12, [some (.ref 50), some (.int p1)], [.int (zr h 57 p1), .int (zr h 56 p1)], h) = some (16, [some (.ref 50), some (.int p1)], [.int ((zr h 56 p1) - ((zr h 57 p1) / 100))], h)) (fun hs => ?_)
  exact zg_ret zd_17 rfl rfl hF
set_option maxRecDepth 100000 in
set_option maxHeartbeats 400000 in
theorem f_Course_leastHold_50_l6_b_t {x : zm_X} {d : Nat} (v1 : Int32) (v2 : Int32) (v3 : Int32) (h : zm_H) {Q : Option Value → zm_H → Prop} {FN : Nat × Int32 × Int32 → Prop} (hs : zSh zT0 h) (ho : f_Course_leastHold_50_l6_b_ok v1 v2 v3 h) (hF : FN (f_Course_leastHold_50_l6_b v1 v2 v3 h)) (hl0 : ∀ (v2 : Int32) (v3 : Int32), zSh zT0 h → FN (0, v2, v3) → zg x (d + 2) 15 6 [some (.ref 50), some (.int v1), some (.int v2), some (.int v3)] [] h Q) (hl1 : ∀ (v2 : Int32) (v3 : Int32) (o3 : Option Value), zSh zT0 h → FN (1, v2, v3) → zg x (d + 2) 15 49 [some (.ref 50), some (.int v1), some (.int v2), o3] [] h Q) : zg x (d + 2) 15 6 [some (.ref 50), some (.int v1), some (.int v2), some (.int v3)] [] h Q := by
  unfold f_Course_leastHold_50_l6_b at hF
  unfold f_Course_leastHold_50_l6_b_ok at ho
  refine zg_blk zd_15 6 hs (rfl : zb x zT0 zc_15 6 (6, [some (.ref 50), some (.int v1), some (.int v2), some (.int v3)], [], h) = some (12, [some (.ref 50), some (.int v1), some (.int v2), some (.int v3)], [.int ((v1 * 3) + 3), .int v3], h)) (fun hs => ?_)
  refine zg_i_ge zd_15 rfl (fun (hc : (((v1 * 3) + 3) ≤ v3)) => ?_) (fun (hc : ¬ (((v1 * 3) + 3) ≤ v3)) => ?_)
  · have ho := ho.1 hc
    rw [if_pos hc] at hF
    exact hl1 v2 v3 (some (.int v3)) hs hF
  · have ho := ho.2 hc
    rw [if_neg hc] at hF
    refine zg_blk zd_15 2 hs (rfl : zb x zT0 zc_15 2 (15, [some (.ref 50), some (.int v1), some (.int v2), some (.int v3)], [], h) = some (17, [some (.ref 50), some (.int v1), some (.int v2), some (.int v3)], [.int v3, .ref 50], h)) (fun hs => ?_)
    obtain ⟨hob, ho⟩ := ho
    refine zg_call hs zd_15 rfl rfl rfl rfl (as := [.ref 50, .int v3]) (rest := []) (en := [some (.ref 50), some (.int v3)]) rfl rfl rfl rfl rfl ?_
    refine f_Course_holds_50_t v3 h hs hob ?_
    show zg x (d + 2) 15 20 [some (.ref 50), some (.int v1), some (.int v2), some (.int v3)] [.int (f_Course_holds_50 v3 h)] h Q
    have hom := ho
    have K127 : zSh zT0 h → zg x (d + 2) 15 43 [some (.ref 50), some (.int v1), some (.int (if ((f_Course_holds_50 v3 h) = 0) then (v2 : Int32) else (if (v2 = (-1)) then ((f_Course_hold_50 v3 h) : Int32) else (if (v2 ≤ (f_Course_hold_50 v3 h)) then (v2 : Int32) else (f_Course_hold_50 v3 h))))), some (.int v3)] [] h Q := fun hs => by
      refine zg_blk zd_15 2 hs (rfl : zb x zT0 zc_15 2 (43, [some (.ref 50), some (.int v1), some (.int (if ((f_Course_holds_50 v3 h) = 0) then (v2 : Int32) else (if (v2 = (-1)) then ((f_Course_hold_50 v3 h) : Int32) else (if (v2 ≤ (f_Course_hold_50 v3 h)) then (v2 : Int32) else (f_Course_hold_50 v3 h))))), some (.int v3)], [], h) = some (6, [some (.ref 50), some (.int v1), some (.int (if ((f_Course_holds_50 v3 h) = 0) then (v2 : Int32) else (if (v2 = (-1)) then ((f_Course_hold_50 v3 h) : Int32) else (if (v2 ≤ (f_Course_hold_50 v3 h)) then (v2 : Int32) else (f_Course_hold_50 v3 h))))), some (.int (v3 + 1))], [], h)) (fun hs => ?_)
      exact hl0 (if ((f_Course_holds_50 v3 h) = 0) then (v2 : Int32) else (if (v2 = (-1)) then ((f_Course_hold_50 v3 h) : Int32) else (if (v2 ≤ (f_Course_hold_50 v3 h)) then (v2 : Int32) else (f_Course_hold_50 v3 h)))) (v3 + 1) hs hF
    refine zg_f_eq zd_15 rfl (fun (hc : ((f_Course_holds_50 v3 h) = 0)) => ?_) (fun (hc : ¬ ((f_Course_holds_50 v3 h) = 0)) => ?_)
    · have ho := hom.1 hc
      rw [show ((if ((f_Course_holds_50 v3 h) = 0) then (v2 : Int32) else (if (v2 = (-1)) then ((f_Course_hold_50 v3 h) : Int32) else (if (v2 ≤ (f_Course_hold_50 v3 h)) then (v2 : Int32) else (f_Course_hold_50 v3 h)))) : Int32) = v2 from if_pos hc] at K127
      exact K127 hs
    · have ho := hom.2 hc
      rw [show ((if ((f_Course_holds_50 v3 h) = 0) then (v2 : Int32) else (if (v2 = (-1)) then ((f_Course_hold_50 v3 h) : Int32) else (if (v2 ≤ (f_Course_hold_50 v3 h)) then (v2 : Int32) else (f_Course_hold_50 v3 h)))) : Int32) = (if (v2 = (-1)) then ((f_Course_hold_50 v3 h) : Int32) else (if (v2 ≤ (f_Course_hold_50 v3 h)) then (v2 : Int32) else (f_Course_hold_50 v3 h))) from if_neg hc] at K127
      refine zg_blk zd_15 2 hs (rfl : zb x zT0 zc_15 2 (23, [some (.ref 50), some (.int v1), some (.int v2), some (.int v3)], [], h) = some (25, [some (.ref 50), some (.int v1), some (.int v2), some (.int v3)], [.int (-1), .int v2], h)) (fun hs => ?_)
      refine zg_i_eq zd_15 rfl (fun (hc : (v2 = (-1))) => ?_) (fun (hc : ¬ (v2 = (-1))) => ?_)
      · have ho := ho.1 hc
        rw [show ((if (v2 = (-1)) then ((f_Course_hold_50 v3 h) : Int32) else (if (v2 ≤ (f_Course_hold_50 v3 h)) then (v2 : Int32) else (f_Course_hold_50 v3 h))) : Int32) = (f_Course_hold_50 v3 h) from if_pos hc] at K127
        refine zg_blk zd_15 2 hs (rfl : zb x zT0 zc_15 2 (37, [some (.ref 50), some (.int v1), some (.int v2), some (.int v3)], [], h) = some (39, [some (.ref 50), some (.int v1), some (.int v2), some (.int v3)], [.int v3, .ref 50], h)) (fun hs => ?_)
        have hob := ho
        refine zg_call hs zd_15 rfl rfl rfl rfl (as := [.ref 50, .int v3]) (rest := []) (en := [some (.ref 50), some (.int v3)]) rfl rfl rfl rfl rfl ?_
        refine f_Course_hold_50_t v3 h hs hob ?_
        show zg x (d + 2) 15 42 [some (.ref 50), some (.int v1), some (.int v2), some (.int v3)] [.int (f_Course_hold_50 v3 h)] h Q
        refine zg_blk zd_15 1 hs (rfl : zb x zT0 zc_15 1 (42, [some (.ref 50), some (.int v1), some (.int v2), some (.int v3)], [.int (f_Course_hold_50 v3 h)], h) = some (43, [some (.ref 50), some (.int v1), some (.int (f_Course_hold_50 v3 h)), some (.int v3)], [], h)) (fun hs => ?_)
        exact K127 hs
      · have ho := ho.2 hc
        rw [show ((if (v2 = (-1)) then ((f_Course_hold_50 v3 h) : Int32) else (if (v2 ≤ (f_Course_hold_50 v3 h)) then (v2 : Int32) else (f_Course_hold_50 v3 h))) : Int32) = (if (v2 ≤ (f_Course_hold_50 v3 h)) then (v2 : Int32) else (f_Course_hold_50 v3 h)) from if_neg hc] at K127
        refine zg_blk zd_15 2 hs (rfl : zb x zT0 zc_15 2 (28, [some (.ref 50), some (.int v1), some (.int v2), some (.int v3)], [], h) = some (30, [some (.ref 50), some (.int v1), some (.int v2), some (.int v3)], [.int v3, .ref 50], h)) (fun hs => ?_)
        obtain ⟨hob, ho⟩ := ho
        refine zg_call hs zd_15 rfl rfl rfl rfl (as := [.ref 50, .int v3]) (rest := []) (en := [some (.ref 50), some (.int v3)]) rfl rfl rfl rfl rfl ?_
        refine f_Course_hold_50_t v3 h hs hob ?_
        show zg x (d + 2) 15 33 [some (.ref 50), some (.int v1), some (.int v2), some (.int v3)] [.int (f_Course_hold_50 v3 h)] h Q
        refine zg_blk zd_15 1 hs (rfl : zb x zT0 zc_15 1 (33, [some (.ref 50), some (.int v1), some (.int v2), some (.int v3)], [.int (f_Course_hold_50 v3 h)], h) = some (34, [some (.ref 50), some (.int v1), some (.int v2), some (.int v3)], [.int v2, .int (f_Course_hold_50 v3 h)], h)) (fun hs => ?_)
        refine zg_i_ge zd_15 rfl (fun (hc : (v2 ≤ (f_Course_hold_50 v3 h))) => ?_) (fun (hc : ¬ (v2 ≤ (f_Course_hold_50 v3 h))) => ?_)
        · have ho := ho.1 hc
          rw [show ((if (v2 ≤ (f_Course_hold_50 v3 h)) then (v2 : Int32) else (f_Course_hold_50 v3 h)) : Int32) = v2 from if_pos hc] at K127
          exact K127 hs
        · have ho := ho.2 hc
          rw [show ((if (v2 ≤ (f_Course_hold_50 v3 h)) then (v2 : Int32) else (f_Course_hold_50 v3 h)) : Int32) = (f_Course_hold_50 v3 h) from if_neg hc] at K127
          refine zg_blk zd_15 2 hs (rfl : zb x zT0 zc_15 2 (37, [some (.ref 50), some (.int v1), some (.int v2), some (.int v3)], [], h) = some (39, [some (.ref 50), some (.int v1), some (.int v2), some (.int v3)], [.int v3, .ref 50], h)) (fun hs => ?_)
          have hob := ho
          refine zg_call hs zd_15 rfl rfl rfl rfl (as := [.ref 50, .int v3]) (rest := []) (en := [some (.ref 50), some (.int v3)]) rfl rfl rfl rfl rfl ?_
          refine f_Course_hold_50_t v3 h hs hob ?_
          show zg x (d + 2) 15 42 [some (.ref 50), some (.int v1), some (.int v2), some (.int v3)] [.int (f_Course_hold_50 v3 h)] h Q
          refine zg_blk zd_15 1 hs (rfl : zb x zT0 zc_15 1 (42, [some (.ref 50), some (.int v1), some (.int v2), some (.int v3)], [.int (f_Course_hold_50 v3 h)], h) = some (43, [some (.ref 50), some (.int v1), some (.int (f_Course_hold_50 v3 h)), some (.int v3)], [], h)) (fun hs => ?_)
          exact K127 hs
theorem f_Course_leastHold_50_l6_t {x : zm_X} {d : Nat} (v1 : Int32) (h : zm_H) {Q : Option Value → zm_H → Prop} (G : Nat × Int32 × Int32 → Prop) (hx1 : ∀ (v2 : Int32) (v3 : Int32) (o3 : Option Value), zSh zT0 h → G (1, v2, v3) → zg x (d + 2) 15 49 [some (.ref 50), some (.int v1), some (.int v2), o3] [] h Q) : ∀ (n : Nat) (v2 : Int32) (v3 : Int32), zSh zT0 h → f_Course_leastHold_50_l6_ok v1 h n (v2, v3) → G (f_Course_leastHold_50_l6 v1 h n (v2, v3)) → zg x (d + 2) 15 6 [some (.ref 50), some (.int v1), some (.int v2), some (.int v3)] [] h Q := by
  intro n
  induction n with
  | zero => intro v2 v3 hs ho hG; exact ho.elim
  | succ n ih =>
    intro v2 v3 hs ho hG
    refine f_Course_leastHold_50_l6_b_t (FN := fun r => (r.1 = 0 → f_Course_leastHold_50_l6_ok v1 h n r.2) ∧ G (if r.1 = 0 then f_Course_leastHold_50_l6 v1 h n r.2 else r)) v1 v2 v3 h hs ho.1 ⟨ho.2, hG⟩ ?_ ?_
    · intro v2 v3 hs hF
      exact ih v2 v3 hs (hF.1 rfl) hF.2
    · intro v2 v3 o3 hs hF
      exact hx1 v2 v3 o3 hs hF.2

set_option maxRecDepth 100000 in
set_option maxHeartbeats 400000 in
theorem f_Course_leastHold_50_k49_t {x : zm_X} {d : Nat} (v2 : Int32) (h : zm_H) (o0 : Option Value) (z1 : Int32) (o3 : Option Value) {Q : Option Value → zm_H → Prop} (hs : zSh zT0 h) (ho : f_Course_leastHold_50_k49_ok v2 h) (hF : Q (some (.int (f_Course_leastHold_50_k49 v2 h))) h) : zg x (d + 2) 15 49 [o0, some (.int z1), some (.int v2), o3] [] h Q := by
  unfold f_Course_leastHold_50_k49 at hF
  unfold f_Course_leastHold_50_k49_ok at ho
  refine zg_blk zd_15 2 hs (rfl : zb x zT0 zc_15 2 (49, [o0, some (.int z1), some (.int v2), o3], [], h) = some (51, [o0, some (.int z1), some (.int v2), o3], [.int 0, .int v2], h)) (fun hs => ?_)
  refine zg_x zd_15 rfl rfl rfl rfl (as := [.int v2, .int 0]) (rest := []) (w := some (.int (if v2 < 0 then 0 else v2))) rfl rfl rfl ?_
  exact zg_ret zd_15 rfl rfl hF
set_option maxRecDepth 100000 in
set_option maxHeartbeats 400000 in
theorem f_Course_leastHold_50_t {x : zm_X} {d : Nat} (p1 : Int32) (h : zm_H) {Q : Option Value → zm_H → Prop} (hs : zSh zT0 h) (ho : f_Course_leastHold_50_ok p1 h) (hF : Q (some (.int (f_Course_leastHold_50 p1 h))) h) : zg x (d + 2) 15 0 [some (.ref 50), some (.int p1), none, none] [] h Q := by
  unfold f_Course_leastHold_50 at hF
  unfold f_Course_leastHold_50_ok at ho
  refine zg_blk zd_15 6 hs (rfl : zb x zT0 zc_15 6 (0, [some (.ref 50), some (.int p1), none, none], [], h) = some (6, [some (.ref 50), some (.int p1), some (.int (-1)), some (.int (p1 * 3))], [], h)) (fun hs => ?_)
  refine f_Course_leastHold_50_l6_t p1 h (fun r => f_Course_leastHold_50_a6_ok r h ∧ Q (some (.int (f_Course_leastHold_50_a6 r h))) h) ?_ zF (-1) (p1 * 3) hs ho.1 ⟨ho.2, hF⟩
  · intro v2_ v3_ o3_ hs hG
    have ho : True := trivial
    have hF : Q (some (.int ((f_Course_leastHold_50_k49 v2_ h)))) h := hG.2
    exact f_Course_leastHold_50_k49_t v2_ h (some (.ref 50)) p1 (o3_) hs trivial hF
set_option maxRecDepth 100000 in
set_option maxHeartbeats 400000 in
theorem f_Course_says_50_k47_t {x : zm_X} {d : Nat} (v1 : Int32) (v2 : Int32) (h : zm_H) (o3 : Option Value) {Q : Option Value → zm_H → Prop} (hs : zSh zT0 h) (ho : f_Course_says_50_k47_ok v1 v2 h) (hF : (zSh zT0 (f_Course_says_50_k47 v1 v2 h).2 → Q (some (.int (f_Course_says_50_k47 v1 v2 h).1)) (f_Course_says_50_k47 v1 v2 h).2)) : zg x (d + 3) 14 47 [some (.ref 50), some (.int v1), some (.int v2), o3] [] h Q := by
  unfold f_Course_says_50_k47 at hF
  unfold f_Course_says_50_k47_ok at ho
  refine zg_blk zd_14 4 hs (rfl : zb x zT0 zc_14 4 (47, [some (.ref 50), some (.int v1), some (.int v2), o3], [], h) = some (53, [some (.ref 50), some (.int v1), some (.int v2), o3], [.int v2, .int v1, .ref 15], h)) (fun hs => ?_)
  have hob := ho
  refine zg_call hs zd_14 rfl rfl rfl rfl (as := [.ref 15, .int v1, .int v2]) (rest := []) (en := [some (.ref 15), some (.int v1), some (.int v2), none, none, none, none]) rfl rfl rfl rfl rfl ?_
  refine f_Rules_work_t v1 v2 h hs hob (fun hs => ?_)
  show zg x (d + 3) 14 56 [some (.ref 50), some (.int v1), some (.int v2), o3] [.int (f_Rules_work v1 v2 h).1] (f_Rules_work v1 v2 h).2 Q
  exact zg_ret zd_14 rfl rfl (hF hs)
set_option maxRecDepth 100000 in
set_option maxHeartbeats 400000 in
theorem f_Course_says_50_t {x : zm_X} {d : Nat} (p1 : Int32) (p2 : Int32) (p3 : Int32) (h : zm_H) {Q : Option Value → zm_H → Prop} (hs : zSh zT0 h) (ho : f_Course_says_50_ok p1 p2 p3 h) (hF : (zSh zT0 (f_Course_says_50 p1 p2 p3 h).2 → Q (some (.int (f_Course_says_50 p1 p2 p3 h).1)) (f_Course_says_50 p1 p2 p3 h).2)) : zg x (d + 3) 14 0 [some (.ref 50), some (.int p1), some (.int p2), some (.int p3)] [] h Q := by
  unfold f_Course_says_50 at hF
  unfold f_Course_says_50_ok at ho
  refine zg_blk zd_14 2 hs (rfl : zb x zT0 zc_14 2 (0, [some (.ref 50), some (.int p1), some (.int p2), some (.int p3)], [], h) = some (2, [some (.ref 50), some (.int p1), some (.int p2), some (.int p3)], [.int (-1), .int p1], h)) (fun hs => ?_)
  refine zg_i_ne zd_14 rfl (fun (hc : ¬ (p1 = (-1))) => ?_) (fun (hc : (p1 = (-1))) => ?_)
  · have ho := ho.2 hc
    rw [if_neg hc] at hF
    refine zg_blk zd_14 5 hs (rfl : zb x zT0 zc_14 5 (7, [some (.ref 50), some (.int p1), some (.int p2), some (.int p3)], [], h) = some (16, [some (.ref 50), some (.int p1), some (.int p2), some (.int p3)], [.int p3, .ref 54, .ref 15], h)) (fun hs => ?_)
    obtain ⟨hob, ho⟩ := ho
    refine zg_ial hs zd_14 rfl rfl hob ?_
    refine zg_blk zd_14 2 hs (rfl : zb x zT0 zc_14 2 (17, [some (.ref 50), some (.int p1), some (.int p2), some (.int p3)], [.int (zr h 54 p3), .ref 15], h) = some (19, [some (.ref 50), some (.int p1), some (.int p2), some (.int p3)], [.int p3, .ref 50, .int (zr h 54 p3), .ref 15], h)) (fun hs => ?_)
    obtain ⟨hob, ho⟩ := ho
    refine zg_call hs zd_14 rfl rfl rfl rfl (as := [.ref 50, .int p3]) (rest := [.int (zr h 54 p3), .ref 15]) (en := [some (.ref 50), some (.int p3), none, none]) rfl rfl rfl rfl rfl ?_
    refine f_Course_leastHold_50_t p3 h hs hob ?_
    show zg x (d + 3) 14 22 [some (.ref 50), some (.int p1), some (.int p2), some (.int p3)] [.int (f_Course_leastHold_50 p3 h), .int (zr h 54 p3), .ref 15] h Q
    refine zg_blk zd_14 4 hs (rfl : zb x zT0 zc_14 4 (22, [some (.ref 50), some (.int p1), some (.int p2), some (.int p3)], [.int (f_Course_leastHold_50 p3 h), .int (zr h 54 p3), .ref 15], h) = some (30, [some (.ref 50), some (.int p1), some (.int p2), some (.int p3)], [.int p3, .ref 24, .int (f_Course_leastHold_50 p3 h), .int (zr h 54 p3), .ref 15], h)) (fun hs => ?_)
    obtain ⟨hob, ho⟩ := ho
    refine zg_ial hs zd_14 rfl rfl hob ?_
    refine zg_blk zd_14 2 hs (rfl : zb x zT0 zc_14 2 (31, [some (.ref 50), some (.int p1), some (.int p2), some (.int p3)], [.int (zr h 24 p3), .int (f_Course_leastHold_50 p3 h), .int (zr h 54 p3), .ref 15], h) = some (33, [some (.ref 50), some (.int p1), some (.int p2), some (.int p3)], [.int p3, .ref 50, .int (zr h 24 p3), .int (f_Course_leastHold_50 p3 h), .int (zr h 54 p3), .ref 15], h)) (fun hs => ?_)
    obtain ⟨hob, ho⟩ := ho
    refine zg_call hs zd_14 rfl rfl rfl rfl (as := [.ref 50, .int p3]) (rest := [.int (zr h 24 p3), .int (f_Course_leastHold_50 p3 h), .int (zr h 54 p3), .ref 15]) (en := [some (.ref 50), some (.int p3)]) rfl rfl rfl rfl rfl ?_
    refine f_Course_isReady_50_t p3 h hs hob ?_
    show zg x (d + 3) 14 36 [some (.ref 50), some (.int p1), some (.int p2), some (.int p3)] [.int (f_Course_isReady_50 p3 h), .int (zr h 24 p3), .int (f_Course_leastHold_50 p3 h), .int (zr h 54 p3), .ref 15] h Q
    have K128 : zSh zT0 h → zg x (d + 3) 14 44 [some (.ref 50), some (.int p1), some (.int p2), some (.int p3)] [.int (if (¬ ((f_Course_isReady_50 p3 h) = 0)) then (1 : Int32) else 0), .int (zr h 24 p3), .int (f_Course_leastHold_50 p3 h), .int (zr h 54 p3), .ref 15] h Q := fun hs => by
      refine zg_call hs zd_14 rfl rfl rfl rfl (as := [.ref 15, .int (zr h 54 p3), .int (f_Course_leastHold_50 p3 h), .int (zr h 24 p3), .int (if (¬ ((f_Course_isReady_50 p3 h) = 0)) then (1 : Int32) else 0)]) (rest := []) (en := [some (.ref 15), some (.int (zr h 54 p3)), some (.int (f_Course_leastHold_50 p3 h)), some (.int (zr h 24 p3)), some (.int (if (¬ ((f_Course_isReady_50 p3 h) = 0)) then (1 : Int32) else 0))]) rfl rfl rfl rfl rfl ?_
      refine f_Rules_nameRaft_t (zr h 54 p3) (f_Course_leastHold_50 p3 h) (zr h 24 p3) (if (¬ ((f_Course_isReady_50 p3 h) = 0)) then (1 : Int32) else 0) h hs trivial (fun hs => ?_)
      show zg x (d + 3) 14 47 [some (.ref 50), some (.int p1), some (.int p2), some (.int p3)] [] (f_Rules_nameRaft (zr h 54 p3) (f_Course_leastHold_50 p3 h) (zr h 24 p3) (if (¬ ((f_Course_isReady_50 p3 h) = 0)) then (1 : Int32) else 0) h) Q
      exact f_Course_says_50_k47_t p1 p2 (f_Rules_nameRaft (zr h 54 p3) (f_Course_leastHold_50 p3 h) (zr h 24 p3) (if (¬ ((f_Course_isReady_50 p3 h) = 0)) then (1 : Int32) else 0) h) (some (.int p3)) hs ho hF
    refine zg_f_eq zd_14 rfl (fun (hc : ((f_Course_isReady_50 p3 h) = 0)) => ?_) (fun (hc : ¬ ((f_Course_isReady_50 p3 h) = 0)) => ?_)
    · skip
      rw [show ((if (¬ ((f_Course_isReady_50 p3 h) = 0)) then (1 : Int32) else 0) : Int32) = 0 from zb_not_t hc] at K128
      refine zg_blk zd_14 1 hs (rfl : zb x zT0 zc_14 1 (43, [some (.ref 50), some (.int p1), some (.int p2), some (.int p3)], [.int (zr h 24 p3), .int (f_Course_leastHold_50 p3 h), .int (zr h 54 p3), .ref 15], h) = some (44, [some (.ref 50), some (.int p1), some (.int p2), some (.int p3)], [.int 0, .int (zr h 24 p3), .int (f_Course_leastHold_50 p3 h), .int (zr h 54 p3), .ref 15], h)) (fun hs => ?_)
      exact K128 hs
    · skip
      rw [show ((if (¬ ((f_Course_isReady_50 p3 h) = 0)) then (1 : Int32) else 0) : Int32) = 1 from zb_not_f hc] at K128
      refine zg_blk zd_14 2 hs (rfl : zb x zT0 zc_14 2 (39, [some (.ref 50), some (.int p1), some (.int p2), some (.int p3)], [.int (zr h 24 p3), .int (f_Course_leastHold_50 p3 h), .int (zr h 54 p3), .ref 15], h) = some (44, [some (.ref 50), some (.int p1), some (.int p2), some (.int p3)], [.int 1, .int (zr h 24 p3), .int (f_Course_leastHold_50 p3 h), .int (zr h 54 p3), .ref 15], h)) (fun hs => ?_)
      exact K128 hs
  · have ho := ho.1 hc
    rw [if_pos hc] at hF
    refine zg_blk zd_14 1 hs (rfl : zb x zT0 zc_14 1 (5, [some (.ref 50), some (.int p1), some (.int p2), some (.int p3)], [], h) = some (6, [some (.ref 50), some (.int p1), some (.int p2), some (.int p3)], [.int 0], h)) (fun hs => ?_)
    exact zg_ret zd_14 rfl rfl (hF hs)
set_option maxRecDepth 100000 in
set_option maxHeartbeats 400000 in
theorem f_Course_sinkAndRise_50_l23_k97_t {x : zm_X} {d : Nat} (v2 : Int32) (v3 : Int32) (v4 : Int32) (w1 : Int32) (w2 : Int32) (h : zm_H) (z1 : Int32) {Q : Option Value → zm_H → Prop} {FN : Nat × Int32 × zm_H → Prop} (hs : zSh zT0 h) (ho : f_Course_sinkAndRise_50_l23_k97_ok v2 v3 v4 w1 w2 h) (hF : FN (f_Course_sinkAndRise_50_l23_k97 v2 v3 v4 w1 w2 h)) (hl0 : ∀ (v4 : Int32) (h : zm_H) (z1 : Int32), zSh zT0 h → FN (0, v4, h) → zg x (d + 4) 13 23 [some (.ref 50), some (.int z1), some (.int v2), some (.int v3), some (.int v4)] [] h Q) (hl1 : ∀ (v4 : Int32) (h : zm_H) (z1 : Int32) (o4 : Option Value), zSh zT0 h → FN (1, v4, h) → zg x (d + 4) 13 112 [some (.ref 50), some (.int z1), some (.int v2), some (.int v3), o4] [] h Q) : zg x (d + 4) 13 97 [some (.ref 50), some (.int z1), some (.int v2), some (.int v3), some (.int v4)] [.int w2, .int w1, .ref 51] h Q := by
  unfold f_Course_sinkAndRise_50_l23_k97 at hF
  unfold f_Course_sinkAndRise_50_l23_k97_ok at ho
  have K129 : zSh zT0 h → zg x (d + 4) 13 105 [some (.ref 50), some (.int z1), some (.int v2), some (.int v3), some (.int v4)] [.int (if (w2 = 0) then (2 : Int32) else 1), .int w1, .ref 51] h Q := fun hs => by
    have hob := ho
    refine zg_ias hs zd_13 rfl rfl hob (fun hs => ?_)
    exact f_Course_sinkAndRise_50_l23_k106_t v2 v3 v4 (zs h 51 w1 (if (w2 = 0) then (2 : Int32) else 1)) z1 hs trivial hF hl0 hl1
  refine zg_f_eq zd_13 rfl (fun (hc : (w2 = 0)) => ?_) (fun (hc : ¬ (w2 = 0)) => ?_)
  · skip
    rw [show ((if (w2 = 0) then (2 : Int32) else 1) : Int32) = 2 from if_pos hc] at K129
    refine zg_blk zd_13 1 hs (rfl : zb x zT0 zc_13 1 (104, [some (.ref 50), some (.int z1), some (.int v2), some (.int v3), some (.int v4)], [.int w1, .ref 51], h) = some (105, [some (.ref 50), some (.int z1), some (.int v2), some (.int v3), some (.int v4)], [.int 2, .int w1, .ref 51], h)) (fun hs => ?_)
    exact K129 hs
  · skip
    rw [show ((if (w2 = 0) then (2 : Int32) else 1) : Int32) = 1 from if_neg hc] at K129
    refine zg_blk zd_13 2 hs (rfl : zb x zT0 zc_13 2 (100, [some (.ref 50), some (.int z1), some (.int v2), some (.int v3), some (.int v4)], [.int w1, .ref 51], h) = some (105, [some (.ref 50), some (.int z1), some (.int v2), some (.int v3), some (.int v4)], [.int 1, .int w1, .ref 51], h)) (fun hs => ?_)
    exact K129 hs
set_option maxRecDepth 100000 in
set_option maxHeartbeats 400000 in
theorem f_Course_sinkAndRise_50_l23_k60_t {x : zm_X} {d : Nat} (v2 : Int32) (v3 : Int32) (v4 : Int32) (w1 : Int32) (w2 : Int32) (h : zm_H) (z1 : Int32) {Q : Option Value → zm_H → Prop} {FN : Nat × Int32 × zm_H → Prop} (hs : zSh zT0 h) (ho : f_Course_sinkAndRise_50_l23_k60_ok v2 v3 v4 w1 w2 h) (hF : FN (f_Course_sinkAndRise_50_l23_k60 v2 v3 v4 w1 w2 h)) (hl0 : ∀ (v4 : Int32) (h : zm_H) (z1 : Int32), zSh zT0 h → FN (0, v4, h) → zg x (d + 4) 13 23 [some (.ref 50), some (.int z1), some (.int v2), some (.int v3), some (.int v4)] [] h Q) (hl1 : ∀ (v4 : Int32) (h : zm_H) (z1 : Int32) (o4 : Option Value), zSh zT0 h → FN (1, v4, h) → zg x (d + 4) 13 112 [some (.ref 50), some (.int z1), some (.int v2), some (.int v3), o4] [] h Q) : zg x (d + 4) 13 60 [some (.ref 50), some (.int z1), some (.int v2), some (.int v3), some (.int v4)] [.int w2, .int w1, .ref 51] h Q := by
  unfold f_Course_sinkAndRise_50_l23_k60 at hF
  unfold f_Course_sinkAndRise_50_l23_k60_ok at ho
  have K130 : zSh zT0 h → zg x (d + 4) 13 68 [some (.ref 50), some (.int z1), some (.int v2), some (.int v3), some (.int v4)] [.int (if (w2 = 0) then (1 : Int32) else 2), .int w1, .ref 51] h Q := fun hs => by
    have hob := ho
    refine zg_ias hs zd_13 rfl rfl hob (fun hs => ?_)
    refine zg_blk zd_13 1 hs (rfl : zb x zT0 zc_13 1 (69, [some (.ref 50), some (.int z1), some (.int v2), some (.int v3), some (.int v4)], [], (zs h 51 w1 (if (w2 = 0) then (1 : Int32) else 2))) = some (106, [some (.ref 50), some (.int z1), some (.int v2), some (.int v3), some (.int v4)], [], (zs h 51 w1 (if (w2 = 0) then (1 : Int32) else 2)))) (fun hs => ?_)
    exact f_Course_sinkAndRise_50_l23_k106_t v2 v3 v4 (zs h 51 w1 (if (w2 = 0) then (1 : Int32) else 2)) z1 hs trivial hF hl0 hl1
  refine zg_f_eq zd_13 rfl (fun (hc : (w2 = 0)) => ?_) (fun (hc : ¬ (w2 = 0)) => ?_)
  · skip
    rw [show ((if (w2 = 0) then (1 : Int32) else 2) : Int32) = 1 from if_pos hc] at K130
    refine zg_blk zd_13 1 hs (rfl : zb x zT0 zc_13 1 (67, [some (.ref 50), some (.int z1), some (.int v2), some (.int v3), some (.int v4)], [.int w1, .ref 51], h) = some (68, [some (.ref 50), some (.int z1), some (.int v2), some (.int v3), some (.int v4)], [.int 1, .int w1, .ref 51], h)) (fun hs => ?_)
    exact K130 hs
  · skip
    rw [show ((if (w2 = 0) then (1 : Int32) else 2) : Int32) = 2 from if_neg hc] at K130
    refine zg_blk zd_13 2 hs (rfl : zb x zT0 zc_13 2 (63, [some (.ref 50), some (.int z1), some (.int v2), some (.int v3), some (.int v4)], [.int w1, .ref 51], h) = some (68, [some (.ref 50), some (.int z1), some (.int v2), some (.int v3), some (.int v4)], [.int 2, .int w1, .ref 51], h)) (fun hs => ?_)
    exact K130 hs
set_option maxRecDepth 100000 in
set_option maxHeartbeats 400000 in
theorem f_Course_sinkAndRise_50_l23_b_t {x : zm_X} {d : Nat} (v2 : Int32) (v3 : Int32) (v4 : Int32) (h : zm_H) (z1 : Int32) {Q : Option Value → zm_H → Prop} {FN : Nat × Int32 × zm_H → Prop} (hs : zSh zT0 h) (ho : f_Course_sinkAndRise_50_l23_b_ok v2 v3 v4 h) (hF : FN (f_Course_sinkAndRise_50_l23_b v2 v3 v4 h)) (hl0 : ∀ (v4 : Int32) (h : zm_H) (z1 : Int32), zSh zT0 h → FN (0, v4, h) → zg x (d + 4) 13 23 [some (.ref 50), some (.int z1), some (.int v2), some (.int v3), some (.int v4)] [] h Q) (hl1 : ∀ (v4 : Int32) (h : zm_H) (z1 : Int32) (o4 : Option Value), zSh zT0 h → FN (1, v4, h) → zg x (d + 4) 13 112 [some (.ref 50), some (.int z1), some (.int v2), some (.int v3), o4] [] h Q) : zg x (d + 4) 13 23 [some (.ref 50), some (.int z1), some (.int v2), some (.int v3), some (.int v4)] [] h Q := by
  unfold f_Course_sinkAndRise_50_l23_b at hF
  unfold f_Course_sinkAndRise_50_l23_b_ok at ho
  refine zg_blk zd_13 4 hs (rfl : zb x zT0 zc_13 4 (23, [some (.ref 50), some (.int z1), some (.int v2), some (.int v3), some (.int v4)], [], h) = some (32, [some (.ref 50), some (.int z1), some (.int v2), some (.int v3), some (.int v4)], [.int (zf h 23 0), .int v4], h)) (fun hs => ?_)
  refine zg_i_ge zd_13 rfl (fun (hc : ((zf h 23 0) ≤ v4)) => ?_) (fun (hc : ¬ ((zf h 23 0) ≤ v4)) => ?_)
  · have ho := ho.1 hc
    rw [if_pos hc] at hF
    exact hl1 v4 h z1 (some (.int v4)) hs hF
  · have ho := ho.2 hc
    rw [if_neg hc] at hF
    refine zg_blk zd_13 3 hs (rfl : zb x zT0 zc_13 3 (35, [some (.ref 50), some (.int z1), some (.int v2), some (.int v3), some (.int v4)], [], h) = some (41, [some (.ref 50), some (.int z1), some (.int v2), some (.int v3), some (.int v4)], [.int v4, .ref 51], h)) (fun hs => ?_)
    obtain ⟨hob, ho⟩ := ho
    refine zg_ial hs zd_13 rfl rfl hob ?_
    refine zg_blk zd_13 1 hs (rfl : zb x zT0 zc_13 1 (42, [some (.ref 50), some (.int z1), some (.int v2), some (.int v3), some (.int v4)], [.int (zr h 51 v4)], h) = some (43, [some (.ref 50), some (.int z1), some (.int v2), some (.int v3), some (.int v4)], [.int 1, .int (zr h 51 v4)], h)) (fun hs => ?_)
    refine zg_i_ne zd_13 rfl (fun (hc : ¬ ((zr h 51 v4) = 1)) => ?_) (fun (hc : ((zr h 51 v4) = 1)) => ?_)
    · have ho := ho.2 hc
      rw [if_neg hc] at hF
      refine zg_blk zd_13 3 hs (rfl : zb x zT0 zc_13 3 (72, [some (.ref 50), some (.int z1), some (.int v2), some (.int v3), some (.int v4)], [], h) = some (78, [some (.ref 50), some (.int z1), some (.int v2), some (.int v3), some (.int v4)], [.int v4, .ref 51], h)) (fun hs => ?_)
      obtain ⟨hob, ho⟩ := ho
      refine zg_ial hs zd_13 rfl rfl hob ?_
      refine zg_blk zd_13 1 hs (rfl : zb x zT0 zc_13 1 (79, [some (.ref 50), some (.int z1), some (.int v2), some (.int v3), some (.int v4)], [.int (zr h 51 v4)], h) = some (80, [some (.ref 50), some (.int z1), some (.int v2), some (.int v3), some (.int v4)], [.int 2, .int (zr h 51 v4)], h)) (fun hs => ?_)
      refine zg_i_ne zd_13 rfl (fun (hc : ¬ ((zr h 51 v4) = 2)) => ?_) (fun (hc : ((zr h 51 v4) = 2)) => ?_)
      · have ho := ho.2 hc
        rw [if_neg hc] at hF
        exact f_Course_sinkAndRise_50_l23_k106_t v2 v3 v4 h z1 hs trivial hF hl0 hl1
      · have ho := ho.1 hc
        rw [if_pos hc] at hF
        refine zg_blk zd_13 7 hs (rfl : zb x zT0 zc_13 7 (83, [some (.ref 50), some (.int z1), some (.int v2), some (.int v3), some (.int v4)], [], h) = some (94, [some (.ref 50), some (.int z1), some (.int v2), some (.int v3), some (.int v4)], [.int v4, .int 1, .int v3, .ref 50, .int v4, .ref 51], h)) (fun hs => ?_)
        obtain ⟨hob, ho⟩ := ho
        refine zg_call hs zd_13 rfl rfl rfl rfl (as := [.ref 50, .int v3, .int 1, .int v4]) (rest := [.int v4, .ref 51]) (en := [some (.ref 50), some (.int v3), some (.int 1), some (.int v4)]) rfl rfl rfl rfl rfl ?_
        refine f_Course_says_50_t v3 1 v4 h hs hob (fun hs => ?_)
        show zg x (d + 4) 13 97 [some (.ref 50), some (.int z1), some (.int v2), some (.int v3), some (.int v4)] [.int (f_Course_says_50 v3 1 v4 h).1, .int v4, .ref 51] (f_Course_says_50 v3 1 v4 h).2 Q
        exact f_Course_sinkAndRise_50_l23_k97_t v2 v3 v4 v4 (f_Course_says_50 v3 1 v4 h).1 (f_Course_says_50 v3 1 v4 h).2 z1 hs ho hF hl0 hl1
    · have ho := ho.1 hc
      rw [if_pos hc] at hF
      refine zg_blk zd_13 7 hs (rfl : zb x zT0 zc_13 7 (46, [some (.ref 50), some (.int z1), some (.int v2), some (.int v3), some (.int v4)], [], h) = some (57, [some (.ref 50), some (.int z1), some (.int v2), some (.int v3), some (.int v4)], [.int v4, .int 0, .int v2, .ref 50, .int v4, .ref 51], h)) (fun hs => ?_)
      obtain ⟨hob, ho⟩ := ho
      refine zg_call hs zd_13 rfl rfl rfl rfl (as := [.ref 50, .int v2, .int 0, .int v4]) (rest := [.int v4, .ref 51]) (en := [some (.ref 50), some (.int v2), some (.int 0), some (.int v4)]) rfl rfl rfl rfl rfl ?_
      refine f_Course_says_50_t v2 0 v4 h hs hob (fun hs => ?_)
      show zg x (d + 4) 13 60 [some (.ref 50), some (.int z1), some (.int v2), some (.int v3), some (.int v4)] [.int (f_Course_says_50 v2 0 v4 h).1, .int v4, .ref 51] (f_Course_says_50 v2 0 v4 h).2 Q
      exact f_Course_sinkAndRise_50_l23_k60_t v2 v3 v4 v4 (f_Course_says_50 v2 0 v4 h).1 (f_Course_says_50 v2 0 v4 h).2 z1 hs ho hF hl0 hl1
theorem f_Course_sinkAndRise_50_l23_t {x : zm_X} {d : Nat} (v2 : Int32) (v3 : Int32) {Q : Option Value → zm_H → Prop} (G : Nat × Int32 × zm_H → Prop) (hx1 : ∀ (v4 : Int32) (h : zm_H) (z1 : Int32) (o4 : Option Value), zSh zT0 h → G (1, v4, h) → zg x (d + 4) 13 112 [some (.ref 50), some (.int z1), some (.int v2), some (.int v3), o4] [] h Q) : ∀ (n : Nat) (v4 : Int32) (h : zm_H) (z1 : Int32), zSh zT0 h → f_Course_sinkAndRise_50_l23_ok v2 v3 n (v4, h) → G (f_Course_sinkAndRise_50_l23 v2 v3 n (v4, h)) → zg x (d + 4) 13 23 [some (.ref 50), some (.int z1), some (.int v2), some (.int v3), some (.int v4)] [] h Q := by
  intro n
  induction n with
  | zero => intro v4 h z1 hs ho hG; exact ho.elim
  | succ n ih =>
    intro v4 h z1 hs ho hG
    refine f_Course_sinkAndRise_50_l23_b_t (FN := fun r => (r.1 = 0 → f_Course_sinkAndRise_50_l23_ok v2 v3 n r.2) ∧ G (if r.1 = 0 then f_Course_sinkAndRise_50_l23 v2 v3 n r.2 else r)) v2 v3 v4 h z1 hs ho.1 ⟨ho.2, hG⟩ ?_ ?_
    · intro v4 h z1 hs hF
      exact ih v4 h z1 hs (hF.1 rfl) hF.2
    · intro v4 h z1 o4 hs hF
      exact hx1 v4 h z1 o4 hs hF.2

set_option maxRecDepth 100000 in
set_option maxHeartbeats 400000 in
theorem f_Course_sinkAndRise_50_k112_t {x : zm_X} {d : Nat} (h : zm_H) (o0 : Option Value) (z1 : Int32) (o2 : Option Value) (o3 : Option Value) (o4 : Option Value) {Q : Option Value → zm_H → Prop} (hs : zSh zT0 h) (ho : f_Course_sinkAndRise_50_k112_ok h) (hF : (zSh zT0 (f_Course_sinkAndRise_50_k112 h) → Q none (f_Course_sinkAndRise_50_k112 h))) : zg x (d + 4) 13 112 [o0, some (.int z1), o2, o3, o4] [] h Q := by
  unfold f_Course_sinkAndRise_50_k112 at hF
  unfold f_Course_sinkAndRise_50_k112_ok at ho
  exact zg_ret zd_13 rfl rfl (hF hs)
set_option maxRecDepth 100000 in
set_option maxHeartbeats 400000 in
theorem f_Course_sinkAndRise_50_t {x : zm_X} {d : Nat} (p1 : Int32) (h : zm_H) {Q : Option Value → zm_H → Prop} (hs : zSh zT0 h) (ho : f_Course_sinkAndRise_50_ok p1 h) (hF : (zSh zT0 (f_Course_sinkAndRise_50 p1 h) → Q none (f_Course_sinkAndRise_50 p1 h))) : zg x (d + 4) 13 0 [some (.ref 50), some (.int p1), none, none, none] [] h Q := by
  unfold f_Course_sinkAndRise_50 at hF
  unfold f_Course_sinkAndRise_50_ok at ho
  refine zg_blk zd_13 4 hs (rfl : zb x zT0 zc_13 4 (0, [some (.ref 50), some (.int p1), none, none, none], [], h) = some (6, [some (.ref 50), some (.int p1), none, none, none], [.int p1, .int 0, .ref 15], h)) (fun hs => ?_)
  obtain ⟨hob, ho⟩ := ho
  refine zg_call hs zd_13 rfl rfl rfl rfl (as := [.ref 15, .int 0, .int p1]) (rest := []) (en := [some (.ref 15), some (.int 0), some (.int p1), none, none, none, none]) rfl rfl rfl rfl rfl ?_
  refine f_Rules_ruling_t 0 p1 h hs hob ?_
  show zg x (d + 4) 13 9 [some (.ref 50), some (.int p1), none, none, none] [.int (f_Rules_ruling 0 p1 h)] h Q
  refine zg_blk zd_13 5 hs (rfl : zb x zT0 zc_13 5 (9, [some (.ref 50), some (.int p1), none, none, none], [.int (f_Rules_ruling 0 p1 h)], h) = some (16, [some (.ref 50), some (.int p1), some (.int (f_Rules_ruling 0 p1 h)), none, none], [.int p1, .int 1, .ref 15], h)) (fun hs => ?_)
  obtain ⟨hob, ho⟩ := ho
  refine zg_call hs zd_13 rfl rfl rfl rfl (as := [.ref 15, .int 1, .int p1]) (rest := []) (en := [some (.ref 15), some (.int 1), some (.int p1), none, none, none, none]) rfl rfl rfl rfl rfl ?_
  refine f_Rules_ruling_t 1 p1 h hs hob ?_
  show zg x (d + 4) 13 19 [some (.ref 50), some (.int p1), some (.int (f_Rules_ruling 0 p1 h)), none, none] [.int (f_Rules_ruling 1 p1 h)] h Q
  refine zg_blk zd_13 3 hs (rfl : zb x zT0 zc_13 3 (19, [some (.ref 50), some (.int p1), some (.int (f_Rules_ruling 0 p1 h)), none, none], [.int (f_Rules_ruling 1 p1 h)], h) = some (23, [some (.ref 50), some (.int p1), some (.int (f_Rules_ruling 0 p1 h)), some (.int (f_Rules_ruling 1 p1 h)), some (.int 0)], [], h)) (fun hs => ?_)
  refine f_Course_sinkAndRise_50_l23_t (f_Rules_ruling 0 p1 h) (f_Rules_ruling 1 p1 h) (fun r => f_Course_sinkAndRise_50_a23_ok r ∧ (zSh zT0 (f_Course_sinkAndRise_50_a23 r) → Q none (f_Course_sinkAndRise_50_a23 r))) ?_ zF 0 h p1 hs ho.1 ⟨ho.2, hF⟩
  · intro v4_ h_ z1_ o4_ hs hG
    have ho : True := trivial
    have hF : (zSh zT0 ((f_Course_sinkAndRise_50_k112 h_)) → Q none ((f_Course_sinkAndRise_50_k112 h_))) := hG.2
    exact f_Course_sinkAndRise_50_k112_t h_ (some (.ref 50)) z1_ (some (.int (f_Rules_ruling 0 p1 h))) (some (.int (f_Rules_ruling 1 p1 h))) (o4_) hs trivial hF
set_option maxRecDepth 100000 in
set_option maxHeartbeats 400000 in
theorem f_Course_putInto_50_l6_k38_t {x : zm_X} {d : Nat} (v2 : Int32) (h : zm_H) {Q : Option Value → zm_H → Prop} {FN : Nat × Int32 × zm_H → Prop} (hs : zSh zT0 h) (ho : f_Course_putInto_50_l6_k38_ok v2 h) (hF : FN (f_Course_putInto_50_l6_k38 v2 h)) (hl0 : ∀ (v2 : Int32) (h : zm_H), zSh zT0 h → FN (0, v2, h) → zg x (d + 3) 19 6 [some (.ref 50), some (.ref 32), some (.int v2)] [] h Q) (hl1 : ∀ (v2 : Int32) (h : zm_H) (o2 : Option Value), zSh zT0 h → FN (1, v2, h) → zg x (d + 3) 19 44 [some (.ref 50), some (.ref 32), o2] [] h Q) : zg x (d + 3) 19 38 [some (.ref 50), some (.ref 32), some (.int v2)] [] h Q := by
  unfold f_Course_putInto_50_l6_k38 at hF
  unfold f_Course_putInto_50_l6_k38_ok at ho
  refine zg_blk zd_19 2 hs (rfl : zb x zT0 zc_19 2 (38, [some (.ref 50), some (.ref 32), some (.int v2)], [], h) = some (6, [some (.ref 50), some (.ref 32), some (.int (v2 + 1))], [], h)) (fun hs => ?_)
  exact hl0 (v2 + 1) h hs hF
set_option maxRecDepth 100000 in
set_option maxHeartbeats 400000 in
theorem f_Course_putInto_50_l6_b_t {x : zm_X} {d : Nat} (v2 : Int32) (h : zm_H) {Q : Option Value → zm_H → Prop} {FN : Nat × Int32 × zm_H → Prop} (hs : zSh zT0 h) (ho : f_Course_putInto_50_l6_b_ok v2 h) (hF : FN (f_Course_putInto_50_l6_b v2 h)) (hl0 : ∀ (v2 : Int32) (h : zm_H), zSh zT0 h → FN (0, v2, h) → zg x (d + 3) 19 6 [some (.ref 50), some (.ref 32), some (.int v2)] [] h Q) (hl1 : ∀ (v2 : Int32) (h : zm_H) (o2 : Option Value), zSh zT0 h → FN (1, v2, h) → zg x (d + 3) 19 44 [some (.ref 50), some (.ref 32), o2] [] h Q) : zg x (d + 3) 19 6 [some (.ref 50), some (.ref 32), some (.int v2)] [] h Q := by
  unfold f_Course_putInto_50_l6_b at hF
  unfold f_Course_putInto_50_l6_b_ok at ho
  refine zg_blk zd_19 4 hs (rfl : zb x zT0 zc_19 4 (6, [some (.ref 50), some (.ref 32), some (.int v2)], [], h) = some (14, [some (.ref 50), some (.ref 32), some (.int v2)], [.int (zf h 23 0), .int v2], h)) (fun hs => ?_)
  refine zg_i_ge zd_19 rfl (fun (hc : ((zf h 23 0) ≤ v2)) => ?_) (fun (hc : ¬ ((zf h 23 0) ≤ v2)) => ?_)
  · have ho := ho.1 hc
    rw [if_pos hc] at hF
    exact hl1 v2 h (some (.int v2)) hs hF
  · have ho := ho.2 hc
    rw [if_neg hc] at hF
    refine zg_blk zd_19 3 hs (rfl : zb x zT0 zc_19 3 (17, [some (.ref 50), some (.ref 32), some (.int v2)], [], h) = some (22, [some (.ref 50), some (.ref 32), some (.int v2)], [.int v2, .ref 51], h)) (fun hs => ?_)
    obtain ⟨hob, ho⟩ := ho
    refine zg_ial hs zd_19 rfl rfl hob ?_
    refine zg_blk zd_19 1 hs (rfl : zb x zT0 zc_19 1 (23, [some (.ref 50), some (.ref 32), some (.int v2)], [.int (zr h 51 v2)], h) = some (24, [some (.ref 50), some (.ref 32), some (.int v2)], [.int 1, .int (zr h 51 v2)], h)) (fun hs => ?_)
    refine zg_i_ne zd_19 rfl (fun (hc : ¬ ((zr h 51 v2) = 1)) => ?_) (fun (hc : ((zr h 51 v2) = 1)) => ?_)
    · have ho := ho.2 hc
      rw [if_neg hc] at hF
      exact f_Course_putInto_50_l6_k38_t v2 h hs trivial hF hl0 hl1
    · have ho := ho.1 hc
      rw [if_pos hc] at hF
      refine zg_blk zd_19 5 hs (rfl : zb x zT0 zc_19 5 (27, [some (.ref 50), some (.ref 32), some (.int v2)], [], h) = some (34, [some (.ref 50), some (.ref 32), some (.int v2)], [.int v2, .ref 52, .int v2, .ref 32], h)) (fun hs => ?_)
      obtain ⟨hob, ho⟩ := ho
      refine zg_ial hs zd_19 rfl rfl hob ?_
      have hob := ho
      refine zg_call hs zd_19 rfl rfl rfl rfl (as := [.ref 32, .int v2, .int (zr h 52 v2)]) (rest := []) (en := [some (.ref 32), some (.int v2), some (.int (zr h 52 v2))]) rfl rfl rfl rfl rfl ?_
      refine f_Waves_putIn_t v2 (zr h 52 v2) h hs hob (fun hs => ?_)
      show zg x (d + 3) 19 38 [some (.ref 50), some (.ref 32), some (.int v2)] [] (f_Waves_putIn v2 (zr h 52 v2) h) Q
      exact f_Course_putInto_50_l6_k38_t v2 (f_Waves_putIn v2 (zr h 52 v2) h) hs trivial hF hl0 hl1
theorem f_Course_putInto_50_l6_t {x : zm_X} {d : Nat} {Q : Option Value → zm_H → Prop} (G : Nat × Int32 × zm_H → Prop) (hx1 : ∀ (v2 : Int32) (h : zm_H) (o2 : Option Value), zSh zT0 h → G (1, v2, h) → zg x (d + 3) 19 44 [some (.ref 50), some (.ref 32), o2] [] h Q) : ∀ (n : Nat) (v2 : Int32) (h : zm_H), zSh zT0 h → f_Course_putInto_50_l6_ok n (v2, h) → G (f_Course_putInto_50_l6 n (v2, h)) → zg x (d + 3) 19 6 [some (.ref 50), some (.ref 32), some (.int v2)] [] h Q := by
  intro n
  induction n with
  | zero => intro v2 h hs ho hG; exact ho.elim
  | succ n ih =>
    intro v2 h hs ho hG
    refine f_Course_putInto_50_l6_b_t (FN := fun r => (r.1 = 0 → f_Course_putInto_50_l6_ok n r.2) ∧ G (if r.1 = 0 then f_Course_putInto_50_l6 n r.2 else r)) v2 h hs ho.1 ⟨ho.2, hG⟩ ?_ ?_
    · intro v2 h hs hF
      exact ih v2 h hs (hF.1 rfl) hF.2
    · intro v2 h o2 hs hF
      exact hx1 v2 h o2 hs hF.2

