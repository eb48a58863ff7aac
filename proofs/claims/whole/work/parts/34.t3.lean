/-! ===== the code does what its functions say, 3 ===== -/
theorem zd_77 : zm_cd 77 = zc_77 := by rfl
set_option maxRecDepth 100000 in
set_option maxHeartbeats 400000 in
theorem f_Rules_push_t {x : zm_X} {d : Nat} (p1 : Int32) (h : zm_H) {Q : Option Value → zm_H → Prop} (hs : zSh zT0 h) (ho : f_Rules_push_ok p1 h) (hF : (zSh zT0 (f_Rules_push p1 h) → Q none (f_Rules_push p1 h))) : zg x (d + 1) 77 0 [some (.ref 15), some (.int p1)] [] h Q := by
  unfold f_Rules_push at hF
  unfold f_Rules_push_ok at ho
  refine zg_blk zd_77 3 hs (rfl : zb x zT0 zc_77 3 (0, [some (.ref 15), some (.int p1)], [], h) = some (6, [some (.ref 15), some (.int p1)], [.int 64, .int (zf h 15 9)], h)) (fun hs => ?_)
  have hom := ho
  have K52 : zSh zT0 (if (64 ≤ (zf h 15 9)) then h else (zp (zs h 22 (zf h 15 9) p1) 15 9 ((zf h 15 9) + 1))) → zg x (d + 1) 77 29 [some (.ref 15), some (.int p1)] [] (if (64 ≤ (zf h 15 9)) then h else (zp (zs h 22 (zf h 15 9) p1) 15 9 ((zf h 15 9) + 1))) Q := fun hs => by
    exact zg_ret zd_77 rfl rfl (hF hs)
  refine zg_i_ge zd_77 rfl (fun (hc : (64 ≤ (zf h 15 9))) => ?_) (fun (hc : ¬ (64 ≤ (zf h 15 9))) => ?_)
  · have ho := hom.1 hc
    rw [show (if (64 ≤ (zf h 15 9)) then h else (zp (zs h 22 (zf h 15 9) p1) 15 9 ((zf h 15 9) + 1))) = h from if_pos hc] at K52
    exact K52 hs
  · have ho := hom.2 hc
    rw [show (if (64 ≤ (zf h 15 9)) then h else (zp (zs h 22 (zf h 15 9) p1) 15 9 ((zf h 15 9) + 1))) = (zp (zs h 22 (zf h 15 9) p1) 15 9 ((zf h 15 9) + 1)) from if_neg hc] at K52
    refine zg_blk zd_77 5 hs (rfl : zb x zT0 zc_77 5 (9, [some (.ref 15), some (.int p1)], [], h) = some (18, [some (.ref 15), some (.int p1)], [.int p1, .int (zf h 15 9), .ref 22], h)) (fun hs => ?_)
    have hob := ho
    refine zg_ias hs zd_77 rfl rfl hob (fun hs => ?_)
    refine zg_blk zd_77 6 hs (rfl : zb x zT0 zc_77 6 (19, [some (.ref 15), some (.int p1)], [], (zs h 22 (zf h 15 9) p1)) = some (29, [some (.ref 15), some (.int p1)], [], (zp (zs h 22 (zf h 15 9) p1) 15 9 ((zf h 15 9) + 1)))) (fun hs => ?_)
    exact K52 hs
set_option maxRecDepth 100000 in
set_option maxHeartbeats 400000 in
theorem f_Rules_work_l68_k231_t {x : zm_X} {d : Nat} (v3 : Nat) (v4 : Int32) (v5 : Int32) (h : zm_H) (o1 : Option Value) (z2 : Int32) (o6 : Option Value) {Q : Option Value → zm_H → Prop} {FN : Nat × Int32 × zm_H → Prop} (hs : zSh zT0 h) (ho : f_Rules_work_l68_k231_ok v3 v4 v5 h) (hF : FN (f_Rules_work_l68_k231 v3 v4 v5 h)) (hl0 : ∀ (v5 : Int32) (h : zm_H) (o1 : Option Value) (z2 : Int32) (o6 : Option Value), zSh zT0 h → FN (0, v5, h) → zg x (d + 2) 76 68 [some (.ref 15), o1, some (.int z2), some (.ref v3), some (.int v4), some (.int v5), o6] [] h Q) (hl1 : ∀ (v5 : Int32) (h : zm_H) (o1 : Option Value) (z2 : Int32) (o5 : Option Value) (o6 : Option Value), zSh zT0 h → FN (1, v5, h) → zg x (d + 2) 76 237 [some (.ref 15), o1, some (.int z2), some (.ref v3), some (.int v4), o5, o6] [] h Q) : zg x (d + 2) 76 231 [some (.ref 15), o1, some (.int z2), some (.ref v3), some (.int v4), some (.int v5), o6] [] h Q := by
  unfold f_Rules_work_l68_k231 at hF
  unfold f_Rules_work_l68_k231_ok at ho
  refine zg_blk zd_76 2 hs (rfl : zb x zT0 zc_76 2 (231, [some (.ref 15), o1, some (.int z2), some (.ref v3), some (.int v4), some (.int v5), o6], [], h) = some (68, [some (.ref 15), o1, some (.int z2), some (.ref v3), some (.int v4), some (.int (v5 + 1)), o6], [], h)) (fun hs => ?_)
  exact hl0 (v5 + 1) h (o1) z2 (o6) hs hF
set_option maxRecDepth 100000 in
set_option maxHeartbeats 400000 in
theorem f_Rules_work_l68_k131_t {x : zm_X} {d : Nat} (v3 : Nat) (v4 : Int32) (v5 : Int32) (h : zm_H) (o1 : Option Value) (z2 : Int32) (o6 : Option Value) {Q : Option Value → zm_H → Prop} {FN : Nat × Int32 × zm_H → Prop} (hs : zSh zT0 h) (ho : f_Rules_work_l68_k131_ok v3 v4 v5 h) (hF : FN (f_Rules_work_l68_k131 v3 v4 v5 h)) (hl0 : ∀ (v5 : Int32) (h : zm_H) (o1 : Option Value) (z2 : Int32) (o6 : Option Value), zSh zT0 h → FN (0, v5, h) → zg x (d + 2) 76 68 [some (.ref 15), o1, some (.int z2), some (.ref v3), some (.int v4), some (.int v5), o6] [] h Q) (hl1 : ∀ (v5 : Int32) (h : zm_H) (o1 : Option Value) (z2 : Int32) (o5 : Option Value) (o6 : Option Value), zSh zT0 h → FN (1, v5, h) → zg x (d + 2) 76 237 [some (.ref 15), o1, some (.int z2), some (.ref v3), some (.int v4), o5, o6] [] h Q) : zg x (d + 2) 76 131 [some (.ref 15), o1, some (.int z2), some (.ref v3), some (.int v4), some (.int v5), o6] [] h Q := by
  unfold f_Rules_work_l68_k131 at hF
  unfold f_Rules_work_l68_k131_ok at ho
  refine zg_blk zd_76 1 hs (rfl : zb x zT0 zc_76 1 (131, [some (.ref 15), o1, some (.int z2), some (.ref v3), some (.int v4), some (.int v5), o6], [], h) = some (231, [some (.ref 15), o1, some (.int z2), some (.ref v3), some (.int v4), some (.int v5), o6], [], h)) (fun hs => ?_)
  exact f_Rules_work_l68_k231_t v3 v4 v5 h (o1) z2 (o6) hs trivial hF hl0 hl1
set_option maxRecDepth 100000 in
set_option maxHeartbeats 400000 in
theorem f_Rules_work_l68_k97_t {x : zm_X} {d : Nat} (v3 : Nat) (v4 : Int32) (v5 : Int32) (h : zm_H) (o1 : Option Value) (z2 : Int32) (o6 : Option Value) {Q : Option Value → zm_H → Prop} {FN : Nat × Int32 × zm_H → Prop} (hs : zSh zT0 h) (ho : f_Rules_work_l68_k97_ok v3 v4 v5 h) (hF : FN (f_Rules_work_l68_k97 v3 v4 v5 h)) (hl0 : ∀ (v5 : Int32) (h : zm_H) (o1 : Option Value) (z2 : Int32) (o6 : Option Value), zSh zT0 h → FN (0, v5, h) → zg x (d + 2) 76 68 [some (.ref 15), o1, some (.int z2), some (.ref v3), some (.int v4), some (.int v5), o6] [] h Q) (hl1 : ∀ (v5 : Int32) (h : zm_H) (o1 : Option Value) (z2 : Int32) (o5 : Option Value) (o6 : Option Value), zSh zT0 h → FN (1, v5, h) → zg x (d + 2) 76 237 [some (.ref 15), o1, some (.int z2), some (.ref v3), some (.int v4), o5, o6] [] h Q) : zg x (d + 2) 76 97 [some (.ref 15), o1, some (.int z2), some (.ref v3), some (.int v4), some (.int v5), o6] [] h Q := by
  unfold f_Rules_work_l68_k97 at hF
  unfold f_Rules_work_l68_k97_ok at ho
  refine zg_blk zd_76 1 hs (rfl : zb x zT0 zc_76 1 (97, [some (.ref 15), o1, some (.int z2), some (.ref v3), some (.int v4), some (.int v5), o6], [], h) = some (231, [some (.ref 15), o1, some (.int z2), some (.ref v3), some (.int v4), some (.int v5), o6], [], h)) (fun hs => ?_)
  exact f_Rules_work_l68_k231_t v3 v4 v5 h (o1) z2 (o6) hs trivial hF hl0 hl1
set_option maxRecDepth 100000 in
set_option maxHeartbeats 400000 in
theorem f_Rules_work_l68_b_t {x : zm_X} {d : Nat} (v3 : Nat) (v4 : Int32) (v5 : Int32) (h : zm_H) (o1 : Option Value) (z2 : Int32) (o6 : Option Value) {Q : Option Value → zm_H → Prop} {FN : Nat × Int32 × zm_H → Prop} (hs : zSh zT0 h) (ho : f_Rules_work_l68_b_ok v3 v4 v5 h) (hF : FN (f_Rules_work_l68_b v3 v4 v5 h)) (hl0 : ∀ (v5 : Int32) (h : zm_H) (o1 : Option Value) (z2 : Int32) (o6 : Option Value), zSh zT0 h → FN (0, v5, h) → zg x (d + 2) 76 68 [some (.ref 15), o1, some (.int z2), some (.ref v3), some (.int v4), some (.int v5), o6] [] h Q) (hl1 : ∀ (v5 : Int32) (h : zm_H) (o1 : Option Value) (z2 : Int32) (o5 : Option Value) (o6 : Option Value), zSh zT0 h → FN (1, v5, h) → zg x (d + 2) 76 237 [some (.ref 15), o1, some (.int z2), some (.ref v3), some (.int v4), o5, o6] [] h Q) : zg x (d + 2) 76 68 [some (.ref 15), o1, some (.int z2), some (.ref v3), some (.int v4), some (.int v5), o6] [] h Q := by
  unfold f_Rules_work_l68_b at hF
  unfold f_Rules_work_l68_b_ok at ho
  refine zg_blk zd_76 2 hs (rfl : zb x zT0 zc_76 2 (68, [some (.ref 15), o1, some (.int z2), some (.ref v3), some (.int v4), some (.int v5), o6], [], h) = some (72, [some (.ref 15), o1, some (.int z2), some (.ref v3), some (.int v4), some (.int v5), o6], [.int v4, .int v5], h)) (fun hs => ?_)
  refine zg_i_ge zd_76 rfl (fun (hc : (v4 ≤ v5)) => ?_) (fun (hc : ¬ (v4 ≤ v5)) => ?_)
  · have ho := ho.1 hc
    rw [if_pos hc] at hF
    exact hl1 v5 h (o1) z2 (some (.int v5)) (o6) hs hF
  · have ho := ho.2 hc
    rw [if_neg hc] at hF
    refine zg_blk zd_76 2 hs (rfl : zb x zT0 zc_76 2 (75, [some (.ref 15), o1, some (.int z2), some (.ref v3), some (.int v4), some (.int v5), o6], [], h) = some (78, [some (.ref 15), o1, some (.int z2), some (.ref v3), some (.int v4), some (.int v5), o6], [.int v5, .ref v3], h)) (fun hs => ?_)
    obtain ⟨hob, ho⟩ := ho
    refine zg_iald zd_76 rfl hob ?_
    refine zg_blk zd_76 4 hs (rfl : zb x zT0 zc_76 4 (79, [some (.ref 15), o1, some (.int z2), some (.ref v3), some (.int v4), some (.int v5), o6], [.int (zr h v3 v5)], h) = some (86, [some (.ref 15), o1, some (.int z2), some (.ref v3), some (.int v4), some (.int v5), some (.int ((zr h v3 v5) - 100000))], [.int ((zr h v3 v5) - 100000)], h)) (fun hs => ?_)
    refine zg_f_ge zd_76 rfl (fun (hc : (0 ≤ ((zr h v3 v5) - 100000))) => ?_) (fun (hc : ¬ (0 ≤ ((zr h v3 v5) - 100000))) => ?_)
    · have ho := ho.1 hc
      rw [if_pos hc] at hF
      refine zg_blk zd_76 2 hs (rfl : zb x zT0 zc_76 2 (100, [some (.ref 15), o1, some (.int z2), some (.ref v3), some (.int v4), some (.int v5), some (.int ((zr h v3 v5) - 100000))], [], h) = some (105, [some (.ref 15), o1, some (.int z2), some (.ref v3), some (.int v4), some (.int v5), some (.int ((zr h v3 v5) - 100000))], [.int 304, .int ((zr h v3 v5) - 100000)], h)) (fun hs => ?_)
      refine zg_i_lt zd_76 rfl (fun (hc : (((zr h v3 v5) - 100000) < 304)) => ?_) (fun (hc : ¬ (((zr h v3 v5) - 100000) < 304)) => ?_)
      · have ho := ho.1 hc
        rw [if_pos hc] at hF
        exact f_Rules_work_l68_k134_t v3 v4 v5 ((zr h v3 v5) - 100000) h (o1) z2 hs ho hF hl0 hl1
      · have ho := ho.2 hc
        rw [if_neg hc] at hF
        refine zg_blk zd_76 2 hs (rfl : zb x zT0 zc_76 2 (108, [some (.ref 15), o1, some (.int z2), some (.ref v3), some (.int v4), some (.int v5), some (.int ((zr h v3 v5) - 100000))], [], h) = some (113, [some (.ref 15), o1, some (.int z2), some (.ref v3), some (.int v4), some (.int v5), some (.int ((zr h v3 v5) - 100000))], [.int 312, .int ((zr h v3 v5) - 100000)], h)) (fun hs => ?_)
        refine zg_i_gt zd_76 rfl (fun (hc : (312 < ((zr h v3 v5) - 100000))) => ?_) (fun (hc : ¬ (312 < ((zr h v3 v5) - 100000))) => ?_)
        · have ho := ho.1 hc
          rw [if_pos hc] at hF
          exact f_Rules_work_l68_k134_t v3 v4 v5 ((zr h v3 v5) - 100000) h (o1) z2 hs ho hF hl0 hl1
        · have ho := ho.2 hc
          rw [if_neg hc] at hF
          refine zg_blk zd_76 6 hs (rfl : zb x zT0 zc_76 6 (116, [some (.ref 15), o1, some (.int z2), some (.ref v3), some (.int v4), some (.int v5), some (.int ((zr h v3 v5) - 100000))], [], h) = some (127, [some (.ref 15), o1, some (.int z2), some (.ref v3), some (.int v4), some (.int v5), some (.int ((zr h v3 v5) - 100000))], [.int (((zr h v3 v5) - 100000) - 304), .ref 21, .ref 15], h)) (fun hs => ?_)
          obtain ⟨hob, ho⟩ := ho
          refine zg_ial hs zd_76 rfl rfl hob ?_
          have hob := ho
          refine zg_call hs zd_76 rfl rfl rfl rfl (as := [.ref 15, .int (zr h 21 (((zr h v3 v5) - 100000) - 304))]) (rest := []) (en := [some (.ref 15), some (.int (zr h 21 (((zr h v3 v5) - 100000) - 304)))]) rfl rfl rfl rfl rfl ?_
          refine f_Rules_push_t (zr h 21 (((zr h v3 v5) - 100000) - 304)) h hs hob (fun hs => ?_)
          show zg x (d + 2) 76 131 [some (.ref 15), o1, some (.int z2), some (.ref v3), some (.int v4), some (.int v5), some (.int ((zr h v3 v5) - 100000))] [] (f_Rules_push (zr h 21 (((zr h v3 v5) - 100000) - 304)) h) Q
          exact f_Rules_work_l68_k131_t v3 v4 v5 (f_Rules_push (zr h 21 (((zr h v3 v5) - 100000) - 304)) h) (o1) z2 (some (.int ((zr h v3 v5) - 100000))) hs trivial hF hl0 hl1
    · have ho := ho.2 hc
      rw [if_neg hc] at hF
      refine zg_blk zd_76 3 hs (rfl : zb x zT0 zc_76 3 (89, [some (.ref 15), o1, some (.int z2), some (.ref v3), some (.int v4), some (.int v5), some (.int ((zr h v3 v5) - 100000))], [], h) = some (93, [some (.ref 15), o1, some (.int z2), some (.ref v3), some (.int v4), some (.int v5), some (.int ((zr h v3 v5) - 100000))], [.int v5, .ref v3, .ref 15], h)) (fun hs => ?_)
      obtain ⟨hob, ho⟩ := ho
      refine zg_iald zd_76 rfl hob ?_
      have hob := ho
      refine zg_call hs zd_76 rfl rfl rfl rfl (as := [.ref 15, .int (zr h v3 v5)]) (rest := []) (en := [some (.ref 15), some (.int (zr h v3 v5))]) rfl rfl rfl rfl rfl ?_
      refine f_Rules_push_t (zr h v3 v5) h hs hob (fun hs => ?_)
      show zg x (d + 2) 76 97 [some (.ref 15), o1, some (.int z2), some (.ref v3), some (.int v4), some (.int v5), some (.int ((zr h v3 v5) - 100000))] [] (f_Rules_push (zr h v3 v5) h) Q
      exact f_Rules_work_l68_k97_t v3 v4 v5 (f_Rules_push (zr h v3 v5) h) (o1) z2 (some (.int ((zr h v3 v5) - 100000))) hs trivial hF hl0 hl1
theorem f_Rules_work_l68_t {x : zm_X} {d : Nat} (v3 : Nat) (v4 : Int32) {Q : Option Value → zm_H → Prop} (G : Nat × Int32 × zm_H → Prop) (hx1 : ∀ (v5 : Int32) (h : zm_H) (o1 : Option Value) (z2 : Int32) (o5 : Option Value) (o6 : Option Value), zSh zT0 h → G (1, v5, h) → zg x (d + 2) 76 237 [some (.ref 15), o1, some (.int z2), some (.ref v3), some (.int v4), o5, o6] [] h Q) : ∀ (n : Nat) (v5 : Int32) (h : zm_H) (o1 : Option Value) (z2 : Int32) (o6 : Option Value), zSh zT0 h → f_Rules_work_l68_ok v3 v4 n (v5, h) → G (f_Rules_work_l68 v3 v4 n (v5, h)) → zg x (d + 2) 76 68 [some (.ref 15), o1, some (.int z2), some (.ref v3), some (.int v4), some (.int v5), o6] [] h Q := by
  intro n
  induction n with
  | zero => intro v5 h o1 z2 o6 hs ho hG; exact ho.elim
  | succ n ih =>
    intro v5 h o1 z2 o6 hs ho hG
    refine f_Rules_work_l68_b_t (FN := fun r => (r.1 = 0 → f_Rules_work_l68_ok v3 v4 n r.2) ∧ G (if r.1 = 0 then f_Rules_work_l68 v3 v4 n r.2 else r)) v3 v4 v5 h o1 z2 o6 hs ho.1 ⟨ho.2, hG⟩ ?_ ?_
    · intro v5 h o1 z2 o6 hs hF
      exact ih v5 h o1 z2 o6 hs (hF.1 rfl) hF.2
    · intro v5 h o1 z2 o5 o6 hs hF
      exact hx1 v5 h o1 z2 o5 o6 hs hF.2

set_option maxRecDepth 100000 in
set_option maxHeartbeats 400000 in
theorem f_Rules_work_k237_t {x : zm_X} {d : Nat} (h : zm_H) (o1 : Option Value) (z2 : Int32) (o3 : Option Value) (o4 : Option Value) (o5 : Option Value) (o6 : Option Value) {Q : Option Value → zm_H → Prop} (hs : zSh zT0 h) (ho : f_Rules_work_k237_ok h) (hF : (zSh zT0 (f_Rules_work_k237 h).2 → Q (some (.int (f_Rules_work_k237 h).1)) (f_Rules_work_k237 h).2)) : zg x (d + 2) 76 237 [some (.ref 15), o1, some (.int z2), o3, o4, o5, o6] [] h Q := by
  unfold f_Rules_work_k237 at hF
  unfold f_Rules_work_k237_ok at ho
  refine zg_blk zd_76 2 hs (rfl : zb x zT0 zc_76 2 (237, [some (.ref 15), o1, some (.int z2), o3, o4, o5, o6], [], h) = some (241, [some (.ref 15), o1, some (.int z2), o3, o4, o5, o6], [.int (zf h 15 9)], h)) (fun hs => ?_)
  have hom := ho
  have K53 : zSh zT0 h → zg x (d + 2) 76 259 [some (.ref 15), o1, some (.int z2), o3, o4, o5, o6] [.int (if ((zf h 15 9) ≤ 0) then (0 : Int32) else (zr h 22 ((zf h 15 9) - 1)))] h Q := fun hs => by
    exact zg_ret zd_76 rfl rfl (hF hs)
  refine zg_f_le zd_76 rfl (fun (hc : ((zf h 15 9) ≤ 0)) => ?_) (fun (hc : ¬ ((zf h 15 9) ≤ 0)) => ?_)
  · have ho := hom.1 hc
    rw [show ((if ((zf h 15 9) ≤ 0) then (0 : Int32) else (zr h 22 ((zf h 15 9) - 1))) : Int32) = 0 from if_pos hc] at K53
    refine zg_blk zd_76 1 hs (rfl : zb x zT0 zc_76 1 (258, [some (.ref 15), o1, some (.int z2), o3, o4, o5, o6], [], h) = some (259, [some (.ref 15), o1, some (.int z2), o3, o4, o5, o6], [.int 0], h)) (fun hs => ?_)
    exact K53 hs
  · have ho := hom.2 hc
    rw [show ((if ((zf h 15 9) ≤ 0) then (0 : Int32) else (zr h 22 ((zf h 15 9) - 1))) : Int32) = (zr h 22 ((zf h 15 9) - 1)) from if_neg hc] at K53
    refine zg_blk zd_76 6 hs (rfl : zb x zT0 zc_76 6 (244, [some (.ref 15), o1, some (.int z2), o3, o4, o5, o6], [], h) = some (254, [some (.ref 15), o1, some (.int z2), o3, o4, o5, o6], [.int ((zf h 15 9) - 1), .ref 22], h)) (fun hs => ?_)
    have hob := ho
    refine zg_ial hs zd_76 rfl rfl hob ?_
    refine zg_blk zd_76 1 hs (rfl : zb x zT0 zc_76 1 (255, [some (.ref 15), o1, some (.int z2), o3, o4, o5, o6], [.int (zr h 22 ((zf h 15 9) - 1))], h) = some (259, [some (.ref 15), o1, some (.int z2), o3, o4, o5, o6], [.int (zr h 22 ((zf h 15 9) - 1))], h)) (fun hs => ?_)
    exact K53 hs
set_option maxRecDepth 100000 in
set_option maxHeartbeats 400000 in
theorem f_Rules_work_k47_t {x : zm_X} {d : Nat} (v1 : Int32) (v2 : Int32) (v3 : Nat) (v4 : Int32) (h : zm_H) (o5 : Option Value) (o6 : Option Value) {Q : Option Value → zm_H → Prop} (hs : zSh zT0 h) (ho : f_Rules_work_k47_ok v1 v2 v3 v4 h) (hF : (zSh zT0 (f_Rules_work_k47 v1 v2 v3 v4 h).2 → Q (some (.int (f_Rules_work_k47 v1 v2 v3 v4 h).1)) (f_Rules_work_k47 v1 v2 v3 v4 h).2)) : zg x (d + 2) 76 47 [some (.ref 15), some (.int v1), some (.int v2), some (.ref v3), some (.int v4), o5, o6] [] h Q := by
  unfold f_Rules_work_k47 at hF
  unfold f_Rules_work_k47_ok at ho
  refine zg_blk zd_76 10 hs (rfl : zb x zT0 zc_76 10 (47, [some (.ref 15), some (.int v1), some (.int v2), some (.ref v3), some (.int v4), o5, o6], [], h) = some (61, [some (.ref 15), some (.int v1), some (.int v2), some (.ref v3), some (.int v4), o5, o6], [.int ((v1 * 4) + v2), .ref 17], (zp h 15 9 0))) (fun hs => ?_)
  obtain ⟨hob, ho⟩ := ho
  refine zg_ial hs zd_76 rfl rfl hob ?_
  refine zg_blk zd_76 1 hs (rfl : zb x zT0 zc_76 1 (62, [some (.ref 15), some (.int v1), some (.int v2), some (.ref v3), some (.int v4), o5, o6], [.int (zr h 17 ((v1 * 4) + v2))], (zp h 15 9 0)) = some (63, [some (.ref 15), some (.int v1), some (.int v2), some (.ref v3), some (.int v4), o5, o6], [.int 0, .int (zr h 17 ((v1 * 4) + v2))], (zp h 15 9 0))) (fun hs => ?_)
  refine zg_x zd_76 rfl rfl rfl rfl (as := [.int (zr h 17 ((v1 * 4) + v2)), .int 0]) (rest := []) (w := some (.int (if (zr h 17 ((v1 * 4) + v2)) < 0 then 0 else (zr h 17 ((v1 * 4) + v2))))) rfl rfl rfl ?_
  refine zg_blk zd_76 1 hs (rfl : zb x zT0 zc_76 1 (66, [some (.ref 15), some (.int v1), some (.int v2), some (.ref v3), some (.int v4), o5, o6], [.int (if (zr h 17 ((v1 * 4) + v2)) < 0 then 0 else (zr h 17 ((v1 * 4) + v2)))], (zp h 15 9 0)) = some (68, [some (.ref 15), some (.int v1), some (.int v2), some (.ref v3), some (.int v4), some (.int (if (zr h 17 ((v1 * 4) + v2)) < 0 then 0 else (zr h 17 ((v1 * 4) + v2)))), o6], [], (zp h 15 9 0))) (fun hs => ?_)
  refine f_Rules_work_l68_t v3 v4 (fun r => f_Rules_work_a68_ok r ∧ (zSh zT0 (f_Rules_work_a68 r).2 → Q (some (.int (f_Rules_work_a68 r).1)) (f_Rules_work_a68 r).2)) ?_ zF (if (zr h 17 ((v1 * 4) + v2)) < 0 then 0 else (zr h 17 ((v1 * 4) + v2))) (zp h 15 9 0) (some (.int v1)) v2 (o6) hs ho.1 ⟨ho.2, hF⟩
  · intro v5_ h_ o1_ z2_ o5_ o6_ hs hG
    have ho : (f_Rules_work_k237_ok h_) := hG.1
    have hF : (zSh zT0 ((f_Rules_work_k237 h_)).2 → Q (some (.int ((f_Rules_work_k237 h_)).1)) ((f_Rules_work_k237 h_)).2) := hG.2
    exact f_Rules_work_k237_t h_ (o1_) z2_ (some (.ref v3)) (some (.int v4)) (o5_) (o6_) hs ho hF
set_option maxRecDepth 100000 in
set_option maxHeartbeats 400000 in
theorem f_Rules_work_t {x : zm_X} {d : Nat} (p1 : Int32) (p2 : Int32) (h : zm_H) {Q : Option Value → zm_H → Prop} (hs : zSh zT0 h) (ho : f_Rules_work_ok p1 p2 h) (hF : (zSh zT0 (f_Rules_work p1 p2 h).2 → Q (some (.int (f_Rules_work p1 p2 h).1)) (f_Rules_work p1 p2 h).2)) : zg x (d + 2) 76 0 [some (.ref 15), some (.int p1), some (.int p2), none, none, none, none] [] h Q := by
  unfold f_Rules_work at hF
  unfold f_Rules_work_ok at ho
  refine zg_blk zd_76 1 hs (rfl : zb x zT0 zc_76 1 (0, [some (.ref 15), some (.int p1), some (.int p2), none, none, none, none], [], h) = some (1, [some (.ref 15), some (.int p1), some (.int p2), none, none, none, none], [.int p1], h)) (fun hs => ?_)
  refine zg_f_lt zd_76 rfl (fun (hc : (p1 < 0)) => ?_) (fun (hc : ¬ (p1 < 0)) => ?_)
  · have ho := ho.1 hc
    rw [if_pos hc] at hF
    refine zg_blk zd_76 1 hs (rfl : zb x zT0 zc_76 1 (21, [some (.ref 15), some (.int p1), some (.int p2), none, none, none, none], [], h) = some (22, [some (.ref 15), some (.int p1), some (.int p2), none, none, none, none], [.int 0], h)) (fun hs => ?_)
    exact zg_ret zd_76 rfl rfl (hF hs)
  · have ho := ho.2 hc
    rw [if_neg hc] at hF
    refine zg_blk zd_76 3 hs (rfl : zb x zT0 zc_76 3 (4, [some (.ref 15), some (.int p1), some (.int p2), none, none, none, none], [], h) = some (9, [some (.ref 15), some (.int p1), some (.int p2), none, none, none, none], [.int (zf h 15 0), .int p1], h)) (fun hs => ?_)
    refine zg_i_ge zd_76 rfl (fun (hc : ((zf h 15 0) ≤ p1)) => ?_) (fun (hc : ¬ ((zf h 15 0) ≤ p1)) => ?_)
    · have ho := ho.1 hc
      rw [if_pos hc] at hF
      refine zg_blk zd_76 1 hs (rfl : zb x zT0 zc_76 1 (21, [some (.ref 15), some (.int p1), some (.int p2), none, none, none, none], [], h) = some (22, [some (.ref 15), some (.int p1), some (.int p2), none, none, none, none], [.int 0], h)) (fun hs => ?_)
      exact zg_ret zd_76 rfl rfl (hF hs)
    · have ho := ho.2 hc
      rw [if_neg hc] at hF
      refine zg_blk zd_76 3 hs (rfl : zb x zT0 zc_76 3 (12, [some (.ref 15), some (.int p1), some (.int p2), none, none, none, none], [], h) = some (17, [some (.ref 15), some (.int p1), some (.int p2), none, none, none, none], [.int p1, .ref 16], h)) (fun hs => ?_)
      obtain ⟨hob, ho⟩ := ho
      refine zg_aal hs zd_76 rfl rfl hob ?_
      refine zg_nn zd_76 rfl (fun (hc : ¬ ((zrf h 16 p1) = none)) => ?_) (fun (hc : ((zrf h 16 p1) = none)) => ?_)
      · have ho := ho.2 hc
        rw [if_neg hc] at hF
        refine zg_blk zd_76 3 hs (rfl : zb x zT0 zc_76 3 (23, [some (.ref 15), some (.int p1), some (.int p2), none, none, none, none], [], h) = some (28, [some (.ref 15), some (.int p1), some (.int p2), none, none, none, none], [.int p1, .ref 16], h)) (fun hs => ?_)
        obtain ⟨hob, ho⟩ := ho
        refine zg_aald hs zd_76 rfl rfl hob ?_
        refine zg_blk zd_76 8 hs (rfl : zb x zT0 zc_76 8 (29, [some (.ref 15), some (.int p1), some (.int p2), none, none, none, none], [.ref (((zrf h 16 p1)).getD 0)], h) = some (39, [some (.ref 15), some (.int p1), some (.int p2), some (.ref (((zrf h 16 p1)).getD 0)), none, none, none], [.int ((p1 * 4) + p2), .ref 18], h)) (fun hs => ?_)
        obtain ⟨hob, ho⟩ := ho
        refine zg_ial hs zd_76 rfl rfl hob ?_
        refine zg_blk zd_76 1 hs (rfl : zb x zT0 zc_76 1 (40, [some (.ref 15), some (.int p1), some (.int p2), some (.ref (((zrf h 16 p1)).getD 0)), none, none, none], [.int (zr h 18 ((p1 * 4) + p2))], h) = some (41, [some (.ref 15), some (.int p1), some (.int p2), some (.ref (((zrf h 16 p1)).getD 0)), none, none, none], [.ref (((zrf h 16 p1)).getD 0), .int (zr h 18 ((p1 * 4) + p2))], h)) (fun hs => ?_)
        obtain ⟨hob, ho⟩ := ho
        refine zg_ald zd_76 rfl hob ?_
        refine zg_x zd_76 rfl rfl rfl rfl (as := [.int (zr h 18 ((p1 * 4) + p2)), .int (Int32.ofNat (zln h (((zrf h 16 p1)).getD 0)))]) (rest := []) (w := some (.int (if (Int32.ofNat (zln h (((zrf h 16 p1)).getD 0))) < (zr h 18 ((p1 * 4) + p2)) then (Int32.ofNat (zln h (((zrf h 16 p1)).getD 0))) else (zr h 18 ((p1 * 4) + p2))))) rfl rfl rfl ?_
        refine zg_blk zd_76 1 hs (rfl : zb x zT0 zc_76 1 (45, [some (.ref 15), some (.int p1), some (.int p2), some (.ref (((zrf h 16 p1)).getD 0)), none, none, none], [.int (if (Int32.ofNat (zln h (((zrf h 16 p1)).getD 0))) < (zr h 18 ((p1 * 4) + p2)) then (Int32.ofNat (zln h (((zrf h 16 p1)).getD 0))) else (zr h 18 ((p1 * 4) + p2)))], h) = some (47, [some (.ref 15), some (.int p1), some (.int p2), some (.ref (((zrf h 16 p1)).getD 0)), some (.int (if (Int32.ofNat (zln h (((zrf h 16 p1)).getD 0))) < (zr h 18 ((p1 * 4) + p2)) then (Int32.ofNat (zln h (((zrf h 16 p1)).getD 0))) else (zr h 18 ((p1 * 4) + p2)))), none, none], [], h)) (fun hs => ?_)
        exact f_Rules_work_k47_t p1 p2 (((zrf h 16 p1)).getD 0) (if (Int32.ofNat (zln h (((zrf h 16 p1)).getD 0))) < (zr h 18 ((p1 * 4) + p2)) then (Int32.ofNat (zln h (((zrf h 16 p1)).getD 0))) else (zr h 18 ((p1 * 4) + p2))) h (none) (none) hs ho hF
      · have ho := ho.1 hc
        rw [if_pos hc] at hF
        refine zg_blk zd_76 1 hs (rfl : zb x zT0 zc_76 1 (21, [some (.ref 15), some (.int p1), some (.int p2), none, none, none, none], [], h) = some (22, [some (.ref 15), some (.int p1), some (.int p2), none, none, none, none], [.int 0], h)) (fun hs => ?_)
        exact zg_ret zd_76 rfl rfl (hF hs)
set_option maxRecDepth 100000 in
set_option maxHeartbeats 400000 in
theorem f_Rules_letsBoatsOut_k34_t {x : zm_X} {d : Nat} (w0 : Int32) (h : zm_H) (o0 : Option Value) (o1 : Option Value) (z2 : Int32) (o3 : Option Value) {Q : Option Value → zm_H → Prop} (hs : zSh zT0 h) (ho : f_Rules_letsBoatsOut_k34_ok w0 h) (hF : (zSh zT0 (f_Rules_letsBoatsOut_k34 w0 h).2 → Q (some (.int (f_Rules_letsBoatsOut_k34 w0 h).1)) (f_Rules_letsBoatsOut_k34 w0 h).2)) : zg x (d + 3) 73 34 [o0, o1, some (.int z2), o3] [.int w0] h Q := by
  unfold f_Rules_letsBoatsOut_k34 at hF
  unfold f_Rules_letsBoatsOut_k34_ok at ho
  have K54 : zSh zT0 h → zg x (d + 3) 73 42 [o0, o1, some (.int z2), o3] [.int (if (¬ (w0 = 0)) then (1 : Int32) else 0)] h Q := fun hs => by
    exact zg_rtz zd_73 rfl rfl zm_nb01 (hF hs)
  refine zg_f_eq zd_73 rfl (fun (hc : (w0 = 0)) => ?_) (fun (hc : ¬ (w0 = 0)) => ?_)
  · skip
    rw [show ((if (¬ (w0 = 0)) then (1 : Int32) else 0) : Int32) = 0 from zb_not_t hc] at K54
    refine zg_blk zd_73 1 hs (rfl : zb x zT0 zc_73 1 (41, [o0, o1, some (.int z2), o3], [], h) = some (42, [o0, o1, some (.int z2), o3], [.int 0], h)) (fun hs => ?_)
    exact K54 hs
  · skip
    rw [show ((if (¬ (w0 = 0)) then (1 : Int32) else 0) : Int32) = 1 from zb_not_f hc] at K54
    refine zg_blk zd_73 2 hs (rfl : zb x zT0 zc_73 2 (37, [o0, o1, some (.int z2), o3], [], h) = some (42, [o0, o1, some (.int z2), o3], [.int 1], h)) (fun hs => ?_)
    exact K54 hs
set_option maxRecDepth 100000 in
set_option maxHeartbeats 400000 in
theorem f_Rules_letsBoatsOut_k28_t {x : zm_X} {d : Nat} (v3 : Int32) (h : zm_H) (o1 : Option Value) (z2 : Int32) {Q : Option Value → zm_H → Prop} (hs : zSh zT0 h) (ho : f_Rules_letsBoatsOut_k28_ok v3 h) (hF : (zSh zT0 (f_Rules_letsBoatsOut_k28 v3 h).2 → Q (some (.int (f_Rules_letsBoatsOut_k28 v3 h).1)) (f_Rules_letsBoatsOut_k28 v3 h).2)) : zg x (d + 3) 73 28 [some (.ref 15), o1, some (.int z2), some (.int v3)] [] h Q := by
  unfold f_Rules_letsBoatsOut_k28 at hF
  unfold f_Rules_letsBoatsOut_k28_ok at ho
  refine zg_blk zd_73 3 hs (rfl : zb x zT0 zc_73 3 (28, [some (.ref 15), o1, some (.int z2), some (.int v3)], [], h) = some (31, [some (.ref 15), o1, some (.int z2), some (.int v3)], [.int 2, .int v3, .ref 15], h)) (fun hs => ?_)
  have hob := ho
  refine zg_call hs zd_73 rfl rfl rfl rfl (as := [.ref 15, .int v3, .int 2]) (rest := []) (en := [some (.ref 15), some (.int v3), some (.int 2), none, none, none, none]) rfl rfl rfl rfl rfl ?_
  refine f_Rules_work_t v3 2 h hs hob (fun hs => ?_)
  show zg x (d + 3) 73 34 [some (.ref 15), o1, some (.int z2), some (.int v3)] [.int (f_Rules_work v3 2 h).1] (f_Rules_work v3 2 h).2 Q
  exact f_Rules_letsBoatsOut_k34_t (f_Rules_work v3 2 h).1 (f_Rules_work v3 2 h).2 (some (.ref 15)) (o1) z2 (some (.int v3)) hs trivial hF
set_option maxRecDepth 100000 in
set_option maxHeartbeats 400000 in
theorem f_Rules_letsBoatsOut_k20_t {x : zm_X} {d : Nat} (v3 : Int32) (h : zm_H) (o1 : Option Value) (z2 : Int32) {Q : Option Value → zm_H → Prop} (hs : zSh zT0 h) (ho : f_Rules_letsBoatsOut_k20_ok v3 h) (hF : (zSh zT0 (f_Rules_letsBoatsOut_k20 v3 h).2 → Q (some (.int (f_Rules_letsBoatsOut_k20 v3 h).1)) (f_Rules_letsBoatsOut_k20 v3 h).2)) : zg x (d + 3) 73 20 [some (.ref 15), o1, some (.int z2), some (.int v3)] [] h Q := by
  unfold f_Rules_letsBoatsOut_k20 at hF
  unfold f_Rules_letsBoatsOut_k20_ok at ho
  refine zg_blk zd_73 5 hs (rfl : zb x zT0 zc_73 5 (20, [some (.ref 15), o1, some (.int z2), some (.int v3)], [], h) = some (25, [some (.ref 15), o1, some (.int z2), some (.int v3)], [.int 0, .int 0, .int 0, .int 0, .ref 15], h)) (fun hs => ?_)
  refine zg_call hs zd_73 rfl rfl rfl rfl (as := [.ref 15, .int 0, .int 0, .int 0, .int 0]) (rest := []) (en := [some (.ref 15), some (.int 0), some (.int 0), some (.int 0), some (.int 0)]) rfl rfl rfl rfl rfl ?_
  refine f_Rules_nameRaft_t 0 0 0 0 h hs trivial (fun hs => ?_)
  show zg x (d + 3) 73 28 [some (.ref 15), o1, some (.int z2), some (.int v3)] [] (f_Rules_nameRaft 0 0 0 0 h) Q
  exact f_Rules_letsBoatsOut_k28_t v3 (f_Rules_nameRaft 0 0 0 0 h) (o1) z2 hs ho hF
set_option maxRecDepth 100000 in
set_option maxHeartbeats 400000 in
theorem f_Rules_letsBoatsOut_t {x : zm_X} {d : Nat} (p1 : Int32) (p2 : Int32) (h : zm_H) {Q : Option Value → zm_H → Prop} (hs : zSh zT0 h) (ho : f_Rules_letsBoatsOut_ok p1 p2 h) (hF : (zSh zT0 (f_Rules_letsBoatsOut p1 p2 h).2 → Q (some (.int (f_Rules_letsBoatsOut p1 p2 h).1)) (f_Rules_letsBoatsOut p1 p2 h).2)) : zg x (d + 3) 73 0 [some (.ref 15), some (.int p1), some (.int p2), none] [] h Q := by
  unfold f_Rules_letsBoatsOut at hF
  unfold f_Rules_letsBoatsOut_ok at ho
  refine zg_blk zd_73 3 hs (rfl : zb x zT0 zc_73 3 (0, [some (.ref 15), some (.int p1), some (.int p2), none], [], h) = some (3, [some (.ref 15), some (.int p1), some (.int p2), none], [.int p1, .int 2, .ref 15], h)) (fun hs => ?_)
  obtain ⟨hob, ho⟩ := ho
  refine zg_call hs zd_73 rfl rfl rfl rfl (as := [.ref 15, .int 2, .int p1]) (rest := []) (en := [some (.ref 15), some (.int 2), some (.int p1), none, none, none, none]) rfl rfl rfl rfl rfl ?_
  refine f_Rules_ruling_t 2 p1 h hs hob ?_
  show zg x (d + 3) 73 6 [some (.ref 15), some (.int p1), some (.int p2), none] [.int (f_Rules_ruling 2 p1 h)] h Q
  refine zg_blk zd_73 3 hs (rfl : zb x zT0 zc_73 3 (6, [some (.ref 15), some (.int p1), some (.int p2), none], [.int (f_Rules_ruling 2 p1 h)], h) = some (9, [some (.ref 15), some (.int p1), some (.int p2), some (.int (f_Rules_ruling 2 p1 h))], [.int (-1), .int (f_Rules_ruling 2 p1 h)], h)) (fun hs => ?_)
  refine zg_i_ne zd_73 rfl (fun (hc : ¬ ((f_Rules_ruling 2 p1 h) = (-1))) => ?_) (fun (hc : ((f_Rules_ruling 2 p1 h) = (-1))) => ?_)
  · have ho := ho.2 hc
    rw [if_neg hc] at hF
    refine zg_blk zd_73 3 hs (rfl : zb x zT0 zc_73 3 (14, [some (.ref 15), some (.int p1), some (.int p2), some (.int (f_Rules_ruling 2 p1 h))], [], h) = some (17, [some (.ref 15), some (.int p1), some (.int p2), some (.int (f_Rules_ruling 2 p1 h))], [.int p2, .int p1, .ref 15], h)) (fun hs => ?_)
    refine zg_call hs zd_73 rfl rfl rfl rfl (as := [.ref 15, .int p1, .int p2]) (rest := []) (en := [some (.ref 15), some (.int p1), some (.int p2)]) rfl rfl rfl rfl rfl ?_
    refine f_Rules_nameSea_t p1 p2 h hs trivial (fun hs => ?_)
    show zg x (d + 3) 73 20 [some (.ref 15), some (.int p1), some (.int p2), some (.int (f_Rules_ruling 2 p1 h))] [] (f_Rules_nameSea p1 p2 h) Q
    exact f_Rules_letsBoatsOut_k20_t (f_Rules_ruling 2 p1 h) (f_Rules_nameSea p1 p2 h) (some (.int p1)) p2 hs ho hF
  · have ho := ho.1 hc
    rw [if_pos hc] at hF
    refine zg_blk zd_73 1 hs (rfl : zb x zT0 zc_73 1 (12, [some (.ref 15), some (.int p1), some (.int p2), some (.int (f_Rules_ruling 2 p1 h))], [], h) = some (13, [some (.ref 15), some (.int p1), some (.int p2), some (.int (f_Rules_ruling 2 p1 h))], [.int 1], h)) (fun hs => ?_)
    exact zg_rtz zd_73 rfl rfl rfl (hF hs)
set_option maxRecDepth 100000 in
set_option maxHeartbeats 400000 in
theorem f_Harbour_beginSpell_l15_b_t {x : zm_X} {d : Nat} (v3 : Int32) (h : zm_H) (o1 : Option Value) (z2 : Int32) {Q : Option Value → zm_H → Prop} {FN : Nat × Int32 × zm_H → Prop} (hs : zSh zT0 h) (ho : f_Harbour_beginSpell_l15_b_ok v3 h) (hF : FN (f_Harbour_beginSpell_l15_b v3 h)) (hl0 : ∀ (v3 : Int32) (h : zm_H) (o1 : Option Value) (z2 : Int32), zSh zT0 h → FN (0, v3, h) → zg x (d + 4) 44 15 [some (.ref 63), o1, some (.int z2), some (.int v3)] [] h Q) (hl1 : ∀ (v3 : Int32) (h : zm_H) (o1 : Option Value) (z2 : Int32) (o3 : Option Value), zSh zT0 h → FN (1, v3, h) → zg x (d + 4) 44 53 [some (.ref 63), o1, some (.int z2), o3] [] h Q) : zg x (d + 4) 44 15 [some (.ref 63), o1, some (.int z2), some (.int v3)] [] h Q := by
  unfold f_Harbour_beginSpell_l15_b at hF
  unfold f_Harbour_beginSpell_l15_b_ok at ho
  refine zg_blk zd_44 2 hs (rfl : zb x zT0 zc_44 2 (15, [some (.ref 63), o1, some (.int z2), some (.int v3)], [], h) = some (17, [some (.ref 63), o1, some (.int z2), some (.int v3)], [.int 3, .int v3], h)) (fun hs => ?_)
  refine zg_i_ge zd_44 rfl (fun (hc : (3 ≤ v3)) => ?_) (fun (hc : ¬ (3 ≤ v3)) => ?_)
  · have ho := ho.1 hc
    rw [if_pos hc] at hF
    exact hl1 v3 h (o1) z2 (some (.int v3)) hs hF
  · have ho := ho.2 hc
    rw [if_neg hc] at hF
    refine zg_blk zd_44 3 hs (rfl : zb x zT0 zc_44 3 (20, [some (.ref 63), o1, some (.int z2), some (.int v3)], [], h) = some (25, [some (.ref 63), o1, some (.int z2), some (.int v3)], [.int v3, .ref 66], h)) (fun hs => ?_)
    obtain ⟨hob, ho⟩ := ho
    refine zg_ial hs zd_44 rfl rfl hob ?_
    refine zg_blk zd_44 1 hs (rfl : zb x zT0 zc_44 1 (26, [some (.ref 63), o1, some (.int z2), some (.int v3)], [.int (zr h 66 v3)], h) = some (27, [some (.ref 63), o1, some (.int z2), some (.int v3)], [.int (-1), .int (zr h 66 v3)], h)) (fun hs => ?_)
    have hom := ho
    have K55 : zSh zT0 (if ((zr h 66 v3) = (-1)) then h else (zs (zs h 71 v3 ((zr h 71 v3) + 1)) 66 v3 (-1))) → zg x (d + 4) 44 47 [some (.ref 63), o1, some (.int z2), some (.int v3)] [] (if ((zr h 66 v3) = (-1)) then h else (zs (zs h 71 v3 ((zr h 71 v3) + 1)) 66 v3 (-1))) Q := fun hs => by
      refine zg_blk zd_44 2 hs (rfl : zb x zT0 zc_44 2 (47, [some (.ref 63), o1, some (.int z2), some (.int v3)], [], (if ((zr h 66 v3) = (-1)) then h else (zs (zs h 71 v3 ((zr h 71 v3) + 1)) 66 v3 (-1)))) = some (15, [some (.ref 63), o1, some (.int z2), some (.int (v3 + 1))], [], (if ((zr h 66 v3) = (-1)) then h else (zs (zs h 71 v3 ((zr h 71 v3) + 1)) 66 v3 (-1))))) (fun hs => ?_)
      exact hl0 (v3 + 1) (if ((zr h 66 v3) = (-1)) then h else (zs (zs h 71 v3 ((zr h 71 v3) + 1)) 66 v3 (-1))) (o1) z2 hs hF
    refine zg_i_eq zd_44 rfl (fun (hc : ((zr h 66 v3) = (-1))) => ?_) (fun (hc : ¬ ((zr h 66 v3) = (-1))) => ?_)
    · have ho := hom.1 hc
      rw [show (if ((zr h 66 v3) = (-1)) then h else (zs (zs h 71 v3 ((zr h 71 v3) + 1)) 66 v3 (-1))) = h from if_pos hc] at K55
      exact K55 hs
    · have ho := hom.2 hc
      rw [show (if ((zr h 66 v3) = (-1)) then h else (zs (zs h 71 v3 ((zr h 71 v3) + 1)) 66 v3 (-1))) = (zs (zs h 71 v3 ((zr h 71 v3) + 1)) 66 v3 (-1)) from if_neg hc] at K55
      refine zg_blk zd_44 4 hs (rfl : zb x zT0 zc_44 4 (30, [some (.ref 63), o1, some (.int z2), some (.int v3)], [], h) = some (36, [some (.ref 63), o1, some (.int z2), some (.int v3)], [.int v3, .ref 71, .int v3, .ref 71], h)) (fun hs => ?_)
      obtain ⟨hob, ho⟩ := ho
      refine zg_ial hs zd_44 rfl rfl hob ?_
      refine zg_blk zd_44 2 hs (rfl : zb x zT0 zc_44 2 (37, [some (.ref 63), o1, some (.int z2), some (.int v3)], [.int (zr h 71 v3), .int v3, .ref 71], h) = some (39, [some (.ref 63), o1, some (.int z2), some (.int v3)], [.int ((zr h 71 v3) + 1), .int v3, .ref 71], h)) (fun hs => ?_)
      obtain ⟨hob, ho⟩ := ho
      refine zg_ias hs zd_44 rfl rfl hob (fun hs => ?_)
      refine zg_blk zd_44 4 hs (rfl : zb x zT0 zc_44 4 (40, [some (.ref 63), o1, some (.int z2), some (.int v3)], [], (zs h 71 v3 ((zr h 71 v3) + 1))) = some (46, [some (.ref 63), o1, some (.int z2), some (.int v3)], [.int (-1), .int v3, .ref 66], (zs h 71 v3 ((zr h 71 v3) + 1)))) (fun hs => ?_)
      have hob := ho
      refine zg_ias hs zd_44 rfl rfl hob (fun hs => ?_)
      exact K55 hs
theorem f_Harbour_beginSpell_l15_t {x : zm_X} {d : Nat} {Q : Option Value → zm_H → Prop} (G : Nat × Int32 × zm_H → Prop) (hx1 : ∀ (v3 : Int32) (h : zm_H) (o1 : Option Value) (z2 : Int32) (o3 : Option Value), zSh zT0 h → G (1, v3, h) → zg x (d + 4) 44 53 [some (.ref 63), o1, some (.int z2), o3] [] h Q) : ∀ (n : Nat) (v3 : Int32) (h : zm_H) (o1 : Option Value) (z2 : Int32), zSh zT0 h → f_Harbour_beginSpell_l15_ok n (v3, h) → G (f_Harbour_beginSpell_l15 n (v3, h)) → zg x (d + 4) 44 15 [some (.ref 63), o1, some (.int z2), some (.int v3)] [] h Q := by
  intro n
  induction n with
  | zero => intro v3 h o1 z2 hs ho hG; exact ho.elim
  | succ n ih =>
    intro v3 h o1 z2 hs ho hG
    refine f_Harbour_beginSpell_l15_b_t (FN := fun r => (r.1 = 0 → f_Harbour_beginSpell_l15_ok n r.2) ∧ G (if r.1 = 0 then f_Harbour_beginSpell_l15 n r.2 else r)) v3 h o1 z2 hs ho.1 ⟨ho.2, hG⟩ ?_ ?_
    · intro v3 h o1 z2 hs hF
      exact ih v3 h o1 z2 hs (hF.1 rfl) hF.2
    · intro v3 h o1 z2 o3 hs hF
      exact hx1 v3 h o1 z2 o3 hs hF.2

set_option maxRecDepth 100000 in
set_option maxHeartbeats 400000 in
theorem f_Harbour_beginSpell_k53_t {x : zm_X} {d : Nat} (h : zm_H) (o0 : Option Value) (o1 : Option Value) (z2 : Int32) (o3 : Option Value) {Q : Option Value → zm_H → Prop} (hs : zSh zT0 h) (ho : f_Harbour_beginSpell_k53_ok h) (hF : (zSh zT0 (f_Harbour_beginSpell_k53 h) → Q none (f_Harbour_beginSpell_k53 h))) : zg x (d + 4) 44 53 [o0, o1, some (.int z2), o3] [] h Q := by
  unfold f_Harbour_beginSpell_k53 at hF
  unfold f_Harbour_beginSpell_k53_ok at ho
  exact zg_ret zd_44 rfl rfl (hF hs)
set_option maxRecDepth 100000 in
set_option maxHeartbeats 400000 in
theorem f_Harbour_beginSpell_k9_t {x : zm_X} {d : Nat} (w0 : Int32) (h : zm_H) (o1 : Option Value) (z2 : Int32) (o3 : Option Value) {Q : Option Value → zm_H → Prop} (hs : zSh zT0 h) (ho : f_Harbour_beginSpell_k9_ok w0 h) (hF : (zSh zT0 (f_Harbour_beginSpell_k9 w0 h) → Q none (f_Harbour_beginSpell_k9 w0 h))) : zg x (d + 4) 44 9 [some (.ref 63), o1, some (.int z2), o3] [.int w0] h Q := by
  unfold f_Harbour_beginSpell_k9 at hF
  unfold f_Harbour_beginSpell_k9_ok at ho
  refine zg_f_eq zd_44 rfl (fun (hc : (w0 = 0)) => ?_) (fun (hc : ¬ (w0 = 0)) => ?_)
  · have ho := ho.1 hc
    rw [if_pos hc] at hF
    refine zg_blk zd_44 2 hs (rfl : zb x zT0 zc_44 2 (13, [some (.ref 63), o1, some (.int z2), o3], [], h) = some (15, [some (.ref 63), o1, some (.int z2), some (.int 0)], [], h)) (fun hs => ?_)
    refine f_Harbour_beginSpell_l15_t  (fun r => f_Harbour_beginSpell_a15_ok r ∧ (zSh zT0 (f_Harbour_beginSpell_a15 r) → Q none (f_Harbour_beginSpell_a15 r))) ?_ zF 0 h (o1) z2 hs ho.1 ⟨ho.2, hF⟩
    · intro v3_ h_ o1_ z2_ o3_ hs hG
      have ho : True := trivial
      have hF : (zSh zT0 ((f_Harbour_beginSpell_k53 h_)) → Q none ((f_Harbour_beginSpell_k53 h_))) := hG.2
      exact f_Harbour_beginSpell_k53_t h_ (some (.ref 63)) (o1_) z2_ (o3_) hs trivial hF
  · have ho := ho.2 hc
    rw [if_neg hc] at hF
    exact zg_ret zd_44 rfl rfl (hF hs)
set_option maxRecDepth 100000 in
set_option maxHeartbeats 400000 in
theorem f_Harbour_beginSpell_t {x : zm_X} {d : Nat} (p1 : Int32) (p2 : Int32) (h : zm_H) {Q : Option Value → zm_H → Prop} (hs : zSh zT0 h) (ho : f_Harbour_beginSpell_ok p1 p2 h) (hF : (zSh zT0 (f_Harbour_beginSpell p1 p2 h) → Q none (f_Harbour_beginSpell p1 p2 h))) : zg x (d + 4) 44 0 [some (.ref 63), some (.int p1), some (.int p2), none] [] h Q := by
  unfold f_Harbour_beginSpell at hF
  unfold f_Harbour_beginSpell_ok at ho
  refine zg_blk zd_44 4 hs (rfl : zb x zT0 zc_44 4 (0, [some (.ref 63), some (.int p1), some (.int p2), none], [], h) = some (6, [some (.ref 63), some (.int p1), some (.int p2), none], [.int p2, .int p1, .ref 15], h)) (fun hs => ?_)
  obtain ⟨hob, ho⟩ := ho
  refine zg_call hs zd_44 rfl rfl rfl rfl (as := [.ref 15, .int p1, .int p2]) (rest := []) (en := [some (.ref 15), some (.int p1), some (.int p2), none]) rfl rfl rfl rfl rfl ?_
  refine f_Rules_letsBoatsOut_t p1 p2 h hs hob (fun hs => ?_)
  show zg x (d + 4) 44 9 [some (.ref 63), some (.int p1), some (.int p2), none] [.int (f_Rules_letsBoatsOut p1 p2 h).1] (f_Rules_letsBoatsOut p1 p2 h).2 Q
  exact f_Harbour_beginSpell_k9_t (f_Rules_letsBoatsOut p1 p2 h).1 (f_Rules_letsBoatsOut p1 p2 h).2 (some (.int p1)) p2 (none) hs ho hF
theorem zd_12 : zm_cd 12 = zc_12 := by rfl
theorem zd_13 : zm_cd 13 = zc_13 := by rfl
set_option maxRecDepth 100000 in
set_option maxHeartbeats 400000 in
theorem f_Course_sinkAndRise_37_l23_k106_t {x : zm_X} {d : Nat} (v2 : Int32) (v3 : Int32) (v4 : Int32) (h : zm_H) (z1 : Int32) {Q : Option Value → zm_H → Prop} {FN : Nat × Int32 × zm_H → Prop} (hs : zSh zT0 h) (ho : f_Course_sinkAndRise_37_l23_k106_ok v2 v3 v4 h) (hF : FN (f_Course_sinkAndRise_37_l23_k106 v2 v3 v4 h)) (hl0 : ∀ (v4 : Int32) (h : zm_H) (z1 : Int32), zSh zT0 h → FN (0, v4, h) → zg x (d + 4) 13 23 [some (.ref 37), some (.int z1), some (.int v2), some (.int v3), some (.int v4)] [] h Q) (hl1 : ∀ (v4 : Int32) (h : zm_H) (z1 : Int32) (o4 : Option Value), zSh zT0 h → FN (1, v4, h) → zg x (d + 4) 13 112 [some (.ref 37), some (.int z1), some (.int v2), some (.int v3), o4] [] h Q) : zg x (d + 4) 13 106 [some (.ref 37), some (.int z1), some (.int v2), some (.int v3), some (.int v4)] [] h Q := by
  unfold f_Course_sinkAndRise_37_l23_k106 at hF
  unfold f_Course_sinkAndRise_37_l23_k106_ok at ho
  refine zg_blk zd_13 2 hs (rfl : zb x zT0 zc_13 2 (106, [some (.ref 37), some (.int z1), some (.int v2), some (.int v3), some (.int v4)], [], h) = some (23, [some (.ref 37), some (.int z1), some (.int v2), some (.int v3), some (.int (v4 + 1))], [], h)) (fun hs => ?_)
  exact hl0 (v4 + 1) h z1 hs hF
theorem zd_14 : zm_cd 14 = zc_14 := by rfl
theorem zd_15 : zm_cd 15 = zc_15 := by rfl
theorem zd_16 : zm_cd 16 = zc_16 := by rfl
set_option maxRecDepth 100000 in
set_option maxHeartbeats 400000 in
theorem f_Course_holds_37_t {x : zm_X} {d : Nat} (p1 : Int32) (h : zm_H) {Q : Option Value → zm_H → Prop} (hs : zSh zT0 h) (ho : f_Course_holds_37_ok p1 h) (hF : Q (some (.int (f_Course_holds_37 p1 h))) h) : zg x (d + 1) 16 0 [some (.ref 37), some (.int p1)] [] h Q := by
  unfold f_Course_holds_37 at hF
  unfold f_Course_holds_37_ok at ho
  refine zg_blk zd_16 3 hs (rfl : zb x zT0 zc_16 3 (0, [some (.ref 37), some (.int p1)], [], h) = some (5, [some (.ref 37), some (.int p1)], [.int p1, .ref 43], h)) (fun hs => ?_)
  obtain ⟨hob, ho⟩ := ho
  refine zg_ial hs zd_16 rfl rfl hob ?_
  have hom := ho
  have K56 : zSh zT0 h → zg x (d + 1) 16 24 [some (.ref 37), some (.int p1)] [.int (if (¬ ((zr h 43 p1) ≤ 0) ∧ ((zr h 45 p1) = (-1))) then (1 : Int32) else 0)] h Q := fun hs => by
    exact zg_rtz zd_16 rfl rfl zm_nb01 hF
  refine zg_f_le zd_16 rfl (fun (hc : ((zr h 43 p1) ≤ 0)) => ?_) (fun (hc : ¬ ((zr h 43 p1) ≤ 0)) => ?_)
  · have ho := hom.1 hc
    rw [show ((if (¬ ((zr h 43 p1) ≤ 0) ∧ ((zr h 45 p1) = (-1))) then (1 : Int32) else 0) : Int32) = 0 from zb_nand_t hc] at K56
    refine zg_blk zd_16 1 hs (rfl : zb x zT0 zc_16 1 (23, [some (.ref 37), some (.int p1)], [], h) = some (24, [some (.ref 37), some (.int p1)], [.int 0], h)) (fun hs => ?_)
    exact K56 hs
  · have ho := hom.2 hc
    rw [show ((if (¬ ((zr h 43 p1) ≤ 0) ∧ ((zr h 45 p1) = (-1))) then (1 : Int32) else 0) : Int32) = (if ((zr h 45 p1) = (-1)) then (1 : Int32) else 0) from zb_nand_f hc] at K56
    refine zg_blk zd_16 3 hs (rfl : zb x zT0 zc_16 3 (9, [some (.ref 37), some (.int p1)], [], h) = some (14, [some (.ref 37), some (.int p1)], [.int p1, .ref 45], h)) (fun hs => ?_)
    have hob := ho
    refine zg_ial hs zd_16 rfl rfl hob ?_
    refine zg_blk zd_16 1 hs (rfl : zb x zT0 zc_16 1 (15, [some (.ref 37), some (.int p1)], [.int (zr h 45 p1)], h) = some (16, [some (.ref 37), some (.int p1)], [.int (-1), .int (zr h 45 p1)], h)) (fun hs => ?_)
    refine zg_i_ne zd_16 rfl (fun (hc : ¬ ((zr h 45 p1) = (-1))) => ?_) (fun (hc : ((zr h 45 p1) = (-1))) => ?_)
    · skip
      rw [show ((if ((zr h 45 p1) = (-1)) then (1 : Int32) else 0) : Int32) = 0 from if_neg hc] at K56
      refine zg_blk zd_16 1 hs (rfl : zb x zT0 zc_16 1 (23, [some (.ref 37), some (.int p1)], [], h) = some (24, [some (.ref 37), some (.int p1)], [.int 0], h)) (fun hs => ?_)
      exact K56 hs
    · skip
      rw [show ((if ((zr h 45 p1) = (-1)) then (1 : Int32) else 0) : Int32) = 1 from if_pos hc] at K56
      refine zg_blk zd_16 2 hs (rfl : zb x zT0 zc_16 2 (19, [some (.ref 37), some (.int p1)], [], h) = some (24, [some (.ref 37), some (.int p1)], [.int 1], h)) (fun hs => ?_)
      exact K56 hs
theorem zd_17 : zm_cd 17 = zc_17 := by rfl
set_option maxRecDepth 100000 in
set_option maxHeartbeats 400000 in
theorem f_Course_hold_37_t {x : zm_X} {d : Nat} (p1 : Int32) (h : zm_H) {Q : Option Value → zm_H → Prop} (hs : zSh zT0 h) (ho : f_Course_hold_37_ok p1 h) (hF : Q (some (.int (f_Course_hold_37 p1 h))) h) : zg x (d + 1) 17 0 [some (.ref 37), some (.int p1)] [] h Q := by
  unfold f_Course_hold_37 at hF
  unfold f_Course_hold_37_ok at ho
  refine zg_blk zd_17 3 hs (rfl : zb x zT0 zc_17 3 (0, [some (.ref 37), some (.int p1)], [], h) = some (5, [some (.ref 37), some (.int p1)], [.int p1, .ref 43], h)) (fun hs => ?_)
  obtain ⟨hob, ho⟩ := ho
  refine zg_ial hs zd_17 rfl rfl hob ?_
  refine zg_blk zd_17 3 hs (rfl : zb x zT0 zc_17 3 (6, [some (.ref 37), some (.int p1)], [.int (zr h 43 p1)], h) = some (11, [some (.ref 37), some (.int p1)], [.int p1, .ref 44, .int (zr h 43 p1)], h)) (fun hs => ?_)
  have hob := ho
  refine zg_ial hs zd_17 rfl rfl hob ?_
  refine zg_blk zd_17 3 hs (rfl : zb x zT0 zc_17 3 (12, [some (.ref 37), some (.int p1)], [.int (zr h 44 p1), .int (zr h 43 p1)], h) = some (16, [some (.ref 37), some (.int p1)], [.int ((zr h 43 p1) - ((zr h 44 p1) / 100))], h)) (fun hs => ?_)
  exact zg_ret zd_17 rfl rfl hF
set_option maxRecDepth 100000 in
set_option maxHeartbeats 400000 in
theorem f_Course_leastHold_37_l6_b_t {x : zm_X} {d : Nat} (v1 : Int32) (v2 : Int32) (v3 : Int32) (h : zm_H) {Q : Option Value → zm_H → Prop} {FN : Nat × Int32 × Int32 → Prop} (hs : zSh zT0 h) (ho : f_Course_leastHold_37_l6_b_ok v1 v2 v3 h) (hF : FN (f_Course_leastHold_37_l6_b v1 v2 v3 h)) (hl0 : ∀ (v2 : Int32) (v3 : Int32), zSh zT0 h → FN (0, v2, v3) → zg x (d + 2) 15 6 [some (.ref 37), some (.int v1), some (.int v2), some (.int v3)] [] h Q) (hl1 : ∀ (v2 : Int32) (v3 : Int32) (o3 : Option Value), zSh zT0 h → FN (1, v2, v3) → zg x (d + 2) 15 49 [some (.ref 37), some (.int v1), some (.int v2), o3] [] h Q) : zg x (d + 2) 15 6 [some (.ref 37), some (.int v1), some (.int v2), some (.int v3)] [] h Q := by
  unfold f_Course_leastHold_37_l6_b at hF
  unfold f_Course_leastHold_37_l6_b_ok at ho
  refine zg_blk zd_15 6 hs (rfl : zb x zT0 zc_15 6 (6, [some (.ref 37), some (.int v1), some (.int v2), some (.int v3)], [], h) = some (12, [some (.ref 37), some (.int v1), some (.int v2), some (.int v3)], [.int ((v1 * 3) + 3), .int v3], h)) (fun hs => ?_)
  refine zg_i_ge zd_15 rfl (fun (hc : (((v1 * 3) + 3) ≤ v3)) => ?_) (fun (hc : ¬ (((v1 * 3) + 3) ≤ v3)) => ?_)
  · have ho := ho.1 hc
    rw [if_pos hc] at hF
    exact hl1 v2 v3 (some (.int v3)) hs hF
  · have ho := ho.2 hc
    rw [if_neg hc] at hF
    refine zg_blk zd_15 2 hs (rfl : zb x zT0 zc_15 2 (15, [some (.ref 37), some (.int v1), some (.int v2), some (.int v3)], [], h) = some (17, [some (.ref 37), some (.int v1), some (.int v2), some (.int v3)], [.int v3, .ref 37], h)) (fun hs => ?_)
    obtain ⟨hob, ho⟩ := ho
    refine zg_call hs zd_15 rfl rfl rfl rfl (as := [.ref 37, .int v3]) (rest := []) (en := [some (.ref 37), some (.int v3)]) rfl rfl rfl rfl rfl ?_
    refine f_Course_holds_37_t v3 h hs hob ?_
    show zg x (d + 2) 15 20 [some (.ref 37), some (.int v1), some (.int v2), some (.int v3)] [.int (f_Course_holds_37 v3 h)] h Q
    have hom := ho
    have K57 : zSh zT0 h → zg x (d + 2) 15 43 [some (.ref 37), some (.int v1), some (.int (if ((f_Course_holds_37 v3 h) = 0) then (v2 : Int32) else (if (v2 = (-1)) then ((f_Course_hold_37 v3 h) : Int32) else (if (v2 ≤ (f_Course_hold_37 v3 h)) then (v2 : Int32) else (f_Course_hold_37 v3 h))))), some (.int v3)] [] h Q := fun hs => by
      refine zg_blk zd_15 2 hs (rfl : zb x zT0 zc_15 2 (43, [some (.ref 37), some (.int v1), some (.int (if ((f_Course_holds_37 v3 h) = 0) then (v2 : Int32) else (if (v2 = (-1)) then ((f_Course_hold_37 v3 h) : Int32) else (if (v2 ≤ (f_Course_hold_37 v3 h)) then (v2 : Int32) else (f_Course_hold_37 v3 h))))), some (.int v3)], [], h) = some (6, [some (.ref 37), some (.int v1), some (.int (if ((f_Course_holds_37 v3 h) = 0) then (v2 : Int32) else (if (v2 = (-1)) then ((f_Course_hold_37 v3 h) : Int32) else (if (v2 ≤ (f_Course_hold_37 v3 h)) then (v2 : Int32) else (f_Course_hold_37 v3 h))))), some (.int (v3 + 1))], [], h)) (fun hs => ?_)
      exact hl0 (if ((f_Course_holds_37 v3 h) = 0) then (v2 : Int32) else (if (v2 = (-1)) then ((f_Course_hold_37 v3 h) : Int32) else (if (v2 ≤ (f_Course_hold_37 v3 h)) then (v2 : Int32) else (f_Course_hold_37 v3 h)))) (v3 + 1) hs hF
    refine zg_f_eq zd_15 rfl (fun (hc : ((f_Course_holds_37 v3 h) = 0)) => ?_) (fun (hc : ¬ ((f_Course_holds_37 v3 h) = 0)) => ?_)
    · have ho := hom.1 hc
      rw [show ((if ((f_Course_holds_37 v3 h) = 0) then (v2 : Int32) else (if (v2 = (-1)) then ((f_Course_hold_37 v3 h) : Int32) else (if (v2 ≤ (f_Course_hold_37 v3 h)) then (v2 : Int32) else (f_Course_hold_37 v3 h)))) : Int32) = v2 from if_pos hc] at K57
      exact K57 hs
    · have ho := hom.2 hc
      rw [show ((if ((f_Course_holds_37 v3 h) = 0) then (v2 : Int32) else (if (v2 = (-1)) then ((f_Course_hold_37 v3 h) : Int32) else (if (v2 ≤ (f_Course_hold_37 v3 h)) then (v2 : Int32) else (f_Course_hold_37 v3 h)))) : Int32) = (if (v2 = (-1)) then ((f_Course_hold_37 v3 h) : Int32) else (if (v2 ≤ (f_Course_hold_37 v3 h)) then (v2 : Int32) else (f_Course_hold_37 v3 h))) from if_neg hc] at K57
      refine zg_blk zd_15 2 hs (rfl : zb x zT0 zc_15 2 (23, [some (.ref 37), some (.int v1), some (.int v2), some (.int v3)], [], h) = some (25, [some (.ref 37), some (.int v1), some (.int v2), some (.int v3)], [.int (-1), .int v2], h)) (fun hs => ?_)
      refine zg_i_eq zd_15 rfl (fun (hc : (v2 = (-1))) => ?_) (fun (hc : ¬ (v2 = (-1))) => ?_)
      · have ho := ho.1 hc
        rw [show ((if (v2 = (-1)) then ((f_Course_hold_37 v3 h) : Int32) else (if (v2 ≤ (f_Course_hold_37 v3 h)) then (v2 : Int32) else (f_Course_hold_37 v3 h))) : Int32) = (f_Course_hold_37 v3 h) from if_pos hc] at K57
        refine zg_blk zd_15 2 hs (rfl : zb x zT0 zc_15 2 (37, [some (.ref 37), some (.int v1), some (.int v2), some (.int v3)], [], h) = some (39, [some (.ref 37), some (.int v1), some (.int v2), some (.int v3)], [.int v3, .ref 37], h)) (fun hs => ?_)
        have hob := ho
        refine zg_call hs zd_15 rfl rfl rfl rfl (as := [.ref 37, .int v3]) (rest := []) (en := [some (.ref 37), some (.int v3)]) rfl rfl rfl rfl rfl ?_
        refine f_Course_hold_37_t v3 h hs hob ?_
        show zg x (d + 2) 15 42 [some (.ref 37), some (.int v1), some (.int v2), some (.int v3)] [.int (f_Course_hold_37 v3 h)] h Q
        refine zg_blk zd_15 1 hs (rfl : zb x zT0 zc_15 1 (42, [some (.ref 37), some (.int v1), some (.int v2), some (.int v3)], [.int (f_Course_hold_37 v3 h)], h) = some (43, [some (.ref 37), some (.int v1), some (.int (f_Course_hold_37 v3 h)), some (.int v3)], [], h)) (fun hs => ?_)
        exact K57 hs
      · have ho := ho.2 hc
        rw [show ((if (v2 = (-1)) then ((f_Course_hold_37 v3 h) : Int32) else (if (v2 ≤ (f_Course_hold_37 v3 h)) then (v2 : Int32) else (f_Course_hold_37 v3 h))) : Int32) = (if (v2 ≤ (f_Course_hold_37 v3 h)) then (v2 : Int32) else (f_Course_hold_37 v3 h)) from if_neg hc] at K57
        refine zg_blk zd_15 2 hs (rfl : zb x zT0 zc_15 2 (28, [some (.ref 37), some (.int v1), some (.int v2), some (.int v3)], [], h) = some (30, [some (.ref 37), some (.int v1), some (.int v2), some (.int v3)], [.int v3, .ref 37], h)) (fun hs => ?_)
        obtain ⟨hob, ho⟩ := ho
        refine zg_call hs zd_15 rfl rfl rfl rfl (as := [.ref 37, .int v3]) (rest := []) (en := [some (.ref 37), some (.int v3)]) rfl rfl rfl rfl rfl ?_
        refine f_Course_hold_37_t v3 h hs hob ?_
        show zg x (d + 2) 15 33 [some (.ref 37), some (.int v1), some (.int v2), some (.int v3)] [.int (f_Course_hold_37 v3 h)] h Q
        refine zg_blk zd_15 1 hs (rfl : zb x zT0 zc_15 1 (33, [some (.ref 37), some (.int v1), some (.int v2), some (.int v3)], [.int (f_Course_hold_37 v3 h)], h) = some (34, [some (.ref 37), some (.int v1), some (.int v2), some (.int v3)], [.int v2, .int (f_Course_hold_37 v3 h)], h)) (fun hs => ?_)
        refine zg_i_ge zd_15 rfl (fun (hc : (v2 ≤ (f_Course_hold_37 v3 h))) => ?_) (fun (hc : ¬ (v2 ≤ (f_Course_hold_37 v3 h))) => ?_)
        · have ho := ho.1 hc
          rw [show ((if (v2 ≤ (f_Course_hold_37 v3 h)) then (v2 : Int32) else (f_Course_hold_37 v3 h)) : Int32) = v2 from if_pos hc] at K57
          exact K57 hs
        · have ho := ho.2 hc
          rw [show ((if (v2 ≤ (f_Course_hold_37 v3 h)) then (v2 : Int32) else (f_Course_hold_37 v3 h)) : Int32) = (f_Course_hold_37 v3 h) from if_neg hc] at K57
          refine zg_blk zd_15 2 hs (rfl : zb x zT0 zc_15 2 (37, [some (.ref 37), some (.int v1), some (.int v2), some (.int v3)], [], h) = some (39, [some (.ref 37), some (.int v1), some (.int v2), some (.int v3)], [.int v3, .ref 37], h)) (fun hs => ?_)
          have hob := ho
          refine zg_call hs zd_15 rfl rfl rfl rfl (as := [.ref 37, .int v3]) (rest := []) (en := [some (.ref 37), some (.int v3)]) rfl rfl rfl rfl rfl ?_
          refine f_Course_hold_37_t v3 h hs hob ?_
          show zg x (d + 2) 15 42 [some (.ref 37), some (.int v1), some (.int v2), some (.int v3)] [.int (f_Course_hold_37 v3 h)] h Q
          refine zg_blk zd_15 1 hs (rfl : zb x zT0 zc_15 1 (42, [some (.ref 37), some (.int v1), some (.int v2), some (.int v3)], [.int (f_Course_hold_37 v3 h)], h) = some (43, [some (.ref 37), some (.int v1), some (.int (f_Course_hold_37 v3 h)), some (.int v3)], [], h)) (fun hs => ?_)
          exact K57 hs
theorem f_Course_leastHold_37_l6_t {x : zm_X} {d : Nat} (v1 : Int32) (h : zm_H) {Q : Option Value → zm_H → Prop} (G : Nat × Int32 × Int32 → Prop) (hx1 : ∀ (v2 : Int32) (v3 : Int32) (o3 : Option Value), zSh zT0 h → G (1, v2, v3) → zg x (d + 2) 15 49 [some (.ref 37), some (.int v1), some (.int v2), o3] [] h Q) : ∀ (n : Nat) (v2 : Int32) (v3 : Int32), zSh zT0 h → f_Course_leastHold_37_l6_ok v1 h n (v2, v3) → G (f_Course_leastHold_37_l6 v1 h n (v2, v3)) → zg x (d + 2) 15 6 [some (.ref 37), some (.int v1), some (.int v2), some (.int v3)] [] h Q := by
  intro n
  induction n with
  | zero => intro v2 v3 hs ho hG; exact ho.elim
  | succ n ih =>
    intro v2 v3 hs ho hG
    refine f_Course_leastHold_37_l6_b_t (FN := fun r => (r.1 = 0 → f_Course_leastHold_37_l6_ok v1 h n r.2) ∧ G (if r.1 = 0 then f_Course_leastHold_37_l6 v1 h n r.2 else r)) v1 v2 v3 h hs ho.1 ⟨ho.2, hG⟩ ?_ ?_
    · intro v2 v3 hs hF
      exact ih v2 v3 hs (hF.1 rfl) hF.2
    · intro v2 v3 o3 hs hF
      exact hx1 v2 v3 o3 hs hF.2

set_option maxRecDepth 100000 in
set_option maxHeartbeats 400000 in
theorem f_Course_leastHold_37_k49_t {x : zm_X} {d : Nat} (v2 : Int32) (h : zm_H) (o0 : Option Value) (z1 : Int32) (o3 : Option Value) {Q : Option Value → zm_H → Prop} (hs : zSh zT0 h) (ho : f_Course_leastHold_37_k49_ok v2 h) (hF : Q (some (.int (f_Course_leastHold_37_k49 v2 h))) h) : zg x (d + 2) 15 49 [o0, some (.int z1), some (.int v2), o3] [] h Q := by
  unfold f_Course_leastHold_37_k49 at hF
  unfold f_Course_leastHold_37_k49_ok at ho
  refine zg_blk zd_15 2 hs (rfl : zb x zT0 zc_15 2 (49, [o0, some (.int z1), some (.int v2), o3], [], h) = some (51, [o0, some (.int z1), some (.int v2), o3], [.int 0, .int v2], h)) (fun hs => ?_)
  refine zg_x zd_15 rfl rfl rfl rfl (as := [.int v2, .int 0]) (rest := []) (w := some (.int (if v2 < 0 then 0 else v2))) rfl rfl rfl ?_
  exact zg_ret zd_15 rfl rfl hF
set_option maxRecDepth 100000 in
set_option maxHeartbeats 400000 in
theorem f_Course_leastHold_37_t {x : zm_X} {d : Nat} (p1 : Int32) (h : zm_H) {Q : Option Value → zm_H → Prop} (hs : zSh zT0 h) (ho : f_Course_leastHold_37_ok p1 h) (hF : Q (some (.int (f_Course_leastHold_37 p1 h))) h) : zg x (d + 2) 15 0 [some (.ref 37), some (.int p1), none, none] [] h Q := by
  unfold f_Course_leastHold_37 at hF
  unfold f_Course_leastHold_37_ok at ho
  refine zg_blk zd_15 6 hs (rfl : zb x zT0 zc_15 6 (0, [some (.ref 37), some (.int p1), none, none], [], h) = some (6, [some (.ref 37), some (.int p1), some (.int (-1)), some (.int (p1 * 3))], [], h)) (fun hs => ?_)
  refine f_Course_leastHold_37_l6_t p1 h (fun r => f_Course_leastHold_37_a6_ok r h ∧ Q (some (.int (f_Course_leastHold_37_a6 r h))) h) ?_ zF (-1) (p1 * 3) hs ho.1 ⟨ho.2, hF⟩
  · intro v2_ v3_ o3_ hs hG
    have ho : True := trivial
    have hF : Q (some (.int ((f_Course_leastHold_37_k49 v2_ h)))) h := hG.2
    exact f_Course_leastHold_37_k49_t v2_ h (some (.ref 37)) p1 (o3_) hs trivial hF
set_option maxRecDepth 100000 in
set_option maxHeartbeats 400000 in
theorem f_Course_says_37_k47_t {x : zm_X} {d : Nat} (v1 : Int32) (v2 : Int32) (h : zm_H) (o3 : Option Value) {Q : Option Value → zm_H → Prop} (hs : zSh zT0 h) (ho : f_Course_says_37_k47_ok v1 v2 h) (hF : (zSh zT0 (f_Course_says_37_k47 v1 v2 h).2 → Q (some (.int (f_Course_says_37_k47 v1 v2 h).1)) (f_Course_says_37_k47 v1 v2 h).2)) : zg x (d + 3) 14 47 [some (.ref 37), some (.int v1), some (.int v2), o3] [] h Q := by
  unfold f_Course_says_37_k47 at hF
  unfold f_Course_says_37_k47_ok at ho
  refine zg_blk zd_14 4 hs (rfl : zb x zT0 zc_14 4 (47, [some (.ref 37), some (.int v1), some (.int v2), o3], [], h) = some (53, [some (.ref 37), some (.int v1), some (.int v2), o3], [.int v2, .int v1, .ref 15], h)) (fun hs => ?_)
  have hob := ho
  refine zg_call hs zd_14 rfl rfl rfl rfl (as := [.ref 15, .int v1, .int v2]) (rest := []) (en := [some (.ref 15), some (.int v1), some (.int v2), none, none, none, none]) rfl rfl rfl rfl rfl ?_
  refine f_Rules_work_t v1 v2 h hs hob (fun hs => ?_)
  show zg x (d + 3) 14 56 [some (.ref 37), some (.int v1), some (.int v2), o3] [.int (f_Rules_work v1 v2 h).1] (f_Rules_work v1 v2 h).2 Q
  exact zg_ret zd_14 rfl rfl (hF hs)
set_option maxRecDepth 100000 in
set_option maxHeartbeats 400000 in
theorem f_Course_says_37_t {x : zm_X} {d : Nat} (p1 : Int32) (p2 : Int32) (p3 : Int32) (h : zm_H) {Q : Option Value → zm_H → Prop} (hs : zSh zT0 h) (ho : f_Course_says_37_ok p1 p2 p3 h) (hF : (zSh zT0 (f_Course_says_37 p1 p2 p3 h).2 → Q (some (.int (f_Course_says_37 p1 p2 p3 h).1)) (f_Course_says_37 p1 p2 p3 h).2)) : zg x (d + 3) 14 0 [some (.ref 37), some (.int p1), some (.int p2), some (.int p3)] [] h Q := by
  unfold f_Course_says_37 at hF
  unfold f_Course_says_37_ok at ho
  refine zg_blk zd_14 2 hs (rfl : zb x zT0 zc_14 2 (0, [some (.ref 37), some (.int p1), some (.int p2), some (.int p3)], [], h) = some (2, [some (.ref 37), some (.int p1), some (.int p2), some (.int p3)], [.int (-1), .int p1], h)) (fun hs => ?_)
  refine zg_i_ne zd_14 rfl (fun (hc : ¬ (p1 = (-1))) => ?_) (fun (hc : (p1 = (-1))) => ?_)
  · have ho := ho.2 hc
    rw [if_neg hc] at hF
    refine zg_blk zd_14 5 hs (rfl : zb x zT0 zc_14 5 (7, [some (.ref 37), some (.int p1), some (.int p2), some (.int p3)], [], h) = some (16, [some (.ref 37), some (.int p1), some (.int p2), some (.int p3)], [.int p3, .ref 41, .ref 15], h)) (fun hs => ?_)
    obtain ⟨hob, ho⟩ := ho
    refine zg_ial hs zd_14 rfl rfl hob ?_
    refine zg_blk zd_14 2 hs (rfl : zb x zT0 zc_14 2 (17, [some (.ref 37), some (.int p1), some (.int p2), some (.int p3)], [.int (zr h 41 p3), .ref 15], h) = some (19, [some (.ref 37), some (.int p1), some (.int p2), some (.int p3)], [.int p3, .ref 37, .int (zr h 41 p3), .ref 15], h)) (fun hs => ?_)
    obtain ⟨hob, ho⟩ := ho
    refine zg_call hs zd_14 rfl rfl rfl rfl (as := [.ref 37, .int p3]) (rest := [.int (zr h 41 p3), .ref 15]) (en := [some (.ref 37), some (.int p3), none, none]) rfl rfl rfl rfl rfl ?_
    refine f_Course_leastHold_37_t p3 h hs hob ?_
    show zg x (d + 3) 14 22 [some (.ref 37), some (.int p1), some (.int p2), some (.int p3)] [.int (f_Course_leastHold_37 p3 h), .int (zr h 41 p3), .ref 15] h Q
    refine zg_blk zd_14 4 hs (rfl : zb x zT0 zc_14 4 (22, [some (.ref 37), some (.int p1), some (.int p2), some (.int p3)], [.int (f_Course_leastHold_37 p3 h), .int (zr h 41 p3), .ref 15], h) = some (30, [some (.ref 37), some (.int p1), some (.int p2), some (.int p3)], [.int p3, .ref 24, .int (f_Course_leastHold_37 p3 h), .int (zr h 41 p3), .ref 15], h)) (fun hs => ?_)
    obtain ⟨hob, ho⟩ := ho
    refine zg_ial hs zd_14 rfl rfl hob ?_
    refine zg_blk zd_14 2 hs (rfl : zb x zT0 zc_14 2 (31, [some (.ref 37), some (.int p1), some (.int p2), some (.int p3)], [.int (zr h 24 p3), .int (f_Course_leastHold_37 p3 h), .int (zr h 41 p3), .ref 15], h) = some (33, [some (.ref 37), some (.int p1), some (.int p2), some (.int p3)], [.int p3, .ref 37, .int (zr h 24 p3), .int (f_Course_leastHold_37 p3 h), .int (zr h 41 p3), .ref 15], h)) (fun hs => ?_)
    obtain ⟨hob, ho⟩ := ho
    refine zg_call hs zd_14 rfl rfl rfl rfl (as := [.ref 37, .int p3]) (rest := [.int (zr h 24 p3), .int (f_Course_leastHold_37 p3 h), .int (zr h 41 p3), .ref 15]) (en := [some (.ref 37), some (.int p3)]) rfl rfl rfl rfl rfl ?_
    refine f_Course_isReady_37_t p3 h hs hob ?_
    show zg x (d + 3) 14 36 [some (.ref 37), some (.int p1), some (.int p2), some (.int p3)] [.int (f_Course_isReady_37 p3 h), .int (zr h 24 p3), .int (f_Course_leastHold_37 p3 h), .int (zr h 41 p3), .ref 15] h Q
    have K58 : zSh zT0 h → zg x (d + 3) 14 44 [some (.ref 37), some (.int p1), some (.int p2), some (.int p3)] [.int (if (¬ ((f_Course_isReady_37 p3 h) = 0)) then (1 : Int32) else 0), .int (zr h 24 p3), .int (f_Course_leastHold_37 p3 h), .int (zr h 41 p3), .ref 15] h Q := fun hs => by
      refine zg_call hs zd_14 rfl rfl rfl rfl (as := [.ref 15, .int (zr h 41 p3), .int (f_Course_leastHold_37 p3 h), .int (zr h 24 p3), .int (if (¬ ((f_Course_isReady_37 p3 h) = 0)) then (1 : Int32) else 0)]) (rest := []) (en := [some (.ref 15), some (.int (zr h 41 p3)), some (.int (f_Course_leastHold_37 p3 h)), some (.int (zr h 24 p3)), some (.int (if (¬ ((f_Course_isReady_37 p3 h) = 0)) then (1 : Int32) else 0))]) rfl rfl rfl rfl rfl ?_
      refine f_Rules_nameRaft_t (zr h 41 p3) (f_Course_leastHold_37 p3 h) (zr h 24 p3) (if (¬ ((f_Course_isReady_37 p3 h) = 0)) then (1 : Int32) else 0) h hs trivial (fun hs => ?_)
      show zg x (d + 3) 14 47 [some (.ref 37), some (.int p1), some (.int p2), some (.int p3)] [] (f_Rules_nameRaft (zr h 41 p3) (f_Course_leastHold_37 p3 h) (zr h 24 p3) (if (¬ ((f_Course_isReady_37 p3 h) = 0)) then (1 : Int32) else 0) h) Q
      exact f_Course_says_37_k47_t p1 p2 (f_Rules_nameRaft (zr h 41 p3) (f_Course_leastHold_37 p3 h) (zr h 24 p3) (if (¬ ((f_Course_isReady_37 p3 h) = 0)) then (1 : Int32) else 0) h) (some (.int p3)) hs ho hF
    refine zg_f_eq zd_14 rfl (fun (hc : ((f_Course_isReady_37 p3 h) = 0)) => ?_) (fun (hc : ¬ ((f_Course_isReady_37 p3 h) = 0)) => ?_)
    · skip
      rw [show ((if (¬ ((f_Course_isReady_37 p3 h) = 0)) then (1 : Int32) else 0) : Int32) = 0 from zb_not_t hc] at K58
      refine zg_blk zd_14 1 hs (rfl : zb x zT0 zc_14 1 (43, [some (.ref 37), some (.int p1), some (.int p2), some (.int p3)], [.int (zr h 24 p3), .int (f_Course_leastHold_37 p3 h), .int (zr h 41 p3), .ref 15], h) = some (44, [some (.ref 37), some (.int p1), some (.int p2), some (.int p3)], [.int 0, .int (zr h 24 p3), .int (f_Course_leastHold_37 p3 h), .int (zr h 41 p3), .ref 15], h)) (fun hs => ?_)
      exact K58 hs
    · skip
      rw [show ((if (¬ ((f_Course_isReady_37 p3 h) = 0)) then (1 : Int32) else 0) : Int32) = 1 from zb_not_f hc] at K58
      refine zg_blk zd_14 2 hs (rfl : zb x zT0 zc_14 2 (39, [some (.ref 37), some (.int p1), some (.int p2), some (.int p3)], [.int (zr h 24 p3), .int (f_Course_leastHold_37 p3 h), .int (zr h 41 p3), .ref 15], h) = some (44, [some (.ref 37), some (.int p1), some (.int p2), some (.int p3)], [.int 1, .int (zr h 24 p3), .int (f_Course_leastHold_37 p3 h), .int (zr h 41 p3), .ref 15], h)) (fun hs => ?_)
      exact K58 hs
  · have ho := ho.1 hc
    rw [if_pos hc] at hF
    refine zg_blk zd_14 1 hs (rfl : zb x zT0 zc_14 1 (5, [some (.ref 37), some (.int p1), some (.int p2), some (.int p3)], [], h) = some (6, [some (.ref 37), some (.int p1), some (.int p2), some (.int p3)], [.int 0], h)) (fun hs => ?_)
    exact zg_ret zd_14 rfl rfl (hF hs)
set_option maxRecDepth 100000 in
set_option maxHeartbeats 400000 in
theorem f_Course_sinkAndRise_37_l23_k97_t {x : zm_X} {d : Nat} (v2 : Int32) (v3 : Int32) (v4 : Int32) (w1 : Int32) (w2 : Int32) (h : zm_H) (z1 : Int32) {Q : Option Value → zm_H → Prop} {FN : Nat × Int32 × zm_H → Prop} (hs : zSh zT0 h) (ho : f_Course_sinkAndRise_37_l23_k97_ok v2 v3 v4 w1 w2 h) (hF : FN (f_Course_sinkAndRise_37_l23_k97 v2 v3 v4 w1 w2 h)) (hl0 : ∀ (v4 : Int32) (h : zm_H) (z1 : Int32), zSh zT0 h → FN (0, v4, h) → zg x (d + 4) 13 23 [some (.ref 37), some (.int z1), some (.int v2), some (.int v3), some (.int v4)] [] h Q) (hl1 : ∀ (v4 : Int32) (h : zm_H) (z1 : Int32) (o4 : Option Value), zSh zT0 h → FN (1, v4, h) → zg x (d + 4) 13 112 [some (.ref 37), some (.int z1), some (.int v2), some (.int v3), o4] [] h Q) : zg x (d + 4) 13 97 [some (.ref 37), some (.int z1), some (.int v2), some (.int v3), some (.int v4)] [.int w2, .int w1, .ref 38] h Q := by
  unfold f_Course_sinkAndRise_37_l23_k97 at hF
  unfold f_Course_sinkAndRise_37_l23_k97_ok at ho
  have K59 : zSh zT0 h → zg x (d + 4) 13 105 [some (.ref 37), some (.int z1), some (.int v2), some (.int v3), some (.int v4)] [.int (if (w2 = 0) then (2 : Int32) else 1), .int w1, .ref 38] h Q := fun hs => by
    have hob := ho
    refine zg_ias hs zd_13 rfl rfl hob (fun hs => ?_)
    exact f_Course_sinkAndRise_37_l23_k106_t v2 v3 v4 (zs h 38 w1 (if (w2 = 0) then (2 : Int32) else 1)) z1 hs trivial hF hl0 hl1
  refine zg_f_eq zd_13 rfl (fun (hc : (w2 = 0)) => ?_) (fun (hc : ¬ (w2 = 0)) => ?_)
  · skip
    rw [show ((if (w2 = 0) then (2 : Int32) else 1) : Int32) = 2 from if_pos hc] at K59
    refine zg_blk zd_13 1 hs (rfl : zb x zT0 zc_13 1 (104, [some (.ref 37), some (.int z1), some (.int v2), some (.int v3), some (.int v4)], [.int w1, .ref 38], h) = some (105, [some (.ref 37), some (.int z1), some (.int v2), some (.int v3), some (.int v4)], [.int 2, .int w1, .ref 38], h)) (fun hs => ?_)
    exact K59 hs
  · skip
    rw [show ((if (w2 = 0) then (2 : Int32) else 1) : Int32) = 1 from if_neg hc] at K59
    refine zg_blk zd_13 2 hs (rfl : zb x zT0 zc_13 2 (100, [some (.ref 37), some (.int z1), some (.int v2), some (.int v3), some (.int v4)], [.int w1, .ref 38], h) = some (105, [some (.ref 37), some (.int z1), some (.int v2), some (.int v3), some (.int v4)], [.int 1, .int w1, .ref 38], h)) (fun hs => ?_)
    exact K59 hs
set_option maxRecDepth 100000 in
set_option maxHeartbeats 400000 in
theorem f_Course_sinkAndRise_37_l23_k60_t {x : zm_X} {d : Nat} (v2 : Int32) (v3 : Int32) (v4 : Int32) (w1 : Int32) (w2 : Int32) (h : zm_H) (z1 : Int32) {Q : Option Value → zm_H → Prop} {FN : Nat × Int32 × zm_H → Prop} (hs : zSh zT0 h) (ho : f_Course_sinkAndRise_37_l23_k60_ok v2 v3 v4 w1 w2 h) (hF : FN (f_Course_sinkAndRise_37_l23_k60 v2 v3 v4 w1 w2 h)) (hl0 : ∀ (v4 : Int32) (h : zm_H) (z1 : Int32), zSh zT0 h → FN (0, v4, h) → zg x (d + 4) 13 23 [some (.ref 37), some (.int z1), some (.int v2), some (.int v3), some (.int v4)] [] h Q) (hl1 : ∀ (v4 : Int32) (h : zm_H) (z1 : Int32) (o4 : Option Value), zSh zT0 h → FN (1, v4, h) → zg x (d + 4) 13 112 [some (.ref 37), some (.int z1), some (.int v2), some (.int v3), o4] [] h Q) : zg x (d + 4) 13 60 [some (.ref 37), some (.int z1), some (.int v2), some (.int v3), some (.int v4)] [.int w2, .int w1, .ref 38] h Q := by
  unfold f_Course_sinkAndRise_37_l23_k60 at hF
  unfold f_Course_sinkAndRise_37_l23_k60_ok at ho
  have K60 : zSh zT0 h → zg x (d + 4) 13 68 [some (.ref 37), some (.int z1), some (.int v2), some (.int v3), some (.int v4)] [.int (if (w2 = 0) then (1 : Int32) else 2), .int w1, .ref 38] h Q := fun hs => by
    have hob := ho
    refine zg_ias hs zd_13 rfl rfl hob (fun hs => ?_)
    refine zg_blk zd_13 1 hs (rfl : zb x zT0 zc_13 1 (69, [some (.ref 37), some (.int z1), some (.int v2), some (.int v3), some (.int v4)], [], (zs h 38 w1 (if (w2 = 0) then (1 : Int32) else 2))) = some (106, [some (.ref 37), some (.int z1), some (.int v2), some (.int v3), some (.int v4)], [], (zs h 38 w1 (if (w2 = 0) then (1 : Int32) else 2)))) (fun hs => ?_)
    exact f_Course_sinkAndRise_37_l23_k106_t v2 v3 v4 (zs h 38 w1 (if (w2 = 0) then (1 : Int32) else 2)) z1 hs trivial hF hl0 hl1
  refine zg_f_eq zd_13 rfl (fun (hc : (w2 = 0)) => ?_) (fun (hc : ¬ (w2 = 0)) => ?_)
  · skip
    rw [show ((if (w2 = 0) then (1 : Int32) else 2) : Int32) = 1 from if_pos hc] at K60
    refine zg_blk zd_13 1 hs (rfl : zb x zT0 zc_13 1 (67, [some (.ref 37), some (.int z1), some (.int v2), some (.int v3), some (.int v4)], [.int w1, .ref 38], h) = some (68, [some (.ref 37), some (.int z1), some (.int v2), some (.int v3), some (.int v4)], [.int 1, .int w1, .ref 38], h)) (fun hs => ?_)
    exact K60 hs
  · skip
    rw [show ((if (w2 = 0) then (1 : Int32) else 2) : Int32) = 2 from if_neg hc] at K60
    refine zg_blk zd_13 2 hs (rfl : zb x zT0 zc_13 2 (63, [some (.ref 37), some (.int z1), some (.int v2), some (.int v3), some (.int v4)], [.int w1, .ref 38], h) = some (68, [some (.ref 37), some (.int z1), some (.int v2), some (.int v3), some (.int v4)], [.int 2, .int w1, .ref 38], h)) (fun hs => ?_)
    exact K60 hs
set_option maxRecDepth 100000 in
set_option maxHeartbeats 400000 in
theorem f_Course_sinkAndRise_37_l23_b_t {x : zm_X} {d : Nat} (v2 : Int32) (v3 : Int32) (v4 : Int32) (h : zm_H) (z1 : Int32) {Q : Option Value → zm_H → Prop} {FN : Nat × Int32 × zm_H → Prop} (hs : zSh zT0 h) (ho : f_Course_sinkAndRise_37_l23_b_ok v2 v3 v4 h) (hF : FN (f_Course_sinkAndRise_37_l23_b v2 v3 v4 h)) (hl0 : ∀ (v4 : Int32) (h : zm_H) (z1 : Int32), zSh zT0 h → FN (0, v4, h) → zg x (d + 4) 13 23 [some (.ref 37), some (.int z1), some (.int v2), some (.int v3), some (.int v4)] [] h Q) (hl1 : ∀ (v4 : Int32) (h : zm_H) (z1 : Int32) (o4 : Option Value), zSh zT0 h → FN (1, v4, h) → zg x (d + 4) 13 112 [some (.ref 37), some (.int z1), some (.int v2), some (.int v3), o4] [] h Q) : zg x (d + 4) 13 23 [some (.ref 37), some (.int z1), some (.int v2), some (.int v3), some (.int v4)] [] h Q := by
  unfold f_Course_sinkAndRise_37_l23_b at hF
  unfold f_Course_sinkAndRise_37_l23_b_ok at ho
  refine zg_blk zd_13 4 hs (rfl : zb x zT0 zc_13 4 (23, [some (.ref 37), some (.int z1), some (.int v2), some (.int v3), some (.int v4)], [], h) = some (32, [some (.ref 37), some (.int z1), some (.int v2), some (.int v3), some (.int v4)], [.int (zf h 23 0), .int v4], h)) (fun hs => ?_)
  refine zg_i_ge zd_13 rfl (fun (hc : ((zf h 23 0) ≤ v4)) => ?_) (fun (hc : ¬ ((zf h 23 0) ≤ v4)) => ?_)
  · have ho := ho.1 hc
    rw [if_pos hc] at hF
    exact hl1 v4 h z1 (some (.int v4)) hs hF
  · have ho := ho.2 hc
    rw [if_neg hc] at hF
    refine zg_blk zd_13 3 hs (rfl : zb x zT0 zc_13 3 (35, [some (.ref 37), some (.int z1), some (.int v2), some (.int v3), some (.int v4)], [], h) = some (41, [some (.ref 37), some (.int z1), some (.int v2), some (.int v3), some (.int v4)], [.int v4, .ref 38], h)) (fun hs => ?_)
    obtain ⟨hob, ho⟩ := ho
    refine zg_ial hs zd_13 rfl rfl hob ?_
    refine zg_blk zd_13 1 hs (rfl : zb x zT0 zc_13 1 (42, [some (.ref 37), some (.int z1), some (.int v2), some (.int v3), some (.int v4)], [.int (zr h 38 v4)], h) = some (43, [some (.ref 37), some (.int z1), some (.int v2), some (.int v3), some (.int v4)], [.int 1, .int (zr h 38 v4)], h)) (fun hs => ?_)
    refine zg_i_ne zd_13 rfl (fun (hc : ¬ ((zr h 38 v4) = 1)) => ?_) (fun (hc : ((zr h 38 v4) = 1)) => ?_)
    · have ho := ho.2 hc
      rw [if_neg hc] at hF
      refine zg_blk zd_13 3 hs (rfl : zb x zT0 zc_13 3 (72, [some (.ref 37), some (.int z1), some (.int v2), some (.int v3), some (.int v4)], [], h) = some (78, [some (.ref 37), some (.int z1), some (.int v2), some (.int v3), some (.int v4)], [.int v4, .ref 38], h)) (fun hs => ?_)
      obtain ⟨hob, ho⟩ := ho
      refine zg_ial hs zd_13 rfl rfl hob ?_
      refine zg_blk zd_13 1 hs (rfl : zb x zT0 zc_13 1 (79, [some (.ref 37), some (.int z1), some (.int v2), some (.int v3), some (.int v4)], [.int (zr h 38 v4)], h) = some (80, [some (.ref 37), some (.int z1), some (.int v2), some (.int v3), some (.int v4)], [.int 2, .int (zr h 38 v4)], h)) (fun hs => ?_)
      refine zg_i_ne zd_13 rfl (fun (hc : ¬ ((zr h 38 v4) = 2)) => ?_) (fun (hc : ((zr h 38 v4) = 2)) => ?_)
      · have ho := ho.2 hc
        rw [if_neg hc] at hF
        exact f_Course_sinkAndRise_37_l23_k106_t v2 v3 v4 h z1 hs trivial hF hl0 hl1
      · have ho := ho.1 hc
        rw [if_pos hc] at hF
        refine zg_blk zd_13 7 hs (rfl : zb x zT0 zc_13 7 (83, [some (.ref 37), some (.int z1), some (.int v2), some (.int v3), some (.int v4)], [], h) = some (94, [some (.ref 37), some (.int z1), some (.int v2), some (.int v3), some (.int v4)], [.int v4, .int 1, .int v3, .ref 37, .int v4, .ref 38], h)) (fun hs => ?_)
        obtain ⟨hob, ho⟩ := ho
        refine zg_call hs zd_13 rfl rfl rfl rfl (as := [.ref 37, .int v3, .int 1, .int v4]) (rest := [.int v4, .ref 38]) (en := [some (.ref 37), some (.int v3), some (.int 1), some (.int v4)]) rfl rfl rfl rfl rfl ?_
        refine f_Course_says_37_t v3 1 v4 h hs hob (fun hs => ?_)
        show zg x (d + 4) 13 97 [some (.ref 37), some (.int z1), some (.int v2), some (.int v3), some (.int v4)] [.int (f_Course_says_37 v3 1 v4 h).1, .int v4, .ref 38] (f_Course_says_37 v3 1 v4 h).2 Q
        exact f_Course_sinkAndRise_37_l23_k97_t v2 v3 v4 v4 (f_Course_says_37 v3 1 v4 h).1 (f_Course_says_37 v3 1 v4 h).2 z1 hs ho hF hl0 hl1
    · have ho := ho.1 hc
      rw [if_pos hc] at hF
      refine zg_blk zd_13 7 hs (rfl : zb x zT0 zc_13 7 (46, [some (.ref 37), some (.int z1), some (.int v2), some (.int v3), some (.int v4)], [], h) = some (57, [some (.ref 37), some (.int z1), some (.int v2), some (.int v3), some (.int v4)], [.int v4, .int 0, .int v2, .ref 37, .int v4, .ref 38], h)) (fun hs => ?_)
      obtain ⟨hob, ho⟩ := ho
      refine zg_call hs zd_13 rfl rfl rfl rfl (as := [.ref 37, .int v2, .int 0, .int v4]) (rest := [.int v4, .ref 38]) (en := [some (.ref 37), some (.int v2), some (.int 0), some (.int v4)]) rfl rfl rfl rfl rfl ?_
      refine f_Course_says_37_t v2 0 v4 h hs hob (fun hs => ?_)
      show zg x (d + 4) 13 60 [some (.ref 37), some (.int z1), some (.int v2), some (.int v3), some (.int v4)] [.int (f_Course_says_37 v2 0 v4 h).1, .int v4, .ref 38] (f_Course_says_37 v2 0 v4 h).2 Q
      exact f_Course_sinkAndRise_37_l23_k60_t v2 v3 v4 v4 (f_Course_says_37 v2 0 v4 h).1 (f_Course_says_37 v2 0 v4 h).2 z1 hs ho hF hl0 hl1
theorem f_Course_sinkAndRise_37_l23_t {x : zm_X} {d : Nat} (v2 : Int32) (v3 : Int32) {Q : Option Value → zm_H → Prop} (G : Nat × Int32 × zm_H → Prop) (hx1 : ∀ (v4 : Int32) (h : zm_H) (z1 : Int32) (o4 : Option Value), zSh zT0 h → G (1, v4, h) → zg x (d + 4) 13 112 [some (.ref 37), some (.int z1), some (.int v2), some (.int v3), o4] [] h Q) : ∀ (n : Nat) (v4 : Int32) (h : zm_H) (z1 : Int32), zSh zT0 h → f_Course_sinkAndRise_37_l23_ok v2 v3 n (v4, h) → G (f_Course_sinkAndRise_37_l23 v2 v3 n (v4, h)) → zg x (d + 4) 13 23 [some (.ref 37), some (.int z1), some (.int v2), some (.int v3), some (.int v4)] [] h Q := by
  intro n
  induction n with
  | zero => intro v4 h z1 hs ho hG; exact ho.elim
  | succ n ih =>
    intro v4 h z1 hs ho hG
    refine f_Course_sinkAndRise_37_l23_b_t (FN := fun r => (r.1 = 0 → f_Course_sinkAndRise_37_l23_ok v2 v3 n r.2) ∧ G (if r.1 = 0 then f_Course_sinkAndRise_37_l23 v2 v3 n r.2 else r)) v2 v3 v4 h z1 hs ho.1 ⟨ho.2, hG⟩ ?_ ?_
    · intro v4 h z1 hs hF
      exact ih v4 h z1 hs (hF.1 rfl) hF.2
    · intro v4 h z1 o4 hs hF
      exact hx1 v4 h z1 o4 hs hF.2

set_option maxRecDepth 100000 in
set_option maxHeartbeats 400000 in
theorem f_Course_sinkAndRise_37_k112_t {x : zm_X} {d : Nat} (h : zm_H) (o0 : Option Value) (z1 : Int32) (o2 : Option Value) (o3 : Option Value) (o4 : Option Value) {Q : Option Value → zm_H → Prop} (hs : zSh zT0 h) (ho : f_Course_sinkAndRise_37_k112_ok h) (hF : (zSh zT0 (f_Course_sinkAndRise_37_k112 h) → Q none (f_Course_sinkAndRise_37_k112 h))) : zg x (d + 4) 13 112 [o0, some (.int z1), o2, o3, o4] [] h Q := by
  unfold f_Course_sinkAndRise_37_k112 at hF
  unfold f_Course_sinkAndRise_37_k112_ok at ho
  exact zg_ret zd_13 rfl rfl (hF hs)
set_option maxRecDepth 100000 in
set_option maxHeartbeats 400000 in
theorem f_Course_sinkAndRise_37_t {x : zm_X} {d : Nat} (p1 : Int32) (h : zm_H) {Q : Option Value → zm_H → Prop} (hs : zSh zT0 h) (ho : f_Course_sinkAndRise_37_ok p1 h) (hF : (zSh zT0 (f_Course_sinkAndRise_37 p1 h) → Q none (f_Course_sinkAndRise_37 p1 h))) : zg x (d + 4) 13 0 [some (.ref 37), some (.int p1), none, none, none] [] h Q := by
  unfold f_Course_sinkAndRise_37 at hF
  unfold f_Course_sinkAndRise_37_ok at ho
  refine zg_blk zd_13 4 hs (rfl : zb x zT0 zc_13 4 (0, [some (.ref 37), some (.int p1), none, none, none], [], h) = some (6, [some (.ref 37), some (.int p1), none, none, none], [.int p1, .int 0, .ref 15], h)) (fun hs => ?_)
  obtain ⟨hob, ho⟩ := ho
  refine zg_call hs zd_13 rfl rfl rfl rfl (as := [.ref 15, .int 0, .int p1]) (rest := []) (en := [some (.ref 15), some (.int 0), some (.int p1), none, none, none, none]) rfl rfl rfl rfl rfl ?_
  refine f_Rules_ruling_t 0 p1 h hs hob ?_
  show zg x (d + 4) 13 9 [some (.ref 37), some (.int p1), none, none, none] [.int (f_Rules_ruling 0 p1 h)] h Q
  refine zg_blk zd_13 5 hs (rfl : zb x zT0 zc_13 5 (9, [some (.ref 37), some (.int p1), none, none, none], [.int (f_Rules_ruling 0 p1 h)], h) = some (16, [some (.ref 37), some (.int p1), some (.int (f_Rules_ruling 0 p1 h)), none, none], [.int p1, .int 1, .ref 15], h)) (fun hs => ?_)
  obtain ⟨hob, ho⟩ := ho
  refine zg_call hs zd_13 rfl rfl rfl rfl (as := [.ref 15, .int 1, .int p1]) (rest := []) (en := [some (.ref 15), some (.int 1), some (.int p1), none, none, none, none]) rfl rfl rfl rfl rfl ?_
  refine f_Rules_ruling_t 1 p1 h hs hob ?_
  show zg x (d + 4) 13 19 [some (.ref 37), some (.int p1), some (.int (f_Rules_ruling 0 p1 h)), none, none] [.int (f_Rules_ruling 1 p1 h)] h Q
  refine zg_blk zd_13 3 hs (rfl : zb x zT0 zc_13 3 (19, [some (.ref 37), some (.int p1), some (.int (f_Rules_ruling 0 p1 h)), none, none], [.int (f_Rules_ruling 1 p1 h)], h) = some (23, [some (.ref 37), some (.int p1), some (.int (f_Rules_ruling 0 p1 h)), some (.int (f_Rules_ruling 1 p1 h)), some (.int 0)], [], h)) (fun hs => ?_)
  refine f_Course_sinkAndRise_37_l23_t (f_Rules_ruling 0 p1 h) (f_Rules_ruling 1 p1 h) (fun r => f_Course_sinkAndRise_37_a23_ok r ∧ (zSh zT0 (f_Course_sinkAndRise_37_a23 r) → Q none (f_Course_sinkAndRise_37_a23 r))) ?_ zF 0 h p1 hs ho.1 ⟨ho.2, hF⟩
  · intro v4_ h_ z1_ o4_ hs hG
    have ho : True := trivial
    have hF : (zSh zT0 ((f_Course_sinkAndRise_37_k112 h_)) → Q none ((f_Course_sinkAndRise_37_k112 h_))) := hG.2
    exact f_Course_sinkAndRise_37_k112_t h_ (some (.ref 37)) z1_ (some (.int (f_Rules_ruling 0 p1 h))) (some (.int (f_Rules_ruling 1 p1 h))) (o4_) hs trivial hF
theorem zd_18 : zm_cd 18 = zc_18 := by rfl
theorem zd_19 : zm_cd 19 = zc_19 := by rfl
theorem zd_111 : zm_cd 111 = zc_111 := by rfl
set_option maxRecDepth 100000 in
set_option maxHeartbeats 400000 in
theorem f_Arrays_fill_33_l5_b_t {x : zm_X} {d : Nat} (v1 : Int32) (v2 : Int32) (v3 : Int32) (h : zm_H) {Q : Option Value → zm_H → Prop} {FN : Nat × Int32 × zm_H → Prop} (hs : zSh zT0 h) (ho : f_Arrays_fill_33_l5_b_ok v1 v2 v3 h) (hF : FN (f_Arrays_fill_33_l5_b v1 v2 v3 h)) (hl0 : ∀ (v2 : Int32) (h : zm_H), zSh zT0 h → FN (0, v2, h) → zg x (d + 1) 265 5 [some (.ref 33), some (.int v1), some (.int v2), some (.int v3)] [] h Q) (hl1 : ∀ (v2 : Int32) (h : zm_H) (o2 : Option Value), zSh zT0 h → FN (1, v2, h) → zg x (d + 1) 265 20 [some (.ref 33), some (.int v1), o2, some (.int v3)] [] h Q) : zg x (d + 1) 265 5 [some (.ref 33), some (.int v1), some (.int v2), some (.int v3)] [] h Q := by
  unfold f_Arrays_fill_33_l5_b at hF
  unfold f_Arrays_fill_33_l5_b_ok at ho
  refine zg_blk zd_265 2 hs (rfl : zb x zT0 zc_265 2 (5, [some (.ref 33), some (.int v1), some (.int v2), some (.int v3)], [], h) = some (7, [some (.ref 33), some (.int v1), some (.int v2), some (.int v3)], [.int v3, .int v2], h)) (fun hs => ?_)
  refine zg_i_ge zd_265 rfl (fun (hc : (v3 ≤ v2)) => ?_) (fun (hc : ¬ (v3 ≤ v2)) => ?_)
  · have ho := ho.1 hc
    rw [if_pos hc] at hF
    exact hl1 v2 h (some (.int v2)) hs hF
  · have ho := ho.2 hc
    rw [if_neg hc] at hF
    refine zg_blk zd_265 3 hs (rfl : zb x zT0 zc_265 3 (10, [some (.ref 33), some (.int v1), some (.int v2), some (.int v3)], [], h) = some (13, [some (.ref 33), some (.int v1), some (.int v2), some (.int v3)], [.int v1, .int v2, .ref 33], h)) (fun hs => ?_)
    have hob := ho
    refine zg_ias hs zd_265 rfl rfl hob (fun hs => ?_)
    refine zg_blk zd_265 2 hs (rfl : zb x zT0 zc_265 2 (14, [some (.ref 33), some (.int v1), some (.int v2), some (.int v3)], [], (zs h 33 v2 v1)) = some (5, [some (.ref 33), some (.int v1), some (.int (v2 + 1)), some (.int v3)], [], (zs h 33 v2 v1))) (fun hs => ?_)
    exact hl0 (v2 + 1) (zs h 33 v2 v1) hs hF
theorem f_Arrays_fill_33_l5_t {x : zm_X} {d : Nat} (v1 : Int32) (v3 : Int32) {Q : Option Value → zm_H → Prop} (G : Nat × Int32 × zm_H → Prop) (hx1 : ∀ (v2 : Int32) (h : zm_H) (o2 : Option Value), zSh zT0 h → G (1, v2, h) → zg x (d + 1) 265 20 [some (.ref 33), some (.int v1), o2, some (.int v3)] [] h Q) : ∀ (n : Nat) (v2 : Int32) (h : zm_H), zSh zT0 h → f_Arrays_fill_33_l5_ok v1 v3 n (v2, h) → G (f_Arrays_fill_33_l5 v1 v3 n (v2, h)) → zg x (d + 1) 265 5 [some (.ref 33), some (.int v1), some (.int v2), some (.int v3)] [] h Q := by
  intro n
  induction n with
  | zero => intro v2 h hs ho hG; exact ho.elim
  | succ n ih =>
    intro v2 h hs ho hG
    refine f_Arrays_fill_33_l5_b_t (FN := fun r => (r.1 = 0 → f_Arrays_fill_33_l5_ok v1 v3 n r.2) ∧ G (if r.1 = 0 then f_Arrays_fill_33_l5 v1 v3 n r.2 else r)) v1 v2 v3 h hs ho.1 ⟨ho.2, hG⟩ ?_ ?_
    · intro v2 h hs hF
      exact ih v2 h hs (hF.1 rfl) hF.2
    · intro v2 h o2 hs hF
      exact hx1 v2 h o2 hs hF.2

set_option maxRecDepth 100000 in
set_option maxHeartbeats 400000 in
theorem f_Arrays_fill_33_k20_t {x : zm_X} {d : Nat} (h : zm_H) (o0 : Option Value) (z1 : Int32) (o2 : Option Value) (o3 : Option Value) {Q : Option Value → zm_H → Prop} (hs : zSh zT0 h) (ho : f_Arrays_fill_33_k20_ok h) (hF : (zSh zT0 (f_Arrays_fill_33_k20 h) → Q none (f_Arrays_fill_33_k20 h))) : zg x (d + 1) 265 20 [o0, some (.int z1), o2, o3] [] h Q := by
  unfold f_Arrays_fill_33_k20 at hF
  unfold f_Arrays_fill_33_k20_ok at ho
  exact zg_ret zd_265 rfl rfl (hF hs)
set_option maxRecDepth 100000 in
set_option maxHeartbeats 400000 in
theorem f_Arrays_fill_33_t {x : zm_X} {d : Nat} (p1 : Int32) (h : zm_H) {Q : Option Value → zm_H → Prop} (hs : zSh zT0 h) (ho : f_Arrays_fill_33_ok p1 h) (hF : (zSh zT0 (f_Arrays_fill_33 p1 h) → Q none (f_Arrays_fill_33 p1 h))) : zg x (d + 1) 265 0 [some (.ref 33), some (.int p1), none, none] [] h Q := by
  unfold f_Arrays_fill_33 at hF
  unfold f_Arrays_fill_33_ok at ho
  refine zg_blk zd_265 5 hs (rfl : zb x zT0 zc_265 5 (0, [some (.ref 33), some (.int p1), none, none], [], h) = some (5, [some (.ref 33), some (.int p1), some (.int 0), some (.int (Int32.ofNat 100))], [], h)) (fun hs => ?_)
  refine f_Arrays_fill_33_l5_t p1 (Int32.ofNat 100) (fun r => f_Arrays_fill_33_a5_ok r ∧ (zSh zT0 (f_Arrays_fill_33_a5 r) → Q none (f_Arrays_fill_33_a5 r))) ?_ zF 0 h hs ho.1 ⟨ho.2, hF⟩
  · intro v2_ h_ o2_ hs hG
    have ho : True := trivial
    have hF : (zSh zT0 ((f_Arrays_fill_33_k20 h_)) → Q none ((f_Arrays_fill_33_k20 h_))) := hG.2
    exact f_Arrays_fill_33_k20_t h_ (some (.ref 33)) p1 (o2_) (some (.int (Int32.ofNat 100))) hs trivial hF
set_option maxRecDepth 100000 in
set_option maxHeartbeats 400000 in
theorem f_Waves_takeAllOut_t {x : zm_X} {d : Nat} (h : zm_H) {Q : Option Value → zm_H → Prop} (hs : zSh zT0 h) (ho : f_Waves_takeAllOut_ok h) (hF : (zSh zT0 (f_Waves_takeAllOut h) → Q none (f_Waves_takeAllOut h))) : zg x (d + 2) 111 0 [some (.ref 32)] [] h Q := by
  unfold f_Waves_takeAllOut at hF
  unfold f_Waves_takeAllOut_ok at ho
  refine zg_blk zd_111 3 hs (rfl : zb x zT0 zc_111 3 (0, [some (.ref 32)], [], h) = some (5, [some (.ref 32)], [.int (-1), .ref 33], h)) (fun hs => ?_)
  have hob := ho
  refine zg_call hs zd_111 rfl rfl rfl rfl (as := [.ref 33, .int (-1)]) (rest := []) (en := [some (.ref 33), some (.int (-1)), none, none]) rfl rfl rfl rfl rfl ?_
  refine f_Arrays_fill_33_t (-1) h hs hob (fun hs => ?_)
  show zg x (d + 2) 111 8 [some (.ref 32)] [] (f_Arrays_fill_33 (-1) h) Q
  exact zg_ret zd_111 rfl rfl (hF hs)
set_option maxRecDepth 100000 in
set_option maxHeartbeats 400000 in
theorem f_Course_putInto_37_l6_k38_t {x : zm_X} {d : Nat} (v2 : Int32) (h : zm_H) {Q : Option Value → zm_H → Prop} {FN : Nat × Int32 × zm_H → Prop} (hs : zSh zT0 h) (ho : f_Course_putInto_37_l6_k38_ok v2 h) (hF : FN (f_Course_putInto_37_l6_k38 v2 h)) (hl0 : ∀ (v2 : Int32) (h : zm_H), zSh zT0 h → FN (0, v2, h) → zg x (d + 3) 19 6 [some (.ref 37), some (.ref 32), some (.int v2)] [] h Q) (hl1 : ∀ (v2 : Int32) (h : zm_H) (o2 : Option Value), zSh zT0 h → FN (1, v2, h) → zg x (d + 3) 19 44 [some (.ref 37), some (.ref 32), o2] [] h Q) : zg x (d + 3) 19 38 [some (.ref 37), some (.ref 32), some (.int v2)] [] h Q := by
  unfold f_Course_putInto_37_l6_k38 at hF
  unfold f_Course_putInto_37_l6_k38_ok at ho
  refine zg_blk zd_19 2 hs (rfl : zb x zT0 zc_19 2 (38, [some (.ref 37), some (.ref 32), some (.int v2)], [], h) = some (6, [some (.ref 37), some (.ref 32), some (.int (v2 + 1))], [], h)) (fun hs => ?_)
  exact hl0 (v2 + 1) h hs hF
theorem zd_112 : zm_cd 112 = zc_112 := by rfl
set_option maxRecDepth 100000 in
set_option maxHeartbeats 400000 in
theorem f_Waves_putIn_t {x : zm_X} {d : Nat} (p1 : Int32) (p2 : Int32) (h : zm_H) {Q : Option Value → zm_H → Prop} (hs : zSh zT0 h) (ho : f_Waves_putIn_ok p1 p2 h) (hF : (zSh zT0 (f_Waves_putIn p1 p2 h) → Q none (f_Waves_putIn p1 p2 h))) : zg x (d + 2) 112 0 [some (.ref 32), some (.int p1), some (.int p2)] [] h Q := by
  unfold f_Waves_putIn at hF
  unfold f_Waves_putIn_ok at ho
  refine zg_blk zd_112 1 hs (rfl : zb x zT0 zc_112 1 (0, [some (.ref 32), some (.int p1), some (.int p2)], [], h) = some (1, [some (.ref 32), some (.int p1), some (.int p2)], [.int p2], h)) (fun hs => ?_)
  refine zg_call hs zd_112 rfl rfl rfl rfl (as := [.int p2]) (rest := []) (en := [some (.int p2)]) rfl rfl rfl rfl rfl ?_
  refine f_N_isPlace_t p2 h hs trivial ?_
  show zg x (d + 2) 112 4 [some (.ref 32), some (.int p1), some (.int p2)] [.int (if (¬ (p2 < 0) ∧ (¬ (100 ≤ p2) ∧ (¬ (5 ≤ (zm_rm p2 10))))) then (1 : Int32) else 0)] h Q
  have hom := ho
  have K61 : zSh zT0 (if (¬ (p2 < 0) ∧ (¬ (100 ≤ p2) ∧ (¬ (5 ≤ (zm_rm p2 10))))) then (zs h 33 p2 p1) else h) → zg x (d + 2) 112 14 [some (.ref 32), some (.int p1), some (.int p2)] [] (if (¬ (p2 < 0) ∧ (¬ (100 ≤ p2) ∧ (¬ (5 ≤ (zm_rm p2 10))))) then (zs h 33 p2 p1) else h) Q := fun hs => by
    exact zg_ret zd_112 rfl rfl (hF hs)
  refine zg_b_eq zd_112 rfl (fun (hc : ¬ (¬ (p2 < 0) ∧ (¬ (100 ≤ p2) ∧ (¬ (5 ≤ (zm_rm p2 10)))))) => ?_) (fun (hc : (¬ (p2 < 0) ∧ (¬ (100 ≤ p2) ∧ (¬ (5 ≤ (zm_rm p2 10)))))) => ?_)
  · have ho := hom.2 hc
    rw [show (if (¬ (p2 < 0) ∧ (¬ (100 ≤ p2) ∧ (¬ (5 ≤ (zm_rm p2 10))))) then (zs h 33 p2 p1) else h) = h from if_neg hc] at K61
    exact K61 hs
  · have ho := hom.1 hc
    rw [show (if (¬ (p2 < 0) ∧ (¬ (100 ≤ p2) ∧ (¬ (5 ≤ (zm_rm p2 10))))) then (zs h 33 p2 p1) else h) = (zs h 33 p2 p1) from if_pos hc] at K61
    refine zg_blk zd_112 4 hs (rfl : zb x zT0 zc_112 4 (7, [some (.ref 32), some (.int p1), some (.int p2)], [], h) = some (13, [some (.ref 32), some (.int p1), some (.int p2)], [.int p1, .int p2, .ref 33], h)) (fun hs => ?_)
    have hob := ho
    refine zg_ias hs zd_112 rfl rfl hob (fun hs => ?_)
    exact K61 hs
set_option maxRecDepth 100000 in
set_option maxHeartbeats 400000 in
theorem f_Course_putInto_37_l6_b_t {x : zm_X} {d : Nat} (v2 : Int32) (h : zm_H) {Q : Option Value → zm_H → Prop} {FN : Nat × Int32 × zm_H → Prop} (hs : zSh zT0 h) (ho : f_Course_putInto_37_l6_b_ok v2 h) (hF : FN (f_Course_putInto_37_l6_b v2 h)) (hl0 : ∀ (v2 : Int32) (h : zm_H), zSh zT0 h → FN (0, v2, h) → zg x (d + 3) 19 6 [some (.ref 37), some (.ref 32), some (.int v2)] [] h Q) (hl1 : ∀ (v2 : Int32) (h : zm_H) (o2 : Option Value), zSh zT0 h → FN (1, v2, h) → zg x (d + 3) 19 44 [some (.ref 37), some (.ref 32), o2] [] h Q) : zg x (d + 3) 19 6 [some (.ref 37), some (.ref 32), some (.int v2)] [] h Q := by
  unfold f_Course_putInto_37_l6_b at hF
  unfold f_Course_putInto_37_l6_b_ok at ho
  refine zg_blk zd_19 4 hs (rfl : zb x zT0 zc_19 4 (6, [some (.ref 37), some (.ref 32), some (.int v2)], [], h) = some (14, [some (.ref 37), some (.ref 32), some (.int v2)], [.int (zf h 23 0), .int v2], h)) (fun hs => ?_)
  refine zg_i_ge zd_19 rfl (fun (hc : ((zf h 23 0) ≤ v2)) => ?_) (fun (hc : ¬ ((zf h 23 0) ≤ v2)) => ?_)
  · have ho := ho.1 hc
    rw [if_pos hc] at hF
    exact hl1 v2 h (some (.int v2)) hs hF
  · have ho := ho.2 hc
    rw [if_neg hc] at hF
    refine zg_blk zd_19 3 hs (rfl : zb x zT0 zc_19 3 (17, [some (.ref 37), some (.ref 32), some (.int v2)], [], h) = some (22, [some (.ref 37), some (.ref 32), some (.int v2)], [.int v2, .ref 38], h)) (fun hs => ?_)
    obtain ⟨hob, ho⟩ := ho
    refine zg_ial hs zd_19 rfl rfl hob ?_
    refine zg_blk zd_19 1 hs (rfl : zb x zT0 zc_19 1 (23, [some (.ref 37), some (.ref 32), some (.int v2)], [.int (zr h 38 v2)], h) = some (24, [some (.ref 37), some (.ref 32), some (.int v2)], [.int 1, .int (zr h 38 v2)], h)) (fun hs => ?_)
    refine zg_i_ne zd_19 rfl (fun (hc : ¬ ((zr h 38 v2) = 1)) => ?_) (fun (hc : ((zr h 38 v2) = 1)) => ?_)
    · have ho := ho.2 hc
      rw [if_neg hc] at hF
      exact f_Course_putInto_37_l6_k38_t v2 h hs trivial hF hl0 hl1
    · have ho := ho.1 hc
      rw [if_pos hc] at hF
      refine zg_blk zd_19 5 hs (rfl : zb x zT0 zc_19 5 (27, [some (.ref 37), some (.ref 32), some (.int v2)], [], h) = some (34, [some (.ref 37), some (.ref 32), some (.int v2)], [.int v2, .ref 39, .int v2, .ref 32], h)) (fun hs => ?_)
      obtain ⟨hob, ho⟩ := ho
      refine zg_ial hs zd_19 rfl rfl hob ?_
      have hob := ho
      refine zg_call hs zd_19 rfl rfl rfl rfl (as := [.ref 32, .int v2, .int (zr h 39 v2)]) (rest := []) (en := [some (.ref 32), some (.int v2), some (.int (zr h 39 v2))]) rfl rfl rfl rfl rfl ?_
      refine f_Waves_putIn_t v2 (zr h 39 v2) h hs hob (fun hs => ?_)
      show zg x (d + 3) 19 38 [some (.ref 37), some (.ref 32), some (.int v2)] [] (f_Waves_putIn v2 (zr h 39 v2) h) Q
      exact f_Course_putInto_37_l6_k38_t v2 (f_Waves_putIn v2 (zr h 39 v2) h) hs trivial hF hl0 hl1
theorem f_Course_putInto_37_l6_t {x : zm_X} {d : Nat} {Q : Option Value → zm_H → Prop} (G : Nat × Int32 × zm_H → Prop) (hx1 : ∀ (v2 : Int32) (h : zm_H) (o2 : Option Value), zSh zT0 h → G (1, v2, h) → zg x (d + 3) 19 44 [some (.ref 37), some (.ref 32), o2] [] h Q) : ∀ (n : Nat) (v2 : Int32) (h : zm_H), zSh zT0 h → f_Course_putInto_37_l6_ok n (v2, h) → G (f_Course_putInto_37_l6 n (v2, h)) → zg x (d + 3) 19 6 [some (.ref 37), some (.ref 32), some (.int v2)] [] h Q := by
  intro n
  induction n with
  | zero => intro v2 h hs ho hG; exact ho.elim
  | succ n ih =>
    intro v2 h hs ho hG
    refine f_Course_putInto_37_l6_b_t (FN := fun r => (r.1 = 0 → f_Course_putInto_37_l6_ok n r.2) ∧ G (if r.1 = 0 then f_Course_putInto_37_l6 n r.2 else r)) v2 h hs ho.1 ⟨ho.2, hG⟩ ?_ ?_
    · intro v2 h hs hF
      exact ih v2 h hs (hF.1 rfl) hF.2
    · intro v2 h o2 hs hF
      exact hx1 v2 h o2 hs hF.2

set_option maxRecDepth 100000 in
set_option maxHeartbeats 400000 in
theorem f_Course_putInto_37_k44_t {x : zm_X} {d : Nat} (h : zm_H) (o0 : Option Value) (o1 : Option Value) (o2 : Option Value) {Q : Option Value → zm_H → Prop} (hs : zSh zT0 h) (ho : f_Course_putInto_37_k44_ok h) (hF : (zSh zT0 (f_Course_putInto_37_k44 h) → Q none (f_Course_putInto_37_k44 h))) : zg x (d + 3) 19 44 [o0, o1, o2] [] h Q := by
  unfold f_Course_putInto_37_k44 at hF
  unfold f_Course_putInto_37_k44_ok at ho
  exact zg_ret zd_19 rfl rfl (hF hs)
set_option maxRecDepth 100000 in
set_option maxHeartbeats 400000 in
theorem f_Course_putInto_37_k4_t {x : zm_X} {d : Nat} (h : zm_H) (o2 : Option Value) {Q : Option Value → zm_H → Prop} (hs : zSh zT0 h) (ho : f_Course_putInto_37_k4_ok h) (hF : (zSh zT0 (f_Course_putInto_37_k4 h) → Q none (f_Course_putInto_37_k4 h))) : zg x (d + 3) 19 4 [some (.ref 37), some (.ref 32), o2] [] h Q := by
  unfold f_Course_putInto_37_k4 at hF
  unfold f_Course_putInto_37_k4_ok at ho
  refine zg_blk zd_19 2 hs (rfl : zb x zT0 zc_19 2 (4, [some (.ref 37), some (.ref 32), o2], [], h) = some (6, [some (.ref 37), some (.ref 32), some (.int 0)], [], h)) (fun hs => ?_)
  refine f_Course_putInto_37_l6_t  (fun r => f_Course_putInto_37_a6_ok r ∧ (zSh zT0 (f_Course_putInto_37_a6 r) → Q none (f_Course_putInto_37_a6 r))) ?_ zF 0 h hs ho.1 ⟨ho.2, hF⟩
  · intro v2_ h_ o2_ hs hG
    have ho : True := trivial
    have hF : (zSh zT0 ((f_Course_putInto_37_k44 h_)) → Q none ((f_Course_putInto_37_k44 h_))) := hG.2
    exact f_Course_putInto_37_k44_t h_ (some (.ref 37)) (some (.ref 32)) (o2_) hs trivial hF
set_option maxRecDepth 100000 in
set_option maxHeartbeats 400000 in
theorem f_Course_putInto_37_t {x : zm_X} {d : Nat} (h : zm_H) {Q : Option Value → zm_H → Prop} (hs : zSh zT0 h) (ho : f_Course_putInto_37_ok h) (hF : (zSh zT0 (f_Course_putInto_37 h) → Q none (f_Course_putInto_37 h))) : zg x (d + 3) 19 0 [some (.ref 37), some (.ref 32), none] [] h Q := by
  unfold f_Course_putInto_37 at hF
  unfold f_Course_putInto_37_ok at ho
  refine zg_blk zd_19 1 hs (rfl : zb x zT0 zc_19 1 (0, [some (.ref 37), some (.ref 32), none], [], h) = some (1, [some (.ref 37), some (.ref 32), none], [.ref 32], h)) (fun hs => ?_)
  obtain ⟨hob, ho⟩ := ho
  refine zg_call hs zd_19 rfl rfl rfl rfl (as := [.ref 32]) (rest := []) (en := [some (.ref 32)]) rfl rfl rfl rfl rfl ?_
  refine f_Waves_takeAllOut_t  h hs hob (fun hs => ?_)
  show zg x (d + 3) 19 4 [some (.ref 37), some (.ref 32), none] [] (f_Waves_takeAllOut h) Q
  exact f_Course_putInto_37_k4_t (f_Waves_takeAllOut h) (none) hs ho hF
theorem zd_113 : zm_cd 113 = zc_113 := by rfl
theorem zd_114 : zm_cd 114 = zc_114 := by rfl
set_option maxRecDepth 100000 in
set_option maxHeartbeats 400000 in
theorem f_Waves_openSea_t {x : zm_X} {d : Nat} (p0 : Int32) (h : zm_H) {Q : Option Value → zm_H → Prop} (hs : zSh zT0 h) (ho : f_Waves_openSea_ok p0 h) (hF : Q (some (.int (f_Waves_openSea p0 h))) h) : zg x (d + 2) 114 0 [some (.int p0)] [] h Q := by
  unfold f_Waves_openSea at hF
  unfold f_Waves_openSea_ok at ho
  refine zg_blk zd_114 1 hs (rfl : zb x zT0 zc_114 1 (0, [some (.int p0)], [], h) = some (1, [some (.int p0)], [.int p0], h)) (fun hs => ?_)
  refine zg_call hs zd_114 rfl rfl rfl rfl (as := [.int p0]) (rest := []) (en := [some (.int p0)]) rfl rfl rfl rfl rfl ?_
  refine f_N_heightOf_t p0 h hs trivial ?_
  show zg x (d + 2) 114 4 [some (.int p0)] [.int (p0 / 1000)] h Q
  refine zg_blk zd_114 1 hs (rfl : zb x zT0 zc_114 1 (4, [some (.int p0)], [.int (p0 / 1000)], h) = some (5, [some (.int p0)], [.int p0, .int (p0 / 1000)], h)) (fun hs => ?_)
  refine zg_call hs zd_114 rfl rfl rfl rfl (as := [.int p0]) (rest := [.int (p0 / 1000)]) (en := [some (.int p0)]) rfl rfl rfl rfl rfl ?_
  refine f_N_heightOf_t p0 h hs trivial ?_
  show zg x (d + 2) 114 8 [some (.int p0)] [.int (p0 / 1000), .int (p0 / 1000)] h Q
  refine zg_blk zd_114 2 hs (rfl : zb x zT0 zc_114 2 (8, [some (.int p0)], [.int (p0 / 1000), .int (p0 / 1000)], h) = some (10, [some (.int p0)], [.int p0, .int ((p0 / 1000) * (p0 / 1000))], h)) (fun hs => ?_)
  refine zg_call hs zd_114 rfl rfl rfl rfl (as := [.int p0]) (rest := [.int ((p0 / 1000) * (p0 / 1000))]) (en := [some (.int p0)]) rfl rfl rfl rfl rfl ?_
  refine f_N_periodOf_t p0 h hs trivial ?_
  show zg x (d + 2) 114 13 [some (.int p0)] [.int ((zm_rm p0 1000) / 10), .int ((p0 / 1000) * (p0 / 1000))] h Q
  refine zg_blk zd_114 1 hs (rfl : zb x zT0 zc_114 1 (13, [some (.int p0)], [.int ((zm_rm p0 1000) / 10), .int ((p0 / 1000) * (p0 / 1000))], h) = some (14, [some (.int p0)], [.int (((p0 / 1000) * (p0 / 1000)) * ((zm_rm p0 1000) / 10))], h)) (fun hs => ?_)
  exact zg_ret zd_114 rfl rfl hF
set_option maxRecDepth 100000 in
set_option maxHeartbeats 400000 in
theorem f_Arrays_fill_34_l5_b_t {x : zm_X} {d : Nat} (v1 : Int32) (v2 : Int32) (v3 : Int32) (h : zm_H) {Q : Option Value → zm_H → Prop} {FN : Nat × Int32 × zm_H → Prop} (hs : zSh zT0 h) (ho : f_Arrays_fill_34_l5_b_ok v1 v2 v3 h) (hF : FN (f_Arrays_fill_34_l5_b v1 v2 v3 h)) (hl0 : ∀ (v2 : Int32) (h : zm_H), zSh zT0 h → FN (0, v2, h) → zg x (d + 1) 265 5 [some (.ref 34), some (.int v1), some (.int v2), some (.int v3)] [] h Q) (hl1 : ∀ (v2 : Int32) (h : zm_H) (o2 : Option Value), zSh zT0 h → FN (1, v2, h) → zg x (d + 1) 265 20 [some (.ref 34), some (.int v1), o2, some (.int v3)] [] h Q) : zg x (d + 1) 265 5 [some (.ref 34), some (.int v1), some (.int v2), some (.int v3)] [] h Q := by
  unfold f_Arrays_fill_34_l5_b at hF
  unfold f_Arrays_fill_34_l5_b_ok at ho
  refine zg_blk zd_265 2 hs (rfl : zb x zT0 zc_265 2 (5, [some (.ref 34), some (.int v1), some (.int v2), some (.int v3)], [], h) = some (7, [some (.ref 34), some (.int v1), some (.int v2), some (.int v3)], [.int v3, .int v2], h)) (fun hs => ?_)
  refine zg_i_ge zd_265 rfl (fun (hc : (v3 ≤ v2)) => ?_) (fun (hc : ¬ (v3 ≤ v2)) => ?_)
  · have ho := ho.1 hc
    rw [if_pos hc] at hF
    exact hl1 v2 h (some (.int v2)) hs hF
  · have ho := ho.2 hc
    rw [if_neg hc] at hF
    refine zg_blk zd_265 3 hs (rfl : zb x zT0 zc_265 3 (10, [some (.ref 34), some (.int v1), some (.int v2), some (.int v3)], [], h) = some (13, [some (.ref 34), some (.int v1), some (.int v2), some (.int v3)], [.int v1, .int v2, .ref 34], h)) (fun hs => ?_)
    have hob := ho
    refine zg_ias hs zd_265 rfl rfl hob (fun hs => ?_)
    refine zg_blk zd_265 2 hs (rfl : zb x zT0 zc_265 2 (14, [some (.ref 34), some (.int v1), some (.int v2), some (.int v3)], [], (zs h 34 v2 v1)) = some (5, [some (.ref 34), some (.int v1), some (.int (v2 + 1)), some (.int v3)], [], (zs h 34 v2 v1))) (fun hs => ?_)
    exact hl0 (v2 + 1) (zs h 34 v2 v1) hs hF
theorem f_Arrays_fill_34_l5_t {x : zm_X} {d : Nat} (v1 : Int32) (v3 : Int32) {Q : Option Value → zm_H → Prop} (G : Nat × Int32 × zm_H → Prop) (hx1 : ∀ (v2 : Int32) (h : zm_H) (o2 : Option Value), zSh zT0 h → G (1, v2, h) → zg x (d + 1) 265 20 [some (.ref 34), some (.int v1), o2, some (.int v3)] [] h Q) : ∀ (n : Nat) (v2 : Int32) (h : zm_H), zSh zT0 h → f_Arrays_fill_34_l5_ok v1 v3 n (v2, h) → G (f_Arrays_fill_34_l5 v1 v3 n (v2, h)) → zg x (d + 1) 265 5 [some (.ref 34), some (.int v1), some (.int v2), some (.int v3)] [] h Q := by
  intro n
  induction n with
  | zero => intro v2 h hs ho hG; exact ho.elim
  | succ n ih =>
    intro v2 h hs ho hG
    refine f_Arrays_fill_34_l5_b_t (FN := fun r => (r.1 = 0 → f_Arrays_fill_34_l5_ok v1 v3 n r.2) ∧ G (if r.1 = 0 then f_Arrays_fill_34_l5 v1 v3 n r.2 else r)) v1 v2 v3 h hs ho.1 ⟨ho.2, hG⟩ ?_ ?_
    · intro v2 h hs hF
      exact ih v2 h hs (hF.1 rfl) hF.2
    · intro v2 h o2 hs hF
      exact hx1 v2 h o2 hs hF.2

set_option maxRecDepth 100000 in
set_option maxHeartbeats 400000 in
theorem f_Arrays_fill_34_k20_t {x : zm_X} {d : Nat} (h : zm_H) (o0 : Option Value) (z1 : Int32) (o2 : Option Value) (o3 : Option Value) {Q : Option Value → zm_H → Prop} (hs : zSh zT0 h) (ho : f_Arrays_fill_34_k20_ok h) (hF : (zSh zT0 (f_Arrays_fill_34_k20 h) → Q none (f_Arrays_fill_34_k20 h))) : zg x (d + 1) 265 20 [o0, some (.int z1), o2, o3] [] h Q := by
  unfold f_Arrays_fill_34_k20 at hF
  unfold f_Arrays_fill_34_k20_ok at ho
  exact zg_ret zd_265 rfl rfl (hF hs)
set_option maxRecDepth 100000 in
set_option maxHeartbeats 400000 in
theorem f_Arrays_fill_34_t {x : zm_X} {d : Nat} (p1 : Int32) (h : zm_H) {Q : Option Value → zm_H → Prop} (hs : zSh zT0 h) (ho : f_Arrays_fill_34_ok p1 h) (hF : (zSh zT0 (f_Arrays_fill_34 p1 h) → Q none (f_Arrays_fill_34 p1 h))) : zg x (d + 1) 265 0 [some (.ref 34), some (.int p1), none, none] [] h Q := by
  unfold f_Arrays_fill_34 at hF
  unfold f_Arrays_fill_34_ok at ho
  refine zg_blk zd_265 5 hs (rfl : zb x zT0 zc_265 5 (0, [some (.ref 34), some (.int p1), none, none], [], h) = some (5, [some (.ref 34), some (.int p1), some (.int 0), some (.int (Int32.ofNat 10))], [], h)) (fun hs => ?_)
  refine f_Arrays_fill_34_l5_t p1 (Int32.ofNat 10) (fun r => f_Arrays_fill_34_a5_ok r ∧ (zSh zT0 (f_Arrays_fill_34_a5 r) → Q none (f_Arrays_fill_34_a5 r))) ?_ zF 0 h hs ho.1 ⟨ho.2, hF⟩
  · intro v2_ h_ o2_ hs hG
    have ho : True := trivial
    have hF : (zSh zT0 ((f_Arrays_fill_34_k20 h_)) → Q none ((f_Arrays_fill_34_k20 h_))) := hG.2
    exact f_Arrays_fill_34_k20_t h_ (some (.ref 34)) p1 (o2_) (some (.int (Int32.ofNat 10))) hs trivial hF
set_option maxRecDepth 100000 in
set_option maxHeartbeats 400000 in
theorem f_Arrays_fill_35_l5_b_t {x : zm_X} {d : Nat} (v1 : Int32) (v2 : Int32) (v3 : Int32) (h : zm_H) {Q : Option Value → zm_H → Prop} {FN : Nat × Int32 × zm_H → Prop} (hs : zSh zT0 h) (ho : f_Arrays_fill_35_l5_b_ok v1 v2 v3 h) (hF : FN (f_Arrays_fill_35_l5_b v1 v2 v3 h)) (hl0 : ∀ (v2 : Int32) (h : zm_H), zSh zT0 h → FN (0, v2, h) → zg x (d + 1) 265 5 [some (.ref 35), some (.int v1), some (.int v2), some (.int v3)] [] h Q) (hl1 : ∀ (v2 : Int32) (h : zm_H) (o2 : Option Value), zSh zT0 h → FN (1, v2, h) → zg x (d + 1) 265 20 [some (.ref 35), some (.int v1), o2, some (.int v3)] [] h Q) : zg x (d + 1) 265 5 [some (.ref 35), some (.int v1), some (.int v2), some (.int v3)] [] h Q := by
  unfold f_Arrays_fill_35_l5_b at hF
  unfold f_Arrays_fill_35_l5_b_ok at ho
  refine zg_blk zd_265 2 hs (rfl : zb x zT0 zc_265 2 (5, [some (.ref 35), some (.int v1), some (.int v2), some (.int v3)], [], h) = some (7, [some (.ref 35), some (.int v1), some (.int v2), some (.int v3)], [.int v3, .int v2], h)) (fun hs => ?_)
  refine zg_i_ge zd_265 rfl (fun (hc : (v3 ≤ v2)) => ?_) (fun (hc : ¬ (v3 ≤ v2)) => ?_)
  · have ho := ho.1 hc
    rw [if_pos hc] at hF
    exact hl1 v2 h (some (.int v2)) hs hF
  · have ho := ho.2 hc
    rw [if_neg hc] at hF
    refine zg_blk zd_265 3 hs (rfl : zb x zT0 zc_265 3 (10, [some (.ref 35), some (.int v1), some (.int v2), some (.int v3)], [], h) = some (13, [some (.ref 35), some (.int v1), some (.int v2), some (.int v3)], [.int v1, .int v2, .ref 35], h)) (fun hs => ?_)
    have hob := ho
    refine zg_ias hs zd_265 rfl rfl hob (fun hs => ?_)
    refine zg_blk zd_265 2 hs (rfl : zb x zT0 zc_265 2 (14, [some (.ref 35), some (.int v1), some (.int v2), some (.int v3)], [], (zs h 35 v2 v1)) = some (5, [some (.ref 35), some (.int v1), some (.int (v2 + 1)), some (.int v3)], [], (zs h 35 v2 v1))) (fun hs => ?_)
    exact hl0 (v2 + 1) (zs h 35 v2 v1) hs hF
theorem f_Arrays_fill_35_l5_t {x : zm_X} {d : Nat} (v1 : Int32) (v3 : Int32) {Q : Option Value → zm_H → Prop} (G : Nat × Int32 × zm_H → Prop) (hx1 : ∀ (v2 : Int32) (h : zm_H) (o2 : Option Value), zSh zT0 h → G (1, v2, h) → zg x (d + 1) 265 20 [some (.ref 35), some (.int v1), o2, some (.int v3)] [] h Q) : ∀ (n : Nat) (v2 : Int32) (h : zm_H), zSh zT0 h → f_Arrays_fill_35_l5_ok v1 v3 n (v2, h) → G (f_Arrays_fill_35_l5 v1 v3 n (v2, h)) → zg x (d + 1) 265 5 [some (.ref 35), some (.int v1), some (.int v2), some (.int v3)] [] h Q := by
  intro n
  induction n with
  | zero => intro v2 h hs ho hG; exact ho.elim
  | succ n ih =>
    intro v2 h hs ho hG
    refine f_Arrays_fill_35_l5_b_t (FN := fun r => (r.1 = 0 → f_Arrays_fill_35_l5_ok v1 v3 n r.2) ∧ G (if r.1 = 0 then f_Arrays_fill_35_l5 v1 v3 n r.2 else r)) v1 v2 v3 h hs ho.1 ⟨ho.2, hG⟩ ?_ ?_
    · intro v2 h hs hF
      exact ih v2 h hs (hF.1 rfl) hF.2
    · intro v2 h o2 hs hF
      exact hx1 v2 h o2 hs hF.2

set_option maxRecDepth 100000 in
set_option maxHeartbeats 400000 in
theorem f_Arrays_fill_35_k20_t {x : zm_X} {d : Nat} (h : zm_H) (o0 : Option Value) (z1 : Int32) (o2 : Option Value) (o3 : Option Value) {Q : Option Value → zm_H → Prop} (hs : zSh zT0 h) (ho : f_Arrays_fill_35_k20_ok h) (hF : (zSh zT0 (f_Arrays_fill_35_k20 h) → Q none (f_Arrays_fill_35_k20 h))) : zg x (d + 1) 265 20 [o0, some (.int z1), o2, o3] [] h Q := by
  unfold f_Arrays_fill_35_k20 at hF
  unfold f_Arrays_fill_35_k20_ok at ho
  exact zg_ret zd_265 rfl rfl (hF hs)
set_option maxRecDepth 100000 in
set_option maxHeartbeats 400000 in
theorem f_Arrays_fill_35_t {x : zm_X} {d : Nat} (p1 : Int32) (h : zm_H) {Q : Option Value → zm_H → Prop} (hs : zSh zT0 h) (ho : f_Arrays_fill_35_ok p1 h) (hF : (zSh zT0 (f_Arrays_fill_35 p1 h) → Q none (f_Arrays_fill_35 p1 h))) : zg x (d + 1) 265 0 [some (.ref 35), some (.int p1), none, none] [] h Q := by
  unfold f_Arrays_fill_35 at hF
  unfold f_Arrays_fill_35_ok at ho
  refine zg_blk zd_265 5 hs (rfl : zb x zT0 zc_265 5 (0, [some (.ref 35), some (.int p1), none, none], [], h) = some (5, [some (.ref 35), some (.int p1), some (.int 0), some (.int (Int32.ofNat 10))], [], h)) (fun hs => ?_)
  refine f_Arrays_fill_35_l5_t p1 (Int32.ofNat 10) (fun r => f_Arrays_fill_35_a5_ok r ∧ (zSh zT0 (f_Arrays_fill_35_a5 r) → Q none (f_Arrays_fill_35_a5 r))) ?_ zF 0 h hs ho.1 ⟨ho.2, hF⟩
  · intro v2_ h_ o2_ hs hG
    have ho : True := trivial
    have hF : (zSh zT0 ((f_Arrays_fill_35_k20 h_)) → Q none ((f_Arrays_fill_35_k20 h_))) := hG.2
    exact f_Arrays_fill_35_k20_t h_ (some (.ref 35)) p1 (o2_) (some (.int (Int32.ofNat 10))) hs trivial hF
set_option maxRecDepth 100000 in
set_option maxHeartbeats 400000 in
theorem f_Waves_run_l44_k82_t {x : zm_X} {d : Nat} (v1 : Int32) (v2 : Int32) (v4 : Int32) (h : zm_H) (o5 : Option Value) {Q : Option Value → zm_H → Prop} {FN : Nat × Int32 × zm_H → Prop} (hs : zSh zT0 h) (ho : f_Waves_run_l44_k82_ok v1 v2 v4 h) (hF : FN (f_Waves_run_l44_k82 v1 v2 v4 h)) (hl0 : ∀ (v4 : Int32) (h : zm_H) (o5 : Option Value), zSh zT0 h → FN (0, v4, h) → zg x (d + 3) 113 44 [some (.ref 32), some (.int v1), some (.int v2), some (.int 0), some (.int v4), o5] [] h Q) (hl1 : ∀ (v4 : Int32) (h : zm_H) (o4 : Option Value) (o5 : Option Value), zSh zT0 h → FN (1, v4, h) → zg x (d + 3) 113 88 [some (.ref 32), some (.int v1), some (.int v2), some (.int 0), o4, o5] [] h Q) : zg x (d + 3) 113 82 [some (.ref 32), some (.int v1), some (.int v2), some (.int 0), some (.int v4), o5] [] h Q := by
  unfold f_Waves_run_l44_k82 at hF
  unfold f_Waves_run_l44_k82_ok at ho
  refine zg_blk zd_113 2 hs (rfl : zb x zT0 zc_113 2 (82, [some (.ref 32), some (.int v1), some (.int v2), some (.int 0), some (.int v4), o5], [], h) = some (44, [some (.ref 32), some (.int v1), some (.int v2), some (.int 0), some (.int (v4 + 1)), o5], [], h)) (fun hs => ?_)
  exact hl0 (v4 + 1) h (o5) hs hF
theorem zd_116 : zm_cd 116 = zc_116 := by rfl
set_option maxRecDepth 100000 in
set_option maxHeartbeats 400000 in
theorem f_Waves_take_k26_t {x : zm_X} {d : Nat} (v1 : Int32) (v2 : Int32) (v4 : Int32) (h : zm_H) (z3 : Int32) (o5 : Option Value) {Q : Option Value → zm_H → Prop} (hs : zSh zT0 h) (ho : f_Waves_take_k26_ok v1 v2 v4 h) (hF : (zSh zT0 (f_Waves_take_k26 v1 v2 v4 h) → Q none (f_Waves_take_k26 v1 v2 v4 h))) : zg x (d + 1) 116 26 [some (.ref 32), some (.int v1), some (.int v2), some (.int z3), some (.int v4), o5] [] h Q := by
  unfold f_Waves_take_k26 at hF
  unfold f_Waves_take_k26_ok at ho
  refine zg_blk zd_116 3 hs (rfl : zb x zT0 zc_116 3 (26, [some (.ref 32), some (.int v1), some (.int v2), some (.int z3), some (.int v4), o5], [], h) = some (31, [some (.ref 32), some (.int v1), some (.int v2), some (.int z3), some (.int v4), o5], [.int v2, .ref 35], h)) (fun hs => ?_)
  obtain ⟨hob, ho⟩ := ho
  refine zg_ial hs zd_116 rfl rfl hob ?_
  refine zg_blk zd_116 13 hs (rfl : zb x zT0 zc_116 13 (32, [some (.ref 32), some (.int v1), some (.int v2), some (.int z3), some (.int v4), o5], [.int (zr h 35 v2)], h) = some (55, [some (.ref 32), some (.int v1), some (.int v2), some (.int z3), some (.int v4), some (.int (((zr h 35 v2) * v4) / 100))], [.int v1, .ref 24, .int (((zr h 35 v2) * v4) / 100), .int v1, .ref 34], h)) (fun hs => ?_)
  obtain ⟨hob, ho⟩ := ho
  refine zg_ial hs zd_116 rfl rfl hob ?_
  refine zg_blk zd_116 5 hs (rfl : zb x zT0 zc_116 5 (56, [some (.ref 32), some (.int v1), some (.int v2), some (.int z3), some (.int v4), some (.int (((zr h 35 v2) * v4) / 100))], [.int (zr h 24 v1), .int (((zr h 35 v2) * v4) / 100), .int v1, .ref 34], h) = some (65, [some (.ref 32), some (.int v1), some (.int v2), some (.int z3), some (.int v4), some (.int (((zr h 35 v2) * v4) / 100))], [.int v1, .ref 24, .int ((((zr h 35 v2) * v4) / 100) * (zr h 24 v1)), .int v1, .ref 34], h)) (fun hs => ?_)
  obtain ⟨hob, ho⟩ := ho
  refine zg_ial hs zd_116 rfl rfl hob ?_
  refine zg_blk zd_116 2 hs (rfl : zb x zT0 zc_116 2 (66, [some (.ref 32), some (.int v1), some (.int v2), some (.int z3), some (.int v4), some (.int (((zr h 35 v2) * v4) / 100))], [.int (zr h 24 v1), .int ((((zr h 35 v2) * v4) / 100) * (zr h 24 v1)), .int v1, .ref 34], h) = some (69, [some (.ref 32), some (.int v1), some (.int v2), some (.int z3), some (.int v4), some (.int (((zr h 35 v2) * v4) / 100))], [.int ((zr h 24 v1) + 20), .int ((((zr h 35 v2) * v4) / 100) * (zr h 24 v1)), .int v1, .ref 34], h)) (fun hs => ?_)
  obtain ⟨hob, ho⟩ := ho
  refine zg_div zd_116 rfl hob ?_
  obtain ⟨hob, ho⟩ := ho
  refine zg_ias hs zd_116 rfl rfl hob (fun hs => ?_)
  refine zg_blk zd_116 4 hs (rfl : zb x zT0 zc_116 4 (71, [some (.ref 32), some (.int v1), some (.int v2), some (.int z3), some (.int v4), some (.int (((zr h 35 v2) * v4) / 100))], [], (zs h 34 v1 (((((zr h 35 v2) * v4) / 100) * (zr h 24 v1)) / ((zr h 24 v1) + 20)))) = some (77, [some (.ref 32), some (.int v1), some (.int v2), some (.int z3), some (.int v4), some (.int (((zr h 35 v2) * v4) / 100))], [.int v2, .ref 35, .int v2, .ref 35], (zs h 34 v1 (((((zr h 35 v2) * v4) / 100) * (zr h 24 v1)) / ((zr h 24 v1) + 20))))) (fun hs => ?_)
  obtain ⟨hob, ho⟩ := ho
  refine zg_ial hs zd_116 rfl rfl hob ?_
  refine zg_blk zd_116 3 hs (rfl : zb x zT0 zc_116 3 (78, [some (.ref 32), some (.int v1), some (.int v2), some (.int z3), some (.int v4), some (.int (((zr h 35 v2) * v4) / 100))], [.int (zr h 35 v2), .int v2, .ref 35], (zs h 34 v1 (((((zr h 35 v2) * v4) / 100) * (zr h 24 v1)) / ((zr h 24 v1) + 20)))) = some (83, [some (.ref 32), some (.int v1), some (.int v2), some (.int z3), some (.int v4), some (.int (((zr h 35 v2) * v4) / 100))], [.int v1, .ref 34, .int (zr h 35 v2), .int v2, .ref 35], (zs h 34 v1 (((((zr h 35 v2) * v4) / 100) * (zr h 24 v1)) / ((zr h 24 v1) + 20))))) (fun hs => ?_)
  obtain ⟨hob, ho⟩ := ho
  refine zg_ial hs zd_116 rfl rfl hob ?_
  refine zg_blk zd_116 1 hs (rfl : zb x zT0 zc_116 1 (84, [some (.ref 32), some (.int v1), some (.int v2), some (.int z3), some (.int v4), some (.int (((zr h 35 v2) * v4) / 100))], [.int (zr (zs h 34 v1 (((((zr h 35 v2) * v4) / 100) * (zr h 24 v1)) / ((zr h 24 v1) + 20))) 34 v1), .int (zr h 35 v2), .int v2, .ref 35], (zs h 34 v1 (((((zr h 35 v2) * v4) / 100) * (zr h 24 v1)) / ((zr h 24 v1) + 20)))) = some (85, [some (.ref 32), some (.int v1), some (.int v2), some (.int z3), some (.int v4), some (.int (((zr h 35 v2) * v4) / 100))], [.int ((zr h 35 v2) - (zr (zs h 34 v1 (((((zr h 35 v2) * v4) / 100) * (zr h 24 v1)) / ((zr h 24 v1) + 20))) 34 v1)), .int v2, .ref 35], (zs h 34 v1 (((((zr h 35 v2) * v4) / 100) * (zr h 24 v1)) / ((zr h 24 v1) + 20))))) (fun hs => ?_)
  have hob := ho
  refine zg_ias hs zd_116 rfl rfl hob (fun hs => ?_)
  exact zg_ret zd_116 rfl rfl (hF hs)
set_option maxRecDepth 100000 in
set_option maxHeartbeats 400000 in
theorem f_Waves_take_t {x : zm_X} {d : Nat} (p1 : Int32) (p2 : Int32) (p3 : Int32) (h : zm_H) {Q : Option Value → zm_H → Prop} (hs : zSh zT0 h) (ho : f_Waves_take_ok p1 p2 p3 h) (hF : (zSh zT0 (f_Waves_take p1 p2 p3 h) → Q none (f_Waves_take p1 p2 p3 h))) : zg x (d + 1) 116 0 [some (.ref 32), some (.int p1), some (.int p2), some (.int p3), none, none] [] h Q := by
  unfold f_Waves_take at hF
  unfold f_Waves_take_ok at ho
  refine zg_blk zd_116 8 hs (rfl : zb x zT0 zc_116 8 (0, [some (.ref 32), some (.int p1), some (.int p2), some (.int p3), none, none], [], h) = some (14, [some (.ref 32), some (.int p1), some (.int p2), some (.int p3), none, none], [.int p1, .ref 25, .int p3, .int 15, .int 100, .int 0], h)) (fun hs => ?_)
  obtain ⟨hob, ho⟩ := ho
  refine zg_ial hs zd_116 rfl rfl hob ?_
  refine zg_blk zd_116 1 hs (rfl : zb x zT0 zc_116 1 (15, [some (.ref 32), some (.int p1), some (.int p2), some (.int p3), none, none], [.int (zr h 25 p1), .int p3, .int 15, .int 100, .int 0], h) = some (16, [some (.ref 32), some (.int p1), some (.int p2), some (.int p3), none, none], [.int (p3 - (zr h 25 p1)), .int 15, .int 100, .int 0], h)) (fun hs => ?_)
  refine zg_x zd_116 rfl rfl rfl rfl (as := [.int (p3 - (zr h 25 p1))]) (rest := [.int 15, .int 100, .int 0]) (w := some (.int (if 0 ≤ (p3 - (zr h 25 p1)) then (p3 - (zr h 25 p1)) else 0 - (p3 - (zr h 25 p1))))) rfl rfl rfl ?_
  refine zg_blk zd_116 2 hs (rfl : zb x zT0 zc_116 2 (19, [some (.ref 32), some (.int p1), some (.int p2), some (.int p3), none, none], [.int (if 0 ≤ (p3 - (zr h 25 p1)) then (p3 - (zr h 25 p1)) else 0 - (p3 - (zr h 25 p1))), .int 15, .int 100, .int 0], h) = some (21, [some (.ref 32), some (.int p1), some (.int p2), some (.int p3), none, none], [.int (100 - (15 * (if 0 ≤ (p3 - (zr h 25 p1)) then (p3 - (zr h 25 p1)) else 0 - (p3 - (zr h 25 p1))))), .int 0], h)) (fun hs => ?_)
  refine zg_x zd_116 rfl rfl rfl rfl (as := [.int 0, .int (100 - (15 * (if 0 ≤ (p3 - (zr h 25 p1)) then (p3 - (zr h 25 p1)) else 0 - (p3 - (zr h 25 p1)))))]) (rest := []) (w := some (.int (if 0 < (100 - (15 * (if 0 ≤ (p3 - (zr h 25 p1)) then (p3 - (zr h 25 p1)) else 0 - (p3 - (zr h 25 p1))))) then (100 - (15 * (if 0 ≤ (p3 - (zr h 25 p1)) then (p3 - (zr h 25 p1)) else 0 - (p3 - (zr h 25 p1))))) else 0))) rfl rfl rfl ?_
  refine zg_blk zd_116 1 hs (rfl : zb x zT0 zc_116 1 (24, [some (.ref 32), some (.int p1), some (.int p2), some (.int p3), none, none], [.int (if 0 < (100 - (15 * (if 0 ≤ (p3 - (zr h 25 p1)) then (p3 - (zr h 25 p1)) else 0 - (p3 - (zr h 25 p1))))) then (100 - (15 * (if 0 ≤ (p3 - (zr h 25 p1)) then (p3 - (zr h 25 p1)) else 0 - (p3 - (zr h 25 p1))))) else 0)], h) = some (26, [some (.ref 32), some (.int p1), some (.int p2), some (.int p3), some (.int (if 0 < (100 - (15 * (if 0 ≤ (p3 - (zr h 25 p1)) then (p3 - (zr h 25 p1)) else 0 - (p3 - (zr h 25 p1))))) then (100 - (15 * (if 0 ≤ (p3 - (zr h 25 p1)) then (p3 - (zr h 25 p1)) else 0 - (p3 - (zr h 25 p1))))) else 0)), none], [], h)) (fun hs => ?_)
  exact f_Waves_take_k26_t p1 p2 (if 0 < (100 - (15 * (if 0 ≤ (p3 - (zr h 25 p1)) then (p3 - (zr h 25 p1)) else 0 - (p3 - (zr h 25 p1))))) then (100 - (15 * (if 0 ≤ (p3 - (zr h 25 p1)) then (p3 - (zr h 25 p1)) else 0 - (p3 - (zr h 25 p1))))) else 0) h p3 (none) hs ho hF
set_option maxRecDepth 100000 in
set_option maxHeartbeats 400000 in
theorem f_Waves_run_l44_b_t {x : zm_X} {d : Nat} (v1 : Int32) (v2 : Int32) (v4 : Int32) (h : zm_H) (o5 : Option Value) {Q : Option Value → zm_H → Prop} {FN : Nat × Int32 × zm_H → Prop} (hs : zSh zT0 h) (ho : f_Waves_run_l44_b_ok v1 v2 v4 h) (hF : FN (f_Waves_run_l44_b v1 v2 v4 h)) (hl0 : ∀ (v4 : Int32) (h : zm_H) (o5 : Option Value), zSh zT0 h → FN (0, v4, h) → zg x (d + 3) 113 44 [some (.ref 32), some (.int v1), some (.int v2), some (.int 0), some (.int v4), o5] [] h Q) (hl1 : ∀ (v4 : Int32) (h : zm_H) (o4 : Option Value) (o5 : Option Value), zSh zT0 h → FN (1, v4, h) → zg x (d + 3) 113 88 [some (.ref 32), some (.int v1), some (.int v2), some (.int 0), o4, o5] [] h Q) : zg x (d + 3) 113 44 [some (.ref 32), some (.int v1), some (.int v2), some (.int 0), some (.int v4), o5] [] h Q := by
  unfold f_Waves_run_l44_b at hF
  unfold f_Waves_run_l44_b_ok at ho
  refine zg_blk zd_113 2 hs (rfl : zb x zT0 zc_113 2 (44, [some (.ref 32), some (.int v1), some (.int v2), some (.int 0), some (.int v4), o5], [], h) = some (48, [some (.ref 32), some (.int v1), some (.int v2), some (.int 0), some (.int v4), o5], [.int 10, .int v4], h)) (fun hs => ?_)
  refine zg_i_ge zd_113 rfl (fun (hc : (10 ≤ v4)) => ?_) (fun (hc : ¬ (10 ≤ v4)) => ?_)
  · have ho := ho.1 hc
    rw [if_pos hc] at hF
    exact hl1 v4 h (some (.int v4)) (o5) hs hF
  · have ho := ho.2 hc
    rw [if_neg hc] at hF
    refine zg_blk zd_113 7 hs (rfl : zb x zT0 zc_113 7 (51, [some (.ref 32), some (.int v1), some (.int v2), some (.int 0), some (.int v4), o5], [], h) = some (62, [some (.ref 32), some (.int v1), some (.int v2), some (.int 0), some (.int v4), o5], [.int ((v4 * 10) + 0), .ref 33], h)) (fun hs => ?_)
    obtain ⟨hob, ho⟩ := ho
    refine zg_ial hs zd_113 rfl rfl hob ?_
    refine zg_blk zd_113 2 hs (rfl : zb x zT0 zc_113 2 (63, [some (.ref 32), some (.int v1), some (.int v2), some (.int 0), some (.int v4), o5], [.int (zr h 33 ((v4 * 10) + 0))], h) = some (67, [some (.ref 32), some (.int v1), some (.int v2), some (.int 0), some (.int v4), some (.int (zr h 33 ((v4 * 10) + 0)))], [.int (zr h 33 ((v4 * 10) + 0))], h)) (fun hs => ?_)
    refine zg_f_lt zd_113 rfl (fun (hc : ((zr h 33 ((v4 * 10) + 0)) < 0)) => ?_) (fun (hc : ¬ ((zr h 33 ((v4 * 10) + 0)) < 0)) => ?_)
    · have ho := ho.1 hc
      rw [if_pos hc] at hF
      exact f_Waves_run_l44_k82_t v1 v2 v4 h (some (.int (zr h 33 ((v4 * 10) + 0)))) hs trivial hF hl0 hl1
    · have ho := ho.2 hc
      rw [if_neg hc] at hF
      refine zg_blk zd_113 4 hs (rfl : zb x zT0 zc_113 4 (70, [some (.ref 32), some (.int v1), some (.int v2), some (.int 0), some (.int v4), some (.int (zr h 33 ((v4 * 10) + 0)))], [], h) = some (76, [some (.ref 32), some (.int v1), some (.int v2), some (.int 0), some (.int v4), some (.int (zr h 33 ((v4 * 10) + 0)))], [.int v1, .int v4, .int (zr h 33 ((v4 * 10) + 0)), .ref 32], h)) (fun hs => ?_)
      refine zg_call hs zd_113 rfl rfl rfl rfl (as := [.int v1]) (rest := [.int v4, .int (zr h 33 ((v4 * 10) + 0)), .ref 32]) (en := [some (.int v1)]) rfl rfl rfl rfl rfl ?_
      refine f_N_periodOf_t v1 h hs trivial ?_
      show zg x (d + 3) 113 79 [some (.ref 32), some (.int v1), some (.int v2), some (.int 0), some (.int v4), some (.int (zr h 33 ((v4 * 10) + 0)))] [.int ((zm_rm v1 1000) / 10), .int v4, .int (zr h 33 ((v4 * 10) + 0)), .ref 32] h Q
      have hob := ho
      refine zg_call hs zd_113 rfl rfl rfl rfl (as := [.ref 32, .int (zr h 33 ((v4 * 10) + 0)), .int v4, .int ((zm_rm v1 1000) / 10)]) (rest := []) (en := [some (.ref 32), some (.int (zr h 33 ((v4 * 10) + 0))), some (.int v4), some (.int ((zm_rm v1 1000) / 10)), none, none]) rfl rfl rfl rfl rfl ?_
      refine f_Waves_take_t (zr h 33 ((v4 * 10) + 0)) v4 ((zm_rm v1 1000) / 10) h hs hob (fun hs => ?_)
      show zg x (d + 3) 113 82 [some (.ref 32), some (.int v1), some (.int v2), some (.int 0), some (.int v4), some (.int (zr h 33 ((v4 * 10) + 0)))] [] (f_Waves_take (zr h 33 ((v4 * 10) + 0)) v4 ((zm_rm v1 1000) / 10) h) Q
      exact f_Waves_run_l44_k82_t v1 v2 v4 (f_Waves_take (zr h 33 ((v4 * 10) + 0)) v4 ((zm_rm v1 1000) / 10) h) (some (.int (zr h 33 ((v4 * 10) + 0)))) hs trivial hF hl0 hl1
theorem f_Waves_run_l44_t {x : zm_X} {d : Nat} (v1 : Int32) (v2 : Int32) {Q : Option Value → zm_H → Prop} (G : Nat × Int32 × zm_H → Prop) (hx1 : ∀ (v4 : Int32) (h : zm_H) (o4 : Option Value) (o5 : Option Value), zSh zT0 h → G (1, v4, h) → zg x (d + 3) 113 88 [some (.ref 32), some (.int v1), some (.int v2), some (.int 0), o4, o5] [] h Q) : ∀ (n : Nat) (v4 : Int32) (h : zm_H) (o5 : Option Value), zSh zT0 h → f_Waves_run_l44_ok v1 v2 n (v4, h) → G (f_Waves_run_l44 v1 v2 n (v4, h)) → zg x (d + 3) 113 44 [some (.ref 32), some (.int v1), some (.int v2), some (.int 0), some (.int v4), o5] [] h Q := by
  intro n
  induction n with
  | zero => intro v4 h o5 hs ho hG; exact ho.elim
  | succ n ih =>
    intro v4 h o5 hs ho hG
    refine f_Waves_run_l44_b_t (FN := fun r => (r.1 = 0 → f_Waves_run_l44_ok v1 v2 n r.2) ∧ G (if r.1 = 0 then f_Waves_run_l44 v1 v2 n r.2 else r)) v1 v2 v4 h o5 hs ho.1 ⟨ho.2, hG⟩ ?_ ?_
    · intro v4 h o5 hs hF
      exact ih v4 h o5 hs (hF.1 rfl) hF.2
    · intro v4 h o4 o5 hs hF
      exact hx1 v4 h o4 o5 hs hF.2

theorem zd_115 : zm_cd 115 = zc_115 := by rfl
set_option maxRecDepth 100000 in
set_option maxHeartbeats 400000 in
theorem f_Waves_goAside_l2_b_t {x : zm_X} {d : Nat} (v1 : Int32) (v2 : Int32) (v3 : Int32) (h : zm_H) (o4 : Option Value) {Q : Option Value → zm_H → Prop} {FN : Nat × Int32 × zm_H → Prop} (hs : zSh zT0 h) (ho : f_Waves_goAside_l2_b_ok v1 v2 v3 h) (hF : FN (f_Waves_goAside_l2_b v1 v2 v3 h)) (hl0 : ∀ (v3 : Int32) (h : zm_H) (o4 : Option Value), zSh zT0 h → FN (0, v3, h) → zg x (d + 2) 115 2 [some (.ref 32), some (.int v1), some (.int v2), some (.int v3), o4] [] h Q) (hl1 : ∀ (v3 : Int32) (h : zm_H) (o3 : Option Value) (o4 : Option Value), zSh zT0 h → FN (1, v3, h) → zg x (d + 2) 115 44 [some (.ref 32), some (.int v1), some (.int v2), o3, o4] [] h Q) : zg x (d + 2) 115 2 [some (.ref 32), some (.int v1), some (.int v2), some (.int v3), o4] [] h Q := by
  unfold f_Waves_goAside_l2_b at hF
  unfold f_Waves_goAside_l2_b_ok at ho
  refine zg_blk zd_115 2 hs (rfl : zb x zT0 zc_115 2 (2, [some (.ref 32), some (.int v1), some (.int v2), some (.int v3), o4], [], h) = some (5, [some (.ref 32), some (.int v1), some (.int v2), some (.int v3), o4], [.int 10, .int v3], h)) (fun hs => ?_)
  refine zg_i_ge zd_115 rfl (fun (hc : (10 ≤ v3)) => ?_) (fun (hc : ¬ (10 ≤ v3)) => ?_)
  · have ho := ho.1 hc
    rw [if_pos hc] at hF
    exact hl1 v3 h (some (.int v3)) (o4) hs hF
  · have ho := ho.2 hc
    rw [if_neg hc] at hF
    refine zg_blk zd_115 8 hs (rfl : zb x zT0 zc_115 8 (8, [some (.ref 32), some (.int v1), some (.int v2), some (.int v3), o4], [], h) = some (20, [some (.ref 32), some (.int v1), some (.int v2), some (.int v3), some (.int (v3 - v1))], [.int (v3 - v1), .int v3, .ref 36], h)) (fun hs => ?_)
    refine zg_call hs zd_115 rfl rfl rfl rfl (as := [.int (v3 - v1)]) (rest := [.int v3, .ref 36]) (en := [some (.int (v3 - v1))]) rfl rfl rfl rfl rfl ?_
    refine f_N_isColumn_t (v3 - v1) h hs trivial ?_
    show zg x (d + 2) 115 23 [some (.ref 32), some (.int v1), some (.int v2), some (.int v3), some (.int (v3 - v1))] [.int (if (¬ ((v3 - v1) < 0) ∧ (¬ (10 ≤ (v3 - v1)))) then (1 : Int32) else 0), .int v3, .ref 36] h Q
    obtain ⟨hom, ho⟩ := ho
    have K62 : zSh zT0 h → zg x (d + 2) 115 37 [some (.ref 32), some (.int v1), some (.int v2), some (.int v3), some (.int (v3 - v1))] [.int (if (¬ ((v3 - v1) < 0) ∧ (¬ (10 ≤ (v3 - v1)))) then ((zr h 35 (v3 - v1)) : Int32) else v2), .int v3, .ref 36] h Q := fun hs => by
      have hob := ho
      refine zg_ias hs zd_115 rfl rfl hob (fun hs => ?_)
      refine zg_blk zd_115 2 hs (rfl : zb x zT0 zc_115 2 (38, [some (.ref 32), some (.int v1), some (.int v2), some (.int v3), some (.int (v3 - v1))], [], (zs h 36 v3 (if (¬ ((v3 - v1) < 0) ∧ (¬ (10 ≤ (v3 - v1)))) then ((zr h 35 (v3 - v1)) : Int32) else v2))) = some (2, [some (.ref 32), some (.int v1), some (.int v2), some (.int (v3 + 1)), some (.int (v3 - v1))], [], (zs h 36 v3 (if (¬ ((v3 - v1) < 0) ∧ (¬ (10 ≤ (v3 - v1)))) then ((zr h 35 (v3 - v1)) : Int32) else v2)))) (fun hs => ?_)
      exact hl0 (v3 + 1) (zs h 36 v3 (if (¬ ((v3 - v1) < 0) ∧ (¬ (10 ≤ (v3 - v1)))) then ((zr h 35 (v3 - v1)) : Int32) else v2)) (some (.int (v3 - v1))) hs hF
    refine zg_b_eq zd_115 rfl (fun (hc : ¬ (¬ ((v3 - v1) < 0) ∧ (¬ (10 ≤ (v3 - v1))))) => ?_) (fun (hc : (¬ ((v3 - v1) < 0) ∧ (¬ (10 ≤ (v3 - v1))))) => ?_)
    · have ho := hom.2 hc
      rw [show ((if (¬ ((v3 - v1) < 0) ∧ (¬ (10 ≤ (v3 - v1)))) then ((zr h 35 (v3 - v1)) : Int32) else v2) : Int32) = v2 from if_neg hc] at K62
      refine zg_blk zd_115 1 hs (rfl : zb x zT0 zc_115 1 (36, [some (.ref 32), some (.int v1), some (.int v2), some (.int v3), some (.int (v3 - v1))], [.int v3, .ref 36], h) = some (37, [some (.ref 32), some (.int v1), some (.int v2), some (.int v3), some (.int (v3 - v1))], [.int v2, .int v3, .ref 36], h)) (fun hs => ?_)
      exact K62 hs
    · have ho := hom.1 hc
      rw [show ((if (¬ ((v3 - v1) < 0) ∧ (¬ (10 ≤ (v3 - v1)))) then ((zr h 35 (v3 - v1)) : Int32) else v2) : Int32) = (zr h 35 (v3 - v1)) from if_pos hc] at K62
      refine zg_blk zd_115 3 hs (rfl : zb x zT0 zc_115 3 (26, [some (.ref 32), some (.int v1), some (.int v2), some (.int v3), some (.int (v3 - v1))], [.int v3, .ref 36], h) = some (32, [some (.ref 32), some (.int v1), some (.int v2), some (.int v3), some (.int (v3 - v1))], [.int (v3 - v1), .ref 35, .int v3, .ref 36], h)) (fun hs => ?_)
      have hob := ho
      refine zg_ial hs zd_115 rfl rfl hob ?_
      refine zg_blk zd_115 1 hs (rfl : zb x zT0 zc_115 1 (33, [some (.ref 32), some (.int v1), some (.int v2), some (.int v3), some (.int (v3 - v1))], [.int (zr h 35 (v3 - v1)), .int v3, .ref 36], h) = some (37, [some (.ref 32), some (.int v1), some (.int v2), some (.int v3), some (.int (v3 - v1))], [.int (zr h 35 (v3 - v1)), .int v3, .ref 36], h)) (fun hs => ?_)
      exact K62 hs
theorem f_Waves_goAside_l2_t {x : zm_X} {d : Nat} (v1 : Int32) (v2 : Int32) {Q : Option Value → zm_H → Prop} (G : Nat × Int32 × zm_H → Prop) (hx1 : ∀ (v3 : Int32) (h : zm_H) (o3 : Option Value) (o4 : Option Value), zSh zT0 h → G (1, v3, h) → zg x (d + 2) 115 44 [some (.ref 32), some (.int v1), some (.int v2), o3, o4] [] h Q) : ∀ (n : Nat) (v3 : Int32) (h : zm_H) (o4 : Option Value), zSh zT0 h → f_Waves_goAside_l2_ok v1 v2 n (v3, h) → G (f_Waves_goAside_l2 v1 v2 n (v3, h)) → zg x (d + 2) 115 2 [some (.ref 32), some (.int v1), some (.int v2), some (.int v3), o4] [] h Q := by
  intro n
  induction n with
  | zero => intro v3 h o4 hs ho hG; exact ho.elim
  | succ n ih =>
    intro v3 h o4 hs ho hG
    refine f_Waves_goAside_l2_b_t (FN := fun r => (r.1 = 0 → f_Waves_goAside_l2_ok v1 v2 n r.2) ∧ G (if r.1 = 0 then f_Waves_goAside_l2 v1 v2 n r.2 else r)) v1 v2 v3 h o4 hs ho.1 ⟨ho.2, hG⟩ ?_ ?_
    · intro v3 h o4 hs hF
      exact ih v3 h o4 hs (hF.1 rfl) hF.2
    · intro v3 h o3 o4 hs hF
      exact hx1 v3 h o3 o4 hs hF.2

set_option maxRecDepth 100000 in
set_option maxHeartbeats 400000 in
theorem f_Waves_goAside_k44_t {x : zm_X} {d : Nat} (h : zm_H) (o1 : Option Value) (z2 : Int32) (o3 : Option Value) (o4 : Option Value) {Q : Option Value → zm_H → Prop} (hs : zSh zT0 h) (ho : f_Waves_goAside_k44_ok h) (hF : (zSh zT1 (f_Waves_goAside_k44 h) → Q none (f_Waves_goAside_k44 h))) : zg x (d + 2) 115 44 [some (.ref 32), o1, some (.int z2), o3, o4] [] h Q := by
  unfold f_Waves_goAside_k44 at hF
  unfold f_Waves_goAside_k44_ok at ho
  refine zg_blk zd_115 6 hs (rfl : zb x zT0 zc_115 6 (44, [some (.ref 32), o1, some (.int z2), o3, o4], [], h) = some (54, [some (.ref 32), o1, some (.int z2), some (.ref 35), o4], [.ref 36, .ref 32], h)) (fun hs => ?_)
  refine zg_pfr3 hs zd_115 rfl (fun hs => ?_)
  refine zg_blk zd_115 2 hs (rfl : zb x zT2 zc_115 2 (57, [some (.ref 32), o1, some (.int z2), some (.ref 35), o4], [], (zm_sr h 32 3 (some 36))) = some (59, [some (.ref 32), o1, some (.int z2), some (.ref 35), o4], [.ref 35, .ref 32], (zm_sr h 32 3 (some 36)))) (fun hs => ?_)
  refine zg_pfr4 hs zd_115 rfl (fun hs => ?_)
  exact zg_ret zd_115 rfl rfl (hF hs)
set_option maxRecDepth 100000 in
set_option maxHeartbeats 400000 in
theorem f_Waves_goAside_t {x : zm_X} {d : Nat} (p1 : Int32) (p2 : Int32) (h : zm_H) {Q : Option Value → zm_H → Prop} (hs : zSh zT0 h) (ho : f_Waves_goAside_ok p1 p2 h) (hF : (zSh zT1 (f_Waves_goAside p1 p2 h) → Q none (f_Waves_goAside p1 p2 h))) : zg x (d + 2) 115 0 [some (.ref 32), some (.int p1), some (.int p2), none, none] [] h Q := by
  unfold f_Waves_goAside at hF
  unfold f_Waves_goAside_ok at ho
  refine zg_blk zd_115 2 hs (rfl : zb x zT0 zc_115 2 (0, [some (.ref 32), some (.int p1), some (.int p2), none, none], [], h) = some (2, [some (.ref 32), some (.int p1), some (.int p2), some (.int 0), none], [], h)) (fun hs => ?_)
  refine f_Waves_goAside_l2_t p1 p2 (fun r => f_Waves_goAside_a2_ok r ∧ (zSh zT1 (f_Waves_goAside_a2 r) → Q none (f_Waves_goAside_a2 r))) ?_ zF 0 h (none) hs ho.1 ⟨ho.2, hF⟩
  · intro v3_ h_ o3_ o4_ hs hG
    have ho : True := trivial
    have hF : (zSh zT1 ((f_Waves_goAside_k44 h_)) → Q none ((f_Waves_goAside_k44 h_))) := hG.2
    exact f_Waves_goAside_k44_t h_ (some (.int p1)) p2 (o3_) (o4_) hs trivial hF
set_option maxRecDepth 100000 in
set_option maxHeartbeats 400000 in
theorem f_Waves_run_l44b_k82_t {x : zm_X} {d : Nat} (v1 : Int32) (v2 : Int32) (v4 : Int32) (h : zm_H) (o5 : Option Value) {Q : Option Value → zm_H → Prop} {FN : Nat × Int32 × zm_H → Prop} (hs : zSh zT1 h) (ho : f_Waves_run_l44b_k82_ok v1 v2 v4 h) (hF : FN (f_Waves_run_l44b_k82 v1 v2 v4 h)) (hl0 : ∀ (v4 : Int32) (h : zm_H) (o5 : Option Value), zSh zT1 h → FN (0, v4, h) → zg x (d + 3) 113 44 [some (.ref 32), some (.int v1), some (.int v2), some (.int 1), some (.int v4), o5] [] h Q) (hl1 : ∀ (v4 : Int32) (h : zm_H) (o4 : Option Value) (o5 : Option Value), zSh zT1 h → FN (1, v4, h) → zg x (d + 3) 113 88 [some (.ref 32), some (.int v1), some (.int v2), some (.int 1), o4, o5] [] h Q) : zg x (d + 3) 113 82 [some (.ref 32), some (.int v1), some (.int v2), some (.int 1), some (.int v4), o5] [] h Q := by
  unfold f_Waves_run_l44b_k82 at hF
  unfold f_Waves_run_l44b_k82_ok at ho
  refine zg_blk zd_113 2 hs (rfl : zb x zT1 zc_113 2 (82, [some (.ref 32), some (.int v1), some (.int v2), some (.int 1), some (.int v4), o5], [], h) = some (44, [some (.ref 32), some (.int v1), some (.int v2), some (.int 1), some (.int (v4 + 1)), o5], [], h)) (fun hs => ?_)
  exact hl0 (v4 + 1) h (o5) hs hF
set_option maxRecDepth 100000 in
set_option maxHeartbeats 400000 in
theorem f_N_periodOf_s_t {x : zm_X} {d : Nat} (p0 : Int32) (h : zm_H) {Q : Option Value → zm_H → Prop} (hs : zSh zT1 h) (ho : f_N_periodOf_s_ok p0 h) (hF : Q (some (.int (f_N_periodOf_s p0 h))) h) : zg x (d + 1) 126 0 [some (.int p0)] [] h Q := by
  unfold f_N_periodOf_s at hF
  unfold f_N_periodOf_s_ok at ho
  refine zg_blk zd_126 5 hs (rfl : zb x zT1 zc_126 5 (0, [some (.int p0)], [], h) = some (8, [some (.int p0)], [.int ((zm_rm p0 1000) / 10)], h)) (fun hs => ?_)
  exact zg_ret zd_126 rfl rfl hF
set_option maxRecDepth 100000 in
set_option maxHeartbeats 400000 in
theorem f_Waves_take_s_k26_t {x : zm_X} {d : Nat} (v1 : Int32) (v2 : Int32) (v4 : Int32) (h : zm_H) (z3 : Int32) (o5 : Option Value) {Q : Option Value → zm_H → Prop} (hs : zSh zT1 h) (ho : f_Waves_take_s_k26_ok v1 v2 v4 h) (hF : (zSh zT1 (f_Waves_take_s_k26 v1 v2 v4 h) → Q none (f_Waves_take_s_k26 v1 v2 v4 h))) : zg x (d + 1) 116 26 [some (.ref 32), some (.int v1), some (.int v2), some (.int z3), some (.int v4), o5] [] h Q := by
  unfold f_Waves_take_s_k26 at hF
  unfold f_Waves_take_s_k26_ok at ho
  refine zg_blk zd_116 3 hs (rfl : zb x zT1 zc_116 3 (26, [some (.ref 32), some (.int v1), some (.int v2), some (.int z3), some (.int v4), o5], [], h) = some (31, [some (.ref 32), some (.int v1), some (.int v2), some (.int z3), some (.int v4), o5], [.int v2, .ref 36], h)) (fun hs => ?_)
  obtain ⟨hob, ho⟩ := ho
  refine zg_ial hs zd_116 rfl rfl hob ?_
  refine zg_blk zd_116 13 hs (rfl : zb x zT1 zc_116 13 (32, [some (.ref 32), some (.int v1), some (.int v2), some (.int z3), some (.int v4), o5], [.int (zr h 36 v2)], h) = some (55, [some (.ref 32), some (.int v1), some (.int v2), some (.int z3), some (.int v4), some (.int (((zr h 36 v2) * v4) / 100))], [.int v1, .ref 24, .int (((zr h 36 v2) * v4) / 100), .int v1, .ref 34], h)) (fun hs => ?_)
  obtain ⟨hob, ho⟩ := ho
  refine zg_ial hs zd_116 rfl rfl hob ?_
  refine zg_blk zd_116 5 hs (rfl : zb x zT1 zc_116 5 (56, [some (.ref 32), some (.int v1), some (.int v2), some (.int z3), some (.int v4), some (.int (((zr h 36 v2) * v4) / 100))], [.int (zr h 24 v1), .int (((zr h 36 v2) * v4) / 100), .int v1, .ref 34], h) = some (65, [some (.ref 32), some (.int v1), some (.int v2), some (.int z3), some (.int v4), some (.int (((zr h 36 v2) * v4) / 100))], [.int v1, .ref 24, .int ((((zr h 36 v2) * v4) / 100) * (zr h 24 v1)), .int v1, .ref 34], h)) (fun hs => ?_)
  obtain ⟨hob, ho⟩ := ho
  refine zg_ial hs zd_116 rfl rfl hob ?_
  refine zg_blk zd_116 2 hs (rfl : zb x zT1 zc_116 2 (66, [some (.ref 32), some (.int v1), some (.int v2), some (.int z3), some (.int v4), some (.int (((zr h 36 v2) * v4) / 100))], [.int (zr h 24 v1), .int ((((zr h 36 v2) * v4) / 100) * (zr h 24 v1)), .int v1, .ref 34], h) = some (69, [some (.ref 32), some (.int v1), some (.int v2), some (.int z3), some (.int v4), some (.int (((zr h 36 v2) * v4) / 100))], [.int ((zr h 24 v1) + 20), .int ((((zr h 36 v2) * v4) / 100) * (zr h 24 v1)), .int v1, .ref 34], h)) (fun hs => ?_)
  obtain ⟨hob, ho⟩ := ho
  refine zg_div zd_116 rfl hob ?_
  obtain ⟨hob, ho⟩ := ho
  refine zg_ias hs zd_116 rfl rfl hob (fun hs => ?_)
  refine zg_blk zd_116 4 hs (rfl : zb x zT1 zc_116 4 (71, [some (.ref 32), some (.int v1), some (.int v2), some (.int z3), some (.int v4), some (.int (((zr h 36 v2) * v4) / 100))], [], (zs h 34 v1 (((((zr h 36 v2) * v4) / 100) * (zr h 24 v1)) / ((zr h 24 v1) + 20)))) = some (77, [some (.ref 32), some (.int v1), some (.int v2), some (.int z3), some (.int v4), some (.int (((zr h 36 v2) * v4) / 100))], [.int v2, .ref 36, .int v2, .ref 36], (zs h 34 v1 (((((zr h 36 v2) * v4) / 100) * (zr h 24 v1)) / ((zr h 24 v1) + 20))))) (fun hs => ?_)
  obtain ⟨hob, ho⟩ := ho
  refine zg_ial hs zd_116 rfl rfl hob ?_
  refine zg_blk zd_116 3 hs (rfl : zb x zT1 zc_116 3 (78, [some (.ref 32), some (.int v1), some (.int v2), some (.int z3), some (.int v4), some (.int (((zr h 36 v2) * v4) / 100))], [.int (zr h 36 v2), .int v2, .ref 36], (zs h 34 v1 (((((zr h 36 v2) * v4) / 100) * (zr h 24 v1)) / ((zr h 24 v1) + 20)))) = some (83, [some (.ref 32), some (.int v1), some (.int v2), some (.int z3), some (.int v4), some (.int (((zr h 36 v2) * v4) / 100))], [.int v1, .ref 34, .int (zr h 36 v2), .int v2, .ref 36], (zs h 34 v1 (((((zr h 36 v2) * v4) / 100) * (zr h 24 v1)) / ((zr h 24 v1) + 20))))) (fun hs => ?_)
  obtain ⟨hob, ho⟩ := ho
  refine zg_ial hs zd_116 rfl rfl hob ?_
  refine zg_blk zd_116 1 hs (rfl : zb x zT1 zc_116 1 (84, [some (.ref 32), some (.int v1), some (.int v2), some (.int z3), some (.int v4), some (.int (((zr h 36 v2) * v4) / 100))], [.int (zr (zs h 34 v1 (((((zr h 36 v2) * v4) / 100) * (zr h 24 v1)) / ((zr h 24 v1) + 20))) 34 v1), .int (zr h 36 v2), .int v2, .ref 36], (zs h 34 v1 (((((zr h 36 v2) * v4) / 100) * (zr h 24 v1)) / ((zr h 24 v1) + 20)))) = some (85, [some (.ref 32), some (.int v1), some (.int v2), some (.int z3), some (.int v4), some (.int (((zr h 36 v2) * v4) / 100))], [.int ((zr h 36 v2) - (zr (zs h 34 v1 (((((zr h 36 v2) * v4) / 100) * (zr h 24 v1)) / ((zr h 24 v1) + 20))) 34 v1)), .int v2, .ref 36], (zs h 34 v1 (((((zr h 36 v2) * v4) / 100) * (zr h 24 v1)) / ((zr h 24 v1) + 20))))) (fun hs => ?_)
  have hob := ho
  refine zg_ias hs zd_116 rfl rfl hob (fun hs => ?_)
  exact zg_ret zd_116 rfl rfl (hF hs)
set_option maxRecDepth 100000 in
set_option maxHeartbeats 400000 in
theorem f_Waves_take_s_t {x : zm_X} {d : Nat} (p1 : Int32) (p2 : Int32) (p3 : Int32) (h : zm_H) {Q : Option Value → zm_H → Prop} (hs : zSh zT1 h) (ho : f_Waves_take_s_ok p1 p2 p3 h) (hF : (zSh zT1 (f_Waves_take_s p1 p2 p3 h) → Q none (f_Waves_take_s p1 p2 p3 h))) : zg x (d + 1) 116 0 [some (.ref 32), some (.int p1), some (.int p2), some (.int p3), none, none] [] h Q := by
  unfold f_Waves_take_s at hF
  unfold f_Waves_take_s_ok at ho
  refine zg_blk zd_116 8 hs (rfl : zb x zT1 zc_116 8 (0, [some (.ref 32), some (.int p1), some (.int p2), some (.int p3), none, none], [], h) = some (14, [some (.ref 32), some (.int p1), some (.int p2), some (.int p3), none, none], [.int p1, .ref 25, .int p3, .int 15, .int 100, .int 0], h)) (fun hs => ?_)
  obtain ⟨hob, ho⟩ := ho
  refine zg_ial hs zd_116 rfl rfl hob ?_
  refine zg_blk zd_116 1 hs (rfl : zb x zT1 zc_116 1 (15, [some (.ref 32), some (.int p1), some (.int p2), some (.int p3), none, none], [.int (zr h 25 p1), .int p3, .int 15, .int 100, .int 0], h) = some (16, [some (.ref 32), some (.int p1), some (.int p2), some (.int p3), none, none], [.int (p3 - (zr h 25 p1)), .int 15, .int 100, .int 0], h)) (fun hs => ?_)
  refine zg_x zd_116 rfl rfl rfl rfl (as := [.int (p3 - (zr h 25 p1))]) (rest := [.int 15, .int 100, .int 0]) (w := some (.int (if 0 ≤ (p3 - (zr h 25 p1)) then (p3 - (zr h 25 p1)) else 0 - (p3 - (zr h 25 p1))))) rfl rfl rfl ?_
  refine zg_blk zd_116 2 hs (rfl : zb x zT1 zc_116 2 (19, [some (.ref 32), some (.int p1), some (.int p2), some (.int p3), none, none], [.int (if 0 ≤ (p3 - (zr h 25 p1)) then (p3 - (zr h 25 p1)) else 0 - (p3 - (zr h 25 p1))), .int 15, .int 100, .int 0], h) = some (21, [some (.ref 32), some (.int p1), some (.int p2), some (.int p3), none, none], [.int (100 - (15 * (if 0 ≤ (p3 - (zr h 25 p1)) then (p3 - (zr h 25 p1)) else 0 - (p3 - (zr h 25 p1))))), .int 0], h)) (fun hs => ?_)
  refine zg_x zd_116 rfl rfl rfl rfl (as := [.int 0, .int (100 - (15 * (if 0 ≤ (p3 - (zr h 25 p1)) then (p3 - (zr h 25 p1)) else 0 - (p3 - (zr h 25 p1)))))]) (rest := []) (w := some (.int (if 0 < (100 - (15 * (if 0 ≤ (p3 - (zr h 25 p1)) then (p3 - (zr h 25 p1)) else 0 - (p3 - (zr h 25 p1))))) then (100 - (15 * (if 0 ≤ (p3 - (zr h 25 p1)) then (p3 - (zr h 25 p1)) else 0 - (p3 - (zr h 25 p1))))) else 0))) rfl rfl rfl ?_
  refine zg_blk zd_116 1 hs (rfl : zb x zT1 zc_116 1 (24, [some (.ref 32), some (.int p1), some (.int p2), some (.int p3), none, none], [.int (if 0 < (100 - (15 * (if 0 ≤ (p3 - (zr h 25 p1)) then (p3 - (zr h 25 p1)) else 0 - (p3 - (zr h 25 p1))))) then (100 - (15 * (if 0 ≤ (p3 - (zr h 25 p1)) then (p3 - (zr h 25 p1)) else 0 - (p3 - (zr h 25 p1))))) else 0)], h) = some (26, [some (.ref 32), some (.int p1), some (.int p2), some (.int p3), some (.int (if 0 < (100 - (15 * (if 0 ≤ (p3 - (zr h 25 p1)) then (p3 - (zr h 25 p1)) else 0 - (p3 - (zr h 25 p1))))) then (100 - (15 * (if 0 ≤ (p3 - (zr h 25 p1)) then (p3 - (zr h 25 p1)) else 0 - (p3 - (zr h 25 p1))))) else 0)), none], [], h)) (fun hs => ?_)
  exact f_Waves_take_s_k26_t p1 p2 (if 0 < (100 - (15 * (if 0 ≤ (p3 - (zr h 25 p1)) then (p3 - (zr h 25 p1)) else 0 - (p3 - (zr h 25 p1))))) then (100 - (15 * (if 0 ≤ (p3 - (zr h 25 p1)) then (p3 - (zr h 25 p1)) else 0 - (p3 - (zr h 25 p1))))) else 0) h p3 (none) hs ho hF
set_option maxRecDepth 100000 in
set_option maxHeartbeats 400000 in
theorem f_Waves_run_l44b_b_t {x : zm_X} {d : Nat} (v1 : Int32) (v2 : Int32) (v4 : Int32) (h : zm_H) (o5 : Option Value) {Q : Option Value → zm_H → Prop} {FN : Nat × Int32 × zm_H → Prop} (hs : zSh zT1 h) (ho : f_Waves_run_l44b_b_ok v1 v2 v4 h) (hF : FN (f_Waves_run_l44b_b v1 v2 v4 h)) (hl0 : ∀ (v4 : Int32) (h : zm_H) (o5 : Option Value), zSh zT1 h → FN (0, v4, h) → zg x (d + 3) 113 44 [some (.ref 32), some (.int v1), some (.int v2), some (.int 1), some (.int v4), o5] [] h Q) (hl1 : ∀ (v4 : Int32) (h : zm_H) (o4 : Option Value) (o5 : Option Value), zSh zT1 h → FN (1, v4, h) → zg x (d + 3) 113 88 [some (.ref 32), some (.int v1), some (.int v2), some (.int 1), o4, o5] [] h Q) : zg x (d + 3) 113 44 [some (.ref 32), some (.int v1), some (.int v2), some (.int 1), some (.int v4), o5] [] h Q := by
  unfold f_Waves_run_l44b_b at hF
  unfold f_Waves_run_l44b_b_ok at ho
  refine zg_blk zd_113 2 hs (rfl : zb x zT1 zc_113 2 (44, [some (.ref 32), some (.int v1), some (.int v2), some (.int 1), some (.int v4), o5], [], h) = some (48, [some (.ref 32), some (.int v1), some (.int v2), some (.int 1), some (.int v4), o5], [.int 10, .int v4], h)) (fun hs => ?_)
  refine zg_i_ge zd_113 rfl (fun (hc : (10 ≤ v4)) => ?_) (fun (hc : ¬ (10 ≤ v4)) => ?_)
  · have ho := ho.1 hc
    rw [if_pos hc] at hF
    exact hl1 v4 h (some (.int v4)) (o5) hs hF
  · have ho := ho.2 hc
    rw [if_neg hc] at hF
    refine zg_blk zd_113 7 hs (rfl : zb x zT1 zc_113 7 (51, [some (.ref 32), some (.int v1), some (.int v2), some (.int 1), some (.int v4), o5], [], h) = some (62, [some (.ref 32), some (.int v1), some (.int v2), some (.int 1), some (.int v4), o5], [.int ((v4 * 10) + 1), .ref 33], h)) (fun hs => ?_)
    obtain ⟨hob, ho⟩ := ho
    refine zg_ial hs zd_113 rfl rfl hob ?_
    refine zg_blk zd_113 2 hs (rfl : zb x zT1 zc_113 2 (63, [some (.ref 32), some (.int v1), some (.int v2), some (.int 1), some (.int v4), o5], [.int (zr h 33 ((v4 * 10) + 1))], h) = some (67, [some (.ref 32), some (.int v1), some (.int v2), some (.int 1), some (.int v4), some (.int (zr h 33 ((v4 * 10) + 1)))], [.int (zr h 33 ((v4 * 10) + 1))], h)) (fun hs => ?_)
    refine zg_f_lt zd_113 rfl (fun (hc : ((zr h 33 ((v4 * 10) + 1)) < 0)) => ?_) (fun (hc : ¬ ((zr h 33 ((v4 * 10) + 1)) < 0)) => ?_)
    · have ho := ho.1 hc
      rw [if_pos hc] at hF
      exact f_Waves_run_l44b_k82_t v1 v2 v4 h (some (.int (zr h 33 ((v4 * 10) + 1)))) hs trivial hF hl0 hl1
    · have ho := ho.2 hc
      rw [if_neg hc] at hF
      refine zg_blk zd_113 4 hs (rfl : zb x zT1 zc_113 4 (70, [some (.ref 32), some (.int v1), some (.int v2), some (.int 1), some (.int v4), some (.int (zr h 33 ((v4 * 10) + 1)))], [], h) = some (76, [some (.ref 32), some (.int v1), some (.int v2), some (.int 1), some (.int v4), some (.int (zr h 33 ((v4 * 10) + 1)))], [.int v1, .int v4, .int (zr h 33 ((v4 * 10) + 1)), .ref 32], h)) (fun hs => ?_)
      refine zg_call hs zd_113 rfl rfl rfl rfl (as := [.int v1]) (rest := [.int v4, .int (zr h 33 ((v4 * 10) + 1)), .ref 32]) (en := [some (.int v1)]) rfl rfl rfl rfl rfl ?_
      refine f_N_periodOf_s_t v1 h hs trivial ?_
      show zg x (d + 3) 113 79 [some (.ref 32), some (.int v1), some (.int v2), some (.int 1), some (.int v4), some (.int (zr h 33 ((v4 * 10) + 1)))] [.int ((zm_rm v1 1000) / 10), .int v4, .int (zr h 33 ((v4 * 10) + 1)), .ref 32] h Q
      have hob := ho
      refine zg_call hs zd_113 rfl rfl rfl rfl (as := [.ref 32, .int (zr h 33 ((v4 * 10) + 1)), .int v4, .int ((zm_rm v1 1000) / 10)]) (rest := []) (en := [some (.ref 32), some (.int (zr h 33 ((v4 * 10) + 1))), some (.int v4), some (.int ((zm_rm v1 1000) / 10)), none, none]) rfl rfl rfl rfl rfl ?_
      refine f_Waves_take_s_t (zr h 33 ((v4 * 10) + 1)) v4 ((zm_rm v1 1000) / 10) h hs hob (fun hs => ?_)
      show zg x (d + 3) 113 82 [some (.ref 32), some (.int v1), some (.int v2), some (.int 1), some (.int v4), some (.int (zr h 33 ((v4 * 10) + 1)))] [] (f_Waves_take_s (zr h 33 ((v4 * 10) + 1)) v4 ((zm_rm v1 1000) / 10) h) Q
      exact f_Waves_run_l44b_k82_t v1 v2 v4 (f_Waves_take_s (zr h 33 ((v4 * 10) + 1)) v4 ((zm_rm v1 1000) / 10) h) (some (.int (zr h 33 ((v4 * 10) + 1)))) hs trivial hF hl0 hl1
theorem f_Waves_run_l44b_t {x : zm_X} {d : Nat} (v1 : Int32) (v2 : Int32) {Q : Option Value → zm_H → Prop} (G : Nat × Int32 × zm_H → Prop) (hx1 : ∀ (v4 : Int32) (h : zm_H) (o4 : Option Value) (o5 : Option Value), zSh zT1 h → G (1, v4, h) → zg x (d + 3) 113 88 [some (.ref 32), some (.int v1), some (.int v2), some (.int 1), o4, o5] [] h Q) : ∀ (n : Nat) (v4 : Int32) (h : zm_H) (o5 : Option Value), zSh zT1 h → f_Waves_run_l44b_ok v1 v2 n (v4, h) → G (f_Waves_run_l44b v1 v2 n (v4, h)) → zg x (d + 3) 113 44 [some (.ref 32), some (.int v1), some (.int v2), some (.int 1), some (.int v4), o5] [] h Q := by
  intro n
  induction n with
  | zero => intro v4 h o5 hs ho hG; exact ho.elim
  | succ n ih =>
    intro v4 h o5 hs ho hG
    refine f_Waves_run_l44b_b_t (FN := fun r => (r.1 = 0 → f_Waves_run_l44b_ok v1 v2 n r.2) ∧ G (if r.1 = 0 then f_Waves_run_l44b v1 v2 n r.2 else r)) v1 v2 v4 h o5 hs ho.1 ⟨ho.2, hG⟩ ?_ ?_
    · intro v4 h o5 hs hF
      exact ih v4 h o5 hs (hF.1 rfl) hF.2
    · intro v4 h o4 o5 hs hF
      exact hx1 v4 h o4 o5 hs hF.2

set_option maxRecDepth 100000 in
set_option maxHeartbeats 400000 in
theorem f_N_wayOf_s_t {x : zm_X} {d : Nat} (p0 : Int32) (h : zm_H) {Q : Option Value → zm_H → Prop} (hs : zSh zT1 h) (ho : f_N_wayOf_s_ok p0 h) (hF : Q (some (.int (f_N_wayOf_s p0 h))) h) : zg x (d + 1) 127 0 [some (.int p0)] [] h Q := by
  unfold f_N_wayOf_s at hF
  unfold f_N_wayOf_s_ok at ho
  refine zg_blk zd_127 5 hs (rfl : zb x zT1 zc_127 5 (0, [some (.int p0)], [], h) = some (6, [some (.int p0)], [.int ((zm_rm p0 10) - 1)], h)) (fun hs => ?_)
  exact zg_ret zd_127 rfl rfl hF
set_option maxRecDepth 100000 in
set_option maxHeartbeats 400000 in
theorem f_N_isColumn_s_t {x : zm_X} {d : Nat} (p0 : Int32) (h : zm_H) {Q : Option Value → zm_H → Prop} (hs : zSh zT1 h) (ho : f_N_isColumn_s_ok p0 h) (hF : Q (some (.int (f_N_isColumn_s p0 h))) h) : zg x (d + 1) 136 0 [some (.int p0)] [] h Q := by
  unfold f_N_isColumn_s at hF
  unfold f_N_isColumn_s_ok at ho
  refine zg_blk zd_136 1 hs (rfl : zb x zT1 zc_136 1 (0, [some (.int p0)], [], h) = some (1, [some (.int p0)], [.int p0], h)) (fun hs => ?_)
  have K63 : zSh zT1 h → zg x (d + 1) 136 15 [some (.int p0)] [.int (if (¬ (p0 < 0) ∧ (¬ (10 ≤ p0))) then (1 : Int32) else 0)] h Q := fun hs => by
    exact zg_rtz zd_136 rfl rfl zm_nb01 hF
  refine zg_f_lt zd_136 rfl (fun (hc : (p0 < 0)) => ?_) (fun (hc : ¬ (p0 < 0)) => ?_)
  · skip
    rw [show ((if (¬ (p0 < 0) ∧ (¬ (10 ≤ p0))) then (1 : Int32) else 0) : Int32) = 0 from zb_nand_t hc] at K63
    refine zg_blk zd_136 1 hs (rfl : zb x zT1 zc_136 1 (14, [some (.int p0)], [], h) = some (15, [some (.int p0)], [.int 0], h)) (fun hs => ?_)
    exact K63 hs
  · skip
    rw [show ((if (¬ (p0 < 0) ∧ (¬ (10 ≤ p0))) then (1 : Int32) else 0) : Int32) = (if (¬ (10 ≤ p0)) then (1 : Int32) else 0) from zb_nand_f hc] at K63
    refine zg_blk zd_136 2 hs (rfl : zb x zT1 zc_136 2 (4, [some (.int p0)], [], h) = some (7, [some (.int p0)], [.int 10, .int p0], h)) (fun hs => ?_)
    refine zg_i_ge zd_136 rfl (fun (hc : (10 ≤ p0)) => ?_) (fun (hc : ¬ (10 ≤ p0)) => ?_)
    · skip
      rw [show ((if (¬ (10 ≤ p0)) then (1 : Int32) else 0) : Int32) = 0 from zb_not_t hc] at K63
      refine zg_blk zd_136 1 hs (rfl : zb x zT1 zc_136 1 (14, [some (.int p0)], [], h) = some (15, [some (.int p0)], [.int 0], h)) (fun hs => ?_)
      exact K63 hs
    · skip
      rw [show ((if (¬ (10 ≤ p0)) then (1 : Int32) else 0) : Int32) = 1 from zb_not_f hc] at K63
      refine zg_blk zd_136 2 hs (rfl : zb x zT1 zc_136 2 (10, [some (.int p0)], [], h) = some (15, [some (.int p0)], [.int 1], h)) (fun hs => ?_)
      exact K63 hs
set_option maxRecDepth 100000 in
set_option maxHeartbeats 400000 in
theorem f_Waves_goAside_s_l2_b_t {x : zm_X} {d : Nat} (v1 : Int32) (v2 : Int32) (v3 : Int32) (h : zm_H) (o4 : Option Value) {Q : Option Value → zm_H → Prop} {FN : Nat × Int32 × zm_H → Prop} (hs : zSh zT1 h) (ho : f_Waves_goAside_s_l2_b_ok v1 v2 v3 h) (hF : FN (f_Waves_goAside_s_l2_b v1 v2 v3 h)) (hl0 : ∀ (v3 : Int32) (h : zm_H) (o4 : Option Value), zSh zT1 h → FN (0, v3, h) → zg x (d + 2) 115 2 [some (.ref 32), some (.int v1), some (.int v2), some (.int v3), o4] [] h Q) (hl1 : ∀ (v3 : Int32) (h : zm_H) (o3 : Option Value) (o4 : Option Value), zSh zT1 h → FN (1, v3, h) → zg x (d + 2) 115 44 [some (.ref 32), some (.int v1), some (.int v2), o3, o4] [] h Q) : zg x (d + 2) 115 2 [some (.ref 32), some (.int v1), some (.int v2), some (.int v3), o4] [] h Q := by
  unfold f_Waves_goAside_s_l2_b at hF
  unfold f_Waves_goAside_s_l2_b_ok at ho
  refine zg_blk zd_115 2 hs (rfl : zb x zT1 zc_115 2 (2, [some (.ref 32), some (.int v1), some (.int v2), some (.int v3), o4], [], h) = some (5, [some (.ref 32), some (.int v1), some (.int v2), some (.int v3), o4], [.int 10, .int v3], h)) (fun hs => ?_)
  refine zg_i_ge zd_115 rfl (fun (hc : (10 ≤ v3)) => ?_) (fun (hc : ¬ (10 ≤ v3)) => ?_)
  · have ho := ho.1 hc
    rw [if_pos hc] at hF
    exact hl1 v3 h (some (.int v3)) (o4) hs hF
  · have ho := ho.2 hc
    rw [if_neg hc] at hF
    refine zg_blk zd_115 8 hs (rfl : zb x zT1 zc_115 8 (8, [some (.ref 32), some (.int v1), some (.int v2), some (.int v3), o4], [], h) = some (20, [some (.ref 32), some (.int v1), some (.int v2), some (.int v3), some (.int (v3 - v1))], [.int (v3 - v1), .int v3, .ref 35], h)) (fun hs => ?_)
    refine zg_call hs zd_115 rfl rfl rfl rfl (as := [.int (v3 - v1)]) (rest := [.int v3, .ref 35]) (en := [some (.int (v3 - v1))]) rfl rfl rfl rfl rfl ?_
    refine f_N_isColumn_s_t (v3 - v1) h hs trivial ?_
    show zg x (d + 2) 115 23 [some (.ref 32), some (.int v1), some (.int v2), some (.int v3), some (.int (v3 - v1))] [.int (if (¬ ((v3 - v1) < 0) ∧ (¬ (10 ≤ (v3 - v1)))) then (1 : Int32) else 0), .int v3, .ref 35] h Q
    obtain ⟨hom, ho⟩ := ho
    have K64 : zSh zT1 h → zg x (d + 2) 115 37 [some (.ref 32), some (.int v1), some (.int v2), some (.int v3), some (.int (v3 - v1))] [.int (if (¬ ((v3 - v1) < 0) ∧ (¬ (10 ≤ (v3 - v1)))) then ((zr h 36 (v3 - v1)) : Int32) else v2), .int v3, .ref 35] h Q := fun hs => by
      have hob := ho
      refine zg_ias hs zd_115 rfl rfl hob (fun hs => ?_)
      refine zg_blk zd_115 2 hs (rfl : zb x zT1 zc_115 2 (38, [some (.ref 32), some (.int v1), some (.int v2), some (.int v3), some (.int (v3 - v1))], [], (zs h 35 v3 (if (¬ ((v3 - v1) < 0) ∧ (¬ (10 ≤ (v3 - v1)))) then ((zr h 36 (v3 - v1)) : Int32) else v2))) = some (2, [some (.ref 32), some (.int v1), some (.int v2), some (.int (v3 + 1)), some (.int (v3 - v1))], [], (zs h 35 v3 (if (¬ ((v3 - v1) < 0) ∧ (¬ (10 ≤ (v3 - v1)))) then ((zr h 36 (v3 - v1)) : Int32) else v2)))) (fun hs => ?_)
      exact hl0 (v3 + 1) (zs h 35 v3 (if (¬ ((v3 - v1) < 0) ∧ (¬ (10 ≤ (v3 - v1)))) then ((zr h 36 (v3 - v1)) : Int32) else v2)) (some (.int (v3 - v1))) hs hF
    refine zg_b_eq zd_115 rfl (fun (hc : ¬ (¬ ((v3 - v1) < 0) ∧ (¬ (10 ≤ (v3 - v1))))) => ?_) (fun (hc : (¬ ((v3 - v1) < 0) ∧ (¬ (10 ≤ (v3 - v1))))) => ?_)
    · have ho := hom.2 hc
      rw [show ((if (¬ ((v3 - v1) < 0) ∧ (¬ (10 ≤ (v3 - v1)))) then ((zr h 36 (v3 - v1)) : Int32) else v2) : Int32) = v2 from if_neg hc] at K64
      refine zg_blk zd_115 1 hs (rfl : zb x zT1 zc_115 1 (36, [some (.ref 32), some (.int v1), some (.int v2), some (.int v3), some (.int (v3 - v1))], [.int v3, .ref 35], h) = some (37, [some (.ref 32), some (.int v1), some (.int v2), some (.int v3), some (.int (v3 - v1))], [.int v2, .int v3, .ref 35], h)) (fun hs => ?_)
      exact K64 hs
    · have ho := hom.1 hc
      rw [show ((if (¬ ((v3 - v1) < 0) ∧ (¬ (10 ≤ (v3 - v1)))) then ((zr h 36 (v3 - v1)) : Int32) else v2) : Int32) = (zr h 36 (v3 - v1)) from if_pos hc] at K64
      refine zg_blk zd_115 3 hs (rfl : zb x zT1 zc_115 3 (26, [some (.ref 32), some (.int v1), some (.int v2), some (.int v3), some (.int (v3 - v1))], [.int v3, .ref 35], h) = some (32, [some (.ref 32), some (.int v1), some (.int v2), some (.int v3), some (.int (v3 - v1))], [.int (v3 - v1), .ref 36, .int v3, .ref 35], h)) (fun hs => ?_)
      have hob := ho
      refine zg_ial hs zd_115 rfl rfl hob ?_
      refine zg_blk zd_115 1 hs (rfl : zb x zT1 zc_115 1 (33, [some (.ref 32), some (.int v1), some (.int v2), some (.int v3), some (.int (v3 - v1))], [.int (zr h 36 (v3 - v1)), .int v3, .ref 35], h) = some (37, [some (.ref 32), some (.int v1), some (.int v2), some (.int v3), some (.int (v3 - v1))], [.int (zr h 36 (v3 - v1)), .int v3, .ref 35], h)) (fun hs => ?_)
      exact K64 hs
theorem f_Waves_goAside_s_l2_t {x : zm_X} {d : Nat} (v1 : Int32) (v2 : Int32) {Q : Option Value → zm_H → Prop} (G : Nat × Int32 × zm_H → Prop) (hx1 : ∀ (v3 : Int32) (h : zm_H) (o3 : Option Value) (o4 : Option Value), zSh zT1 h → G (1, v3, h) → zg x (d + 2) 115 44 [some (.ref 32), some (.int v1), some (.int v2), o3, o4] [] h Q) : ∀ (n : Nat) (v3 : Int32) (h : zm_H) (o4 : Option Value), zSh zT1 h → f_Waves_goAside_s_l2_ok v1 v2 n (v3, h) → G (f_Waves_goAside_s_l2 v1 v2 n (v3, h)) → zg x (d + 2) 115 2 [some (.ref 32), some (.int v1), some (.int v2), some (.int v3), o4] [] h Q := by
  intro n
  induction n with
  | zero => intro v3 h o4 hs ho hG; exact ho.elim
  | succ n ih =>
    intro v3 h o4 hs ho hG
    refine f_Waves_goAside_s_l2_b_t (FN := fun r => (r.1 = 0 → f_Waves_goAside_s_l2_ok v1 v2 n r.2) ∧ G (if r.1 = 0 then f_Waves_goAside_s_l2 v1 v2 n r.2 else r)) v1 v2 v3 h o4 hs ho.1 ⟨ho.2, hG⟩ ?_ ?_
    · intro v3 h o4 hs hF
      exact ih v3 h o4 hs (hF.1 rfl) hF.2
    · intro v3 h o3 o4 hs hF
      exact hx1 v3 h o3 o4 hs hF.2

set_option maxRecDepth 100000 in
set_option maxHeartbeats 400000 in
theorem f_Waves_goAside_s_k44_t {x : zm_X} {d : Nat} (h : zm_H) (o1 : Option Value) (z2 : Int32) (o3 : Option Value) (o4 : Option Value) {Q : Option Value → zm_H → Prop} (hs : zSh zT1 h) (ho : f_Waves_goAside_s_k44_ok h) (hF : (zSh zT0 (f_Waves_goAside_s_k44 h) → Q none (f_Waves_goAside_s_k44 h))) : zg x (d + 2) 115 44 [some (.ref 32), o1, some (.int z2), o3, o4] [] h Q := by
  unfold f_Waves_goAside_s_k44 at hF
  unfold f_Waves_goAside_s_k44_ok at ho
  refine zg_blk zd_115 6 hs (rfl : zb x zT1 zc_115 6 (44, [some (.ref 32), o1, some (.int z2), o3, o4], [], h) = some (54, [some (.ref 32), o1, some (.int z2), some (.ref 36), o4], [.ref 35, .ref 32], h)) (fun hs => ?_)
  refine zg_pfr3 hs zd_115 rfl (fun hs => ?_)
  refine zg_blk zd_115 2 hs (rfl : zb x zT3 zc_115 2 (57, [some (.ref 32), o1, some (.int z2), some (.ref 36), o4], [], (zm_sr h 32 3 (some 35))) = some (59, [some (.ref 32), o1, some (.int z2), some (.ref 36), o4], [.ref 36, .ref 32], (zm_sr h 32 3 (some 35)))) (fun hs => ?_)
  refine zg_pfr4 hs zd_115 rfl (fun hs => ?_)
  exact zg_ret zd_115 rfl rfl (hF hs)
set_option maxRecDepth 100000 in
set_option maxHeartbeats 400000 in
theorem f_Waves_goAside_s_t {x : zm_X} {d : Nat} (p1 : Int32) (p2 : Int32) (h : zm_H) {Q : Option Value → zm_H → Prop} (hs : zSh zT1 h) (ho : f_Waves_goAside_s_ok p1 p2 h) (hF : (zSh zT0 (f_Waves_goAside_s p1 p2 h) → Q none (f_Waves_goAside_s p1 p2 h))) : zg x (d + 2) 115 0 [some (.ref 32), some (.int p1), some (.int p2), none, none] [] h Q := by
  unfold f_Waves_goAside_s at hF
  unfold f_Waves_goAside_s_ok at ho
  refine zg_blk zd_115 2 hs (rfl : zb x zT1 zc_115 2 (0, [some (.ref 32), some (.int p1), some (.int p2), none, none], [], h) = some (2, [some (.ref 32), some (.int p1), some (.int p2), some (.int 0), none], [], h)) (fun hs => ?_)
  refine f_Waves_goAside_s_l2_t p1 p2 (fun r => f_Waves_goAside_s_a2_ok r ∧ (zSh zT0 (f_Waves_goAside_s_a2 r) → Q none (f_Waves_goAside_s_a2 r))) ?_ zF 0 h (none) hs ho.1 ⟨ho.2, hF⟩
  · intro v3_ h_ o3_ o4_ hs hG
    have ho : True := trivial
    have hF : (zSh zT0 ((f_Waves_goAside_s_k44 h_)) → Q none ((f_Waves_goAside_s_k44 h_))) := hG.2
    exact f_Waves_goAside_s_k44_t h_ (some (.int p1)) p2 (o3_) (o4_) hs trivial hF
set_option maxRecDepth 100000 in
set_option maxHeartbeats 400000 in
theorem f_Waves_run_l44c_k82_t {x : zm_X} {d : Nat} (v1 : Int32) (v2 : Int32) (v4 : Int32) (h : zm_H) (o5 : Option Value) {Q : Option Value → zm_H → Prop} {FN : Nat × Int32 × zm_H → Prop} (hs : zSh zT0 h) (ho : f_Waves_run_l44c_k82_ok v1 v2 v4 h) (hF : FN (f_Waves_run_l44c_k82 v1 v2 v4 h)) (hl0 : ∀ (v4 : Int32) (h : zm_H) (o5 : Option Value), zSh zT0 h → FN (0, v4, h) → zg x (d + 3) 113 44 [some (.ref 32), some (.int v1), some (.int v2), some (.int 2), some (.int v4), o5] [] h Q) (hl1 : ∀ (v4 : Int32) (h : zm_H) (o4 : Option Value) (o5 : Option Value), zSh zT0 h → FN (1, v4, h) → zg x (d + 3) 113 88 [some (.ref 32), some (.int v1), some (.int v2), some (.int 2), o4, o5] [] h Q) : zg x (d + 3) 113 82 [some (.ref 32), some (.int v1), some (.int v2), some (.int 2), some (.int v4), o5] [] h Q := by
  unfold f_Waves_run_l44c_k82 at hF
  unfold f_Waves_run_l44c_k82_ok at ho
  refine zg_blk zd_113 2 hs (rfl : zb x zT0 zc_113 2 (82, [some (.ref 32), some (.int v1), some (.int v2), some (.int 2), some (.int v4), o5], [], h) = some (44, [some (.ref 32), some (.int v1), some (.int v2), some (.int 2), some (.int (v4 + 1)), o5], [], h)) (fun hs => ?_)
  exact hl0 (v4 + 1) h (o5) hs hF
set_option maxRecDepth 100000 in
set_option maxHeartbeats 400000 in
theorem f_Waves_run_l44c_b_t {x : zm_X} {d : Nat} (v1 : Int32) (v2 : Int32) (v4 : Int32) (h : zm_H) (o5 : Option Value) {Q : Option Value → zm_H → Prop} {FN : Nat × Int32 × zm_H → Prop} (hs : zSh zT0 h) (ho : f_Waves_run_l44c_b_ok v1 v2 v4 h) (hF : FN (f_Waves_run_l44c_b v1 v2 v4 h)) (hl0 : ∀ (v4 : Int32) (h : zm_H) (o5 : Option Value), zSh zT0 h → FN (0, v4, h) → zg x (d + 3) 113 44 [some (.ref 32), some (.int v1), some (.int v2), some (.int 2), some (.int v4), o5] [] h Q) (hl1 : ∀ (v4 : Int32) (h : zm_H) (o4 : Option Value) (o5 : Option Value), zSh zT0 h → FN (1, v4, h) → zg x (d + 3) 113 88 [some (.ref 32), some (.int v1), some (.int v2), some (.int 2), o4, o5] [] h Q) : zg x (d + 3) 113 44 [some (.ref 32), some (.int v1), some (.int v2), some (.int 2), some (.int v4), o5] [] h Q := by
  unfold f_Waves_run_l44c_b at hF
  unfold f_Waves_run_l44c_b_ok at ho
  refine zg_blk zd_113 2 hs (rfl : zb x zT0 zc_113 2 (44, [some (.ref 32), some (.int v1), some (.int v2), some (.int 2), some (.int v4), o5], [], h) = some (48, [some (.ref 32), some (.int v1), some (.int v2), some (.int 2), some (.int v4), o5], [.int 10, .int v4], h)) (fun hs => ?_)
  refine zg_i_ge zd_113 rfl (fun (hc : (10 ≤ v4)) => ?_) (fun (hc : ¬ (10 ≤ v4)) => ?_)
  · have ho := ho.1 hc
    rw [if_pos hc] at hF
    exact hl1 v4 h (some (.int v4)) (o5) hs hF
  · have ho := ho.2 hc
    rw [if_neg hc] at hF
    refine zg_blk zd_113 7 hs (rfl : zb x zT0 zc_113 7 (51, [some (.ref 32), some (.int v1), some (.int v2), some (.int 2), some (.int v4), o5], [], h) = some (62, [some (.ref 32), some (.int v1), some (.int v2), some (.int 2), some (.int v4), o5], [.int ((v4 * 10) + 2), .ref 33], h)) (fun hs => ?_)
    obtain ⟨hob, ho⟩ := ho
    refine zg_ial hs zd_113 rfl rfl hob ?_
    refine zg_blk zd_113 2 hs (rfl : zb x zT0 zc_113 2 (63, [some (.ref 32), some (.int v1), some (.int v2), some (.int 2), some (.int v4), o5], [.int (zr h 33 ((v4 * 10) + 2))], h) = some (67, [some (.ref 32), some (.int v1), some (.int v2), some (.int 2), some (.int v4), some (.int (zr h 33 ((v4 * 10) + 2)))], [.int (zr h 33 ((v4 * 10) + 2))], h)) (fun hs => ?_)
    refine zg_f_lt zd_113 rfl (fun (hc : ((zr h 33 ((v4 * 10) + 2)) < 0)) => ?_) (fun (hc : ¬ ((zr h 33 ((v4 * 10) + 2)) < 0)) => ?_)
    · have ho := ho.1 hc
      rw [if_pos hc] at hF
      exact f_Waves_run_l44c_k82_t v1 v2 v4 h (some (.int (zr h 33 ((v4 * 10) + 2)))) hs trivial hF hl0 hl1
    · have ho := ho.2 hc
      rw [if_neg hc] at hF
      refine zg_blk zd_113 4 hs (rfl : zb x zT0 zc_113 4 (70, [some (.ref 32), some (.int v1), some (.int v2), some (.int 2), some (.int v4), some (.int (zr h 33 ((v4 * 10) + 2)))], [], h) = some (76, [some (.ref 32), some (.int v1), some (.int v2), some (.int 2), some (.int v4), some (.int (zr h 33 ((v4 * 10) + 2)))], [.int v1, .int v4, .int (zr h 33 ((v4 * 10) + 2)), .ref 32], h)) (fun hs => ?_)
      refine zg_call hs zd_113 rfl rfl rfl rfl (as := [.int v1]) (rest := [.int v4, .int (zr h 33 ((v4 * 10) + 2)), .ref 32]) (en := [some (.int v1)]) rfl rfl rfl rfl rfl ?_
      refine f_N_periodOf_t v1 h hs trivial ?_
      show zg x (d + 3) 113 79 [some (.ref 32), some (.int v1), some (.int v2), some (.int 2), some (.int v4), some (.int (zr h 33 ((v4 * 10) + 2)))] [.int ((zm_rm v1 1000) / 10), .int v4, .int (zr h 33 ((v4 * 10) + 2)), .ref 32] h Q
      have hob := ho
      refine zg_call hs zd_113 rfl rfl rfl rfl (as := [.ref 32, .int (zr h 33 ((v4 * 10) + 2)), .int v4, .int ((zm_rm v1 1000) / 10)]) (rest := []) (en := [some (.ref 32), some (.int (zr h 33 ((v4 * 10) + 2))), some (.int v4), some (.int ((zm_rm v1 1000) / 10)), none, none]) rfl rfl rfl rfl rfl ?_
      refine f_Waves_take_t (zr h 33 ((v4 * 10) + 2)) v4 ((zm_rm v1 1000) / 10) h hs hob (fun hs => ?_)
      show zg x (d + 3) 113 82 [some (.ref 32), some (.int v1), some (.int v2), some (.int 2), some (.int v4), some (.int (zr h 33 ((v4 * 10) + 2)))] [] (f_Waves_take (zr h 33 ((v4 * 10) + 2)) v4 ((zm_rm v1 1000) / 10) h) Q
      exact f_Waves_run_l44c_k82_t v1 v2 v4 (f_Waves_take (zr h 33 ((v4 * 10) + 2)) v4 ((zm_rm v1 1000) / 10) h) (some (.int (zr h 33 ((v4 * 10) + 2)))) hs trivial hF hl0 hl1
theorem f_Waves_run_l44c_t {x : zm_X} {d : Nat} (v1 : Int32) (v2 : Int32) {Q : Option Value → zm_H → Prop} (G : Nat × Int32 × zm_H → Prop) (hx1 : ∀ (v4 : Int32) (h : zm_H) (o4 : Option Value) (o5 : Option Value), zSh zT0 h → G (1, v4, h) → zg x (d + 3) 113 88 [some (.ref 32), some (.int v1), some (.int v2), some (.int 2), o4, o5] [] h Q) : ∀ (n : Nat) (v4 : Int32) (h : zm_H) (o5 : Option Value), zSh zT0 h → f_Waves_run_l44c_ok v1 v2 n (v4, h) → G (f_Waves_run_l44c v1 v2 n (v4, h)) → zg x (d + 3) 113 44 [some (.ref 32), some (.int v1), some (.int v2), some (.int 2), some (.int v4), o5] [] h Q := by
  intro n
  induction n with
  | zero => intro v4 h o5 hs ho hG; exact ho.elim
  | succ n ih =>
    intro v4 h o5 hs ho hG
    refine f_Waves_run_l44c_b_t (FN := fun r => (r.1 = 0 → f_Waves_run_l44c_ok v1 v2 n r.2) ∧ G (if r.1 = 0 then f_Waves_run_l44c v1 v2 n r.2 else r)) v1 v2 v4 h o5 hs ho.1 ⟨ho.2, hG⟩ ?_ ?_
    · intro v4 h o5 hs hF
      exact ih v4 h o5 hs (hF.1 rfl) hF.2
    · intro v4 h o4 o5 hs hF
      exact hx1 v4 h o4 o5 hs hF.2

set_option maxRecDepth 100000 in
set_option maxHeartbeats 400000 in
theorem f_Waves_run_l44d_k82_t {x : zm_X} {d : Nat} (v1 : Int32) (v2 : Int32) (v4 : Int32) (h : zm_H) (o5 : Option Value) {Q : Option Value → zm_H → Prop} {FN : Nat × Int32 × zm_H → Prop} (hs : zSh zT1 h) (ho : f_Waves_run_l44d_k82_ok v1 v2 v4 h) (hF : FN (f_Waves_run_l44d_k82 v1 v2 v4 h)) (hl0 : ∀ (v4 : Int32) (h : zm_H) (o5 : Option Value), zSh zT1 h → FN (0, v4, h) → zg x (d + 3) 113 44 [some (.ref 32), some (.int v1), some (.int v2), some (.int 3), some (.int v4), o5] [] h Q) (hl1 : ∀ (v4 : Int32) (h : zm_H) (o4 : Option Value) (o5 : Option Value), zSh zT1 h → FN (1, v4, h) → zg x (d + 3) 113 88 [some (.ref 32), some (.int v1), some (.int v2), some (.int 3), o4, o5] [] h Q) : zg x (d + 3) 113 82 [some (.ref 32), some (.int v1), some (.int v2), some (.int 3), some (.int v4), o5] [] h Q := by
  unfold f_Waves_run_l44d_k82 at hF
  unfold f_Waves_run_l44d_k82_ok at ho
  refine zg_blk zd_113 2 hs (rfl : zb x zT1 zc_113 2 (82, [some (.ref 32), some (.int v1), some (.int v2), some (.int 3), some (.int v4), o5], [], h) = some (44, [some (.ref 32), some (.int v1), some (.int v2), some (.int 3), some (.int (v4 + 1)), o5], [], h)) (fun hs => ?_)
  exact hl0 (v4 + 1) h (o5) hs hF
set_option maxRecDepth 100000 in
set_option maxHeartbeats 400000 in
theorem f_Waves_run_l44d_b_t {x : zm_X} {d : Nat} (v1 : Int32) (v2 : Int32) (v4 : Int32) (h : zm_H) (o5 : Option Value) {Q : Option Value → zm_H → Prop} {FN : Nat × Int32 × zm_H → Prop} (hs : zSh zT1 h) (ho : f_Waves_run_l44d_b_ok v1 v2 v4 h) (hF : FN (f_Waves_run_l44d_b v1 v2 v4 h)) (hl0 : ∀ (v4 : Int32) (h : zm_H) (o5 : Option Value), zSh zT1 h → FN (0, v4, h) → zg x (d + 3) 113 44 [some (.ref 32), some (.int v1), some (.int v2), some (.int 3), some (.int v4), o5] [] h Q) (hl1 : ∀ (v4 : Int32) (h : zm_H) (o4 : Option Value) (o5 : Option Value), zSh zT1 h → FN (1, v4, h) → zg x (d + 3) 113 88 [some (.ref 32), some (.int v1), some (.int v2), some (.int 3), o4, o5] [] h Q) : zg x (d + 3) 113 44 [some (.ref 32), some (.int v1), some (.int v2), some (.int 3), some (.int v4), o5] [] h Q := by
  unfold f_Waves_run_l44d_b at hF
  unfold f_Waves_run_l44d_b_ok at ho
  refine zg_blk zd_113 2 hs (rfl : zb x zT1 zc_113 2 (44, [some (.ref 32), some (.int v1), some (.int v2), some (.int 3), some (.int v4), o5], [], h) = some (48, [some (.ref 32), some (.int v1), some (.int v2), some (.int 3), some (.int v4), o5], [.int 10, .int v4], h)) (fun hs => ?_)
  refine zg_i_ge zd_113 rfl (fun (hc : (10 ≤ v4)) => ?_) (fun (hc : ¬ (10 ≤ v4)) => ?_)
  · have ho := ho.1 hc
    rw [if_pos hc] at hF
    exact hl1 v4 h (some (.int v4)) (o5) hs hF
  · have ho := ho.2 hc
    rw [if_neg hc] at hF
    refine zg_blk zd_113 7 hs (rfl : zb x zT1 zc_113 7 (51, [some (.ref 32), some (.int v1), some (.int v2), some (.int 3), some (.int v4), o5], [], h) = some (62, [some (.ref 32), some (.int v1), some (.int v2), some (.int 3), some (.int v4), o5], [.int ((v4 * 10) + 3), .ref 33], h)) (fun hs => ?_)
    obtain ⟨hob, ho⟩ := ho
    refine zg_ial hs zd_113 rfl rfl hob ?_
    refine zg_blk zd_113 2 hs (rfl : zb x zT1 zc_113 2 (63, [some (.ref 32), some (.int v1), some (.int v2), some (.int 3), some (.int v4), o5], [.int (zr h 33 ((v4 * 10) + 3))], h) = some (67, [some (.ref 32), some (.int v1), some (.int v2), some (.int 3), some (.int v4), some (.int (zr h 33 ((v4 * 10) + 3)))], [.int (zr h 33 ((v4 * 10) + 3))], h)) (fun hs => ?_)
    refine zg_f_lt zd_113 rfl (fun (hc : ((zr h 33 ((v4 * 10) + 3)) < 0)) => ?_) (fun (hc : ¬ ((zr h 33 ((v4 * 10) + 3)) < 0)) => ?_)
    · have ho := ho.1 hc
      rw [if_pos hc] at hF
      exact f_Waves_run_l44d_k82_t v1 v2 v4 h (some (.int (zr h 33 ((v4 * 10) + 3)))) hs trivial hF hl0 hl1
    · have ho := ho.2 hc
      rw [if_neg hc] at hF
      refine zg_blk zd_113 4 hs (rfl : zb x zT1 zc_113 4 (70, [some (.ref 32), some (.int v1), some (.int v2), some (.int 3), some (.int v4), some (.int (zr h 33 ((v4 * 10) + 3)))], [], h) = some (76, [some (.ref 32), some (.int v1), some (.int v2), some (.int 3), some (.int v4), some (.int (zr h 33 ((v4 * 10) + 3)))], [.int v1, .int v4, .int (zr h 33 ((v4 * 10) + 3)), .ref 32], h)) (fun hs => ?_)
      refine zg_call hs zd_113 rfl rfl rfl rfl (as := [.int v1]) (rest := [.int v4, .int (zr h 33 ((v4 * 10) + 3)), .ref 32]) (en := [some (.int v1)]) rfl rfl rfl rfl rfl ?_
      refine f_N_periodOf_s_t v1 h hs trivial ?_
      show zg x (d + 3) 113 79 [some (.ref 32), some (.int v1), some (.int v2), some (.int 3), some (.int v4), some (.int (zr h 33 ((v4 * 10) + 3)))] [.int ((zm_rm v1 1000) / 10), .int v4, .int (zr h 33 ((v4 * 10) + 3)), .ref 32] h Q
      have hob := ho
      refine zg_call hs zd_113 rfl rfl rfl rfl (as := [.ref 32, .int (zr h 33 ((v4 * 10) + 3)), .int v4, .int ((zm_rm v1 1000) / 10)]) (rest := []) (en := [some (.ref 32), some (.int (zr h 33 ((v4 * 10) + 3))), some (.int v4), some (.int ((zm_rm v1 1000) / 10)), none, none]) rfl rfl rfl rfl rfl ?_
      refine f_Waves_take_s_t (zr h 33 ((v4 * 10) + 3)) v4 ((zm_rm v1 1000) / 10) h hs hob (fun hs => ?_)
      show zg x (d + 3) 113 82 [some (.ref 32), some (.int v1), some (.int v2), some (.int 3), some (.int v4), some (.int (zr h 33 ((v4 * 10) + 3)))] [] (f_Waves_take_s (zr h 33 ((v4 * 10) + 3)) v4 ((zm_rm v1 1000) / 10) h) Q
      exact f_Waves_run_l44d_k82_t v1 v2 v4 (f_Waves_take_s (zr h 33 ((v4 * 10) + 3)) v4 ((zm_rm v1 1000) / 10) h) (some (.int (zr h 33 ((v4 * 10) + 3)))) hs trivial hF hl0 hl1
theorem f_Waves_run_l44d_t {x : zm_X} {d : Nat} (v1 : Int32) (v2 : Int32) {Q : Option Value → zm_H → Prop} (G : Nat × Int32 × zm_H → Prop) (hx1 : ∀ (v4 : Int32) (h : zm_H) (o4 : Option Value) (o5 : Option Value), zSh zT1 h → G (1, v4, h) → zg x (d + 3) 113 88 [some (.ref 32), some (.int v1), some (.int v2), some (.int 3), o4, o5] [] h Q) : ∀ (n : Nat) (v4 : Int32) (h : zm_H) (o5 : Option Value), zSh zT1 h → f_Waves_run_l44d_ok v1 v2 n (v4, h) → G (f_Waves_run_l44d v1 v2 n (v4, h)) → zg x (d + 3) 113 44 [some (.ref 32), some (.int v1), some (.int v2), some (.int 3), some (.int v4), o5] [] h Q := by
  intro n
  induction n with
  | zero => intro v4 h o5 hs ho hG; exact ho.elim
  | succ n ih =>
    intro v4 h o5 hs ho hG
    refine f_Waves_run_l44d_b_t (FN := fun r => (r.1 = 0 → f_Waves_run_l44d_ok v1 v2 n r.2) ∧ G (if r.1 = 0 then f_Waves_run_l44d v1 v2 n r.2 else r)) v1 v2 v4 h o5 hs ho.1 ⟨ho.2, hG⟩ ?_ ?_
    · intro v4 h o5 hs hF
      exact ih v4 h o5 hs (hF.1 rfl) hF.2
    · intro v4 h o4 o5 hs hF
      exact hx1 v4 h o4 o5 hs hF.2

set_option maxRecDepth 100000 in
set_option maxHeartbeats 400000 in
theorem f_Waves_run_l44e_k82_t {x : zm_X} {d : Nat} (v1 : Int32) (v2 : Int32) (v4 : Int32) (h : zm_H) (o5 : Option Value) {Q : Option Value → zm_H → Prop} {FN : Nat × Int32 × zm_H → Prop} (hs : zSh zT0 h) (ho : f_Waves_run_l44e_k82_ok v1 v2 v4 h) (hF : FN (f_Waves_run_l44e_k82 v1 v2 v4 h)) (hl0 : ∀ (v4 : Int32) (h : zm_H) (o5 : Option Value), zSh zT0 h → FN (0, v4, h) → zg x (d + 3) 113 44 [some (.ref 32), some (.int v1), some (.int v2), some (.int 4), some (.int v4), o5] [] h Q) (hl1 : ∀ (v4 : Int32) (h : zm_H) (o4 : Option Value) (o5 : Option Value), zSh zT0 h → FN (1, v4, h) → zg x (d + 3) 113 88 [some (.ref 32), some (.int v1), some (.int v2), some (.int 4), o4, o5] [] h Q) : zg x (d + 3) 113 82 [some (.ref 32), some (.int v1), some (.int v2), some (.int 4), some (.int v4), o5] [] h Q := by
  unfold f_Waves_run_l44e_k82 at hF
  unfold f_Waves_run_l44e_k82_ok at ho
  refine zg_blk zd_113 2 hs (rfl : zb x zT0 zc_113 2 (82, [some (.ref 32), some (.int v1), some (.int v2), some (.int 4), some (.int v4), o5], [], h) = some (44, [some (.ref 32), some (.int v1), some (.int v2), some (.int 4), some (.int (v4 + 1)), o5], [], h)) (fun hs => ?_)
  exact hl0 (v4 + 1) h (o5) hs hF
set_option maxRecDepth 100000 in
set_option maxHeartbeats 400000 in
theorem f_Waves_run_l44e_b_t {x : zm_X} {d : Nat} (v1 : Int32) (v2 : Int32) (v4 : Int32) (h : zm_H) (o5 : Option Value) {Q : Option Value → zm_H → Prop} {FN : Nat × Int32 × zm_H → Prop} (hs : zSh zT0 h) (ho : f_Waves_run_l44e_b_ok v1 v2 v4 h) (hF : FN (f_Waves_run_l44e_b v1 v2 v4 h)) (hl0 : ∀ (v4 : Int32) (h : zm_H) (o5 : Option Value), zSh zT0 h → FN (0, v4, h) → zg x (d + 3) 113 44 [some (.ref 32), some (.int v1), some (.int v2), some (.int 4), some (.int v4), o5] [] h Q) (hl1 : ∀ (v4 : Int32) (h : zm_H) (o4 : Option Value) (o5 : Option Value), zSh zT0 h → FN (1, v4, h) → zg x (d + 3) 113 88 [some (.ref 32), some (.int v1), some (.int v2), some (.int 4), o4, o5] [] h Q) : zg x (d + 3) 113 44 [some (.ref 32), some (.int v1), some (.int v2), some (.int 4), some (.int v4), o5] [] h Q := by
  unfold f_Waves_run_l44e_b at hF
  unfold f_Waves_run_l44e_b_ok at ho
  refine zg_blk zd_113 2 hs (rfl : zb x zT0 zc_113 2 (44, [some (.ref 32), some (.int v1), some (.int v2), some (.int 4), some (.int v4), o5], [], h) = some (48, [some (.ref 32), some (.int v1), some (.int v2), some (.int 4), some (.int v4), o5], [.int 10, .int v4], h)) (fun hs => ?_)
  refine zg_i_ge zd_113 rfl (fun (hc : (10 ≤ v4)) => ?_) (fun (hc : ¬ (10 ≤ v4)) => ?_)
  · have ho := ho.1 hc
    rw [if_pos hc] at hF
    exact hl1 v4 h (some (.int v4)) (o5) hs hF
  · have ho := ho.2 hc
    rw [if_neg hc] at hF
    refine zg_blk zd_113 7 hs (rfl : zb x zT0 zc_113 7 (51, [some (.ref 32), some (.int v1), some (.int v2), some (.int 4), some (.int v4), o5], [], h) = some (62, [some (.ref 32), some (.int v1), some (.int v2), some (.int 4), some (.int v4), o5], [.int ((v4 * 10) + 4), .ref 33], h)) (fun hs => ?_)
    obtain ⟨hob, ho⟩ := ho
    refine zg_ial hs zd_113 rfl rfl hob ?_
    refine zg_blk zd_113 2 hs (rfl : zb x zT0 zc_113 2 (63, [some (.ref 32), some (.int v1), some (.int v2), some (.int 4), some (.int v4), o5], [.int (zr h 33 ((v4 * 10) + 4))], h) = some (67, [some (.ref 32), some (.int v1), some (.int v2), some (.int 4), some (.int v4), some (.int (zr h 33 ((v4 * 10) + 4)))], [.int (zr h 33 ((v4 * 10) + 4))], h)) (fun hs => ?_)
    refine zg_f_lt zd_113 rfl (fun (hc : ((zr h 33 ((v4 * 10) + 4)) < 0)) => ?_) (fun (hc : ¬ ((zr h 33 ((v4 * 10) + 4)) < 0)) => ?_)
    · have ho := ho.1 hc
      rw [if_pos hc] at hF
      exact f_Waves_run_l44e_k82_t v1 v2 v4 h (some (.int (zr h 33 ((v4 * 10) + 4)))) hs trivial hF hl0 hl1
    · have ho := ho.2 hc
      rw [if_neg hc] at hF
      refine zg_blk zd_113 4 hs (rfl : zb x zT0 zc_113 4 (70, [some (.ref 32), some (.int v1), some (.int v2), some (.int 4), some (.int v4), some (.int (zr h 33 ((v4 * 10) + 4)))], [], h) = some (76, [some (.ref 32), some (.int v1), some (.int v2), some (.int 4), some (.int v4), some (.int (zr h 33 ((v4 * 10) + 4)))], [.int v1, .int v4, .int (zr h 33 ((v4 * 10) + 4)), .ref 32], h)) (fun hs => ?_)
      refine zg_call hs zd_113 rfl rfl rfl rfl (as := [.int v1]) (rest := [.int v4, .int (zr h 33 ((v4 * 10) + 4)), .ref 32]) (en := [some (.int v1)]) rfl rfl rfl rfl rfl ?_
      refine f_N_periodOf_t v1 h hs trivial ?_
      show zg x (d + 3) 113 79 [some (.ref 32), some (.int v1), some (.int v2), some (.int 4), some (.int v4), some (.int (zr h 33 ((v4 * 10) + 4)))] [.int ((zm_rm v1 1000) / 10), .int v4, .int (zr h 33 ((v4 * 10) + 4)), .ref 32] h Q
      have hob := ho
      refine zg_call hs zd_113 rfl rfl rfl rfl (as := [.ref 32, .int (zr h 33 ((v4 * 10) + 4)), .int v4, .int ((zm_rm v1 1000) / 10)]) (rest := []) (en := [some (.ref 32), some (.int (zr h 33 ((v4 * 10) + 4))), some (.int v4), some (.int ((zm_rm v1 1000) / 10)), none, none]) rfl rfl rfl rfl rfl ?_
      refine f_Waves_take_t (zr h 33 ((v4 * 10) + 4)) v4 ((zm_rm v1 1000) / 10) h hs hob (fun hs => ?_)
      show zg x (d + 3) 113 82 [some (.ref 32), some (.int v1), some (.int v2), some (.int 4), some (.int v4), some (.int (zr h 33 ((v4 * 10) + 4)))] [] (f_Waves_take (zr h 33 ((v4 * 10) + 4)) v4 ((zm_rm v1 1000) / 10) h) Q
      exact f_Waves_run_l44e_k82_t v1 v2 v4 (f_Waves_take (zr h 33 ((v4 * 10) + 4)) v4 ((zm_rm v1 1000) / 10) h) (some (.int (zr h 33 ((v4 * 10) + 4)))) hs trivial hF hl0 hl1
theorem f_Waves_run_l44e_t {x : zm_X} {d : Nat} (v1 : Int32) (v2 : Int32) {Q : Option Value → zm_H → Prop} (G : Nat × Int32 × zm_H → Prop) (hx1 : ∀ (v4 : Int32) (h : zm_H) (o4 : Option Value) (o5 : Option Value), zSh zT0 h → G (1, v4, h) → zg x (d + 3) 113 88 [some (.ref 32), some (.int v1), some (.int v2), some (.int 4), o4, o5] [] h Q) : ∀ (n : Nat) (v4 : Int32) (h : zm_H) (o5 : Option Value), zSh zT0 h → f_Waves_run_l44e_ok v1 v2 n (v4, h) → G (f_Waves_run_l44e v1 v2 n (v4, h)) → zg x (d + 3) 113 44 [some (.ref 32), some (.int v1), some (.int v2), some (.int 4), some (.int v4), o5] [] h Q := by
  intro n
  induction n with
  | zero => intro v4 h o5 hs ho hG; exact ho.elim
  | succ n ih =>
    intro v4 h o5 hs ho hG
    refine f_Waves_run_l44e_b_t (FN := fun r => (r.1 = 0 → f_Waves_run_l44e_ok v1 v2 n r.2) ∧ G (if r.1 = 0 then f_Waves_run_l44e v1 v2 n r.2 else r)) v1 v2 v4 h o5 hs ho.1 ⟨ho.2, hG⟩ ?_ ?_
    · intro v4 h o5 hs hF
      exact ih v4 h o5 hs (hF.1 rfl) hF.2
    · intro v4 h o4 o5 hs hF
      exact hx1 v4 h o4 o5 hs hF.2

set_option maxRecDepth 100000 in
set_option maxHeartbeats 400000 in
theorem f_Waves_run_k88e_t {x : zm_X} {d : Nat} (v1 : Int32) (v2 : Int32) (h : zm_H) (o4 : Option Value) (o5 : Option Value) {Q : Option Value → zm_H → Prop} (hs : zSh zT0 h) (ho : f_Waves_run_k88e_ok v1 v2 h) (hF : (zSh zT0 (f_Waves_run_k88e v1 v2 h) → Q none (f_Waves_run_k88e v1 v2 h))) : zg x (d + 3) 113 88 [some (.ref 32), some (.int v1), some (.int v2), some (.int 4), o4, o5] [] h Q := by
  unfold f_Waves_run_k88e at hF
  unfold f_Waves_run_k88e_ok at ho
  refine zg_blk zd_113 4 hs (rfl : zb x zT0 zc_113 4 (88, [some (.ref 32), some (.int v1), some (.int v2), some (.int 4), o4, o5], [], h) = some (25, [some (.ref 32), some (.int v1), some (.int v2), some (.int 5), o4, o5], [.int 5, .int 5], h)) (fun hs => ?_)
  refine zg_i_ge zd_113 rfl (fun _ => ?_) (fun hc => absurd (by decide) hc)
  exact zg_ret zd_113 rfl rfl (hF hs)
set_option maxRecDepth 100000 in
set_option maxHeartbeats 400000 in
theorem f_Waves_run_k41e_t {x : zm_X} {d : Nat} (v1 : Int32) (v2 : Int32) (h : zm_H) (o4 : Option Value) (o5 : Option Value) {Q : Option Value → zm_H → Prop} (hs : zSh zT0 h) (ho : f_Waves_run_k41e_ok v1 v2 h) (hF : (zSh zT0 (f_Waves_run_k41e v1 v2 h) → Q none (f_Waves_run_k41e v1 v2 h))) : zg x (d + 3) 113 41 [some (.ref 32), some (.int v1), some (.int v2), some (.int 4), o4, o5] [] h Q := by
  unfold f_Waves_run_k41e at hF
  unfold f_Waves_run_k41e_ok at ho
  refine zg_blk zd_113 2 hs (rfl : zb x zT0 zc_113 2 (41, [some (.ref 32), some (.int v1), some (.int v2), some (.int 4), o4, o5], [], h) = some (44, [some (.ref 32), some (.int v1), some (.int v2), some (.int 4), some (.int 0), o5], [], h)) (fun hs => ?_)
  refine f_Waves_run_l44e_t v1 v2 (fun r => f_Waves_run_a44_4_ok v1 v2 r ∧ (zSh zT0 (f_Waves_run_a44_4 v1 v2 r) → Q none (f_Waves_run_a44_4 v1 v2 r))) ?_ zF 0 h (o5) hs ho.1 ⟨ho.2, hF⟩
  · intro v4_ h_ o4_ o5_ hs hG
    have ho : True := trivial
    have hF : (zSh zT0 ((f_Waves_run_k88e v1 v2 h_)) → Q none ((f_Waves_run_k88e v1 v2 h_))) := hG.2
    exact f_Waves_run_k88e_t v1 v2 h_ (o4_) (o5_) hs trivial hF
set_option maxRecDepth 100000 in
set_option maxHeartbeats 400000 in
theorem f_Waves_run_k88d_t {x : zm_X} {d : Nat} (v1 : Int32) (v2 : Int32) (h : zm_H) (o4 : Option Value) (o5 : Option Value) {Q : Option Value → zm_H → Prop} (hs : zSh zT1 h) (ho : f_Waves_run_k88d_ok v1 v2 h) (hF : (zSh zT0 (f_Waves_run_k88d v1 v2 h) → Q none (f_Waves_run_k88d v1 v2 h))) : zg x (d + 3) 113 88 [some (.ref 32), some (.int v1), some (.int v2), some (.int 3), o4, o5] [] h Q := by
  unfold f_Waves_run_k88d at hF
  unfold f_Waves_run_k88d_ok at ho
  refine zg_blk zd_113 4 hs (rfl : zb x zT1 zc_113 4 (88, [some (.ref 32), some (.int v1), some (.int v2), some (.int 3), o4, o5], [], h) = some (25, [some (.ref 32), some (.int v1), some (.int v2), some (.int 4), o4, o5], [.int 5, .int 4], h)) (fun hs => ?_)
  refine zg_i_ge zd_113 rfl (fun hc => absurd hc (by decide)) (fun _ => ?_)
  refine zg_blk zd_113 1 hs (rfl : zb x zT1 zc_113 1 (28, [some (.ref 32), some (.int v1), some (.int v2), some (.int 4), o4, o5], [], h) = some (29, [some (.ref 32), some (.int v1), some (.int v2), some (.int 4), o4, o5], [.int 4], h)) (fun hs => ?_)
  refine zg_f_le zd_113 rfl (fun hc => absurd hc (by decide)) (fun _ => ?_)
  refine zg_blk zd_113 2 hs (rfl : zb x zT1 zc_113 2 (32, [some (.ref 32), some (.int v1), some (.int v2), some (.int 4), o4, o5], [], h) = some (34, [some (.ref 32), some (.int v1), some (.int v2), some (.int 4), o4, o5], [.int v1, .ref 32], h)) (fun hs => ?_)
  refine zg_call hs zd_113 rfl rfl rfl rfl (as := [.int v1]) (rest := [.ref 32]) (en := [some (.int v1)]) rfl rfl rfl rfl rfl ?_
  refine f_N_wayOf_s_t v1 h hs trivial ?_
  show zg x (d + 3) 113 37 [some (.ref 32), some (.int v1), some (.int v2), some (.int 4), o4, o5] [.int ((zm_rm v1 10) - 1), .ref 32] h Q
  refine zg_blk zd_113 1 hs (rfl : zb x zT1 zc_113 1 (37, [some (.ref 32), some (.int v1), some (.int v2), some (.int 4), o4, o5], [.int ((zm_rm v1 10) - 1), .ref 32], h) = some (38, [some (.ref 32), some (.int v1), some (.int v2), some (.int 4), o4, o5], [.int v2, .int ((zm_rm v1 10) - 1), .ref 32], h)) (fun hs => ?_)
  obtain ⟨hob, ho⟩ := ho
  refine zg_call hs zd_113 rfl rfl rfl rfl (as := [.ref 32, .int ((zm_rm v1 10) - 1), .int v2]) (rest := []) (en := [some (.ref 32), some (.int ((zm_rm v1 10) - 1)), some (.int v2), none, none]) rfl rfl rfl rfl rfl ?_
  refine f_Waves_goAside_s_t ((zm_rm v1 10) - 1) v2 h hs hob (fun hs => ?_)
  show zg x (d + 3) 113 41 [some (.ref 32), some (.int v1), some (.int v2), some (.int 4), o4, o5] [] (f_Waves_goAside_s ((zm_rm v1 10) - 1) v2 h) Q
  exact f_Waves_run_k41e_t v1 v2 (f_Waves_goAside_s ((zm_rm v1 10) - 1) v2 h) (o4) (o5) hs ho hF
set_option maxRecDepth 100000 in
set_option maxHeartbeats 400000 in
theorem f_Waves_run_k41d_t {x : zm_X} {d : Nat} (v1 : Int32) (v2 : Int32) (h : zm_H) (o4 : Option Value) (o5 : Option Value) {Q : Option Value → zm_H → Prop} (hs : zSh zT1 h) (ho : f_Waves_run_k41d_ok v1 v2 h) (hF : (zSh zT0 (f_Waves_run_k41d v1 v2 h) → Q none (f_Waves_run_k41d v1 v2 h))) : zg x (d + 3) 113 41 [some (.ref 32), some (.int v1), some (.int v2), some (.int 3), o4, o5] [] h Q := by
  unfold f_Waves_run_k41d at hF
  unfold f_Waves_run_k41d_ok at ho
  refine zg_blk zd_113 2 hs (rfl : zb x zT1 zc_113 2 (41, [some (.ref 32), some (.int v1), some (.int v2), some (.int 3), o4, o5], [], h) = some (44, [some (.ref 32), some (.int v1), some (.int v2), some (.int 3), some (.int 0), o5], [], h)) (fun hs => ?_)
  refine f_Waves_run_l44d_t v1 v2 (fun r => f_Waves_run_a44_3_ok v1 v2 r ∧ (zSh zT0 (f_Waves_run_a44_3 v1 v2 r) → Q none (f_Waves_run_a44_3 v1 v2 r))) ?_ zF 0 h (o5) hs ho.1 ⟨ho.2, hF⟩
  · intro v4_ h_ o4_ o5_ hs hG
    have ho : (f_Waves_run_k88d_ok v1 v2 h_) := hG.1
    have hF : (zSh zT0 ((f_Waves_run_k88d v1 v2 h_)) → Q none ((f_Waves_run_k88d v1 v2 h_))) := hG.2
    exact f_Waves_run_k88d_t v1 v2 h_ (o4_) (o5_) hs ho hF
set_option maxRecDepth 100000 in
set_option maxHeartbeats 400000 in
theorem f_Waves_run_k88c_t {x : zm_X} {d : Nat} (v1 : Int32) (v2 : Int32) (h : zm_H) (o4 : Option Value) (o5 : Option Value) {Q : Option Value → zm_H → Prop} (hs : zSh zT0 h) (ho : f_Waves_run_k88c_ok v1 v2 h) (hF : (zSh zT0 (f_Waves_run_k88c v1 v2 h) → Q none (f_Waves_run_k88c v1 v2 h))) : zg x (d + 3) 113 88 [some (.ref 32), some (.int v1), some (.int v2), some (.int 2), o4, o5] [] h Q := by
  unfold f_Waves_run_k88c at hF
  unfold f_Waves_run_k88c_ok at ho
  refine zg_blk zd_113 4 hs (rfl : zb x zT0 zc_113 4 (88, [some (.ref 32), some (.int v1), some (.int v2), some (.int 2), o4, o5], [], h) = some (25, [some (.ref 32), some (.int v1), some (.int v2), some (.int 3), o4, o5], [.int 5, .int 3], h)) (fun hs => ?_)
  refine zg_i_ge zd_113 rfl (fun hc => absurd hc (by decide)) (fun _ => ?_)
  refine zg_blk zd_113 1 hs (rfl : zb x zT0 zc_113 1 (28, [some (.ref 32), some (.int v1), some (.int v2), some (.int 3), o4, o5], [], h) = some (29, [some (.ref 32), some (.int v1), some (.int v2), some (.int 3), o4, o5], [.int 3], h)) (fun hs => ?_)
  refine zg_f_le zd_113 rfl (fun hc => absurd hc (by decide)) (fun _ => ?_)
  refine zg_blk zd_113 2 hs (rfl : zb x zT0 zc_113 2 (32, [some (.ref 32), some (.int v1), some (.int v2), some (.int 3), o4, o5], [], h) = some (34, [some (.ref 32), some (.int v1), some (.int v2), some (.int 3), o4, o5], [.int v1, .ref 32], h)) (fun hs => ?_)
  refine zg_call hs zd_113 rfl rfl rfl rfl (as := [.int v1]) (rest := [.ref 32]) (en := [some (.int v1)]) rfl rfl rfl rfl rfl ?_
  refine f_N_wayOf_t v1 h hs trivial ?_
  show zg x (d + 3) 113 37 [some (.ref 32), some (.int v1), some (.int v2), some (.int 3), o4, o5] [.int ((zm_rm v1 10) - 1), .ref 32] h Q
  refine zg_blk zd_113 1 hs (rfl : zb x zT0 zc_113 1 (37, [some (.ref 32), some (.int v1), some (.int v2), some (.int 3), o4, o5], [.int ((zm_rm v1 10) - 1), .ref 32], h) = some (38, [some (.ref 32), some (.int v1), some (.int v2), some (.int 3), o4, o5], [.int v2, .int ((zm_rm v1 10) - 1), .ref 32], h)) (fun hs => ?_)
  obtain ⟨hob, ho⟩ := ho
  refine zg_call hs zd_113 rfl rfl rfl rfl (as := [.ref 32, .int ((zm_rm v1 10) - 1), .int v2]) (rest := []) (en := [some (.ref 32), some (.int ((zm_rm v1 10) - 1)), some (.int v2), none, none]) rfl rfl rfl rfl rfl ?_
  refine f_Waves_goAside_t ((zm_rm v1 10) - 1) v2 h hs hob (fun hs => ?_)
  show zg x (d + 3) 113 41 [some (.ref 32), some (.int v1), some (.int v2), some (.int 3), o4, o5] [] (f_Waves_goAside ((zm_rm v1 10) - 1) v2 h) Q
  exact f_Waves_run_k41d_t v1 v2 (f_Waves_goAside ((zm_rm v1 10) - 1) v2 h) (o4) (o5) hs ho hF
set_option maxRecDepth 100000 in
set_option maxHeartbeats 400000 in
theorem f_Waves_run_k41c_t {x : zm_X} {d : Nat} (v1 : Int32) (v2 : Int32) (h : zm_H) (o4 : Option Value) (o5 : Option Value) {Q : Option Value → zm_H → Prop} (hs : zSh zT0 h) (ho : f_Waves_run_k41c_ok v1 v2 h) (hF : (zSh zT0 (f_Waves_run_k41c v1 v2 h) → Q none (f_Waves_run_k41c v1 v2 h))) : zg x (d + 3) 113 41 [some (.ref 32), some (.int v1), some (.int v2), some (.int 2), o4, o5] [] h Q := by
  unfold f_Waves_run_k41c at hF
  unfold f_Waves_run_k41c_ok at ho
  refine zg_blk zd_113 2 hs (rfl : zb x zT0 zc_113 2 (41, [some (.ref 32), some (.int v1), some (.int v2), some (.int 2), o4, o5], [], h) = some (44, [some (.ref 32), some (.int v1), some (.int v2), some (.int 2), some (.int 0), o5], [], h)) (fun hs => ?_)
  refine f_Waves_run_l44c_t v1 v2 (fun r => f_Waves_run_a44_2_ok v1 v2 r ∧ (zSh zT0 (f_Waves_run_a44_2 v1 v2 r) → Q none (f_Waves_run_a44_2 v1 v2 r))) ?_ zF 0 h (o5) hs ho.1 ⟨ho.2, hF⟩
  · intro v4_ h_ o4_ o5_ hs hG
    have ho : (f_Waves_run_k88c_ok v1 v2 h_) := hG.1
    have hF : (zSh zT0 ((f_Waves_run_k88c v1 v2 h_)) → Q none ((f_Waves_run_k88c v1 v2 h_))) := hG.2
    exact f_Waves_run_k88c_t v1 v2 h_ (o4_) (o5_) hs ho hF
set_option maxRecDepth 100000 in
set_option maxHeartbeats 400000 in
theorem f_Waves_run_k88b_t {x : zm_X} {d : Nat} (v1 : Int32) (v2 : Int32) (h : zm_H) (o4 : Option Value) (o5 : Option Value) {Q : Option Value → zm_H → Prop} (hs : zSh zT1 h) (ho : f_Waves_run_k88b_ok v1 v2 h) (hF : (zSh zT0 (f_Waves_run_k88b v1 v2 h) → Q none (f_Waves_run_k88b v1 v2 h))) : zg x (d + 3) 113 88 [some (.ref 32), some (.int v1), some (.int v2), some (.int 1), o4, o5] [] h Q := by
  unfold f_Waves_run_k88b at hF
  unfold f_Waves_run_k88b_ok at ho
  refine zg_blk zd_113 4 hs (rfl : zb x zT1 zc_113 4 (88, [some (.ref 32), some (.int v1), some (.int v2), some (.int 1), o4, o5], [], h) = some (25, [some (.ref 32), some (.int v1), some (.int v2), some (.int 2), o4, o5], [.int 5, .int 2], h)) (fun hs => ?_)
  refine zg_i_ge zd_113 rfl (fun hc => absurd hc (by decide)) (fun _ => ?_)
  refine zg_blk zd_113 1 hs (rfl : zb x zT1 zc_113 1 (28, [some (.ref 32), some (.int v1), some (.int v2), some (.int 2), o4, o5], [], h) = some (29, [some (.ref 32), some (.int v1), some (.int v2), some (.int 2), o4, o5], [.int 2], h)) (fun hs => ?_)
  refine zg_f_le zd_113 rfl (fun hc => absurd hc (by decide)) (fun _ => ?_)
  refine zg_blk zd_113 2 hs (rfl : zb x zT1 zc_113 2 (32, [some (.ref 32), some (.int v1), some (.int v2), some (.int 2), o4, o5], [], h) = some (34, [some (.ref 32), some (.int v1), some (.int v2), some (.int 2), o4, o5], [.int v1, .ref 32], h)) (fun hs => ?_)
  refine zg_call hs zd_113 rfl rfl rfl rfl (as := [.int v1]) (rest := [.ref 32]) (en := [some (.int v1)]) rfl rfl rfl rfl rfl ?_
  refine f_N_wayOf_s_t v1 h hs trivial ?_
  show zg x (d + 3) 113 37 [some (.ref 32), some (.int v1), some (.int v2), some (.int 2), o4, o5] [.int ((zm_rm v1 10) - 1), .ref 32] h Q
  refine zg_blk zd_113 1 hs (rfl : zb x zT1 zc_113 1 (37, [some (.ref 32), some (.int v1), some (.int v2), some (.int 2), o4, o5], [.int ((zm_rm v1 10) - 1), .ref 32], h) = some (38, [some (.ref 32), some (.int v1), some (.int v2), some (.int 2), o4, o5], [.int v2, .int ((zm_rm v1 10) - 1), .ref 32], h)) (fun hs => ?_)
  obtain ⟨hob, ho⟩ := ho
  refine zg_call hs zd_113 rfl rfl rfl rfl (as := [.ref 32, .int ((zm_rm v1 10) - 1), .int v2]) (rest := []) (en := [some (.ref 32), some (.int ((zm_rm v1 10) - 1)), some (.int v2), none, none]) rfl rfl rfl rfl rfl ?_
  refine f_Waves_goAside_s_t ((zm_rm v1 10) - 1) v2 h hs hob (fun hs => ?_)
  show zg x (d + 3) 113 41 [some (.ref 32), some (.int v1), some (.int v2), some (.int 2), o4, o5] [] (f_Waves_goAside_s ((zm_rm v1 10) - 1) v2 h) Q
  exact f_Waves_run_k41c_t v1 v2 (f_Waves_goAside_s ((zm_rm v1 10) - 1) v2 h) (o4) (o5) hs ho hF
set_option maxRecDepth 100000 in
set_option maxHeartbeats 400000 in
theorem f_Waves_run_k41b_t {x : zm_X} {d : Nat} (v1 : Int32) (v2 : Int32) (h : zm_H) (o4 : Option Value) (o5 : Option Value) {Q : Option Value → zm_H → Prop} (hs : zSh zT1 h) (ho : f_Waves_run_k41b_ok v1 v2 h) (hF : (zSh zT0 (f_Waves_run_k41b v1 v2 h) → Q none (f_Waves_run_k41b v1 v2 h))) : zg x (d + 3) 113 41 [some (.ref 32), some (.int v1), some (.int v2), some (.int 1), o4, o5] [] h Q := by
  unfold f_Waves_run_k41b at hF
  unfold f_Waves_run_k41b_ok at ho
  refine zg_blk zd_113 2 hs (rfl : zb x zT1 zc_113 2 (41, [some (.ref 32), some (.int v1), some (.int v2), some (.int 1), o4, o5], [], h) = some (44, [some (.ref 32), some (.int v1), some (.int v2), some (.int 1), some (.int 0), o5], [], h)) (fun hs => ?_)
  refine f_Waves_run_l44b_t v1 v2 (fun r => f_Waves_run_a44_1_ok v1 v2 r ∧ (zSh zT0 (f_Waves_run_a44_1 v1 v2 r) → Q none (f_Waves_run_a44_1 v1 v2 r))) ?_ zF 0 h (o5) hs ho.1 ⟨ho.2, hF⟩
  · intro v4_ h_ o4_ o5_ hs hG
    have ho : (f_Waves_run_k88b_ok v1 v2 h_) := hG.1
    have hF : (zSh zT0 ((f_Waves_run_k88b v1 v2 h_)) → Q none ((f_Waves_run_k88b v1 v2 h_))) := hG.2
    exact f_Waves_run_k88b_t v1 v2 h_ (o4_) (o5_) hs ho hF
set_option maxRecDepth 100000 in
set_option maxHeartbeats 400000 in
theorem f_Waves_run_k88_t {x : zm_X} {d : Nat} (v1 : Int32) (v2 : Int32) (h : zm_H) (o4 : Option Value) (o5 : Option Value) {Q : Option Value → zm_H → Prop} (hs : zSh zT0 h) (ho : f_Waves_run_k88_ok v1 v2 h) (hF : (zSh zT0 (f_Waves_run_k88 v1 v2 h) → Q none (f_Waves_run_k88 v1 v2 h))) : zg x (d + 3) 113 88 [some (.ref 32), some (.int v1), some (.int v2), some (.int 0), o4, o5] [] h Q := by
  unfold f_Waves_run_k88 at hF
  unfold f_Waves_run_k88_ok at ho
  refine zg_blk zd_113 4 hs (rfl : zb x zT0 zc_113 4 (88, [some (.ref 32), some (.int v1), some (.int v2), some (.int 0), o4, o5], [], h) = some (25, [some (.ref 32), some (.int v1), some (.int v2), some (.int 1), o4, o5], [.int 5, .int 1], h)) (fun hs => ?_)
  refine zg_i_ge zd_113 rfl (fun hc => absurd hc (by decide)) (fun _ => ?_)
  refine zg_blk zd_113 1 hs (rfl : zb x zT0 zc_113 1 (28, [some (.ref 32), some (.int v1), some (.int v2), some (.int 1), o4, o5], [], h) = some (29, [some (.ref 32), some (.int v1), some (.int v2), some (.int 1), o4, o5], [.int 1], h)) (fun hs => ?_)
  refine zg_f_le zd_113 rfl (fun hc => absurd hc (by decide)) (fun _ => ?_)
  refine zg_blk zd_113 2 hs (rfl : zb x zT0 zc_113 2 (32, [some (.ref 32), some (.int v1), some (.int v2), some (.int 1), o4, o5], [], h) = some (34, [some (.ref 32), some (.int v1), some (.int v2), some (.int 1), o4, o5], [.int v1, .ref 32], h)) (fun hs => ?_)
  refine zg_call hs zd_113 rfl rfl rfl rfl (as := [.int v1]) (rest := [.ref 32]) (en := [some (.int v1)]) rfl rfl rfl rfl rfl ?_
  refine f_N_wayOf_t v1 h hs trivial ?_
  show zg x (d + 3) 113 37 [some (.ref 32), some (.int v1), some (.int v2), some (.int 1), o4, o5] [.int ((zm_rm v1 10) - 1), .ref 32] h Q
  refine zg_blk zd_113 1 hs (rfl : zb x zT0 zc_113 1 (37, [some (.ref 32), some (.int v1), some (.int v2), some (.int 1), o4, o5], [.int ((zm_rm v1 10) - 1), .ref 32], h) = some (38, [some (.ref 32), some (.int v1), some (.int v2), some (.int 1), o4, o5], [.int v2, .int ((zm_rm v1 10) - 1), .ref 32], h)) (fun hs => ?_)
  obtain ⟨hob, ho⟩ := ho
  refine zg_call hs zd_113 rfl rfl rfl rfl (as := [.ref 32, .int ((zm_rm v1 10) - 1), .int v2]) (rest := []) (en := [some (.ref 32), some (.int ((zm_rm v1 10) - 1)), some (.int v2), none, none]) rfl rfl rfl rfl rfl ?_
  refine f_Waves_goAside_t ((zm_rm v1 10) - 1) v2 h hs hob (fun hs => ?_)
  show zg x (d + 3) 113 41 [some (.ref 32), some (.int v1), some (.int v2), some (.int 1), o4, o5] [] (f_Waves_goAside ((zm_rm v1 10) - 1) v2 h) Q
  exact f_Waves_run_k41b_t v1 v2 (f_Waves_goAside ((zm_rm v1 10) - 1) v2 h) (o4) (o5) hs ho hF
set_option maxRecDepth 100000 in
set_option maxHeartbeats 400000 in
theorem f_Waves_run_k41_t {x : zm_X} {d : Nat} (v1 : Int32) (v2 : Int32) (h : zm_H) (o4 : Option Value) (o5 : Option Value) {Q : Option Value → zm_H → Prop} (hs : zSh zT0 h) (ho : f_Waves_run_k41_ok v1 v2 h) (hF : (zSh zT0 (f_Waves_run_k41 v1 v2 h) → Q none (f_Waves_run_k41 v1 v2 h))) : zg x (d + 3) 113 41 [some (.ref 32), some (.int v1), some (.int v2), some (.int 0), o4, o5] [] h Q := by
  unfold f_Waves_run_k41 at hF
  unfold f_Waves_run_k41_ok at ho
  refine zg_blk zd_113 2 hs (rfl : zb x zT0 zc_113 2 (41, [some (.ref 32), some (.int v1), some (.int v2), some (.int 0), o4, o5], [], h) = some (44, [some (.ref 32), some (.int v1), some (.int v2), some (.int 0), some (.int 0), o5], [], h)) (fun hs => ?_)
  refine f_Waves_run_l44_t v1 v2 (fun r => f_Waves_run_a44_ok v1 v2 r ∧ (zSh zT0 (f_Waves_run_a44 v1 v2 r) → Q none (f_Waves_run_a44 v1 v2 r))) ?_ zF 0 h (o5) hs ho.1 ⟨ho.2, hF⟩
  · intro v4_ h_ o4_ o5_ hs hG
    have ho : (f_Waves_run_k88_ok v1 v2 h_) := hG.1
    have hF : (zSh zT0 ((f_Waves_run_k88 v1 v2 h_)) → Q none ((f_Waves_run_k88 v1 v2 h_))) := hG.2
    exact f_Waves_run_k88_t v1 v2 h_ (o4_) (o5_) hs ho hF
set_option maxRecDepth 100000 in
set_option maxHeartbeats 400000 in
theorem f_Waves_run_k21_t {x : zm_X} {d : Nat} (v1 : Int32) (v2 : Int32) (h : zm_H) (o3 : Option Value) (o4 : Option Value) (o5 : Option Value) {Q : Option Value → zm_H → Prop} (hs : zSh zT0 h) (ho : f_Waves_run_k21_ok v1 v2 h) (hF : (zSh zT0 (f_Waves_run_k21 v1 v2 h) → Q none (f_Waves_run_k21 v1 v2 h))) : zg x (d + 3) 113 21 [some (.ref 32), some (.int v1), some (.int v2), o3, o4, o5] [] h Q := by
  unfold f_Waves_run_k21 at hF
  unfold f_Waves_run_k21_ok at ho
  refine zg_blk zd_113 4 hs (rfl : zb x zT0 zc_113 4 (21, [some (.ref 32), some (.int v1), some (.int v2), o3, o4, o5], [], h) = some (25, [some (.ref 32), some (.int v1), some (.int v2), some (.int 0), o4, o5], [.int 5, .int 0], h)) (fun hs => ?_)
  refine zg_i_ge zd_113 rfl (fun hc => absurd hc (by decide)) (fun _ => ?_)
  refine zg_blk zd_113 1 hs (rfl : zb x zT0 zc_113 1 (28, [some (.ref 32), some (.int v1), some (.int v2), some (.int 0), o4, o5], [], h) = some (29, [some (.ref 32), some (.int v1), some (.int v2), some (.int 0), o4, o5], [.int 0], h)) (fun hs => ?_)
  refine zg_f_le zd_113 rfl (fun _ => ?_) (fun hc => absurd (by decide) hc)
  exact f_Waves_run_k41_t v1 v2 h (o4) (o5) hs ho hF
set_option maxRecDepth 100000 in
set_option maxHeartbeats 400000 in
theorem f_Waves_run_k13_t {x : zm_X} {d : Nat} (v1 : Int32) (v2 : Int32) (h : zm_H) (o3 : Option Value) (o4 : Option Value) (o5 : Option Value) {Q : Option Value → zm_H → Prop} (hs : zSh zT0 h) (ho : f_Waves_run_k13_ok v1 v2 h) (hF : (zSh zT0 (f_Waves_run_k13 v1 v2 h) → Q none (f_Waves_run_k13 v1 v2 h))) : zg x (d + 3) 113 13 [some (.ref 32), some (.int v1), some (.int v2), o3, o4, o5] [] h Q := by
  unfold f_Waves_run_k13 at hF
  unfold f_Waves_run_k13_ok at ho
  refine zg_blk zd_113 3 hs (rfl : zb x zT0 zc_113 3 (13, [some (.ref 32), some (.int v1), some (.int v2), o3, o4, o5], [], h) = some (18, [some (.ref 32), some (.int v1), some (.int v2), o3, o4, o5], [.int v2, .ref 35], h)) (fun hs => ?_)
  obtain ⟨hob, ho⟩ := ho
  refine zg_call hs zd_113 rfl rfl rfl rfl (as := [.ref 35, .int v2]) (rest := []) (en := [some (.ref 35), some (.int v2), none, none]) rfl rfl rfl rfl rfl ?_
  refine f_Arrays_fill_35_t v2 h hs hob (fun hs => ?_)
  show zg x (d + 3) 113 21 [some (.ref 32), some (.int v1), some (.int v2), o3, o4, o5] [] (f_Arrays_fill_35 v2 h) Q
  exact f_Waves_run_k21_t v1 v2 (f_Arrays_fill_35 v2 h) (o3) (o4) (o5) hs ho hF
set_option maxRecDepth 100000 in
set_option maxHeartbeats 400000 in
theorem f_Waves_run_t {x : zm_X} {d : Nat} (p1 : Int32) (h : zm_H) {Q : Option Value → zm_H → Prop} (hs : zSh zT0 h) (ho : f_Waves_run_ok p1 h) (hF : (zSh zT0 (f_Waves_run p1 h) → Q none (f_Waves_run p1 h))) : zg x (d + 3) 113 0 [some (.ref 32), some (.int p1), none, none, none, none] [] h Q := by
  unfold f_Waves_run at hF
  unfold f_Waves_run_ok at ho
  refine zg_blk zd_113 1 hs (rfl : zb x zT0 zc_113 1 (0, [some (.ref 32), some (.int p1), none, none, none, none], [], h) = some (1, [some (.ref 32), some (.int p1), none, none, none, none], [.int p1], h)) (fun hs => ?_)
  refine zg_call hs zd_113 rfl rfl rfl rfl (as := [.int p1]) (rest := []) (en := [some (.int p1)]) rfl rfl rfl rfl rfl ?_
  refine f_Waves_openSea_t p1 h hs trivial ?_
  show zg x (d + 3) 113 4 [some (.ref 32), some (.int p1), none, none, none, none] [.int (((p1 / 1000) * (p1 / 1000)) * ((zm_rm p1 1000) / 10))] h Q
  refine zg_blk zd_113 4 hs (rfl : zb x zT0 zc_113 4 (4, [some (.ref 32), some (.int p1), none, none, none, none], [.int (((p1 / 1000) * (p1 / 1000)) * ((zm_rm p1 1000) / 10))], h) = some (10, [some (.ref 32), some (.int p1), some (.int (((p1 / 1000) * (p1 / 1000)) * ((zm_rm p1 1000) / 10))), none, none, none], [.int 0, .ref 34], h)) (fun hs => ?_)
  obtain ⟨hob, ho⟩ := ho
  refine zg_call hs zd_113 rfl rfl rfl rfl (as := [.ref 34, .int 0]) (rest := []) (en := [some (.ref 34), some (.int 0), none, none]) rfl rfl rfl rfl rfl ?_
  refine f_Arrays_fill_34_t 0 h hs hob (fun hs => ?_)
  show zg x (d + 3) 113 13 [some (.ref 32), some (.int p1), some (.int (((p1 / 1000) * (p1 / 1000)) * ((zm_rm p1 1000) / 10))), none, none, none] [] (f_Arrays_fill_34 0 h) Q
  exact f_Waves_run_k13_t p1 (((p1 / 1000) * (p1 / 1000)) * ((zm_rm p1 1000) / 10)) (f_Arrays_fill_34 0 h) (none) (none) (none) hs ho hF
theorem zd_20 : zm_cd 20 = zc_20 := by rfl
theorem zd_21 : zm_cd 21 = zc_21 := by rfl
set_option maxRecDepth 100000 in
set_option maxHeartbeats 400000 in
theorem f_Course_leak_37_t {x : zm_X} {d : Nat} (p1 : Int32) (h : zm_H) {Q : Option Value → zm_H → Prop} (hs : zSh zT0 h) (ho : f_Course_leak_37_ok p1 h) (hF : Q (some (.int (f_Course_leak_37 p1 h))) h) : zg x (d + 1) 21 0 [some (.ref 37), some (.int p1)] [] h Q := by
  unfold f_Course_leak_37 at hF
  unfold f_Course_leak_37_ok at ho
  refine zg_blk zd_21 4 hs (rfl : zb x zT0 zc_21 4 (0, [some (.ref 37), some (.int p1)], [], h) = some (7, [some (.ref 37), some (.int p1)], [.int p1, .ref 40, .int 100], h)) (fun hs => ?_)
  have hob := ho
  refine zg_ial hs zd_21 rfl rfl hob ?_
  refine zg_blk zd_21 2 hs (rfl : zb x zT0 zc_21 2 (8, [some (.ref 37), some (.int p1)], [.int (zr h 40 p1), .int 100], h) = some (11, [some (.ref 37), some (.int p1)], [.int ((zr h 40 p1) / 16), .int 100], h)) (fun hs => ?_)
  refine zg_x zd_21 rfl rfl rfl rfl (as := [.int 100, .int ((zr h 40 p1) / 16)]) (rest := []) (w := some (.int (if ((zr h 40 p1) / 16) < 100 then ((zr h 40 p1) / 16) else 100))) rfl rfl rfl ?_
  exact zg_ret zd_21 rfl rfl hF
set_option maxRecDepth 100000 in
set_option maxHeartbeats 400000 in
theorem f_Course_powerFrom_37_t {x : zm_X} {d : Nat} (p1 : Int32) (p2 : Int32) (h : zm_H) {Q : Option Value → zm_H → Prop} (hs : zSh zT0 h) (ho : f_Course_powerFrom_37_ok p1 p2 h) (hF : Q (some (.int (f_Course_powerFrom_37 p1 p2 h))) h) : zg x (d + 2) 20 0 [some (.ref 37), some (.int p1), some (.int p2)] [] h Q := by
  unfold f_Course_powerFrom_37 at hF
  unfold f_Course_powerFrom_37_ok at ho
  refine zg_blk zd_20 4 hs (rfl : zb x zT0 zc_20 4 (0, [some (.ref 37), some (.int p1), some (.int p2)], [], h) = some (5, [some (.ref 37), some (.int p1), some (.int p2)], [.int p2, .ref 37, .int 100, .int p1], h)) (fun hs => ?_)
  have hob := ho
  refine zg_call hs zd_20 rfl rfl rfl rfl (as := [.ref 37, .int p2]) (rest := [.int 100, .int p1]) (en := [some (.ref 37), some (.int p2)]) rfl rfl rfl rfl rfl ?_
  refine f_Course_leak_37_t p2 h hs hob ?_
  show zg x (d + 2) 20 8 [some (.ref 37), some (.int p1), some (.int p2)] [.int (f_Course_leak_37 p2 h), .int 100, .int p1] h Q
  refine zg_blk zd_20 4 hs (rfl : zb x zT0 zc_20 4 (8, [some (.ref 37), some (.int p1), some (.int p2)], [.int (f_Course_leak_37 p2 h), .int 100, .int p1], h) = some (13, [some (.ref 37), some (.int p1), some (.int p2)], [.int ((p1 * (100 - (f_Course_leak_37 p2 h))) / 100)], h)) (fun hs => ?_)
  exact zg_ret zd_20 rfl rfl hF
set_option maxRecDepth 100000 in
set_option maxHeartbeats 400000 in
theorem f_Course_takeWaves_37_l25_b_t {x : zm_X} {d : Nat} (v1 : Int32) (v3 : Int32) (h : zm_H) (z2 : Int32) {Q : Option Value → zm_H → Prop} {FN : Nat × Int32 × zm_H → Prop} (hs : zSh zT0 h) (ho : f_Course_takeWaves_37_l25_b_ok v1 v3 h) (hF : FN (f_Course_takeWaves_37_l25_b v1 v3 h)) (hl0 : ∀ (v3 : Int32) (h : zm_H) (z2 : Int32), zSh zT0 h → FN (0, v3, h) → zg x (d + 4) 18 25 [some (.ref 37), some (.int v1), some (.int z2), some (.int v3)] [] h Q) (hl1 : ∀ (v3 : Int32) (h : zm_H) (z2 : Int32) (o3 : Option Value), zSh zT0 h → FN (1, v3, h) → zg x (d + 4) 18 118 [some (.ref 37), some (.int v1), some (.int z2), o3] [] h Q) : zg x (d + 4) 18 25 [some (.ref 37), some (.int v1), some (.int z2), some (.int v3)] [] h Q := by
  unfold f_Course_takeWaves_37_l25_b at hF
  unfold f_Course_takeWaves_37_l25_b_ok at ho
  refine zg_blk zd_18 4 hs (rfl : zb x zT0 zc_18 4 (25, [some (.ref 37), some (.int v1), some (.int z2), some (.int v3)], [], h) = some (33, [some (.ref 37), some (.int v1), some (.int z2), some (.int v3)], [.int (zf h 23 0), .int v3], h)) (fun hs => ?_)
  refine zg_i_ge zd_18 rfl (fun (hc : ((zf h 23 0) ≤ v3)) => ?_) (fun (hc : ¬ ((zf h 23 0) ≤ v3)) => ?_)
  · have ho := ho.1 hc
    rw [if_pos hc] at hF
    exact hl1 v3 h z2 (some (.int v3)) hs hF
  · have ho := ho.2 hc
    rw [if_neg hc] at hF
    refine zg_blk zd_18 8 hs (rfl : zb x zT0 zc_18 8 (36, [some (.ref 37), some (.int v1), some (.int z2), some (.int v3)], [], h) = some (50, [some (.ref 37), some (.int v1), some (.int z2), some (.int v3)], [.int v3, .ref 34, .ref 37, .int v3, .ref 41], h)) (fun hs => ?_)
    obtain ⟨hob, ho⟩ := ho
    refine zg_ial hs zd_18 rfl rfl hob ?_
    refine zg_blk zd_18 1 hs (rfl : zb x zT0 zc_18 1 (51, [some (.ref 37), some (.int v1), some (.int z2), some (.int v3)], [.int (zr h 34 v3), .ref 37, .int v3, .ref 41], h) = some (52, [some (.ref 37), some (.int v1), some (.int z2), some (.int v3)], [.int v3, .int (zr h 34 v3), .ref 37, .int v3, .ref 41], h)) (fun hs => ?_)
    obtain ⟨hob, ho⟩ := ho
    refine zg_call hs zd_18 rfl rfl rfl rfl (as := [.ref 37, .int (zr h 34 v3), .int v3]) (rest := [.int v3, .ref 41]) (en := [some (.ref 37), some (.int (zr h 34 v3)), some (.int v3)]) rfl rfl rfl rfl rfl ?_
    refine f_Course_powerFrom_37_t (zr h 34 v3) v3 h hs hob ?_
    show zg x (d + 4) 18 55 [some (.ref 37), some (.int v1), some (.int z2), some (.int v3)] [.int (f_Course_powerFrom_37 (zr h 34 v3) v3 h), .int v3, .ref 41] h Q
    obtain ⟨hob, ho⟩ := ho
    refine zg_ias hs zd_18 rfl rfl hob (fun hs => ?_)
    refine zg_blk zd_18 4 hs (rfl : zb x zT0 zc_18 4 (56, [some (.ref 37), some (.int v1), some (.int z2), some (.int v3)], [], (zs h 41 v3 (f_Course_powerFrom_37 (zr h 34 v3) v3 h))) = some (62, [some (.ref 37), some (.int v1), some (.int z2), some (.int v3)], [.int v3, .ref 40, .int v3, .ref 40], (zs h 41 v3 (f_Course_powerFrom_37 (zr h 34 v3) v3 h)))) (fun hs => ?_)
    obtain ⟨hob, ho⟩ := ho
    refine zg_ial hs zd_18 rfl rfl hob ?_
    refine zg_blk zd_18 4 hs (rfl : zb x zT0 zc_18 4 (63, [some (.ref 37), some (.int v1), some (.int z2), some (.int v3)], [.int (zr h 40 v3), .int v3, .ref 40], (zs h 41 v3 (f_Course_powerFrom_37 (zr h 34 v3) v3 h))) = some (71, [some (.ref 37), some (.int v1), some (.int z2), some (.int v3)], [.int v3, .ref 34, .int (zr h 40 v3), .int v3, .ref 40], (zs h 41 v3 (f_Course_powerFrom_37 (zr h 34 v3) v3 h)))) (fun hs => ?_)
    obtain ⟨hob, ho⟩ := ho
    refine zg_ial hs zd_18 rfl rfl hob ?_
    have K65 : zSh zT0 (zs h 41 v3 (f_Course_powerFrom_37 (zr h 34 v3) v3 h)) → zg x (d + 4) 18 80 [some (.ref 37), some (.int v1), some (.int z2), some (.int v3)] [.int (if (¬ ((zr h 34 v3) ≤ 0)) then (1 : Int32) else 0), .int (zr h 40 v3), .int v3, .ref 40] (zs h 41 v3 (f_Course_powerFrom_37 (zr h 34 v3) v3 h)) Q := fun hs => by
      refine zg_blk zd_18 1 hs (rfl : zb x zT0 zc_18 1 (80, [some (.ref 37), some (.int v1), some (.int z2), some (.int v3)], [.int (if (¬ ((zr h 34 v3) ≤ 0)) then (1 : Int32) else 0), .int (zr h 40 v3), .int v3, .ref 40], (zs h 41 v3 (f_Course_powerFrom_37 (zr h 34 v3) v3 h))) = some (81, [some (.ref 37), some (.int v1), some (.int z2), some (.int v3)], [.int ((zr h 40 v3) + (if (¬ ((zr h 34 v3) ≤ 0)) then (1 : Int32) else 0)), .int v3, .ref 40], (zs h 41 v3 (f_Course_powerFrom_37 (zr h 34 v3) v3 h)))) (fun hs => ?_)
      obtain ⟨hob, ho⟩ := ho
      refine zg_ias hs zd_18 rfl rfl hob (fun hs => ?_)
      refine zg_blk zd_18 4 hs (rfl : zb x zT0 zc_18 4 (82, [some (.ref 37), some (.int v1), some (.int z2), some (.int v3)], [], (zs (zs h 41 v3 (f_Course_powerFrom_37 (zr h 34 v3) v3 h)) 40 v3 ((zr h 40 v3) + (if (¬ ((zr h 34 v3) ≤ 0)) then (1 : Int32) else 0)))) = some (88, [some (.ref 37), some (.int v1), some (.int z2), some (.int v3)], [.int v3, .ref 42, .int v3, .ref 42], (zs (zs h 41 v3 (f_Course_powerFrom_37 (zr h 34 v3) v3 h)) 40 v3 ((zr h 40 v3) + (if (¬ ((zr h 34 v3) ≤ 0)) then (1 : Int32) else 0))))) (fun hs => ?_)
      obtain ⟨hob, ho⟩ := ho
      refine zg_ial hs zd_18 rfl rfl hob ?_
      refine zg_blk zd_18 3 hs (rfl : zb x zT0 zc_18 3 (89, [some (.ref 37), some (.int v1), some (.int z2), some (.int v3)], [.int (zr h 42 v3), .int v3, .ref 42], (zs (zs h 41 v3 (f_Course_powerFrom_37 (zr h 34 v3) v3 h)) 40 v3 ((zr h 40 v3) + (if (¬ ((zr h 34 v3) ≤ 0)) then (1 : Int32) else 0)))) = some (94, [some (.ref 37), some (.int v1), some (.int z2), some (.int v3)], [.int v3, .ref 41, .int (zr h 42 v3), .int v3, .ref 42], (zs (zs h 41 v3 (f_Course_powerFrom_37 (zr h 34 v3) v3 h)) 40 v3 ((zr h 40 v3) + (if (¬ ((zr h 34 v3) ≤ 0)) then (1 : Int32) else 0))))) (fun hs => ?_)
      obtain ⟨hob, ho⟩ := ho
      refine zg_ial hs zd_18 rfl rfl hob ?_
      refine zg_blk zd_18 1 hs (rfl : zb x zT0 zc_18 1 (95, [some (.ref 37), some (.int v1), some (.int z2), some (.int v3)], [.int (zr (zs h 41 v3 (f_Course_powerFrom_37 (zr h 34 v3) v3 h)) 41 v3), .int (zr h 42 v3), .int v3, .ref 42], (zs (zs h 41 v3 (f_Course_powerFrom_37 (zr h 34 v3) v3 h)) 40 v3 ((zr h 40 v3) + (if (¬ ((zr h 34 v3) ≤ 0)) then (1 : Int32) else 0)))) = some (96, [some (.ref 37), some (.int v1), some (.int z2), some (.int v3)], [.int ((zr h 42 v3) + (zr (zs h 41 v3 (f_Course_powerFrom_37 (zr h 34 v3) v3 h)) 41 v3)), .int v3, .ref 42], (zs (zs h 41 v3 (f_Course_powerFrom_37 (zr h 34 v3) v3 h)) 40 v3 ((zr h 40 v3) + (if (¬ ((zr h 34 v3) ≤ 0)) then (1 : Int32) else 0))))) (fun hs => ?_)
      obtain ⟨hob, ho⟩ := ho
      refine zg_ias hs zd_18 rfl rfl hob (fun hs => ?_)
      refine zg_blk zd_18 4 hs (rfl : zb x zT0 zc_18 4 (97, [some (.ref 37), some (.int v1), some (.int z2), some (.int v3)], [], (zs (zs (zs h 41 v3 (f_Course_powerFrom_37 (zr h 34 v3) v3 h)) 40 v3 ((zr h 40 v3) + (if (¬ ((zr h 34 v3) ≤ 0)) then (1 : Int32) else 0))) 42 v3 ((zr h 42 v3) + (zr (zs h 41 v3 (f_Course_powerFrom_37 (zr h 34 v3) v3 h)) 41 v3)))) = some (103, [some (.ref 37), some (.int v1), some (.int z2), some (.int v3)], [.int v1, .ref 47, .int v1, .ref 47], (zs (zs (zs h 41 v3 (f_Course_powerFrom_37 (zr h 34 v3) v3 h)) 40 v3 ((zr h 40 v3) + (if (¬ ((zr h 34 v3) ≤ 0)) then (1 : Int32) else 0))) 42 v3 ((zr h 42 v3) + (zr (zs h 41 v3 (f_Course_powerFrom_37 (zr h 34 v3) v3 h)) 41 v3))))) (fun hs => ?_)
      obtain ⟨hob, ho⟩ := ho
      refine zg_ial hs zd_18 rfl rfl hob ?_
      refine zg_blk zd_18 3 hs (rfl : zb x zT0 zc_18 3 (104, [some (.ref 37), some (.int v1), some (.int z2), some (.int v3)], [.int (zr h 47 v1), .int v1, .ref 47], (zs (zs (zs h 41 v3 (f_Course_powerFrom_37 (zr h 34 v3) v3 h)) 40 v3 ((zr h 40 v3) + (if (¬ ((zr h 34 v3) ≤ 0)) then (1 : Int32) else 0))) 42 v3 ((zr h 42 v3) + (zr (zs h 41 v3 (f_Course_powerFrom_37 (zr h 34 v3) v3 h)) 41 v3)))) = some (109, [some (.ref 37), some (.int v1), some (.int z2), some (.int v3)], [.int v3, .ref 41, .int (zr h 47 v1), .int v1, .ref 47], (zs (zs (zs h 41 v3 (f_Course_powerFrom_37 (zr h 34 v3) v3 h)) 40 v3 ((zr h 40 v3) + (if (¬ ((zr h 34 v3) ≤ 0)) then (1 : Int32) else 0))) 42 v3 ((zr h 42 v3) + (zr (zs h 41 v3 (f_Course_powerFrom_37 (zr h 34 v3) v3 h)) 41 v3))))) (fun hs => ?_)
      obtain ⟨hob, ho⟩ := ho
      refine zg_ial hs zd_18 rfl rfl hob ?_
      refine zg_blk zd_18 1 hs (rfl : zb x zT0 zc_18 1 (110, [some (.ref 37), some (.int v1), some (.int z2), some (.int v3)], [.int (zr (zs h 41 v3 (f_Course_powerFrom_37 (zr h 34 v3) v3 h)) 41 v3), .int (zr h 47 v1), .int v1, .ref 47], (zs (zs (zs h 41 v3 (f_Course_powerFrom_37 (zr h 34 v3) v3 h)) 40 v3 ((zr h 40 v3) + (if (¬ ((zr h 34 v3) ≤ 0)) then (1 : Int32) else 0))) 42 v3 ((zr h 42 v3) + (zr (zs h 41 v3 (f_Course_powerFrom_37 (zr h 34 v3) v3 h)) 41 v3)))) = some (111, [some (.ref 37), some (.int v1), some (.int z2), some (.int v3)], [.int ((zr h 47 v1) + (zr (zs h 41 v3 (f_Course_powerFrom_37 (zr h 34 v3) v3 h)) 41 v3)), .int v1, .ref 47], (zs (zs (zs h 41 v3 (f_Course_powerFrom_37 (zr h 34 v3) v3 h)) 40 v3 ((zr h 40 v3) + (if (¬ ((zr h 34 v3) ≤ 0)) then (1 : Int32) else 0))) 42 v3 ((zr h 42 v3) + (zr (zs h 41 v3 (f_Course_powerFrom_37 (zr h 34 v3) v3 h)) 41 v3))))) (fun hs => ?_)
      have hob := ho
      refine zg_ias hs zd_18 rfl rfl hob (fun hs => ?_)
      refine zg_blk zd_18 2 hs (rfl : zb x zT0 zc_18 2 (112, [some (.ref 37), some (.int v1), some (.int z2), some (.int v3)], [], (zs (zs (zs (zs h 41 v3 (f_Course_powerFrom_37 (zr h 34 v3) v3 h)) 40 v3 ((zr h 40 v3) + (if (¬ ((zr h 34 v3) ≤ 0)) then (1 : Int32) else 0))) 42 v3 ((zr h 42 v3) + (zr (zs h 41 v3 (f_Course_powerFrom_37 (zr h 34 v3) v3 h)) 41 v3))) 47 v1 ((zr h 47 v1) + (zr (zs h 41 v3 (f_Course_powerFrom_37 (zr h 34 v3) v3 h)) 41 v3)))) = some (25, [some (.ref 37), some (.int v1), some (.int z2), some (.int (v3 + 1))], [], (zs (zs (zs (zs h 41 v3 (f_Course_powerFrom_37 (zr h 34 v3) v3 h)) 40 v3 ((zr h 40 v3) + (if (¬ ((zr h 34 v3) ≤ 0)) then (1 : Int32) else 0))) 42 v3 ((zr h 42 v3) + (zr (zs h 41 v3 (f_Course_powerFrom_37 (zr h 34 v3) v3 h)) 41 v3))) 47 v1 ((zr h 47 v1) + (zr (zs h 41 v3 (f_Course_powerFrom_37 (zr h 34 v3) v3 h)) 41 v3))))) (fun hs => ?_)
      exact hl0 (v3 + 1) (zs (zs (zs (zs h 41 v3 (f_Course_powerFrom_37 (zr h 34 v3) v3 h)) 40 v3 ((zr h 40 v3) + (if (¬ ((zr h 34 v3) ≤ 0)) then (1 : Int32) else 0))) 42 v3 ((zr h 42 v3) + (zr (zs h 41 v3 (f_Course_powerFrom_37 (zr h 34 v3) v3 h)) 41 v3))) 47 v1 ((zr h 47 v1) + (zr (zs h 41 v3 (f_Course_powerFrom_37 (zr h 34 v3) v3 h)) 41 v3))) z2 hs hF
    refine zg_f_le zd_18 rfl (fun (hc : ((zr h 34 v3) ≤ 0)) => ?_) (fun (hc : ¬ ((zr h 34 v3) ≤ 0)) => ?_)
    · skip
      rw [show ((if (¬ ((zr h 34 v3) ≤ 0)) then (1 : Int32) else 0) : Int32) = 0 from zb_not_t hc] at K65
      refine zg_blk zd_18 1 hs (rfl : zb x zT0 zc_18 1 (79, [some (.ref 37), some (.int v1), some (.int z2), some (.int v3)], [.int (zr h 40 v3), .int v3, .ref 40], (zs h 41 v3 (f_Course_powerFrom_37 (zr h 34 v3) v3 h))) = some (80, [some (.ref 37), some (.int v1), some (.int z2), some (.int v3)], [.int 0, .int (zr h 40 v3), .int v3, .ref 40], (zs h 41 v3 (f_Course_powerFrom_37 (zr h 34 v3) v3 h)))) (fun hs => ?_)
      exact K65 hs
    · skip
      rw [show ((if (¬ ((zr h 34 v3) ≤ 0)) then (1 : Int32) else 0) : Int32) = 1 from zb_not_f hc] at K65
      refine zg_blk zd_18 2 hs (rfl : zb x zT0 zc_18 2 (75, [some (.ref 37), some (.int v1), some (.int z2), some (.int v3)], [.int (zr h 40 v3), .int v3, .ref 40], (zs h 41 v3 (f_Course_powerFrom_37 (zr h 34 v3) v3 h))) = some (80, [some (.ref 37), some (.int v1), some (.int z2), some (.int v3)], [.int 1, .int (zr h 40 v3), .int v3, .ref 40], (zs h 41 v3 (f_Course_powerFrom_37 (zr h 34 v3) v3 h)))) (fun hs => ?_)
      exact K65 hs
theorem f_Course_takeWaves_37_l25_t {x : zm_X} {d : Nat} (v1 : Int32) {Q : Option Value → zm_H → Prop} (G : Nat × Int32 × zm_H → Prop) (hx1 : ∀ (v3 : Int32) (h : zm_H) (z2 : Int32) (o3 : Option Value), zSh zT0 h → G (1, v3, h) → zg x (d + 4) 18 118 [some (.ref 37), some (.int v1), some (.int z2), o3] [] h Q) : ∀ (n : Nat) (v3 : Int32) (h : zm_H) (z2 : Int32), zSh zT0 h → f_Course_takeWaves_37_l25_ok v1 n (v3, h) → G (f_Course_takeWaves_37_l25 v1 n (v3, h)) → zg x (d + 4) 18 25 [some (.ref 37), some (.int v1), some (.int z2), some (.int v3)] [] h Q := by
  intro n
  induction n with
  | zero => intro v3 h z2 hs ho hG; exact ho.elim
  | succ n ih =>
    intro v3 h z2 hs ho hG
    refine f_Course_takeWaves_37_l25_b_t (FN := fun r => (r.1 = 0 → f_Course_takeWaves_37_l25_ok v1 n r.2) ∧ G (if r.1 = 0 then f_Course_takeWaves_37_l25 v1 n r.2 else r)) v1 v3 h z2 hs ho.1 ⟨ho.2, hG⟩ ?_ ?_
    · intro v3 h z2 hs hF
      exact ih v3 h z2 hs (hF.1 rfl) hF.2
    · intro v3 h z2 o3 hs hF
      exact hx1 v3 h z2 o3 hs hF.2

set_option maxRecDepth 100000 in
set_option maxHeartbeats 400000 in
theorem f_Course_takeWaves_37_k118_t {x : zm_X} {d : Nat} (v1 : Int32) (h : zm_H) (z2 : Int32) (o3 : Option Value) {Q : Option Value → zm_H → Prop} (hs : zSh zT0 h) (ho : f_Course_takeWaves_37_k118_ok v1 h) (hF : (zSh zT0 (f_Course_takeWaves_37_k118 v1 h) → Q none (f_Course_takeWaves_37_k118 v1 h))) : zg x (d + 4) 18 118 [some (.ref 37), some (.int v1), some (.int z2), o3] [] h Q := by
  unfold f_Course_takeWaves_37_k118 at hF
  unfold f_Course_takeWaves_37_k118_ok at ho
  refine zg_blk zd_18 10 hs (rfl : zb x zT0 zc_18 10 (118, [some (.ref 37), some (.int v1), some (.int z2), o3], [], h) = some (136, [some (.ref 37), some (.int v1), some (.int z2), o3], [.int 10, .int (v1 * 10), .ref 49, .int 0, .ref 35], h)) (fun hs => ?_)
  have hob := ho
  refine zg_x zd_18 rfl rfl rfl rfl (as := [.ref 35, .int 0, .ref 49, .int (v1 * 10), .int 10]) (rest := []) (w := none) rfl rfl (zx_cp hs rfl rfl hob) ?_
  have hs : zSh zT0 (zcp h 35 0 49 (v1 * 10) 10) := zx_cps hs
  exact zg_ret zd_18 rfl rfl (hF hs)
set_option maxRecDepth 100000 in
set_option maxHeartbeats 400000 in
theorem f_Course_takeWaves_37_k16_t {x : zm_X} {d : Nat} (v1 : Int32) (h : zm_H) (z2 : Int32) (o3 : Option Value) {Q : Option Value → zm_H → Prop} (hs : zSh zT0 h) (ho : f_Course_takeWaves_37_k16_ok v1 h) (hF : (zSh zT0 (f_Course_takeWaves_37_k16 v1 h) → Q none (f_Course_takeWaves_37_k16 v1 h))) : zg x (d + 4) 18 16 [some (.ref 37), some (.int v1), some (.int z2), o3] [] h Q := by
  unfold f_Course_takeWaves_37_k16 at hF
  unfold f_Course_takeWaves_37_k16_ok at ho
  refine zg_blk zd_18 4 hs (rfl : zb x zT0 zc_18 4 (16, [some (.ref 37), some (.int v1), some (.int z2), o3], [], h) = some (22, [some (.ref 37), some (.int v1), some (.int z2), o3], [.int 0, .int v1, .ref 47], h)) (fun hs => ?_)
  obtain ⟨hob, ho⟩ := ho
  refine zg_ias hs zd_18 rfl rfl hob (fun hs => ?_)
  refine zg_blk zd_18 2 hs (rfl : zb x zT0 zc_18 2 (23, [some (.ref 37), some (.int v1), some (.int z2), o3], [], (zs h 47 v1 0)) = some (25, [some (.ref 37), some (.int v1), some (.int z2), some (.int 0)], [], (zs h 47 v1 0))) (fun hs => ?_)
  refine f_Course_takeWaves_37_l25_t v1 (fun r => f_Course_takeWaves_37_a25_ok v1 r ∧ (zSh zT0 (f_Course_takeWaves_37_a25 v1 r) → Q none (f_Course_takeWaves_37_a25 v1 r))) ?_ zF 0 (zs h 47 v1 0) z2 hs ho.1 ⟨ho.2, hF⟩
  · intro v3_ h_ z2_ o3_ hs hG
    have ho : (f_Course_takeWaves_37_k118_ok v1 h_) := hG.1
    have hF : (zSh zT0 ((f_Course_takeWaves_37_k118 v1 h_)) → Q none ((f_Course_takeWaves_37_k118 v1 h_))) := hG.2
    exact f_Course_takeWaves_37_k118_t v1 h_ z2_ (o3_) hs ho hF
set_option maxRecDepth 100000 in
set_option maxHeartbeats 400000 in
theorem f_Course_takeWaves_37_k8_t {x : zm_X} {d : Nat} (v1 : Int32) (v2 : Int32) (h : zm_H) (o3 : Option Value) {Q : Option Value → zm_H → Prop} (hs : zSh zT0 h) (ho : f_Course_takeWaves_37_k8_ok v1 v2 h) (hF : (zSh zT0 (f_Course_takeWaves_37_k8 v1 v2 h) → Q none (f_Course_takeWaves_37_k8 v1 v2 h))) : zg x (d + 4) 18 8 [some (.ref 37), some (.int v1), some (.int v2), o3] [] h Q := by
  unfold f_Course_takeWaves_37_k8 at hF
  unfold f_Course_takeWaves_37_k8_ok at ho
  refine zg_blk zd_18 3 hs (rfl : zb x zT0 zc_18 3 (8, [some (.ref 37), some (.int v1), some (.int v2), o3], [], h) = some (13, [some (.ref 37), some (.int v1), some (.int v2), o3], [.int v2, .ref 32], h)) (fun hs => ?_)
  obtain ⟨hob, ho⟩ := ho
  refine zg_call hs zd_18 rfl rfl rfl rfl (as := [.ref 32, .int v2]) (rest := []) (en := [some (.ref 32), some (.int v2), none, none, none, none]) rfl rfl rfl rfl rfl ?_
  refine f_Waves_run_t v2 h hs hob (fun hs => ?_)
  show zg x (d + 4) 18 16 [some (.ref 37), some (.int v1), some (.int v2), o3] [] (f_Waves_run v2 h) Q
  exact f_Course_takeWaves_37_k16_t v1 (f_Waves_run v2 h) v2 (o3) hs ho hF
set_option maxRecDepth 100000 in
set_option maxHeartbeats 400000 in
theorem f_Course_takeWaves_37_t {x : zm_X} {d : Nat} (p1 : Int32) (p2 : Int32) (h : zm_H) {Q : Option Value → zm_H → Prop} (hs : zSh zT0 h) (ho : f_Course_takeWaves_37_ok p1 p2 h) (hF : (zSh zT0 (f_Course_takeWaves_37 p1 p2 h) → Q none (f_Course_takeWaves_37 p1 p2 h))) : zg x (d + 4) 18 0 [some (.ref 37), some (.int p1), some (.int p2), none] [] h Q := by
  unfold f_Course_takeWaves_37 at hF
  unfold f_Course_takeWaves_37_ok at ho
  refine zg_blk zd_18 3 hs (rfl : zb x zT0 zc_18 3 (0, [some (.ref 37), some (.int p1), some (.int p2), none], [], h) = some (5, [some (.ref 37), some (.int p1), some (.int p2), none], [.ref 32, .ref 37], h)) (fun hs => ?_)
  obtain ⟨hob, ho⟩ := ho
  refine zg_call hs zd_18 rfl rfl rfl rfl (as := [.ref 37, .ref 32]) (rest := []) (en := [some (.ref 37), some (.ref 32), none]) rfl rfl rfl rfl rfl ?_
  refine f_Course_putInto_37_t  h hs hob (fun hs => ?_)
  show zg x (d + 4) 18 8 [some (.ref 37), some (.int p1), some (.int p2), none] [] (f_Course_putInto_37 h) Q
  exact f_Course_takeWaves_37_k8_t p1 p2 (f_Course_putInto_37 h) (none) hs ho hF
theorem zd_22 : zm_cd 22 = zc_22 := by rfl
set_option maxRecDepth 100000 in
set_option maxHeartbeats 400000 in
theorem f_Course_strainChains_37_l2_k103_t {x : zm_X} {d : Nat} (v1 : Int32) (v2 : Int32) (v3 : Int32) (h : zm_H) (o4 : Option Value) {Q : Option Value → zm_H → Prop} {FN : Nat × Int32 × zm_H → Prop} (hs : zSh zT0 h) (ho : f_Course_strainChains_37_l2_k103_ok v1 v2 v3 h) (hF : FN (f_Course_strainChains_37_l2_k103 v1 v2 v3 h)) (hl0 : ∀ (v3 : Int32) (h : zm_H) (o4 : Option Value), zSh zT0 h → FN (0, v3, h) → zg x (d + 4) 22 2 [some (.ref 37), some (.int v1), some (.int v2), some (.int v3), o4] [] h Q) (hl1 : ∀ (v3 : Int32) (h : zm_H) (o3 : Option Value) (o4 : Option Value), zSh zT0 h → FN (1, v3, h) → zg x (d + 4) 22 109 [some (.ref 37), some (.int v1), some (.int v2), o3, o4] [] h Q) : zg x (d + 4) 22 103 [some (.ref 37), some (.int v1), some (.int v2), some (.int v3), o4] [] h Q := by
  unfold f_Course_strainChains_37_l2_k103 at hF
  unfold f_Course_strainChains_37_l2_k103_ok at ho
  refine zg_blk zd_22 2 hs (rfl : zb x zT0 zc_22 2 (103, [some (.ref 37), some (.int v1), some (.int v2), some (.int v3), o4], [], h) = some (2, [some (.ref 37), some (.int v1), some (.int v2), some (.int (v3 + 1)), o4], [], h)) (fun hs => ?_)
  exact hl0 (v3 + 1) h (o4) hs hF
theorem zd_23 : zm_cd 23 = zc_23 := by rfl
theorem zd_24 : zm_cd 24 = zc_24 := by rfl
set_option maxRecDepth 100000 in
set_option maxHeartbeats 400000 in
theorem f_Course_weight_37_t {x : zm_X} {d : Nat} (p1 : Int32) (p2 : Int32) (p3 : Int32) (h : zm_H) {Q : Option Value → zm_H → Prop} (hs : zSh zT0 h) (ho : f_Course_weight_37_ok p1 p2 p3 h) (hF : Q (some (.int (f_Course_weight_37 p1 p2 p3 h))) h) : zg x (d + 2) 24 0 [some (.ref 37), some (.int p1), some (.int p2), some (.int p3)] [] h Q := by
  unfold f_Course_weight_37 at hF
  unfold f_Course_weight_37_ok at ho
  refine zg_blk zd_24 6 hs (rfl : zb x zT0 zc_24 6 (0, [some (.ref 37), some (.int p1), some (.int p2), some (.int p3)], [], h) = some (6, [some (.ref 37), some (.int p1), some (.int p2), some (.int p3)], [.int ((p1 * 3) + p2), .ref 37], h)) (fun hs => ?_)
  obtain ⟨hob, ho⟩ := ho
  refine zg_call hs zd_24 rfl rfl rfl rfl (as := [.ref 37, .int ((p1 * 3) + p2)]) (rest := []) (en := [some (.ref 37), some (.int ((p1 * 3) + p2))]) rfl rfl rfl rfl rfl ?_
  refine f_Course_holds_37_t ((p1 * 3) + p2) h hs hob ?_
  show zg x (d + 2) 24 9 [some (.ref 37), some (.int p1), some (.int p2), some (.int p3)] [.int (f_Course_holds_37 ((p1 * 3) + p2) h)] h Q
  have hom := ho
  have K66 : zSh zT0 h → zg x (d + 2) 24 27 [some (.ref 37), some (.int p1), some (.int p2), some (.int p3)] [.int (if ((f_Course_holds_37 ((p1 * 3) + p2) h) = 0) then (0 : Int32) else (zm_wt (((p3 + 1) * 3) + p2).toNatClampNeg))] h Q := fun hs => by
    exact zg_ret zd_24 rfl rfl hF
  refine zg_f_eq zd_24 rfl (fun (hc : ((f_Course_holds_37 ((p1 * 3) + p2) h) = 0)) => ?_) (fun (hc : ¬ ((f_Course_holds_37 ((p1 * 3) + p2) h) = 0)) => ?_)
  · have ho := hom.1 hc
    rw [show ((if ((f_Course_holds_37 ((p1 * 3) + p2) h) = 0) then (0 : Int32) else (zm_wt (((p3 + 1) * 3) + p2).toNatClampNeg)) : Int32) = 0 from if_pos hc] at K66
    refine zg_blk zd_24 1 hs (rfl : zb x zT0 zc_24 1 (26, [some (.ref 37), some (.int p1), some (.int p2), some (.int p3)], [], h) = some (27, [some (.ref 37), some (.int p1), some (.int p2), some (.int p3)], [.int 0], h)) (fun hs => ?_)
    exact K66 hs
  · have ho := hom.2 hc
    rw [show ((if ((f_Course_holds_37 ((p1 * 3) + p2) h) = 0) then (0 : Int32) else (zm_wt (((p3 + 1) * 3) + p2).toNatClampNeg)) : Int32) = (zm_wt (((p3 + 1) * 3) + p2).toNatClampNeg) from if_neg hc] at K66
    refine zg_blk zd_24 8 hs (rfl : zb x zT0 zc_24 8 (12, [some (.ref 37), some (.int p1), some (.int p2), some (.int p3)], [], h) = some (22, [some (.ref 37), some (.int p1), some (.int p2), some (.int p3)], [.int (((p3 + 1) * 3) + p2), .ref 1000000], h)) (fun hs => ?_)
    have hob := ho
    refine zg_wts hs zd_24 rfl hob ?_
    refine zg_blk zd_24 1 hs (rfl : zb x zT0 zc_24 1 (23, [some (.ref 37), some (.int p1), some (.int p2), some (.int p3)], [.int (zm_wt (((p3 + 1) * 3) + p2).toNatClampNeg)], h) = some (27, [some (.ref 37), some (.int p1), some (.int p2), some (.int p3)], [.int (zm_wt (((p3 + 1) * 3) + p2).toNatClampNeg)], h)) (fun hs => ?_)
    exact K66 hs
set_option maxRecDepth 100000 in
set_option maxHeartbeats 400000 in
theorem f_Course_shareLoad_37_l6_b_t {x : zm_X} {d : Nat} (v1 : Int32) (v2 : Int32) (v3 : Int32) (v4 : Int32) (v5 : Int32) (h : zm_H) {Q : Option Value → zm_H → Prop} {FN : Nat × Int32 × Int32 → Prop} (hs : zSh zT0 h) (ho : f_Course_shareLoad_37_l6_b_ok v1 v2 v3 v4 v5 h) (hF : FN (f_Course_shareLoad_37_l6_b v1 v2 v3 v4 v5 h)) (hl0 : ∀ (v4 : Int32) (v5 : Int32), zSh zT0 h → FN (0, v4, v5) → zg x (d + 3) 23 6 [some (.ref 37), some (.int v1), some (.int v2), some (.int v3), some (.int v4), some (.int v5)] [] h Q) (hl1 : ∀ (v4 : Int32) (v5 : Int32) (o5 : Option Value), zSh zT0 h → FN (1, v4, v5) → zg x (d + 3) 23 31 [some (.ref 37), some (.int v1), some (.int v2), some (.int v3), some (.int v4), o5] [] h Q) : zg x (d + 3) 23 6 [some (.ref 37), some (.int v1), some (.int v2), some (.int v3), some (.int v4), some (.int v5)] [] h Q := by
  unfold f_Course_shareLoad_37_l6_b at hF
  unfold f_Course_shareLoad_37_l6_b_ok at ho
  refine zg_blk zd_23 2 hs (rfl : zb x zT0 zc_23 2 (6, [some (.ref 37), some (.int v1), some (.int v2), some (.int v3), some (.int v4), some (.int v5)], [], h) = some (9, [some (.ref 37), some (.int v1), some (.int v2), some (.int v3), some (.int v4), some (.int v5)], [.int 3, .int v5], h)) (fun hs => ?_)
  refine zg_i_ge zd_23 rfl (fun (hc : (3 ≤ v5)) => ?_) (fun (hc : ¬ (3 ≤ v5)) => ?_)
  · have ho := ho.1 hc
    rw [if_pos hc] at hF
    exact hl1 v4 v5 (some (.int v5)) hs hF
  · have ho := ho.2 hc
    rw [if_neg hc] at hF
    refine zg_blk zd_23 5 hs (rfl : zb x zT0 zc_23 5 (12, [some (.ref 37), some (.int v1), some (.int v2), some (.int v3), some (.int v4), some (.int v5)], [], h) = some (19, [some (.ref 37), some (.int v1), some (.int v2), some (.int v3), some (.int v4), some (.int v5)], [.int v3, .int v5, .int v1, .ref 37, .int v4], h)) (fun hs => ?_)
    have hob := ho
    refine zg_call hs zd_23 rfl rfl rfl rfl (as := [.ref 37, .int v1, .int v5, .int v3]) (rest := [.int v4]) (en := [some (.ref 37), some (.int v1), some (.int v5), some (.int v3)]) rfl rfl rfl rfl rfl ?_
    refine f_Course_weight_37_t v1 v5 v3 h hs hob ?_
    show zg x (d + 3) 23 22 [some (.ref 37), some (.int v1), some (.int v2), some (.int v3), some (.int v4), some (.int v5)] [.int (f_Course_weight_37 v1 v5 v3 h), .int v4] h Q
    refine zg_blk zd_23 4 hs (rfl : zb x zT0 zc_23 4 (22, [some (.ref 37), some (.int v1), some (.int v2), some (.int v3), some (.int v4), some (.int v5)], [.int (f_Course_weight_37 v1 v5 v3 h), .int v4], h) = some (6, [some (.ref 37), some (.int v1), some (.int v2), some (.int v3), some (.int (v4 + (f_Course_weight_37 v1 v5 v3 h))), some (.int (v5 + 1))], [], h)) (fun hs => ?_)
    exact hl0 (v4 + (f_Course_weight_37 v1 v5 v3 h)) (v5 + 1) hs hF
theorem f_Course_shareLoad_37_l6_t {x : zm_X} {d : Nat} (v1 : Int32) (v2 : Int32) (v3 : Int32) (h : zm_H) {Q : Option Value → zm_H → Prop} (G : Nat × Int32 × Int32 → Prop) (hx1 : ∀ (v4 : Int32) (v5 : Int32) (o5 : Option Value), zSh zT0 h → G (1, v4, v5) → zg x (d + 3) 23 31 [some (.ref 37), some (.int v1), some (.int v2), some (.int v3), some (.int v4), o5] [] h Q) : ∀ (n : Nat) (v4 : Int32) (v5 : Int32), zSh zT0 h → f_Course_shareLoad_37_l6_ok v1 v2 v3 h n (v4, v5) → G (f_Course_shareLoad_37_l6 v1 v2 v3 h n (v4, v5)) → zg x (d + 3) 23 6 [some (.ref 37), some (.int v1), some (.int v2), some (.int v3), some (.int v4), some (.int v5)] [] h Q := by
  intro n
  induction n with
  | zero => intro v4 v5 hs ho hG; exact ho.elim
  | succ n ih =>
    intro v4 v5 hs ho hG
    refine f_Course_shareLoad_37_l6_b_t (FN := fun r => (r.1 = 0 → f_Course_shareLoad_37_l6_ok v1 v2 v3 h n r.2) ∧ G (if r.1 = 0 then f_Course_shareLoad_37_l6 v1 v2 v3 h n r.2 else r)) v1 v2 v3 v4 v5 h hs ho.1 ⟨ho.2, hG⟩ ?_ ?_
    · intro v4 v5 hs hF
      exact ih v4 v5 hs (hF.1 rfl) hF.2
    · intro v4 v5 o5 hs hF
      exact hx1 v4 v5 o5 hs hF.2

set_option maxRecDepth 100000 in
set_option maxHeartbeats 400000 in
theorem f_Course_shareLoad_37_l34_b_t {x : zm_X} {d : Nat} (v1 : Int32) (v2 : Int32) (v3 : Int32) (v4 : Int32) (v5 : Int32) (h : zm_H) {Q : Option Value → zm_H → Prop} {FN : Nat × Int32 × zm_H → Prop} (hs : zSh zT0 h) (ho : f_Course_shareLoad_37_l34_b_ok v1 v2 v3 v4 v5 h) (hF : FN (f_Course_shareLoad_37_l34_b v1 v2 v3 v4 v5 h)) (hl0 : ∀ (v5 : Int32) (h : zm_H), zSh zT0 h → FN (0, v5, h) → zg x (d + 3) 23 34 [some (.ref 37), some (.int v1), some (.int v2), some (.int v3), some (.int v4), some (.int v5)] [] h Q) (hl1 : ∀ (v5 : Int32) (h : zm_H) (o5 : Option Value), zSh zT0 h → FN (1, v5, h) → zg x (d + 3) 23 75 [some (.ref 37), some (.int v1), some (.int v2), some (.int v3), some (.int v4), o5] [] h Q) : zg x (d + 3) 23 34 [some (.ref 37), some (.int v1), some (.int v2), some (.int v3), some (.int v4), some (.int v5)] [] h Q := by
  unfold f_Course_shareLoad_37_l34_b at hF
  unfold f_Course_shareLoad_37_l34_b_ok at ho
  refine zg_blk zd_23 2 hs (rfl : zb x zT0 zc_23 2 (34, [some (.ref 37), some (.int v1), some (.int v2), some (.int v3), some (.int v4), some (.int v5)], [], h) = some (37, [some (.ref 37), some (.int v1), some (.int v2), some (.int v3), some (.int v4), some (.int v5)], [.int 3, .int v5], h)) (fun hs => ?_)
  refine zg_i_ge zd_23 rfl (fun (hc : (3 ≤ v5)) => ?_) (fun (hc : ¬ (3 ≤ v5)) => ?_)
  · have ho := ho.1 hc
    rw [if_pos hc] at hF
    exact hl1 v5 h (some (.int v5)) hs hF
  · have ho := ho.2 hc
    rw [if_neg hc] at hF
    refine zg_blk zd_23 4 hs (rfl : zb x zT0 zc_23 4 (40, [some (.ref 37), some (.int v1), some (.int v2), some (.int v3), some (.int v4), some (.int v5)], [], h) = some (48, [some (.ref 37), some (.int v1), some (.int v2), some (.int v3), some (.int v4), some (.int v5)], [.int v4, .int v5, .ref 46], h)) (fun hs => ?_)
    obtain ⟨hom, ho⟩ := ho
    have K67 : zSh zT0 h → zg x (d + 3) 23 68 [some (.ref 37), some (.int v1), some (.int v2), some (.int v3), some (.int v4), some (.int v5)] [.int (if (v4 = 0) then (0 : Int32) else ((v2 * (f_Course_weight_37 v1 v5 v3 h)) / v4)), .int v5, .ref 46] h Q := fun hs => by
      have hob := ho
      refine zg_ias hs zd_23 rfl rfl hob (fun hs => ?_)
      refine zg_blk zd_23 2 hs (rfl : zb x zT0 zc_23 2 (69, [some (.ref 37), some (.int v1), some (.int v2), some (.int v3), some (.int v4), some (.int v5)], [], (zs h 46 v5 (if (v4 = 0) then (0 : Int32) else ((v2 * (f_Course_weight_37 v1 v5 v3 h)) / v4)))) = some (34, [some (.ref 37), some (.int v1), some (.int v2), some (.int v3), some (.int v4), some (.int (v5 + 1))], [], (zs h 46 v5 (if (v4 = 0) then (0 : Int32) else ((v2 * (f_Course_weight_37 v1 v5 v3 h)) / v4))))) (fun hs => ?_)
      exact hl0 (v5 + 1) (zs h 46 v5 (if (v4 = 0) then (0 : Int32) else ((v2 * (f_Course_weight_37 v1 v5 v3 h)) / v4))) hs hF
    refine zg_f_ne zd_23 rfl (fun (hc : ¬ (v4 = 0)) => ?_) (fun (hc : (v4 = 0)) => ?_)
    · have ho := hom.2 hc
      rw [show ((if (v4 = 0) then (0 : Int32) else ((v2 * (f_Course_weight_37 v1 v5 v3 h)) / v4)) : Int32) = ((v2 * (f_Course_weight_37 v1 v5 v3 h)) / v4) from if_neg hc] at K67
      refine zg_blk zd_23 5 hs (rfl : zb x zT0 zc_23 5 (55, [some (.ref 37), some (.int v1), some (.int v2), some (.int v3), some (.int v4), some (.int v5)], [.int v5, .ref 46], h) = some (61, [some (.ref 37), some (.int v1), some (.int v2), some (.int v3), some (.int v4), some (.int v5)], [.int v3, .int v5, .int v1, .ref 37, .int v2, .int v5, .ref 46], h)) (fun hs => ?_)
      obtain ⟨hob, ho⟩ := ho
      refine zg_call hs zd_23 rfl rfl rfl rfl (as := [.ref 37, .int v1, .int v5, .int v3]) (rest := [.int v2, .int v5, .ref 46]) (en := [some (.ref 37), some (.int v1), some (.int v5), some (.int v3)]) rfl rfl rfl rfl rfl ?_
      refine f_Course_weight_37_t v1 v5 v3 h hs hob ?_
      show zg x (d + 3) 23 64 [some (.ref 37), some (.int v1), some (.int v2), some (.int v3), some (.int v4), some (.int v5)] [.int (f_Course_weight_37 v1 v5 v3 h), .int v2, .int v5, .ref 46] h Q
      refine zg_blk zd_23 2 hs (rfl : zb x zT0 zc_23 2 (64, [some (.ref 37), some (.int v1), some (.int v2), some (.int v3), some (.int v4), some (.int v5)], [.int (f_Course_weight_37 v1 v5 v3 h), .int v2, .int v5, .ref 46], h) = some (67, [some (.ref 37), some (.int v1), some (.int v2), some (.int v3), some (.int v4), some (.int v5)], [.int v4, .int (v2 * (f_Course_weight_37 v1 v5 v3 h)), .int v5, .ref 46], h)) (fun hs => ?_)
      have hob := ho
      refine zg_div zd_23 rfl hob ?_
      exact K67 hs
    · have ho := hom.1 hc
      rw [show ((if (v4 = 0) then (0 : Int32) else ((v2 * (f_Course_weight_37 v1 v5 v3 h)) / v4)) : Int32) = 0 from if_pos hc] at K67
      refine zg_blk zd_23 2 hs (rfl : zb x zT0 zc_23 2 (51, [some (.ref 37), some (.int v1), some (.int v2), some (.int v3), some (.int v4), some (.int v5)], [.int v5, .ref 46], h) = some (68, [some (.ref 37), some (.int v1), some (.int v2), some (.int v3), some (.int v4), some (.int v5)], [.int 0, .int v5, .ref 46], h)) (fun hs => ?_)
      exact K67 hs
theorem f_Course_shareLoad_37_l34_t {x : zm_X} {d : Nat} (v1 : Int32) (v2 : Int32) (v3 : Int32) (v4 : Int32) {Q : Option Value → zm_H → Prop} (G : Nat × Int32 × zm_H → Prop) (hx1 : ∀ (v5 : Int32) (h : zm_H) (o5 : Option Value), zSh zT0 h → G (1, v5, h) → zg x (d + 3) 23 75 [some (.ref 37), some (.int v1), some (.int v2), some (.int v3), some (.int v4), o5] [] h Q) : ∀ (n : Nat) (v5 : Int32) (h : zm_H), zSh zT0 h → f_Course_shareLoad_37_l34_ok v1 v2 v3 v4 n (v5, h) → G (f_Course_shareLoad_37_l34 v1 v2 v3 v4 n (v5, h)) → zg x (d + 3) 23 34 [some (.ref 37), some (.int v1), some (.int v2), some (.int v3), some (.int v4), some (.int v5)] [] h Q := by
  intro n
  induction n with
  | zero => intro v5 h hs ho hG; exact ho.elim
  | succ n ih =>
    intro v5 h hs ho hG
    refine f_Course_shareLoad_37_l34_b_t (FN := fun r => (r.1 = 0 → f_Course_shareLoad_37_l34_ok v1 v2 v3 v4 n r.2) ∧ G (if r.1 = 0 then f_Course_shareLoad_37_l34 v1 v2 v3 v4 n r.2 else r)) v1 v2 v3 v4 v5 h hs ho.1 ⟨ho.2, hG⟩ ?_ ?_
    · intro v5 h hs hF
      exact ih v5 h hs (hF.1 rfl) hF.2
    · intro v5 h o5 hs hF
      exact hx1 v5 h o5 hs hF.2

set_option maxRecDepth 100000 in
set_option maxHeartbeats 400000 in
theorem f_Course_shareLoad_37_k75_t {x : zm_X} {d : Nat} (h : zm_H) (o0 : Option Value) (o1 : Option Value) (o2 : Option Value) (z3 : Int32) (o4 : Option Value) (o5 : Option Value) {Q : Option Value → zm_H → Prop} (hs : zSh zT0 h) (ho : f_Course_shareLoad_37_k75_ok h) (hF : (zSh zT0 (f_Course_shareLoad_37_k75 h) → Q none (f_Course_shareLoad_37_k75 h))) : zg x (d + 3) 23 75 [o0, o1, o2, some (.int z3), o4, o5] [] h Q := by
  unfold f_Course_shareLoad_37_k75 at hF
  unfold f_Course_shareLoad_37_k75_ok at ho
  exact zg_ret zd_23 rfl rfl (hF hs)
set_option maxRecDepth 100000 in
set_option maxHeartbeats 400000 in
theorem f_Course_shareLoad_37_k31_t {x : zm_X} {d : Nat} (v1 : Int32) (v2 : Int32) (v3 : Int32) (v4 : Int32) (h : zm_H) (o5 : Option Value) {Q : Option Value → zm_H → Prop} (hs : zSh zT0 h) (ho : f_Course_shareLoad_37_k31_ok v1 v2 v3 v4 h) (hF : (zSh zT0 (f_Course_shareLoad_37_k31 v1 v2 v3 v4 h) → Q none (f_Course_shareLoad_37_k31 v1 v2 v3 v4 h))) : zg x (d + 3) 23 31 [some (.ref 37), some (.int v1), some (.int v2), some (.int v3), some (.int v4), o5] [] h Q := by
  unfold f_Course_shareLoad_37_k31 at hF
  unfold f_Course_shareLoad_37_k31_ok at ho
  refine zg_blk zd_23 2 hs (rfl : zb x zT0 zc_23 2 (31, [some (.ref 37), some (.int v1), some (.int v2), some (.int v3), some (.int v4), o5], [], h) = some (34, [some (.ref 37), some (.int v1), some (.int v2), some (.int v3), some (.int v4), some (.int 0)], [], h)) (fun hs => ?_)
  refine f_Course_shareLoad_37_l34_t v1 v2 v3 v4 (fun r => f_Course_shareLoad_37_a34_ok r ∧ (zSh zT0 (f_Course_shareLoad_37_a34 r) → Q none (f_Course_shareLoad_37_a34 r))) ?_ zF 0 h hs ho.1 ⟨ho.2, hF⟩
  · intro v5_ h_ o5_ hs hG
    have ho : True := trivial
    have hF : (zSh zT0 ((f_Course_shareLoad_37_k75 h_)) → Q none ((f_Course_shareLoad_37_k75 h_))) := hG.2
    exact f_Course_shareLoad_37_k75_t h_ (some (.ref 37)) (some (.int v1)) (some (.int v2)) v3 (some (.int v4)) (o5_) hs trivial hF
set_option maxRecDepth 100000 in
set_option maxHeartbeats 400000 in
theorem f_Course_shareLoad_37_t {x : zm_X} {d : Nat} (p1 : Int32) (p2 : Int32) (p3 : Int32) (h : zm_H) {Q : Option Value → zm_H → Prop} (hs : zSh zT0 h) (ho : f_Course_shareLoad_37_ok p1 p2 p3 h) (hF : (zSh zT0 (f_Course_shareLoad_37 p1 p2 p3 h) → Q none (f_Course_shareLoad_37 p1 p2 p3 h))) : zg x (d + 3) 23 0 [some (.ref 37), some (.int p1), some (.int p2), some (.int p3), none, none] [] h Q := by
  unfold f_Course_shareLoad_37 at hF
  unfold f_Course_shareLoad_37_ok at ho
  refine zg_blk zd_23 4 hs (rfl : zb x zT0 zc_23 4 (0, [some (.ref 37), some (.int p1), some (.int p2), some (.int p3), none, none], [], h) = some (6, [some (.ref 37), some (.int p1), some (.int p2), some (.int p3), some (.int 0), some (.int 0)], [], h)) (fun hs => ?_)
  refine f_Course_shareLoad_37_l6_t p1 p2 p3 h (fun r => f_Course_shareLoad_37_a6_ok p1 p2 p3 r h ∧ (zSh zT0 (f_Course_shareLoad_37_a6 p1 p2 p3 r h) → Q none (f_Course_shareLoad_37_a6 p1 p2 p3 r h))) ?_ zF 0 0 hs ho.1 ⟨ho.2, hF⟩
  · intro v4_ v5_ o5_ hs hG
    have ho : (f_Course_shareLoad_37_k31_ok p1 p2 p3 v4_ h) := hG.1
    have hF : (zSh zT0 ((f_Course_shareLoad_37_k31 p1 p2 p3 v4_ h)) → Q none ((f_Course_shareLoad_37_k31 p1 p2 p3 v4_ h))) := hG.2
    exact f_Course_shareLoad_37_k31_t p1 p2 p3 v4_ h (o5_) hs ho hF
theorem zd_25 : zm_cd 25 = zc_25 := by rfl
set_option maxRecDepth 100000 in
set_option maxHeartbeats 400000 in
theorem f_Course_strain_37_t {x : zm_X} {d : Nat} (p1 : Int32) (p2 : Int32) (p3 : Int32) (h : zm_H) {Q : Option Value → zm_H → Prop} (hs : zSh zT0 h) (ho : f_Course_strain_37_ok p1 p2 p3 h) (hF : (zSh zT0 (f_Course_strain_37 p1 p2 p3 h) → Q none (f_Course_strain_37 p1 p2 p3 h))) : zg x (d + 2) 25 0 [some (.ref 37), some (.int p1), some (.int p2), some (.int p3)] [] h Q := by
  unfold f_Course_strain_37 at hF
  unfold f_Course_strain_37_ok at ho
  refine zg_blk zd_25 2 hs (rfl : zb x zT0 zc_25 2 (0, [some (.ref 37), some (.int p1), some (.int p2), some (.int p3)], [], h) = some (2, [some (.ref 37), some (.int p1), some (.int p2), some (.int p3)], [.int p1, .ref 37], h)) (fun hs => ?_)
  obtain ⟨hob, ho⟩ := ho
  refine zg_call hs zd_25 rfl rfl rfl rfl (as := [.ref 37, .int p1]) (rest := []) (en := [some (.ref 37), some (.int p1)]) rfl rfl rfl rfl rfl ?_
  refine f_Course_holds_37_t p1 h hs hob ?_
  show zg x (d + 2) 25 5 [some (.ref 37), some (.int p1), some (.int p2), some (.int p3)] [.int (f_Course_holds_37 p1 h)] h Q
  refine zg_f_ne zd_25 rfl (fun (hc : ¬ ((f_Course_holds_37 p1 h) = 0)) => ?_) (fun (hc : ((f_Course_holds_37 p1 h) = 0)) => ?_)
  · have ho := ho.2 hc
    rw [if_neg hc] at hF
    refine zg_blk zd_25 3 hs (rfl : zb x zT0 zc_25 3 (9, [some (.ref 37), some (.int p1), some (.int p2), some (.int p3)], [], h) = some (12, [some (.ref 37), some (.int p1), some (.int p2), some (.int p3)], [.int p1, .ref 37, .int p2], h)) (fun hs => ?_)
    obtain ⟨hob, ho⟩ := ho
    refine zg_call hs zd_25 rfl rfl rfl rfl (as := [.ref 37, .int p1]) (rest := [.int p2]) (en := [some (.ref 37), some (.int p1)]) rfl rfl rfl rfl rfl ?_
    refine f_Course_hold_37_t p1 h hs hob ?_
    show zg x (d + 2) 25 15 [some (.ref 37), some (.int p1), some (.int p2), some (.int p3)] [.int (f_Course_hold_37 p1 h), .int p2] h Q
    have hom := ho
    have K68 : zSh zT0 (if (p2 ≤ (f_Course_hold_37 p1 h)) then (zs h 44 p1 ((zr h 44 p1) + (if 0 < (p2 - 100) then (p2 - 100) else 0))) else (zs h 45 p1 p3)) → zg x (d + 2) 25 45 [some (.ref 37), some (.int p1), some (.int p2), some (.int p3)] [] (if (p2 ≤ (f_Course_hold_37 p1 h)) then (zs h 44 p1 ((zr h 44 p1) + (if 0 < (p2 - 100) then (p2 - 100) else 0))) else (zs h 45 p1 p3)) Q := fun hs => by
      exact zg_ret zd_25 rfl rfl (hF hs)
    refine zg_i_le zd_25 rfl (fun (hc : (p2 ≤ (f_Course_hold_37 p1 h))) => ?_) (fun (hc : ¬ (p2 ≤ (f_Course_hold_37 p1 h))) => ?_)
    · have ho := hom.1 hc
      rw [show (if (p2 ≤ (f_Course_hold_37 p1 h)) then (zs h 44 p1 ((zr h 44 p1) + (if 0 < (p2 - 100) then (p2 - 100) else 0))) else (zs h 45 p1 p3)) = (zs h 44 p1 ((zr h 44 p1) + (if 0 < (p2 - 100) then (p2 - 100) else 0))) from if_pos hc] at K68
      refine zg_blk zd_25 4 hs (rfl : zb x zT0 zc_25 4 (28, [some (.ref 37), some (.int p1), some (.int p2), some (.int p3)], [], h) = some (34, [some (.ref 37), some (.int p1), some (.int p2), some (.int p3)], [.int p1, .ref 44, .int p1, .ref 44], h)) (fun hs => ?_)
      obtain ⟨hob, ho⟩ := ho
      refine zg_ial hs zd_25 rfl rfl hob ?_
      refine zg_blk zd_25 4 hs (rfl : zb x zT0 zc_25 4 (35, [some (.ref 37), some (.int p1), some (.int p2), some (.int p3)], [.int (zr h 44 p1), .int p1, .ref 44], h) = some (40, [some (.ref 37), some (.int p1), some (.int p2), some (.int p3)], [.int (p2 - 100), .int 0, .int (zr h 44 p1), .int p1, .ref 44], h)) (fun hs => ?_)
      refine zg_x zd_25 rfl rfl rfl rfl (as := [.int 0, .int (p2 - 100)]) (rest := [.int (zr h 44 p1), .int p1, .ref 44]) (w := some (.int (if 0 < (p2 - 100) then (p2 - 100) else 0))) rfl rfl rfl ?_
      refine zg_blk zd_25 1 hs (rfl : zb x zT0 zc_25 1 (43, [some (.ref 37), some (.int p1), some (.int p2), some (.int p3)], [.int (if 0 < (p2 - 100) then (p2 - 100) else 0), .int (zr h 44 p1), .int p1, .ref 44], h) = some (44, [some (.ref 37), some (.int p1), some (.int p2), some (.int p3)], [.int ((zr h 44 p1) + (if 0 < (p2 - 100) then (p2 - 100) else 0)), .int p1, .ref 44], h)) (fun hs => ?_)
      have hob := ho
      refine zg_ias hs zd_25 rfl rfl hob (fun hs => ?_)
      exact K68 hs
    · have ho := hom.2 hc
      rw [show (if (p2 ≤ (f_Course_hold_37 p1 h)) then (zs h 44 p1 ((zr h 44 p1) + (if 0 < (p2 - 100) then (p2 - 100) else 0))) else (zs h 45 p1 p3)) = (zs h 45 p1 p3) from if_neg hc] at K68
      refine zg_blk zd_25 4 hs (rfl : zb x zT0 zc_25 4 (18, [some (.ref 37), some (.int p1), some (.int p2), some (.int p3)], [], h) = some (24, [some (.ref 37), some (.int p1), some (.int p2), some (.int p3)], [.int p3, .int p1, .ref 45], h)) (fun hs => ?_)
      have hob := ho
      refine zg_ias hs zd_25 rfl rfl hob (fun hs => ?_)
      refine zg_blk zd_25 1 hs (rfl : zb x zT0 zc_25 1 (25, [some (.ref 37), some (.int p1), some (.int p2), some (.int p3)], [], (zs h 45 p1 p3)) = some (45, [some (.ref 37), some (.int p1), some (.int p2), some (.int p3)], [], (zs h 45 p1 p3))) (fun hs => ?_)
      exact K68 hs
  · have ho := ho.1 hc
    rw [if_pos hc] at hF
    exact zg_ret zd_25 rfl rfl (hF hs)
set_option maxRecDepth 100000 in
set_option maxHeartbeats 400000 in
theorem f_Course_strainChains_37_l2_l51_k75_t {x : zm_X} {d : Nat} (v1 : Int32) (v2 : Int32) (v3 : Int32) (v4 : Int32) (h : zm_H) {Q : Option Value → zm_H → Prop} {FN : Nat × Int32 × zm_H → Prop} (hs : zSh zT0 h) (ho : f_Course_strainChains_37_l2_l51_k75_ok v1 v2 v3 v4 h) (hF : FN (f_Course_strainChains_37_l2_l51_k75 v1 v2 v3 v4 h)) (hl0 : ∀ (v4 : Int32) (h : zm_H), zSh zT0 h → FN (0, v4, h) → zg x (d + 4) 22 51 [some (.ref 37), some (.int v1), some (.int v2), some (.int v3), some (.int v4)] [] h Q) (hl1 : ∀ (v4 : Int32) (h : zm_H) (o4 : Option Value), zSh zT0 h → FN (1, v4, h) → zg x (d + 4) 22 81 [some (.ref 37), some (.int v1), some (.int v2), some (.int v3), o4] [] h Q) : zg x (d + 4) 22 75 [some (.ref 37), some (.int v1), some (.int v2), some (.int v3), some (.int v4)] [] h Q := by
  unfold f_Course_strainChains_37_l2_l51_k75 at hF
  unfold f_Course_strainChains_37_l2_l51_k75_ok at ho
  refine zg_blk zd_22 2 hs (rfl : zb x zT0 zc_22 2 (75, [some (.ref 37), some (.int v1), some (.int v2), some (.int v3), some (.int v4)], [], h) = some (51, [some (.ref 37), some (.int v1), some (.int v2), some (.int v3), some (.int (v4 + 1))], [], h)) (fun hs => ?_)
  exact hl0 (v4 + 1) h hs hF
set_option maxRecDepth 100000 in
set_option maxHeartbeats 400000 in
theorem f_Course_strainChains_37_l2_l51_b_t {x : zm_X} {d : Nat} (v1 : Int32) (v2 : Int32) (v3 : Int32) (v4 : Int32) (h : zm_H) {Q : Option Value → zm_H → Prop} {FN : Nat × Int32 × zm_H → Prop} (hs : zSh zT0 h) (ho : f_Course_strainChains_37_l2_l51_b_ok v1 v2 v3 v4 h) (hF : FN (f_Course_strainChains_37_l2_l51_b v1 v2 v3 v4 h)) (hl0 : ∀ (v4 : Int32) (h : zm_H), zSh zT0 h → FN (0, v4, h) → zg x (d + 4) 22 51 [some (.ref 37), some (.int v1), some (.int v2), some (.int v3), some (.int v4)] [] h Q) (hl1 : ∀ (v4 : Int32) (h : zm_H) (o4 : Option Value), zSh zT0 h → FN (1, v4, h) → zg x (d + 4) 22 81 [some (.ref 37), some (.int v1), some (.int v2), some (.int v3), o4] [] h Q) : zg x (d + 4) 22 51 [some (.ref 37), some (.int v1), some (.int v2), some (.int v3), some (.int v4)] [] h Q := by
  unfold f_Course_strainChains_37_l2_l51_b at hF
  unfold f_Course_strainChains_37_l2_l51_b_ok at ho
  refine zg_blk zd_22 2 hs (rfl : zb x zT0 zc_22 2 (51, [some (.ref 37), some (.int v1), some (.int v2), some (.int v3), some (.int v4)], [], h) = some (54, [some (.ref 37), some (.int v1), some (.int v2), some (.int v3), some (.int v4)], [.int 3, .int v4], h)) (fun hs => ?_)
  refine zg_i_ge zd_22 rfl (fun (hc : (3 ≤ v4)) => ?_) (fun (hc : ¬ (3 ≤ v4)) => ?_)
  · have ho := ho.1 hc
    rw [if_pos hc] at hF
    exact hl1 v4 h (some (.int v4)) hs hF
  · have ho := ho.2 hc
    rw [if_neg hc] at hF
    refine zg_blk zd_22 9 hs (rfl : zb x zT0 zc_22 9 (57, [some (.ref 37), some (.int v1), some (.int v2), some (.int v3), some (.int v4)], [], h) = some (70, [some (.ref 37), some (.int v1), some (.int v2), some (.int v3), some (.int v4)], [.int v4, .ref 46, .int ((v3 * 3) + v4), .ref 37], h)) (fun hs => ?_)
    obtain ⟨hob, ho⟩ := ho
    refine zg_ial hs zd_22 rfl rfl hob ?_
    refine zg_blk zd_22 1 hs (rfl : zb x zT0 zc_22 1 (71, [some (.ref 37), some (.int v1), some (.int v2), some (.int v3), some (.int v4)], [.int (zr h 46 v4), .int ((v3 * 3) + v4), .ref 37], h) = some (72, [some (.ref 37), some (.int v1), some (.int v2), some (.int v3), some (.int v4)], [.int v1, .int (zr h 46 v4), .int ((v3 * 3) + v4), .ref 37], h)) (fun hs => ?_)
    have hob := ho
    refine zg_call hs zd_22 rfl rfl rfl rfl (as := [.ref 37, .int ((v3 * 3) + v4), .int (zr h 46 v4), .int v1]) (rest := []) (en := [some (.ref 37), some (.int ((v3 * 3) + v4)), some (.int (zr h 46 v4)), some (.int v1)]) rfl rfl rfl rfl rfl ?_
    refine f_Course_strain_37_t ((v3 * 3) + v4) (zr h 46 v4) v1 h hs hob (fun hs => ?_)
    show zg x (d + 4) 22 75 [some (.ref 37), some (.int v1), some (.int v2), some (.int v3), some (.int v4)] [] (f_Course_strain_37 ((v3 * 3) + v4) (zr h 46 v4) v1 h) Q
    exact f_Course_strainChains_37_l2_l51_k75_t v1 v2 v3 v4 (f_Course_strain_37 ((v3 * 3) + v4) (zr h 46 v4) v1 h) hs trivial hF hl0 hl1
theorem f_Course_strainChains_37_l2_l51_t {x : zm_X} {d : Nat} (v1 : Int32) (v2 : Int32) (v3 : Int32) {Q : Option Value → zm_H → Prop} (G : Nat × Int32 × zm_H → Prop) (hx1 : ∀ (v4 : Int32) (h : zm_H) (o4 : Option Value), zSh zT0 h → G (1, v4, h) → zg x (d + 4) 22 81 [some (.ref 37), some (.int v1), some (.int v2), some (.int v3), o4] [] h Q) : ∀ (n : Nat) (v4 : Int32) (h : zm_H), zSh zT0 h → f_Course_strainChains_37_l2_l51_ok v1 v2 v3 n (v4, h) → G (f_Course_strainChains_37_l2_l51 v1 v2 v3 n (v4, h)) → zg x (d + 4) 22 51 [some (.ref 37), some (.int v1), some (.int v2), some (.int v3), some (.int v4)] [] h Q := by
  intro n
  induction n with
  | zero => intro v4 h hs ho hG; exact ho.elim
  | succ n ih =>
    intro v4 h hs ho hG
    refine f_Course_strainChains_37_l2_l51_b_t (FN := fun r => (r.1 = 0 → f_Course_strainChains_37_l2_l51_ok v1 v2 v3 n r.2) ∧ G (if r.1 = 0 then f_Course_strainChains_37_l2_l51 v1 v2 v3 n r.2 else r)) v1 v2 v3 v4 h hs ho.1 ⟨ho.2, hG⟩ ?_ ?_
    · intro v4 h hs hF
      exact ih v4 h hs (hF.1 rfl) hF.2
    · intro v4 h o4 hs hF
      exact hx1 v4 h o4 hs hF.2

theorem zd_26 : zm_cd 26 = zc_26 := by rfl
set_option maxRecDepth 100000 in
set_option maxHeartbeats 400000 in
theorem f_Course_holdBits_37_l4_b_t {x : zm_X} {d : Nat} (v1 : Int32) (v2 : Int32) (v3 : Int32) (h : zm_H) {Q : Option Value → zm_H → Prop} {FN : Nat × Int32 × Int32 → Prop} (hs : zSh zT0 h) (ho : f_Course_holdBits_37_l4_b_ok v1 v2 v3 h) (hF : FN (f_Course_holdBits_37_l4_b v1 v2 v3 h)) (hl0 : ∀ (v2 : Int32) (v3 : Int32), zSh zT0 h → FN (0, v2, v3) → zg x (d + 2) 26 4 [some (.ref 37), some (.int v1), some (.int v2), some (.int v3)] [] h Q) (hl1 : ∀ (v2 : Int32) (v3 : Int32) (o3 : Option Value), zSh zT0 h → FN (1, v2, v3) → zg x (d + 2) 26 37 [some (.ref 37), some (.int v1), some (.int v2), o3] [] h Q) : zg x (d + 2) 26 4 [some (.ref 37), some (.int v1), some (.int v2), some (.int v3)] [] h Q := by
  unfold f_Course_holdBits_37_l4_b at hF
  unfold f_Course_holdBits_37_l4_b_ok at ho
  refine zg_blk zd_26 2 hs (rfl : zb x zT0 zc_26 2 (4, [some (.ref 37), some (.int v1), some (.int v2), some (.int v3)], [], h) = some (6, [some (.ref 37), some (.int v1), some (.int v2), some (.int v3)], [.int 3, .int v3], h)) (fun hs => ?_)
  refine zg_i_ge zd_26 rfl (fun (hc : (3 ≤ v3)) => ?_) (fun (hc : ¬ (3 ≤ v3)) => ?_)
  · have ho := ho.1 hc
    rw [if_pos hc] at hF
    exact hl1 v2 v3 (some (.int v3)) hs hF
  · have ho := ho.2 hc
    rw [if_neg hc] at hF
    refine zg_blk zd_26 7 hs (rfl : zb x zT0 zc_26 7 (9, [some (.ref 37), some (.int v1), some (.int v2), some (.int v3)], [], h) = some (16, [some (.ref 37), some (.int v1), some (.int v2), some (.int v3)], [.int ((v1 * 3) + v3), .ref 37, .int v2], h)) (fun hs => ?_)
    have hob := ho
    refine zg_call hs zd_26 rfl rfl rfl rfl (as := [.ref 37, .int ((v1 * 3) + v3)]) (rest := [.int v2]) (en := [some (.ref 37), some (.int ((v1 * 3) + v3))]) rfl rfl rfl rfl rfl ?_
    refine f_Course_holds_37_t ((v1 * 3) + v3) h hs hob ?_
    show zg x (d + 2) 26 19 [some (.ref 37), some (.int v1), some (.int v2), some (.int v3)] [.int (f_Course_holds_37 ((v1 * 3) + v3) h), .int v2] h Q
    have K69 : zSh zT0 h → zg x (d + 2) 26 29 [some (.ref 37), some (.int v1), some (.int v2), some (.int v3)] [.int (if ((f_Course_holds_37 ((v1 * 3) + v3) h) = 0) then (0 : Int32) else (1 <<< (v3 &&& 31))), .int v2] h Q := fun hs => by
      refine zg_blk zd_26 4 hs (rfl : zb x zT0 zc_26 4 (29, [some (.ref 37), some (.int v1), some (.int v2), some (.int v3)], [.int (if ((f_Course_holds_37 ((v1 * 3) + v3) h) = 0) then (0 : Int32) else (1 <<< (v3 &&& 31))), .int v2], h) = some (4, [some (.ref 37), some (.int v1), some (.int (v2 ||| (if ((f_Course_holds_37 ((v1 * 3) + v3) h) = 0) then (0 : Int32) else (1 <<< (v3 &&& 31))))), some (.int (v3 + 1))], [], h)) (fun hs => ?_)
      exact hl0 (v2 ||| (if ((f_Course_holds_37 ((v1 * 3) + v3) h) = 0) then (0 : Int32) else (1 <<< (v3 &&& 31)))) (v3 + 1) hs hF
    refine zg_f_eq zd_26 rfl (fun (hc : ((f_Course_holds_37 ((v1 * 3) + v3) h) = 0)) => ?_) (fun (hc : ¬ ((f_Course_holds_37 ((v1 * 3) + v3) h) = 0)) => ?_)
    · skip
      rw [show ((if ((f_Course_holds_37 ((v1 * 3) + v3) h) = 0) then (0 : Int32) else (1 <<< (v3 &&& 31))) : Int32) = 0 from if_pos hc] at K69
      refine zg_blk zd_26 1 hs (rfl : zb x zT0 zc_26 1 (28, [some (.ref 37), some (.int v1), some (.int v2), some (.int v3)], [.int v2], h) = some (29, [some (.ref 37), some (.int v1), some (.int v2), some (.int v3)], [.int 0, .int v2], h)) (fun hs => ?_)
      exact K69 hs
    · skip
      rw [show ((if ((f_Course_holds_37 ((v1 * 3) + v3) h) = 0) then (0 : Int32) else (1 <<< (v3 &&& 31))) : Int32) = (1 <<< (v3 &&& 31)) from if_neg hc] at K69
      refine zg_blk zd_26 4 hs (rfl : zb x zT0 zc_26 4 (22, [some (.ref 37), some (.int v1), some (.int v2), some (.int v3)], [.int v2], h) = some (29, [some (.ref 37), some (.int v1), some (.int v2), some (.int v3)], [.int (1 <<< (v3 &&& 31)), .int v2], h)) (fun hs => ?_)
      exact K69 hs
theorem f_Course_holdBits_37_l4_t {x : zm_X} {d : Nat} (v1 : Int32) (h : zm_H) {Q : Option Value → zm_H → Prop} (G : Nat × Int32 × Int32 → Prop) (hx1 : ∀ (v2 : Int32) (v3 : Int32) (o3 : Option Value), zSh zT0 h → G (1, v2, v3) → zg x (d + 2) 26 37 [some (.ref 37), some (.int v1), some (.int v2), o3] [] h Q) : ∀ (n : Nat) (v2 : Int32) (v3 : Int32), zSh zT0 h → f_Course_holdBits_37_l4_ok v1 h n (v2, v3) → G (f_Course_holdBits_37_l4 v1 h n (v2, v3)) → zg x (d + 2) 26 4 [some (.ref 37), some (.int v1), some (.int v2), some (.int v3)] [] h Q := by
  intro n
  induction n with
  | zero => intro v2 v3 hs ho hG; exact ho.elim
  | succ n ih =>
    intro v2 v3 hs ho hG
    refine f_Course_holdBits_37_l4_b_t (FN := fun r => (r.1 = 0 → f_Course_holdBits_37_l4_ok v1 h n r.2) ∧ G (if r.1 = 0 then f_Course_holdBits_37_l4 v1 h n r.2 else r)) v1 v2 v3 h hs ho.1 ⟨ho.2, hG⟩ ?_ ?_
    · intro v2 v3 hs hF
      exact ih v2 v3 hs (hF.1 rfl) hF.2
    · intro v2 v3 o3 hs hF
      exact hx1 v2 v3 o3 hs hF.2

set_option maxRecDepth 100000 in
set_option maxHeartbeats 400000 in
theorem f_Course_holdBits_37_k37_t {x : zm_X} {d : Nat} (v2 : Int32) (h : zm_H) (o0 : Option Value) (z1 : Int32) (o3 : Option Value) {Q : Option Value → zm_H → Prop} (hs : zSh zT0 h) (ho : f_Course_holdBits_37_k37_ok v2 h) (hF : Q (some (.int (f_Course_holdBits_37_k37 v2 h))) h) : zg x (d + 2) 26 37 [o0, some (.int z1), some (.int v2), o3] [] h Q := by
  unfold f_Course_holdBits_37_k37 at hF
  unfold f_Course_holdBits_37_k37_ok at ho
  refine zg_blk zd_26 1 hs (rfl : zb x zT0 zc_26 1 (37, [o0, some (.int z1), some (.int v2), o3], [], h) = some (38, [o0, some (.int z1), some (.int v2), o3], [.int v2], h)) (fun hs => ?_)
  exact zg_ret zd_26 rfl rfl hF
set_option maxRecDepth 100000 in
set_option maxHeartbeats 400000 in
theorem f_Course_holdBits_37_t {x : zm_X} {d : Nat} (p1 : Int32) (h : zm_H) {Q : Option Value → zm_H → Prop} (hs : zSh zT0 h) (ho : f_Course_holdBits_37_ok p1 h) (hF : Q (some (.int (f_Course_holdBits_37 p1 h))) h) : zg x (d + 2) 26 0 [some (.ref 37), some (.int p1), none, none] [] h Q := by
  unfold f_Course_holdBits_37 at hF
  unfold f_Course_holdBits_37_ok at ho
  refine zg_blk zd_26 4 hs (rfl : zb x zT0 zc_26 4 (0, [some (.ref 37), some (.int p1), none, none], [], h) = some (4, [some (.ref 37), some (.int p1), some (.int 0), some (.int 0)], [], h)) (fun hs => ?_)
  refine f_Course_holdBits_37_l4_t p1 h (fun r => f_Course_holdBits_37_a4_ok r h ∧ Q (some (.int (f_Course_holdBits_37_a4 r h))) h) ?_ zF 0 0 hs ho.1 ⟨ho.2, hF⟩
  · intro v2_ v3_ o3_ hs hG
    have ho : True := trivial
    have hF : Q (some (.int ((f_Course_holdBits_37_k37 v2_ h)))) h := hG.2
    exact f_Course_holdBits_37_k37_t v2_ h (some (.ref 37)) p1 (o3_) hs trivial hF
set_option maxRecDepth 100000 in
set_option maxHeartbeats 400000 in
theorem f_Course_strainChains_37_l2_k81_t {x : zm_X} {d : Nat} (v1 : Int32) (v2 : Int32) (v3 : Int32) (h : zm_H) (o4 : Option Value) {Q : Option Value → zm_H → Prop} {FN : Nat × Int32 × zm_H → Prop} (hs : zSh zT0 h) (ho : f_Course_strainChains_37_l2_k81_ok v1 v2 v3 h) (hF : FN (f_Course_strainChains_37_l2_k81 v1 v2 v3 h)) (hl0 : ∀ (v3 : Int32) (h : zm_H) (o4 : Option Value), zSh zT0 h → FN (0, v3, h) → zg x (d + 4) 22 2 [some (.ref 37), some (.int v1), some (.int v2), some (.int v3), o4] [] h Q) (hl1 : ∀ (v3 : Int32) (h : zm_H) (o3 : Option Value) (o4 : Option Value), zSh zT0 h → FN (1, v3, h) → zg x (d + 4) 22 109 [some (.ref 37), some (.int v1), some (.int v2), o3, o4] [] h Q) : zg x (d + 4) 22 81 [some (.ref 37), some (.int v1), some (.int v2), some (.int v3), o4] [] h Q := by
  unfold f_Course_strainChains_37_l2_k81 at hF
  unfold f_Course_strainChains_37_l2_k81_ok at ho
  refine zg_blk zd_22 2 hs (rfl : zb x zT0 zc_22 2 (81, [some (.ref 37), some (.int v1), some (.int v2), some (.int v3), o4], [], h) = some (83, [some (.ref 37), some (.int v1), some (.int v2), some (.int v3), o4], [.int v3, .ref 37], h)) (fun hs => ?_)
  obtain ⟨hob, ho⟩ := ho
  refine zg_call hs zd_22 rfl rfl rfl rfl (as := [.ref 37, .int v3]) (rest := []) (en := [some (.ref 37), some (.int v3), none, none]) rfl rfl rfl rfl rfl ?_
  refine f_Course_holdBits_37_t v3 h hs hob ?_
  show zg x (d + 4) 22 86 [some (.ref 37), some (.int v1), some (.int v2), some (.int v3), o4] [.int (f_Course_holdBits_37 v3 h)] h Q
  have hom := ho
  have K70 : zSh zT0 (if ((f_Course_holdBits_37 v3 h) = 0) then (zs (zs h 38 v3 3) 39 v3 (-1)) else h) → zg x (d + 4) 22 103 [some (.ref 37), some (.int v1), some (.int v2), some (.int v3), o4] [] (if ((f_Course_holdBits_37 v3 h) = 0) then (zs (zs h 38 v3 3) 39 v3 (-1)) else h) Q := fun hs => by
    refine zg_blk zd_22 2 hs (rfl : zb x zT0 zc_22 2 (103, [some (.ref 37), some (.int v1), some (.int v2), some (.int v3), o4], [], (if ((f_Course_holdBits_37 v3 h) = 0) then (zs (zs h 38 v3 3) 39 v3 (-1)) else h)) = some (2, [some (.ref 37), some (.int v1), some (.int v2), some (.int (v3 + 1)), o4], [], (if ((f_Course_holdBits_37 v3 h) = 0) then (zs (zs h 38 v3 3) 39 v3 (-1)) else h))) (fun hs => ?_)
    exact hl0 (v3 + 1) (if ((f_Course_holdBits_37 v3 h) = 0) then (zs (zs h 38 v3 3) 39 v3 (-1)) else h) (o4) hs hF
  refine zg_f_ne zd_22 rfl (fun (hc : ¬ ((f_Course_holdBits_37 v3 h) = 0)) => ?_) (fun (hc : ((f_Course_holdBits_37 v3 h) = 0)) => ?_)
  · have ho := hom.2 hc
    rw [show (if ((f_Course_holdBits_37 v3 h) = 0) then (zs (zs h 38 v3 3) 39 v3 (-1)) else h) = h from if_neg hc] at K70
    exact K70 hs
  · have ho := hom.1 hc
    rw [show (if ((f_Course_holdBits_37 v3 h) = 0) then (zs (zs h 38 v3 3) 39 v3 (-1)) else h) = (zs (zs h 38 v3 3) 39 v3 (-1)) from if_pos hc] at K70
    refine zg_blk zd_22 4 hs (rfl : zb x zT0 zc_22 4 (89, [some (.ref 37), some (.int v1), some (.int v2), some (.int v3), o4], [], h) = some (95, [some (.ref 37), some (.int v1), some (.int v2), some (.int v3), o4], [.int 3, .int v3, .ref 38], h)) (fun hs => ?_)
    obtain ⟨hob, ho⟩ := ho
    refine zg_ias hs zd_22 rfl rfl hob (fun hs => ?_)
    refine zg_blk zd_22 4 hs (rfl : zb x zT0 zc_22 4 (96, [some (.ref 37), some (.int v1), some (.int v2), some (.int v3), o4], [], (zs h 38 v3 3)) = some (102, [some (.ref 37), some (.int v1), some (.int v2), some (.int v3), o4], [.int (-1), .int v3, .ref 39], (zs h 38 v3 3))) (fun hs => ?_)
    have hob := ho
    refine zg_ias hs zd_22 rfl rfl hob (fun hs => ?_)
    exact K70 hs
set_option maxRecDepth 100000 in
set_option maxHeartbeats 400000 in
theorem f_Course_strainChains_37_l2_k48_t {x : zm_X} {d : Nat} (v1 : Int32) (v2 : Int32) (v3 : Int32) (h : zm_H) (o4 : Option Value) {Q : Option Value → zm_H → Prop} {FN : Nat × Int32 × zm_H → Prop} (hs : zSh zT0 h) (ho : f_Course_strainChains_37_l2_k48_ok v1 v2 v3 h) (hF : FN (f_Course_strainChains_37_l2_k48 v1 v2 v3 h)) (hl0 : ∀ (v3 : Int32) (h : zm_H) (o4 : Option Value), zSh zT0 h → FN (0, v3, h) → zg x (d + 4) 22 2 [some (.ref 37), some (.int v1), some (.int v2), some (.int v3), o4] [] h Q) (hl1 : ∀ (v3 : Int32) (h : zm_H) (o3 : Option Value) (o4 : Option Value), zSh zT0 h → FN (1, v3, h) → zg x (d + 4) 22 109 [some (.ref 37), some (.int v1), some (.int v2), o3, o4] [] h Q) : zg x (d + 4) 22 48 [some (.ref 37), some (.int v1), some (.int v2), some (.int v3), o4] [] h Q := by
  unfold f_Course_strainChains_37_l2_k48 at hF
  unfold f_Course_strainChains_37_l2_k48_ok at ho
  refine zg_blk zd_22 2 hs (rfl : zb x zT0 zc_22 2 (48, [some (.ref 37), some (.int v1), some (.int v2), some (.int v3), o4], [], h) = some (51, [some (.ref 37), some (.int v1), some (.int v2), some (.int v3), some (.int 0)], [], h)) (fun hs => ?_)
  refine f_Course_strainChains_37_l2_l51_t v1 v2 v3 (fun r => f_Course_strainChains_37_l2_a51_ok v1 v2 v3 r ∧ FN (f_Course_strainChains_37_l2_a51 v1 v2 v3 r)) ?_ zF 0 h hs ho.1 ⟨ho.2, hF⟩
  · intro v4_ h_ o4_ hs hG
    have ho : (f_Course_strainChains_37_l2_k81_ok v1 v2 v3 h_) := hG.1
    have hF : FN ((f_Course_strainChains_37_l2_k81 v1 v2 v3 h_)) := hG.2
    exact f_Course_strainChains_37_l2_k81_t v1 v2 v3 h_ (o4_) hs ho hF hl0 hl1
set_option maxRecDepth 100000 in
set_option maxHeartbeats 400000 in
theorem f_Course_strainChains_37_l2_b_t {x : zm_X} {d : Nat} (v1 : Int32) (v2 : Int32) (v3 : Int32) (h : zm_H) (o4 : Option Value) {Q : Option Value → zm_H → Prop} {FN : Nat × Int32 × zm_H → Prop} (hs : zSh zT0 h) (ho : f_Course_strainChains_37_l2_b_ok v1 v2 v3 h) (hF : FN (f_Course_strainChains_37_l2_b v1 v2 v3 h)) (hl0 : ∀ (v3 : Int32) (h : zm_H) (o4 : Option Value), zSh zT0 h → FN (0, v3, h) → zg x (d + 4) 22 2 [some (.ref 37), some (.int v1), some (.int v2), some (.int v3), o4] [] h Q) (hl1 : ∀ (v3 : Int32) (h : zm_H) (o3 : Option Value) (o4 : Option Value), zSh zT0 h → FN (1, v3, h) → zg x (d + 4) 22 109 [some (.ref 37), some (.int v1), some (.int v2), o3, o4] [] h Q) : zg x (d + 4) 22 2 [some (.ref 37), some (.int v1), some (.int v2), some (.int v3), o4] [] h Q := by
  unfold f_Course_strainChains_37_l2_b at hF
  unfold f_Course_strainChains_37_l2_b_ok at ho
  refine zg_blk zd_22 4 hs (rfl : zb x zT0 zc_22 4 (2, [some (.ref 37), some (.int v1), some (.int v2), some (.int v3), o4], [], h) = some (10, [some (.ref 37), some (.int v1), some (.int v2), some (.int v3), o4], [.int (zf h 23 0), .int v3], h)) (fun hs => ?_)
  refine zg_i_ge zd_22 rfl (fun (hc : ((zf h 23 0) ≤ v3)) => ?_) (fun (hc : ¬ ((zf h 23 0) ≤ v3)) => ?_)
  · have ho := ho.1 hc
    rw [if_pos hc] at hF
    exact hl1 v3 h (some (.int v3)) (o4) hs hF
  · have ho := ho.2 hc
    rw [if_neg hc] at hF
    refine zg_blk zd_22 3 hs (rfl : zb x zT0 zc_22 3 (13, [some (.ref 37), some (.int v1), some (.int v2), some (.int v3), o4], [], h) = some (18, [some (.ref 37), some (.int v1), some (.int v2), some (.int v3), o4], [.int v3, .ref 38], h)) (fun hs => ?_)
    obtain ⟨hob, ho⟩ := ho
    refine zg_ial hs zd_22 rfl rfl hob ?_
    refine zg_blk zd_22 1 hs (rfl : zb x zT0 zc_22 1 (19, [some (.ref 37), some (.int v1), some (.int v2), some (.int v3), o4], [.int (zr h 38 v3)], h) = some (20, [some (.ref 37), some (.int v1), some (.int v2), some (.int v3), o4], [.int 1, .int (zr h 38 v3)], h)) (fun hs => ?_)
    refine zg_i_ne zd_22 rfl (fun (hc : ¬ ((zr h 38 v3) = 1)) => ?_) (fun (hc : ((zr h 38 v3) = 1)) => ?_)
    · have ho := ho.2 hc
      rw [if_neg hc] at hF
      exact f_Course_strainChains_37_l2_k103_t v1 v2 v3 h (o4) hs trivial hF hl0 hl1
    · have ho := ho.1 hc
      rw [if_pos hc] at hF
      refine zg_blk zd_22 3 hs (rfl : zb x zT0 zc_22 3 (23, [some (.ref 37), some (.int v1), some (.int v2), some (.int v3), o4], [], h) = some (26, [some (.ref 37), some (.int v1), some (.int v2), some (.int v3), o4], [.int v2, .int v3, .ref 37], h)) (fun hs => ?_)
      refine zg_call hs zd_22 rfl rfl rfl rfl (as := [.int v2]) (rest := [.int v3, .ref 37]) (en := [some (.int v2)]) rfl rfl rfl rfl rfl ?_
      refine f_N_heightOf_t v2 h hs trivial ?_
      show zg x (d + 4) 22 29 [some (.ref 37), some (.int v1), some (.int v2), some (.int v3), o4] [.int (v2 / 1000), .int v3, .ref 37] h Q
      refine zg_blk zd_22 4 hs (rfl : zb x zT0 zc_22 4 (29, [some (.ref 37), some (.int v1), some (.int v2), some (.int v3), o4], [.int (v2 / 1000), .int v3, .ref 37], h) = some (37, [some (.ref 37), some (.int v1), some (.int v2), some (.int v3), o4], [.int v3, .ref 24, .int (v2 / 1000), .int v3, .ref 37], h)) (fun hs => ?_)
      obtain ⟨hob, ho⟩ := ho
      refine zg_ial hs zd_22 rfl rfl hob ?_
      refine zg_blk zd_22 4 hs (rfl : zb x zT0 zc_22 4 (38, [some (.ref 37), some (.int v1), some (.int v2), some (.int v3), o4], [.int (zr h 24 v3), .int (v2 / 1000), .int v3, .ref 37], h) = some (42, [some (.ref 37), some (.int v1), some (.int v2), some (.int v3), o4], [.int v2, .int ((v2 / 1000) * ((zr h 24 v3) + 5)), .int v3, .ref 37], h)) (fun hs => ?_)
      refine zg_call hs zd_22 rfl rfl rfl rfl (as := [.int v2]) (rest := [.int ((v2 / 1000) * ((zr h 24 v3) + 5)), .int v3, .ref 37]) (en := [some (.int v2)]) rfl rfl rfl rfl rfl ?_
      refine f_N_wayOf_t v2 h hs trivial ?_
      show zg x (d + 4) 22 45 [some (.ref 37), some (.int v1), some (.int v2), some (.int v3), o4] [.int ((zm_rm v2 10) - 1), .int ((v2 / 1000) * ((zr h 24 v3) + 5)), .int v3, .ref 37] h Q
      obtain ⟨hob, ho⟩ := ho
      refine zg_call hs zd_22 rfl rfl rfl rfl (as := [.ref 37, .int v3, .int ((v2 / 1000) * ((zr h 24 v3) + 5)), .int ((zm_rm v2 10) - 1)]) (rest := []) (en := [some (.ref 37), some (.int v3), some (.int ((v2 / 1000) * ((zr h 24 v3) + 5))), some (.int ((zm_rm v2 10) - 1)), none, none]) rfl rfl rfl rfl rfl ?_
      refine f_Course_shareLoad_37_t v3 ((v2 / 1000) * ((zr h 24 v3) + 5)) ((zm_rm v2 10) - 1) h hs hob (fun hs => ?_)
      show zg x (d + 4) 22 48 [some (.ref 37), some (.int v1), some (.int v2), some (.int v3), o4] [] (f_Course_shareLoad_37 v3 ((v2 / 1000) * ((zr h 24 v3) + 5)) ((zm_rm v2 10) - 1) h) Q
      exact f_Course_strainChains_37_l2_k48_t v1 v2 v3 (f_Course_shareLoad_37 v3 ((v2 / 1000) * ((zr h 24 v3) + 5)) ((zm_rm v2 10) - 1) h) (o4) hs ho hF hl0 hl1
theorem f_Course_strainChains_37_l2_t {x : zm_X} {d : Nat} (v1 : Int32) (v2 : Int32) {Q : Option Value → zm_H → Prop} (G : Nat × Int32 × zm_H → Prop) (hx1 : ∀ (v3 : Int32) (h : zm_H) (o3 : Option Value) (o4 : Option Value), zSh zT0 h → G (1, v3, h) → zg x (d + 4) 22 109 [some (.ref 37), some (.int v1), some (.int v2), o3, o4] [] h Q) : ∀ (n : Nat) (v3 : Int32) (h : zm_H) (o4 : Option Value), zSh zT0 h → f_Course_strainChains_37_l2_ok v1 v2 n (v3, h) → G (f_Course_strainChains_37_l2 v1 v2 n (v3, h)) → zg x (d + 4) 22 2 [some (.ref 37), some (.int v1), some (.int v2), some (.int v3), o4] [] h Q := by
  intro n
  induction n with
  | zero => intro v3 h o4 hs ho hG; exact ho.elim
  | succ n ih =>
    intro v3 h o4 hs ho hG
    refine f_Course_strainChains_37_l2_b_t (FN := fun r => (r.1 = 0 → f_Course_strainChains_37_l2_ok v1 v2 n r.2) ∧ G (if r.1 = 0 then f_Course_strainChains_37_l2 v1 v2 n r.2 else r)) v1 v2 v3 h o4 hs ho.1 ⟨ho.2, hG⟩ ?_ ?_
    · intro v3 h o4 hs hF
      exact ih v3 h o4 hs (hF.1 rfl) hF.2
    · intro v3 h o3 o4 hs hF
      exact hx1 v3 h o3 o4 hs hF.2

set_option maxRecDepth 100000 in
set_option maxHeartbeats 400000 in
theorem f_Course_strainChains_37_k109_t {x : zm_X} {d : Nat} (h : zm_H) (o0 : Option Value) (o1 : Option Value) (z2 : Int32) (o3 : Option Value) (o4 : Option Value) {Q : Option Value → zm_H → Prop} (hs : zSh zT0 h) (ho : f_Course_strainChains_37_k109_ok h) (hF : (zSh zT0 (f_Course_strainChains_37_k109 h) → Q none (f_Course_strainChains_37_k109 h))) : zg x (d + 4) 22 109 [o0, o1, some (.int z2), o3, o4] [] h Q := by
  unfold f_Course_strainChains_37_k109 at hF
  unfold f_Course_strainChains_37_k109_ok at ho
  exact zg_ret zd_22 rfl rfl (hF hs)
set_option maxRecDepth 100000 in
set_option maxHeartbeats 400000 in
theorem f_Course_strainChains_37_t {x : zm_X} {d : Nat} (p1 : Int32) (p2 : Int32) (h : zm_H) {Q : Option Value → zm_H → Prop} (hs : zSh zT0 h) (ho : f_Course_strainChains_37_ok p1 p2 h) (hF : (zSh zT0 (f_Course_strainChains_37 p1 p2 h) → Q none (f_Course_strainChains_37 p1 p2 h))) : zg x (d + 4) 22 0 [some (.ref 37), some (.int p1), some (.int p2), none, none] [] h Q := by
  unfold f_Course_strainChains_37 at hF
  unfold f_Course_strainChains_37_ok at ho
  refine zg_blk zd_22 2 hs (rfl : zb x zT0 zc_22 2 (0, [some (.ref 37), some (.int p1), some (.int p2), none, none], [], h) = some (2, [some (.ref 37), some (.int p1), some (.int p2), some (.int 0), none], [], h)) (fun hs => ?_)
  refine f_Course_strainChains_37_l2_t p1 p2 (fun r => f_Course_strainChains_37_a2_ok r ∧ (zSh zT0 (f_Course_strainChains_37_a2 r) → Q none (f_Course_strainChains_37_a2 r))) ?_ zF 0 h (none) hs ho.1 ⟨ho.2, hF⟩
  · intro v3_ h_ o3_ o4_ hs hG
    have ho : True := trivial
    have hF : (zSh zT0 ((f_Course_strainChains_37_k109 h_)) → Q none ((f_Course_strainChains_37_k109 h_))) := hG.2
    exact f_Course_strainChains_37_k109_t h_ (some (.ref 37)) (some (.int p1)) p2 (o3_) (o4_) hs trivial hF
theorem zd_27 : zm_cd 27 = zc_27 := by rfl
set_option maxRecDepth 100000 in
set_option maxHeartbeats 400000 in
theorem f_Course_bookPay_37_l19_k66_t {x : zm_X} {d : Nat} (v1 : Int32) (v2 : Int32) (v3 : Int32) (h : zm_H) {Q : Option Value → zm_H → Prop} {FN : Nat × Int32 × zm_H → Prop} (hs : zSh zT0 h) (ho : f_Course_bookPay_37_l19_k66_ok v1 v2 v3 h) (hF : FN (f_Course_bookPay_37_l19_k66 v1 v2 v3 h)) (hl0 : ∀ (v3 : Int32) (h : zm_H), zSh zT0 h → FN (0, v3, h) → zg x (d + 4) 27 19 [some (.ref 37), some (.int v1), some (.int v2), some (.int v3)] [] h Q) (hl1 : ∀ (v3 : Int32) (h : zm_H) (o3 : Option Value), zSh zT0 h → FN (1, v3, h) → zg x (d + 4) 27 72 [some (.ref 37), some (.int v1), some (.int v2), o3] [] h Q) : zg x (d + 4) 27 66 [some (.ref 37), some (.int v1), some (.int v2), some (.int v3)] [] h Q := by
  unfold f_Course_bookPay_37_l19_k66 at hF
  unfold f_Course_bookPay_37_l19_k66_ok at ho
  refine zg_blk zd_27 2 hs (rfl : zb x zT0 zc_27 2 (66, [some (.ref 37), some (.int v1), some (.int v2), some (.int v3)], [], h) = some (19, [some (.ref 37), some (.int v1), some (.int v2), some (.int (v3 + 1))], [], h)) (fun hs => ?_)
  exact hl0 (v3 + 1) h hs hF
set_option maxRecDepth 100000 in
set_option maxHeartbeats 400000 in
theorem f_Course_bookPay_37_l19_k59_t {x : zm_X} {d : Nat} (v1 : Int32) (v2 : Int32) (v3 : Int32) (w1 : Int32) (w2 : Int32) (w3 : Int32) (w4 : Int32) (h : zm_H) {Q : Option Value → zm_H → Prop} {FN : Nat × Int32 × zm_H → Prop} (hs : zSh zT0 h) (ho : f_Course_bookPay_37_l19_k59_ok v1 v2 v3 w1 w2 w3 w4 h) (hF : FN (f_Course_bookPay_37_l19_k59 v1 v2 v3 w1 w2 w3 w4 h)) (hl0 : ∀ (v3 : Int32) (h : zm_H), zSh zT0 h → FN (0, v3, h) → zg x (d + 4) 27 19 [some (.ref 37), some (.int v1), some (.int v2), some (.int v3)] [] h Q) (hl1 : ∀ (v3 : Int32) (h : zm_H) (o3 : Option Value), zSh zT0 h → FN (1, v3, h) → zg x (d + 4) 27 72 [some (.ref 37), some (.int v1), some (.int v2), o3] [] h Q) : zg x (d + 4) 27 59 [some (.ref 37), some (.int v1), some (.int v2), some (.int v3)] [.int w4, .int w3, .int w2, .int w1, .ref 48] h Q := by
  unfold f_Course_bookPay_37_l19_k59 at hF
  unfold f_Course_bookPay_37_l19_k59_ok at ho
  refine zg_blk zd_27 1 hs (rfl : zb x zT0 zc_27 1 (59, [some (.ref 37), some (.int v1), some (.int v2), some (.int v3)], [.int w4, .int w3, .int w2, .int w1, .ref 48], h) = some (61, [some (.ref 37), some (.int v1), some (.int v2), some (.int v3)], [.int 100000, .int w4, .int w3, .int w2, .int w1, .ref 48], h)) (fun hs => ?_)
  refine zg_call hs zd_27 rfl rfl rfl rfl (as := [.int w3, .int w4, .int 100000]) (rest := [.int w2, .int w1, .ref 48]) (en := [some (.int w3), some (.int w4), some (.int 100000)]) rfl rfl rfl rfl rfl ?_
  refine f_N_within_t w3 w4 100000 h hs trivial ?_
  show zg x (d + 4) 27 64 [some (.ref 37), some (.int v1), some (.int v2), some (.int v3)] [.int (if w3 < (if 100000 < w4 then 100000 else w4) then (if 100000 < w4 then 100000 else w4) else w3), .int w2, .int w1, .ref 48] h Q
  refine zg_blk zd_27 1 hs (rfl : zb x zT0 zc_27 1 (64, [some (.ref 37), some (.int v1), some (.int v2), some (.int v3)], [.int (if w3 < (if 100000 < w4 then 100000 else w4) then (if 100000 < w4 then 100000 else w4) else w3), .int w2, .int w1, .ref 48], h) = some (65, [some (.ref 37), some (.int v1), some (.int v2), some (.int v3)], [.int (w2 + (if w3 < (if 100000 < w4 then 100000 else w4) then (if 100000 < w4 then 100000 else w4) else w3)), .int w1, .ref 48], h)) (fun hs => ?_)
  have hob := ho
  refine zg_ias hs zd_27 rfl rfl hob (fun hs => ?_)
  exact f_Course_bookPay_37_l19_k66_t v1 v2 v3 (zs h 48 w1 (w2 + (if w3 < (if 100000 < w4 then 100000 else w4) then (if 100000 < w4 then 100000 else w4) else w3))) hs trivial hF hl0 hl1
set_option maxRecDepth 100000 in
set_option maxHeartbeats 400000 in
theorem f_Course_bookPay_37_l19_b_t {x : zm_X} {d : Nat} (v1 : Int32) (v2 : Int32) (v3 : Int32) (h : zm_H) {Q : Option Value → zm_H → Prop} {FN : Nat × Int32 × zm_H → Prop} (hs : zSh zT0 h) (ho : f_Course_bookPay_37_l19_b_ok v1 v2 v3 h) (hF : FN (f_Course_bookPay_37_l19_b v1 v2 v3 h)) (hl0 : ∀ (v3 : Int32) (h : zm_H), zSh zT0 h → FN (0, v3, h) → zg x (d + 4) 27 19 [some (.ref 37), some (.int v1), some (.int v2), some (.int v3)] [] h Q) (hl1 : ∀ (v3 : Int32) (h : zm_H) (o3 : Option Value), zSh zT0 h → FN (1, v3, h) → zg x (d + 4) 27 72 [some (.ref 37), some (.int v1), some (.int v2), o3] [] h Q) : zg x (d + 4) 27 19 [some (.ref 37), some (.int v1), some (.int v2), some (.int v3)] [] h Q := by
  unfold f_Course_bookPay_37_l19_b at hF
  unfold f_Course_bookPay_37_l19_b_ok at ho
  refine zg_blk zd_27 4 hs (rfl : zb x zT0 zc_27 4 (19, [some (.ref 37), some (.int v1), some (.int v2), some (.int v3)], [], h) = some (27, [some (.ref 37), some (.int v1), some (.int v2), some (.int v3)], [.int (zf h 23 0), .int v3], h)) (fun hs => ?_)
  refine zg_i_ge zd_27 rfl (fun (hc : ((zf h 23 0) ≤ v3)) => ?_) (fun (hc : ¬ ((zf h 23 0) ≤ v3)) => ?_)
  · have ho := ho.1 hc
    rw [if_pos hc] at hF
    exact hl1 v3 h (some (.int v3)) hs hF
  · have ho := ho.2 hc
    rw [if_neg hc] at hF
    refine zg_blk zd_27 4 hs (rfl : zb x zT0 zc_27 4 (30, [some (.ref 37), some (.int v1), some (.int v2), some (.int v3)], [], h) = some (38, [some (.ref 37), some (.int v1), some (.int v2), some (.int v3)], [.int v3, .ref 26], h)) (fun hs => ?_)
    obtain ⟨hob, ho⟩ := ho
    refine zg_ial hs zd_27 rfl rfl hob ?_
    refine zg_blk zd_27 1 hs (rfl : zb x zT0 zc_27 1 (39, [some (.ref 37), some (.int v1), some (.int v2), some (.int v3)], [.int (zr h 26 v3)], h) = some (40, [some (.ref 37), some (.int v1), some (.int v2), some (.int v3)], [.int v1, .int (zr h 26 v3)], h)) (fun hs => ?_)
    refine zg_i_gt zd_27 rfl (fun (hc : (v1 < (zr h 26 v3))) => ?_) (fun (hc : ¬ (v1 < (zr h 26 v3))) => ?_)
    · have ho := ho.1 hc
      rw [if_pos hc] at hF
      exact f_Course_bookPay_37_l19_k66_t v1 v2 v3 h hs trivial hF hl0 hl1
    · have ho := ho.2 hc
      rw [if_neg hc] at hF
      refine zg_blk zd_27 4 hs (rfl : zb x zT0 zc_27 4 (43, [some (.ref 37), some (.int v1), some (.int v2), some (.int v3)], [], h) = some (49, [some (.ref 37), some (.int v1), some (.int v2), some (.int v3)], [.int v1, .ref 48, .int v1, .ref 48], h)) (fun hs => ?_)
      obtain ⟨hob, ho⟩ := ho
      refine zg_ial hs zd_27 rfl rfl hob ?_
      refine zg_blk zd_27 5 hs (rfl : zb x zT0 zc_27 5 (50, [some (.ref 37), some (.int v1), some (.int v2), some (.int v3)], [.int (zr h 48 v1), .int v1, .ref 48], h) = some (56, [some (.ref 37), some (.int v1), some (.int v2), some (.int v3)], [.int v3, .int 3, .int v2, .ref 37, .int (-100000), .int (zr h 48 v1), .int v1, .ref 48], h)) (fun hs => ?_)
      obtain ⟨hob, ho⟩ := ho
      refine zg_call hs zd_27 rfl rfl rfl rfl (as := [.ref 37, .int v2, .int 3, .int v3]) (rest := [.int (-100000), .int (zr h 48 v1), .int v1, .ref 48]) (en := [some (.ref 37), some (.int v2), some (.int 3), some (.int v3)]) rfl rfl rfl rfl rfl ?_
      refine f_Course_says_37_t v2 3 v3 h hs hob (fun hs => ?_)
      show zg x (d + 4) 27 59 [some (.ref 37), some (.int v1), some (.int v2), some (.int v3)] [.int (f_Course_says_37 v2 3 v3 h).1, .int (-100000), .int (zr h 48 v1), .int v1, .ref 48] (f_Course_says_37 v2 3 v3 h).2 Q
      exact f_Course_bookPay_37_l19_k59_t v1 v2 v3 v1 (zr h 48 v1) (-100000) (f_Course_says_37 v2 3 v3 h).1 (f_Course_says_37 v2 3 v3 h).2 hs ho hF hl0 hl1
