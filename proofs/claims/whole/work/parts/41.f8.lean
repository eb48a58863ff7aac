/-! ===== the code as functions, 8 ===== -/
theorem zd_162 : zm_cd 162 = zc_162 := by rfl
theorem zd_35 : zm_cd 35 = zc_35 := by rfl
def f_Ground_addPlace_l2_b (v1 : Int32) (v2 : Int32) (h : zm_H) : Nat × Int32 := (if ((zf h 82 7) ≤ v2) then (2, v2) else (if ((zr h 86 v2) = v1) then (1, v2) else (0, (v2 + 1))))
def f_Ground_addPlace_l2_b_ok (v1 : Int32) (v2 : Int32) (h : zm_H) : Prop := ((((zf h 82 7) ≤ v2) → True) ∧ (¬ ((zf h 82 7) ≤ v2) → vp_in v2 8))
set_option maxRecDepth 100000 in
set_option maxHeartbeats 400000 in
theorem f_Ground_addPlace_l2_b_t {x : zm_X} {d : Nat} (v1 : Int32) (v2 : Int32) (h : zm_H) {Q : Option Value → zm_H → Prop} {FN : Nat × Int32 → Prop} (hs : zSh zT0 h) (ho : f_Ground_addPlace_l2_b_ok v1 v2 h) (hF : FN (f_Ground_addPlace_l2_b v1 v2 h)) (hl0 : ∀ (v2 : Int32), zSh zT0 h → FN (0, v2) → zg x (d + 1) 35 2 [some (.ref 82), some (.int v1), some (.int v2)] [] h Q) (hl1 : ∀ (v2 : Int32) (o2 : Option Value), zSh zT0 h → FN (1, v2) → zg x (d + 1) 35 20 [some (.ref 82), some (.int v1), o2] [] h Q) (hl2 : ∀ (v2 : Int32) (o2 : Option Value), zSh zT0 h → FN (2, v2) → zg x (d + 1) 35 28 [some (.ref 82), some (.int v1), o2] [] h Q) : zg x (d + 1) 35 2 [some (.ref 82), some (.int v1), some (.int v2)] [] h Q := by
  unfold f_Ground_addPlace_l2_b at hF
  unfold f_Ground_addPlace_l2_b_ok at ho
  refine zg_blk zd_35 3 hs (rfl : zb x zT0 zc_35 3 (2, [some (.ref 82), some (.int v1), some (.int v2)], [], h) = some (7, [some (.ref 82), some (.int v1), some (.int v2)], [.int (zf h 82 7), .int v2], h)) (fun hs => ?_)
  refine zg_i_ge zd_35 rfl (fun (hc : ((zf h 82 7) ≤ v2)) => ?_) (fun (hc : ¬ ((zf h 82 7) ≤ v2)) => ?_)
  · have ho := ho.1 hc
    rw [if_pos hc] at hF
    exact hl2 v2 (some (.int v2)) hs hF
  · have ho := ho.2 hc
    rw [if_neg hc] at hF
    refine zg_blk zd_35 3 hs (rfl : zb x zT0 zc_35 3 (10, [some (.ref 82), some (.int v1), some (.int v2)], [], h) = some (15, [some (.ref 82), some (.int v1), some (.int v2)], [.int v2, .ref 86], h)) (fun hs => ?_)
    have hob := ho
    refine zg_ial hs zd_35 rfl rfl hob ?_
    refine zg_blk zd_35 1 hs (rfl : zb x zT0 zc_35 1 (16, [some (.ref 82), some (.int v1), some (.int v2)], [.int (zr h 86 v2)], h) = some (17, [some (.ref 82), some (.int v1), some (.int v2)], [.int v1, .int (zr h 86 v2)], h)) (fun hs => ?_)
    refine zg_i_ne zd_35 rfl (fun (hc : ¬ ((zr h 86 v2) = v1)) => ?_) (fun (hc : ((zr h 86 v2) = v1)) => ?_)
    · skip
      rw [if_neg hc] at hF
      refine zg_blk zd_35 2 hs (rfl : zb x zT0 zc_35 2 (22, [some (.ref 82), some (.int v1), some (.int v2)], [], h) = some (2, [some (.ref 82), some (.int v1), some (.int (v2 + 1))], [], h)) (fun hs => ?_)
      exact hl0 (v2 + 1) hs hF
    · skip
      rw [if_pos hc] at hF
      exact hl1 v2 (some (.int v2)) hs hF
def f_Ground_addPlace_l2 (v1 : Int32) (h : zm_H) (n : Nat) (t : Int32) : Nat × Int32 := zwh (fun t => f_Ground_addPlace_l2_b v1 t h) n t
def f_Ground_addPlace_l2_ok (v1 : Int32) (h : zm_H) (n : Nat) (t : Int32) : Prop := zwo (fun t => f_Ground_addPlace_l2_b v1 t h) (fun t => f_Ground_addPlace_l2_b_ok v1 t h) n t
theorem f_Ground_addPlace_l2_t {x : zm_X} {d : Nat} (v1 : Int32) (h : zm_H) {Q : Option Value → zm_H → Prop} (G : Nat × Int32 → Prop) (hx1 : ∀ (v2 : Int32) (o2 : Option Value), zSh zT0 h → G (1, v2) → zg x (d + 1) 35 20 [some (.ref 82), some (.int v1), o2] [] h Q) (hx2 : ∀ (v2 : Int32) (o2 : Option Value), zSh zT0 h → G (2, v2) → zg x (d + 1) 35 28 [some (.ref 82), some (.int v1), o2] [] h Q) : ∀ (n : Nat) (v2 : Int32), zSh zT0 h → f_Ground_addPlace_l2_ok v1 h n v2 → G (f_Ground_addPlace_l2 v1 h n v2) → zg x (d + 1) 35 2 [some (.ref 82), some (.int v1), some (.int v2)] [] h Q := by
  intro n
  induction n with
  | zero => intro v2 hs ho hG; exact ho.elim
  | succ n ih =>
    intro v2 hs ho hG
    refine f_Ground_addPlace_l2_b_t (FN := fun r => (r.1 = 0 → f_Ground_addPlace_l2_ok v1 h n r.2) ∧ G (if r.1 = 0 then f_Ground_addPlace_l2 v1 h n r.2 else r)) v1 v2 h hs ho.1 ⟨ho.2, hG⟩ ?_ ?_ ?_
    · intro v2 hs hF
      exact ih v2 hs (hF.1 rfl) hF.2
    · intro v2 o2 hs hF
      exact hx1 v2 o2 hs hF.2
    · intro v2 o2 hs hF
      exact hx2 v2 o2 hs hF.2

def f_Ground_addPlace_k20 (h : zm_H) : Int32 × zm_H := ((-1), h)
def f_Ground_addPlace_k20_ok (h : zm_H) : Prop := True
set_option maxRecDepth 100000 in
set_option maxHeartbeats 400000 in
theorem f_Ground_addPlace_k20_t {x : zm_X} {d : Nat} (h : zm_H) (o0 : Option Value) (z1 : Int32) (o2 : Option Value) {Q : Option Value → zm_H → Prop} (hs : zSh zT0 h) (ho : f_Ground_addPlace_k20_ok h) (hF : (zSh zT0 (f_Ground_addPlace_k20 h).2 → Q (some (.int (f_Ground_addPlace_k20 h).1)) (f_Ground_addPlace_k20 h).2)) : zg x (d + 1) 35 20 [o0, some (.int z1), o2] [] h Q := by
  unfold f_Ground_addPlace_k20 at hF
  unfold f_Ground_addPlace_k20_ok at ho
  refine zg_blk zd_35 1 hs (rfl : zb x zT0 zc_35 1 (20, [o0, some (.int z1), o2], [], h) = some (21, [o0, some (.int z1), o2], [.int (-1)], h)) (fun hs => ?_)
  exact zg_ret zd_35 rfl rfl (hF hs)
theorem f_Ground_addPlace_k20_w (h : zm_H) : zWr [] h ((f_Ground_addPlace_k20 h).2) := (zWr.refl _ _)
def f_Ground_addPlace_k28 (v1 : Int32) (h : zm_H) : Int32 × zm_H := (if ((zf h 82 7) < 8) then (((zf h 82 7) + 1), (zp (zs h 86 (zf h 82 7) v1) 82 7 ((zf h 82 7) + 1))) else ((-1), h))
def f_Ground_addPlace_k28_ok (v1 : Int32) (h : zm_H) : Prop := ((((zf h 82 7) < 8) → vp_in (zf h 82 7) 8) ∧ (¬ ((zf h 82 7) < 8) → True))
set_option maxRecDepth 100000 in
set_option maxHeartbeats 400000 in
theorem f_Ground_addPlace_k28_t {x : zm_X} {d : Nat} (v1 : Int32) (h : zm_H) (o2 : Option Value) {Q : Option Value → zm_H → Prop} (hs : zSh zT0 h) (ho : f_Ground_addPlace_k28_ok v1 h) (hF : (zSh zT0 (f_Ground_addPlace_k28 v1 h).2 → Q (some (.int (f_Ground_addPlace_k28 v1 h).1)) (f_Ground_addPlace_k28 v1 h).2)) : zg x (d + 1) 35 28 [some (.ref 82), some (.int v1), o2] [] h Q := by
  unfold f_Ground_addPlace_k28 at hF
  unfold f_Ground_addPlace_k28_ok at ho
  refine zg_blk zd_35 3 hs (rfl : zb x zT0 zc_35 3 (28, [some (.ref 82), some (.int v1), o2], [], h) = some (34, [some (.ref 82), some (.int v1), o2], [.int 8, .int (zf h 82 7)], h)) (fun hs => ?_)
  refine zg_i_lt zd_35 rfl (fun (hc : ((zf h 82 7) < 8)) => ?_) (fun (hc : ¬ ((zf h 82 7) < 8)) => ?_)
  · have ho := ho.1 hc
    rw [if_pos hc] at hF
    refine zg_blk zd_35 5 hs (rfl : zb x zT0 zc_35 5 (39, [some (.ref 82), some (.int v1), o2], [], h) = some (48, [some (.ref 82), some (.int v1), o2], [.int v1, .int (zf h 82 7), .ref 86], h)) (fun hs => ?_)
    have hob := ho
    refine zg_ias hs zd_35 rfl rfl hob (fun hs => ?_)
    refine zg_blk zd_35 8 hs (rfl : zb x zT0 zc_35 8 (49, [some (.ref 82), some (.int v1), o2], [], (zs h 86 (zf h 82 7) v1)) = some (63, [some (.ref 82), some (.int v1), o2], [.int ((zf h 82 7) + 1)], (zp (zs h 86 (zf h 82 7) v1) 82 7 ((zf h 82 7) + 1)))) (fun hs => ?_)
    exact zg_ret zd_35 rfl rfl (hF hs)
  · have ho := ho.2 hc
    rw [if_neg hc] at hF
    refine zg_blk zd_35 1 hs (rfl : zb x zT0 zc_35 1 (37, [some (.ref 82), some (.int v1), o2], [], h) = some (38, [some (.ref 82), some (.int v1), o2], [.int (-1)], h)) (fun hs => ?_)
    exact zg_ret zd_35 rfl rfl (hF hs)
theorem f_Ground_addPlace_k28_w (v1 : Int32) (h : zm_H) : zWr [82, 86] h ((f_Ground_addPlace_k28 v1 h).2) := (zWr_ite (fun z : Int32 × zm_H => z.2) (zWr_si (by decide) (zWr_si (by decide) (zWr.refl _ _))) (zWr.refl _ _))
def f_Ground_addPlace_a2 (v1 : Int32) (r : Nat × Int32) (h : zm_H) : Int32 × zm_H := (if r.1 = 1 then (f_Ground_addPlace_k20 h) else (f_Ground_addPlace_k28 v1 h))
def f_Ground_addPlace_a2_ok (v1 : Int32) (r : Nat × Int32) (h : zm_H) : Prop := ((r.1 = 1 → True) ∧ (¬ r.1 = 1 → (f_Ground_addPlace_k28_ok v1 h)))
theorem f_Ground_addPlace_a2_w (v1 : Int32) (r : Nat × Int32) (h : zm_H) : zWr [82, 86] h ((f_Ground_addPlace_a2 v1 r h).2) := (zWr_ite (fun z : Int32 × zm_H => z.2) (zWr_tr (f_Ground_addPlace_k20_w h) (by decide) (zWr.refl _ _)) (zWr_tr (f_Ground_addPlace_k28_w v1 h) (by decide) (zWr.refl _ _)))
def f_Ground_addPlace (p1 : Int32) (h : zm_H) : Int32 × zm_H := (f_Ground_addPlace_a2 p1 (f_Ground_addPlace_l2 p1 h zF 0) h)
def f_Ground_addPlace_ok (p1 : Int32) (h : zm_H) : Prop := (f_Ground_addPlace_l2_ok p1 h zF 0 ∧ f_Ground_addPlace_a2_ok p1 (f_Ground_addPlace_l2 p1 h zF 0) h)
set_option maxRecDepth 100000 in
set_option maxHeartbeats 400000 in
theorem f_Ground_addPlace_t {x : zm_X} {d : Nat} (p1 : Int32) (h : zm_H) {Q : Option Value → zm_H → Prop} (hs : zSh zT0 h) (ho : f_Ground_addPlace_ok p1 h) (hF : (zSh zT0 (f_Ground_addPlace p1 h).2 → Q (some (.int (f_Ground_addPlace p1 h).1)) (f_Ground_addPlace p1 h).2)) : zg x (d + 1) 35 0 [some (.ref 82), some (.int p1), none] [] h Q := by
  unfold f_Ground_addPlace at hF
  unfold f_Ground_addPlace_ok at ho
  refine zg_blk zd_35 2 hs (rfl : zb x zT0 zc_35 2 (0, [some (.ref 82), some (.int p1), none], [], h) = some (2, [some (.ref 82), some (.int p1), some (.int 0)], [], h)) (fun hs => ?_)
  refine f_Ground_addPlace_l2_t p1 h (fun r => f_Ground_addPlace_a2_ok p1 r h ∧ (zSh zT0 (f_Ground_addPlace_a2 p1 r h).2 → Q (some (.int (f_Ground_addPlace_a2 p1 r h).1)) (f_Ground_addPlace_a2 p1 r h).2)) ?_ ?_ zF 0 hs ho.1 ⟨ho.2, hF⟩
  · intro v2_ o2_ hs hG
    have ho : True := trivial
    have hF : (zSh zT0 ((f_Ground_addPlace_k20 h)).2 → Q (some (.int ((f_Ground_addPlace_k20 h)).1)) ((f_Ground_addPlace_k20 h)).2) := hG.2
    exact f_Ground_addPlace_k20_t h (some (.ref 82)) p1 (o2_) hs trivial hF
  · intro v2_ o2_ hs hG
    have ho : (f_Ground_addPlace_k28_ok p1 h) := (hG.1).2 (show ¬ (2 : Nat) = 1 by decide)
    have hF : (zSh zT0 ((f_Ground_addPlace_k28 p1 h)).2 → Q (some (.int ((f_Ground_addPlace_k28 p1 h)).1)) ((f_Ground_addPlace_k28 p1 h)).2) := hG.2
    exact f_Ground_addPlace_k28_t p1 h (o2_) hs ho hF
theorem f_Ground_addPlace_w (p1 : Int32) (h : zm_H) : zWr [82, 86] h ((f_Ground_addPlace p1 h).2) := (zWr_tr (f_Ground_addPlace_a2_w p1 (f_Ground_addPlace_l2 p1 h zF 0) h) (by decide) (zWr.refl _ _))
def f_N_place (p1 : Int32) (h : zm_H) : Int32 × zm_H := (if (¬ (p1 < 0) ∧ (¬ (100 ≤ p1) ∧ (¬ (5 ≤ (zm_rm p1 10))))) then (f_Ground_addPlace p1 h) else ((-1), h))
def f_N_place_ok (p1 : Int32) (h : zm_H) : Prop := (((¬ (p1 < 0) ∧ (¬ (100 ≤ p1) ∧ (¬ (5 ≤ (zm_rm p1 10))))) → f_Ground_addPlace_ok p1 h) ∧ (¬ (¬ (p1 < 0) ∧ (¬ (100 ≤ p1) ∧ (¬ (5 ≤ (zm_rm p1 10))))) → True))
set_option maxRecDepth 100000 in
set_option maxHeartbeats 400000 in
theorem f_N_place_t {x : zm_X} {d : Nat} (p1 : Int32) (h : zm_H) {Q : Option Value → zm_H → Prop} (hs : zSh zT0 h) (ho : f_N_place_ok p1 h) (hF : (zSh zT0 (f_N_place p1 h).2 → Q (some (.int (f_N_place p1 h).1)) (f_N_place p1 h).2)) : zg x (d + 2) 162 0 [some (.ref 0), some (.int p1)] [] h Q := by
  unfold f_N_place at hF
  unfold f_N_place_ok at ho
  refine zg_blk zd_162 1 hs (rfl : zb x zT0 zc_162 1 (0, [some (.ref 0), some (.int p1)], [], h) = some (1, [some (.ref 0), some (.int p1)], [.int p1], h)) (fun hs => ?_)
  refine zg_call hs zd_162 rfl rfl rfl rfl (as := [.int p1]) (rest := []) (en := [some (.int p1)]) rfl rfl rfl rfl rfl ?_
  refine f_N_isPlace_t p1 h hs trivial ?_
  show zg x (d + 2) 162 4 [some (.ref 0), some (.int p1)] [.int (if (¬ (p1 < 0) ∧ (¬ (100 ≤ p1) ∧ (¬ (5 ≤ (zm_rm p1 10))))) then (1 : Int32) else 0)] h Q
  refine zg_b_eq zd_162 rfl (fun (hc : ¬ (¬ (p1 < 0) ∧ (¬ (100 ≤ p1) ∧ (¬ (5 ≤ (zm_rm p1 10)))))) => ?_) (fun (hc : (¬ (p1 < 0) ∧ (¬ (100 ≤ p1) ∧ (¬ (5 ≤ (zm_rm p1 10)))))) => ?_)
  · have ho := ho.2 hc
    rw [if_neg hc] at hF
    refine zg_blk zd_162 1 hs (rfl : zb x zT0 zc_162 1 (18, [some (.ref 0), some (.int p1)], [], h) = some (19, [some (.ref 0), some (.int p1)], [.int (-1)], h)) (fun hs => ?_)
    exact zg_ret zd_162 rfl rfl (hF hs)
  · have ho := ho.1 hc
    rw [if_pos hc] at hF
    refine zg_blk zd_162 3 hs (rfl : zb x zT0 zc_162 3 (7, [some (.ref 0), some (.int p1)], [], h) = some (12, [some (.ref 0), some (.int p1)], [.int p1, .ref 82], h)) (fun hs => ?_)
    have hob := ho
    refine zg_call hs zd_162 rfl rfl rfl rfl (as := [.ref 82, .int p1]) (rest := []) (en := [some (.ref 82), some (.int p1), none]) rfl rfl rfl rfl rfl ?_
    refine f_Ground_addPlace_t p1 h hs hob (fun hs => ?_)
    show zg x (d + 2) 162 15 [some (.ref 0), some (.int p1)] [.int (f_Ground_addPlace p1 h).1] (f_Ground_addPlace p1 h).2 Q
    refine zg_blk zd_162 1 hs (rfl : zb x zT0 zc_162 1 (15, [some (.ref 0), some (.int p1)], [.int (f_Ground_addPlace p1 h).1], (f_Ground_addPlace p1 h).2) = some (19, [some (.ref 0), some (.int p1)], [.int (f_Ground_addPlace p1 h).1], (f_Ground_addPlace p1 h).2)) (fun hs => ?_)
    exact zg_ret zd_162 rfl rfl (hF hs)
theorem f_N_place_w (p1 : Int32) (h : zm_H) : zWr [82, 86] h ((f_N_place p1 h).2) := (zWr_ite (fun z : Int32 × zm_H => z.2) (zWr_tr (f_Ground_addPlace_w p1 h) (by decide) (zWr.refl _ _)) (zWr.refl _ _))
theorem zd_254 : zm_cd 254 = zc_254 := by rfl
def f_M_place_l20_b (v1 : Int32) (v2 : Int32) (h : zm_H) : Nat × Int32 := (if ((zf h 92 75) ≤ v2) then (2, v2) else (if ((zr h 148 v2) = v1) then (1, v2) else (0, (v2 + 1))))
def f_M_place_l20_b_ok (v1 : Int32) (v2 : Int32) (h : zm_H) : Prop := ((((zf h 92 75) ≤ v2) → True) ∧ (¬ ((zf h 92 75) ≤ v2) → vp_in v2 8))
set_option maxRecDepth 100000 in
set_option maxHeartbeats 400000 in
theorem f_M_place_l20_b_t {x : zm_X} {d : Nat} (v1 : Int32) (v2 : Int32) (h : zm_H) {Q : Option Value → zm_H → Prop} {FN : Nat × Int32 → Prop} (hs : zSh zT0 h) (ho : f_M_place_l20_b_ok v1 v2 h) (hF : FN (f_M_place_l20_b v1 v2 h)) (hl0 : ∀ (v2 : Int32), zSh zT0 h → FN (0, v2) → zg x (d + 2) 254 20 [some (.ref 92), some (.int v1), some (.int v2)] [] h Q) (hl1 : ∀ (v2 : Int32) (o2 : Option Value), zSh zT0 h → FN (1, v2) → zg x (d + 2) 254 38 [some (.ref 92), some (.int v1), o2] [] h Q) (hl2 : ∀ (v2 : Int32) (o2 : Option Value), zSh zT0 h → FN (2, v2) → zg x (d + 2) 254 46 [some (.ref 92), some (.int v1), o2] [] h Q) : zg x (d + 2) 254 20 [some (.ref 92), some (.int v1), some (.int v2)] [] h Q := by
  unfold f_M_place_l20_b at hF
  unfold f_M_place_l20_b_ok at ho
  refine zg_blk zd_254 3 hs (rfl : zb x zT0 zc_254 3 (20, [some (.ref 92), some (.int v1), some (.int v2)], [], h) = some (25, [some (.ref 92), some (.int v1), some (.int v2)], [.int (zf h 92 75), .int v2], h)) (fun hs => ?_)
  refine zg_i_ge zd_254 rfl (fun (hc : ((zf h 92 75) ≤ v2)) => ?_) (fun (hc : ¬ ((zf h 92 75) ≤ v2)) => ?_)
  · have ho := ho.1 hc
    rw [if_pos hc] at hF
    exact hl2 v2 (some (.int v2)) hs hF
  · have ho := ho.2 hc
    rw [if_neg hc] at hF
    refine zg_blk zd_254 3 hs (rfl : zb x zT0 zc_254 3 (28, [some (.ref 92), some (.int v1), some (.int v2)], [], h) = some (33, [some (.ref 92), some (.int v1), some (.int v2)], [.int v2, .ref 148], h)) (fun hs => ?_)
    have hob := ho
    refine zg_ial hs zd_254 rfl rfl hob ?_
    refine zg_blk zd_254 1 hs (rfl : zb x zT0 zc_254 1 (34, [some (.ref 92), some (.int v1), some (.int v2)], [.int (zr h 148 v2)], h) = some (35, [some (.ref 92), some (.int v1), some (.int v2)], [.int v1, .int (zr h 148 v2)], h)) (fun hs => ?_)
    refine zg_i_ne zd_254 rfl (fun (hc : ¬ ((zr h 148 v2) = v1)) => ?_) (fun (hc : ((zr h 148 v2) = v1)) => ?_)
    · skip
      rw [if_neg hc] at hF
      refine zg_blk zd_254 2 hs (rfl : zb x zT0 zc_254 2 (40, [some (.ref 92), some (.int v1), some (.int v2)], [], h) = some (20, [some (.ref 92), some (.int v1), some (.int (v2 + 1))], [], h)) (fun hs => ?_)
      exact hl0 (v2 + 1) hs hF
    · skip
      rw [if_pos hc] at hF
      exact hl1 v2 (some (.int v2)) hs hF
def f_M_place_l20 (v1 : Int32) (h : zm_H) (n : Nat) (t : Int32) : Nat × Int32 := zwh (fun t => f_M_place_l20_b v1 t h) n t
def f_M_place_l20_ok (v1 : Int32) (h : zm_H) (n : Nat) (t : Int32) : Prop := zwo (fun t => f_M_place_l20_b v1 t h) (fun t => f_M_place_l20_b_ok v1 t h) n t
theorem f_M_place_l20_t {x : zm_X} {d : Nat} (v1 : Int32) (h : zm_H) {Q : Option Value → zm_H → Prop} (G : Nat × Int32 → Prop) (hx1 : ∀ (v2 : Int32) (o2 : Option Value), zSh zT0 h → G (1, v2) → zg x (d + 2) 254 38 [some (.ref 92), some (.int v1), o2] [] h Q) (hx2 : ∀ (v2 : Int32) (o2 : Option Value), zSh zT0 h → G (2, v2) → zg x (d + 2) 254 46 [some (.ref 92), some (.int v1), o2] [] h Q) : ∀ (n : Nat) (v2 : Int32), zSh zT0 h → f_M_place_l20_ok v1 h n v2 → G (f_M_place_l20 v1 h n v2) → zg x (d + 2) 254 20 [some (.ref 92), some (.int v1), some (.int v2)] [] h Q := by
  intro n
  induction n with
  | zero => intro v2 hs ho hG; exact ho.elim
  | succ n ih =>
    intro v2 hs ho hG
    refine f_M_place_l20_b_t (FN := fun r => (r.1 = 0 → f_M_place_l20_ok v1 h n r.2) ∧ G (if r.1 = 0 then f_M_place_l20 v1 h n r.2 else r)) v1 v2 h hs ho.1 ⟨ho.2, hG⟩ ?_ ?_ ?_
    · intro v2 hs hF
      exact ih v2 hs (hF.1 rfl) hF.2
    · intro v2 o2 hs hF
      exact hx1 v2 o2 hs hF.2
    · intro v2 o2 hs hF
      exact hx2 v2 o2 hs hF.2

def f_M_place_k38 (h : zm_H) : Int32 × zm_H := ((-1), h)
def f_M_place_k38_ok (h : zm_H) : Prop := True
set_option maxRecDepth 100000 in
set_option maxHeartbeats 400000 in
theorem f_M_place_k38_t {x : zm_X} {d : Nat} (h : zm_H) (o0 : Option Value) (z1 : Int32) (o2 : Option Value) {Q : Option Value → zm_H → Prop} (hs : zSh zT0 h) (ho : f_M_place_k38_ok h) (hF : (zSh zT0 (f_M_place_k38 h).2 → Q (some (.int (f_M_place_k38 h).1)) (f_M_place_k38 h).2)) : zg x (d + 2) 254 38 [o0, some (.int z1), o2] [] h Q := by
  unfold f_M_place_k38 at hF
  unfold f_M_place_k38_ok at ho
  refine zg_blk zd_254 1 hs (rfl : zb x zT0 zc_254 1 (38, [o0, some (.int z1), o2], [], h) = some (39, [o0, some (.int z1), o2], [.int (-1)], h)) (fun hs => ?_)
  exact zg_ret zd_254 rfl rfl (hF hs)
theorem f_M_place_k38_w (h : zm_H) : zWr [] h ((f_M_place_k38 h).2) := (zWr.refl _ _)
def f_M_place_k46 (v1 : Int32) (h : zm_H) : Int32 × zm_H := (((zf h 92 75) + 1), (zp (zs h 148 (zf h 92 75) v1) 92 75 ((zf h 92 75) + 1)))
def f_M_place_k46_ok (v1 : Int32) (h : zm_H) : Prop := vp_in (zf h 92 75) 8
set_option maxRecDepth 100000 in
set_option maxHeartbeats 400000 in
theorem f_M_place_k46_t {x : zm_X} {d : Nat} (v1 : Int32) (h : zm_H) (o2 : Option Value) {Q : Option Value → zm_H → Prop} (hs : zSh zT0 h) (ho : f_M_place_k46_ok v1 h) (hF : (zSh zT0 (f_M_place_k46 v1 h).2 → Q (some (.int (f_M_place_k46 v1 h).1)) (f_M_place_k46 v1 h).2)) : zg x (d + 2) 254 46 [some (.ref 92), some (.int v1), o2] [] h Q := by
  unfold f_M_place_k46 at hF
  unfold f_M_place_k46_ok at ho
  refine zg_blk zd_254 5 hs (rfl : zb x zT0 zc_254 5 (46, [some (.ref 92), some (.int v1), o2], [], h) = some (55, [some (.ref 92), some (.int v1), o2], [.int v1, .int (zf h 92 75), .ref 148], h)) (fun hs => ?_)
  have hob := ho
  refine zg_ias hs zd_254 rfl rfl hob (fun hs => ?_)
  refine zg_blk zd_254 8 hs (rfl : zb x zT0 zc_254 8 (56, [some (.ref 92), some (.int v1), o2], [], (zs h 148 (zf h 92 75) v1)) = some (70, [some (.ref 92), some (.int v1), o2], [.int ((zf h 92 75) + 1)], (zp (zs h 148 (zf h 92 75) v1) 92 75 ((zf h 92 75) + 1)))) (fun hs => ?_)
  exact zg_ret zd_254 rfl rfl (hF hs)
theorem f_M_place_k46_w (v1 : Int32) (h : zm_H) : zWr [92, 148] h ((f_M_place_k46 v1 h).2) := (zWr_si (by decide) (zWr_si (by decide) (zWr.refl _ _)))
def f_M_place_a20 (v1 : Int32) (r : Nat × Int32) (h : zm_H) : Int32 × zm_H := (if r.1 = 1 then (f_M_place_k38 h) else (f_M_place_k46 v1 h))
def f_M_place_a20_ok (v1 : Int32) (r : Nat × Int32) (h : zm_H) : Prop := ((r.1 = 1 → True) ∧ (¬ r.1 = 1 → (f_M_place_k46_ok v1 h)))
theorem f_M_place_a20_w (v1 : Int32) (r : Nat × Int32) (h : zm_H) : zWr [92, 148] h ((f_M_place_a20 v1 r h).2) := (zWr_ite (fun z : Int32 × zm_H => z.2) (zWr_tr (f_M_place_k38_w h) (by decide) (zWr.refl _ _)) (zWr_tr (f_M_place_k46_w v1 h) (by decide) (zWr.refl _ _)))
def f_M_place (p1 : Int32) (h : zm_H) : Int32 × zm_H := (if (¬ (p1 < 0) ∧ (¬ (10 ≤ (p1 / 10)) ∧ (¬ (5 ≤ (zm_rm p1 10))))) then (if ((zf h 92 75) = 8) then ((-1), h) else (f_M_place_a20 p1 (f_M_place_l20 p1 h zF 0) h)) else ((-1), h))
def f_M_place_ok (p1 : Int32) (h : zm_H) : Prop := (((¬ (p1 < 0) ∧ (¬ (10 ≤ (p1 / 10)) ∧ (¬ (5 ≤ (zm_rm p1 10))))) → ((((zf h 92 75) = 8) → True) ∧ (¬ ((zf h 92 75) = 8) → (f_M_place_l20_ok p1 h zF 0 ∧ f_M_place_a20_ok p1 (f_M_place_l20 p1 h zF 0) h)))) ∧ (¬ (¬ (p1 < 0) ∧ (¬ (10 ≤ (p1 / 10)) ∧ (¬ (5 ≤ (zm_rm p1 10))))) → True))
set_option maxRecDepth 100000 in
set_option maxHeartbeats 400000 in
theorem f_M_place_t {x : zm_X} {d : Nat} (p1 : Int32) (h : zm_H) {Q : Option Value → zm_H → Prop} (hs : zSh zT0 h) (ho : f_M_place_ok p1 h) (hF : (zSh zT0 (f_M_place p1 h).2 → Q (some (.int (f_M_place p1 h).1)) (f_M_place p1 h).2)) : zg x (d + 2) 254 0 [some (.ref 92), some (.int p1), none] [] h Q := by
  unfold f_M_place at hF
  unfold f_M_place_ok at ho
  refine zg_blk zd_254 1 hs (rfl : zb x zT0 zc_254 1 (0, [some (.ref 92), some (.int p1), none], [], h) = some (1, [some (.ref 92), some (.int p1), none], [.int p1], h)) (fun hs => ?_)
  refine zg_call hs zd_254 rfl rfl rfl rfl (as := [.int p1]) (rest := []) (en := [some (.int p1)]) rfl rfl rfl rfl rfl ?_
  refine f_M_isPlace_t p1 h hs trivial ?_
  show zg x (d + 2) 254 4 [some (.ref 92), some (.int p1), none] [.int (if (¬ (p1 < 0) ∧ (¬ (10 ≤ (p1 / 10)) ∧ (¬ (5 ≤ (zm_rm p1 10))))) then (1 : Int32) else 0)] h Q
  refine zg_b_eq zd_254 rfl (fun (hc : ¬ (¬ (p1 < 0) ∧ (¬ (10 ≤ (p1 / 10)) ∧ (¬ (5 ≤ (zm_rm p1 10)))))) => ?_) (fun (hc : (¬ (p1 < 0) ∧ (¬ (10 ≤ (p1 / 10)) ∧ (¬ (5 ≤ (zm_rm p1 10)))))) => ?_)
  · have ho := ho.2 hc
    rw [if_neg hc] at hF
    refine zg_blk zd_254 1 hs (rfl : zb x zT0 zc_254 1 (16, [some (.ref 92), some (.int p1), none], [], h) = some (17, [some (.ref 92), some (.int p1), none], [.int (-1)], h)) (fun hs => ?_)
    exact zg_ret zd_254 rfl rfl (hF hs)
  · have ho := ho.1 hc
    rw [if_pos hc] at hF
    refine zg_blk zd_254 3 hs (rfl : zb x zT0 zc_254 3 (7, [some (.ref 92), some (.int p1), none], [], h) = some (13, [some (.ref 92), some (.int p1), none], [.int 8, .int (zf h 92 75)], h)) (fun hs => ?_)
    refine zg_i_ne zd_254 rfl (fun (hc : ¬ ((zf h 92 75) = 8)) => ?_) (fun (hc : ((zf h 92 75) = 8)) => ?_)
    · have ho := ho.2 hc
      rw [if_neg hc] at hF
      refine zg_blk zd_254 2 hs (rfl : zb x zT0 zc_254 2 (18, [some (.ref 92), some (.int p1), none], [], h) = some (20, [some (.ref 92), some (.int p1), some (.int 0)], [], h)) (fun hs => ?_)
      refine f_M_place_l20_t p1 h (fun r => f_M_place_a20_ok p1 r h ∧ (zSh zT0 (f_M_place_a20 p1 r h).2 → Q (some (.int (f_M_place_a20 p1 r h).1)) (f_M_place_a20 p1 r h).2)) ?_ ?_ zF 0 hs ho.1 ⟨ho.2, hF⟩
      · intro v2_ o2_ hs hG
        have ho : True := trivial
        have hF : (zSh zT0 ((f_M_place_k38 h)).2 → Q (some (.int ((f_M_place_k38 h)).1)) ((f_M_place_k38 h)).2) := hG.2
        exact f_M_place_k38_t h (some (.ref 92)) p1 (o2_) hs trivial hF
      · intro v2_ o2_ hs hG
        have ho : (f_M_place_k46_ok p1 h) := (hG.1).2 (show ¬ (2 : Nat) = 1 by decide)
        have hF : (zSh zT0 ((f_M_place_k46 p1 h)).2 → Q (some (.int ((f_M_place_k46 p1 h)).1)) ((f_M_place_k46 p1 h)).2) := hG.2
        exact f_M_place_k46_t p1 h (o2_) hs ho hF
    · have ho := ho.1 hc
      rw [if_pos hc] at hF
      refine zg_blk zd_254 1 hs (rfl : zb x zT0 zc_254 1 (16, [some (.ref 92), some (.int p1), none], [], h) = some (17, [some (.ref 92), some (.int p1), none], [.int (-1)], h)) (fun hs => ?_)
      exact zg_ret zd_254 rfl rfl (hF hs)
theorem f_M_place_w (p1 : Int32) (h : zm_H) : zWr [92, 148] h ((f_M_place p1 h).2) := (zWr_ite (fun z : Int32 × zm_H => z.2) (zWr_ite (fun z : Int32 × zm_H => z.2) (zWr.refl _ _) (zWr_tr (f_M_place_a20_w p1 (f_M_place_l20 p1 h zF 0) h) (by decide) (zWr.refl _ _))) (zWr.refl _ _))
theorem zd_163 : zm_cd 163 = zc_163 := by rfl
def f_N_clear (h : zm_H) : Int32 × zm_H := ((zf h 82 7), (zp h 82 7 0))
def f_N_clear_ok (h : zm_H) : Prop := True
set_option maxRecDepth 100000 in
set_option maxHeartbeats 400000 in
theorem f_N_clear_t {x : zm_X} {d : Nat} (h : zm_H) {Q : Option Value → zm_H → Prop} (hs : zSh zT0 h) (ho : f_N_clear_ok h) (hF : (zSh zT0 (f_N_clear h).2 → Q (some (.int (f_N_clear h).1)) (f_N_clear h).2)) : zg x (d + 1) 163 0 [some (.ref 0), none] [] h Q := by
  unfold f_N_clear at hF
  unfold f_N_clear_ok at ho
  refine zg_blk zd_163 9 hs (rfl : zb x zT0 zc_163 9 (0, [some (.ref 0), none], [], h) = some (17, [some (.ref 0), some (.int (zf h 82 7))], [.int (zf h 82 7)], (zp h 82 7 0))) (fun hs => ?_)
  exact zg_ret zd_163 rfl rfl (hF hs)
theorem f_N_clear_w (h : zm_H) : zWr [82] h ((f_N_clear h).2) := (zWr_si (by decide) (zWr.refl _ _))
theorem zd_255 : zm_cd 255 = zc_255 := by rfl
def f_M_clear (h : zm_H) : Int32 × zm_H := ((zf h 92 75), (zp h 92 75 0))
def f_M_clear_ok (h : zm_H) : Prop := True
set_option maxRecDepth 100000 in
set_option maxHeartbeats 400000 in
theorem f_M_clear_t {x : zm_X} {d : Nat} (h : zm_H) {Q : Option Value → zm_H → Prop} (hs : zSh zT0 h) (ho : f_M_clear_ok h) (hF : (zSh zT0 (f_M_clear h).2 → Q (some (.int (f_M_clear h).1)) (f_M_clear h).2)) : zg x (d + 1) 255 0 [some (.ref 92), none] [] h Q := by
  unfold f_M_clear at hF
  unfold f_M_clear_ok at ho
  refine zg_blk zd_255 7 hs (rfl : zb x zT0 zc_255 7 (0, [some (.ref 92), none], [], h) = some (11, [some (.ref 92), some (.int (zf h 92 75))], [.int (zf h 92 75)], (zp h 92 75 0))) (fun hs => ?_)
  exact zg_ret zd_255 rfl rfl (hF hs)
theorem f_M_clear_w (h : zm_H) : zWr [92] h ((f_M_clear h).2) := (zWr_si (by decide) (zWr.refl _ _))
theorem zd_164 : zm_cd 164 = zc_164 := by rfl
theorem zd_36 : zm_cd 36 = zc_36 := by rfl
def f_Ground_chooseRafts_l22_b (v3 : Int32) (v4 : Int32) (v5 : Int32) (h : zm_H) : Nat × Int32 × Int32 × Int32 × zm_H := (if (v5 < 0) then (2, v3, v4, v5, h) else (if (v3 < 0) then (1, v3, v4, v5, h) else (if ((zf h 23 0) ≤ (zm_rm v3 10)) then (1, v3, v4, v5, h) else (if ((zr h 38 (zm_rm v3 10)) = 0) then (if (((v4 >>> ((zm_rm v3 10) &&& 31)) &&& 1) = 0) then (0, (v3 / 10), (v4 ||| (1 <<< ((zm_rm v3 10) &&& 31))), (v5 + (-1)), (zs h 87 v5 (zm_rm v3 10))) else (1, v3, v4, v5, h)) else (1, v3, v4, v5, h)))))
def f_Ground_chooseRafts_l22_b_ok (v3 : Int32) (v4 : Int32) (v5 : Int32) (h : zm_H) : Prop := (((v5 < 0) → True) ∧ (¬ (v5 < 0) → (((v3 < 0) → True) ∧ (¬ (v3 < 0) → ((((zf h 23 0) ≤ (zm_rm v3 10)) → True) ∧ (¬ ((zf h 23 0) ≤ (zm_rm v3 10)) → (vp_in (zm_rm v3 10) 10 ∧ ((((zr h 38 (zm_rm v3 10)) = 0) → (((((v4 >>> ((zm_rm v3 10) &&& 31)) &&& 1) = 0) → vp_in v5 3) ∧ (¬ (((v4 >>> ((zm_rm v3 10) &&& 31)) &&& 1) = 0) → True))) ∧ (¬ ((zr h 38 (zm_rm v3 10)) = 0) → True)))))))))
set_option maxRecDepth 100000 in
set_option maxHeartbeats 400000 in
theorem f_Ground_chooseRafts_l22_b_t {x : zm_X} {d : Nat} (v3 : Int32) (v4 : Int32) (v5 : Int32) (h : zm_H) (o1 : Option Value) (z2 : Int32) (o6 : Option Value) {Q : Option Value → zm_H → Prop} {FN : Nat × Int32 × Int32 × Int32 × zm_H → Prop} (hs : zSh zT0 h) (ho : f_Ground_chooseRafts_l22_b_ok v3 v4 v5 h) (hF : FN (f_Ground_chooseRafts_l22_b v3 v4 v5 h)) (hl0 : ∀ (v3 : Int32) (v4 : Int32) (v5 : Int32) (h : zm_H) (o1 : Option Value) (z2 : Int32) (o6 : Option Value), zSh zT0 h → FN (0, v3, v4, v5, h) → zg x (d + 1) 36 22 [some (.ref 82), o1, some (.int z2), some (.int v3), some (.int v4), some (.int v5), o6] [] h Q) (hl1 : ∀ (v3 : Int32) (v4 : Int32) (v5 : Int32) (h : zm_H) (o1 : Option Value) (z2 : Int32) (o3 : Option Value) (o4 : Option Value) (o5 : Option Value) (o6 : Option Value), zSh zT0 h → FN (1, v3, v4, v5, h) → zg x (d + 1) 36 75 [some (.ref 82), o1, some (.int z2), o3, o4, o5, o6] [] h Q) (hl2 : ∀ (v3 : Int32) (v4 : Int32) (v5 : Int32) (h : zm_H) (o1 : Option Value) (z2 : Int32) (o4 : Option Value) (o5 : Option Value) (o6 : Option Value), zSh zT0 h → FN (2, v3, v4, v5, h) → zg x (d + 1) 36 106 [some (.ref 82), o1, some (.int z2), some (.int v3), o4, o5, o6] [] h Q) : zg x (d + 1) 36 22 [some (.ref 82), o1, some (.int z2), some (.int v3), some (.int v4), some (.int v5), o6] [] h Q := by
  unfold f_Ground_chooseRafts_l22_b at hF
  unfold f_Ground_chooseRafts_l22_b_ok at ho
  refine zg_blk zd_36 1 hs (rfl : zb x zT0 zc_36 1 (22, [some (.ref 82), o1, some (.int z2), some (.int v3), some (.int v4), some (.int v5), o6], [], h) = some (24, [some (.ref 82), o1, some (.int z2), some (.int v3), some (.int v4), some (.int v5), o6], [.int v5], h)) (fun hs => ?_)
  refine zg_f_lt zd_36 rfl (fun (hc : (v5 < 0)) => ?_) (fun (hc : ¬ (v5 < 0)) => ?_)
  · have ho := ho.1 hc
    rw [if_pos hc] at hF
    exact hl2 v3 v4 v5 h (o1) z2 (some (.int v4)) (some (.int v5)) (o6) hs hF
  · have ho := ho.2 hc
    rw [if_neg hc] at hF
    refine zg_blk zd_36 5 hs (rfl : zb x zT0 zc_36 5 (27, [some (.ref 82), o1, some (.int z2), some (.int v3), some (.int v4), some (.int v5), o6], [], h) = some (34, [some (.ref 82), o1, some (.int z2), some (.int v3), some (.int v4), some (.int v5), some (.int (zm_rm v3 10))], [.int v3], h)) (fun hs => ?_)
    refine zg_f_lt zd_36 rfl (fun (hc : (v3 < 0)) => ?_) (fun (hc : ¬ (v3 < 0)) => ?_)
    · have ho := ho.1 hc
      rw [if_pos hc] at hF
      exact hl1 v3 v4 v5 h (o1) z2 (some (.int v3)) (some (.int v4)) (some (.int v5)) (some (.int (zm_rm v3 10))) hs hF
    · have ho := ho.2 hc
      rw [if_neg hc] at hF
      refine zg_blk zd_36 5 hs (rfl : zb x zT0 zc_36 5 (37, [some (.ref 82), o1, some (.int z2), some (.int v3), some (.int v4), some (.int v5), some (.int (zm_rm v3 10))], [], h) = some (49, [some (.ref 82), o1, some (.int z2), some (.int v3), some (.int v4), some (.int v5), some (.int (zm_rm v3 10))], [.int (zf h 23 0), .int (zm_rm v3 10)], h)) (fun hs => ?_)
      refine zg_i_ge zd_36 rfl (fun (hc : ((zf h 23 0) ≤ (zm_rm v3 10))) => ?_) (fun (hc : ¬ ((zf h 23 0) ≤ (zm_rm v3 10))) => ?_)
      · have ho := ho.1 hc
        rw [if_pos hc] at hF
        exact hl1 v3 v4 v5 h (o1) z2 (some (.int v3)) (some (.int v4)) (some (.int v5)) (some (.int (zm_rm v3 10))) hs hF
      · have ho := ho.2 hc
        rw [if_neg hc] at hF
        refine zg_blk zd_36 4 hs (rfl : zb x zT0 zc_36 4 (52, [some (.ref 82), o1, some (.int z2), some (.int v3), some (.int v4), some (.int v5), some (.int (zm_rm v3 10))], [], h) = some (61, [some (.ref 82), o1, some (.int z2), some (.int v3), some (.int v4), some (.int v5), some (.int (zm_rm v3 10))], [.int (zm_rm v3 10), .ref 38], h)) (fun hs => ?_)
        obtain ⟨hob, ho⟩ := ho
        refine zg_ial hs zd_36 rfl rfl hob ?_
        refine zg_f_ne zd_36 rfl (fun (hc : ¬ ((zr h 38 (zm_rm v3 10)) = 0)) => ?_) (fun (hc : ((zr h 38 (zm_rm v3 10)) = 0)) => ?_)
        · have ho := ho.2 hc
          rw [if_neg hc] at hF
          exact hl1 v3 v4 v5 h (o1) z2 (some (.int v3)) (some (.int v4)) (some (.int v5)) (some (.int (zm_rm v3 10))) hs hF
        · have ho := ho.1 hc
          rw [if_pos hc] at hF
          refine zg_blk zd_36 5 hs (rfl : zb x zT0 zc_36 5 (65, [some (.ref 82), o1, some (.int z2), some (.int v3), some (.int v4), some (.int v5), some (.int (zm_rm v3 10))], [], h) = some (72, [some (.ref 82), o1, some (.int z2), some (.int v3), some (.int v4), some (.int v5), some (.int (zm_rm v3 10))], [.int ((v4 >>> ((zm_rm v3 10) &&& 31)) &&& 1)], h)) (fun hs => ?_)
          refine zg_f_eq zd_36 rfl (fun (hc : (((v4 >>> ((zm_rm v3 10) &&& 31)) &&& 1) = 0)) => ?_) (fun (hc : ¬ (((v4 >>> ((zm_rm v3 10) &&& 31)) &&& 1) = 0)) => ?_)
          · have ho := ho.1 hc
            rw [if_pos hc] at hF
            refine zg_blk zd_36 4 hs (rfl : zb x zT0 zc_36 4 (77, [some (.ref 82), o1, some (.int z2), some (.int v3), some (.int v4), some (.int v5), some (.int (zm_rm v3 10))], [], h) = some (85, [some (.ref 82), o1, some (.int z2), some (.int v3), some (.int v4), some (.int v5), some (.int (zm_rm v3 10))], [.int (zm_rm v3 10), .int v5, .ref 87], h)) (fun hs => ?_)
            have hob := ho
            refine zg_ias hs zd_36 rfl rfl hob (fun hs => ?_)
            refine zg_blk zd_36 12 hs (rfl : zb x zT0 zc_36 12 (86, [some (.ref 82), o1, some (.int z2), some (.int v3), some (.int v4), some (.int v5), some (.int (zm_rm v3 10))], [], (zs h 87 v5 (zm_rm v3 10))) = some (22, [some (.ref 82), o1, some (.int z2), some (.int (v3 / 10)), some (.int (v4 ||| (1 <<< ((zm_rm v3 10) &&& 31)))), some (.int (v5 + (-1))), some (.int (zm_rm v3 10))], [], (zs h 87 v5 (zm_rm v3 10)))) (fun hs => ?_)
            exact hl0 (v3 / 10) (v4 ||| (1 <<< ((zm_rm v3 10) &&& 31))) (v5 + (-1)) (zs h 87 v5 (zm_rm v3 10)) (o1) z2 (some (.int (zm_rm v3 10))) hs hF
          · have ho := ho.2 hc
            rw [if_neg hc] at hF
            exact hl1 v3 v4 v5 h (o1) z2 (some (.int v3)) (some (.int v4)) (some (.int v5)) (some (.int (zm_rm v3 10))) hs hF
theorem f_Ground_chooseRafts_l22_b_w (v3 : Int32) (v4 : Int32) (v5 : Int32) (h : zm_H) : zWr [87] h ((f_Ground_chooseRafts_l22_b v3 v4 v5 h).2.2.2.2) := (zWr_ite (fun z : Nat × Int32 × Int32 × Int32 × zm_H => z.2.2.2.2) (zWr.refl _ _) (zWr_ite (fun z : Nat × Int32 × Int32 × Int32 × zm_H => z.2.2.2.2) (zWr.refl _ _) (zWr_ite (fun z : Nat × Int32 × Int32 × Int32 × zm_H => z.2.2.2.2) (zWr.refl _ _) (zWr_ite (fun z : Nat × Int32 × Int32 × Int32 × zm_H => z.2.2.2.2) (zWr_ite (fun z : Nat × Int32 × Int32 × Int32 × zm_H => z.2.2.2.2) (zWr_si (by decide) (zWr.refl _ _)) (zWr.refl _ _)) (zWr.refl _ _)))))
def f_Ground_chooseRafts_l22 (n : Nat) (t : Int32 × Int32 × Int32 × zm_H) : Nat × Int32 × Int32 × Int32 × zm_H := zwh (fun t => f_Ground_chooseRafts_l22_b t.1 t.2.1 t.2.2.1 t.2.2.2) n t
def f_Ground_chooseRafts_l22_ok (n : Nat) (t : Int32 × Int32 × Int32 × zm_H) : Prop := zwo (fun t => f_Ground_chooseRafts_l22_b t.1 t.2.1 t.2.2.1 t.2.2.2) (fun t => f_Ground_chooseRafts_l22_b_ok t.1 t.2.1 t.2.2.1 t.2.2.2) n t
theorem f_Ground_chooseRafts_l22_t {x : zm_X} {d : Nat} {Q : Option Value → zm_H → Prop} (G : Nat × Int32 × Int32 × Int32 × zm_H → Prop) (hx1 : ∀ (v3 : Int32) (v4 : Int32) (v5 : Int32) (h : zm_H) (o1 : Option Value) (z2 : Int32) (o3 : Option Value) (o4 : Option Value) (o5 : Option Value) (o6 : Option Value), zSh zT0 h → G (1, v3, v4, v5, h) → zg x (d + 1) 36 75 [some (.ref 82), o1, some (.int z2), o3, o4, o5, o6] [] h Q) (hx2 : ∀ (v3 : Int32) (v4 : Int32) (v5 : Int32) (h : zm_H) (o1 : Option Value) (z2 : Int32) (o4 : Option Value) (o5 : Option Value) (o6 : Option Value), zSh zT0 h → G (2, v3, v4, v5, h) → zg x (d + 1) 36 106 [some (.ref 82), o1, some (.int z2), some (.int v3), o4, o5, o6] [] h Q) : ∀ (n : Nat) (v3 : Int32) (v4 : Int32) (v5 : Int32) (h : zm_H) (o1 : Option Value) (z2 : Int32) (o6 : Option Value), zSh zT0 h → f_Ground_chooseRafts_l22_ok n (v3, v4, v5, h) → G (f_Ground_chooseRafts_l22 n (v3, v4, v5, h)) → zg x (d + 1) 36 22 [some (.ref 82), o1, some (.int z2), some (.int v3), some (.int v4), some (.int v5), o6] [] h Q := by
  intro n
  induction n with
  | zero => intro v3 v4 v5 h o1 z2 o6 hs ho hG; exact ho.elim
  | succ n ih =>
    intro v3 v4 v5 h o1 z2 o6 hs ho hG
    refine f_Ground_chooseRafts_l22_b_t (FN := fun r => (r.1 = 0 → f_Ground_chooseRafts_l22_ok n r.2) ∧ G (if r.1 = 0 then f_Ground_chooseRafts_l22 n r.2 else r)) v3 v4 v5 h o1 z2 o6 hs ho.1 ⟨ho.2, hG⟩ ?_ ?_ ?_
    · intro v3 v4 v5 h o1 z2 o6 hs hF
      exact ih v3 v4 v5 h o1 z2 o6 hs (hF.1 rfl) hF.2
    · intro v3 v4 v5 h o1 z2 o3 o4 o5 o6 hs hF
      exact hx1 v3 v4 v5 h o1 z2 o3 o4 o5 o6 hs hF.2
    · intro v3 v4 v5 h o1 z2 o4 o5 o6 hs hF
      exact hx2 v3 v4 v5 h o1 z2 o4 o5 o6 hs hF.2

theorem f_Ground_chooseRafts_l22_w (n : Nat) (t : Int32 × Int32 × Int32 × zm_H) : zWr [87] (t.2.2.2) ((f_Ground_chooseRafts_l22 n t).2.2.2.2) := zWr_zwh (fun t : Int32 × Int32 × Int32 × zm_H => t.2.2.2) (fun t => f_Ground_chooseRafts_l22_b_w t.1 t.2.1 t.2.2.1 t.2.2.2)
def f_Ground_chooseRafts_k75 (h : zm_H) : Int32 × zm_H := (0, h)
def f_Ground_chooseRafts_k75_ok (h : zm_H) : Prop := True
set_option maxRecDepth 100000 in
set_option maxHeartbeats 400000 in
theorem f_Ground_chooseRafts_k75_t {x : zm_X} {d : Nat} (h : zm_H) (o0 : Option Value) (o1 : Option Value) (z2 : Int32) (o3 : Option Value) (o4 : Option Value) (o5 : Option Value) (o6 : Option Value) {Q : Option Value → zm_H → Prop} (hs : zSh zT0 h) (ho : f_Ground_chooseRafts_k75_ok h) (hF : (zSh zT0 (f_Ground_chooseRafts_k75 h).2 → Q (some (.int (f_Ground_chooseRafts_k75 h).1)) (f_Ground_chooseRafts_k75 h).2)) : zg x (d + 1) 36 75 [o0, o1, some (.int z2), o3, o4, o5, o6] [] h Q := by
  unfold f_Ground_chooseRafts_k75 at hF
  unfold f_Ground_chooseRafts_k75_ok at ho
  refine zg_blk zd_36 1 hs (rfl : zb x zT0 zc_36 1 (75, [o0, o1, some (.int z2), o3, o4, o5, o6], [], h) = some (76, [o0, o1, some (.int z2), o3, o4, o5, o6], [.int 0], h)) (fun hs => ?_)
  exact zg_rtz zd_36 rfl rfl rfl (hF hs)
theorem f_Ground_chooseRafts_k75_w (h : zm_H) : zWr [] h ((f_Ground_chooseRafts_k75 h).2) := (zWr.refl _ _)
def f_Ground_chooseRafts_k106 (v3 : Int32) (h : zm_H) : Int32 × zm_H := ((if (v3 = 0) then (1 : Int32) else 0), h)
def f_Ground_chooseRafts_k106_ok (v3 : Int32) (h : zm_H) : Prop := True
set_option maxRecDepth 100000 in
set_option maxHeartbeats 400000 in
theorem f_Ground_chooseRafts_k106_t {x : zm_X} {d : Nat} (v3 : Int32) (h : zm_H) (o0 : Option Value) (o1 : Option Value) (z2 : Int32) (o4 : Option Value) (o5 : Option Value) (o6 : Option Value) {Q : Option Value → zm_H → Prop} (hs : zSh zT0 h) (ho : f_Ground_chooseRafts_k106_ok v3 h) (hF : (zSh zT0 (f_Ground_chooseRafts_k106 v3 h).2 → Q (some (.int (f_Ground_chooseRafts_k106 v3 h).1)) (f_Ground_chooseRafts_k106 v3 h).2)) : zg x (d + 1) 36 106 [o0, o1, some (.int z2), some (.int v3), o4, o5, o6] [] h Q := by
  unfold f_Ground_chooseRafts_k106 at hF
  unfold f_Ground_chooseRafts_k106_ok at ho
  refine zg_blk zd_36 1 hs (rfl : zb x zT0 zc_36 1 (106, [o0, o1, some (.int z2), some (.int v3), o4, o5, o6], [], h) = some (107, [o0, o1, some (.int z2), some (.int v3), o4, o5, o6], [.int v3], h)) (fun hs => ?_)
  have K170 : zSh zT0 h → zg x (d + 1) 36 115 [o0, o1, some (.int z2), some (.int v3), o4, o5, o6] [.int (if (v3 = 0) then (1 : Int32) else 0)] h Q := fun hs => by
    exact zg_rtz zd_36 rfl rfl zm_nb01 (hF hs)
  refine zg_f_ne zd_36 rfl (fun (hc : ¬ (v3 = 0)) => ?_) (fun (hc : (v3 = 0)) => ?_)
  · skip
    rw [show ((if (v3 = 0) then (1 : Int32) else 0) : Int32) = 0 from if_neg hc] at K170
    refine zg_blk zd_36 1 hs (rfl : zb x zT0 zc_36 1 (114, [o0, o1, some (.int z2), some (.int v3), o4, o5, o6], [], h) = some (115, [o0, o1, some (.int z2), some (.int v3), o4, o5, o6], [.int 0], h)) (fun hs => ?_)
    exact K170 hs
  · skip
    rw [show ((if (v3 = 0) then (1 : Int32) else 0) : Int32) = 1 from if_pos hc] at K170
    refine zg_blk zd_36 2 hs (rfl : zb x zT0 zc_36 2 (110, [o0, o1, some (.int z2), some (.int v3), o4, o5, o6], [], h) = some (115, [o0, o1, some (.int z2), some (.int v3), o4, o5, o6], [.int 1], h)) (fun hs => ?_)
    exact K170 hs
theorem f_Ground_chooseRafts_k106_w (v3 : Int32) (h : zm_H) : zWr [] h ((f_Ground_chooseRafts_k106 v3 h).2) := (zWr.refl _ _)
def f_Ground_chooseRafts_a22 (r : Nat × Int32 × Int32 × Int32 × zm_H) : Int32 × zm_H := (if r.1 = 1 then (f_Ground_chooseRafts_k75 (r.2.2.2.2)) else (f_Ground_chooseRafts_k106 (r.2.1) (r.2.2.2.2)))
def f_Ground_chooseRafts_a22_ok (r : Nat × Int32 × Int32 × Int32 × zm_H) : Prop := ((r.1 = 1 → True) ∧ (¬ r.1 = 1 → True))
theorem f_Ground_chooseRafts_a22_w (r : Nat × Int32 × Int32 × Int32 × zm_H) : zWr [] (r.2.2.2.2) ((f_Ground_chooseRafts_a22 r).2) := (zWr_ite (fun z : Int32 × zm_H => z.2) (zWr_tr (f_Ground_chooseRafts_k75_w (r.2.2.2.2)) (by decide) (zWr.refl _ _)) (zWr_tr (f_Ground_chooseRafts_k106_w (r.2.1) (r.2.2.2.2)) (by decide) (zWr.refl _ _)))
def f_Ground_chooseRafts (p1 : Int32) (p2 : Int32) (h : zm_H) : Int32 × zm_H := (f_Ground_chooseRafts_a22 (f_Ground_chooseRafts_l22 zF (p1, 0, ((if 3 < p2 then 3 else p2) - 1), (zp h 82 9 (if 3 < p2 then 3 else p2)))))
def f_Ground_chooseRafts_ok (p1 : Int32) (p2 : Int32) (h : zm_H) : Prop := (f_Ground_chooseRafts_l22_ok zF (p1, 0, ((if 3 < p2 then 3 else p2) - 1), (zp h 82 9 (if 3 < p2 then 3 else p2))) ∧ f_Ground_chooseRafts_a22_ok (f_Ground_chooseRafts_l22 zF (p1, 0, ((if 3 < p2 then 3 else p2) - 1), (zp h 82 9 (if 3 < p2 then 3 else p2)))))
set_option maxRecDepth 100000 in
set_option maxHeartbeats 400000 in
theorem f_Ground_chooseRafts_t {x : zm_X} {d : Nat} (p1 : Int32) (p2 : Int32) (h : zm_H) {Q : Option Value → zm_H → Prop} (hs : zSh zT0 h) (ho : f_Ground_chooseRafts_ok p1 p2 h) (hF : (zSh zT0 (f_Ground_chooseRafts p1 p2 h).2 → Q (some (.int (f_Ground_chooseRafts p1 p2 h).1)) (f_Ground_chooseRafts p1 p2 h).2)) : zg x (d + 1) 36 0 [some (.ref 82), some (.int p1), some (.int p2), none, none, none, none] [] h Q := by
  unfold f_Ground_chooseRafts at hF
  unfold f_Ground_chooseRafts_ok at ho
  refine zg_blk zd_36 7 hs (rfl : zb x zT0 zc_36 7 (0, [some (.ref 82), some (.int p1), some (.int p2), none, none, none, none], [], h) = some (8, [some (.ref 82), some (.int p1), some (.int p2), some (.int p1), some (.int 0), none, none], [.int 3, .int p2, .ref 82], h)) (fun hs => ?_)
  refine zg_x zd_36 rfl rfl rfl rfl (as := [.int p2, .int 3]) (rest := [.ref 82]) (w := some (.int (if 3 < p2 then 3 else p2))) rfl rfl rfl ?_
  refine zg_blk zd_36 6 hs (rfl : zb x zT0 zc_36 6 (11, [some (.ref 82), some (.int p1), some (.int p2), some (.int p1), some (.int 0), none, none], [.int (if 3 < p2 then 3 else p2), .ref 82], h) = some (22, [some (.ref 82), some (.int p1), some (.int p2), some (.int p1), some (.int 0), some (.int ((if 3 < p2 then 3 else p2) - 1)), none], [], (zp h 82 9 (if 3 < p2 then 3 else p2)))) (fun hs => ?_)
  refine f_Ground_chooseRafts_l22_t  (fun r => f_Ground_chooseRafts_a22_ok r ∧ (zSh zT0 (f_Ground_chooseRafts_a22 r).2 → Q (some (.int (f_Ground_chooseRafts_a22 r).1)) (f_Ground_chooseRafts_a22 r).2)) ?_ ?_ zF p1 0 ((if 3 < p2 then 3 else p2) - 1) (zp h 82 9 (if 3 < p2 then 3 else p2)) (some (.int p1)) p2 (none) hs ho.1 ⟨ho.2, hF⟩
  · intro v3_ v4_ v5_ h_ o1_ z2_ o3_ o4_ o5_ o6_ hs hG
    have ho : True := trivial
    have hF : (zSh zT0 ((f_Ground_chooseRafts_k75 h_)).2 → Q (some (.int ((f_Ground_chooseRafts_k75 h_)).1)) ((f_Ground_chooseRafts_k75 h_)).2) := hG.2
    exact f_Ground_chooseRafts_k75_t h_ (some (.ref 82)) (o1_) z2_ (o3_) (o4_) (o5_) (o6_) hs trivial hF
  · intro v3_ v4_ v5_ h_ o1_ z2_ o4_ o5_ o6_ hs hG
    have ho : True := trivial
    have hF : (zSh zT0 ((f_Ground_chooseRafts_k106 v3_ h_)).2 → Q (some (.int ((f_Ground_chooseRafts_k106 v3_ h_)).1)) ((f_Ground_chooseRafts_k106 v3_ h_)).2) := hG.2
    exact f_Ground_chooseRafts_k106_t v3_ h_ (some (.ref 82)) (o1_) z2_ (o4_) (o5_) (o6_) hs trivial hF
theorem f_Ground_chooseRafts_w (p1 : Int32) (p2 : Int32) (h : zm_H) : zWr [82, 87] h ((f_Ground_chooseRafts p1 p2 h).2) := (zWr_tr (f_Ground_chooseRafts_a22_w (f_Ground_chooseRafts_l22 zF (p1, 0, ((if 3 < p2 then 3 else p2) - 1), (zp h 82 9 (if 3 < p2 then 3 else p2))))) (by decide) (zWr_tr (f_Ground_chooseRafts_l22_w zF (p1, 0, ((if 3 < p2 then 3 else p2) - 1), (zp h 82 9 (if 3 < p2 then 3 else p2)))) (by decide) (zWr_si (by decide) (zWr.refl _ _))))
theorem zd_37 : zm_cd 37 = zc_37 := by rfl
def f_Ground_chooseSpells_l22_b (v1 : Int32) (v3 : Int32) (h : zm_H) : Nat × Int32 × zm_H := (if ((zf h 82 11) ≤ v3) then (1, v3, h) else (0, (v3 + 1), (zs h 88 v3 (f_Swell_lookNow (v1 + v3) h))))
def f_Ground_chooseSpells_l22_b_ok (v1 : Int32) (v3 : Int32) (h : zm_H) : Prop := ((((zf h 82 11) ≤ v3) → True) ∧ (¬ ((zf h 82 11) ≤ v3) → (f_Swell_lookNow_ok (v1 + v3) h ∧ vp_in v3 24)))
set_option maxRecDepth 100000 in
set_option maxHeartbeats 400000 in
theorem f_Ground_chooseSpells_l22_b_t {x : zm_X} {d : Nat} (v1 : Int32) (v3 : Int32) (h : zm_H) (z2 : Int32) {Q : Option Value → zm_H → Prop} {FN : Nat × Int32 × zm_H → Prop} (hs : zSh zT0 h) (ho : f_Ground_chooseSpells_l22_b_ok v1 v3 h) (hF : FN (f_Ground_chooseSpells_l22_b v1 v3 h)) (hl0 : ∀ (v3 : Int32) (h : zm_H) (z2 : Int32), zSh zT0 h → FN (0, v3, h) → zg x (d + 5) 37 22 [some (.ref 82), some (.int v1), some (.int z2), some (.int v3)] [] h Q) (hl1 : ∀ (v3 : Int32) (h : zm_H) (z2 : Int32) (o3 : Option Value), zSh zT0 h → FN (1, v3, h) → zg x (d + 5) 37 52 [some (.ref 82), some (.int v1), some (.int z2), o3] [] h Q) : zg x (d + 5) 37 22 [some (.ref 82), some (.int v1), some (.int z2), some (.int v3)] [] h Q := by
  unfold f_Ground_chooseSpells_l22_b at hF
  unfold f_Ground_chooseSpells_l22_b_ok at ho
  refine zg_blk zd_37 3 hs (rfl : zb x zT0 zc_37 3 (22, [some (.ref 82), some (.int v1), some (.int z2), some (.int v3)], [], h) = some (27, [some (.ref 82), some (.int v1), some (.int z2), some (.int v3)], [.int (zf h 82 11), .int v3], h)) (fun hs => ?_)
  refine zg_i_ge zd_37 rfl (fun (hc : ((zf h 82 11) ≤ v3)) => ?_) (fun (hc : ¬ ((zf h 82 11) ≤ v3)) => ?_)
  · have ho := ho.1 hc
    rw [if_pos hc] at hF
    exact hl1 v3 h z2 (some (.int v3)) hs hF
  · have ho := ho.2 hc
    rw [if_neg hc] at hF
    refine zg_blk zd_37 8 hs (rfl : zb x zT0 zc_37 8 (30, [some (.ref 82), some (.int v1), some (.int z2), some (.int v3)], [], h) = some (42, [some (.ref 82), some (.int v1), some (.int z2), some (.int v3)], [.int (v1 + v3), .ref 1, .int v3, .ref 88], h)) (fun hs => ?_)
    obtain ⟨hob, ho⟩ := ho
    refine zg_call hs zd_37 rfl rfl rfl rfl (as := [.ref 1, .int (v1 + v3)]) (rest := [.int v3, .ref 88]) (en := [some (.ref 1), some (.int (v1 + v3))]) rfl rfl rfl rfl rfl ?_
    refine f_Swell_lookNow_t (v1 + v3) h hs hob ?_
    show zg x (d + 5) 37 45 [some (.ref 82), some (.int v1), some (.int z2), some (.int v3)] [.int (f_Swell_lookNow (v1 + v3) h), .int v3, .ref 88] h Q
    have hob := ho
    refine zg_ias hs zd_37 rfl rfl hob (fun hs => ?_)
    refine zg_blk zd_37 2 hs (rfl : zb x zT0 zc_37 2 (46, [some (.ref 82), some (.int v1), some (.int z2), some (.int v3)], [], (zs h 88 v3 (f_Swell_lookNow (v1 + v3) h))) = some (22, [some (.ref 82), some (.int v1), some (.int z2), some (.int (v3 + 1))], [], (zs h 88 v3 (f_Swell_lookNow (v1 + v3) h)))) (fun hs => ?_)
    exact hl0 (v3 + 1) (zs h 88 v3 (f_Swell_lookNow (v1 + v3) h)) z2 hs hF
theorem f_Ground_chooseSpells_l22_b_w (v1 : Int32) (v3 : Int32) (h : zm_H) : zWr [88] h ((f_Ground_chooseSpells_l22_b v1 v3 h).2.2) := (zWr_ite (fun z : Nat × Int32 × zm_H => z.2.2) (zWr.refl _ _) (zWr_si (by decide) (zWr.refl _ _)))
def f_Ground_chooseSpells_l22 (v1 : Int32) (n : Nat) (t : Int32 × zm_H) : Nat × Int32 × zm_H := zwh (fun t => f_Ground_chooseSpells_l22_b v1 t.1 t.2) n t
def f_Ground_chooseSpells_l22_ok (v1 : Int32) (n : Nat) (t : Int32 × zm_H) : Prop := zwo (fun t => f_Ground_chooseSpells_l22_b v1 t.1 t.2) (fun t => f_Ground_chooseSpells_l22_b_ok v1 t.1 t.2) n t
theorem f_Ground_chooseSpells_l22_t {x : zm_X} {d : Nat} (v1 : Int32) {Q : Option Value → zm_H → Prop} (G : Nat × Int32 × zm_H → Prop) (hx1 : ∀ (v3 : Int32) (h : zm_H) (z2 : Int32) (o3 : Option Value), zSh zT0 h → G (1, v3, h) → zg x (d + 5) 37 52 [some (.ref 82), some (.int v1), some (.int z2), o3] [] h Q) : ∀ (n : Nat) (v3 : Int32) (h : zm_H) (z2 : Int32), zSh zT0 h → f_Ground_chooseSpells_l22_ok v1 n (v3, h) → G (f_Ground_chooseSpells_l22 v1 n (v3, h)) → zg x (d + 5) 37 22 [some (.ref 82), some (.int v1), some (.int z2), some (.int v3)] [] h Q := by
  intro n
  induction n with
  | zero => intro v3 h z2 hs ho hG; exact ho.elim
  | succ n ih =>
    intro v3 h z2 hs ho hG
    refine f_Ground_chooseSpells_l22_b_t (FN := fun r => (r.1 = 0 → f_Ground_chooseSpells_l22_ok v1 n r.2) ∧ G (if r.1 = 0 then f_Ground_chooseSpells_l22 v1 n r.2 else r)) v1 v3 h z2 hs ho.1 ⟨ho.2, hG⟩ ?_ ?_
    · intro v3 h z2 hs hF
      exact ih v3 h z2 hs (hF.1 rfl) hF.2
    · intro v3 h z2 o3 hs hF
      exact hx1 v3 h z2 o3 hs hF.2

theorem f_Ground_chooseSpells_l22_w (v1 : Int32) (n : Nat) (t : Int32 × zm_H) : zWr [88] (t.2) ((f_Ground_chooseSpells_l22 v1 n t).2.2) := zWr_zwh (fun t : Int32 × zm_H => t.2) (fun t => f_Ground_chooseSpells_l22_b_w v1 t.1 t.2)
def f_Ground_chooseSpells_k52 (h : zm_H) : Int32 × zm_H := (1, h)
def f_Ground_chooseSpells_k52_ok (h : zm_H) : Prop := True
set_option maxRecDepth 100000 in
set_option maxHeartbeats 400000 in
theorem f_Ground_chooseSpells_k52_t {x : zm_X} {d : Nat} (h : zm_H) (o0 : Option Value) (o1 : Option Value) (z2 : Int32) (o3 : Option Value) {Q : Option Value → zm_H → Prop} (hs : zSh zT0 h) (ho : f_Ground_chooseSpells_k52_ok h) (hF : (zSh zT0 (f_Ground_chooseSpells_k52 h).2 → Q (some (.int (f_Ground_chooseSpells_k52 h).1)) (f_Ground_chooseSpells_k52 h).2)) : zg x (d + 5) 37 52 [o0, o1, some (.int z2), o3] [] h Q := by
  unfold f_Ground_chooseSpells_k52 at hF
  unfold f_Ground_chooseSpells_k52_ok at ho
  refine zg_blk zd_37 1 hs (rfl : zb x zT0 zc_37 1 (52, [o0, o1, some (.int z2), o3], [], h) = some (53, [o0, o1, some (.int z2), o3], [.int 1], h)) (fun hs => ?_)
  exact zg_rtz zd_37 rfl rfl rfl (hF hs)
theorem f_Ground_chooseSpells_k52_w (h : zm_H) : zWr [] h ((f_Ground_chooseSpells_k52 h).2) := (zWr.refl _ _)
def f_Ground_chooseSpells_a22 (r : Nat × Int32 × zm_H) : Int32 × zm_H := (f_Ground_chooseSpells_k52 (r.2.2))
def f_Ground_chooseSpells_a22_ok (r : Nat × Int32 × zm_H) : Prop := True
theorem f_Ground_chooseSpells_a22_w (r : Nat × Int32 × zm_H) : zWr [] (r.2.2) ((f_Ground_chooseSpells_a22 r).2) := (zWr_tr (f_Ground_chooseSpells_k52_w (r.2.2)) (by decide) (zWr.refl _ _))
def f_Ground_chooseSpells (p1 : Int32) (p2 : Int32) (h : zm_H) : Int32 × zm_H := (if (((p2 - p1) + 1) ≤ 24) then (f_Ground_chooseSpells_a22 (f_Ground_chooseSpells_l22 p1 zF (0, (zp h 82 11 ((p2 - p1) + 1))))) else (0, (zp h 82 11 ((p2 - p1) + 1))))
def f_Ground_chooseSpells_ok (p1 : Int32) (p2 : Int32) (h : zm_H) : Prop := (((((p2 - p1) + 1) ≤ 24) → (f_Ground_chooseSpells_l22_ok p1 zF (0, (zp h 82 11 ((p2 - p1) + 1))) ∧ f_Ground_chooseSpells_a22_ok (f_Ground_chooseSpells_l22 p1 zF (0, (zp h 82 11 ((p2 - p1) + 1)))))) ∧ (¬ (((p2 - p1) + 1) ≤ 24) → True))
set_option maxRecDepth 100000 in
set_option maxHeartbeats 400000 in
theorem f_Ground_chooseSpells_t {x : zm_X} {d : Nat} (p1 : Int32) (p2 : Int32) (h : zm_H) {Q : Option Value → zm_H → Prop} (hs : zSh zT0 h) (ho : f_Ground_chooseSpells_ok p1 p2 h) (hF : (zSh zT0 (f_Ground_chooseSpells p1 p2 h).2 → Q (some (.int (f_Ground_chooseSpells p1 p2 h).1)) (f_Ground_chooseSpells p1 p2 h).2)) : zg x (d + 5) 37 0 [some (.ref 82), some (.int p1), some (.int p2), none] [] h Q := by
  unfold f_Ground_chooseSpells at hF
  unfold f_Ground_chooseSpells_ok at ho
  refine zg_blk zd_37 10 hs (rfl : zb x zT0 zc_37 10 (0, [some (.ref 82), some (.int p1), some (.int p2), none], [], h) = some (15, [some (.ref 82), some (.int p1), some (.int p2), none], [.int 24, .int ((p2 - p1) + 1)], (zp h 82 11 ((p2 - p1) + 1)))) (fun hs => ?_)
  refine zg_i_le zd_37 rfl (fun (hc : (((p2 - p1) + 1) ≤ 24)) => ?_) (fun (hc : ¬ (((p2 - p1) + 1) ≤ 24)) => ?_)
  · have ho := ho.1 hc
    rw [if_pos hc] at hF
    refine zg_blk zd_37 2 hs (rfl : zb x zT0 zc_37 2 (20, [some (.ref 82), some (.int p1), some (.int p2), none], [], (zp h 82 11 ((p2 - p1) + 1))) = some (22, [some (.ref 82), some (.int p1), some (.int p2), some (.int 0)], [], (zp h 82 11 ((p2 - p1) + 1)))) (fun hs => ?_)
    refine f_Ground_chooseSpells_l22_t p1 (fun r => f_Ground_chooseSpells_a22_ok r ∧ (zSh zT0 (f_Ground_chooseSpells_a22 r).2 → Q (some (.int (f_Ground_chooseSpells_a22 r).1)) (f_Ground_chooseSpells_a22 r).2)) ?_ zF 0 (zp h 82 11 ((p2 - p1) + 1)) p2 hs ho.1 ⟨ho.2, hF⟩
    · intro v3_ h_ z2_ o3_ hs hG
      have ho : True := trivial
      have hF : (zSh zT0 ((f_Ground_chooseSpells_k52 h_)).2 → Q (some (.int ((f_Ground_chooseSpells_k52 h_)).1)) ((f_Ground_chooseSpells_k52 h_)).2) := hG.2
      exact f_Ground_chooseSpells_k52_t h_ (some (.ref 82)) (some (.int p1)) z2_ (o3_) hs trivial hF
  · have ho := ho.2 hc
    rw [if_neg hc] at hF
    refine zg_blk zd_37 1 hs (rfl : zb x zT0 zc_37 1 (18, [some (.ref 82), some (.int p1), some (.int p2), none], [], (zp h 82 11 ((p2 - p1) + 1))) = some (19, [some (.ref 82), some (.int p1), some (.int p2), none], [.int 0], (zp h 82 11 ((p2 - p1) + 1)))) (fun hs => ?_)
    exact zg_rtz zd_37 rfl rfl rfl (hF hs)
theorem f_Ground_chooseSpells_w (p1 : Int32) (p2 : Int32) (h : zm_H) : zWr [82, 88] h ((f_Ground_chooseSpells p1 p2 h).2) := (zWr_ite (fun z : Int32 × zm_H => z.2) (zWr_tr (f_Ground_chooseSpells_a22_w (f_Ground_chooseSpells_l22 p1 zF (0, (zp h 82 11 ((p2 - p1) + 1))))) (by decide) (zWr_tr (f_Ground_chooseSpells_l22_w p1 zF (0, (zp h 82 11 ((p2 - p1) + 1)))) (by decide) (zWr_si (by decide) (zWr.refl _ _)))) (zWr_si (by decide) (zWr.refl _ _)))
theorem zd_38 : zm_cd 38 = zc_38 := by rfl
def f_Ground_search_l5_b (v1 : Int32) (v2 : Int32) (v3 : Int32) (v4 : Int32) (h : zm_H) : Nat × Int32 × Int32 := (if ((zf h 82 9) ≤ v4) then (1, v3, v4) else (0, (v3 * (zf h 82 7)), (v4 + 1)))
def f_Ground_search_l5_b_ok (v1 : Int32) (v2 : Int32) (v3 : Int32) (v4 : Int32) (h : zm_H) : Prop := True
set_option maxRecDepth 100000 in
set_option maxHeartbeats 400000 in
theorem f_Ground_search_l5_b_t {x : zm_X} {d : Nat} (v1 : Int32) (v2 : Int32) (v3 : Int32) (v4 : Int32) (h : zm_H) (o5 : Option Value) (o6 : Option Value) {Q : Option Value → zm_H → Prop} {FN : Nat × Int32 × Int32 → Prop} (hs : zSh zT0 h) (ho : f_Ground_search_l5_b_ok v1 v2 v3 v4 h) (hF : FN (f_Ground_search_l5_b v1 v2 v3 v4 h)) (hl0 : ∀ (v3 : Int32) (v4 : Int32) (o5 : Option Value) (o6 : Option Value), zSh zT0 h → FN (0, v3, v4) → zg x (d + 5) 38 5 [some (.ref 82), some (.int v1), some (.int v2), some (.int v3), some (.int v4), o5, o6] [] h Q) (hl1 : ∀ (v3 : Int32) (v4 : Int32) (o4 : Option Value) (o5 : Option Value) (o6 : Option Value), zSh zT0 h → FN (1, v3, v4) → zg x (d + 5) 38 27 [some (.ref 82), some (.int v1), some (.int v2), some (.int v3), o4, o5, o6] [] h Q) : zg x (d + 5) 38 5 [some (.ref 82), some (.int v1), some (.int v2), some (.int v3), some (.int v4), o5, o6] [] h Q := by
  unfold f_Ground_search_l5_b at hF
  unfold f_Ground_search_l5_b_ok at ho
  refine zg_blk zd_38 3 hs (rfl : zb x zT0 zc_38 3 (5, [some (.ref 82), some (.int v1), some (.int v2), some (.int v3), some (.int v4), o5, o6], [], h) = some (11, [some (.ref 82), some (.int v1), some (.int v2), some (.int v3), some (.int v4), o5, o6], [.int (zf h 82 9), .int v4], h)) (fun hs => ?_)
  refine zg_i_ge zd_38 rfl (fun (hc : ((zf h 82 9) ≤ v4)) => ?_) (fun (hc : ¬ ((zf h 82 9) ≤ v4)) => ?_)
  · skip
    rw [if_pos hc] at hF
    exact hl1 v3 v4 (some (.int v4)) (o5) (o6) hs hF
  · skip
    rw [if_neg hc] at hF
    refine zg_blk zd_38 7 hs (rfl : zb x zT0 zc_38 7 (14, [some (.ref 82), some (.int v1), some (.int v2), some (.int v3), some (.int v4), o5, o6], [], h) = some (5, [some (.ref 82), some (.int v1), some (.int v2), some (.int (v3 * (zf h 82 7))), some (.int (v4 + 1)), o5, o6], [], h)) (fun hs => ?_)
    exact hl0 (v3 * (zf h 82 7)) (v4 + 1) (o5) (o6) hs hF
def f_Ground_search_l5 (v1 : Int32) (v2 : Int32) (h : zm_H) (n : Nat) (t : Int32 × Int32) : Nat × Int32 × Int32 := zwh (fun t => f_Ground_search_l5_b v1 v2 t.1 t.2 h) n t
def f_Ground_search_l5_ok (v1 : Int32) (v2 : Int32) (h : zm_H) (n : Nat) (t : Int32 × Int32) : Prop := zwo (fun t => f_Ground_search_l5_b v1 v2 t.1 t.2 h) (fun t => f_Ground_search_l5_b_ok v1 v2 t.1 t.2 h) n t
theorem f_Ground_search_l5_t {x : zm_X} {d : Nat} (v1 : Int32) (v2 : Int32) (h : zm_H) {Q : Option Value → zm_H → Prop} (G : Nat × Int32 × Int32 → Prop) (hx1 : ∀ (v3 : Int32) (v4 : Int32) (o4 : Option Value) (o5 : Option Value) (o6 : Option Value), zSh zT0 h → G (1, v3, v4) → zg x (d + 5) 38 27 [some (.ref 82), some (.int v1), some (.int v2), some (.int v3), o4, o5, o6] [] h Q) : ∀ (n : Nat) (v3 : Int32) (v4 : Int32) (o5 : Option Value) (o6 : Option Value), zSh zT0 h → f_Ground_search_l5_ok v1 v2 h n (v3, v4) → G (f_Ground_search_l5 v1 v2 h n (v3, v4)) → zg x (d + 5) 38 5 [some (.ref 82), some (.int v1), some (.int v2), some (.int v3), some (.int v4), o5, o6] [] h Q := by
  intro n
  induction n with
  | zero => intro v3 v4 o5 o6 hs ho hG; exact ho.elim
  | succ n ih =>
    intro v3 v4 o5 o6 hs ho hG
    refine f_Ground_search_l5_b_t (FN := fun r => (r.1 = 0 → f_Ground_search_l5_ok v1 v2 h n r.2) ∧ G (if r.1 = 0 then f_Ground_search_l5 v1 v2 h n r.2 else r)) v1 v2 v3 v4 h o5 o6 hs ho.1 ⟨ho.2, hG⟩ ?_ ?_
    · intro v3 v4 o5 o6 hs hF
      exact ih v3 v4 o5 o6 hs (hF.1 rfl) hF.2
    · intro v3 v4 o4 o5 o6 hs hF
      exact hx1 v3 v4 o4 o5 o6 hs hF.2

theorem zd_39 : zm_cd 39 = zc_39 := by rfl
def f_Ground_setTrial_l12_b (v2 : Int32) (v3 : Int32) (v4 : Int32) (h : zm_H) : Nat × Int32 × Int32 × Int32 × zm_H := (if (v4 < 0) then (2, v2, v3, v4, h) else (if (((v3 >>> ((zr (zs h 89 v4 (if ((zf h 82 7) = 0) then (0 : Int32) else (zm_rm v2 (zf h 82 7)))) 89 v4) &&& 31)) &&& 1) = 0) then (0, (if ((zf h 82 7) = 0) then (0 : Int32) else (v2 / (zf h 82 7))), (v3 ||| (1 <<< ((zr (zs h 89 v4 (if ((zf h 82 7) = 0) then (0 : Int32) else (zm_rm v2 (zf h 82 7)))) 89 v4) &&& 31))), (v4 + (-1)), (zs h 89 v4 (if ((zf h 82 7) = 0) then (0 : Int32) else (zm_rm v2 (zf h 82 7))))) else (1, (if ((zf h 82 7) = 0) then (0 : Int32) else (v2 / (zf h 82 7))), v3, v4, (zs h 89 v4 (if ((zf h 82 7) = 0) then (0 : Int32) else (zm_rm v2 (zf h 82 7)))))))
def f_Ground_setTrial_l12_b_ok (v2 : Int32) (v3 : Int32) (v4 : Int32) (h : zm_H) : Prop := (((v4 < 0) → True) ∧ (¬ (v4 < 0) → (((((zf h 82 7) = 0) → True) ∧ (¬ ((zf h 82 7) = 0) → ¬ (zf h 82 7) = 0)) ∧ (vp_in v4 3 ∧ (((((zf h 82 7) = 0) → True) ∧ (¬ ((zf h 82 7) = 0) → ¬ (zf h 82 7) = 0)) ∧ (vp_in v4 3 ∧ (((((v3 >>> ((zr (zs h 89 v4 (if ((zf h 82 7) = 0) then (0 : Int32) else (zm_rm v2 (zf h 82 7)))) 89 v4) &&& 31)) &&& 1) = 0) → vp_in v4 3) ∧ (¬ (((v3 >>> ((zr (zs h 89 v4 (if ((zf h 82 7) = 0) then (0 : Int32) else (zm_rm v2 (zf h 82 7)))) 89 v4) &&& 31)) &&& 1) = 0) → True))))))))
set_option maxRecDepth 100000 in
set_option maxHeartbeats 400000 in
theorem f_Ground_setTrial_l12_b_t {x : zm_X} {d : Nat} (v2 : Int32) (v3 : Int32) (v4 : Int32) (h : zm_H) (z1 : Int32) {Q : Option Value → zm_H → Prop} {FN : Nat × Int32 × Int32 × Int32 × zm_H → Prop} (hs : zSh zT0 h) (ho : f_Ground_setTrial_l12_b_ok v2 v3 v4 h) (hF : FN (f_Ground_setTrial_l12_b v2 v3 v4 h)) (hl0 : ∀ (v2 : Int32) (v3 : Int32) (v4 : Int32) (h : zm_H) (z1 : Int32), zSh zT0 h → FN (0, v2, v3, v4, h) → zg x (d + 1) 39 12 [some (.ref 82), some (.int z1), some (.int v2), some (.int v3), some (.int v4)] [] h Q) (hl1 : ∀ (v2 : Int32) (v3 : Int32) (v4 : Int32) (h : zm_H) (z1 : Int32) (o2 : Option Value) (o3 : Option Value) (o4 : Option Value), zSh zT0 h → FN (1, v2, v3, v4, h) → zg x (d + 1) 39 73 [some (.ref 82), some (.int z1), o2, o3, o4] [] h Q) (hl2 : ∀ (v2 : Int32) (v3 : Int32) (v4 : Int32) (h : zm_H) (z1 : Int32) (o2 : Option Value) (o3 : Option Value) (o4 : Option Value), zSh zT0 h → FN (2, v2, v3, v4, h) → zg x (d + 1) 39 93 [some (.ref 82), some (.int z1), o2, o3, o4] [] h Q) : zg x (d + 1) 39 12 [some (.ref 82), some (.int z1), some (.int v2), some (.int v3), some (.int v4)] [] h Q := by
  unfold f_Ground_setTrial_l12_b at hF
  unfold f_Ground_setTrial_l12_b_ok at ho
  refine zg_blk zd_39 1 hs (rfl : zb x zT0 zc_39 1 (12, [some (.ref 82), some (.int z1), some (.int v2), some (.int v3), some (.int v4)], [], h) = some (14, [some (.ref 82), some (.int z1), some (.int v2), some (.int v3), some (.int v4)], [.int v4], h)) (fun hs => ?_)
  refine zg_f_lt zd_39 rfl (fun (hc : (v4 < 0)) => ?_) (fun (hc : ¬ (v4 < 0)) => ?_)
  · have ho := ho.1 hc
    rw [if_pos hc] at hF
    exact hl2 v2 v3 v4 h z1 (some (.int v2)) (some (.int v3)) (some (.int v4)) hs hF
  · have ho := ho.2 hc
    rw [if_neg hc] at hF
    refine zg_blk zd_39 5 hs (rfl : zb x zT0 zc_39 5 (17, [some (.ref 82), some (.int z1), some (.int v2), some (.int v3), some (.int v4)], [], h) = some (27, [some (.ref 82), some (.int z1), some (.int v2), some (.int v3), some (.int v4)], [.int (zf h 82 7), .int v4, .ref 89], h)) (fun hs => ?_)
    obtain ⟨hom, ho⟩ := ho
    have K171 : zSh zT0 h → zg x (d + 1) 39 40 [some (.ref 82), some (.int z1), some (.int v2), some (.int v3), some (.int v4)] [.int (if ((zf h 82 7) = 0) then (0 : Int32) else (zm_rm v2 (zf h 82 7))), .int v4, .ref 89] h Q := fun hs => by
      obtain ⟨hob, ho⟩ := ho
      refine zg_ias hs zd_39 rfl rfl hob (fun hs => ?_)
      refine zg_blk zd_39 2 hs (rfl : zb x zT0 zc_39 2 (41, [some (.ref 82), some (.int z1), some (.int v2), some (.int v3), some (.int v4)], [], (zs h 89 v4 (if ((zf h 82 7) = 0) then (0 : Int32) else (zm_rm v2 (zf h 82 7))))) = some (45, [some (.ref 82), some (.int z1), some (.int v2), some (.int v3), some (.int v4)], [.int (zf h 82 7)], (zs h 89 v4 (if ((zf h 82 7) = 0) then (0 : Int32) else (zm_rm v2 (zf h 82 7)))))) (fun hs => ?_)
      obtain ⟨hom, ho⟩ := ho
      have K172 : zSh zT0 (zs h 89 v4 (if ((zf h 82 7) = 0) then (0 : Int32) else (zm_rm v2 (zf h 82 7)))) → zg x (d + 1) 39 58 [some (.ref 82), some (.int z1), some (.int v2), some (.int v3), some (.int v4)] [.int (if ((zf h 82 7) = 0) then (0 : Int32) else (v2 / (zf h 82 7)))] (zs h 89 v4 (if ((zf h 82 7) = 0) then (0 : Int32) else (zm_rm v2 (zf h 82 7)))) Q := fun hs => by
        refine zg_blk zd_39 5 hs (rfl : zb x zT0 zc_39 5 (58, [some (.ref 82), some (.int z1), some (.int v2), some (.int v3), some (.int v4)], [.int (if ((zf h 82 7) = 0) then (0 : Int32) else (v2 / (zf h 82 7)))], (zs h 89 v4 (if ((zf h 82 7) = 0) then (0 : Int32) else (zm_rm v2 (zf h 82 7))))) = some (66, [some (.ref 82), some (.int z1), some (.int (if ((zf h 82 7) = 0) then (0 : Int32) else (v2 / (zf h 82 7)))), some (.int v3), some (.int v4)], [.int v4, .ref 89, .int v3], (zs h 89 v4 (if ((zf h 82 7) = 0) then (0 : Int32) else (zm_rm v2 (zf h 82 7)))))) (fun hs => ?_)
        obtain ⟨hob, ho⟩ := ho
        refine zg_ial hs zd_39 rfl rfl hob ?_
        refine zg_blk zd_39 3 hs (rfl : zb x zT0 zc_39 3 (67, [some (.ref 82), some (.int z1), some (.int (if ((zf h 82 7) = 0) then (0 : Int32) else (v2 / (zf h 82 7)))), some (.int v3), some (.int v4)], [.int (zr (zs h 89 v4 (if ((zf h 82 7) = 0) then (0 : Int32) else (zm_rm v2 (zf h 82 7)))) 89 v4), .int v3], (zs h 89 v4 (if ((zf h 82 7) = 0) then (0 : Int32) else (zm_rm v2 (zf h 82 7))))) = some (70, [some (.ref 82), some (.int z1), some (.int (if ((zf h 82 7) = 0) then (0 : Int32) else (v2 / (zf h 82 7)))), some (.int v3), some (.int v4)], [.int ((v3 >>> ((zr (zs h 89 v4 (if ((zf h 82 7) = 0) then (0 : Int32) else (zm_rm v2 (zf h 82 7)))) 89 v4) &&& 31)) &&& 1)], (zs h 89 v4 (if ((zf h 82 7) = 0) then (0 : Int32) else (zm_rm v2 (zf h 82 7)))))) (fun hs => ?_)
        refine zg_f_eq zd_39 rfl (fun (hc : (((v3 >>> ((zr (zs h 89 v4 (if ((zf h 82 7) = 0) then (0 : Int32) else (zm_rm v2 (zf h 82 7)))) 89 v4) &&& 31)) &&& 1) = 0)) => ?_) (fun (hc : ¬ (((v3 >>> ((zr (zs h 89 v4 (if ((zf h 82 7) = 0) then (0 : Int32) else (zm_rm v2 (zf h 82 7)))) 89 v4) &&& 31)) &&& 1) = 0)) => ?_)
        · have ho := ho.1 hc
          rw [if_pos hc] at hF
          refine zg_blk zd_39 5 hs (rfl : zb x zT0 zc_39 5 (75, [some (.ref 82), some (.int z1), some (.int (if ((zf h 82 7) = 0) then (0 : Int32) else (v2 / (zf h 82 7)))), some (.int v3), some (.int v4)], [], (zs h 89 v4 (if ((zf h 82 7) = 0) then (0 : Int32) else (zm_rm v2 (zf h 82 7))))) = some (83, [some (.ref 82), some (.int z1), some (.int (if ((zf h 82 7) = 0) then (0 : Int32) else (v2 / (zf h 82 7)))), some (.int v3), some (.int v4)], [.int v4, .ref 89, .int 1, .int v3], (zs h 89 v4 (if ((zf h 82 7) = 0) then (0 : Int32) else (zm_rm v2 (zf h 82 7)))))) (fun hs => ?_)
          have hob := ho
          refine zg_ial hs zd_39 rfl rfl hob ?_
          refine zg_blk zd_39 5 hs (rfl : zb x zT0 zc_39 5 (84, [some (.ref 82), some (.int z1), some (.int (if ((zf h 82 7) = 0) then (0 : Int32) else (v2 / (zf h 82 7)))), some (.int v3), some (.int v4)], [.int (zr (zs h 89 v4 (if ((zf h 82 7) = 0) then (0 : Int32) else (zm_rm v2 (zf h 82 7)))) 89 v4), .int 1, .int v3], (zs h 89 v4 (if ((zf h 82 7) = 0) then (0 : Int32) else (zm_rm v2 (zf h 82 7))))) = some (12, [some (.ref 82), some (.int z1), some (.int (if ((zf h 82 7) = 0) then (0 : Int32) else (v2 / (zf h 82 7)))), some (.int (v3 ||| (1 <<< ((zr (zs h 89 v4 (if ((zf h 82 7) = 0) then (0 : Int32) else (zm_rm v2 (zf h 82 7)))) 89 v4) &&& 31)))), some (.int (v4 + (-1)))], [], (zs h 89 v4 (if ((zf h 82 7) = 0) then (0 : Int32) else (zm_rm v2 (zf h 82 7)))))) (fun hs => ?_)
          exact hl0 (if ((zf h 82 7) = 0) then (0 : Int32) else (v2 / (zf h 82 7))) (v3 ||| (1 <<< ((zr (zs h 89 v4 (if ((zf h 82 7) = 0) then (0 : Int32) else (zm_rm v2 (zf h 82 7)))) 89 v4) &&& 31))) (v4 + (-1)) (zs h 89 v4 (if ((zf h 82 7) = 0) then (0 : Int32) else (zm_rm v2 (zf h 82 7)))) z1 hs hF
        · have ho := ho.2 hc
          rw [if_neg hc] at hF
          exact hl1 (if ((zf h 82 7) = 0) then (0 : Int32) else (v2 / (zf h 82 7))) v3 v4 (zs h 89 v4 (if ((zf h 82 7) = 0) then (0 : Int32) else (zm_rm v2 (zf h 82 7)))) z1 (some (.int (if ((zf h 82 7) = 0) then (0 : Int32) else (v2 / (zf h 82 7))))) (some (.int v3)) (some (.int v4)) hs hF
      refine zg_f_ne zd_39 rfl (fun (hc : ¬ ((zf h 82 7) = 0)) => ?_) (fun (hc : ((zf h 82 7) = 0)) => ?_)
      · have ho := hom.2 hc
        rw [show ((if ((zf h 82 7) = 0) then (0 : Int32) else (v2 / (zf h 82 7))) : Int32) = (v2 / (zf h 82 7)) from if_neg hc] at K172
        refine zg_blk zd_39 3 hs (rfl : zb x zT0 zc_39 3 (52, [some (.ref 82), some (.int z1), some (.int v2), some (.int v3), some (.int v4)], [], (zs h 89 v4 (if ((zf h 82 7) = 0) then (0 : Int32) else (zm_rm v2 (zf h 82 7))))) = some (57, [some (.ref 82), some (.int z1), some (.int v2), some (.int v3), some (.int v4)], [.int (zf h 82 7), .int v2], (zs h 89 v4 (if ((zf h 82 7) = 0) then (0 : Int32) else (zm_rm v2 (zf h 82 7)))))) (fun hs => ?_)
        have hob := ho
        refine zg_div zd_39 rfl hob ?_
        exact K172 hs
      · have ho := hom.1 hc
        rw [show ((if ((zf h 82 7) = 0) then (0 : Int32) else (v2 / (zf h 82 7))) : Int32) = 0 from if_pos hc] at K172
        refine zg_blk zd_39 2 hs (rfl : zb x zT0 zc_39 2 (48, [some (.ref 82), some (.int z1), some (.int v2), some (.int v3), some (.int v4)], [], (zs h 89 v4 (if ((zf h 82 7) = 0) then (0 : Int32) else (zm_rm v2 (zf h 82 7))))) = some (58, [some (.ref 82), some (.int z1), some (.int v2), some (.int v3), some (.int v4)], [.int 0], (zs h 89 v4 (if ((zf h 82 7) = 0) then (0 : Int32) else (zm_rm v2 (zf h 82 7)))))) (fun hs => ?_)
        exact K172 hs
    refine zg_f_ne zd_39 rfl (fun (hc : ¬ ((zf h 82 7) = 0)) => ?_) (fun (hc : ((zf h 82 7) = 0)) => ?_)
    · have ho := hom.2 hc
      rw [show ((if ((zf h 82 7) = 0) then (0 : Int32) else (zm_rm v2 (zf h 82 7))) : Int32) = (zm_rm v2 (zf h 82 7)) from if_neg hc] at K171
      refine zg_blk zd_39 3 hs (rfl : zb x zT0 zc_39 3 (34, [some (.ref 82), some (.int z1), some (.int v2), some (.int v3), some (.int v4)], [.int v4, .ref 89], h) = some (39, [some (.ref 82), some (.int z1), some (.int v2), some (.int v3), some (.int v4)], [.int (zf h 82 7), .int v2, .int v4, .ref 89], h)) (fun hs => ?_)
      have hob := ho
      refine zg_rem zd_39 rfl hob ?_
      exact K171 hs
    · have ho := hom.1 hc
      rw [show ((if ((zf h 82 7) = 0) then (0 : Int32) else (zm_rm v2 (zf h 82 7))) : Int32) = 0 from if_pos hc] at K171
      refine zg_blk zd_39 2 hs (rfl : zb x zT0 zc_39 2 (30, [some (.ref 82), some (.int z1), some (.int v2), some (.int v3), some (.int v4)], [.int v4, .ref 89], h) = some (40, [some (.ref 82), some (.int z1), some (.int v2), some (.int v3), some (.int v4)], [.int 0, .int v4, .ref 89], h)) (fun hs => ?_)
      exact K171 hs
theorem f_Ground_setTrial_l12_b_w (v2 : Int32) (v3 : Int32) (v4 : Int32) (h : zm_H) : zWr [89] h ((f_Ground_setTrial_l12_b v2 v3 v4 h).2.2.2.2) := (zWr_ite (fun z : Nat × Int32 × Int32 × Int32 × zm_H => z.2.2.2.2) (zWr.refl _ _) (zWr_ite (fun z : Nat × Int32 × Int32 × Int32 × zm_H => z.2.2.2.2) (zWr_si (by decide) (zWr.refl _ _)) (zWr_si (by decide) (zWr.refl _ _))))
def f_Ground_setTrial_l12 (n : Nat) (t : Int32 × Int32 × Int32 × zm_H) : Nat × Int32 × Int32 × Int32 × zm_H := zwh (fun t => f_Ground_setTrial_l12_b t.1 t.2.1 t.2.2.1 t.2.2.2) n t
def f_Ground_setTrial_l12_ok (n : Nat) (t : Int32 × Int32 × Int32 × zm_H) : Prop := zwo (fun t => f_Ground_setTrial_l12_b t.1 t.2.1 t.2.2.1 t.2.2.2) (fun t => f_Ground_setTrial_l12_b_ok t.1 t.2.1 t.2.2.1 t.2.2.2) n t
theorem f_Ground_setTrial_l12_t {x : zm_X} {d : Nat} {Q : Option Value → zm_H → Prop} (G : Nat × Int32 × Int32 × Int32 × zm_H → Prop) (hx1 : ∀ (v2 : Int32) (v3 : Int32) (v4 : Int32) (h : zm_H) (z1 : Int32) (o2 : Option Value) (o3 : Option Value) (o4 : Option Value), zSh zT0 h → G (1, v2, v3, v4, h) → zg x (d + 1) 39 73 [some (.ref 82), some (.int z1), o2, o3, o4] [] h Q) (hx2 : ∀ (v2 : Int32) (v3 : Int32) (v4 : Int32) (h : zm_H) (z1 : Int32) (o2 : Option Value) (o3 : Option Value) (o4 : Option Value), zSh zT0 h → G (2, v2, v3, v4, h) → zg x (d + 1) 39 93 [some (.ref 82), some (.int z1), o2, o3, o4] [] h Q) : ∀ (n : Nat) (v2 : Int32) (v3 : Int32) (v4 : Int32) (h : zm_H) (z1 : Int32), zSh zT0 h → f_Ground_setTrial_l12_ok n (v2, v3, v4, h) → G (f_Ground_setTrial_l12 n (v2, v3, v4, h)) → zg x (d + 1) 39 12 [some (.ref 82), some (.int z1), some (.int v2), some (.int v3), some (.int v4)] [] h Q := by
  intro n
  induction n with
  | zero => intro v2 v3 v4 h z1 hs ho hG; exact ho.elim
  | succ n ih =>
    intro v2 v3 v4 h z1 hs ho hG
    refine f_Ground_setTrial_l12_b_t (FN := fun r => (r.1 = 0 → f_Ground_setTrial_l12_ok n r.2) ∧ G (if r.1 = 0 then f_Ground_setTrial_l12 n r.2 else r)) v2 v3 v4 h z1 hs ho.1 ⟨ho.2, hG⟩ ?_ ?_ ?_
    · intro v2 v3 v4 h z1 hs hF
      exact ih v2 v3 v4 h z1 hs (hF.1 rfl) hF.2
    · intro v2 v3 v4 h z1 o2 o3 o4 hs hF
      exact hx1 v2 v3 v4 h z1 o2 o3 o4 hs hF.2
    · intro v2 v3 v4 h z1 o2 o3 o4 hs hF
      exact hx2 v2 v3 v4 h z1 o2 o3 o4 hs hF.2

theorem f_Ground_setTrial_l12_w (n : Nat) (t : Int32 × Int32 × Int32 × zm_H) : zWr [89] (t.2.2.2) ((f_Ground_setTrial_l12 n t).2.2.2.2) := zWr_zwh (fun t : Int32 × Int32 × Int32 × zm_H => t.2.2.2) (fun t => f_Ground_setTrial_l12_b_w t.1 t.2.1 t.2.2.1 t.2.2.2)
def f_Ground_setTrial_k73 (h : zm_H) : Int32 × zm_H := (0, h)
def f_Ground_setTrial_k73_ok (h : zm_H) : Prop := True
set_option maxRecDepth 100000 in
set_option maxHeartbeats 400000 in
theorem f_Ground_setTrial_k73_t {x : zm_X} {d : Nat} (h : zm_H) (o0 : Option Value) (z1 : Int32) (o2 : Option Value) (o3 : Option Value) (o4 : Option Value) {Q : Option Value → zm_H → Prop} (hs : zSh zT0 h) (ho : f_Ground_setTrial_k73_ok h) (hF : (zSh zT0 (f_Ground_setTrial_k73 h).2 → Q (some (.int (f_Ground_setTrial_k73 h).1)) (f_Ground_setTrial_k73 h).2)) : zg x (d + 1) 39 73 [o0, some (.int z1), o2, o3, o4] [] h Q := by
  unfold f_Ground_setTrial_k73 at hF
  unfold f_Ground_setTrial_k73_ok at ho
  refine zg_blk zd_39 1 hs (rfl : zb x zT0 zc_39 1 (73, [o0, some (.int z1), o2, o3, o4], [], h) = some (74, [o0, some (.int z1), o2, o3, o4], [.int 0], h)) (fun hs => ?_)
  exact zg_rtz zd_39 rfl rfl rfl (hF hs)
theorem f_Ground_setTrial_k73_w (h : zm_H) : zWr [] h ((f_Ground_setTrial_k73 h).2) := (zWr.refl _ _)
def f_Ground_setTrial_k93 (h : zm_H) : Int32 × zm_H := (1, h)
def f_Ground_setTrial_k93_ok (h : zm_H) : Prop := True
set_option maxRecDepth 100000 in
set_option maxHeartbeats 400000 in
theorem f_Ground_setTrial_k93_t {x : zm_X} {d : Nat} (h : zm_H) (o0 : Option Value) (z1 : Int32) (o2 : Option Value) (o3 : Option Value) (o4 : Option Value) {Q : Option Value → zm_H → Prop} (hs : zSh zT0 h) (ho : f_Ground_setTrial_k93_ok h) (hF : (zSh zT0 (f_Ground_setTrial_k93 h).2 → Q (some (.int (f_Ground_setTrial_k93 h).1)) (f_Ground_setTrial_k93 h).2)) : zg x (d + 1) 39 93 [o0, some (.int z1), o2, o3, o4] [] h Q := by
  unfold f_Ground_setTrial_k93 at hF
  unfold f_Ground_setTrial_k93_ok at ho
  refine zg_blk zd_39 1 hs (rfl : zb x zT0 zc_39 1 (93, [o0, some (.int z1), o2, o3, o4], [], h) = some (94, [o0, some (.int z1), o2, o3, o4], [.int 1], h)) (fun hs => ?_)
  exact zg_rtz zd_39 rfl rfl rfl (hF hs)
theorem f_Ground_setTrial_k93_w (h : zm_H) : zWr [] h ((f_Ground_setTrial_k93 h).2) := (zWr.refl _ _)
def f_Ground_setTrial_a12 (r : Nat × Int32 × Int32 × Int32 × zm_H) : Int32 × zm_H := (if r.1 = 1 then (f_Ground_setTrial_k73 (r.2.2.2.2)) else (f_Ground_setTrial_k93 (r.2.2.2.2)))
def f_Ground_setTrial_a12_ok (r : Nat × Int32 × Int32 × Int32 × zm_H) : Prop := ((r.1 = 1 → True) ∧ (¬ r.1 = 1 → True))
theorem f_Ground_setTrial_a12_w (r : Nat × Int32 × Int32 × Int32 × zm_H) : zWr [] (r.2.2.2.2) ((f_Ground_setTrial_a12 r).2) := (zWr_ite (fun z : Int32 × zm_H => z.2) (zWr_tr (f_Ground_setTrial_k73_w (r.2.2.2.2)) (by decide) (zWr.refl _ _)) (zWr_tr (f_Ground_setTrial_k93_w (r.2.2.2.2)) (by decide) (zWr.refl _ _)))
def f_Ground_setTrial (p1 : Int32) (h : zm_H) : Int32 × zm_H := (f_Ground_setTrial_a12 (f_Ground_setTrial_l12 zF (p1, 0, ((zf h 82 9) - 1), h)))
def f_Ground_setTrial_ok (p1 : Int32) (h : zm_H) : Prop := (f_Ground_setTrial_l12_ok zF (p1, 0, ((zf h 82 9) - 1), h) ∧ f_Ground_setTrial_a12_ok (f_Ground_setTrial_l12 zF (p1, 0, ((zf h 82 9) - 1), h)))
set_option maxRecDepth 100000 in
set_option maxHeartbeats 400000 in
theorem f_Ground_setTrial_t {x : zm_X} {d : Nat} (p1 : Int32) (h : zm_H) {Q : Option Value → zm_H → Prop} (hs : zSh zT0 h) (ho : f_Ground_setTrial_ok p1 h) (hF : (zSh zT0 (f_Ground_setTrial p1 h).2 → Q (some (.int (f_Ground_setTrial p1 h).1)) (f_Ground_setTrial p1 h).2)) : zg x (d + 1) 39 0 [some (.ref 82), some (.int p1), none, none, none] [] h Q := by
  unfold f_Ground_setTrial at hF
  unfold f_Ground_setTrial_ok at ho
  refine zg_blk zd_39 9 hs (rfl : zb x zT0 zc_39 9 (0, [some (.ref 82), some (.int p1), none, none, none], [], h) = some (12, [some (.ref 82), some (.int p1), some (.int p1), some (.int 0), some (.int ((zf h 82 9) - 1))], [], h)) (fun hs => ?_)
  refine f_Ground_setTrial_l12_t  (fun r => f_Ground_setTrial_a12_ok r ∧ (zSh zT0 (f_Ground_setTrial_a12 r).2 → Q (some (.int (f_Ground_setTrial_a12 r).1)) (f_Ground_setTrial_a12 r).2)) ?_ ?_ zF p1 0 ((zf h 82 9) - 1) h p1 hs ho.1 ⟨ho.2, hF⟩
  · intro v2_ v3_ v4_ h_ z1_ o2_ o3_ o4_ hs hG
    have ho : True := trivial
    have hF : (zSh zT0 ((f_Ground_setTrial_k73 h_)).2 → Q (some (.int ((f_Ground_setTrial_k73 h_)).1)) ((f_Ground_setTrial_k73 h_)).2) := hG.2
    exact f_Ground_setTrial_k73_t h_ (some (.ref 82)) z1_ (o2_) (o3_) (o4_) hs trivial hF
  · intro v2_ v3_ v4_ h_ z1_ o2_ o3_ o4_ hs hG
    have ho : True := trivial
    have hF : (zSh zT0 ((f_Ground_setTrial_k93 h_)).2 → Q (some (.int ((f_Ground_setTrial_k93 h_)).1)) ((f_Ground_setTrial_k93 h_)).2) := hG.2
    exact f_Ground_setTrial_k93_t h_ (some (.ref 82)) z1_ (o2_) (o3_) (o4_) hs trivial hF
theorem f_Ground_setTrial_w (p1 : Int32) (h : zm_H) : zWr [89] h ((f_Ground_setTrial p1 h).2) := (zWr_tr (f_Ground_setTrial_a12_w (f_Ground_setTrial_l12 zF (p1, 0, ((zf h 82 9) - 1), h))) (by decide) (zWr_tr (f_Ground_setTrial_l12_w zF (p1, 0, ((zf h 82 9) - 1), h)) (by decide) (zWr.refl _ _)))
def f_Ground_search_l35_k121 (v1 : Int32) (v2 : Int32) (v3 : Int32) (v4 : Int32) (h : zm_H) : Nat × Int32 × zm_H := (0, (v4 + 1), h)
def f_Ground_search_l35_k121_ok (v1 : Int32) (v2 : Int32) (v3 : Int32) (v4 : Int32) (h : zm_H) : Prop := True
set_option maxRecDepth 100000 in
set_option maxHeartbeats 400000 in
theorem f_Ground_search_l35_k121_t {x : zm_X} {d : Nat} (v1 : Int32) (v2 : Int32) (v3 : Int32) (v4 : Int32) (h : zm_H) (o5 : Option Value) (o6 : Option Value) {Q : Option Value → zm_H → Prop} {FN : Nat × Int32 × zm_H → Prop} (hs : zSh zT0 h) (ho : f_Ground_search_l35_k121_ok v1 v2 v3 v4 h) (hF : FN (f_Ground_search_l35_k121 v1 v2 v3 v4 h)) (hl0 : ∀ (v4 : Int32) (h : zm_H) (o5 : Option Value) (o6 : Option Value), zSh zT0 h → FN (0, v4, h) → zg x (d + 5) 38 35 [some (.ref 82), some (.int v1), some (.int v2), some (.int v3), some (.int v4), o5, o6] [] h Q) (hl1 : ∀ (v4 : Int32) (h : zm_H) (o4 : Option Value) (o5 : Option Value) (o6 : Option Value), zSh zT0 h → FN (1, v4, h) → zg x (d + 5) 38 127 [some (.ref 82), some (.int v1), some (.int v2), some (.int v3), o4, o5, o6] [] h Q) : zg x (d + 5) 38 121 [some (.ref 82), some (.int v1), some (.int v2), some (.int v3), some (.int v4), o5, o6] [] h Q := by
  unfold f_Ground_search_l35_k121 at hF
  unfold f_Ground_search_l35_k121_ok at ho
  refine zg_blk zd_38 2 hs (rfl : zb x zT0 zc_38 2 (121, [some (.ref 82), some (.int v1), some (.int v2), some (.int v3), some (.int v4), o5, o6], [], h) = some (35, [some (.ref 82), some (.int v1), some (.int v2), some (.int v3), some (.int (v4 + 1)), o5, o6], [], h)) (fun hs => ?_)
  exact hl0 (v4 + 1) h (o5) (o6) hs hF
theorem f_Ground_search_l35_k121_w (v1 : Int32) (v2 : Int32) (v3 : Int32) (v4 : Int32) (h : zm_H) : zWr [] h ((f_Ground_search_l35_k121 v1 v2 v3 v4 h).2.2) := (zWr.refl _ _)
def f_Ground_search_l35_l87_b (v1 : Int32) (v2 : Int32) (v3 : Int32) (v4 : Int32) (v5 : Int32) (v6 : Int32) (h : zm_H) : Nat × Int32 × zm_H := (if ((zf h 82 9) ≤ v6) then (1, v6, h) else (0, (v6 + 1), (zs h 90 v6 (zr h 86 (zr h 89 v6)))))
def f_Ground_search_l35_l87_b_ok (v1 : Int32) (v2 : Int32) (v3 : Int32) (v4 : Int32) (v5 : Int32) (v6 : Int32) (h : zm_H) : Prop := ((((zf h 82 9) ≤ v6) → True) ∧ (¬ ((zf h 82 9) ≤ v6) → (vp_in v6 3 ∧ (vp_in (zr h 89 v6) 8 ∧ vp_in v6 3))))
set_option maxRecDepth 100000 in
set_option maxHeartbeats 400000 in
theorem f_Ground_search_l35_l87_b_t {x : zm_X} {d : Nat} (v1 : Int32) (v2 : Int32) (v3 : Int32) (v4 : Int32) (v5 : Int32) (v6 : Int32) (h : zm_H) {Q : Option Value → zm_H → Prop} {FN : Nat × Int32 × zm_H → Prop} (hs : zSh zT0 h) (ho : f_Ground_search_l35_l87_b_ok v1 v2 v3 v4 v5 v6 h) (hF : FN (f_Ground_search_l35_l87_b v1 v2 v3 v4 v5 v6 h)) (hl0 : ∀ (v6 : Int32) (h : zm_H), zSh zT0 h → FN (0, v6, h) → zg x (d + 5) 38 87 [some (.ref 82), some (.int v1), some (.int v2), some (.int v3), some (.int v4), some (.int v5), some (.int v6)] [] h Q) (hl1 : ∀ (v6 : Int32) (h : zm_H) (o6 : Option Value), zSh zT0 h → FN (1, v6, h) → zg x (d + 5) 38 121 [some (.ref 82), some (.int v1), some (.int v2), some (.int v3), some (.int v4), some (.int v5), o6] [] h Q) : zg x (d + 5) 38 87 [some (.ref 82), some (.int v1), some (.int v2), some (.int v3), some (.int v4), some (.int v5), some (.int v6)] [] h Q := by
  unfold f_Ground_search_l35_l87_b at hF
  unfold f_Ground_search_l35_l87_b_ok at ho
  refine zg_blk zd_38 3 hs (rfl : zb x zT0 zc_38 3 (87, [some (.ref 82), some (.int v1), some (.int v2), some (.int v3), some (.int v4), some (.int v5), some (.int v6)], [], h) = some (93, [some (.ref 82), some (.int v1), some (.int v2), some (.int v3), some (.int v4), some (.int v5), some (.int v6)], [.int (zf h 82 9), .int v6], h)) (fun hs => ?_)
  refine zg_i_ge zd_38 rfl (fun (hc : ((zf h 82 9) ≤ v6)) => ?_) (fun (hc : ¬ ((zf h 82 9) ≤ v6)) => ?_)
  · have ho := ho.1 hc
    rw [if_pos hc] at hF
    exact hl1 v6 h (some (.int v6)) hs hF
  · have ho := ho.2 hc
    rw [if_neg hc] at hF
    refine zg_blk zd_38 8 hs (rfl : zb x zT0 zc_38 8 (96, [some (.ref 82), some (.int v1), some (.int v2), some (.int v3), some (.int v4), some (.int v5), some (.int v6)], [], h) = some (112, [some (.ref 82), some (.int v1), some (.int v2), some (.int v3), some (.int v4), some (.int v5), some (.int v6)], [.int v6, .ref 89, .ref 86, .int v6, .ref 90], h)) (fun hs => ?_)
    obtain ⟨hob, ho⟩ := ho
    refine zg_ial hs zd_38 rfl rfl hob ?_
    obtain ⟨hob, ho⟩ := ho
    refine zg_ial hs zd_38 rfl rfl hob ?_
    have hob := ho
    refine zg_ias hs zd_38 rfl rfl hob (fun hs => ?_)
    refine zg_blk zd_38 2 hs (rfl : zb x zT0 zc_38 2 (115, [some (.ref 82), some (.int v1), some (.int v2), some (.int v3), some (.int v4), some (.int v5), some (.int v6)], [], (zs h 90 v6 (zr h 86 (zr h 89 v6)))) = some (87, [some (.ref 82), some (.int v1), some (.int v2), some (.int v3), some (.int v4), some (.int v5), some (.int (v6 + 1))], [], (zs h 90 v6 (zr h 86 (zr h 89 v6))))) (fun hs => ?_)
    exact hl0 (v6 + 1) (zs h 90 v6 (zr h 86 (zr h 89 v6))) hs hF
theorem f_Ground_search_l35_l87_b_w (v1 : Int32) (v2 : Int32) (v3 : Int32) (v4 : Int32) (v5 : Int32) (v6 : Int32) (h : zm_H) : zWr [90] h ((f_Ground_search_l35_l87_b v1 v2 v3 v4 v5 v6 h).2.2) := (zWr_ite (fun z : Nat × Int32 × zm_H => z.2.2) (zWr.refl _ _) (zWr_si (by decide) (zWr.refl _ _)))
def f_Ground_search_l35_l87 (v1 : Int32) (v2 : Int32) (v3 : Int32) (v4 : Int32) (v5 : Int32) (n : Nat) (t : Int32 × zm_H) : Nat × Int32 × zm_H := zwh (fun t => f_Ground_search_l35_l87_b v1 v2 v3 v4 v5 t.1 t.2) n t
def f_Ground_search_l35_l87_ok (v1 : Int32) (v2 : Int32) (v3 : Int32) (v4 : Int32) (v5 : Int32) (n : Nat) (t : Int32 × zm_H) : Prop := zwo (fun t => f_Ground_search_l35_l87_b v1 v2 v3 v4 v5 t.1 t.2) (fun t => f_Ground_search_l35_l87_b_ok v1 v2 v3 v4 v5 t.1 t.2) n t
theorem f_Ground_search_l35_l87_t {x : zm_X} {d : Nat} (v1 : Int32) (v2 : Int32) (v3 : Int32) (v4 : Int32) (v5 : Int32) {Q : Option Value → zm_H → Prop} (G : Nat × Int32 × zm_H → Prop) (hx1 : ∀ (v6 : Int32) (h : zm_H) (o6 : Option Value), zSh zT0 h → G (1, v6, h) → zg x (d + 5) 38 121 [some (.ref 82), some (.int v1), some (.int v2), some (.int v3), some (.int v4), some (.int v5), o6] [] h Q) : ∀ (n : Nat) (v6 : Int32) (h : zm_H), zSh zT0 h → f_Ground_search_l35_l87_ok v1 v2 v3 v4 v5 n (v6, h) → G (f_Ground_search_l35_l87 v1 v2 v3 v4 v5 n (v6, h)) → zg x (d + 5) 38 87 [some (.ref 82), some (.int v1), some (.int v2), some (.int v3), some (.int v4), some (.int v5), some (.int v6)] [] h Q := by
  intro n
  induction n with
  | zero => intro v6 h hs ho hG; exact ho.elim
  | succ n ih =>
    intro v6 h hs ho hG
    refine f_Ground_search_l35_l87_b_t (FN := fun r => (r.1 = 0 → f_Ground_search_l35_l87_ok v1 v2 v3 v4 v5 n r.2) ∧ G (if r.1 = 0 then f_Ground_search_l35_l87 v1 v2 v3 v4 v5 n r.2 else r)) v1 v2 v3 v4 v5 v6 h hs ho.1 ⟨ho.2, hG⟩ ?_ ?_
    · intro v6 h hs hF
      exact ih v6 h hs (hF.1 rfl) hF.2
    · intro v6 h o6 hs hF
      exact hx1 v6 h o6 hs hF.2

theorem f_Ground_search_l35_l87_w (v1 : Int32) (v2 : Int32) (v3 : Int32) (v4 : Int32) (v5 : Int32) (n : Nat) (t : Int32 × zm_H) : zWr [90] (t.2) ((f_Ground_search_l35_l87 v1 v2 v3 v4 v5 n t).2.2) := zWr_zwh (fun t : Int32 × zm_H => t.2) (fun t => f_Ground_search_l35_l87_b_w v1 v2 v3 v4 v5 t.1 t.2)
def f_Ground_search_l35_a87 (v1 : Int32) (v2 : Int32) (v3 : Int32) (v4 : Int32) (r : Nat × Int32 × zm_H) : Nat × Int32 × zm_H := (f_Ground_search_l35_k121 v1 v2 v3 v4 (r.2.2))
def f_Ground_search_l35_a87_ok (v1 : Int32) (v2 : Int32) (v3 : Int32) (v4 : Int32) (r : Nat × Int32 × zm_H) : Prop := True
theorem f_Ground_search_l35_a87_w (v1 : Int32) (v2 : Int32) (v3 : Int32) (v4 : Int32) (r : Nat × Int32 × zm_H) : zWr [] (r.2.2) ((f_Ground_search_l35_a87 v1 v2 v3 v4 r).2.2) := (zWr_tr (f_Ground_search_l35_k121_w v1 v2 v3 v4 (r.2.2)) (by decide) (zWr.refl _ _))
def f_Ground_search_l35_k67 (v1 : Int32) (v2 : Int32) (v3 : Int32) (v4 : Int32) (w0 : Int32) (h : zm_H) : Nat × Int32 × zm_H := (if (w0 ≤ (zf h 82 14)) then (f_Ground_search_l35_k121 v1 v2 v3 v4 h) else (f_Ground_search_l35_a87 v1 v2 v3 v4 (f_Ground_search_l35_l87 v1 v2 v3 v4 w0 zF (0, (zp h 82 14 w0)))))
def f_Ground_search_l35_k67_ok (v1 : Int32) (v2 : Int32) (v3 : Int32) (v4 : Int32) (w0 : Int32) (h : zm_H) : Prop := (((w0 ≤ (zf h 82 14)) → True) ∧ (¬ (w0 ≤ (zf h 82 14)) → (f_Ground_search_l35_l87_ok v1 v2 v3 v4 w0 zF (0, (zp h 82 14 w0)) ∧ f_Ground_search_l35_a87_ok v1 v2 v3 v4 (f_Ground_search_l35_l87 v1 v2 v3 v4 w0 zF (0, (zp h 82 14 w0))))))
set_option maxRecDepth 100000 in
set_option maxHeartbeats 400000 in
theorem f_Ground_search_l35_k67_t {x : zm_X} {d : Nat} (v1 : Int32) (v2 : Int32) (v3 : Int32) (v4 : Int32) (w0 : Int32) (h : zm_H) (o5 : Option Value) (o6 : Option Value) {Q : Option Value → zm_H → Prop} {FN : Nat × Int32 × zm_H → Prop} (hs : zSh zT0 h) (ho : f_Ground_search_l35_k67_ok v1 v2 v3 v4 w0 h) (hF : FN (f_Ground_search_l35_k67 v1 v2 v3 v4 w0 h)) (hl0 : ∀ (v4 : Int32) (h : zm_H) (o5 : Option Value) (o6 : Option Value), zSh zT0 h → FN (0, v4, h) → zg x (d + 5) 38 35 [some (.ref 82), some (.int v1), some (.int v2), some (.int v3), some (.int v4), o5, o6] [] h Q) (hl1 : ∀ (v4 : Int32) (h : zm_H) (o4 : Option Value) (o5 : Option Value) (o6 : Option Value), zSh zT0 h → FN (1, v4, h) → zg x (d + 5) 38 127 [some (.ref 82), some (.int v1), some (.int v2), some (.int v3), o4, o5, o6] [] h Q) : zg x (d + 5) 38 67 [some (.ref 82), some (.int v1), some (.int v2), some (.int v3), some (.int v4), o5, o6] [.int w0] h Q := by
  unfold f_Ground_search_l35_k67 at hF
  unfold f_Ground_search_l35_k67_ok at ho
  refine zg_blk zd_38 4 hs (rfl : zb x zT0 zc_38 4 (67, [some (.ref 82), some (.int v1), some (.int v2), some (.int v3), some (.int v4), o5, o6], [.int w0], h) = some (75, [some (.ref 82), some (.int v1), some (.int v2), some (.int v3), some (.int v4), some (.int w0), o6], [.int (zf h 82 14), .int w0], h)) (fun hs => ?_)
  refine zg_i_le zd_38 rfl (fun (hc : (w0 ≤ (zf h 82 14))) => ?_) (fun (hc : ¬ (w0 ≤ (zf h 82 14))) => ?_)
  · have ho := ho.1 hc
    rw [if_pos hc] at hF
    exact f_Ground_search_l35_k121_t v1 v2 v3 v4 h (some (.int w0)) (o6) hs trivial hF hl0 hl1
  · have ho := ho.2 hc
    rw [if_neg hc] at hF
    refine zg_blk zd_38 5 hs (rfl : zb x zT0 zc_38 5 (78, [some (.ref 82), some (.int v1), some (.int v2), some (.int v3), some (.int v4), some (.int w0), o6], [], h) = some (87, [some (.ref 82), some (.int v1), some (.int v2), some (.int v3), some (.int v4), some (.int w0), some (.int 0)], [], (zp h 82 14 w0))) (fun hs => ?_)
    refine f_Ground_search_l35_l87_t v1 v2 v3 v4 w0 (fun r => f_Ground_search_l35_a87_ok v1 v2 v3 v4 r ∧ FN (f_Ground_search_l35_a87 v1 v2 v3 v4 r)) ?_ zF 0 (zp h 82 14 w0) hs ho.1 ⟨ho.2, hF⟩
    · intro v6_ h_ o6_ hs hG
      have ho : True := trivial
      have hF : FN ((f_Ground_search_l35_k121 v1 v2 v3 v4 h_)) := hG.2
      exact f_Ground_search_l35_k121_t v1 v2 v3 v4 h_ (some (.int w0)) (o6_) hs trivial hF hl0 hl1
theorem f_Ground_search_l35_k67_w (v1 : Int32) (v2 : Int32) (v3 : Int32) (v4 : Int32) (w0 : Int32) (h : zm_H) : zWr [82, 90] h ((f_Ground_search_l35_k67 v1 v2 v3 v4 w0 h).2.2) := (zWr_ite (fun z : Nat × Int32 × zm_H => z.2.2) (zWr_tr (f_Ground_search_l35_k121_w v1 v2 v3 v4 h) (by decide) (zWr.refl _ _)) (zWr_tr (f_Ground_search_l35_a87_w v1 v2 v3 v4 (f_Ground_search_l35_l87 v1 v2 v3 v4 w0 zF (0, (zp h 82 14 w0)))) (by decide) (zWr_tr (f_Ground_search_l35_l87_w v1 v2 v3 v4 w0 zF (0, (zp h 82 14 w0))) (by decide) (zWr_si (by decide) (zWr.refl _ _)))))
def f_Ground_search_l35_k66 (v1 : Int32) (v2 : Int32) (v3 : Int32) (v4 : Int32) (h : zm_H) : Nat × Int32 × zm_H := (f_Ground_search_l35_k67 v1 v2 v3 v4 (-1) h)
def f_Ground_search_l35_k66_ok (v1 : Int32) (v2 : Int32) (v3 : Int32) (v4 : Int32) (h : zm_H) : Prop := (f_Ground_search_l35_k67_ok v1 v2 v3 v4 (-1) h)
set_option maxRecDepth 100000 in
set_option maxHeartbeats 400000 in
theorem f_Ground_search_l35_k66_t {x : zm_X} {d : Nat} (v1 : Int32) (v2 : Int32) (v3 : Int32) (v4 : Int32) (h : zm_H) (o5 : Option Value) (o6 : Option Value) {Q : Option Value → zm_H → Prop} {FN : Nat × Int32 × zm_H → Prop} (hs : zSh zT0 h) (ho : f_Ground_search_l35_k66_ok v1 v2 v3 v4 h) (hF : FN (f_Ground_search_l35_k66 v1 v2 v3 v4 h)) (hl0 : ∀ (v4 : Int32) (h : zm_H) (o5 : Option Value) (o6 : Option Value), zSh zT0 h → FN (0, v4, h) → zg x (d + 5) 38 35 [some (.ref 82), some (.int v1), some (.int v2), some (.int v3), some (.int v4), o5, o6] [] h Q) (hl1 : ∀ (v4 : Int32) (h : zm_H) (o4 : Option Value) (o5 : Option Value) (o6 : Option Value), zSh zT0 h → FN (1, v4, h) → zg x (d + 5) 38 127 [some (.ref 82), some (.int v1), some (.int v2), some (.int v3), o4, o5, o6] [] h Q) : zg x (d + 5) 38 66 [some (.ref 82), some (.int v1), some (.int v2), some (.int v3), some (.int v4), o5, o6] [] h Q := by
  unfold f_Ground_search_l35_k66 at hF
  unfold f_Ground_search_l35_k66_ok at ho
  refine zg_blk zd_38 1 hs (rfl : zb x zT0 zc_38 1 (66, [some (.ref 82), some (.int v1), some (.int v2), some (.int v3), some (.int v4), o5, o6], [], h) = some (67, [some (.ref 82), some (.int v1), some (.int v2), some (.int v3), some (.int v4), o5, o6], [.int (-1)], h)) (fun hs => ?_)
  exact f_Ground_search_l35_k67_t v1 v2 v3 v4 (-1) h (o5) (o6) hs ho hF hl0 hl1
theorem f_Ground_search_l35_k66_w (v1 : Int32) (v2 : Int32) (v3 : Int32) (v4 : Int32) (h : zm_H) : zWr [82, 90] h ((f_Ground_search_l35_k66 v1 v2 v3 v4 h).2.2) := (zWr_tr (f_Ground_search_l35_k67_w v1 v2 v3 v4 (-1) h) (by decide) (zWr.refl _ _))
theorem zd_40 : zm_cd 40 = zc_40 := by rfl
def f_Ground_isOpen_l2_b (v1 : Int32) (v2 : Int32) (h : zm_H) : Nat × Int32 := (if ((zf h 82 9) ≤ v2) then (2, v2) else (if ((f_Ground_isShut ((zr h 86 (zr h 89 v2)) / 10) v1 h) = 0) then (if ((f_Course_isFree_37 (zr h 86 (zr h 89 v2)) h) = 0) then (1, v2) else (0, (v2 + 1))) else (1, v2)))
def f_Ground_isOpen_l2_b_ok (v1 : Int32) (v2 : Int32) (h : zm_H) : Prop := ((((zf h 82 9) ≤ v2) → True) ∧ (¬ ((zf h 82 9) ≤ v2) → (vp_in v2 3 ∧ (vp_in (zr h 89 v2) 8 ∧ (f_Ground_isShut_ok ((zr h 86 (zr h 89 v2)) / 10) v1 h ∧ ((((f_Ground_isShut ((zr h 86 (zr h 89 v2)) / 10) v1 h) = 0) → f_Course_isFree_37_ok (zr h 86 (zr h 89 v2)) h) ∧ (¬ ((f_Ground_isShut ((zr h 86 (zr h 89 v2)) / 10) v1 h) = 0) → True)))))))
set_option maxRecDepth 100000 in
set_option maxHeartbeats 400000 in
theorem f_Ground_isOpen_l2_b_t {x : zm_X} {d : Nat} (v1 : Int32) (v2 : Int32) (h : zm_H) (o3 : Option Value) {Q : Option Value → zm_H → Prop} {FN : Nat × Int32 → Prop} (hs : zSh zT0 h) (ho : f_Ground_isOpen_l2_b_ok v1 v2 h) (hF : FN (f_Ground_isOpen_l2_b v1 v2 h)) (hl0 : ∀ (v2 : Int32) (o3 : Option Value), zSh zT0 h → FN (0, v2) → zg x (d + 2) 40 2 [some (.ref 82), some (.int v1), some (.int v2), o3] [] h Q) (hl1 : ∀ (v2 : Int32) (o2 : Option Value) (o3 : Option Value), zSh zT0 h → FN (1, v2) → zg x (d + 2) 40 45 [some (.ref 82), some (.int v1), o2, o3] [] h Q) (hl2 : ∀ (v2 : Int32) (o2 : Option Value) (o3 : Option Value), zSh zT0 h → FN (2, v2) → zg x (d + 2) 40 53 [some (.ref 82), some (.int v1), o2, o3] [] h Q) : zg x (d + 2) 40 2 [some (.ref 82), some (.int v1), some (.int v2), o3] [] h Q := by
  unfold f_Ground_isOpen_l2_b at hF
  unfold f_Ground_isOpen_l2_b_ok at ho
  refine zg_blk zd_40 3 hs (rfl : zb x zT0 zc_40 3 (2, [some (.ref 82), some (.int v1), some (.int v2), o3], [], h) = some (7, [some (.ref 82), some (.int v1), some (.int v2), o3], [.int (zf h 82 9), .int v2], h)) (fun hs => ?_)
  refine zg_i_ge zd_40 rfl (fun (hc : ((zf h 82 9) ≤ v2)) => ?_) (fun (hc : ¬ ((zf h 82 9) ≤ v2)) => ?_)
  · have ho := ho.1 hc
    rw [if_pos hc] at hF
    exact hl2 v2 (some (.int v2)) (o3) hs hF
  · have ho := ho.2 hc
    rw [if_neg hc] at hF
    refine zg_blk zd_40 5 hs (rfl : zb x zT0 zc_40 5 (10, [some (.ref 82), some (.int v1), some (.int v2), o3], [], h) = some (19, [some (.ref 82), some (.int v1), some (.int v2), o3], [.int v2, .ref 89, .ref 86], h)) (fun hs => ?_)
    obtain ⟨hob, ho⟩ := ho
    refine zg_ial hs zd_40 rfl rfl hob ?_
    obtain ⟨hob, ho⟩ := ho
    refine zg_ial hs zd_40 rfl rfl hob ?_
    refine zg_blk zd_40 6 hs (rfl : zb x zT0 zc_40 6 (21, [some (.ref 82), some (.int v1), some (.int v2), o3], [.int (zr h 86 (zr h 89 v2))], h) = some (28, [some (.ref 82), some (.int v1), some (.int v2), some (.int (zr h 86 (zr h 89 v2)))], [.int v1, .int ((zr h 86 (zr h 89 v2)) / 10), .ref 82], h)) (fun hs => ?_)
    obtain ⟨hob, ho⟩ := ho
    refine zg_call hs zd_40 rfl rfl rfl rfl (as := [.ref 82, .int ((zr h 86 (zr h 89 v2)) / 10), .int v1]) (rest := []) (en := [some (.ref 82), some (.int ((zr h 86 (zr h 89 v2)) / 10)), some (.int v1), none]) rfl rfl rfl rfl rfl ?_
    refine f_Ground_isShut_t ((zr h 86 (zr h 89 v2)) / 10) v1 h hs hob ?_
    show zg x (d + 2) 40 31 [some (.ref 82), some (.int v1), some (.int v2), some (.int (zr h 86 (zr h 89 v2)))] [.int (f_Ground_isShut ((zr h 86 (zr h 89 v2)) / 10) v1 h)] h Q
    refine zg_f_ne zd_40 rfl (fun (hc : ¬ ((f_Ground_isShut ((zr h 86 (zr h 89 v2)) / 10) v1 h) = 0)) => ?_) (fun (hc : ((f_Ground_isShut ((zr h 86 (zr h 89 v2)) / 10) v1 h) = 0)) => ?_)
    · have ho := ho.2 hc
      rw [if_neg hc] at hF
      exact hl1 v2 (some (.int v2)) (some (.int (zr h 86 (zr h 89 v2)))) hs hF
    · have ho := ho.1 hc
      rw [if_pos hc] at hF
      refine zg_blk zd_40 3 hs (rfl : zb x zT0 zc_40 3 (34, [some (.ref 82), some (.int v1), some (.int v2), some (.int (zr h 86 (zr h 89 v2)))], [], h) = some (39, [some (.ref 82), some (.int v1), some (.int v2), some (.int (zr h 86 (zr h 89 v2)))], [.int (zr h 86 (zr h 89 v2)), .ref 37], h)) (fun hs => ?_)
      have hob := ho
      refine zg_call hs zd_40 rfl rfl rfl rfl (as := [.ref 37, .int (zr h 86 (zr h 89 v2))]) (rest := []) (en := [some (.ref 37), some (.int (zr h 86 (zr h 89 v2))), none]) rfl rfl rfl rfl rfl ?_
      refine f_Course_isFree_37_t (zr h 86 (zr h 89 v2)) h hs hob ?_
      show zg x (d + 2) 40 42 [some (.ref 82), some (.int v1), some (.int v2), some (.int (zr h 86 (zr h 89 v2)))] [.int (f_Course_isFree_37 (zr h 86 (zr h 89 v2)) h)] h Q
      refine zg_f_ne zd_40 rfl (fun (hc : ¬ ((f_Course_isFree_37 (zr h 86 (zr h 89 v2)) h) = 0)) => ?_) (fun (hc : ((f_Course_isFree_37 (zr h 86 (zr h 89 v2)) h) = 0)) => ?_)
      · skip
        rw [if_neg hc] at hF
        refine zg_blk zd_40 2 hs (rfl : zb x zT0 zc_40 2 (47, [some (.ref 82), some (.int v1), some (.int v2), some (.int (zr h 86 (zr h 89 v2)))], [], h) = some (2, [some (.ref 82), some (.int v1), some (.int (v2 + 1)), some (.int (zr h 86 (zr h 89 v2)))], [], h)) (fun hs => ?_)
        exact hl0 (v2 + 1) (some (.int (zr h 86 (zr h 89 v2)))) hs hF
      · skip
        rw [if_pos hc] at hF
        exact hl1 v2 (some (.int v2)) (some (.int (zr h 86 (zr h 89 v2)))) hs hF
def f_Ground_isOpen_l2 (v1 : Int32) (h : zm_H) (n : Nat) (t : Int32) : Nat × Int32 := zwh (fun t => f_Ground_isOpen_l2_b v1 t h) n t
def f_Ground_isOpen_l2_ok (v1 : Int32) (h : zm_H) (n : Nat) (t : Int32) : Prop := zwo (fun t => f_Ground_isOpen_l2_b v1 t h) (fun t => f_Ground_isOpen_l2_b_ok v1 t h) n t
theorem f_Ground_isOpen_l2_t {x : zm_X} {d : Nat} (v1 : Int32) (h : zm_H) {Q : Option Value → zm_H → Prop} (G : Nat × Int32 → Prop) (hx1 : ∀ (v2 : Int32) (o2 : Option Value) (o3 : Option Value), zSh zT0 h → G (1, v2) → zg x (d + 2) 40 45 [some (.ref 82), some (.int v1), o2, o3] [] h Q) (hx2 : ∀ (v2 : Int32) (o2 : Option Value) (o3 : Option Value), zSh zT0 h → G (2, v2) → zg x (d + 2) 40 53 [some (.ref 82), some (.int v1), o2, o3] [] h Q) : ∀ (n : Nat) (v2 : Int32) (o3 : Option Value), zSh zT0 h → f_Ground_isOpen_l2_ok v1 h n v2 → G (f_Ground_isOpen_l2 v1 h n v2) → zg x (d + 2) 40 2 [some (.ref 82), some (.int v1), some (.int v2), o3] [] h Q := by
  intro n
  induction n with
  | zero => intro v2 o3 hs ho hG; exact ho.elim
  | succ n ih =>
    intro v2 o3 hs ho hG
    refine f_Ground_isOpen_l2_b_t (FN := fun r => (r.1 = 0 → f_Ground_isOpen_l2_ok v1 h n r.2) ∧ G (if r.1 = 0 then f_Ground_isOpen_l2 v1 h n r.2 else r)) v1 v2 h o3 hs ho.1 ⟨ho.2, hG⟩ ?_ ?_ ?_
    · intro v2 o3 hs hF
      exact ih v2 o3 hs (hF.1 rfl) hF.2
    · intro v2 o2 o3 hs hF
      exact hx1 v2 o2 o3 hs hF.2
    · intro v2 o2 o3 hs hF
      exact hx2 v2 o2 o3 hs hF.2

def f_Ground_isOpen_k45 (h : zm_H) : Int32 := 0
def f_Ground_isOpen_k45_ok (h : zm_H) : Prop := True
set_option maxRecDepth 100000 in
set_option maxHeartbeats 400000 in
theorem f_Ground_isOpen_k45_t {x : zm_X} {d : Nat} (h : zm_H) (o0 : Option Value) (z1 : Int32) (o2 : Option Value) (o3 : Option Value) {Q : Option Value → zm_H → Prop} (hs : zSh zT0 h) (ho : f_Ground_isOpen_k45_ok h) (hF : Q (some (.int (f_Ground_isOpen_k45 h))) h) : zg x (d + 2) 40 45 [o0, some (.int z1), o2, o3] [] h Q := by
  unfold f_Ground_isOpen_k45 at hF
  unfold f_Ground_isOpen_k45_ok at ho
  refine zg_blk zd_40 1 hs (rfl : zb x zT0 zc_40 1 (45, [o0, some (.int z1), o2, o3], [], h) = some (46, [o0, some (.int z1), o2, o3], [.int 0], h)) (fun hs => ?_)
  exact zg_rtz zd_40 rfl rfl rfl hF
def f_Ground_isOpen_k53 (h : zm_H) : Int32 := 1
def f_Ground_isOpen_k53_ok (h : zm_H) : Prop := True
set_option maxRecDepth 100000 in
set_option maxHeartbeats 400000 in
theorem f_Ground_isOpen_k53_t {x : zm_X} {d : Nat} (h : zm_H) (o0 : Option Value) (z1 : Int32) (o2 : Option Value) (o3 : Option Value) {Q : Option Value → zm_H → Prop} (hs : zSh zT0 h) (ho : f_Ground_isOpen_k53_ok h) (hF : Q (some (.int (f_Ground_isOpen_k53 h))) h) : zg x (d + 2) 40 53 [o0, some (.int z1), o2, o3] [] h Q := by
  unfold f_Ground_isOpen_k53 at hF
  unfold f_Ground_isOpen_k53_ok at ho
  refine zg_blk zd_40 1 hs (rfl : zb x zT0 zc_40 1 (53, [o0, some (.int z1), o2, o3], [], h) = some (54, [o0, some (.int z1), o2, o3], [.int 1], h)) (fun hs => ?_)
  exact zg_rtz zd_40 rfl rfl rfl hF
def f_Ground_isOpen_a2 (r : Nat × Int32) (h : zm_H) : Int32 := (if r.1 = 1 then (f_Ground_isOpen_k45 h) else (f_Ground_isOpen_k53 h))
def f_Ground_isOpen_a2_ok (r : Nat × Int32) (h : zm_H) : Prop := ((r.1 = 1 → True) ∧ (¬ r.1 = 1 → True))
def f_Ground_isOpen (p1 : Int32) (h : zm_H) : Int32 := (f_Ground_isOpen_a2 (f_Ground_isOpen_l2 p1 h zF 0) h)
def f_Ground_isOpen_ok (p1 : Int32) (h : zm_H) : Prop := (f_Ground_isOpen_l2_ok p1 h zF 0 ∧ f_Ground_isOpen_a2_ok (f_Ground_isOpen_l2 p1 h zF 0) h)
set_option maxRecDepth 100000 in
set_option maxHeartbeats 400000 in
theorem f_Ground_isOpen_t {x : zm_X} {d : Nat} (p1 : Int32) (h : zm_H) {Q : Option Value → zm_H → Prop} (hs : zSh zT0 h) (ho : f_Ground_isOpen_ok p1 h) (hF : Q (some (.int (f_Ground_isOpen p1 h))) h) : zg x (d + 2) 40 0 [some (.ref 82), some (.int p1), none, none] [] h Q := by
  unfold f_Ground_isOpen at hF
  unfold f_Ground_isOpen_ok at ho
  refine zg_blk zd_40 2 hs (rfl : zb x zT0 zc_40 2 (0, [some (.ref 82), some (.int p1), none, none], [], h) = some (2, [some (.ref 82), some (.int p1), some (.int 0), none], [], h)) (fun hs => ?_)
  refine f_Ground_isOpen_l2_t p1 h (fun r => f_Ground_isOpen_a2_ok r h ∧ Q (some (.int (f_Ground_isOpen_a2 r h))) h) ?_ ?_ zF 0 (none) hs ho.1 ⟨ho.2, hF⟩
  · intro v2_ o2_ o3_ hs hG
    have ho : True := trivial
    have hF : Q (some (.int ((f_Ground_isOpen_k45 h)))) h := hG.2
    exact f_Ground_isOpen_k45_t h (some (.ref 82)) p1 (o2_) (o3_) hs trivial hF
  · intro v2_ o2_ o3_ hs hG
    have ho : True := trivial
    have hF : Q (some (.int ((f_Ground_isOpen_k53 h)))) h := hG.2
    exact f_Ground_isOpen_k53_t h (some (.ref 82)) p1 (o2_) (o3_) hs trivial hF
theorem zd_41 : zm_cd 41 = zc_41 := by rfl
def f_Ground_tryOut_l13_k45 (v1 : Int32) (v2 : Int32) (h : zm_H) : Nat × Int32 × zm_H := (0, (v2 + 1), h)
def f_Ground_tryOut_l13_k45_ok (v1 : Int32) (v2 : Int32) (h : zm_H) : Prop := True
set_option maxRecDepth 100000 in
set_option maxHeartbeats 400000 in
theorem f_Ground_tryOut_l13_k45_t {x : zm_X} {d : Nat} (v1 : Int32) (v2 : Int32) (h : zm_H) (o3 : Option Value) (o4 : Option Value) {Q : Option Value → zm_H → Prop} {FN : Nat × Int32 × zm_H → Prop} (hs : zSh zT0 h) (ho : f_Ground_tryOut_l13_k45_ok v1 v2 h) (hF : FN (f_Ground_tryOut_l13_k45 v1 v2 h)) (hl0 : ∀ (v2 : Int32) (h : zm_H) (o3 : Option Value) (o4 : Option Value), zSh zT0 h → FN (0, v2, h) → zg x (d + 4) 41 13 [some (.ref 82), some (.int v1), some (.int v2), o3, o4] [] h Q) (hl1 : ∀ (v2 : Int32) (h : zm_H) (o2 : Option Value) (o3 : Option Value) (o4 : Option Value), zSh zT0 h → FN (1, v2, h) → zg x (d + 4) 41 51 [some (.ref 82), some (.int v1), o2, o3, o4] [] h Q) : zg x (d + 4) 41 45 [some (.ref 82), some (.int v1), some (.int v2), o3, o4] [] h Q := by
  unfold f_Ground_tryOut_l13_k45 at hF
  unfold f_Ground_tryOut_l13_k45_ok at ho
  refine zg_blk zd_41 2 hs (rfl : zb x zT0 zc_41 2 (45, [some (.ref 82), some (.int v1), some (.int v2), o3, o4], [], h) = some (13, [some (.ref 82), some (.int v1), some (.int (v2 + 1)), o3, o4], [], h)) (fun hs => ?_)
  exact hl0 (v2 + 1) h (o3) (o4) hs hF
theorem f_Ground_tryOut_l13_k45_w (v1 : Int32) (v2 : Int32) (h : zm_H) : zWr [] h ((f_Ground_tryOut_l13_k45 v1 v2 h).2.2) := (zWr.refl _ _)
def f_Ground_tryOut_l13_b (v1 : Int32) (v2 : Int32) (h : zm_H) : Nat × Int32 × zm_H := (if ((zf h 82 9) ≤ v2) then (1, v2, h) else (f_Ground_tryOut_l13_k45 v1 v2 (f_Waves_putIn (zr h 87 v2) (zr h 86 (zr h 89 v2)) h)))
def f_Ground_tryOut_l13_b_ok (v1 : Int32) (v2 : Int32) (h : zm_H) : Prop := ((((zf h 82 9) ≤ v2) → True) ∧ (¬ ((zf h 82 9) ≤ v2) → (vp_in v2 3 ∧ (vp_in v2 3 ∧ (vp_in (zr h 89 v2) 8 ∧ f_Waves_putIn_ok (zr h 87 v2) (zr h 86 (zr h 89 v2)) h)))))
set_option maxRecDepth 100000 in
set_option maxHeartbeats 400000 in
theorem f_Ground_tryOut_l13_b_t {x : zm_X} {d : Nat} (v1 : Int32) (v2 : Int32) (h : zm_H) (o3 : Option Value) (o4 : Option Value) {Q : Option Value → zm_H → Prop} {FN : Nat × Int32 × zm_H → Prop} (hs : zSh zT0 h) (ho : f_Ground_tryOut_l13_b_ok v1 v2 h) (hF : FN (f_Ground_tryOut_l13_b v1 v2 h)) (hl0 : ∀ (v2 : Int32) (h : zm_H) (o3 : Option Value) (o4 : Option Value), zSh zT0 h → FN (0, v2, h) → zg x (d + 4) 41 13 [some (.ref 82), some (.int v1), some (.int v2), o3, o4] [] h Q) (hl1 : ∀ (v2 : Int32) (h : zm_H) (o2 : Option Value) (o3 : Option Value) (o4 : Option Value), zSh zT0 h → FN (1, v2, h) → zg x (d + 4) 41 51 [some (.ref 82), some (.int v1), o2, o3, o4] [] h Q) : zg x (d + 4) 41 13 [some (.ref 82), some (.int v1), some (.int v2), o3, o4] [] h Q := by
  unfold f_Ground_tryOut_l13_b at hF
  unfold f_Ground_tryOut_l13_b_ok at ho
  refine zg_blk zd_41 3 hs (rfl : zb x zT0 zc_41 3 (13, [some (.ref 82), some (.int v1), some (.int v2), o3, o4], [], h) = some (18, [some (.ref 82), some (.int v1), some (.int v2), o3, o4], [.int (zf h 82 9), .int v2], h)) (fun hs => ?_)
  refine zg_i_ge zd_41 rfl (fun (hc : ((zf h 82 9) ≤ v2)) => ?_) (fun (hc : ¬ ((zf h 82 9) ≤ v2)) => ?_)
  · have ho := ho.1 hc
    rw [if_pos hc] at hF
    exact hl1 v2 h (some (.int v2)) (o3) (o4) hs hF
  · have ho := ho.2 hc
    rw [if_neg hc] at hF
    refine zg_blk zd_41 5 hs (rfl : zb x zT0 zc_41 5 (21, [some (.ref 82), some (.int v1), some (.int v2), o3, o4], [], h) = some (30, [some (.ref 82), some (.int v1), some (.int v2), o3, o4], [.int v2, .ref 87, .ref 32], h)) (fun hs => ?_)
    obtain ⟨hob, ho⟩ := ho
    refine zg_ial hs zd_41 rfl rfl hob ?_
    refine zg_blk zd_41 5 hs (rfl : zb x zT0 zc_41 5 (31, [some (.ref 82), some (.int v1), some (.int v2), o3, o4], [.int (zr h 87 v2), .ref 32], h) = some (40, [some (.ref 82), some (.int v1), some (.int v2), o3, o4], [.int v2, .ref 89, .ref 86, .int (zr h 87 v2), .ref 32], h)) (fun hs => ?_)
    obtain ⟨hob, ho⟩ := ho
    refine zg_ial hs zd_41 rfl rfl hob ?_
    obtain ⟨hob, ho⟩ := ho
    refine zg_ial hs zd_41 rfl rfl hob ?_
    have hob := ho
    refine zg_call hs zd_41 rfl rfl rfl rfl (as := [.ref 32, .int (zr h 87 v2), .int (zr h 86 (zr h 89 v2))]) (rest := []) (en := [some (.ref 32), some (.int (zr h 87 v2)), some (.int (zr h 86 (zr h 89 v2)))]) rfl rfl rfl rfl rfl ?_
    refine f_Waves_putIn_t (zr h 87 v2) (zr h 86 (zr h 89 v2)) h hs hob (fun hs => ?_)
    show zg x (d + 4) 41 45 [some (.ref 82), some (.int v1), some (.int v2), o3, o4] [] (f_Waves_putIn (zr h 87 v2) (zr h 86 (zr h 89 v2)) h) Q
    exact f_Ground_tryOut_l13_k45_t v1 v2 (f_Waves_putIn (zr h 87 v2) (zr h 86 (zr h 89 v2)) h) (o3) (o4) hs trivial hF hl0 hl1
theorem f_Ground_tryOut_l13_b_w (v1 : Int32) (v2 : Int32) (h : zm_H) : zWr [33] h ((f_Ground_tryOut_l13_b v1 v2 h).2.2) := (zWr_ite (fun z : Nat × Int32 × zm_H => z.2.2) (zWr.refl _ _) (zWr_tr (f_Ground_tryOut_l13_k45_w v1 v2 (f_Waves_putIn (zr h 87 v2) (zr h 86 (zr h 89 v2)) h)) (by decide) (zWr_tr (f_Waves_putIn_w (zr h 87 v2) (zr h 86 (zr h 89 v2)) h) (by decide) (zWr.refl _ _))))
def f_Ground_tryOut_l13 (v1 : Int32) (n : Nat) (t : Int32 × zm_H) : Nat × Int32 × zm_H := zwh (fun t => f_Ground_tryOut_l13_b v1 t.1 t.2) n t
def f_Ground_tryOut_l13_ok (v1 : Int32) (n : Nat) (t : Int32 × zm_H) : Prop := zwo (fun t => f_Ground_tryOut_l13_b v1 t.1 t.2) (fun t => f_Ground_tryOut_l13_b_ok v1 t.1 t.2) n t
theorem f_Ground_tryOut_l13_t {x : zm_X} {d : Nat} (v1 : Int32) {Q : Option Value → zm_H → Prop} (G : Nat × Int32 × zm_H → Prop) (hx1 : ∀ (v2 : Int32) (h : zm_H) (o2 : Option Value) (o3 : Option Value) (o4 : Option Value), zSh zT0 h → G (1, v2, h) → zg x (d + 4) 41 51 [some (.ref 82), some (.int v1), o2, o3, o4] [] h Q) : ∀ (n : Nat) (v2 : Int32) (h : zm_H) (o3 : Option Value) (o4 : Option Value), zSh zT0 h → f_Ground_tryOut_l13_ok v1 n (v2, h) → G (f_Ground_tryOut_l13 v1 n (v2, h)) → zg x (d + 4) 41 13 [some (.ref 82), some (.int v1), some (.int v2), o3, o4] [] h Q := by
  intro n
  induction n with
  | zero => intro v2 h o3 o4 hs ho hG; exact ho.elim
  | succ n ih =>
    intro v2 h o3 o4 hs ho hG
    refine f_Ground_tryOut_l13_b_t (FN := fun r => (r.1 = 0 → f_Ground_tryOut_l13_ok v1 n r.2) ∧ G (if r.1 = 0 then f_Ground_tryOut_l13 v1 n r.2 else r)) v1 v2 h o3 o4 hs ho.1 ⟨ho.2, hG⟩ ?_ ?_
    · intro v2 h o3 o4 hs hF
      exact ih v2 h o3 o4 hs (hF.1 rfl) hF.2
    · intro v2 h o2 o3 o4 hs hF
      exact hx1 v2 h o2 o3 o4 hs hF.2

theorem f_Ground_tryOut_l13_w (v1 : Int32) (n : Nat) (t : Int32 × zm_H) : zWr [33] (t.2) ((f_Ground_tryOut_l13 v1 n t).2.2) := zWr_zwh (fun t : Int32 × zm_H => t.2) (fun t => f_Ground_tryOut_l13_b_w v1 t.1 t.2)
theorem zd_42 : zm_cd 42 = zc_42 := by rfl
def f_Ground_keepsBeach_l2_b (v1 : Int32) (v2 : Int32) (v3 : Int32) (h : zm_H) : Nat × Int32 := (if (10 ≤ v3) then (2, v3) else (if ((v1 * v2) ≤ (100 * (zr h 35 v3))) then (0, (v3 + 1)) else (1, v3)))
def f_Ground_keepsBeach_l2_b_ok (v1 : Int32) (v2 : Int32) (v3 : Int32) (h : zm_H) : Prop := (((10 ≤ v3) → True) ∧ (¬ (10 ≤ v3) → vp_in v3 10))
set_option maxRecDepth 100000 in
set_option maxHeartbeats 400000 in
theorem f_Ground_keepsBeach_l2_b_t {x : zm_X} {d : Nat} (v1 : Int32) (v2 : Int32) (v3 : Int32) (h : zm_H) {Q : Option Value → zm_H → Prop} {FN : Nat × Int32 → Prop} (hs : zSh zT0 h) (ho : f_Ground_keepsBeach_l2_b_ok v1 v2 v3 h) (hF : FN (f_Ground_keepsBeach_l2_b v1 v2 v3 h)) (hl0 : ∀ (v3 : Int32), zSh zT0 h → FN (0, v3) → zg x (d + 1) 42 2 [some (.ref 82), some (.int v1), some (.int v2), some (.int v3)] [] h Q) (hl1 : ∀ (v3 : Int32) (o3 : Option Value), zSh zT0 h → FN (1, v3) → zg x (d + 1) 42 26 [some (.ref 82), some (.int v1), some (.int v2), o3] [] h Q) (hl2 : ∀ (v3 : Int32) (o3 : Option Value), zSh zT0 h → FN (2, v3) → zg x (d + 1) 42 34 [some (.ref 82), some (.int v1), some (.int v2), o3] [] h Q) : zg x (d + 1) 42 2 [some (.ref 82), some (.int v1), some (.int v2), some (.int v3)] [] h Q := by
  unfold f_Ground_keepsBeach_l2_b at hF
  unfold f_Ground_keepsBeach_l2_b_ok at ho
  refine zg_blk zd_42 2 hs (rfl : zb x zT0 zc_42 2 (2, [some (.ref 82), some (.int v1), some (.int v2), some (.int v3)], [], h) = some (5, [some (.ref 82), some (.int v1), some (.int v2), some (.int v3)], [.int 10, .int v3], h)) (fun hs => ?_)
  refine zg_i_ge zd_42 rfl (fun (hc : (10 ≤ v3)) => ?_) (fun (hc : ¬ (10 ≤ v3)) => ?_)
  · have ho := ho.1 hc
    rw [if_pos hc] at hF
    exact hl2 v3 (some (.int v3)) hs hF
  · have ho := ho.2 hc
    rw [if_neg hc] at hF
    refine zg_blk zd_42 5 hs (rfl : zb x zT0 zc_42 5 (8, [some (.ref 82), some (.int v1), some (.int v2), some (.int v3)], [], h) = some (18, [some (.ref 82), some (.int v1), some (.int v2), some (.int v3)], [.int v3, .ref 35, .int 100], h)) (fun hs => ?_)
    have hob := ho
    refine zg_ial hs zd_42 rfl rfl hob ?_
    refine zg_blk zd_42 4 hs (rfl : zb x zT0 zc_42 4 (19, [some (.ref 82), some (.int v1), some (.int v2), some (.int v3)], [.int (zr h 35 v3), .int 100], h) = some (23, [some (.ref 82), some (.int v1), some (.int v2), some (.int v3)], [.int (v1 * v2), .int (100 * (zr h 35 v3))], h)) (fun hs => ?_)
    refine zg_i_ge zd_42 rfl (fun (hc : ((v1 * v2) ≤ (100 * (zr h 35 v3)))) => ?_) (fun (hc : ¬ ((v1 * v2) ≤ (100 * (zr h 35 v3)))) => ?_)
    · skip
      rw [if_pos hc] at hF
      refine zg_blk zd_42 2 hs (rfl : zb x zT0 zc_42 2 (28, [some (.ref 82), some (.int v1), some (.int v2), some (.int v3)], [], h) = some (2, [some (.ref 82), some (.int v1), some (.int v2), some (.int (v3 + 1))], [], h)) (fun hs => ?_)
      exact hl0 (v3 + 1) hs hF
    · skip
      rw [if_neg hc] at hF
      exact hl1 v3 (some (.int v3)) hs hF
def f_Ground_keepsBeach_l2 (v1 : Int32) (v2 : Int32) (h : zm_H) (n : Nat) (t : Int32) : Nat × Int32 := zwh (fun t => f_Ground_keepsBeach_l2_b v1 v2 t h) n t
def f_Ground_keepsBeach_l2_ok (v1 : Int32) (v2 : Int32) (h : zm_H) (n : Nat) (t : Int32) : Prop := zwo (fun t => f_Ground_keepsBeach_l2_b v1 v2 t h) (fun t => f_Ground_keepsBeach_l2_b_ok v1 v2 t h) n t
theorem f_Ground_keepsBeach_l2_t {x : zm_X} {d : Nat} (v1 : Int32) (v2 : Int32) (h : zm_H) {Q : Option Value → zm_H → Prop} (G : Nat × Int32 → Prop) (hx1 : ∀ (v3 : Int32) (o3 : Option Value), zSh zT0 h → G (1, v3) → zg x (d + 1) 42 26 [some (.ref 82), some (.int v1), some (.int v2), o3] [] h Q) (hx2 : ∀ (v3 : Int32) (o3 : Option Value), zSh zT0 h → G (2, v3) → zg x (d + 1) 42 34 [some (.ref 82), some (.int v1), some (.int v2), o3] [] h Q) : ∀ (n : Nat) (v3 : Int32), zSh zT0 h → f_Ground_keepsBeach_l2_ok v1 v2 h n v3 → G (f_Ground_keepsBeach_l2 v1 v2 h n v3) → zg x (d + 1) 42 2 [some (.ref 82), some (.int v1), some (.int v2), some (.int v3)] [] h Q := by
  intro n
  induction n with
  | zero => intro v3 hs ho hG; exact ho.elim
  | succ n ih =>
    intro v3 hs ho hG
    refine f_Ground_keepsBeach_l2_b_t (FN := fun r => (r.1 = 0 → f_Ground_keepsBeach_l2_ok v1 v2 h n r.2) ∧ G (if r.1 = 0 then f_Ground_keepsBeach_l2 v1 v2 h n r.2 else r)) v1 v2 v3 h hs ho.1 ⟨ho.2, hG⟩ ?_ ?_ ?_
    · intro v3 hs hF
      exact ih v3 hs (hF.1 rfl) hF.2
    · intro v3 o3 hs hF
      exact hx1 v3 o3 hs hF.2
    · intro v3 o3 hs hF
      exact hx2 v3 o3 hs hF.2

def f_Ground_keepsBeach_k26 (h : zm_H) : Int32 := 0
def f_Ground_keepsBeach_k26_ok (h : zm_H) : Prop := True
set_option maxRecDepth 100000 in
set_option maxHeartbeats 400000 in
theorem f_Ground_keepsBeach_k26_t {x : zm_X} {d : Nat} (h : zm_H) (o0 : Option Value) (o1 : Option Value) (z2 : Int32) (o3 : Option Value) {Q : Option Value → zm_H → Prop} (hs : zSh zT0 h) (ho : f_Ground_keepsBeach_k26_ok h) (hF : Q (some (.int (f_Ground_keepsBeach_k26 h))) h) : zg x (d + 1) 42 26 [o0, o1, some (.int z2), o3] [] h Q := by
  unfold f_Ground_keepsBeach_k26 at hF
  unfold f_Ground_keepsBeach_k26_ok at ho
  refine zg_blk zd_42 1 hs (rfl : zb x zT0 zc_42 1 (26, [o0, o1, some (.int z2), o3], [], h) = some (27, [o0, o1, some (.int z2), o3], [.int 0], h)) (fun hs => ?_)
  exact zg_rtz zd_42 rfl rfl rfl hF
def f_Ground_keepsBeach_k34 (h : zm_H) : Int32 := 1
def f_Ground_keepsBeach_k34_ok (h : zm_H) : Prop := True
set_option maxRecDepth 100000 in
set_option maxHeartbeats 400000 in
theorem f_Ground_keepsBeach_k34_t {x : zm_X} {d : Nat} (h : zm_H) (o0 : Option Value) (o1 : Option Value) (z2 : Int32) (o3 : Option Value) {Q : Option Value → zm_H → Prop} (hs : zSh zT0 h) (ho : f_Ground_keepsBeach_k34_ok h) (hF : Q (some (.int (f_Ground_keepsBeach_k34 h))) h) : zg x (d + 1) 42 34 [o0, o1, some (.int z2), o3] [] h Q := by
  unfold f_Ground_keepsBeach_k34 at hF
  unfold f_Ground_keepsBeach_k34_ok at ho
  refine zg_blk zd_42 1 hs (rfl : zb x zT0 zc_42 1 (34, [o0, o1, some (.int z2), o3], [], h) = some (35, [o0, o1, some (.int z2), o3], [.int 1], h)) (fun hs => ?_)
  exact zg_rtz zd_42 rfl rfl rfl hF
def f_Ground_keepsBeach_a2 (r : Nat × Int32) (h : zm_H) : Int32 := (if r.1 = 1 then (f_Ground_keepsBeach_k26 h) else (f_Ground_keepsBeach_k34 h))
def f_Ground_keepsBeach_a2_ok (r : Nat × Int32) (h : zm_H) : Prop := ((r.1 = 1 → True) ∧ (¬ r.1 = 1 → True))
def f_Ground_keepsBeach (p1 : Int32) (p2 : Int32) (h : zm_H) : Int32 := (f_Ground_keepsBeach_a2 (f_Ground_keepsBeach_l2 p1 p2 h zF 0) h)
def f_Ground_keepsBeach_ok (p1 : Int32) (p2 : Int32) (h : zm_H) : Prop := (f_Ground_keepsBeach_l2_ok p1 p2 h zF 0 ∧ f_Ground_keepsBeach_a2_ok (f_Ground_keepsBeach_l2 p1 p2 h zF 0) h)
set_option maxRecDepth 100000 in
set_option maxHeartbeats 400000 in
theorem f_Ground_keepsBeach_t {x : zm_X} {d : Nat} (p1 : Int32) (p2 : Int32) (h : zm_H) {Q : Option Value → zm_H → Prop} (hs : zSh zT0 h) (ho : f_Ground_keepsBeach_ok p1 p2 h) (hF : Q (some (.int (f_Ground_keepsBeach p1 p2 h))) h) : zg x (d + 1) 42 0 [some (.ref 82), some (.int p1), some (.int p2), none] [] h Q := by
  unfold f_Ground_keepsBeach at hF
  unfold f_Ground_keepsBeach_ok at ho
  refine zg_blk zd_42 2 hs (rfl : zb x zT0 zc_42 2 (0, [some (.ref 82), some (.int p1), some (.int p2), none], [], h) = some (2, [some (.ref 82), some (.int p1), some (.int p2), some (.int 0)], [], h)) (fun hs => ?_)
  refine f_Ground_keepsBeach_l2_t p1 p2 h (fun r => f_Ground_keepsBeach_a2_ok r h ∧ Q (some (.int (f_Ground_keepsBeach_a2 r h))) h) ?_ ?_ zF 0 hs ho.1 ⟨ho.2, hF⟩
  · intro v3_ o3_ hs hG
    have ho : True := trivial
    have hF : Q (some (.int ((f_Ground_keepsBeach_k26 h)))) h := hG.2
    exact f_Ground_keepsBeach_k26_t h (some (.ref 82)) (some (.int p1)) p2 (o3_) hs trivial hF
  · intro v3_ o3_ hs hG
    have ho : True := trivial
    have hF : Q (some (.int ((f_Ground_keepsBeach_k34 h)))) h := hG.2
    exact f_Ground_keepsBeach_k34_t h (some (.ref 82)) (some (.int p1)) p2 (o3_) hs trivial hF
def f_Ground_tryOut_l55_l98_b (v1 : Int32) (v2 : Int32) (v3 : Int32) (v4 : Int32) (h : zm_H) : Nat × Int32 × Int32 := (if ((zf h 23 0) ≤ v4) then (1, v2, v4) else (0, (v2 + (f_Course_powerFrom_37 (zr h 34 v4) v4 h)), (v4 + 1)))
def f_Ground_tryOut_l55_l98_b_ok (v1 : Int32) (v2 : Int32) (v3 : Int32) (v4 : Int32) (h : zm_H) : Prop := ((((zf h 23 0) ≤ v4) → True) ∧ (¬ ((zf h 23 0) ≤ v4) → (vp_in v4 10 ∧ f_Course_powerFrom_37_ok (zr h 34 v4) v4 h)))
set_option maxRecDepth 100000 in
set_option maxHeartbeats 400000 in
theorem f_Ground_tryOut_l55_l98_b_t {x : zm_X} {d : Nat} (v1 : Int32) (v2 : Int32) (v3 : Int32) (v4 : Int32) (h : zm_H) {Q : Option Value → zm_H → Prop} {FN : Nat × Int32 × Int32 → Prop} (hs : zSh zT0 h) (ho : f_Ground_tryOut_l55_l98_b_ok v1 v2 v3 v4 h) (hF : FN (f_Ground_tryOut_l55_l98_b v1 v2 v3 v4 h)) (hl0 : ∀ (v2 : Int32) (v4 : Int32), zSh zT0 h → FN (0, v2, v4) → zg x (d + 4) 41 98 [some (.ref 82), some (.int v1), some (.int v2), some (.int v3), some (.int v4)] [] h Q) (hl1 : ∀ (v2 : Int32) (v4 : Int32) (o4 : Option Value), zSh zT0 h → FN (1, v2, v4) → zg x (d + 4) 41 141 [some (.ref 82), some (.int v1), some (.int v2), some (.int v3), o4] [] h Q) : zg x (d + 4) 41 98 [some (.ref 82), some (.int v1), some (.int v2), some (.int v3), some (.int v4)] [] h Q := by
  unfold f_Ground_tryOut_l55_l98_b at hF
  unfold f_Ground_tryOut_l55_l98_b_ok at ho
  refine zg_blk zd_41 5 hs (rfl : zb x zT0 zc_41 5 (98, [some (.ref 82), some (.int v1), some (.int v2), some (.int v3), some (.int v4)], [], h) = some (110, [some (.ref 82), some (.int v1), some (.int v2), some (.int v3), some (.int v4)], [.int (zf h 23 0), .int v4], h)) (fun hs => ?_)
  refine zg_i_ge zd_41 rfl (fun (hc : ((zf h 23 0) ≤ v4)) => ?_) (fun (hc : ¬ ((zf h 23 0) ≤ v4)) => ?_)
  · have ho := ho.1 hc
    rw [if_pos hc] at hF
    exact hl1 v2 v4 (some (.int v4)) hs hF
  · have ho := ho.2 hc
    rw [if_neg hc] at hF
    refine zg_blk zd_41 7 hs (rfl : zb x zT0 zc_41 7 (113, [some (.ref 82), some (.int v1), some (.int v2), some (.int v3), some (.int v4)], [], h) = some (127, [some (.ref 82), some (.int v1), some (.int v2), some (.int v3), some (.int v4)], [.int v4, .ref 34, .ref 37, .int v2], h)) (fun hs => ?_)
    obtain ⟨hob, ho⟩ := ho
    refine zg_ial hs zd_41 rfl rfl hob ?_
    refine zg_blk zd_41 1 hs (rfl : zb x zT0 zc_41 1 (128, [some (.ref 82), some (.int v1), some (.int v2), some (.int v3), some (.int v4)], [.int (zr h 34 v4), .ref 37, .int v2], h) = some (130, [some (.ref 82), some (.int v1), some (.int v2), some (.int v3), some (.int v4)], [.int v4, .int (zr h 34 v4), .ref 37, .int v2], h)) (fun hs => ?_)
    have hob := ho
    refine zg_call hs zd_41 rfl rfl rfl rfl (as := [.ref 37, .int (zr h 34 v4), .int v4]) (rest := [.int v2]) (en := [some (.ref 37), some (.int (zr h 34 v4)), some (.int v4)]) rfl rfl rfl rfl rfl ?_
    refine f_Course_powerFrom_37_t (zr h 34 v4) v4 h hs hob ?_
    show zg x (d + 4) 41 133 [some (.ref 82), some (.int v1), some (.int v2), some (.int v3), some (.int v4)] [.int (f_Course_powerFrom_37 (zr h 34 v4) v4 h), .int v2] h Q
    refine zg_blk zd_41 4 hs (rfl : zb x zT0 zc_41 4 (133, [some (.ref 82), some (.int v1), some (.int v2), some (.int v3), some (.int v4)], [.int (f_Course_powerFrom_37 (zr h 34 v4) v4 h), .int v2], h) = some (98, [some (.ref 82), some (.int v1), some (.int (v2 + (f_Course_powerFrom_37 (zr h 34 v4) v4 h))), some (.int v3), some (.int (v4 + 1))], [], h)) (fun hs => ?_)
    exact hl0 (v2 + (f_Course_powerFrom_37 (zr h 34 v4) v4 h)) (v4 + 1) hs hF
def f_Ground_tryOut_l55_l98 (v1 : Int32) (v3 : Int32) (h : zm_H) (n : Nat) (t : Int32 × Int32) : Nat × Int32 × Int32 := zwh (fun t => f_Ground_tryOut_l55_l98_b v1 t.1 v3 t.2 h) n t
def f_Ground_tryOut_l55_l98_ok (v1 : Int32) (v3 : Int32) (h : zm_H) (n : Nat) (t : Int32 × Int32) : Prop := zwo (fun t => f_Ground_tryOut_l55_l98_b v1 t.1 v3 t.2 h) (fun t => f_Ground_tryOut_l55_l98_b_ok v1 t.1 v3 t.2 h) n t
theorem f_Ground_tryOut_l55_l98_t {x : zm_X} {d : Nat} (v1 : Int32) (v3 : Int32) (h : zm_H) {Q : Option Value → zm_H → Prop} (G : Nat × Int32 × Int32 → Prop) (hx1 : ∀ (v2 : Int32) (v4 : Int32) (o4 : Option Value), zSh zT0 h → G (1, v2, v4) → zg x (d + 4) 41 141 [some (.ref 82), some (.int v1), some (.int v2), some (.int v3), o4] [] h Q) : ∀ (n : Nat) (v2 : Int32) (v4 : Int32), zSh zT0 h → f_Ground_tryOut_l55_l98_ok v1 v3 h n (v2, v4) → G (f_Ground_tryOut_l55_l98 v1 v3 h n (v2, v4)) → zg x (d + 4) 41 98 [some (.ref 82), some (.int v1), some (.int v2), some (.int v3), some (.int v4)] [] h Q := by
  intro n
  induction n with
  | zero => intro v2 v4 hs ho hG; exact ho.elim
  | succ n ih =>
    intro v2 v4 hs ho hG
    refine f_Ground_tryOut_l55_l98_b_t (FN := fun r => (r.1 = 0 → f_Ground_tryOut_l55_l98_ok v1 v3 h n r.2) ∧ G (if r.1 = 0 then f_Ground_tryOut_l55_l98 v1 v3 h n r.2 else r)) v1 v2 v3 v4 h hs ho.1 ⟨ho.2, hG⟩ ?_ ?_
    · intro v2 v4 hs hF
      exact ih v2 v4 hs (hF.1 rfl) hF.2
    · intro v2 v4 o4 hs hF
      exact hx1 v2 v4 o4 hs hF.2

def f_Ground_tryOut_l55_k141 (v1 : Int32) (v2 : Int32) (v3 : Int32) (h : zm_H) : Nat × Int32 × Int32 × zm_H := (0, v2, (v3 + 1), h)
def f_Ground_tryOut_l55_k141_ok (v1 : Int32) (v2 : Int32) (v3 : Int32) (h : zm_H) : Prop := True
set_option maxRecDepth 100000 in
set_option maxHeartbeats 400000 in
theorem f_Ground_tryOut_l55_k141_t {x : zm_X} {d : Nat} (v1 : Int32) (v2 : Int32) (v3 : Int32) (h : zm_H) (o4 : Option Value) {Q : Option Value → zm_H → Prop} {FN : Nat × Int32 × Int32 × zm_H → Prop} (hs : zSh zT0 h) (ho : f_Ground_tryOut_l55_k141_ok v1 v2 v3 h) (hF : FN (f_Ground_tryOut_l55_k141 v1 v2 v3 h)) (hl0 : ∀ (v2 : Int32) (v3 : Int32) (h : zm_H) (o4 : Option Value), zSh zT0 h → FN (0, v2, v3, h) → zg x (d + 4) 41 55 [some (.ref 82), some (.int v1), some (.int v2), some (.int v3), o4] [] h Q) (hl1 : ∀ (v2 : Int32) (v3 : Int32) (h : zm_H) (o2 : Option Value) (o3 : Option Value) (o4 : Option Value), zSh zT0 h → FN (1, v2, v3, h) → zg x (d + 4) 41 93 [some (.ref 82), some (.int v1), o2, o3, o4] [] h Q) (hl2 : ∀ (v2 : Int32) (v3 : Int32) (h : zm_H) (o3 : Option Value) (o4 : Option Value), zSh zT0 h → FN (2, v2, v3, h) → zg x (d + 4) 41 147 [some (.ref 82), some (.int v1), some (.int v2), o3, o4] [] h Q) : zg x (d + 4) 41 141 [some (.ref 82), some (.int v1), some (.int v2), some (.int v3), o4] [] h Q := by
  unfold f_Ground_tryOut_l55_k141 at hF
  unfold f_Ground_tryOut_l55_k141_ok at ho
  refine zg_blk zd_41 2 hs (rfl : zb x zT0 zc_41 2 (141, [some (.ref 82), some (.int v1), some (.int v2), some (.int v3), o4], [], h) = some (55, [some (.ref 82), some (.int v1), some (.int v2), some (.int (v3 + 1)), o4], [], h)) (fun hs => ?_)
  exact hl0 v2 (v3 + 1) h (o4) hs hF
theorem f_Ground_tryOut_l55_k141_w (v1 : Int32) (v2 : Int32) (v3 : Int32) (h : zm_H) : zWr [] h ((f_Ground_tryOut_l55_k141 v1 v2 v3 h).2.2.2) := (zWr.refl _ _)
def f_Ground_tryOut_l55_a98 (v1 : Int32) (v3 : Int32) (r : Nat × Int32 × Int32) (h : zm_H) : Nat × Int32 × Int32 × zm_H := (f_Ground_tryOut_l55_k141 v1 (r.2.1) v3 h)
def f_Ground_tryOut_l55_a98_ok (v1 : Int32) (v3 : Int32) (r : Nat × Int32 × Int32) (h : zm_H) : Prop := True
theorem f_Ground_tryOut_l55_a98_w (v1 : Int32) (v3 : Int32) (r : Nat × Int32 × Int32) (h : zm_H) : zWr [] h ((f_Ground_tryOut_l55_a98 v1 v3 r h).2.2.2) := (zWr_tr (f_Ground_tryOut_l55_k141_w v1 (r.2.1) v3 h) (by decide) (zWr.refl _ _))
def f_Ground_tryOut_l55_k76 (v1 : Int32) (v2 : Int32) (v3 : Int32) (h : zm_H) : Nat × Int32 × Int32 × zm_H := (if ((f_Ground_keepsBeach v1 ((((zr h 88 v3) / 1000) * ((zr h 88 v3) / 1000)) * ((zm_rm (zr h 88 v3) 1000) / 10)) h) = 0) then (1, v2, v3, h) else (f_Ground_tryOut_l55_a98 v1 v3 (f_Ground_tryOut_l55_l98 v1 v3 h zF (v2, 0)) h))
def f_Ground_tryOut_l55_k76_ok (v1 : Int32) (v2 : Int32) (v3 : Int32) (h : zm_H) : Prop := (vp_in v3 24 ∧ (f_Ground_keepsBeach_ok v1 ((((zr h 88 v3) / 1000) * ((zr h 88 v3) / 1000)) * ((zm_rm (zr h 88 v3) 1000) / 10)) h ∧ ((((f_Ground_keepsBeach v1 ((((zr h 88 v3) / 1000) * ((zr h 88 v3) / 1000)) * ((zm_rm (zr h 88 v3) 1000) / 10)) h) = 0) → True) ∧ (¬ ((f_Ground_keepsBeach v1 ((((zr h 88 v3) / 1000) * ((zr h 88 v3) / 1000)) * ((zm_rm (zr h 88 v3) 1000) / 10)) h) = 0) → (f_Ground_tryOut_l55_l98_ok v1 v3 h zF (v2, 0) ∧ f_Ground_tryOut_l55_a98_ok v1 v3 (f_Ground_tryOut_l55_l98 v1 v3 h zF (v2, 0)) h)))))
set_option maxRecDepth 100000 in
set_option maxHeartbeats 400000 in
theorem f_Ground_tryOut_l55_k76_t {x : zm_X} {d : Nat} (v1 : Int32) (v2 : Int32) (v3 : Int32) (h : zm_H) (o4 : Option Value) {Q : Option Value → zm_H → Prop} {FN : Nat × Int32 × Int32 × zm_H → Prop} (hs : zSh zT0 h) (ho : f_Ground_tryOut_l55_k76_ok v1 v2 v3 h) (hF : FN (f_Ground_tryOut_l55_k76 v1 v2 v3 h)) (hl0 : ∀ (v2 : Int32) (v3 : Int32) (h : zm_H) (o4 : Option Value), zSh zT0 h → FN (0, v2, v3, h) → zg x (d + 4) 41 55 [some (.ref 82), some (.int v1), some (.int v2), some (.int v3), o4] [] h Q) (hl1 : ∀ (v2 : Int32) (v3 : Int32) (h : zm_H) (o2 : Option Value) (o3 : Option Value) (o4 : Option Value), zSh zT0 h → FN (1, v2, v3, h) → zg x (d + 4) 41 93 [some (.ref 82), some (.int v1), o2, o3, o4] [] h Q) (hl2 : ∀ (v2 : Int32) (v3 : Int32) (h : zm_H) (o3 : Option Value) (o4 : Option Value), zSh zT0 h → FN (2, v2, v3, h) → zg x (d + 4) 41 147 [some (.ref 82), some (.int v1), some (.int v2), o3, o4] [] h Q) : zg x (d + 4) 41 76 [some (.ref 82), some (.int v1), some (.int v2), some (.int v3), o4] [] h Q := by
  unfold f_Ground_tryOut_l55_k76 at hF
  unfold f_Ground_tryOut_l55_k76_ok at ho
  refine zg_blk zd_41 5 hs (rfl : zb x zT0 zc_41 5 (76, [some (.ref 82), some (.int v1), some (.int v2), some (.int v3), o4], [], h) = some (83, [some (.ref 82), some (.int v1), some (.int v2), some (.int v3), o4], [.int v3, .ref 88, .int v1, .ref 82], h)) (fun hs => ?_)
  obtain ⟨hob, ho⟩ := ho
  refine zg_ial hs zd_41 rfl rfl hob ?_
  refine zg_call hs zd_41 rfl rfl rfl rfl (as := [.int (zr h 88 v3)]) (rest := [.int v1, .ref 82]) (en := [some (.int (zr h 88 v3))]) rfl rfl rfl rfl rfl ?_
  refine f_Waves_openSea_t (zr h 88 v3) h hs trivial ?_
  show zg x (d + 4) 41 87 [some (.ref 82), some (.int v1), some (.int v2), some (.int v3), o4] [.int ((((zr h 88 v3) / 1000) * ((zr h 88 v3) / 1000)) * ((zm_rm (zr h 88 v3) 1000) / 10)), .int v1, .ref 82] h Q
  obtain ⟨hob, ho⟩ := ho
  refine zg_call hs zd_41 rfl rfl rfl rfl (as := [.ref 82, .int v1, .int ((((zr h 88 v3) / 1000) * ((zr h 88 v3) / 1000)) * ((zm_rm (zr h 88 v3) 1000) / 10))]) (rest := []) (en := [some (.ref 82), some (.int v1), some (.int ((((zr h 88 v3) / 1000) * ((zr h 88 v3) / 1000)) * ((zm_rm (zr h 88 v3) 1000) / 10))), none]) rfl rfl rfl rfl rfl ?_
  refine f_Ground_keepsBeach_t v1 ((((zr h 88 v3) / 1000) * ((zr h 88 v3) / 1000)) * ((zm_rm (zr h 88 v3) 1000) / 10)) h hs hob ?_
  show zg x (d + 4) 41 90 [some (.ref 82), some (.int v1), some (.int v2), some (.int v3), o4] [.int (f_Ground_keepsBeach v1 ((((zr h 88 v3) / 1000) * ((zr h 88 v3) / 1000)) * ((zm_rm (zr h 88 v3) 1000) / 10)) h)] h Q
  refine zg_f_ne zd_41 rfl (fun (hc : ¬ ((f_Ground_keepsBeach v1 ((((zr h 88 v3) / 1000) * ((zr h 88 v3) / 1000)) * ((zm_rm (zr h 88 v3) 1000) / 10)) h) = 0)) => ?_) (fun (hc : ((f_Ground_keepsBeach v1 ((((zr h 88 v3) / 1000) * ((zr h 88 v3) / 1000)) * ((zm_rm (zr h 88 v3) 1000) / 10)) h) = 0)) => ?_)
  · have ho := ho.2 hc
    rw [if_neg hc] at hF
    refine zg_blk zd_41 2 hs (rfl : zb x zT0 zc_41 2 (95, [some (.ref 82), some (.int v1), some (.int v2), some (.int v3), o4], [], h) = some (98, [some (.ref 82), some (.int v1), some (.int v2), some (.int v3), some (.int 0)], [], h)) (fun hs => ?_)
    refine f_Ground_tryOut_l55_l98_t v1 v3 h (fun r => f_Ground_tryOut_l55_a98_ok v1 v3 r h ∧ FN (f_Ground_tryOut_l55_a98 v1 v3 r h)) ?_ zF v2 0 hs ho.1 ⟨ho.2, hF⟩
    · intro v2_ v4_ o4_ hs hG
      have ho : True := trivial
      have hF : FN ((f_Ground_tryOut_l55_k141 v1 v2_ v3 h)) := hG.2
      exact f_Ground_tryOut_l55_k141_t v1 v2_ v3 h (o4_) hs trivial hF hl0 hl1 hl2
  · have ho := ho.1 hc
    rw [if_pos hc] at hF
    exact hl1 v2 v3 h (some (.int v2)) (some (.int v3)) (o4) hs hF
theorem f_Ground_tryOut_l55_k76_w (v1 : Int32) (v2 : Int32) (v3 : Int32) (h : zm_H) : zWr [] h ((f_Ground_tryOut_l55_k76 v1 v2 v3 h).2.2.2) := (zWr_ite (fun z : Nat × Int32 × Int32 × zm_H => z.2.2.2) (zWr.refl _ _) (zWr_tr (f_Ground_tryOut_l55_a98_w v1 v3 (f_Ground_tryOut_l55_l98 v1 v3 h zF (v2, 0)) h) (by decide) (zWr.refl _ _)))
def f_Ground_tryOut_l55_b (v1 : Int32) (v2 : Int32) (v3 : Int32) (h : zm_H) : Nat × Int32 × Int32 × zm_H := (if ((zf h 82 11) ≤ v3) then (2, v2, v3, h) else (f_Ground_tryOut_l55_k76 v1 v2 v3 (f_Waves_run (zr h 88 v3) h)))
def f_Ground_tryOut_l55_b_ok (v1 : Int32) (v2 : Int32) (v3 : Int32) (h : zm_H) : Prop := ((((zf h 82 11) ≤ v3) → True) ∧ (¬ ((zf h 82 11) ≤ v3) → (vp_in v3 24 ∧ (f_Waves_run_ok (zr h 88 v3) h ∧ (f_Ground_tryOut_l55_k76_ok v1 v2 v3 (f_Waves_run (zr h 88 v3) h))))))
set_option maxRecDepth 100000 in
set_option maxHeartbeats 400000 in
theorem f_Ground_tryOut_l55_b_t {x : zm_X} {d : Nat} (v1 : Int32) (v2 : Int32) (v3 : Int32) (h : zm_H) (o4 : Option Value) {Q : Option Value → zm_H → Prop} {FN : Nat × Int32 × Int32 × zm_H → Prop} (hs : zSh zT0 h) (ho : f_Ground_tryOut_l55_b_ok v1 v2 v3 h) (hF : FN (f_Ground_tryOut_l55_b v1 v2 v3 h)) (hl0 : ∀ (v2 : Int32) (v3 : Int32) (h : zm_H) (o4 : Option Value), zSh zT0 h → FN (0, v2, v3, h) → zg x (d + 4) 41 55 [some (.ref 82), some (.int v1), some (.int v2), some (.int v3), o4] [] h Q) (hl1 : ∀ (v2 : Int32) (v3 : Int32) (h : zm_H) (o2 : Option Value) (o3 : Option Value) (o4 : Option Value), zSh zT0 h → FN (1, v2, v3, h) → zg x (d + 4) 41 93 [some (.ref 82), some (.int v1), o2, o3, o4] [] h Q) (hl2 : ∀ (v2 : Int32) (v3 : Int32) (h : zm_H) (o3 : Option Value) (o4 : Option Value), zSh zT0 h → FN (2, v2, v3, h) → zg x (d + 4) 41 147 [some (.ref 82), some (.int v1), some (.int v2), o3, o4] [] h Q) : zg x (d + 4) 41 55 [some (.ref 82), some (.int v1), some (.int v2), some (.int v3), o4] [] h Q := by
  unfold f_Ground_tryOut_l55_b at hF
  unfold f_Ground_tryOut_l55_b_ok at ho
  refine zg_blk zd_41 3 hs (rfl : zb x zT0 zc_41 3 (55, [some (.ref 82), some (.int v1), some (.int v2), some (.int v3), o4], [], h) = some (60, [some (.ref 82), some (.int v1), some (.int v2), some (.int v3), o4], [.int (zf h 82 11), .int v3], h)) (fun hs => ?_)
  refine zg_i_ge zd_41 rfl (fun (hc : ((zf h 82 11) ≤ v3)) => ?_) (fun (hc : ¬ ((zf h 82 11) ≤ v3)) => ?_)
  · have ho := ho.1 hc
    rw [if_pos hc] at hF
    exact hl2 v2 v3 h (some (.int v3)) (o4) hs hF
  · have ho := ho.2 hc
    rw [if_neg hc] at hF
    refine zg_blk zd_41 5 hs (rfl : zb x zT0 zc_41 5 (63, [some (.ref 82), some (.int v1), some (.int v2), some (.int v3), o4], [], h) = some (72, [some (.ref 82), some (.int v1), some (.int v2), some (.int v3), o4], [.int v3, .ref 88, .ref 32], h)) (fun hs => ?_)
    obtain ⟨hob, ho⟩ := ho
    refine zg_ial hs zd_41 rfl rfl hob ?_
    obtain ⟨hob, ho⟩ := ho
    refine zg_call hs zd_41 rfl rfl rfl rfl (as := [.ref 32, .int (zr h 88 v3)]) (rest := []) (en := [some (.ref 32), some (.int (zr h 88 v3)), none, none, none, none]) rfl rfl rfl rfl rfl ?_
    refine f_Waves_run_t (zr h 88 v3) h hs hob (fun hs => ?_)
    show zg x (d + 4) 41 76 [some (.ref 82), some (.int v1), some (.int v2), some (.int v3), o4] [] (f_Waves_run (zr h 88 v3) h) Q
    exact f_Ground_tryOut_l55_k76_t v1 v2 v3 (f_Waves_run (zr h 88 v3) h) (o4) hs ho hF hl0 hl1 hl2
theorem f_Ground_tryOut_l55_b_w (v1 : Int32) (v2 : Int32) (v3 : Int32) (h : zm_H) : zWr [32, 34, 35, 36] h ((f_Ground_tryOut_l55_b v1 v2 v3 h).2.2.2) := (zWr_ite (fun z : Nat × Int32 × Int32 × zm_H => z.2.2.2) (zWr.refl _ _) (zWr_tr (f_Ground_tryOut_l55_k76_w v1 v2 v3 (f_Waves_run (zr h 88 v3) h)) (by decide) (zWr_tr (f_Waves_run_w (zr h 88 v3) h) (by decide) (zWr.refl _ _))))
def f_Ground_tryOut_l55 (v1 : Int32) (n : Nat) (t : Int32 × Int32 × zm_H) : Nat × Int32 × Int32 × zm_H := zwh (fun t => f_Ground_tryOut_l55_b v1 t.1 t.2.1 t.2.2) n t
def f_Ground_tryOut_l55_ok (v1 : Int32) (n : Nat) (t : Int32 × Int32 × zm_H) : Prop := zwo (fun t => f_Ground_tryOut_l55_b v1 t.1 t.2.1 t.2.2) (fun t => f_Ground_tryOut_l55_b_ok v1 t.1 t.2.1 t.2.2) n t
theorem f_Ground_tryOut_l55_t {x : zm_X} {d : Nat} (v1 : Int32) {Q : Option Value → zm_H → Prop} (G : Nat × Int32 × Int32 × zm_H → Prop) (hx1 : ∀ (v2 : Int32) (v3 : Int32) (h : zm_H) (o2 : Option Value) (o3 : Option Value) (o4 : Option Value), zSh zT0 h → G (1, v2, v3, h) → zg x (d + 4) 41 93 [some (.ref 82), some (.int v1), o2, o3, o4] [] h Q) (hx2 : ∀ (v2 : Int32) (v3 : Int32) (h : zm_H) (o3 : Option Value) (o4 : Option Value), zSh zT0 h → G (2, v2, v3, h) → zg x (d + 4) 41 147 [some (.ref 82), some (.int v1), some (.int v2), o3, o4] [] h Q) : ∀ (n : Nat) (v2 : Int32) (v3 : Int32) (h : zm_H) (o4 : Option Value), zSh zT0 h → f_Ground_tryOut_l55_ok v1 n (v2, v3, h) → G (f_Ground_tryOut_l55 v1 n (v2, v3, h)) → zg x (d + 4) 41 55 [some (.ref 82), some (.int v1), some (.int v2), some (.int v3), o4] [] h Q := by
  intro n
  induction n with
  | zero => intro v2 v3 h o4 hs ho hG; exact ho.elim
  | succ n ih =>
    intro v2 v3 h o4 hs ho hG
    refine f_Ground_tryOut_l55_b_t (FN := fun r => (r.1 = 0 → f_Ground_tryOut_l55_ok v1 n r.2) ∧ G (if r.1 = 0 then f_Ground_tryOut_l55 v1 n r.2 else r)) v1 v2 v3 h o4 hs ho.1 ⟨ho.2, hG⟩ ?_ ?_ ?_
    · intro v2 v3 h o4 hs hF
      exact ih v2 v3 h o4 hs (hF.1 rfl) hF.2
    · intro v2 v3 h o2 o3 o4 hs hF
      exact hx1 v2 v3 h o2 o3 o4 hs hF.2
    · intro v2 v3 h o3 o4 hs hF
      exact hx2 v2 v3 h o3 o4 hs hF.2

theorem f_Ground_tryOut_l55_w (v1 : Int32) (n : Nat) (t : Int32 × Int32 × zm_H) : zWr [32, 34, 35, 36] (t.2.2) ((f_Ground_tryOut_l55 v1 n t).2.2.2) := zWr_zwh (fun t : Int32 × Int32 × zm_H => t.2.2) (fun t => f_Ground_tryOut_l55_b_w v1 t.1 t.2.1 t.2.2)
def f_Ground_tryOut_k93 (h : zm_H) : Int32 × zm_H := ((-1), h)
def f_Ground_tryOut_k93_ok (h : zm_H) : Prop := True
set_option maxRecDepth 100000 in
set_option maxHeartbeats 400000 in
theorem f_Ground_tryOut_k93_t {x : zm_X} {d : Nat} (h : zm_H) (o0 : Option Value) (z1 : Int32) (o2 : Option Value) (o3 : Option Value) (o4 : Option Value) {Q : Option Value → zm_H → Prop} (hs : zSh zT0 h) (ho : f_Ground_tryOut_k93_ok h) (hF : (zSh zT0 (f_Ground_tryOut_k93 h).2 → Q (some (.int (f_Ground_tryOut_k93 h).1)) (f_Ground_tryOut_k93 h).2)) : zg x (d + 4) 41 93 [o0, some (.int z1), o2, o3, o4] [] h Q := by
  unfold f_Ground_tryOut_k93 at hF
  unfold f_Ground_tryOut_k93_ok at ho
  refine zg_blk zd_41 1 hs (rfl : zb x zT0 zc_41 1 (93, [o0, some (.int z1), o2, o3, o4], [], h) = some (94, [o0, some (.int z1), o2, o3, o4], [.int (-1)], h)) (fun hs => ?_)
  exact zg_ret zd_41 rfl rfl (hF hs)
theorem f_Ground_tryOut_k93_w (h : zm_H) : zWr [] h ((f_Ground_tryOut_k93 h).2) := (zWr.refl _ _)
def f_Ground_tryOut_k147 (v2 : Int32) (h : zm_H) : Int32 × zm_H := (v2, h)
def f_Ground_tryOut_k147_ok (v2 : Int32) (h : zm_H) : Prop := True
set_option maxRecDepth 100000 in
set_option maxHeartbeats 400000 in
theorem f_Ground_tryOut_k147_t {x : zm_X} {d : Nat} (v2 : Int32) (h : zm_H) (o0 : Option Value) (z1 : Int32) (o3 : Option Value) (o4 : Option Value) {Q : Option Value → zm_H → Prop} (hs : zSh zT0 h) (ho : f_Ground_tryOut_k147_ok v2 h) (hF : (zSh zT0 (f_Ground_tryOut_k147 v2 h).2 → Q (some (.int (f_Ground_tryOut_k147 v2 h).1)) (f_Ground_tryOut_k147 v2 h).2)) : zg x (d + 4) 41 147 [o0, some (.int z1), some (.int v2), o3, o4] [] h Q := by
  unfold f_Ground_tryOut_k147 at hF
  unfold f_Ground_tryOut_k147_ok at ho
  refine zg_blk zd_41 1 hs (rfl : zb x zT0 zc_41 1 (147, [o0, some (.int z1), some (.int v2), o3, o4], [], h) = some (148, [o0, some (.int z1), some (.int v2), o3, o4], [.int v2], h)) (fun hs => ?_)
  exact zg_ret zd_41 rfl rfl (hF hs)
theorem f_Ground_tryOut_k147_w (v2 : Int32) (h : zm_H) : zWr [] h ((f_Ground_tryOut_k147 v2 h).2) := (zWr.refl _ _)
def f_Ground_tryOut_a55 (r : Nat × Int32 × Int32 × zm_H) : Int32 × zm_H := (if r.1 = 1 then (f_Ground_tryOut_k93 (r.2.2.2)) else (f_Ground_tryOut_k147 (r.2.1) (r.2.2.2)))
def f_Ground_tryOut_a55_ok (r : Nat × Int32 × Int32 × zm_H) : Prop := ((r.1 = 1 → True) ∧ (¬ r.1 = 1 → True))
theorem f_Ground_tryOut_a55_w (r : Nat × Int32 × Int32 × zm_H) : zWr [] (r.2.2.2) ((f_Ground_tryOut_a55 r).2) := (zWr_ite (fun z : Int32 × zm_H => z.2) (zWr_tr (f_Ground_tryOut_k93_w (r.2.2.2)) (by decide) (zWr.refl _ _)) (zWr_tr (f_Ground_tryOut_k147_w (r.2.1) (r.2.2.2)) (by decide) (zWr.refl _ _)))
def f_Ground_tryOut_k51 (v1 : Int32) (h : zm_H) : Int32 × zm_H := (f_Ground_tryOut_a55 (f_Ground_tryOut_l55 v1 zF (0, 0, h)))
def f_Ground_tryOut_k51_ok (v1 : Int32) (h : zm_H) : Prop := (f_Ground_tryOut_l55_ok v1 zF (0, 0, h) ∧ f_Ground_tryOut_a55_ok (f_Ground_tryOut_l55 v1 zF (0, 0, h)))
set_option maxRecDepth 100000 in
set_option maxHeartbeats 400000 in
theorem f_Ground_tryOut_k51_t {x : zm_X} {d : Nat} (v1 : Int32) (h : zm_H) (o2 : Option Value) (o3 : Option Value) (o4 : Option Value) {Q : Option Value → zm_H → Prop} (hs : zSh zT0 h) (ho : f_Ground_tryOut_k51_ok v1 h) (hF : (zSh zT0 (f_Ground_tryOut_k51 v1 h).2 → Q (some (.int (f_Ground_tryOut_k51 v1 h).1)) (f_Ground_tryOut_k51 v1 h).2)) : zg x (d + 4) 41 51 [some (.ref 82), some (.int v1), o2, o3, o4] [] h Q := by
  unfold f_Ground_tryOut_k51 at hF
  unfold f_Ground_tryOut_k51_ok at ho
  refine zg_blk zd_41 4 hs (rfl : zb x zT0 zc_41 4 (51, [some (.ref 82), some (.int v1), o2, o3, o4], [], h) = some (55, [some (.ref 82), some (.int v1), some (.int 0), some (.int 0), o4], [], h)) (fun hs => ?_)
  refine f_Ground_tryOut_l55_t v1 (fun r => f_Ground_tryOut_a55_ok r ∧ (zSh zT0 (f_Ground_tryOut_a55 r).2 → Q (some (.int (f_Ground_tryOut_a55 r).1)) (f_Ground_tryOut_a55 r).2)) ?_ ?_ zF 0 0 h (o4) hs ho.1 ⟨ho.2, hF⟩
  · intro v2_ v3_ h_ o2_ o3_ o4_ hs hG
    have ho : True := trivial
    have hF : (zSh zT0 ((f_Ground_tryOut_k93 h_)).2 → Q (some (.int ((f_Ground_tryOut_k93 h_)).1)) ((f_Ground_tryOut_k93 h_)).2) := hG.2
    exact f_Ground_tryOut_k93_t h_ (some (.ref 82)) v1 (o2_) (o3_) (o4_) hs trivial hF
  · intro v2_ v3_ h_ o3_ o4_ hs hG
    have ho : True := trivial
    have hF : (zSh zT0 ((f_Ground_tryOut_k147 v2_ h_)).2 → Q (some (.int ((f_Ground_tryOut_k147 v2_ h_)).1)) ((f_Ground_tryOut_k147 v2_ h_)).2) := hG.2
    exact f_Ground_tryOut_k147_t v2_ h_ (some (.ref 82)) v1 (o3_) (o4_) hs trivial hF
theorem f_Ground_tryOut_k51_w (v1 : Int32) (h : zm_H) : zWr [32, 34, 35, 36] h ((f_Ground_tryOut_k51 v1 h).2) := (zWr_tr (f_Ground_tryOut_a55_w (f_Ground_tryOut_l55 v1 zF (0, 0, h))) (by decide) (zWr_tr (f_Ground_tryOut_l55_w v1 zF (0, 0, h)) (by decide) (zWr.refl _ _)))
def f_Ground_tryOut_a13 (v1 : Int32) (r : Nat × Int32 × zm_H) : Int32 × zm_H := (f_Ground_tryOut_k51 v1 (r.2.2))
def f_Ground_tryOut_a13_ok (v1 : Int32) (r : Nat × Int32 × zm_H) : Prop := (f_Ground_tryOut_k51_ok v1 (r.2.2))
theorem f_Ground_tryOut_a13_w (v1 : Int32) (r : Nat × Int32 × zm_H) : zWr [32, 34, 35, 36] (r.2.2) ((f_Ground_tryOut_a13 v1 r).2) := (zWr_tr (f_Ground_tryOut_k51_w v1 (r.2.2)) (by decide) (zWr.refl _ _))
def f_Ground_tryOut_k11 (v1 : Int32) (h : zm_H) : Int32 × zm_H := (f_Ground_tryOut_a13 v1 (f_Ground_tryOut_l13 v1 zF (0, h)))
def f_Ground_tryOut_k11_ok (v1 : Int32) (h : zm_H) : Prop := (f_Ground_tryOut_l13_ok v1 zF (0, h) ∧ f_Ground_tryOut_a13_ok v1 (f_Ground_tryOut_l13 v1 zF (0, h)))
set_option maxRecDepth 100000 in
set_option maxHeartbeats 400000 in
theorem f_Ground_tryOut_k11_t {x : zm_X} {d : Nat} (v1 : Int32) (h : zm_H) (o2 : Option Value) (o3 : Option Value) (o4 : Option Value) {Q : Option Value → zm_H → Prop} (hs : zSh zT0 h) (ho : f_Ground_tryOut_k11_ok v1 h) (hF : (zSh zT0 (f_Ground_tryOut_k11 v1 h).2 → Q (some (.int (f_Ground_tryOut_k11 v1 h).1)) (f_Ground_tryOut_k11 v1 h).2)) : zg x (d + 4) 41 11 [some (.ref 82), some (.int v1), o2, o3, o4] [] h Q := by
  unfold f_Ground_tryOut_k11 at hF
  unfold f_Ground_tryOut_k11_ok at ho
  refine zg_blk zd_41 2 hs (rfl : zb x zT0 zc_41 2 (11, [some (.ref 82), some (.int v1), o2, o3, o4], [], h) = some (13, [some (.ref 82), some (.int v1), some (.int 0), o3, o4], [], h)) (fun hs => ?_)
  refine f_Ground_tryOut_l13_t v1 (fun r => f_Ground_tryOut_a13_ok v1 r ∧ (zSh zT0 (f_Ground_tryOut_a13 v1 r).2 → Q (some (.int (f_Ground_tryOut_a13 v1 r).1)) (f_Ground_tryOut_a13 v1 r).2)) ?_ zF 0 h (o3) (o4) hs ho.1 ⟨ho.2, hF⟩
  · intro v2_ h_ o2_ o3_ o4_ hs hG
    have ho : (f_Ground_tryOut_k51_ok v1 h_) := hG.1
    have hF : (zSh zT0 ((f_Ground_tryOut_k51 v1 h_)).2 → Q (some (.int ((f_Ground_tryOut_k51 v1 h_)).1)) ((f_Ground_tryOut_k51 v1 h_)).2) := hG.2
    exact f_Ground_tryOut_k51_t v1 h_ (o2_) (o3_) (o4_) hs ho hF
theorem f_Ground_tryOut_k11_w (v1 : Int32) (h : zm_H) : zWr [32, 33, 34, 35, 36] h ((f_Ground_tryOut_k11 v1 h).2) := (zWr_tr (f_Ground_tryOut_a13_w v1 (f_Ground_tryOut_l13 v1 zF (0, h))) (by decide) (zWr_tr (f_Ground_tryOut_l13_w v1 zF (0, h)) (by decide) (zWr.refl _ _)))
def f_Ground_tryOut (p1 : Int32) (h : zm_H) : Int32 × zm_H := (f_Ground_tryOut_k11 p1 (f_Course_putInto_37 h))
def f_Ground_tryOut_ok (p1 : Int32) (h : zm_H) : Prop := (f_Course_putInto_37_ok h ∧ (f_Ground_tryOut_k11_ok p1 (f_Course_putInto_37 h)))
set_option maxRecDepth 100000 in
set_option maxHeartbeats 400000 in
theorem f_Ground_tryOut_t {x : zm_X} {d : Nat} (p1 : Int32) (h : zm_H) {Q : Option Value → zm_H → Prop} (hs : zSh zT0 h) (ho : f_Ground_tryOut_ok p1 h) (hF : (zSh zT0 (f_Ground_tryOut p1 h).2 → Q (some (.int (f_Ground_tryOut p1 h).1)) (f_Ground_tryOut p1 h).2)) : zg x (d + 4) 41 0 [some (.ref 82), some (.int p1), none, none, none] [] h Q := by
  unfold f_Ground_tryOut at hF
  unfold f_Ground_tryOut_ok at ho
  refine zg_blk zd_41 4 hs (rfl : zb x zT0 zc_41 4 (0, [some (.ref 82), some (.int p1), none, none, none], [], h) = some (8, [some (.ref 82), some (.int p1), none, none, none], [.ref 32, .ref 37], h)) (fun hs => ?_)
  obtain ⟨hob, ho⟩ := ho
  refine zg_call hs zd_41 rfl rfl rfl rfl (as := [.ref 37, .ref 32]) (rest := []) (en := [some (.ref 37), some (.ref 32), none]) rfl rfl rfl rfl rfl ?_
  refine f_Course_putInto_37_t  h hs hob (fun hs => ?_)
  show zg x (d + 4) 41 11 [some (.ref 82), some (.int p1), none, none, none] [] (f_Course_putInto_37 h) Q
  exact f_Ground_tryOut_k11_t p1 (f_Course_putInto_37 h) (none) (none) (none) hs ho hF
theorem f_Ground_tryOut_w (p1 : Int32) (h : zm_H) : zWr [32, 33, 34, 35, 36] h ((f_Ground_tryOut p1 h).2) := (zWr_tr (f_Ground_tryOut_k11_w p1 (f_Course_putInto_37 h)) (by decide) (zWr_tr (f_Course_putInto_37_w h) (by decide) (zWr.refl _ _)))
def f_Ground_search_l35_k63 (v1 : Int32) (v2 : Int32) (v3 : Int32) (v4 : Int32) (w0 : Int32) (h : zm_H) : Nat × Int32 × zm_H := (f_Ground_search_l35_k67 v1 v2 v3 v4 w0 h)
def f_Ground_search_l35_k63_ok (v1 : Int32) (v2 : Int32) (v3 : Int32) (v4 : Int32) (w0 : Int32) (h : zm_H) : Prop := (f_Ground_search_l35_k67_ok v1 v2 v3 v4 w0 h)
set_option maxRecDepth 100000 in
set_option maxHeartbeats 400000 in
theorem f_Ground_search_l35_k63_t {x : zm_X} {d : Nat} (v1 : Int32) (v2 : Int32) (v3 : Int32) (v4 : Int32) (w0 : Int32) (h : zm_H) (o5 : Option Value) (o6 : Option Value) {Q : Option Value → zm_H → Prop} {FN : Nat × Int32 × zm_H → Prop} (hs : zSh zT0 h) (ho : f_Ground_search_l35_k63_ok v1 v2 v3 v4 w0 h) (hF : FN (f_Ground_search_l35_k63 v1 v2 v3 v4 w0 h)) (hl0 : ∀ (v4 : Int32) (h : zm_H) (o5 : Option Value) (o6 : Option Value), zSh zT0 h → FN (0, v4, h) → zg x (d + 5) 38 35 [some (.ref 82), some (.int v1), some (.int v2), some (.int v3), some (.int v4), o5, o6] [] h Q) (hl1 : ∀ (v4 : Int32) (h : zm_H) (o4 : Option Value) (o5 : Option Value) (o6 : Option Value), zSh zT0 h → FN (1, v4, h) → zg x (d + 5) 38 127 [some (.ref 82), some (.int v1), some (.int v2), some (.int v3), o4, o5, o6] [] h Q) : zg x (d + 5) 38 63 [some (.ref 82), some (.int v1), some (.int v2), some (.int v3), some (.int v4), o5, o6] [.int w0] h Q := by
  unfold f_Ground_search_l35_k63 at hF
  unfold f_Ground_search_l35_k63_ok at ho
  refine zg_blk zd_38 1 hs (rfl : zb x zT0 zc_38 1 (63, [some (.ref 82), some (.int v1), some (.int v2), some (.int v3), some (.int v4), o5, o6], [.int w0], h) = some (67, [some (.ref 82), some (.int v1), some (.int v2), some (.int v3), some (.int v4), o5, o6], [.int w0], h)) (fun hs => ?_)
  exact f_Ground_search_l35_k67_t v1 v2 v3 v4 w0 h (o5) (o6) hs ho hF hl0 hl1
theorem f_Ground_search_l35_k63_w (v1 : Int32) (v2 : Int32) (v3 : Int32) (v4 : Int32) (w0 : Int32) (h : zm_H) : zWr [82, 90] h ((f_Ground_search_l35_k63 v1 v2 v3 v4 w0 h).2.2) := (zWr_tr (f_Ground_search_l35_k67_w v1 v2 v3 v4 w0 h) (by decide) (zWr.refl _ _))
def f_Ground_search_l35_k47 (v1 : Int32) (v2 : Int32) (v3 : Int32) (v4 : Int32) (w0 : Int32) (h : zm_H) : Nat × Int32 × zm_H := (if (w0 = 0) then (f_Ground_search_l35_k66 v1 v2 v3 v4 h) else (if ((f_Ground_isOpen v2 h) = 0) then (f_Ground_search_l35_k66 v1 v2 v3 v4 h) else (f_Ground_search_l35_k63 v1 v2 v3 v4 (f_Ground_tryOut v1 h).1 (f_Ground_tryOut v1 h).2)))
def f_Ground_search_l35_k47_ok (v1 : Int32) (v2 : Int32) (v3 : Int32) (v4 : Int32) (w0 : Int32) (h : zm_H) : Prop := (((w0 = 0) → (f_Ground_search_l35_k66_ok v1 v2 v3 v4 h)) ∧ (¬ (w0 = 0) → (f_Ground_isOpen_ok v2 h ∧ ((((f_Ground_isOpen v2 h) = 0) → (f_Ground_search_l35_k66_ok v1 v2 v3 v4 h)) ∧ (¬ ((f_Ground_isOpen v2 h) = 0) → (f_Ground_tryOut_ok v1 h ∧ (f_Ground_search_l35_k63_ok v1 v2 v3 v4 (f_Ground_tryOut v1 h).1 (f_Ground_tryOut v1 h).2)))))))
set_option maxRecDepth 100000 in
set_option maxHeartbeats 400000 in
theorem f_Ground_search_l35_k47_t {x : zm_X} {d : Nat} (v1 : Int32) (v2 : Int32) (v3 : Int32) (v4 : Int32) (w0 : Int32) (h : zm_H) (o5 : Option Value) (o6 : Option Value) {Q : Option Value → zm_H → Prop} {FN : Nat × Int32 × zm_H → Prop} (hs : zSh zT0 h) (ho : f_Ground_search_l35_k47_ok v1 v2 v3 v4 w0 h) (hF : FN (f_Ground_search_l35_k47 v1 v2 v3 v4 w0 h)) (hl0 : ∀ (v4 : Int32) (h : zm_H) (o5 : Option Value) (o6 : Option Value), zSh zT0 h → FN (0, v4, h) → zg x (d + 5) 38 35 [some (.ref 82), some (.int v1), some (.int v2), some (.int v3), some (.int v4), o5, o6] [] h Q) (hl1 : ∀ (v4 : Int32) (h : zm_H) (o4 : Option Value) (o5 : Option Value) (o6 : Option Value), zSh zT0 h → FN (1, v4, h) → zg x (d + 5) 38 127 [some (.ref 82), some (.int v1), some (.int v2), some (.int v3), o4, o5, o6] [] h Q) : zg x (d + 5) 38 47 [some (.ref 82), some (.int v1), some (.int v2), some (.int v3), some (.int v4), o5, o6] [.int w0] h Q := by
  unfold f_Ground_search_l35_k47 at hF
  unfold f_Ground_search_l35_k47_ok at ho
  refine zg_f_eq zd_38 rfl (fun (hc : (w0 = 0)) => ?_) (fun (hc : ¬ (w0 = 0)) => ?_)
  · have ho := ho.1 hc
    rw [if_pos hc] at hF
    exact f_Ground_search_l35_k66_t v1 v2 v3 v4 h (o5) (o6) hs ho hF hl0 hl1
  · have ho := ho.2 hc
    rw [if_neg hc] at hF
    refine zg_blk zd_38 2 hs (rfl : zb x zT0 zc_38 2 (50, [some (.ref 82), some (.int v1), some (.int v2), some (.int v3), some (.int v4), o5, o6], [], h) = some (52, [some (.ref 82), some (.int v1), some (.int v2), some (.int v3), some (.int v4), o5, o6], [.int v2, .ref 82], h)) (fun hs => ?_)
    obtain ⟨hob, ho⟩ := ho
    refine zg_call hs zd_38 rfl rfl rfl rfl (as := [.ref 82, .int v2]) (rest := []) (en := [some (.ref 82), some (.int v2), none, none]) rfl rfl rfl rfl rfl ?_
    refine f_Ground_isOpen_t v2 h hs hob ?_
    show zg x (d + 5) 38 55 [some (.ref 82), some (.int v1), some (.int v2), some (.int v3), some (.int v4), o5, o6] [.int (f_Ground_isOpen v2 h)] h Q
    refine zg_f_eq zd_38 rfl (fun (hc : ((f_Ground_isOpen v2 h) = 0)) => ?_) (fun (hc : ¬ ((f_Ground_isOpen v2 h) = 0)) => ?_)
    · have ho := ho.1 hc
      rw [if_pos hc] at hF
      exact f_Ground_search_l35_k66_t v1 v2 v3 v4 h (o5) (o6) hs ho hF hl0 hl1
    · have ho := ho.2 hc
      rw [if_neg hc] at hF
      refine zg_blk zd_38 2 hs (rfl : zb x zT0 zc_38 2 (58, [some (.ref 82), some (.int v1), some (.int v2), some (.int v3), some (.int v4), o5, o6], [], h) = some (60, [some (.ref 82), some (.int v1), some (.int v2), some (.int v3), some (.int v4), o5, o6], [.int v1, .ref 82], h)) (fun hs => ?_)
      obtain ⟨hob, ho⟩ := ho
      refine zg_call hs zd_38 rfl rfl rfl rfl (as := [.ref 82, .int v1]) (rest := []) (en := [some (.ref 82), some (.int v1), none, none, none]) rfl rfl rfl rfl rfl ?_
      refine f_Ground_tryOut_t v1 h hs hob (fun hs => ?_)
      show zg x (d + 5) 38 63 [some (.ref 82), some (.int v1), some (.int v2), some (.int v3), some (.int v4), o5, o6] [.int (f_Ground_tryOut v1 h).1] (f_Ground_tryOut v1 h).2 Q
      exact f_Ground_search_l35_k63_t v1 v2 v3 v4 (f_Ground_tryOut v1 h).1 (f_Ground_tryOut v1 h).2 (o5) (o6) hs ho hF hl0 hl1
theorem f_Ground_search_l35_k47_w (v1 : Int32) (v2 : Int32) (v3 : Int32) (v4 : Int32) (w0 : Int32) (h : zm_H) : zWr [32, 33, 34, 35, 36, 82, 90] h ((f_Ground_search_l35_k47 v1 v2 v3 v4 w0 h).2.2) := (zWr_ite (fun z : Nat × Int32 × zm_H => z.2.2) (zWr_tr (f_Ground_search_l35_k66_w v1 v2 v3 v4 h) (by decide) (zWr.refl _ _)) (zWr_ite (fun z : Nat × Int32 × zm_H => z.2.2) (zWr_tr (f_Ground_search_l35_k66_w v1 v2 v3 v4 h) (by decide) (zWr.refl _ _)) (zWr_tr (f_Ground_search_l35_k63_w v1 v2 v3 v4 (f_Ground_tryOut v1 h).1 (f_Ground_tryOut v1 h).2) (by decide) (zWr_tr (f_Ground_tryOut_w v1 h) (by decide) (zWr.refl _ _)))))
def f_Ground_search_l35_b (v1 : Int32) (v2 : Int32) (v3 : Int32) (v4 : Int32) (h : zm_H) : Nat × Int32 × zm_H := (if (v3 ≤ v4) then (1, v4, h) else (f_Ground_search_l35_k47 v1 v2 v3 v4 (f_Ground_setTrial v4 h).1 (f_Ground_setTrial v4 h).2))
def f_Ground_search_l35_b_ok (v1 : Int32) (v2 : Int32) (v3 : Int32) (v4 : Int32) (h : zm_H) : Prop := (((v3 ≤ v4) → True) ∧ (¬ (v3 ≤ v4) → (f_Ground_setTrial_ok v4 h ∧ (f_Ground_search_l35_k47_ok v1 v2 v3 v4 (f_Ground_setTrial v4 h).1 (f_Ground_setTrial v4 h).2))))
set_option maxRecDepth 100000 in
set_option maxHeartbeats 400000 in
theorem f_Ground_search_l35_b_t {x : zm_X} {d : Nat} (v1 : Int32) (v2 : Int32) (v3 : Int32) (v4 : Int32) (h : zm_H) (o5 : Option Value) (o6 : Option Value) {Q : Option Value → zm_H → Prop} {FN : Nat × Int32 × zm_H → Prop} (hs : zSh zT0 h) (ho : f_Ground_search_l35_b_ok v1 v2 v3 v4 h) (hF : FN (f_Ground_search_l35_b v1 v2 v3 v4 h)) (hl0 : ∀ (v4 : Int32) (h : zm_H) (o5 : Option Value) (o6 : Option Value), zSh zT0 h → FN (0, v4, h) → zg x (d + 5) 38 35 [some (.ref 82), some (.int v1), some (.int v2), some (.int v3), some (.int v4), o5, o6] [] h Q) (hl1 : ∀ (v4 : Int32) (h : zm_H) (o4 : Option Value) (o5 : Option Value) (o6 : Option Value), zSh zT0 h → FN (1, v4, h) → zg x (d + 5) 38 127 [some (.ref 82), some (.int v1), some (.int v2), some (.int v3), o4, o5, o6] [] h Q) : zg x (d + 5) 38 35 [some (.ref 82), some (.int v1), some (.int v2), some (.int v3), some (.int v4), o5, o6] [] h Q := by
  unfold f_Ground_search_l35_b at hF
  unfold f_Ground_search_l35_b_ok at ho
  refine zg_blk zd_38 2 hs (rfl : zb x zT0 zc_38 2 (35, [some (.ref 82), some (.int v1), some (.int v2), some (.int v3), some (.int v4), o5, o6], [], h) = some (38, [some (.ref 82), some (.int v1), some (.int v2), some (.int v3), some (.int v4), o5, o6], [.int v3, .int v4], h)) (fun hs => ?_)
  refine zg_i_ge zd_38 rfl (fun (hc : (v3 ≤ v4)) => ?_) (fun (hc : ¬ (v3 ≤ v4)) => ?_)
  · have ho := ho.1 hc
    rw [if_pos hc] at hF
    exact hl1 v4 h (some (.int v4)) (o5) (o6) hs hF
  · have ho := ho.2 hc
    rw [if_neg hc] at hF
    refine zg_blk zd_38 2 hs (rfl : zb x zT0 zc_38 2 (41, [some (.ref 82), some (.int v1), some (.int v2), some (.int v3), some (.int v4), o5, o6], [], h) = some (44, [some (.ref 82), some (.int v1), some (.int v2), some (.int v3), some (.int v4), o5, o6], [.int v4, .ref 82], h)) (fun hs => ?_)
    obtain ⟨hob, ho⟩ := ho
    refine zg_call hs zd_38 rfl rfl rfl rfl (as := [.ref 82, .int v4]) (rest := []) (en := [some (.ref 82), some (.int v4), none, none, none]) rfl rfl rfl rfl rfl ?_
    refine f_Ground_setTrial_t v4 h hs hob (fun hs => ?_)
    show zg x (d + 5) 38 47 [some (.ref 82), some (.int v1), some (.int v2), some (.int v3), some (.int v4), o5, o6] [.int (f_Ground_setTrial v4 h).1] (f_Ground_setTrial v4 h).2 Q
    exact f_Ground_search_l35_k47_t v1 v2 v3 v4 (f_Ground_setTrial v4 h).1 (f_Ground_setTrial v4 h).2 (o5) (o6) hs ho hF hl0 hl1
theorem f_Ground_search_l35_b_w (v1 : Int32) (v2 : Int32) (v3 : Int32) (v4 : Int32) (h : zm_H) : zWr [32, 33, 34, 35, 36, 82, 89, 90] h ((f_Ground_search_l35_b v1 v2 v3 v4 h).2.2) := (zWr_ite (fun z : Nat × Int32 × zm_H => z.2.2) (zWr.refl _ _) (zWr_tr (f_Ground_search_l35_k47_w v1 v2 v3 v4 (f_Ground_setTrial v4 h).1 (f_Ground_setTrial v4 h).2) (by decide) (zWr_tr (f_Ground_setTrial_w v4 h) (by decide) (zWr.refl _ _))))
def f_Ground_search_l35 (v1 : Int32) (v2 : Int32) (v3 : Int32) (n : Nat) (t : Int32 × zm_H) : Nat × Int32 × zm_H := zwh (fun t => f_Ground_search_l35_b v1 v2 v3 t.1 t.2) n t
def f_Ground_search_l35_ok (v1 : Int32) (v2 : Int32) (v3 : Int32) (n : Nat) (t : Int32 × zm_H) : Prop := zwo (fun t => f_Ground_search_l35_b v1 v2 v3 t.1 t.2) (fun t => f_Ground_search_l35_b_ok v1 v2 v3 t.1 t.2) n t
theorem f_Ground_search_l35_t {x : zm_X} {d : Nat} (v1 : Int32) (v2 : Int32) (v3 : Int32) {Q : Option Value → zm_H → Prop} (G : Nat × Int32 × zm_H → Prop) (hx1 : ∀ (v4 : Int32) (h : zm_H) (o4 : Option Value) (o5 : Option Value) (o6 : Option Value), zSh zT0 h → G (1, v4, h) → zg x (d + 5) 38 127 [some (.ref 82), some (.int v1), some (.int v2), some (.int v3), o4, o5, o6] [] h Q) : ∀ (n : Nat) (v4 : Int32) (h : zm_H) (o5 : Option Value) (o6 : Option Value), zSh zT0 h → f_Ground_search_l35_ok v1 v2 v3 n (v4, h) → G (f_Ground_search_l35 v1 v2 v3 n (v4, h)) → zg x (d + 5) 38 35 [some (.ref 82), some (.int v1), some (.int v2), some (.int v3), some (.int v4), o5, o6] [] h Q := by
  intro n
  induction n with
  | zero => intro v4 h o5 o6 hs ho hG; exact ho.elim
  | succ n ih =>
    intro v4 h o5 o6 hs ho hG
    refine f_Ground_search_l35_b_t (FN := fun r => (r.1 = 0 → f_Ground_search_l35_ok v1 v2 v3 n r.2) ∧ G (if r.1 = 0 then f_Ground_search_l35 v1 v2 v3 n r.2 else r)) v1 v2 v3 v4 h o5 o6 hs ho.1 ⟨ho.2, hG⟩ ?_ ?_
    · intro v4 h o5 o6 hs hF
      exact ih v4 h o5 o6 hs (hF.1 rfl) hF.2
    · intro v4 h o4 o5 o6 hs hF
      exact hx1 v4 h o4 o5 o6 hs hF.2

theorem f_Ground_search_l35_w (v1 : Int32) (v2 : Int32) (v3 : Int32) (n : Nat) (t : Int32 × zm_H) : zWr [32, 33, 34, 35, 36, 82, 89, 90] (t.2) ((f_Ground_search_l35 v1 v2 v3 n t).2.2) := zWr_zwh (fun t : Int32 × zm_H => t.2) (fun t => f_Ground_search_l35_b_w v1 v2 v3 t.1 t.2)
def f_Ground_search_k127 (h : zm_H) : zm_H := h
def f_Ground_search_k127_ok (h : zm_H) : Prop := True
set_option maxRecDepth 100000 in
set_option maxHeartbeats 400000 in
theorem f_Ground_search_k127_t {x : zm_X} {d : Nat} (h : zm_H) (o0 : Option Value) (o1 : Option Value) (z2 : Int32) (o3 : Option Value) (o4 : Option Value) (o5 : Option Value) (o6 : Option Value) {Q : Option Value → zm_H → Prop} (hs : zSh zT0 h) (ho : f_Ground_search_k127_ok h) (hF : (zSh zT0 (f_Ground_search_k127 h) → Q none (f_Ground_search_k127 h))) : zg x (d + 5) 38 127 [o0, o1, some (.int z2), o3, o4, o5, o6] [] h Q := by
  unfold f_Ground_search_k127 at hF
  unfold f_Ground_search_k127_ok at ho
  exact zg_ret zd_38 rfl rfl (hF hs)
theorem f_Ground_search_k127_w (h : zm_H) : zWr [] h ((f_Ground_search_k127 h)) := (zWr.refl _ _)
def f_Ground_search_a35 (r : Nat × Int32 × zm_H) : zm_H := (f_Ground_search_k127 (r.2.2))
def f_Ground_search_a35_ok (r : Nat × Int32 × zm_H) : Prop := True
theorem f_Ground_search_a35_w (r : Nat × Int32 × zm_H) : zWr [] (r.2.2) ((f_Ground_search_a35 r)) := (zWr_tr (f_Ground_search_k127_w (r.2.2)) (by decide) (zWr.refl _ _))
def f_Ground_search_k27 (v1 : Int32) (v2 : Int32) (v3 : Int32) (h : zm_H) : zm_H := (f_Ground_search_a35 (f_Ground_search_l35 v1 v2 v3 zF (0, (zp h 82 14 (-1)))))
def f_Ground_search_k27_ok (v1 : Int32) (v2 : Int32) (v3 : Int32) (h : zm_H) : Prop := (f_Ground_search_l35_ok v1 v2 v3 zF (0, (zp h 82 14 (-1))) ∧ f_Ground_search_a35_ok (f_Ground_search_l35 v1 v2 v3 zF (0, (zp h 82 14 (-1)))))
set_option maxRecDepth 100000 in
set_option maxHeartbeats 400000 in
theorem f_Ground_search_k27_t {x : zm_X} {d : Nat} (v1 : Int32) (v2 : Int32) (v3 : Int32) (h : zm_H) (o4 : Option Value) (o5 : Option Value) (o6 : Option Value) {Q : Option Value → zm_H → Prop} (hs : zSh zT0 h) (ho : f_Ground_search_k27_ok v1 v2 v3 h) (hF : (zSh zT0 (f_Ground_search_k27 v1 v2 v3 h) → Q none (f_Ground_search_k27 v1 v2 v3 h))) : zg x (d + 5) 38 27 [some (.ref 82), some (.int v1), some (.int v2), some (.int v3), o4, o5, o6] [] h Q := by
  unfold f_Ground_search_k27 at hF
  unfold f_Ground_search_k27_ok at ho
  refine zg_blk zd_38 5 hs (rfl : zb x zT0 zc_38 5 (27, [some (.ref 82), some (.int v1), some (.int v2), some (.int v3), o4, o5, o6], [], h) = some (35, [some (.ref 82), some (.int v1), some (.int v2), some (.int v3), some (.int 0), o5, o6], [], (zp h 82 14 (-1)))) (fun hs => ?_)
  refine f_Ground_search_l35_t v1 v2 v3 (fun r => f_Ground_search_a35_ok r ∧ (zSh zT0 (f_Ground_search_a35 r) → Q none (f_Ground_search_a35 r))) ?_ zF 0 (zp h 82 14 (-1)) (o5) (o6) hs ho.1 ⟨ho.2, hF⟩
  · intro v4_ h_ o4_ o5_ o6_ hs hG
    have ho : True := trivial
    have hF : (zSh zT0 ((f_Ground_search_k127 h_)) → Q none ((f_Ground_search_k127 h_))) := hG.2
    exact f_Ground_search_k127_t h_ (some (.ref 82)) (some (.int v1)) v2 (some (.int v3)) (o4_) (o5_) (o6_) hs trivial hF
theorem f_Ground_search_k27_w (v1 : Int32) (v2 : Int32) (v3 : Int32) (h : zm_H) : zWr [32, 33, 34, 35, 36, 82, 89, 90] h ((f_Ground_search_k27 v1 v2 v3 h)) := (zWr_tr (f_Ground_search_a35_w (f_Ground_search_l35 v1 v2 v3 zF (0, (zp h 82 14 (-1))))) (by decide) (zWr_tr (f_Ground_search_l35_w v1 v2 v3 zF (0, (zp h 82 14 (-1)))) (by decide) (zWr_si (by decide) (zWr.refl _ _))))
def f_Ground_search_a5 (v1 : Int32) (v2 : Int32) (r : Nat × Int32 × Int32) (h : zm_H) : zm_H := (f_Ground_search_k27 v1 v2 (r.2.1) h)
def f_Ground_search_a5_ok (v1 : Int32) (v2 : Int32) (r : Nat × Int32 × Int32) (h : zm_H) : Prop := (f_Ground_search_k27_ok v1 v2 (r.2.1) h)
theorem f_Ground_search_a5_w (v1 : Int32) (v2 : Int32) (r : Nat × Int32 × Int32) (h : zm_H) : zWr [32, 33, 34, 35, 36, 82, 89, 90] h ((f_Ground_search_a5 v1 v2 r h)) := (zWr_tr (f_Ground_search_k27_w v1 v2 (r.2.1) h) (by decide) (zWr.refl _ _))
def f_Ground_search (p1 : Int32) (p2 : Int32) (h : zm_H) : zm_H := (f_Ground_search_a5 p1 p2 (f_Ground_search_l5 p1 p2 h zF (1, 0)) h)
def f_Ground_search_ok (p1 : Int32) (p2 : Int32) (h : zm_H) : Prop := (f_Ground_search_l5_ok p1 p2 h zF (1, 0) ∧ f_Ground_search_a5_ok p1 p2 (f_Ground_search_l5 p1 p2 h zF (1, 0)) h)
set_option maxRecDepth 100000 in
set_option maxHeartbeats 400000 in
theorem f_Ground_search_t {x : zm_X} {d : Nat} (p1 : Int32) (p2 : Int32) (h : zm_H) {Q : Option Value → zm_H → Prop} (hs : zSh zT0 h) (ho : f_Ground_search_ok p1 p2 h) (hF : (zSh zT0 (f_Ground_search p1 p2 h) → Q none (f_Ground_search p1 p2 h))) : zg x (d + 5) 38 0 [some (.ref 82), some (.int p1), some (.int p2), none, none, none, none] [] h Q := by
  unfold f_Ground_search at hF
  unfold f_Ground_search_ok at ho
  refine zg_blk zd_38 4 hs (rfl : zb x zT0 zc_38 4 (0, [some (.ref 82), some (.int p1), some (.int p2), none, none, none, none], [], h) = some (5, [some (.ref 82), some (.int p1), some (.int p2), some (.int 1), some (.int 0), none, none], [], h)) (fun hs => ?_)
  refine f_Ground_search_l5_t p1 p2 h (fun r => f_Ground_search_a5_ok p1 p2 r h ∧ (zSh zT0 (f_Ground_search_a5 p1 p2 r h) → Q none (f_Ground_search_a5 p1 p2 r h))) ?_ zF 1 0 (none) (none) hs ho.1 ⟨ho.2, hF⟩
  · intro v3_ v4_ o4_ o5_ o6_ hs hG
    have ho : (f_Ground_search_k27_ok p1 p2 v3_ h) := hG.1
    have hF : (zSh zT0 ((f_Ground_search_k27 p1 p2 v3_ h)) → Q none ((f_Ground_search_k27 p1 p2 v3_ h))) := hG.2
    exact f_Ground_search_k27_t p1 p2 v3_ h (o4_) (o5_) (o6_) hs ho hF
theorem f_Ground_search_w (p1 : Int32) (p2 : Int32) (h : zm_H) : zWr [32, 33, 34, 35, 36, 82, 89, 90] h ((f_Ground_search p1 p2 h)) := (zWr_tr (f_Ground_search_a5_w p1 p2 (f_Ground_search_l5 p1 p2 h zF (1, 0)) h) (by decide) (zWr.refl _ _))
def f_N_laying_k111 (v5 : Int32) (h : zm_H) : Int32 × zm_H := ((if (v5 = (-1)) then ((zf h 82 14) : Int32) else (if ((zf h 82 14) = (-1)) then ((zf h 82 14) : Int32) else (zr h 90 v5))), h)
def f_N_laying_k111_ok (v5 : Int32) (h : zm_H) : Prop := (((v5 = (-1)) → True) ∧ (¬ (v5 = (-1)) → ((((zf h 82 14) = (-1)) → True) ∧ (¬ ((zf h 82 14) = (-1)) → vp_in v5 3))))
set_option maxRecDepth 100000 in
set_option maxHeartbeats 400000 in
theorem f_N_laying_k111_t {x : zm_X} {d : Nat} (v5 : Int32) (h : zm_H) (o1 : Option Value) (o2 : Option Value) (o3 : Option Value) (o4 : Option Value) {Q : Option Value → zm_H → Prop} (hs : zSh zT0 h) (ho : f_N_laying_k111_ok v5 h) (hF : (zSh zT0 (f_N_laying_k111 v5 h).2 → Q (some (.int (f_N_laying_k111 v5 h).1)) (f_N_laying_k111 v5 h).2)) : zg x (d + 6) 164 111 [some (.ref 0), o1, o2, o3, o4, some (.int v5)] [] h Q := by
  unfold f_N_laying_k111 at hF
  unfold f_N_laying_k111_ok at ho
  refine zg_blk zd_164 2 hs (rfl : zb x zT0 zc_164 2 (111, [some (.ref 0), o1, o2, o3, o4, some (.int v5)], [], h) = some (114, [some (.ref 0), o1, o2, o3, o4, some (.int v5)], [.int (-1), .int v5], h)) (fun hs => ?_)
  have hom := ho
  have K173 : zSh zT0 h → zg x (d + 6) 164 148 [some (.ref 0), o1, o2, o3, o4, some (.int v5)] [.int (if (v5 = (-1)) then ((zf h 82 14) : Int32) else (if ((zf h 82 14) = (-1)) then ((zf h 82 14) : Int32) else (zr h 90 v5)))] h Q := fun hs => by
    exact zg_ret zd_164 rfl rfl (hF hs)
  refine zg_i_eq zd_164 rfl (fun (hc : (v5 = (-1))) => ?_) (fun (hc : ¬ (v5 = (-1))) => ?_)
  · have ho := hom.1 hc
    rw [show ((if (v5 = (-1)) then ((zf h 82 14) : Int32) else (if ((zf h 82 14) = (-1)) then ((zf h 82 14) : Int32) else (zr h 90 v5))) : Int32) = (zf h 82 14) from if_pos hc] at K173
    refine zg_blk zd_164 4 hs (rfl : zb x zT0 zc_164 4 (128, [some (.ref 0), o1, o2, o3, o4, some (.int v5)], [], h) = some (148, [some (.ref 0), o1, o2, o3, o4, some (.int v5)], [.int (zf h 82 14)], h)) (fun hs => ?_)
    exact K173 hs
  · have ho := hom.2 hc
    rw [show ((if (v5 = (-1)) then ((zf h 82 14) : Int32) else (if ((zf h 82 14) = (-1)) then ((zf h 82 14) : Int32) else (zr h 90 v5))) : Int32) = (if ((zf h 82 14) = (-1)) then ((zf h 82 14) : Int32) else (zr h 90 v5)) from if_neg hc] at K173
    refine zg_blk zd_164 4 hs (rfl : zb x zT0 zc_164 4 (117, [some (.ref 0), o1, o2, o3, o4, some (.int v5)], [], h) = some (125, [some (.ref 0), o1, o2, o3, o4, some (.int v5)], [.int (-1), .int (zf h 82 14)], h)) (fun hs => ?_)
    refine zg_i_ne zd_164 rfl (fun (hc : ¬ ((zf h 82 14) = (-1))) => ?_) (fun (hc : ((zf h 82 14) = (-1))) => ?_)
    · have ho := ho.2 hc
      rw [show ((if ((zf h 82 14) = (-1)) then ((zf h 82 14) : Int32) else (zr h 90 v5)) : Int32) = (zr h 90 v5) from if_neg hc] at K173
      refine zg_blk zd_164 4 hs (rfl : zb x zT0 zc_164 4 (138, [some (.ref 0), o1, o2, o3, o4, some (.int v5)], [], h) = some (147, [some (.ref 0), o1, o2, o3, o4, some (.int v5)], [.int v5, .ref 90], h)) (fun hs => ?_)
      have hob := ho
      refine zg_ial hs zd_164 rfl rfl hob ?_
      exact K173 hs
    · have ho := ho.1 hc
      rw [show ((if ((zf h 82 14) = (-1)) then ((zf h 82 14) : Int32) else (zr h 90 v5)) : Int32) = (zf h 82 14) from if_pos hc] at K173
      refine zg_blk zd_164 4 hs (rfl : zb x zT0 zc_164 4 (128, [some (.ref 0), o1, o2, o3, o4, some (.int v5)], [], h) = some (148, [some (.ref 0), o1, o2, o3, o4, some (.int v5)], [.int (zf h 82 14)], h)) (fun hs => ?_)
      exact K173 hs
theorem f_N_laying_k111_w (v5 : Int32) (h : zm_H) : zWr [] h ((f_N_laying_k111 v5 h).2) := (zWr.refl _ _)
def f_N_laying_k90 (v4 : Int32) (v5 : Int32) (w0 : Int32) (h : zm_H) : Int32 × zm_H := (if (w0 = 0) then ((-1), h) else (f_N_laying_k111 v5 (f_Ground_search v4 ((zf h 0 0) / 8) h)))
def f_N_laying_k90_ok (v4 : Int32) (v5 : Int32) (w0 : Int32) (h : zm_H) : Prop := (((w0 = 0) → True) ∧ (¬ (w0 = 0) → (f_Ground_search_ok v4 ((zf h 0 0) / 8) h ∧ (f_N_laying_k111_ok v5 (f_Ground_search v4 ((zf h 0 0) / 8) h)))))
set_option maxRecDepth 100000 in
set_option maxHeartbeats 400000 in
theorem f_N_laying_k90_t {x : zm_X} {d : Nat} (v4 : Int32) (v5 : Int32) (w0 : Int32) (h : zm_H) (o1 : Option Value) (o2 : Option Value) (o3 : Option Value) {Q : Option Value → zm_H → Prop} (hs : zSh zT0 h) (ho : f_N_laying_k90_ok v4 v5 w0 h) (hF : (zSh zT0 (f_N_laying_k90 v4 v5 w0 h).2 → Q (some (.int (f_N_laying_k90 v4 v5 w0 h).1)) (f_N_laying_k90 v4 v5 w0 h).2)) : zg x (d + 6) 164 90 [some (.ref 0), o1, o2, o3, some (.int v4), some (.int v5)] [.int w0] h Q := by
  unfold f_N_laying_k90 at hF
  unfold f_N_laying_k90_ok at ho
  refine zg_f_ne zd_164 rfl (fun (hc : ¬ (w0 = 0)) => ?_) (fun (hc : (w0 = 0)) => ?_)
  · have ho := ho.2 hc
    rw [if_neg hc] at hF
    refine zg_blk zd_164 7 hs (rfl : zb x zT0 zc_164 7 (95, [some (.ref 0), o1, o2, o3, some (.int v4), some (.int v5)], [], h) = some (108, [some (.ref 0), o1, o2, o3, some (.int v4), some (.int v5)], [.int ((zf h 0 0) / 8), .int v4, .ref 82], h)) (fun hs => ?_)
    obtain ⟨hob, ho⟩ := ho
    refine zg_call hs zd_164 rfl rfl rfl rfl (as := [.ref 82, .int v4, .int ((zf h 0 0) / 8)]) (rest := []) (en := [some (.ref 82), some (.int v4), some (.int ((zf h 0 0) / 8)), none, none, none, none]) rfl rfl rfl rfl rfl ?_
    refine f_Ground_search_t v4 ((zf h 0 0) / 8) h hs hob (fun hs => ?_)
    show zg x (d + 6) 164 111 [some (.ref 0), o1, o2, o3, some (.int v4), some (.int v5)] [] (f_Ground_search v4 ((zf h 0 0) / 8) h) Q
    exact f_N_laying_k111_t v5 (f_Ground_search v4 ((zf h 0 0) / 8) h) (o1) (o2) (o3) (some (.int v4)) hs ho hF
  · have ho := ho.1 hc
    rw [if_pos hc] at hF
    refine zg_blk zd_164 1 hs (rfl : zb x zT0 zc_164 1 (93, [some (.ref 0), o1, o2, o3, some (.int v4), some (.int v5)], [], h) = some (94, [some (.ref 0), o1, o2, o3, some (.int v4), some (.int v5)], [.int (-1)], h)) (fun hs => ?_)
    exact zg_ret zd_164 rfl rfl (hF hs)
theorem f_N_laying_k90_w (v4 : Int32) (v5 : Int32) (w0 : Int32) (h : zm_H) : zWr [32, 33, 34, 35, 36, 82, 89, 90] h ((f_N_laying_k90 v4 v5 w0 h).2) := (zWr_ite (fun z : Int32 × zm_H => z.2) (zWr.refl _ _) (zWr_tr (f_N_laying_k111_w v5 (f_Ground_search v4 ((zf h 0 0) / 8) h)) (by decide) (zWr_tr (f_Ground_search_w v4 ((zf h 0 0) / 8) h) (by decide) (zWr.refl _ _))))
def f_N_laying_k70 (v3 : Int32) (v4 : Int32) (v5 : Int32) (w0 : Int32) (h : zm_H) : Int32 × zm_H := (if (w0 = 0) then ((-1), h) else (f_N_laying_k90 v4 v5 (f_Ground_chooseSpells (v3 / 1000) (zm_rm v3 1000) h).1 (f_Ground_chooseSpells (v3 / 1000) (zm_rm v3 1000) h).2))
def f_N_laying_k70_ok (v3 : Int32) (v4 : Int32) (v5 : Int32) (w0 : Int32) (h : zm_H) : Prop := (((w0 = 0) → True) ∧ (¬ (w0 = 0) → (f_Ground_chooseSpells_ok (v3 / 1000) (zm_rm v3 1000) h ∧ (f_N_laying_k90_ok v4 v5 (f_Ground_chooseSpells (v3 / 1000) (zm_rm v3 1000) h).1 (f_Ground_chooseSpells (v3 / 1000) (zm_rm v3 1000) h).2))))
set_option maxRecDepth 100000 in
set_option maxHeartbeats 400000 in
theorem f_N_laying_k70_t {x : zm_X} {d : Nat} (v3 : Int32) (v4 : Int32) (v5 : Int32) (w0 : Int32) (h : zm_H) (o1 : Option Value) (o2 : Option Value) {Q : Option Value → zm_H → Prop} (hs : zSh zT0 h) (ho : f_N_laying_k70_ok v3 v4 v5 w0 h) (hF : (zSh zT0 (f_N_laying_k70 v3 v4 v5 w0 h).2 → Q (some (.int (f_N_laying_k70 v3 v4 v5 w0 h).1)) (f_N_laying_k70 v3 v4 v5 w0 h).2)) : zg x (d + 6) 164 70 [some (.ref 0), o1, o2, some (.int v3), some (.int v4), some (.int v5)] [.int w0] h Q := by
  unfold f_N_laying_k70 at hF
  unfold f_N_laying_k70_ok at ho
  refine zg_f_eq zd_164 rfl (fun (hc : (w0 = 0)) => ?_) (fun (hc : ¬ (w0 = 0)) => ?_)
  · have ho := ho.1 hc
    rw [if_pos hc] at hF
    refine zg_blk zd_164 1 hs (rfl : zb x zT0 zc_164 1 (93, [some (.ref 0), o1, o2, some (.int v3), some (.int v4), some (.int v5)], [], h) = some (94, [some (.ref 0), o1, o2, some (.int v3), some (.int v4), some (.int v5)], [.int (-1)], h)) (fun hs => ?_)
    exact zg_ret zd_164 rfl rfl (hF hs)
  · have ho := ho.2 hc
    rw [if_neg hc] at hF
    refine zg_blk zd_164 8 hs (rfl : zb x zT0 zc_164 8 (73, [some (.ref 0), o1, o2, some (.int v3), some (.int v4), some (.int v5)], [], h) = some (87, [some (.ref 0), o1, o2, some (.int v3), some (.int v4), some (.int v5)], [.int (zm_rm v3 1000), .int (v3 / 1000), .ref 82], h)) (fun hs => ?_)
    obtain ⟨hob, ho⟩ := ho
    refine zg_call hs zd_164 rfl rfl rfl rfl (as := [.ref 82, .int (v3 / 1000), .int (zm_rm v3 1000)]) (rest := []) (en := [some (.ref 82), some (.int (v3 / 1000)), some (.int (zm_rm v3 1000)), none]) rfl rfl rfl rfl rfl ?_
    refine f_Ground_chooseSpells_t (v3 / 1000) (zm_rm v3 1000) h hs hob (fun hs => ?_)
    show zg x (d + 6) 164 90 [some (.ref 0), o1, o2, some (.int v3), some (.int v4), some (.int v5)] [.int (f_Ground_chooseSpells (v3 / 1000) (zm_rm v3 1000) h).1] (f_Ground_chooseSpells (v3 / 1000) (zm_rm v3 1000) h).2 Q
    exact f_N_laying_k90_t v4 v5 (f_Ground_chooseSpells (v3 / 1000) (zm_rm v3 1000) h).1 (f_Ground_chooseSpells (v3 / 1000) (zm_rm v3 1000) h).2 (o1) (o2) (some (.int v3)) hs ho hF
theorem f_N_laying_k70_w (v3 : Int32) (v4 : Int32) (v5 : Int32) (w0 : Int32) (h : zm_H) : zWr [32, 33, 34, 35, 36, 82, 88, 89, 90] h ((f_N_laying_k70 v3 v4 v5 w0 h).2) := (zWr_ite (fun z : Int32 × zm_H => z.2) (zWr.refl _ _) (zWr_tr (f_N_laying_k90_w v4 v5 (f_Ground_chooseSpells (v3 / 1000) (zm_rm v3 1000) h).1 (f_Ground_chooseSpells (v3 / 1000) (zm_rm v3 1000) h).2) (by decide) (zWr_tr (f_Ground_chooseSpells_w (v3 / 1000) (zm_rm v3 1000) h) (by decide) (zWr.refl _ _))))
def f_N_laying (p1 : Int32) (p2 : Int32) (p3 : Int32) (p4 : Int32) (p5 : Int32) (h : zm_H) : Int32 × zm_H := (if (p2 < 1) then ((-1), h) else (if (3 < p2) then ((-1), h) else (if (p5 < (-1)) then ((-1), h) else (if (p2 ≤ p5) then ((-1), h) else (if (p4 < 0) then ((-1), h) else (if (p4 ≤ 100) then (if (p3 < 0) then ((-1), h) else (if (¬ ((p3 / 1000) < 0) ∧ (¬ ((zm_rm p3 1000) < (p3 / 1000)) ∧ (¬ (480 ≤ (zm_rm p3 1000))))) then (f_N_laying_k70 p3 p4 p5 (f_Ground_chooseRafts p1 p2 h).1 (f_Ground_chooseRafts p1 p2 h).2) else ((-1), h))) else ((-1), h)))))))
def f_N_laying_ok (p1 : Int32) (p2 : Int32) (p3 : Int32) (p4 : Int32) (p5 : Int32) (h : zm_H) : Prop := (((p2 < 1) → True) ∧ (¬ (p2 < 1) → (((3 < p2) → True) ∧ (¬ (3 < p2) → (((p5 < (-1)) → True) ∧ (¬ (p5 < (-1)) → (((p2 ≤ p5) → True) ∧ (¬ (p2 ≤ p5) → (((p4 < 0) → True) ∧ (¬ (p4 < 0) → (((p4 ≤ 100) → (((p3 < 0) → True) ∧ (¬ (p3 < 0) → (((¬ ((p3 / 1000) < 0) ∧ (¬ ((zm_rm p3 1000) < (p3 / 1000)) ∧ (¬ (480 ≤ (zm_rm p3 1000))))) → (f_Ground_chooseRafts_ok p1 p2 h ∧ (f_N_laying_k70_ok p3 p4 p5 (f_Ground_chooseRafts p1 p2 h).1 (f_Ground_chooseRafts p1 p2 h).2))) ∧ (¬ (¬ ((p3 / 1000) < 0) ∧ (¬ ((zm_rm p3 1000) < (p3 / 1000)) ∧ (¬ (480 ≤ (zm_rm p3 1000))))) → True))))) ∧ (¬ (p4 ≤ 100) → True))))))))))))
set_option maxRecDepth 100000 in
set_option maxHeartbeats 400000 in
theorem f_N_laying_t {x : zm_X} {d : Nat} (p1 : Int32) (p2 : Int32) (p3 : Int32) (p4 : Int32) (p5 : Int32) (h : zm_H) {Q : Option Value → zm_H → Prop} (hs : zSh zT0 h) (ho : f_N_laying_ok p1 p2 p3 p4 p5 h) (hF : (zSh zT0 (f_N_laying p1 p2 p3 p4 p5 h).2 → Q (some (.int (f_N_laying p1 p2 p3 p4 p5 h).1)) (f_N_laying p1 p2 p3 p4 p5 h).2)) : zg x (d + 6) 164 0 [some (.ref 0), some (.int p1), some (.int p2), some (.int p3), some (.int p4), some (.int p5)] [] h Q := by
  unfold f_N_laying at hF
  unfold f_N_laying_ok at ho
  refine zg_blk zd_164 2 hs (rfl : zb x zT0 zc_164 2 (0, [some (.ref 0), some (.int p1), some (.int p2), some (.int p3), some (.int p4), some (.int p5)], [], h) = some (2, [some (.ref 0), some (.int p1), some (.int p2), some (.int p3), some (.int p4), some (.int p5)], [.int 1, .int p2], h)) (fun hs => ?_)
  refine zg_i_lt zd_164 rfl (fun (hc : (p2 < 1)) => ?_) (fun (hc : ¬ (p2 < 1)) => ?_)
  · have ho := ho.1 hc
    rw [if_pos hc] at hF
    refine zg_blk zd_164 1 hs (rfl : zb x zT0 zc_164 1 (34, [some (.ref 0), some (.int p1), some (.int p2), some (.int p3), some (.int p4), some (.int p5)], [], h) = some (35, [some (.ref 0), some (.int p1), some (.int p2), some (.int p3), some (.int p4), some (.int p5)], [.int (-1)], h)) (fun hs => ?_)
    exact zg_ret zd_164 rfl rfl (hF hs)
  · have ho := ho.2 hc
    rw [if_neg hc] at hF
    refine zg_blk zd_164 2 hs (rfl : zb x zT0 zc_164 2 (5, [some (.ref 0), some (.int p1), some (.int p2), some (.int p3), some (.int p4), some (.int p5)], [], h) = some (7, [some (.ref 0), some (.int p1), some (.int p2), some (.int p3), some (.int p4), some (.int p5)], [.int 3, .int p2], h)) (fun hs => ?_)
    refine zg_i_gt zd_164 rfl (fun (hc : (3 < p2)) => ?_) (fun (hc : ¬ (3 < p2)) => ?_)
    · have ho := ho.1 hc
      rw [if_pos hc] at hF
      refine zg_blk zd_164 1 hs (rfl : zb x zT0 zc_164 1 (34, [some (.ref 0), some (.int p1), some (.int p2), some (.int p3), some (.int p4), some (.int p5)], [], h) = some (35, [some (.ref 0), some (.int p1), some (.int p2), some (.int p3), some (.int p4), some (.int p5)], [.int (-1)], h)) (fun hs => ?_)
      exact zg_ret zd_164 rfl rfl (hF hs)
    · have ho := ho.2 hc
      rw [if_neg hc] at hF
      refine zg_blk zd_164 2 hs (rfl : zb x zT0 zc_164 2 (10, [some (.ref 0), some (.int p1), some (.int p2), some (.int p3), some (.int p4), some (.int p5)], [], h) = some (13, [some (.ref 0), some (.int p1), some (.int p2), some (.int p3), some (.int p4), some (.int p5)], [.int (-1), .int p5], h)) (fun hs => ?_)
      refine zg_i_lt zd_164 rfl (fun (hc : (p5 < (-1))) => ?_) (fun (hc : ¬ (p5 < (-1))) => ?_)
      · have ho := ho.1 hc
        rw [if_pos hc] at hF
        refine zg_blk zd_164 1 hs (rfl : zb x zT0 zc_164 1 (34, [some (.ref 0), some (.int p1), some (.int p2), some (.int p3), some (.int p4), some (.int p5)], [], h) = some (35, [some (.ref 0), some (.int p1), some (.int p2), some (.int p3), some (.int p4), some (.int p5)], [.int (-1)], h)) (fun hs => ?_)
        exact zg_ret zd_164 rfl rfl (hF hs)
      · have ho := ho.2 hc
        rw [if_neg hc] at hF
        refine zg_blk zd_164 2 hs (rfl : zb x zT0 zc_164 2 (16, [some (.ref 0), some (.int p1), some (.int p2), some (.int p3), some (.int p4), some (.int p5)], [], h) = some (19, [some (.ref 0), some (.int p1), some (.int p2), some (.int p3), some (.int p4), some (.int p5)], [.int p2, .int p5], h)) (fun hs => ?_)
        refine zg_i_ge zd_164 rfl (fun (hc : (p2 ≤ p5)) => ?_) (fun (hc : ¬ (p2 ≤ p5)) => ?_)
        · have ho := ho.1 hc
          rw [if_pos hc] at hF
          refine zg_blk zd_164 1 hs (rfl : zb x zT0 zc_164 1 (34, [some (.ref 0), some (.int p1), some (.int p2), some (.int p3), some (.int p4), some (.int p5)], [], h) = some (35, [some (.ref 0), some (.int p1), some (.int p2), some (.int p3), some (.int p4), some (.int p5)], [.int (-1)], h)) (fun hs => ?_)
          exact zg_ret zd_164 rfl rfl (hF hs)
        · have ho := ho.2 hc
          rw [if_neg hc] at hF
          refine zg_blk zd_164 1 hs (rfl : zb x zT0 zc_164 1 (22, [some (.ref 0), some (.int p1), some (.int p2), some (.int p3), some (.int p4), some (.int p5)], [], h) = some (24, [some (.ref 0), some (.int p1), some (.int p2), some (.int p3), some (.int p4), some (.int p5)], [.int p4], h)) (fun hs => ?_)
          refine zg_f_lt zd_164 rfl (fun (hc : (p4 < 0)) => ?_) (fun (hc : ¬ (p4 < 0)) => ?_)
          · have ho := ho.1 hc
            rw [if_pos hc] at hF
            refine zg_blk zd_164 1 hs (rfl : zb x zT0 zc_164 1 (34, [some (.ref 0), some (.int p1), some (.int p2), some (.int p3), some (.int p4), some (.int p5)], [], h) = some (35, [some (.ref 0), some (.int p1), some (.int p2), some (.int p3), some (.int p4), some (.int p5)], [.int (-1)], h)) (fun hs => ?_)
            exact zg_ret zd_164 rfl rfl (hF hs)
          · have ho := ho.2 hc
            rw [if_neg hc] at hF
            refine zg_blk zd_164 2 hs (rfl : zb x zT0 zc_164 2 (27, [some (.ref 0), some (.int p1), some (.int p2), some (.int p3), some (.int p4), some (.int p5)], [], h) = some (31, [some (.ref 0), some (.int p1), some (.int p2), some (.int p3), some (.int p4), some (.int p5)], [.int 100, .int p4], h)) (fun hs => ?_)
            refine zg_i_le zd_164 rfl (fun (hc : (p4 ≤ 100)) => ?_) (fun (hc : ¬ (p4 ≤ 100)) => ?_)
            · have ho := ho.1 hc
              rw [if_pos hc] at hF
              refine zg_blk zd_164 1 hs (rfl : zb x zT0 zc_164 1 (36, [some (.ref 0), some (.int p1), some (.int p2), some (.int p3), some (.int p4), some (.int p5)], [], h) = some (37, [some (.ref 0), some (.int p1), some (.int p2), some (.int p3), some (.int p4), some (.int p5)], [.int p3], h)) (fun hs => ?_)
              refine zg_f_lt zd_164 rfl (fun (hc : (p3 < 0)) => ?_) (fun (hc : ¬ (p3 < 0)) => ?_)
              · have ho := ho.1 hc
                rw [if_pos hc] at hF
                refine zg_blk zd_164 1 hs (rfl : zb x zT0 zc_164 1 (59, [some (.ref 0), some (.int p1), some (.int p2), some (.int p3), some (.int p4), some (.int p5)], [], h) = some (60, [some (.ref 0), some (.int p1), some (.int p2), some (.int p3), some (.int p4), some (.int p5)], [.int (-1)], h)) (fun hs => ?_)
                exact zg_ret zd_164 rfl rfl (hF hs)
              · have ho := ho.2 hc
                rw [if_neg hc] at hF
                refine zg_blk zd_164 7 hs (rfl : zb x zT0 zc_164 7 (40, [some (.ref 0), some (.int p1), some (.int p2), some (.int p3), some (.int p4), some (.int p5)], [], h) = some (53, [some (.ref 0), some (.int p1), some (.int p2), some (.int p3), some (.int p4), some (.int p5)], [.int 480, .int (zm_rm p3 1000), .int (p3 / 1000)], h)) (fun hs => ?_)
                refine zg_call hs zd_164 rfl rfl rfl rfl (as := [.int (p3 / 1000), .int (zm_rm p3 1000), .int 480]) (rest := []) (en := [some (.int (p3 / 1000)), some (.int (zm_rm p3 1000)), some (.int 480)]) rfl rfl rfl rfl rfl ?_
                refine f_N_isRange_t (p3 / 1000) (zm_rm p3 1000) 480 h hs trivial ?_
                show zg x (d + 6) 164 56 [some (.ref 0), some (.int p1), some (.int p2), some (.int p3), some (.int p4), some (.int p5)] [.int (if (¬ ((p3 / 1000) < 0) ∧ (¬ ((zm_rm p3 1000) < (p3 / 1000)) ∧ (¬ (480 ≤ (zm_rm p3 1000))))) then (1 : Int32) else 0)] h Q
                refine zg_b_ne zd_164 rfl (fun (hc : (¬ ((p3 / 1000) < 0) ∧ (¬ ((zm_rm p3 1000) < (p3 / 1000)) ∧ (¬ (480 ≤ (zm_rm p3 1000)))))) => ?_) (fun (hc : ¬ (¬ ((p3 / 1000) < 0) ∧ (¬ ((zm_rm p3 1000) < (p3 / 1000)) ∧ (¬ (480 ≤ (zm_rm p3 1000)))))) => ?_)
                · have ho := ho.1 hc
                  rw [if_pos hc] at hF
                  refine zg_blk zd_164 4 hs (rfl : zb x zT0 zc_164 4 (61, [some (.ref 0), some (.int p1), some (.int p2), some (.int p3), some (.int p4), some (.int p5)], [], h) = some (67, [some (.ref 0), some (.int p1), some (.int p2), some (.int p3), some (.int p4), some (.int p5)], [.int p2, .int p1, .ref 82], h)) (fun hs => ?_)
                  obtain ⟨hob, ho⟩ := ho
                  refine zg_call hs zd_164 rfl rfl rfl rfl (as := [.ref 82, .int p1, .int p2]) (rest := []) (en := [some (.ref 82), some (.int p1), some (.int p2), none, none, none, none]) rfl rfl rfl rfl rfl ?_
                  refine f_Ground_chooseRafts_t p1 p2 h hs hob (fun hs => ?_)
                  show zg x (d + 6) 164 70 [some (.ref 0), some (.int p1), some (.int p2), some (.int p3), some (.int p4), some (.int p5)] [.int (f_Ground_chooseRafts p1 p2 h).1] (f_Ground_chooseRafts p1 p2 h).2 Q
                  exact f_N_laying_k70_t p3 p4 p5 (f_Ground_chooseRafts p1 p2 h).1 (f_Ground_chooseRafts p1 p2 h).2 (some (.int p1)) (some (.int p2)) hs ho hF
                · have ho := ho.2 hc
                  rw [if_neg hc] at hF
                  refine zg_blk zd_164 1 hs (rfl : zb x zT0 zc_164 1 (59, [some (.ref 0), some (.int p1), some (.int p2), some (.int p3), some (.int p4), some (.int p5)], [], h) = some (60, [some (.ref 0), some (.int p1), some (.int p2), some (.int p3), some (.int p4), some (.int p5)], [.int (-1)], h)) (fun hs => ?_)
                  exact zg_ret zd_164 rfl rfl (hF hs)
            · have ho := ho.2 hc
              rw [if_neg hc] at hF
              refine zg_blk zd_164 1 hs (rfl : zb x zT0 zc_164 1 (34, [some (.ref 0), some (.int p1), some (.int p2), some (.int p3), some (.int p4), some (.int p5)], [], h) = some (35, [some (.ref 0), some (.int p1), some (.int p2), some (.int p3), some (.int p4), some (.int p5)], [.int (-1)], h)) (fun hs => ?_)
              exact zg_ret zd_164 rfl rfl (hF hs)
theorem f_N_laying_w (p1 : Int32) (p2 : Int32) (p3 : Int32) (p4 : Int32) (p5 : Int32) (h : zm_H) : zWr [32, 33, 34, 35, 36, 82, 87, 88, 89, 90] h ((f_N_laying p1 p2 p3 p4 p5 h).2) := (zWr_ite (fun z : Int32 × zm_H => z.2) (zWr.refl _ _) (zWr_ite (fun z : Int32 × zm_H => z.2) (zWr.refl _ _) (zWr_ite (fun z : Int32 × zm_H => z.2) (zWr.refl _ _) (zWr_ite (fun z : Int32 × zm_H => z.2) (zWr.refl _ _) (zWr_ite (fun z : Int32 × zm_H => z.2) (zWr.refl _ _) (zWr_ite (fun z : Int32 × zm_H => z.2) (zWr_ite (fun z : Int32 × zm_H => z.2) (zWr.refl _ _) (zWr_ite (fun z : Int32 × zm_H => z.2) (zWr_tr (f_N_laying_k70_w p3 p4 p5 (f_Ground_chooseRafts p1 p2 h).1 (f_Ground_chooseRafts p1 p2 h).2) (by decide) (zWr_tr (f_Ground_chooseRafts_w p1 p2 h) (by decide) (zWr.refl _ _))) (zWr.refl _ _))) (zWr.refl _ _)))))))
theorem zd_256 : zm_cd 256 = zc_256 := by rfl
def f_M_laying_l92_l153_b (v2 : Int32) (v3 : Int32) (v4 : Int32) (v5 : Int32) (v6 : Int32) (v7 : Int32) (v8 : Int32) (h : zm_H) : Nat × Int32 := (if (v2 ≤ v8) then (2, v8) else (if ((zr h 159 v8) = (zr h 159 v7)) then (1, v8) else (0, (v8 + 1))))
def f_M_laying_l92_l153_b_ok (v2 : Int32) (v3 : Int32) (v4 : Int32) (v5 : Int32) (v6 : Int32) (v7 : Int32) (v8 : Int32) (h : zm_H) : Prop := (((v2 ≤ v8) → True) ∧ (¬ (v2 ≤ v8) → (vp_in v8 3 ∧ vp_in v7 3)))
set_option maxRecDepth 100000 in
set_option maxHeartbeats 400000 in
theorem f_M_laying_l92_l153_b_t {x : zm_X} {d : Nat} (v2 : Int32) (v3 : Int32) (v4 : Int32) (v5 : Int32) (v6 : Int32) (v7 : Int32) (v8 : Int32) (h : zm_H) (o1 : Option Value) (o9 : Option Value) (o10 : Option Value) (o11 : Option Value) (o12 : Option Value) (o13 : Option Value) {Q : Option Value → zm_H → Prop} {FN : Nat × Int32 → Prop} (hs : zSh zT0 h) (ho : f_M_laying_l92_l153_b_ok v2 v3 v4 v5 v6 v7 v8 h) (hF : FN (f_M_laying_l92_l153_b v2 v3 v4 v5 v6 v7 v8 h)) (hl0 : ∀ (v8 : Int32) (o1 : Option Value) (o9 : Option Value) (o10 : Option Value) (o11 : Option Value) (o12 : Option Value) (o13 : Option Value), zSh zT0 h → FN (0, v8) → zg x (d + 4) 256 153 [some (.ref 92), o1, some (.int v2), some (.int v3), some (.int v4), some (.int v5), some (.int v6), some (.int v7), some (.int v8), o9, o10, o11, o12, o13] [] h Q) (hl1 : ∀ (v8 : Int32) (o1 : Option Value) (o8 : Option Value) (o9 : Option Value) (o10 : Option Value) (o11 : Option Value) (o12 : Option Value) (o13 : Option Value), zSh zT0 h → FN (1, v8) → zg x (d + 4) 256 176 [some (.ref 92), o1, some (.int v2), some (.int v3), some (.int v4), some (.int v5), some (.int v6), some (.int v7), o8, o9, o10, o11, o12, o13] [] h Q) (hl2 : ∀ (v8 : Int32) (o1 : Option Value) (o8 : Option Value) (o9 : Option Value) (o10 : Option Value) (o11 : Option Value) (o12 : Option Value) (o13 : Option Value), zSh zT0 h → FN (2, v8) → zg x (d + 4) 256 184 [some (.ref 92), o1, some (.int v2), some (.int v3), some (.int v4), some (.int v5), some (.int v6), some (.int v7), o8, o9, o10, o11, o12, o13] [] h Q) : zg x (d + 4) 256 153 [some (.ref 92), o1, some (.int v2), some (.int v3), some (.int v4), some (.int v5), some (.int v6), some (.int v7), some (.int v8), o9, o10, o11, o12, o13] [] h Q := by
  unfold f_M_laying_l92_l153_b at hF
  unfold f_M_laying_l92_l153_b_ok at ho
  refine zg_blk zd_256 2 hs (rfl : zb x zT0 zc_256 2 (153, [some (.ref 92), o1, some (.int v2), some (.int v3), some (.int v4), some (.int v5), some (.int v6), some (.int v7), some (.int v8), o9, o10, o11, o12, o13], [], h) = some (156, [some (.ref 92), o1, some (.int v2), some (.int v3), some (.int v4), some (.int v5), some (.int v6), some (.int v7), some (.int v8), o9, o10, o11, o12, o13], [.int v2, .int v8], h)) (fun hs => ?_)
  refine zg_i_ge zd_256 rfl (fun (hc : (v2 ≤ v8)) => ?_) (fun (hc : ¬ (v2 ≤ v8)) => ?_)
  · have ho := ho.1 hc
    rw [if_pos hc] at hF
    exact hl2 v8 (o1) (some (.int v8)) (o9) (o10) (o11) (o12) (o13) hs hF
  · have ho := ho.2 hc
    rw [if_neg hc] at hF
    refine zg_blk zd_256 3 hs (rfl : zb x zT0 zc_256 3 (159, [some (.ref 92), o1, some (.int v2), some (.int v3), some (.int v4), some (.int v5), some (.int v6), some (.int v7), some (.int v8), o9, o10, o11, o12, o13], [], h) = some (165, [some (.ref 92), o1, some (.int v2), some (.int v3), some (.int v4), some (.int v5), some (.int v6), some (.int v7), some (.int v8), o9, o10, o11, o12, o13], [.int v8, .ref 159], h)) (fun hs => ?_)
    obtain ⟨hob, ho⟩ := ho
    refine zg_ial hs zd_256 rfl rfl hob ?_
    refine zg_blk zd_256 3 hs (rfl : zb x zT0 zc_256 3 (166, [some (.ref 92), o1, some (.int v2), some (.int v3), some (.int v4), some (.int v5), some (.int v6), some (.int v7), some (.int v8), o9, o10, o11, o12, o13], [.int (zr h 159 v8)], h) = some (172, [some (.ref 92), o1, some (.int v2), some (.int v3), some (.int v4), some (.int v5), some (.int v6), some (.int v7), some (.int v8), o9, o10, o11, o12, o13], [.int v7, .ref 159, .int (zr h 159 v8)], h)) (fun hs => ?_)
    have hob := ho
    refine zg_ial hs zd_256 rfl rfl hob ?_
    refine zg_i_ne zd_256 rfl (fun (hc : ¬ ((zr h 159 v8) = (zr h 159 v7))) => ?_) (fun (hc : ((zr h 159 v8) = (zr h 159 v7))) => ?_)
    · skip
      rw [if_neg hc] at hF
      refine zg_blk zd_256 2 hs (rfl : zb x zT0 zc_256 2 (178, [some (.ref 92), o1, some (.int v2), some (.int v3), some (.int v4), some (.int v5), some (.int v6), some (.int v7), some (.int v8), o9, o10, o11, o12, o13], [], h) = some (153, [some (.ref 92), o1, some (.int v2), some (.int v3), some (.int v4), some (.int v5), some (.int v6), some (.int v7), some (.int (v8 + 1)), o9, o10, o11, o12, o13], [], h)) (fun hs => ?_)
      exact hl0 (v8 + 1) (o1) (o9) (o10) (o11) (o12) (o13) hs hF
    · skip
      rw [if_pos hc] at hF
      exact hl1 v8 (o1) (some (.int v8)) (o9) (o10) (o11) (o12) (o13) hs hF
def f_M_laying_l92_l153 (v2 : Int32) (v3 : Int32) (v4 : Int32) (v5 : Int32) (v6 : Int32) (v7 : Int32) (h : zm_H) (n : Nat) (t : Int32) : Nat × Int32 := zwh (fun t => f_M_laying_l92_l153_b v2 v3 v4 v5 v6 v7 t h) n t
def f_M_laying_l92_l153_ok (v2 : Int32) (v3 : Int32) (v4 : Int32) (v5 : Int32) (v6 : Int32) (v7 : Int32) (h : zm_H) (n : Nat) (t : Int32) : Prop := zwo (fun t => f_M_laying_l92_l153_b v2 v3 v4 v5 v6 v7 t h) (fun t => f_M_laying_l92_l153_b_ok v2 v3 v4 v5 v6 v7 t h) n t
theorem f_M_laying_l92_l153_t {x : zm_X} {d : Nat} (v2 : Int32) (v3 : Int32) (v4 : Int32) (v5 : Int32) (v6 : Int32) (v7 : Int32) (h : zm_H) {Q : Option Value → zm_H → Prop} (G : Nat × Int32 → Prop) (hx1 : ∀ (v8 : Int32) (o1 : Option Value) (o8 : Option Value) (o9 : Option Value) (o10 : Option Value) (o11 : Option Value) (o12 : Option Value) (o13 : Option Value), zSh zT0 h → G (1, v8) → zg x (d + 4) 256 176 [some (.ref 92), o1, some (.int v2), some (.int v3), some (.int v4), some (.int v5), some (.int v6), some (.int v7), o8, o9, o10, o11, o12, o13] [] h Q) (hx2 : ∀ (v8 : Int32) (o1 : Option Value) (o8 : Option Value) (o9 : Option Value) (o10 : Option Value) (o11 : Option Value) (o12 : Option Value) (o13 : Option Value), zSh zT0 h → G (2, v8) → zg x (d + 4) 256 184 [some (.ref 92), o1, some (.int v2), some (.int v3), some (.int v4), some (.int v5), some (.int v6), some (.int v7), o8, o9, o10, o11, o12, o13] [] h Q) : ∀ (n : Nat) (v8 : Int32) (o1 : Option Value) (o9 : Option Value) (o10 : Option Value) (o11 : Option Value) (o12 : Option Value) (o13 : Option Value), zSh zT0 h → f_M_laying_l92_l153_ok v2 v3 v4 v5 v6 v7 h n v8 → G (f_M_laying_l92_l153 v2 v3 v4 v5 v6 v7 h n v8) → zg x (d + 4) 256 153 [some (.ref 92), o1, some (.int v2), some (.int v3), some (.int v4), some (.int v5), some (.int v6), some (.int v7), some (.int v8), o9, o10, o11, o12, o13] [] h Q := by
  intro n
  induction n with
  | zero => intro v8 o1 o9 o10 o11 o12 o13 hs ho hG; exact ho.elim
  | succ n ih =>
    intro v8 o1 o9 o10 o11 o12 o13 hs ho hG
    refine f_M_laying_l92_l153_b_t (FN := fun r => (r.1 = 0 → f_M_laying_l92_l153_ok v2 v3 v4 v5 v6 v7 h n r.2) ∧ G (if r.1 = 0 then f_M_laying_l92_l153 v2 v3 v4 v5 v6 v7 h n r.2 else r)) v2 v3 v4 v5 v6 v7 v8 h o1 o9 o10 o11 o12 o13 hs ho.1 ⟨ho.2, hG⟩ ?_ ?_ ?_
    · intro v8 o1 o9 o10 o11 o12 o13 hs hF
      exact ih v8 o1 o9 o10 o11 o12 o13 hs (hF.1 rfl) hF.2
    · intro v8 o1 o8 o9 o10 o11 o12 o13 hs hF
      exact hx1 v8 o1 o8 o9 o10 o11 o12 o13 hs hF.2
    · intro v8 o1 o8 o9 o10 o11 o12 o13 hs hF
      exact hx2 v8 o1 o8 o9 o10 o11 o12 o13 hs hF.2

def f_M_laying_l92_k184 (v2 : Int32) (v3 : Int32) (v4 : Int32) (v5 : Int32) (v6 : Int32) (v7 : Int32) (h : zm_H) : Nat × Int32 × Int32 × zm_H := (0, v6, (v7 + (-1)), h)
def f_M_laying_l92_k184_ok (v2 : Int32) (v3 : Int32) (v4 : Int32) (v5 : Int32) (v6 : Int32) (v7 : Int32) (h : zm_H) : Prop := True
set_option maxRecDepth 100000 in
set_option maxHeartbeats 400000 in
theorem f_M_laying_l92_k184_t {x : zm_X} {d : Nat} (v2 : Int32) (v3 : Int32) (v4 : Int32) (v5 : Int32) (v6 : Int32) (v7 : Int32) (h : zm_H) (o1 : Option Value) (o8 : Option Value) (o9 : Option Value) (o10 : Option Value) (o11 : Option Value) (o12 : Option Value) (o13 : Option Value) {Q : Option Value → zm_H → Prop} {FN : Nat × Int32 × Int32 × zm_H → Prop} (hs : zSh zT0 h) (ho : f_M_laying_l92_k184_ok v2 v3 v4 v5 v6 v7 h) (hF : FN (f_M_laying_l92_k184 v2 v3 v4 v5 v6 v7 h)) (hl0 : ∀ (v6 : Int32) (v7 : Int32) (h : zm_H) (o1 : Option Value) (o8 : Option Value) (o9 : Option Value) (o10 : Option Value) (o11 : Option Value) (o12 : Option Value) (o13 : Option Value), zSh zT0 h → FN (0, v6, v7, h) → zg x (d + 4) 256 92 [some (.ref 92), o1, some (.int v2), some (.int v3), some (.int v4), some (.int v5), some (.int v6), some (.int v7), o8, o9, o10, o11, o12, o13] [] h Q) (hl1 : ∀ (v6 : Int32) (v7 : Int32) (h : zm_H) (o1 : Option Value) (o6 : Option Value) (o7 : Option Value) (o8 : Option Value) (o9 : Option Value) (o10 : Option Value) (o11 : Option Value) (o12 : Option Value) (o13 : Option Value), zSh zT0 h → FN (1, v6, v7, h) → zg x (d + 4) 256 145 [some (.ref 92), o1, some (.int v2), some (.int v3), some (.int v4), some (.int v5), o6, o7, o8, o9, o10, o11, o12, o13] [] h Q) (hl2 : ∀ (v6 : Int32) (v7 : Int32) (h : zm_H) (o1 : Option Value) (o6 : Option Value) (o7 : Option Value) (o8 : Option Value) (o9 : Option Value) (o10 : Option Value) (o11 : Option Value) (o12 : Option Value) (o13 : Option Value), zSh zT0 h → FN (2, v6, v7, h) → zg x (d + 4) 256 176 [some (.ref 92), o1, some (.int v2), some (.int v3), some (.int v4), some (.int v5), o6, o7, o8, o9, o10, o11, o12, o13] [] h Q) (hl3 : ∀ (v6 : Int32) (v7 : Int32) (h : zm_H) (o1 : Option Value) (o7 : Option Value) (o8 : Option Value) (o9 : Option Value) (o10 : Option Value) (o11 : Option Value) (o12 : Option Value) (o13 : Option Value), zSh zT0 h → FN (3, v6, v7, h) → zg x (d + 4) 256 190 [some (.ref 92), o1, some (.int v2), some (.int v3), some (.int v4), some (.int v5), some (.int v6), o7, o8, o9, o10, o11, o12, o13] [] h Q) : zg x (d + 4) 256 184 [some (.ref 92), o1, some (.int v2), some (.int v3), some (.int v4), some (.int v5), some (.int v6), some (.int v7), o8, o9, o10, o11, o12, o13] [] h Q := by
  unfold f_M_laying_l92_k184 at hF
  unfold f_M_laying_l92_k184_ok at ho
  refine zg_blk zd_256 2 hs (rfl : zb x zT0 zc_256 2 (184, [some (.ref 92), o1, some (.int v2), some (.int v3), some (.int v4), some (.int v5), some (.int v6), some (.int v7), o8, o9, o10, o11, o12, o13], [], h) = some (92, [some (.ref 92), o1, some (.int v2), some (.int v3), some (.int v4), some (.int v5), some (.int v6), some (.int (v7 + (-1))), o8, o9, o10, o11, o12, o13], [], h)) (fun hs => ?_)
  exact hl0 v6 (v7 + (-1)) h (o1) (o8) (o9) (o10) (o11) (o12) (o13) hs hF
theorem f_M_laying_l92_k184_w (v2 : Int32) (v3 : Int32) (v4 : Int32) (v5 : Int32) (v6 : Int32) (v7 : Int32) (h : zm_H) : zWr [] h ((f_M_laying_l92_k184 v2 v3 v4 v5 v6 v7 h).2.2.2) := (zWr.refl _ _)
def f_M_laying_l92_a153 (v2 : Int32) (v3 : Int32) (v4 : Int32) (v5 : Int32) (v6 : Int32) (v7 : Int32) (r : Nat × Int32) (h : zm_H) : Nat × Int32 × Int32 × zm_H := (if r.1 = 1 then (2, v6, v7, h) else (f_M_laying_l92_k184 v2 v3 v4 v5 v6 v7 h))
def f_M_laying_l92_a153_ok (v2 : Int32) (v3 : Int32) (v4 : Int32) (v5 : Int32) (v6 : Int32) (v7 : Int32) (r : Nat × Int32) (h : zm_H) : Prop := ((r.1 = 1 → True) ∧ (¬ r.1 = 1 → True))
theorem f_M_laying_l92_a153_w (v2 : Int32) (v3 : Int32) (v4 : Int32) (v5 : Int32) (v6 : Int32) (v7 : Int32) (r : Nat × Int32) (h : zm_H) : zWr [] h ((f_M_laying_l92_a153 v2 v3 v4 v5 v6 v7 r h).2.2.2) := (zWr_ite (fun z : Nat × Int32 × Int32 × zm_H => z.2.2.2) (zWr.refl _ _) (zWr_tr (f_M_laying_l92_k184_w v2 v3 v4 v5 v6 v7 h) (by decide) (zWr.refl _ _)))
def f_M_laying_l92_b (v2 : Int32) (v3 : Int32) (v4 : Int32) (v5 : Int32) (v6 : Int32) (v7 : Int32) (h : zm_H) : Nat × Int32 × Int32 × zm_H := (if (v7 < 0) then (3, v6, v7, h) else (if (¬ ((zr (zs h 159 v7 (zm_rm v6 10)) 159 v7) < 0) ∧ (¬ (((zf h 92 33) - 1) < (zr (zs h 159 v7 (zm_rm v6 10)) 159 v7)))) then (if ((zr h 123 (zr (zs h 159 v7 (zm_rm v6 10)) 159 v7)) = 0) then (f_M_laying_l92_a153 v2 v3 v4 v5 (v6 / 10) v7 (f_M_laying_l92_l153 v2 v3 v4 v5 (v6 / 10) v7 (zs h 159 v7 (zm_rm v6 10)) zF (v7 + 1)) (zs h 159 v7 (zm_rm v6 10))) else (1, (v6 / 10), v7, (zs h 159 v7 (zm_rm v6 10)))) else (1, (v6 / 10), v7, (zs h 159 v7 (zm_rm v6 10)))))
def f_M_laying_l92_b_ok (v2 : Int32) (v3 : Int32) (v4 : Int32) (v5 : Int32) (v6 : Int32) (v7 : Int32) (h : zm_H) : Prop := (((v7 < 0) → True) ∧ (¬ (v7 < 0) → (vp_in v7 3 ∧ (vp_in v7 3 ∧ (((¬ ((zr (zs h 159 v7 (zm_rm v6 10)) 159 v7) < 0) ∧ (¬ (((zf h 92 33) - 1) < (zr (zs h 159 v7 (zm_rm v6 10)) 159 v7)))) → (vp_in v7 3 ∧ (vp_in (zr (zs h 159 v7 (zm_rm v6 10)) 159 v7) 20 ∧ ((((zr h 123 (zr (zs h 159 v7 (zm_rm v6 10)) 159 v7)) = 0) → (f_M_laying_l92_l153_ok v2 v3 v4 v5 (v6 / 10) v7 (zs h 159 v7 (zm_rm v6 10)) zF (v7 + 1) ∧ f_M_laying_l92_a153_ok v2 v3 v4 v5 (v6 / 10) v7 (f_M_laying_l92_l153 v2 v3 v4 v5 (v6 / 10) v7 (zs h 159 v7 (zm_rm v6 10)) zF (v7 + 1)) (zs h 159 v7 (zm_rm v6 10)))) ∧ (¬ ((zr h 123 (zr (zs h 159 v7 (zm_rm v6 10)) 159 v7)) = 0) → True))))) ∧ (¬ (¬ ((zr (zs h 159 v7 (zm_rm v6 10)) 159 v7) < 0) ∧ (¬ (((zf h 92 33) - 1) < (zr (zs h 159 v7 (zm_rm v6 10)) 159 v7)))) → True))))))
set_option maxRecDepth 100000 in
set_option maxHeartbeats 400000 in
theorem f_M_laying_l92_b_t {x : zm_X} {d : Nat} (v2 : Int32) (v3 : Int32) (v4 : Int32) (v5 : Int32) (v6 : Int32) (v7 : Int32) (h : zm_H) (o1 : Option Value) (o8 : Option Value) (o9 : Option Value) (o10 : Option Value) (o11 : Option Value) (o12 : Option Value) (o13 : Option Value) {Q : Option Value → zm_H → Prop} {FN : Nat × Int32 × Int32 × zm_H → Prop} (hs : zSh zT0 h) (ho : f_M_laying_l92_b_ok v2 v3 v4 v5 v6 v7 h) (hF : FN (f_M_laying_l92_b v2 v3 v4 v5 v6 v7 h)) (hl0 : ∀ (v6 : Int32) (v7 : Int32) (h : zm_H) (o1 : Option Value) (o8 : Option Value) (o9 : Option Value) (o10 : Option Value) (o11 : Option Value) (o12 : Option Value) (o13 : Option Value), zSh zT0 h → FN (0, v6, v7, h) → zg x (d + 4) 256 92 [some (.ref 92), o1, some (.int v2), some (.int v3), some (.int v4), some (.int v5), some (.int v6), some (.int v7), o8, o9, o10, o11, o12, o13] [] h Q) (hl1 : ∀ (v6 : Int32) (v7 : Int32) (h : zm_H) (o1 : Option Value) (o6 : Option Value) (o7 : Option Value) (o8 : Option Value) (o9 : Option Value) (o10 : Option Value) (o11 : Option Value) (o12 : Option Value) (o13 : Option Value), zSh zT0 h → FN (1, v6, v7, h) → zg x (d + 4) 256 145 [some (.ref 92), o1, some (.int v2), some (.int v3), some (.int v4), some (.int v5), o6, o7, o8, o9, o10, o11, o12, o13] [] h Q) (hl2 : ∀ (v6 : Int32) (v7 : Int32) (h : zm_H) (o1 : Option Value) (o6 : Option Value) (o7 : Option Value) (o8 : Option Value) (o9 : Option Value) (o10 : Option Value) (o11 : Option Value) (o12 : Option Value) (o13 : Option Value), zSh zT0 h → FN (2, v6, v7, h) → zg x (d + 4) 256 176 [some (.ref 92), o1, some (.int v2), some (.int v3), some (.int v4), some (.int v5), o6, o7, o8, o9, o10, o11, o12, o13] [] h Q) (hl3 : ∀ (v6 : Int32) (v7 : Int32) (h : zm_H) (o1 : Option Value) (o7 : Option Value) (o8 : Option Value) (o9 : Option Value) (o10 : Option Value) (o11 : Option Value) (o12 : Option Value) (o13 : Option Value), zSh zT0 h → FN (3, v6, v7, h) → zg x (d + 4) 256 190 [some (.ref 92), o1, some (.int v2), some (.int v3), some (.int v4), some (.int v5), some (.int v6), o7, o8, o9, o10, o11, o12, o13] [] h Q) : zg x (d + 4) 256 92 [some (.ref 92), o1, some (.int v2), some (.int v3), some (.int v4), some (.int v5), some (.int v6), some (.int v7), o8, o9, o10, o11, o12, o13] [] h Q := by
  unfold f_M_laying_l92_b at hF
  unfold f_M_laying_l92_b_ok at ho
  refine zg_blk zd_256 1 hs (rfl : zb x zT0 zc_256 1 (92, [some (.ref 92), o1, some (.int v2), some (.int v3), some (.int v4), some (.int v5), some (.int v6), some (.int v7), o8, o9, o10, o11, o12, o13], [], h) = some (94, [some (.ref 92), o1, some (.int v2), some (.int v3), some (.int v4), some (.int v5), some (.int v6), some (.int v7), o8, o9, o10, o11, o12, o13], [.int v7], h)) (fun hs => ?_)
  refine zg_f_lt zd_256 rfl (fun (hc : (v7 < 0)) => ?_) (fun (hc : ¬ (v7 < 0)) => ?_)
  · have ho := ho.1 hc
    rw [if_pos hc] at hF
    exact hl3 v6 v7 h (o1) (some (.int v7)) (o8) (o9) (o10) (o11) (o12) (o13) hs hF
  · have ho := ho.2 hc
    rw [if_neg hc] at hF
    refine zg_blk zd_256 6 hs (rfl : zb x zT0 zc_256 6 (97, [some (.ref 92), o1, some (.int v2), some (.int v3), some (.int v4), some (.int v5), some (.int v6), some (.int v7), o8, o9, o10, o11, o12, o13], [], h) = some (108, [some (.ref 92), o1, some (.int v2), some (.int v3), some (.int v4), some (.int v5), some (.int v6), some (.int v7), o8, o9, o10, o11, o12, o13], [.int (zm_rm v6 10), .int v7, .ref 159], h)) (fun hs => ?_)
    obtain ⟨hob, ho⟩ := ho
    refine zg_ias hs zd_256 rfl rfl hob (fun hs => ?_)
    refine zg_blk zd_256 8 hs (rfl : zb x zT0 zc_256 8 (109, [some (.ref 92), o1, some (.int v2), some (.int v3), some (.int v4), some (.int v5), some (.int v6), some (.int v7), o8, o9, o10, o11, o12, o13], [], (zs h 159 v7 (zm_rm v6 10))) = some (123, [some (.ref 92), o1, some (.int v2), some (.int v3), some (.int v4), some (.int v5), some (.int (v6 / 10)), some (.int v7), o8, o9, o10, o11, o12, o13], [.int v7, .ref 159, .ref 92], (zs h 159 v7 (zm_rm v6 10)))) (fun hs => ?_)
    obtain ⟨hob, ho⟩ := ho
    refine zg_ial hs zd_256 rfl rfl hob ?_
    refine zg_call hs zd_256 rfl rfl rfl rfl (as := [.ref 92, .int (zr (zs h 159 v7 (zm_rm v6 10)) 159 v7)]) (rest := []) (en := [some (.ref 92), some (.int (zr (zs h 159 v7 (zm_rm v6 10)) 159 v7))]) rfl rfl rfl rfl rfl ?_
    refine f_M_isRaft_t (zr (zs h 159 v7 (zm_rm v6 10)) 159 v7) (zs h 159 v7 (zm_rm v6 10)) hs trivial ?_
    show zg x (d + 4) 256 127 [some (.ref 92), o1, some (.int v2), some (.int v3), some (.int v4), some (.int v5), some (.int (v6 / 10)), some (.int v7), o8, o9, o10, o11, o12, o13] [.int (if (¬ ((zr (zs h 159 v7 (zm_rm v6 10)) 159 v7) < 0) ∧ (¬ (((zf h 92 33) - 1) < (zr (zs h 159 v7 (zm_rm v6 10)) 159 v7)))) then (1 : Int32) else 0)] (zs h 159 v7 (zm_rm v6 10)) Q
    refine zg_b_eq zd_256 rfl (fun (hc : ¬ (¬ ((zr (zs h 159 v7 (zm_rm v6 10)) 159 v7) < 0) ∧ (¬ (((zf h 92 33) - 1) < (zr (zs h 159 v7 (zm_rm v6 10)) 159 v7))))) => ?_) (fun (hc : (¬ ((zr (zs h 159 v7 (zm_rm v6 10)) 159 v7) < 0) ∧ (¬ (((zf h 92 33) - 1) < (zr (zs h 159 v7 (zm_rm v6 10)) 159 v7))))) => ?_)
    · have ho := ho.2 hc
      rw [if_neg hc] at hF
      exact hl1 (v6 / 10) v7 (zs h 159 v7 (zm_rm v6 10)) (o1) (some (.int (v6 / 10))) (some (.int v7)) (o8) (o9) (o10) (o11) (o12) (o13) hs hF
    · have ho := ho.1 hc
      rw [if_pos hc] at hF
      refine zg_blk zd_256 5 hs (rfl : zb x zT0 zc_256 5 (130, [some (.ref 92), o1, some (.int v2), some (.int v3), some (.int v4), some (.int v5), some (.int (v6 / 10)), some (.int v7), o8, o9, o10, o11, o12, o13], [], (zs h 159 v7 (zm_rm v6 10))) = some (140, [some (.ref 92), o1, some (.int v2), some (.int v3), some (.int v4), some (.int v5), some (.int (v6 / 10)), some (.int v7), o8, o9, o10, o11, o12, o13], [.int v7, .ref 159, .ref 123], (zs h 159 v7 (zm_rm v6 10)))) (fun hs => ?_)
      obtain ⟨hob, ho⟩ := ho
      refine zg_ial hs zd_256 rfl rfl hob ?_
      obtain ⟨hob, ho⟩ := ho
      refine zg_ial hs zd_256 rfl rfl hob ?_
      refine zg_f_eq zd_256 rfl (fun (hc : ((zr h 123 (zr (zs h 159 v7 (zm_rm v6 10)) 159 v7)) = 0)) => ?_) (fun (hc : ¬ ((zr h 123 (zr (zs h 159 v7 (zm_rm v6 10)) 159 v7)) = 0)) => ?_)
      · have ho := ho.1 hc
        rw [if_pos hc] at hF
        refine zg_blk zd_256 4 hs (rfl : zb x zT0 zc_256 4 (147, [some (.ref 92), o1, some (.int v2), some (.int v3), some (.int v4), some (.int v5), some (.int (v6 / 10)), some (.int v7), o8, o9, o10, o11, o12, o13], [], (zs h 159 v7 (zm_rm v6 10))) = some (153, [some (.ref 92), o1, some (.int v2), some (.int v3), some (.int v4), some (.int v5), some (.int (v6 / 10)), some (.int v7), some (.int (v7 + 1)), o9, o10, o11, o12, o13], [], (zs h 159 v7 (zm_rm v6 10)))) (fun hs => ?_)
        refine f_M_laying_l92_l153_t v2 v3 v4 v5 (v6 / 10) v7 (zs h 159 v7 (zm_rm v6 10)) (fun r => f_M_laying_l92_a153_ok v2 v3 v4 v5 (v6 / 10) v7 r (zs h 159 v7 (zm_rm v6 10)) ∧ FN (f_M_laying_l92_a153 v2 v3 v4 v5 (v6 / 10) v7 r (zs h 159 v7 (zm_rm v6 10)))) ?_ ?_ zF (v7 + 1) (o1) (o9) (o10) (o11) (o12) (o13) hs ho.1 ⟨ho.2, hF⟩
        · intro v8_ o1_ o8_ o9_ o10_ o11_ o12_ o13_ hs hG
          have ho : True := trivial
          have hF : FN ((2, (v6 / 10), v7, (zs h 159 v7 (zm_rm v6 10)))) := hG.2
          exact hl2 (v6 / 10) v7 (zs h 159 v7 (zm_rm v6 10)) (o1_) (some (.int (v6 / 10))) (some (.int v7)) (o8_) (o9_) (o10_) (o11_) (o12_) (o13_) hs hF
        · intro v8_ o1_ o8_ o9_ o10_ o11_ o12_ o13_ hs hG
          have ho : True := trivial
          have hF : FN ((f_M_laying_l92_k184 v2 v3 v4 v5 (v6 / 10) v7 (zs h 159 v7 (zm_rm v6 10)))) := hG.2
          exact f_M_laying_l92_k184_t v2 v3 v4 v5 (v6 / 10) v7 (zs h 159 v7 (zm_rm v6 10)) (o1_) (o8_) (o9_) (o10_) (o11_) (o12_) (o13_) hs trivial hF hl0 hl1 hl2 hl3
      · have ho := ho.2 hc
        rw [if_neg hc] at hF
        exact hl1 (v6 / 10) v7 (zs h 159 v7 (zm_rm v6 10)) (o1) (some (.int (v6 / 10))) (some (.int v7)) (o8) (o9) (o10) (o11) (o12) (o13) hs hF
theorem f_M_laying_l92_b_w (v2 : Int32) (v3 : Int32) (v4 : Int32) (v5 : Int32) (v6 : Int32) (v7 : Int32) (h : zm_H) : zWr [159] h ((f_M_laying_l92_b v2 v3 v4 v5 v6 v7 h).2.2.2) := (zWr_ite (fun z : Nat × Int32 × Int32 × zm_H => z.2.2.2) (zWr.refl _ _) (zWr_ite (fun z : Nat × Int32 × Int32 × zm_H => z.2.2.2) (zWr_ite (fun z : Nat × Int32 × Int32 × zm_H => z.2.2.2) (zWr_tr (f_M_laying_l92_a153_w v2 v3 v4 v5 (v6 / 10) v7 (f_M_laying_l92_l153 v2 v3 v4 v5 (v6 / 10) v7 (zs h 159 v7 (zm_rm v6 10)) zF (v7 + 1)) (zs h 159 v7 (zm_rm v6 10))) (by decide) (zWr_si (by decide) (zWr.refl _ _))) (zWr_si (by decide) (zWr.refl _ _))) (zWr_si (by decide) (zWr.refl _ _))))
def f_M_laying_l92 (v2 : Int32) (v3 : Int32) (v4 : Int32) (v5 : Int32) (n : Nat) (t : Int32 × Int32 × zm_H) : Nat × Int32 × Int32 × zm_H := zwh (fun t => f_M_laying_l92_b v2 v3 v4 v5 t.1 t.2.1 t.2.2) n t
def f_M_laying_l92_ok (v2 : Int32) (v3 : Int32) (v4 : Int32) (v5 : Int32) (n : Nat) (t : Int32 × Int32 × zm_H) : Prop := zwo (fun t => f_M_laying_l92_b v2 v3 v4 v5 t.1 t.2.1 t.2.2) (fun t => f_M_laying_l92_b_ok v2 v3 v4 v5 t.1 t.2.1 t.2.2) n t
theorem f_M_laying_l92_t {x : zm_X} {d : Nat} (v2 : Int32) (v3 : Int32) (v4 : Int32) (v5 : Int32) {Q : Option Value → zm_H → Prop} (G : Nat × Int32 × Int32 × zm_H → Prop) (hx1 : ∀ (v6 : Int32) (v7 : Int32) (h : zm_H) (o1 : Option Value) (o6 : Option Value) (o7 : Option Value) (o8 : Option Value) (o9 : Option Value) (o10 : Option Value) (o11 : Option Value) (o12 : Option Value) (o13 : Option Value), zSh zT0 h → G (1, v6, v7, h) → zg x (d + 4) 256 145 [some (.ref 92), o1, some (.int v2), some (.int v3), some (.int v4), some (.int v5), o6, o7, o8, o9, o10, o11, o12, o13] [] h Q) (hx2 : ∀ (v6 : Int32) (v7 : Int32) (h : zm_H) (o1 : Option Value) (o6 : Option Value) (o7 : Option Value) (o8 : Option Value) (o9 : Option Value) (o10 : Option Value) (o11 : Option Value) (o12 : Option Value) (o13 : Option Value), zSh zT0 h → G (2, v6, v7, h) → zg x (d + 4) 256 176 [some (.ref 92), o1, some (.int v2), some (.int v3), some (.int v4), some (.int v5), o6, o7, o8, o9, o10, o11, o12, o13] [] h Q) (hx3 : ∀ (v6 : Int32) (v7 : Int32) (h : zm_H) (o1 : Option Value) (o7 : Option Value) (o8 : Option Value) (o9 : Option Value) (o10 : Option Value) (o11 : Option Value) (o12 : Option Value) (o13 : Option Value), zSh zT0 h → G (3, v6, v7, h) → zg x (d + 4) 256 190 [some (.ref 92), o1, some (.int v2), some (.int v3), some (.int v4), some (.int v5), some (.int v6), o7, o8, o9, o10, o11, o12, o13] [] h Q) : ∀ (n : Nat) (v6 : Int32) (v7 : Int32) (h : zm_H) (o1 : Option Value) (o8 : Option Value) (o9 : Option Value) (o10 : Option Value) (o11 : Option Value) (o12 : Option Value) (o13 : Option Value), zSh zT0 h → f_M_laying_l92_ok v2 v3 v4 v5 n (v6, v7, h) → G (f_M_laying_l92 v2 v3 v4 v5 n (v6, v7, h)) → zg x (d + 4) 256 92 [some (.ref 92), o1, some (.int v2), some (.int v3), some (.int v4), some (.int v5), some (.int v6), some (.int v7), o8, o9, o10, o11, o12, o13] [] h Q := by
  intro n
  induction n with
  | zero => intro v6 v7 h o1 o8 o9 o10 o11 o12 o13 hs ho hG; exact ho.elim
  | succ n ih =>
    intro v6 v7 h o1 o8 o9 o10 o11 o12 o13 hs ho hG
    refine f_M_laying_l92_b_t (FN := fun r => (r.1 = 0 → f_M_laying_l92_ok v2 v3 v4 v5 n r.2) ∧ G (if r.1 = 0 then f_M_laying_l92 v2 v3 v4 v5 n r.2 else r)) v2 v3 v4 v5 v6 v7 h o1 o8 o9 o10 o11 o12 o13 hs ho.1 ⟨ho.2, hG⟩ ?_ ?_ ?_ ?_
    · intro v6 v7 h o1 o8 o9 o10 o11 o12 o13 hs hF
      exact ih v6 v7 h o1 o8 o9 o10 o11 o12 o13 hs (hF.1 rfl) hF.2
    · intro v6 v7 h o1 o6 o7 o8 o9 o10 o11 o12 o13 hs hF
      exact hx1 v6 v7 h o1 o6 o7 o8 o9 o10 o11 o12 o13 hs hF.2
    · intro v6 v7 h o1 o6 o7 o8 o9 o10 o11 o12 o13 hs hF
      exact hx2 v6 v7 h o1 o6 o7 o8 o9 o10 o11 o12 o13 hs hF.2
    · intro v6 v7 h o1 o7 o8 o9 o10 o11 o12 o13 hs hF
      exact hx3 v6 v7 h o1 o7 o8 o9 o10 o11 o12 o13 hs hF.2

theorem f_M_laying_l92_w (v2 : Int32) (v3 : Int32) (v4 : Int32) (v5 : Int32) (n : Nat) (t : Int32 × Int32 × zm_H) : zWr [159] (t.2.2) ((f_M_laying_l92 v2 v3 v4 v5 n t).2.2.2) := zWr_zwh (fun t : Int32 × Int32 × zm_H => t.2.2) (fun t => f_M_laying_l92_b_w v2 v3 v4 v5 t.1 t.2.1 t.2.2)
def f_M_laying_k145 (h : zm_H) : Int32 × zm_H := ((-1), h)
def f_M_laying_k145_ok (h : zm_H) : Prop := True
set_option maxRecDepth 100000 in
set_option maxHeartbeats 400000 in
theorem f_M_laying_k145_t {x : zm_X} {d : Nat} (h : zm_H) (o0 : Option Value) (o1 : Option Value) (o2 : Option Value) (o3 : Option Value) (o4 : Option Value) (z5 : Int32) (o6 : Option Value) (o7 : Option Value) (o8 : Option Value) (o9 : Option Value) (o10 : Option Value) (o11 : Option Value) (o12 : Option Value) (o13 : Option Value) {Q : Option Value → zm_H → Prop} (hs : zSh zT0 h) (ho : f_M_laying_k145_ok h) (hF : (zSh zT0 (f_M_laying_k145 h).2 → Q (some (.int (f_M_laying_k145 h).1)) (f_M_laying_k145 h).2)) : zg x (d + 4) 256 145 [o0, o1, o2, o3, o4, some (.int z5), o6, o7, o8, o9, o10, o11, o12, o13] [] h Q := by
  unfold f_M_laying_k145 at hF
  unfold f_M_laying_k145_ok at ho
  refine zg_blk zd_256 1 hs (rfl : zb x zT0 zc_256 1 (145, [o0, o1, o2, o3, o4, some (.int z5), o6, o7, o8, o9, o10, o11, o12, o13], [], h) = some (146, [o0, o1, o2, o3, o4, some (.int z5), o6, o7, o8, o9, o10, o11, o12, o13], [.int (-1)], h)) (fun hs => ?_)
  exact zg_ret zd_256 rfl rfl (hF hs)
theorem f_M_laying_k145_w (h : zm_H) : zWr [] h ((f_M_laying_k145 h).2) := (zWr.refl _ _)
def f_M_laying_k176 (h : zm_H) : Int32 × zm_H := ((-1), h)
def f_M_laying_k176_ok (h : zm_H) : Prop := True
set_option maxRecDepth 100000 in
set_option maxHeartbeats 400000 in
theorem f_M_laying_k176_t {x : zm_X} {d : Nat} (h : zm_H) (o0 : Option Value) (o1 : Option Value) (o2 : Option Value) (o3 : Option Value) (o4 : Option Value) (z5 : Int32) (o6 : Option Value) (o7 : Option Value) (o8 : Option Value) (o9 : Option Value) (o10 : Option Value) (o11 : Option Value) (o12 : Option Value) (o13 : Option Value) {Q : Option Value → zm_H → Prop} (hs : zSh zT0 h) (ho : f_M_laying_k176_ok h) (hF : (zSh zT0 (f_M_laying_k176 h).2 → Q (some (.int (f_M_laying_k176 h).1)) (f_M_laying_k176 h).2)) : zg x (d + 4) 256 176 [o0, o1, o2, o3, o4, some (.int z5), o6, o7, o8, o9, o10, o11, o12, o13] [] h Q := by
  unfold f_M_laying_k176 at hF
  unfold f_M_laying_k176_ok at ho
  refine zg_blk zd_256 1 hs (rfl : zb x zT0 zc_256 1 (176, [o0, o1, o2, o3, o4, some (.int z5), o6, o7, o8, o9, o10, o11, o12, o13], [], h) = some (177, [o0, o1, o2, o3, o4, some (.int z5), o6, o7, o8, o9, o10, o11, o12, o13], [.int (-1)], h)) (fun hs => ?_)
  exact zg_ret zd_256 rfl rfl (hF hs)
theorem f_M_laying_k176_w (h : zm_H) : zWr [] h ((f_M_laying_k176 h).2) := (zWr.refl _ _)
def f_M_laying_l203_b (v2 : Int32) (v3 : Int32) (v4 : Int32) (v5 : Int32) (v6 : Int32) (v7 : Int32) (v8 : Int32) (h : zm_H) : Nat × Int32 × Int32 := (if (v2 ≤ v8) then (1, v7, v8) else (0, (v7 * (zf h 92 75)), (v8 + 1)))
def f_M_laying_l203_b_ok (v2 : Int32) (v3 : Int32) (v4 : Int32) (v5 : Int32) (v6 : Int32) (v7 : Int32) (v8 : Int32) (h : zm_H) : Prop := True
set_option maxRecDepth 100000 in
set_option maxHeartbeats 400000 in
theorem f_M_laying_l203_b_t {x : zm_X} {d : Nat} (v2 : Int32) (v3 : Int32) (v4 : Int32) (v5 : Int32) (v6 : Int32) (v7 : Int32) (v8 : Int32) (h : zm_H) (o1 : Option Value) (o9 : Option Value) (o10 : Option Value) (o11 : Option Value) (o12 : Option Value) (o13 : Option Value) {Q : Option Value → zm_H → Prop} {FN : Nat × Int32 × Int32 → Prop} (hs : zSh zT0 h) (ho : f_M_laying_l203_b_ok v2 v3 v4 v5 v6 v7 v8 h) (hF : FN (f_M_laying_l203_b v2 v3 v4 v5 v6 v7 v8 h)) (hl0 : ∀ (v7 : Int32) (v8 : Int32) (o1 : Option Value) (o9 : Option Value) (o10 : Option Value) (o11 : Option Value) (o12 : Option Value) (o13 : Option Value), zSh zT0 h → FN (0, v7, v8) → zg x (d + 4) 256 203 [some (.ref 92), o1, some (.int v2), some (.int v3), some (.int v4), some (.int v5), some (.int v6), some (.int v7), some (.int v8), o9, o10, o11, o12, o13] [] h Q) (hl1 : ∀ (v7 : Int32) (v8 : Int32) (o1 : Option Value) (o8 : Option Value) (o9 : Option Value) (o10 : Option Value) (o11 : Option Value) (o12 : Option Value) (o13 : Option Value), zSh zT0 h → FN (1, v7, v8) → zg x (d + 4) 256 224 [some (.ref 92), o1, some (.int v2), some (.int v3), some (.int v4), some (.int v5), some (.int v6), some (.int v7), o8, o9, o10, o11, o12, o13] [] h Q) : zg x (d + 4) 256 203 [some (.ref 92), o1, some (.int v2), some (.int v3), some (.int v4), some (.int v5), some (.int v6), some (.int v7), some (.int v8), o9, o10, o11, o12, o13] [] h Q := by
  unfold f_M_laying_l203_b at hF
  unfold f_M_laying_l203_b_ok at ho
  refine zg_blk zd_256 2 hs (rfl : zb x zT0 zc_256 2 (203, [some (.ref 92), o1, some (.int v2), some (.int v3), some (.int v4), some (.int v5), some (.int v6), some (.int v7), some (.int v8), o9, o10, o11, o12, o13], [], h) = some (206, [some (.ref 92), o1, some (.int v2), some (.int v3), some (.int v4), some (.int v5), some (.int v6), some (.int v7), some (.int v8), o9, o10, o11, o12, o13], [.int v2, .int v8], h)) (fun hs => ?_)
  refine zg_i_ge zd_256 rfl (fun (hc : (v2 ≤ v8)) => ?_) (fun (hc : ¬ (v2 ≤ v8)) => ?_)
  · skip
    rw [if_pos hc] at hF
    exact hl1 v7 v8 (o1) (some (.int v8)) (o9) (o10) (o11) (o12) (o13) hs hF
  · skip
    rw [if_neg hc] at hF
    refine zg_blk zd_256 7 hs (rfl : zb x zT0 zc_256 7 (209, [some (.ref 92), o1, some (.int v2), some (.int v3), some (.int v4), some (.int v5), some (.int v6), some (.int v7), some (.int v8), o9, o10, o11, o12, o13], [], h) = some (203, [some (.ref 92), o1, some (.int v2), some (.int v3), some (.int v4), some (.int v5), some (.int v6), some (.int (v7 * (zf h 92 75))), some (.int (v8 + 1)), o9, o10, o11, o12, o13], [], h)) (fun hs => ?_)
    exact hl0 (v7 * (zf h 92 75)) (v8 + 1) (o1) (o9) (o10) (o11) (o12) (o13) hs hF
def f_M_laying_l203 (v2 : Int32) (v3 : Int32) (v4 : Int32) (v5 : Int32) (v6 : Int32) (h : zm_H) (n : Nat) (t : Int32 × Int32) : Nat × Int32 × Int32 := zwh (fun t => f_M_laying_l203_b v2 v3 v4 v5 v6 t.1 t.2 h) n t
def f_M_laying_l203_ok (v2 : Int32) (v3 : Int32) (v4 : Int32) (v5 : Int32) (v6 : Int32) (h : zm_H) (n : Nat) (t : Int32 × Int32) : Prop := zwo (fun t => f_M_laying_l203_b v2 v3 v4 v5 v6 t.1 t.2 h) (fun t => f_M_laying_l203_b_ok v2 v3 v4 v5 v6 t.1 t.2 h) n t
theorem f_M_laying_l203_t {x : zm_X} {d : Nat} (v2 : Int32) (v3 : Int32) (v4 : Int32) (v5 : Int32) (v6 : Int32) (h : zm_H) {Q : Option Value → zm_H → Prop} (G : Nat × Int32 × Int32 → Prop) (hx1 : ∀ (v7 : Int32) (v8 : Int32) (o1 : Option Value) (o8 : Option Value) (o9 : Option Value) (o10 : Option Value) (o11 : Option Value) (o12 : Option Value) (o13 : Option Value), zSh zT0 h → G (1, v7, v8) → zg x (d + 4) 256 224 [some (.ref 92), o1, some (.int v2), some (.int v3), some (.int v4), some (.int v5), some (.int v6), some (.int v7), o8, o9, o10, o11, o12, o13] [] h Q) : ∀ (n : Nat) (v7 : Int32) (v8 : Int32) (o1 : Option Value) (o9 : Option Value) (o10 : Option Value) (o11 : Option Value) (o12 : Option Value) (o13 : Option Value), zSh zT0 h → f_M_laying_l203_ok v2 v3 v4 v5 v6 h n (v7, v8) → G (f_M_laying_l203 v2 v3 v4 v5 v6 h n (v7, v8)) → zg x (d + 4) 256 203 [some (.ref 92), o1, some (.int v2), some (.int v3), some (.int v4), some (.int v5), some (.int v6), some (.int v7), some (.int v8), o9, o10, o11, o12, o13] [] h Q := by
  intro n
  induction n with
  | zero => intro v7 v8 o1 o9 o10 o11 o12 o13 hs ho hG; exact ho.elim
  | succ n ih =>
    intro v7 v8 o1 o9 o10 o11 o12 o13 hs ho hG
    refine f_M_laying_l203_b_t (FN := fun r => (r.1 = 0 → f_M_laying_l203_ok v2 v3 v4 v5 v6 h n r.2) ∧ G (if r.1 = 0 then f_M_laying_l203 v2 v3 v4 v5 v6 h n r.2 else r)) v2 v3 v4 v5 v6 v7 v8 h o1 o9 o10 o11 o12 o13 hs ho.1 ⟨ho.2, hG⟩ ?_ ?_
    · intro v7 v8 o1 o9 o10 o11 o12 o13 hs hF
      exact ih v7 v8 o1 o9 o10 o11 o12 o13 hs (hF.1 rfl) hF.2
    · intro v7 v8 o1 o8 o9 o10 o11 o12 o13 hs hF
      exact hx1 v7 v8 o1 o8 o9 o10 o11 o12 o13 hs hF.2

def f_M_laying_l230_l249_l329_b (v2 : Int32) (v3 : Int32) (v4 : Int32) (v5 : Int32) (v7 : Int32) (v8 : Int32) (v9 : Int32) (v10 : Int32) (v11 : Int32) (v12 : Int32) (v13 : Int32) (h : zm_H) : Nat × Int32 × Int32 := (if (v2 ≤ v13) then (1, v11, v13) else (0, (if (¬ (v11 = 0) ∧ (¬ ((zr h 160 v13) = (zr h 160 v12)))) then (1 : Int32) else 0), (v13 + 1)))
def f_M_laying_l230_l249_l329_b_ok (v2 : Int32) (v3 : Int32) (v4 : Int32) (v5 : Int32) (v7 : Int32) (v8 : Int32) (v9 : Int32) (v10 : Int32) (v11 : Int32) (v12 : Int32) (v13 : Int32) (h : zm_H) : Prop := (((v2 ≤ v13) → True) ∧ (¬ (v2 ≤ v13) → (((v11 = 0) → True) ∧ (¬ (v11 = 0) → (vp_in v13 3 ∧ vp_in v12 3)))))
set_option maxRecDepth 100000 in
set_option maxHeartbeats 400000 in
theorem f_M_laying_l230_l249_l329_b_t {x : zm_X} {d : Nat} (v2 : Int32) (v3 : Int32) (v4 : Int32) (v5 : Int32) (v7 : Int32) (v8 : Int32) (v9 : Int32) (v10 : Int32) (v11 : Int32) (v12 : Int32) (v13 : Int32) (h : zm_H) (o1 : Option Value) (o6 : Option Value) {Q : Option Value → zm_H → Prop} {FN : Nat × Int32 × Int32 → Prop} (hs : zSh zT0 h) (ho : f_M_laying_l230_l249_l329_b_ok v2 v3 v4 v5 v7 v8 v9 v10 v11 v12 v13 h) (hF : FN (f_M_laying_l230_l249_l329_b v2 v3 v4 v5 v7 v8 v9 v10 v11 v12 v13 h)) (hl0 : ∀ (v11 : Int32) (v13 : Int32) (o1 : Option Value) (o6 : Option Value), zSh zT0 h → FN (0, v11, v13) → zg x (d + 4) 256 329 [some (.ref 92), o1, some (.int v2), some (.int v3), some (.int v4), some (.int v5), o6, some (.int v7), some (.int v8), some (.int v9), some (.int v10), some (.int v11), some (.int v12), some (.int v13)] [] h Q) (hl1 : ∀ (v11 : Int32) (v13 : Int32) (o1 : Option Value) (o6 : Option Value) (o13 : Option Value), zSh zT0 h → FN (1, v11, v13) → zg x (d + 4) 256 370 [some (.ref 92), o1, some (.int v2), some (.int v3), some (.int v4), some (.int v5), o6, some (.int v7), some (.int v8), some (.int v9), some (.int v10), some (.int v11), some (.int v12), o13] [] h Q) : zg x (d + 4) 256 329 [some (.ref 92), o1, some (.int v2), some (.int v3), some (.int v4), some (.int v5), o6, some (.int v7), some (.int v8), some (.int v9), some (.int v10), some (.int v11), some (.int v12), some (.int v13)] [] h Q := by
  unfold f_M_laying_l230_l249_l329_b at hF
  unfold f_M_laying_l230_l249_l329_b_ok at ho
  refine zg_blk zd_256 2 hs (rfl : zb x zT0 zc_256 2 (329, [some (.ref 92), o1, some (.int v2), some (.int v3), some (.int v4), some (.int v5), o6, some (.int v7), some (.int v8), some (.int v9), some (.int v10), some (.int v11), some (.int v12), some (.int v13)], [], h) = some (332, [some (.ref 92), o1, some (.int v2), some (.int v3), some (.int v4), some (.int v5), o6, some (.int v7), some (.int v8), some (.int v9), some (.int v10), some (.int v11), some (.int v12), some (.int v13)], [.int v2, .int v13], h)) (fun hs => ?_)
  refine zg_i_ge zd_256 rfl (fun (hc : (v2 ≤ v13)) => ?_) (fun (hc : ¬ (v2 ≤ v13)) => ?_)
  · have ho := ho.1 hc
    rw [if_pos hc] at hF
    exact hl1 v11 v13 (o1) (o6) (some (.int v13)) hs hF
  · have ho := ho.2 hc
    rw [if_neg hc] at hF
    refine zg_blk zd_256 1 hs (rfl : zb x zT0 zc_256 1 (335, [some (.ref 92), o1, some (.int v2), some (.int v3), some (.int v4), some (.int v5), o6, some (.int v7), some (.int v8), some (.int v9), some (.int v10), some (.int v11), some (.int v12), some (.int v13)], [], h) = some (337, [some (.ref 92), o1, some (.int v2), some (.int v3), some (.int v4), some (.int v5), o6, some (.int v7), some (.int v8), some (.int v9), some (.int v10), some (.int v11), some (.int v12), some (.int v13)], [.int v11], h)) (fun hs => ?_)
    have hom := ho
    have K174 : zSh zT0 h → zg x (d + 4) 256 362 [some (.ref 92), o1, some (.int v2), some (.int v3), some (.int v4), some (.int v5), o6, some (.int v7), some (.int v8), some (.int v9), some (.int v10), some (.int v11), some (.int v12), some (.int v13)] [.int (if (¬ (v11 = 0) ∧ (¬ ((zr h 160 v13) = (zr h 160 v12)))) then (1 : Int32) else 0)] h Q := fun hs => by
      refine zg_blk zd_256 3 hs (rfl : zb x zT0 zc_256 3 (362, [some (.ref 92), o1, some (.int v2), some (.int v3), some (.int v4), some (.int v5), o6, some (.int v7), some (.int v8), some (.int v9), some (.int v10), some (.int v11), some (.int v12), some (.int v13)], [.int (if (¬ (v11 = 0) ∧ (¬ ((zr h 160 v13) = (zr h 160 v12)))) then (1 : Int32) else 0)], h) = some (329, [some (.ref 92), o1, some (.int v2), some (.int v3), some (.int v4), some (.int v5), o6, some (.int v7), some (.int v8), some (.int v9), some (.int v10), some (.int (if (¬ (v11 = 0) ∧ (¬ ((zr h 160 v13) = (zr h 160 v12)))) then (1 : Int32) else 0)), some (.int v12), some (.int (v13 + 1))], [], h)) (fun hs => ?_)
      exact hl0 (if (¬ (v11 = 0) ∧ (¬ ((zr h 160 v13) = (zr h 160 v12)))) then (1 : Int32) else 0) (v13 + 1) (o1) (o6) hs hF
    refine zg_f_eq zd_256 rfl (fun (hc : (v11 = 0)) => ?_) (fun (hc : ¬ (v11 = 0)) => ?_)
    · have ho := hom.1 hc
      rw [show ((if (¬ (v11 = 0) ∧ (¬ ((zr h 160 v13) = (zr h 160 v12)))) then (1 : Int32) else 0) : Int32) = 0 from zb_nand_t hc] at K174
      refine zg_blk zd_256 1 hs (rfl : zb x zT0 zc_256 1 (361, [some (.ref 92), o1, some (.int v2), some (.int v3), some (.int v4), some (.int v5), o6, some (.int v7), some (.int v8), some (.int v9), some (.int v10), some (.int v11), some (.int v12), some (.int v13)], [], h) = some (362, [some (.ref 92), o1, some (.int v2), some (.int v3), some (.int v4), some (.int v5), o6, some (.int v7), some (.int v8), some (.int v9), some (.int v10), some (.int v11), some (.int v12), some (.int v13)], [.int 0], h)) (fun hs => ?_)
      exact K174 hs
    · have ho := hom.2 hc
      rw [show ((if (¬ (v11 = 0) ∧ (¬ ((zr h 160 v13) = (zr h 160 v12)))) then (1 : Int32) else 0) : Int32) = (if (¬ ((zr h 160 v13) = (zr h 160 v12))) then (1 : Int32) else 0) from zb_nand_f hc] at K174
      refine zg_blk zd_256 3 hs (rfl : zb x zT0 zc_256 3 (340, [some (.ref 92), o1, some (.int v2), some (.int v3), some (.int v4), some (.int v5), o6, some (.int v7), some (.int v8), some (.int v9), some (.int v10), some (.int v11), some (.int v12), some (.int v13)], [], h) = some (346, [some (.ref 92), o1, some (.int v2), some (.int v3), some (.int v4), some (.int v5), o6, some (.int v7), some (.int v8), some (.int v9), some (.int v10), some (.int v11), some (.int v12), some (.int v13)], [.int v13, .ref 160], h)) (fun hs => ?_)
      obtain ⟨hob, ho⟩ := ho
      refine zg_ial hs zd_256 rfl rfl hob ?_
      refine zg_blk zd_256 3 hs (rfl : zb x zT0 zc_256 3 (347, [some (.ref 92), o1, some (.int v2), some (.int v3), some (.int v4), some (.int v5), o6, some (.int v7), some (.int v8), some (.int v9), some (.int v10), some (.int v11), some (.int v12), some (.int v13)], [.int (zr h 160 v13)], h) = some (353, [some (.ref 92), o1, some (.int v2), some (.int v3), some (.int v4), some (.int v5), o6, some (.int v7), some (.int v8), some (.int v9), some (.int v10), some (.int v11), some (.int v12), some (.int v13)], [.int v12, .ref 160, .int (zr h 160 v13)], h)) (fun hs => ?_)
      have hob := ho
      refine zg_ial hs zd_256 rfl rfl hob ?_
      refine zg_i_eq zd_256 rfl (fun (hc : ((zr h 160 v13) = (zr h 160 v12))) => ?_) (fun (hc : ¬ ((zr h 160 v13) = (zr h 160 v12))) => ?_)
      · skip
        rw [show ((if (¬ ((zr h 160 v13) = (zr h 160 v12))) then (1 : Int32) else 0) : Int32) = 0 from zb_not_t hc] at K174
        refine zg_blk zd_256 1 hs (rfl : zb x zT0 zc_256 1 (361, [some (.ref 92), o1, some (.int v2), some (.int v3), some (.int v4), some (.int v5), o6, some (.int v7), some (.int v8), some (.int v9), some (.int v10), some (.int v11), some (.int v12), some (.int v13)], [], h) = some (362, [some (.ref 92), o1, some (.int v2), some (.int v3), some (.int v4), some (.int v5), o6, some (.int v7), some (.int v8), some (.int v9), some (.int v10), some (.int v11), some (.int v12), some (.int v13)], [.int 0], h)) (fun hs => ?_)
        exact K174 hs
      · skip
        rw [show ((if (¬ ((zr h 160 v13) = (zr h 160 v12))) then (1 : Int32) else 0) : Int32) = 1 from zb_not_f hc] at K174
        refine zg_blk zd_256 2 hs (rfl : zb x zT0 zc_256 2 (357, [some (.ref 92), o1, some (.int v2), some (.int v3), some (.int v4), some (.int v5), o6, some (.int v7), some (.int v8), some (.int v9), some (.int v10), some (.int v11), some (.int v12), some (.int v13)], [], h) = some (362, [some (.ref 92), o1, some (.int v2), some (.int v3), some (.int v4), some (.int v5), o6, some (.int v7), some (.int v8), some (.int v9), some (.int v10), some (.int v11), some (.int v12), some (.int v13)], [.int 1], h)) (fun hs => ?_)
        exact K174 hs
def f_M_laying_l230_l249_l329 (v2 : Int32) (v3 : Int32) (v4 : Int32) (v5 : Int32) (v7 : Int32) (v8 : Int32) (v9 : Int32) (v10 : Int32) (v12 : Int32) (h : zm_H) (n : Nat) (t : Int32 × Int32) : Nat × Int32 × Int32 := zwh (fun t => f_M_laying_l230_l249_l329_b v2 v3 v4 v5 v7 v8 v9 v10 t.1 v12 t.2 h) n t
def f_M_laying_l230_l249_l329_ok (v2 : Int32) (v3 : Int32) (v4 : Int32) (v5 : Int32) (v7 : Int32) (v8 : Int32) (v9 : Int32) (v10 : Int32) (v12 : Int32) (h : zm_H) (n : Nat) (t : Int32 × Int32) : Prop := zwo (fun t => f_M_laying_l230_l249_l329_b v2 v3 v4 v5 v7 v8 v9 v10 t.1 v12 t.2 h) (fun t => f_M_laying_l230_l249_l329_b_ok v2 v3 v4 v5 v7 v8 v9 v10 t.1 v12 t.2 h) n t
theorem f_M_laying_l230_l249_l329_t {x : zm_X} {d : Nat} (v2 : Int32) (v3 : Int32) (v4 : Int32) (v5 : Int32) (v7 : Int32) (v8 : Int32) (v9 : Int32) (v10 : Int32) (v12 : Int32) (h : zm_H) {Q : Option Value → zm_H → Prop} (G : Nat × Int32 × Int32 → Prop) (hx1 : ∀ (v11 : Int32) (v13 : Int32) (o1 : Option Value) (o6 : Option Value) (o13 : Option Value), zSh zT0 h → G (1, v11, v13) → zg x (d + 4) 256 370 [some (.ref 92), o1, some (.int v2), some (.int v3), some (.int v4), some (.int v5), o6, some (.int v7), some (.int v8), some (.int v9), some (.int v10), some (.int v11), some (.int v12), o13] [] h Q) : ∀ (n : Nat) (v11 : Int32) (v13 : Int32) (o1 : Option Value) (o6 : Option Value), zSh zT0 h → f_M_laying_l230_l249_l329_ok v2 v3 v4 v5 v7 v8 v9 v10 v12 h n (v11, v13) → G (f_M_laying_l230_l249_l329 v2 v3 v4 v5 v7 v8 v9 v10 v12 h n (v11, v13)) → zg x (d + 4) 256 329 [some (.ref 92), o1, some (.int v2), some (.int v3), some (.int v4), some (.int v5), o6, some (.int v7), some (.int v8), some (.int v9), some (.int v10), some (.int v11), some (.int v12), some (.int v13)] [] h Q := by
  intro n
  induction n with
  | zero => intro v11 v13 o1 o6 hs ho hG; exact ho.elim
  | succ n ih =>
    intro v11 v13 o1 o6 hs ho hG
    refine f_M_laying_l230_l249_l329_b_t (FN := fun r => (r.1 = 0 → f_M_laying_l230_l249_l329_ok v2 v3 v4 v5 v7 v8 v9 v10 v12 h n r.2) ∧ G (if r.1 = 0 then f_M_laying_l230_l249_l329 v2 v3 v4 v5 v7 v8 v9 v10 v12 h n r.2 else r)) v2 v3 v4 v5 v7 v8 v9 v10 v11 v12 v13 h o1 o6 hs ho.1 ⟨ho.2, hG⟩ ?_ ?_
    · intro v11 v13 o1 o6 hs hF
      exact ih v11 v13 o1 o6 hs (hF.1 rfl) hF.2
    · intro v11 v13 o1 o6 o13 hs hF
      exact hx1 v11 v13 o1 o6 o13 hs hF.2

def f_M_laying_l230_l249_k370 (v2 : Int32) (v3 : Int32) (v4 : Int32) (v5 : Int32) (v7 : Int32) (v8 : Int32) (v9 : Int32) (v10 : Int32) (v11 : Int32) (v12 : Int32) (h : zm_H) : Nat × Int32 × Int32 × Int32 × zm_H := (0, v10, v11, (v12 + (-1)), h)
def f_M_laying_l230_l249_k370_ok (v2 : Int32) (v3 : Int32) (v4 : Int32) (v5 : Int32) (v7 : Int32) (v8 : Int32) (v9 : Int32) (v10 : Int32) (v11 : Int32) (v12 : Int32) (h : zm_H) : Prop := True
set_option maxRecDepth 100000 in
set_option maxHeartbeats 400000 in
theorem f_M_laying_l230_l249_k370_t {x : zm_X} {d : Nat} (v2 : Int32) (v3 : Int32) (v4 : Int32) (v5 : Int32) (v7 : Int32) (v8 : Int32) (v9 : Int32) (v10 : Int32) (v11 : Int32) (v12 : Int32) (h : zm_H) (o1 : Option Value) (o6 : Option Value) (o13 : Option Value) {Q : Option Value → zm_H → Prop} {FN : Nat × Int32 × Int32 × Int32 × zm_H → Prop} (hs : zSh zT0 h) (ho : f_M_laying_l230_l249_k370_ok v2 v3 v4 v5 v7 v8 v9 v10 v11 v12 h) (hF : FN (f_M_laying_l230_l249_k370 v2 v3 v4 v5 v7 v8 v9 v10 v11 v12 h)) (hl0 : ∀ (v10 : Int32) (v11 : Int32) (v12 : Int32) (h : zm_H) (o1 : Option Value) (o6 : Option Value) (o13 : Option Value), zSh zT0 h → FN (0, v10, v11, v12, h) → zg x (d + 4) 256 249 [some (.ref 92), o1, some (.int v2), some (.int v3), some (.int v4), some (.int v5), o6, some (.int v7), some (.int v8), some (.int v9), some (.int v10), some (.int v11), some (.int v12), o13] [] h Q) (hl1 : ∀ (v10 : Int32) (v11 : Int32) (v12 : Int32) (h : zm_H) (o1 : Option Value) (o6 : Option Value) (o10 : Option Value) (o12 : Option Value) (o13 : Option Value), zSh zT0 h → FN (1, v10, v11, v12, h) → zg x (d + 4) 256 376 [some (.ref 92), o1, some (.int v2), some (.int v3), some (.int v4), some (.int v5), o6, some (.int v7), some (.int v8), some (.int v9), o10, some (.int v11), o12, o13] [] h Q) : zg x (d + 4) 256 370 [some (.ref 92), o1, some (.int v2), some (.int v3), some (.int v4), some (.int v5), o6, some (.int v7), some (.int v8), some (.int v9), some (.int v10), some (.int v11), some (.int v12), o13] [] h Q := by
  unfold f_M_laying_l230_l249_k370 at hF
  unfold f_M_laying_l230_l249_k370_ok at ho
  refine zg_blk zd_256 2 hs (rfl : zb x zT0 zc_256 2 (370, [some (.ref 92), o1, some (.int v2), some (.int v3), some (.int v4), some (.int v5), o6, some (.int v7), some (.int v8), some (.int v9), some (.int v10), some (.int v11), some (.int v12), o13], [], h) = some (249, [some (.ref 92), o1, some (.int v2), some (.int v3), some (.int v4), some (.int v5), o6, some (.int v7), some (.int v8), some (.int v9), some (.int v10), some (.int v11), some (.int (v12 + (-1))), o13], [], h)) (fun hs => ?_)
  exact hl0 v10 v11 (v12 + (-1)) h (o1) (o6) (o13) hs hF
theorem f_M_laying_l230_l249_k370_w (v2 : Int32) (v3 : Int32) (v4 : Int32) (v5 : Int32) (v7 : Int32) (v8 : Int32) (v9 : Int32) (v10 : Int32) (v11 : Int32) (v12 : Int32) (h : zm_H) : zWr [] h ((f_M_laying_l230_l249_k370 v2 v3 v4 v5 v7 v8 v9 v10 v11 v12 h).2.2.2.2) := (zWr.refl _ _)
def f_M_laying_l230_l249_a329 (v2 : Int32) (v3 : Int32) (v4 : Int32) (v5 : Int32) (v7 : Int32) (v8 : Int32) (v9 : Int32) (v10 : Int32) (v12 : Int32) (r : Nat × Int32 × Int32) (h : zm_H) : Nat × Int32 × Int32 × Int32 × zm_H := (f_M_laying_l230_l249_k370 v2 v3 v4 v5 v7 v8 v9 v10 (r.2.1) v12 h)
def f_M_laying_l230_l249_a329_ok (v2 : Int32) (v3 : Int32) (v4 : Int32) (v5 : Int32) (v7 : Int32) (v8 : Int32) (v9 : Int32) (v10 : Int32) (v12 : Int32) (r : Nat × Int32 × Int32) (h : zm_H) : Prop := True
theorem f_M_laying_l230_l249_a329_w (v2 : Int32) (v3 : Int32) (v4 : Int32) (v5 : Int32) (v7 : Int32) (v8 : Int32) (v9 : Int32) (v10 : Int32) (v12 : Int32) (r : Nat × Int32 × Int32) (h : zm_H) : zWr [] h ((f_M_laying_l230_l249_a329 v2 v3 v4 v5 v7 v8 v9 v10 v12 r h).2.2.2.2) := (zWr_tr (f_M_laying_l230_l249_k370_w v2 v3 v4 v5 v7 v8 v9 v10 (r.2.1) v12 h) (by decide) (zWr.refl _ _))
def f_M_laying_l230_l249_b (v2 : Int32) (v3 : Int32) (v4 : Int32) (v5 : Int32) (v7 : Int32) (v8 : Int32) (v9 : Int32) (v10 : Int32) (v11 : Int32) (v12 : Int32) (h : zm_H) : Nat × Int32 × Int32 × Int32 × zm_H := (if (v12 < 0) then (1, v10, v11, v12, h) else (f_M_laying_l230_l249_a329 v2 v3 v4 v5 v7 v8 v9 (v10 / (zf h 92 75)) v12 (f_M_laying_l230_l249_l329 v2 v3 v4 v5 v7 v8 v9 (v10 / (zf h 92 75)) v12 (zs h 160 v12 (zr h 148 (zm_rm v10 (zf h 92 75)))) zF ((if (¬ (v11 = 0) ∧ (((f_M_isShut (zr (zs h 160 v12 (zr h 148 (zm_rm v10 (zf h 92 75)))) 160 v12) (zs h 160 v12 (zr h 148 (zm_rm v10 (zf h 92 75))))) = 0) ∧ ((f_M_isTaken 0 (zr (zs h 160 v12 (zr h 148 (zm_rm v10 (zf h 92 75)))) 160 v12) (zs h 160 v12 (zr h 148 (zm_rm v10 (zf h 92 75))))) = 0))) then (1 : Int32) else 0), (v12 + 1))) (zs h 160 v12 (zr h 148 (zm_rm v10 (zf h 92 75))))))
def f_M_laying_l230_l249_b_ok (v2 : Int32) (v3 : Int32) (v4 : Int32) (v5 : Int32) (v7 : Int32) (v8 : Int32) (v9 : Int32) (v10 : Int32) (v11 : Int32) (v12 : Int32) (h : zm_H) : Prop := (((v12 < 0) → True) ∧ (¬ (v12 < 0) → (¬ (zf h 92 75) = 0 ∧ (vp_in (zm_rm v10 (zf h 92 75)) 8 ∧ (vp_in v12 3 ∧ (¬ (zf h 92 75) = 0 ∧ ((((v11 = 0) → True) ∧ (¬ (v11 = 0) → (vp_in v12 3 ∧ (f_M_isShut_ok (zr (zs h 160 v12 (zr h 148 (zm_rm v10 (zf h 92 75)))) 160 v12) (zs h 160 v12 (zr h 148 (zm_rm v10 (zf h 92 75)))) ∧ ((((f_M_isShut (zr (zs h 160 v12 (zr h 148 (zm_rm v10 (zf h 92 75)))) 160 v12) (zs h 160 v12 (zr h 148 (zm_rm v10 (zf h 92 75))))) = 0) → (vp_in v12 3 ∧ f_M_isTaken_ok 0 (zr (zs h 160 v12 (zr h 148 (zm_rm v10 (zf h 92 75)))) 160 v12) (zs h 160 v12 (zr h 148 (zm_rm v10 (zf h 92 75)))))) ∧ (¬ ((f_M_isShut (zr (zs h 160 v12 (zr h 148 (zm_rm v10 (zf h 92 75)))) 160 v12) (zs h 160 v12 (zr h 148 (zm_rm v10 (zf h 92 75))))) = 0) → True)))))) ∧ (f_M_laying_l230_l249_l329_ok v2 v3 v4 v5 v7 v8 v9 (v10 / (zf h 92 75)) v12 (zs h 160 v12 (zr h 148 (zm_rm v10 (zf h 92 75)))) zF ((if (¬ (v11 = 0) ∧ (((f_M_isShut (zr (zs h 160 v12 (zr h 148 (zm_rm v10 (zf h 92 75)))) 160 v12) (zs h 160 v12 (zr h 148 (zm_rm v10 (zf h 92 75))))) = 0) ∧ ((f_M_isTaken 0 (zr (zs h 160 v12 (zr h 148 (zm_rm v10 (zf h 92 75)))) 160 v12) (zs h 160 v12 (zr h 148 (zm_rm v10 (zf h 92 75))))) = 0))) then (1 : Int32) else 0), (v12 + 1)) ∧ f_M_laying_l230_l249_a329_ok v2 v3 v4 v5 v7 v8 v9 (v10 / (zf h 92 75)) v12 (f_M_laying_l230_l249_l329 v2 v3 v4 v5 v7 v8 v9 (v10 / (zf h 92 75)) v12 (zs h 160 v12 (zr h 148 (zm_rm v10 (zf h 92 75)))) zF ((if (¬ (v11 = 0) ∧ (((f_M_isShut (zr (zs h 160 v12 (zr h 148 (zm_rm v10 (zf h 92 75)))) 160 v12) (zs h 160 v12 (zr h 148 (zm_rm v10 (zf h 92 75))))) = 0) ∧ ((f_M_isTaken 0 (zr (zs h 160 v12 (zr h 148 (zm_rm v10 (zf h 92 75)))) 160 v12) (zs h 160 v12 (zr h 148 (zm_rm v10 (zf h 92 75))))) = 0))) then (1 : Int32) else 0), (v12 + 1))) (zs h 160 v12 (zr h 148 (zm_rm v10 (zf h 92 75))))))))))))
set_option maxRecDepth 100000 in
set_option maxHeartbeats 400000 in
theorem f_M_laying_l230_l249_b_t {x : zm_X} {d : Nat} (v2 : Int32) (v3 : Int32) (v4 : Int32) (v5 : Int32) (v7 : Int32) (v8 : Int32) (v9 : Int32) (v10 : Int32) (v11 : Int32) (v12 : Int32) (h : zm_H) (o1 : Option Value) (o6 : Option Value) (o13 : Option Value) {Q : Option Value → zm_H → Prop} {FN : Nat × Int32 × Int32 × Int32 × zm_H → Prop} (hs : zSh zT0 h) (ho : f_M_laying_l230_l249_b_ok v2 v3 v4 v5 v7 v8 v9 v10 v11 v12 h) (hF : FN (f_M_laying_l230_l249_b v2 v3 v4 v5 v7 v8 v9 v10 v11 v12 h)) (hl0 : ∀ (v10 : Int32) (v11 : Int32) (v12 : Int32) (h : zm_H) (o1 : Option Value) (o6 : Option Value) (o13 : Option Value), zSh zT0 h → FN (0, v10, v11, v12, h) → zg x (d + 4) 256 249 [some (.ref 92), o1, some (.int v2), some (.int v3), some (.int v4), some (.int v5), o6, some (.int v7), some (.int v8), some (.int v9), some (.int v10), some (.int v11), some (.int v12), o13] [] h Q) (hl1 : ∀ (v10 : Int32) (v11 : Int32) (v12 : Int32) (h : zm_H) (o1 : Option Value) (o6 : Option Value) (o10 : Option Value) (o12 : Option Value) (o13 : Option Value), zSh zT0 h → FN (1, v10, v11, v12, h) → zg x (d + 4) 256 376 [some (.ref 92), o1, some (.int v2), some (.int v3), some (.int v4), some (.int v5), o6, some (.int v7), some (.int v8), some (.int v9), o10, some (.int v11), o12, o13] [] h Q) : zg x (d + 4) 256 249 [some (.ref 92), o1, some (.int v2), some (.int v3), some (.int v4), some (.int v5), o6, some (.int v7), some (.int v8), some (.int v9), some (.int v10), some (.int v11), some (.int v12), o13] [] h Q := by
  unfold f_M_laying_l230_l249_b at hF
  unfold f_M_laying_l230_l249_b_ok at ho
  refine zg_blk zd_256 1 hs (rfl : zb x zT0 zc_256 1 (249, [some (.ref 92), o1, some (.int v2), some (.int v3), some (.int v4), some (.int v5), o6, some (.int v7), some (.int v8), some (.int v9), some (.int v10), some (.int v11), some (.int v12), o13], [], h) = some (251, [some (.ref 92), o1, some (.int v2), some (.int v3), some (.int v4), some (.int v5), o6, some (.int v7), some (.int v8), some (.int v9), some (.int v10), some (.int v11), some (.int v12), o13], [.int v12], h)) (fun hs => ?_)
  refine zg_f_lt zd_256 rfl (fun (hc : (v12 < 0)) => ?_) (fun (hc : ¬ (v12 < 0)) => ?_)
  · have ho := ho.1 hc
    rw [if_pos hc] at hF
    exact hl1 v10 v11 v12 h (o1) (o6) (some (.int v10)) (some (.int v12)) (o13) hs hF
  · have ho := ho.2 hc
    rw [if_neg hc] at hF
    refine zg_blk zd_256 8 hs (rfl : zb x zT0 zc_256 8 (254, [some (.ref 92), o1, some (.int v2), some (.int v3), some (.int v4), some (.int v5), o6, some (.int v7), some (.int v8), some (.int v9), some (.int v10), some (.int v11), some (.int v12), o13], [], h) = some (270, [some (.ref 92), o1, some (.int v2), some (.int v3), some (.int v4), some (.int v5), o6, some (.int v7), some (.int v8), some (.int v9), some (.int v10), some (.int v11), some (.int v12), o13], [.int (zf h 92 75), .int v10, .ref 148, .int v12, .ref 160], h)) (fun hs => ?_)
    obtain ⟨hob, ho⟩ := ho
    refine zg_rem zd_256 rfl hob ?_
    obtain ⟨hob, ho⟩ := ho
    refine zg_ial hs zd_256 rfl rfl hob ?_
    obtain ⟨hob, ho⟩ := ho
    refine zg_ias hs zd_256 rfl rfl hob (fun hs => ?_)
    refine zg_blk zd_256 3 hs (rfl : zb x zT0 zc_256 3 (273, [some (.ref 92), o1, some (.int v2), some (.int v3), some (.int v4), some (.int v5), o6, some (.int v7), some (.int v8), some (.int v9), some (.int v10), some (.int v11), some (.int v12), o13], [], (zs h 160 v12 (zr h 148 (zm_rm v10 (zf h 92 75))))) = some (279, [some (.ref 92), o1, some (.int v2), some (.int v3), some (.int v4), some (.int v5), o6, some (.int v7), some (.int v8), some (.int v9), some (.int v10), some (.int v11), some (.int v12), o13], [.int (zf h 92 75), .int v10], (zs h 160 v12 (zr h 148 (zm_rm v10 (zf h 92 75)))))) (fun hs => ?_)
    obtain ⟨hob, ho⟩ := ho
    refine zg_div zd_256 rfl hob ?_
    refine zg_blk zd_256 2 hs (rfl : zb x zT0 zc_256 2 (280, [some (.ref 92), o1, some (.int v2), some (.int v3), some (.int v4), some (.int v5), o6, some (.int v7), some (.int v8), some (.int v9), some (.int v10), some (.int v11), some (.int v12), o13], [.int (v10 / (zf h 92 75))], (zs h 160 v12 (zr h 148 (zm_rm v10 (zf h 92 75))))) = some (284, [some (.ref 92), o1, some (.int v2), some (.int v3), some (.int v4), some (.int v5), o6, some (.int v7), some (.int v8), some (.int v9), some (.int (v10 / (zf h 92 75))), some (.int v11), some (.int v12), o13], [.int v11], (zs h 160 v12 (zr h 148 (zm_rm v10 (zf h 92 75)))))) (fun hs => ?_)
    obtain ⟨hom, ho⟩ := ho
    have K175 : zSh zT0 (zs h 160 v12 (zr h 148 (zm_rm v10 (zf h 92 75)))) → zg x (d + 4) 256 321 [some (.ref 92), o1, some (.int v2), some (.int v3), some (.int v4), some (.int v5), o6, some (.int v7), some (.int v8), some (.int v9), some (.int (v10 / (zf h 92 75))), some (.int v11), some (.int v12), o13] [.int (if (¬ (v11 = 0) ∧ (((f_M_isShut (zr (zs h 160 v12 (zr h 148 (zm_rm v10 (zf h 92 75)))) 160 v12) (zs h 160 v12 (zr h 148 (zm_rm v10 (zf h 92 75))))) = 0) ∧ ((f_M_isTaken 0 (zr (zs h 160 v12 (zr h 148 (zm_rm v10 (zf h 92 75)))) 160 v12) (zs h 160 v12 (zr h 148 (zm_rm v10 (zf h 92 75))))) = 0))) then (1 : Int32) else 0)] (zs h 160 v12 (zr h 148 (zm_rm v10 (zf h 92 75)))) Q := fun hs => by
      refine zg_blk zd_256 5 hs (rfl : zb x zT0 zc_256 5 (321, [some (.ref 92), o1, some (.int v2), some (.int v3), some (.int v4), some (.int v5), o6, some (.int v7), some (.int v8), some (.int v9), some (.int (v10 / (zf h 92 75))), some (.int v11), some (.int v12), o13], [.int (if (¬ (v11 = 0) ∧ (((f_M_isShut (zr (zs h 160 v12 (zr h 148 (zm_rm v10 (zf h 92 75)))) 160 v12) (zs h 160 v12 (zr h 148 (zm_rm v10 (zf h 92 75))))) = 0) ∧ ((f_M_isTaken 0 (zr (zs h 160 v12 (zr h 148 (zm_rm v10 (zf h 92 75)))) 160 v12) (zs h 160 v12 (zr h 148 (zm_rm v10 (zf h 92 75))))) = 0))) then (1 : Int32) else 0)], (zs h 160 v12 (zr h 148 (zm_rm v10 (zf h 92 75))))) = some (329, [some (.ref 92), o1, some (.int v2), some (.int v3), some (.int v4), some (.int v5), o6, some (.int v7), some (.int v8), some (.int v9), some (.int (v10 / (zf h 92 75))), some (.int (if (¬ (v11 = 0) ∧ (((f_M_isShut (zr (zs h 160 v12 (zr h 148 (zm_rm v10 (zf h 92 75)))) 160 v12) (zs h 160 v12 (zr h 148 (zm_rm v10 (zf h 92 75))))) = 0) ∧ ((f_M_isTaken 0 (zr (zs h 160 v12 (zr h 148 (zm_rm v10 (zf h 92 75)))) 160 v12) (zs h 160 v12 (zr h 148 (zm_rm v10 (zf h 92 75))))) = 0))) then (1 : Int32) else 0)), some (.int v12), some (.int (v12 + 1))], [], (zs h 160 v12 (zr h 148 (zm_rm v10 (zf h 92 75)))))) (fun hs => ?_)
      refine f_M_laying_l230_l249_l329_t v2 v3 v4 v5 v7 v8 v9 (v10 / (zf h 92 75)) v12 (zs h 160 v12 (zr h 148 (zm_rm v10 (zf h 92 75)))) (fun r => f_M_laying_l230_l249_a329_ok v2 v3 v4 v5 v7 v8 v9 (v10 / (zf h 92 75)) v12 r (zs h 160 v12 (zr h 148 (zm_rm v10 (zf h 92 75)))) ∧ FN (f_M_laying_l230_l249_a329 v2 v3 v4 v5 v7 v8 v9 (v10 / (zf h 92 75)) v12 r (zs h 160 v12 (zr h 148 (zm_rm v10 (zf h 92 75)))))) ?_ zF (if (¬ (v11 = 0) ∧ (((f_M_isShut (zr (zs h 160 v12 (zr h 148 (zm_rm v10 (zf h 92 75)))) 160 v12) (zs h 160 v12 (zr h 148 (zm_rm v10 (zf h 92 75))))) = 0) ∧ ((f_M_isTaken 0 (zr (zs h 160 v12 (zr h 148 (zm_rm v10 (zf h 92 75)))) 160 v12) (zs h 160 v12 (zr h 148 (zm_rm v10 (zf h 92 75))))) = 0))) then (1 : Int32) else 0) (v12 + 1) (o1) (o6) hs ho.1 ⟨ho.2, hF⟩
      · intro v11_ v13_ o1_ o6_ o13_ hs hG
        have ho : True := trivial
        have hF : FN ((f_M_laying_l230_l249_k370 v2 v3 v4 v5 v7 v8 v9 (v10 / (zf h 92 75)) v11_ v12 (zs h 160 v12 (zr h 148 (zm_rm v10 (zf h 92 75)))))) := hG.2
        exact f_M_laying_l230_l249_k370_t v2 v3 v4 v5 v7 v8 v9 (v10 / (zf h 92 75)) v11_ v12 (zs h 160 v12 (zr h 148 (zm_rm v10 (zf h 92 75)))) (o1_) (o6_) (o13_) hs trivial hF hl0 hl1
    refine zg_f_eq zd_256 rfl (fun (hc : (v11 = 0)) => ?_) (fun (hc : ¬ (v11 = 0)) => ?_)
    · have ho := hom.1 hc
      rw [show ((if (¬ (v11 = 0) ∧ (((f_M_isShut (zr (zs h 160 v12 (zr h 148 (zm_rm v10 (zf h 92 75)))) 160 v12) (zs h 160 v12 (zr h 148 (zm_rm v10 (zf h 92 75))))) = 0) ∧ ((f_M_isTaken 0 (zr (zs h 160 v12 (zr h 148 (zm_rm v10 (zf h 92 75)))) 160 v12) (zs h 160 v12 (zr h 148 (zm_rm v10 (zf h 92 75))))) = 0))) then (1 : Int32) else 0) : Int32) = 0 from zb_nand_t hc] at K175
      refine zg_blk zd_256 1 hs (rfl : zb x zT0 zc_256 1 (320, [some (.ref 92), o1, some (.int v2), some (.int v3), some (.int v4), some (.int v5), o6, some (.int v7), some (.int v8), some (.int v9), some (.int (v10 / (zf h 92 75))), some (.int v11), some (.int v12), o13], [], (zs h 160 v12 (zr h 148 (zm_rm v10 (zf h 92 75))))) = some (321, [some (.ref 92), o1, some (.int v2), some (.int v3), some (.int v4), some (.int v5), o6, some (.int v7), some (.int v8), some (.int v9), some (.int (v10 / (zf h 92 75))), some (.int v11), some (.int v12), o13], [.int 0], (zs h 160 v12 (zr h 148 (zm_rm v10 (zf h 92 75)))))) (fun hs => ?_)
      exact K175 hs
    · have ho := hom.2 hc
      rw [show ((if (¬ (v11 = 0) ∧ (((f_M_isShut (zr (zs h 160 v12 (zr h 148 (zm_rm v10 (zf h 92 75)))) 160 v12) (zs h 160 v12 (zr h 148 (zm_rm v10 (zf h 92 75))))) = 0) ∧ ((f_M_isTaken 0 (zr (zs h 160 v12 (zr h 148 (zm_rm v10 (zf h 92 75)))) 160 v12) (zs h 160 v12 (zr h 148 (zm_rm v10 (zf h 92 75))))) = 0))) then (1 : Int32) else 0) : Int32) = (if (((f_M_isShut (zr (zs h 160 v12 (zr h 148 (zm_rm v10 (zf h 92 75)))) 160 v12) (zs h 160 v12 (zr h 148 (zm_rm v10 (zf h 92 75))))) = 0) ∧ ((f_M_isTaken 0 (zr (zs h 160 v12 (zr h 148 (zm_rm v10 (zf h 92 75)))) 160 v12) (zs h 160 v12 (zr h 148 (zm_rm v10 (zf h 92 75))))) = 0)) then (1 : Int32) else 0) from zb_nand_f hc] at K175
      refine zg_blk zd_256 4 hs (rfl : zb x zT0 zc_256 4 (287, [some (.ref 92), o1, some (.int v2), some (.int v3), some (.int v4), some (.int v5), o6, some (.int v7), some (.int v8), some (.int v9), some (.int (v10 / (zf h 92 75))), some (.int v11), some (.int v12), o13], [], (zs h 160 v12 (zr h 148 (zm_rm v10 (zf h 92 75))))) = some (294, [some (.ref 92), o1, some (.int v2), some (.int v3), some (.int v4), some (.int v5), o6, some (.int v7), some (.int v8), some (.int v9), some (.int (v10 / (zf h 92 75))), some (.int v11), some (.int v12), o13], [.int v12, .ref 160, .ref 92], (zs h 160 v12 (zr h 148 (zm_rm v10 (zf h 92 75)))))) (fun hs => ?_)
      obtain ⟨hob, ho⟩ := ho
      refine zg_ial hs zd_256 rfl rfl hob ?_
      obtain ⟨hob, ho⟩ := ho
      refine zg_call hs zd_256 rfl rfl rfl rfl (as := [.ref 92, .int (zr (zs h 160 v12 (zr h 148 (zm_rm v10 (zf h 92 75)))) 160 v12)]) (rest := []) (en := [some (.ref 92), some (.int (zr (zs h 160 v12 (zr h 148 (zm_rm v10 (zf h 92 75)))) 160 v12)), none]) rfl rfl rfl rfl rfl ?_
      refine f_M_isShut_t (zr (zs h 160 v12 (zr h 148 (zm_rm v10 (zf h 92 75)))) 160 v12) (zs h 160 v12 (zr h 148 (zm_rm v10 (zf h 92 75)))) hs hob ?_
      show zg x (d + 4) 256 298 [some (.ref 92), o1, some (.int v2), some (.int v3), some (.int v4), some (.int v5), o6, some (.int v7), some (.int v8), some (.int v9), some (.int (v10 / (zf h 92 75))), some (.int v11), some (.int v12), o13] [.int (f_M_isShut (zr (zs h 160 v12 (zr h 148 (zm_rm v10 (zf h 92 75)))) 160 v12) (zs h 160 v12 (zr h 148 (zm_rm v10 (zf h 92 75)))))] (zs h 160 v12 (zr h 148 (zm_rm v10 (zf h 92 75)))) Q
      refine zg_f_ne zd_256 rfl (fun (hc : ¬ ((f_M_isShut (zr (zs h 160 v12 (zr h 148 (zm_rm v10 (zf h 92 75)))) 160 v12) (zs h 160 v12 (zr h 148 (zm_rm v10 (zf h 92 75))))) = 0)) => ?_) (fun (hc : ((f_M_isShut (zr (zs h 160 v12 (zr h 148 (zm_rm v10 (zf h 92 75)))) 160 v12) (zs h 160 v12 (zr h 148 (zm_rm v10 (zf h 92 75))))) = 0)) => ?_)
      · have ho := ho.2 hc
        rw [show ((if (((f_M_isShut (zr (zs h 160 v12 (zr h 148 (zm_rm v10 (zf h 92 75)))) 160 v12) (zs h 160 v12 (zr h 148 (zm_rm v10 (zf h 92 75))))) = 0) ∧ ((f_M_isTaken 0 (zr (zs h 160 v12 (zr h 148 (zm_rm v10 (zf h 92 75)))) 160 v12) (zs h 160 v12 (zr h 148 (zm_rm v10 (zf h 92 75))))) = 0)) then (1 : Int32) else 0) : Int32) = 0 from zb_and_f hc] at K175
        refine zg_blk zd_256 1 hs (rfl : zb x zT0 zc_256 1 (320, [some (.ref 92), o1, some (.int v2), some (.int v3), some (.int v4), some (.int v5), o6, some (.int v7), some (.int v8), some (.int v9), some (.int (v10 / (zf h 92 75))), some (.int v11), some (.int v12), o13], [], (zs h 160 v12 (zr h 148 (zm_rm v10 (zf h 92 75))))) = some (321, [some (.ref 92), o1, some (.int v2), some (.int v3), some (.int v4), some (.int v5), o6, some (.int v7), some (.int v8), some (.int v9), some (.int (v10 / (zf h 92 75))), some (.int v11), some (.int v12), o13], [.int 0], (zs h 160 v12 (zr h 148 (zm_rm v10 (zf h 92 75)))))) (fun hs => ?_)
        exact K175 hs
      · have ho := ho.1 hc
        rw [show ((if (((f_M_isShut (zr (zs h 160 v12 (zr h 148 (zm_rm v10 (zf h 92 75)))) 160 v12) (zs h 160 v12 (zr h 148 (zm_rm v10 (zf h 92 75))))) = 0) ∧ ((f_M_isTaken 0 (zr (zs h 160 v12 (zr h 148 (zm_rm v10 (zf h 92 75)))) 160 v12) (zs h 160 v12 (zr h 148 (zm_rm v10 (zf h 92 75))))) = 0)) then (1 : Int32) else 0) : Int32) = (if ((f_M_isTaken 0 (zr (zs h 160 v12 (zr h 148 (zm_rm v10 (zf h 92 75)))) 160 v12) (zs h 160 v12 (zr h 148 (zm_rm v10 (zf h 92 75))))) = 0) then (1 : Int32) else 0) from zb_and_t hc] at K175
        refine zg_blk zd_256 5 hs (rfl : zb x zT0 zc_256 5 (301, [some (.ref 92), o1, some (.int v2), some (.int v3), some (.int v4), some (.int v5), o6, some (.int v7), some (.int v8), some (.int v9), some (.int (v10 / (zf h 92 75))), some (.int v11), some (.int v12), o13], [], (zs h 160 v12 (zr h 148 (zm_rm v10 (zf h 92 75))))) = some (309, [some (.ref 92), o1, some (.int v2), some (.int v3), some (.int v4), some (.int v5), o6, some (.int v7), some (.int v8), some (.int v9), some (.int (v10 / (zf h 92 75))), some (.int v11), some (.int v12), o13], [.int v12, .ref 160, .int 0, .ref 92], (zs h 160 v12 (zr h 148 (zm_rm v10 (zf h 92 75)))))) (fun hs => ?_)
        obtain ⟨hob, ho⟩ := ho
        refine zg_ial hs zd_256 rfl rfl hob ?_
        have hob := ho
        refine zg_call hs zd_256 rfl rfl rfl rfl (as := [.ref 92, .int 0, .int (zr (zs h 160 v12 (zr h 148 (zm_rm v10 (zf h 92 75)))) 160 v12)]) (rest := []) (en := [some (.ref 92), some (.int 0), some (.int (zr (zs h 160 v12 (zr h 148 (zm_rm v10 (zf h 92 75)))) 160 v12)), none]) rfl rfl rfl rfl rfl ?_
        refine f_M_isTaken_t 0 (zr (zs h 160 v12 (zr h 148 (zm_rm v10 (zf h 92 75)))) 160 v12) (zs h 160 v12 (zr h 148 (zm_rm v10 (zf h 92 75)))) hs hob ?_
        show zg x (d + 4) 256 313 [some (.ref 92), o1, some (.int v2), some (.int v3), some (.int v4), some (.int v5), o6, some (.int v7), some (.int v8), some (.int v9), some (.int (v10 / (zf h 92 75))), some (.int v11), some (.int v12), o13] [.int (f_M_isTaken 0 (zr (zs h 160 v12 (zr h 148 (zm_rm v10 (zf h 92 75)))) 160 v12) (zs h 160 v12 (zr h 148 (zm_rm v10 (zf h 92 75)))))] (zs h 160 v12 (zr h 148 (zm_rm v10 (zf h 92 75)))) Q
        refine zg_f_ne zd_256 rfl (fun (hc : ¬ ((f_M_isTaken 0 (zr (zs h 160 v12 (zr h 148 (zm_rm v10 (zf h 92 75)))) 160 v12) (zs h 160 v12 (zr h 148 (zm_rm v10 (zf h 92 75))))) = 0)) => ?_) (fun (hc : ((f_M_isTaken 0 (zr (zs h 160 v12 (zr h 148 (zm_rm v10 (zf h 92 75)))) 160 v12) (zs h 160 v12 (zr h 148 (zm_rm v10 (zf h 92 75))))) = 0)) => ?_)
        · skip
          rw [show ((if ((f_M_isTaken 0 (zr (zs h 160 v12 (zr h 148 (zm_rm v10 (zf h 92 75)))) 160 v12) (zs h 160 v12 (zr h 148 (zm_rm v10 (zf h 92 75))))) = 0) then (1 : Int32) else 0) : Int32) = 0 from if_neg hc] at K175
          refine zg_blk zd_256 1 hs (rfl : zb x zT0 zc_256 1 (320, [some (.ref 92), o1, some (.int v2), some (.int v3), some (.int v4), some (.int v5), o6, some (.int v7), some (.int v8), some (.int v9), some (.int (v10 / (zf h 92 75))), some (.int v11), some (.int v12), o13], [], (zs h 160 v12 (zr h 148 (zm_rm v10 (zf h 92 75))))) = some (321, [some (.ref 92), o1, some (.int v2), some (.int v3), some (.int v4), some (.int v5), o6, some (.int v7), some (.int v8), some (.int v9), some (.int (v10 / (zf h 92 75))), some (.int v11), some (.int v12), o13], [.int 0], (zs h 160 v12 (zr h 148 (zm_rm v10 (zf h 92 75)))))) (fun hs => ?_)
          exact K175 hs
        · skip
          rw [show ((if ((f_M_isTaken 0 (zr (zs h 160 v12 (zr h 148 (zm_rm v10 (zf h 92 75)))) 160 v12) (zs h 160 v12 (zr h 148 (zm_rm v10 (zf h 92 75))))) = 0) then (1 : Int32) else 0) : Int32) = 1 from if_pos hc] at K175
          refine zg_blk zd_256 2 hs (rfl : zb x zT0 zc_256 2 (316, [some (.ref 92), o1, some (.int v2), some (.int v3), some (.int v4), some (.int v5), o6, some (.int v7), some (.int v8), some (.int v9), some (.int (v10 / (zf h 92 75))), some (.int v11), some (.int v12), o13], [], (zs h 160 v12 (zr h 148 (zm_rm v10 (zf h 92 75))))) = some (321, [some (.ref 92), o1, some (.int v2), some (.int v3), some (.int v4), some (.int v5), o6, some (.int v7), some (.int v8), some (.int v9), some (.int (v10 / (zf h 92 75))), some (.int v11), some (.int v12), o13], [.int 1], (zs h 160 v12 (zr h 148 (zm_rm v10 (zf h 92 75)))))) (fun hs => ?_)
          exact K175 hs
theorem f_M_laying_l230_l249_b_w (v2 : Int32) (v3 : Int32) (v4 : Int32) (v5 : Int32) (v7 : Int32) (v8 : Int32) (v9 : Int32) (v10 : Int32) (v11 : Int32) (v12 : Int32) (h : zm_H) : zWr [160] h ((f_M_laying_l230_l249_b v2 v3 v4 v5 v7 v8 v9 v10 v11 v12 h).2.2.2.2) := (zWr_ite (fun z : Nat × Int32 × Int32 × Int32 × zm_H => z.2.2.2.2) (zWr.refl _ _) (zWr_tr (f_M_laying_l230_l249_a329_w v2 v3 v4 v5 v7 v8 v9 (v10 / (zf h 92 75)) v12 (f_M_laying_l230_l249_l329 v2 v3 v4 v5 v7 v8 v9 (v10 / (zf h 92 75)) v12 (zs h 160 v12 (zr h 148 (zm_rm v10 (zf h 92 75)))) zF ((if (¬ (v11 = 0) ∧ (((f_M_isShut (zr (zs h 160 v12 (zr h 148 (zm_rm v10 (zf h 92 75)))) 160 v12) (zs h 160 v12 (zr h 148 (zm_rm v10 (zf h 92 75))))) = 0) ∧ ((f_M_isTaken 0 (zr (zs h 160 v12 (zr h 148 (zm_rm v10 (zf h 92 75)))) 160 v12) (zs h 160 v12 (zr h 148 (zm_rm v10 (zf h 92 75))))) = 0))) then (1 : Int32) else 0), (v12 + 1))) (zs h 160 v12 (zr h 148 (zm_rm v10 (zf h 92 75))))) (by decide) (zWr_si (by decide) (zWr.refl _ _))))
def f_M_laying_l230_l249 (v2 : Int32) (v3 : Int32) (v4 : Int32) (v5 : Int32) (v7 : Int32) (v8 : Int32) (v9 : Int32) (n : Nat) (t : Int32 × Int32 × Int32 × zm_H) : Nat × Int32 × Int32 × Int32 × zm_H := zwh (fun t => f_M_laying_l230_l249_b v2 v3 v4 v5 v7 v8 v9 t.1 t.2.1 t.2.2.1 t.2.2.2) n t
def f_M_laying_l230_l249_ok (v2 : Int32) (v3 : Int32) (v4 : Int32) (v5 : Int32) (v7 : Int32) (v8 : Int32) (v9 : Int32) (n : Nat) (t : Int32 × Int32 × Int32 × zm_H) : Prop := zwo (fun t => f_M_laying_l230_l249_b v2 v3 v4 v5 v7 v8 v9 t.1 t.2.1 t.2.2.1 t.2.2.2) (fun t => f_M_laying_l230_l249_b_ok v2 v3 v4 v5 v7 v8 v9 t.1 t.2.1 t.2.2.1 t.2.2.2) n t
theorem f_M_laying_l230_l249_t {x : zm_X} {d : Nat} (v2 : Int32) (v3 : Int32) (v4 : Int32) (v5 : Int32) (v7 : Int32) (v8 : Int32) (v9 : Int32) {Q : Option Value → zm_H → Prop} (G : Nat × Int32 × Int32 × Int32 × zm_H → Prop) (hx1 : ∀ (v10 : Int32) (v11 : Int32) (v12 : Int32) (h : zm_H) (o1 : Option Value) (o6 : Option Value) (o10 : Option Value) (o12 : Option Value) (o13 : Option Value), zSh zT0 h → G (1, v10, v11, v12, h) → zg x (d + 4) 256 376 [some (.ref 92), o1, some (.int v2), some (.int v3), some (.int v4), some (.int v5), o6, some (.int v7), some (.int v8), some (.int v9), o10, some (.int v11), o12, o13] [] h Q) : ∀ (n : Nat) (v10 : Int32) (v11 : Int32) (v12 : Int32) (h : zm_H) (o1 : Option Value) (o6 : Option Value) (o13 : Option Value), zSh zT0 h → f_M_laying_l230_l249_ok v2 v3 v4 v5 v7 v8 v9 n (v10, v11, v12, h) → G (f_M_laying_l230_l249 v2 v3 v4 v5 v7 v8 v9 n (v10, v11, v12, h)) → zg x (d + 4) 256 249 [some (.ref 92), o1, some (.int v2), some (.int v3), some (.int v4), some (.int v5), o6, some (.int v7), some (.int v8), some (.int v9), some (.int v10), some (.int v11), some (.int v12), o13] [] h Q := by
  intro n
  induction n with
  | zero => intro v10 v11 v12 h o1 o6 o13 hs ho hG; exact ho.elim
  | succ n ih =>
    intro v10 v11 v12 h o1 o6 o13 hs ho hG
    refine f_M_laying_l230_l249_b_t (FN := fun r => (r.1 = 0 → f_M_laying_l230_l249_ok v2 v3 v4 v5 v7 v8 v9 n r.2) ∧ G (if r.1 = 0 then f_M_laying_l230_l249 v2 v3 v4 v5 v7 v8 v9 n r.2 else r)) v2 v3 v4 v5 v7 v8 v9 v10 v11 v12 h o1 o6 o13 hs ho.1 ⟨ho.2, hG⟩ ?_ ?_
    · intro v10 v11 v12 h o1 o6 o13 hs hF
      exact ih v10 v11 v12 h o1 o6 o13 hs (hF.1 rfl) hF.2
    · intro v10 v11 v12 h o1 o6 o10 o12 o13 hs hF
      exact hx1 v10 v11 v12 h o1 o6 o10 o12 o13 hs hF.2

theorem f_M_laying_l230_l249_w (v2 : Int32) (v3 : Int32) (v4 : Int32) (v5 : Int32) (v7 : Int32) (v8 : Int32) (v9 : Int32) (n : Nat) (t : Int32 × Int32 × Int32 × zm_H) : zWr [160] (t.2.2.2) ((f_M_laying_l230_l249 v2 v3 v4 v5 v7 v8 v9 n t).2.2.2.2) := zWr_zwh (fun t : Int32 × Int32 × Int32 × zm_H => t.2.2.2) (fun t => f_M_laying_l230_l249_b_w v2 v3 v4 v5 v7 v8 v9 t.1 t.2.1 t.2.2.1 t.2.2.2)
def f_M_laying_l230_l412_b (v2 : Int32) (v3 : Int32) (v4 : Int32) (v5 : Int32) (v7 : Int32) (v8 : Int32) (v9 : Int32) (v12 : Int32) (v13 : Int32) (h : zm_H) : Nat × Int32 × zm_H := (if (v2 ≤ v13) then (1, v13, h) else (0, (v13 + 1), (zs h 161 v13 (zr h 160 v13))))
def f_M_laying_l230_l412_b_ok (v2 : Int32) (v3 : Int32) (v4 : Int32) (v5 : Int32) (v7 : Int32) (v8 : Int32) (v9 : Int32) (v12 : Int32) (v13 : Int32) (h : zm_H) : Prop := (((v2 ≤ v13) → True) ∧ (¬ (v2 ≤ v13) → (vp_in v13 3 ∧ vp_in v13 3)))
set_option maxRecDepth 100000 in
set_option maxHeartbeats 400000 in
theorem f_M_laying_l230_l412_b_t {x : zm_X} {d : Nat} (v2 : Int32) (v3 : Int32) (v4 : Int32) (v5 : Int32) (v7 : Int32) (v8 : Int32) (v9 : Int32) (v12 : Int32) (v13 : Int32) (h : zm_H) (o1 : Option Value) (o6 : Option Value) (o10 : Option Value) (o11 : Option Value) {Q : Option Value → zm_H → Prop} {FN : Nat × Int32 × zm_H → Prop} (hs : zSh zT0 h) (ho : f_M_laying_l230_l412_b_ok v2 v3 v4 v5 v7 v8 v9 v12 v13 h) (hF : FN (f_M_laying_l230_l412_b v2 v3 v4 v5 v7 v8 v9 v12 v13 h)) (hl0 : ∀ (v13 : Int32) (h : zm_H) (o1 : Option Value) (o6 : Option Value) (o10 : Option Value) (o11 : Option Value), zSh zT0 h → FN (0, v13, h) → zg x (d + 4) 256 412 [some (.ref 92), o1, some (.int v2), some (.int v3), some (.int v4), some (.int v5), o6, some (.int v7), some (.int v8), some (.int v9), o10, o11, some (.int v12), some (.int v13)] [] h Q) (hl1 : ∀ (v13 : Int32) (h : zm_H) (o1 : Option Value) (o6 : Option Value) (o10 : Option Value) (o11 : Option Value) (o13 : Option Value), zSh zT0 h → FN (1, v13, h) → zg x (d + 4) 256 438 [some (.ref 92), o1, some (.int v2), some (.int v3), some (.int v4), some (.int v5), o6, some (.int v7), some (.int v8), some (.int v9), o10, o11, some (.int v12), o13] [] h Q) : zg x (d + 4) 256 412 [some (.ref 92), o1, some (.int v2), some (.int v3), some (.int v4), some (.int v5), o6, some (.int v7), some (.int v8), some (.int v9), o10, o11, some (.int v12), some (.int v13)] [] h Q := by
  unfold f_M_laying_l230_l412_b at hF
  unfold f_M_laying_l230_l412_b_ok at ho
  refine zg_blk zd_256 2 hs (rfl : zb x zT0 zc_256 2 (412, [some (.ref 92), o1, some (.int v2), some (.int v3), some (.int v4), some (.int v5), o6, some (.int v7), some (.int v8), some (.int v9), o10, o11, some (.int v12), some (.int v13)], [], h) = some (415, [some (.ref 92), o1, some (.int v2), some (.int v3), some (.int v4), some (.int v5), o6, some (.int v7), some (.int v8), some (.int v9), o10, o11, some (.int v12), some (.int v13)], [.int v2, .int v13], h)) (fun hs => ?_)
  refine zg_i_ge zd_256 rfl (fun (hc : (v2 ≤ v13)) => ?_) (fun (hc : ¬ (v2 ≤ v13)) => ?_)
  · have ho := ho.1 hc
    rw [if_pos hc] at hF
    exact hl1 v13 h (o1) (o6) (o10) (o11) (some (.int v13)) hs hF
  · have ho := ho.2 hc
    rw [if_neg hc] at hF
    refine zg_blk zd_256 6 hs (rfl : zb x zT0 zc_256 6 (418, [some (.ref 92), o1, some (.int v2), some (.int v3), some (.int v4), some (.int v5), o6, some (.int v7), some (.int v8), some (.int v9), o10, o11, some (.int v12), some (.int v13)], [], h) = some (430, [some (.ref 92), o1, some (.int v2), some (.int v3), some (.int v4), some (.int v5), o6, some (.int v7), some (.int v8), some (.int v9), o10, o11, some (.int v12), some (.int v13)], [.int v13, .ref 160, .int v13, .ref 161], h)) (fun hs => ?_)
    obtain ⟨hob, ho⟩ := ho
    refine zg_ial hs zd_256 rfl rfl hob ?_
    have hob := ho
    refine zg_ias hs zd_256 rfl rfl hob (fun hs => ?_)
    refine zg_blk zd_256 2 hs (rfl : zb x zT0 zc_256 2 (432, [some (.ref 92), o1, some (.int v2), some (.int v3), some (.int v4), some (.int v5), o6, some (.int v7), some (.int v8), some (.int v9), o10, o11, some (.int v12), some (.int v13)], [], (zs h 161 v13 (zr h 160 v13))) = some (412, [some (.ref 92), o1, some (.int v2), some (.int v3), some (.int v4), some (.int v5), o6, some (.int v7), some (.int v8), some (.int v9), o10, o11, some (.int v12), some (.int (v13 + 1))], [], (zs h 161 v13 (zr h 160 v13)))) (fun hs => ?_)
    exact hl0 (v13 + 1) (zs h 161 v13 (zr h 160 v13)) (o1) (o6) (o10) (o11) hs hF
theorem f_M_laying_l230_l412_b_w (v2 : Int32) (v3 : Int32) (v4 : Int32) (v5 : Int32) (v7 : Int32) (v8 : Int32) (v9 : Int32) (v12 : Int32) (v13 : Int32) (h : zm_H) : zWr [161] h ((f_M_laying_l230_l412_b v2 v3 v4 v5 v7 v8 v9 v12 v13 h).2.2) := (zWr_ite (fun z : Nat × Int32 × zm_H => z.2.2) (zWr.refl _ _) (zWr_si (by decide) (zWr.refl _ _)))
def f_M_laying_l230_l412 (v2 : Int32) (v3 : Int32) (v4 : Int32) (v5 : Int32) (v7 : Int32) (v8 : Int32) (v9 : Int32) (v12 : Int32) (n : Nat) (t : Int32 × zm_H) : Nat × Int32 × zm_H := zwh (fun t => f_M_laying_l230_l412_b v2 v3 v4 v5 v7 v8 v9 v12 t.1 t.2) n t
def f_M_laying_l230_l412_ok (v2 : Int32) (v3 : Int32) (v4 : Int32) (v5 : Int32) (v7 : Int32) (v8 : Int32) (v9 : Int32) (v12 : Int32) (n : Nat) (t : Int32 × zm_H) : Prop := zwo (fun t => f_M_laying_l230_l412_b v2 v3 v4 v5 v7 v8 v9 v12 t.1 t.2) (fun t => f_M_laying_l230_l412_b_ok v2 v3 v4 v5 v7 v8 v9 v12 t.1 t.2) n t
theorem f_M_laying_l230_l412_t {x : zm_X} {d : Nat} (v2 : Int32) (v3 : Int32) (v4 : Int32) (v5 : Int32) (v7 : Int32) (v8 : Int32) (v9 : Int32) (v12 : Int32) {Q : Option Value → zm_H → Prop} (G : Nat × Int32 × zm_H → Prop) (hx1 : ∀ (v13 : Int32) (h : zm_H) (o1 : Option Value) (o6 : Option Value) (o10 : Option Value) (o11 : Option Value) (o13 : Option Value), zSh zT0 h → G (1, v13, h) → zg x (d + 4) 256 438 [some (.ref 92), o1, some (.int v2), some (.int v3), some (.int v4), some (.int v5), o6, some (.int v7), some (.int v8), some (.int v9), o10, o11, some (.int v12), o13] [] h Q) : ∀ (n : Nat) (v13 : Int32) (h : zm_H) (o1 : Option Value) (o6 : Option Value) (o10 : Option Value) (o11 : Option Value), zSh zT0 h → f_M_laying_l230_l412_ok v2 v3 v4 v5 v7 v8 v9 v12 n (v13, h) → G (f_M_laying_l230_l412 v2 v3 v4 v5 v7 v8 v9 v12 n (v13, h)) → zg x (d + 4) 256 412 [some (.ref 92), o1, some (.int v2), some (.int v3), some (.int v4), some (.int v5), o6, some (.int v7), some (.int v8), some (.int v9), o10, o11, some (.int v12), some (.int v13)] [] h Q := by
  intro n
  induction n with
  | zero => intro v13 h o1 o6 o10 o11 hs ho hG; exact ho.elim
  | succ n ih =>
    intro v13 h o1 o6 o10 o11 hs ho hG
    refine f_M_laying_l230_l412_b_t (FN := fun r => (r.1 = 0 → f_M_laying_l230_l412_ok v2 v3 v4 v5 v7 v8 v9 v12 n r.2) ∧ G (if r.1 = 0 then f_M_laying_l230_l412 v2 v3 v4 v5 v7 v8 v9 v12 n r.2 else r)) v2 v3 v4 v5 v7 v8 v9 v12 v13 h o1 o6 o10 o11 hs ho.1 ⟨ho.2, hG⟩ ?_ ?_
    · intro v13 h o1 o6 o10 o11 hs hF
      exact ih v13 h o1 o6 o10 o11 hs (hF.1 rfl) hF.2
    · intro v13 h o1 o6 o10 o11 o13 hs hF
      exact hx1 v13 h o1 o6 o10 o11 o13 hs hF.2

theorem f_M_laying_l230_l412_w (v2 : Int32) (v3 : Int32) (v4 : Int32) (v5 : Int32) (v7 : Int32) (v8 : Int32) (v9 : Int32) (v12 : Int32) (n : Nat) (t : Int32 × zm_H) : zWr [161] (t.2) ((f_M_laying_l230_l412 v2 v3 v4 v5 v7 v8 v9 v12 n t).2.2) := zWr_zwh (fun t : Int32 × zm_H => t.2) (fun t => f_M_laying_l230_l412_b_w v2 v3 v4 v5 v7 v8 v9 v12 t.1 t.2)
def f_M_laying_l230_k438 (v2 : Int32) (v3 : Int32) (v4 : Int32) (v5 : Int32) (v7 : Int32) (v8 : Int32) (v9 : Int32) (h : zm_H) : Nat × Int32 × Int32 × zm_H := (0, v8, (v9 + 1), h)
def f_M_laying_l230_k438_ok (v2 : Int32) (v3 : Int32) (v4 : Int32) (v5 : Int32) (v7 : Int32) (v8 : Int32) (v9 : Int32) (h : zm_H) : Prop := True
set_option maxRecDepth 100000 in
set_option maxHeartbeats 400000 in
theorem f_M_laying_l230_k438_t {x : zm_X} {d : Nat} (v2 : Int32) (v3 : Int32) (v4 : Int32) (v5 : Int32) (v7 : Int32) (v8 : Int32) (v9 : Int32) (h : zm_H) (o1 : Option Value) (o6 : Option Value) (o10 : Option Value) (o11 : Option Value) (o12 : Option Value) (o13 : Option Value) {Q : Option Value → zm_H → Prop} {FN : Nat × Int32 × Int32 × zm_H → Prop} (hs : zSh zT0 h) (ho : f_M_laying_l230_k438_ok v2 v3 v4 v5 v7 v8 v9 h) (hF : FN (f_M_laying_l230_k438 v2 v3 v4 v5 v7 v8 v9 h)) (hl0 : ∀ (v8 : Int32) (v9 : Int32) (h : zm_H) (o1 : Option Value) (o6 : Option Value) (o10 : Option Value) (o11 : Option Value) (o12 : Option Value) (o13 : Option Value), zSh zT0 h → FN (0, v8, v9, h) → zg x (d + 4) 256 230 [some (.ref 92), o1, some (.int v2), some (.int v3), some (.int v4), some (.int v5), o6, some (.int v7), some (.int v8), some (.int v9), o10, o11, o12, o13] [] h Q) (hl1 : ∀ (v8 : Int32) (v9 : Int32) (h : zm_H) (o1 : Option Value) (o6 : Option Value) (o9 : Option Value) (o10 : Option Value) (o11 : Option Value) (o12 : Option Value) (o13 : Option Value), zSh zT0 h → FN (1, v8, v9, h) → zg x (d + 4) 256 444 [some (.ref 92), o1, some (.int v2), some (.int v3), some (.int v4), some (.int v5), o6, some (.int v7), some (.int v8), o9, o10, o11, o12, o13] [] h Q) : zg x (d + 4) 256 438 [some (.ref 92), o1, some (.int v2), some (.int v3), some (.int v4), some (.int v5), o6, some (.int v7), some (.int v8), some (.int v9), o10, o11, o12, o13] [] h Q := by
  unfold f_M_laying_l230_k438 at hF
  unfold f_M_laying_l230_k438_ok at ho
  refine zg_blk zd_256 2 hs (rfl : zb x zT0 zc_256 2 (438, [some (.ref 92), o1, some (.int v2), some (.int v3), some (.int v4), some (.int v5), o6, some (.int v7), some (.int v8), some (.int v9), o10, o11, o12, o13], [], h) = some (230, [some (.ref 92), o1, some (.int v2), some (.int v3), some (.int v4), some (.int v5), o6, some (.int v7), some (.int v8), some (.int (v9 + 1)), o10, o11, o12, o13], [], h)) (fun hs => ?_)
  exact hl0 v8 (v9 + 1) h (o1) (o6) (o10) (o11) (o12) (o13) hs hF
theorem f_M_laying_l230_k438_w (v2 : Int32) (v3 : Int32) (v4 : Int32) (v5 : Int32) (v7 : Int32) (v8 : Int32) (v9 : Int32) (h : zm_H) : zWr [] h ((f_M_laying_l230_k438 v2 v3 v4 v5 v7 v8 v9 h).2.2.2) := (zWr.refl _ _)
def f_M_laying_l230_a412 (v2 : Int32) (v3 : Int32) (v4 : Int32) (v5 : Int32) (v7 : Int32) (v8 : Int32) (v9 : Int32) (r : Nat × Int32 × zm_H) : Nat × Int32 × Int32 × zm_H := (f_M_laying_l230_k438 v2 v3 v4 v5 v7 v8 v9 (r.2.2))
def f_M_laying_l230_a412_ok (v2 : Int32) (v3 : Int32) (v4 : Int32) (v5 : Int32) (v7 : Int32) (v8 : Int32) (v9 : Int32) (r : Nat × Int32 × zm_H) : Prop := True
theorem f_M_laying_l230_a412_w (v2 : Int32) (v3 : Int32) (v4 : Int32) (v5 : Int32) (v7 : Int32) (v8 : Int32) (v9 : Int32) (r : Nat × Int32 × zm_H) : zWr [] (r.2.2) ((f_M_laying_l230_a412 v2 v3 v4 v5 v7 v8 v9 r).2.2.2) := (zWr_tr (f_M_laying_l230_k438_w v2 v3 v4 v5 v7 v8 v9 (r.2.2)) (by decide) (zWr.refl _ _))
def f_M_laying_l230_k393 (v2 : Int32) (v3 : Int32) (v4 : Int32) (v5 : Int32) (v7 : Int32) (v8 : Int32) (v9 : Int32) (v11 : Int32) (w0 : Int32) (h : zm_H) : Nat × Int32 × Int32 × zm_H := (if (v8 < w0) then (f_M_laying_l230_a412 v2 v3 v4 v5 v7 w0 v9 (f_M_laying_l230_l412 v2 v3 v4 v5 v7 w0 v9 w0 zF (0, h))) else (f_M_laying_l230_k438 v2 v3 v4 v5 v7 v8 v9 h))
def f_M_laying_l230_k393_ok (v2 : Int32) (v3 : Int32) (v4 : Int32) (v5 : Int32) (v7 : Int32) (v8 : Int32) (v9 : Int32) (v11 : Int32) (w0 : Int32) (h : zm_H) : Prop := (((v8 < w0) → (f_M_laying_l230_l412_ok v2 v3 v4 v5 v7 w0 v9 w0 zF (0, h) ∧ f_M_laying_l230_a412_ok v2 v3 v4 v5 v7 w0 v9 (f_M_laying_l230_l412 v2 v3 v4 v5 v7 w0 v9 w0 zF (0, h)))) ∧ (¬ (v8 < w0) → True))
set_option maxRecDepth 100000 in
set_option maxHeartbeats 400000 in
theorem f_M_laying_l230_k393_t {x : zm_X} {d : Nat} (v2 : Int32) (v3 : Int32) (v4 : Int32) (v5 : Int32) (v7 : Int32) (v8 : Int32) (v9 : Int32) (v11 : Int32) (w0 : Int32) (h : zm_H) (o1 : Option Value) (o6 : Option Value) (o10 : Option Value) (o12 : Option Value) (o13 : Option Value) {Q : Option Value → zm_H → Prop} {FN : Nat × Int32 × Int32 × zm_H → Prop} (hs : zSh zT0 h) (ho : f_M_laying_l230_k393_ok v2 v3 v4 v5 v7 v8 v9 v11 w0 h) (hF : FN (f_M_laying_l230_k393 v2 v3 v4 v5 v7 v8 v9 v11 w0 h)) (hl0 : ∀ (v8 : Int32) (v9 : Int32) (h : zm_H) (o1 : Option Value) (o6 : Option Value) (o10 : Option Value) (o11 : Option Value) (o12 : Option Value) (o13 : Option Value), zSh zT0 h → FN (0, v8, v9, h) → zg x (d + 4) 256 230 [some (.ref 92), o1, some (.int v2), some (.int v3), some (.int v4), some (.int v5), o6, some (.int v7), some (.int v8), some (.int v9), o10, o11, o12, o13] [] h Q) (hl1 : ∀ (v8 : Int32) (v9 : Int32) (h : zm_H) (o1 : Option Value) (o6 : Option Value) (o9 : Option Value) (o10 : Option Value) (o11 : Option Value) (o12 : Option Value) (o13 : Option Value), zSh zT0 h → FN (1, v8, v9, h) → zg x (d + 4) 256 444 [some (.ref 92), o1, some (.int v2), some (.int v3), some (.int v4), some (.int v5), o6, some (.int v7), some (.int v8), o9, o10, o11, o12, o13] [] h Q) : zg x (d + 4) 256 393 [some (.ref 92), o1, some (.int v2), some (.int v3), some (.int v4), some (.int v5), o6, some (.int v7), some (.int v8), some (.int v9), o10, some (.int v11), o12, o13] [.int w0] h Q := by
  unfold f_M_laying_l230_k393 at hF
  unfold f_M_laying_l230_k393_ok at ho
  refine zg_blk zd_256 3 hs (rfl : zb x zT0 zc_256 3 (393, [some (.ref 92), o1, some (.int v2), some (.int v3), some (.int v4), some (.int v5), o6, some (.int v7), some (.int v8), some (.int v9), o10, some (.int v11), o12, o13], [.int w0], h) = some (399, [some (.ref 92), o1, some (.int v2), some (.int v3), some (.int v4), some (.int v5), o6, some (.int v7), some (.int v8), some (.int v9), o10, some (.int v11), some (.int w0), o13], [.int v8, .int w0], h)) (fun hs => ?_)
  refine zg_i_gt zd_256 rfl (fun (hc : (v8 < w0)) => ?_) (fun (hc : ¬ (v8 < w0)) => ?_)
  · have ho := ho.1 hc
    rw [if_pos hc] at hF
    refine zg_blk zd_256 4 hs (rfl : zb x zT0 zc_256 4 (405, [some (.ref 92), o1, some (.int v2), some (.int v3), some (.int v4), some (.int v5), o6, some (.int v7), some (.int v8), some (.int v9), o10, some (.int v11), some (.int w0), o13], [], h) = some (412, [some (.ref 92), o1, some (.int v2), some (.int v3), some (.int v4), some (.int v5), o6, some (.int v7), some (.int w0), some (.int v9), o10, some (.int v11), some (.int w0), some (.int 0)], [], h)) (fun hs => ?_)
    refine f_M_laying_l230_l412_t v2 v3 v4 v5 v7 w0 v9 w0 (fun r => f_M_laying_l230_a412_ok v2 v3 v4 v5 v7 w0 v9 r ∧ FN (f_M_laying_l230_a412 v2 v3 v4 v5 v7 w0 v9 r)) ?_ zF 0 h (o1) (o6) (o10) (some (.int v11)) hs ho.1 ⟨ho.2, hF⟩
    · intro v13_ h_ o1_ o6_ o10_ o11_ o13_ hs hG
      have ho : True := trivial
      have hF : FN ((f_M_laying_l230_k438 v2 v3 v4 v5 v7 w0 v9 h_)) := hG.2
      exact f_M_laying_l230_k438_t v2 v3 v4 v5 v7 w0 v9 h_ (o1_) (o6_) (o10_) (o11_) (some (.int w0)) (o13_) hs trivial hF hl0 hl1
  · have ho := ho.2 hc
    rw [if_neg hc] at hF
    refine zg_blk zd_256 1 hs (rfl : zb x zT0 zc_256 1 (402, [some (.ref 92), o1, some (.int v2), some (.int v3), some (.int v4), some (.int v5), o6, some (.int v7), some (.int v8), some (.int v9), o10, some (.int v11), some (.int w0), o13], [], h) = some (438, [some (.ref 92), o1, some (.int v2), some (.int v3), some (.int v4), some (.int v5), o6, some (.int v7), some (.int v8), some (.int v9), o10, some (.int v11), some (.int w0), o13], [], h)) (fun hs => ?_)
    exact f_M_laying_l230_k438_t v2 v3 v4 v5 v7 v8 v9 h (o1) (o6) (o10) (some (.int v11)) (some (.int w0)) (o13) hs trivial hF hl0 hl1
theorem f_M_laying_l230_k393_w (v2 : Int32) (v3 : Int32) (v4 : Int32) (v5 : Int32) (v7 : Int32) (v8 : Int32) (v9 : Int32) (v11 : Int32) (w0 : Int32) (h : zm_H) : zWr [161] h ((f_M_laying_l230_k393 v2 v3 v4 v5 v7 v8 v9 v11 w0 h).2.2.2) := (zWr_ite (fun z : Nat × Int32 × Int32 × zm_H => z.2.2.2) (zWr_tr (f_M_laying_l230_a412_w v2 v3 v4 v5 v7 w0 v9 (f_M_laying_l230_l412 v2 v3 v4 v5 v7 w0 v9 w0 zF (0, h))) (by decide) (zWr_tr (f_M_laying_l230_l412_w v2 v3 v4 v5 v7 w0 v9 w0 zF (0, h)) (by decide) (zWr.refl _ _))) (zWr_tr (f_M_laying_l230_k438_w v2 v3 v4 v5 v7 v8 v9 h) (by decide) (zWr.refl _ _)))
theorem zd_257 : zm_cd 257 = zc_257 := by rfl
def f_M_worth_l3_b (v1 : Int32) (v2 : Int32) (v3 : Int32) (v4 : Int32) (h : zm_H) : Nat × Int32 × zm_H := (if (10 ≤ v4) then (1, v4, h) else (0, (v4 + 1), (zs (zs h 123 (10 + v4) (if ((zr h 123 v4) = 1) then (1 : Int32) else 0)) 124 (10 + v4) (zr h 124 v4))))
def f_M_worth_l3_b_ok (v1 : Int32) (v2 : Int32) (v3 : Int32) (v4 : Int32) (h : zm_H) : Prop := (((10 ≤ v4) → True) ∧ (¬ (10 ≤ v4) → (vp_in v4 20 ∧ (vp_in (10 + v4) 20 ∧ (vp_in v4 20 ∧ vp_in (10 + v4) 20)))))
set_option maxRecDepth 100000 in
set_option maxHeartbeats 400000 in
theorem f_M_worth_l3_b_t {x : zm_X} {d : Nat} (v1 : Int32) (v2 : Int32) (v3 : Int32) (v4 : Int32) (h : zm_H) (o5 : Option Value) (o6 : Option Value) (o7 : Option Value) {Q : Option Value → zm_H → Prop} {FN : Nat × Int32 × zm_H → Prop} (hs : zSh zT0 h) (ho : f_M_worth_l3_b_ok v1 v2 v3 v4 h) (hF : FN (f_M_worth_l3_b v1 v2 v3 v4 h)) (hl0 : ∀ (v4 : Int32) (h : zm_H) (o5 : Option Value) (o6 : Option Value) (o7 : Option Value), zSh zT0 h → FN (0, v4, h) → zg x (d + 3) 257 3 [some (.ref 92), some (.int v1), some (.int v2), some (.int v3), some (.int v4), o5, o6, o7] [] h Q) (hl1 : ∀ (v4 : Int32) (h : zm_H) (o4 : Option Value) (o5 : Option Value) (o6 : Option Value) (o7 : Option Value), zSh zT0 h → FN (1, v4, h) → zg x (d + 3) 257 59 [some (.ref 92), some (.int v1), some (.int v2), some (.int v3), o4, o5, o6, o7] [] h Q) : zg x (d + 3) 257 3 [some (.ref 92), some (.int v1), some (.int v2), some (.int v3), some (.int v4), o5, o6, o7] [] h Q := by
  unfold f_M_worth_l3_b at hF
  unfold f_M_worth_l3_b_ok at ho
  refine zg_blk zd_257 2 hs (rfl : zb x zT0 zc_257 2 (3, [some (.ref 92), some (.int v1), some (.int v2), some (.int v3), some (.int v4), o5, o6, o7], [], h) = some (7, [some (.ref 92), some (.int v1), some (.int v2), some (.int v3), some (.int v4), o5, o6, o7], [.int 10, .int v4], h)) (fun hs => ?_)
  refine zg_i_ge zd_257 rfl (fun (hc : (10 ≤ v4)) => ?_) (fun (hc : ¬ (10 ≤ v4)) => ?_)
  · have ho := ho.1 hc
    rw [if_pos hc] at hF
    exact hl1 v4 h (some (.int v4)) (o5) (o6) (o7) hs hF
  · have ho := ho.2 hc
    rw [if_neg hc] at hF
    refine zg_blk zd_257 8 hs (rfl : zb x zT0 zc_257 8 (10, [some (.ref 92), some (.int v1), some (.int v2), some (.int v3), some (.int v4), o5, o6, o7], [], h) = some (25, [some (.ref 92), some (.int v1), some (.int v2), some (.int v3), some (.int v4), o5, o6, o7], [.int v4, .ref 123, .int (10 + v4), .ref 123], h)) (fun hs => ?_)
    obtain ⟨hob, ho⟩ := ho
    refine zg_ial hs zd_257 rfl rfl hob ?_
    refine zg_blk zd_257 1 hs (rfl : zb x zT0 zc_257 1 (26, [some (.ref 92), some (.int v1), some (.int v2), some (.int v3), some (.int v4), o5, o6, o7], [.int (zr h 123 v4), .int (10 + v4), .ref 123], h) = some (27, [some (.ref 92), some (.int v1), some (.int v2), some (.int v3), some (.int v4), o5, o6, o7], [.int 1, .int (zr h 123 v4), .int (10 + v4), .ref 123], h)) (fun hs => ?_)
    have K176 : zSh zT0 h → zg x (d + 3) 257 35 [some (.ref 92), some (.int v1), some (.int v2), some (.int v3), some (.int v4), o5, o6, o7] [.int (if ((zr h 123 v4) = 1) then (1 : Int32) else 0), .int (10 + v4), .ref 123] h Q := fun hs => by
      obtain ⟨hob, ho⟩ := ho
      refine zg_ias hs zd_257 rfl rfl hob (fun hs => ?_)
      refine zg_blk zd_257 8 hs (rfl : zb x zT0 zc_257 8 (36, [some (.ref 92), some (.int v1), some (.int v2), some (.int v3), some (.int v4), o5, o6, o7], [], (zs h 123 (10 + v4) (if ((zr h 123 v4) = 1) then (1 : Int32) else 0))) = some (51, [some (.ref 92), some (.int v1), some (.int v2), some (.int v3), some (.int v4), o5, o6, o7], [.int v4, .ref 124, .int (10 + v4), .ref 124], (zs h 123 (10 + v4) (if ((zr h 123 v4) = 1) then (1 : Int32) else 0)))) (fun hs => ?_)
      obtain ⟨hob, ho⟩ := ho
      refine zg_ial hs zd_257 rfl rfl hob ?_
      have hob := ho
      refine zg_ias hs zd_257 rfl rfl hob (fun hs => ?_)
      refine zg_blk zd_257 2 hs (rfl : zb x zT0 zc_257 2 (53, [some (.ref 92), some (.int v1), some (.int v2), some (.int v3), some (.int v4), o5, o6, o7], [], (zs (zs h 123 (10 + v4) (if ((zr h 123 v4) = 1) then (1 : Int32) else 0)) 124 (10 + v4) (zr h 124 v4))) = some (3, [some (.ref 92), some (.int v1), some (.int v2), some (.int v3), some (.int (v4 + 1)), o5, o6, o7], [], (zs (zs h 123 (10 + v4) (if ((zr h 123 v4) = 1) then (1 : Int32) else 0)) 124 (10 + v4) (zr h 124 v4)))) (fun hs => ?_)
      exact hl0 (v4 + 1) (zs (zs h 123 (10 + v4) (if ((zr h 123 v4) = 1) then (1 : Int32) else 0)) 124 (10 + v4) (zr h 124 v4)) (o5) (o6) (o7) hs hF
    refine zg_i_ne zd_257 rfl (fun (hc : ¬ ((zr h 123 v4) = 1)) => ?_) (fun (hc : ((zr h 123 v4) = 1)) => ?_)
    · skip
      rw [show ((if ((zr h 123 v4) = 1) then (1 : Int32) else 0) : Int32) = 0 from if_neg hc] at K176
      refine zg_blk zd_257 1 hs (rfl : zb x zT0 zc_257 1 (34, [some (.ref 92), some (.int v1), some (.int v2), some (.int v3), some (.int v4), o5, o6, o7], [.int (10 + v4), .ref 123], h) = some (35, [some (.ref 92), some (.int v1), some (.int v2), some (.int v3), some (.int v4), o5, o6, o7], [.int 0, .int (10 + v4), .ref 123], h)) (fun hs => ?_)
      exact K176 hs
    · skip
      rw [show ((if ((zr h 123 v4) = 1) then (1 : Int32) else 0) : Int32) = 1 from if_pos hc] at K176
      refine zg_blk zd_257 2 hs (rfl : zb x zT0 zc_257 2 (30, [some (.ref 92), some (.int v1), some (.int v2), some (.int v3), some (.int v4), o5, o6, o7], [.int (10 + v4), .ref 123], h) = some (35, [some (.ref 92), some (.int v1), some (.int v2), some (.int v3), some (.int v4), o5, o6, o7], [.int 1, .int (10 + v4), .ref 123], h)) (fun hs => ?_)
      exact K176 hs
theorem f_M_worth_l3_b_w (v1 : Int32) (v2 : Int32) (v3 : Int32) (v4 : Int32) (h : zm_H) : zWr [123, 124] h ((f_M_worth_l3_b v1 v2 v3 v4 h).2.2) := (zWr_ite (fun z : Nat × Int32 × zm_H => z.2.2) (zWr.refl _ _) (zWr_si (by decide) (zWr_si (by decide) (zWr.refl _ _))))
def f_M_worth_l3 (v1 : Int32) (v2 : Int32) (v3 : Int32) (n : Nat) (t : Int32 × zm_H) : Nat × Int32 × zm_H := zwh (fun t => f_M_worth_l3_b v1 v2 v3 t.1 t.2) n t
def f_M_worth_l3_ok (v1 : Int32) (v2 : Int32) (v3 : Int32) (n : Nat) (t : Int32 × zm_H) : Prop := zwo (fun t => f_M_worth_l3_b v1 v2 v3 t.1 t.2) (fun t => f_M_worth_l3_b_ok v1 v2 v3 t.1 t.2) n t
theorem f_M_worth_l3_t {x : zm_X} {d : Nat} (v1 : Int32) (v2 : Int32) (v3 : Int32) {Q : Option Value → zm_H → Prop} (G : Nat × Int32 × zm_H → Prop) (hx1 : ∀ (v4 : Int32) (h : zm_H) (o4 : Option Value) (o5 : Option Value) (o6 : Option Value) (o7 : Option Value), zSh zT0 h → G (1, v4, h) → zg x (d + 3) 257 59 [some (.ref 92), some (.int v1), some (.int v2), some (.int v3), o4, o5, o6, o7] [] h Q) : ∀ (n : Nat) (v4 : Int32) (h : zm_H) (o5 : Option Value) (o6 : Option Value) (o7 : Option Value), zSh zT0 h → f_M_worth_l3_ok v1 v2 v3 n (v4, h) → G (f_M_worth_l3 v1 v2 v3 n (v4, h)) → zg x (d + 3) 257 3 [some (.ref 92), some (.int v1), some (.int v2), some (.int v3), some (.int v4), o5, o6, o7] [] h Q := by
  intro n
  induction n with
  | zero => intro v4 h o5 o6 o7 hs ho hG; exact ho.elim
  | succ n ih =>
    intro v4 h o5 o6 o7 hs ho hG
    refine f_M_worth_l3_b_t (FN := fun r => (r.1 = 0 → f_M_worth_l3_ok v1 v2 v3 n r.2) ∧ G (if r.1 = 0 then f_M_worth_l3 v1 v2 v3 n r.2 else r)) v1 v2 v3 v4 h o5 o6 o7 hs ho.1 ⟨ho.2, hG⟩ ?_ ?_
    · intro v4 h o5 o6 o7 hs hF
      exact ih v4 h o5 o6 o7 hs (hF.1 rfl) hF.2
    · intro v4 h o4 o5 o6 o7 hs hF
      exact hx1 v4 h o4 o5 o6 o7 hs hF.2

theorem f_M_worth_l3_w (v1 : Int32) (v2 : Int32) (v3 : Int32) (n : Nat) (t : Int32 × zm_H) : zWr [123, 124] (t.2) ((f_M_worth_l3 v1 v2 v3 n t).2.2) := zWr_zwh (fun t : Int32 × zm_H => t.2) (fun t => f_M_worth_l3_b_w v1 v2 v3 t.1 t.2)
def f_M_worth_l62_b (v1 : Int32) (v2 : Int32) (v3 : Int32) (v4 : Int32) (h : zm_H) : Nat × Int32 × zm_H := (if (v1 ≤ v4) then (1, v4, h) else (0, (v4 + 1), (zs (zs h 123 (10 + (zr h 159 v4)) 1) 124 (10 + (zr h 159 v4)) (zr h 160 v4))))
def f_M_worth_l62_b_ok (v1 : Int32) (v2 : Int32) (v3 : Int32) (v4 : Int32) (h : zm_H) : Prop := (((v1 ≤ v4) → True) ∧ (¬ (v1 ≤ v4) → (vp_in v4 3 ∧ (vp_in (10 + (zr h 159 v4)) 20 ∧ (vp_in v4 3 ∧ (vp_in v4 3 ∧ vp_in (10 + (zr h 159 v4)) 20))))))
set_option maxRecDepth 100000 in
set_option maxHeartbeats 400000 in
theorem f_M_worth_l62_b_t {x : zm_X} {d : Nat} (v1 : Int32) (v2 : Int32) (v3 : Int32) (v4 : Int32) (h : zm_H) (o5 : Option Value) (o6 : Option Value) (o7 : Option Value) {Q : Option Value → zm_H → Prop} {FN : Nat × Int32 × zm_H → Prop} (hs : zSh zT0 h) (ho : f_M_worth_l62_b_ok v1 v2 v3 v4 h) (hF : FN (f_M_worth_l62_b v1 v2 v3 v4 h)) (hl0 : ∀ (v4 : Int32) (h : zm_H) (o5 : Option Value) (o6 : Option Value) (o7 : Option Value), zSh zT0 h → FN (0, v4, h) → zg x (d + 3) 257 62 [some (.ref 92), some (.int v1), some (.int v2), some (.int v3), some (.int v4), o5, o6, o7] [] h Q) (hl1 : ∀ (v4 : Int32) (h : zm_H) (o4 : Option Value) (o5 : Option Value) (o6 : Option Value) (o7 : Option Value), zSh zT0 h → FN (1, v4, h) → zg x (d + 3) 257 112 [some (.ref 92), some (.int v1), some (.int v2), some (.int v3), o4, o5, o6, o7] [] h Q) : zg x (d + 3) 257 62 [some (.ref 92), some (.int v1), some (.int v2), some (.int v3), some (.int v4), o5, o6, o7] [] h Q := by
  unfold f_M_worth_l62_b at hF
  unfold f_M_worth_l62_b_ok at ho
  refine zg_blk zd_257 2 hs (rfl : zb x zT0 zc_257 2 (62, [some (.ref 92), some (.int v1), some (.int v2), some (.int v3), some (.int v4), o5, o6, o7], [], h) = some (65, [some (.ref 92), some (.int v1), some (.int v2), some (.int v3), some (.int v4), o5, o6, o7], [.int v1, .int v4], h)) (fun hs => ?_)
  refine zg_i_ge zd_257 rfl (fun (hc : (v1 ≤ v4)) => ?_) (fun (hc : ¬ (v1 ≤ v4)) => ?_)
  · have ho := ho.1 hc
    rw [if_pos hc] at hF
    exact hl1 v4 h (some (.int v4)) (o5) (o6) (o7) hs hF
  · have ho := ho.2 hc
    rw [if_neg hc] at hF
    refine zg_blk zd_257 6 hs (rfl : zb x zT0 zc_257 6 (68, [some (.ref 92), some (.int v1), some (.int v2), some (.int v3), some (.int v4), o5, o6, o7], [], h) = some (80, [some (.ref 92), some (.int v1), some (.int v2), some (.int v3), some (.int v4), o5, o6, o7], [.int v4, .ref 159, .int 10, .ref 123], h)) (fun hs => ?_)
    obtain ⟨hob, ho⟩ := ho
    refine zg_ial hs zd_257 rfl rfl hob ?_
    refine zg_blk zd_257 2 hs (rfl : zb x zT0 zc_257 2 (81, [some (.ref 92), some (.int v1), some (.int v2), some (.int v3), some (.int v4), o5, o6, o7], [.int (zr h 159 v4), .int 10, .ref 123], h) = some (83, [some (.ref 92), some (.int v1), some (.int v2), some (.int v3), some (.int v4), o5, o6, o7], [.int 1, .int (10 + (zr h 159 v4)), .ref 123], h)) (fun hs => ?_)
    obtain ⟨hob, ho⟩ := ho
    refine zg_ias hs zd_257 rfl rfl hob (fun hs => ?_)
    refine zg_blk zd_257 6 hs (rfl : zb x zT0 zc_257 6 (84, [some (.ref 92), some (.int v1), some (.int v2), some (.int v3), some (.int v4), o5, o6, o7], [], (zs h 123 (10 + (zr h 159 v4)) 1)) = some (96, [some (.ref 92), some (.int v1), some (.int v2), some (.int v3), some (.int v4), o5, o6, o7], [.int v4, .ref 159, .int 10, .ref 124], (zs h 123 (10 + (zr h 159 v4)) 1))) (fun hs => ?_)
    obtain ⟨hob, ho⟩ := ho
    refine zg_ial hs zd_257 rfl rfl hob ?_
    refine zg_blk zd_257 4 hs (rfl : zb x zT0 zc_257 4 (97, [some (.ref 92), some (.int v1), some (.int v2), some (.int v3), some (.int v4), o5, o6, o7], [.int (zr h 159 v4), .int 10, .ref 124], (zs h 123 (10 + (zr h 159 v4)) 1)) = some (104, [some (.ref 92), some (.int v1), some (.int v2), some (.int v3), some (.int v4), o5, o6, o7], [.int v4, .ref 160, .int (10 + (zr h 159 v4)), .ref 124], (zs h 123 (10 + (zr h 159 v4)) 1))) (fun hs => ?_)
    obtain ⟨hob, ho⟩ := ho
    refine zg_ial hs zd_257 rfl rfl hob ?_
    have hob := ho
    refine zg_ias hs zd_257 rfl rfl hob (fun hs => ?_)
    refine zg_blk zd_257 2 hs (rfl : zb x zT0 zc_257 2 (106, [some (.ref 92), some (.int v1), some (.int v2), some (.int v3), some (.int v4), o5, o6, o7], [], (zs (zs h 123 (10 + (zr h 159 v4)) 1) 124 (10 + (zr h 159 v4)) (zr h 160 v4))) = some (62, [some (.ref 92), some (.int v1), some (.int v2), some (.int v3), some (.int (v4 + 1)), o5, o6, o7], [], (zs (zs h 123 (10 + (zr h 159 v4)) 1) 124 (10 + (zr h 159 v4)) (zr h 160 v4)))) (fun hs => ?_)
    exact hl0 (v4 + 1) (zs (zs h 123 (10 + (zr h 159 v4)) 1) 124 (10 + (zr h 159 v4)) (zr h 160 v4)) (o5) (o6) (o7) hs hF
theorem f_M_worth_l62_b_w (v1 : Int32) (v2 : Int32) (v3 : Int32) (v4 : Int32) (h : zm_H) : zWr [123, 124] h ((f_M_worth_l62_b v1 v2 v3 v4 h).2.2) := (zWr_ite (fun z : Nat × Int32 × zm_H => z.2.2) (zWr.refl _ _) (zWr_si (by decide) (zWr_si (by decide) (zWr.refl _ _))))
def f_M_worth_l62 (v1 : Int32) (v2 : Int32) (v3 : Int32) (n : Nat) (t : Int32 × zm_H) : Nat × Int32 × zm_H := zwh (fun t => f_M_worth_l62_b v1 v2 v3 t.1 t.2) n t
def f_M_worth_l62_ok (v1 : Int32) (v2 : Int32) (v3 : Int32) (n : Nat) (t : Int32 × zm_H) : Prop := zwo (fun t => f_M_worth_l62_b v1 v2 v3 t.1 t.2) (fun t => f_M_worth_l62_b_ok v1 v2 v3 t.1 t.2) n t
theorem f_M_worth_l62_t {x : zm_X} {d : Nat} (v1 : Int32) (v2 : Int32) (v3 : Int32) {Q : Option Value → zm_H → Prop} (G : Nat × Int32 × zm_H → Prop) (hx1 : ∀ (v4 : Int32) (h : zm_H) (o4 : Option Value) (o5 : Option Value) (o6 : Option Value) (o7 : Option Value), zSh zT0 h → G (1, v4, h) → zg x (d + 3) 257 112 [some (.ref 92), some (.int v1), some (.int v2), some (.int v3), o4, o5, o6, o7] [] h Q) : ∀ (n : Nat) (v4 : Int32) (h : zm_H) (o5 : Option Value) (o6 : Option Value) (o7 : Option Value), zSh zT0 h → f_M_worth_l62_ok v1 v2 v3 n (v4, h) → G (f_M_worth_l62 v1 v2 v3 n (v4, h)) → zg x (d + 3) 257 62 [some (.ref 92), some (.int v1), some (.int v2), some (.int v3), some (.int v4), o5, o6, o7] [] h Q := by
  intro n
  induction n with
  | zero => intro v4 h o5 o6 o7 hs ho hG; exact ho.elim
  | succ n ih =>
    intro v4 h o5 o6 o7 hs ho hG
    refine f_M_worth_l62_b_t (FN := fun r => (r.1 = 0 → f_M_worth_l62_ok v1 v2 v3 n r.2) ∧ G (if r.1 = 0 then f_M_worth_l62 v1 v2 v3 n r.2 else r)) v1 v2 v3 v4 h o5 o6 o7 hs ho.1 ⟨ho.2, hG⟩ ?_ ?_
    · intro v4 h o5 o6 o7 hs hF
      exact ih v4 h o5 o6 o7 hs (hF.1 rfl) hF.2
    · intro v4 h o4 o5 o6 o7 hs hF
      exact hx1 v4 h o4 o5 o6 o7 hs hF.2

theorem f_M_worth_l62_w (v1 : Int32) (v2 : Int32) (v3 : Int32) (n : Nat) (t : Int32 × zm_H) : zWr [123, 124] (t.2) ((f_M_worth_l62 v1 v2 v3 n t).2.2) := zWr_zwh (fun t : Int32 × zm_H => t.2) (fun t => f_M_worth_l62_b_w v1 v2 v3 t.1 t.2)
def f_M_worth_l122_l166_b (v2 : Int32) (v3 : Int32) (v4 : Int32) (v5 : Int32) (v6 : Int32) (v7 : Int32) (h : zm_H) : Nat × Int32 := (if (10 ≤ v7) then (2, v7) else (if ((v3 * v6) ≤ (100 * (zr h 151 v7))) then (0, (v7 + 1)) else (1, v7)))
def f_M_worth_l122_l166_b_ok (v2 : Int32) (v3 : Int32) (v4 : Int32) (v5 : Int32) (v6 : Int32) (v7 : Int32) (h : zm_H) : Prop := (((10 ≤ v7) → True) ∧ (¬ (10 ≤ v7) → vp_in v7 10))
set_option maxRecDepth 100000 in
set_option maxHeartbeats 400000 in
theorem f_M_worth_l122_l166_b_t {x : zm_X} {d : Nat} (v2 : Int32) (v3 : Int32) (v4 : Int32) (v5 : Int32) (v6 : Int32) (v7 : Int32) (h : zm_H) (o1 : Option Value) {Q : Option Value → zm_H → Prop} {FN : Nat × Int32 → Prop} (hs : zSh zT0 h) (ho : f_M_worth_l122_l166_b_ok v2 v3 v4 v5 v6 v7 h) (hF : FN (f_M_worth_l122_l166_b v2 v3 v4 v5 v6 v7 h)) (hl0 : ∀ (v7 : Int32) (o1 : Option Value), zSh zT0 h → FN (0, v7) → zg x (d + 3) 257 166 [some (.ref 92), o1, some (.int v2), some (.int v3), some (.int v4), some (.int v5), some (.int v6), some (.int v7)] [] h Q) (hl1 : ∀ (v7 : Int32) (o1 : Option Value) (o7 : Option Value), zSh zT0 h → FN (1, v7) → zg x (d + 3) 257 190 [some (.ref 92), o1, some (.int v2), some (.int v3), some (.int v4), some (.int v5), some (.int v6), o7] [] h Q) (hl2 : ∀ (v7 : Int32) (o1 : Option Value) (o7 : Option Value), zSh zT0 h → FN (2, v7) → zg x (d + 3) 257 198 [some (.ref 92), o1, some (.int v2), some (.int v3), some (.int v4), some (.int v5), some (.int v6), o7] [] h Q) : zg x (d + 3) 257 166 [some (.ref 92), o1, some (.int v2), some (.int v3), some (.int v4), some (.int v5), some (.int v6), some (.int v7)] [] h Q := by
  unfold f_M_worth_l122_l166_b at hF
  unfold f_M_worth_l122_l166_b_ok at ho
  refine zg_blk zd_257 2 hs (rfl : zb x zT0 zc_257 2 (166, [some (.ref 92), o1, some (.int v2), some (.int v3), some (.int v4), some (.int v5), some (.int v6), some (.int v7)], [], h) = some (170, [some (.ref 92), o1, some (.int v2), some (.int v3), some (.int v4), some (.int v5), some (.int v6), some (.int v7)], [.int 10, .int v7], h)) (fun hs => ?_)
  refine zg_i_ge zd_257 rfl (fun (hc : (10 ≤ v7)) => ?_) (fun (hc : ¬ (10 ≤ v7)) => ?_)
  · have ho := ho.1 hc
    rw [if_pos hc] at hF
    exact hl2 v7 (o1) (some (.int v7)) hs hF
  · have ho := ho.2 hc
    rw [if_neg hc] at hF
    refine zg_blk zd_257 4 hs (rfl : zb x zT0 zc_257 4 (173, [some (.ref 92), o1, some (.int v2), some (.int v3), some (.int v4), some (.int v5), some (.int v6), some (.int v7)], [], h) = some (181, [some (.ref 92), o1, some (.int v2), some (.int v3), some (.int v4), some (.int v5), some (.int v6), some (.int v7)], [.int v7, .ref 151, .int 100], h)) (fun hs => ?_)
    have hob := ho
    refine zg_ial hs zd_257 rfl rfl hob ?_
    refine zg_blk zd_257 4 hs (rfl : zb x zT0 zc_257 4 (182, [some (.ref 92), o1, some (.int v2), some (.int v3), some (.int v4), some (.int v5), some (.int v6), some (.int v7)], [.int (zr h 151 v7), .int 100], h) = some (187, [some (.ref 92), o1, some (.int v2), some (.int v3), some (.int v4), some (.int v5), some (.int v6), some (.int v7)], [.int (v3 * v6), .int (100 * (zr h 151 v7))], h)) (fun hs => ?_)
    refine zg_i_ge zd_257 rfl (fun (hc : ((v3 * v6) ≤ (100 * (zr h 151 v7)))) => ?_) (fun (hc : ¬ ((v3 * v6) ≤ (100 * (zr h 151 v7)))) => ?_)
    · skip
      rw [if_pos hc] at hF
      refine zg_blk zd_257 2 hs (rfl : zb x zT0 zc_257 2 (192, [some (.ref 92), o1, some (.int v2), some (.int v3), some (.int v4), some (.int v5), some (.int v6), some (.int v7)], [], h) = some (166, [some (.ref 92), o1, some (.int v2), some (.int v3), some (.int v4), some (.int v5), some (.int v6), some (.int (v7 + 1))], [], h)) (fun hs => ?_)
      exact hl0 (v7 + 1) (o1) hs hF
    · skip
      rw [if_neg hc] at hF
      exact hl1 v7 (o1) (some (.int v7)) hs hF
def f_M_worth_l122_l166 (v2 : Int32) (v3 : Int32) (v4 : Int32) (v5 : Int32) (v6 : Int32) (h : zm_H) (n : Nat) (t : Int32) : Nat × Int32 := zwh (fun t => f_M_worth_l122_l166_b v2 v3 v4 v5 v6 t h) n t
def f_M_worth_l122_l166_ok (v2 : Int32) (v3 : Int32) (v4 : Int32) (v5 : Int32) (v6 : Int32) (h : zm_H) (n : Nat) (t : Int32) : Prop := zwo (fun t => f_M_worth_l122_l166_b v2 v3 v4 v5 v6 t h) (fun t => f_M_worth_l122_l166_b_ok v2 v3 v4 v5 v6 t h) n t
theorem f_M_worth_l122_l166_t {x : zm_X} {d : Nat} (v2 : Int32) (v3 : Int32) (v4 : Int32) (v5 : Int32) (v6 : Int32) (h : zm_H) {Q : Option Value → zm_H → Prop} (G : Nat × Int32 → Prop) (hx1 : ∀ (v7 : Int32) (o1 : Option Value) (o7 : Option Value), zSh zT0 h → G (1, v7) → zg x (d + 3) 257 190 [some (.ref 92), o1, some (.int v2), some (.int v3), some (.int v4), some (.int v5), some (.int v6), o7] [] h Q) (hx2 : ∀ (v7 : Int32) (o1 : Option Value) (o7 : Option Value), zSh zT0 h → G (2, v7) → zg x (d + 3) 257 198 [some (.ref 92), o1, some (.int v2), some (.int v3), some (.int v4), some (.int v5), some (.int v6), o7] [] h Q) : ∀ (n : Nat) (v7 : Int32) (o1 : Option Value), zSh zT0 h → f_M_worth_l122_l166_ok v2 v3 v4 v5 v6 h n v7 → G (f_M_worth_l122_l166 v2 v3 v4 v5 v6 h n v7) → zg x (d + 3) 257 166 [some (.ref 92), o1, some (.int v2), some (.int v3), some (.int v4), some (.int v5), some (.int v6), some (.int v7)] [] h Q := by
  intro n
  induction n with
  | zero => intro v7 o1 hs ho hG; exact ho.elim
  | succ n ih =>
    intro v7 o1 hs ho hG
    refine f_M_worth_l122_l166_b_t (FN := fun r => (r.1 = 0 → f_M_worth_l122_l166_ok v2 v3 v4 v5 v6 h n r.2) ∧ G (if r.1 = 0 then f_M_worth_l122_l166 v2 v3 v4 v5 v6 h n r.2 else r)) v2 v3 v4 v5 v6 v7 h o1 hs ho.1 ⟨ho.2, hG⟩ ?_ ?_ ?_
    · intro v7 o1 hs hF
      exact ih v7 o1 hs (hF.1 rfl) hF.2
    · intro v7 o1 o7 hs hF
      exact hx1 v7 o1 o7 hs hF.2
    · intro v7 o1 o7 hs hF
      exact hx2 v7 o1 o7 hs hF.2

def f_M_worth_l122_l201_b (v2 : Int32) (v3 : Int32) (v4 : Int32) (v5 : Int32) (v6 : Int32) (v7 : Int32) (h : zm_H) : Nat × Int32 × Int32 := (if ((zf h 92 33) ≤ v7) then (1, v4, v7) else (0, (v4 + (((zr h 153 v7) * (100 - (f_M_leak v7 h))) / 100)), (v7 + 1)))
def f_M_worth_l122_l201_b_ok (v2 : Int32) (v3 : Int32) (v4 : Int32) (v5 : Int32) (v6 : Int32) (v7 : Int32) (h : zm_H) : Prop := ((((zf h 92 33) ≤ v7) → True) ∧ (¬ ((zf h 92 33) ≤ v7) → (vp_in v7 10 ∧ f_M_leak_ok v7 h)))
set_option maxRecDepth 100000 in
set_option maxHeartbeats 400000 in
theorem f_M_worth_l122_l201_b_t {x : zm_X} {d : Nat} (v2 : Int32) (v3 : Int32) (v4 : Int32) (v5 : Int32) (v6 : Int32) (v7 : Int32) (h : zm_H) (o1 : Option Value) {Q : Option Value → zm_H → Prop} {FN : Nat × Int32 × Int32 → Prop} (hs : zSh zT0 h) (ho : f_M_worth_l122_l201_b_ok v2 v3 v4 v5 v6 v7 h) (hF : FN (f_M_worth_l122_l201_b v2 v3 v4 v5 v6 v7 h)) (hl0 : ∀ (v4 : Int32) (v7 : Int32) (o1 : Option Value), zSh zT0 h → FN (0, v4, v7) → zg x (d + 3) 257 201 [some (.ref 92), o1, some (.int v2), some (.int v3), some (.int v4), some (.int v5), some (.int v6), some (.int v7)] [] h Q) (hl1 : ∀ (v4 : Int32) (v7 : Int32) (o1 : Option Value) (o7 : Option Value), zSh zT0 h → FN (1, v4, v7) → zg x (d + 3) 257 241 [some (.ref 92), o1, some (.int v2), some (.int v3), some (.int v4), some (.int v5), some (.int v6), o7] [] h Q) : zg x (d + 3) 257 201 [some (.ref 92), o1, some (.int v2), some (.int v3), some (.int v4), some (.int v5), some (.int v6), some (.int v7)] [] h Q := by
  unfold f_M_worth_l122_l201_b at hF
  unfold f_M_worth_l122_l201_b_ok at ho
  refine zg_blk zd_257 3 hs (rfl : zb x zT0 zc_257 3 (201, [some (.ref 92), o1, some (.int v2), some (.int v3), some (.int v4), some (.int v5), some (.int v6), some (.int v7)], [], h) = some (207, [some (.ref 92), o1, some (.int v2), some (.int v3), some (.int v4), some (.int v5), some (.int v6), some (.int v7)], [.int (zf h 92 33), .int v7], h)) (fun hs => ?_)
  refine zg_i_ge zd_257 rfl (fun (hc : ((zf h 92 33) ≤ v7)) => ?_) (fun (hc : ¬ ((zf h 92 33) ≤ v7)) => ?_)
  · have ho := ho.1 hc
    rw [if_pos hc] at hF
    exact hl1 v4 v7 (o1) (some (.int v7)) hs hF
  · have ho := ho.2 hc
    rw [if_neg hc] at hF
    refine zg_blk zd_257 4 hs (rfl : zb x zT0 zc_257 4 (210, [some (.ref 92), o1, some (.int v2), some (.int v3), some (.int v4), some (.int v5), some (.int v6), some (.int v7)], [], h) = some (218, [some (.ref 92), o1, some (.int v2), some (.int v3), some (.int v4), some (.int v5), some (.int v6), some (.int v7)], [.int v7, .ref 153, .int v4], h)) (fun hs => ?_)
    obtain ⟨hob, ho⟩ := ho
    refine zg_ial hs zd_257 rfl rfl hob ?_
    refine zg_blk zd_257 3 hs (rfl : zb x zT0 zc_257 3 (219, [some (.ref 92), o1, some (.int v2), some (.int v3), some (.int v4), some (.int v5), some (.int v6), some (.int v7)], [.int (zr h 153 v7), .int v4], h) = some (224, [some (.ref 92), o1, some (.int v2), some (.int v3), some (.int v4), some (.int v5), some (.int v6), some (.int v7)], [.int v7, .ref 92, .int 100, .int (zr h 153 v7), .int v4], h)) (fun hs => ?_)
    have hob := ho
    refine zg_call hs zd_257 rfl rfl rfl rfl (as := [.ref 92, .int v7]) (rest := [.int 100, .int (zr h 153 v7), .int v4]) (en := [some (.ref 92), some (.int v7)]) rfl rfl rfl rfl rfl ?_
    refine f_M_leak_t v7 h hs hob ?_
    show zg x (d + 3) 257 227 [some (.ref 92), o1, some (.int v2), some (.int v3), some (.int v4), some (.int v5), some (.int v6), some (.int v7)] [.int (f_M_leak v7 h), .int 100, .int (zr h 153 v7), .int v4] h Q
    refine zg_blk zd_257 8 hs (rfl : zb x zT0 zc_257 8 (227, [some (.ref 92), o1, some (.int v2), some (.int v3), some (.int v4), some (.int v5), some (.int v6), some (.int v7)], [.int (f_M_leak v7 h), .int 100, .int (zr h 153 v7), .int v4], h) = some (201, [some (.ref 92), o1, some (.int v2), some (.int v3), some (.int (v4 + (((zr h 153 v7) * (100 - (f_M_leak v7 h))) / 100))), some (.int v5), some (.int v6), some (.int (v7 + 1))], [], h)) (fun hs => ?_)
    exact hl0 (v4 + (((zr h 153 v7) * (100 - (f_M_leak v7 h))) / 100)) (v7 + 1) (o1) hs hF
def f_M_worth_l122_l201 (v2 : Int32) (v3 : Int32) (v5 : Int32) (v6 : Int32) (h : zm_H) (n : Nat) (t : Int32 × Int32) : Nat × Int32 × Int32 := zwh (fun t => f_M_worth_l122_l201_b v2 v3 t.1 v5 v6 t.2 h) n t
def f_M_worth_l122_l201_ok (v2 : Int32) (v3 : Int32) (v5 : Int32) (v6 : Int32) (h : zm_H) (n : Nat) (t : Int32 × Int32) : Prop := zwo (fun t => f_M_worth_l122_l201_b v2 v3 t.1 v5 v6 t.2 h) (fun t => f_M_worth_l122_l201_b_ok v2 v3 t.1 v5 v6 t.2 h) n t
theorem f_M_worth_l122_l201_t {x : zm_X} {d : Nat} (v2 : Int32) (v3 : Int32) (v5 : Int32) (v6 : Int32) (h : zm_H) {Q : Option Value → zm_H → Prop} (G : Nat × Int32 × Int32 → Prop) (hx1 : ∀ (v4 : Int32) (v7 : Int32) (o1 : Option Value) (o7 : Option Value), zSh zT0 h → G (1, v4, v7) → zg x (d + 3) 257 241 [some (.ref 92), o1, some (.int v2), some (.int v3), some (.int v4), some (.int v5), some (.int v6), o7] [] h Q) : ∀ (n : Nat) (v4 : Int32) (v7 : Int32) (o1 : Option Value), zSh zT0 h → f_M_worth_l122_l201_ok v2 v3 v5 v6 h n (v4, v7) → G (f_M_worth_l122_l201 v2 v3 v5 v6 h n (v4, v7)) → zg x (d + 3) 257 201 [some (.ref 92), o1, some (.int v2), some (.int v3), some (.int v4), some (.int v5), some (.int v6), some (.int v7)] [] h Q := by
  intro n
  induction n with
  | zero => intro v4 v7 o1 hs ho hG; exact ho.elim
  | succ n ih =>
    intro v4 v7 o1 hs ho hG
    refine f_M_worth_l122_l201_b_t (FN := fun r => (r.1 = 0 → f_M_worth_l122_l201_ok v2 v3 v5 v6 h n r.2) ∧ G (if r.1 = 0 then f_M_worth_l122_l201 v2 v3 v5 v6 h n r.2 else r)) v2 v3 v4 v5 v6 v7 h o1 hs ho.1 ⟨ho.2, hG⟩ ?_ ?_
    · intro v4 v7 o1 hs hF
      exact ih v4 v7 o1 hs (hF.1 rfl) hF.2
    · intro v4 v7 o1 o7 hs hF
      exact hx1 v4 v7 o1 o7 hs hF.2

def f_M_worth_l122_k241 (v2 : Int32) (v3 : Int32) (v4 : Int32) (v5 : Int32) (h : zm_H) : Nat × Int32 × Int32 × zm_H := (0, v4, (v5 + 1), h)
def f_M_worth_l122_k241_ok (v2 : Int32) (v3 : Int32) (v4 : Int32) (v5 : Int32) (h : zm_H) : Prop := True
set_option maxRecDepth 100000 in
set_option maxHeartbeats 400000 in
theorem f_M_worth_l122_k241_t {x : zm_X} {d : Nat} (v2 : Int32) (v3 : Int32) (v4 : Int32) (v5 : Int32) (h : zm_H) (o1 : Option Value) (o6 : Option Value) (o7 : Option Value) {Q : Option Value → zm_H → Prop} {FN : Nat × Int32 × Int32 × zm_H → Prop} (hs : zSh zT0 h) (ho : f_M_worth_l122_k241_ok v2 v3 v4 v5 h) (hF : FN (f_M_worth_l122_k241 v2 v3 v4 v5 h)) (hl0 : ∀ (v4 : Int32) (v5 : Int32) (h : zm_H) (o1 : Option Value) (o6 : Option Value) (o7 : Option Value), zSh zT0 h → FN (0, v4, v5, h) → zg x (d + 3) 257 122 [some (.ref 92), o1, some (.int v2), some (.int v3), some (.int v4), some (.int v5), o6, o7] [] h Q) (hl1 : ∀ (v4 : Int32) (v5 : Int32) (h : zm_H) (o1 : Option Value) (o4 : Option Value) (o5 : Option Value) (o6 : Option Value) (o7 : Option Value), zSh zT0 h → FN (1, v4, v5, h) → zg x (d + 3) 257 190 [some (.ref 92), o1, some (.int v2), some (.int v3), o4, o5, o6, o7] [] h Q) (hl2 : ∀ (v4 : Int32) (v5 : Int32) (h : zm_H) (o1 : Option Value) (o5 : Option Value) (o6 : Option Value) (o7 : Option Value), zSh zT0 h → FN (2, v4, v5, h) → zg x (d + 3) 257 247 [some (.ref 92), o1, some (.int v2), some (.int v3), some (.int v4), o5, o6, o7] [] h Q) : zg x (d + 3) 257 241 [some (.ref 92), o1, some (.int v2), some (.int v3), some (.int v4), some (.int v5), o6, o7] [] h Q := by
  unfold f_M_worth_l122_k241 at hF
  unfold f_M_worth_l122_k241_ok at ho
  refine zg_blk zd_257 2 hs (rfl : zb x zT0 zc_257 2 (241, [some (.ref 92), o1, some (.int v2), some (.int v3), some (.int v4), some (.int v5), o6, o7], [], h) = some (122, [some (.ref 92), o1, some (.int v2), some (.int v3), some (.int v4), some (.int (v5 + 1)), o6, o7], [], h)) (fun hs => ?_)
  exact hl0 v4 (v5 + 1) h (o1) (o6) (o7) hs hF
theorem f_M_worth_l122_k241_w (v2 : Int32) (v3 : Int32) (v4 : Int32) (v5 : Int32) (h : zm_H) : zWr [] h ((f_M_worth_l122_k241 v2 v3 v4 v5 h).2.2.2) := (zWr.refl _ _)
def f_M_worth_l122_a201 (v2 : Int32) (v3 : Int32) (v5 : Int32) (r : Nat × Int32 × Int32) (h : zm_H) : Nat × Int32 × Int32 × zm_H := (f_M_worth_l122_k241 v2 v3 (r.2.1) v5 h)
def f_M_worth_l122_a201_ok (v2 : Int32) (v3 : Int32) (v5 : Int32) (r : Nat × Int32 × Int32) (h : zm_H) : Prop := True
theorem f_M_worth_l122_a201_w (v2 : Int32) (v3 : Int32) (v5 : Int32) (r : Nat × Int32 × Int32) (h : zm_H) : zWr [] h ((f_M_worth_l122_a201 v2 v3 v5 r h).2.2.2) := (zWr_tr (f_M_worth_l122_k241_w v2 v3 (r.2.1) v5 h) (by decide) (zWr.refl _ _))
def f_M_worth_l122_k198 (v2 : Int32) (v3 : Int32) (v4 : Int32) (v5 : Int32) (v6 : Int32) (h : zm_H) : Nat × Int32 × Int32 × zm_H := (f_M_worth_l122_a201 v2 v3 v5 (f_M_worth_l122_l201 v2 v3 v5 v6 h zF (v4, 0)) h)
def f_M_worth_l122_k198_ok (v2 : Int32) (v3 : Int32) (v4 : Int32) (v5 : Int32) (v6 : Int32) (h : zm_H) : Prop := (f_M_worth_l122_l201_ok v2 v3 v5 v6 h zF (v4, 0) ∧ f_M_worth_l122_a201_ok v2 v3 v5 (f_M_worth_l122_l201 v2 v3 v5 v6 h zF (v4, 0)) h)
set_option maxRecDepth 100000 in
set_option maxHeartbeats 400000 in
theorem f_M_worth_l122_k198_t {x : zm_X} {d : Nat} (v2 : Int32) (v3 : Int32) (v4 : Int32) (v5 : Int32) (v6 : Int32) (h : zm_H) (o1 : Option Value) (o7 : Option Value) {Q : Option Value → zm_H → Prop} {FN : Nat × Int32 × Int32 × zm_H → Prop} (hs : zSh zT0 h) (ho : f_M_worth_l122_k198_ok v2 v3 v4 v5 v6 h) (hF : FN (f_M_worth_l122_k198 v2 v3 v4 v5 v6 h)) (hl0 : ∀ (v4 : Int32) (v5 : Int32) (h : zm_H) (o1 : Option Value) (o6 : Option Value) (o7 : Option Value), zSh zT0 h → FN (0, v4, v5, h) → zg x (d + 3) 257 122 [some (.ref 92), o1, some (.int v2), some (.int v3), some (.int v4), some (.int v5), o6, o7] [] h Q) (hl1 : ∀ (v4 : Int32) (v5 : Int32) (h : zm_H) (o1 : Option Value) (o4 : Option Value) (o5 : Option Value) (o6 : Option Value) (o7 : Option Value), zSh zT0 h → FN (1, v4, v5, h) → zg x (d + 3) 257 190 [some (.ref 92), o1, some (.int v2), some (.int v3), o4, o5, o6, o7] [] h Q) (hl2 : ∀ (v4 : Int32) (v5 : Int32) (h : zm_H) (o1 : Option Value) (o5 : Option Value) (o6 : Option Value) (o7 : Option Value), zSh zT0 h → FN (2, v4, v5, h) → zg x (d + 3) 257 247 [some (.ref 92), o1, some (.int v2), some (.int v3), some (.int v4), o5, o6, o7] [] h Q) : zg x (d + 3) 257 198 [some (.ref 92), o1, some (.int v2), some (.int v3), some (.int v4), some (.int v5), some (.int v6), o7] [] h Q := by
  unfold f_M_worth_l122_k198 at hF
  unfold f_M_worth_l122_k198_ok at ho
  refine zg_blk zd_257 2 hs (rfl : zb x zT0 zc_257 2 (198, [some (.ref 92), o1, some (.int v2), some (.int v3), some (.int v4), some (.int v5), some (.int v6), o7], [], h) = some (201, [some (.ref 92), o1, some (.int v2), some (.int v3), some (.int v4), some (.int v5), some (.int v6), some (.int 0)], [], h)) (fun hs => ?_)
  refine f_M_worth_l122_l201_t v2 v3 v5 v6 h (fun r => f_M_worth_l122_a201_ok v2 v3 v5 r h ∧ FN (f_M_worth_l122_a201 v2 v3 v5 r h)) ?_ zF v4 0 (o1) hs ho.1 ⟨ho.2, hF⟩
  · intro v4_ v7_ o1_ o7_ hs hG
    have ho : True := trivial
    have hF : FN ((f_M_worth_l122_k241 v2 v3 v4_ v5 h)) := hG.2
    exact f_M_worth_l122_k241_t v2 v3 v4_ v5 h (o1_) (some (.int v6)) (o7_) hs trivial hF hl0 hl1 hl2
theorem f_M_worth_l122_k198_w (v2 : Int32) (v3 : Int32) (v4 : Int32) (v5 : Int32) (v6 : Int32) (h : zm_H) : zWr [] h ((f_M_worth_l122_k198 v2 v3 v4 v5 v6 h).2.2.2) := (zWr_tr (f_M_worth_l122_a201_w v2 v3 v5 (f_M_worth_l122_l201 v2 v3 v5 v6 h zF (v4, 0)) h) (by decide) (zWr.refl _ _))
def f_M_worth_l122_a166 (v2 : Int32) (v3 : Int32) (v4 : Int32) (v5 : Int32) (v6 : Int32) (r : Nat × Int32) (h : zm_H) : Nat × Int32 × Int32 × zm_H := (if r.1 = 1 then (1, v4, v5, h) else (f_M_worth_l122_k198 v2 v3 v4 v5 v6 h))
def f_M_worth_l122_a166_ok (v2 : Int32) (v3 : Int32) (v4 : Int32) (v5 : Int32) (v6 : Int32) (r : Nat × Int32) (h : zm_H) : Prop := ((r.1 = 1 → True) ∧ (¬ r.1 = 1 → (f_M_worth_l122_k198_ok v2 v3 v4 v5 v6 h)))
theorem f_M_worth_l122_a166_w (v2 : Int32) (v3 : Int32) (v4 : Int32) (v5 : Int32) (v6 : Int32) (r : Nat × Int32) (h : zm_H) : zWr [] h ((f_M_worth_l122_a166 v2 v3 v4 v5 v6 r h).2.2.2) := (zWr_ite (fun z : Nat × Int32 × Int32 × zm_H => z.2.2.2) (zWr.refl _ _) (zWr_tr (f_M_worth_l122_k198_w v2 v3 v4 v5 v6 h) (by decide) (zWr.refl _ _)))
def f_M_worth_l122_k147 (v2 : Int32) (v3 : Int32) (v4 : Int32) (v5 : Int32) (h : zm_H) : Nat × Int32 × Int32 × zm_H := (f_M_worth_l122_a166 v2 v3 v4 v5 (((zf h 92 79) * (zf h 92 79)) * (zf h 92 80)) (f_M_worth_l122_l166 v2 v3 v4 v5 (((zf h 92 79) * (zf h 92 79)) * (zf h 92 80)) h zF 0) h)
def f_M_worth_l122_k147_ok (v2 : Int32) (v3 : Int32) (v4 : Int32) (v5 : Int32) (h : zm_H) : Prop := (f_M_worth_l122_l166_ok v2 v3 v4 v5 (((zf h 92 79) * (zf h 92 79)) * (zf h 92 80)) h zF 0 ∧ f_M_worth_l122_a166_ok v2 v3 v4 v5 (((zf h 92 79) * (zf h 92 79)) * (zf h 92 80)) (f_M_worth_l122_l166 v2 v3 v4 v5 (((zf h 92 79) * (zf h 92 79)) * (zf h 92 80)) h zF 0) h)
set_option maxRecDepth 100000 in
set_option maxHeartbeats 400000 in
theorem f_M_worth_l122_k147_t {x : zm_X} {d : Nat} (v2 : Int32) (v3 : Int32) (v4 : Int32) (v5 : Int32) (h : zm_H) (o1 : Option Value) (o6 : Option Value) (o7 : Option Value) {Q : Option Value → zm_H → Prop} {FN : Nat × Int32 × Int32 × zm_H → Prop} (hs : zSh zT0 h) (ho : f_M_worth_l122_k147_ok v2 v3 v4 v5 h) (hF : FN (f_M_worth_l122_k147 v2 v3 v4 v5 h)) (hl0 : ∀ (v4 : Int32) (v5 : Int32) (h : zm_H) (o1 : Option Value) (o6 : Option Value) (o7 : Option Value), zSh zT0 h → FN (0, v4, v5, h) → zg x (d + 3) 257 122 [some (.ref 92), o1, some (.int v2), some (.int v3), some (.int v4), some (.int v5), o6, o7] [] h Q) (hl1 : ∀ (v4 : Int32) (v5 : Int32) (h : zm_H) (o1 : Option Value) (o4 : Option Value) (o5 : Option Value) (o6 : Option Value) (o7 : Option Value), zSh zT0 h → FN (1, v4, v5, h) → zg x (d + 3) 257 190 [some (.ref 92), o1, some (.int v2), some (.int v3), o4, o5, o6, o7] [] h Q) (hl2 : ∀ (v4 : Int32) (v5 : Int32) (h : zm_H) (o1 : Option Value) (o5 : Option Value) (o6 : Option Value) (o7 : Option Value), zSh zT0 h → FN (2, v4, v5, h) → zg x (d + 3) 257 247 [some (.ref 92), o1, some (.int v2), some (.int v3), some (.int v4), o5, o6, o7] [] h Q) : zg x (d + 3) 257 147 [some (.ref 92), o1, some (.int v2), some (.int v3), some (.int v4), some (.int v5), o6, o7] [] h Q := by
  unfold f_M_worth_l122_k147 at hF
  unfold f_M_worth_l122_k147_ok at ho
  refine zg_blk zd_257 11 hs (rfl : zb x zT0 zc_257 11 (147, [some (.ref 92), o1, some (.int v2), some (.int v3), some (.int v4), some (.int v5), o6, o7], [], h) = some (166, [some (.ref 92), o1, some (.int v2), some (.int v3), some (.int v4), some (.int v5), some (.int (((zf h 92 79) * (zf h 92 79)) * (zf h 92 80))), some (.int 0)], [], h)) (fun hs => ?_)
  refine f_M_worth_l122_l166_t v2 v3 v4 v5 (((zf h 92 79) * (zf h 92 79)) * (zf h 92 80)) h (fun r => f_M_worth_l122_a166_ok v2 v3 v4 v5 (((zf h 92 79) * (zf h 92 79)) * (zf h 92 80)) r h ∧ FN (f_M_worth_l122_a166 v2 v3 v4 v5 (((zf h 92 79) * (zf h 92 79)) * (zf h 92 80)) r h)) ?_ ?_ zF 0 (o1) hs ho.1 ⟨ho.2, hF⟩
  · intro v7_ o1_ o7_ hs hG
    have ho : True := trivial
    have hF : FN ((1, v4, v5, h)) := hG.2
    exact hl1 v4 v5 h (o1_) (some (.int v4)) (some (.int v5)) (some (.int (((zf h 92 79) * (zf h 92 79)) * (zf h 92 80)))) (o7_) hs hF
  · intro v7_ o1_ o7_ hs hG
    have ho : (f_M_worth_l122_k198_ok v2 v3 v4 v5 (((zf h 92 79) * (zf h 92 79)) * (zf h 92 80)) h) := (hG.1).2 (show ¬ (2 : Nat) = 1 by decide)
    have hF : FN ((f_M_worth_l122_k198 v2 v3 v4 v5 (((zf h 92 79) * (zf h 92 79)) * (zf h 92 80)) h)) := hG.2
    exact f_M_worth_l122_k198_t v2 v3 v4 v5 (((zf h 92 79) * (zf h 92 79)) * (zf h 92 80)) h (o1_) (o7_) hs ho hF hl0 hl1 hl2
theorem f_M_worth_l122_k147_w (v2 : Int32) (v3 : Int32) (v4 : Int32) (v5 : Int32) (h : zm_H) : zWr [] h ((f_M_worth_l122_k147 v2 v3 v4 v5 h).2.2.2) := (zWr_tr (f_M_worth_l122_a166_w v2 v3 v4 v5 (((zf h 92 79) * (zf h 92 79)) * (zf h 92 80)) (f_M_worth_l122_l166 v2 v3 v4 v5 (((zf h 92 79) * (zf h 92 79)) * (zf h 92 80)) h zF 0) h) (by decide) (zWr.refl _ _))
def f_M_worth_l122_k142 (v2 : Int32) (v3 : Int32) (v4 : Int32) (v5 : Int32) (h : zm_H) : Nat × Int32 × Int32 × zm_H := (f_M_worth_l122_k147 v2 v3 v4 v5 (f_M_waves 1 h))
def f_M_worth_l122_k142_ok (v2 : Int32) (v3 : Int32) (v4 : Int32) (v5 : Int32) (h : zm_H) : Prop := (f_M_waves_ok 1 h ∧ (f_M_worth_l122_k147_ok v2 v3 v4 v5 (f_M_waves 1 h)))
set_option maxRecDepth 100000 in
set_option maxHeartbeats 400000 in
theorem f_M_worth_l122_k142_t {x : zm_X} {d : Nat} (v2 : Int32) (v3 : Int32) (v4 : Int32) (v5 : Int32) (h : zm_H) (o1 : Option Value) (o6 : Option Value) (o7 : Option Value) {Q : Option Value → zm_H → Prop} {FN : Nat × Int32 × Int32 × zm_H → Prop} (hs : zSh zT0 h) (ho : f_M_worth_l122_k142_ok v2 v3 v4 v5 h) (hF : FN (f_M_worth_l122_k142 v2 v3 v4 v5 h)) (hl0 : ∀ (v4 : Int32) (v5 : Int32) (h : zm_H) (o1 : Option Value) (o6 : Option Value) (o7 : Option Value), zSh zT0 h → FN (0, v4, v5, h) → zg x (d + 3) 257 122 [some (.ref 92), o1, some (.int v2), some (.int v3), some (.int v4), some (.int v5), o6, o7] [] h Q) (hl1 : ∀ (v4 : Int32) (v5 : Int32) (h : zm_H) (o1 : Option Value) (o4 : Option Value) (o5 : Option Value) (o6 : Option Value) (o7 : Option Value), zSh zT0 h → FN (1, v4, v5, h) → zg x (d + 3) 257 190 [some (.ref 92), o1, some (.int v2), some (.int v3), o4, o5, o6, o7] [] h Q) (hl2 : ∀ (v4 : Int32) (v5 : Int32) (h : zm_H) (o1 : Option Value) (o5 : Option Value) (o6 : Option Value) (o7 : Option Value), zSh zT0 h → FN (2, v4, v5, h) → zg x (d + 3) 257 247 [some (.ref 92), o1, some (.int v2), some (.int v3), some (.int v4), o5, o6, o7] [] h Q) : zg x (d + 3) 257 142 [some (.ref 92), o1, some (.int v2), some (.int v3), some (.int v4), some (.int v5), o6, o7] [] h Q := by
  unfold f_M_worth_l122_k142 at hF
  unfold f_M_worth_l122_k142_ok at ho
  refine zg_blk zd_257 2 hs (rfl : zb x zT0 zc_257 2 (142, [some (.ref 92), o1, some (.int v2), some (.int v3), some (.int v4), some (.int v5), o6, o7], [], h) = some (144, [some (.ref 92), o1, some (.int v2), some (.int v3), some (.int v4), some (.int v5), o6, o7], [.int 1, .ref 92], h)) (fun hs => ?_)
  obtain ⟨hob, ho⟩ := ho
  refine zg_call hs zd_257 rfl rfl rfl rfl (as := [.ref 92, .int 1]) (rest := []) (en := [some (.ref 92), some (.int 1), none, none, none, none, none, none, none]) rfl rfl rfl rfl rfl ?_
  refine f_M_waves_t 1 h hs hob (fun hs => ?_)
  show zg x (d + 3) 257 147 [some (.ref 92), o1, some (.int v2), some (.int v3), some (.int v4), some (.int v5), o6, o7] [] (f_M_waves 1 h) Q
  exact f_M_worth_l122_k147_t v2 v3 v4 v5 (f_M_waves 1 h) (o1) (o6) (o7) hs ho hF hl0 hl1 hl2
theorem f_M_worth_l122_k142_w (v2 : Int32) (v3 : Int32) (v4 : Int32) (v5 : Int32) (h : zm_H) : zWr [151, 152, 153] h ((f_M_worth_l122_k142 v2 v3 v4 v5 h).2.2.2) := (zWr_tr (f_M_worth_l122_k147_w v2 v3 v4 v5 (f_M_waves 1 h)) (by decide) (zWr_tr (f_M_waves_w 1 h) (by decide) (zWr.refl _ _)))
def f_M_worth_l122_b (v2 : Int32) (v3 : Int32) (v4 : Int32) (v5 : Int32) (h : zm_H) : Nat × Int32 × Int32 × zm_H := (if ((zm_rm v2 1000) < v5) then (2, v4, v5, h) else (f_M_worth_l122_k142 v2 v3 v4 v5 (f_M_looks v5 (if (480 ≤ (zf h 92 23)) then (479 : Int32) else (zf h 92 23)) h)))
def f_M_worth_l122_b_ok (v2 : Int32) (v3 : Int32) (v4 : Int32) (v5 : Int32) (h : zm_H) : Prop := ((((zm_rm v2 1000) < v5) → True) ∧ (¬ ((zm_rm v2 1000) < v5) → (f_M_looks_ok v5 (if (480 ≤ (zf h 92 23)) then (479 : Int32) else (zf h 92 23)) h ∧ (f_M_worth_l122_k142_ok v2 v3 v4 v5 (f_M_looks v5 (if (480 ≤ (zf h 92 23)) then (479 : Int32) else (zf h 92 23)) h)))))
set_option maxRecDepth 100000 in
set_option maxHeartbeats 400000 in
theorem f_M_worth_l122_b_t {x : zm_X} {d : Nat} (v2 : Int32) (v3 : Int32) (v4 : Int32) (v5 : Int32) (h : zm_H) (o1 : Option Value) (o6 : Option Value) (o7 : Option Value) {Q : Option Value → zm_H → Prop} {FN : Nat × Int32 × Int32 × zm_H → Prop} (hs : zSh zT0 h) (ho : f_M_worth_l122_b_ok v2 v3 v4 v5 h) (hF : FN (f_M_worth_l122_b v2 v3 v4 v5 h)) (hl0 : ∀ (v4 : Int32) (v5 : Int32) (h : zm_H) (o1 : Option Value) (o6 : Option Value) (o7 : Option Value), zSh zT0 h → FN (0, v4, v5, h) → zg x (d + 3) 257 122 [some (.ref 92), o1, some (.int v2), some (.int v3), some (.int v4), some (.int v5), o6, o7] [] h Q) (hl1 : ∀ (v4 : Int32) (v5 : Int32) (h : zm_H) (o1 : Option Value) (o4 : Option Value) (o5 : Option Value) (o6 : Option Value) (o7 : Option Value), zSh zT0 h → FN (1, v4, v5, h) → zg x (d + 3) 257 190 [some (.ref 92), o1, some (.int v2), some (.int v3), o4, o5, o6, o7] [] h Q) (hl2 : ∀ (v4 : Int32) (v5 : Int32) (h : zm_H) (o1 : Option Value) (o5 : Option Value) (o6 : Option Value) (o7 : Option Value), zSh zT0 h → FN (2, v4, v5, h) → zg x (d + 3) 257 247 [some (.ref 92), o1, some (.int v2), some (.int v3), some (.int v4), o5, o6, o7] [] h Q) : zg x (d + 3) 257 122 [some (.ref 92), o1, some (.int v2), some (.int v3), some (.int v4), some (.int v5), o6, o7] [] h Q := by
  unfold f_M_worth_l122_b at hF
  unfold f_M_worth_l122_b_ok at ho
  refine zg_blk zd_257 4 hs (rfl : zb x zT0 zc_257 4 (122, [some (.ref 92), o1, some (.int v2), some (.int v3), some (.int v4), some (.int v5), o6, o7], [], h) = some (129, [some (.ref 92), o1, some (.int v2), some (.int v3), some (.int v4), some (.int v5), o6, o7], [.int (zm_rm v2 1000), .int v5], h)) (fun hs => ?_)
  refine zg_i_gt zd_257 rfl (fun (hc : ((zm_rm v2 1000) < v5)) => ?_) (fun (hc : ¬ ((zm_rm v2 1000) < v5)) => ?_)
  · have ho := ho.1 hc
    rw [if_pos hc] at hF
    exact hl2 v4 v5 h (o1) (some (.int v5)) (o6) (o7) hs hF
  · have ho := ho.2 hc
    rw [if_neg hc] at hF
    refine zg_blk zd_257 3 hs (rfl : zb x zT0 zc_257 3 (132, [some (.ref 92), o1, some (.int v2), some (.int v3), some (.int v4), some (.int v5), o6, o7], [], h) = some (136, [some (.ref 92), o1, some (.int v2), some (.int v3), some (.int v4), some (.int v5), o6, o7], [.ref 92, .int v5, .ref 92], h)) (fun hs => ?_)
    refine zg_call hs zd_257 rfl rfl rfl rfl (as := [.ref 92]) (rest := [.int v5, .ref 92]) (en := [some (.ref 92)]) rfl rfl rfl rfl rfl ?_
    refine f_M_lastKnown_t  h hs trivial ?_
    show zg x (d + 3) 257 139 [some (.ref 92), o1, some (.int v2), some (.int v3), some (.int v4), some (.int v5), o6, o7] [.int (if (480 ≤ (zf h 92 23)) then (479 : Int32) else (zf h 92 23)), .int v5, .ref 92] h Q
    obtain ⟨hob, ho⟩ := ho
    refine zg_call hs zd_257 rfl rfl rfl rfl (as := [.ref 92, .int v5, .int (if (480 ≤ (zf h 92 23)) then (479 : Int32) else (zf h 92 23))]) (rest := []) (en := [some (.ref 92), some (.int v5), some (.int (if (480 ≤ (zf h 92 23)) then (479 : Int32) else (zf h 92 23))), none, none, none]) rfl rfl rfl rfl rfl ?_
    refine f_M_looks_t v5 (if (480 ≤ (zf h 92 23)) then (479 : Int32) else (zf h 92 23)) h hs hob (fun hs => ?_)
    show zg x (d + 3) 257 142 [some (.ref 92), o1, some (.int v2), some (.int v3), some (.int v4), some (.int v5), o6, o7] [] (f_M_looks v5 (if (480 ≤ (zf h 92 23)) then (479 : Int32) else (zf h 92 23)) h) Q
    exact f_M_worth_l122_k142_t v2 v3 v4 v5 (f_M_looks v5 (if (480 ≤ (zf h 92 23)) then (479 : Int32) else (zf h 92 23)) h) (o1) (o6) (o7) hs ho hF hl0 hl1 hl2
theorem f_M_worth_l122_b_w (v2 : Int32) (v3 : Int32) (v4 : Int32) (v5 : Int32) (h : zm_H) : zWr [92, 151, 152, 153] h ((f_M_worth_l122_b v2 v3 v4 v5 h).2.2.2) := (zWr_ite (fun z : Nat × Int32 × Int32 × zm_H => z.2.2.2) (zWr.refl _ _) (zWr_tr (f_M_worth_l122_k142_w v2 v3 v4 v5 (f_M_looks v5 (if (480 ≤ (zf h 92 23)) then (479 : Int32) else (zf h 92 23)) h)) (by decide) (zWr_tr (f_M_looks_w v5 (if (480 ≤ (zf h 92 23)) then (479 : Int32) else (zf h 92 23)) h) (by decide) (zWr.refl _ _))))
def f_M_worth_l122 (v2 : Int32) (v3 : Int32) (n : Nat) (t : Int32 × Int32 × zm_H) : Nat × Int32 × Int32 × zm_H := zwh (fun t => f_M_worth_l122_b v2 v3 t.1 t.2.1 t.2.2) n t
def f_M_worth_l122_ok (v2 : Int32) (v3 : Int32) (n : Nat) (t : Int32 × Int32 × zm_H) : Prop := zwo (fun t => f_M_worth_l122_b v2 v3 t.1 t.2.1 t.2.2) (fun t => f_M_worth_l122_b_ok v2 v3 t.1 t.2.1 t.2.2) n t
theorem f_M_worth_l122_t {x : zm_X} {d : Nat} (v2 : Int32) (v3 : Int32) {Q : Option Value → zm_H → Prop} (G : Nat × Int32 × Int32 × zm_H → Prop) (hx1 : ∀ (v4 : Int32) (v5 : Int32) (h : zm_H) (o1 : Option Value) (o4 : Option Value) (o5 : Option Value) (o6 : Option Value) (o7 : Option Value), zSh zT0 h → G (1, v4, v5, h) → zg x (d + 3) 257 190 [some (.ref 92), o1, some (.int v2), some (.int v3), o4, o5, o6, o7] [] h Q) (hx2 : ∀ (v4 : Int32) (v5 : Int32) (h : zm_H) (o1 : Option Value) (o5 : Option Value) (o6 : Option Value) (o7 : Option Value), zSh zT0 h → G (2, v4, v5, h) → zg x (d + 3) 257 247 [some (.ref 92), o1, some (.int v2), some (.int v3), some (.int v4), o5, o6, o7] [] h Q) : ∀ (n : Nat) (v4 : Int32) (v5 : Int32) (h : zm_H) (o1 : Option Value) (o6 : Option Value) (o7 : Option Value), zSh zT0 h → f_M_worth_l122_ok v2 v3 n (v4, v5, h) → G (f_M_worth_l122 v2 v3 n (v4, v5, h)) → zg x (d + 3) 257 122 [some (.ref 92), o1, some (.int v2), some (.int v3), some (.int v4), some (.int v5), o6, o7] [] h Q := by
  intro n
  induction n with
  | zero => intro v4 v5 h o1 o6 o7 hs ho hG; exact ho.elim
  | succ n ih =>
    intro v4 v5 h o1 o6 o7 hs ho hG
    refine f_M_worth_l122_b_t (FN := fun r => (r.1 = 0 → f_M_worth_l122_ok v2 v3 n r.2) ∧ G (if r.1 = 0 then f_M_worth_l122 v2 v3 n r.2 else r)) v2 v3 v4 v5 h o1 o6 o7 hs ho.1 ⟨ho.2, hG⟩ ?_ ?_ ?_
    · intro v4 v5 h o1 o6 o7 hs hF
      exact ih v4 v5 h o1 o6 o7 hs (hF.1 rfl) hF.2
    · intro v4 v5 h o1 o4 o5 o6 o7 hs hF
      exact hx1 v4 v5 h o1 o4 o5 o6 o7 hs hF.2
    · intro v4 v5 h o1 o5 o6 o7 hs hF
      exact hx2 v4 v5 h o1 o5 o6 o7 hs hF.2

theorem f_M_worth_l122_w (v2 : Int32) (v3 : Int32) (n : Nat) (t : Int32 × Int32 × zm_H) : zWr [92, 151, 152, 153] (t.2.2) ((f_M_worth_l122 v2 v3 n t).2.2.2) := zWr_zwh (fun t : Int32 × Int32 × zm_H => t.2.2) (fun t => f_M_worth_l122_b_w v2 v3 t.1 t.2.1 t.2.2)
def f_M_worth_k190 (h : zm_H) : Int32 × zm_H := ((-1), h)
def f_M_worth_k190_ok (h : zm_H) : Prop := True
set_option maxRecDepth 100000 in
set_option maxHeartbeats 400000 in
theorem f_M_worth_k190_t {x : zm_X} {d : Nat} (h : zm_H) (o0 : Option Value) (o1 : Option Value) (o2 : Option Value) (z3 : Int32) (o4 : Option Value) (o5 : Option Value) (o6 : Option Value) (o7 : Option Value) {Q : Option Value → zm_H → Prop} (hs : zSh zT0 h) (ho : f_M_worth_k190_ok h) (hF : (zSh zT0 (f_M_worth_k190 h).2 → Q (some (.int (f_M_worth_k190 h).1)) (f_M_worth_k190 h).2)) : zg x (d + 3) 257 190 [o0, o1, o2, some (.int z3), o4, o5, o6, o7] [] h Q := by
  unfold f_M_worth_k190 at hF
  unfold f_M_worth_k190_ok at ho
  refine zg_blk zd_257 1 hs (rfl : zb x zT0 zc_257 1 (190, [o0, o1, o2, some (.int z3), o4, o5, o6, o7], [], h) = some (191, [o0, o1, o2, some (.int z3), o4, o5, o6, o7], [.int (-1)], h)) (fun hs => ?_)
  exact zg_ret zd_257 rfl rfl (hF hs)
theorem f_M_worth_k190_w (h : zm_H) : zWr [] h ((f_M_worth_k190 h).2) := (zWr.refl _ _)
def f_M_worth_k247 (v4 : Int32) (h : zm_H) : Int32 × zm_H := (v4, h)
def f_M_worth_k247_ok (v4 : Int32) (h : zm_H) : Prop := True
set_option maxRecDepth 100000 in
set_option maxHeartbeats 400000 in
theorem f_M_worth_k247_t {x : zm_X} {d : Nat} (v4 : Int32) (h : zm_H) (o0 : Option Value) (o1 : Option Value) (o2 : Option Value) (z3 : Int32) (o5 : Option Value) (o6 : Option Value) (o7 : Option Value) {Q : Option Value → zm_H → Prop} (hs : zSh zT0 h) (ho : f_M_worth_k247_ok v4 h) (hF : (zSh zT0 (f_M_worth_k247 v4 h).2 → Q (some (.int (f_M_worth_k247 v4 h).1)) (f_M_worth_k247 v4 h).2)) : zg x (d + 3) 257 247 [o0, o1, o2, some (.int z3), some (.int v4), o5, o6, o7] [] h Q := by
  unfold f_M_worth_k247 at hF
  unfold f_M_worth_k247_ok at ho
  refine zg_blk zd_257 1 hs (rfl : zb x zT0 zc_257 1 (247, [o0, o1, o2, some (.int z3), some (.int v4), o5, o6, o7], [], h) = some (249, [o0, o1, o2, some (.int z3), some (.int v4), o5, o6, o7], [.int v4], h)) (fun hs => ?_)
  exact zg_ret zd_257 rfl rfl (hF hs)
theorem f_M_worth_k247_w (v4 : Int32) (h : zm_H) : zWr [] h ((f_M_worth_k247 v4 h).2) := (zWr.refl _ _)
def f_M_worth_a122 (r : Nat × Int32 × Int32 × zm_H) : Int32 × zm_H := (if r.1 = 1 then (f_M_worth_k190 (r.2.2.2)) else (f_M_worth_k247 (r.2.1) (r.2.2.2)))
def f_M_worth_a122_ok (r : Nat × Int32 × Int32 × zm_H) : Prop := ((r.1 = 1 → True) ∧ (¬ r.1 = 1 → True))
theorem f_M_worth_a122_w (r : Nat × Int32 × Int32 × zm_H) : zWr [] (r.2.2.2) ((f_M_worth_a122 r).2) := (zWr_ite (fun z : Int32 × zm_H => z.2) (zWr_tr (f_M_worth_k190_w (r.2.2.2)) (by decide) (zWr.refl _ _)) (zWr_tr (f_M_worth_k247_w (r.2.1) (r.2.2.2)) (by decide) (zWr.refl _ _)))
def f_M_worth_k112 (v2 : Int32) (v3 : Int32) (h : zm_H) : Int32 × zm_H := (f_M_worth_a122 (f_M_worth_l122 v2 v3 zF (0, (v2 / 1000), h)))
def f_M_worth_k112_ok (v2 : Int32) (v3 : Int32) (h : zm_H) : Prop := (f_M_worth_l122_ok v2 v3 zF (0, (v2 / 1000), h) ∧ f_M_worth_a122_ok (f_M_worth_l122 v2 v3 zF (0, (v2 / 1000), h)))
set_option maxRecDepth 100000 in
set_option maxHeartbeats 400000 in
theorem f_M_worth_k112_t {x : zm_X} {d : Nat} (v2 : Int32) (v3 : Int32) (h : zm_H) (o1 : Option Value) (o4 : Option Value) (o5 : Option Value) (o6 : Option Value) (o7 : Option Value) {Q : Option Value → zm_H → Prop} (hs : zSh zT0 h) (ho : f_M_worth_k112_ok v2 v3 h) (hF : (zSh zT0 (f_M_worth_k112 v2 v3 h).2 → Q (some (.int (f_M_worth_k112 v2 v3 h).1)) (f_M_worth_k112 v2 v3 h).2)) : zg x (d + 3) 257 112 [some (.ref 92), o1, some (.int v2), some (.int v3), o4, o5, o6, o7] [] h Q := by
  unfold f_M_worth_k112 at hF
  unfold f_M_worth_k112_ok at ho
  refine zg_blk zd_257 6 hs (rfl : zb x zT0 zc_257 6 (112, [some (.ref 92), o1, some (.int v2), some (.int v3), o4, o5, o6, o7], [], h) = some (122, [some (.ref 92), o1, some (.int v2), some (.int v3), some (.int 0), some (.int (v2 / 1000)), o6, o7], [], h)) (fun hs => ?_)
  refine f_M_worth_l122_t v2 v3 (fun r => f_M_worth_a122_ok r ∧ (zSh zT0 (f_M_worth_a122 r).2 → Q (some (.int (f_M_worth_a122 r).1)) (f_M_worth_a122 r).2)) ?_ ?_ zF 0 (v2 / 1000) h (o1) (o6) (o7) hs ho.1 ⟨ho.2, hF⟩
  · intro v4_ v5_ h_ o1_ o4_ o5_ o6_ o7_ hs hG
    have ho : True := trivial
    have hF : (zSh zT0 ((f_M_worth_k190 h_)).2 → Q (some (.int ((f_M_worth_k190 h_)).1)) ((f_M_worth_k190 h_)).2) := hG.2
    exact f_M_worth_k190_t h_ (some (.ref 92)) (o1_) (some (.int v2)) v3 (o4_) (o5_) (o6_) (o7_) hs trivial hF
  · intro v4_ v5_ h_ o1_ o5_ o6_ o7_ hs hG
    have ho : True := trivial
    have hF : (zSh zT0 ((f_M_worth_k247 v4_ h_)).2 → Q (some (.int ((f_M_worth_k247 v4_ h_)).1)) ((f_M_worth_k247 v4_ h_)).2) := hG.2
    exact f_M_worth_k247_t v4_ h_ (some (.ref 92)) (o1_) (some (.int v2)) v3 (o5_) (o6_) (o7_) hs trivial hF
theorem f_M_worth_k112_w (v2 : Int32) (v3 : Int32) (h : zm_H) : zWr [92, 151, 152, 153] h ((f_M_worth_k112 v2 v3 h).2) := (zWr_tr (f_M_worth_a122_w (f_M_worth_l122 v2 v3 zF (0, (v2 / 1000), h))) (by decide) (zWr_tr (f_M_worth_l122_w v2 v3 zF (0, (v2 / 1000), h)) (by decide) (zWr.refl _ _)))
def f_M_worth_a62 (v2 : Int32) (v3 : Int32) (r : Nat × Int32 × zm_H) : Int32 × zm_H := (f_M_worth_k112 v2 v3 (r.2.2))
def f_M_worth_a62_ok (v2 : Int32) (v3 : Int32) (r : Nat × Int32 × zm_H) : Prop := (f_M_worth_k112_ok v2 v3 (r.2.2))
theorem f_M_worth_a62_w (v2 : Int32) (v3 : Int32) (r : Nat × Int32 × zm_H) : zWr [92, 151, 152, 153] (r.2.2) ((f_M_worth_a62 v2 v3 r).2) := (zWr_tr (f_M_worth_k112_w v2 v3 (r.2.2)) (by decide) (zWr.refl _ _))
def f_M_worth_k59 (v1 : Int32) (v2 : Int32) (v3 : Int32) (h : zm_H) : Int32 × zm_H := (f_M_worth_a62 v2 v3 (f_M_worth_l62 v1 v2 v3 zF (0, h)))
def f_M_worth_k59_ok (v1 : Int32) (v2 : Int32) (v3 : Int32) (h : zm_H) : Prop := (f_M_worth_l62_ok v1 v2 v3 zF (0, h) ∧ f_M_worth_a62_ok v2 v3 (f_M_worth_l62 v1 v2 v3 zF (0, h)))
set_option maxRecDepth 100000 in
set_option maxHeartbeats 400000 in
theorem f_M_worth_k59_t {x : zm_X} {d : Nat} (v1 : Int32) (v2 : Int32) (v3 : Int32) (h : zm_H) (o4 : Option Value) (o5 : Option Value) (o6 : Option Value) (o7 : Option Value) {Q : Option Value → zm_H → Prop} (hs : zSh zT0 h) (ho : f_M_worth_k59_ok v1 v2 v3 h) (hF : (zSh zT0 (f_M_worth_k59 v1 v2 v3 h).2 → Q (some (.int (f_M_worth_k59 v1 v2 v3 h).1)) (f_M_worth_k59 v1 v2 v3 h).2)) : zg x (d + 3) 257 59 [some (.ref 92), some (.int v1), some (.int v2), some (.int v3), o4, o5, o6, o7] [] h Q := by
  unfold f_M_worth_k59 at hF
  unfold f_M_worth_k59_ok at ho
  refine zg_blk zd_257 2 hs (rfl : zb x zT0 zc_257 2 (59, [some (.ref 92), some (.int v1), some (.int v2), some (.int v3), o4, o5, o6, o7], [], h) = some (62, [some (.ref 92), some (.int v1), some (.int v2), some (.int v3), some (.int 0), o5, o6, o7], [], h)) (fun hs => ?_)
  refine f_M_worth_l62_t v1 v2 v3 (fun r => f_M_worth_a62_ok v2 v3 r ∧ (zSh zT0 (f_M_worth_a62 v2 v3 r).2 → Q (some (.int (f_M_worth_a62 v2 v3 r).1)) (f_M_worth_a62 v2 v3 r).2)) ?_ zF 0 h (o5) (o6) (o7) hs ho.1 ⟨ho.2, hF⟩
  · intro v4_ h_ o4_ o5_ o6_ o7_ hs hG
    have ho : (f_M_worth_k112_ok v2 v3 h_) := hG.1
    have hF : (zSh zT0 ((f_M_worth_k112 v2 v3 h_)).2 → Q (some (.int ((f_M_worth_k112 v2 v3 h_)).1)) ((f_M_worth_k112 v2 v3 h_)).2) := hG.2
    exact f_M_worth_k112_t v2 v3 h_ (some (.int v1)) (o4_) (o5_) (o6_) (o7_) hs ho hF
theorem f_M_worth_k59_w (v1 : Int32) (v2 : Int32) (v3 : Int32) (h : zm_H) : zWr [92, 123, 124, 151, 152, 153] h ((f_M_worth_k59 v1 v2 v3 h).2) := (zWr_tr (f_M_worth_a62_w v2 v3 (f_M_worth_l62 v1 v2 v3 zF (0, h))) (by decide) (zWr_tr (f_M_worth_l62_w v1 v2 v3 zF (0, h)) (by decide) (zWr.refl _ _)))
def f_M_worth_a3 (v1 : Int32) (v2 : Int32) (v3 : Int32) (r : Nat × Int32 × zm_H) : Int32 × zm_H := (f_M_worth_k59 v1 v2 v3 (r.2.2))
def f_M_worth_a3_ok (v1 : Int32) (v2 : Int32) (v3 : Int32) (r : Nat × Int32 × zm_H) : Prop := (f_M_worth_k59_ok v1 v2 v3 (r.2.2))
theorem f_M_worth_a3_w (v1 : Int32) (v2 : Int32) (v3 : Int32) (r : Nat × Int32 × zm_H) : zWr [92, 123, 124, 151, 152, 153] (r.2.2) ((f_M_worth_a3 v1 v2 v3 r).2) := (zWr_tr (f_M_worth_k59_w v1 v2 v3 (r.2.2)) (by decide) (zWr.refl _ _))
def f_M_worth (p1 : Int32) (p2 : Int32) (p3 : Int32) (h : zm_H) : Int32 × zm_H := (f_M_worth_a3 p1 p2 p3 (f_M_worth_l3 p1 p2 p3 zF (0, h)))
def f_M_worth_ok (p1 : Int32) (p2 : Int32) (p3 : Int32) (h : zm_H) : Prop := (f_M_worth_l3_ok p1 p2 p3 zF (0, h) ∧ f_M_worth_a3_ok p1 p2 p3 (f_M_worth_l3 p1 p2 p3 zF (0, h)))
set_option maxRecDepth 100000 in
set_option maxHeartbeats 400000 in
theorem f_M_worth_t {x : zm_X} {d : Nat} (p1 : Int32) (p2 : Int32) (p3 : Int32) (h : zm_H) {Q : Option Value → zm_H → Prop} (hs : zSh zT0 h) (ho : f_M_worth_ok p1 p2 p3 h) (hF : (zSh zT0 (f_M_worth p1 p2 p3 h).2 → Q (some (.int (f_M_worth p1 p2 p3 h).1)) (f_M_worth p1 p2 p3 h).2)) : zg x (d + 3) 257 0 [some (.ref 92), some (.int p1), some (.int p2), some (.int p3), none, none, none, none] [] h Q := by
  unfold f_M_worth at hF
  unfold f_M_worth_ok at ho
  refine zg_blk zd_257 2 hs (rfl : zb x zT0 zc_257 2 (0, [some (.ref 92), some (.int p1), some (.int p2), some (.int p3), none, none, none, none], [], h) = some (3, [some (.ref 92), some (.int p1), some (.int p2), some (.int p3), some (.int 0), none, none, none], [], h)) (fun hs => ?_)
  refine f_M_worth_l3_t p1 p2 p3 (fun r => f_M_worth_a3_ok p1 p2 p3 r ∧ (zSh zT0 (f_M_worth_a3 p1 p2 p3 r).2 → Q (some (.int (f_M_worth_a3 p1 p2 p3 r).1)) (f_M_worth_a3 p1 p2 p3 r).2)) ?_ zF 0 h (none) (none) (none) hs ho.1 ⟨ho.2, hF⟩
  · intro v4_ h_ o4_ o5_ o6_ o7_ hs hG
    have ho : (f_M_worth_k59_ok p1 p2 p3 h_) := hG.1
    have hF : (zSh zT0 ((f_M_worth_k59 p1 p2 p3 h_)).2 → Q (some (.int ((f_M_worth_k59 p1 p2 p3 h_)).1)) ((f_M_worth_k59 p1 p2 p3 h_)).2) := hG.2
    exact f_M_worth_k59_t p1 p2 p3 h_ (o4_) (o5_) (o6_) (o7_) hs ho hF
theorem f_M_worth_w (p1 : Int32) (p2 : Int32) (p3 : Int32) (h : zm_H) : zWr [92, 123, 124, 151, 152, 153] h ((f_M_worth p1 p2 p3 h).2) := (zWr_tr (f_M_worth_a3_w p1 p2 p3 (f_M_worth_l3 p1 p2 p3 zF (0, h))) (by decide) (zWr_tr (f_M_worth_l3_w p1 p2 p3 zF (0, h)) (by decide) (zWr.refl _ _)))
def f_M_laying_l230_k389 (v2 : Int32) (v3 : Int32) (v4 : Int32) (v5 : Int32) (v7 : Int32) (v8 : Int32) (v9 : Int32) (v11 : Int32) (w0 : Int32) (h : zm_H) : Nat × Int32 × Int32 × zm_H := (f_M_laying_l230_k393 v2 v3 v4 v5 v7 v8 v9 v11 w0 h)
def f_M_laying_l230_k389_ok (v2 : Int32) (v3 : Int32) (v4 : Int32) (v5 : Int32) (v7 : Int32) (v8 : Int32) (v9 : Int32) (v11 : Int32) (w0 : Int32) (h : zm_H) : Prop := (f_M_laying_l230_k393_ok v2 v3 v4 v5 v7 v8 v9 v11 w0 h)
set_option maxRecDepth 100000 in
set_option maxHeartbeats 400000 in
theorem f_M_laying_l230_k389_t {x : zm_X} {d : Nat} (v2 : Int32) (v3 : Int32) (v4 : Int32) (v5 : Int32) (v7 : Int32) (v8 : Int32) (v9 : Int32) (v11 : Int32) (w0 : Int32) (h : zm_H) (o1 : Option Value) (o6 : Option Value) (o10 : Option Value) (o12 : Option Value) (o13 : Option Value) {Q : Option Value → zm_H → Prop} {FN : Nat × Int32 × Int32 × zm_H → Prop} (hs : zSh zT0 h) (ho : f_M_laying_l230_k389_ok v2 v3 v4 v5 v7 v8 v9 v11 w0 h) (hF : FN (f_M_laying_l230_k389 v2 v3 v4 v5 v7 v8 v9 v11 w0 h)) (hl0 : ∀ (v8 : Int32) (v9 : Int32) (h : zm_H) (o1 : Option Value) (o6 : Option Value) (o10 : Option Value) (o11 : Option Value) (o12 : Option Value) (o13 : Option Value), zSh zT0 h → FN (0, v8, v9, h) → zg x (d + 4) 256 230 [some (.ref 92), o1, some (.int v2), some (.int v3), some (.int v4), some (.int v5), o6, some (.int v7), some (.int v8), some (.int v9), o10, o11, o12, o13] [] h Q) (hl1 : ∀ (v8 : Int32) (v9 : Int32) (h : zm_H) (o1 : Option Value) (o6 : Option Value) (o9 : Option Value) (o10 : Option Value) (o11 : Option Value) (o12 : Option Value) (o13 : Option Value), zSh zT0 h → FN (1, v8, v9, h) → zg x (d + 4) 256 444 [some (.ref 92), o1, some (.int v2), some (.int v3), some (.int v4), some (.int v5), o6, some (.int v7), some (.int v8), o9, o10, o11, o12, o13] [] h Q) : zg x (d + 4) 256 389 [some (.ref 92), o1, some (.int v2), some (.int v3), some (.int v4), some (.int v5), o6, some (.int v7), some (.int v8), some (.int v9), o10, some (.int v11), o12, o13] [.int w0] h Q := by
  unfold f_M_laying_l230_k389 at hF
  unfold f_M_laying_l230_k389_ok at ho
  refine zg_blk zd_256 1 hs (rfl : zb x zT0 zc_256 1 (389, [some (.ref 92), o1, some (.int v2), some (.int v3), some (.int v4), some (.int v5), o6, some (.int v7), some (.int v8), some (.int v9), o10, some (.int v11), o12, o13], [.int w0], h) = some (393, [some (.ref 92), o1, some (.int v2), some (.int v3), some (.int v4), some (.int v5), o6, some (.int v7), some (.int v8), some (.int v9), o10, some (.int v11), o12, o13], [.int w0], h)) (fun hs => ?_)
  exact f_M_laying_l230_k393_t v2 v3 v4 v5 v7 v8 v9 v11 w0 h (o1) (o6) (o10) (o12) (o13) hs ho hF hl0 hl1
theorem f_M_laying_l230_k389_w (v2 : Int32) (v3 : Int32) (v4 : Int32) (v5 : Int32) (v7 : Int32) (v8 : Int32) (v9 : Int32) (v11 : Int32) (w0 : Int32) (h : zm_H) : zWr [161] h ((f_M_laying_l230_k389 v2 v3 v4 v5 v7 v8 v9 v11 w0 h).2.2.2) := (zWr_tr (f_M_laying_l230_k393_w v2 v3 v4 v5 v7 v8 v9 v11 w0 h) (by decide) (zWr.refl _ _))
def f_M_laying_l230_k376 (v2 : Int32) (v3 : Int32) (v4 : Int32) (v5 : Int32) (v7 : Int32) (v8 : Int32) (v9 : Int32) (v11 : Int32) (h : zm_H) : Nat × Int32 × Int32 × zm_H := (if (v11 = 0) then (f_M_laying_l230_k393 v2 v3 v4 v5 v7 v8 v9 v11 (-1) h) else (f_M_laying_l230_k389 v2 v3 v4 v5 v7 v8 v9 v11 (f_M_worth v2 v3 v4 h).1 (f_M_worth v2 v3 v4 h).2))
def f_M_laying_l230_k376_ok (v2 : Int32) (v3 : Int32) (v4 : Int32) (v5 : Int32) (v7 : Int32) (v8 : Int32) (v9 : Int32) (v11 : Int32) (h : zm_H) : Prop := (((v11 = 0) → (f_M_laying_l230_k393_ok v2 v3 v4 v5 v7 v8 v9 v11 (-1) h)) ∧ (¬ (v11 = 0) → (f_M_worth_ok v2 v3 v4 h ∧ (f_M_laying_l230_k389_ok v2 v3 v4 v5 v7 v8 v9 v11 (f_M_worth v2 v3 v4 h).1 (f_M_worth v2 v3 v4 h).2))))
set_option maxRecDepth 100000 in
set_option maxHeartbeats 400000 in
theorem f_M_laying_l230_k376_t {x : zm_X} {d : Nat} (v2 : Int32) (v3 : Int32) (v4 : Int32) (v5 : Int32) (v7 : Int32) (v8 : Int32) (v9 : Int32) (v11 : Int32) (h : zm_H) (o1 : Option Value) (o6 : Option Value) (o10 : Option Value) (o12 : Option Value) (o13 : Option Value) {Q : Option Value → zm_H → Prop} {FN : Nat × Int32 × Int32 × zm_H → Prop} (hs : zSh zT0 h) (ho : f_M_laying_l230_k376_ok v2 v3 v4 v5 v7 v8 v9 v11 h) (hF : FN (f_M_laying_l230_k376 v2 v3 v4 v5 v7 v8 v9 v11 h)) (hl0 : ∀ (v8 : Int32) (v9 : Int32) (h : zm_H) (o1 : Option Value) (o6 : Option Value) (o10 : Option Value) (o11 : Option Value) (o12 : Option Value) (o13 : Option Value), zSh zT0 h → FN (0, v8, v9, h) → zg x (d + 4) 256 230 [some (.ref 92), o1, some (.int v2), some (.int v3), some (.int v4), some (.int v5), o6, some (.int v7), some (.int v8), some (.int v9), o10, o11, o12, o13] [] h Q) (hl1 : ∀ (v8 : Int32) (v9 : Int32) (h : zm_H) (o1 : Option Value) (o6 : Option Value) (o9 : Option Value) (o10 : Option Value) (o11 : Option Value) (o12 : Option Value) (o13 : Option Value), zSh zT0 h → FN (1, v8, v9, h) → zg x (d + 4) 256 444 [some (.ref 92), o1, some (.int v2), some (.int v3), some (.int v4), some (.int v5), o6, some (.int v7), some (.int v8), o9, o10, o11, o12, o13] [] h Q) : zg x (d + 4) 256 376 [some (.ref 92), o1, some (.int v2), some (.int v3), some (.int v4), some (.int v5), o6, some (.int v7), some (.int v8), some (.int v9), o10, some (.int v11), o12, o13] [] h Q := by
  unfold f_M_laying_l230_k376 at hF
  unfold f_M_laying_l230_k376_ok at ho
  refine zg_blk zd_256 1 hs (rfl : zb x zT0 zc_256 1 (376, [some (.ref 92), o1, some (.int v2), some (.int v3), some (.int v4), some (.int v5), o6, some (.int v7), some (.int v8), some (.int v9), o10, some (.int v11), o12, o13], [], h) = some (378, [some (.ref 92), o1, some (.int v2), some (.int v3), some (.int v4), some (.int v5), o6, some (.int v7), some (.int v8), some (.int v9), o10, some (.int v11), o12, o13], [.int v11], h)) (fun hs => ?_)
  refine zg_f_eq zd_256 rfl (fun (hc : (v11 = 0)) => ?_) (fun (hc : ¬ (v11 = 0)) => ?_)
  · have ho := ho.1 hc
    rw [if_pos hc] at hF
    refine zg_blk zd_256 1 hs (rfl : zb x zT0 zc_256 1 (392, [some (.ref 92), o1, some (.int v2), some (.int v3), some (.int v4), some (.int v5), o6, some (.int v7), some (.int v8), some (.int v9), o10, some (.int v11), o12, o13], [], h) = some (393, [some (.ref 92), o1, some (.int v2), some (.int v3), some (.int v4), some (.int v5), o6, some (.int v7), some (.int v8), some (.int v9), o10, some (.int v11), o12, o13], [.int (-1)], h)) (fun hs => ?_)
    exact f_M_laying_l230_k393_t v2 v3 v4 v5 v7 v8 v9 v11 (-1) h (o1) (o6) (o10) (o12) (o13) hs ho hF hl0 hl1
  · have ho := ho.2 hc
    rw [if_neg hc] at hF
    refine zg_blk zd_256 4 hs (rfl : zb x zT0 zc_256 4 (381, [some (.ref 92), o1, some (.int v2), some (.int v3), some (.int v4), some (.int v5), o6, some (.int v7), some (.int v8), some (.int v9), o10, some (.int v11), o12, o13], [], h) = some (386, [some (.ref 92), o1, some (.int v2), some (.int v3), some (.int v4), some (.int v5), o6, some (.int v7), some (.int v8), some (.int v9), o10, some (.int v11), o12, o13], [.int v4, .int v3, .int v2, .ref 92], h)) (fun hs => ?_)
    obtain ⟨hob, ho⟩ := ho
    refine zg_call hs zd_256 rfl rfl rfl rfl (as := [.ref 92, .int v2, .int v3, .int v4]) (rest := []) (en := [some (.ref 92), some (.int v2), some (.int v3), some (.int v4), none, none, none, none]) rfl rfl rfl rfl rfl ?_
    refine f_M_worth_t v2 v3 v4 h hs hob (fun hs => ?_)
    show zg x (d + 4) 256 389 [some (.ref 92), o1, some (.int v2), some (.int v3), some (.int v4), some (.int v5), o6, some (.int v7), some (.int v8), some (.int v9), o10, some (.int v11), o12, o13] [.int (f_M_worth v2 v3 v4 h).1] (f_M_worth v2 v3 v4 h).2 Q
    exact f_M_laying_l230_k389_t v2 v3 v4 v5 v7 v8 v9 v11 (f_M_worth v2 v3 v4 h).1 (f_M_worth v2 v3 v4 h).2 (o1) (o6) (o10) (o12) (o13) hs ho hF hl0 hl1
theorem f_M_laying_l230_k376_w (v2 : Int32) (v3 : Int32) (v4 : Int32) (v5 : Int32) (v7 : Int32) (v8 : Int32) (v9 : Int32) (v11 : Int32) (h : zm_H) : zWr [92, 123, 124, 151, 152, 153, 161] h ((f_M_laying_l230_k376 v2 v3 v4 v5 v7 v8 v9 v11 h).2.2.2) := (zWr_ite (fun z : Nat × Int32 × Int32 × zm_H => z.2.2.2) (zWr_tr (f_M_laying_l230_k393_w v2 v3 v4 v5 v7 v8 v9 v11 (-1) h) (by decide) (zWr.refl _ _)) (zWr_tr (f_M_laying_l230_k389_w v2 v3 v4 v5 v7 v8 v9 v11 (f_M_worth v2 v3 v4 h).1 (f_M_worth v2 v3 v4 h).2) (by decide) (zWr_tr (f_M_worth_w v2 v3 v4 h) (by decide) (zWr.refl _ _))))
def f_M_laying_l230_a249 (v2 : Int32) (v3 : Int32) (v4 : Int32) (v5 : Int32) (v7 : Int32) (v8 : Int32) (v9 : Int32) (r : Nat × Int32 × Int32 × Int32 × zm_H) : Nat × Int32 × Int32 × zm_H := (f_M_laying_l230_k376 v2 v3 v4 v5 v7 v8 v9 (r.2.2.1) (r.2.2.2.2))
def f_M_laying_l230_a249_ok (v2 : Int32) (v3 : Int32) (v4 : Int32) (v5 : Int32) (v7 : Int32) (v8 : Int32) (v9 : Int32) (r : Nat × Int32 × Int32 × Int32 × zm_H) : Prop := (f_M_laying_l230_k376_ok v2 v3 v4 v5 v7 v8 v9 (r.2.2.1) (r.2.2.2.2))
theorem f_M_laying_l230_a249_w (v2 : Int32) (v3 : Int32) (v4 : Int32) (v5 : Int32) (v7 : Int32) (v8 : Int32) (v9 : Int32) (r : Nat × Int32 × Int32 × Int32 × zm_H) : zWr [92, 123, 124, 151, 152, 153, 161] (r.2.2.2.2) ((f_M_laying_l230_a249 v2 v3 v4 v5 v7 v8 v9 r).2.2.2) := (zWr_tr (f_M_laying_l230_k376_w v2 v3 v4 v5 v7 v8 v9 (r.2.2.1) (r.2.2.2.2)) (by decide) (zWr.refl _ _))
def f_M_laying_l230_b (v2 : Int32) (v3 : Int32) (v4 : Int32) (v5 : Int32) (v7 : Int32) (v8 : Int32) (v9 : Int32) (h : zm_H) : Nat × Int32 × Int32 × zm_H := (if (v7 ≤ v9) then (1, v8, v9, h) else (f_M_laying_l230_a249 v2 v3 v4 v5 v7 v8 v9 (f_M_laying_l230_l249 v2 v3 v4 v5 v7 v8 v9 zF (v9, 1, (v2 - 1), h))))
def f_M_laying_l230_b_ok (v2 : Int32) (v3 : Int32) (v4 : Int32) (v5 : Int32) (v7 : Int32) (v8 : Int32) (v9 : Int32) (h : zm_H) : Prop := (((v7 ≤ v9) → True) ∧ (¬ (v7 ≤ v9) → (f_M_laying_l230_l249_ok v2 v3 v4 v5 v7 v8 v9 zF (v9, 1, (v2 - 1), h) ∧ f_M_laying_l230_a249_ok v2 v3 v4 v5 v7 v8 v9 (f_M_laying_l230_l249 v2 v3 v4 v5 v7 v8 v9 zF (v9, 1, (v2 - 1), h)))))
set_option maxRecDepth 100000 in
set_option maxHeartbeats 400000 in
theorem f_M_laying_l230_b_t {x : zm_X} {d : Nat} (v2 : Int32) (v3 : Int32) (v4 : Int32) (v5 : Int32) (v7 : Int32) (v8 : Int32) (v9 : Int32) (h : zm_H) (o1 : Option Value) (o6 : Option Value) (o10 : Option Value) (o11 : Option Value) (o12 : Option Value) (o13 : Option Value) {Q : Option Value → zm_H → Prop} {FN : Nat × Int32 × Int32 × zm_H → Prop} (hs : zSh zT0 h) (ho : f_M_laying_l230_b_ok v2 v3 v4 v5 v7 v8 v9 h) (hF : FN (f_M_laying_l230_b v2 v3 v4 v5 v7 v8 v9 h)) (hl0 : ∀ (v8 : Int32) (v9 : Int32) (h : zm_H) (o1 : Option Value) (o6 : Option Value) (o10 : Option Value) (o11 : Option Value) (o12 : Option Value) (o13 : Option Value), zSh zT0 h → FN (0, v8, v9, h) → zg x (d + 4) 256 230 [some (.ref 92), o1, some (.int v2), some (.int v3), some (.int v4), some (.int v5), o6, some (.int v7), some (.int v8), some (.int v9), o10, o11, o12, o13] [] h Q) (hl1 : ∀ (v8 : Int32) (v9 : Int32) (h : zm_H) (o1 : Option Value) (o6 : Option Value) (o9 : Option Value) (o10 : Option Value) (o11 : Option Value) (o12 : Option Value) (o13 : Option Value), zSh zT0 h → FN (1, v8, v9, h) → zg x (d + 4) 256 444 [some (.ref 92), o1, some (.int v2), some (.int v3), some (.int v4), some (.int v5), o6, some (.int v7), some (.int v8), o9, o10, o11, o12, o13] [] h Q) : zg x (d + 4) 256 230 [some (.ref 92), o1, some (.int v2), some (.int v3), some (.int v4), some (.int v5), o6, some (.int v7), some (.int v8), some (.int v9), o10, o11, o12, o13] [] h Q := by
  unfold f_M_laying_l230_b at hF
  unfold f_M_laying_l230_b_ok at ho
  refine zg_blk zd_256 2 hs (rfl : zb x zT0 zc_256 2 (230, [some (.ref 92), o1, some (.int v2), some (.int v3), some (.int v4), some (.int v5), o6, some (.int v7), some (.int v8), some (.int v9), o10, o11, o12, o13], [], h) = some (234, [some (.ref 92), o1, some (.int v2), some (.int v3), some (.int v4), some (.int v5), o6, some (.int v7), some (.int v8), some (.int v9), o10, o11, o12, o13], [.int v7, .int v9], h)) (fun hs => ?_)
  refine zg_i_ge zd_256 rfl (fun (hc : (v7 ≤ v9)) => ?_) (fun (hc : ¬ (v7 ≤ v9)) => ?_)
  · have ho := ho.1 hc
    rw [if_pos hc] at hF
    exact hl1 v8 v9 h (o1) (o6) (some (.int v9)) (o10) (o11) (o12) (o13) hs hF
  · have ho := ho.2 hc
    rw [if_neg hc] at hF
    refine zg_blk zd_256 8 hs (rfl : zb x zT0 zc_256 8 (237, [some (.ref 92), o1, some (.int v2), some (.int v3), some (.int v4), some (.int v5), o6, some (.int v7), some (.int v8), some (.int v9), o10, o11, o12, o13], [], h) = some (249, [some (.ref 92), o1, some (.int v2), some (.int v3), some (.int v4), some (.int v5), o6, some (.int v7), some (.int v8), some (.int v9), some (.int v9), some (.int 1), some (.int (v2 - 1)), o13], [], h)) (fun hs => ?_)
    refine f_M_laying_l230_l249_t v2 v3 v4 v5 v7 v8 v9 (fun r => f_M_laying_l230_a249_ok v2 v3 v4 v5 v7 v8 v9 r ∧ FN (f_M_laying_l230_a249 v2 v3 v4 v5 v7 v8 v9 r)) ?_ zF v9 1 (v2 - 1) h (o1) (o6) (o13) hs ho.1 ⟨ho.2, hF⟩
    · intro v10_ v11_ v12_ h_ o1_ o6_ o10_ o12_ o13_ hs hG
      have ho : (f_M_laying_l230_k376_ok v2 v3 v4 v5 v7 v8 v9 v11_ h_) := hG.1
      have hF : FN ((f_M_laying_l230_k376 v2 v3 v4 v5 v7 v8 v9 v11_ h_)) := hG.2
      exact f_M_laying_l230_k376_t v2 v3 v4 v5 v7 v8 v9 v11_ h_ (o1_) (o6_) (o10_) (o12_) (o13_) hs ho hF hl0 hl1
theorem f_M_laying_l230_b_w (v2 : Int32) (v3 : Int32) (v4 : Int32) (v5 : Int32) (v7 : Int32) (v8 : Int32) (v9 : Int32) (h : zm_H) : zWr [92, 123, 124, 151, 152, 153, 160, 161] h ((f_M_laying_l230_b v2 v3 v4 v5 v7 v8 v9 h).2.2.2) := (zWr_ite (fun z : Nat × Int32 × Int32 × zm_H => z.2.2.2) (zWr.refl _ _) (zWr_tr (f_M_laying_l230_a249_w v2 v3 v4 v5 v7 v8 v9 (f_M_laying_l230_l249 v2 v3 v4 v5 v7 v8 v9 zF (v9, 1, (v2 - 1), h))) (by decide) (zWr_tr (f_M_laying_l230_l249_w v2 v3 v4 v5 v7 v8 v9 zF (v9, 1, (v2 - 1), h)) (by decide) (zWr.refl _ _))))
def f_M_laying_l230 (v2 : Int32) (v3 : Int32) (v4 : Int32) (v5 : Int32) (v7 : Int32) (n : Nat) (t : Int32 × Int32 × zm_H) : Nat × Int32 × Int32 × zm_H := zwh (fun t => f_M_laying_l230_b v2 v3 v4 v5 v7 t.1 t.2.1 t.2.2) n t
def f_M_laying_l230_ok (v2 : Int32) (v3 : Int32) (v4 : Int32) (v5 : Int32) (v7 : Int32) (n : Nat) (t : Int32 × Int32 × zm_H) : Prop := zwo (fun t => f_M_laying_l230_b v2 v3 v4 v5 v7 t.1 t.2.1 t.2.2) (fun t => f_M_laying_l230_b_ok v2 v3 v4 v5 v7 t.1 t.2.1 t.2.2) n t
theorem f_M_laying_l230_t {x : zm_X} {d : Nat} (v2 : Int32) (v3 : Int32) (v4 : Int32) (v5 : Int32) (v7 : Int32) {Q : Option Value → zm_H → Prop} (G : Nat × Int32 × Int32 × zm_H → Prop) (hx1 : ∀ (v8 : Int32) (v9 : Int32) (h : zm_H) (o1 : Option Value) (o6 : Option Value) (o9 : Option Value) (o10 : Option Value) (o11 : Option Value) (o12 : Option Value) (o13 : Option Value), zSh zT0 h → G (1, v8, v9, h) → zg x (d + 4) 256 444 [some (.ref 92), o1, some (.int v2), some (.int v3), some (.int v4), some (.int v5), o6, some (.int v7), some (.int v8), o9, o10, o11, o12, o13] [] h Q) : ∀ (n : Nat) (v8 : Int32) (v9 : Int32) (h : zm_H) (o1 : Option Value) (o6 : Option Value) (o10 : Option Value) (o11 : Option Value) (o12 : Option Value) (o13 : Option Value), zSh zT0 h → f_M_laying_l230_ok v2 v3 v4 v5 v7 n (v8, v9, h) → G (f_M_laying_l230 v2 v3 v4 v5 v7 n (v8, v9, h)) → zg x (d + 4) 256 230 [some (.ref 92), o1, some (.int v2), some (.int v3), some (.int v4), some (.int v5), o6, some (.int v7), some (.int v8), some (.int v9), o10, o11, o12, o13] [] h Q := by
  intro n
  induction n with
  | zero => intro v8 v9 h o1 o6 o10 o11 o12 o13 hs ho hG; exact ho.elim
  | succ n ih =>
    intro v8 v9 h o1 o6 o10 o11 o12 o13 hs ho hG
    refine f_M_laying_l230_b_t (FN := fun r => (r.1 = 0 → f_M_laying_l230_ok v2 v3 v4 v5 v7 n r.2) ∧ G (if r.1 = 0 then f_M_laying_l230 v2 v3 v4 v5 v7 n r.2 else r)) v2 v3 v4 v5 v7 v8 v9 h o1 o6 o10 o11 o12 o13 hs ho.1 ⟨ho.2, hG⟩ ?_ ?_
    · intro v8 v9 h o1 o6 o10 o11 o12 o13 hs hF
      exact ih v8 v9 h o1 o6 o10 o11 o12 o13 hs (hF.1 rfl) hF.2
    · intro v8 v9 h o1 o6 o9 o10 o11 o12 o13 hs hF
      exact hx1 v8 v9 h o1 o6 o9 o10 o11 o12 o13 hs hF.2

theorem f_M_laying_l230_w (v2 : Int32) (v3 : Int32) (v4 : Int32) (v5 : Int32) (v7 : Int32) (n : Nat) (t : Int32 × Int32 × zm_H) : zWr [92, 123, 124, 151, 152, 153, 160, 161] (t.2.2) ((f_M_laying_l230 v2 v3 v4 v5 v7 n t).2.2.2) := zWr_zwh (fun t : Int32 × Int32 × zm_H => t.2.2) (fun t => f_M_laying_l230_b_w v2 v3 v4 v5 v7 t.1 t.2.1 t.2.2)
def f_M_laying_k444 (v5 : Int32) (v8 : Int32) (h : zm_H) : Int32 × zm_H := ((if (v8 = (-1)) then ((-1) : Int32) else (if (v5 = (-1)) then (v8 : Int32) else (zr h 161 v5))), h)
def f_M_laying_k444_ok (v5 : Int32) (v8 : Int32) (h : zm_H) : Prop := (((v8 = (-1)) → True) ∧ (¬ (v8 = (-1)) → (((v5 = (-1)) → True) ∧ (¬ (v5 = (-1)) → vp_in v5 3))))
set_option maxRecDepth 100000 in
set_option maxHeartbeats 400000 in
theorem f_M_laying_k444_t {x : zm_X} {d : Nat} (v5 : Int32) (v8 : Int32) (h : zm_H) (o1 : Option Value) (o2 : Option Value) (o3 : Option Value) (o4 : Option Value) (o6 : Option Value) (o7 : Option Value) (o9 : Option Value) (o10 : Option Value) (o11 : Option Value) (o12 : Option Value) (o13 : Option Value) {Q : Option Value → zm_H → Prop} (hs : zSh zT0 h) (ho : f_M_laying_k444_ok v5 v8 h) (hF : (zSh zT0 (f_M_laying_k444 v5 v8 h).2 → Q (some (.int (f_M_laying_k444 v5 v8 h).1)) (f_M_laying_k444 v5 v8 h).2)) : zg x (d + 4) 256 444 [some (.ref 92), o1, o2, o3, o4, some (.int v5), o6, o7, some (.int v8), o9, o10, o11, o12, o13] [] h Q := by
  unfold f_M_laying_k444 at hF
  unfold f_M_laying_k444_ok at ho
  refine zg_blk zd_256 2 hs (rfl : zb x zT0 zc_256 2 (444, [some (.ref 92), o1, o2, o3, o4, some (.int v5), o6, o7, some (.int v8), o9, o10, o11, o12, o13], [], h) = some (447, [some (.ref 92), o1, o2, o3, o4, some (.int v5), o6, o7, some (.int v8), o9, o10, o11, o12, o13], [.int (-1), .int v8], h)) (fun hs => ?_)
  have hom := ho
  have K177 : zSh zT0 h → zg x (d + 4) 256 472 [some (.ref 92), o1, o2, o3, o4, some (.int v5), o6, o7, some (.int v8), o9, o10, o11, o12, o13] [.int (if (v8 = (-1)) then ((-1) : Int32) else (if (v5 = (-1)) then (v8 : Int32) else (zr h 161 v5)))] h Q := fun hs => by
    exact zg_ret zd_256 rfl rfl (hF hs)
  refine zg_i_ne zd_256 rfl (fun (hc : ¬ (v8 = (-1))) => ?_) (fun (hc : (v8 = (-1))) => ?_)
  · have ho := hom.2 hc
    rw [show ((if (v8 = (-1)) then ((-1) : Int32) else (if (v5 = (-1)) then (v8 : Int32) else (zr h 161 v5))) : Int32) = (if (v5 = (-1)) then (v8 : Int32) else (zr h 161 v5)) from if_neg hc] at K177
    refine zg_blk zd_256 2 hs (rfl : zb x zT0 zc_256 2 (454, [some (.ref 92), o1, o2, o3, o4, some (.int v5), o6, o7, some (.int v8), o9, o10, o11, o12, o13], [], h) = some (457, [some (.ref 92), o1, o2, o3, o4, some (.int v5), o6, o7, some (.int v8), o9, o10, o11, o12, o13], [.int (-1), .int v5], h)) (fun hs => ?_)
    refine zg_i_ne zd_256 rfl (fun (hc : ¬ (v5 = (-1))) => ?_) (fun (hc : (v5 = (-1))) => ?_)
    · have ho := ho.2 hc
      rw [show ((if (v5 = (-1)) then (v8 : Int32) else (zr h 161 v5)) : Int32) = (zr h 161 v5) from if_neg hc] at K177
      refine zg_blk zd_256 3 hs (rfl : zb x zT0 zc_256 3 (465, [some (.ref 92), o1, o2, o3, o4, some (.int v5), o6, o7, some (.int v8), o9, o10, o11, o12, o13], [], h) = some (471, [some (.ref 92), o1, o2, o3, o4, some (.int v5), o6, o7, some (.int v8), o9, o10, o11, o12, o13], [.int v5, .ref 161], h)) (fun hs => ?_)
      have hob := ho
      refine zg_ial hs zd_256 rfl rfl hob ?_
      exact K177 hs
    · have ho := ho.1 hc
      rw [show ((if (v5 = (-1)) then (v8 : Int32) else (zr h 161 v5)) : Int32) = v8 from if_pos hc] at K177
      refine zg_blk zd_256 2 hs (rfl : zb x zT0 zc_256 2 (460, [some (.ref 92), o1, o2, o3, o4, some (.int v5), o6, o7, some (.int v8), o9, o10, o11, o12, o13], [], h) = some (472, [some (.ref 92), o1, o2, o3, o4, some (.int v5), o6, o7, some (.int v8), o9, o10, o11, o12, o13], [.int v8], h)) (fun hs => ?_)
      exact K177 hs
  · have ho := hom.1 hc
    rw [show ((if (v8 = (-1)) then ((-1) : Int32) else (if (v5 = (-1)) then (v8 : Int32) else (zr h 161 v5))) : Int32) = (-1) from if_pos hc] at K177
    refine zg_blk zd_256 2 hs (rfl : zb x zT0 zc_256 2 (450, [some (.ref 92), o1, o2, o3, o4, some (.int v5), o6, o7, some (.int v8), o9, o10, o11, o12, o13], [], h) = some (472, [some (.ref 92), o1, o2, o3, o4, some (.int v5), o6, o7, some (.int v8), o9, o10, o11, o12, o13], [.int (-1)], h)) (fun hs => ?_)
    exact K177 hs
theorem f_M_laying_k444_w (v5 : Int32) (v8 : Int32) (h : zm_H) : zWr [] h ((f_M_laying_k444 v5 v8 h).2) := (zWr.refl _ _)
def f_M_laying_a230 (v5 : Int32) (r : Nat × Int32 × Int32 × zm_H) : Int32 × zm_H := (f_M_laying_k444 v5 (r.2.1) (r.2.2.2))
def f_M_laying_a230_ok (v5 : Int32) (r : Nat × Int32 × Int32 × zm_H) : Prop := (f_M_laying_k444_ok v5 (r.2.1) (r.2.2.2))
theorem f_M_laying_a230_w (v5 : Int32) (r : Nat × Int32 × Int32 × zm_H) : zWr [] (r.2.2.2) ((f_M_laying_a230 v5 r).2) := (zWr_tr (f_M_laying_k444_w v5 (r.2.1) (r.2.2.2)) (by decide) (zWr.refl _ _))
def f_M_laying_k224 (v2 : Int32) (v3 : Int32) (v4 : Int32) (v5 : Int32) (v7 : Int32) (h : zm_H) : Int32 × zm_H := (f_M_laying_a230 v5 (f_M_laying_l230 v2 v3 v4 v5 v7 zF ((-1), 0, h)))
def f_M_laying_k224_ok (v2 : Int32) (v3 : Int32) (v4 : Int32) (v5 : Int32) (v7 : Int32) (h : zm_H) : Prop := (f_M_laying_l230_ok v2 v3 v4 v5 v7 zF ((-1), 0, h) ∧ f_M_laying_a230_ok v5 (f_M_laying_l230 v2 v3 v4 v5 v7 zF ((-1), 0, h)))
set_option maxRecDepth 100000 in
set_option maxHeartbeats 400000 in
theorem f_M_laying_k224_t {x : zm_X} {d : Nat} (v2 : Int32) (v3 : Int32) (v4 : Int32) (v5 : Int32) (v7 : Int32) (h : zm_H) (o1 : Option Value) (o6 : Option Value) (o8 : Option Value) (o9 : Option Value) (o10 : Option Value) (o11 : Option Value) (o12 : Option Value) (o13 : Option Value) {Q : Option Value → zm_H → Prop} (hs : zSh zT0 h) (ho : f_M_laying_k224_ok v2 v3 v4 v5 v7 h) (hF : (zSh zT0 (f_M_laying_k224 v2 v3 v4 v5 v7 h).2 → Q (some (.int (f_M_laying_k224 v2 v3 v4 v5 v7 h).1)) (f_M_laying_k224 v2 v3 v4 v5 v7 h).2)) : zg x (d + 4) 256 224 [some (.ref 92), o1, some (.int v2), some (.int v3), some (.int v4), some (.int v5), o6, some (.int v7), o8, o9, o10, o11, o12, o13] [] h Q := by
  unfold f_M_laying_k224 at hF
  unfold f_M_laying_k224_ok at ho
  refine zg_blk zd_256 4 hs (rfl : zb x zT0 zc_256 4 (224, [some (.ref 92), o1, some (.int v2), some (.int v3), some (.int v4), some (.int v5), o6, some (.int v7), o8, o9, o10, o11, o12, o13], [], h) = some (230, [some (.ref 92), o1, some (.int v2), some (.int v3), some (.int v4), some (.int v5), o6, some (.int v7), some (.int (-1)), some (.int 0), o10, o11, o12, o13], [], h)) (fun hs => ?_)
  refine f_M_laying_l230_t v2 v3 v4 v5 v7 (fun r => f_M_laying_a230_ok v5 r ∧ (zSh zT0 (f_M_laying_a230 v5 r).2 → Q (some (.int (f_M_laying_a230 v5 r).1)) (f_M_laying_a230 v5 r).2)) ?_ zF (-1) 0 h (o1) (o6) (o10) (o11) (o12) (o13) hs ho.1 ⟨ho.2, hF⟩
  · intro v8_ v9_ h_ o1_ o6_ o9_ o10_ o11_ o12_ o13_ hs hG
    have ho : (f_M_laying_k444_ok v5 v8_ h_) := hG.1
    have hF : (zSh zT0 ((f_M_laying_k444 v5 v8_ h_)).2 → Q (some (.int ((f_M_laying_k444 v5 v8_ h_)).1)) ((f_M_laying_k444 v5 v8_ h_)).2) := hG.2
    exact f_M_laying_k444_t v5 v8_ h_ (o1_) (some (.int v2)) (some (.int v3)) (some (.int v4)) (o6_) (some (.int v7)) (o9_) (o10_) (o11_) (o12_) (o13_) hs ho hF
theorem f_M_laying_k224_w (v2 : Int32) (v3 : Int32) (v4 : Int32) (v5 : Int32) (v7 : Int32) (h : zm_H) : zWr [92, 123, 124, 151, 152, 153, 160, 161] h ((f_M_laying_k224 v2 v3 v4 v5 v7 h).2) := (zWr_tr (f_M_laying_a230_w v5 (f_M_laying_l230 v2 v3 v4 v5 v7 zF ((-1), 0, h))) (by decide) (zWr_tr (f_M_laying_l230_w v2 v3 v4 v5 v7 zF ((-1), 0, h)) (by decide) (zWr.refl _ _)))
def f_M_laying_a203 (v2 : Int32) (v3 : Int32) (v4 : Int32) (v5 : Int32) (r : Nat × Int32 × Int32) (h : zm_H) : Int32 × zm_H := (f_M_laying_k224 v2 v3 v4 v5 (r.2.1) h)
def f_M_laying_a203_ok (v2 : Int32) (v3 : Int32) (v4 : Int32) (v5 : Int32) (r : Nat × Int32 × Int32) (h : zm_H) : Prop := (f_M_laying_k224_ok v2 v3 v4 v5 (r.2.1) h)
theorem f_M_laying_a203_w (v2 : Int32) (v3 : Int32) (v4 : Int32) (v5 : Int32) (r : Nat × Int32 × Int32) (h : zm_H) : zWr [92, 123, 124, 151, 152, 153, 160, 161] h ((f_M_laying_a203 v2 v3 v4 v5 r h).2) := (zWr_tr (f_M_laying_k224_w v2 v3 v4 v5 (r.2.1) h) (by decide) (zWr.refl _ _))
def f_M_laying_k190 (v2 : Int32) (v3 : Int32) (v4 : Int32) (v5 : Int32) (v6 : Int32) (h : zm_H) : Int32 × zm_H := (if (v6 ≤ 0) then (f_M_laying_a203 v2 v3 v4 v5 (f_M_laying_l203 v2 v3 v4 v5 v6 h zF (1, 0)) h) else ((-1), h))
def f_M_laying_k190_ok (v2 : Int32) (v3 : Int32) (v4 : Int32) (v5 : Int32) (v6 : Int32) (h : zm_H) : Prop := (((v6 ≤ 0) → (f_M_laying_l203_ok v2 v3 v4 v5 v6 h zF (1, 0) ∧ f_M_laying_a203_ok v2 v3 v4 v5 (f_M_laying_l203 v2 v3 v4 v5 v6 h zF (1, 0)) h)) ∧ (¬ (v6 ≤ 0) → True))
set_option maxRecDepth 100000 in
set_option maxHeartbeats 400000 in
theorem f_M_laying_k190_t {x : zm_X} {d : Nat} (v2 : Int32) (v3 : Int32) (v4 : Int32) (v5 : Int32) (v6 : Int32) (h : zm_H) (o1 : Option Value) (o7 : Option Value) (o8 : Option Value) (o9 : Option Value) (o10 : Option Value) (o11 : Option Value) (o12 : Option Value) (o13 : Option Value) {Q : Option Value → zm_H → Prop} (hs : zSh zT0 h) (ho : f_M_laying_k190_ok v2 v3 v4 v5 v6 h) (hF : (zSh zT0 (f_M_laying_k190 v2 v3 v4 v5 v6 h).2 → Q (some (.int (f_M_laying_k190 v2 v3 v4 v5 v6 h).1)) (f_M_laying_k190 v2 v3 v4 v5 v6 h).2)) : zg x (d + 4) 256 190 [some (.ref 92), o1, some (.int v2), some (.int v3), some (.int v4), some (.int v5), some (.int v6), o7, o8, o9, o10, o11, o12, o13] [] h Q := by
  unfold f_M_laying_k190 at hF
  unfold f_M_laying_k190_ok at ho
  refine zg_blk zd_256 1 hs (rfl : zb x zT0 zc_256 1 (190, [some (.ref 92), o1, some (.int v2), some (.int v3), some (.int v4), some (.int v5), some (.int v6), o7, o8, o9, o10, o11, o12, o13], [], h) = some (192, [some (.ref 92), o1, some (.int v2), some (.int v3), some (.int v4), some (.int v5), some (.int v6), o7, o8, o9, o10, o11, o12, o13], [.int v6], h)) (fun hs => ?_)
  refine zg_f_le zd_256 rfl (fun (hc : (v6 ≤ 0)) => ?_) (fun (hc : ¬ (v6 ≤ 0)) => ?_)
  · have ho := ho.1 hc
    rw [if_pos hc] at hF
    refine zg_blk zd_256 4 hs (rfl : zb x zT0 zc_256 4 (197, [some (.ref 92), o1, some (.int v2), some (.int v3), some (.int v4), some (.int v5), some (.int v6), o7, o8, o9, o10, o11, o12, o13], [], h) = some (203, [some (.ref 92), o1, some (.int v2), some (.int v3), some (.int v4), some (.int v5), some (.int v6), some (.int 1), some (.int 0), o9, o10, o11, o12, o13], [], h)) (fun hs => ?_)
    refine f_M_laying_l203_t v2 v3 v4 v5 v6 h (fun r => f_M_laying_a203_ok v2 v3 v4 v5 r h ∧ (zSh zT0 (f_M_laying_a203 v2 v3 v4 v5 r h).2 → Q (some (.int (f_M_laying_a203 v2 v3 v4 v5 r h).1)) (f_M_laying_a203 v2 v3 v4 v5 r h).2)) ?_ zF 1 0 (o1) (o9) (o10) (o11) (o12) (o13) hs ho.1 ⟨ho.2, hF⟩
    · intro v7_ v8_ o1_ o8_ o9_ o10_ o11_ o12_ o13_ hs hG
      have ho : (f_M_laying_k224_ok v2 v3 v4 v5 v7_ h) := hG.1
      have hF : (zSh zT0 ((f_M_laying_k224 v2 v3 v4 v5 v7_ h)).2 → Q (some (.int ((f_M_laying_k224 v2 v3 v4 v5 v7_ h)).1)) ((f_M_laying_k224 v2 v3 v4 v5 v7_ h)).2) := hG.2
      exact f_M_laying_k224_t v2 v3 v4 v5 v7_ h (o1_) (some (.int v6)) (o8_) (o9_) (o10_) (o11_) (o12_) (o13_) hs ho hF
  · have ho := ho.2 hc
    rw [if_neg hc] at hF
    refine zg_blk zd_256 1 hs (rfl : zb x zT0 zc_256 1 (195, [some (.ref 92), o1, some (.int v2), some (.int v3), some (.int v4), some (.int v5), some (.int v6), o7, o8, o9, o10, o11, o12, o13], [], h) = some (196, [some (.ref 92), o1, some (.int v2), some (.int v3), some (.int v4), some (.int v5), some (.int v6), o7, o8, o9, o10, o11, o12, o13], [.int (-1)], h)) (fun hs => ?_)
    exact zg_ret zd_256 rfl rfl (hF hs)
theorem f_M_laying_k190_w (v2 : Int32) (v3 : Int32) (v4 : Int32) (v5 : Int32) (v6 : Int32) (h : zm_H) : zWr [92, 123, 124, 151, 152, 153, 160, 161] h ((f_M_laying_k190 v2 v3 v4 v5 v6 h).2) := (zWr_ite (fun z : Int32 × zm_H => z.2) (zWr_tr (f_M_laying_a203_w v2 v3 v4 v5 (f_M_laying_l203 v2 v3 v4 v5 v6 h zF (1, 0)) h) (by decide) (zWr.refl _ _)) (zWr.refl _ _))
def f_M_laying_a92 (v2 : Int32) (v3 : Int32) (v4 : Int32) (v5 : Int32) (r : Nat × Int32 × Int32 × zm_H) : Int32 × zm_H := (if r.1 = 1 then (f_M_laying_k145 (r.2.2.2)) else (if r.1 = 2 then (f_M_laying_k176 (r.2.2.2)) else (f_M_laying_k190 v2 v3 v4 v5 (r.2.1) (r.2.2.2))))
def f_M_laying_a92_ok (v2 : Int32) (v3 : Int32) (v4 : Int32) (v5 : Int32) (r : Nat × Int32 × Int32 × zm_H) : Prop := ((r.1 = 1 → True) ∧ (¬ r.1 = 1 → ((r.1 = 2 → True) ∧ (¬ r.1 = 2 → (f_M_laying_k190_ok v2 v3 v4 v5 (r.2.1) (r.2.2.2))))))
theorem f_M_laying_a92_w (v2 : Int32) (v3 : Int32) (v4 : Int32) (v5 : Int32) (r : Nat × Int32 × Int32 × zm_H) : zWr [92, 123, 124, 151, 152, 153, 160, 161] (r.2.2.2) ((f_M_laying_a92 v2 v3 v4 v5 r).2) := (zWr_ite (fun z : Int32 × zm_H => z.2) (zWr_tr (f_M_laying_k145_w (r.2.2.2)) (by decide) (zWr.refl _ _)) (zWr_ite (fun z : Int32 × zm_H => z.2) (zWr_tr (f_M_laying_k176_w (r.2.2.2)) (by decide) (zWr.refl _ _)) (zWr_tr (f_M_laying_k190_w v2 v3 v4 v5 (r.2.1) (r.2.2.2)) (by decide) (zWr.refl _ _))))
def f_M_laying (p1 : Int32) (p2 : Int32) (p3 : Int32) (p4 : Int32) (p5 : Int32) (h : zm_H) : Int32 × zm_H := (if (p1 < 0) then ((-1), h) else (if (¬ (p2 < 1) ∧ (¬ (3 < p2))) then (if (p3 < 0) then ((-1), h) else (if (¬ ((p3 / 1000) < 0) ∧ (¬ (479 < (p3 / 1000)))) then (if (¬ ((zm_rm p3 1000) < 0) ∧ (¬ (479 < (zm_rm p3 1000)))) then (if (¬ (((zm_rm p3 1000) - (p3 / 1000)) < 0) ∧ (¬ (23 < ((zm_rm p3 1000) - (p3 / 1000))))) then (if (¬ (p4 < 0) ∧ (¬ (100 < p4))) then (if (¬ (p5 < (-1)) ∧ (¬ ((p2 - 1) < p5))) then (f_M_laying_a92 p2 p3 p4 p5 (f_M_laying_l92 p2 p3 p4 p5 zF (p1, (p2 - 1), h))) else ((-1), h)) else ((-1), h)) else ((-1), h)) else ((-1), h)) else ((-1), h))) else ((-1), h)))
def f_M_laying_ok (p1 : Int32) (p2 : Int32) (p3 : Int32) (p4 : Int32) (p5 : Int32) (h : zm_H) : Prop := (((p1 < 0) → True) ∧ (¬ (p1 < 0) → (((¬ (p2 < 1) ∧ (¬ (3 < p2))) → (((p3 < 0) → True) ∧ (¬ (p3 < 0) → (((¬ ((p3 / 1000) < 0) ∧ (¬ (479 < (p3 / 1000)))) → (((¬ ((zm_rm p3 1000) < 0) ∧ (¬ (479 < (zm_rm p3 1000)))) → (((¬ (((zm_rm p3 1000) - (p3 / 1000)) < 0) ∧ (¬ (23 < ((zm_rm p3 1000) - (p3 / 1000))))) → (((¬ (p4 < 0) ∧ (¬ (100 < p4))) → (((¬ (p5 < (-1)) ∧ (¬ ((p2 - 1) < p5))) → (f_M_laying_l92_ok p2 p3 p4 p5 zF (p1, (p2 - 1), h) ∧ f_M_laying_a92_ok p2 p3 p4 p5 (f_M_laying_l92 p2 p3 p4 p5 zF (p1, (p2 - 1), h)))) ∧ (¬ (¬ (p5 < (-1)) ∧ (¬ ((p2 - 1) < p5))) → True))) ∧ (¬ (¬ (p4 < 0) ∧ (¬ (100 < p4))) → True))) ∧ (¬ (¬ (((zm_rm p3 1000) - (p3 / 1000)) < 0) ∧ (¬ (23 < ((zm_rm p3 1000) - (p3 / 1000))))) → True))) ∧ (¬ (¬ ((zm_rm p3 1000) < 0) ∧ (¬ (479 < (zm_rm p3 1000)))) → True))) ∧ (¬ (¬ ((p3 / 1000) < 0) ∧ (¬ (479 < (p3 / 1000)))) → True))))) ∧ (¬ (¬ (p2 < 1) ∧ (¬ (3 < p2))) → True))))
set_option maxRecDepth 100000 in
set_option maxHeartbeats 400000 in
theorem f_M_laying_t {x : zm_X} {d : Nat} (p1 : Int32) (p2 : Int32) (p3 : Int32) (p4 : Int32) (p5 : Int32) (h : zm_H) {Q : Option Value → zm_H → Prop} (hs : zSh zT0 h) (ho : f_M_laying_ok p1 p2 p3 p4 p5 h) (hF : (zSh zT0 (f_M_laying p1 p2 p3 p4 p5 h).2 → Q (some (.int (f_M_laying p1 p2 p3 p4 p5 h).1)) (f_M_laying p1 p2 p3 p4 p5 h).2)) : zg x (d + 4) 256 0 [some (.ref 92), some (.int p1), some (.int p2), some (.int p3), some (.int p4), some (.int p5), none, none, none, none, none, none, none, none] [] h Q := by
  unfold f_M_laying at hF
  unfold f_M_laying_ok at ho
  refine zg_blk zd_256 1 hs (rfl : zb x zT0 zc_256 1 (0, [some (.ref 92), some (.int p1), some (.int p2), some (.int p3), some (.int p4), some (.int p5), none, none, none, none, none, none, none, none], [], h) = some (1, [some (.ref 92), some (.int p1), some (.int p2), some (.int p3), some (.int p4), some (.int p5), none, none, none, none, none, none, none, none], [.int p1], h)) (fun hs => ?_)
  refine zg_f_lt zd_256 rfl (fun (hc : (p1 < 0)) => ?_) (fun (hc : ¬ (p1 < 0)) => ?_)
  · have ho := ho.1 hc
    rw [if_pos hc] at hF
    refine zg_blk zd_256 1 hs (rfl : zb x zT0 zc_256 1 (82, [some (.ref 92), some (.int p1), some (.int p2), some (.int p3), some (.int p4), some (.int p5), none, none, none, none, none, none, none, none], [], h) = some (83, [some (.ref 92), some (.int p1), some (.int p2), some (.int p3), some (.int p4), some (.int p5), none, none, none, none, none, none, none, none], [.int (-1)], h)) (fun hs => ?_)
    exact zg_ret zd_256 rfl rfl (hF hs)
  · have ho := ho.2 hc
    rw [if_neg hc] at hF
    refine zg_blk zd_256 3 hs (rfl : zb x zT0 zc_256 3 (4, [some (.ref 92), some (.int p1), some (.int p2), some (.int p3), some (.int p4), some (.int p5), none, none, none, none, none, none, none, none], [], h) = some (7, [some (.ref 92), some (.int p1), some (.int p2), some (.int p3), some (.int p4), some (.int p5), none, none, none, none, none, none, none, none], [.int 3, .int 1, .int p2], h)) (fun hs => ?_)
    refine zg_call hs zd_256 rfl rfl rfl rfl (as := [.int p2, .int 1, .int 3]) (rest := []) (en := [some (.int p2), some (.int 1), some (.int 3)]) rfl rfl rfl rfl rfl ?_
    refine f_M_in_t p2 1 3 h hs trivial ?_
    show zg x (d + 4) 256 10 [some (.ref 92), some (.int p1), some (.int p2), some (.int p3), some (.int p4), some (.int p5), none, none, none, none, none, none, none, none] [.int (if (¬ (p2 < 1) ∧ (¬ (3 < p2))) then (1 : Int32) else 0)] h Q
    refine zg_b_eq zd_256 rfl (fun (hc : ¬ (¬ (p2 < 1) ∧ (¬ (3 < p2)))) => ?_) (fun (hc : (¬ (p2 < 1) ∧ (¬ (3 < p2)))) => ?_)
    · have ho := ho.2 hc
      rw [if_neg hc] at hF
      refine zg_blk zd_256 1 hs (rfl : zb x zT0 zc_256 1 (82, [some (.ref 92), some (.int p1), some (.int p2), some (.int p3), some (.int p4), some (.int p5), none, none, none, none, none, none, none, none], [], h) = some (83, [some (.ref 92), some (.int p1), some (.int p2), some (.int p3), some (.int p4), some (.int p5), none, none, none, none, none, none, none, none], [.int (-1)], h)) (fun hs => ?_)
      exact zg_ret zd_256 rfl rfl (hF hs)
    · have ho := ho.1 hc
      rw [if_pos hc] at hF
      refine zg_blk zd_256 1 hs (rfl : zb x zT0 zc_256 1 (13, [some (.ref 92), some (.int p1), some (.int p2), some (.int p3), some (.int p4), some (.int p5), none, none, none, none, none, none, none, none], [], h) = some (14, [some (.ref 92), some (.int p1), some (.int p2), some (.int p3), some (.int p4), some (.int p5), none, none, none, none, none, none, none, none], [.int p3], h)) (fun hs => ?_)
      refine zg_f_lt zd_256 rfl (fun (hc : (p3 < 0)) => ?_) (fun (hc : ¬ (p3 < 0)) => ?_)
      · have ho := ho.1 hc
        rw [if_pos hc] at hF
        refine zg_blk zd_256 1 hs (rfl : zb x zT0 zc_256 1 (82, [some (.ref 92), some (.int p1), some (.int p2), some (.int p3), some (.int p4), some (.int p5), none, none, none, none, none, none, none, none], [], h) = some (83, [some (.ref 92), some (.int p1), some (.int p2), some (.int p3), some (.int p4), some (.int p5), none, none, none, none, none, none, none, none], [.int (-1)], h)) (fun hs => ?_)
        exact zg_ret zd_256 rfl rfl (hF hs)
      · have ho := ho.2 hc
        rw [if_neg hc] at hF
        refine zg_blk zd_256 3 hs (rfl : zb x zT0 zc_256 3 (17, [some (.ref 92), some (.int p1), some (.int p2), some (.int p3), some (.int p4), some (.int p5), none, none, none, none, none, none, none, none], [], h) = some (22, [some (.ref 92), some (.int p1), some (.int p2), some (.int p3), some (.int p4), some (.int p5), none, none, none, none, none, none, none, none], [.int (p3 / 1000)], h)) (fun hs => ?_)
        refine zg_call hs zd_256 rfl rfl rfl rfl (as := [.int (p3 / 1000)]) (rest := []) (en := [some (.int (p3 / 1000))]) rfl rfl rfl rfl rfl ?_
        refine f_M_isSpell_t (p3 / 1000) h hs trivial ?_
        show zg x (d + 4) 256 25 [some (.ref 92), some (.int p1), some (.int p2), some (.int p3), some (.int p4), some (.int p5), none, none, none, none, none, none, none, none] [.int (if (¬ ((p3 / 1000) < 0) ∧ (¬ (479 < (p3 / 1000)))) then (1 : Int32) else 0)] h Q
        refine zg_b_eq zd_256 rfl (fun (hc : ¬ (¬ ((p3 / 1000) < 0) ∧ (¬ (479 < (p3 / 1000))))) => ?_) (fun (hc : (¬ ((p3 / 1000) < 0) ∧ (¬ (479 < (p3 / 1000))))) => ?_)
        · have ho := ho.2 hc
          rw [if_neg hc] at hF
          refine zg_blk zd_256 1 hs (rfl : zb x zT0 zc_256 1 (82, [some (.ref 92), some (.int p1), some (.int p2), some (.int p3), some (.int p4), some (.int p5), none, none, none, none, none, none, none, none], [], h) = some (83, [some (.ref 92), some (.int p1), some (.int p2), some (.int p3), some (.int p4), some (.int p5), none, none, none, none, none, none, none, none], [.int (-1)], h)) (fun hs => ?_)
          exact zg_ret zd_256 rfl rfl (hF hs)
        · have ho := ho.1 hc
          rw [if_pos hc] at hF
          refine zg_blk zd_256 3 hs (rfl : zb x zT0 zc_256 3 (28, [some (.ref 92), some (.int p1), some (.int p2), some (.int p3), some (.int p4), some (.int p5), none, none, none, none, none, none, none, none], [], h) = some (33, [some (.ref 92), some (.int p1), some (.int p2), some (.int p3), some (.int p4), some (.int p5), none, none, none, none, none, none, none, none], [.int (zm_rm p3 1000)], h)) (fun hs => ?_)
          refine zg_call hs zd_256 rfl rfl rfl rfl (as := [.int (zm_rm p3 1000)]) (rest := []) (en := [some (.int (zm_rm p3 1000))]) rfl rfl rfl rfl rfl ?_
          refine f_M_isSpell_t (zm_rm p3 1000) h hs trivial ?_
          show zg x (d + 4) 256 36 [some (.ref 92), some (.int p1), some (.int p2), some (.int p3), some (.int p4), some (.int p5), none, none, none, none, none, none, none, none] [.int (if (¬ ((zm_rm p3 1000) < 0) ∧ (¬ (479 < (zm_rm p3 1000)))) then (1 : Int32) else 0)] h Q
          refine zg_b_eq zd_256 rfl (fun (hc : ¬ (¬ ((zm_rm p3 1000) < 0) ∧ (¬ (479 < (zm_rm p3 1000))))) => ?_) (fun (hc : (¬ ((zm_rm p3 1000) < 0) ∧ (¬ (479 < (zm_rm p3 1000))))) => ?_)
          · have ho := ho.2 hc
            rw [if_neg hc] at hF
            refine zg_blk zd_256 1 hs (rfl : zb x zT0 zc_256 1 (82, [some (.ref 92), some (.int p1), some (.int p2), some (.int p3), some (.int p4), some (.int p5), none, none, none, none, none, none, none, none], [], h) = some (83, [some (.ref 92), some (.int p1), some (.int p2), some (.int p3), some (.int p4), some (.int p5), none, none, none, none, none, none, none, none], [.int (-1)], h)) (fun hs => ?_)
            exact zg_ret zd_256 rfl rfl (hF hs)
          · have ho := ho.1 hc
            rw [if_pos hc] at hF
            refine zg_blk zd_256 9 hs (rfl : zb x zT0 zc_256 9 (39, [some (.ref 92), some (.int p1), some (.int p2), some (.int p3), some (.int p4), some (.int p5), none, none, none, none, none, none, none, none], [], h) = some (53, [some (.ref 92), some (.int p1), some (.int p2), some (.int p3), some (.int p4), some (.int p5), none, none, none, none, none, none, none, none], [.int 23, .int 0, .int ((zm_rm p3 1000) - (p3 / 1000))], h)) (fun hs => ?_)
            refine zg_call hs zd_256 rfl rfl rfl rfl (as := [.int ((zm_rm p3 1000) - (p3 / 1000)), .int 0, .int 23]) (rest := []) (en := [some (.int ((zm_rm p3 1000) - (p3 / 1000))), some (.int 0), some (.int 23)]) rfl rfl rfl rfl rfl ?_
            refine f_M_in_t ((zm_rm p3 1000) - (p3 / 1000)) 0 23 h hs trivial ?_
            show zg x (d + 4) 256 56 [some (.ref 92), some (.int p1), some (.int p2), some (.int p3), some (.int p4), some (.int p5), none, none, none, none, none, none, none, none] [.int (if (¬ (((zm_rm p3 1000) - (p3 / 1000)) < 0) ∧ (¬ (23 < ((zm_rm p3 1000) - (p3 / 1000))))) then (1 : Int32) else 0)] h Q
            refine zg_b_eq zd_256 rfl (fun (hc : ¬ (¬ (((zm_rm p3 1000) - (p3 / 1000)) < 0) ∧ (¬ (23 < ((zm_rm p3 1000) - (p3 / 1000)))))) => ?_) (fun (hc : (¬ (((zm_rm p3 1000) - (p3 / 1000)) < 0) ∧ (¬ (23 < ((zm_rm p3 1000) - (p3 / 1000)))))) => ?_)
            · have ho := ho.2 hc
              rw [if_neg hc] at hF
              refine zg_blk zd_256 1 hs (rfl : zb x zT0 zc_256 1 (82, [some (.ref 92), some (.int p1), some (.int p2), some (.int p3), some (.int p4), some (.int p5), none, none, none, none, none, none, none, none], [], h) = some (83, [some (.ref 92), some (.int p1), some (.int p2), some (.int p3), some (.int p4), some (.int p5), none, none, none, none, none, none, none, none], [.int (-1)], h)) (fun hs => ?_)
              exact zg_ret zd_256 rfl rfl (hF hs)
            · have ho := ho.1 hc
              rw [if_pos hc] at hF
              refine zg_blk zd_256 3 hs (rfl : zb x zT0 zc_256 3 (59, [some (.ref 92), some (.int p1), some (.int p2), some (.int p3), some (.int p4), some (.int p5), none, none, none, none, none, none, none, none], [], h) = some (64, [some (.ref 92), some (.int p1), some (.int p2), some (.int p3), some (.int p4), some (.int p5), none, none, none, none, none, none, none, none], [.int 100, .int 0, .int p4], h)) (fun hs => ?_)
              refine zg_call hs zd_256 rfl rfl rfl rfl (as := [.int p4, .int 0, .int 100]) (rest := []) (en := [some (.int p4), some (.int 0), some (.int 100)]) rfl rfl rfl rfl rfl ?_
              refine f_M_in_t p4 0 100 h hs trivial ?_
              show zg x (d + 4) 256 67 [some (.ref 92), some (.int p1), some (.int p2), some (.int p3), some (.int p4), some (.int p5), none, none, none, none, none, none, none, none] [.int (if (¬ (p4 < 0) ∧ (¬ (100 < p4))) then (1 : Int32) else 0)] h Q
              refine zg_b_eq zd_256 rfl (fun (hc : ¬ (¬ (p4 < 0) ∧ (¬ (100 < p4)))) => ?_) (fun (hc : (¬ (p4 < 0) ∧ (¬ (100 < p4)))) => ?_)
              · have ho := ho.2 hc
                rw [if_neg hc] at hF
                refine zg_blk zd_256 1 hs (rfl : zb x zT0 zc_256 1 (82, [some (.ref 92), some (.int p1), some (.int p2), some (.int p3), some (.int p4), some (.int p5), none, none, none, none, none, none, none, none], [], h) = some (83, [some (.ref 92), some (.int p1), some (.int p2), some (.int p3), some (.int p4), some (.int p5), none, none, none, none, none, none, none, none], [.int (-1)], h)) (fun hs => ?_)
                exact zg_ret zd_256 rfl rfl (hF hs)
              · have ho := ho.1 hc
                rw [if_pos hc] at hF
                refine zg_blk zd_256 5 hs (rfl : zb x zT0 zc_256 5 (70, [some (.ref 92), some (.int p1), some (.int p2), some (.int p3), some (.int p4), some (.int p5), none, none, none, none, none, none, none, none], [], h) = some (76, [some (.ref 92), some (.int p1), some (.int p2), some (.int p3), some (.int p4), some (.int p5), none, none, none, none, none, none, none, none], [.int (p2 - 1), .int (-1), .int p5], h)) (fun hs => ?_)
                refine zg_call hs zd_256 rfl rfl rfl rfl (as := [.int p5, .int (-1), .int (p2 - 1)]) (rest := []) (en := [some (.int p5), some (.int (-1)), some (.int (p2 - 1))]) rfl rfl rfl rfl rfl ?_
                refine f_M_in_t p5 (-1) (p2 - 1) h hs trivial ?_
                show zg x (d + 4) 256 79 [some (.ref 92), some (.int p1), some (.int p2), some (.int p3), some (.int p4), some (.int p5), none, none, none, none, none, none, none, none] [.int (if (¬ (p5 < (-1)) ∧ (¬ ((p2 - 1) < p5))) then (1 : Int32) else 0)] h Q
                refine zg_b_ne zd_256 rfl (fun (hc : (¬ (p5 < (-1)) ∧ (¬ ((p2 - 1) < p5)))) => ?_) (fun (hc : ¬ (¬ (p5 < (-1)) ∧ (¬ ((p2 - 1) < p5)))) => ?_)
                · have ho := ho.1 hc
                  rw [if_pos hc] at hF
                  refine zg_blk zd_256 6 hs (rfl : zb x zT0 zc_256 6 (84, [some (.ref 92), some (.int p1), some (.int p2), some (.int p3), some (.int p4), some (.int p5), none, none, none, none, none, none, none, none], [], h) = some (92, [some (.ref 92), some (.int p1), some (.int p2), some (.int p3), some (.int p4), some (.int p5), some (.int p1), some (.int (p2 - 1)), none, none, none, none, none, none], [], h)) (fun hs => ?_)
                  refine f_M_laying_l92_t p2 p3 p4 p5 (fun r => f_M_laying_a92_ok p2 p3 p4 p5 r ∧ (zSh zT0 (f_M_laying_a92 p2 p3 p4 p5 r).2 → Q (some (.int (f_M_laying_a92 p2 p3 p4 p5 r).1)) (f_M_laying_a92 p2 p3 p4 p5 r).2)) ?_ ?_ ?_ zF p1 (p2 - 1) h (some (.int p1)) (none) (none) (none) (none) (none) (none) hs ho.1 ⟨ho.2, hF⟩
                  · intro v6_ v7_ h_ o1_ o6_ o7_ o8_ o9_ o10_ o11_ o12_ o13_ hs hG
                    have ho : True := trivial
                    have hF : (zSh zT0 ((f_M_laying_k145 h_)).2 → Q (some (.int ((f_M_laying_k145 h_)).1)) ((f_M_laying_k145 h_)).2) := hG.2
                    exact f_M_laying_k145_t h_ (some (.ref 92)) (o1_) (some (.int p2)) (some (.int p3)) (some (.int p4)) p5 (o6_) (o7_) (o8_) (o9_) (o10_) (o11_) (o12_) (o13_) hs trivial hF
                  · intro v6_ v7_ h_ o1_ o6_ o7_ o8_ o9_ o10_ o11_ o12_ o13_ hs hG
                    have ho : True := trivial
                    have hF : (zSh zT0 ((f_M_laying_k176 h_)).2 → Q (some (.int ((f_M_laying_k176 h_)).1)) ((f_M_laying_k176 h_)).2) := hG.2
                    exact f_M_laying_k176_t h_ (some (.ref 92)) (o1_) (some (.int p2)) (some (.int p3)) (some (.int p4)) p5 (o6_) (o7_) (o8_) (o9_) (o10_) (o11_) (o12_) (o13_) hs trivial hF
                  · intro v6_ v7_ h_ o1_ o7_ o8_ o9_ o10_ o11_ o12_ o13_ hs hG
                    have ho : (f_M_laying_k190_ok p2 p3 p4 p5 v6_ h_) := ((hG.1).2 (show ¬ (3 : Nat) = 1 by decide)).2 (show ¬ (3 : Nat) = 2 by decide)
                    have hF : (zSh zT0 ((f_M_laying_k190 p2 p3 p4 p5 v6_ h_)).2 → Q (some (.int ((f_M_laying_k190 p2 p3 p4 p5 v6_ h_)).1)) ((f_M_laying_k190 p2 p3 p4 p5 v6_ h_)).2) := hG.2
                    exact f_M_laying_k190_t p2 p3 p4 p5 v6_ h_ (o1_) (o7_) (o8_) (o9_) (o10_) (o11_) (o12_) (o13_) hs ho hF
                · have ho := ho.2 hc
                  rw [if_neg hc] at hF
                  refine zg_blk zd_256 1 hs (rfl : zb x zT0 zc_256 1 (82, [some (.ref 92), some (.int p1), some (.int p2), some (.int p3), some (.int p4), some (.int p5), none, none, none, none, none, none, none, none], [], h) = some (83, [some (.ref 92), some (.int p1), some (.int p2), some (.int p3), some (.int p4), some (.int p5), none, none, none, none, none, none, none, none], [.int (-1)], h)) (fun hs => ?_)
                  exact zg_ret zd_256 rfl rfl (hF hs)
theorem f_M_laying_w (p1 : Int32) (p2 : Int32) (p3 : Int32) (p4 : Int32) (p5 : Int32) (h : zm_H) : zWr [92, 123, 124, 151, 152, 153, 159, 160, 161] h ((f_M_laying p1 p2 p3 p4 p5 h).2) := (zWr_ite (fun z : Int32 × zm_H => z.2) (zWr.refl _ _) (zWr_ite (fun z : Int32 × zm_H => z.2) (zWr_ite (fun z : Int32 × zm_H => z.2) (zWr.refl _ _) (zWr_ite (fun z : Int32 × zm_H => z.2) (zWr_ite (fun z : Int32 × zm_H => z.2) (zWr_ite (fun z : Int32 × zm_H => z.2) (zWr_ite (fun z : Int32 × zm_H => z.2) (zWr_ite (fun z : Int32 × zm_H => z.2) (zWr_tr (f_M_laying_a92_w p2 p3 p4 p5 (f_M_laying_l92 p2 p3 p4 p5 zF (p1, (p2 - 1), h))) (by decide) (zWr_tr (f_M_laying_l92_w p2 p3 p4 p5 zF (p1, (p2 - 1), h)) (by decide) (zWr.refl _ _))) (zWr.refl _ _)) (zWr.refl _ _)) (zWr.refl _ _)) (zWr.refl _ _)) (zWr.refl _ _))) (zWr.refl _ _)))
