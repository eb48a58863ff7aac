/-! ===== rows: branches, arrays, calls, ends ===== -/
section ZRW
variable {x : zm_X} {T : zT} {d m : Nat} {cd : List (Nat × zm_I)} {Q : Option Value → zm_H → Prop} {pc : Nat} {ls : zm_L} {st : List Value} {h : zm_H}
theorem zg_if1 (hcd : zm_cd m = cd) {c : Jvm.ClassFile.Cond} {off : Int} {tg b : Nat} {v y : Int32} (hq : cd.lookup pc = some (3, .ifCond c off, tg, b, v)) (kt : zm_c1 c y = true → zg x d m tg ls st h Q) (kf : ¬ zm_c1 c y = true → zg x d m (pc + 3) ls st h Q) : zg x d m pc ls (.int y :: st) h Q := by
  refine zg_step1 (q := (3, .ifCond c off, tg, b, v)) (t := (if zm_c1 c y = true then tg else pc + 3, ls, st, h)) (by unfold zm_lk; rw [hcd]; exact hq) (fun _ => rfl) rfl rfl ?_
  dsimp only
  by_cases hc : zm_c1 c y = true
  · rw [if_pos hc]; exact kt hc
  · rw [if_neg hc]; exact kf hc
theorem zg_if2 (hcd : zm_cd m = cd) {c : Jvm.ClassFile.Cond} {off : Int} {tg b : Nat} {v y z : Int32} (hq : cd.lookup pc = some (3, .if_icmp c off, tg, b, v)) (kt : zm_c2 c y z = true → zg x d m tg ls st h Q) (kf : ¬ zm_c2 c y z = true → zg x d m (pc + 3) ls st h Q) : zg x d m pc ls (.int z :: .int y :: st) h Q := by
  refine zg_step1 (q := (3, .if_icmp c off, tg, b, v)) (t := (if zm_c2 c y z = true then tg else pc + 3, ls, st, h)) (by unfold zm_lk; rw [hcd]; exact hq) (fun _ => rfl) rfl rfl ?_
  dsimp only
  by_cases hc : zm_c2 c y z = true
  · rw [if_pos hc]; exact kt hc
  · rw [if_neg hc]; exact kf hc
theorem zg_f_eq (hcd : zm_cd m = cd) {off : Int} {tg b : Nat} {v y : Int32} (hq : cd.lookup pc = some (3, .ifCond .eq off, tg, b, v)) (kt : y = 0 → zg x d m tg ls st h Q) (kf : ¬ y = 0 → zg x d m (pc + 3) ls st h Q) : zg x d m pc ls (.int y :: st) h Q := zg_if1 hcd hq (fun hc => kt (of_decide_eq_true hc)) (fun hc => kf (fun z => hc (decide_eq_true z)))
theorem zg_f_ne (hcd : zm_cd m = cd) {off : Int} {tg b : Nat} {v y : Int32} (hq : cd.lookup pc = some (3, .ifCond .ne off, tg, b, v)) (kt : ¬ y = 0 → zg x d m tg ls st h Q) (kf : y = 0 → zg x d m (pc + 3) ls st h Q) : zg x d m pc ls (.int y :: st) h Q := zg_if1 hcd hq (fun hc => kt (of_decide_eq_true hc)) (fun hc => kf (Decidable.not_not.mp (fun z => hc (decide_eq_true z))))
theorem zg_f_lt (hcd : zm_cd m = cd) {off : Int} {tg b : Nat} {v y : Int32} (hq : cd.lookup pc = some (3, .ifCond .lt off, tg, b, v)) (kt : y < 0 → zg x d m tg ls st h Q) (kf : ¬ y < 0 → zg x d m (pc + 3) ls st h Q) : zg x d m pc ls (.int y :: st) h Q := zg_if1 hcd hq (fun hc => kt (of_decide_eq_true hc)) (fun hc => kf (fun z => hc (decide_eq_true z)))
theorem zg_f_ge (hcd : zm_cd m = cd) {off : Int} {tg b : Nat} {v y : Int32} (hq : cd.lookup pc = some (3, .ifCond .ge off, tg, b, v)) (kt : 0 ≤ y → zg x d m tg ls st h Q) (kf : ¬ 0 ≤ y → zg x d m (pc + 3) ls st h Q) : zg x d m pc ls (.int y :: st) h Q := zg_if1 hcd hq (fun hc => kt (of_decide_eq_true hc)) (fun hc => kf (fun z => hc (decide_eq_true z)))
theorem zg_f_gt (hcd : zm_cd m = cd) {off : Int} {tg b : Nat} {v y : Int32} (hq : cd.lookup pc = some (3, .ifCond .gt off, tg, b, v)) (kt : 0 < y → zg x d m tg ls st h Q) (kf : ¬ 0 < y → zg x d m (pc + 3) ls st h Q) : zg x d m pc ls (.int y :: st) h Q := zg_if1 hcd hq (fun hc => kt (of_decide_eq_true hc)) (fun hc => kf (fun z => hc (decide_eq_true z)))
theorem zg_f_le (hcd : zm_cd m = cd) {off : Int} {tg b : Nat} {v y : Int32} (hq : cd.lookup pc = some (3, .ifCond .le off, tg, b, v)) (kt : y ≤ 0 → zg x d m tg ls st h Q) (kf : ¬ y ≤ 0 → zg x d m (pc + 3) ls st h Q) : zg x d m pc ls (.int y :: st) h Q := zg_if1 hcd hq (fun hc => kt (of_decide_eq_true hc)) (fun hc => kf (fun z => hc (decide_eq_true z)))
theorem zg_i_eq (hcd : zm_cd m = cd) {off : Int} {tg b : Nat} {v y z : Int32} (hq : cd.lookup pc = some (3, .if_icmp .eq off, tg, b, v)) (kt : y = z → zg x d m tg ls st h Q) (kf : ¬ y = z → zg x d m (pc + 3) ls st h Q) : zg x d m pc ls (.int z :: .int y :: st) h Q := zg_if2 hcd hq (fun hc => kt (of_decide_eq_true hc)) (fun hc => kf (fun z => hc (decide_eq_true z)))
theorem zg_i_ne (hcd : zm_cd m = cd) {off : Int} {tg b : Nat} {v y z : Int32} (hq : cd.lookup pc = some (3, .if_icmp .ne off, tg, b, v)) (kt : ¬ y = z → zg x d m tg ls st h Q) (kf : y = z → zg x d m (pc + 3) ls st h Q) : zg x d m pc ls (.int z :: .int y :: st) h Q := zg_if2 hcd hq (fun hc => kt (of_decide_eq_true hc)) (fun hc => kf (Decidable.not_not.mp (fun z => hc (decide_eq_true z))))
theorem zg_i_lt (hcd : zm_cd m = cd) {off : Int} {tg b : Nat} {v y z : Int32} (hq : cd.lookup pc = some (3, .if_icmp .lt off, tg, b, v)) (kt : y < z → zg x d m tg ls st h Q) (kf : ¬ y < z → zg x d m (pc + 3) ls st h Q) : zg x d m pc ls (.int z :: .int y :: st) h Q := zg_if2 hcd hq (fun hc => kt (of_decide_eq_true hc)) (fun hc => kf (fun z => hc (decide_eq_true z)))
theorem zg_i_ge (hcd : zm_cd m = cd) {off : Int} {tg b : Nat} {v y z : Int32} (hq : cd.lookup pc = some (3, .if_icmp .ge off, tg, b, v)) (kt : z ≤ y → zg x d m tg ls st h Q) (kf : ¬ z ≤ y → zg x d m (pc + 3) ls st h Q) : zg x d m pc ls (.int z :: .int y :: st) h Q := zg_if2 hcd hq (fun hc => kt (of_decide_eq_true hc)) (fun hc => kf (fun z => hc (decide_eq_true z)))
theorem zg_i_gt (hcd : zm_cd m = cd) {off : Int} {tg b : Nat} {v y z : Int32} (hq : cd.lookup pc = some (3, .if_icmp .gt off, tg, b, v)) (kt : z < y → zg x d m tg ls st h Q) (kf : ¬ z < y → zg x d m (pc + 3) ls st h Q) : zg x d m pc ls (.int z :: .int y :: st) h Q := zg_if2 hcd hq (fun hc => kt (of_decide_eq_true hc)) (fun hc => kf (fun z => hc (decide_eq_true z)))
theorem zg_i_le (hcd : zm_cd m = cd) {off : Int} {tg b : Nat} {v y z : Int32} (hq : cd.lookup pc = some (3, .if_icmp .le off, tg, b, v)) (kt : y ≤ z → zg x d m tg ls st h Q) (kf : ¬ y ≤ z → zg x d m (pc + 3) ls st h Q) : zg x d m pc ls (.int z :: .int y :: st) h Q := zg_if2 hcd hq (fun hc => kt (of_decide_eq_true hc)) (fun hc => kf (fun z => hc (decide_eq_true z)))
theorem zg_b_eq (hcd : zm_cd m = cd) {off : Int} {tg b : Nat} {v : Int32} {C : Prop} [Decidable C] (hq : cd.lookup pc = some (3, .ifCond .eq off, tg, b, v)) (kt : ¬ C → zg x d m tg ls st h Q) (kf : C → zg x d m (pc + 3) ls st h Q) : zg x d m pc ls (.int (if C then 1 else 0) :: st) h Q := by
  refine zg_f_eq hcd hq (fun hc => kt (fun z => ?_)) (fun hc => kf (Decidable.byContradiction (fun z => hc ?_)))
  · rw [if_pos z] at hc; exact absurd hc (by decide)
  · rw [if_neg z]
theorem zg_b_ne (hcd : zm_cd m = cd) {off : Int} {tg b : Nat} {v : Int32} {C : Prop} [Decidable C] (hq : cd.lookup pc = some (3, .ifCond .ne off, tg, b, v)) (kt : C → zg x d m tg ls st h Q) (kf : ¬ C → zg x d m (pc + 3) ls st h Q) : zg x d m pc ls (.int (if C then 1 else 0) :: st) h Q := by
  refine zg_f_ne hcd hq (fun hc => kt (Decidable.byContradiction (fun z => hc ?_))) (fun hc => kf (fun z => ?_))
  · rw [if_neg z]
  · rw [if_pos z] at hc; exact absurd hc (by decide)
theorem zg_ial (hs : zSh T h) (hcd : zm_cd m = cd) {a a' b n : Nat} {v j : Int32} (hq : cd.lookup pc = some (1, .iaload, a', b, v)) (hk : T.1[a]? = some (.inl (0, n))) (hin : vp_in j n) (k : zg x d m (pc + 1) ls (.int (h.2.1 a j.toNatClampNeg) :: st) h Q) : zg x d m pc ls (.int j :: .ref a :: st) h Q := by
  refine zg_step1 (q := (1, .iaload, a', b, v)) (t := (pc + 1, ls, .int (h.2.1 a j.toNatClampNeg) :: st, h)) (by unfold zm_lk; rw [hcd]; exact hq) (fun _ => rfl) rfl ?_ k
  show zm_ial x pc ls (.int j :: .ref a :: st) h = _
  simp only [zm_ial, zm_ia, hs.1 a _ hk, if_true]
  rw [if_neg hin]
theorem zg_wts (hs : zSh T h) (hcd : zm_cd m = cd) {a' b : Nat} {v j : Int32} (hq : cd.lookup pc = some (1, .iaload, a', b, v)) (hin : vp_in j 9) (k : zg x d m (pc + 1) ls (.int (zm_wt j.toNatClampNeg) :: st) h Q) : zg x d m pc ls (.int j :: .ref 1000000 :: st) h Q := by
  refine zg_step1 (q := (1, .iaload, a', b, v)) (t := (pc + 1, ls, .int (zm_wt j.toNatClampNeg) :: st, h)) (by unfold zm_lk; rw [hcd]; exact hq) (fun _ => rfl) rfl ?_ k
  show zm_ial x pc ls (.int j :: .ref 1000000 :: st) h = _
  have hn : h.1[1000000]? = none := List.getElem?_eq_none_iff.mpr hs.2.2
  simp only [zm_ial, zm_ia, hn, zm_ro, if_true]
  rw [if_neg hin]
theorem zg_ias (hs : zSh T h) (hcd : zm_cd m = cd) {a a' b n : Nat} {v j w : Int32} (hq : cd.lookup pc = some (1, .iastore, a', b, v)) (hk : T.1[a]? = some (.inl (0, n))) (hin : vp_in j n) (k : zSh T (zm_si h a j.toNatClampNeg w) → zg x d m (pc + 1) ls st (zm_si h a j.toNatClampNeg w) Q) : zg x d m pc ls (.int w :: .int j :: .ref a :: st) h Q := by
  refine zg_step1 (q := (1, .iastore, a', b, v)) (t := (pc + 1, ls, st, zm_si h a j.toNatClampNeg w)) (by unfold zm_lk; rw [hcd]; exact hq) (fun _ => rfl) rfl ?_ (k hs)
  show zm_ias pc ls (.int w :: .int j :: .ref a :: st) h = _
  simp only [zm_ias, hs.1 a _ hk, if_true]
  rw [if_neg hin]
theorem zg_bal (hs : zSh T h) (hcd : zm_cd m = cd) {a a' b n ty : Nat} {v j : Int32} (hq : cd.lookup pc = some (1, .baload, a', b, v)) (hk : T.1[a]? = some (.inl (ty, n))) (hty : ty = 1 ∨ ty = 2) (hin : vp_in j n) (k : zg x d m (pc + 1) ls (.int (h.2.1 a j.toNatClampNeg) :: st) h Q) : zg x d m pc ls (.int j :: .ref a :: st) h Q := by
  refine zg_step1 (q := (1, .baload, a', b, v)) (t := (pc + 1, ls, .int (h.2.1 a j.toNatClampNeg) :: st, h)) (by unfold zm_lk; rw [hcd]; exact hq) (fun _ => rfl) rfl ?_ k
  show zm_bal pc ls (.int j :: .ref a :: st) h = _
  simp only [zm_bal, hs.1 a _ hk]
  rw [if_pos hty, if_neg hin]
theorem zg_bas (hs : zSh T h) (hcd : zm_cd m = cd) {a a' b n ty : Nat} {v j w : Int32} (hq : cd.lookup pc = some (1, .bastore, a', b, v)) (hk : T.1[a]? = some (.inl (ty, n))) (hty : ty = 1 ∨ ty = 2) (hin : vp_in j n) (k : zSh T (zm_si h a j.toNatClampNeg (zm_nb ty w)) → zg x d m (pc + 1) ls st (zm_si h a j.toNatClampNeg (zm_nb ty w)) Q) : zg x d m pc ls (.int w :: .int j :: .ref a :: st) h Q := by
  refine zg_step1 (q := (1, .bastore, a', b, v)) (t := (pc + 1, ls, st, zm_si h a j.toNatClampNeg (zm_nb ty w))) (by unfold zm_lk; rw [hcd]; exact hq) (fun _ => rfl) rfl ?_ (k hs)
  show zm_bas pc ls (.int w :: .int j :: .ref a :: st) h = _
  simp only [zm_bas, hs.1 a _ hk]
  rw [if_pos hty, if_neg hin]
theorem zg_lal (hs : zSh T h) (hcd : zm_cd m = cd) {a a' b n : Nat} {v j : Int32} (hq : cd.lookup pc = some (1, .laload, a', b, v)) (hk : T.1[a]? = some (.inl (3, n))) (hin : vp_in j n) (k : zg x d m (pc + 1) ls (.long (h.2.2.1 a j.toNatClampNeg) :: st) h Q) : zg x d m pc ls (.int j :: .ref a :: st) h Q := by
  refine zg_step1 (q := (1, .laload, a', b, v)) (t := (pc + 1, ls, .long (h.2.2.1 a j.toNatClampNeg) :: st, h)) (by unfold zm_lk; rw [hcd]; exact hq) (fun _ => rfl) rfl ?_ k
  show zm_lal pc ls (.int j :: .ref a :: st) h = _
  simp only [zm_lal, hs.1 a _ hk, if_true]
  rw [if_neg hin]
theorem zg_las (hs : zSh T h) (hcd : zm_cd m = cd) {a a' b n : Nat} {v j : Int32} {w : Int64} (hq : cd.lookup pc = some (1, .lastore, a', b, v)) (hk : T.1[a]? = some (.inl (3, n))) (hin : vp_in j n) (k : zSh T (zm_sl h a j.toNatClampNeg w) → zg x d m (pc + 1) ls st (zm_sl h a j.toNatClampNeg w) Q) : zg x d m pc ls (.long w :: .int j :: .ref a :: st) h Q := by
  refine zg_step1 (q := (1, .lastore, a', b, v)) (t := (pc + 1, ls, st, zm_sl h a j.toNatClampNeg w)) (by unfold zm_lk; rw [hcd]; exact hq) (fun _ => rfl) rfl ?_ (k hs)
  show zm_las pc ls (.long w :: .int j :: .ref a :: st) h = _
  simp only [zm_las, hs.1 a _ hk, if_true]
  rw [if_neg hin]
theorem zg_div (hcd : zm_cd m = cd) {a' b : Nat} {v y z : Int32} (hq : cd.lookup pc = some (1, .idiv, a', b, v)) (hne : ¬ z = 0) (k : zg x d m (pc + 1) ls (.int (y / z) :: st) h Q) : zg x d m pc ls (.int z :: .int y :: st) h Q := by
  refine zg_step1 (q := (1, .idiv, a', b, v)) (t := (pc + 1, ls, .int (y / z) :: st, h)) (by unfold zm_lk; rw [hcd]; exact hq) (fun _ => rfl) rfl ?_ k
  show zm_pv (pc + 1) ls h (zm_d2 (fun a b => a / b) (.int z :: .int y :: st)) = _
  simp only [zm_d2]
  rw [if_neg hne]; rfl
theorem zg_rem (hcd : zm_cd m = cd) {a' b : Nat} {v y z : Int32} (hq : cd.lookup pc = some (1, .irem, a', b, v)) (hne : ¬ z = 0) (k : zg x d m (pc + 1) ls (.int (zm_rm y z) :: st) h Q) : zg x d m pc ls (.int z :: .int y :: st) h Q := by
  refine zg_step1 (q := (1, .irem, a', b, v)) (t := (pc + 1, ls, .int (zm_rm y z) :: st, h)) (by unfold zm_lk; rw [hcd]; exact hq) (fun _ => rfl) rfl ?_ k
  show zm_pv (pc + 1) ls h (zm_d2 zm_rm (.int z :: .int y :: st)) = _
  simp only [zm_d2]
  rw [if_neg hne]; rfl
theorem zg_tsw (hcd : zm_cd m = cd) {dflt lo hi : Int} {offs : Array Int} {len a' b : Nat} {v y : Int32} (hq : cd.lookup pc = some (len, .tableswitch dflt lo hi offs, a', b, v)) {tg : Nat} (ht : (if y.toInt < lo ∨ hi < y.toInt then ((pc : Int) + dflt).toNat else ((pc : Int) + (offs.toList.getD (y.toInt - lo).toNat dflt)).toNat) = tg) (k : zg x d m tg ls st h Q) : zg x d m pc ls (.int y :: st) h Q := by
  refine zg_step1 (q := (len, .tableswitch dflt lo hi offs, a', b, v)) (t := (tg, ls, st, h)) (by unfold zm_lk; rw [hcd]; exact hq) (fun _ => rfl) rfl ?_ k
  show zm_tsw dflt lo hi offs pc ls (.int y :: st) h = _
  simp only [zm_tsw, ht]
theorem zg_lsw (hcd : zm_cd m = cd) {dflt : Int} {ps : Array (Int × Int)} {len a' b : Nat} {v y : Int32} (hq : cd.lookup pc = some (len, .lookupswitch dflt ps, a', b, v)) {tg : Nat} (ht : ((pc : Int) + Op.lookupswitch.offset ps.toList dflt y.toInt).toNat = tg) (k : zg x d m tg ls st h Q) : zg x d m pc ls (.int y :: st) h Q := by
  refine zg_step1 (q := (len, .lookupswitch dflt ps, a', b, v)) (t := (tg, ls, st, h)) (by unfold zm_lk; rw [hcd]; exact hq) (fun _ => rfl) rfl ?_ k
  show zm_lsw dflt ps pc ls (.int y :: st) h = _
  simp only [zm_lsw, ht]
theorem zm_rd_ret {ins : Instr} (hr : zm_rd ins = true) (m : Nat) (st : List Value) (h : zm_H) : zm_ret m ins st h = none := by
  cases ins <;> first | rfl | cases hr
def zm_c8 (st : List Value) (b : Nat) : Bool := Nat.ble b st.length && Nat.ble ((st.drop b).map Value.category).sum 8
def zm_rkT (T : zT) (a : Nat) (as : List Value) : Bool := match as with
  | .ref i :: _ => (match T.1[i]? with
    | some (.inr c) => c == zm_oc a
    | _ => false)
  | _ => false
theorem zm_rkT_ok {a : Nat} {as : List Value} (hs : zSh T h) (hk : zm_rkT T a as = true) : zm_rk a as h = true := by
  match as, hk with
  | .ref i :: r, hk =>
    have hk : (match T.1[i]? with | some (.inr c) => c == zm_oc a | _ => false) = true := hk
    show (match h.1[i]? with | some (.inr c) => c == zm_oc a | _ => false) = true
    cases hz : T.1[i]? with
    | none => simp [hz] at hk
    | some z =>
      cases z with
      | inl z => simp [hz] at hk
      | inr c => simp only [hz] at hk; simp only [hs.1 i _ hz]; exact hk
theorem zg_call (hs : zSh T h) (hcd : zm_cd m = cd) {ins : Instr} {a b : Nat} {v : Int32} (hq : cd.lookup pc = some (3, ins, a, b, v)) (hrd : zm_rd ins = true) (ha : Nat.ble 1000 a = false) (h8 : zm_c8 st b = true) {as rest : List Value} {en : zm_L} (e1 : (st.take b).reverse = as) (e2 : st.drop b = rest) (hk : (!(zm_iv ins) || zm_rkT T a as) = true) (hl : Nat.ble (zm_el as).length (zm_ml a) = true) (e3 : zm_en a as = en)
    (k : zg x d a 0 en [] h (fun w h1 => zg x (d + 1) m (pc + 3) ls (w.toList ++ rest) h1 Q)) : zg x (d + 1) m pc ls st h Q := by
  obtain ⟨n, w, h1, r1, n2, w2, h2, r2, hQ⟩ := k
  subst e1
  subst e2
  subst e3
  obtain ⟨g1, g2⟩ := zm_and h8
  refine ⟨max n n2 + 1, w2, h2, ?_, hQ⟩
  rw [zm_run]
  have hq' : zm_lk m pc = some (3, ins, a, b, v) := by unfold zm_lk; rw [hcd]; exact hq
  have hc : (zm_iv ins = true → zm_rk a (st.take b).reverse h = true) ∧ (zm_el (st.take b).reverse).length ≤ zm_ml a := by
    refine ⟨fun hi => ?_, Nat.le_of_ble_eq_true hl⟩
    rw [hi] at hk
    have hk : zm_rkT T a (st.take b).reverse = true := hk
    exact zm_rkT_ok hs hk
  simp only [hq', zm_rd_ret hrd, hrd, if_true]
  rw [if_pos ⟨Nat.le_of_ble_eq_true g1, Nat.le_of_ble_eq_true g2⟩]
  have ha' : ¬ 1000 ≤ a := fun z => by rw [Nat.ble_eq_true_of_le z] at ha; cases ha
  rw [if_neg ha', if_pos hc, zm_run_le (Nat.le_max_left n n2) r1]
  exact zm_run_le (Nat.le_max_right n n2) r2
theorem zg_x (hcd : zm_cd m = cd) {ins : Instr} {a b : Nat} {v : Int32} (hq : cd.lookup pc = some (3, ins, a, b, v)) (hrd : zm_rd ins = true) (ha : Nat.ble 1000 a = true) (h8 : zm_c8 st b = true) {as rest : List Value} {w : Option Value} {h1 : zm_H} (e1 : (st.take b).reverse = as) (e2 : st.drop b = rest) (hx : zm_xc a as h = some (w, h1))
    (k : zg x (d + 1) m (pc + 3) ls (w.toList ++ rest) h1 Q) : zg x (d + 1) m pc ls st h Q := by
  obtain ⟨n2, w2, h2, r2, hQ⟩ := k
  subst e1
  subst e2
  obtain ⟨g1, g2⟩ := zm_and h8
  refine ⟨n2 + 1, w2, h2, ?_, hQ⟩
  rw [zm_run]
  have hq' : zm_lk m pc = some (3, ins, a, b, v) := by unfold zm_lk; rw [hcd]; exact hq
  simp only [hq', zm_rd_ret hrd, hrd, if_true]
  rw [if_pos ⟨Nat.le_of_ble_eq_true g1, Nat.le_of_ble_eq_true g2⟩]
  rw [if_pos (Nat.le_of_ble_eq_true ha), hx]
  exact r2
theorem zg_ret (hcd : zm_cd m = cd) {q : zm_I} {w : Option Value} {h1 : zm_H} (hq : cd.lookup pc = some q) (hr : zm_ret m q.2.1 st h = some (some (w, h1))) (hQ : Q w h1) : zg x d m pc ls st h Q := by
  refine ⟨1, w, h1, ?_, hQ⟩
  rw [zm_run]
  have hq' : zm_lk m pc = some q := by unfold zm_lk; rw [hcd]; exact hq
  simp only [hq', hr]
theorem zm_nb01 {C : Prop} [Decidable C] : vp_nar .boolean (if C then 1 else 0) = if C then 1 else 0 := by split <;> rfl
theorem zg_rtz (hcd : zm_cd m = cd) {a b : Nat} {v w : Int32} (hq : cd.lookup pc = some (1, .ireturn, a, b, v)) (hr : zm_rt m = some .boolean) (hn : vp_nar .boolean w = w) (hQ : Q (some (.int w)) h) : zg x d m pc ls [.int w] h Q := by
  refine zg_ret hcd hq ?_ hQ
  show (if zm_rt m = some .int ∨ (zm_rt m = some .boolean ∧ vp_nar .boolean w = w) then some (some (some (Value.int w), h)) else some none) = some (some (some (Value.int w), h))
  rw [if_pos (Or.inr ⟨hr, hn⟩)]
end ZRW
theorem zi_t {α : Type} {c : Prop} [Decidable c] {a b : α} {P : α → Prop} (hc : c) (h : P (if c then a else b)) : P a := by rwa [if_pos hc] at h
theorem zi_f {α : Type} {c : Prop} [Decidable c] {a b : α} {P : α → Prop} (hc : ¬ c) (h : P (if c then a else b)) : P b := by rwa [if_neg hc] at h
