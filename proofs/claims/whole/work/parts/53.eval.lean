/-! ===== code worked out: one stack for both sides ===== -/
def ofP (w a b : Int32) : Int32 := f_M_of w a b zh0
theorem of_h (w a b : Int32) (h : zm_H) : f_M_of w a b h = ofP w a b := rfl
def est (nm : Nat → Int32) (w v : Int32) (st : List Int32) : List Int32 :=
  if w ≤ 1 then (if w = 0 then v else nm v.toNatClampNeg) :: st
  else if w = 11 then (match st with
    | a :: r => (1 - a) :: r
    | [] => [])
  else (match st with
    | b :: a :: r => ofP w a b :: r
    | _ => [])
def stk (W V nm : Nat → Int32) (b : Nat) : Nat → List Int32
  | 0 => []
  | j + 1 => est nm (W (b + j)) (V (b + j)) (stk W V nm b j)
def tst (w v : Int32) (ts : List Bool) : Option (List Bool) :=
  if w = 0 then (if 0 ≤ v.toInt ∧ v.toInt ≤ 99999 then some (false :: ts) else none)
  else if w = 1 then (if 0 ≤ v.toInt ∧ v.toInt < 9 then some (false :: ts) else none)
  else if w = 11 then (match ts with
    | true :: r => some (true :: r)
    | _ => none)
  else if 2 ≤ w.toInt ∧ w.toInt ≤ 5 then (match ts with
    | false :: false :: r => some (false :: r)
    | _ => none)
  else if 6 ≤ w.toInt ∧ w.toInt ≤ 8 then (match ts with
    | false :: false :: r => some (true :: r)
    | _ => none)
  else if 9 ≤ w.toInt ∧ w.toInt ≤ 10 then (match ts with
    | true :: true :: r => some (true :: r)
    | _ => none)
  else none
def tyk (W V : Nat → Int32) (b : Nat) : Nat → Option (List Bool)
  | 0 => some []
  | j + 1 => match tyk W V b j with
    | some ts => tst (W (b + j)) (V (b + j)) ts
    | none => none
def vt1 (t : Bool) (v : Int32) : Prop := if t = true then v = 0 ∨ v = 1 else -1000000 ≤ v.toInt ∧ v.toInt ≤ 1000000
def vty : List Bool → List Int32 → Prop
  | [], [] => True
  | t :: ts, v :: vs => vt1 t v ∧ vty ts vs
  | _, _ => False
theorem vty_len : ∀ {ts : List Bool} {vs : List Int32}, vty ts vs → ts.length = vs.length
  | [], [], _ => rfl
  | _ :: _, _ :: _, h => by rw [List.length_cons, List.length_cons, vty_len h.2]
  | [], _ :: _, h => h.elim
  | _ :: _, [], h => h.elim
def clI (x : Int) : Int := if x < -1000000 then -1000000 else if 1000000 < x then 1000000 else x
theorem l_lt {a b : Int64} : a < b ↔ a.toInt < b.toInt := Int64.lt_iff_toInt_lt
theorem l_eq {a b : Int64} : a = b ↔ a.toInt = b.toInt := Int64.toInt_inj.symm
theorem l_bm {x : Int} (h1 : -9223372036854775808 ≤ x) (h2 : x < 9223372036854775808) : x.bmod 18446744073709551616 = x := by
  rw [Int.bmod_def]
  split <;> omega
theorem l_i (a : Int32) : a.toInt64.toInt = a.toInt := Int32.toInt_toInt64 a
theorem l_dn {p : Int64} (h1 : -2147483648 ≤ p.toInt) (h2 : p.toInt < 2147483648) : p.toInt32.toInt = p.toInt := by
  rw [Int64.toInt_toInt32]
  exact i_bm h1 h2
theorem near_n (p : Int64) (h : zm_H) : (f_M_near p h).toInt = clI p.toInt := by
  unfold f_M_near clI lg_cmp
  have e1 : ((-1000000 : Int32).toInt64).toInt = -1000000 := rfl
  have e2 : ((1000000 : Int32).toInt64).toInt = 1000000 := rfl
  have e3 : (-1000000 : Int32).toInt = -1000000 := rfl
  have e4 : (1000000 : Int32).toInt = 1000000 := rfl
  have gt : ∀ a b : Int64, (a > b) = (b < a) := fun _ _ => rfl
  simp only [gt, l_lt, l_eq, e1, e2]
  by_cases c1 : p.toInt < -1000000
  · rw [if_pos c1, if_neg (show ¬ (-1000000 < p.toInt) by omega), if_neg (show ¬ (p.toInt = -1000000) by omega), if_neg (by decide)]
    exact e3
  · rw [if_neg c1]
    have g : (0 : Int32) ≤ (if -1000000 < p.toInt then 1 else if p.toInt = -1000000 then 0 else -1) := by
      by_cases q : -1000000 < p.toInt
      · rw [if_pos q]; decide
      · rw [if_neg q, if_pos (by omega)]; decide
    rw [if_pos g]
    by_cases c2 : 1000000 < p.toInt
    · rw [if_pos c2, if_pos c2, if_neg (by decide)]; exact e4
    · rw [if_neg c2, if_neg c2]
      have g2 : (if p.toInt = 1000000 then (0 : Int32) else -1) ≤ 0 := by split <;> decide
      rw [if_pos g2]
      exact l_dn (by omega) (by omega)
theorem cl_rng (x : Int) : -1000000 ≤ clI x ∧ clI x ≤ 1000000 := by
  unfold clI
  split
  · omega
  · split <;> omega
theorem b01 {a : Int32} (h : a = 0 ∨ a = 1) : -1000000 ≤ a.toInt ∧ a.toInt ≤ 1000000 := by
  rcases h with h | h <;> subst h <;> decide
theorem div_rng {a b : Int32} (h1 : -1000000 ≤ a.toInt) (h2 : a.toInt ≤ 1000000) : -1000000 ≤ (a / b).toInt ∧ (a / b).toInt ≤ 1000000 := by
  have ne : a ≠ Int32.minValue := by
    intro z
    rw [z] at h1
    exact absurd h1 (by decide)
  rw [Int32.toInt_div_of_ne_left a b ne]
  have h3 : (a.toInt.tdiv b.toInt).natAbs ≤ a.toInt.natAbs := by rw [Int.natAbs_tdiv]; exact Nat.div_le_self _ _
  omega
/-- what the members of the stack are of stays so -/
theorem est_ok {nm : Nat → Int32} (hn : ∀ j, j < 9 → -1000000 ≤ (nm j).toInt ∧ (nm j).toInt ≤ 1000000) {w v : Int32} {ts ts' : List Bool} {st : List Int32} (ht : tst w v ts = some ts') (hv : vty ts st) : vty ts' (est nm w v st) := by
  unfold tst at ht
  unfold est
  by_cases w0 : w = 0
  · rw [if_pos w0] at ht
    have e : ¬ (v.toInt < 0) := by intro z; rw [if_neg (by omega)] at ht; cases ht
    by_cases r : 0 ≤ v.toInt ∧ v.toInt ≤ 99999
    · rw [if_pos r] at ht
      cases ht
      rw [if_pos (by rw [w0]; decide), if_pos w0]
      refine ⟨?_, hv⟩
      unfold vt1
      rw [if_neg (by decide)]
      omega
    · rw [if_neg r] at ht; cases ht
  rw [if_neg w0] at ht
  by_cases w1 : w = 1
  · rw [if_pos w1] at ht
    by_cases r : 0 ≤ v.toInt ∧ v.toInt < 9
    · rw [if_pos r] at ht
      cases ht
      rw [if_pos (by rw [w1]; decide), if_neg w0]
      refine ⟨?_, hv⟩
      unfold vt1
      rw [if_neg (by decide)]
      exact hn _ (by have := i_cl r.1; omega)
    · rw [if_neg r] at ht; cases ht
  rw [if_neg w1] at ht
  by_cases w11 : w = 11
  · rw [if_pos w11] at ht
    rw [if_neg (by rw [w11]; decide), if_pos w11]
    match ts, st, hv, ht with
    | true :: r, a :: s, hv, ht =>
      cases ht
      refine ⟨?_, hv.2⟩
      have := hv.1
      unfold vt1 at this ⊢
      rw [if_pos rfl] at this ⊢
      rcases this with z | z <;> subst z
      · exact Or.inr rfl
      · exact Or.inl rfl
    | false :: r, _ :: _, _, ht => cases ht
  rw [if_neg w11] at ht
  have b1 : (1 : Int32).toInt = 1 := rfl
  by_cases w2 : 2 ≤ w.toInt ∧ w.toInt ≤ 5
  · rw [if_pos w2] at ht
    rw [if_neg (by rw [i_le, b1]; omega), if_neg w11]
    match ts, st, hv, ht with
    | false :: false :: r, b :: a :: s, hv, ht =>
      cases ht
      refine ⟨?_, hv.2.2⟩
      have ha := hv.2.1
      have hb := hv.1
      unfold vt1 at ha hb ⊢
      rw [if_neg (by decide)] at ha hb ⊢
      unfold ofP f_M_of
      by_cases q2 : w = 2
      · rw [if_pos q2, near_n]; exact cl_rng _
      rw [if_neg q2]
      by_cases q3 : w = 3
      · rw [if_pos q3, near_n]; exact cl_rng _
      rw [if_neg q3]
      by_cases q4 : w = 4
      · rw [if_pos q4, near_n]; exact cl_rng _
      rw [if_neg q4]
      have q5 : w = 5 := by
        rw [i_eq] at q2 q3 q4 ⊢
        simp only [Int32.reduceToInt] at q2 q3 q4 ⊢
        omega
      rw [if_pos q5]
      by_cases z : b = 0
      · rw [if_pos z]; decide
      · rw [if_neg z]; exact div_rng ha.1 ha.2
    | [], [], _, ht => cases ht
    | [t], [_], _, ht => cases t <;> cases ht
    | true :: _ :: _, _ :: _ :: _, _, ht => cases ht
    | false :: true :: _, _ :: _ :: _, _, ht => cases ht
  rw [if_neg w2] at ht
  by_cases w6 : 6 ≤ w.toInt ∧ w.toInt ≤ 8
  · rw [if_pos w6] at ht
    rw [if_neg (by rw [i_le, b1]; omega), if_neg w11]
    match ts, st, hv, ht with
    | false :: false :: r, b :: a :: s, hv, ht =>
      cases ht
      refine ⟨?_, hv.2.2⟩
      unfold vt1
      rw [if_pos rfl]
      unfold ofP f_M_of
      have n2 : ¬ w = 2 := by rw [i_eq]; simp only [Int32.reduceToInt]; omega
      have n3 : ¬ w = 3 := by rw [i_eq]; simp only [Int32.reduceToInt]; omega
      have n4 : ¬ w = 4 := by rw [i_eq]; simp only [Int32.reduceToInt]; omega
      have n5 : ¬ w = 5 := by rw [i_eq]; simp only [Int32.reduceToInt]; omega
      rw [if_neg n2, if_neg n3, if_neg n4, if_neg n5]
      repeat' split
      all_goals first | exact Or.inl rfl | exact Or.inr rfl
    | [], [], _, ht => cases ht
    | [t], [_], _, ht => cases t <;> cases ht
    | true :: _ :: _, _ :: _ :: _, _, ht => cases ht
    | false :: true :: _, _ :: _ :: _, _, ht => cases ht
  rw [if_neg w6] at ht
  by_cases w9 : 9 ≤ w.toInt ∧ w.toInt ≤ 10
  · rw [if_pos w9] at ht
    rw [if_neg (by rw [i_le, b1]; omega), if_neg w11]
    match ts, st, hv, ht with
    | true :: true :: r, b :: a :: s, hv, ht =>
      cases ht
      refine ⟨?_, hv.2.2⟩
      unfold vt1
      rw [if_pos rfl]
      unfold ofP f_M_of
      have n2 : ¬ w = 2 := by rw [i_eq]; simp only [Int32.reduceToInt]; omega
      have n3 : ¬ w = 3 := by rw [i_eq]; simp only [Int32.reduceToInt]; omega
      have n4 : ¬ w = 4 := by rw [i_eq]; simp only [Int32.reduceToInt]; omega
      have n5 : ¬ w = 5 := by rw [i_eq]; simp only [Int32.reduceToInt]; omega
      rw [if_neg n2, if_neg n3, if_neg n4, if_neg n5]
      repeat' split
      all_goals first | exact Or.inl rfl | exact Or.inr rfl
    | [], [], _, ht => cases ht
    | [t], [_], _, ht => cases t <;> cases ht
    | false :: _ :: _, _ :: _ :: _, _, ht => cases ht
    | true :: false :: _, _ :: _ :: _, _, ht => cases ht
  rw [if_neg w9] at ht
  cases ht
/-- the class's own numbers for what is done -/
def enO (w : Int32) : Int32 := if w = 2 then 43 else if w = 3 then 45 else if w = 4 then 42 else if w = 5 then 47 else if w = 6 then 60 else if w = 7 then 62 else if w = 8 then 61 else if w = 9 then 314 else if w = 10 then 313 else 315
def enC (w v : Int32) : Int32 := if w = 0 then v else if w = 1 then 100304 + v else 100000 + enO w
theorem i_le_r (a : Int32) : a ≤ a := i_le.mpr (Int.le_refl _)
theorem cl32 {m : Int32} {x : Int} (e : m.toInt = x) : (if (-1000000 : Int32) < (if 1000000 < m then 1000000 else m) then (if 1000000 < m then 1000000 else m) else (-1000000)).toInt = clI x := by
  unfold clI
  have e3 : (-1000000 : Int32).toInt = -1000000 := rfl
  have e4 : (1000000 : Int32).toInt = 1000000 := rfl
  by_cases c2 : 1000000 < x
  · rw [if_pos (show (1000000 : Int32) < m by rw [i_lt, e, e4]; exact c2), if_pos (by decide), if_neg (by omega), if_pos c2]; exact e4
  · rw [if_neg (show ¬ (1000000 : Int32) < m by rw [i_lt, e, e4]; exact c2)]
    by_cases c1 : x < -1000000
    · rw [if_pos c1, if_neg (by rw [i_lt, e, e3]; omega)]; exact e3
    · rw [if_neg c1, if_neg c2]
      by_cases c3 : (-1000000 : Int32) < m
      · rw [if_pos c3]; exact e
      · rw [if_neg c3]
        rw [i_lt, e, e3] at c3
        rw [e3]; omega
theorem cl64 {m : Int64} {x : Int} (e : m.toInt = x) : ((if (if (1000000 : Int32).toInt64 < m then (1000000 : Int32).toInt64 else m) < ((-1000000) : Int32).toInt64 then ((-1000000) : Int32).toInt64 else (if (1000000 : Int32).toInt64 < m then (1000000 : Int32).toInt64 else m)).toInt32).toInt = clI x := by
  unfold clI
  have e1 : ((-1000000 : Int32).toInt64).toInt = -1000000 := rfl
  have e2 : ((1000000 : Int32).toInt64).toInt = 1000000 := rfl
  by_cases c2 : 1000000 < x
  · rw [if_pos (show (1000000 : Int32).toInt64 < m by rw [l_lt, e, e2]; exact c2), if_neg (by decide), if_neg (by omega), if_pos c2]; rfl
  · rw [if_neg (show ¬ (1000000 : Int32).toInt64 < m by rw [l_lt, e, e2]; exact c2)]
    by_cases c1 : x < -1000000
    · rw [if_pos c1, if_pos (by rw [l_lt, e, e1]; exact c1)]; rfl
    · rw [if_neg c1, if_neg c2, if_neg (by rw [l_lt, e, e1]; exact c1), l_dn (by omega) (by omega)]; exact e
theorem join_2 {a b : Int32} (h : zm_H) (a1 : -1000000 ≤ a.toInt) (a2 : a.toInt ≤ 1000000) (b1 : -1000000 ≤ b.toInt) (b2 : b.toInt ≤ 1000000) {w : Int32} (w1 : 2 ≤ w.toInt) (w2 : w.toInt ≤ 8) : f_Rules_join (enO w) a b h = ofP w a b := by
  have la := l_i a
  have lb := l_i b
  have s1 : (a.toInt64 + b.toInt64).toInt = a.toInt + b.toInt := by
    rw [Int64.toInt_add, la, lb]; exact l_bm (by omega) (by omega)
  have s2 : (a.toInt64 - b.toInt64).toInt = a.toInt - b.toInt := by
    rw [Int64.toInt_sub, la, lb]; exact l_bm (by omega) (by omega)
  have hm1 : -1000000000000 ≤ a.toInt * b.toInt ∧ a.toInt * b.toInt ≤ 1000000000000 := by
    have h1 : (a.toInt * b.toInt).natAbs ≤ 1000000 * 1000000 := by
      rw [Int.natAbs_mul]; exact Nat.mul_le_mul (by omega) (by omega)
    omega
  have s3 : (a.toInt64 * b.toInt64).toInt = a.toInt * b.toInt := by
    rw [Int64.toInt_mul, la, lb]; exact l_bm (by omega) (by omega)
  have t1 : (a + b).toInt = a.toInt + b.toInt := i_add (by omega) (by omega)
  have t2 : (a - b).toInt = a.toInt - b.toInt := i_sub (by omega) (by omega)
  rcases (show w.toInt = 2 ∨ w.toInt = 3 ∨ w.toInt = 4 ∨ w.toInt = 5 ∨ w.toInt = 6 ∨ w.toInt = 7 ∨ w.toInt = 8 by omega) with q | q | q | q | q | q | q
  · have e : w = 2 := i_eq.mpr q
    subst e
    unfold ofP f_Rules_join f_M_of
    rw [show enO 2 = 43 from rfl]
    rw [if_neg (show ¬ (43 : Int32) = 42 by decide), if_pos (rfl : (43 : Int32) = 43), if_pos (rfl : (2 : Int32) = 2)]
    rw [i_eq, near_n, s1, cl32 t1]
  · have e : w = 3 := i_eq.mpr q
    subst e
    unfold ofP f_Rules_join f_M_of
    rw [show enO 3 = 45 from rfl]
    rw [if_neg (show ¬ (45 : Int32) = 42 by decide), if_neg (show ¬ (45 : Int32) = 43 by decide), if_pos (rfl : (45 : Int32) = 45), if_neg (show ¬ (3 : Int32) = 2 by decide), if_pos (rfl : (3 : Int32) = 3)]
    rw [i_eq, near_n, s2, cl32 t2]
  · have e : w = 4 := i_eq.mpr q
    subst e
    unfold ofP f_Rules_join f_M_of
    rw [show enO 4 = 42 from rfl]
    rw [if_pos (rfl : (42 : Int32) = 42), if_neg (show ¬ (4 : Int32) = 2 by decide), if_neg (show ¬ (4 : Int32) = 3 by decide), if_pos (rfl : (4 : Int32) = 4)]
    rw [i_eq, near_n, s3, cl64 s3]
  · have e : w = 5 := i_eq.mpr q
    subst e
    unfold ofP f_Rules_join f_M_of
    rw [show enO 5 = 47 from rfl]
    rw [if_neg (show ¬ (47 : Int32) = 42 by decide), if_neg (show ¬ (47 : Int32) = 43 by decide), if_neg (show ¬ (47 : Int32) = 45 by decide), if_pos (rfl : (47 : Int32) = 47), if_neg (show ¬ (5 : Int32) = 2 by decide), if_neg (show ¬ (5 : Int32) = 3 by decide), if_neg (show ¬ (5 : Int32) = 4 by decide), if_pos (rfl : (5 : Int32) = 5)]
  · have e : w = 6 := i_eq.mpr q
    subst e
    unfold ofP f_Rules_join f_M_of
    rw [show enO 6 = 60 from rfl]
    rw [if_neg (show ¬ (60 : Int32) = 42 by decide), if_neg (show ¬ (60 : Int32) = 43 by decide), if_neg (show ¬ (60 : Int32) = 45 by decide), if_neg (show ¬ (60 : Int32) = 47 by decide), if_pos (rfl : (60 : Int32) = 60), if_neg (show ¬ (6 : Int32) = 2 by decide), if_neg (show ¬ (6 : Int32) = 3 by decide), if_neg (show ¬ (6 : Int32) = 4 by decide), if_neg (show ¬ (6 : Int32) = 5 by decide), if_pos (rfl : (6 : Int32) = 6)]
  · have e : w = 7 := i_eq.mpr q
    subst e
    unfold ofP f_Rules_join f_M_of
    rw [show enO 7 = 62 from rfl]
    rw [if_neg (show ¬ (62 : Int32) = 42 by decide), if_neg (show ¬ (62 : Int32) = 43 by decide), if_neg (show ¬ (62 : Int32) = 45 by decide), if_neg (show ¬ (62 : Int32) = 47 by decide), if_neg (show ¬ (62 : Int32) = 60 by decide), if_neg (show ¬ (62 : Int32) = 61 by decide), if_pos (rfl : (62 : Int32) = 62), if_neg (show ¬ (7 : Int32) = 2 by decide), if_neg (show ¬ (7 : Int32) = 3 by decide), if_neg (show ¬ (7 : Int32) = 4 by decide), if_neg (show ¬ (7 : Int32) = 5 by decide), if_neg (show ¬ (7 : Int32) = 6 by decide), if_pos (rfl : (7 : Int32) = 7)]
  · have e : w = 8 := i_eq.mpr q
    subst e
    unfold ofP f_Rules_join f_M_of
    rw [show enO 8 = 61 from rfl]
    rw [if_neg (show ¬ (61 : Int32) = 42 by decide), if_neg (show ¬ (61 : Int32) = 43 by decide), if_neg (show ¬ (61 : Int32) = 45 by decide), if_neg (show ¬ (61 : Int32) = 47 by decide), if_neg (show ¬ (61 : Int32) = 60 by decide), if_pos (rfl : (61 : Int32) = 61), if_neg (show ¬ (8 : Int32) = 2 by decide), if_neg (show ¬ (8 : Int32) = 3 by decide), if_neg (show ¬ (8 : Int32) = 4 by decide), if_neg (show ¬ (8 : Int32) = 5 by decide), if_neg (show ¬ (8 : Int32) = 6 by decide), if_neg (show ¬ (8 : Int32) = 7 by decide), if_pos (rfl : (8 : Int32) = 8)]
theorem join_b {a b : Int32} (h : zm_H) (ha : a = 0 ∨ a = 1) (hb : b = 0 ∨ b = 1) {w : Int32} (w1 : 9 ≤ w.toInt) (w2 : w.toInt ≤ 10) : f_Rules_join (enO w) a b h = ofP w a b := by
  rcases (show w.toInt = 9 ∨ w.toInt = 10 by omega) with q | q
  · have e : w = 9 := i_eq.mpr q
    subst e
    rcases ha with z | z <;> rcases hb with y | y <;> subst z <;> subst y <;> rfl
  · have e : w = 10 := i_eq.mpr q
    subst e
    rcases ha with z | z <;> rcases hb with y | y <;> subst z <;> subst y <;> rfl
