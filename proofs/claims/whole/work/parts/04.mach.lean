/-! ===== a small machine of its own: values, cells by number, code by rows; a later part shows that the JVM does what it does ===== -/
abbrev zm_K : Type := (Nat × Nat) ⊕ Nat
abbrev zm_H : Type := List zm_K × (Nat → Nat → Int32) × (Nat → Nat → Int64) × (Nat → Nat → Option Nat)
abbrev zm_L : Type := List (Option Value)
abbrev zm_T : Type := Nat × zm_L × List Value × zm_H
abbrev zm_X : Type := Nat × (Nat → Int32)
def zm_u {α : Type} (f : Nat → Nat → α) (i k : Nat) (v : α) : Nat → Nat → α := fun a => if a = i then (fun b => if b = k then v else f a b) else f a
def zm_w {α : Type} (f : Nat → Nat → α) (i : Nat) (g : Nat → α) : Nat → Nat → α := fun a => if a = i then g else f a
def zm_si (h : zm_H) (i k : Nat) (v : Int32) : zm_H := (h.1, zm_u h.2.1 i k v, h.2.2.1, h.2.2.2)
def zm_sl (h : zm_H) (i k : Nat) (v : Int64) : zm_H := (h.1, h.2.1, zm_u h.2.2.1 i k v, h.2.2.2)
def zm_sr (h : zm_H) (i k : Nat) (v : Option Nat) : zm_H := (h.1, h.2.1, h.2.2.1, zm_u h.2.2.2 i k v)
def zm_rv (r : Option Nat) : Value := match r with
  | none => .null
  | some j => .ref j
def zm_wt : Nat → Int32 := fun k => ([1, 2, 3, 1, 3, 1, 3, 2, 1] : List Int32).getD k 0
/-- what is only read: 1000000 the table of weights, 1000001 the script -/
def zm_ro (x : zm_X) (i : Nat) : Option (Nat × (Nat → Int32)) := if i = 1000000 then some (9, zm_wt) else if i = 1000001 then some x else none
def zm_ia (x : zm_X) (h : zm_H) (i : Nat) : Option (Nat × (Nat → Int32)) := match h.1[i]? with
  | some (.inl (t, n)) => if t = 0 then some (n, h.2.1 i) else none
  | some (.inr _) => none
  | none => zm_ro x i
def zm_al (x : zm_X) (h : zm_H) (i : Nat) : Option Nat := match h.1[i]? with
  | some (.inl (_, n)) => some n
  | some (.inr _) => none
  | none => (zm_ro x i).map (fun q => q.1)
def zm_nx (h : zm_H) (q : zm_K) : zm_H := (h.1 ++ [q], zm_w h.2.1 h.1.length (fun _ => 0), zm_w h.2.2.1 h.1.length (fun _ => 0), zm_w h.2.2.2 h.1.length (fun _ => none))
def zm_b2 (f : Int32 → Int32 → Int32) : List Value → Option (List Value)
  | .int y :: .int x :: r => some (.int (f x y) :: r)
  | _ => none
def zm_d2 (f : Int32 → Int32 → Int32) : List Value → Option (List Value)
  | .int y :: .int x :: r => if y = 0 then none else some (.int (f x y) :: r)
  | _ => none
def zm_m1 (f : Int32 → Int32) : List Value → Option (List Value)
  | .int x :: r => some (.int (f x) :: r)
  | _ => none
def zm_l2 (f : Int64 → Int64 → Int64) : List Value → Option (List Value)
  | .long y :: .long x :: r => some (.long (f x y) :: r)
  | _ => none
def zm_rm (x y : Int32) : Int32 := x - x / y * y
def zm_us (x y : Int32) : Int32 := (x.toUInt32 >>> (y.toUInt32 &&& Int32.toUInt32 31)).toInt32
def zm_cb (x : Int32) : Int32 := (x.toUInt32 % 65536).toInt32
def zm_ld (ls : zm_L) (k : Nat) : Option Value := match ls[k]? with
  | some (some v) => some v
  | _ => none
def zm_n2 (ls : zm_L) : Nat → Bool
  | 0 => true
  | k + 1 => match ls[k]? with
    | some (some (.long _)) => false
    | some (some (.double _)) => false
    | _ => true
def zm_so (ls : zm_L) (k : Nat) (v : Value) : Option zm_L := if k < ls.length ∧ zm_n2 ls k = true then some (ls.set k (some v)) else none
def zm_c1 (c : Jvm.ClassFile.Cond) (x : Int32) : Bool := match c with
  | .eq => decide (x = 0)
  | .ne => decide (¬ x = 0)
  | .lt => decide (x < 0)
  | .ge => decide (0 ≤ x)
  | .gt => decide (0 < x)
  | .le => decide (x ≤ 0)
def zm_c2 (c : Jvm.ClassFile.Cond) (x y : Int32) : Bool := match c with
  | .eq => decide (x = y)
  | .ne => decide (¬ x = y)
  | .lt => decide (x < y)
  | .ge => decide (y ≤ x)
  | .gt => decide (y < x)
  | .le => decide (x ≤ y)
def zm_ta (a : ArrayType) : Option Nat := match a with
  | .int => some 0
  | .byte => some 1
  | .boolean => some 2
  | .long => some 3
  | _ => none
def zm_nb (t : Nat) (x : Int32) : Int32 := if t = 1 then vp_nar .byte x else vp_nar .boolean x
def zm_ld1 (ls : zm_L) (k n pc : Nat) (st : List Value) (h : zm_H) : Option zm_T := match zm_ld ls k with
  | some (.int x) => some (pc + n, ls, .int x :: st, h)
  | _ => none
def zm_ldl (ls : zm_L) (k n pc : Nat) (st : List Value) (h : zm_H) : Option zm_T := match zm_ld ls k with
  | some (.long x) => some (pc + n, ls, .long x :: st, h)
  | _ => none
def zm_lda (ls : zm_L) (k n pc : Nat) (st : List Value) (h : zm_H) : Option zm_T := match zm_ld ls k with
  | some (.ref x) => some (pc + n, ls, .ref x :: st, h)
  | _ => none
def zm_st1 (ls : zm_L) (k n pc : Nat) (st : List Value) (h : zm_H) : Option zm_T := match st with
  | .int x :: r => (zm_so ls k (.int x)).map (fun l => (pc + n, l, r, h))
  | _ => none
def zm_sta (ls : zm_L) (k n pc : Nat) (st : List Value) (h : zm_H) : Option zm_T := match st with
  | .ref x :: r => (zm_so ls k (.ref x)).map (fun l => (pc + n, l, r, h))
  | _ => none
def zm_iin (ls : zm_L) (k : Nat) (v : Int32) (pc : Nat) (st : List Value) (h : zm_H) : Option zm_T := match zm_ld ls k with
  | some (.int x) => (zm_so ls k (.int (x + v))).map (fun l => (pc + 3, l, st, h))
  | _ => none
def zm_pv (pc : Nat) (ls : zm_L) (h : zm_H) (o : Option (List Value)) : Option zm_T := match o with
  | some s => some (pc, ls, s, h)
  | none => none
def zm_if1 (c : Jvm.ClassFile.Cond) (tg pc : Nat) (ls : zm_L) (st : List Value) (h : zm_H) : Option zm_T := match st with
  | .int x :: r => some (if zm_c1 c x = true then tg else pc + 3, ls, r, h)
  | _ => none
def zm_if2 (c : Jvm.ClassFile.Cond) (tg pc : Nat) (ls : zm_L) (st : List Value) (h : zm_H) : Option zm_T := match st with
  | .int y :: .int x :: r => some (if zm_c2 c x y = true then tg else pc + 3, ls, r, h)
  | _ => none
def zm_dup (pc : Nat) (ls : zm_L) (st : List Value) (h : zm_H) : Option zm_T := match st with
  | .int x :: r => some (pc + 1, ls, .int x :: .int x :: r, h)
  | .ref x :: r => some (pc + 1, ls, .ref x :: .ref x :: r, h)
  | _ => none
def zm_du2 (pc : Nat) (ls : zm_L) (st : List Value) (h : zm_H) : Option zm_T := match st with
  | .int x :: .ref a :: r => some (pc + 1, ls, .int x :: .ref a :: .int x :: .ref a :: r, h)
  | _ => none
def zm_ial (x : zm_X) (pc : Nat) (ls : zm_L) (st : List Value) (h : zm_H) : Option zm_T := match st with
  | .int j :: .ref a :: r => match zm_ia x h a with
    | some (n, f) => if j < 0 ∨ n ≤ j.toNatClampNeg then none else some (pc + 1, ls, .int (f j.toNatClampNeg) :: r, h)
    | none => none
  | _ => none
def zm_bal (pc : Nat) (ls : zm_L) (st : List Value) (h : zm_H) : Option zm_T := match st with
  | .int j :: .ref a :: r => match h.1[a]? with
    | some (.inl (t, n)) => if t = 1 ∨ t = 2 then (if j < 0 ∨ n ≤ j.toNatClampNeg then none else some (pc + 1, ls, .int (h.2.1 a j.toNatClampNeg) :: r, h)) else none
    | _ => none
  | _ => none
def zm_lal (pc : Nat) (ls : zm_L) (st : List Value) (h : zm_H) : Option zm_T := match st with
  | .int j :: .ref a :: r => match h.1[a]? with
    | some (.inl (t, n)) => if t = 3 then (if j < 0 ∨ n ≤ j.toNatClampNeg then none else some (pc + 1, ls, .long (h.2.2.1 a j.toNatClampNeg) :: r, h)) else none
    | _ => none
  | _ => none
def zm_aal (pc : Nat) (ls : zm_L) (st : List Value) (h : zm_H) : Option zm_T := match st with
  | .int j :: .ref a :: r => match h.1[a]? with
    | some (.inl (t, n)) => if t = 4 then (if j < 0 ∨ n ≤ j.toNatClampNeg then none else some (pc + 1, ls, zm_rv (h.2.2.2 a j.toNatClampNeg) :: r, h)) else none
    | _ => none
  | _ => none
def zm_ias (pc : Nat) (ls : zm_L) (st : List Value) (h : zm_H) : Option zm_T := match st with
  | .int v :: .int j :: .ref a :: r => match h.1[a]? with
    | some (.inl (t, n)) => if t = 0 then (if j < 0 ∨ n ≤ j.toNatClampNeg then none else some (pc + 1, ls, r, zm_si h a j.toNatClampNeg v)) else none
    | _ => none
  | _ => none
def zm_bas (pc : Nat) (ls : zm_L) (st : List Value) (h : zm_H) : Option zm_T := match st with
  | .int v :: .int j :: .ref a :: r => match h.1[a]? with
    | some (.inl (t, n)) => if t = 1 ∨ t = 2 then (if j < 0 ∨ n ≤ j.toNatClampNeg then none else some (pc + 1, ls, r, zm_si h a j.toNatClampNeg (zm_nb t v))) else none
    | _ => none
  | _ => none
def zm_las (pc : Nat) (ls : zm_L) (st : List Value) (h : zm_H) : Option zm_T := match st with
  | .long v :: .int j :: .ref a :: r => match h.1[a]? with
    | some (.inl (t, n)) => if t = 3 then (if j < 0 ∨ n ≤ j.toNatClampNeg then none else some (pc + 1, ls, r, zm_sl h a j.toNatClampNeg v)) else none
    | _ => none
  | _ => none
def zm_isA (h : zm_H) (b : Nat) : Bool := match h.1[b]? with
  | some (.inl (t, _)) => t == 0
  | _ => false
def zm_aas (pc : Nat) (ls : zm_L) (st : List Value) (h : zm_H) : Option zm_T := match st with
  | .ref b :: .int j :: .ref a :: r => match h.1[a]? with
    | some (.inl (t, n)) => if t = 4 ∧ zm_isA h b = true then (if j < 0 ∨ n ≤ j.toNatClampNeg then none else some (pc + 1, ls, r, zm_sr h a j.toNatClampNeg (some b))) else none
    | _ => none
  | _ => none
def zm_gf (c k pc : Nat) (ls : zm_L) (st : List Value) (h : zm_H) : Option zm_T := match st with
  | .ref i :: r => match h.1[i]? with
    | some (.inr c') => if c' = c then some (pc + 3, ls, (if zm_ft c k = 0 then Value.int (h.2.1 i k) else zm_rv (h.2.2.2 i k)) :: r, h) else none
    | _ => none
  | _ => none
def zm_pf (c k pc : Nat) (ls : zm_L) (st : List Value) (h : zm_H) : Option zm_T := match st with
  | .int v :: .ref i :: r => match h.1[i]? with
    | some (.inr c') => if c' = c ∧ zm_ft c k = 0 then some (pc + 3, ls, r, zm_si h i k v) else none
    | _ => none
  | .ref v :: .ref i :: r => match h.1[i]? with
    | some (.inr c') => if c' = c ∧ zm_ft c k = 1 then some (pc + 3, ls, r, zm_sr h i k (some v)) else none
    | _ => none
  | _ => none
def zm_new (c pc : Nat) (ls : zm_L) (st : List Value) (h : zm_H) : Option zm_T := if h.1.length < 1000000 then some (pc + 3, ls, .ref h.1.length :: st, zm_nx h (.inr c)) else none
def zm_nwa (t pc : Nat) (ls : zm_L) (st : List Value) (h : zm_H) : Option zm_T := match st with
  | .int n :: r => if h.1.length < 1000000 ∧ 0 ≤ n ∧ n ≤ 10000 then some (pc, ls, .ref h.1.length :: r, zm_nx h (.inl (t, n.toNatClampNeg))) else none
  | _ => none
def zm_tsw (dflt lo hi : Int) (offs : Array Int) (pc : Nat) (ls : zm_L) (st : List Value) (h : zm_H) : Option zm_T := match st with
  | .int x :: r => some (if x.toInt < lo ∨ hi < x.toInt then ((pc : Int) + dflt).toNat else ((pc : Int) + (offs.toList.getD (x.toInt - lo).toNat dflt)).toNat, ls, r, h)
  | _ => none
def zm_lsw (dflt : Int) (ps : Array (Int × Int)) (pc : Nat) (ls : zm_L) (st : List Value) (h : zm_H) : Option zm_T := match st with
  | .int x :: r => some (((pc : Int) + Op.lookupswitch.offset ps.toList dflt x.toInt).toNat, ls, r, h)
  | _ => none
/-- one instruction that neither calls nor ends -/
def zm_S (x : zm_X) (q : zm_I) (pc : Nat) (ls : zm_L) (st : List Value) (h : zm_H) : Option zm_T := match q.2.1 with
  | .iconst _ => some (pc + 1, ls, .int q.2.2.2.2 :: st, h)
  | .bipush _ => some (pc + 2, ls, .int q.2.2.2.2 :: st, h)
  | .sipush _ => some (pc + 3, ls, .int q.2.2.2.2 :: st, h)
  | .ldc _ => if q.2.2.2.1 = 0 then some (pc + 2, ls, .int q.2.2.2.2 :: st, h) else some (pc + 2, ls, .ref (2000000 + q.2.2.1) :: st, h)
  | .ldc_w _ => if q.2.2.2.1 = 0 then some (pc + 3, ls, .int q.2.2.2.2 :: st, h) else some (pc + 3, ls, .ref (2000000 + q.2.2.1) :: st, h)
  | .ldc2_w _ => some (pc + 3, ls, .long q.2.2.2.2.toInt64 :: st, h)
  | .lconst _ => some (pc + 1, ls, .long q.2.2.2.2.toInt64 :: st, h)
  | .iload_n k => zm_ld1 ls k 1 pc st h
  | .iload k => zm_ld1 ls k 2 pc st h
  | .lload_n k => zm_ldl ls k 1 pc st h
  | .aload_n k => zm_lda ls k 1 pc st h
  | .istore_n k => zm_st1 ls k 1 pc st h
  | .istore k => zm_st1 ls k 2 pc st h
  | .astore_n k => zm_sta ls k 1 pc st h
  | .iinc k _ => zm_iin ls k q.2.2.2.2 pc st h
  | .iadd => zm_pv (pc + 1) ls h (zm_b2 (fun a b => a + b) st)
  | .isub => zm_pv (pc + 1) ls h (zm_b2 (fun a b => a - b) st)
  | .imul => zm_pv (pc + 1) ls h (zm_b2 (fun a b => a * b) st)
  | .iand => zm_pv (pc + 1) ls h (zm_b2 (fun a b => a &&& b) st)
  | .ior => zm_pv (pc + 1) ls h (zm_b2 (fun a b => a ||| b) st)
  | .ixor => zm_pv (pc + 1) ls h (zm_b2 (fun a b => a ^^^ b) st)
  | .ishl => zm_pv (pc + 1) ls h (zm_b2 (fun a b => a <<< (b &&& 31)) st)
  | .ishr => zm_pv (pc + 1) ls h (zm_b2 (fun a b => a >>> (b &&& 31)) st)
  | .iushr => zm_pv (pc + 1) ls h (zm_b2 zm_us st)
  | .idiv => zm_pv (pc + 1) ls h (zm_d2 (fun a b => a / b) st)
  | .irem => zm_pv (pc + 1) ls h (zm_d2 zm_rm st)
  | .ineg => zm_pv (pc + 1) ls h (zm_m1 (fun a => - a) st)
  | .i2b => zm_pv (pc + 1) ls h (zm_m1 (fun a => a.toInt8.toInt32) st)
  | .i2c => zm_pv (pc + 1) ls h (zm_m1 zm_cb st)
  | .ladd => zm_pv (pc + 1) ls h (zm_l2 (fun a b => a + b) st)
  | .lsub => zm_pv (pc + 1) ls h (zm_l2 (fun a b => a - b) st)
  | .lmul => zm_pv (pc + 1) ls h (zm_l2 (fun a b => a * b) st)
  | .lcmp => zm_pv (pc + 1) ls h (match st with
    | .long y :: .long x :: r => some (.int (lg_cmp x y) :: r)
    | _ => none)
  | .i2l => zm_pv (pc + 1) ls h (match st with
    | .int x :: r => some (.long x.toInt64 :: r)
    | _ => none)
  | .l2i => zm_pv (pc + 1) ls h (match st with
    | .long x :: r => some (.int x.toInt32 :: r)
    | _ => none)
  | .dup => zm_dup pc ls st h
  | .dup2 => zm_du2 pc ls st h
  | .pop => zm_pv (pc + 1) ls h (match st with
    | .int _ :: r => some r
    | _ => none)
  | .ifCond c _ => zm_if1 c q.2.2.1 pc ls st h
  | .if_icmp c _ => zm_if2 c q.2.2.1 pc ls st h
  | .goto _ => some (q.2.2.1, ls, st, h)
  | .ifnonnull _ => (match st with
    | .ref _ :: r => some (q.2.2.1, ls, r, h)
    | .null :: r => some (pc + 3, ls, r, h)
    | _ => none)
  | .arraylength => (match st with
    | .ref i :: r => match zm_al x h i with
      | some n => some (pc + 1, ls, .int (Int32.ofNat n) :: r, h)
      | none => none
    | _ => none)
  | .iaload => zm_ial x pc ls st h
  | .baload => zm_bal pc ls st h
  | .laload => zm_lal pc ls st h
  | .aaload => zm_aal pc ls st h
  | .iastore => zm_ias pc ls st h
  | .bastore => zm_bas pc ls st h
  | .lastore => zm_las pc ls st h
  | .aastore => zm_aas pc ls st h
  | .getfield _ => zm_gf q.2.2.1 q.2.2.2.1 pc ls st h
  | .putfield _ => zm_pf q.2.2.1 q.2.2.2.1 pc ls st h
  | .getstatic _ => some (pc + 3, ls, .ref 1000000 :: st, h)
  | .new _ => zm_new q.2.2.1 pc ls st h
  | .newarray a => (match zm_ta a with
    | some t => zm_nwa t (pc + 2) ls st h
    | none => none)
  | .anewarray _ => zm_nwa 4 (pc + 3) ls st h
  | .tableswitch dflt lo hi offs => zm_tsw dflt lo hi offs pc ls st h
  | .lookupswitch dflt ps => zm_lsw dflt ps pc ls st h
  | _ => none
def zm_el : List Value → zm_L
  | [] => []
  | .long v :: r => some (.long v) :: none :: zm_el r
  | v :: r => some v :: zm_el r
def zm_en (m : Nat) (as : List Value) : zm_L := zm_el as ++ List.replicate (zm_ml m - (zm_el as).length) none
/-- bytes of the texts that stand in the code -/
def zm_sx (i : Nat) : List Int32 := zm_sxs.getD i []
def zm_ixf (c : Int32) : List Int32 → Nat → Int32
  | [], _ => -1
  | b :: l, k => if b = c then Int32.ofNat k else zm_ixf c l (k + 1)
/-- calls that are no rows of code: what they answer -/
def zm_xc (k : Nat) (as : List Value) (h : zm_H) : Option (Option Value × zm_H) :=
  if k = 1000 then (match as with
    | [.ref _] => some (none, h)
    | _ => none)
  else if k = 1001 then (match as with
    | [.ref a, .int sp, .ref b, .int dp, .int n] => match h.1[a]?, h.1[b]? with
      | some (.inl (ta, na)), some (.inl (tb, nb)) => if ta = 0 ∧ tb = 0 ∧ ¬ sp < 0 ∧ ¬ dp < 0 ∧ ¬ n < 0 ∧ sp.toNatClampNeg + n.toNatClampNeg ≤ na ∧ dp.toNatClampNeg + n.toNatClampNeg ≤ nb then some (none, (h.1, zm_w h.2.1 b (va_cpy (h.2.1 a) (h.2.1 b) sp.toNatClampNeg dp.toNatClampNeg n.toNatClampNeg), h.2.2.1, h.2.2.2)) else none
      | _, _ => none
    | _ => none)
  else if k = 1002 then (match as with
    | [.ref s, .int j] => if 2000000 ≤ s ∧ s < 2000003 ∧ 0 ≤ j ∧ j.toNatClampNeg < (zm_sx (s - 2000000)).length then some (some (.int ((zm_sx (s - 2000000)).getD j.toNatClampNeg 0)), h) else none
    | _ => none)
  else if k = 1003 then (match as with
    | [.ref s] => if 2000000 ≤ s ∧ s < 2000003 then some (some (.int (Int32.ofNat (zm_sx (s - 2000000)).length)), h) else none
    | _ => none)
  else if k = 1004 then (match as with
    | [.ref s, .int c] => if 2000000 ≤ s ∧ s < 2000003 then some (some (.int (zm_ixf c (zm_sx (s - 2000000)) 0)), h) else none
    | _ => none)
  else if k = 1005 then (match as with
    | [.int x, .int y] => some (some (.int (if x < y then y else x)), h)
    | _ => none)
  else if k = 1006 then (match as with
    | [.int x, .int y] => some (some (.int (if y < x then y else x)), h)
    | _ => none)
  else if k = 1007 then (match as with
    | [.int x] => some (some (.int (if 0 ≤ x then x else 0 - x)), h)
    | _ => none)
  else if k = 1008 then (match as with
    | [.long x, .long y] => some (some (.long (if y < x then x else y)), h)
    | _ => none)
  else if k = 1009 then (match as with
    | [.long x, .long y] => some (some (.long (if y < x then y else x)), h)
    | _ => none)
  else none
def zm_rk (m : Nat) (as : List Value) (h : zm_H) : Bool := match as with
  | .ref i :: _ => (match h.1[i]? with
    | some (.inr c) => c == zm_oc m
    | _ => false)
  | _ => false
def zm_isV : Instr → Bool
  | .invokevirtual _ => true
  | _ => false
def zm_rd : Instr → Bool
  | .invokevirtual _ => true
  | .invokestatic _ => true
  | .invokespecial _ => true
  | _ => false
def zm_lk (m pc : Nat) : Option zm_I := (zm_cd m).lookup pc
def zm_ret (m : Nat) (q : Instr) (st : List Value) (h : zm_H) : Option (Option (Option Value × zm_H)) := match q with
  | .ireturn => (match st with
    | [.int v] => if zm_rt m = some .int ∨ (zm_rt m = some .boolean ∧ vp_nar .boolean v = v) then some (some (some (.int v), h)) else some none
    | _ => some none)
  | .lreturn => (match st with
    | [.long v] => if zm_rt m = some .long then some (some (some (.long v), h)) else some none
    | _ => some none)
  | .areturn => (match st with
    | [.ref v] => if zm_rt m = some (.array .int) then some (some (some (.ref v), h)) else some none
    | _ => some none)
  | .return_ => (match st with
    | [] => if zm_rt m = none then some (some (none, h)) else some none
    | _ => some none)
  | _ => none
def zm_R (x : zm_X) : Nat → Nat → Nat → Nat → zm_L → List Value → zm_H → Option (Option Value × zm_H)
  | 0, _, _, _, _, _, _ => none
  | n + 1, d, m, pc, ls, st, h => match zm_lk m pc with
    | none => none
    | some q => match zm_ret m q.2.1 st h with
      | some r => r
      | none => if zm_rd q.2.1 = true then
          (if q.2.2.2.1 ≤ st.length ∧ ((st.drop q.2.2.2.1).map Value.category).sum ≤ 8 then
            match d with
            | 0 => none
            | d' + 1 => if 1000 ≤ q.2.2.1 then
                (match zm_xc q.2.2.1 (st.take q.2.2.2.1).reverse h with
                | some (v, h1) => zm_R x n (d' + 1) m (pc + 3) ls (v.toList ++ st.drop q.2.2.2.1) h1
                | none => none)
              else if (zm_isV q.2.1 = true → zm_rk q.2.2.1 (st.take q.2.2.2.1).reverse h = true) ∧ (zm_el (st.take q.2.2.2.1).reverse).length ≤ zm_ml q.2.2.1 then
                (match zm_R x n d' q.2.2.1 0 (zm_en q.2.2.1 (st.take q.2.2.2.1).reverse) [] h with
                | some (v, h1) => zm_R x n (d' + 1) m (pc + 3) ls (v.toList ++ st.drop q.2.2.2.1) h1
                | none => none)
              else none
          else none)
        else match zm_S x q pc ls st h with
          | some t => zm_R x n d m t.1 t.2.1 t.2.2.1 t.2.2.2
          | none => none
