/-! ===== what a row of code must keep to ===== -/
def zm_mw (m : Nat) : zm_MW := zm_mws.getD m ((0, 0), (0, 0), (0, 0), (0, 0), 9, 0)
def zm_ick (o a b : Nat) (v : Int32) (i : Nat) : Bool := (zm_kp o).any (fun r => r.1 == i && (if b = 0 then r.2.1 == 0 && decide (r.2.2.1 = v) else b == 1 && (r.2.1 == 1 && decide (r.2.2.1.toNatClampNeg = a))))
def zm_icl (o a i : Nat) : Bool := (zm_lp o).any (fun r => r.1 == i && r.2.1 == a)
def zm_icc (o a b i kd ex : Nat) : Bool := a == 9999 || (zm_icl o a i && (decide (1000 ≤ a) || (decide (a < 268) && ((zm_mw a).2.2.2.2.1 == kd && (zm_mw a).2.2.2.2.2 + ex == b))))
def zm_ic (m pc : Nat) (q : zm_I) : Bool := match q.2.1 with
  | .iconst n => q.1 == 1 && decide (Int32.ofInt n = q.2.2.2.2)
  | .bipush n => q.1 == 2 && decide ((Int8.ofInt n).toInt32 = q.2.2.2.2)
  | .sipush n => q.1 == 3 && decide ((Int16.ofInt n).toInt32 = q.2.2.2.2)
  | .lconst n => q.1 == 1 && decide (Int64.ofNat (n : Nat) = q.2.2.2.2.toInt64)
  | .ldc i => q.1 == 2 && zm_ick (zm_oc m) q.2.2.1 q.2.2.2.1 q.2.2.2.2 i
  | .ldc_w i => q.1 == 3 && zm_ick (zm_oc m) q.2.2.1 q.2.2.2.1 q.2.2.2.2 i
  | .ldc2_w i => q.1 == 3 && (zm_kp (zm_oc m)).any (fun r => r.1 == i && (r.2.1 == 2 && decide (r.2.2.1 = q.2.2.2.2)))
  | .iload _ => q.1 == 2
  | .istore _ => q.1 == 2
  | .iinc _ n => q.1 == 3 && decide (Int32.ofInt n = q.2.2.2.2)
  | .ifCond _ off => q.1 == 3 && decide ((pc : Int) + off = (q.2.2.1 : Int))
  | .if_icmp _ off => q.1 == 3 && decide ((pc : Int) + off = (q.2.2.1 : Int))
  | .goto off => q.1 == 3 && decide ((pc : Int) + off = (q.2.2.1 : Int))
  | .ifnonnull off => q.1 == 3 && decide ((pc : Int) + off = (q.2.2.1 : Int))
  | .getfield i => q.1 == 3 && (zm_fp (zm_oc m)).any (fun r => r.1 == i && (r.2.1 == q.2.2.1 && r.2.2.1 == q.2.2.2.1))
  | .putfield i => q.1 == 3 && (zm_fp (zm_oc m)).any (fun r => r.1 == i && (r.2.1 == q.2.2.1 && (r.2.2.1 == q.2.2.2.1 && (if (zm_fd q.2.2.1 q.2.2.2.1).2.2.2 = true then r.2.2.2.1 == 0 && ((zm_mw m).2.2.2.2.1 == 1 && zm_oc m == q.2.2.1) else true))))
  | .invokevirtual i => q.1 == 3 && zm_icc (zm_oc m) q.2.2.1 q.2.2.2.1 i 0 1
  | .invokestatic i => q.1 == 3 && zm_icc (zm_oc m) q.2.2.1 q.2.2.2.1 i 2 0
  | .invokespecial i => q.1 == 3 && zm_icc (zm_oc m) q.2.2.1 q.2.2.2.1 i 1 1
  | .new i => q.1 == 3 && (decide (q.2.2.1 < 12) && (zm_np (zm_oc m)).any (fun r => r.1 == i && r.2.1 == q.2.2.1))
  | .newarray _ => q.1 == 2
  | .anewarray i => q.1 == 3 && (zm_np (zm_oc m)).any (fun r => r.1 == i && r.2.1 == 100)
  | .getstatic i => q.1 == 3 && (zm_oc m == 1 && i == 220)
  | .tableswitch dflt lo hi offs => decide (0 ≤ (pc : Int) + dflt) && (offs.toList.all (fun o => decide (0 ≤ (pc : Int) + o)) && decide ((offs.toList.length : Int) = hi - lo + 1))
  | .lookupswitch dflt ps => decide (0 ≤ (pc : Int) + dflt) && (ps.toList.all (fun o => decide (0 ≤ (pc : Int) + o.2)) && (ps.toList.zip (ps.toList.drop 1)).all (fun z => decide (z.1.1 < z.2.1)))
  | .checkcast _ => true
  | _ => q.1 == 1
def zm_iok (m pc : Nat) (q : zm_I) : Prop := decode (zm_b m) pc = .ok (q.2.1, q.1) ∧ zm_ic m pc q = true
def zm_okl : Nat → List (List (Nat × zm_I)) → Prop
  | _, [] => True
  | i, l :: r => (∀ e ∈ l, zm_iok i e.1 e.2) ∧ zm_okl (i + 1) r
