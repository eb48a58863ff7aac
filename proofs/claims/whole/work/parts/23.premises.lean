/-! THE CLAIM OUT OF ONE WALK OF THE LAW'S BODY. Your part is whole_start (and what it stands on); all else here is the same for every law, but numbers. -/
def R_law : String := "NoddingRaftsLaw"
def lw_P (b : Addr) (xs : List Int32) (args : Array Value) (s : State) : Prop := args = #[.ref b] ∧ s.IntsAt b xs ∧ xs.length ≤ 3072 ∧ (Jvm.Cond.and given_1 narrow_1).before args s = true
def lw_Q (_ : Array Value) (s : State) (o : Outcome) (t : State) : Prop := o = .returned (some (.int 1)) ∧ Framed s o t [] 600000 7302250
def lw_Z (below : List Frame) (a : Array Value) (s : State) : State → Prop := fun t => ∃ o, t.status = .running ∧ Ended t below o ∧ lw_Q a s o t
/-- the law's own end, with 1 on the stack, nothing written that was there before, its room as the claim has it -/
theorem lw_ret {p : Program} {l : Launch} {e : Env} {s : State} {m : MethodId} {below : List Frame} {meth : Method} {c : Code} {b : Nat} (hx : p.tables.exec = Jvm.exec) (hb : c.code = code) (hr : meth.sig.returnType = ret) (hlocks : meth.locks = false) {pc : Nat} {H : Heap} {ls : Array Slot} (hdg : decode code pc = .ok (.ireturn, 1)) : W p l e room_1 s m #[Value.ref b] below meth c H [] 600000 7302250 (lw_Z below #[Value.ref b] s) (F0 m pc ls [.int 1]) := by
  intro T hT X
  obtain ⟨fs, hret, hrun, hended, hW, hframe⟩ := X.leave (v := some (.int 1)) (hlocks := hlocks) (fun h => by rw [hr] at h; cases h)
  have hmeth' : T.vm.method? m = some meth := X.method'
  refine ⟨T.setFrames fs, ?_, .returned (some (.int 1)), hrun, hended, rfl, ⟨_, rfl⟩, hW, hframe⟩
  jvm_step X.here [X.here.top, hx, hb, hdg, hmeth', hr, ret, narrow_b1]
  (try refine ⟨rfl, ?_⟩); (try refine ⟨rfl, ?_⟩)
  first | (intro acts; rw [hret _ acts rfl rfl rfl]) | rw [hret _ _ rfl rfl rfl]
  exact Steps.refl _
/-- what holds at the law's entry: the machine, the code, the tables' words (any of lw_tbl by 'hts w (by decide +kernel)'), the script of L ints xs at the cell b, what the Statement gives of the start (any of its parts by flat_of_before) -/
def lw_At (p : Program) (s : State) (m : MethodId) (meth : Method) (c : Code) (b L : Nat) (xs : Nat → Int32) : Prop :=
  p.tables.exec = Jvm.exec ∧ c.code = code ∧ meth.sig.returnType = ret ∧ c.maxLocals = 4 ∧ s.vm.findClass R_law = some m.cls ∧ (∀ w ∈ lw_tbl, w.before #[Value.ref b] s = true) ∧ va_X b L xs s s.heap ∧ b < s.heap.size ∧ meth.locks = false ∧ (Jvm.Cond.and given_1 narrow_1).before #[Value.ref b] s = true
-- ===== OUR PART =====
def zm_h0 : zm_H := ([], fun _ _ => 0, fun _ _ => 0, fun _ _ => none)
def zs_tm (i : Nat) : Term := match i with
  | 0 => .string "NoddingRafts$Text" 129
  | 1 => .string "NoddingRafts$Text" 118
  | _ => .string "NoddingRaftsModel" 275
theorem zs_kp : ∀ o, o < 16 → ∀ q ∈ zm_kp o, q.2.1 = 1 → ((o = 8 ∧ q.1 = 129 ∧ q.2.2.1 = 0) ∨ (o = 8 ∧ q.1 = 118 ∧ q.2.2.1 = 1) ∨ (o = 11 ∧ q.1 = 275 ∧ q.2.2.1 = 2)) := by decide +kernel
theorem zs_kp16 {o : Nat} {q : zm_KP} (h : q ∈ zm_kp o) : o < 16 := by
  match o with
  | 0 => decide
  | 1 => decide
  | 2 => decide
  | 3 => decide
  | 4 => decide
  | 5 => decide
  | 6 => decide
  | 7 => decide
  | 8 => decide
  | 9 => decide
  | 10 => decide
  | 11 => decide
  | 12 => decide
  | 13 => decide
  | 14 => decide
  | 15 => decide
  | n + 16 => exact absurd h List.not_mem_nil
theorem zm_classes {s : State} {args : Array Value} (hts : ∀ w ∈ lw_tbl, w.before args s = true) : ∃ D : va_G, ∀ (c : Nat) (q : vw_C), vwCl[c]? = some q → u_Kn s q.1 q.2.1 q.2.2 (D.1 c) (D.2 c) := by
  have h0 : ∀ c : Nat, ∃ q : ClassId × (Nat → Nat), c < 12 → u_Kn s (zm_ct c).1 (zm_ct c).2.1 (zm_ct c).2.2 q.1 q.2 := by
    intro c
    by_cases hc : c < 12
    · obtain ⟨cC, iS, h⟩ := u_known (n := (zm_ct c).2.2) hts (fun w hw => (List.mem_filter.mp (zm_uw hc w hw)).1) (hts _ (zm_inst hc).1)
      exact ⟨(cC, iS), fun _ => h⟩
    · exact ⟨(0, fun _ => 0), fun h => absurd h hc⟩
  obtain ⟨f, hf⟩ := Classical.axiomOfChoice h0
  refine ⟨(fun c => (f c).1, fun c => (f c).2), fun c q hq => ?_⟩
  have hc : c < 12 := (List.getElem?_eq_some_iff.mp hq).1
  have e := (zm_cls hc).1
  rw [hq] at e
  cases e
  exact hf c hc
theorem zm_arrcl {s : State} {args : Array Value} {ty : FieldType} (h : (Cond.arrayClass ty).before args s = true) (hty : ∀ C, ty ≠ .object C) : ∃ cA : ClassId, ArrOfT s cA ty ∧ va_RA s cA ty := by
  obtain ⟨cA, kA, comp, h1, h2, h3⟩ := Cond.arrayClass_spec h
  refine ⟨cA, fun n z => ⟨(fun k h => by cases h), kA, h2, comp, h3⟩, ?_⟩
  cases ty with
  | object C => exact absurd rfl (hty C)
  | _ => exact h1
theorem zm_arrcls {s : State} {args : Array Value} (hts : ∀ w ∈ lw_tbl, w.before args s = true) (hAO : zm_AO s) : ∃ dA : Nat → ClassId, ∀ (k : Nat) (q : ClassId × FieldType), (zm_tys dA)[k]? = some q → ArrOfT s q.1 q.2 ∧ va_RA s q.1 q.2 := by
  obtain ⟨a0, h0⟩ := zm_arrcl (ty := .int) (hts _ zm_wa_int) (fun _ z => by cases z)
  obtain ⟨a1, h1⟩ := zm_arrcl (ty := .byte) (hts _ zm_wa_byte) (fun _ z => by cases z)
  obtain ⟨a2, h2⟩ := zm_arrcl (ty := .boolean) (hts _ zm_wa_boolean) (fun _ z => by cases z)
  obtain ⟨a3, h3⟩ := zm_arrcl (ty := .long) (hts _ zm_wa_long) (fun _ z => by cases z)
  obtain ⟨comp, a4, k, -, -, g3, g4, g5⟩ := arrayOverA_spec hAO
  have h4 : ArrOfT s a4 (.array .int) ∧ va_RA s a4 (.array .int) := ⟨fun n z => ⟨(fun k h => by cases h), k, g3, comp, g4⟩, g5⟩
  refine ⟨fun i => ([a0, a1, a2, a3, a4] : List ClassId).getD i 0, fun k q hq => ?_⟩
  match k, hq with
  | 0, hq => cases hq; exact h0
  | 1, hq => cases hq; exact h1
  | 2, hq => cases hq; exact h2
  | 3, hq => cases hq; exact h3
  | 4, hq => cases hq; exact h4
  | k + 5, hq => simp [zm_tys] at hq
set_option maxRecDepth 100000 in
theorem zs_n1 : Cond.arrayOf (.static "NoddingRafts$Course" "WEIGHTS" "[I") .int ∈ flatC (Jvm.Cond.and given_1 narrow_1) ∧ Cond.eq (.length (.static "NoddingRafts$Course" "WEIGHTS" "[I")) (.int (Int32.ofNat 9)) ∈ flatC (Jvm.Cond.and given_1 narrow_1) ∧ Cond.eq (.static "java/lang/String" "COMPACT_STRINGS" "Z") (.int 1) ∈ flatC (Jvm.Cond.and given_1 narrow_1) := by decide +kernel
set_option maxRecDepth 100000 in
theorem zs_n6 : Cond.isRef (.static "jdk/internal/util/Preconditions" "SIOOBE_FORMATTER" "Ljava/util/function/BiFunction;") ∈ flatC (Jvm.Cond.and given_1 narrow_1) := by decide +kernel
set_option maxRecDepth 100000 in
theorem zs_n7 : Cond.laysStatic "jdk/internal/util/Preconditions" "SIOOBE_FORMATTER" "Ljava/util/function/BiFunction;" ∈ lw_tbl ∧ Cond.initialized "jdk/internal/util/Preconditions" ∈ lw_tbl := by decide +kernel
set_option maxRecDepth 100000 in
theorem zs_n2 : ∀ j, j < 9 → Cond.eq (.elem (.static "NoddingRafts$Course" "WEIGHTS" "[I") (.int (Int32.ofNat j))) (.int (zm_wt j)) ∈ flatC (Jvm.Cond.and given_1 narrow_1) := by decide +kernel
set_option maxRecDepth 100000 in
theorem zs_n3 : ∀ i, i < 3 → Cond.exactly (zs_tm i) "java/lang/String" ∈ flatC (Jvm.Cond.and given_1 narrow_1) ∧ Cond.eq (.field (zs_tm i) "java/lang/String" "coder" "B") (.int 0) ∈ flatC (Jvm.Cond.and given_1 narrow_1) ∧ Cond.arrayOf (.field (zs_tm i) "java/lang/String" "value" "[B") .byte ∈ flatC (Jvm.Cond.and given_1 narrow_1) ∧ Cond.eq (.length (.field (zs_tm i) "java/lang/String" "value" "[B")) (.int (Int32.ofNat (zm_sln.getD i 0))) ∈ flatC (Jvm.Cond.and given_1 narrow_1) := by decide +kernel
set_option maxRecDepth 100000 in
theorem zs_n4p : ∀ i, i < 3 → ∀ j, j < zm_sln.getD i 0 → (flatC (Jvm.Cond.and given_1 narrow_1))[([25, 125, 142] : List Nat).getD i 0 + j]? = some (Cond.eq (.elem (.field (zs_tm i) "java/lang/String" "value" "[B") (.int (Int32.ofNat j))) (.int ((zm_sxs.getD i []).getD j 0))) := by decide +kernel
theorem zs_n4 : ∀ i, i < 3 → ∀ j, j < zm_sln.getD i 0 → Cond.eq (.elem (.field (zs_tm i) "java/lang/String" "value" "[B") (.int (Int32.ofNat j))) (.int ((zm_sxs.getD i []).getD j 0)) ∈ flatC (Jvm.Cond.and given_1 narrow_1) := fun i hi j hj => List.mem_of_getElem? (zs_n4p i hi j hj)
set_option maxRecDepth 100000 in
theorem zs_n5 : ∀ i, i < 3 → ∀ j, j < 3 → i ≠ j → (Cond.not (Cond.eq (zs_tm i) (zs_tm j)) ∈ flatC (Jvm.Cond.and given_1 narrow_1) ∨ Cond.not (Cond.eq (zs_tm j) (zs_tm i)) ∈ flatC (Jvm.Cond.and given_1 narrow_1)) := by decide +kernel
theorem zs_len : ∀ i, i < 3 → zm_sln.getD i 0 < 2 ^ 31 := by decide +kernel
