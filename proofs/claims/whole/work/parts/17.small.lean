/-! ===== small rows that a step rests on ===== -/
def zm_adn (ad : Nat → Nat) (n q : Nat) : Nat → Nat := fun i => if i = n then q else ad i
theorem zm_adn_eq {ad : Nat → Nat} {n q : Nat} : zm_adn ad n q n = q := by simp [zm_adn]
theorem zm_ae_new (ad : Nat → Nat) {n : Nat} (q : Nat) (hn : n < 1000000) : zm_ae n ad (zm_adn ad n q) := fun i hi => by
  have : i ≠ n := by rcases hi with h | h <;> omega
  simp [zm_adn, this]
theorem zm_cn_ct {c : Nat} (hc : c < 12) : (zm_ct c).1 = zm_cn c := by
  match c, hc with
  | 0, _ => rfl
  | 1, _ => rfl
  | 2, _ => rfl
  | 3, _ => rfl
  | 4, _ => rfl
  | 5, _ => rfl
  | 6, _ => rfl
  | 7, _ => rfl
  | 8, _ => rfl
  | 9, _ => rfl
  | 10, _ => rfl
  | 11, _ => rfl
  | n + 12, hc => exact absurd hc (by omega)
theorem zm_w220 : Cond.fieldLink (zm_cn 1) 220 "NoddingRafts$Course" "WEIGHTS" "[I" ∈ lw_tbl := zm_tb_at (k := 5) (i := 124) (by decide +kernel)
theorem zm_wa_int : Cond.arrayClass .int ∈ lw_tbl := zm_tb_at (k := 1) (i := 73) (by decide +kernel)
theorem zm_wa_byte : Cond.arrayClass .byte ∈ lw_tbl := zm_tb_at (k := 1) (i := 125) (by decide +kernel)
theorem zm_wa_boolean : Cond.arrayClass .boolean ∈ lw_tbl := zm_tb_at (k := 7) (i := 212) (by decide +kernel)
theorem zm_wa_long : Cond.arrayClass .long ∈ lw_tbl := zm_tb_at (k := 7) (i := 211) (by decide +kernel)
theorem zm_inst {c : Nat} (hc : c < 12) : Cond.instantiable (zm_ct c).1 (zm_ct c).2.2 ∈ lw_tbl ∧ goodWord (Cond.instantiable (zm_ct c).1 (zm_ct c).2.2) = true := by
  match c, hc with
  | 0, _ => exact ⟨zm_tb_at (k := 2) (i := 227) (by decide +kernel), rfl⟩
  | 1, _ => exact ⟨zm_tb_at (k := 2) (i := 5) (by decide +kernel), rfl⟩
  | 2, _ => exact ⟨zm_tb_at (k := 2) (i := 168) (by decide +kernel), rfl⟩
  | 3, _ => exact ⟨zm_tb_at (k := 2) (i := 72) (by decide +kernel), rfl⟩
  | 4, _ => exact ⟨zm_tb_at (k := 1) (i := 167) (by decide +kernel), rfl⟩
  | 5, _ => exact ⟨zm_tb_at (k := 2) (i := 113) (by decide +kernel), rfl⟩
  | 6, _ => exact ⟨zm_tb_at (k := 1) (i := 127) (by decide +kernel), rfl⟩
  | 7, _ => exact ⟨zm_tb_at (k := 1) (i := 32) (by decide +kernel), rfl⟩
  | 8, _ => exact ⟨zm_tb_at (k := 1) (i := 75) (by decide +kernel), rfl⟩
  | 9, _ => exact ⟨zm_tb_at (k := 1) (i := 219) (by decide +kernel), rfl⟩
  | 10, _ => exact ⟨zm_tb_at (k := 1) (i := 23) (by decide +kernel), rfl⟩
  | 11, _ => exact ⟨zm_tb_at (k := 6) (i := 152) (by decide +kernel), rfl⟩
  | n + 12, hc => exact absurd hc (by omega)
theorem zm_init {c : Nat} (hc : c < 12) : Cond.initialized (zm_ct c).1 ∈ lw_tbl ∧ goodWord (Cond.initialized (zm_ct c).1) = true := by
  match c, hc with
  | 0, _ => exact ⟨zm_tb_at (k := 1) (i := 12) (by decide +kernel), rfl⟩
  | 1, _ => exact ⟨zm_tb_at (k := 1) (i := 8) (by decide +kernel), rfl⟩
  | 2, _ => exact ⟨zm_tb_at (k := 1) (i := 11) (by decide +kernel), rfl⟩
  | 3, _ => exact ⟨zm_tb_at (k := 1) (i := 9) (by decide +kernel), rfl⟩
  | 4, _ => exact ⟨zm_tb_at (k := 1) (i := 6) (by decide +kernel), rfl⟩
  | 5, _ => exact ⟨zm_tb_at (k := 1) (i := 10) (by decide +kernel), rfl⟩
  | 6, _ => exact ⟨zm_tb_at (k := 1) (i := 5) (by decide +kernel), rfl⟩
  | 7, _ => exact ⟨zm_tb_at (k := 1) (i := 2) (by decide +kernel), rfl⟩
  | 8, _ => exact ⟨zm_tb_at (k := 1) (i := 4) (by decide +kernel), rfl⟩
  | 9, _ => exact ⟨zm_tb_at (k := 1) (i := 7) (by decide +kernel), rfl⟩
  | 10, _ => exact ⟨zm_tb_at (k := 1) (i := 1) (by decide +kernel), rfl⟩
  | 11, _ => exact ⟨zm_tb_at (k := 1) (i := 13) (by decide +kernel), rfl⟩
  | n + 12, hc => exact absurd hc (by omega)

theorem zm_n1e4 {n : Int32} (h0 : 0 ≤ n) (h1 : n ≤ 10000) : n.toNatClampNeg ≤ 10000 := by
  have h2 := Int32.le_iff_toInt_le.mp h1
  have h3 : (10000 : Int32).toInt = 10000 := by decide
  rw [h3] at h2
  show n.toInt.toNat ≤ 10000
  omega
theorem zm_offs {pc : Nat} {dflt y : Int} (h1 : 0 ≤ (pc : Int) + dflt) : ∀ (ps : List (Int × Int)), (∀ o ∈ ps, 0 ≤ (pc : Int) + o.2) → 0 ≤ (pc : Int) + Op.lookupswitch.offset ps dflt y
  | [], _ => h1
  | q :: r, h => by
    rw [Op.lookupswitch.offset_cons]
    split
    · exact h q List.mem_cons_self
    · exact zm_offs h1 r (fun o ho => h o (List.mem_cons_of_mem _ ho))
theorem zm_ta_ok {at' : ArrayType} {ty : Nat} (h : zm_ta at' = some ty) : Cond.arrayClass (newarray.typeOf at') ∈ lw_tbl ∧ newarray.typeOf at' = ((zm_tys (fun _ => 0)).getD ty (0, .int)).2 ∧ ty < 4 ∧ componentBytes (((zm_tys (fun _ => 0)).getD ty (0, .int)).2) ≤ 8 ∧ ∀ (ad : Nat → Nat) (h : zm_H) (n : Nat) (cA : ClassId), vp_cell cA (zm_ar ad (zm_nx h (.inl (ty, n))) ty n h.1.length) = arrV cA n (fun _ => defaultValue (((zm_tys (fun _ => 0)).getD ty (0, .int)).2)) := by
  cases at' <;> simp only [zm_ta] at h <;> cases h
  · refine ⟨zm_wa_boolean, rfl, by decide, by decide, fun ad h n cA => ?_⟩
    rw [zm_arr_i (by decide) (by decide), vp_cell_i]
    simp [zm_nx, zm_w_eq, defaultValue, zm_tys]
  · refine ⟨zm_wa_byte, rfl, by decide, by decide, fun ad h n cA => ?_⟩
    rw [zm_arr_i (by decide) (by decide), vp_cell_i]
    simp [zm_nx, zm_w_eq, defaultValue, zm_tys]
  · refine ⟨zm_wa_int, rfl, by decide, by decide, fun ad h n cA => ?_⟩
    rw [zm_arr_i (by decide) (by decide), vp_cell_i]
    simp [zm_nx, zm_w_eq, defaultValue, zm_tys]
  · refine ⟨zm_wa_long, rfl, by decide, by decide, fun ad h n cA => ?_⟩
    rw [zm_arr_l, vp_cell_l]
    simp [zm_nx, zm_w_eq, defaultValue, zm_tys]
theorem zm_dA_eq {D : va_G} {dA : Nat → ClassId} {s : State} {cA : ClassId} {ty : Nat} (hty : ty < 4) (hK : va_K D vwCl (zm_tys dA) s) (hK1 : va_K D vwCl (zm_tys dA ++ [(cA, ((zm_tys (fun _ => 0)).getD ty (0, .int)).2)]) s) : cA = dA ty := by
  have h1 := (hK1.2 5 _ rfl).2
  match ty, hty with
  | 0, _ => exact Option.some.inj (h1.symm.trans (hK.2 0 _ rfl).2)
  | 1, _ => exact Option.some.inj (h1.symm.trans (hK.2 1 _ rfl).2)
  | 2, _ => exact Option.some.inj (h1.symm.trans (hK.2 2 _ rfl).2)
  | 3, _ => exact Option.some.inj (h1.symm.trans (hK.2 3 _ rfl).2)
  | n + 4, hty => exact absurd hty (by omega)
theorem zm_ro_ok {x : zm_X} {ad : Nat → Nat} {N0 : Nat} {U : State} {H : Heap} {i : Nat} {q : Nat × (Nat → Int32)} (hw : va_T .int (ad 1000000) 9 (fun j => .int (zm_wt j)) (zm_A N0) U H) (hx : va_T .int (ad 1000001) x.1 (fun j => .int (x.2 j)) (zm_A N0) U H) (h : zm_ro x i = some q) : va_T .int (ad i) q.1 (fun j => .int (q.2 j)) (zm_A N0) U H := by
  unfold zm_ro at h
  split at h
  · next e => cases h; rw [e]; exact hw
  · split at h
    · next e => cases h; rw [e]; exact hx
    · cases h
section ZSR
variable {p : Program} {l : Launch} {e : Env} {R : Room} {s : State} {m : MethodId} {args : Array Value} {below : List Frame} {meth : Method} {c : Code} {H : Heap} {locs : List Loc} {cells slots : Nat} {Q : State → Prop}
variable {cc : ByteArray} {pc : Nat} {ls : Array Slot} {rest : List Value} {D : va_G} {dA : Nat → ClassId} {ad : Nat → Nat} {h : zm_H} {A : Nat → Prop} {H0 : Heap}
theorem zm_alen_ok (hexec : p.tables.exec = Jvm.exec) (hb : c.code = cc) (hK : va_K D vwCl (zm_tys dA) s) (hP : va_P D vwCl (zm_ws ad dA h) H) {i ty n : Nat} (hk : h.1[i]? = some (.inl (ty, n))) (hty : ty < 5) (hdg : decode cc pc = .ok (.arraylength, 1))
    (kk : W p l e R s m args below meth c H locs cells slots Q (F0 m (pc + 1) ls (.int (Int32.ofNat n) :: rest))) : W p l e R s m args below meth c H locs cells slots Q (F0 m pc ls (.ref (ad i) :: rest)) := by
  have hv : Int32.ofNat (zm_ar ad h ty n i).1 = Int32.ofNat n := rfl
  match ty, hty with
  | 0, _ => exact va_alen hexec hb hK hP i 0 (zm_ws_arr hk) rfl hv hdg kk
  | 1, _ => exact va_alen hexec hb hK hP i 1 (zm_ws_arr hk) rfl hv hdg kk
  | 2, _ => exact va_alen hexec hb hK hP i 2 (zm_ws_arr hk) rfl hv hdg kk
  | 3, _ => exact va_alen hexec hb hK hP i 3 (zm_ws_arr hk) rfl hv hdg kk
  | 4, _ => exact va_alen hexec hb hK hP i 4 (zm_ws_arr hk) rfl hv hdg kk
  | z + 5, hty => exact absurd hty (by omega)
theorem zm_aald_ok (hexec : p.tables.exec = Jvm.exec) (hb : c.code = cc) (hK : va_K D vwCl (zm_tys dA) s) (hP : va_P D vwCl (zm_ws ad dA h) H) {i n : Nat} {j : Int32} (hk : h.1[i]? = some (.inl (4, n))) (hin : vp_in j n) (hdg : decode cc pc = .ok (.aaload, 1))
    (kk : W p l e R s m args below meth c H locs cells slots Q (F0 m (pc + 1) ls (va_rf ((h.2.2.2 i j.toNatClampNeg).map ad) :: rest))) : W p l e R s m args below meth c H locs cells slots Q (F0 m pc ls (.int j :: .ref (ad i) :: rest)) := by
  have hlt : j.toNatClampNeg < n := Nat.not_le.mp fun q => hin (Or.inr q)
  have ha := zm_ws_arr (ad := ad) (dA := dA) hk
  rw [zm_arr_r] at ha
  exact W.aald (v := va_rf ((h.2.2.2 i j.toNatClampNeg).map ad)) (ty := .array .int) hexec hb (hP i _ ha) ((hK.2 4 _ rfl).1 n (fun j => va_rf ((h.2.2.2 i j).map ad))) rfl (fun q => by cases q) (by show ¬ (j < 0 ∨ (arrV _ _ _).slots.size ≤ _); rw [arrV_size]; exact hin) (by show (arrV _ _ _).slots[_]? = _; rw [arrV_read _ _ hlt]) rfl rfl hdg kk
theorem zm_aast_ok (hexec : p.tables.exec = Jvm.exec) (hb : c.code = cc) (hAO : zm_AO s) (hK : va_K D vwCl (zm_tys dA) s) (hP : va_P D vwCl (zm_ws ad dA h) H) (hD : va_D A (zm_ws ad dA h)) (hS : va_S A H0 H locs) {i n b nb : Nat} {j : Int32} (hk : h.1[i]? = some (.inl (4, n))) (hkb : h.1[b]? = some (.inl (0, nb))) (hin : vp_in j n) (hdg : decode cc pc = .ok (.aastore, 1))
    (kk : ∀ (H1 : Heap) (locs1 : List Loc), va_P D vwCl ((zm_ws ad dA h).set i (ad i, .inl (dA 4, n, .inr (.inr (.inr (.inr (va_up (fun j => (h.2.2.2 i j).map ad) j.toNatClampNeg (some (ad b))))))))) H1 → va_D A ((zm_ws ad dA h).set i (ad i, .inl (dA 4, n, .inr (.inr (.inr (.inr (va_up (fun j => (h.2.2.2 i j).map ad) j.toNatClampNeg (some (ad b))))))))) → va_S A H0 H1 locs1 → W p l e R s m args below meth c H1 locs1 cells slots Q (F0 m (pc + 1) ls rest)) : W p l e R s m args below meth c H locs cells slots Q (F0 m pc ls (.ref (ad b) :: .int j :: .ref (ad i) :: rest)) := by
  have hlt : j.toNatClampNeg < n := Nat.not_le.mp fun q => hin (Or.inr q)
  have h0 : ¬ j < 0 := fun q => hin (Or.inl q)
  obtain ⟨comp, cA, kA, a1, -, a3, a4, a5⟩ := arrayOverA_spec hAO
  have e4 : cA = dA 4 := Option.some.inj (a5.symm.trans (hK.2 4 _ rfl).2)
  have e0 : comp = dA 0 := Option.some.inj (a1.symm.trans (hK.2 0 _ rfl).2)
  subst e4
  subst e0
  have ha := zm_ws_arr (ad := ad) (dA := dA) hk
  rw [zm_arr_r] at ha
  have hvb := zm_ws_arr (ad := ad) (dA := dA) hkb
  rw [zm_arr_i (by decide) (by decide)] at hvb
  obtain ⟨-, k0, hk0, -⟩ := (hK.2 0 _ rfl).1 0 (fun _ => .null)
  have hk0 : s.vm.classes[dA 0]? = some k0 := hk0
  refine W.aast hexec hb (hP i _ ha) (fun q h => by cases h) (fun h => by cases h) a3 a4 rfl hk0 ⟨h0, by show _ < (arrV _ _ _).slots.size; rw [arrV_size]; exact hlt⟩ (hP b _ hvb) (fun q h => by cases h) hk0 (va_asg _ _) rfl rfl hdg fun H1 e z oq => ?_
  refine kk H1 _ (hP.set hD ha ?_ oq) (hD.set ha) (hS.put z oq (hD.2 i _ ha))
  show H1[ad i]? = some (vp_cell _ _)
  rw [e]
  rw [vp_cell_q, vp_cell_q, arrV_store]
  congr 2
  funext q
  by_cases hq : q = j.toNatClampNeg
  · subst hq
    simp [updV, va_up, va_rf]
  · simp [updV, va_up, hq]
theorem zm_newA_ok (hexec : p.tables.exec = Jvm.exec) (hb : c.code = cc) {own : String} {index : Nat} (hown : s.vm.findClass own = some m.cls) (hclink : (Cond.classLink own index (FieldType.array .int).toString).before args s = true) (hover : zm_AO s) (hK : va_K D vwCl (zm_tys dA) s) (hP : va_P D vwCl (zm_ws ad dA h) H) (hD : va_D A (zm_ws ad dA h)) (hS : va_S A H0 H locs) (hA : ∀ q, H0.size ≤ q → A q)
    {n : Int32} (hn : ¬ n < 0) (hbytes : n.toNatClampNeg * 4 ≤ 536870912) (hcells : cells + 1 ≤ R.cells) (hslots : slots + n.toNatClampNeg ≤ R.slots) (hdg : decode cc pc = .ok (.anewarray index, 3))
    (kk : ∀ (q : Nat) (H1 : Heap), va_P D vwCl (zm_ws ad dA h ++ [(q, .inl (dA 4, n.toNatClampNeg, .inr (.inr (.inr (.inr (fun _ => none))))))]) H1 → va_D A (zm_ws ad dA h ++ [(q, .inl (dA 4, n.toNatClampNeg, .inr (.inr (.inr (.inr (fun _ => none))))))]) → va_S A H0 H1 locs →
      W p l e R s m args below meth c H1 locs (cells + 1) (slots + n.toNatClampNeg) Q (F0 m (pc + 3) ls (.ref q :: rest))) : W p l e R s m args below meth c H locs cells slots Q (F0 m pc ls (.int n :: rest)) := by
  refine W.anewA hexec hb hown hclink hover rfl hdg rfl hn hbytes hcells hslots fun cA kA comp f1 f2 f3 f4 => ?_
  have e4 : cA = dA 4 := Option.some.inj (f1.symm.trans (hK.2 4 _ rfl).2)
  subst e4
  generalize hH1 : H.push ({ cls := dA 4, slots := Array.replicate n.toNatClampNeg .null, vm := .none } : Cell) = H1
  have z1 : H1.size = H.size + 1 := by rw [← hH1, Array.size_push]
  have e1 : H1[H.size]? = some (arrV (dA 4) n.toNatClampNeg (fun _ => .null)) := by rw [← hH1, Array.getElem?_push_size, ← arrV_new]
  have o1 : ∀ q : Nat, q < H.size → H1[q]? = H[q]? := fun q hq => by rw [← hH1, Array.getElem?_push, if_neg (Nat.ne_of_lt hq)]
  have hk : ∀ (k : Nat) (x : Nat × va_E), (zm_ws ad dA h)[k]? = some x → H1[x.1]? = H[x.1]? := fun k x hx => o1 x.1 ((hP k x hx).lt)
  refine kk H.size H1 ((hP.kept hk).app (fun k x hx => ?_)) (hD.push hP rfl (hA _ hS.1)) ⟨Nat.le_trans hS.1 (by omega), fun x h1 h2 => (o1 x (Nat.lt_of_lt_of_le h1 hS.1)).trans (hS.2.1 x h1 h2), hS.2.2⟩
  have hz : k < 1 := (List.getElem?_eq_some_iff.mp hx).1
  rw [show k = 0 by omega] at hx
  cases hx
  show H1[H.size]? = some (vp_cell _ _)
  rw [vp_cell_q]
  exact e1
end ZSR
