/-! ===== the ground on which a frame stands, and one step ===== -/
def zm_isN : Cond → Bool
  | .fieldLinkNest .. => true
  | .methodLinkNest .. => true
  | _ => false
def zm_AO (U : State) : Prop := (Cond.arrayOver (.array .int)).before #[] U = true
theorem zm_AO.moved {u U : State} (hvm : u.vm.Alike U.vm) (h : zm_AO u) : zm_AO U := by
  obtain ⟨comp, c, k, h1, h2, h3, h4, h5⟩ := arrayOverA_spec h
  obtain ⟨k', hk', he⟩ := hvm.2.2 _ _ h3
  have hbr : U.vm.bare = u.vm.bare := by first | exact hvm.bare_eq | exact hvm.bare_eq.symm
  have e1 := va_idx_bare U.vm comp
  rw [hbr] at e1
  have hi := e1.symm.trans ((va_idx_bare u.vm comp).trans h2)
  have hkind : k'.kind = .array comp (.array .int) := by rw [he]; exact h4
  have f1 : U.vm.findClass (FieldType.array .int).toString = some comp := by rw [hvm.findClass]; exact h1
  have f2 : U.vm.findClass ("[" ++ (FieldType.array .int).toString) = some c := by rw [hvm.findClass]; exact h5
  unfold zm_AO Cond.before Cond.holds
  simp only [Cond.value]
  rw [f1, Option.bind_some]
  refine (congrArg (fun o : Option Nat => (o.bind (fun c => (U.vm.classes[c]?).map fun (k : Class) => match k.kind with | .array _ ty => decide (ty = FieldType.array .int) && decide (U.vm.findClass ("[" ++ (FieldType.array .int).toString) = some c) | _ => false) == some true)) hi).trans ?_
  simp [hk', hkind, f2]
def zm_sln : List Nat := zm_sxs.map List.length
def zm_SI (A : Nat → Prop) (U : State) (H : Heap) : Prop := va_Zq "jdk/internal/util/Preconditions" "SIOOBE_FORMATTER" "Ljava/util/function/BiFunction;" A U H
def zm_Cx (x : zm_X) (D : va_G) (dA : Nat → ClassId) (adV : Nat → Nat) (N0 : Nat) (ad : Nat → Nat) (U : State) (H : Heap) : Prop :=
  va_K D vwCl (zm_tys dA) U ∧ (∀ w ∈ lw_tbl, zm_isN w = true → va_Nw w U) ∧ va_Z "NoddingRafts$Course" "WEIGHTS" "[I" (.ref (ad 1000000)) (zm_A N0) U H ∧ va_T .int (ad 1000000) 9 (fun j => .int (zm_wt j)) (zm_A N0) U H ∧ va_T .int (ad 1000001) x.1 (fun j => .int (x.2 j)) (zm_A N0) U H ∧
  (∀ (o : Nat) (q : zm_KP), q ∈ zm_kp o → q.2.1 = 1 → vk_R (zm_cn o) q.1 (zm_sw q.2.2.1.toNatClampNeg) (ad (2000000 + q.2.2.1.toNatClampNeg)) U) ∧ vk_S 3 zm_sln zm_sxs (fun i => ad (2000000 + i)) adV (zm_A N0) U H ∧ va_Z "java/lang/String" "COMPACT_STRINGS" "Z" (.int 1) (zm_A N0) U H ∧ zm_AO U ∧ zm_SI (zm_A N0) U H
def zm_Fx (p : Program) (s : State) (m0 : MethodId) (args : Array Value) (meth : Method) (c : Code) (mi : Nat) : Prop :=
  p.tables.exec = Jvm.exec ∧ c.code = zm_b mi ∧ c.maxLocals = zm_ml mi ∧ s.vm.findClass (zm_cn (zm_oc mi)) = some m0.cls ∧ (∀ w ∈ zm_GW, w.before args s = true) ∧ ((zm_mw mi).2.2.2.2.1 = 1 → meth.name = "<init>")
theorem zm_GW_in {w : Cond} (h : w ∈ lw_tbl) (hg : goodWord w = true) : w ∈ zm_GW := List.mem_filter.mpr ⟨h, hg⟩
theorem zm_any {α : Type} {l : List α} {f : α → Bool} (h : l.any f = true) : ∃ a, a ∈ l ∧ f a = true := List.any_eq_true.mp h
theorem zm_arr_i {ad : Nat → Nat} {h : zm_H} {t n i : Nat} (h3 : t ≠ 3) (h4 : t ≠ 4) : zm_ar ad h t n i = (n, .inl (h.2.1 i)) := by simp [zm_ar, h3, h4]
theorem zm_arr_l {ad : Nat → Nat} {h : zm_H} {n i : Nat} : zm_ar ad h 3 n i = (n, .inr (.inl (h.2.2.1 i))) := by simp [zm_ar]
theorem zm_arr_r {ad : Nat → Nat} {h : zm_H} {n i : Nat} : zm_ar ad h 4 n i = (n, .inr (.inr (.inr (.inr (fun j => (h.2.2.2 i j).map ad))))) := by simp [zm_ar]
theorem zm_rvc (ad : Nat → Nat) (r : Option Nat) : zm_c ad (zm_rv r) = va_rf (r.map ad) := by cases r <;> rfl
theorem zm_gfc (ad : Nat → Nat) (h : zm_H) (c i k : Nat) : zm_c ad (if zm_ft c k = 0 then Value.int (h.2.1 i k) else zm_rv (h.2.2.2 i k)) = zm_fv ad h c i k := by
  unfold zm_fv
  split
  · rfl
  · exact zm_rvc ad _
/-- what is stored into an array of whole numbers -/
theorem zm_si_ws {ad : Nat → Nat} {dA : Nat → ClassId} {h : zm_H} {i k t n : Nat} {v : Int32} (hq : h.1[i]? = some (.inl (t, n))) (h3 : t ≠ 3) (h4 : t ≠ 4) : zm_ws ad dA (zm_si h i k v) = (zm_ws ad dA h).set i (ad i, .inl (dA t, n, .inl (upd (h.2.1 i) k v))) := by
  rw [zm_ws_set (h := h) (h' := zm_si h i k v) (i := i) rfl (zm_lt hq) (fun j hj => zm_E_congr rfl (zm_u_ne hj) rfl rfl)]
  congr 2
  have e : (zm_si h i k v).1[i]? = some (.inl (t, n)) := hq
  simp only [zm_E, e]
  rw [zm_arr_i h3 h4]
  simp only [zm_si, zm_u_eq]
  rfl
theorem zm_sl_ws {ad : Nat → Nat} {dA : Nat → ClassId} {h : zm_H} {i k n : Nat} {v : Int64} (hq : h.1[i]? = some (.inl (3, n))) : zm_ws ad dA (zm_sl h i k v) = (zm_ws ad dA h).set i (ad i, .inl (dA 3, n, .inr (.inl (vp_updL (h.2.2.1 i) k v)))) := by
  rw [zm_ws_set (h := h) (h' := zm_sl h i k v) (i := i) rfl (zm_lt hq) (fun j hj => zm_E_congr rfl rfl rfl (zm_u_ne hj))]
  congr 2
  have e : (zm_sl h i k v).1[i]? = some (.inl (3, n)) := hq
  simp only [zm_E, e]
  rw [zm_arr_l]
  simp only [zm_sl, zm_u_eq]
  rfl
theorem zm_sr_ws {ad : Nat → Nat} {dA : Nat → ClassId} {h : zm_H} {i k n b : Nat} (hq : h.1[i]? = some (.inl (4, n))) : zm_ws ad dA (zm_sr h i k (some b)) = (zm_ws ad dA h).set i (ad i, .inl (dA 4, n, .inr (.inr (.inr (.inr (va_up (fun j => (h.2.2.2 i j).map ad) k (some (ad b)))))))) := by
  rw [zm_ws_set (h := h) (h' := zm_sr h i k (some b)) (i := i) rfl (zm_lt hq) (fun j hj => zm_E_congr rfl rfl (zm_u_ne hj) rfl)]
  congr 2
  have e : (zm_sr h i k (some b)).1[i]? = some (.inl (4, n)) := hq
  simp only [zm_E, e]
  rw [zm_arr_r]
  congr 7
  funext j
  simp only [zm_sr, zm_u_eq, va_up]
  split <;> rfl
theorem zm_pi_ws {ad : Nat → Nat} {dA : Nat → ClassId} {h : zm_H} {i k c : Nat} {v : Int32} (hq : h.1[i]? = some (.inr c)) (hk : k < zm_nf c) (h0 : zm_ft c k = 0) : zm_ws ad dA (zm_si h i k v) = (zm_ws ad dA h).set i (ad i, .inr (c, (zm_fs ad h c i).set k (.int v))) := by
  rw [zm_ws_set (h := h) (h' := zm_si h i k v) (i := i) rfl (zm_lt hq) (fun j hj => zm_E_congr rfl (zm_u_ne hj) rfl rfl)]
  have e : (zm_si h i k v).1[i]? = some (.inr c) := hq
  simp only [zm_E, e]
  rw [zm_fs_set (h := h) (h' := zm_si h i k v) hk (fun j hj => by simp [zm_fv, zm_si, zm_u_eq, hj])]
  have e2 : zm_fv ad (zm_si h i k v) c i k = .int v := by simp [zm_fv, zm_si, zm_u_eq, h0]
  rw [e2]
theorem zm_pr_ws {ad : Nat → Nat} {dA : Nat → ClassId} {h : zm_H} {i k c b : Nat} (hq : h.1[i]? = some (.inr c)) (hk : k < zm_nf c) (h0 : zm_ft c k = 1) : zm_ws ad dA (zm_sr h i k (some b)) = (zm_ws ad dA h).set i (ad i, .inr (c, (zm_fs ad h c i).set k (.ref (ad b)))) := by
  rw [zm_ws_set (h := h) (h' := zm_sr h i k (some b)) (i := i) rfl (zm_lt hq) (fun j hj => zm_E_congr rfl rfl (zm_u_ne hj) rfl)]
  have e : (zm_sr h i k (some b)).1[i]? = some (.inr c) := hq
  simp only [zm_E, e]
  rw [zm_fs_set (h := h) (h' := zm_sr h i k (some b)) hk (fun j hj => by simp [zm_fv, zm_sr, zm_u_eq, hj])]
  have e2 : zm_fv ad (zm_sr h i k (some b)) c i k = .ref (ad b) := by simp [zm_fv, zm_sr, zm_u_eq, h0, va_rf]
  rw [e2]
/-- the fields of the tables, by number -/
def zm_tyc (c k : Nat) : FieldType := match c with
  | 0 => tyX0 k
  | 1 => tyX1 k
  | 2 => tyX2 k
  | 3 => tyX3 k
  | 4 => tyX4 k
  | 5 => tyX5 k
  | 6 => tyX6 k
  | 7 => tyX7 k
  | 8 => tyX8 k
  | 9 => tyX9 k
  | 10 => tyX10 k
  | _ => tyX11 k
theorem zm_cls {c : Nat} (hc : c < 12) : vwCl[c]? = some (zm_ct c) ∧ (zm_ct c).2.2 = zm_nf c ∧ (∀ k, k < (zm_ct c).2.2 → parseFieldDescriptor ((zm_ct c).2.1 k).2.2.1 = some (zm_tyc c k)) ∧ (∀ a, a < (zm_ct c).2.2 → ∀ b, b < (zm_ct c).2.2 → a ≠ b → ((zm_ct c).2.1 a).2.1 ≠ ((zm_ct c).2.1 b).2.1) := by
  match c, hc with
  | 0, _ => exact ⟨rfl, rfl, tyX0_ok, nmX0⟩
  | 1, _ => exact ⟨rfl, rfl, tyX1_ok, nmX1⟩
  | 2, _ => exact ⟨rfl, rfl, tyX2_ok, nmX2⟩
  | 3, _ => exact ⟨rfl, rfl, tyX3_ok, nmX3⟩
  | 4, _ => exact ⟨rfl, rfl, tyX4_ok, nmX4⟩
  | 5, _ => exact ⟨rfl, rfl, tyX5_ok, nmX5⟩
  | 6, _ => exact ⟨rfl, rfl, tyX6_ok, nmX6⟩
  | 7, _ => exact ⟨rfl, rfl, tyX7_ok, nmX7⟩
  | 8, _ => exact ⟨rfl, rfl, tyX8_ok, nmX8⟩
  | 9, _ => exact ⟨rfl, rfl, tyX9_ok, nmX9⟩
  | 10, _ => exact ⟨rfl, rfl, tyX10_ok, nmX10⟩
  | 11, _ => exact ⟨rfl, rfl, tyX11_ok, nmX11⟩
  | n + 12, hc => exact absurd hc (by omega)
def zm_up_0 : List (Nat × Nat) := [(2, 236), (2, 238)]
set_option maxRecDepth 100000 in
theorem zm_uq_0 : ∀ k, k < (zm_ct 0).2.2 → (zm_tb (zm_up_0.getD k (0, 0)).1)[(zm_up_0.getD k (0, 0)).2]? = some (u_lay (zm_ct 0).1 (zm_ct 0).2.1 k) ∧ goodWord (u_lay (zm_ct 0).1 (zm_ct 0).2.1 k) = true := by decide +kernel
theorem zm_uw_0 : ∀ w ∈ u_ws (zm_ct 0).1 (zm_ct 0).2.1 (zm_ct 0).2.2, w ∈ lw_tbl ∧ goodWord w = true := by
  intro w hw
  obtain ⟨k, hk, e⟩ := List.mem_map.mp hw
  have h := zm_uq_0 k (List.mem_range.mp hk)
  rw [← e]
  exact ⟨zm_tb_at h.1, h.2⟩
def zm_up_1 : List (Nat × Nat) := [(2, 36), (2, 38), (2, 40), (2, 42), (2, 44), (2, 46), (2, 48), (2, 50), (2, 52), (2, 54), (2, 56), (2, 58), (2, 60), (2, 62), (2, 64), (2, 66), (2, 68)]
set_option maxRecDepth 100000 in
theorem zm_uq_1 : ∀ k, k < (zm_ct 1).2.2 → (zm_tb (zm_up_1.getD k (0, 0)).1)[(zm_up_1.getD k (0, 0)).2]? = some (u_lay (zm_ct 1).1 (zm_ct 1).2.1 k) ∧ goodWord (u_lay (zm_ct 1).1 (zm_ct 1).2.1 k) = true := by decide +kernel
theorem zm_uw_1 : ∀ w ∈ u_ws (zm_ct 1).1 (zm_ct 1).2.1 (zm_ct 1).2.2, w ∈ lw_tbl ∧ goodWord w = true := by
  intro w hw
  obtain ⟨k, hk, e⟩ := List.mem_map.mp hw
  have h := zm_uq_1 k (List.mem_range.mp hk)
  rw [← e]
  exact ⟨zm_tb_at h.1, h.2⟩
def zm_up_2 : List (Nat × Nat) := [(2, 193), (2, 195), (2, 197), (2, 199), (2, 201), (2, 203), (2, 205), (2, 207), (2, 209), (2, 211), (2, 213), (2, 215), (2, 217), (2, 219), (2, 221), (2, 223)]
set_option maxRecDepth 100000 in
theorem zm_uq_2 : ∀ k, k < (zm_ct 2).2.2 → (zm_tb (zm_up_2.getD k (0, 0)).1)[(zm_up_2.getD k (0, 0)).2]? = some (u_lay (zm_ct 2).1 (zm_ct 2).2.1 k) ∧ goodWord (u_lay (zm_ct 2).1 (zm_ct 2).2.1 k) = true := by decide +kernel
theorem zm_uw_2 : ∀ w ∈ u_ws (zm_ct 2).1 (zm_ct 2).2.1 (zm_ct 2).2.2, w ∈ lw_tbl ∧ goodWord w = true := by
  intro w hw
  obtain ⟨k, hk, e⟩ := List.mem_map.mp hw
  have h := zm_uq_2 k (List.mem_range.mp hk)
  rw [← e]
  exact ⟨zm_tb_at h.1, h.2⟩
def zm_up_3 : List (Nat × Nat) := [(2, 89), (2, 91), (2, 93), (2, 95), (2, 97), (2, 99), (2, 101), (2, 103), (2, 105), (2, 107), (2, 109)]
set_option maxRecDepth 100000 in
theorem zm_uq_3 : ∀ k, k < (zm_ct 3).2.2 → (zm_tb (zm_up_3.getD k (0, 0)).1)[(zm_up_3.getD k (0, 0)).2]? = some (u_lay (zm_ct 3).1 (zm_ct 3).2.1 k) ∧ goodWord (u_lay (zm_ct 3).1 (zm_ct 3).2.1 k) = true := by decide +kernel
theorem zm_uw_3 : ∀ w ∈ u_ws (zm_ct 3).1 (zm_ct 3).2.1 (zm_ct 3).2.2, w ∈ lw_tbl ∧ goodWord w = true := by
  intro w hw
  obtain ⟨k, hk, e⟩ := List.mem_map.mp hw
  have h := zm_uq_3 k (List.mem_range.mp hk)
  rw [← e]
  exact ⟨zm_tb_at h.1, h.2⟩
def zm_up_4 : List (Nat × Nat) := [(1, 197), (1, 199), (1, 201), (1, 203), (1, 205), (1, 207), (1, 209), (1, 211), (1, 213), (1, 215)]
set_option maxRecDepth 100000 in
theorem zm_uq_4 : ∀ k, k < (zm_ct 4).2.2 → (zm_tb (zm_up_4.getD k (0, 0)).1)[(zm_up_4.getD k (0, 0)).2]? = some (u_lay (zm_ct 4).1 (zm_ct 4).2.1 k) ∧ goodWord (u_lay (zm_ct 4).1 (zm_ct 4).2.1 k) = true := by decide +kernel
theorem zm_uw_4 : ∀ w ∈ u_ws (zm_ct 4).1 (zm_ct 4).2.1 (zm_ct 4).2.2, w ∈ lw_tbl ∧ goodWord w = true := by
  intro w hw
  obtain ⟨k, hk, e⟩ := List.mem_map.mp hw
  have h := zm_uq_4 k (List.mem_range.mp hk)
  rw [← e]
  exact ⟨zm_tb_at h.1, h.2⟩
def zm_up_5 : List (Nat × Nat) := [(2, 136), (2, 138), (2, 140), (2, 142), (2, 144), (2, 146), (2, 148), (2, 150), (2, 152), (2, 154), (2, 156), (2, 158), (2, 160), (2, 162), (2, 164)]
set_option maxRecDepth 100000 in
theorem zm_uq_5 : ∀ k, k < (zm_ct 5).2.2 → (zm_tb (zm_up_5.getD k (0, 0)).1)[(zm_up_5.getD k (0, 0)).2]? = some (u_lay (zm_ct 5).1 (zm_ct 5).2.1 k) ∧ goodWord (u_lay (zm_ct 5).1 (zm_ct 5).2.1 k) = true := by decide +kernel
theorem zm_uw_5 : ∀ w ∈ u_ws (zm_ct 5).1 (zm_ct 5).2.1 (zm_ct 5).2.2, w ∈ lw_tbl ∧ goodWord w = true := by
  intro w hw
  obtain ⟨k, hk, e⟩ := List.mem_map.mp hw
  have h := zm_uq_5 k (List.mem_range.mp hk)
  rw [← e]
  exact ⟨zm_tb_at h.1, h.2⟩
def zm_up_6 : List (Nat × Nat) := [(1, 145), (1, 147), (1, 149), (1, 151), (1, 153), (1, 155), (1, 157), (1, 159), (1, 161), (1, 163)]
set_option maxRecDepth 100000 in
theorem zm_uq_6 : ∀ k, k < (zm_ct 6).2.2 → (zm_tb (zm_up_6.getD k (0, 0)).1)[(zm_up_6.getD k (0, 0)).2]? = some (u_lay (zm_ct 6).1 (zm_ct 6).2.1 k) ∧ goodWord (u_lay (zm_ct 6).1 (zm_ct 6).2.1 k) = true := by decide +kernel
theorem zm_uw_6 : ∀ w ∈ u_ws (zm_ct 6).1 (zm_ct 6).2.1 (zm_ct 6).2.2, w ∈ lw_tbl ∧ goodWord w = true := by
  intro w hw
  obtain ⟨k, hk, e⟩ := List.mem_map.mp hw
  have h := zm_uq_6 k (List.mem_range.mp hk)
  rw [← e]
  exact ⟨zm_tb_at h.1, h.2⟩
def zm_up_7 : List (Nat × Nat) := [(1, 52), (1, 54), (1, 56), (1, 58), (1, 60), (1, 62), (1, 64), (1, 66), (1, 68), (1, 70)]
set_option maxRecDepth 100000 in
theorem zm_uq_7 : ∀ k, k < (zm_ct 7).2.2 → (zm_tb (zm_up_7.getD k (0, 0)).1)[(zm_up_7.getD k (0, 0)).2]? = some (u_lay (zm_ct 7).1 (zm_ct 7).2.1 k) ∧ goodWord (u_lay (zm_ct 7).1 (zm_ct 7).2.1 k) = true := by decide +kernel
theorem zm_uw_7 : ∀ w ∈ u_ws (zm_ct 7).1 (zm_ct 7).2.1 (zm_ct 7).2.2, w ∈ lw_tbl ∧ goodWord w = true := by
  intro w hw
  obtain ⟨k, hk, e⟩ := List.mem_map.mp hw
  have h := zm_uq_7 k (List.mem_range.mp hk)
  rw [← e]
  exact ⟨zm_tb_at h.1, h.2⟩
def zm_up_8 : List (Nat × Nat) := [(1, 98), (1, 100), (1, 102), (1, 104), (1, 106), (1, 108), (1, 110), (1, 112), (1, 114), (1, 116), (1, 118), (1, 120), (1, 122)]
set_option maxRecDepth 100000 in
theorem zm_uq_8 : ∀ k, k < (zm_ct 8).2.2 → (zm_tb (zm_up_8.getD k (0, 0)).1)[(zm_up_8.getD k (0, 0)).2]? = some (u_lay (zm_ct 8).1 (zm_ct 8).2.1 k) ∧ goodWord (u_lay (zm_ct 8).1 (zm_ct 8).2.1 k) = true := by decide +kernel
theorem zm_uw_8 : ∀ w ∈ u_ws (zm_ct 8).1 (zm_ct 8).2.1 (zm_ct 8).2.2, w ∈ lw_tbl ∧ goodWord w = true := by
  intro w hw
  obtain ⟨k, hk, e⟩ := List.mem_map.mp hw
  have h := zm_uq_8 k (List.mem_range.mp hk)
  rw [← e]
  exact ⟨zm_tb_at h.1, h.2⟩
def zm_up_9 : List (Nat × Nat) := [(1, 233), (1, 235), (1, 237), (1, 239), (2, 1)]
set_option maxRecDepth 100000 in
theorem zm_uq_9 : ∀ k, k < (zm_ct 9).2.2 → (zm_tb (zm_up_9.getD k (0, 0)).1)[(zm_up_9.getD k (0, 0)).2]? = some (u_lay (zm_ct 9).1 (zm_ct 9).2.1 k) ∧ goodWord (u_lay (zm_ct 9).1 (zm_ct 9).2.1 k) = true := by decide +kernel
theorem zm_uw_9 : ∀ w ∈ u_ws (zm_ct 9).1 (zm_ct 9).2.1 (zm_ct 9).2.2, w ∈ lw_tbl ∧ goodWord w = true := by
  intro w hw
  obtain ⟨k, hk, e⟩ := List.mem_map.mp hw
  have h := zm_uq_9 k (List.mem_range.mp hk)
  rw [← e]
  exact ⟨zm_tb_at h.1, h.2⟩
def zm_up_10 : List (Nat × Nat) := [(3, 17), (3, 19), (3, 21), (3, 23), (3, 25), (3, 27), (3, 29), (3, 31), (3, 33), (3, 35), (3, 37), (3, 39), (3, 41), (3, 43), (3, 45), (3, 47)]
set_option maxRecDepth 100000 in
theorem zm_uq_10 : ∀ k, k < (zm_ct 10).2.2 → (zm_tb (zm_up_10.getD k (0, 0)).1)[(zm_up_10.getD k (0, 0)).2]? = some (u_lay (zm_ct 10).1 (zm_ct 10).2.1 k) ∧ goodWord (u_lay (zm_ct 10).1 (zm_ct 10).2.1 k) = true := by decide +kernel
theorem zm_uw_10 : ∀ w ∈ u_ws (zm_ct 10).1 (zm_ct 10).2.1 (zm_ct 10).2.2, w ∈ lw_tbl ∧ goodWord w = true := by
  intro w hw
  obtain ⟨k, hk, e⟩ := List.mem_map.mp hw
  have h := zm_uq_10 k (List.mem_range.mp hk)
  rw [← e]
  exact ⟨zm_tb_at h.1, h.2⟩
def zm_up_11 : List (Nat × Nat) := [(7, 16), (7, 18), (7, 20), (7, 22), (7, 24), (7, 26), (7, 28), (7, 30), (7, 32), (7, 34), (7, 36), (7, 38), (7, 40), (7, 42), (7, 44), (7, 46), (7, 48), (7, 50), (7, 52), (7, 54), (7, 56), (7, 58), (7, 60), (7, 62), (7, 64), (7, 66), (7, 68), (7, 70), (7, 72), (7, 74), (7, 76), (7, 78), (7, 80), (7, 82), (7, 84), (7, 86), (7, 88), (7, 90), (7, 92), (7, 94), (7, 96), (7, 98), (7, 100), (7, 102), (7, 104), (7, 106), (7, 108), (7, 110), (7, 112), (7, 114), (7, 116), (7, 118), (7, 120), (7, 122), (7, 124), (7, 126), (7, 128), (7, 130), (7, 132), (7, 134), (7, 136), (7, 138), (7, 140), (7, 142), (7, 144), (7, 146), (7, 148), (7, 150), (7, 152), (7, 154), (7, 156), (7, 158), (7, 160), (7, 162), (7, 164), (7, 166), (7, 168), (7, 170), (7, 172), (7, 174), (7, 176), (7, 178), (7, 180), (7, 182), (7, 184), (7, 186), (7, 188), (7, 190), (7, 192), (7, 194), (7, 196), (7, 198), (7, 200), (7, 202), (7, 204), (7, 206), (7, 208)]
set_option maxRecDepth 100000 in
theorem zm_uq_11 : ∀ k, k < (zm_ct 11).2.2 → (zm_tb (zm_up_11.getD k (0, 0)).1)[(zm_up_11.getD k (0, 0)).2]? = some (u_lay (zm_ct 11).1 (zm_ct 11).2.1 k) ∧ goodWord (u_lay (zm_ct 11).1 (zm_ct 11).2.1 k) = true := by decide +kernel
theorem zm_uw_11 : ∀ w ∈ u_ws (zm_ct 11).1 (zm_ct 11).2.1 (zm_ct 11).2.2, w ∈ lw_tbl ∧ goodWord w = true := by
  intro w hw
  obtain ⟨k, hk, e⟩ := List.mem_map.mp hw
  have h := zm_uq_11 k (List.mem_range.mp hk)
  rw [← e]
  exact ⟨zm_tb_at h.1, h.2⟩
theorem zm_uw {c : Nat} (hc : c < 12) : ∀ w ∈ u_ws (zm_ct c).1 (zm_ct c).2.1 (zm_ct c).2.2, w ∈ zm_GW := by
  have key : ∀ w ∈ u_ws (zm_ct c).1 (zm_ct c).2.1 (zm_ct c).2.2, w ∈ lw_tbl ∧ goodWord w = true := by
    match c, hc with
    | 0, _ => exact zm_uw_0
    | 1, _ => exact zm_uw_1
    | 2, _ => exact zm_uw_2
    | 3, _ => exact zm_uw_3
    | 4, _ => exact zm_uw_4
    | 5, _ => exact zm_uw_5
    | 6, _ => exact zm_uw_6
    | 7, _ => exact zm_uw_7
    | 8, _ => exact zm_uw_8
    | 9, _ => exact zm_uw_9
    | 10, _ => exact zm_uw_10
    | 11, _ => exact zm_uw_11
    | n + 12, hc => exact absurd hc (by omega)
  exact fun w hw => zm_GW_in (key w hw).1 (key w hw).2
def zm_tyk (c k : Nat) : Prop := (zm_ft c k = 0 ∧ zm_tyc c k = .int) ∨ (zm_ft c k = 1 ∧ ((∃ n, zm_tyc c k = .object n) ∨ ∃ t, zm_tyc c k = .array t))
theorem zm_tyk_0 : ∀ k, k < zm_nf 0 → zm_tyk 0 k := by
  intro k hk
  have e : zm_nf 0 = 2 := by rfl
  rw [e] at hk
  match k, hk with
  | 0, _ => first | exact Or.inl ⟨rfl, rfl⟩ | exact Or.inr ⟨rfl, Or.inr ⟨_, rfl⟩⟩ | exact Or.inr ⟨rfl, Or.inl ⟨_, rfl⟩⟩
  | 1, _ => first | exact Or.inl ⟨rfl, rfl⟩ | exact Or.inr ⟨rfl, Or.inr ⟨_, rfl⟩⟩ | exact Or.inr ⟨rfl, Or.inl ⟨_, rfl⟩⟩
  | n + 2, hk => exact absurd hk (by omega)
theorem zm_tyk_1 : ∀ k, k < zm_nf 1 → zm_tyk 1 k := by
  intro k hk
  have e : zm_nf 1 = 17 := by rfl
  rw [e] at hk
  match k, hk with
  | 0, _ => first | exact Or.inl ⟨rfl, rfl⟩ | exact Or.inr ⟨rfl, Or.inr ⟨_, rfl⟩⟩ | exact Or.inr ⟨rfl, Or.inl ⟨_, rfl⟩⟩
  | 1, _ => first | exact Or.inl ⟨rfl, rfl⟩ | exact Or.inr ⟨rfl, Or.inr ⟨_, rfl⟩⟩ | exact Or.inr ⟨rfl, Or.inl ⟨_, rfl⟩⟩
  | 2, _ => first | exact Or.inl ⟨rfl, rfl⟩ | exact Or.inr ⟨rfl, Or.inr ⟨_, rfl⟩⟩ | exact Or.inr ⟨rfl, Or.inl ⟨_, rfl⟩⟩
  | 3, _ => first | exact Or.inl ⟨rfl, rfl⟩ | exact Or.inr ⟨rfl, Or.inr ⟨_, rfl⟩⟩ | exact Or.inr ⟨rfl, Or.inl ⟨_, rfl⟩⟩
  | 4, _ => first | exact Or.inl ⟨rfl, rfl⟩ | exact Or.inr ⟨rfl, Or.inr ⟨_, rfl⟩⟩ | exact Or.inr ⟨rfl, Or.inl ⟨_, rfl⟩⟩
  | 5, _ => first | exact Or.inl ⟨rfl, rfl⟩ | exact Or.inr ⟨rfl, Or.inr ⟨_, rfl⟩⟩ | exact Or.inr ⟨rfl, Or.inl ⟨_, rfl⟩⟩
  | 6, _ => first | exact Or.inl ⟨rfl, rfl⟩ | exact Or.inr ⟨rfl, Or.inr ⟨_, rfl⟩⟩ | exact Or.inr ⟨rfl, Or.inl ⟨_, rfl⟩⟩
  | 7, _ => first | exact Or.inl ⟨rfl, rfl⟩ | exact Or.inr ⟨rfl, Or.inr ⟨_, rfl⟩⟩ | exact Or.inr ⟨rfl, Or.inl ⟨_, rfl⟩⟩
  | 8, _ => first | exact Or.inl ⟨rfl, rfl⟩ | exact Or.inr ⟨rfl, Or.inr ⟨_, rfl⟩⟩ | exact Or.inr ⟨rfl, Or.inl ⟨_, rfl⟩⟩
  | 9, _ => first | exact Or.inl ⟨rfl, rfl⟩ | exact Or.inr ⟨rfl, Or.inr ⟨_, rfl⟩⟩ | exact Or.inr ⟨rfl, Or.inl ⟨_, rfl⟩⟩
  | 10, _ => first | exact Or.inl ⟨rfl, rfl⟩ | exact Or.inr ⟨rfl, Or.inr ⟨_, rfl⟩⟩ | exact Or.inr ⟨rfl, Or.inl ⟨_, rfl⟩⟩
  | 11, _ => first | exact Or.inl ⟨rfl, rfl⟩ | exact Or.inr ⟨rfl, Or.inr ⟨_, rfl⟩⟩ | exact Or.inr ⟨rfl, Or.inl ⟨_, rfl⟩⟩
  | 12, _ => first | exact Or.inl ⟨rfl, rfl⟩ | exact Or.inr ⟨rfl, Or.inr ⟨_, rfl⟩⟩ | exact Or.inr ⟨rfl, Or.inl ⟨_, rfl⟩⟩
  | 13, _ => first | exact Or.inl ⟨rfl, rfl⟩ | exact Or.inr ⟨rfl, Or.inr ⟨_, rfl⟩⟩ | exact Or.inr ⟨rfl, Or.inl ⟨_, rfl⟩⟩
  | 14, _ => first | exact Or.inl ⟨rfl, rfl⟩ | exact Or.inr ⟨rfl, Or.inr ⟨_, rfl⟩⟩ | exact Or.inr ⟨rfl, Or.inl ⟨_, rfl⟩⟩
  | 15, _ => first | exact Or.inl ⟨rfl, rfl⟩ | exact Or.inr ⟨rfl, Or.inr ⟨_, rfl⟩⟩ | exact Or.inr ⟨rfl, Or.inl ⟨_, rfl⟩⟩
  | 16, _ => first | exact Or.inl ⟨rfl, rfl⟩ | exact Or.inr ⟨rfl, Or.inr ⟨_, rfl⟩⟩ | exact Or.inr ⟨rfl, Or.inl ⟨_, rfl⟩⟩
  | n + 17, hk => exact absurd hk (by omega)
theorem zm_tyk_2 : ∀ k, k < zm_nf 2 → zm_tyk 2 k := by
  intro k hk
  have e : zm_nf 2 = 16 := by rfl
  rw [e] at hk
  match k, hk with
  | 0, _ => first | exact Or.inl ⟨rfl, rfl⟩ | exact Or.inr ⟨rfl, Or.inr ⟨_, rfl⟩⟩ | exact Or.inr ⟨rfl, Or.inl ⟨_, rfl⟩⟩
  | 1, _ => first | exact Or.inl ⟨rfl, rfl⟩ | exact Or.inr ⟨rfl, Or.inr ⟨_, rfl⟩⟩ | exact Or.inr ⟨rfl, Or.inl ⟨_, rfl⟩⟩
  | 2, _ => first | exact Or.inl ⟨rfl, rfl⟩ | exact Or.inr ⟨rfl, Or.inr ⟨_, rfl⟩⟩ | exact Or.inr ⟨rfl, Or.inl ⟨_, rfl⟩⟩
  | 3, _ => first | exact Or.inl ⟨rfl, rfl⟩ | exact Or.inr ⟨rfl, Or.inr ⟨_, rfl⟩⟩ | exact Or.inr ⟨rfl, Or.inl ⟨_, rfl⟩⟩
  | 4, _ => first | exact Or.inl ⟨rfl, rfl⟩ | exact Or.inr ⟨rfl, Or.inr ⟨_, rfl⟩⟩ | exact Or.inr ⟨rfl, Or.inl ⟨_, rfl⟩⟩
  | 5, _ => first | exact Or.inl ⟨rfl, rfl⟩ | exact Or.inr ⟨rfl, Or.inr ⟨_, rfl⟩⟩ | exact Or.inr ⟨rfl, Or.inl ⟨_, rfl⟩⟩
  | 6, _ => first | exact Or.inl ⟨rfl, rfl⟩ | exact Or.inr ⟨rfl, Or.inr ⟨_, rfl⟩⟩ | exact Or.inr ⟨rfl, Or.inl ⟨_, rfl⟩⟩
  | 7, _ => first | exact Or.inl ⟨rfl, rfl⟩ | exact Or.inr ⟨rfl, Or.inr ⟨_, rfl⟩⟩ | exact Or.inr ⟨rfl, Or.inl ⟨_, rfl⟩⟩
  | 8, _ => first | exact Or.inl ⟨rfl, rfl⟩ | exact Or.inr ⟨rfl, Or.inr ⟨_, rfl⟩⟩ | exact Or.inr ⟨rfl, Or.inl ⟨_, rfl⟩⟩
  | 9, _ => first | exact Or.inl ⟨rfl, rfl⟩ | exact Or.inr ⟨rfl, Or.inr ⟨_, rfl⟩⟩ | exact Or.inr ⟨rfl, Or.inl ⟨_, rfl⟩⟩
  | 10, _ => first | exact Or.inl ⟨rfl, rfl⟩ | exact Or.inr ⟨rfl, Or.inr ⟨_, rfl⟩⟩ | exact Or.inr ⟨rfl, Or.inl ⟨_, rfl⟩⟩
  | 11, _ => first | exact Or.inl ⟨rfl, rfl⟩ | exact Or.inr ⟨rfl, Or.inr ⟨_, rfl⟩⟩ | exact Or.inr ⟨rfl, Or.inl ⟨_, rfl⟩⟩
  | 12, _ => first | exact Or.inl ⟨rfl, rfl⟩ | exact Or.inr ⟨rfl, Or.inr ⟨_, rfl⟩⟩ | exact Or.inr ⟨rfl, Or.inl ⟨_, rfl⟩⟩
  | 13, _ => first | exact Or.inl ⟨rfl, rfl⟩ | exact Or.inr ⟨rfl, Or.inr ⟨_, rfl⟩⟩ | exact Or.inr ⟨rfl, Or.inl ⟨_, rfl⟩⟩
  | 14, _ => first | exact Or.inl ⟨rfl, rfl⟩ | exact Or.inr ⟨rfl, Or.inr ⟨_, rfl⟩⟩ | exact Or.inr ⟨rfl, Or.inl ⟨_, rfl⟩⟩
  | 15, _ => first | exact Or.inl ⟨rfl, rfl⟩ | exact Or.inr ⟨rfl, Or.inr ⟨_, rfl⟩⟩ | exact Or.inr ⟨rfl, Or.inl ⟨_, rfl⟩⟩
  | n + 16, hk => exact absurd hk (by omega)
theorem zm_tyk_3 : ∀ k, k < zm_nf 3 → zm_tyk 3 k := by
  intro k hk
  have e : zm_nf 3 = 11 := by rfl
  rw [e] at hk
  match k, hk with
  | 0, _ => first | exact Or.inl ⟨rfl, rfl⟩ | exact Or.inr ⟨rfl, Or.inr ⟨_, rfl⟩⟩ | exact Or.inr ⟨rfl, Or.inl ⟨_, rfl⟩⟩
  | 1, _ => first | exact Or.inl ⟨rfl, rfl⟩ | exact Or.inr ⟨rfl, Or.inr ⟨_, rfl⟩⟩ | exact Or.inr ⟨rfl, Or.inl ⟨_, rfl⟩⟩
  | 2, _ => first | exact Or.inl ⟨rfl, rfl⟩ | exact Or.inr ⟨rfl, Or.inr ⟨_, rfl⟩⟩ | exact Or.inr ⟨rfl, Or.inl ⟨_, rfl⟩⟩
  | 3, _ => first | exact Or.inl ⟨rfl, rfl⟩ | exact Or.inr ⟨rfl, Or.inr ⟨_, rfl⟩⟩ | exact Or.inr ⟨rfl, Or.inl ⟨_, rfl⟩⟩
  | 4, _ => first | exact Or.inl ⟨rfl, rfl⟩ | exact Or.inr ⟨rfl, Or.inr ⟨_, rfl⟩⟩ | exact Or.inr ⟨rfl, Or.inl ⟨_, rfl⟩⟩
  | 5, _ => first | exact Or.inl ⟨rfl, rfl⟩ | exact Or.inr ⟨rfl, Or.inr ⟨_, rfl⟩⟩ | exact Or.inr ⟨rfl, Or.inl ⟨_, rfl⟩⟩
  | 6, _ => first | exact Or.inl ⟨rfl, rfl⟩ | exact Or.inr ⟨rfl, Or.inr ⟨_, rfl⟩⟩ | exact Or.inr ⟨rfl, Or.inl ⟨_, rfl⟩⟩
  | 7, _ => first | exact Or.inl ⟨rfl, rfl⟩ | exact Or.inr ⟨rfl, Or.inr ⟨_, rfl⟩⟩ | exact Or.inr ⟨rfl, Or.inl ⟨_, rfl⟩⟩
  | 8, _ => first | exact Or.inl ⟨rfl, rfl⟩ | exact Or.inr ⟨rfl, Or.inr ⟨_, rfl⟩⟩ | exact Or.inr ⟨rfl, Or.inl ⟨_, rfl⟩⟩
  | 9, _ => first | exact Or.inl ⟨rfl, rfl⟩ | exact Or.inr ⟨rfl, Or.inr ⟨_, rfl⟩⟩ | exact Or.inr ⟨rfl, Or.inl ⟨_, rfl⟩⟩
  | 10, _ => first | exact Or.inl ⟨rfl, rfl⟩ | exact Or.inr ⟨rfl, Or.inr ⟨_, rfl⟩⟩ | exact Or.inr ⟨rfl, Or.inl ⟨_, rfl⟩⟩
  | n + 11, hk => exact absurd hk (by omega)
theorem zm_tyk_4 : ∀ k, k < zm_nf 4 → zm_tyk 4 k := by
  intro k hk
  have e : zm_nf 4 = 10 := by rfl
  rw [e] at hk
  match k, hk with
  | 0, _ => first | exact Or.inl ⟨rfl, rfl⟩ | exact Or.inr ⟨rfl, Or.inr ⟨_, rfl⟩⟩ | exact Or.inr ⟨rfl, Or.inl ⟨_, rfl⟩⟩
  | 1, _ => first | exact Or.inl ⟨rfl, rfl⟩ | exact Or.inr ⟨rfl, Or.inr ⟨_, rfl⟩⟩ | exact Or.inr ⟨rfl, Or.inl ⟨_, rfl⟩⟩
  | 2, _ => first | exact Or.inl ⟨rfl, rfl⟩ | exact Or.inr ⟨rfl, Or.inr ⟨_, rfl⟩⟩ | exact Or.inr ⟨rfl, Or.inl ⟨_, rfl⟩⟩
  | 3, _ => first | exact Or.inl ⟨rfl, rfl⟩ | exact Or.inr ⟨rfl, Or.inr ⟨_, rfl⟩⟩ | exact Or.inr ⟨rfl, Or.inl ⟨_, rfl⟩⟩
  | 4, _ => first | exact Or.inl ⟨rfl, rfl⟩ | exact Or.inr ⟨rfl, Or.inr ⟨_, rfl⟩⟩ | exact Or.inr ⟨rfl, Or.inl ⟨_, rfl⟩⟩
  | 5, _ => first | exact Or.inl ⟨rfl, rfl⟩ | exact Or.inr ⟨rfl, Or.inr ⟨_, rfl⟩⟩ | exact Or.inr ⟨rfl, Or.inl ⟨_, rfl⟩⟩
  | 6, _ => first | exact Or.inl ⟨rfl, rfl⟩ | exact Or.inr ⟨rfl, Or.inr ⟨_, rfl⟩⟩ | exact Or.inr ⟨rfl, Or.inl ⟨_, rfl⟩⟩
  | 7, _ => first | exact Or.inl ⟨rfl, rfl⟩ | exact Or.inr ⟨rfl, Or.inr ⟨_, rfl⟩⟩ | exact Or.inr ⟨rfl, Or.inl ⟨_, rfl⟩⟩
  | 8, _ => first | exact Or.inl ⟨rfl, rfl⟩ | exact Or.inr ⟨rfl, Or.inr ⟨_, rfl⟩⟩ | exact Or.inr ⟨rfl, Or.inl ⟨_, rfl⟩⟩
  | 9, _ => first | exact Or.inl ⟨rfl, rfl⟩ | exact Or.inr ⟨rfl, Or.inr ⟨_, rfl⟩⟩ | exact Or.inr ⟨rfl, Or.inl ⟨_, rfl⟩⟩
  | n + 10, hk => exact absurd hk (by omega)
theorem zm_tyk_5 : ∀ k, k < zm_nf 5 → zm_tyk 5 k := by
  intro k hk
  have e : zm_nf 5 = 15 := by rfl
  rw [e] at hk
  match k, hk with
  | 0, _ => first | exact Or.inl ⟨rfl, rfl⟩ | exact Or.inr ⟨rfl, Or.inr ⟨_, rfl⟩⟩ | exact Or.inr ⟨rfl, Or.inl ⟨_, rfl⟩⟩
  | 1, _ => first | exact Or.inl ⟨rfl, rfl⟩ | exact Or.inr ⟨rfl, Or.inr ⟨_, rfl⟩⟩ | exact Or.inr ⟨rfl, Or.inl ⟨_, rfl⟩⟩
  | 2, _ => first | exact Or.inl ⟨rfl, rfl⟩ | exact Or.inr ⟨rfl, Or.inr ⟨_, rfl⟩⟩ | exact Or.inr ⟨rfl, Or.inl ⟨_, rfl⟩⟩
  | 3, _ => first | exact Or.inl ⟨rfl, rfl⟩ | exact Or.inr ⟨rfl, Or.inr ⟨_, rfl⟩⟩ | exact Or.inr ⟨rfl, Or.inl ⟨_, rfl⟩⟩
  | 4, _ => first | exact Or.inl ⟨rfl, rfl⟩ | exact Or.inr ⟨rfl, Or.inr ⟨_, rfl⟩⟩ | exact Or.inr ⟨rfl, Or.inl ⟨_, rfl⟩⟩
  | 5, _ => first | exact Or.inl ⟨rfl, rfl⟩ | exact Or.inr ⟨rfl, Or.inr ⟨_, rfl⟩⟩ | exact Or.inr ⟨rfl, Or.inl ⟨_, rfl⟩⟩
  | 6, _ => first | exact Or.inl ⟨rfl, rfl⟩ | exact Or.inr ⟨rfl, Or.inr ⟨_, rfl⟩⟩ | exact Or.inr ⟨rfl, Or.inl ⟨_, rfl⟩⟩
  | 7, _ => first | exact Or.inl ⟨rfl, rfl⟩ | exact Or.inr ⟨rfl, Or.inr ⟨_, rfl⟩⟩ | exact Or.inr ⟨rfl, Or.inl ⟨_, rfl⟩⟩
  | 8, _ => first | exact Or.inl ⟨rfl, rfl⟩ | exact Or.inr ⟨rfl, Or.inr ⟨_, rfl⟩⟩ | exact Or.inr ⟨rfl, Or.inl ⟨_, rfl⟩⟩
  | 9, _ => first | exact Or.inl ⟨rfl, rfl⟩ | exact Or.inr ⟨rfl, Or.inr ⟨_, rfl⟩⟩ | exact Or.inr ⟨rfl, Or.inl ⟨_, rfl⟩⟩
  | 10, _ => first | exact Or.inl ⟨rfl, rfl⟩ | exact Or.inr ⟨rfl, Or.inr ⟨_, rfl⟩⟩ | exact Or.inr ⟨rfl, Or.inl ⟨_, rfl⟩⟩
  | 11, _ => first | exact Or.inl ⟨rfl, rfl⟩ | exact Or.inr ⟨rfl, Or.inr ⟨_, rfl⟩⟩ | exact Or.inr ⟨rfl, Or.inl ⟨_, rfl⟩⟩
  | 12, _ => first | exact Or.inl ⟨rfl, rfl⟩ | exact Or.inr ⟨rfl, Or.inr ⟨_, rfl⟩⟩ | exact Or.inr ⟨rfl, Or.inl ⟨_, rfl⟩⟩
  | 13, _ => first | exact Or.inl ⟨rfl, rfl⟩ | exact Or.inr ⟨rfl, Or.inr ⟨_, rfl⟩⟩ | exact Or.inr ⟨rfl, Or.inl ⟨_, rfl⟩⟩
  | 14, _ => first | exact Or.inl ⟨rfl, rfl⟩ | exact Or.inr ⟨rfl, Or.inr ⟨_, rfl⟩⟩ | exact Or.inr ⟨rfl, Or.inl ⟨_, rfl⟩⟩
  | n + 15, hk => exact absurd hk (by omega)
theorem zm_tyk_6 : ∀ k, k < zm_nf 6 → zm_tyk 6 k := by
  intro k hk
  have e : zm_nf 6 = 10 := by rfl
  rw [e] at hk
  match k, hk with
  | 0, _ => first | exact Or.inl ⟨rfl, rfl⟩ | exact Or.inr ⟨rfl, Or.inr ⟨_, rfl⟩⟩ | exact Or.inr ⟨rfl, Or.inl ⟨_, rfl⟩⟩
  | 1, _ => first | exact Or.inl ⟨rfl, rfl⟩ | exact Or.inr ⟨rfl, Or.inr ⟨_, rfl⟩⟩ | exact Or.inr ⟨rfl, Or.inl ⟨_, rfl⟩⟩
  | 2, _ => first | exact Or.inl ⟨rfl, rfl⟩ | exact Or.inr ⟨rfl, Or.inr ⟨_, rfl⟩⟩ | exact Or.inr ⟨rfl, Or.inl ⟨_, rfl⟩⟩
  | 3, _ => first | exact Or.inl ⟨rfl, rfl⟩ | exact Or.inr ⟨rfl, Or.inr ⟨_, rfl⟩⟩ | exact Or.inr ⟨rfl, Or.inl ⟨_, rfl⟩⟩
  | 4, _ => first | exact Or.inl ⟨rfl, rfl⟩ | exact Or.inr ⟨rfl, Or.inr ⟨_, rfl⟩⟩ | exact Or.inr ⟨rfl, Or.inl ⟨_, rfl⟩⟩
  | 5, _ => first | exact Or.inl ⟨rfl, rfl⟩ | exact Or.inr ⟨rfl, Or.inr ⟨_, rfl⟩⟩ | exact Or.inr ⟨rfl, Or.inl ⟨_, rfl⟩⟩
  | 6, _ => first | exact Or.inl ⟨rfl, rfl⟩ | exact Or.inr ⟨rfl, Or.inr ⟨_, rfl⟩⟩ | exact Or.inr ⟨rfl, Or.inl ⟨_, rfl⟩⟩
  | 7, _ => first | exact Or.inl ⟨rfl, rfl⟩ | exact Or.inr ⟨rfl, Or.inr ⟨_, rfl⟩⟩ | exact Or.inr ⟨rfl, Or.inl ⟨_, rfl⟩⟩
  | 8, _ => first | exact Or.inl ⟨rfl, rfl⟩ | exact Or.inr ⟨rfl, Or.inr ⟨_, rfl⟩⟩ | exact Or.inr ⟨rfl, Or.inl ⟨_, rfl⟩⟩
  | 9, _ => first | exact Or.inl ⟨rfl, rfl⟩ | exact Or.inr ⟨rfl, Or.inr ⟨_, rfl⟩⟩ | exact Or.inr ⟨rfl, Or.inl ⟨_, rfl⟩⟩
  | n + 10, hk => exact absurd hk (by omega)
theorem zm_tyk_7 : ∀ k, k < zm_nf 7 → zm_tyk 7 k := by
  intro k hk
  have e : zm_nf 7 = 10 := by rfl
  rw [e] at hk
  match k, hk with
  | 0, _ => first | exact Or.inl ⟨rfl, rfl⟩ | exact Or.inr ⟨rfl, Or.inr ⟨_, rfl⟩⟩ | exact Or.inr ⟨rfl, Or.inl ⟨_, rfl⟩⟩
  | 1, _ => first | exact Or.inl ⟨rfl, rfl⟩ | exact Or.inr ⟨rfl, Or.inr ⟨_, rfl⟩⟩ | exact Or.inr ⟨rfl, Or.inl ⟨_, rfl⟩⟩
  | 2, _ => first | exact Or.inl ⟨rfl, rfl⟩ | exact Or.inr ⟨rfl, Or.inr ⟨_, rfl⟩⟩ | exact Or.inr ⟨rfl, Or.inl ⟨_, rfl⟩⟩
  | 3, _ => first | exact Or.inl ⟨rfl, rfl⟩ | exact Or.inr ⟨rfl, Or.inr ⟨_, rfl⟩⟩ | exact Or.inr ⟨rfl, Or.inl ⟨_, rfl⟩⟩
  | 4, _ => first | exact Or.inl ⟨rfl, rfl⟩ | exact Or.inr ⟨rfl, Or.inr ⟨_, rfl⟩⟩ | exact Or.inr ⟨rfl, Or.inl ⟨_, rfl⟩⟩
  | 5, _ => first | exact Or.inl ⟨rfl, rfl⟩ | exact Or.inr ⟨rfl, Or.inr ⟨_, rfl⟩⟩ | exact Or.inr ⟨rfl, Or.inl ⟨_, rfl⟩⟩
  | 6, _ => first | exact Or.inl ⟨rfl, rfl⟩ | exact Or.inr ⟨rfl, Or.inr ⟨_, rfl⟩⟩ | exact Or.inr ⟨rfl, Or.inl ⟨_, rfl⟩⟩
  | 7, _ => first | exact Or.inl ⟨rfl, rfl⟩ | exact Or.inr ⟨rfl, Or.inr ⟨_, rfl⟩⟩ | exact Or.inr ⟨rfl, Or.inl ⟨_, rfl⟩⟩
  | 8, _ => first | exact Or.inl ⟨rfl, rfl⟩ | exact Or.inr ⟨rfl, Or.inr ⟨_, rfl⟩⟩ | exact Or.inr ⟨rfl, Or.inl ⟨_, rfl⟩⟩
  | 9, _ => first | exact Or.inl ⟨rfl, rfl⟩ | exact Or.inr ⟨rfl, Or.inr ⟨_, rfl⟩⟩ | exact Or.inr ⟨rfl, Or.inl ⟨_, rfl⟩⟩
  | n + 10, hk => exact absurd hk (by omega)
theorem zm_tyk_8 : ∀ k, k < zm_nf 8 → zm_tyk 8 k := by
  intro k hk
  have e : zm_nf 8 = 13 := by rfl
  rw [e] at hk
  match k, hk with
  | 0, _ => first | exact Or.inl ⟨rfl, rfl⟩ | exact Or.inr ⟨rfl, Or.inr ⟨_, rfl⟩⟩ | exact Or.inr ⟨rfl, Or.inl ⟨_, rfl⟩⟩
  | 1, _ => first | exact Or.inl ⟨rfl, rfl⟩ | exact Or.inr ⟨rfl, Or.inr ⟨_, rfl⟩⟩ | exact Or.inr ⟨rfl, Or.inl ⟨_, rfl⟩⟩
  | 2, _ => first | exact Or.inl ⟨rfl, rfl⟩ | exact Or.inr ⟨rfl, Or.inr ⟨_, rfl⟩⟩ | exact Or.inr ⟨rfl, Or.inl ⟨_, rfl⟩⟩
  | 3, _ => first | exact Or.inl ⟨rfl, rfl⟩ | exact Or.inr ⟨rfl, Or.inr ⟨_, rfl⟩⟩ | exact Or.inr ⟨rfl, Or.inl ⟨_, rfl⟩⟩
  | 4, _ => first | exact Or.inl ⟨rfl, rfl⟩ | exact Or.inr ⟨rfl, Or.inr ⟨_, rfl⟩⟩ | exact Or.inr ⟨rfl, Or.inl ⟨_, rfl⟩⟩
  | 5, _ => first | exact Or.inl ⟨rfl, rfl⟩ | exact Or.inr ⟨rfl, Or.inr ⟨_, rfl⟩⟩ | exact Or.inr ⟨rfl, Or.inl ⟨_, rfl⟩⟩
  | 6, _ => first | exact Or.inl ⟨rfl, rfl⟩ | exact Or.inr ⟨rfl, Or.inr ⟨_, rfl⟩⟩ | exact Or.inr ⟨rfl, Or.inl ⟨_, rfl⟩⟩
  | 7, _ => first | exact Or.inl ⟨rfl, rfl⟩ | exact Or.inr ⟨rfl, Or.inr ⟨_, rfl⟩⟩ | exact Or.inr ⟨rfl, Or.inl ⟨_, rfl⟩⟩
  | 8, _ => first | exact Or.inl ⟨rfl, rfl⟩ | exact Or.inr ⟨rfl, Or.inr ⟨_, rfl⟩⟩ | exact Or.inr ⟨rfl, Or.inl ⟨_, rfl⟩⟩
  | 9, _ => first | exact Or.inl ⟨rfl, rfl⟩ | exact Or.inr ⟨rfl, Or.inr ⟨_, rfl⟩⟩ | exact Or.inr ⟨rfl, Or.inl ⟨_, rfl⟩⟩
  | 10, _ => first | exact Or.inl ⟨rfl, rfl⟩ | exact Or.inr ⟨rfl, Or.inr ⟨_, rfl⟩⟩ | exact Or.inr ⟨rfl, Or.inl ⟨_, rfl⟩⟩
  | 11, _ => first | exact Or.inl ⟨rfl, rfl⟩ | exact Or.inr ⟨rfl, Or.inr ⟨_, rfl⟩⟩ | exact Or.inr ⟨rfl, Or.inl ⟨_, rfl⟩⟩
  | 12, _ => first | exact Or.inl ⟨rfl, rfl⟩ | exact Or.inr ⟨rfl, Or.inr ⟨_, rfl⟩⟩ | exact Or.inr ⟨rfl, Or.inl ⟨_, rfl⟩⟩
  | n + 13, hk => exact absurd hk (by omega)
theorem zm_tyk_9 : ∀ k, k < zm_nf 9 → zm_tyk 9 k := by
  intro k hk
  have e : zm_nf 9 = 5 := by rfl
  rw [e] at hk
  match k, hk with
  | 0, _ => first | exact Or.inl ⟨rfl, rfl⟩ | exact Or.inr ⟨rfl, Or.inr ⟨_, rfl⟩⟩ | exact Or.inr ⟨rfl, Or.inl ⟨_, rfl⟩⟩
  | 1, _ => first | exact Or.inl ⟨rfl, rfl⟩ | exact Or.inr ⟨rfl, Or.inr ⟨_, rfl⟩⟩ | exact Or.inr ⟨rfl, Or.inl ⟨_, rfl⟩⟩
  | 2, _ => first | exact Or.inl ⟨rfl, rfl⟩ | exact Or.inr ⟨rfl, Or.inr ⟨_, rfl⟩⟩ | exact Or.inr ⟨rfl, Or.inl ⟨_, rfl⟩⟩
  | 3, _ => first | exact Or.inl ⟨rfl, rfl⟩ | exact Or.inr ⟨rfl, Or.inr ⟨_, rfl⟩⟩ | exact Or.inr ⟨rfl, Or.inl ⟨_, rfl⟩⟩
  | 4, _ => first | exact Or.inl ⟨rfl, rfl⟩ | exact Or.inr ⟨rfl, Or.inr ⟨_, rfl⟩⟩ | exact Or.inr ⟨rfl, Or.inl ⟨_, rfl⟩⟩
  | n + 5, hk => exact absurd hk (by omega)
theorem zm_tyk_10 : ∀ k, k < zm_nf 10 → zm_tyk 10 k := by
  intro k hk
  have e : zm_nf 10 = 16 := by rfl
  rw [e] at hk
  match k, hk with
  | 0, _ => first | exact Or.inl ⟨rfl, rfl⟩ | exact Or.inr ⟨rfl, Or.inr ⟨_, rfl⟩⟩ | exact Or.inr ⟨rfl, Or.inl ⟨_, rfl⟩⟩
  | 1, _ => first | exact Or.inl ⟨rfl, rfl⟩ | exact Or.inr ⟨rfl, Or.inr ⟨_, rfl⟩⟩ | exact Or.inr ⟨rfl, Or.inl ⟨_, rfl⟩⟩
  | 2, _ => first | exact Or.inl ⟨rfl, rfl⟩ | exact Or.inr ⟨rfl, Or.inr ⟨_, rfl⟩⟩ | exact Or.inr ⟨rfl, Or.inl ⟨_, rfl⟩⟩
  | 3, _ => first | exact Or.inl ⟨rfl, rfl⟩ | exact Or.inr ⟨rfl, Or.inr ⟨_, rfl⟩⟩ | exact Or.inr ⟨rfl, Or.inl ⟨_, rfl⟩⟩
  | 4, _ => first | exact Or.inl ⟨rfl, rfl⟩ | exact Or.inr ⟨rfl, Or.inr ⟨_, rfl⟩⟩ | exact Or.inr ⟨rfl, Or.inl ⟨_, rfl⟩⟩
  | 5, _ => first | exact Or.inl ⟨rfl, rfl⟩ | exact Or.inr ⟨rfl, Or.inr ⟨_, rfl⟩⟩ | exact Or.inr ⟨rfl, Or.inl ⟨_, rfl⟩⟩
  | 6, _ => first | exact Or.inl ⟨rfl, rfl⟩ | exact Or.inr ⟨rfl, Or.inr ⟨_, rfl⟩⟩ | exact Or.inr ⟨rfl, Or.inl ⟨_, rfl⟩⟩
  | 7, _ => first | exact Or.inl ⟨rfl, rfl⟩ | exact Or.inr ⟨rfl, Or.inr ⟨_, rfl⟩⟩ | exact Or.inr ⟨rfl, Or.inl ⟨_, rfl⟩⟩
  | 8, _ => first | exact Or.inl ⟨rfl, rfl⟩ | exact Or.inr ⟨rfl, Or.inr ⟨_, rfl⟩⟩ | exact Or.inr ⟨rfl, Or.inl ⟨_, rfl⟩⟩
  | 9, _ => first | exact Or.inl ⟨rfl, rfl⟩ | exact Or.inr ⟨rfl, Or.inr ⟨_, rfl⟩⟩ | exact Or.inr ⟨rfl, Or.inl ⟨_, rfl⟩⟩
  | 10, _ => first | exact Or.inl ⟨rfl, rfl⟩ | exact Or.inr ⟨rfl, Or.inr ⟨_, rfl⟩⟩ | exact Or.inr ⟨rfl, Or.inl ⟨_, rfl⟩⟩
  | 11, _ => first | exact Or.inl ⟨rfl, rfl⟩ | exact Or.inr ⟨rfl, Or.inr ⟨_, rfl⟩⟩ | exact Or.inr ⟨rfl, Or.inl ⟨_, rfl⟩⟩
  | 12, _ => first | exact Or.inl ⟨rfl, rfl⟩ | exact Or.inr ⟨rfl, Or.inr ⟨_, rfl⟩⟩ | exact Or.inr ⟨rfl, Or.inl ⟨_, rfl⟩⟩
  | 13, _ => first | exact Or.inl ⟨rfl, rfl⟩ | exact Or.inr ⟨rfl, Or.inr ⟨_, rfl⟩⟩ | exact Or.inr ⟨rfl, Or.inl ⟨_, rfl⟩⟩
  | 14, _ => first | exact Or.inl ⟨rfl, rfl⟩ | exact Or.inr ⟨rfl, Or.inr ⟨_, rfl⟩⟩ | exact Or.inr ⟨rfl, Or.inl ⟨_, rfl⟩⟩
  | 15, _ => first | exact Or.inl ⟨rfl, rfl⟩ | exact Or.inr ⟨rfl, Or.inr ⟨_, rfl⟩⟩ | exact Or.inr ⟨rfl, Or.inl ⟨_, rfl⟩⟩
  | n + 16, hk => exact absurd hk (by omega)
theorem zm_tyk_11 : ∀ k, k < zm_nf 11 → zm_tyk 11 k := by
  intro k hk
  have e : zm_nf 11 = 97 := by rfl
  rw [e] at hk
  match k, hk with
  | 0, _ => first | exact Or.inl ⟨rfl, rfl⟩ | exact Or.inr ⟨rfl, Or.inr ⟨_, rfl⟩⟩ | exact Or.inr ⟨rfl, Or.inl ⟨_, rfl⟩⟩
  | 1, _ => first | exact Or.inl ⟨rfl, rfl⟩ | exact Or.inr ⟨rfl, Or.inr ⟨_, rfl⟩⟩ | exact Or.inr ⟨rfl, Or.inl ⟨_, rfl⟩⟩
  | 2, _ => first | exact Or.inl ⟨rfl, rfl⟩ | exact Or.inr ⟨rfl, Or.inr ⟨_, rfl⟩⟩ | exact Or.inr ⟨rfl, Or.inl ⟨_, rfl⟩⟩
  | 3, _ => first | exact Or.inl ⟨rfl, rfl⟩ | exact Or.inr ⟨rfl, Or.inr ⟨_, rfl⟩⟩ | exact Or.inr ⟨rfl, Or.inl ⟨_, rfl⟩⟩
  | 4, _ => first | exact Or.inl ⟨rfl, rfl⟩ | exact Or.inr ⟨rfl, Or.inr ⟨_, rfl⟩⟩ | exact Or.inr ⟨rfl, Or.inl ⟨_, rfl⟩⟩
  | 5, _ => first | exact Or.inl ⟨rfl, rfl⟩ | exact Or.inr ⟨rfl, Or.inr ⟨_, rfl⟩⟩ | exact Or.inr ⟨rfl, Or.inl ⟨_, rfl⟩⟩
  | 6, _ => first | exact Or.inl ⟨rfl, rfl⟩ | exact Or.inr ⟨rfl, Or.inr ⟨_, rfl⟩⟩ | exact Or.inr ⟨rfl, Or.inl ⟨_, rfl⟩⟩
  | 7, _ => first | exact Or.inl ⟨rfl, rfl⟩ | exact Or.inr ⟨rfl, Or.inr ⟨_, rfl⟩⟩ | exact Or.inr ⟨rfl, Or.inl ⟨_, rfl⟩⟩
  | 8, _ => first | exact Or.inl ⟨rfl, rfl⟩ | exact Or.inr ⟨rfl, Or.inr ⟨_, rfl⟩⟩ | exact Or.inr ⟨rfl, Or.inl ⟨_, rfl⟩⟩
  | 9, _ => first | exact Or.inl ⟨rfl, rfl⟩ | exact Or.inr ⟨rfl, Or.inr ⟨_, rfl⟩⟩ | exact Or.inr ⟨rfl, Or.inl ⟨_, rfl⟩⟩
  | 10, _ => first | exact Or.inl ⟨rfl, rfl⟩ | exact Or.inr ⟨rfl, Or.inr ⟨_, rfl⟩⟩ | exact Or.inr ⟨rfl, Or.inl ⟨_, rfl⟩⟩
  | 11, _ => first | exact Or.inl ⟨rfl, rfl⟩ | exact Or.inr ⟨rfl, Or.inr ⟨_, rfl⟩⟩ | exact Or.inr ⟨rfl, Or.inl ⟨_, rfl⟩⟩
  | 12, _ => first | exact Or.inl ⟨rfl, rfl⟩ | exact Or.inr ⟨rfl, Or.inr ⟨_, rfl⟩⟩ | exact Or.inr ⟨rfl, Or.inl ⟨_, rfl⟩⟩
  | 13, _ => first | exact Or.inl ⟨rfl, rfl⟩ | exact Or.inr ⟨rfl, Or.inr ⟨_, rfl⟩⟩ | exact Or.inr ⟨rfl, Or.inl ⟨_, rfl⟩⟩
  | 14, _ => first | exact Or.inl ⟨rfl, rfl⟩ | exact Or.inr ⟨rfl, Or.inr ⟨_, rfl⟩⟩ | exact Or.inr ⟨rfl, Or.inl ⟨_, rfl⟩⟩
  | 15, _ => first | exact Or.inl ⟨rfl, rfl⟩ | exact Or.inr ⟨rfl, Or.inr ⟨_, rfl⟩⟩ | exact Or.inr ⟨rfl, Or.inl ⟨_, rfl⟩⟩
  | 16, _ => first | exact Or.inl ⟨rfl, rfl⟩ | exact Or.inr ⟨rfl, Or.inr ⟨_, rfl⟩⟩ | exact Or.inr ⟨rfl, Or.inl ⟨_, rfl⟩⟩
  | 17, _ => first | exact Or.inl ⟨rfl, rfl⟩ | exact Or.inr ⟨rfl, Or.inr ⟨_, rfl⟩⟩ | exact Or.inr ⟨rfl, Or.inl ⟨_, rfl⟩⟩
  | 18, _ => first | exact Or.inl ⟨rfl, rfl⟩ | exact Or.inr ⟨rfl, Or.inr ⟨_, rfl⟩⟩ | exact Or.inr ⟨rfl, Or.inl ⟨_, rfl⟩⟩
  | 19, _ => first | exact Or.inl ⟨rfl, rfl⟩ | exact Or.inr ⟨rfl, Or.inr ⟨_, rfl⟩⟩ | exact Or.inr ⟨rfl, Or.inl ⟨_, rfl⟩⟩
  | 20, _ => first | exact Or.inl ⟨rfl, rfl⟩ | exact Or.inr ⟨rfl, Or.inr ⟨_, rfl⟩⟩ | exact Or.inr ⟨rfl, Or.inl ⟨_, rfl⟩⟩
  | 21, _ => first | exact Or.inl ⟨rfl, rfl⟩ | exact Or.inr ⟨rfl, Or.inr ⟨_, rfl⟩⟩ | exact Or.inr ⟨rfl, Or.inl ⟨_, rfl⟩⟩
  | 22, _ => first | exact Or.inl ⟨rfl, rfl⟩ | exact Or.inr ⟨rfl, Or.inr ⟨_, rfl⟩⟩ | exact Or.inr ⟨rfl, Or.inl ⟨_, rfl⟩⟩
  | 23, _ => first | exact Or.inl ⟨rfl, rfl⟩ | exact Or.inr ⟨rfl, Or.inr ⟨_, rfl⟩⟩ | exact Or.inr ⟨rfl, Or.inl ⟨_, rfl⟩⟩
  | 24, _ => first | exact Or.inl ⟨rfl, rfl⟩ | exact Or.inr ⟨rfl, Or.inr ⟨_, rfl⟩⟩ | exact Or.inr ⟨rfl, Or.inl ⟨_, rfl⟩⟩
  | 25, _ => first | exact Or.inl ⟨rfl, rfl⟩ | exact Or.inr ⟨rfl, Or.inr ⟨_, rfl⟩⟩ | exact Or.inr ⟨rfl, Or.inl ⟨_, rfl⟩⟩
  | 26, _ => first | exact Or.inl ⟨rfl, rfl⟩ | exact Or.inr ⟨rfl, Or.inr ⟨_, rfl⟩⟩ | exact Or.inr ⟨rfl, Or.inl ⟨_, rfl⟩⟩
  | 27, _ => first | exact Or.inl ⟨rfl, rfl⟩ | exact Or.inr ⟨rfl, Or.inr ⟨_, rfl⟩⟩ | exact Or.inr ⟨rfl, Or.inl ⟨_, rfl⟩⟩
  | 28, _ => first | exact Or.inl ⟨rfl, rfl⟩ | exact Or.inr ⟨rfl, Or.inr ⟨_, rfl⟩⟩ | exact Or.inr ⟨rfl, Or.inl ⟨_, rfl⟩⟩
  | 29, _ => first | exact Or.inl ⟨rfl, rfl⟩ | exact Or.inr ⟨rfl, Or.inr ⟨_, rfl⟩⟩ | exact Or.inr ⟨rfl, Or.inl ⟨_, rfl⟩⟩
  | 30, _ => first | exact Or.inl ⟨rfl, rfl⟩ | exact Or.inr ⟨rfl, Or.inr ⟨_, rfl⟩⟩ | exact Or.inr ⟨rfl, Or.inl ⟨_, rfl⟩⟩
  | 31, _ => first | exact Or.inl ⟨rfl, rfl⟩ | exact Or.inr ⟨rfl, Or.inr ⟨_, rfl⟩⟩ | exact Or.inr ⟨rfl, Or.inl ⟨_, rfl⟩⟩
  | 32, _ => first | exact Or.inl ⟨rfl, rfl⟩ | exact Or.inr ⟨rfl, Or.inr ⟨_, rfl⟩⟩ | exact Or.inr ⟨rfl, Or.inl ⟨_, rfl⟩⟩
  | 33, _ => first | exact Or.inl ⟨rfl, rfl⟩ | exact Or.inr ⟨rfl, Or.inr ⟨_, rfl⟩⟩ | exact Or.inr ⟨rfl, Or.inl ⟨_, rfl⟩⟩
  | 34, _ => first | exact Or.inl ⟨rfl, rfl⟩ | exact Or.inr ⟨rfl, Or.inr ⟨_, rfl⟩⟩ | exact Or.inr ⟨rfl, Or.inl ⟨_, rfl⟩⟩
  | 35, _ => first | exact Or.inl ⟨rfl, rfl⟩ | exact Or.inr ⟨rfl, Or.inr ⟨_, rfl⟩⟩ | exact Or.inr ⟨rfl, Or.inl ⟨_, rfl⟩⟩
  | 36, _ => first | exact Or.inl ⟨rfl, rfl⟩ | exact Or.inr ⟨rfl, Or.inr ⟨_, rfl⟩⟩ | exact Or.inr ⟨rfl, Or.inl ⟨_, rfl⟩⟩
  | 37, _ => first | exact Or.inl ⟨rfl, rfl⟩ | exact Or.inr ⟨rfl, Or.inr ⟨_, rfl⟩⟩ | exact Or.inr ⟨rfl, Or.inl ⟨_, rfl⟩⟩
  | 38, _ => first | exact Or.inl ⟨rfl, rfl⟩ | exact Or.inr ⟨rfl, Or.inr ⟨_, rfl⟩⟩ | exact Or.inr ⟨rfl, Or.inl ⟨_, rfl⟩⟩
  | 39, _ => first | exact Or.inl ⟨rfl, rfl⟩ | exact Or.inr ⟨rfl, Or.inr ⟨_, rfl⟩⟩ | exact Or.inr ⟨rfl, Or.inl ⟨_, rfl⟩⟩
  | 40, _ => first | exact Or.inl ⟨rfl, rfl⟩ | exact Or.inr ⟨rfl, Or.inr ⟨_, rfl⟩⟩ | exact Or.inr ⟨rfl, Or.inl ⟨_, rfl⟩⟩
  | 41, _ => first | exact Or.inl ⟨rfl, rfl⟩ | exact Or.inr ⟨rfl, Or.inr ⟨_, rfl⟩⟩ | exact Or.inr ⟨rfl, Or.inl ⟨_, rfl⟩⟩
  | 42, _ => first | exact Or.inl ⟨rfl, rfl⟩ | exact Or.inr ⟨rfl, Or.inr ⟨_, rfl⟩⟩ | exact Or.inr ⟨rfl, Or.inl ⟨_, rfl⟩⟩
  | 43, _ => first | exact Or.inl ⟨rfl, rfl⟩ | exact Or.inr ⟨rfl, Or.inr ⟨_, rfl⟩⟩ | exact Or.inr ⟨rfl, Or.inl ⟨_, rfl⟩⟩
  | 44, _ => first | exact Or.inl ⟨rfl, rfl⟩ | exact Or.inr ⟨rfl, Or.inr ⟨_, rfl⟩⟩ | exact Or.inr ⟨rfl, Or.inl ⟨_, rfl⟩⟩
  | 45, _ => first | exact Or.inl ⟨rfl, rfl⟩ | exact Or.inr ⟨rfl, Or.inr ⟨_, rfl⟩⟩ | exact Or.inr ⟨rfl, Or.inl ⟨_, rfl⟩⟩
  | 46, _ => first | exact Or.inl ⟨rfl, rfl⟩ | exact Or.inr ⟨rfl, Or.inr ⟨_, rfl⟩⟩ | exact Or.inr ⟨rfl, Or.inl ⟨_, rfl⟩⟩
  | 47, _ => first | exact Or.inl ⟨rfl, rfl⟩ | exact Or.inr ⟨rfl, Or.inr ⟨_, rfl⟩⟩ | exact Or.inr ⟨rfl, Or.inl ⟨_, rfl⟩⟩
  | 48, _ => first | exact Or.inl ⟨rfl, rfl⟩ | exact Or.inr ⟨rfl, Or.inr ⟨_, rfl⟩⟩ | exact Or.inr ⟨rfl, Or.inl ⟨_, rfl⟩⟩
  | 49, _ => first | exact Or.inl ⟨rfl, rfl⟩ | exact Or.inr ⟨rfl, Or.inr ⟨_, rfl⟩⟩ | exact Or.inr ⟨rfl, Or.inl ⟨_, rfl⟩⟩
  | 50, _ => first | exact Or.inl ⟨rfl, rfl⟩ | exact Or.inr ⟨rfl, Or.inr ⟨_, rfl⟩⟩ | exact Or.inr ⟨rfl, Or.inl ⟨_, rfl⟩⟩
  | 51, _ => first | exact Or.inl ⟨rfl, rfl⟩ | exact Or.inr ⟨rfl, Or.inr ⟨_, rfl⟩⟩ | exact Or.inr ⟨rfl, Or.inl ⟨_, rfl⟩⟩
  | 52, _ => first | exact Or.inl ⟨rfl, rfl⟩ | exact Or.inr ⟨rfl, Or.inr ⟨_, rfl⟩⟩ | exact Or.inr ⟨rfl, Or.inl ⟨_, rfl⟩⟩
  | 53, _ => first | exact Or.inl ⟨rfl, rfl⟩ | exact Or.inr ⟨rfl, Or.inr ⟨_, rfl⟩⟩ | exact Or.inr ⟨rfl, Or.inl ⟨_, rfl⟩⟩
  | 54, _ => first | exact Or.inl ⟨rfl, rfl⟩ | exact Or.inr ⟨rfl, Or.inr ⟨_, rfl⟩⟩ | exact Or.inr ⟨rfl, Or.inl ⟨_, rfl⟩⟩
  | 55, _ => first | exact Or.inl ⟨rfl, rfl⟩ | exact Or.inr ⟨rfl, Or.inr ⟨_, rfl⟩⟩ | exact Or.inr ⟨rfl, Or.inl ⟨_, rfl⟩⟩
  | 56, _ => first | exact Or.inl ⟨rfl, rfl⟩ | exact Or.inr ⟨rfl, Or.inr ⟨_, rfl⟩⟩ | exact Or.inr ⟨rfl, Or.inl ⟨_, rfl⟩⟩
  | 57, _ => first | exact Or.inl ⟨rfl, rfl⟩ | exact Or.inr ⟨rfl, Or.inr ⟨_, rfl⟩⟩ | exact Or.inr ⟨rfl, Or.inl ⟨_, rfl⟩⟩
  | 58, _ => first | exact Or.inl ⟨rfl, rfl⟩ | exact Or.inr ⟨rfl, Or.inr ⟨_, rfl⟩⟩ | exact Or.inr ⟨rfl, Or.inl ⟨_, rfl⟩⟩
  | 59, _ => first | exact Or.inl ⟨rfl, rfl⟩ | exact Or.inr ⟨rfl, Or.inr ⟨_, rfl⟩⟩ | exact Or.inr ⟨rfl, Or.inl ⟨_, rfl⟩⟩
  | 60, _ => first | exact Or.inl ⟨rfl, rfl⟩ | exact Or.inr ⟨rfl, Or.inr ⟨_, rfl⟩⟩ | exact Or.inr ⟨rfl, Or.inl ⟨_, rfl⟩⟩
  | 61, _ => first | exact Or.inl ⟨rfl, rfl⟩ | exact Or.inr ⟨rfl, Or.inr ⟨_, rfl⟩⟩ | exact Or.inr ⟨rfl, Or.inl ⟨_, rfl⟩⟩
  | 62, _ => first | exact Or.inl ⟨rfl, rfl⟩ | exact Or.inr ⟨rfl, Or.inr ⟨_, rfl⟩⟩ | exact Or.inr ⟨rfl, Or.inl ⟨_, rfl⟩⟩
  | 63, _ => first | exact Or.inl ⟨rfl, rfl⟩ | exact Or.inr ⟨rfl, Or.inr ⟨_, rfl⟩⟩ | exact Or.inr ⟨rfl, Or.inl ⟨_, rfl⟩⟩
  | 64, _ => first | exact Or.inl ⟨rfl, rfl⟩ | exact Or.inr ⟨rfl, Or.inr ⟨_, rfl⟩⟩ | exact Or.inr ⟨rfl, Or.inl ⟨_, rfl⟩⟩
  | 65, _ => first | exact Or.inl ⟨rfl, rfl⟩ | exact Or.inr ⟨rfl, Or.inr ⟨_, rfl⟩⟩ | exact Or.inr ⟨rfl, Or.inl ⟨_, rfl⟩⟩
  | 66, _ => first | exact Or.inl ⟨rfl, rfl⟩ | exact Or.inr ⟨rfl, Or.inr ⟨_, rfl⟩⟩ | exact Or.inr ⟨rfl, Or.inl ⟨_, rfl⟩⟩
  | 67, _ => first | exact Or.inl ⟨rfl, rfl⟩ | exact Or.inr ⟨rfl, Or.inr ⟨_, rfl⟩⟩ | exact Or.inr ⟨rfl, Or.inl ⟨_, rfl⟩⟩
  | 68, _ => first | exact Or.inl ⟨rfl, rfl⟩ | exact Or.inr ⟨rfl, Or.inr ⟨_, rfl⟩⟩ | exact Or.inr ⟨rfl, Or.inl ⟨_, rfl⟩⟩
  | 69, _ => first | exact Or.inl ⟨rfl, rfl⟩ | exact Or.inr ⟨rfl, Or.inr ⟨_, rfl⟩⟩ | exact Or.inr ⟨rfl, Or.inl ⟨_, rfl⟩⟩
  | 70, _ => first | exact Or.inl ⟨rfl, rfl⟩ | exact Or.inr ⟨rfl, Or.inr ⟨_, rfl⟩⟩ | exact Or.inr ⟨rfl, Or.inl ⟨_, rfl⟩⟩
  | 71, _ => first | exact Or.inl ⟨rfl, rfl⟩ | exact Or.inr ⟨rfl, Or.inr ⟨_, rfl⟩⟩ | exact Or.inr ⟨rfl, Or.inl ⟨_, rfl⟩⟩
  | 72, _ => first | exact Or.inl ⟨rfl, rfl⟩ | exact Or.inr ⟨rfl, Or.inr ⟨_, rfl⟩⟩ | exact Or.inr ⟨rfl, Or.inl ⟨_, rfl⟩⟩
  | 73, _ => first | exact Or.inl ⟨rfl, rfl⟩ | exact Or.inr ⟨rfl, Or.inr ⟨_, rfl⟩⟩ | exact Or.inr ⟨rfl, Or.inl ⟨_, rfl⟩⟩
  | 74, _ => first | exact Or.inl ⟨rfl, rfl⟩ | exact Or.inr ⟨rfl, Or.inr ⟨_, rfl⟩⟩ | exact Or.inr ⟨rfl, Or.inl ⟨_, rfl⟩⟩
  | 75, _ => first | exact Or.inl ⟨rfl, rfl⟩ | exact Or.inr ⟨rfl, Or.inr ⟨_, rfl⟩⟩ | exact Or.inr ⟨rfl, Or.inl ⟨_, rfl⟩⟩
  | 76, _ => first | exact Or.inl ⟨rfl, rfl⟩ | exact Or.inr ⟨rfl, Or.inr ⟨_, rfl⟩⟩ | exact Or.inr ⟨rfl, Or.inl ⟨_, rfl⟩⟩
  | 77, _ => first | exact Or.inl ⟨rfl, rfl⟩ | exact Or.inr ⟨rfl, Or.inr ⟨_, rfl⟩⟩ | exact Or.inr ⟨rfl, Or.inl ⟨_, rfl⟩⟩
  | 78, _ => first | exact Or.inl ⟨rfl, rfl⟩ | exact Or.inr ⟨rfl, Or.inr ⟨_, rfl⟩⟩ | exact Or.inr ⟨rfl, Or.inl ⟨_, rfl⟩⟩
  | 79, _ => first | exact Or.inl ⟨rfl, rfl⟩ | exact Or.inr ⟨rfl, Or.inr ⟨_, rfl⟩⟩ | exact Or.inr ⟨rfl, Or.inl ⟨_, rfl⟩⟩
  | 80, _ => first | exact Or.inl ⟨rfl, rfl⟩ | exact Or.inr ⟨rfl, Or.inr ⟨_, rfl⟩⟩ | exact Or.inr ⟨rfl, Or.inl ⟨_, rfl⟩⟩
  | 81, _ => first | exact Or.inl ⟨rfl, rfl⟩ | exact Or.inr ⟨rfl, Or.inr ⟨_, rfl⟩⟩ | exact Or.inr ⟨rfl, Or.inl ⟨_, rfl⟩⟩
  | 82, _ => first | exact Or.inl ⟨rfl, rfl⟩ | exact Or.inr ⟨rfl, Or.inr ⟨_, rfl⟩⟩ | exact Or.inr ⟨rfl, Or.inl ⟨_, rfl⟩⟩
  | 83, _ => first | exact Or.inl ⟨rfl, rfl⟩ | exact Or.inr ⟨rfl, Or.inr ⟨_, rfl⟩⟩ | exact Or.inr ⟨rfl, Or.inl ⟨_, rfl⟩⟩
  | 84, _ => first | exact Or.inl ⟨rfl, rfl⟩ | exact Or.inr ⟨rfl, Or.inr ⟨_, rfl⟩⟩ | exact Or.inr ⟨rfl, Or.inl ⟨_, rfl⟩⟩
  | 85, _ => first | exact Or.inl ⟨rfl, rfl⟩ | exact Or.inr ⟨rfl, Or.inr ⟨_, rfl⟩⟩ | exact Or.inr ⟨rfl, Or.inl ⟨_, rfl⟩⟩
  | 86, _ => first | exact Or.inl ⟨rfl, rfl⟩ | exact Or.inr ⟨rfl, Or.inr ⟨_, rfl⟩⟩ | exact Or.inr ⟨rfl, Or.inl ⟨_, rfl⟩⟩
  | 87, _ => first | exact Or.inl ⟨rfl, rfl⟩ | exact Or.inr ⟨rfl, Or.inr ⟨_, rfl⟩⟩ | exact Or.inr ⟨rfl, Or.inl ⟨_, rfl⟩⟩
  | 88, _ => first | exact Or.inl ⟨rfl, rfl⟩ | exact Or.inr ⟨rfl, Or.inr ⟨_, rfl⟩⟩ | exact Or.inr ⟨rfl, Or.inl ⟨_, rfl⟩⟩
  | 89, _ => first | exact Or.inl ⟨rfl, rfl⟩ | exact Or.inr ⟨rfl, Or.inr ⟨_, rfl⟩⟩ | exact Or.inr ⟨rfl, Or.inl ⟨_, rfl⟩⟩
  | 90, _ => first | exact Or.inl ⟨rfl, rfl⟩ | exact Or.inr ⟨rfl, Or.inr ⟨_, rfl⟩⟩ | exact Or.inr ⟨rfl, Or.inl ⟨_, rfl⟩⟩
  | 91, _ => first | exact Or.inl ⟨rfl, rfl⟩ | exact Or.inr ⟨rfl, Or.inr ⟨_, rfl⟩⟩ | exact Or.inr ⟨rfl, Or.inl ⟨_, rfl⟩⟩
  | 92, _ => first | exact Or.inl ⟨rfl, rfl⟩ | exact Or.inr ⟨rfl, Or.inr ⟨_, rfl⟩⟩ | exact Or.inr ⟨rfl, Or.inl ⟨_, rfl⟩⟩
  | 93, _ => first | exact Or.inl ⟨rfl, rfl⟩ | exact Or.inr ⟨rfl, Or.inr ⟨_, rfl⟩⟩ | exact Or.inr ⟨rfl, Or.inl ⟨_, rfl⟩⟩
  | 94, _ => first | exact Or.inl ⟨rfl, rfl⟩ | exact Or.inr ⟨rfl, Or.inr ⟨_, rfl⟩⟩ | exact Or.inr ⟨rfl, Or.inl ⟨_, rfl⟩⟩
  | 95, _ => first | exact Or.inl ⟨rfl, rfl⟩ | exact Or.inr ⟨rfl, Or.inr ⟨_, rfl⟩⟩ | exact Or.inr ⟨rfl, Or.inl ⟨_, rfl⟩⟩
  | 96, _ => first | exact Or.inl ⟨rfl, rfl⟩ | exact Or.inr ⟨rfl, Or.inr ⟨_, rfl⟩⟩ | exact Or.inr ⟨rfl, Or.inl ⟨_, rfl⟩⟩
  | n + 97, hk => exact absurd hk (by omega)
theorem zm_tyks {c k : Nat} (hc : c < 12) (hk : k < zm_nf c) : zm_tyk c k := by
  match c, hc with
  | 0, _ => exact zm_tyk_0 k hk
  | 1, _ => exact zm_tyk_1 k hk
  | 2, _ => exact zm_tyk_2 k hk
  | 3, _ => exact zm_tyk_3 k hk
  | 4, _ => exact zm_tyk_4 k hk
  | 5, _ => exact zm_tyk_5 k hk
  | 6, _ => exact zm_tyk_6 k hk
  | 7, _ => exact zm_tyk_7 k hk
  | 8, _ => exact zm_tyk_8 k hk
  | 9, _ => exact zm_tyk_9 k hk
  | 10, _ => exact zm_tyk_10 k hk
  | 11, _ => exact zm_tyk_11 k hk
  | n + 12, hc => exact absurd hc (by omega)
