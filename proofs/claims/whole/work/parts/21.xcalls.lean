/-! ===== calls that are no rows of code ===== -/
def zm_xk (q : zm_I) : Bool := match q.2.1 with
  | .invokevirtual _ => decide (q.2.2.1 < 1000) || (q.2.2.1 == 9999 || (q.2.2.1 == 1002 || (q.2.2.1 == 1003 || q.2.2.1 == 1004)))
  | .invokestatic _ => decide (q.2.2.1 < 1000) || (q.2.2.1 == 1001 || (q.2.2.1 == 1005 || (q.2.2.1 == 1006 || (q.2.2.1 == 1007 || (q.2.2.1 == 1008 || q.2.2.1 == 1009)))))
  | .invokespecial _ => decide (q.2.2.1 < 1000) || q.2.2.1 == 1000
  | _ => true
set_option maxRecDepth 1000000 in
theorem zm_xk_all : zm_cds.all (fun l => l.all (fun e => zm_xk e.2)) = true := by decide +kernel
theorem zm_xk_ok {m pc : Nat} {q : zm_I} (h : zm_lk m pc = some q) : zm_xk q = true := by
  have h1 := zm_lk_mem _ _ _ h
  unfold zm_cd at h1
  cases hl : zm_cds[m]? with
  | none => rw [List.getD_eq_getElem?_getD, hl] at h1; simp at h1
  | some l =>
    rw [List.getD_eq_getElem?_getD, hl] at h1
    exact List.all_eq_true.mp (List.all_eq_true.mp zm_xk_all l (List.mem_of_getElem? hl)) _ h1
theorem zm_lpn : ∀ o, o < 16 → ∀ q ∈ zm_lp o, 1000 ≤ q.2.1 → q.2.2.1 = 0 := by decide +kernel
theorem zm_lp16 {o : Nat} {q : zm_LP} (h : q ∈ zm_lp o) : o < 16 := by
  match o with
  | 0 => decide
  | 1 => decide
  | 2 => decide
  | 3 => decide
  | 4 => decide
  | 5 => decide
  | 6 => decide
  | 7 => decide
  | 8 => decide
  | 9 => decide
  | 10 => decide
  | 11 => decide
  | 12 => decide
  | 13 => decide
  | 14 => decide
  | 15 => decide
  | n + 16 => exact absurd h List.not_mem_nil
theorem zm_link {o a i : Nat} (h : zm_icl o a i = true) : ∃ q : zm_LP, q ∈ zm_lp o ∧ q.1 = i ∧ q.2.1 = a := by
  obtain ⟨r, hr, hrr⟩ := zm_any h
  obtain ⟨h1, h2⟩ := zm_and hrr
  exact ⟨r, hr, zm_beq h1, zm_beq h2⟩
theorem zm_xlink {o a i : Nat} (h : zm_icl o a i = true) (ha : 1000 ≤ a) : Cond.methodLink (zm_cn o) i (zm_xy a) ∈ zm_GW := by
  obtain ⟨q, hq, h1, h2⟩ := zm_link h
  obtain ⟨hw1, hw2⟩ := zm_lp_ok o q hq
  have hz := zm_lpn o (zm_lp16 hq) q hq (by rw [h2]; exact ha)
  have e : zm_lw o q = Cond.methodLink (zm_cn o) i (zm_xy a) := by simp only [zm_lw, hz, if_true, h1, h2]
  have := zm_GW_in (zm_tb_at hw1) (hw2 hz)
  rwa [e] at this
theorem zm_cp_ws {ad : Nat → Nat} {dA : Nat → ClassId} {h : zm_H} {i n : Nat} {g : Nat → Int32} (hq : h.1[i]? = some (.inl (0, n))) : zm_ws ad dA (h.1, zm_w h.2.1 i g, h.2.2.1, h.2.2.2) = (zm_ws ad dA h).set i (ad i, .inl (dA 0, n, .inl g)) := by
  rw [zm_ws_set (h := h) (h' := (h.1, zm_w h.2.1 i g, h.2.2.1, h.2.2.2)) (i := i) rfl (zm_lt hq) (fun j hj => zm_E_congr rfl (zm_w_ne hj) rfl rfl)]
  congr 2
  simp only [zm_E, hq]
  rw [zm_arr_i (by decide) (by decide)]
  simp only [zm_w_eq]
theorem zm_gin {w : Cond} {k i : Nat} (h : (zm_tb k)[i]? = some w ∧ goodWord w = true) : w ∈ zm_GW := zm_GW_in (zm_tb_at h.1) h.2
theorem zm_nfw : nativeFrameWords "java/lang/System" "arraycopy" 5 ≤ 100 := by decide +kernel
section ZXC
variable {p : Program} {l : Launch} {e : Env} {R : Room} {s : State} {m : MethodId} {args : Array Value} {below : List Frame} {meth : Method} {c : Code} {H : Heap} {locs : List Loc} {cells slots : Nat} {Q : State → Prop}
def zm_SX (l : Launch) : Prop := ∀ (p : Program) (e : Env) (R : Room) (s : State) (m : MethodId) (args : Array Value) (below : List Frame) (meth : Method) (c : Code) (H : Heap) (locs : List Loc) (cells slots : Nat) (Q : State → Prop) (x : zm_X) (D : va_G) (dA : Nat → ClassId) (adV : Nat → Nat) (N0 : Nat) (ad : Nat → Nat) (mi pc : Nat) (la : Array Slot) (i k : Nat) (as : List Value) (h h1 : zm_H) (w : Option Value) (rest : List Value),
  zm_Fx p s m args meth c mi → zm_Cx x D dA adV N0 ad s s.heap → va_S (zm_A N0) s.heap H locs → la.size = zm_ml mi → decode (zm_b mi) pc = .ok (.invokevirtual i, 3) → (Cond.methodLink (zm_cn (zm_oc mi)) i (zm_xy k)).before args s = true → (k = 1002 ∨ k = 1003 ∨ k = 1004) → zm_xc k as h = some (w, h1) → 6 ≤ R.frames → 300 ≤ R.locals → cells ≤ R.cells → slots ≤ R.slots → (rest.map Value.category).sum ≤ 8 →
  W p l e R s m args below meth c H locs cells slots Q (F0 m (pc + 3) la ((w.map (zm_c ad)).toList ++ rest.map (zm_c ad))) → W p l e R s m args below meth c H locs cells slots Q (F0 m pc la ((as.reverse ++ rest).map (zm_c ad)))
theorem zm_cats (ad : Nat → Nat) (rest : List Value) : (((rest.map (zm_c ad)).map fun v => v.category)).sum = (rest.map Value.category).sum := by
  rw [List.map_map]
  congr 1
  apply List.map_congr_left
  intro v _
  exact zm_c_cat ad v
set_option maxHeartbeats 2000000 in
set_option maxRecDepth 100000 in
theorem zm_xcall (hstr : zm_SX l) {x : zm_X} {D : va_G} {dA : Nat → ClassId} {adV : Nat → Nat} {N0 : Nat} {ad : Nat → Nat} {mi : Nat} (F : zm_Fx p s m args meth c mi) (C : zm_Cx x D dA adV N0 ad s s.heap)
    {pc : Nat} {h h1 : zm_H} {la : Array Slot} {len a b : Nat} {ins : Instr} {v : Int32} {as rest : List Value} {w : Option Value} (hq : zm_lk mi pc = some (len, ins, a, b, v)) (hrd : zm_rd ins = true) (ha : 1000 ≤ a) (hx : zm_xc a as h = some (w, h1))
    (hP : va_P D vwCl (zm_ws ad dA h) H) (hD : va_D (zm_A N0) (zm_ws ad dA h)) (hS : va_S (zm_A N0) s.heap H locs) (hla : la.size = zm_ml mi)
    (hRf : 6 ≤ R.frames) (hRl : 300 ≤ R.locals) (hRc : cells ≤ R.cells) (hRs : slots ≤ R.slots) (hsum : (rest.map Value.category).sum ≤ 8)
    (kk : ∀ (H1 : Heap) (locs1 : List Loc), va_P D vwCl (zm_ws ad dA h1) H1 → va_D (zm_A N0) (zm_ws ad dA h1) → va_S (zm_A N0) s.heap H1 locs1 → W p l e R s m args below meth c H1 locs1 cells slots Q (F0 m (pc + 3) la ((w.map (zm_c ad)).toList ++ rest.map (zm_c ad)))) :
    W p l e R s m args below meth c H locs cells slots Q (F0 m pc la ((as.reverse ++ rest).map (zm_c ad))) := by
  have F' := F
  have C' := C
  obtain ⟨hex, hb, hml, hown, hts, hini⟩ := F
  obtain ⟨hK, -⟩ := C
  obtain ⟨hd, hi⟩ := zm_ok hq
  have hk := zm_xk_ok hq
  dsimp only at hd
  have hn9 : ¬ a = 9999 := by
    intro z
    subst z
    cases hx
  have hrs : ((rest.map (zm_c ad)).map fun v => v.category).sum ≤ 8 := by rw [zm_cats]; exact hsum
  cases ins with
  | invokevirtual i =>
    obtain ⟨hl, hv⟩ := zm_and (show (len == 3 && zm_icc (zm_oc mi) a b i 0 1) = true from hi)
    have hl := zm_beq hl
    subst hl
    have hk : (decide (a < 1000) || (a == 9999 || (a == 1002 || (a == 1003 || a == 1004)))) = true := hk
    have hkk : a = 1002 ∨ a = 1003 ∨ a = 1004 := by
      simp only [Bool.or_eq_true, decide_eq_true_eq, beq_iff_eq] at hk
      omega
    have hic : zm_icl (zm_oc mi) a i = true := by
      have hv : (a == 9999 || (zm_icl (zm_oc mi) a i && _)) = true := hv
      rcases Bool.or_eq_true_iff.mp hv with z | z
      · exact absurd (zm_beq z) hn9
      · exact (zm_and z).1
    have eh : h1 = h := by
      unfold zm_xc at hx
      rcases hkk with z | z | z <;> subst z <;> simp only [show ¬ (1002 : Nat) = 1000 by decide, show ¬ (1002 : Nat) = 1001 by decide, show ¬ (1003 : Nat) = 1000 by decide, show ¬ (1003 : Nat) = 1001 by decide, show ¬ (1003 : Nat) = 1002 by decide, show ¬ (1004 : Nat) = 1000 by decide, show ¬ (1004 : Nat) = 1001 by decide, show ¬ (1004 : Nat) = 1002 by decide, show ¬ (1004 : Nat) = 1003 by decide, if_true, if_false] at hx
      all_goals
        split at hx
        · split at hx
          · cases hx; rfl
          · cases hx
        · cases hx
    subst eh
    exact hstr p e R s m args below meth c H locs cells slots Q x D dA adV N0 ad mi pc la i a as h1 h1 w rest F' C' hS hla hd (hts _ (zm_xlink hic ha)) hkk hx hRf hRl hRc hRs hsum (kk H locs hP hD hS)
  | invokestatic i =>
    obtain ⟨hl, hv⟩ := zm_and (show (len == 3 && zm_icc (zm_oc mi) a b i 2 0) = true from hi)
    have hl := zm_beq hl
    subst hl
    have hk : (decide (a < 1000) || (a == 1001 || (a == 1005 || (a == 1006 || (a == 1007 || (a == 1008 || a == 1009)))))) = true := hk
    have hkk : a = 1001 ∨ a = 1005 ∨ a = 1006 ∨ a = 1007 ∨ a = 1008 ∨ a = 1009 := by
      simp only [Bool.or_eq_true, decide_eq_true_eq, beq_iff_eq] at hk
      omega
    have hic : zm_icl (zm_oc mi) a i = true := by
      have hv : (a == 9999 || (zm_icl (zm_oc mi) a i && _)) = true := hv
      rcases Bool.or_eq_true_iff.mp hv with z | z
      · exact absurd (zm_beq z) hn9
      · exact (zm_and z).1
    have hlk := hts _ (zm_xlink hic ha)
    rcases hkk with z | z | z | z | z | z
    · subst z
      match as, hx with
      | [.ref ra, .int sp, .ref rb, .int dp, .int n], hx =>
        simp only [zm_xc, show ¬ (1001 : Nat) = 1000 by decide, if_true, if_false] at hx
        cases h1a : h.1[ra]? with
        | none => simp [h1a] at hx
        | some ka =>
          cases ka with
          | inr ca => simp [h1a] at hx
          | inl qa =>
            obtain ⟨ta, na⟩ := qa
            cases h1b : h.1[rb]? with
            | none => simp [h1a, h1b] at hx
            | some kb =>
              cases kb with
              | inr cb => simp [h1a, h1b] at hx
              | inl qb =>
                obtain ⟨tb, nb⟩ := qb
                simp only [h1a, h1b] at hx
                obtain ⟨⟨e1, e2, e3, e4, e5, e6, e7⟩, hx2⟩ := zm_ifs hx
                clear hx
                cases hx2
                subst e1
                subst e2
                exact va_copyi (rest := rest.map (zm_c ad)) hex hb (hml.trans hla.symm) hown hlk (hts _ (zm_gin (k := 4) (i := 112) (by decide +kernel))) (hts _ (zm_gin (k := 4) (i := 111) (by decide +kernel))) (hts _ (zm_gin (k := 1) (i := 20) (by decide +kernel))) hK hP hD hS ra rb 0 0 (by rw [zm_ws_arr h1a, zm_arr_i (by decide) (by decide)]) (by rw [zm_ws_arr h1b, zm_arr_i (by decide) (by decide)]) rfl rfl rfl e3 e4 e5 e6 e7 (fun _ _ => rfl) (by omega) (by have := zm_nfw; omega) hd (fun H1 locs1 hP1 hD1 hS1 => kk H1 locs1 (by rw [zm_cp_ws h1b]; exact hP1) (by rw [zm_cp_ws h1b]; exact hD1) hS1)
    · subst z
      match as, hx with
      | [.int y, .int z], hx =>
        have hx : some (some (Value.int (if y < z then z else y)), h) = some (w, h1) := hx
        cases hx
        exact va_mmax (rest := rest.map (zm_c ad)) hex hb (hml.trans hla.symm) hown hlk (hts _ (zm_gin (k := 3) (i := 113) (by decide +kernel))) (hts _ (zm_gin (k := 1) (i := 14) (by decide +kernel))) (hts _ (zm_gin (k := 3) (i := 114) (by decide +kernel))) (by omega) (by omega) hRc hRs hd (kk H locs hP hD hS)
    · subst z
      match as, hx with
      | [.int y, .int z], hx =>
        have hx : some (some (Value.int (if z < y then z else y)), h) = some (w, h1) := hx
        cases hx
        exact va_mmin (rest := rest.map (zm_c ad)) hex hb (hml.trans hla.symm) hown hlk (hts _ (zm_gin (k := 3) (i := 110) (by decide +kernel))) (hts _ (zm_gin (k := 1) (i := 14) (by decide +kernel))) (hts _ (zm_gin (k := 3) (i := 111) (by decide +kernel))) (by omega) (by omega) hRc hRs hd (kk H locs hP hD hS)
    · subst z
      match as, hx with
      | [.int y], hx =>
        have hx : some (some (Value.int (if 0 ≤ y then y else 0 - y)), h) = some (w, h1) := hx
        cases hx
        exact va_mabs (rest := rest.map (zm_c ad)) hex hb (hml.trans hla.symm) hown hlk (hts _ (zm_gin (k := 5) (i := 97) (by decide +kernel))) (hts _ (zm_gin (k := 1) (i := 14) (by decide +kernel))) (hts _ (zm_gin (k := 5) (i := 98) (by decide +kernel))) (by omega) (by omega) hRc hRs hd (kk H locs hP hD hS)
    · subst z
      match as, hx with
      | [.long y, .long z], hx =>
        have hx : some (some (Value.long (if z < y then y else z)), h) = some (w, h1) := hx
        cases hx
        exact va_mmax_long (rest := rest.map (zm_c ad)) hex hb (hml.trans hla.symm) hown hlk (hts _ (zm_gin (k := 5) (i := 27) (by decide +kernel))) (hts _ (zm_gin (k := 1) (i := 14) (by decide +kernel))) (hts _ (zm_gin (k := 5) (i := 28) (by decide +kernel))) (by omega) (by omega) hRc hRs hd (kk H locs hP hD hS)
    · subst z
      match as, hx with
      | [.long y, .long z], hx =>
        have hx : some (some (Value.long (if z < y then z else y)), h) = some (w, h1) := hx
        cases hx
        exact va_mmin_long (rest := rest.map (zm_c ad)) hex hb (hml.trans hla.symm) hown hlk (hts _ (zm_gin (k := 5) (i := 24) (by decide +kernel))) (hts _ (zm_gin (k := 1) (i := 14) (by decide +kernel))) (hts _ (zm_gin (k := 5) (i := 25) (by decide +kernel))) (by omega) (by omega) hRc hRs hd (kk H locs hP hD hS)
  | invokespecial i =>
    obtain ⟨hl, hv⟩ := zm_and (show (len == 3 && zm_icc (zm_oc mi) a b i 1 1) = true from hi)
    have hl := zm_beq hl
    subst hl
    have hk : (decide (a < 1000) || a == 1000) = true := hk
    have hkk : a = 1000 := by
      simp only [Bool.or_eq_true, decide_eq_true_eq, beq_iff_eq] at hk
      omega
    have hic : zm_icl (zm_oc mi) a i = true := by
      have hv : (a == 9999 || (zm_icl (zm_oc mi) a i && _)) = true := hv
      rcases Bool.or_eq_true_iff.mp hv with z | z
      · exact absurd (zm_beq z) hn9
      · exact (zm_and z).1
    have hlk := hts _ (zm_xlink hic ha)
    subst hkk
    match as, hx with
    | [.ref y], hx =>
      have hx : some (none, h) = some (w, h1) := hx
      cases hx
      exact W.objInit (rest := rest.map (zm_c ad)) hex hb hown hlk (hts _ (zm_gin (k := 1) (i := 28) (by decide +kernel))) (hts _ (zm_gin (k := 1) (i := 29) (by decide +kernel))) rfl (hla.trans hml.symm) rfl hd (by omega) (by show 2 * 0 + _ + 12 ≤ _; omega) (kk H locs hP hD hS)
  | _ => cases hrd
end ZXC
