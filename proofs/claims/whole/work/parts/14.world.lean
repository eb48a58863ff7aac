/-! ===== cells by number, as cells of the heap ===== -/
def zm_c (ad : Nat → Nat) (v : Value) : Value := match v with
  | .ref i => .ref (ad i)
  | w => w
theorem zm_c_cat (ad : Nat → Nat) (v : Value) : (zm_c ad v).category = v.category := by cases v <;> rfl
def zm_tys (dA : Nat → ClassId) : List (ClassId × FieldType) := [(dA 0, .int), (dA 1, .byte), (dA 2, .boolean), (dA 3, .long), (dA 4, .array .int)]
def zm_fv (ad : Nat → Nat) (h : zm_H) (c i k : Nat) : Value := if zm_ft c k = 0 then .int (h.2.1 i k) else va_rf ((h.2.2.2 i k).map ad)
def zm_fs (ad : Nat → Nat) (h : zm_H) (c i : Nat) : List Value := (List.range (zm_nf c)).map (zm_fv ad h c i)
def zm_ar (ad : Nat → Nat) (h : zm_H) (t n i : Nat) : vp_A := (n, if t = 3 then .inr (.inl (h.2.2.1 i)) else if t = 4 then .inr (.inr (.inr (.inr (fun j => (h.2.2.2 i j).map ad)))) else .inl (h.2.1 i))
def zm_E (ad : Nat → Nat) (dA : Nat → ClassId) (h : zm_H) (i : Nat) : va_E := match h.1[i]? with
  | some (.inl q) => .inl (dA q.1, zm_ar ad h q.1 q.2 i)
  | some (.inr c) => .inr (c, zm_fs ad h c i)
  | none => .inr (0, [])
def zm_ws (ad : Nat → Nat) (dA : Nat → ClassId) (h : zm_H) : va_W := (List.range h.1.length).map (fun i => (ad i, zm_E ad dA h i))
theorem zm_ws_len (ad : Nat → Nat) (dA : Nat → ClassId) (h : zm_H) : (zm_ws ad dA h).length = h.1.length := by simp [zm_ws]
theorem zm_ws_at {ad : Nat → Nat} {dA : Nat → ClassId} {h : zm_H} {i : Nat} (hi : i < h.1.length) : (zm_ws ad dA h)[i]? = some (ad i, zm_E ad dA h i) := by
  simp [zm_ws, hi]
theorem zm_ws_none {ad : Nat → Nat} {dA : Nat → ClassId} {h : zm_H} {i : Nat} (hi : ¬ i < h.1.length) : (zm_ws ad dA h)[i]? = none := by
  rw [List.getElem?_eq_none_iff, zm_ws_len]; omega
theorem zm_lt {h : zm_H} {i : Nat} {q : zm_K} (hq : h.1[i]? = some q) : i < h.1.length := (List.getElem?_eq_some_iff.mp hq).1
theorem zm_ws_obj {ad : Nat → Nat} {dA : Nat → ClassId} {h : zm_H} {i c : Nat} (hq : h.1[i]? = some (.inr c)) : (zm_ws ad dA h)[i]? = some (ad i, .inr (c, zm_fs ad h c i)) := by
  rw [zm_ws_at (zm_lt hq)]; simp only [zm_E, hq]
theorem zm_ws_arr {ad : Nat → Nat} {dA : Nat → ClassId} {h : zm_H} {i t n : Nat} (hq : h.1[i]? = some (.inl (t, n))) : (zm_ws ad dA h)[i]? = some (ad i, .inl (dA t, zm_ar ad h t n i)) := by
  rw [zm_ws_at (zm_lt hq)]; simp only [zm_E, hq]
theorem zm_ws_set {ad : Nat → Nat} {dA : Nat → ClassId} {h h' : zm_H} {i : Nat} (h1 : h'.1 = h.1) (hi : i < h.1.length) (ho : ∀ j, j ≠ i → zm_E ad dA h' j = zm_E ad dA h j) : zm_ws ad dA h' = (zm_ws ad dA h).set i (ad i, zm_E ad dA h' i) := by
  apply List.ext_getElem?
  intro j
  by_cases hj : j = i
  · subst hj
    rw [List.getElem?_set_self (by rw [zm_ws_len]; exact hi), zm_ws_at (by rw [h1]; exact hi)]
  · rw [List.getElem?_set_ne (Ne.symm hj)]
    by_cases hl : j < h.1.length
    · rw [zm_ws_at hl, zm_ws_at (by rw [h1]; exact hl), ho j hj]
    · rw [zm_ws_none hl, zm_ws_none (by rw [h1]; exact hl)]
theorem zm_u_ne {α : Type} {f : Nat → Nat → α} {i k : Nat} {v : α} {a : Nat} (h : a ≠ i) : zm_u f i k v a = f a := by simp [zm_u, h]
theorem zm_u_eq {α : Type} {f : Nat → Nat → α} {i k : Nat} {v : α} : zm_u f i k v i = fun b => if b = k then v else f i b := by simp [zm_u]
theorem zm_w_ne {α : Type} {f : Nat → Nat → α} {i : Nat} {g : Nat → α} {a : Nat} (h : a ≠ i) : zm_w f i g a = f a := by simp [zm_w, h]
theorem zm_w_eq {α : Type} {f : Nat → Nat → α} {i : Nat} {g : Nat → α} : zm_w f i g i = g := by simp [zm_w]
theorem zm_fs_congr {ad : Nat → Nat} {h h' : zm_H} {c i : Nat} (h1 : h'.2.1 i = h.2.1 i) (h2 : h'.2.2.2 i = h.2.2.2 i) : zm_fs ad h' c i = zm_fs ad h c i := by
  unfold zm_fs
  apply List.map_congr_left
  intro k _
  simp only [zm_fv, h1, h2]
theorem zm_ar_congr {ad : Nat → Nat} {h h' : zm_H} {t n i : Nat} (h1 : h'.2.1 i = h.2.1 i) (h2 : h'.2.2.2 i = h.2.2.2 i) (h3 : h'.2.2.1 i = h.2.2.1 i) : zm_ar ad h' t n i = zm_ar ad h t n i := by
  simp only [zm_ar, h1, h2, h3]
theorem zm_E_congr {ad : Nat → Nat} {dA : Nat → ClassId} {h h' : zm_H} {i : Nat} (h0 : h'.1[i]? = h.1[i]?) (h1 : h'.2.1 i = h.2.1 i) (h2 : h'.2.2.2 i = h.2.2.2 i) (h3 : h'.2.2.1 i = h.2.2.1 i) : zm_E ad dA h' i = zm_E ad dA h i := by
  unfold zm_E
  rw [h0]
  split
  · rw [zm_ar_congr h1 h2 h3]
  · rw [zm_fs_congr h1 h2]
  · rfl
theorem zm_fs_len {ad : Nat → Nat} {h : zm_H} {c i : Nat} : (zm_fs ad h c i).length = zm_nf c := by simp [zm_fs]
theorem zm_fs_at {ad : Nat → Nat} {h : zm_H} {c i k : Nat} (hk : k < zm_nf c) : (zm_fs ad h c i)[k]? = some (zm_fv ad h c i k) := by simp [zm_fs, hk]
theorem zm_fs_set {ad : Nat → Nat} {h h' : zm_H} {c i k : Nat} (hk : k < zm_nf c) (ho : ∀ j, j ≠ k → zm_fv ad h' c i j = zm_fv ad h c i j) : zm_fs ad h' c i = (zm_fs ad h c i).set k (zm_fv ad h' c i k) := by
  apply List.ext_getElem?
  intro j
  by_cases hj : j = k
  · subst hj
    rw [List.getElem?_set_self (by rw [zm_fs_len]; exact hk), zm_fs_at hk]
  · rw [List.getElem?_set_ne (Ne.symm hj)]
    by_cases hl : j < zm_nf c
    · rw [zm_fs_at hl, zm_fs_at hl, ho j hj]
    · rw [List.getElem?_eq_none_iff.mpr (by rw [zm_fs_len]; omega), List.getElem?_eq_none_iff.mpr (by rw [zm_fs_len]; omega)]
/-- a reference that is a cell's number, or something only read -/
def zm_wn (n j : Nat) : Prop := j < n ∨ 1000000 ≤ j
def zm_wv (n : Nat) (v : Value) : Prop := match v with
  | .ref j => zm_wn n j
  | .double _ => False
  | _ => True
def zm_ae (n : Nat) (ad ad' : Nat → Nat) : Prop := ∀ i, zm_wn n i → ad' i = ad i
theorem zm_ae.rfl {n : Nat} {ad : Nat → Nat} : zm_ae n ad ad := fun _ _ => Eq.refl _
theorem zm_ae.c {n : Nat} {ad ad' : Nat → Nat} (h : zm_ae n ad ad') {v : Value} (hv : zm_wv n v) : zm_c ad' v = zm_c ad v := by
  cases v with
  | ref j => exact congrArg Value.ref (h j hv)
  | _ => rfl
theorem zm_ae.trans {n n' : Nat} {a b c : Nat → Nat} (h1 : zm_ae n a b) (h2 : zm_ae n' b c) (hn : n ≤ n') : zm_ae n a c := fun i hi => (h2 i (hi.elim (fun h => Or.inl (by omega)) Or.inr)).trans (h1 i hi)
def zm_hw (h : zm_H) : Prop := (∀ i k j, h.2.2.2 i k = some j → zm_wn h.1.length j) ∧ h.1.length ≤ 1000000 ∧ ∀ (i t n : Nat), h.1[i]? = some (Sum.inl (t, n)) → t < 5
def zm_lw1 (n : Nat) (ls : zm_L) : Prop := ∀ (i : Nat) (v : Value), ls[i]? = some (some v) → zm_wv n v
def zm_sw1 (n : Nat) (st : List Value) : Prop := ∀ v ∈ st, zm_wv n v
theorem zm_map_ae {n : Nat} {ad ad' : Nat → Nat} (h : zm_ae n ad ad') {st : List Value} (hs : zm_sw1 n st) : st.map (zm_c ad') = st.map (zm_c ad) := List.map_congr_left fun v hv => h.c (hs v hv)
theorem zm_fv_ae {ad ad' : Nat → Nat} {h : zm_H} (hw : zm_hw h) (ha : zm_ae h.1.length ad ad') (c i k : Nat) : zm_fv ad' h c i k = zm_fv ad h c i k := by
  unfold zm_fv
  split
  · rfl
  · cases hr : h.2.2.2 i k with
    | none => rfl
    | some j => exact congrArg (fun z => va_rf (some z)) (ha j (hw.1 i k j hr))
theorem zm_E_ae {ad ad' : Nat → Nat} {dA : Nat → ClassId} {h : zm_H} (hw : zm_hw h) (ha : zm_ae h.1.length ad ad') (i : Nat) : zm_E ad' dA h i = zm_E ad dA h i := by
  unfold zm_E
  split
  · next q _ =>
    have e : zm_ar ad' h q.1 q.2 i = zm_ar ad h q.1 q.2 i := by
      unfold zm_ar
      have e2 : (fun j => (h.2.2.2 i j).map ad') = (fun j => (h.2.2.2 i j).map ad) := by
        funext j
        cases hr : h.2.2.2 i j with
        | none => rfl
        | some z => exact congrArg some (ha z (hw.1 i j z hr))
      rw [e2]
    rw [e]
  · next c _ =>
    have e : zm_fs ad' h c i = zm_fs ad h c i := by
      unfold zm_fs
      exact List.map_congr_left fun k _ => zm_fv_ae hw ha c i k
    rw [e]
  · rfl
theorem zm_ws_ae {ad ad' : Nat → Nat} {dA : Nat → ClassId} {h : zm_H} (hw : zm_hw h) (ha : zm_ae h.1.length ad ad') : zm_ws ad' dA h = zm_ws ad dA h := by
  unfold zm_ws
  apply List.map_congr_left
  intro i hi
  rw [List.mem_range] at hi
  rw [ha i (Or.inl hi), zm_E_ae hw ha]
theorem zm_nx_E {ad : Nat → Nat} {dA : Nat → ClassId} {h : zm_H} {q : zm_K} {i : Nat} (hi : i < h.1.length) : zm_E ad dA (zm_nx h q) i = zm_E ad dA h i :=
  zm_E_congr (by simp [zm_nx, List.getElem?_append_left hi]) (zm_w_ne (by omega)) (zm_w_ne (by omega)) (zm_w_ne (by omega))
theorem zm_ws_push {ad ad' : Nat → Nat} {dA : Nat → ClassId} {h : zm_H} {q : zm_K} (hw : zm_hw h) (ha : zm_ae h.1.length ad ad') : zm_ws ad' dA (zm_nx h q) = zm_ws ad dA h ++ [(ad' h.1.length, zm_E ad' dA (zm_nx h q) h.1.length)] := by
  rw [← zm_ws_ae hw ha]
  have hl : (zm_nx h q).1.length = h.1.length + 1 := by simp [zm_nx]
  unfold zm_ws
  rw [hl, List.range_succ, List.map_append]
  congr 1
  apply List.map_congr_left
  intro i hi
  rw [List.mem_range] at hi
  rw [zm_nx_E hi]
/-! the places of a frame -/
def zm_Ls (ad : Nat → Nat) (ls : zm_L) (nL : Nat) (la : Array Slot) : Prop := la.size = nL ∧ lv_wf la ∧ ls.length ≤ nL ∧ ∀ (i : Nat) (v : Value), ls[i]? = some (some v) → la[i]? = some (.val (zm_c ad v))
theorem zm_Ls.ae {n nL : Nat} {ad ad' : Nat → Nat} {ls : zm_L} {la : Array Slot} (h : zm_Ls ad ls nL la) (ha : zm_ae n ad ad') (hw : zm_lw1 n ls) : zm_Ls ad' ls nL la := ⟨h.1, h.2.1, h.2.2.1, fun i v hv => by rw [ha.c (hw i v hv)]; exact h.2.2.2 i v hv⟩
theorem zm_ld_at {ls : zm_L} {k : Nat} {v : Value} (h : zm_ld ls k = some v) : ls[k]? = some (some v) := by
  unfold zm_ld at h
  split at h
  · next w hw => cases h; exact hw
  · cases h
theorem zm_Ls.ld {ad : Nat → Nat} {ls : zm_L} {nL k : Nat} {la : Array Slot} {v : Value} (h : zm_Ls ad ls nL la) (hk : zm_ld ls k = some v) : la[k]? = some (.val (zm_c ad v)) := h.2.2.2 k v (zm_ld_at hk)
def zm_lv (ad : Nat → Nat) (ls : zm_L) : List (Nat × Value) := (List.range ls.length).filterMap (fun j => (zm_ld ls j).map (fun v => (j, zm_c ad v)))
theorem zm_lv_mem {ad : Nat → Nat} {ls : zm_L} {q : Nat × Value} : q ∈ zm_lv ad ls ↔ ∃ v, ls[q.1]? = some (some v) ∧ q.2 = zm_c ad v := by
  unfold zm_lv
  rw [List.mem_filterMap]
  constructor
  · rintro ⟨j, -, hj⟩
    cases hv : zm_ld ls j with
    | none => rw [hv] at hj; cases hj
    | some v =>
      rw [hv] at hj
      cases hj
      exact ⟨v, zm_ld_at hv, rfl⟩
  · rintro ⟨v, h1, h2⟩
    refine ⟨q.1, List.mem_range.mpr (List.getElem?_eq_some_iff.mp h1).1, ?_⟩
    obtain ⟨a, b⟩ := q
    dsimp only at h1 h2 ⊢
    simp only [zm_ld, h1, Option.map_some, h2]
theorem zm_Ls.has {ad : Nat → Nat} {ls : zm_L} {nL : Nat} {la : Array Slot} (h : zm_Ls ad ls nL la) : lv_has la nL (zm_lv ad ls) := ⟨h.1, h.2.1, fun q hq => by
  obtain ⟨v, h1, h2⟩ := zm_lv_mem.mp hq
  rw [h2]
  exact h.2.2.2 q.1 v h1⟩
theorem zm_so_spec {ls ls' : zm_L} {k : Nat} {v : Value} (h : zm_so ls k v = some ls') : k < ls.length ∧ zm_n2 ls k = true ∧ ls' = ls.set k (some v) := by
  unfold zm_so at h
  split at h
  · next hc => cases h; exact ⟨hc.1, hc.2, rfl⟩
  · cases h
theorem zm_Ls.so {ad : Nat → Nat} {ls ls' : zm_L} {nL k : Nat} {la la' : Array Slot} {v : Value} (h : zm_Ls ad ls nL la) (hs : zm_so ls k v = some ls') (h' : lv_has la' nL ((k, zm_c ad v) :: (zm_lv ad ls).filter (fun q => !(q.1 == k) && !(q.1 + 1 == k && q.2.category == 2)))) : zm_Ls ad ls' nL la' := by
  obtain ⟨h1, h2, h3⟩ := zm_so_spec hs
  refine ⟨h'.1, h'.2.1, by rw [h3, List.length_set]; exact h.2.2.1, fun i w hw => ?_⟩
  rw [h3] at hw
  by_cases hi : i = k
  · subst hi
    rw [List.getElem?_set_self h1] at hw
    cases hw
    exact h'.2.2 (i, zm_c ad v) List.mem_cons_self
  · rw [List.getElem?_set_ne (Ne.symm hi)] at hw
    refine h'.2.2 (i, zm_c ad w) (List.mem_cons_of_mem _ (List.mem_filter.mpr ⟨zm_lv_mem.mpr ⟨w, hw, rfl⟩, ?_⟩))
    have e1 : (i == k) = false := by simpa using hi
    have e2 : (i + 1 == k && (zm_c ad w).category == 2) = false := by
      rw [zm_c_cat]
      by_cases hk : i + 1 = k
      · subst hk
        have : w.category = 1 := by
          simp only [zm_n2, hw] at h2
          cases w <;> first | rfl | (simp at h2)
        rw [this]
        simp
      · have : (i + 1 == k) = false := by simpa using hk
        rw [this]; rfl
    dsimp only
    rw [e1, e2]
    rfl
theorem zm_lw1_so {n : Nat} {ls ls' : zm_L} {k : Nat} {v : Value} (h : zm_lw1 n ls) (hv : zm_wv n v) (hs : zm_so ls k v = some ls') : zm_lw1 n ls' := by
  obtain ⟨h1, h2, h3⟩ := zm_so_spec hs
  intro i w hw
  rw [h3] at hw
  by_cases hi : i = k
  · subst hi
    rw [List.getElem?_set_self h1] at hw
    cases hw
    exact hv
  · rw [List.getElem?_set_ne (Ne.symm hi)] at hw
    exact h i w hw
def zm_A (N0 : Nat) : Nat → Prop := fun q => N0 ≤ q
def zm_zs (q : zm_K) : Nat := match q with
  | .inl z => z.2
  | .inr c => zm_nf c
def zm_sz (h : zm_H) : Nat := (h.1.map zm_zs).sum
theorem zm_sz_nx (h : zm_H) (q : zm_K) : zm_sz (zm_nx h q) = zm_sz h + zm_zs q := by simp [zm_sz, zm_nx]
theorem zm_len_nx (h : zm_H) (q : zm_K) : (zm_nx h q).1.length = h.1.length + 1 := by simp [zm_nx]
