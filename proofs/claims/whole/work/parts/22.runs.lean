/-! ===== a whole run of the small machine is a run of the JVM ===== -/
theorem zm_rt1 : ∀ a, a < 268 → (zm_mw a).2.2.2.2.1 = 1 → zm_rt a = none := by decide +kernel
theorem zm_ml14 : ∀ a, a < 268 → zm_ml a ≤ 14 := by decide +kernel
theorem zm_args_el (ad : Nat → Nat) {n : Nat} : ∀ (as : List Value) (k i : Nat) (v : Value), zm_sw1 n as → (zm_el as)[i]? = some (some v) → (k + i, zm_c ad v) ∈ lv_args k (as.map (zm_c ad))
  | [], _, _, _, _, h => by simp [zm_el] at h
  | a :: r, k, i, v, hs, h => by
    have ih := zm_args_el ad (n := n) r
    have h2 := zm_sw_tl hs
    cases a with
    | double u => exact (zm_sw_hd hs).elim
    | long u =>
      simp only [zm_el] at h
      simp only [List.map_cons, zm_c, lv_args, Value.category]
      match i with
      | 0 => simp at h; subst h; exact List.mem_cons_self
      | 1 => simp at h
      | i + 2 =>
        simp at h
        have := ih (k + 2) i v h2 h
        rw [show k + 2 + i = k + (i + 2) by omega] at this
        exact List.mem_cons_of_mem _ this
    | _ =>
      simp only [zm_el] at h
      simp only [List.map_cons, zm_c, lv_args, Value.category]
      match i with
      | 0 => simp at h; subst h; exact List.mem_cons_self
      | i + 1 =>
        simp at h
        have := ih (k + 1) i v h2 h
        rw [show k + 1 + i = k + (i + 1) by omega] at this
        exact List.mem_cons_of_mem _ this
theorem zm_sl_len (ad : Nat → Nat) {n : Nat} : ∀ (as : List Value), zm_sw1 n as → (lg_sl (as.map (zm_c ad))).length = (zm_el as).length
  | [], _ => rfl
  | a :: r, hs => by
    have ih := zm_sl_len ad r (zm_sw_tl hs)
    cases a with
    | double u => exact (zm_sw_hd hs).elim
    | long u => simp [lg_sl, zm_el, zm_c, Value.category] at ih ⊢; omega
    | _ => simp [lg_sl, zm_el, zm_c, Value.category] at ih ⊢; omega
theorem zm_entry {ad : Nat → Nat} {n a : Nat} {as : List Value} (hs : zm_sw1 n as) (hl : (zm_el as).length ≤ zm_ml a) : zm_Ls ad (zm_en a as) (zm_ml a) ((lg_sl (as.map (zm_c ad)) ++ List.replicate (zm_ml a - (lg_sl (as.map (zm_c ad))).length) Slot.unset).toArray) := by
  have h := lv_entry (as.map (zm_c ad)) (n := zm_ml a) (by rw [zm_sl_len ad as hs]; exact hl)
  refine ⟨h.1, h.2.1, by simp [zm_en]; omega, fun i v hv => ?_⟩
  have hi : (zm_el as)[i]? = some (some v) := by
    unfold zm_en at hv
    by_cases hlt : i < (zm_el as).length
    · rwa [List.getElem?_append_left hlt] at hv
    · rw [List.getElem?_append_right (by omega)] at hv
      have := List.mem_of_getElem? hv
      rw [List.mem_replicate] at this
      cases this.2
  have := h.2.2 _ (zm_args_el ad as 0 i v hs hi)
  simpa using this
theorem zm_rm_ok {d' mc ms M : Nat} {R : Room} (hM : M ≤ 14) (h1 : d' + 1 + 6 ≤ R.frames) (h2 : 40 * (d' + 1) + 300 ≤ R.locals) : (zm_rm' d' mc ms).frames + 1 ≤ R.frames ∧ 8 + (M + 11) + (zm_rm' d' mc ms).locals ≤ R.locals := by
  have e1 : (zm_rm' d' mc ms).frames = d' + 6 := rfl
  have e2 : (zm_rm' d' mc ms).locals = 40 * d' + 300 := rfl
  rw [e1, e2]
  omega
def zm_WS (l : Launch) (x : zm_X) (n : Nat) : Prop := ∀ (D : va_G) (dA : Nat → ClassId) (adV : Nat → Nat) (N0 : Nat) (d mi pc : Nat) (ls : zm_L) (st : List Value) (h : zm_H) (v : Option Value) (h' : zm_H), zm_run x n d mi pc ls st h = some (v, h') → ∀ (p : Program) (e : Env) (R : Room) (s : State) (m : MethodId) (args : Array Value) (below : List Frame) (meth : Method) (c : Code) (Q : State → Prop) (k0 z0 : Nat) (H : Heap) (locs : List Loc) (la : Array Slot) (ad : Nat → Nat),
  zm_Fx p s m args meth c mi → zm_Cx x D dA adV N0 ad s s.heap → N0 ≤ s.heap.size → va_P D vwCl (zm_ws ad dA h) H → va_D (zm_A N0) (zm_ws ad dA h) → va_S (zm_A N0) s.heap H locs → zm_Ls ad ls (zm_ml mi) la → zm_hw h → zm_lw1 h.1.length ls → zm_sw1 h.1.length st → k0 ≤ h.1.length → z0 ≤ zm_sz h → h'.1.length - k0 ≤ R.cells → zm_sz h' - z0 ≤ R.slots → d + 6 ≤ R.frames → 40 * d + 300 ≤ R.locals →
  (∀ (pc' : Nat) (q : zm_I) (st' : List Value) (ad' : Nat → Nat) (H1 : Heap) (locs1 : List Loc) (la1 : Array Slot), zm_lk mi pc' = some q → zm_ret mi q.2.1 st' h' = some (some (v, h')) → zm_ae h.1.length ad ad' → va_P D vwCl (zm_ws ad' dA h') H1 → va_D (zm_A N0) (zm_ws ad' dA h') → va_S (zm_A N0) s.heap H1 locs1 → W p l e R s m args below meth c H1 locs1 (h'.1.length - k0) (zm_sz h' - z0) Q (F0 m pc' la1 (st'.map (zm_c ad')))) →
  W p l e R s m args below meth c H locs (h.1.length - k0) (zm_sz h - z0) Q (F0 m pc la (st.map (zm_c ad)))
theorem zm_ret_i {mi : Nat} {st : List Value} {h h' : zm_H} {v : Option Value} (hr : zm_ret mi .ireturn st h = some (some (v, h'))) : ∃ u : Int32, st = [.int u] ∧ v = some (.int u) ∧ (zm_rt mi = some .int ∨ (zm_rt mi = some .boolean ∧ vp_nar .boolean u = u)) := by
  match st, hr with
  | [.int u], hr =>
    have hr : (if zm_rt mi = some .int ∨ (zm_rt mi = some .boolean ∧ vp_nar .boolean u = u) then some (some (some (.int u), h)) else some none) = some (some (v, h')) := hr
    split at hr
    · next hc => cases hr; exact ⟨u, rfl, rfl, hc⟩
    · cases hr
theorem zm_ret_l {mi : Nat} {st : List Value} {h h' : zm_H} {v : Option Value} (hr : zm_ret mi .lreturn st h = some (some (v, h'))) : ∃ u : Int64, st = [.long u] ∧ v = some (.long u) ∧ zm_rt mi = some .long := by
  match st, hr with
  | [.long u], hr =>
    have hr : (if zm_rt mi = some .long then some (some (some (.long u), h)) else some none) = some (some (v, h')) := hr
    split at hr
    · next hc => cases hr; exact ⟨u, rfl, rfl, hc⟩
    · cases hr
theorem zm_ret_a {mi : Nat} {st : List Value} {h h' : zm_H} {v : Option Value} (hr : zm_ret mi .areturn st h = some (some (v, h'))) : ∃ u : Nat, st = [.ref u] ∧ v = some (.ref u) ∧ zm_rt mi = some (.array .int) := by
  match st, hr with
  | [.ref u], hr =>
    have hr : (if zm_rt mi = some (.array .int) then some (some (some (.ref u), h)) else some none) = some (some (v, h')) := hr
    split at hr
    · next hc => cases hr; exact ⟨u, rfl, rfl, hc⟩
    · cases hr
theorem zm_ret_v {mi : Nat} {st : List Value} {h h' : zm_H} {v : Option Value} (hr : zm_ret mi .return_ st h = some (some (v, h'))) : st = [] ∧ v = none ∧ zm_rt mi = none := by
  match st, hr with
  | [], hr =>
    have hr : (if zm_rt mi = none then some (some (none, h)) else some none) = some (some (v, h')) := hr
    split at hr
    · next hc => cases hr; exact ⟨rfl, rfl, hc⟩
    · cases hr
set_option maxHeartbeats 2000000 in
theorem zm_met {l : Launch} {x : zm_X} {n : Nat} (hn : zm_WS l x n) {D : va_G} {dA : Nat → ClassId} {adV : Nat → Nat} {N0 : Nat} {ad : Nat → Nat} {d a : Nat} {as : List Value} {h h' : zm_H} {v : Option Value} (ha : a < 268) (hr : zm_run x n d a 0 (zm_en a as) [] h = some (v, h')) (hw : zm_hw h) (hwa : zm_sw1 h.1.length as) (hl : (zm_el as).length ≤ zm_ml a) :
    Met l (zm_y a) (zm_W a) (zm_rm' d (h'.1.length - h.1.length) (zm_sz h' - zm_sz h)) (zm_Pc x D dA adV N0 ad as h) (zm_Qc D dA N0 ad h v h') (h'.1.length - h.1.length) (zm_sz h' - zm_sz h) (zm_A N0) := by
  obtain ⟨w1, w2, w3, w4, w5, w6, w7, w8⟩ := zm_mwok ha
  refine Met.ofW (cc := zm_b a) (maxL := zm_ml a) (ret := zm_rt a) w7 rfl ?_
  intro p e s m args below meth c s₁ B hml hv
  obtain ⟨rfl, hN, ⟨hP, hD⟩, hC⟩ := hv
  have hx := B.exec
  have hb := B.bytes
  have hrt := B.returns
  have hts := atoms_spec (ws := zm_W a) B.pre
  have hown : s.vm.findClass (zm_cn (zm_oc a)) = some m.cls := by
    have := findClass_of_methodNamed B.named
    rwa [w8] at this
  have hlocks := B.notSynchronized
  have F : zm_Fx p s m (as.map (zm_c ad)).toArray meth c a := ⟨hx, hb, hml, hown, fun w hw => hts w (List.mem_cons_of_mem _ hw), fun hk => (name_of_methodNamed B.named B.method).1.trans (w5 hk)⟩
  rw [lg_entry_eq]
  have k9 := hn D dA adV N0 d a 0 (zm_en a as) [] h v h' hr p e (headSpec (zm_W a) (zm_rm' d (h'.1.length - h.1.length) (zm_sz h' - zm_sz h))).room s m (as.map (zm_c ad)).toArray below meth c (MQ below (zm_Qc D dA N0 ad h v h') (as.map (zm_c ad)).toArray s (h'.1.length - h.1.length) (zm_sz h' - zm_sz h) (zm_A N0)) h.1.length (zm_sz h) s.heap [] _ ad F hC hN hP hD va_S.rf (zm_entry hwa hl) hw (zm_en_wf hwa) (fun _ z => by cases z) (Nat.le_refl _) (Nat.le_refl _) (Nat.le_refl _) (Nat.le_refl _) (Nat.le_refl _) (Nat.le_refl _) ?_
  · rw [Nat.sub_self, Nat.sub_self] at k9
    exact k9
  · intro pc' q st' ad' H1 locs1 la1 hq hret ha' hP1 hD1 hS1
    obtain ⟨hd, hi⟩ := zm_ok hq
    obtain ⟨len, ins, a2, b2, v2⟩ := q
    dsimp only at hd hret
    cases ins with
    | ireturn =>
      have hl : len = 1 := zm_beq hi
      subst hl
      obtain ⟨u, e1, e2, e3⟩ := zm_ret_i hret
      subst e1
      subst e2
      rcases e3 with e3 | ⟨e3, e4⟩
      · exact W.iret hx hb (hrt.trans e3) (fun t ht hW => ⟨⟨ad', ha', rfl, by rw [ht]; exact hP1, hD1⟩, hS1.F ht⟩) hS1.2.2 hd
      · have e5 : narrow .boolean (.int u) = .int u := by
          have : narrow .boolean (.int u) = .int (vp_nar .boolean u) := rfl
          rw [this, e4]
        exact W.zret hx hb (hrt.trans e3) e5 (fun t ht hW => ⟨⟨ad', ha', rfl, by rw [ht]; exact hP1, hD1⟩, hS1.F ht⟩) hS1.2.2 hd
    | lreturn =>
      have hl : len = 1 := zm_beq hi
      subst hl
      obtain ⟨u, e1, e2, e3⟩ := zm_ret_l hret
      subst e1
      subst e2
      exact W.lret hx hb (hrt.trans e3) (fun t ht hW => ⟨⟨ad', ha', rfl, by rw [ht]; exact hP1, hD1⟩, hS1.F ht⟩) hS1.2.2 hd
    | areturn =>
      have hl : len = 1 := zm_beq hi
      subst hl
      obtain ⟨u, e1, e2, e3⟩ := zm_ret_a hret
      subst e1
      subst e2
      exact W.aret hx hb (hrt.trans e3) (Or.inr ⟨_, rfl⟩) (Or.inr ⟨ad' u, rfl⟩) (fun t ht hW => ⟨⟨ad', ha', rfl, by rw [ht]; exact hP1, hD1⟩, hS1.F ht⟩) hS1.2.2 hd
    | return_ =>
      have hl : len = 1 := zm_beq hi
      subst hl
      obtain ⟨e1, e2, e3⟩ := zm_ret_v hret
      subst e1
      subst e2
      exact W.vret hx hb (hrt.trans e3) (fun t ht hW => ⟨⟨ad', ha', rfl, by rw [ht]; exact hP1, hD1⟩, hS1.F ht⟩) hS1.2.2 hd
    | _ => cases hret
theorem zm_split {st as : List Value} {b : Nat} (h : (st.take b).reverse = as) : st = as.reverse ++ st.drop b := by
  rw [← h, List.reverse_reverse, List.take_append_drop]
theorem zm_rk_inv {a : Nat} {as : List Value} {h : zm_H} (hr : zm_rk a as h = true) : ∃ (i : Nat) (r : List Value), as = .ref i :: r ∧ h.1[i]? = some (.inr (zm_oc a)) := by
  match as, hr with
  | .ref i :: r, hr =>
    have hr : (match h.1[i]? with | some (.inr c) => c == zm_oc a | _ => false) = true := hr
    split at hr
    · next c hc =>
      have := zm_beq hr
      subst this
      exact ⟨i, r, rfl, hc⟩
    · cases hr
section ZCL
variable {p : Program} {l : Launch} {e : Env} {R : Room} {s : State} {m : MethodId} {args : Array Value} {below : List Frame} {meth : Method} {c : Code} {H : Heap} {locs : List Loc} {cells slots : Nat}
set_option maxHeartbeats 2000000 in
/-- a call of a row of code: it runs -/
theorem zm_callrun {x : zm_X} {D : va_G} {dA : Nat → ClassId} {adV : Nat → Nat} {N0 : Nat} {ad : Nat → Nat} {mi : Nat} (F : zm_Fx p s m args meth c mi) (C : zm_Cx x D dA adV N0 ad s s.heap) (hN : N0 ≤ s.heap.size)
    {pc : Nat} {h h1 : zm_H} {la : Array Slot} {len a b : Nat} {ins : Instr} {v : Int32} {as rest : List Value} {w : Option Value} {d' mc ms : Nat} (hq : zm_lk mi pc = some (len, ins, a, b, v)) (hrd : zm_rd ins = true) (ha : ¬ 1000 ≤ a) (hb9 : as.length = b)
    (hrk : zm_iv ins = true → zm_rk a as h = true) (hM : a < 268 → Met l (zm_y a) (zm_W a) (zm_rm' d' mc ms) (zm_Pc x D dA adV N0 ad as h) (zm_Qc D dA N0 ad h w h1) mc ms (zm_A N0))
    (hP : va_P D vwCl (zm_ws ad dA h) H) (hD : va_D (zm_A N0) (zm_ws ad dA h)) (hS : va_S (zm_A N0) s.heap H locs) (hla : la.size = zm_ml mi)
    (hRf : d' + 1 + 6 ≤ R.frames) (hRl : 40 * (d' + 1) + 300 ≤ R.locals) (hRc : cells + mc ≤ R.cells) (hRs : slots + ms ≤ R.slots) (hsum : (rest.map Value.category).sum ≤ 8) :
    va_Run p l e R s m args below meth c H locs cells slots mc ms (F0 m pc la ((as.reverse ++ rest).map (zm_c ad))) (rest.map (zm_c ad)) (zm_Qc D dA N0 ad h w h1 (as.map (zm_c ad)).toArray) (zm_A N0) := by
  obtain ⟨hex, hb, hml, hown, hts, hini⟩ := F
  have C' := C
  obtain ⟨hK, hnest, -⟩ := C
  obtain ⟨hd, hi⟩ := zm_ok hq
  dsimp only at hd
  have hrs : ((rest.map (zm_c ad)).map fun v => v.category).sum ≤ 8 := by rw [zm_cats]; exact hsum
  have hroom : 2 * (F0 m pc la ((as.reverse ++ rest).map (zm_c ad))).monitorRoom + ((rest.map (zm_c ad)).map fun v => v.category).sum ≤ 8 := lv_room hrs
  have hS0 : CallFix p m c (zm_b mi) (zm_ml mi) s args zm_GW (zm_cn (zm_oc mi)) := ⟨hex, hb, hml, hown, hts⟩
  have key : ∀ (i kd ex : Nat), zm_icc (zm_oc mi) a b i kd ex = true → a < 268 ∧ (zm_mw a).2.2.2.2.1 = kd ∧ (zm_mw a).2.2.2.2.2 + ex = b ∧ ∃ q : zm_LP, q ∈ zm_lp (zm_oc mi) ∧ q.1 = i ∧ q.2.1 = a := by
    intro i kd ex hv
    have hv : (a == 9999 || (zm_icl (zm_oc mi) a i && (decide (1000 ≤ a) || (decide (a < 268) && ((zm_mw a).2.2.2.2.1 == kd && (zm_mw a).2.2.2.2.2 + ex == b))))) = true := hv
    rcases Bool.or_eq_true_iff.mp hv with z | z
    · have := zm_beq z; omega
    · obtain ⟨z1, z2⟩ := zm_and z
      rcases Bool.or_eq_true_iff.mp z2 with z3 | z3
      · exact absurd (of_decide_eq_true z3) ha
      · obtain ⟨z4, z5⟩ := zm_and z3
        obtain ⟨z6, z7⟩ := zm_and z5
        exact ⟨of_decide_eq_true z4, zm_beq z6, zm_beq z7, zm_link z1⟩
  have hxy : zm_xy a = zm_y a := by
    unfold zm_xy
    rw [if_neg (by omega), if_neg (by omega), if_neg (by omega), if_neg (by omega), if_neg (by omega), if_neg (by omega), if_neg (by omega), if_neg (by omega), if_neg (by omega), if_neg (by omega)]
  have lk0 : ∀ (q : zm_LP), q ∈ zm_lp (zm_oc mi) → q.2.1 = a → q.2.2.1 = 0 → Cond.methodLink (zm_cn (zm_oc mi)) q.1 (zm_y a) ∈ zm_GW := by
    intro q hq1 h2 hz
    obtain ⟨hw1, hw2⟩ := zm_lp_ok _ q hq1
    have e9 : zm_lw (zm_oc mi) q = Cond.methodLink (zm_cn (zm_oc mi)) q.1 (zm_y a) := by simp only [zm_lw, hz, if_true, h2, hxy]
    have := zm_GW_in (zm_tb_at hw1) (hw2 hz)
    rwa [e9] at this
  have lk1 : ∀ (q : zm_LP), q ∈ zm_lp (zm_oc mi) → q.2.1 = a → ¬ q.2.2.1 = 0 → va_Nw (Cond.methodLinkNest (zm_cn (zm_oc mi)) q.1 (zm_y a) "NoddingRafts") s := by
    intro q hq1 h2 hz
    obtain ⟨hw1, hw2⟩ := zm_lp_ok _ q hq1
    have e9 : zm_lw (zm_oc mi) q = Cond.methodLinkNest (zm_cn (zm_oc mi)) q.1 (zm_y a) "NoddingRafts" := by simp only [zm_lw, hz, if_false, h2, hxy]
    rw [e9] at hw1
    exact hnest _ (zm_tb_at hw1) rfl
  have hPc : ∀ U : State, U.heap = H → s.WarmedH U.vm → zm_Pc x D dA adV N0 ad as h (as.map (zm_c ad)).toArray U := by
    intro U hU hW
    refine ⟨rfl, by rw [hU]; exact Nat.le_trans hN hS.1, by rw [hU]; exact ⟨hP, hD⟩, ?_⟩
    rw [hU]
    exact zm_Cx.warm hW (zm_Cx.kept C' hS.1 hS.2.1)
  cases ins with
  | invokevirtual i =>
    obtain ⟨hl, hv⟩ := zm_and (show (len == 3 && zm_icc (zm_oc mi) a b i 0 1) = true from hi)
    have hl := zm_beq hl
    subst hl
    obtain ⟨ha2, k1, k2, q, hq1, hq2, hq3⟩ := key i 0 1 hv
    obtain ⟨w1, w2, w3, w4, w5, w6, w7, w8⟩ := zm_mwok ha2
    have hml14 := zm_ml14 a ha2
    rw [k1] at w2 w4
    obtain ⟨y, r, hy, hk⟩ := zm_rk_inv (hrk rfl)
    have hoc := zm_oc12 a ha2 k1
    obtain ⟨g1, -⟩ := zm_cls hoc
    have hrecv : ∃ cellB : Cell, H[ad y]? = some cellB ∧ cellB.vm.isStatics = false ∧ s.vm.findClass (zm_y a).cls = some cellB.cls := by
      have := va_recv hK hP g1 (zm_ws_obj hk)
      rw [zm_cn_ct hoc, ← w8] at this
      exact this
    have hst : (as.reverse ++ rest).map (zm_c ad) = (r.map (zm_c ad)).reverse ++ .ref (ad y) :: rest.map (zm_c ad) := by
      rw [hy]; simp [zm_c]
    have harr : (as.map (zm_c ad)).toArray = (Value.ref (ad y) :: r.map (zm_c ad)).toArray := by rw [hy]; rfl
    have hlen : (r.map (zm_c ad)).length = (zm_mw a).2.2.2.2.2 := by
      rw [hy] at hb9
      simp at hb9
      simp
      omega
    rw [harr]
    have hR := zm_rm_ok (mc := mc) (ms := ms) hml14 hRf hRl
    have hpre : PreV s H (zm_y a).cls (ad y) (zm_Pc x D dA adV N0 ad as h) (r.map (zm_c ad)) := ⟨zm_Pc_blind x D dA adV N0 ad as h, hrecv, fun U hU hW => by rw [← harr]; exact hPc U hU hW⟩
    subst hq2
    by_cases hz : q.2.2.1 = 0
    · refine va_runV (C := (zm_y a).cls) hS0 (hM ha2) (cwV (zm_mw a).2.2.2.2.2 hts ?_ rfl rfl rfl ⟨rfl, w6⟩ hR) hpre rfl hlen hla hst hroom hd ⟨hRc, hRs⟩
      intro u hu
      rcases List.mem_append.mp hu with hu | hu
      · simp only [List.mem_cons, List.not_mem_nil, or_false] at hu
        rcases hu with rfl | rfl | rfl | rfl
        · exact zm_good (lk0 q hq1 hq3 hz)
        · exact zm_good (zm_GW_in (zm_tb_at w2) rfl)
        · exact zm_good (zm_GW_in (zm_tb_at (w4 rfl)) rfl)
        · exact zm_good (zm_GW_in (zm_tb_at w3) rfl)
      · exact zm_W_good ha2 u hu
    · exact va_runVN (C := (zm_y a).cls) hS0 (hM ha2) ⟨va_cnB (zm_mw a).2.2.2.2.2 hts (zm_W_good ha2) rfl rfl rfl (lk1 q hq1 hq3 hz) (hts _ (zm_GW_in (zm_tb_at w3) rfl)) w6 hR, hts _ (zm_GW_in (zm_tb_at w2) rfl), hts _ (zm_GW_in (zm_tb_at (w4 rfl)) rfl)⟩ hpre rfl hlen hla hst hroom hd ⟨hRc, hRs⟩
  | invokestatic i =>
    obtain ⟨hl, hv⟩ := zm_and (show (len == 3 && zm_icc (zm_oc mi) a b i 2 0) = true from hi)
    have hl := zm_beq hl
    subst hl
    obtain ⟨ha2, k1, k2, q, hq1, hq2, hq3⟩ := key i 2 0 hv
    obtain ⟨w1, w2, w3, w4, w5, w6, w7, w8⟩ := zm_mwok ha2
    have hml14 := zm_ml14 a ha2
    rw [k1] at w2
    have hst : (as.reverse ++ rest).map (zm_c ad) = (as.map (zm_c ad)).reverse ++ rest.map (zm_c ad) := by simp
    have hlen : (as.map (zm_c ad)).length = (zm_mw a).2.2.2.2.2 := by simp; omega
    have hR := zm_rm_ok (mc := mc) (ms := ms) hml14 hRf hRl
    have hpre : PreS s H (zm_Pc x D dA adV N0 ad as h) (as.map (zm_c ad)) := ⟨zm_Pc_blind x D dA adV N0 ad as h, hPc⟩
    subst hq2
    by_cases hz : q.2.2.1 = 0
    · refine va_runS hS0 (hM ha2) (va_cwS (zm_mw a).2.2.2.2.2 hts ?_ rfl rfl rfl w6 hR) hpre rfl hlen hla hst hroom hd ⟨hRc, hRs⟩
      intro u hu
      rcases List.mem_append.mp hu with hu | hu
      · simp only [List.mem_cons, List.not_mem_nil, or_false] at hu
        rcases hu with rfl | rfl | rfl
        · exact zm_good (lk0 q hq1 hq3 hz)
        · exact zm_good (zm_GW_in (zm_tb_at w2) rfl)
        · exact zm_good (zm_GW_in (zm_tb_at w3) rfl)
      · exact zm_W_good ha2 u hu
    · exact va_runSN hS0 (hM ha2) ⟨va_cnB (zm_mw a).2.2.2.2.2 hts (zm_W_good ha2) rfl rfl rfl (lk1 q hq1 hq3 hz) (hts _ (zm_GW_in (zm_tb_at w3) rfl)) w6 hR, hts _ (zm_GW_in (zm_tb_at w2) rfl), trivial⟩ hpre rfl hlen hla hst hroom hd ⟨hRc, hRs⟩
  | invokespecial i =>
    obtain ⟨hl, hv⟩ := zm_and (show (len == 3 && zm_icc (zm_oc mi) a b i 1 1) = true from hi)
    have hl := zm_beq hl
    subst hl
    obtain ⟨ha2, k1, k2, q, hq1, hq2, hq3⟩ := key i 1 1 hv
    obtain ⟨w1, w2, w3, w4, w5, w6, w7, w8⟩ := zm_mwok ha2
    have hml14 := zm_ml14 a ha2
    rw [k1] at w2 w5
    obtain ⟨y, r, hy, hk⟩ := zm_rk_inv (hrk rfl)
    have hst : (as.reverse ++ rest).map (zm_c ad) = (r.map (zm_c ad)).reverse ++ .ref (ad y) :: rest.map (zm_c ad) := by
      rw [hy]; simp [zm_c]
    have harr : (as.map (zm_c ad)).toArray = (Value.ref (ad y) :: r.map (zm_c ad)).toArray := by rw [hy]; rfl
    have hlen : (r.map (zm_c ad)).length = (zm_mw a).2.2.2.2.2 := by
      rw [hy] at hb9
      simp at hb9
      simp
      omega
    have hrt0 : zm_rt a = none := zm_rt1 a ha2 k1
    have hR := zm_rm_ok (mc := mc) (ms := ms) hml14 hRf hRl
    have hpre : PreS s H (zm_Pc x D dA adV N0 ad as h) (.ref (ad y) :: r.map (zm_c ad)) := ⟨zm_Pc_blind x D dA adV N0 ad as h, fun U hU hW => by rw [← harr]; exact hPc U hU hW⟩
    have hWa : zm_W a = Cond.code (zm_y a) (zm_b a) (zm_ml a) none :: zm_GW := by unfold zm_W; rw [hrt0]
    rw [harr]
    subst hq2
    by_cases hz : q.2.2.1 = 0
    · exact va_runI hS0 (hM ha2) (cwI (zm_mw a).2.2.2.2.2 hts (zm_W_good ha2) hWa rfl rfl (hts _ (zm_GW_in (zm_tb_at w3) rfl)) (hts _ (lk0 q hq1 hq3 hz)) (hts _ (zm_GW_in (zm_tb_at w2) rfl)) (w5 rfl) w6 hR) hpre rfl hlen hla hst hroom hd ⟨hRc, hRs⟩
    · exact va_runIN hS0 (hM ha2) ⟨va_cnB (zm_mw a).2.2.2.2.2 hts (zm_W_good ha2) hWa rfl rfl (lk1 q hq1 hq3 hz) (hts _ (zm_GW_in (zm_tb_at w3) rfl)) w6 hR, w5 rfl, hts _ (zm_GW_in (zm_tb_at w2) rfl)⟩ hpre rfl hlen hla hst hroom hd ⟨hRc, hRs⟩
  | _ => cases hrd
end ZCL
set_option maxHeartbeats 4000000 in
theorem zm_walk {l : Launch} (hstr : zm_SX l) (x : zm_X) : ∀ n, zm_WS l x n := by
  intro n
  induction n with
  | zero => intro D dA adV N0 d mi pc ls st h v h' hr; cases hr
  | succ n ih =>
    intro D dA adV N0 d mi pc ls st h v h' hr p e R s m args below meth c Q k0 z0 H locs la ad F C hN hP hD hS hL hw hwl hws hk0 hz0 hRc hRs hRf hRl kk
    have hr0 := hr
    rw [zm_run] at hr
    split at hr
    · cases hr
    · next q hq =>
      split at hr
      · next r hret =>
        subst hr
        obtain ⟨e1, e2⟩ := zm_ret_inv hret
        subst e1
        exact kk pc q st ad H locs la hq hret zm_ae.rfl hP hD hS
      · obtain ⟨len, ins, a, b, v9⟩ := q
        dsimp only at hr
        split at hr
        · next hrd =>
          split at hr
          · next hbs =>
            split at hr
            · cases hr
            · next d' =>
              have hargs : zm_sw1 h.1.length (st.take b).reverse := zm_sw_args hws
              have hsp : st = (st.take b).reverse.reverse ++ st.drop b := zm_split rfl
              have hmap : st.map (zm_c ad) = ((st.take b).reverse.reverse ++ st.drop b).map (zm_c ad) := congrArg (List.map (zm_c ad)) hsp
              split at hr
              · next ha =>
                split at hr
                · next v2 h2 hx =>
                  obtain ⟨e1, e2, e3, e4⟩ := zm_xc_inv hx
                  have hz2 : zm_sz h2 = zm_sz h := by simp [zm_sz, e1]
                  have hw2 : zm_hw h2 := ⟨fun i k j hj => by rw [e2] at hj; rw [e1]; exact hw.1 i k j hj, by rw [e1]; exact hw.2.1, fun i t n hi => by rw [e1] at hi; exact hw.2.2 i t n hi⟩
                  obtain ⟨-, -, g3, g4⟩ := zm_R_wf _ _ _ _ _ _ _ _ _ hr hw2 (by rw [e1]; exact hwl) (by rw [e1]; exact zm_sw_rest hws (fun w hv => e4 w hv _))
                  rw [e1] at g3
                  rw [hz2] at g4
                  rw [hmap]
                  refine zm_xcall hstr F C hq hrd ha hx hP hD hS hL.1 (by omega) (by omega) (by omega) (by omega) hbs.2 (fun H1 locs1 hP1 hD1 hS1 => ?_)
                  have k9 := ih D dA adV N0 (d' + 1) mi (pc + 3) ls (v2.toList ++ st.drop b) h2 v h' hr p e R s m args below meth c Q k0 z0 H1 locs1 la ad F C hN hP1 hD1 hS1 hL hw2 (by rw [e1]; exact hwl) (by rw [e1]; exact zm_sw_rest hws (fun w hv => e4 w hv _)) (by rw [e1]; exact hk0) (by rw [hz2]; exact hz0) hRc hRs hRf hRl (fun pc' q st' ad' H2 locs2 la2 z1 z2 z3 z4 z5 z6 => kk pc' q st' ad' H2 locs2 la2 z1 z2 (by rw [e1] at z3; exact z3) z4 z5 z6)
                  rw [e1, hz2, List.map_append] at k9
                  have e9 : v2.toList.map (zm_c ad) = (v2.map (zm_c ad)).toList := by cases v2 <;> rfl
                  rw [e9] at k9
                  exact k9
                · cases hr
              · next ha =>
                split at hr
                · next hcc =>
                  split at hr
                  · next v2 h2 hx =>
                    obtain ⟨f1, f2, f3, f4⟩ := zm_R_wf _ _ _ _ _ _ _ _ _ hx hw (zm_en_wf hargs) (fun _ z => by cases z)
                    obtain ⟨-, -, g3, g4⟩ := zm_R_wf _ _ _ _ _ _ _ _ _ hr f1 (zm_lw1_le f3 hwl) (zm_sw_rest (zm_sw1_le f3 hws) f2)
                    rw [hmap]
                    have hb9 : (st.take b).reverse.length = b := by simp; omega
                    refine zm_cont (h := h) (h1 := h2) (v := v2) (zm_callrun (d' := d') (mc := h2.1.length - h.1.length) (ms := zm_sz h2 - zm_sz h) F C hN hq hrd ha hb9 hcc.1 (fun ha2 => zm_met ih ha2 hx hw hargs hcc.2) hP hD hS hL.1 hRf hRl (by omega) (by omega) hbs.2) hS (fun ad' H1 locs1 hae hP1 hD1 hS1 => ?_)
                    have k9 := ih D dA adV N0 (d' + 1) mi (pc + 3) ls (v2.toList ++ st.drop b) h2 v h' hr p e R s m args below meth c Q k0 z0 H1 locs1 la ad' F (C.ae hae) hN hP1 hD1 hS1 (hL.ae hae hwl) f1 (zm_lw1_le f3 hwl) (zm_sw_rest (zm_sw1_le f3 hws) f2) (by omega) (by omega) hRc hRs hRf hRl (fun pc' q st' ad2 H2 locs2 la2 z1 z2 z3 z4 z5 z6 => kk pc' q st' ad2 H2 locs2 la2 z1 z2 (hae.trans z3 f3) z4 z5 z6)
                    have e9 : v2.toList.map (zm_c ad') = (v2.map (zm_c ad')).toList := by cases v2 <;> rfl
                    rw [List.map_append, e9, zm_map_ae hae (fun w hw' => hws w (List.mem_of_mem_drop hw'))] at k9
                    rw [show h.1.length - k0 + (h2.1.length - h.1.length) = h2.1.length - k0 by omega, show zm_sz h - z0 + (zm_sz h2 - zm_sz h) = zm_sz h2 - z0 by omega]
                    exact k9
                  · cases hr
                · cases hr
          · cases hr
        · split at hr
          · next t ht =>
            obtain ⟨f1, f2, f3, f4, f5⟩ := zm_S_wf ht hw hwl hws
            obtain ⟨-, -, g3, g4⟩ := zm_R_wf _ _ _ _ _ _ _ _ _ hr f1 f2 f3
            exact zm_step F C hN hq ht hP hD hS hL hw hwl hws hk0 hz0 (by omega) (by omega) (fun ad' H1 locs1 la1 hae hP1 hD1 hS1 hL1 => ih D dA adV N0 d mi t.1 t.2.1 t.2.2.1 t.2.2.2 v h' hr p e R s m args below meth c Q k0 z0 H1 locs1 la1 ad' F (C.ae hae) hN hP1 hD1 hS1 hL1 f1 f2 f3 (by omega) (by omega) hRc hRs hRf hRl (fun pc' q st' ad2 H2 locs2 la2 z1 z2 z3 z4 z5 z6 => kk pc' q st' ad2 H2 locs2 la2 z1 z2 (hae.trans z3 f4) z4 z5 z6))
          · cases hr
