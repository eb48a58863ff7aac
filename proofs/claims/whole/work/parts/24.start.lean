def zp_Goal : Prop := ∀ (L : Nat) (xs : Nat → Int32), L ≤ 3072 → ∃ (n : Nat) (h' : zm_H), zm_run (L, xs) n 300 268 0 (zm_en 268 [.ref 1000001]) [] zm_h0 = some (some (.int 1), h') ∧ h'.1.length ≤ 600000 ∧ zm_sz h' ≤ 7302250
set_option maxHeartbeats 4000000 in
theorem zm_start (hgoal : zp_Goal) {p : Program} {e : Env} {s : State} {m : MethodId} {below : List Frame} {meth : Method} {c : Code} (l : Launch) (hstr : zm_SX l) {b L : Nat} {xs : Nat → Int32} (hL : L ≤ 3072) (C0 : lw_At p s m meth c b L xs) : W p l e room_1 s m #[Value.ref b] below meth c s.heap [] 0 0 (lw_Z below #[Value.ref b] s) (entryFrame m ([Value.ref b] : List Value).toArray 4) := by
  obtain ⟨hx, hb, hr, hml, hown, hts, hX, hbl, hlocks, hgv⟩ := C0
  have hs := flat_of_before _ hgv
  have hA : ∀ a : Nat, a < s.heap.size → ¬ zm_A s.heap.size a := fun a ha => Nat.not_le.mpr ha
  have hAO0 : (Cond.arrayOver (.array .int)).before #[Value.ref b] s = true := hts _ (zm_tb_at (k := 1) (i := 133) (by decide +kernel))
  have hAO : zm_AO s := hAO0
  obtain ⟨D, hD0⟩ := zm_classes hts
  obtain ⟨dA, hA0⟩ := zm_arrcls hts hAO
  obtain ⟨t, ht, hT⟩ := va_Tof (N := 9) (f := fun j => .int (zm_wt j)) (A := zm_A s.heap.size) (by decide) (hs _ zs_n1.1) (va_eqt (hs _ zs_n1.2.1)) (fun j hj => va_eqt (hs _ (zs_n2 j hj))) hA
  have hZ := va_Zof (A := zm_A s.heap.size) (hts _ (zm_tb_at (k := 5) (i := 125) (by decide +kernel))) (hts _ (zm_tb_at (k := 1) (i := 8) (by decide +kernel))) ht hA
  have hZ2 := va_Zof (A := zm_A s.heap.size) (hts _ (zm_tb_at (k := 3) (i := 176) (by decide +kernel))) (hts _ (zm_tb_at (k := 1) (i := 15) (by decide +kernel))) (va_eqt (hs _ zs_n1.2.2)) hA
  have hZ3 : zm_SI (zm_A s.heap.size) s s.heap := va_Zqof (hts _ zs_n7.1) (hts _ zs_n7.2) (hs _ zs_n6) hA
  obtain ⟨adK, adV, hSt, hev⟩ := vk_Sof (args := #[Value.ref b]) (s := s) (N := 3) (tm := zs_tm) (len := zm_sln) (byt := zm_sxs) (A := zm_A s.heap.size) zs_len (fun i hi => hs _ (zs_n3 i hi).1) (fun i hi => hs _ (zs_n3 i hi).2.1) (fun i hi => hs _ (zs_n3 i hi).2.2.1) (fun i hi => hs _ (zs_n3 i hi).2.2.2) (fun i hi j hj => hs _ (zs_n4 i hi j hj)) (fun i j hi hj hn => (zs_n5 i hi j hj hn).imp (hs _) (hs _)) hA
  obtain ⟨ad, had⟩ : ∃ ad : Nat → Nat, ad = fun i => if i = 1000000 then t else if i = 1000001 then b else adK (i - 2000000) := ⟨_, rfl⟩
  have e0 : ad 1000000 = t := by rw [had]; rfl
  have e1 : ad 1000001 = b := by rw [had]; rfl
  have e2 : ∀ i, ad (2000000 + i) = adK i := by
    intro i
    rw [had]
    dsimp only
    rw [if_neg (by omega), if_neg (by omega), Nat.add_sub_cancel_left]
  obtain ⟨n, h', hrun, hc1, hc2⟩ := hgoal L xs hL
  have C : zm_Cx (L, xs) D dA adV s.heap.size ad s s.heap := by
    refine ⟨⟨hD0, hA0⟩, fun w hw hn => va_Nw.of (zm_isN_on hn) (hts w hw), by rw [e0]; exact hZ, by rw [e0]; exact hT, ?_, ?_, ?_, hZ2, hAO, hZ3⟩
    · rw [e1]
      obtain ⟨scr, g1, g2, g3, g4, g5⟩ := hX
      exact ⟨scr, g1, g2, g3, Nat.le_of_eq g4.symm, congrArg Nat.toInt32 g4, g5, hA b hbl⟩
    · intro o q hq h1
      rw [e2]
      obtain ⟨hw1, -⟩ := zm_kp_ok o q hq
      have hw2 := hts _ (zm_tb_at hw1)
      have e9 : zm_kw o q = .stringRef (zm_cn o) q.1 (zm_sw q.2.2.1.toNatClampNeg) := by
        unfold zm_kw
        rw [if_neg (by omega), if_neg (by omega)]
      rw [e9] at hw2
      refine vk_R.of hw2 ?_
      rcases zs_kp o (zs_kp16 hq) q hq h1 with ⟨q1, q2, q3⟩ | ⟨q1, q2, q3⟩ | ⟨q1, q2, q3⟩
      · rw [q1, q2, q3]; exact hev 0 (by decide)
      · rw [q1, q2, q3]; exact hev 1 (by decide)
      · rw [q1, q2, q3]; exact hev 2 (by decide)
    · have e3 : (fun i => ad (2000000 + i)) = adK := by funext i; exact e2 i
      rw [e3]
      exact hSt
  have F : zm_Fx p s m #[Value.ref b] meth c 268 := ⟨hx, hb, hml, hown, fun w hw => hts w (List.mem_filter.mp hw).1, fun z => absurd z (by decide +kernel)⟩
  rw [lg_entry_eq]
  have hargs : zm_sw1 0 [Value.ref 1000001] := fun v hv => by
    have : v = .ref 1000001 := by simpa using hv
    subst this
    exact Or.inr (by decide)
  have hent := zm_entry (ad := ad) (a := 268) hargs (by decide +kernel)
  have emap : [Value.ref 1000001].map (zm_c ad) = [Value.ref b] := by simp [zm_c, e1]
  rw [emap] at hent
  have k9 := zm_walk hstr (L, xs) n D dA adV s.heap.size 300 268 0 (zm_en 268 [.ref 1000001]) [] zm_h0 (some (.int 1)) h' hrun p e room_1 s m #[Value.ref b] below meth c (lw_Z below #[Value.ref b] s) 0 0 s.heap [] _ ad F C (Nat.le_refl _) (fun k q hq => by simp [zm_ws, zm_h0] at hq) ⟨(fun i j q r hq => by simp [zm_ws, zm_h0] at hq), (fun k q hq => by simp [zm_ws, zm_h0] at hq)⟩ va_S.rf hent ⟨(fun i k j hj => by cases hj), (by decide), (fun i t n hi => by simp [zm_h0] at hi)⟩ (zm_en_wf hargs) (fun _ z => by cases z) (Nat.le_refl _) (Nat.zero_le _) (by show h'.1.length - 0 ≤ 600000; omega) (by show zm_sz h' - 0 ≤ 7302250; omega) (Nat.le_of_ble_eq_true rfl) (Nat.le_of_ble_eq_true rfl) ?_
  · exact k9
  · intro pc' q st' ad' H1 locs1 la1 hq hret hae hP1 hD1 hS1
    obtain ⟨-, est⟩ := zm_ret_inv hret
    have est : st' = [.int 1] := est
    subst est
    obtain ⟨hd, hi⟩ := zm_ok hq
    obtain ⟨len, ins, a2, b2, v2⟩ := q
    dsimp only at hd hret
    cases ins with
    | ireturn =>
      have hl : len = 1 := zm_beq hi
      subst hl
      refine va_forget (fun q hq => hS1.2.2 q hq) ?_
      refine W.widen (k := 600000) (n := 7302250) (by omega) (by omega) ?_
      exact lw_ret hx hb hr hlocks hd
    | lreturn => cases hret
    | areturn => cases hret
    | return_ => cases hret
    | _ => cases hret
