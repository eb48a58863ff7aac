/-! ===== WAVES, the model: a ROW ===== -/
theorem rat_u {nr : Nat} {S : Nat → Nat → Int32} (hw : wOK nr S) {q p : Nat} (hq : q < nr) (h0 : S 0 q = 1) (h1 : S 1 q = nI p) : rat S (nI p) nr = nI q ∧ ∀ j, j ≤ q → rat S (nI p) j = -1 := by
  constructor
  · rcases rat_c S (nI p) nr with ⟨-, b⟩ | ⟨r, a, b, c, d⟩
    · exact absurd ⟨h0, h1⟩ (b q hq)
    · rw [b, hw.2 r q a hq c h0 (by rw [d, h1])]
  · intro j hj
    rcases rat_c S (nI p) j with ⟨a, -⟩ | ⟨r, a, b, c, d⟩
    · exact a
    · have := hw.2 r q (by omega) hq c h0 (by rw [d, h1])
      omega
theorem row_M {nr L : Nat} (hnr : nr ≤ 10) (hL : L < 2) {h : zm_H} (e33 : zf h 92 33 = nI nr) (hw : wOK nr (vM L h)) (hz : ∀ r, r < nr → (1 ≤ (h.2.1 112 r).toInt ∧ (h.2.1 112 r).toInt ≤ 20) ∧ (2 ≤ (h.2.1 113 r).toInt ∧ (h.2.1 113 r).toInt ≤ 20)) {per : Int32} (ep : zf h 92 80 = per) (p1 : 2 ≤ per.toInt) (p2 : per.toInt ≤ 20) {y : Nat} (hy : y < 5) (v2 : Int32) : f_M_waves_l59_l67_ok (nI L) v2 (nI y) zF (0, h) ∧ ∃ h', f_M_waves_l59_l67 (nI L) v2 (nI y) zF (0, h) = (1, nI nr, h') ∧ zWr [151, 153] [] h h' ∧ (∀ c, c < 10 → h'.2.1 151 c = rwF (vM L h) nr (h.2.1 112) (h.2.1 113) per y (h.2.1 151) c) ∧ (∀ r, r < 10 → h'.2.1 153 r = rwT (vM L h) nr (h.2.1 112) (h.2.1 113) per y (h.2.1 151) (h.2.1 153) r) := by
  obtain ⟨F, eF, -⟩ := zF_ex
  rw [← eF]
  obtain ⟨S, eS⟩ : ∃ S, S = vM L h := ⟨_, rfl⟩
  rw [← eS] at hw ⊢
  have key := zlp_k eF (b := fun s => f_M_waves_l59_l67_b (nI L) v2 (nI y) s.1 s.2) (o := fun s => f_M_waves_l59_l67_b_ok (nI L) v2 (nI y) s.1 s.2) nr (by omega) 0
    (fun j h1 => zWr [151, 153] [] h h1 ∧ (∀ c, c < 10 → h1.2.1 151 c = if rat S (nI (10 * c + y)) j < 0 then h.2.1 151 c else rwF S nr (h.2.1 112) (h.2.1 113) per y (h.2.1 151) c) ∧ (∀ r, r < 10 → h1.2.1 153 r = if r < j then rwT S nr (h.2.1 112) (h.2.1 113) per y (h.2.1 151) (h.2.1 153) r else h.2.1 153 r)) h
    ⟨zWr.refl _ _, fun c _ => by rw [rat, if_pos (by decide)], fun r _ => by rw [if_neg (by omega)]⟩
    (by
      rintro j h1 hj ⟨q1, q2, q3⟩
      rw [Nat.zero_add]
      have hj10 : j < 10 := by omega
      have f33 : zf h1 92 33 = nI nr := (q1.fld 92 33 (by decide) (by decide)).trans e33
      have f80 : zf h1 92 80 = per := (q1.fld 92 80 (by decide) (by decide)).trans ep
      have g0 : ¬ (zf h1 92 33 ≤ nI j) := by rw [f33, nx_le (by omega) (by omega)]; omega
      have i20 : vp_in (nI (10 * L + j)) 20 := vp_in_nI (by omega) (by omega)
      have i10 : vp_in (nI j) 10 := vp_in_nI hj10 (by omega)
      have a0 : zr h1 123 (nI (10 * L + j)) = S 0 j := by rw [zr_n h1 123 (by omega), zf, q1.arr 123 (by decide) (by decide), eS, vM_at0 hj10]
      have a1 : zr h1 124 (nI (10 * L + j)) = S 1 j := by rw [zr_n h1 124 (by omega), zf, q1.arr 124 (by decide) (by decide), eS, vM_at1 hj10]
      have a112 : zr h1 112 (nI j) = h.2.1 112 j := by rw [zr_n h1 112 (by omega), zf, q1.arr 112 (by decide) (by decide)]
      have a113 : zr h1 113 (nI j) = h.2.1 113 j := by rw [zr_n h1 113 (by omega), zf, q1.arr 113 (by decide) (by decide)]
      obtain ⟨⟨z1, z2⟩, z3, z4⟩ := hz j hj
      obtain ⟨ft, -, -⟩ := fit_n p1 p2 z3 z4
      by_cases c : S 0 j = 1 ∧ zm_rm (S 1 j) 10 = nI y
      · obtain ⟨c0, c1⟩ := c
        obtain ⟨p, hp, hp5, epl⟩ := hw.1 j hj c0
        obtain ⟨m1, m2⟩ := pl_n hp
        have hpy : p % 10 = y := by rw [epl, m1] at c1; exact nI_inj (by omega) (by omega) c1
        have epc : p = 10 * (p / 10) + y := by omega
        obtain ⟨u1, u2⟩ := rat_u hw hj c0 epl
        have i10c : vp_in (nI (p / 10)) 10 := vp_in_nI (by omega) (by omega)
        have b151 : zr h1 151 (nI (p / 10)) = h.2.1 151 (p / 10) := by
          rw [zr_n h1 151 (by omega)]
          refine (q2 (p / 10) (by omega)).trans ?_
          rw [← epc, u2 j (Nat.le_refl _), if_pos (by decide)]
        have nz : ¬ h.2.1 112 j + 20 = 0 := fun z => by
          have e20 : (20 : Int32).toInt = 20 := rfl
          have : (h.2.1 112 j + 20).toInt = (h.2.1 112 j).toInt + 20 := by rw [i_add (by rw [e20]; omega) (by rw [e20]; omega), e20]
          rw [z, i_0] at this; omega
        refine ⟨?_, zm_si (zm_si h1 153 j (tkv (h.2.1 151 (p / 10)) (fitv per (h.2.1 113 j)) (h.2.1 112 j))) 151 (p / 10) (h.2.1 151 (p / 10) - tkv (h.2.1 151 (p / 10)) (fitv per (h.2.1 113 j)) (h.2.1 112 j)), ?_, ?_, ?_, ?_⟩
        · dsimp only
          unfold f_M_waves_l59_l67_b_ok
          rw [x10, a0, a1, a112, epl, m2]
          exact ⟨fun z => absurd z g0, fun _ => ⟨i20, fun _ => ⟨i20, fun _ => ⟨i10, ⟨fun _ => i10, fun _ => i10⟩, i20, i10c, i10, i10, nz, i10, i10c, i10, i10c⟩, fun _ => trivial⟩, fun _ => trivial⟩⟩
        · dsimp only
          unfold f_M_waves_l59_l67_b
          rw [if_neg g0, x10, a0, a1, a112, a113, f80, if_pos c0, if_pos c1, ft, epl, m2, b151, zs_n _ 153 _ (by omega), zs_n _ 151 _ (by omega), zr_n _ 153 (by omega), ← nI_succ]
          rw [show zf (zm_si h1 153 j (h.2.1 151 (p / 10) * fitv per (h.2.1 113 j) / 100 * h.2.1 112 j / (h.2.1 112 j + 20))) 153 j = h.2.1 151 (p / 10) * fitv per (h.2.1 113 j) / 100 * h.2.1 112 j / (h.2.1 112 j + 20) from zm_in _ _ _ _]
          rfl
        · exact zWr_si (by decide) (zWr_si (by decide) q1)
        · intro x hx
          rw [za_si, if_pos rfl, za_si, if_neg (by decide)]
          by_cases ex : x = p / 10
          · subst ex
            have r1 : rat S (nI (10 * (p / 10) + y)) (j + 1) = nI j := by rw [rat, if_pos ⟨c0, by rw [epl, ← epc]⟩]
            rw [pk_us, r1, if_neg (by rw [i_lt, i_nI (by omega), i_0]; omega)]
            unfold rwF
            rw [← epc, u1, if_neg (by rw [i_lt, i_nI (by omega), i_0]; omega), nI_c (by omega)]
          · have r1 : rat S (nI (10 * x + y)) (j + 1) = rat S (nI (10 * x + y)) j := by
              rw [rat, if_neg (fun z => ex (by have := nI_inj (by omega) (by omega) (z.2.symm.trans epl); omega))]
            rw [pk_un ex, r1]
            exact q2 x hx
        · intro x hx
          rw [za_si, if_neg (by decide), za_si, if_pos rfl]
          by_cases ex : x = j
          · subst ex
            rw [pk_us, if_pos (by omega)]
            unfold rwT
            rw [if_pos ⟨hj, c0, c1⟩, epl, m2, nI_c (by omega)]
          · rw [pk_un ex, q3 x hx]
            by_cases y1 : x < j
            · rw [if_pos y1, if_pos (by omega)]
            · rw [if_neg y1, if_neg (by omega)]
      · refine ⟨?_, h1, ?_, q1, ?_, ?_⟩
        · dsimp only
          unfold f_M_waves_l59_l67_b_ok
          rw [x10, a0, a1]
          exact ⟨fun z => absurd z g0, fun _ => ⟨i20, fun y0 => ⟨i20, fun y1 => absurd ⟨y0, y1⟩ c, fun _ => trivial⟩, fun _ => trivial⟩⟩
        · dsimp only
          unfold f_M_waves_l59_l67_b
          rw [if_neg g0, x10, a0, a1, ← nI_succ]
          by_cases y0 : S 0 j = 1
          · rw [if_pos y0, if_neg (fun y1 => c ⟨y0, y1⟩)]
          · rw [if_neg y0]
        · intro x hx
          have r1 : rat S (nI (10 * x + y)) (j + 1) = rat S (nI (10 * x + y)) j := by
            rw [rat, if_neg (fun z => c ⟨z.1, by rw [z.2, (pl_n (by omega)).1, show (10 * x + y) % 10 = y by omega]⟩)]
          rw [r1]
          exact q2 x hx
        · intro x hx
          rw [q3 x hx]
          by_cases y1 : x < j
          · rw [if_pos y1, if_pos (by omega)]
          · rw [if_neg y1]
            by_cases ex : x = j
            · subst ex
              rw [if_pos (by omega)]
              unfold rwT
              rw [if_neg (fun z => c z.2)]
            · rw [if_neg (by omega)])
    (by
      rintro h1 ⟨q1, q2, q3⟩
      rw [Nat.zero_add]
      have f33 : zf h1 92 33 = nI nr := (q1.fld 92 33 (by decide) (by decide)).trans e33
      have g0 : zf h1 92 33 ≤ nI nr := by rw [f33]; exact i_le_r _
      dsimp only
      unfold f_M_waves_l59_l67_b f_M_waves_l59_l67_b_ok
      rw [if_pos g0]
      exact ⟨⟨fun _ => trivial, fun z => absurd g0 z⟩, rfl⟩)
  rw [Nat.zero_add] at key
  obtain ⟨k1, h', k2, k3, k4, k5⟩ := key
  refine ⟨k1, h', k2, k3, fun c hc => ?_, fun r hr => ?_⟩
  · rw [k4 c hc]
    by_cases z : rat S (nI (10 * c + y)) nr < 0
    · rw [if_pos z]
      unfold rwF
      rw [if_pos z]
    · rw [if_neg z]
  · rw [k5 r hr]
    by_cases z : r < nr
    · rw [if_pos z]
    · rw [if_neg z]
      unfold rwT
      rw [if_neg (fun q => z q.1)]
