/-! ===== frames of what is held; reading, drift, known ===== -/
theorem i_m30 : (-30 : Int32).toInt = -30 := rfl
theorem i_m99 : (-99 : Int32).toInt = -99 := rfl
def zEq (S : List Nat) (F : List (Nat × Nat)) (h h' : zm_H) : Prop := (∀ i, i ∈ S → h'.2.1 i = h.2.1 i ∧ h'.2.2.1 i = h.2.2.1 i ∧ h'.2.2.2 i = h.2.2.2 i) ∧ (∀ p, p ∈ F → h'.2.1 p.1 p.2 = h.2.1 p.1 p.2)
theorem zWr.eq {W : List Nat} {F : List (Nat × Nat)} {h h' : zm_H} (w : zWr W F h h') {S : List Nat} {G : List (Nat × Nat)} (h1 : (S.all (fun i => !(W.contains i) && F.all (fun p => p.1 != i))) = true) (h2 : (G.all (fun p => !(W.contains p.1) && !(F.contains p))) = true) : zEq S G h h' := by
  rw [List.all_eq_true] at h1 h2
  refine ⟨fun i hi => ?_, fun p hp => ?_⟩
  · have := h1 i hi
    rw [Bool.and_eq_true, List.all_eq_true] at this
    have hn : i ∉ W := by simpa using this.1
    refine ⟨w.arr i hn (fun p hp => by simpa using this.2 p hp), (w.2 i hn).2.1, (w.2 i hn).2.2⟩
  · have := h2 p hp
    rw [Bool.and_eq_true] at this
    exact w.fld p.1 p.2 (by simpa using this.1) (by simpa using this.2)
theorem zEq.a {S : List Nat} {F : List (Nat × Nat)} {h h' : zm_H} (e : zEq S F h h') (i : Nat) (hi : i ∈ S) : h'.2.1 i = h.2.1 i := (e.1 i hi).1
theorem zEq.f {S : List Nat} {F : List (Nat × Nat)} {h h' : zm_H} (e : zEq S F h h') (i k : Nat) (hi : (i, k) ∈ F) : h'.2.1 i k = h.2.1 i k := e.2 (i, k) hi
theorem zWr.two {W1 W2 : List Nat} {F1 F2 : List (Nat × Nat)} {h h1 h2 : zm_H} (a : zWr W1 F1 h h1) (b : zWr W2 F2 h1 h2) : zWr (W1 ++ W2) (F1 ++ F2) h h2 :=
  zWr_tr b (fun _ z => List.mem_append_right _ z) (fun _ z => List.mem_append_right _ z) (zWr_tr a (fun _ z => List.mem_append_left _ z) (fun _ z => List.mem_append_left _ z) (zWr.refl _ _))
abbrev S_sw : List Nat := [2, 3, 4, 5, 6, 7, 8, 9, 105, 106, 107, 108, 109, 110, 111]
abbrev F_sw : List (Nat × Nat) := [(1, 0), (92, 24), (1, 1), (92, 28)]
theorem I_sw_z {w n d : Nat} {h h' : zm_H} (e : zEq S_sw F_sw h h') (H : I_sw w n d h) : I_sw w n d h' :=
  I_sw_fr H (e.f 1 0 (by decide)) (e.f 92 24 (by decide)) (e.f 1 1 (by decide)) (e.f 92 28 (by decide)) (fun i hi => e.a i hi)
def I_now (w : Nat) (h : zm_H) : Prop := w ≤ 480 ∧ zf h 0 0 = nI w ∧ zf h 92 23 = nI w
abbrev F_now : List (Nat × Nat) := [(0, 0), (92, 23)]
theorem I_now_z {w : Nat} {h h' : zm_H} (e : zEq [] F_now h h') (H : I_now w h) : I_now w h' := ⟨H.1, (e.f 0 0 (by decide)).trans H.2.1, (e.f 92 23 (by decide)).trans H.2.2⟩
theorem rd_c (p : Int32) : (¬ (p < 0) ∧ (¬ (120 < (p / 1000)) ∧ (¬ (((zm_rm p 1000) / 10) < 2) ∧ (¬ (20 < ((zm_rm p 1000) / 10)) ∧ (¬ (2 < (zm_rm p 10))))))) ↔ rdOK p := by
  unfold rdOK
  by_cases h0 : p < 0
  · simp only [i_lt, i_le, i_eq, Int32.reduceToInt] at h0 ⊢
    constructor
    · intro h; omega
    · intro h; omega
  · have h1 : 0 ≤ p.toInt := by simp only [i_lt, Int32.reduceToInt] at h0; omega
    have a1 : (p / 1000).toInt = p.toInt / 1000 := by rw [i_div h1 (by decide), i_1000]
    have a2 : (zm_rm p 1000).toInt = p.toInt % 1000 := by rw [i_rm h1 (by decide), i_1000]
    have a3 : (zm_rm p 1000 / 10).toInt = p.toInt % 1000 / 10 := by rw [i_div (by rw [a2]; omega) (by decide), a2, i_10]
    have a4 : (zm_rm p 10).toInt = p.toInt % 10 := by rw [i_rm h1 (by decide), i_10]
    simp only [i_lt, i_le, i_eq, Int32.reduceToInt, a1, a3, a4]
    omega
theorem rd_m {p : Int32} (h1 : 0 ≤ p.toInt) : (p / 1000).toInt = p.toInt / 1000 ∧ (zm_rm (p / 10) 100).toInt = p.toInt % 1000 / 10 ∧ (zm_rm p 10).toInt = p.toInt % 10 := by
  have a1 : (p / 1000).toInt = p.toInt / 1000 := by rw [i_div h1 (by decide), i_1000]
  have a2 : (p / 10).toInt = p.toInt / 10 := by rw [i_div h1 (by decide), i_10]
  refine ⟨a1, ?_, ?_⟩
  · rw [i_rm (by rw [a2]; omega) (by decide), a2, i_100]; omega
  · rw [i_rm h1 (by decide), i_10]
theorem nI_inj {a b : Nat} (ha : a < 2147483648) (hb : b < 2147483648) (h : nI a = nI b) : a = b := (nI_eq ha hb).mp h
theorem lst_new {f g : Nat → Int32} {s : Int32} {n m : Nat} (hm : m ≤ n) (h : ∀ k, k < n → g k = f k) : lst g s m = lst f s m := lst_ext (fun k hk => h k (by omega))
theorem i_ex {a : Int32} {N : Nat} (h1 : 0 ≤ a.toInt) (h2 : a.toInt < N) : ∃ n, n < N ∧ a = nI n := ⟨a.toNatClampNeg, by have := i_cl h1; omega, i_of h1⟩
theorem c_reading {w n d : Nat} {h : zm_H} (W : I_now w h) (H : I_sw w n d h) (p1 p2 : Int32) : f_N_reading_ok p1 p2 h ∧ f_M_reading_ok p1 p2 (f_N_reading p1 p2 h).2 ∧ (f_N_reading p1 p2 h).1 = (f_M_reading p1 p2 (f_N_reading p1 p2 h).2).1 ∧ ∃ n', I_sw w n' d (f_M_reading p1 p2 (f_N_reading p1 p2 h).2).2 := by
  obtain ⟨w1, w2, w3⟩ := W
  obtain ⟨⟨hn, hd, en, en', ed, ed'⟩, hR, hL, hD, hm, hm2⟩ := id H
  have wN := f_N_reading_w p1 p2 h
  have f24 : zf (f_N_reading p1 p2 h).2 92 24 = nI n := (wN.fld 92 24 (by decide) (by decide)).trans en'
  have f23 : zf (f_N_reading p1 p2 h).2 92 23 = nI w := (wN.fld 92 23 (by decide) (by decide)).trans w3
  have e23 : zf h 92 23 = nI w := w3
  by_cases V : ((0 ≤ p1.toInt ∧ p1.toInt < 480) ∧ rdOK p2) ∧ w < 480 ∧ n < 400
  · obtain ⟨⟨⟨v1, v2⟩, v3⟩, v4, v5⟩ := V
    obtain ⟨sp, hsp, rfl⟩ := i_ex (N := 480) v1 v2
    have i1 : vp_in (nI n) 400 := vp_in_nI v5 (by omega)
    have i2 : vp_in (nI sp) 480 := vp_in_nI hsp (by omega)
    have c1 : ¬ (nI sp < 0) ∧ (¬ (480 ≤ nI sp)) := by simp only [i_lt, i_le, Int32.reduceToInt, i_nI (show sp < 2147483648 by omega)]; omega
    have c1' : ¬ (nI sp < 0) ∧ (¬ (479 < nI sp)) := by simp only [i_lt, i_le, Int32.reduceToInt, i_nI (show sp < 2147483648 by omega)]; omega
    have c2 := (rd_c p2).mpr v3
    have c3 : zf h 0 0 < 480 := by rw [w2, i_lt, i_nI (by omega)]; simp only [Int32.reduceToInt]; omega
    have c4 : zf h 1 0 < 400 := by rw [en, i_lt, i_nI (by omega)]; simp only [Int32.reduceToInt]; omega
    have okN : f_N_reading_ok (nI sp) p2 h := by
      unfold f_N_reading_ok f_Swell_tellReading_ok
      rw [en]
      exact ⟨fun _ => ⟨fun _ => ⟨fun _ => ⟨fun _ => ⟨i1, i1, i2, i1, i2⟩, fun _ => trivial⟩, fun _ => trivial⟩, fun _ => trivial⟩, fun _ => trivial⟩
    have eN : f_N_reading (nI sp) p2 h = (nI (n + 1), zm_si (zm_si (zm_si (zm_si (zm_si h 4 n p2) 5 n (nI w)) 3 n (zf h 2 sp)) 2 sp (nI n)) 1 0 (nI (n + 1))) := by
      unfold f_N_reading f_Swell_tellReading
      rw [if_pos c1, if_pos c2, if_pos c3, if_pos c4, en, w2, zr_n h 2 (by omega), zs_n _ 4 _ (by omega), zs_n _ 5 _ (by omega), zs_n _ 3 _ (by omega), zs_n _ 2 _ (by omega), nI_succ]
    refine ⟨okN, ?_⟩
    rw [eN] at wN f24 f23 ⊢
    dsimp only at wN f24 f23 ⊢
    generalize hG : zm_si (zm_si (zm_si (zm_si (zm_si h 4 n p2) 5 n (nI w)) 3 n (zf h 2 sp)) 2 sp (nI n)) 1 0 (nI (n + 1)) = G at wN f24 f23
    obtain ⟨r1, r2, r3⟩ := rd_m v3.1
    obtain ⟨s1, s2, s3, s4, s5⟩ := v3
    have b1 : (nI sp).toInt = sp := i_nI (by omega)
    have b2 : (nI n).toInt = n := i_nI (by omega)
    have b3 : (nI w).toInt = w := i_nI (by omega)
    have eM : f_M_reading (nI sp) p2 G = (nI (n + 1), zm_si (zm_si (zm_si (zm_si G 105 n (nI sp)) 106 n p2) 107 n (nI w)) 92 24 (nI (n + 1))) := by
      unfold f_M_reading
      simp only [f24, f23, i_lt, i_le, i_eq, Int32.reduceToInt, r1, r2, r3, b1, b2, b3]
      repeat' split
      all_goals first | (exfalso; omega) | skip
      rw [zs_n _ 105 _ (by omega), zs_n _ 106 _ (by omega), zs_n _ 107 _ (by omega), nI_succ]
    have okM : f_M_reading_ok (nI sp) p2 G := by
      unfold f_M_reading_ok
      rw [f24]
      simp only [i1, and_true, implies_true]
    refine ⟨okM, ?_⟩
    rw [eM]
    refine ⟨rfl, n + 1, ?_⟩
    dsimp only
    obtain ⟨X, eX⟩ : ∃ X, X = zm_si (zm_si (zm_si (zm_si G 105 n (nI sp)) 106 n p2) 107 n (nI w)) 92 24 (nI (n + 1)) := ⟨_, rfl⟩
    rw [← eX]
    rw [← hG] at eX
    have x2 : X.2.1 2 = upd (h.2.1 2) sp (nI n) := by rw [eX]; simp [za_si]
    have x3 : X.2.1 3 = upd (h.2.1 3) n (zf h 2 sp) := by rw [eX]; simp [za_si]
    have x4 : X.2.1 4 = upd (h.2.1 4) n p2 := by rw [eX]; simp [za_si]
    have x5 : X.2.1 5 = upd (h.2.1 5) n (nI w) := by rw [eX]; simp [za_si]
    have x105 : X.2.1 105 = upd (h.2.1 105) n (nI sp) := by rw [eX]; simp [za_si]
    have x106 : X.2.1 106 = upd (h.2.1 106) n p2 := by rw [eX]; simp [za_si]
    have x107 : X.2.1 107 = upd (h.2.1 107) n (nI w) := by rw [eX]; simp [za_si]
    have xr : ∀ i, i ∈ [6, 7, 8, 9, 108, 109, 110, 111] → X.2.1 i = h.2.1 i := by
      intro i hi
      rw [eX]
      simp only [List.mem_cons, List.not_mem_nil, or_false] at hi
      rcases hi with rfl | rfl | rfl | rfl | rfl | rfl | rfl | rfl <;> simp [za_si]
    have y1 : X.2.1 1 0 = nI (n + 1) := by rw [eX]; simp [zf_si]
    have y2 : X.2.1 92 24 = nI (n + 1) := by rw [eX]; simp [zf_si]
    have y3 : X.2.1 1 1 = h.2.1 1 1 := by rw [eX]; simp [zf_si]
    have y4 : X.2.1 92 28 = h.2.1 92 28 := by rw [eX]; simp [zf_si]
    have g105 : ∀ k, k < n → upd (h.2.1 105) n (nI sp) k = h.2.1 105 k := fun k hk => pk_un (by omega)
    clear eX hG
    unfold I_sw zf
    rw [y1, y2, y3, y4, x2, x3, x4, x5, x105, x106, x107, xr 6 (by decide), xr 7 (by decide), xr 8 (by decide), xr 9 (by decide), xr 108 (by decide), xr 109 (by decide), xr 110 (by decide), xr 111 (by decide)]
    refine ⟨⟨by omega, hd, rfl, rfl, ed, ed'⟩, ?_, ?_, hD, ?_, hm2⟩
    · intro k hk
      by_cases hkn : k = n
      · subst hkn
        rw [pk_us, pk_us, pk_us, pk_us, pk_us, pk_us, lst_ext g105]
        exact ⟨rfl, rfl, ⟨sp, hsp, rfl⟩, ⟨s1, s2, s3, s4, s5⟩, ⟨w, by omega, v4, rfl⟩, hL sp hsp⟩
      · rw [pk_un hkn, pk_un hkn, pk_un hkn, pk_un hkn, pk_un hkn, pk_un hkn, lst_ext (fun j hj => g105 j (by omega))]
        exact hR k (by omega)
    · intro s hs
      rw [lst, pk_us, lst_ext g105]
      by_cases hss : s = sp
      · subst hss
        rw [if_pos rfl, pk_us]
      · rw [if_neg (fun z => hss (nI_inj (by omega) (by omega) z).symm), pk_un hss]
        exact hL s hs
    · intro j k hj hk
      by_cases hkn : k = n
      · subst hkn
        by_cases hjn : j = k
        · subst hjn; exact i_le.mpr (Int.le_refl _)
        · rw [pk_us, pk_un hjn]
          obtain ⟨t, t1, t2, t3⟩ := (hR j (by omega)).2.2.2.2.1
          rw [show h.2.1 107 j = nI t from t3, i_le, i_nI (by omega), i_nI (by omega)]
          omega
      · rw [pk_un hkn, pk_un (by omega)]
        exact hm j k hj (by omega)
  · have b2 : (nI n).toInt = n := i_nI (by omega)
    have b3 : (nI w).toInt = w := i_nI (by omega)
    have eN : f_N_reading p1 p2 h = (-1, h) := by
      unfold f_N_reading f_Swell_tellReading
      clear hR hL hD hm hm2 f24 f23 wN
      repeat' split
      all_goals first | rfl | (exfalso; refine V ⟨⟨?_, (rd_c p2).mp (by assumption)⟩, ?_, ?_⟩ <;> simp only [en, w2, i_lt, i_le, i_eq, Int32.reduceToInt, b2, b3] at * <;> omega)
    have okN : f_N_reading_ok p1 p2 h := by
      unfold f_N_reading_ok f_Swell_tellReading_ok
      simp only [rd_c]
      simp only [en, w2, i_lt, i_le, i_eq, Int32.reduceToInt, b2, b3, implies_true, and_true]
      intro q1 q2 q3 q4
      exact absurd ⟨⟨⟨by omega, by omega⟩, q2⟩, by omega, by omega⟩ V
    refine ⟨okN, ?_⟩
    rw [eN]
    dsimp only
    have eM : f_M_reading p1 p2 h = (-1, h) := by
      by_cases h0 : 0 ≤ p2.toInt
      · obtain ⟨r1, r2, r3⟩ := rd_m h0
        unfold f_M_reading
        unfold rdOK at V
        simp only [en', e23, i_lt, i_le, i_eq, Int32.reduceToInt, r1, r2, r3, b2, b3]
        repeat' split
        all_goals first | rfl | (exfalso; omega)
      · unfold f_M_reading
        simp only [en', e23, i_lt, i_le, i_eq, Int32.reduceToInt, b2, b3]
        repeat' split
        all_goals first | rfl | (exfalso; omega)
    have okM : f_M_reading_ok p1 p2 h := by
      unfold f_M_reading_ok
      rw [en']
      simp only [implies_true, and_true, true_and]
      intro _ _ _ _ _ q _
      have i1 : vp_in (nI n) 400 := vp_in_nI (by rw [i_eq, b2] at q; simp only [Int32.reduceToInt] at q; omega) (by omega)
      exact ⟨i1, i1, i1⟩
    refine ⟨okM, ?_⟩
    rw [eM]
    exact ⟨rfl, n, H⟩
