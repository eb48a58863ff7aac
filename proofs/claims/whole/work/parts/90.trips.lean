/-! ===== a boat COMES BACK: the class ===== -/
def tB (h : zm_H) : Nat → Nat → Int32 := fun i k => if i < 5 then h.2.1 (27 + i) k else 0
theorem tB_eq {h h' : zm_H} (e : ∀ i, i < 5 → h'.2.1 (27 + i) = h.2.1 (27 + i)) : tB h' = tB h := by
  funext i k
  unfold tB
  by_cases c : i < 5
  · rw [if_pos c, if_pos c, e i c]
  · rw [if_neg c, if_neg c]
theorem tB_u {h : zm_H} {i j k : Nat} {v : Int32} (hj : j = 27 + i) (hi : i < 5) : tB (zm_si h j k v) = zm_u (tB h) i k v := by
  subst hj
  funext a b
  unfold tB zm_u
  rw [za_si]
  by_cases c : a = i
  · subst c
    rw [if_pos hi, if_pos rfl, if_pos rfl]
    unfold upd
    by_cases d : b = k
    · rw [if_pos d, if_pos d]
    · rw [if_neg d, if_neg d]; dsimp only; rw [if_pos hi]
  · rw [if_neg (show ¬ (27 + a = 27 + i) by omega), if_neg c]
theorem tB_o {h : zm_H} {j k : Nat} {v : Int32} (hj : j < 27 ∨ 31 < j) : tB (zm_si h j k v) = tB h := tB_eq (fun i hi => by rw [za_si, if_neg (by omega)])
def tad (T : Nat → Nat → Int32) (n : Nat) (t kd r p s : Int32) : Nat → Nat → Int32 := zm_u (zm_u (zm_u (zm_u (zm_u T 0 n t) 1 n kd) 2 n r) 3 n p) 4 n s
theorem adt_N {h : zm_H} {nt : Nat} (hn : nt < 200) (e : zf h 23 4 = nI nt) (t kd r p s : Int32) : f_Log_addThing_ok t kd r p s h ∧ zWr [27, 28, 29, 30, 31] [(23, 4)] h (f_Log_addThing t kd r p s h) ∧ zf (f_Log_addThing t kd r p s h) 23 4 = nI (nt + 1) ∧ tB (f_Log_addThing t kd r p s h) = tad (tB h) nt t kd r p s := by
  have g : ¬ ((200 : Int32) ≤ nI nt) := by rw [show (200 : Int32) = nI 200 from rfl, nx_le (by omega) (by omega)]; omega
  have i : vp_in (nI nt) 200 := vp_in_nI hn (by omega)
  unfold f_Log_addThing_ok f_Log_addThing
  rw [e, if_neg g, zs_n _ 27 _ (by omega), zs_n _ 28 _ (by omega), zs_n _ 29 _ (by omega), zs_n _ 30 _ (by omega), zs_n _ 31 _ (by omega), ← nI_succ]
  refine ⟨⟨fun z => absurd z g, fun _ => ⟨i, i, i, i, i⟩⟩, zWr_p (by decide) (zWr_si (by decide) (zWr_si (by decide) (zWr_si (by decide) (zWr_si (by decide) (zWr_si (by decide) (zWr.refl _ _)))))), zm_in _ _ _ _, ?_⟩
  unfold tad
  show tB (zm_si _ 23 4 _) = _
  rw [tB_o (by omega), tB_u (i := 4) (j := 31) rfl (by omega), tB_u (i := 3) (j := 30) rfl (by omega), tB_u (i := 2) (j := 29) rfl (by omega), tB_u (i := 1) (j := 28) rfl (by omega), tB_u (i := 0) (j := 27) rfl (by omega)]
theorem tad_at (T : Nat → Nat → Int32) (n : Nat) (t kd r p s : Int32) (i k : Nat) : tad T n t kd r p s i k = if k = n then (if i = 4 then s else if i = 3 then p else if i = 2 then r else if i = 1 then kd else if i = 0 then t else T i k) else T i k := by
  unfold tad zm_u
  by_cases c : k = n
  · rw [if_pos c]
    by_cases c4 : i = 4 <;> by_cases c3 : i = 3 <;> by_cases c2 : i = 2 <;> by_cases c1 : i = 1 <;> by_cases c0 : i = 0 <;> simp_all
  · rw [if_neg c]
    by_cases c4 : i = 4 <;> by_cases c3 : i = 3 <;> by_cases c2 : i = 2 <;> by_cases c1 : i = 1 <;> by_cases c0 : i = 0 <;> simp_all
theorem thOK_j {nr r j : Nat} (hr : r < nr) (hj : j ≤ 4) {s : Int32} (hs : j < 3 → 10 ≤ s.toInt ∧ s.toInt ≤ 5000) : thOK nr (nI j) r (-1) s := by
  refine ⟨hr, ?_⟩
  rcases (show j = 4 ∨ j = 3 ∨ j < 3 by omega) with z | z | z
  · subst z; exact Or.inr (Or.inl rfl)
  · subst z; exact Or.inr (Or.inr (Or.inl rfl))
  · exact Or.inr (Or.inr (Or.inr ⟨⟨j, z, rfl⟩, hs z⟩))
/-- J_th told over tB -/
theorem J_ad {nr nt : Nat} (hn : nt < 200) {h h' : zm_H} (J : J_th nr nt h) (e4 : zf h' 23 4 = nI (nt + 1)) {t kd p s : Int32} {r : Nat} (eT : tB h' = tad (tB h) nt t kd (nI r) p s) (ok : thOK nr kd r p s) : J_th nr (nt + 1) h' := by
  have a : ∀ i k, i < 5 → h'.2.1 (27 + i) k = tad (tB h) nt t kd (nI r) p s i k := fun i k hi => by
    rw [← eT]; unfold tB; rw [if_pos hi]
  refine ⟨by omega, e4, fun k hk => ?_⟩
  have a1 : h'.2.1 28 k = _ := a 1 k (by omega)
  have a2 : h'.2.1 29 k = _ := a 2 k (by omega)
  have a3 : h'.2.1 30 k = _ := a 3 k (by omega)
  have a4 : h'.2.1 31 k = _ := a 4 k (by omega)
  rw [a1, a2, a3, a4, tad_at, tad_at, tad_at, tad_at]
  by_cases c : k = nt
  · exact ⟨r, by simp [c], by simpa [c] using ok⟩
  · simp only [if_neg c]
    exact J.2.2 k (by omega)
def prt (j : Int32) : Nat := if 3 ≤ j then (if j = 3 then 1 else 2) else 0
def dn (U : Nat → Nat → Int32) (b : Nat) : Nat → Nat → Int32 := if prt (U 4 b) = 2 then zm_u U 6 b (U 6 b + 1) else zm_u (zm_u U 6 b (U 6 b + 1)) 1 (3 * b + prt (U 4 b)) (U 1 (3 * b + prt (U 4 b)) - 1)
theorem prt_j {j : Nat} (hj : j ≤ 4) : prt (nI j) < 3 ∧ (if 3 ≤ nI j then (if nI j = 3 then (1 : Int32) else 2) else 0) = nI (prt (nI j)) ∧ (prt (nI j) = 2 ↔ j = 4) ∧ (j < 3 → prt (nI j) = 0) ∧ (j = 3 → prt (nI j) = 1) := by
  rcases (show j = 0 ∨ j = 1 ∨ j = 2 ∨ j = 3 ∨ j = 4 by omega) with z | z | z | z | z <;> subst z <;> refine ⟨by decide, by decide, by decide, by decide, by decide⟩
theorem thn_one {T : Nat → Nat → Int32} {nt : Nat} {t : Int32} (e : T 0 nt ≤ t) : thn T (nt + 1) t nt 201 = 1 := by
  rw [thn, if_pos ⟨by omega, e⟩]
  show thn T (nt + 1) t (nt + 1) (199 + 1) + 1 = 1
  rw [thn, if_neg (by omega)]
theorem et_N {nr nt g : Nat} (hnr : nr ≤ 10) {h : zm_H} (J : J_th nr nt h) (ek : zf h 37 4 = nI nt) (V : vOK nr g (vC 38 h)) {b r j : Nat} (hb : b < 3) (hr : r < nr) (hj : j ≤ 4) (er : uN h 3 b = nI r) (ej : uN h 4 b = nI j) (hs : j < 3 → 10 ≤ (uN h 5 b).toInt ∧ (uN h 5 b).toInt ≤ 5000) (t : Int32) :
    f_Harbour_endTrip_ok (nI b) t h ∧ zWr [27, 28, 29, 30, 31, 38, 39, 40, 43, 44, 45, 65, 70, 71] [(23, 4), (37, 4)] h (f_Harbour_endTrip (nI b) t h) ∧
    (if nt < 200 ∧ dbl (vC 38 h) (nI j) r (-1) = true then
      vC 38 (f_Harbour_endTrip (nI b) t h) = dot (vC 38 h) (nI j) r (-1) (uN h 5 b) ∧ zf (f_Harbour_endTrip (nI b) t h) 37 4 = nI (nt + 1) ∧ tB (f_Harbour_endTrip (nI b) t h) = tad (tB h) nt t (nI j) (nI r) (-1) (uN h 5 b) ∧ uN (f_Harbour_endTrip (nI b) t h) = dn (uN h) b ∧ J_th nr (nt + 1) (f_Harbour_endTrip (nI b) t h) ∧ vOK nr g (dot (vC 38 h) (nI j) r (-1) (uN h 5 b))
    else f_Harbour_endTrip (nI b) t h = zm_si h 71 b (uN h 7 b + 1)) := by
  have ib : vp_in (nI b) 3 := vp_in_nI hb (by omega)
  have z67 : zr h 67 (nI b) = nI r := by rw [zr_n h 67 (by omega), ← er, uN_at h (by omega)]
  have z68 : zr h 68 (nI b) = nI j := by rw [zr_n h 68 (by omega), ← ej, uN_at h (by omega)]
  have z69 : zr h 69 (nI b) = uN h 5 b := by rw [zr_n h 69 (by omega), uN_at h (by omega)]
  have z71 : zr h 71 (nI b) = uN h 7 b := by rw [zr_n h 71 (by omega), uN_at h (by omega)]
  have e4 := J.2.1
  have hnt := J.1
  obtain ⟨d1, d2⟩ := db_37 (h := h) (show r < 10 by omega) (nI j) (-1)
  obtain ⟨s, es⟩ : ∃ s, s = uN h 5 b := ⟨_, rfl⟩
  rw [← es] at z69 hs
  rw [← es]
  have ok := thOK_j (nr := nr) hr hj hs
  have fail : f_Harbour_endTrip_k33_ok (nI b) h ∧ zWr [27, 28, 29, 30, 31, 38, 39, 40, 43, 44, 45, 65, 70, 71] [(23, 4), (37, 4)] h (f_Harbour_endTrip_k33 (nI b) h) ∧ f_Harbour_endTrip_k33 (nI b) h = zm_si h 71 b (uN h 7 b + 1) := by
    unfold f_Harbour_endTrip_k33_ok f_Harbour_endTrip_k33
    rw [z71, zs_n _ 71 _ (by omega)]
    exact ⟨⟨ib, ib⟩, zWr_si (by decide) (zWr.refl _ _), rfl⟩
  unfold f_Harbour_endTrip_ok f_Harbour_endTrip
  rw [e4, z67, z68, z69, d2]
  by_cases c : nt < 200
  · have g : ¬ ((200 : Int32) ≤ nI nt) := by rw [show (200 : Int32) = nI 200 from rfl, nx_le (by omega) (by omega)]; omega
    rw [if_pos g]
    by_cases d : dbl (vC 38 h) (nI j) r (-1) = true
    · rw [if_pos d, if_neg (by decide), if_pos ⟨c, d⟩]
      obtain ⟨a1, a2, a3, a4⟩ := adt_N (h := h) c e4 t (nI j) (nI r) (-1) s
      have J1 := J_ad c J a3 a4 ok
      generalize f_Log_addThing t (nI j) (nI r) (-1) s h = h1 at a2 a3 a4 J1
      have v1 : vC 38 h1 = vC 38 h := vC_eq (fun i hi => a2.arr (38 + i) (by simp; omega) (by simp; omega))
      have k1 : zf h1 37 4 = nI nt := (a2.fld 37 4 (by decide) (by decide)).trans ek
      obtain ⟨b1, b2, b3, b4⟩ := dthJ_37 hnr J1 (by rw [v1]; exact V) (k := nt) (by omega) k1 t
      have row : ∀ i, i < 5 → tT h1 i nt = tad (tB h) nt t (nI j) (nI r) (-1) s i nt := fun i hi => by
        rw [← a4]; unfold tB tT; rw [if_pos hi]
      have r0 : tT h1 0 nt = t := by rw [row 0 (by omega), tad_at]; simp
      have r1 : tT h1 1 nt = nI j := by rw [row 1 (by omega), tad_at]; simp
      have r2 : tT h1 2 nt = nI r := by rw [row 2 (by omega), tad_at]; simp
      have r3 : tT h1 3 nt = -1 := by rw [row 3 (by omega), tad_at]; simp
      have r4 : tT h1 4 nt = s := by rw [row 4 (by omega), tad_at]; simp
      rw [thn_one (by rw [r0]; exact i_le_r _)] at b3 b4
      have b4 : vC 38 (f_Course_doThings_37 t h1) = thS (tT h1) nt (vC 38 h1) := b4
      unfold thS at b4
      rw [r1, r2, r3, r4, v1, nI_c (by omega), if_pos d] at b4
      unfold f_Harbour_endTrip_k71_ok f_Harbour_endTrip_k71
      have J2 : J_th nr (nt + 1) (f_Course_doThings_37 t h1) := ⟨J1.1, (b2.fld 23 4 (by decide) (by decide)).trans J1.2.1, fun k hk => by
        rw [b2.arr 28 (by decide) (by decide), b2.arr 29 (by decide) (by decide), b2.arr 30 (by decide) (by decide), b2.arr 31 (by decide) (by decide)]
        exact J1.2.2 k hk⟩
      have w2 : zWr [27, 28, 29, 30, 31, 38, 39, 40, 43, 44, 45, 65, 70, 71] [(23, 4), (37, 4)] h (f_Course_doThings_37 t h1) := zWr_tr b2 (by decide) (by decide) (zWr_tr a2 (by decide) (by decide) (zWr.refl _ _))
      have u2 : uN (f_Course_doThings_37 t h1) = uN h := by
        rw [uN_eq (fun i hi => b2.arr (64 + i) (by simp; omega) (by simp; omega)), uN_eq (fun i hi => a2.arr (64 + i) (by simp; omega) (by simp; omega))]
      have t2 : tB (f_Course_doThings_37 t h1) = tB h1 := tB_eq (fun i hi => b2.arr (27 + i) (by simp; omega) (by simp; omega))
      generalize f_Course_doThings_37 t h1 = h2 at b2 b3 b4 J2 w2 u2 t2
      rw [a4] at t2
      have y68 : zr h2 68 (nI b) = nI j := by rw [zr_n h2 68 (by omega), ← ej, ← u2, uN_at h2 (by omega)]
      have y70 : zr h2 70 (nI b) = uN h 6 b := by rw [zr_n h2 70 (by omega), ← u2, uN_at h2 (by omega)]
      obtain ⟨p1, p2, p3, -, -⟩ := prt_j hj
      have x1 : nI b * 3 + nI (prt (nI j)) = nI (3 * b + prt (nI j)) := by
        rw [show (3 : Int32) = nI 3 from rfl, pk_mul, Nat.mul_comm, ← nI_add]
      have i9 : vp_in (nI (3 * b + prt (nI j))) 9 := vp_in_nI (by omega) (by omega)
      have y65 : zr h2 65 (nI (3 * b + prt (nI j))) = uN h 1 (3 * b + prt (nI j)) := by rw [zr_n h2 65 (by omega), ← u2, uN_at h2 (by omega)]
      unfold f_Harbour_endTrip_k79_ok f_Harbour_endTrip_k79 dn
      rw [y68, p2, x1, y70, ej, y65, zs_n _ 70 _ (by omega), zs_n _ 65 _ (by omega)]
      have e2 : (nI (prt (nI j)) = 2) ↔ prt (nI j) = 2 := by
        rw [i_eq, i_nI (by omega)]
        have : (2 : Int32).toInt = 2 := rfl
        omega
      have fin : ∀ h3, zWr [65, 70] [] h2 h3 → vC 38 h3 = dot (vC 38 h) (nI j) r (-1) s ∧ zf h3 37 4 = nI (nt + 1) ∧ tB h3 = tad (tB h) nt t (nI j) (nI r) (-1) s ∧ J_th nr (nt + 1) h3 := fun h3 w3 =>
        ⟨by rw [vC_eq (fun i hi => w3.arr (38 + i) (by simp; omega) (by simp)), b4], by rw [← b3]; exact w3.fld 37 4 (by decide) (by decide), by rw [tB_eq (fun i hi => w3.arr (27 + i) (by simp; omega) (by simp)), t2], ⟨J2.1, (w3.fld 23 4 (by decide) (by decide)).trans J2.2.1, fun k hk => by
          rw [w3.arr 28 (by decide) (by decide), w3.arr 29 (by decide) (by decide), w3.arr 30 (by decide) (by decide), w3.arr 31 (by decide) (by decide)]
          exact J2.2.2 k hk⟩⟩
      have vd := vOK_dot hnr V ok d
      refine ⟨⟨fun _ => ⟨ib, ib, d1, fun z => absurd z (by decide), fun _ => ⟨ib, ib, ib, a1, b1, ib, ib, ib, fun _ => trivial, fun _ => ⟨i9, i9⟩⟩⟩, fun z => absurd g z⟩, ?_⟩
      by_cases y : prt (nI j) = 2
      · rw [if_pos (e2.mpr y), if_pos y]
        obtain ⟨f1, f2, f3, f4⟩ := fin (zm_si h2 70 b (uN h 6 b + 1)) (zWr_si (by decide) (zWr.refl _ _))
        exact ⟨zWr_si (by decide) w2, f1, f2, f3, by rw [uN_u (i := 6) (j := 70) rfl (by omega), u2], f4, vd⟩
      · rw [if_neg (fun z => y (e2.mp z)), if_neg y]
        have y65' : zr (zm_si h2 70 b (uN h 6 b + 1)) 65 (nI (3 * b + prt (nI j))) = uN h 1 (3 * b + prt (nI j)) := by
          rw [zr_n _ 65 (by omega), zf, za_si, if_neg (by decide), ← u2, uN_at h2 (by omega)]
        obtain ⟨f1, f2, f3, f4⟩ := fin (zm_si (zm_si h2 70 b (uN h 6 b + 1)) 65 (3 * b + prt (nI j)) (uN h 1 (3 * b + prt (nI j)) - 1)) (zWr_si (by decide) (zWr_si (by decide) (zWr.refl _ _)))
        exact ⟨zWr_si (by decide) (zWr_si (by decide) w2), f1, f2, f3, by rw [uN_u (i := 1) (j := 65) rfl (by omega), uN_u (i := 6) (j := 70) rfl (by omega), u2], f4, vd⟩
    · rw [if_neg d, if_pos rfl, if_neg (fun z => d z.2)]
      exact ⟨⟨fun _ => ⟨ib, ib, d1, fun _ => fail.1, fun z => absurd rfl z⟩, fun z => absurd g z⟩, fail.2.1, fail.2.2⟩
  · have g : (200 : Int32) ≤ nI nt := by rw [show (200 : Int32) = nI 200 from rfl, nx_le (by omega) (by omega)]; omega
    rw [if_neg (show ¬ ¬ (200 : Int32) ≤ nI nt from fun z => z g), if_neg (show ¬ (nt < 200 ∧ dbl (vC 38 h) (nI j) r (-1) = true) from fun z => c z.1)]
    exact ⟨⟨fun z => absurd g z, fun _ => fail.1⟩, fail.2.1, fail.2.2⟩
