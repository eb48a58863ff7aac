/-! ===== a TEXT is read: what is to come as a row, as a picture ===== -/
abbrev PSt := Nat × Nat × Nat × (Nat → Int32) × (Nat → Int32) × (Nat → Int32) × (Nat → Int32) × Nat
abbrev PCf := List Nat × PSt
def padv (B : Nat → Int32) (n : Nat) (s : PSt) : PSt := (lxE B n s.1, s.2)
def pemt (s : PSt) (w v : Int32) : PSt := (s.1, s.2.1, s.2.2.1 + 1, upd s.2.2.2.1 s.2.2.1 w, upd s.2.2.2.2.1 s.2.2.1 v, s.2.2.2.2.2)
def pdep (s : PSt) (d : Nat) : PSt := (s.1, d, s.2.2)
def pcls (s : PSt) (k : Nat) : PSt := (s.1, s.2.1, s.2.2.1, s.2.2.2.1, s.2.2.2.2.1, upd s.2.2.2.2.2.1 k (nI s.2.2.1), s.2.2.2.2.2.2.1, k)
def pend (s : PSt) : PSt := (s.1, s.2.1, s.2.2.1, s.2.2.2.1, s.2.2.2.2.1, s.2.2.2.2.2.1, upd s.2.2.2.2.2.2.1 s.2.2.2.2.2.2.2 (nI s.2.2.1), s.2.2.2.2.2.2.2)
noncomputable def stp (B : Nat → Int32) (n : Nat) (a : PCf) : Option PCf := match a.1 with
  | [] => none
  | s :: r =>
    if 1000 ≤ s then some (r, pemt a.2 (nI (s - 1000)) 0)
    else if 100 ≤ s then (if tq B n a.2.1 = s - 100 then some (r, padv B n a.2) else none)
    else if s = 0 then (if tq B n a.2.1 = 257 then some (r, a.2) else if (300 ≤ tq B n a.2.1 ∧ tq B n a.2.1 ≤ 303) ∧ a.2.2.2.2.2.2.1 (tq B n a.2.1 - 300) = -1 then some ((if tq B n a.2.1 = 303 then 1 else 6) :: 159 :: 13 :: 0 :: r, padv B n (pcls a.2 (tq B n a.2.1 - 300))) else none)
    else if s = 1 then some (3 :: 2 :: r, a.2)
    else if s = 2 then (if tq B n a.2.1 = 43 then some (3 :: 1002 :: 2 :: r, padv B n a.2) else if tq B n a.2.1 = 45 then some (3 :: 1003 :: 2 :: r, padv B n a.2) else some (r, a.2))
    else if s = 3 then some (5 :: 4 :: r, a.2)
    else if s = 4 then (if tq B n a.2.1 = 42 then some (5 :: 1004 :: 4 :: r, padv B n a.2) else if tq B n a.2.1 = 47 then some (5 :: 1005 :: 4 :: r, padv B n a.2) else some (r, a.2))
    else if s = 5 then (if tq B n a.2.1 = 256 then (if tv B n a.2.1 ≤ 99999 then some (r, padv B n (pemt a.2 0 (nI (tv B n a.2.1)))) else none) else if 304 ≤ tq B n a.2.1 ∧ tq B n a.2.1 ≤ 312 then some (r, padv B n (pemt a.2 1 (nI (tq B n a.2.1 - 304)))) else if tq B n a.2.1 = 40 ∧ a.2.2.1 < 8 then some (1 :: 141 :: 12 :: r, padv B n (pdep a.2 (a.2.2.1 + 1))) else none)
    else if s = 6 then some (8 :: 7 :: r, a.2)
    else if s = 7 then (if tq B n a.2.1 = 313 then some (8 :: 1010 :: 7 :: r, padv B n a.2) else some (r, a.2))
    else if s = 8 then some (10 :: 9 :: r, a.2)
    else if s = 9 then (if tq B n a.2.1 = 314 then some (10 :: 1009 :: 9 :: r, padv B n a.2) else some (r, a.2))
    else if s = 10 then (if tq B n a.2.1 = 315 then (if a.2.2.1 < 8 then some (10 :: 1011 :: 12 :: r, padv B n (pdep a.2 (a.2.2.1 + 1))) else none) else if tq B n a.2.1 = 91 then (if a.2.2.1 < 8 then some (6 :: 193 :: 12 :: r, padv B n (pdep a.2 (a.2.2.1 + 1))) else none) else some (1 :: 11 :: r, a.2))
    else if s = 11 then (if tq B n a.2.1 = 60 then some (1 :: 1006 :: r, padv B n a.2) else if tq B n a.2.1 = 62 then some (1 :: 1007 :: r, padv B n a.2) else if tq B n a.2.1 = 61 then some (1 :: 1008 :: r, padv B n a.2) else none)
    else if s = 12 then some (r, pdep a.2 (a.2.2.1 - 1))
    else some (r, pend a.2)
noncomputable def itr (B : Nat → Int32) (n : Nat) : Nat → PCf → Option PCf
  | 0, a => some a
  | k + 1, a => match stp B n a with
    | none => none
    | some b => itr B n k b
def rch (B : Nat → Int32) (n : Nat) (a b : PCf) : Prop := ∃ k, itr B n k a = some b
theorem rch_r (B : Nat → Int32) (n : Nat) (a : PCf) : rch B n a a := ⟨0, rfl⟩
theorem rch_s {B : Nat → Int32} {n : Nat} {a b c : PCf} (h : stp B n a = some b) (r : rch B n b c) : rch B n a c := by
  obtain ⟨k, e⟩ := r
  refine ⟨k + 1, ?_⟩
  rw [itr, h]
  exact e
theorem rch_t {B : Nat → Int32} {n : Nat} {a b c : PCf} (r1 : rch B n a b) (r2 : rch B n b c) : rch B n a c := by
  obtain ⟨k, e⟩ := r1
  have key : ∀ k (a : PCf), itr B n k a = some b → rch B n a c := by
    intro k
    induction k with
    | zero => intro a e; rw [itr] at e; cases e; exact r2
    | succ k ih =>
      intro a e
      rw [itr] at e
      cases hs : stp B n a with
      | none => rw [hs] at e; cases e
      | some d => rw [hs] at e; exact rch_s hs (ih d e)
  exact key k a e
def hlt (B : Nat → Int32) (n : Nat) (a b : PCf) : Prop := rch B n a b ∧ stp B n b = none
theorem hlt_u {B : Nat → Int32} {n : Nat} {a b c : PCf} (h1 : hlt B n a b) (h2 : hlt B n a c) : b = c := by
  obtain ⟨⟨k, e1⟩, s1⟩ := h1
  obtain ⟨⟨j, e2⟩, s2⟩ := h2
  have key : ∀ k j (a : PCf), itr B n k a = some b → itr B n j a = some c → b = c := by
    intro k
    induction k with
    | zero =>
      intro j a e1 e2
      rw [itr] at e1
      cases e1
      cases j with
      | zero => rw [itr] at e2; cases e2; rfl
      | succ j => rw [itr, s1] at e2; cases e2
    | succ k ih =>
      intro j a e1 e2
      cases j with
      | zero =>
        rw [itr] at e2
        cases e2
        rw [itr, s2] at e1; cases e1
      | succ j =>
        rw [itr] at e1 e2
        cases hs : stp B n a with
        | none => rw [hs] at e1; cases e1
        | some d => rw [hs] at e1 e2; exact ih j d e1 e2
  exact key k j a e1 e2
/-- it ends at a TOKEN that can't stand there -/
def pfl (B : Nat → Int32) (n : Nat) (a : PCf) (s0 : Nat) : Prop := ∃ b, hlt B n a b ∧ ¬ b.1 = [] ∧ lxS B n b.2.1 = s0
theorem pfl_r {B : Nat → Int32} {n : Nat} {a b : PCf} {s0 : Nat} (r : rch B n a b) (f : pfl B n b s0) : pfl B n a s0 := by
  obtain ⟨c, ⟨h1, h2⟩, h3, h4⟩ := f
  exact ⟨c, ⟨rch_t r h1, h2⟩, h3, h4⟩
theorem pfl_0 {B : Nat → Int32} {n s : Nat} {r : List Nat} {t : PSt} (h : stp B n (s :: r, t) = none) : pfl B n (s :: r, t) (lxS B n t.1) := ⟨(s :: r, t), ⟨rch_r _ _ _, h⟩, by simp, rfl⟩
/-! what the class's cells say -/
def tkR (B : Nat → Int32) (n : Nat) (h : zm_H) (p : Nat) : Prop := ∃ m i, tkA B n h m ∧ i ≤ m ∧ zf h 10 7 = nI i ∧ tps B n i = p
def rpN (B : Nat → Int32) (n : Nat) (h : zm_H) (s : PSt) : Prop := (h.2.1 11 = B ∧ zf h 10 1 = nI n ∧ zf h 10 2 = -1) ∧ (tkR B n h s.1 ∧ zf h 10 8 = nI (tq B n s.1) ∧ True) ∧ s.1 ≤ n ∧ s.2.2.1 ≤ 400 ∧ zf h 10 10 = nI s.2.2.1 ∧ ∀ i, i < s.2.2.1 → h.2.1 12 i = enC (s.2.2.2.1 i) (s.2.2.2.2.1 i)
def jnk (h : zm_H) (s0 : Nat) : Prop := zf h 10 2 = nI s0 ∧ s0 ≤ 400 ∧ zf h 10 8 = 258 ∧ ∃ c, c ≤ 400 ∧ zf h 10 10 = nI c
def okO (B : Nat → Int32) (n sy : Nat) (s : PSt) (h : zm_H) : Prop := (∃ t, rpN B n h t ∧ (t.2.1 = s.2.1 ∧ t.2.2.2.2.2 = s.2.2.2.2.2) ∧ s.1 ≤ t.1 ∧ t.2.2.1 + s.1 ≤ s.2.2.1 + t.1 ∧ ∀ r, rch B n (sy :: r, s) (r, t)) ∨ ∃ s0, jnk h s0 ∧ ∀ r, pfl B n (sy :: r, s) s0
theorem tkA_z {B : Nat → Int32} {n m : Nat} {h h' : zm_H} (e6 : zf h' 10 6 = zf h 10 6) (a1 : h'.2.1 162 = h.2.1 162) (a2 : h'.2.1 163 = h.2.1 163) (a3 : h'.2.1 164 = h.2.1 164) (T : tkA B n h m) : tkA B n h' m := by
  obtain ⟨t1, t2, t3, t4, t5⟩ := T
  refine ⟨t1, e6.trans t2, t3, t4, fun k hk => ?_⟩
  show h'.2.1 162 k = _ ∧ h'.2.1 163 k = _ ∧ (_ → h'.2.1 164 k = _)
  rw [a1, a2, a3]
  exact t5 k hk
theorem tkR_z {B : Nat → Int32} {n p : Nat} {h h' : zm_H} (e6 : zf h' 10 6 = zf h 10 6) (e7 : zf h' 10 7 = zf h 10 7) (a1 : h'.2.1 162 = h.2.1 162) (a2 : h'.2.1 163 = h.2.1 163) (a3 : h'.2.1 164 = h.2.1 164) (T : tkR B n h p) : tkR B n h' p := by
  obtain ⟨m, i, t1, t2, t3, t4⟩ := T
  exact ⟨m, i, tkA_z e6 a1 a2 a3 t1, t2, e7.trans t3, t4⟩
/-- the TOKEN that is looked at: its place, its first byte, its value -/
theorem tkR_i {B : Nat → Int32} {n p : Nat} {h : zm_H} (T : tkR B n h p) : vp_in (zf h 10 7) 401 ∧ zr h 163 (zf h 10 7) = nI (lxS B n p) ∧ (tq B n p = 256 → zr h 164 (zf h 10 7) = nI (tv B n p)) := by
  obtain ⟨m, i, ⟨t1, t2, t3, t4, t5⟩, i1, i2, i3⟩ := T
  obtain ⟨g1, g2, g3⟩ := t5 i i1
  rw [i3] at g1 g2 g3
  rw [i2, zr_n h 163 (by omega), zr_n h 164 (by omega)]
  exact ⟨vp_in_nI (by omega) (by omega), g2, g3⟩
theorem st_O {B : Nat → Int32} {n : Nat} (hn : n ≤ 400) (by0 : byR B n) {h : zm_H} {s : PSt} (R : rpN B n h s) (hq : ¬ tq B n s.1 = 257) : f_Text_step_ok h ∧ rpN B n (f_Text_step h) (padv B n s) ∧ s.1 + 1 ≤ lxE B n s.1 ∧ lxE B n s.1 ≤ n := by
  obtain ⟨⟨r1, r2, r3⟩, ⟨⟨m, i, T, i1, i2, i3⟩, r5, -⟩, r8, r9, r10, r11⟩ := R
  obtain ⟨b1, b2, b3, b4, -⟩ := lx_b (B := B) hn r8
  have := b4 hq
  obtain ⟨t1, t2, t3, t4, t5⟩ := id T
  have im : i < m := by
    rcases (show i = m ∨ i < m by omega) with z | z
    · rw [z] at i3
      rw [i3] at t4
      exact absurd t4 hq
    · exact z
  have g0 : ¬ (nI m ≤ nI i) := by rw [nx_le (by omega) (by omega)]; omega
  have z162 : zr h 162 (nI (i + 1)) = nI (tq B n (lxE B n s.1)) := by
    rw [zr_n h 162 (by omega), ← i3]
    exact (t5 (i + 1) (by omega)).1
  unfold f_Text_step_ok f_Text_step
  rw [if_pos r3, t2, i2, if_neg g0, ← nI_succ, z162]
  obtain ⟨y, ey⟩ : ∃ y, y = zp (zp h 10 7 (nI (i + 1))) 10 8 (nI (tq B n (lxE B n s.1))) := ⟨_, rfl⟩
  have w : zWr [] [(10, 7), (10, 8)] h y := by rw [ey]; exact zWr_p (by decide) (zWr_p (by decide) (zWr.refl _ _))
  have y8 : zf y 10 8 = nI (tq B n (lxE B n s.1)) := by rw [ey]; exact zm_in _ _ _ _
  have y7 : zf y 10 7 = nI (i + 1) := by
    rw [ey]; show (zm_si (zm_si h 10 7 _) 10 8 _).2.1 10 7 = _
    rw [zf_si, if_pos rfl, if_neg (by decide)]; exact zm_in _ _ _ _
  rw [← ey]
  refine ⟨⟨fun _ => ⟨fun z => absurd z g0, fun _ => vp_in_nI (by omega) (by omega)⟩, fun z => absurd r3 z⟩, ⟨⟨?_, (w.fld 10 1 (by decide) (by decide)).trans r2, (w.fld 10 2 (by decide) (by decide)).trans r3⟩, ⟨⟨m, i + 1, tkA_z (w.fld 10 6 (by decide) (by decide)) (w.arr 162 (by decide) (by decide)) (w.arr 163 (by decide) (by decide)) (w.arr 164 (by decide) (by decide)) T, im, y7, by show lxE B n (tps B n i) = lxE B n s.1; rw [i3]⟩, y8, trivial⟩, b3, r9, (w.fld 10 10 (by decide) (by decide)).trans r10, fun j hj => ?_⟩, by omega, b3⟩
  · rw [w.arr 11 (by decide) (by decide)]; exact r1
  · rw [w.arr 12 (by decide) (by decide)]; exact r11 j hj
theorem em_O {B : Nat → Int32} {n : Nat} {h : zm_H} {s : PSt} (R : rpN B n h s) (hc : s.2.2.1 < 400) {w v : Int32} : f_Text_emit_ok (enC w v) h ∧ rpN B n (f_Text_emit (enC w v) h) (pemt s w v) := by
  obtain ⟨⟨r1, r2, r3⟩, ⟨r4, r5, -⟩, r8, r9, r10, r11⟩ := R
  have g : ¬ (Int32.ofNat 400 ≤ nI s.2.2.1) := by rw [show Int32.ofNat 400 = nI 400 from rfl, nx_le (by omega) (by omega)]; omega
  unfold f_Text_emit_ok f_Text_emit
  rw [r10, if_neg g, zs_n _ 12 _ (by omega), ← nI_succ]
  obtain ⟨y, ey⟩ : ∃ y, y = zp (zm_si h 12 s.2.2.1 (enC w v)) 10 10 (nI (s.2.2.1 + 1)) := ⟨_, rfl⟩
  have wy : zWr [12] [(10, 10)] h y := by rw [ey]; exact zWr_p (by decide) (zWr_si (by decide) (zWr.refl _ _))
  rw [← ey]
  refine ⟨⟨fun z => absurd z g, fun _ => vp_in_nI (by omega) (by omega)⟩, ⟨?_, (wy.fld 10 1 (by decide) (by decide)).trans r2, (wy.fld 10 2 (by decide) (by decide)).trans r3⟩, ⟨tkR_z (wy.fld 10 6 (by decide) (by decide)) (wy.fld 10 7 (by decide) (by decide)) (wy.arr 162 (by decide) (by decide)) (wy.arr 163 (by decide) (by decide)) (wy.arr 164 (by decide) (by decide)) r4, (wy.fld 10 8 (by decide) (by decide)).trans r5, trivial⟩, r8, ?_, ?_, fun i hi => ?_⟩
  · rw [wy.arr 11 (by decide) (by decide)]; exact r1
  · show s.2.2.1 + 1 ≤ 400; omega
  · rw [ey]; exact zm_in _ _ _ _
  · have hi : i < s.2.2.1 + 1 := hi
    show y.2.1 12 i = enC (upd s.2.2.2.1 s.2.2.1 w i) (upd s.2.2.2.2.1 s.2.2.1 v i)
    rw [ey]
    show (zm_si (zm_si h 12 s.2.2.1 (enC w v)) 10 10 _).2.1 12 i = _
    rw [zf_si, if_neg (by decide), zf_si, if_pos rfl]
    unfold upd
    by_cases e : i = s.2.2.1
    · rw [if_pos e, if_pos e, if_pos e]
    · rw [if_neg e, if_neg e, if_neg e]; exact r11 i (by omega)
theorem rf_O {B : Nat → Int32} {n : Nat} (hn : n ≤ 400) {h : zm_H} {s : PSt} (R : rpN B n h s) : jnk (f_Text_refuse h) (lxS B n s.1) := by
  obtain ⟨⟨r1, r2, r3⟩, ⟨r4, r5, -⟩, r8, r9, r10, r11⟩ := R
  obtain ⟨b1, b2, b3, b4, -⟩ := lx_b (B := B) hn r8
  obtain ⟨i1, i2, -⟩ := tkR_i r4
  unfold f_Text_refuse
  rw [if_pos r3, i2]
  refine ⟨?_, by omega, zm_in _ _ _ _, s.2.2.1, r9, ?_⟩
  · show (zm_si (zm_si h 10 2 _) 10 8 _).2.1 10 2 = _
    rw [zf_si, if_pos rfl, if_neg (by decide)]; exact zm_in _ _ _ _
  · show (zm_si (zm_si h 10 2 _) 10 8 _).2.1 10 10 = _
    rw [zf_si, if_pos rfl, if_neg (by decide), zf_si, if_pos rfl, if_neg (by decide)]; exact r10
theorem ro_O {B : Nat → Int32} {n : Nat} {h : zm_H} {s : PSt} (R : rpN B n h s) : f_Text_refuse_ok h := ⟨fun _ => (tkR_i R.2.1.1).1, fun _ => trivial⟩
theorem jn_f {h : zm_H} {s0 : Nat} (J : jnk h s0) : ¬ zf h 10 2 = -1 := by
  rw [J.1]; exact nI_nm1 (by have := J.2.1; omega)
theorem jn_ro {h : zm_H} {s0 : Nat} (J : jnk h s0) : f_Text_refuse_ok h := ⟨fun z => absurd z (jn_f J), fun _ => trivial⟩
theorem jn_st {h : zm_H} {s0 : Nat} (J : jnk h s0) : f_Text_step_ok h ∧ f_Text_step h = h := by
  unfold f_Text_step_ok f_Text_step
  rw [if_neg (jn_f J)]
  exact ⟨⟨fun z => absurd z (jn_f J), fun _ => trivial⟩, rfl⟩
theorem jn_em {h : zm_H} {s0 : Nat} (J : jnk h s0) (x : Int32) : f_Text_emit_ok x h ∧ jnk (f_Text_emit x h) s0 := by
  obtain ⟨j1, j2, j3, c, j4, j5⟩ := id J
  unfold f_Text_emit_ok f_Text_emit
  rw [j5]
  by_cases g : Int32.ofNat 400 ≤ nI c
  · rw [if_pos g]; exact ⟨⟨fun _ => trivial, fun z => absurd g z⟩, J⟩
  · have g' := g
    rw [show Int32.ofNat 400 = nI 400 from rfl, nx_le (by omega) (by omega)] at g'
    rw [if_neg g, zs_n _ 12 _ (by omega), ← nI_succ]
    refine ⟨⟨fun z => absurd z g, fun _ => vp_in_nI (by omega) (by omega)⟩, ?_, j2, ?_, c + 1, by omega, zm_in _ _ _ _⟩
    · show (zm_si (zm_si h 12 c x) 10 10 _).2.1 10 2 = _
      rw [zf_si, if_pos rfl, if_neg (by decide), zf_si, if_neg (by decide)]; exact j1
    · show (zm_si (zm_si h 12 c x) 10 10 _).2.1 10 8 = _
      rw [zf_si, if_pos rfl, if_neg (by decide), zf_si, if_neg (by decide)]; exact j3
theorem jn_rf {h : zm_H} {s0 : Nat} (J : jnk h s0) : jnk (f_Text_refuse h) s0 := by
  obtain ⟨j1, j2, j3, c, j4, j5⟩ := id J
  unfold f_Text_refuse
  rw [if_neg (jn_f J)]
  refine ⟨?_, j2, zm_in _ _ _ _, c, j4, ?_⟩
  · show (zm_si h 10 8 _).2.1 10 2 = _
    rw [zf_si, if_pos rfl, if_neg (by decide)]; exact j1
  · show (zm_si h 10 8 _).2.1 10 10 = _
    rw [zf_si, if_pos rfl, if_neg (by decide)]; exact j5
theorem jn_nd {h : zm_H} {s0 : Nat} (J : jnk h s0) {x : Int32} (hx : ¬ 258 = x) : f_Text_need_ok x h ∧ jnk (f_Text_need x h) s0 := by
  unfold f_Text_need_ok f_Text_need
  rw [J.2.2.1, if_neg hx]
  exact ⟨⟨fun z => absurd z hx, fun _ => jn_ro J⟩, jn_rf J⟩
/-- a sign that must stand there -/
theorem nd_O {B : Nat → Int32} {n : Nat} (hn : n ≤ 400) (by0 : byR B n) {h : zm_H} {s : PSt} (R : rpN B n h s) {x : Nat} (hx : x < 256) : f_Text_need_ok (nI x) h ∧ ((tq B n s.1 = x ∧ rpN B n (f_Text_need (nI x) h) (padv B n s) ∧ s.1 + 1 ≤ lxE B n s.1 ∧ lxE B n s.1 ≤ n) ∨ (¬ tq B n s.1 = x ∧ jnk (f_Text_need (nI x) h) (lxS B n s.1))) := by
  have e4 : zf h 10 8 = nI (tq B n s.1) := R.2.1.2.1
  have t316 : tq B n s.1 < 2147483648 := by
    unfold tq
    have := wI_le B (lxS B n s.1) (lxE B n s.1)
    repeat' split
    all_goals first | omega | (have := Int32.toNatClampNeg_lt (B (lxS B n s.1)); omega)
  have c0 : nI (tq B n s.1) = nI x ↔ tq B n s.1 = x := ⟨fun z => nI_inj t316 (by omega) z, fun z => by rw [z]⟩
  unfold f_Text_need_ok f_Text_need
  rw [e4]
  by_cases c : nI (tq B n s.1) = nI x
  · have c' := c0.mp c
    obtain ⟨a1, a2, a3, a4⟩ := st_O hn by0 R (by omega)
    rw [if_pos c]
    exact ⟨⟨fun _ => a1, fun z => absurd c z⟩, Or.inl ⟨c', a2, a3, a4⟩⟩
  · rw [if_neg c]
    exact ⟨⟨fun z => absurd z c, fun _ => ro_O R⟩, Or.inr ⟨fun z => c (c0.mpr z), rf_O hn R⟩⟩
