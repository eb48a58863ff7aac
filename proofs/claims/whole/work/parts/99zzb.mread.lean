/-! ===== the model reads: its cells, its small steps ===== -/
theorem vb1 : vp_nar .boolean 1 = 1 := rfl
theorem vb0 : vp_nar .boolean 0 = 0 := rfl
def stA (f : Nat → Int32) : List Nat → Prop
  | [] => True
  | s :: r => f r.length = nI s ∧ stA f r
theorem stA_u {f : Nat → Int32} {k : Nat} {v : Int32} : ∀ {x : List Nat}, x.length ≤ k → stA f x → stA (upd f k v) x := by
  intro x
  induction x with
  | nil => intro _ _; trivial
  | cons s r ih =>
    intro hk h
    rw [List.length_cons] at hk
    refine ⟨?_, ih (by omega) h.2⟩
    unfold upd
    rw [if_neg (by omega)]; exact h.1
def mtk (B : Nat → Int32) (n : Nat) (h : zm_H) (p : Nat) : Prop := h.2.1 93 = B ∧ zf h 92 1 = nI n ∧ zf h 92 2 = nI (lxE B n p) ∧ zf h 92 4 = nI (lxS B n p) ∧ mTV (tq B n p) (tv B n p) (zf h 92 3) (zf h 92 5)
def mst (h : zm_H) (x : List Nat) : Prop := zf h 92 7 = nI x.length ∧ stA (h.2.1 94) x
def mrs (h : zm_H) (s : PSt) : Prop := zf h 92 8 = nI s.2.1 ∧ zf h 92 12 = nI s.2.2.1 ∧ h.2.1 95 = s.2.2.2.1 ∧ h.2.1 96 = s.2.2.2.2.1 ∧ h.2.1 97 = s.2.2.2.2.2.1 ∧ h.2.1 98 = s.2.2.2.2.2.2.1
def rq (B : Nat → Int32) (n : Nat) (h : zm_H) (x : List Nat) (s : PSt) : Prop := mtk B n h s.1 ∧ mst h x ∧ mrs h s
theorem mtk_z {B : Nat → Int32} {n : Nat} {h h' : zm_H} {p : Nat} (e : zEq [93] [(92, 1), (92, 2), (92, 3), (92, 4), (92, 5)] h h') (H : mtk B n h p) : mtk B n h' p := by
  obtain ⟨a, b, c, d, f⟩ := H
  refine ⟨(e.a 93 (by simp)).trans a, (e.f 92 1 (by simp)).trans b, (e.f 92 2 (by simp)).trans c, (e.f 92 4 (by simp)).trans d, ?_⟩
  rw [show zf h' 92 3 = zf h 92 3 from e.f 92 3 (by simp), show zf h' 92 5 = zf h 92 5 from e.f 92 5 (by simp)]; exact f
theorem mst_z {h h' : zm_H} {x : List Nat} (e : zEq [94] [(92, 7)] h h') (H : mst h x) : mst h' x := ⟨(e.f 92 7 (by simp)).trans H.1, by rw [e.a 94 (by simp)]; exact H.2⟩
theorem mrs_z {h h' : zm_H} {s : PSt} (e : zEq [95, 96, 97, 98] [(92, 8), (92, 12)] h h') (H : mrs h s) : mrs h' s := by
  obtain ⟨a, b, c, d, f, g⟩ := H
  exact ⟨(e.f 92 8 (by simp)).trans a, (e.f 92 12 (by simp)).trans b, (e.a 95 (by simp)).trans c, (e.a 96 (by simp)).trans d, (e.a 97 (by simp)).trans f, (e.a 98 (by simp)).trans g⟩
theorem mTV_c {q v : Nat} {T V : Int32} (h : mTV q v T V) : (q < 256 ∧ T = 3 ∧ V = nI q) ∨ (q = 256 ∧ T = 1 ∧ ((v ≤ 99999 ∧ V = nI v) ∨ (v = 100000 ∧ ¬ (V ≤ 99999)))) ∨ (q = 257 ∧ T = 0) ∨ (q = 258 ∧ T = 4) ∨ ((300 ≤ q ∧ q ≤ 315) ∧ T = 2 ∧ V = nI (q - 300)) ∨ (q = 316 ∧ T = 2 ∧ V = -1) := by
  obtain ⟨h1, h2, h3, h4, h5, h6, h7, h8⟩ := h
  rcases (show q < 256 ∨ q = 256 ∨ q = 257 ∨ q = 258 ∨ (300 ≤ q ∧ q ≤ 315) ∨ q = 316 by omega) with z | z | z | z | z | z
  · exact Or.inl ⟨z, h5 z⟩
  · exact Or.inr (Or.inl ⟨z, h2 z⟩)
  · exact Or.inr (Or.inr (Or.inl ⟨z, h1 z⟩))
  · exact Or.inr (Or.inr (Or.inr (Or.inl ⟨z, h6 z⟩)))
  · exact Or.inr (Or.inr (Or.inr (Or.inr (Or.inl ⟨z, h3 z.1 z.2⟩))))
  · exact Or.inr (Or.inr (Or.inr (Or.inr (Or.inr ⟨z, h4 z⟩))))
theorem mT_s {q v : Nat} {T V : Int32} (h : mTV q v T V) {c : Nat} (hc : c < 256) : (T = 3 ∧ V = nI c) ↔ q = c := by
  rcases mTV_c h with ⟨a, b, d⟩ | ⟨a, b, -⟩ | ⟨a, b⟩ | ⟨a, b⟩ | ⟨a, b, -⟩ | ⟨a, b, -⟩
  · rw [b, d]; exact ⟨fun z => nI_inj (by omega) (by omega) z.2, fun z => ⟨rfl, by rw [z]⟩⟩
  · rw [b]; exact ⟨fun z => absurd z.1 (by decide), fun z => by omega⟩
  · rw [b]; exact ⟨fun z => absurd z.1 (by decide), fun z => by omega⟩
  · rw [b]; exact ⟨fun z => absurd z.1 (by decide), fun z => by omega⟩
  · rw [b]; exact ⟨fun z => absurd z.1 (by decide), fun z => by omega⟩
  · rw [b]; exact ⟨fun z => absurd z.1 (by decide), fun z => by omega⟩
theorem mT_w {q v : Nat} {T V : Int32} (h : mTV q v T V) {w : Nat} (hw : w ≤ 15) : (T = 2 ∧ V = nI w) ↔ q = 300 + w := by
  rcases mTV_c h with ⟨a, b, d⟩ | ⟨a, b, -⟩ | ⟨a, b⟩ | ⟨a, b⟩ | ⟨a, b, d⟩ | ⟨a, b, d⟩
  · rw [b]; exact ⟨fun z => absurd z.1 (by decide), fun z => by omega⟩
  · rw [b]; exact ⟨fun z => absurd z.1 (by decide), fun z => by omega⟩
  · rw [b]; exact ⟨fun z => absurd z.1 (by decide), fun z => by omega⟩
  · rw [b]; exact ⟨fun z => absurd z.1 (by decide), fun z => by omega⟩
  · rw [b, d]
    refine ⟨fun z => ?_, fun z => ⟨rfl, by rw [z, show 300 + w - 300 = w by omega]⟩⟩
    have := nI_inj (by omega) (by omega) z.2
    omega
  · rw [b, d]
    refine ⟨fun z => ?_, fun z => by omega⟩
    exact absurd z.2.symm (nI_nm1 (by omega))
theorem pu_q {B : Nat → Int32} {n : Nat} {h : zm_H} {x : List Nat} {s : PSt} (H : rq B n h x s) (hl : x.length < 800) (y : Nat) : f_M_push_ok (nI y) h ∧ rq B n (f_M_push (nI y) h) (y :: x) s ∧ zf (f_M_push (nI y) h) 92 9 = zf h 92 9 := by
  obtain ⟨T, ⟨m1, m2⟩, R⟩ := H
  unfold f_M_push_ok f_M_push
  rw [m1, zs_n _ 94 _ (by omega), ← nI_succ]
  obtain ⟨z, ez⟩ : ∃ z, z = zp (zm_si h 94 x.length (nI y)) 92 7 (nI (x.length + 1)) := ⟨_, rfl⟩
  have w : zWr [94] [(92, 7)] h z := by rw [ez]; exact zWr_p (by decide) (zWr_si (by decide) (zWr.refl _ _))
  rw [← ez]
  refine ⟨vp_in_nI (by omega) (by omega), ⟨mtk_z (w.eq (by decide) (by decide)) T, ⟨?_, ?_⟩, mrs_z (w.eq (by decide) (by decide)) R⟩, w.fld 92 9 (by decide) (by decide)⟩
  · rw [ez]; exact zm_in _ _ _ _
  · have e : z.2.1 94 = upd (h.2.1 94) x.length (nI y) := by
      rw [ez]; show (zm_si (zm_si h 94 x.length (nI y)) 92 7 _).2.1 94 = _
      rw [za_si, if_neg (by decide), za_si, if_pos rfl]
    rw [e]
    refine ⟨?_, stA_u (Nat.le_refl _) m2⟩
    unfold upd; rw [if_pos rfl]
theorem fo_q {B : Nat → Int32} {n : Nat} (hn : n ≤ 400) {h : zm_H} {x : List Nat} {s : PSt} (H : rq B n h x s) (hp : s.1 ≤ n) : f_M_follows_ok h ∧ rq B n (f_M_follows h) x (padv B n s) ∧ zf (f_M_follows h) 92 9 = zf h 92 9 := by
  obtain ⟨⟨t1, t2, t3, t4, t5⟩, M, R⟩ := H
  obtain ⟨-, -, b3, -, -⟩ := lx_b (B := B) hn hp
  obtain ⟨o1, o2, o3, o4⟩ := fo_M (h := h) hn b3 t2 t3
  have w := f_M_follows_w h
  rw [t1] at o2 o3 o4
  exact ⟨o1, ⟨⟨(w.arr 93 (by decide) (by decide)).trans t1, (w.fld 92 1 (by decide) (by decide)).trans t2, o2, o3, o4⟩, mst_z (w.eq (by decide) (by decide)) M, mrs_z (s := s) (w.eq (by decide) (by decide)) R⟩, w.fld 92 9 (by decide) (by decide)⟩
theorem em_q {B : Nat → Int32} {n : Nat} {h : zm_H} {x : List Nat} {s : PSt} (H : rq B n h x s) (hc : s.2.2.1 < 400) (w v : Int32) : f_M_emits_ok w v h ∧ rq B n (f_M_emits w v h) x (pemt s w v) ∧ zf (f_M_emits w v h) 92 9 = zf h 92 9 := by
  obtain ⟨T, M, r1, r2, r3, r4, r5, r6⟩ := H
  unfold f_M_emits_ok f_M_emits
  rw [r2, zs_n _ 95 _ (by omega), zs_n _ 96 _ (by omega), ← nI_succ]
  obtain ⟨z, ez⟩ : ∃ z, z = zp (zm_si (zm_si h 95 s.2.2.1 w) 96 s.2.2.1 v) 92 12 (nI (s.2.2.1 + 1)) := ⟨_, rfl⟩
  have wz : zWr [95, 96] [(92, 12)] h z := by rw [ez]; exact zWr_p (by decide) (zWr_si (by decide) (zWr_si (by decide) (zWr.refl _ _)))
  rw [← ez]
  have i : vp_in (nI s.2.2.1) 400 := vp_in_nI hc (by omega)
  refine ⟨⟨i, i⟩, ⟨mtk_z (p := s.1) (wz.eq (by decide) (by decide)) T, mst_z (wz.eq (by decide) (by decide)) M, (wz.fld 92 8 (by decide) (by decide)).trans r1, ?_, ?_, ?_, (wz.arr 97 (by decide) (by decide)).trans r5, (wz.arr 98 (by decide) (by decide)).trans r6⟩, wz.fld 92 9 (by decide) (by decide)⟩
  · rw [ez]; exact zm_in _ _ _ _
  · rw [ez]; show (zm_si (zm_si (zm_si h 95 s.2.2.1 w) 96 s.2.2.1 v) 92 12 _).2.1 95 = upd s.2.2.2.1 s.2.2.1 w
    rw [za_si, if_neg (by decide), za_si, if_neg (by decide), za_si, if_pos rfl, r3]
  · rw [ez]; show (zm_si (zm_si (zm_si h 95 s.2.2.1 w) 96 s.2.2.1 v) 92 12 _).2.1 96 = upd s.2.2.2.2.1 s.2.2.1 v
    rw [za_si, if_neg (by decide), za_si, if_pos rfl, za_si, if_neg (by decide), r4]
theorem de_q {B : Nat → Int32} {n : Nat} {h : zm_H} {x : List Nat} {s : PSt} (H : rq B n h x s) (hd : s.2.1 ≤ 8) : (s.2.1 < 8 → x.length < 800 → f_M_deeper_ok h ∧ (f_M_deeper h).1 = 1 ∧ rq B n (f_M_deeper h).2 (12 :: x) (pdep s (s.2.1 + 1)) ∧ zf (f_M_deeper h).2 92 9 = zf h 92 9) ∧ (¬ s.2.1 < 8 → f_M_deeper_ok h ∧ f_M_deeper h = (0, h)) := by
  have r1 : zf h 92 8 = nI s.2.1 := H.2.2.1
  have e8 : nI s.2.1 = 8 ↔ s.2.1 = 8 := ⟨fun z => nI_inj (by omega) (by omega) (z.trans (show (8 : Int32) = nI 8 from rfl)), fun z => by rw [z]; rfl⟩
  unfold f_M_deeper_ok f_M_deeper
  rw [r1]
  refine ⟨fun l8 hl => ?_, fun l8 => ?_⟩
  · have n8 : ¬ nI s.2.1 = 8 := fun z => by have := e8.mp z; omega
    rw [if_neg n8, ← nI_succ]
    obtain ⟨z, ez⟩ : ∃ z, z = zp h 92 8 (nI (s.2.1 + 1)) := ⟨_, rfl⟩
    have wz : zWr [] [(92, 8)] h z := by rw [ez]; exact zWr_p (by decide) (zWr.refl _ _)
    rw [← ez]
    obtain ⟨T, M, r1, r2, r3, r4, r5, r6⟩ := H
    have Hz : rq B n z x (pdep s (s.2.1 + 1)) := ⟨mtk_z (p := s.1) (wz.eq (by decide) (by decide)) T, mst_z (wz.eq (by decide) (by decide)) M, by rw [ez]; exact zm_in _ _ _ _, (wz.fld 92 12 (by decide) (by decide)).trans r2, (wz.arr 95 (by decide) (by decide)).trans r3, (wz.arr 96 (by decide) (by decide)).trans r4, (wz.arr 97 (by decide) (by decide)).trans r5, (wz.arr 98 (by decide) (by decide)).trans r6⟩
    obtain ⟨p1, p2, p3⟩ := pu_q Hz hl 12
    exact ⟨⟨fun z => absurd z n8, fun _ => p1⟩, rfl, p2, p3.trans (wz.fld 92 9 (by decide) (by decide))⟩
  · have n8 : nI s.2.1 = 8 := e8.mpr (by omega)
    rw [if_pos n8]
    exact ⟨⟨fun _ => trivial, fun z => absurd n8 z⟩, rfl⟩
/-- what a step of the model comes to -/
def mO (B : Nat → Int32) (n y : Nat) (r : List Nat) (s : PSt) (c9 : Int32) (q : Int32 × zm_H) : Prop := (∃ x t, stp B n (y :: r, s) = some (x, t) ∧ q.1 = 1 ∧ rq B n q.2 x t ∧ (zf q.2 92 9 = c9 ∧ t.2.2.2.2.2.2.2 = s.2.2.2.2.2.2.2)) ∨ (stp B n (y :: r, s) = none ∧ q.1 = 0 ∧ zf q.2 92 4 = nI (lxS B n s.1))
theorem mO_b {B : Nat → Int32} {n y : Nat} {r : List Nat} {s : PSt} {c9 : Int32} {q : Int32 × zm_H} (h : mO B n y r s c9 q) : vp_nar .boolean q.1 = q.1 := by
  rcases h with ⟨x, t, -, a, -⟩ | ⟨-, a, -⟩ <;> rw [a] <;> rfl
/-- two to come -/
theorem m_both {B : Nat → Int32} {n : Nat} {h : zm_H} {r : List Nat} {s : PSt} {y a b : Nat} (H : rq B n h r s) (hl : r.length + 2 ≤ 800) (st : stp B n (y :: r, s) = some (b :: a :: r, s)) : f_M_both_ok (nI a) (nI b) h ∧ mO B n y r s (zf h 92 9) (f_M_both (nI a) (nI b) h) := by
  unfold f_M_both_ok f_M_both f_M_both_k5_ok f_M_both_k5
  obtain ⟨p1, p2, p3⟩ := pu_q H (by omega) a
  obtain ⟨q1, q2, q3⟩ := pu_q p2 (by rw [List.length_cons]; omega) b
  exact ⟨⟨p1, q1⟩, Or.inl ⟨_, _, st, rfl, q2, q3.trans p3, rfl⟩⟩
