/-! ===== reading as a picture: what holds all along ===== -/
def cD : List Nat → Nat
  | [] => 0
  | s :: r => (if 1000 ≤ s then 1 else 0) + cD r
def wS (s : Nat) : Nat := if s = 1 then 5 else if s = 3 then 3 else if s = 6 then 11 else if s = 8 then 9 else if s = 10 then 7 else 1
def wL : List Nat → Nat
  | [] => 0
  | s :: r => wS s + wL r
theorem wS_1 (s : Nat) : 1 ≤ wS s := by unfold wS; repeat' split
                                        all_goals omega
def chk (t : Bool) : List Nat → Nat → List Bool → Prop
  | [], _, _ => False
  | s :: r, d, ts =>
    if s = 13 then ts = [t] ∧ r = [0]
    else if s = 1 then (ts.length + 3 + 2 * (8 - d) ≤ 60 ∧ r.length + 5 + 6 * (8 - d) ≤ 800) ∧ chk t r d (false :: ts)
    else if s = 2 then (∃ us, ts = false :: us) ∧ (ts.length + 2 + 2 * (8 - d) ≤ 60 ∧ r.length + 5 + 6 * (8 - d) ≤ 800) ∧ chk t r d ts
    else if s = 3 then (ts.length + 2 + 2 * (8 - d) ≤ 60 ∧ r.length + 3 + 6 * (8 - d) ≤ 800) ∧ chk t r d (false :: ts)
    else if s = 4 then (∃ us, ts = false :: us) ∧ (ts.length + 1 + 2 * (8 - d) ≤ 60 ∧ r.length + 3 + 6 * (8 - d) ≤ 800) ∧ chk t r d ts
    else if s = 5 then (ts.length + 1 + 2 * (8 - d) ≤ 60 ∧ r.length + 1 + 6 * (8 - d) ≤ 800) ∧ chk t r d (false :: ts)
    else if s = 6 then (ts.length + 6 + 2 * (8 - d) ≤ 60 ∧ r.length + 10 + 6 * (8 - d) ≤ 800) ∧ chk t r d (true :: ts)
    else if s = 7 then (∃ us, ts = true :: us) ∧ (ts.length + 5 + 2 * (8 - d) ≤ 60 ∧ r.length + 10 + 6 * (8 - d) ≤ 800) ∧ chk t r d ts
    else if s = 8 then (ts.length + 5 + 2 * (8 - d) ≤ 60 ∧ r.length + 8 + 6 * (8 - d) ≤ 800) ∧ chk t r d (true :: ts)
    else if s = 9 then (∃ us, ts = true :: us) ∧ (ts.length + 4 + 2 * (8 - d) ≤ 60 ∧ r.length + 8 + 6 * (8 - d) ≤ 800) ∧ chk t r d ts
    else if s = 10 then (ts.length + 4 + 2 * (8 - d) ≤ 60 ∧ r.length + 6 + 6 * (8 - d) ≤ 800) ∧ chk t r d (true :: ts)
    else if s = 11 then ∃ us, ts = false :: us ∧ (ts.length + 3 + 2 * (8 - d) ≤ 60 ∧ r.length + 6 + 6 * (8 - d) ≤ 800) ∧ chk t r d (true :: us)
    else if s = 12 then (∃ e, d = e + 1) ∧ r.length + 1 ≤ 800 ∧ chk t r (d - 1) ts
    else if 1000 ≤ s then s ≤ 1011 ∧ 1002 ≤ s ∧ r.length + 1 ≤ 800 ∧ ∃ us, tst (nI (s - 1000)) 0 ts = some us ∧ chk t r d us
    else if 100 ≤ s then s < 300 ∧ r.length + 1 ≤ 800 ∧ chk t r d ts
    else False
theorem chk_len {t : Bool} {x : List Nat} {d : Nat} {ts : List Bool} (h : chk t x d ts) : x.length ≤ 800 := by
  cases x with
  | nil => exact h.elim
  | cons s r =>
    rw [List.length_cons]
    unfold chk at h
    by_cases e13 : s = 13
    · rw [if_pos e13] at h; rw [h.2]; show 1 + 1 ≤ 800; omega
    rw [if_neg e13] at h
    by_cases e1 : s = 1
    · rw [if_pos e1] at h; have := h.1.2; omega
    rw [if_neg e1] at h
    by_cases e2 : s = 2
    · rw [if_pos e2] at h; have := h.2.1.2; omega
    rw [if_neg e2] at h
    by_cases e3 : s = 3
    · rw [if_pos e3] at h; have := h.1.2; omega
    rw [if_neg e3] at h
    by_cases e4 : s = 4
    · rw [if_pos e4] at h; have := h.2.1.2; omega
    rw [if_neg e4] at h
    by_cases e5 : s = 5
    · rw [if_pos e5] at h; have := h.1.2; omega
    rw [if_neg e5] at h
    by_cases e6 : s = 6
    · rw [if_pos e6] at h; have := h.1.2; omega
    rw [if_neg e6] at h
    by_cases e7 : s = 7
    · rw [if_pos e7] at h; have := h.2.1.2; omega
    rw [if_neg e7] at h
    by_cases e8 : s = 8
    · rw [if_pos e8] at h; have := h.1.2; omega
    rw [if_neg e8] at h
    by_cases e9 : s = 9
    · rw [if_pos e9] at h; have := h.2.1.2; omega
    rw [if_neg e9] at h
    by_cases e10 : s = 10
    · rw [if_pos e10] at h; have := h.1.2; omega
    rw [if_neg e10] at h
    by_cases e11 : s = 11
    · rw [if_pos e11] at h; obtain ⟨us, h1, h2, h3⟩ := h; have := h2.2; omega
    rw [if_neg e11] at h
    by_cases e12 : s = 12
    · rw [if_pos e12] at h; have := h.2.1; omega
    rw [if_neg e12] at h
    by_cases e14 : 1000 ≤ s
    · rw [if_pos e14] at h; have := h.2.2.1; omega
    rw [if_neg e14] at h
    by_cases e15 : 100 ≤ s
    · rw [if_pos e15] at h; have := h.2.1; omega
    rw [if_neg e15] at h
    exact h.elim
/-- code that is added behind changes nothing of what stood -/
theorem tyk_x {W V W' V' : Nat → Int32} {b : Nat} : ∀ j, (∀ i, i < b + j → W' i = W i ∧ V' i = V i) → tyk W' V' b j = tyk W V b j := by
  intro j
  induction j with
  | zero => intro _; rfl
  | succ j ih =>
    intro h
    rw [tyk, tyk, ih (fun i hi => h i (by omega)), (h (b + j) (by omega)).1, (h (b + j) (by omega)).2]
theorem WT_x {W V W' V' : Nat → Int32} {b e : Nat} {t : Bool} (h : ∀ i, i < e → W' i = W i ∧ V' i = V i) (H : WT W V b e t) : WT W' V' b e t := by
  obtain ⟨h1, h2, h3⟩ := H
  refine ⟨h1, ?_, fun j ts hj e2 => ?_⟩
  · rw [tyk_x _ (fun i hi => h i (by omega))]; exact h2
  · rw [tyk_x _ (fun i hi => h i (by omega))] at e2; exact h3 j ts hj e2
def clO (s : PSt) (k : Nat) : Prop := ¬ s.2.2.2.2.2.1 k = -1 → ∃ b e, e ≤ s.2.2.1 ∧ s.2.2.2.2.2.1 k = nI b ∧ s.2.2.2.2.2.2.1 k = nI e ∧ WT s.2.2.2.1 s.2.2.2.2.1 b e (decide (k ≠ 3))
/-- within a CLAUSE: the code so far leaves the types ts -/
def opO (s : PSt) (ts : List Bool) : Prop := s.2.2.2.2.2.2.2 < 4 ∧ ∃ b, b ≤ s.2.2.1 ∧ s.2.2.2.2.2.1 s.2.2.2.2.2.2.2 = nI b ∧ tyk s.2.2.2.1 s.2.2.2.2.1 b (s.2.2.1 - b) = some ts ∧ ∀ j us, j ≤ s.2.2.1 - b → tyk s.2.2.2.1 s.2.2.2.2.1 b j = some us → us.length ≤ 60
def pIv (n : Nat) (a : PCf) : Prop := (a.2.1 ≤ n ∧ a.2.2.1 ≤ 8 ∧ a.2.2.2.1 + cD a.1 ≤ a.2.1) ∧ (((a.1 = [] ∨ a.1 = [0]) ∧ ∀ k, k < 4 → clO a.2 k) ∨ ∃ ts, opO a.2 ts ∧ chk (decide (a.2.2.2.2.2.2.2.2 ≠ 3)) a.1 a.2.2.1 ts ∧ ∀ k, k < 4 → ¬ k = a.2.2.2.2.2.2.2.2 → clO a.2 k)
def pMu (n : Nat) (a : PCf) : Nat := 20 * (n - a.2.1) + wL a.1
theorem opO_emt {s : PSt} {ts us : List Bool} {w v : Int32} (h : opO s ts) (ht : tst w v ts = some us) (hl : us.length ≤ 60) : opO (pemt s w v) us := by
  obtain ⟨h0, b, h1, h2, h3, h4⟩ := h
  have ex : ∀ i, i < s.2.2.1 → upd s.2.2.2.1 s.2.2.1 w i = s.2.2.2.1 i ∧ upd s.2.2.2.2.1 s.2.2.1 v i = s.2.2.2.2.1 i := fun i hi => by
    unfold upd
    rw [if_neg (by omega), if_neg (by omega)]; exact ⟨rfl, rfl⟩
  have last : tyk (upd s.2.2.2.1 s.2.2.1 w) (upd s.2.2.2.2.1 s.2.2.1 v) b (s.2.2.1 + 1 - b) = some us := by
    rw [show s.2.2.1 + 1 - b = (s.2.2.1 - b) + 1 by omega, tyk, tyk_x _ (fun i hi => ex i (by omega)), h3, show b + (s.2.2.1 - b) = s.2.2.1 by omega]
    show tst (upd s.2.2.2.1 s.2.2.1 w s.2.2.1) (upd s.2.2.2.2.1 s.2.2.1 v s.2.2.1) ts = some us
    unfold upd
    rw [if_pos rfl, if_pos rfl]
    exact ht
  refine ⟨h0, b, by show b ≤ s.2.2.1 + 1; omega, h2, last, fun j us' hj e => ?_⟩
  have hj : j ≤ s.2.2.1 + 1 - b := hj
  have e : tyk (upd s.2.2.2.1 s.2.2.1 w) (upd s.2.2.2.2.1 s.2.2.1 v) b j = some us' := e
  by_cases z : j = s.2.2.1 + 1 - b
  · rw [z, last] at e; cases e; exact hl
  · rw [tyk_x _ (fun i hi => ex i (by omega))] at e
    exact h4 j us' (by omega) e
theorem clO_emt {s : PSt} {k : Nat} {w v : Int32} (h : clO s k) : clO (pemt s w v) k := by
  intro nb
  obtain ⟨b, e, h1, h2, h3, h4⟩ := h nb
  refine ⟨b, e, by show e ≤ s.2.2.1 + 1; omega, h2, h3, WT_x (fun i hi => ?_) h4⟩
  show upd s.2.2.2.1 s.2.2.1 w i = _ ∧ upd s.2.2.2.2.1 s.2.2.1 v i = _
  unfold upd
  rw [if_neg (by omega), if_neg (by omega)]; exact ⟨rfl, rfl⟩
