/-! ===== all that holds behind the makers ===== -/
theorem zkI_ks (a k : Nat) : ∀ ws : List zkW, ws.all zk_iv = true → zkI ws a k = if k ∈ zk_ks a ws then zk_ex a k else 0 := by
  intro ws
  induction ws with
  | nil => intro _; rfl
  | cons w r ih =>
    intro h
    rw [List.all_cons, Bool.and_eq_true] at h
    have ih := ih h.2
    obtain ⟨⟨p1, p2⟩, s⟩ := w
    cases s with
    | inr v => rw [zkI, zk_ks]; exact ih
    | inl v =>
      have hv : v = zk_ex p1 p2 := of_decide_eq_true h.1
      rw [zkI, zk_ks]
      dsimp only
      by_cases c : a = p1
      · rw [if_pos c, if_pos c.symm]
        by_cases e : k = p2
        · rw [if_pos e, if_pos (by rw [e]; exact List.mem_cons_self), hv, c, e]
        · rw [if_neg e, ih]
          by_cases m : k ∈ zk_ks a r
          · rw [if_pos m, if_pos (List.mem_cons_of_mem _ m)]
          · rw [if_neg m, if_neg (fun z => by rcases List.mem_cons.mp z with y | y; exact e y; exact m y)]
      · rw [if_neg c, if_neg (c := p1 = a) (fun z => c z.symm)]; exact ih
theorem zk_ck_ok {D : zkD} (h : zk_ck D = true) : D.1 = zT0.1 ∧ zkI D.2 = zk_ex ∧ zk_rf zT0.2 D.2 = true := by
  unfold zk_ck at h
  simp only [Bool.and_eq_true, decide_eq_true_eq] at h
  obtain ⟨h1, h2, h3, h4, h5⟩ := h
  refine ⟨h1, ?_, h5⟩
  rw [List.all_eq_true] at h3 h4
  have f : ∀ a n, (a, n) ∈ ([(2, 480), (39, 10), (52, 10), (45, 30), (58, 30), (66, 3), (124, 20), (130, 60)] : List (Nat × Nat)) → ∀ k, k < n → k ∈ zk_ks a D.2 := by
    intro a n hm k hk
    have := of_decide_eq_true (h3 (a, n) hm)
    dsimp only at this
    rw [this, List.mem_reverse, List.mem_range]
    exact hk
  have g : ∀ a k, (a, k) ∈ ([(0, 1), (0, 2), (92, 47), (92, 48), (91, 1), (92, 78)] : List (Nat × Nat)) → k ∈ zk_ks a D.2 := by
    intro a k hm
    have := h4 (a, k) hm
    simpa using this
  funext a k
  rw [zkI_ks a k D.2 h2]
  by_cases m : k ∈ zk_ks a D.2
  · rw [if_pos m]
  · rw [if_neg m]
    unfold zk_ex
    rw [if_neg (fun z => m (by rw [z.1]; exact f 2 480 (by simp) k z.2)), if_neg (fun z => m ?_), if_neg (fun z => m ?_), if_neg (fun z => m (by rw [z.1]; exact f 66 3 (by simp) k z.2)), if_neg (fun z => m (by rw [z.1]; exact f 124 20 (by simp) k z.2)), if_neg (fun z => m (by rw [z.1]; exact f 130 60 (by simp) k z.2)), if_neg (fun z => m ?_), if_neg (fun z => m ?_), if_neg (fun z => m ?_)]
    · rcases z with y | y
      · rw [y.1, y.2]; exact g 91 1 (by simp)
      · rw [y.1, y.2]; exact g 92 78 (by simp)
    · rcases z with y | y
      · rw [y.1, y.2]; exact g 0 2 (by simp)
      · rw [y.1, y.2]; exact g 92 48 (by simp)
    · rcases z with y | y
      · rw [y.1, y.2]; exact g 0 1 (by simp)
      · rw [y.1, y.2]; exact g 92 47 (by simp)
    · rcases z.1 with y | y
      · rw [y]; exact f 45 30 (by simp) k z.2
      · rw [y]; exact f 58 30 (by simp) k z.2
    · rcases z.1 with y | y
      · rw [y]; exact f 39 10 (by simp) k z.2
      · rw [y]; exact f 52 10 (by simp) k z.2
theorem zk_gd {α : Type} (l : List α) (i : Nat) (d : α) (h : l.length ≤ i) : l.getD i d = d := by
  rw [List.getD_eq_getElem?_getD, List.getElem?_eq_none_iff.mpr h]
  rfl
theorem zk_sh {D : zkD} (h : zk_ck D = true) : zSh zT0 (zkH D) := by
  obtain ⟨h1, h2, h3⟩ := zk_ck_ok h
  refine ⟨fun i q hq => by show D.1[i]? = _; rw [h1]; exact hq, fun i k j hj => ?_, by show D.1.length ≤ 1000000; rw [h1]; exact Nat.le_trans (Nat.le_refl 165) (by omega)⟩
  unfold zk_rf at h3
  rw [List.all_eq_true] at h3
  show zkR D.2 i k = some j
  have hi : i < zT0.2.length := by
    rcases Nat.lt_or_ge i zT0.2.length with y | y
    · exact y
    · unfold zlk at hj
      rw [zk_gd zT0.2 i [] y] at hj
      cases hj
  have h4 := h3 i (List.mem_range.mpr hi)
  rw [List.all_eq_true] at h4
  have hk : k < (zT0.2.getD i []).length := by
    rcases Nat.lt_or_ge k (zT0.2.getD i []).length with y | y
    · exact y
    · unfold zlk at hj
      rw [zk_gd (zT0.2.getD i []) k none y] at hj
      cases hj
  have h5 := h4 k (List.mem_range.mpr hk)
  rw [hj] at h5
  exact of_decide_eq_true h5
theorem zk_ex_0 {a : Nat} (h : ¬ a ∈ ([0, 2, 39, 45, 52, 58, 66, 91, 92, 124, 130] : List Nat)) (k : Nat) : zk_ex a k = 0 := by
  simp at h
  unfold zk_ex
  rw [if_neg (by omega), if_neg (by omega), if_neg (by omega), if_neg (by omega), if_neg (by omega), if_neg (by omega), if_neg (by omega), if_neg (by omega), if_neg (by omega)]
theorem Inv_0 {h : zm_H} (e1 : h.2.1 = zk_ex) (e2 : h.2.2.1 = fun _ _ => 0) (e3 : h.1.length = 165) : Inv h := by
  have fz : ∀ a, ¬ a ∈ ([0, 2, 39, 45, 52, 58, 66, 91, 92, 124, 130] : List Nat) → h.2.1 a = fun _ => 0 := fun a ha => by
    rw [e1]; funext k; exact zk_ex_0 ha k
  have ff : ∀ a k, zf h a k = zk_ex a k := fun a k => by show h.2.1 a k = _; rw [e1]
  have hV : ∀ b, b = 38 ∨ b = 51 → vC b h = an0 := by
    intro b hb
    funext i k
    unfold vC an0
    by_cases c : i < 8 ∧ k < zsz i
    · rw [if_pos c, if_pos c, e1]
      obtain ⟨c1, c2⟩ := c
      unfold zsz at c2
      rcases (show i = 0 ∨ i = 1 ∨ i = 2 ∨ i = 3 ∨ i = 4 ∨ i = 5 ∨ i = 6 ∨ i = 7 by omega) with y | y | y | y | y | y | y | y <;> subst y <;> rcases hb with z | z <;> subst z <;> simp at c2 <;> simp [zk_ex, c2]
    · rw [if_neg c, if_neg c]
  have hM : vM 0 h = an0 := by
    funext i k
    unfold vM an0
    by_cases c : i < 8 ∧ k < zsz i
    · rw [if_pos c, if_pos c, e1, e2]
      obtain ⟨c1, c2⟩ := c
      unfold zsz at c2
      rcases (show i = 0 ∨ i = 1 ∨ i = 2 ∨ i = 3 ∨ i = 4 ∨ i = 5 ∨ i = 6 ∨ i = 7 by omega) with y | y | y | y | y | y | y | y <;> subst y <;> simp at c2 <;> simp [zk_ex] <;> omega
    · rw [if_neg c, if_neg c]
  refine ⟨0, 0, 0, 0, 0, 0, 0, 0, 0, 0, fun _ => 0, fun _ => 0, (an0, fun i k => if i = 2 ∧ k < 3 then -1 else 0, 0, fun _ _ => 0), ?_, ?_, ?_, ?_, ?_, ?_, ?_, ?_, ?_, ?_, ?_, ?_, ?_, ?_⟩
  · exact ⟨by omega, (ff 0 0).trans rfl, (ff 92 23).trans rfl⟩
  · refine ⟨⟨by omega, by omega, (ff 1 0).trans rfl, (ff 92 24).trans rfl, (ff 1 1).trans rfl, (ff 92 28).trans rfl⟩, fun k hk => absurd hk (by omega), fun s hs => ?_, fun k hk => absurd hk (by omega), fun j k _ hk => absurd hk (by omega), fun j k _ hk => absurd hk (by omega)⟩
    rw [ff, lst]
    unfold zk_ex
    rw [if_pos ⟨rfl, hs⟩]
  · exact ⟨0, 65535, by omega, by omega, (ff 91 0).trans rfl, (ff 92 77).trans rfl, (ff 91 1).trans rfl, (ff 92 78).trans rfl⟩
  · refine ⟨by omega, (ff 10 1).trans rfl, (ff 92 1).trans rfl, by rw [fz 11 (by decide), fz 93 (by decide)], fun i _ => ?_⟩
    rw [fz 11 (by decide)]
    exact ⟨by simp, by simp⟩
  · refine ⟨⟨⟨by omega, (ff 15 0).trans rfl, (ff 92 15).trans rfl⟩, ⟨by omega, (ff 15 4).trans rfl, (ff 92 20).trans rfl⟩, ⟨by rw [fz 19 (by decide), fz 103 (by decide)], by rw [fz 20 (by decide), fz 104 (by decide)], by rw [fz 17 (by decide), fz 101 (by decide)]⟩, fun k hk => absurd hk (by omega)⟩, fun s c hs => absurd hs (by omega)⟩
  · exact ⟨by omega, by omega⟩
  · exact ⟨⟨by omega, (ff 23 0).trans rfl, (ff 92 33).trans rfl⟩, ⟨by rw [fz 24 (by decide), fz 112 (by decide)], by rw [fz 25 (by decide), fz 113 (by decide)], by rw [fz 26 (by decide), fz 114 (by decide)]⟩, fun r hr => absurd hr (by omega)⟩
  · exact ⟨⟨by omega, (ff 82 3).trans rfl, (ff 92 37).trans rfl⟩, by rw [fz 83 (by decide), fz 115 (by decide)], by rw [fz 84 (by decide), fz 116 (by decide)], by rw [fz 85 (by decide), fz 117 (by decide)]⟩
  · exact ⟨⟨by omega, (ff 82 7).trans rfl, (ff 92 75).trans rfl⟩, by rw [fz 86 (by decide), fz 148 (by decide)], fun k hk => absurd hk (by omega)⟩
  · exact fun i j hi => absurd hi (by omega)
  · refine ⟨⟨an0_ok 0, ⟨fun k _ => ⟨by simp, by simp⟩, fun k _ => ⟨by simp, by simp⟩, fun b hb => Or.inl (if_pos ⟨rfl, hb⟩)⟩, by simp⟩, ⟨hV 38 (Or.inl rfl), ?_, (ff 37 4).trans rfl, ?_, by simp, (ff 23 4).trans rfl, fun k hk => absurd hk (by simp)⟩, ⟨hM, ?_, ?_, (ff 92 41).trans rfl, ⟨fz 118 (by decide), fz 120 (by decide), fz 122 (by decide)⟩, fun k hk => absurd hk (by simp)⟩, (ff 37 3).trans rfl, by rw [fz 47 (by decide), fz 131 (by decide)], by rw [fz 48 (by decide), fz 132 (by decide)], by rw [fz 49 (by decide), fz 133 (by decide)]⟩
    · funext i k
      unfold uN
      dsimp only
      by_cases c : i < 8
      · rw [if_pos c, e1]
        rcases (show i = 0 ∨ i = 1 ∨ i = 2 ∨ i = 3 ∨ i = 4 ∨ i = 5 ∨ i = 6 ∨ i = 7 by omega) with y | y | y | y | y | y | y | y <;> subst y <;> simp [zk_ex]
      · rw [if_neg c, if_neg (fun z => c (by omega))]
    · funext i k
      unfold tB
      by_cases c : i < 5
      · rw [if_pos c, fz (27 + i) (by simp; omega)]
      · rw [if_neg c]
    · funext i k
      unfold uM
      dsimp only
      rw [fz 139 (by decide)]
      by_cases c : i < 8
      · rw [if_pos c]
        by_cases c2 : i = 2 ∧ k < 3
        · rw [if_pos c2, if_pos ⟨c2.1, rfl, c2.2⟩]
        · rw [if_neg c2, if_neg (fun z => c2 ⟨z.1, z.2.2⟩), fz (uMi i) (by have := uMi_m i; simp at this ⊢; omega)]
      · rw [if_neg c, if_neg (fun z => c (by omega))]
    · intro b _ z
      rw [fz 139 (by decide)] at z
      exact absurd rfl z
  · exact ⟨by omega, (ff 72 2).trans rfl, (ff 92 72).trans rfl, fun j hj => absurd hj (by omega), by rw [fz 78 (by decide)], by rw [fz 79 (by decide)]⟩
  · refine ⟨0, 0, 0, Nat.le_refl _, Nat.le_refl _, Nat.le_refl _, (ff 0 10).trans rfl, (ff 0 11).trans rfl, (ff 50 3).trans rfl, (ff 50 4).trans rfl, hV 51 (Or.inr rfl), fun t ht => absurd ht (by omega)⟩
  · exact ⟨((ff 0 1).trans rfl).trans (ff 92 47).symm, ((ff 0 2).trans rfl).trans (ff 92 48).symm⟩
