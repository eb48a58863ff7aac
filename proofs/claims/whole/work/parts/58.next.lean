/-! ===== NEXT ===== -/
def nxS (C : Nat → Nat → Int32) (a b : Nat) (t : Int32 × Int32) : Int32 × Int32 := if t.2 ≤ C a b then t else (nI (a * 100 + b), C a b)
def nxI (C : Nat → Nat → Int32) (a : Nat) : Nat → Int32 × Int32 → Int32 × Int32
  | 0, s => s
  | k + 1, s => nxS C a (a + k) (nxI C a k s)
def nxO (C : Nat → Nat → Int32) : Nat → Int32 × Int32
  | 0 => (-1, 17)
  | a + 1 => nxI C a (16 - a) (nxO C a)
def spn (a b : Int32) : Int32 := (1 <<< ((b + 1) &&& 31)) - (1 <<< (a &&& 31))
theorem nx_num (a b : Nat) : nI a * 100 + nI b = nI (a * 100 + b) ∧ 100 * nI a + nI b = nI (a * 100 + b) := by
  rw [show (100 : Int32) = nI 100 from rfl, pk_mul, pk_mul, nI_add, nI_add, Nat.mul_comm 100 a]
  exact ⟨rfl, rfl⟩
theorem nx_cI {h : zm_H} {A : Int32} {C : Nat → Nat → Int32} (hC : ∀ a b : Nat, (if f_Integer_bitCount (zf h 91 1 &&& spn (nI a) (nI b)) h < A - f_Integer_bitCount (zf h 91 1 &&& spn (nI a) (nI b)) h then A - f_Integer_bitCount (zf h 91 1 &&& spn (nI a) (nI b)) h else f_Integer_bitCount (zf h 91 1 &&& spn (nI a) (nI b)) h) = C a b) {a : Nat} (ha : a < 16) {F : Nat} (eF : F = zF) (s : Int32 × Int32) : f_Cable_findNext_l23_l34_ok A (nI a) h F (s.1, s.2, nI a) ∧ (f_Cable_findNext_l23_l34 A (nI a) h F (s.1, s.2, nI a)).2.1 = (nxI C a (16 - a) s).1 ∧ (f_Cable_findNext_l23_l34 A (nI a) h F (s.1, s.2, nI a)).2.2.1 = (nxI C a (16 - a) s).2 := by
  have key := zlpF eF (b := fun t => f_Cable_findNext_l23_l34_b A t.1 t.2.1 (nI a) t.2.2 h) (o := fun t => f_Cable_findNext_l23_l34_b_ok A t.1 t.2.1 (nI a) t.2.2 h) (16 - a) (by omega)
    (fun k t => t = ((nxI C a k s).1, (nxI C a k s).2, nI (a + k))) (fun r => r.2.1 = (nxI C a (16 - a) s).1 ∧ r.2.2.1 = (nxI C a (16 - a) s).2) (s.1, s.2, nI a) rfl
    (by
      rintro k t hk rfl
      have g0 : ¬ ((16 : Int32) ≤ nI (a + k)) := by rw [show (16 : Int32) = nI 16 from rfl, nx_le (by omega) (by omega)]; omega
      refine ⟨trivial, Or.inl ?_⟩
      dsimp only
      unfold f_Cable_findNext_l23_l34_b f_Cable_findNext_l23_l34_k69
      rw [if_neg g0]
      have ew := hC a (a + k)
      unfold spn at ew
      rw [ew]
      dsimp only
      refine ⟨rfl, ?_⟩
      rw [nxI, nxS]
      by_cases c : (nxI C a k s).2 ≤ C a (a + k)
      · simp only [if_pos c, ← nI_succ, Nat.add_assoc]
      · simp only [if_neg c, ← nI_succ, (nx_num a (a + k)).1, Nat.add_assoc])
    (by
      rintro t rfl
      have e16 : a + (16 - a) = 16 := by omega
      refine ⟨trivial, ?_⟩
      dsimp only
      rw [e16]
      unfold f_Cable_findNext_l23_l34_b
      rw [if_pos (by decide)]
      dsimp only
      exact ⟨by simp, rfl, rfl⟩)
  exact key
theorem nx_c {h : zm_H} {A : Int32} {C : Nat → Nat → Int32} (hC : ∀ a b : Nat, (if f_Integer_bitCount (zf h 91 1 &&& spn (nI a) (nI b)) h < A - f_Integer_bitCount (zf h 91 1 &&& spn (nI a) (nI b)) h then A - f_Integer_bitCount (zf h 91 1 &&& spn (nI a) (nI b)) h else f_Integer_bitCount (zf h 91 1 &&& spn (nI a) (nI b)) h) = C a b) : f_Cable_findNext_l23_ok A h zF (-1, 17, 0) ∧ (f_Cable_findNext_l23 A h zF (-1, 17, 0)).2.1 = (nxO C 16).1 := by
  obtain ⟨F, eF, -⟩ := zF_ex
  rw [← eF]
  have key := zlpF eF (b := fun t => f_Cable_findNext_l23_b A t.1 t.2.1 t.2.2 h) (o := fun t => f_Cable_findNext_l23_b_ok A t.1 t.2.1 t.2.2 h) 16 (by omega)
    (fun k t => t = ((nxO C k).1, (nxO C k).2, nI k)) (fun r => r.2.1 = (nxO C 16).1) (-1, 17, 0) rfl
    (by
      rintro k t hk rfl
      have g0 : ¬ ((16 : Int32) ≤ nI k) := by rw [show (16 : Int32) = nI 16 from rfl, nx_le (by omega) (by omega)]; omega
      obtain ⟨q1, q2, q3⟩ := nx_cI hC hk eF (nxO C k)
      rw [eF] at q1 q2 q3
      refine ⟨⟨fun z => absurd z g0, fun _ => ⟨q1, trivial⟩⟩, Or.inl ?_⟩
      dsimp only
      unfold f_Cable_findNext_l23_b f_Cable_findNext_l23_a34 f_Cable_findNext_l23_k93
      rw [if_neg g0, q2, q3]
      dsimp only
      refine ⟨rfl, ?_⟩
      rw [nxO, ← nI_succ])
    (by
      rintro t rfl
      refine ⟨⟨fun _ => trivial, fun z => absurd (show (16 : Int32) ≤ nI 16 by decide) z⟩, ?_⟩
      dsimp only
      unfold f_Cable_findNext_l23_b
      rw [if_pos (by decide)]
      dsimp only
      exact ⟨by simp, rfl⟩)
  exact key
theorem nx_mI {h : zm_H} {C : Nat → Nat → Int32} (ok : ∀ y, f_M_bits_ok (zf h 92 78 &&& y) h) (okx : f_M_bits_ok (zf h 92 78) h) (hC : ∀ a b : Nat, (if (f_M_bits (zf h 92 78 &&& spn (nI a) (nI b)) h ≤ f_M_bits (zf h 92 78) h - f_M_bits (zf h 92 78 &&& spn (nI a) (nI b)) h) then f_M_bits (zf h 92 78) h - f_M_bits (zf h 92 78 &&& spn (nI a) (nI b)) h else f_M_bits (zf h 92 78 &&& spn (nI a) (nI b)) h) = C a b) {a : Nat} (ha : a < 16) {F : Nat} (eF : F = zF) (s : Int32 × Int32) : f_M_next_l20_l29_ok (nI a) h F (s.2, s.1, nI a) ∧ (f_M_next_l20_l29 (nI a) h F (s.2, s.1, nI a)).2.2.1 = (nxI C a (16 - a) s).1 ∧ (f_M_next_l20_l29 (nI a) h F (s.2, s.1, nI a)).2.1 = (nxI C a (16 - a) s).2 := by
  have okm : ∀ p q r, f_M_next_l20_l29_b_ok p q (nI a) r h := fun p q r => by
    unfold f_M_next_l20_l29_b_ok
    exact ⟨fun _ => trivial, fun _ => ⟨ok _, okx⟩⟩
  have key := zlpF eF (b := fun t => f_M_next_l20_l29_b t.1 t.2.1 (nI a) t.2.2 h) (o := fun t => f_M_next_l20_l29_b_ok t.1 t.2.1 (nI a) t.2.2 h) (16 - a) (by omega)
    (fun k t => t = ((nxI C a k s).2, (nxI C a k s).1, nI (a + k))) (fun r => r.2.2.1 = (nxI C a (16 - a) s).1 ∧ r.2.1 = (nxI C a (16 - a) s).2) (s.2, s.1, nI a) rfl
    (by
      rintro k t hk rfl
      have g0 : ¬ ((16 : Int32) ≤ nI (a + k)) := by rw [show (16 : Int32) = nI 16 from rfl, nx_le (by omega) (by omega)]; omega
      refine ⟨okm _ _ _, Or.inl ?_⟩
      dsimp only
      unfold f_M_next_l20_l29_b f_M_next_l20_l29_k80
      rw [if_neg g0]
      have ew := hC a (a + k)
      unfold spn at ew
      rw [ew]
      dsimp only
      refine ⟨rfl, ?_⟩
      rw [nxI, nxS]
      by_cases c : (nxI C a k s).2 ≤ C a (a + k)
      · have c' : ¬ C a (a + k) < (nxI C a k s).2 := by rw [i_lt]; rw [i_le] at c; omega
        simp only [if_pos c, if_neg c', ← nI_succ, Nat.add_assoc]
      · have c' : C a (a + k) < (nxI C a k s).2 := by rw [i_lt]; rw [i_le] at c; omega
        simp only [if_neg c, if_pos c', ← nI_succ, (nx_num a (a + k)).2, Nat.add_assoc])
    (by
      rintro t rfl
      have e16 : a + (16 - a) = 16 := by omega
      refine ⟨okm _ _ _, ?_⟩
      dsimp only
      rw [e16]
      unfold f_M_next_l20_l29_b
      rw [if_pos (by decide)]
      dsimp only
      exact ⟨by simp, rfl, rfl⟩)
  exact key
theorem nx_m {h : zm_H} {C : Nat → Nat → Int32} (ok : ∀ y, f_M_bits_ok (zf h 92 78 &&& y) h) (okx : f_M_bits_ok (zf h 92 78) h) (hC : ∀ a b : Nat, (if (f_M_bits (zf h 92 78 &&& spn (nI a) (nI b)) h ≤ f_M_bits (zf h 92 78) h - f_M_bits (zf h 92 78 &&& spn (nI a) (nI b)) h) then f_M_bits (zf h 92 78) h - f_M_bits (zf h 92 78 &&& spn (nI a) (nI b)) h else f_M_bits (zf h 92 78 &&& spn (nI a) (nI b)) h) = C a b) : f_M_next_l20_ok h zF (17, -1, 0) ∧ (f_M_next_l20 h zF (17, -1, 0)).2.2.1 = (nxO C 16).1 := by
  obtain ⟨F, eF, -⟩ := zF_ex
  rw [← eF]
  have key := zlpF eF (b := fun t => f_M_next_l20_b t.1 t.2.1 t.2.2 h) (o := fun t => f_M_next_l20_b_ok t.1 t.2.1 t.2.2 h) 16 (by omega)
    (fun k t => t = ((nxO C k).2, (nxO C k).1, nI k)) (fun r => r.2.2.1 = (nxO C 16).1) (17, -1, 0) rfl
    (by
      rintro k t hk rfl
      have g0 : ¬ ((16 : Int32) ≤ nI k) := by rw [show (16 : Int32) = nI 16 from rfl, nx_le (by omega) (by omega)]; omega
      obtain ⟨q1, q2, q3⟩ := nx_mI ok okx hC hk eF (nxO C k)
      rw [eF] at q1 q2 q3
      refine ⟨⟨fun z => absurd z g0, fun _ => ⟨q1, trivial⟩⟩, Or.inl ?_⟩
      dsimp only
      unfold f_M_next_l20_b f_M_next_l20_a29 f_M_next_l20_k106
      rw [if_neg g0, q2, q3]
      dsimp only
      refine ⟨rfl, ?_⟩
      rw [nxO, ← nI_succ])
    (by
      rintro t rfl
      refine ⟨⟨fun _ => trivial, fun z => absurd (show (16 : Int32) ≤ nI 16 by decide) z⟩, ?_⟩
      dsimp only
      unfold f_M_next_l20_b
      rw [if_pos (by decide)]
      dsimp only
      exact ⟨by simp, rfl⟩)
  exact key
theorem c_next {h : zm_H} (H : I_cb h) : f_N_next_ok h ∧ f_M_next_ok h ∧ f_N_next h = f_M_next h := by
  obtain ⟨n, x, h1, h2, h3, h4, h5, h6⟩ := H
  have ok : ∀ y, f_M_bits_ok (zf h 92 78 &&& y) h := by
    intro y
    obtain ⟨z, hz, ez⟩ := and_rng h2 y
    rw [h6, ez]; exact (bits_n hz h).1
  have okx : f_M_bits_ok (zf h 92 78) h := by rw [h6]; exact (bits_n h2 h).1
  have q1 : f_Integer_bitCount (zf h 91 1) h = nI (pc0 16 x) := by rw [h5]; exact (cnt_eq h2 h h).1
  have q2 : f_M_bits (zf h 92 78) h = nI (pc0 16 x) := by rw [h6]; exact (cnt_eq h2 h h).2
  obtain ⟨C, eC⟩ : ∃ C : Nat → Nat → Int32, C = fun a b => (if (f_M_bits (zf h 92 78 &&& spn (nI a) (nI b)) h ≤ f_M_bits (zf h 92 78) h - f_M_bits (zf h 92 78 &&& spn (nI a) (nI b)) h) then f_M_bits (zf h 92 78) h - f_M_bits (zf h 92 78 &&& spn (nI a) (nI b)) h else f_M_bits (zf h 92 78 &&& spn (nI a) (nI b)) h) := ⟨_, rfl⟩
  have hC2 : ∀ a b : Nat, (if f_Integer_bitCount (zf h 91 1 &&& spn (nI a) (nI b)) h < nI (pc0 16 x) - f_Integer_bitCount (zf h 91 1 &&& spn (nI a) (nI b)) h then nI (pc0 16 x) - f_Integer_bitCount (zf h 91 1 &&& spn (nI a) (nI b)) h else f_Integer_bitCount (zf h 91 1 &&& spn (nI a) (nI b)) h) = C a b := by
    intro a b
    rw [eC]
    dsimp only
    rw [q2, h5, h6]
    obtain ⟨z, hz, ez⟩ := and_rng h2 (spn (nI a) (nI b))
    rw [ez, (cnt_eq hz h h).2, (cnt_eq hz h h).1]
    generalize nI (pc0 16 z) = I
    generalize nI (pc0 16 x) - I = J
    by_cases c1 : I < J
    · rw [if_pos c1, if_pos (by rw [i_le]; rw [i_lt] at c1; omega)]
    · rw [if_neg c1]
      by_cases c2 : I ≤ J
      · rw [if_pos c2, i_eq]
        rw [i_lt] at c1
        rw [i_le] at c2
        omega
      · rw [if_neg c2]
  obtain ⟨c1, c2⟩ := nx_c hC2
  obtain ⟨m1, m2⟩ := nx_m ok okx (C := C) (fun a b => by rw [eC])
  refine ⟨?_, ?_, ?_⟩
  · unfold f_N_next_ok f_Cable_findNext_ok
    rw [q1]
    exact ⟨fun _ => ⟨c1, trivial⟩, fun _ => trivial⟩
  · unfold f_M_next_ok
    exact ⟨okx, fun _ => ⟨m1, trivial⟩, fun _ => trivial⟩
  · unfold f_N_next f_Cable_findNext f_M_next f_Cable_findNext_a23 f_Cable_findNext_k99 f_M_next_a20 f_M_next_k112
    rw [q1, q2, c2, m2]
