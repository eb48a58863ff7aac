/-! ===== THE CABLE ===== -/
theorem nI_and {a b : Nat} (ha : a < 2147483648) (hb : b < 2147483648) : nI a &&& nI b = nI (a &&& b) := by
  apply Int32.toBitVec_inj.mp
  apply BitVec.eq_of_toNat_eq
  have h1 : (a &&& b) ≤ a := Nat.and_le_left
  rw [Int32.toBitVec_and, BitVec.toNat_and, pk_tn (by omega), pk_tn (by omega), pk_tn (by omega)]
theorem us_n {x : Nat} (hx : x < 2147483648) (s : Int32) (k : Nat) (hs : ((s.toUInt32 &&& Int32.toUInt32 31).toBitVec % 32).toNat = k) : zm_us (nI x) s = nI (x / 2 ^ k) := pk_ushrN (by omega) s k hs
theorem bc_n {x : Nat} (hx : x < 65536) (h : zm_H) : f_Integer_bitCount (nI x) h = nI (bc0 x) := by
  unfold f_Integer_bitCount f_Integer_bitCount_k34
  rw [us_n (by omega) 1 1 (by decide)]
  rw [show (1431655765 : Int32) = nI 1431655765 from rfl, show (858993459 : Int32) = nI 858993459 from rfl, show (252645135 : Int32) = nI 252645135 from rfl, show (63 : Int32) = nI 63 from rfl]
  rw [nI_and (show x / 2 ^ 1 < 2147483648 by omega) (by omega)]
  have s1 : ((x / 2 ^ 1) &&& 1431655765) ≤ x / 2 ^ 1 := Nat.and_le_left
  rw [pk_sub (show ((x / 2 ^ 1) &&& 1431655765) ≤ x by omega)]
  obtain ⟨a, ea⟩ : ∃ a, a = x - ((x / 2 ^ 1) &&& 1431655765) := ⟨_, rfl⟩
  have ha : a < 65536 := by omega
  rw [← ea, us_n (by omega) 2 2 (by decide), nI_and (by omega) (by omega), nI_and (show a / 2 ^ 2 < 2147483648 by omega) (by omega), nI_add]
  obtain ⟨b, eb⟩ : ∃ b, b = (a &&& 858993459) + ((a / 2 ^ 2) &&& 858993459) := ⟨_, rfl⟩
  have hb : b < 131072 := by
    have h1 : (a &&& 858993459) ≤ a := Nat.and_le_left
    have h2 : ((a / 2 ^ 2) &&& 858993459) ≤ a / 2 ^ 2 := Nat.and_le_left
    omega
  rw [← eb, us_n (by omega) 4 4 (by decide), nI_add, nI_and (by omega) (by omega)]
  obtain ⟨c, ec⟩ : ∃ c, c = ((b + b / 2 ^ 4) &&& 252645135) := ⟨_, rfl⟩
  have hc : c < 262144 := by
    have h1 : ((b + b / 2 ^ 4) &&& 252645135) ≤ b + b / 2 ^ 4 := Nat.and_le_left
    omega
  rw [← ec, us_n (by omega) 8 8 (by decide), nI_add, us_n (by omega) 16 16 (by decide), nI_add, nI_and (by omega) (by omega)]
  have e : bc0 x = bc1 a := by rw [ea]; rfl
  have e2 : bc1 a = bc2 b := by rw [eb]; rfl
  have e3 : bc2 b = bc3 c := by rw [ec]; rfl
  rw [e, e2, e3]
  rfl
theorem shr_n {x : Nat} (hx : x < 2147483648) {k : Nat} (hk : k < 16) : nI x >>> (nI k &&& 31) = nI (x / 2 ^ k) := by
  have e : nI k &&& 31 = nI k := by
    rcases (show k = 0 ∨ k = 1 ∨ k = 2 ∨ k = 3 ∨ k = 4 ∨ k = 5 ∨ k = 6 ∨ k = 7 ∨ k = 8 ∨ k = 9 ∨ k = 10 ∨ k = 11 ∨ k = 12 ∨ k = 13 ∨ k = 14 ∨ k = 15 by omega) with h | h | h | h | h | h | h | h | h | h | h | h | h | h | h | h <;> subst h <;> rfl
  rw [e]
  refine pk_shrN (by omega) (nI k) k ?_
  rcases (show k = 0 ∨ k = 1 ∨ k = 2 ∨ k = 3 ∨ k = 4 ∨ k = 5 ∨ k = 6 ∨ k = 7 ∨ k = 8 ∨ k = 9 ∨ k = 10 ∨ k = 11 ∨ k = 12 ∨ k = 13 ∨ k = 14 ∨ k = 15 by omega) with h | h | h | h | h | h | h | h | h | h | h | h | h | h | h | h <;> subst h <;> rfl
theorem pc0_s (m : Nat) : ∀ (k x : Nat), pc0 (k + 1) x = pc0 k x + (x / 2 ^ k) % 2 := by
  intro k
  induction k with
  | zero => intro x; simp [pc0]
  | succ k ih =>
    intro x
    rw [pc0, ih, pc0, Nat.div_div_eq_div_mul, show 2 * 2 ^ k = 2 ^ (k + 1) by rw [Nat.pow_succ, Nat.mul_comm]]
    omega
theorem pc0_le (k : Nat) : ∀ x, pc0 k x ≤ k := by
  induction k with
  | zero => intro x; exact Nat.le_refl 0
  | succ k ih => intro x; rw [pc0]; have := ih (x / 2); omega
theorem bits_n {x : Nat} (hx : x < 65536) (h : zm_H) : f_M_bits_ok (nI x) h ∧ f_M_bits (nI x) h = nI (pc0 16 x) := by
  unfold f_M_bits_ok f_M_bits f_M_bits_a4 f_M_bits_k24
  obtain ⟨F, eF, -⟩ := zF_ex
  rw [← eF]
  have key := zlpF eF (b := fun t => f_M_bits_l4_b (nI x) t.1 t.2 h) (o := fun t => f_M_bits_l4_b_ok (nI x) t.1 t.2 h) 16 (by omega)
    (fun k s => s.2 = nI k ∧ s.1 = nI (pc0 k x)) (fun r => r.2.1 = nI (pc0 16 x)) (0, 0) ⟨rfl, rfl⟩
    (by
      rintro k ⟨v1, v2⟩ hk ⟨h1, h2⟩
      dsimp only at h1 h2
      subst h1 h2
      refine ⟨trivial, Or.inl ?_⟩
      dsimp only
      unfold f_M_bits_l4_b
      rw [if_neg (by rw [i_le, i_nI (by omega)]; simp only [Int32.reduceToInt]; omega)]
      refine ⟨rfl, (nI_succ k).symm, ?_⟩
      dsimp only
      rw [shr_n (by omega) hk, show (1 : Int32) = nI 1 from rfl, nI_and (by have : x / 2 ^ k ≤ x := Nat.div_le_self _ _; omega) (by omega), nI_add, pc0_s 0, Nat.and_one_is_mod])
    (by
      rintro ⟨v1, v2⟩ ⟨h1, h2⟩
      dsimp only at h1 h2
      subst h1 h2
      refine ⟨trivial, ?_⟩
      dsimp only
      unfold f_M_bits_l4_b
      rw [if_pos (by decide)]
      exact ⟨by simp, rfl⟩)
  exact ⟨⟨key.1, trivial⟩, key.2⟩
theorem cnt_eq {x : Nat} (hx : x < 65536) (h h' : zm_H) : f_Integer_bitCount (nI x) h = nI (pc0 16 x) ∧ f_M_bits (nI x) h' = nI (pc0 16 x) := ⟨by rw [bc_n hx, bc_eq hx], (bits_n hx h').2⟩
theorem and_rng {x : Nat} (hx : x < 65536) (y : Int32) : ∃ z, z < 65536 ∧ nI x &&& y = nI z := by
  refine ⟨(nI x &&& y).toBitVec.toNat, ?_, ?_⟩
  · rw [Int32.toBitVec_and, BitVec.toNat_and, pk_tn (by omega)]
    have h1 : (x &&& y.toBitVec.toNat) ≤ x := Nat.and_le_left
    omega
  · have h1 : (nI x &&& y).toBitVec.toNat < 65536 := by
      rw [Int32.toBitVec_and, BitVec.toNat_and, pk_tn (by omega)]
      have h1 : (x &&& y.toBitVec.toNat) ≤ x := Nat.and_le_left
      omega
    apply Int32.toBitVec_inj.mp
    apply BitVec.eq_of_toNat_eq
    rw [pk_tn (by omega)]
def I_cb (h : zm_H) : Prop := ∃ n x, n ≤ 20 ∧ x < 65536 ∧ zf h 91 0 = nI n ∧ zf h 92 77 = nI n ∧ zf h 91 1 = nI x ∧ zf h 92 78 = nI x
abbrev F_cb : List (Nat × Nat) := [(91, 0), (92, 77), (91, 1), (92, 78)]
theorem I_cb_z {h h' : zm_H} (e : zEq [] F_cb h h') (H : I_cb h) : I_cb h' := by
  obtain ⟨n, x, h1, h2, h3, h4, h5, h6⟩ := H
  exact ⟨n, x, h1, h2, (e.f 91 0 (by decide)).trans h3, (e.f 92 77 (by decide)).trans h4, (e.f 91 1 (by decide)).trans h5, (e.f 92 78 (by decide)).trans h6⟩
theorem c_test {h : zm_H} (H : I_cb h) (p1 p2 p3 : Int32) : (f_N_test p1 p2 p3 h).1 = (f_M_test p1 p2 p3 (f_N_test p1 p2 p3 h).2).1 ∧ I_cb (f_M_test p1 p2 p3 (f_N_test p1 p2 p3 h).2).2 := by
  obtain ⟨n, x, h1, h2, h3, h4, h5, h6⟩ := id H
  have b0 : (nI n).toInt = n := i_nI (by omega)
  obtain ⟨M, eM⟩ : ∃ M, M = (if (p3 = 0) then ((((1 <<< ((p2 + 1) &&& 31)) - (1 <<< (p1 &&& 31))) ^^^ (-1)) : Int32) else ((1 <<< ((p2 + 1) &&& 31)) - (1 <<< (p1 &&& 31)))) := ⟨_, rfl⟩
  obtain ⟨z, hz, ez⟩ := and_rng h2 M
  by_cases V : (0 ≤ p1.toInt ∧ p1.toInt ≤ p2.toInt ∧ p2.toInt < 16) ∧ n < 20
  · have eN : f_N_test p1 p2 p3 h = (nI z, zm_si (zm_si h 91 0 (nI (n + 1))) 91 1 (nI z)) := by
      unfold f_N_test f_Cable_tell
      simp only [← eM, zf, zp] at h3 h5 ⊢
      simp only [h3, h5, ez, ← nI_succ]
      repeat' split
      all_goals first | rfl | (exfalso; simp only [i_lt, i_le, Int32.reduceToInt, b0] at *; omega)
    rw [eN]
    dsimp only
    obtain ⟨G, eG⟩ : ∃ G, G = zm_si (zm_si h 91 0 (nI (n + 1))) 91 1 (nI z) := ⟨_, rfl⟩
    have g1 : G.2.1 92 77 = nI n := by rw [eG]; simpa [zf_si] using h4
    have g2 : G.2.1 92 78 = nI x := by rw [eG]; simpa [zf_si] using h6
    rw [← eG]
    have eM2 : f_M_test p1 p2 p3 G = (nI z, zm_si (zm_si G 92 78 (nI z)) 92 77 (nI (n + 1))) := by
      unfold f_M_test
      simp only [← eM, zf, zp, g1, g2, ez, ← nI_succ]
      clear eN eG
      repeat' split
      all_goals first | rfl | (exfalso; simp only [i_lt, i_le, i_eq, Int32.reduceToInt, b0] at *; omega)
    rw [eM2]
    refine ⟨rfl, n + 1, z, by omega, hz, ?_, ?_, ?_, ?_⟩ <;> (rw [eG]; simp [zf, zf_si])
  · have eN : f_N_test p1 p2 p3 h = (-1, h) := by
      unfold f_N_test f_Cable_tell
      simp only [zf, zp] at h3 h5 ⊢
      simp only [h3, h5]
      repeat' split
      all_goals first | rfl | (exfalso; simp only [i_lt, i_le, Int32.reduceToInt, b0] at *; omega)
    rw [eN]
    dsimp only
    have eM2 : f_M_test p1 p2 p3 h = (-1, h) := by
      unfold f_M_test
      simp only [zf, zp] at h4 h6 ⊢
      simp only [h4, h6]
      repeat' split
      all_goals first | rfl | (exfalso; simp only [i_lt, i_le, i_eq, Int32.reduceToInt, b0] at *; omega)
    rw [eM2]
    exact ⟨rfl, H⟩
