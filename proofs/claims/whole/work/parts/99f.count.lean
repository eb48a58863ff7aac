/-! ===== count ===== -/
theorem c_count {h : zm_H} (e0 : zf h 0 0 = zf h 92 23) (e1 : zf h 23 0 = zf h 92 33) (e2 : zf h 1 0 = zf h 92 24) (e3 : zf h 1 1 = zf h 92 28) (e4 : zf h 15 0 = zf h 92 15) (e5 : zf h 23 4 = zf h 92 41) (e6 : zf h 82 3 = zf h 92 37) (e7 : zf h 10 1 = zf h 92 1) (e8 : zf h 91 1 = zf h 92 78) (e9 : zf h 72 2 = zf h 92 72) (e10 : zf h 82 7 = zf h 92 75) (e64 : h.2.1 64 = h.2.1 137) (p : Int32) : f_N_count_ok p h ∧ f_M_count_ok p h ∧ f_N_count p h = f_M_count p h := by
  have i20 : (20 : Int32).toInt = 20 := rfl
  have i22 : (22 : Int32).toInt = 22 := rfl
  have i3 : (3 : Int32).toInt = 3 := rfl
  have lo := Int32.le_toInt p
  have hi := Int32.toInt_lt p
  unfold f_N_count_ok f_M_count_ok f_N_count f_M_count f_Harbour_onShore_ok f_Harbour_onShore
  rw [e0, e1, e2, e3, e4, e5, e6, e7, e8, e9, e10]
  by_cases c : ¬ (p < 20) ∧ (¬ (22 < p))
  · have c' := c
    rw [i_lt, i_lt, i20, i22] at c'
    have s : (p - 20).toInt = p.toInt - 20 := by rw [i_sub (by rw [i20]; omega) (by rw [i20]; omega), i20]
    obtain ⟨k, hk, ek⟩ := i_ex (a := p - 20) (N := 3) (by omega) (by omega)
    have n : ∀ y : Int32, y.toInt < 20 → ¬ p = y := fun y hy z => by rw [z] at c'; omega
    have i : vp_in (nI k) 3 := vp_in_nI hk (by omega)
    have a1 : ¬ (p - 20 < 0) := by rw [i_lt, s, i_0]; omega
    have a2 : ¬ (3 ≤ p - 20) := by rw [i_le, s, i3]; omega
    rw [if_pos c, if_neg (n 0 (by decide)), if_neg (n 1 (by decide)), if_neg (n 2 (by decide)), if_neg (n 3 (by decide)), if_neg (n 4 (by decide)), if_neg (n 5 (by decide)), if_neg (n 6 (by decide)), if_neg (n 7 (by decide)), if_neg (n 8 (by decide)), if_neg (n 9 (by decide)), if_neg (n 10 (by decide)), if_neg a1, if_neg a2, ek, zr_n h 64 (by omega), zr_n h 137 (by omega), zf, zf, e64]
    refine ⟨?_, ⟨fun _ => i, fun _ => trivial⟩, rfl⟩
    simp only [i, implies_true, and_true, true_and]
  · rw [if_neg c]
    have c' := c
    rw [i_lt, i_lt, i20, i22] at c'
    have s : (p - 20 < 0) ∨ (3 ≤ p - 20) := by
      rw [i_lt, i_le, i_0, i3]
      by_cases d : -2147483628 ≤ p.toInt
      · rw [i_sub (by rw [i20]; omega) (by rw [i20]; omega), i20]; omega
      · right
        rw [Int32.toInt_sub, i20]
        rw [Int.bmod]
        split <;> omega
    have sv : (if (p - 20 < 0) then ((-1) : Int32) else (if (3 ≤ p - 20) then ((-1) : Int32) else (zr h 64 (p - 20)))) = -1 := by
      rcases s with z | z
      · rw [if_pos z]
      · by_cases y : p - 20 < 0
        · rw [if_pos y]
        · rw [if_neg y, if_pos z]
    rw [sv]
    refine ⟨?_, ⟨fun z => absurd z c, fun _ => trivial⟩, rfl⟩
    have so : ((p - 20 < 0) → True) ∧ (¬ (p - 20 < 0) → (((3 ≤ p - 20) → True) ∧ (¬ (3 ≤ p - 20) → vp_in (p - 20) 3))) := ⟨fun _ => trivial, fun z => ⟨fun _ => trivial, fun y => by rcases s with x | x <;> contradiction⟩⟩
    simp only [implies_true, and_true, true_and]
    intro _ _ _ _ _ _ _ _ _ _ _ x y
    exact (so.2 x).2 y
