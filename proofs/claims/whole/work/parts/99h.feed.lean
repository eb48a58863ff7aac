/-! ===== feed: the class adds a number ===== -/
def byt (v : Int32) (k : Nat) : Int32 := zm_nb 1 (v >>> ((24 - 8 * nI k) &&& 31)).toInt8.toInt32
def apb (v : Int32) (f : Nat → Int32) (n : Nat) : Nat → (Nat → Int32)
  | 0 => f
  | k + 1 => upd (apb v f n k) (n + k) (byt v k)
theorem adn_N {h : zm_H} {n : Nat} (hn : n + 4 ≤ 400) (e : zf h 10 1 = nI n) (v : Int32) : f_Text_addNumber_ok v h ∧ zWr [11] [(10, 1)] h (f_Text_addNumber v h) ∧ zf (f_Text_addNumber v h) 10 1 = nI (n + 4) ∧ (f_Text_addNumber v h).2.1 11 = apb v (h.2.1 11) n 4 := by
  unfold f_Text_addNumber_ok f_Text_addNumber f_Text_addNumber_a3 f_Text_addNumber_k46
  obtain ⟨F, eF, -⟩ := zF_ex
  rw [← eF]
  have key := zlpF eF (b := fun s => f_Text_addNumber_l3_b v s.1 s.2) (o := fun s => f_Text_addNumber_l3_b_ok v s.1 s.2) 4 (by omega)
    (fun k s => s.1 = 24 - 8 * nI k ∧ zWr [11] [(10, 1)] h s.2 ∧ zf s.2 10 1 = nI (n + k) ∧ s.2.2.1 11 = apb v (h.2.1 11) n k) (fun q => zWr [11] [(10, 1)] h q.2.2 ∧ zf q.2.2 10 1 = nI (n + 4) ∧ q.2.2.2.1 11 = apb v (h.2.1 11) n 4) (24, h) ⟨show (24 : Int32) = 24 - 8 * nI 0 by decide, zWr.refl _ _, e, rfl⟩
    (by
      rintro k ⟨a, x⟩ hk ⟨rfl, p1, p2, p3⟩
      dsimp only at p1 p2 p3 ⊢
      have g1 : ¬ ((24 : Int32) - 8 * nI k < 0) := by rcases (show k = 0 ∨ k = 1 ∨ k = 2 ∨ k = 3 by omega) with z | z | z | z <;> subst z <;> decide
      have g2 : ¬ ((400 : Int32) ≤ nI (n + k)) := by rw [show (400 : Int32) = nI 400 from rfl, nx_le (by omega) (by omega)]; omega
      have g3 : (24 : Int32) - 8 * nI k + (-8) = 24 - 8 * nI (k + 1) := by rcases (show k = 0 ∨ k = 1 ∨ k = 2 ∨ k = 3 by omega) with z | z | z | z <;> subst z <;> decide
      unfold f_Text_addNumber_l3_b f_Text_addNumber_l3_b_ok
      rw [if_neg g1, p2, if_neg g2, g3, zs_n _ 11 _ (by omega), ← nI_succ]
      refine ⟨⟨fun z => absurd z g1, fun _ => ⟨fun z => absurd z g2, fun _ => vp_in_nI (by omega) (by omega)⟩⟩, Or.inl ⟨rfl, rfl, zWr_p (by decide) (zWr_si (by decide) p1), zm_in _ _ _ _, ?_⟩⟩
      show (zm_si (zm_si x 11 (n + k) _) 10 1 _).2.1 11 = _
      rw [za_si, if_neg (by decide), za_si, if_pos rfl, p3, apb]
      rfl)
    (by
      rintro ⟨a, x⟩ ⟨rfl, p1, p2, p3⟩
      dsimp only at p1 p2 p3 ⊢
      unfold f_Text_addNumber_l3_b f_Text_addNumber_l3_b_ok
      rw [if_pos (by decide)]
      exact ⟨⟨fun _ => trivial, fun z => absurd (by decide : (24 : Int32) - 8 * nI 4 < 0) z⟩, by simp, p1, p2, p3⟩)
  exact ⟨⟨key.1, trivial⟩, key.2.1, key.2.2.1, key.2.2.2⟩
