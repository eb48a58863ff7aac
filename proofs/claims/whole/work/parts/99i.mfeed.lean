/-! ===== feed: the model ===== -/
def w5 (v1 v2 v3 v4 v5 : Int32) (i : Nat) : Int32 := if i = 0 then v1 else if i = 1 then v2 else if i = 2 then v3 else if i = 3 then v4 else v5
def apf (w : Nat → Int32) (f : Nat → Int32) (n : Nat) : Nat → (Nat → Int32)
  | 0 => f
  | k + 1 => upd (apf w f n k) (n + k) (byt (w (k / 4)) (k % 4))
theorem adf_M {h : zm_H} {n : Nat} (hn : n + 20 ≤ 400) (e : zf h 92 1 = nI n) (v1 v2 v3 v4 v5 : Int32) : f_M_feed_l18_ok v1 v2 v3 v4 v5 zF (0, h) ∧ ∃ h', f_M_feed_l18 v1 v2 v3 v4 v5 zF (0, h) = (1, nI 20, h') ∧ zWr [93] [(92, 1)] h h' ∧ zf h' 92 1 = nI (n + 20) ∧ h'.2.1 93 = apf (w5 v1 v2 v3 v4 v5) (h.2.1 93) n 20 := by
  obtain ⟨F, eF, -⟩ := zF_ex
  rw [← eF]
  have key := zlp_k eF (b := fun s => f_M_feed_l18_b v1 v2 v3 v4 v5 s.1 s.2) (o := fun s => f_M_feed_l18_b_ok v1 v2 v3 v4 v5 s.1 s.2) 20 (by omega) 0
    (fun k x => zWr [93] [(92, 1)] h x ∧ zf x 92 1 = nI (n + k) ∧ x.2.1 93 = apf (w5 v1 v2 v3 v4 v5) (h.2.1 93) n k) h ⟨zWr.refl _ _, e, rfl⟩
    (by
      rintro k x hk ⟨p1, p2, p3⟩
      rw [Nat.zero_add]
      have g0 : ¬ ((20 : Int32) ≤ nI k) := by rw [show (20 : Int32) = nI 20 from rfl, nx_le (by omega) (by omega)]; omega
      have rm : zm_rm (nI k) 4 = nI (k % 4) := Int32.toInt_inj.mp (by
        have e4 : (4 : Int32).toInt = 4 := rfl
        rw [i_rm (by rw [i_nI (by omega)]; omega) (by decide), i_nI (by omega), i_nI (by omega), e4]; omega)
      have sel : (if (4 ≤ nI k) then ((if (8 ≤ nI k) then ((if (12 ≤ nI k) then ((if (16 ≤ nI k) then (v5 : Int32) else v4) : Int32) else v3) : Int32) else v2) : Int32) else v1) = w5 v1 v2 v3 v4 v5 (k / 4) := by
        rw [show (4 : Int32) = nI 4 from rfl, show (8 : Int32) = nI 8 from rfl, show (12 : Int32) = nI 12 from rfl, show (16 : Int32) = nI 16 from rfl]
        simp only [nx_le (show 4 < 2147483648 by omega) (show k < 2147483648 by omega), nx_le (show 8 < 2147483648 by omega) (show k < 2147483648 by omega), nx_le (show 12 < 2147483648 by omega) (show k < 2147483648 by omega), nx_le (show 16 < 2147483648 by omega) (show k < 2147483648 by omega)]
        unfold w5
        repeat' split
        all_goals first | rfl | (exfalso; omega)
      dsimp only
      unfold f_M_feed_l18_b f_M_feed_l18_b_ok f_M_feed_l18_k73 f_M_feed_l18_k73_ok
      rw [if_neg g0, sel, p2, rm, zs_n _ 93 _ (by omega), ← nI_succ, ← nI_succ]
      refine ⟨⟨fun z => absurd z g0, fun _ => vp_in_nI (by omega) (by omega)⟩, _, rfl, zWr_p (by decide) (zWr_si (by decide) p1), zm_in _ _ _ _, ?_⟩
      show (zm_si (zm_si x 93 (n + k) _) 92 1 _).2.1 93 = _
      rw [za_si, if_neg (by decide), za_si, if_pos rfl, p3, apf]
      rfl)
    (by
      rintro x ⟨p1, p2⟩
      rw [Nat.zero_add]
      dsimp only
      unfold f_M_feed_l18_b f_M_feed_l18_b_ok
      rw [if_pos (by decide)]
      exact ⟨⟨fun _ => trivial, fun z => absurd (by decide : (20 : Int32) ≤ nI 20) z⟩, rfl⟩)
  rw [Nat.zero_add] at key
  exact key
