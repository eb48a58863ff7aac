/-! ===== feed: both together ===== -/
theorem apf_20 (v1 v2 v3 v4 v5 : Int32) (f : Nat → Int32) (n : Nat) : apf (w5 v1 v2 v3 v4 v5) f n 20 = apb v5 (apb v4 (apb v3 (apb v2 (apb v1 f n 4) (n + 4) 4) (n + 8) 4) (n + 12) 4) (n + 16) 4 := rfl
theorem c_feed {n : Nat} (hn : n ≤ 400) {h : zm_H} (e1 : zf h 10 1 = nI n) (e2 : zf h 92 1 = nI n) (e3 : h.2.1 11 = h.2.1 93) (v1 v2 v3 v4 v5 : Int32) : f_N_feed_ok v1 v2 v3 v4 v5 h ∧ f_M_feed_ok v1 v2 v3 v4 v5 (f_N_feed v1 v2 v3 v4 v5 h).2 ∧ (f_N_feed v1 v2 v3 v4 v5 h).1 = (f_M_feed v1 v2 v3 v4 v5 (f_N_feed v1 v2 v3 v4 v5 h).2).1 ∧ ∃ n', n' ≤ 400 ∧ zf (f_M_feed v1 v2 v3 v4 v5 (f_N_feed v1 v2 v3 v4 v5 h).2).2 10 1 = nI n' ∧ zf (f_M_feed v1 v2 v3 v4 v5 (f_N_feed v1 v2 v3 v4 v5 h).2).2 92 1 = nI n' ∧ (f_M_feed v1 v2 v3 v4 v5 (f_N_feed v1 v2 v3 v4 v5 h).2).2.2.1 11 = (f_M_feed v1 v2 v3 v4 v5 (f_N_feed v1 v2 v3 v4 v5 h).2).2.2.1 93 := by
  have s : (nI n + 20) = nI (n + 20) := by rw [show (20 : Int32) = nI 20 from rfl, nI_add]
  have i400 : (400 : Int32).toInt = 400 := rfl
  by_cases c : n + 20 ≤ 400
  · have g1 : ¬ ((400 : Int32) < nI (n + 20)) := by rw [i_lt, i_nI (by omega), i400]; omega
    have g2 : nI (n + 20) ≤ (400 : Int32) := by rw [i_le, i_nI (by omega), i400]; omega
    unfold f_N_feed_ok f_N_feed f_N_feed_k22_ok f_N_feed_k22 f_N_feed_k30_ok f_N_feed_k30 f_N_feed_k38_ok f_N_feed_k38 f_N_feed_k47_ok f_N_feed_k47
    rw [e1, s, if_pos g1]
    obtain ⟨a1, a2, a3, a4⟩ := adn_N (h := h) (by omega) e1 v1
    generalize f_Text_addNumber v1 h = h1 at a2 a3 a4
    obtain ⟨b1, b2, b3, b4⟩ := adn_N (h := h1) (by omega) a3 v2
    generalize f_Text_addNumber v2 h1 = h2 at b2 b3 b4
    obtain ⟨c1, c2, c3, c4⟩ := adn_N (h := h2) (by omega) b3 v3
    generalize f_Text_addNumber v3 h2 = h3 at c2 c3 c4
    obtain ⟨d1, d2, d3, d4⟩ := adn_N (h := h3) (by omega) c3 v4
    generalize f_Text_addNumber v4 h3 = h4 at d2 d3 d4
    obtain ⟨f1, f2, f3, f4⟩ := adn_N (h := h4) (by omega) d3 v5
    generalize f_Text_addNumber v5 h4 = h5 at f2 f3 f4
    have w : zWr [11] [(10, 1)] h h5 := zWr_tr f2 (by decide) (by decide) (zWr_tr d2 (by decide) (by decide) (zWr_tr c2 (by decide) (by decide) (zWr_tr b2 (by decide) (by decide) a2)))
    dsimp only
    have e5 : zf h5 92 1 = nI n := (w.fld 92 1 (by decide) (by decide)).trans e2
    obtain ⟨m1, h6, m2, m3, m4, m5⟩ := adf_M c e5 v1 v2 v3 v4 v5
    unfold f_M_feed_ok f_M_feed f_M_feed_a18 f_M_feed_k112
    rw [e5, s, if_pos g2, m2, m4, f3]
    refine ⟨⟨fun _ => ⟨a1, b1, c1, d1, f1⟩, fun z => absurd g1 z⟩, ⟨fun _ => ⟨m1, trivial⟩, fun z => absurd g2 z⟩, rfl, n + 20, c, ?_, rfl, ?_⟩
    · exact (m3.fld 10 1 (by decide) (by decide)).trans f3
    · rw [m3.arr 11 (by decide) (by decide), m5, apf_20, w.arr 93 (by decide) (by decide), ← e3, f4, d4, c4, b4, a4]
  · have g1 : (400 : Int32) < nI (n + 20) := by rw [i_lt, i_nI (by omega), i400]; omega
    have g2 : ¬ nI (n + 20) ≤ (400 : Int32) := by rw [i_le, i_nI (by omega), i400]; omega
    have eN : f_N_feed v1 v2 v3 v4 v5 h = (-1, h) := by unfold f_N_feed; rw [e1, s, if_neg (show ¬ ¬ (400 : Int32) < nI (n + 20) from fun z => z g1)]
    have eM : f_M_feed v1 v2 v3 v4 v5 h = (-1, h) := by unfold f_M_feed; rw [e2, s, if_neg g2]
    rw [eN]
    dsimp only
    rw [eM]
    refine ⟨?_, ?_, rfl, n, hn, e1, e2, e3⟩
    · unfold f_N_feed_ok; rw [e1, s]; exact ⟨fun z => absurd g1 z, fun _ => trivial⟩
    · unfold f_M_feed_ok; rw [e2, s]; exact ⟨fun z => absurd z g2, fun _ => trivial⟩
