/-! ===== RIGHT of the model: all SPELLS ===== -/
theorem an_M {ns nf nr nt n e w : Nat} {h : zm_H} (H : I_rl ns nf h) (R : I_rf w nr h) (S : I_sw w n e h) (T : I_th nr nt h) {sp : Nat} (hsp : sp < 480) {a q d : Nat} (eq : q = ft (h.2.1 107) (nI a) n) (ed : d = ft (h.2.1 111) (nI a) e) :
    f_M_anew_ok (nI sp) (nI a) h ∧ vM 0 (f_M_anew (nI sp) (nI a) h) = vM 0 h ∧ vM 1 (f_M_anew (nI sp) (nI a) h) = (anH nf nr nt q d h (sp + 1)).1 ∧ ∀ t, t ≤ sp → (f_M_anew (nI sp) (nI a) h).2.1 134 t = oT nf nr nt q d h t ∧ (f_M_anew (nI sp) (nI a) h).2.1 135 t = oP nf nr nt q d h t ∧ ∀ c, c < 10 → (f_M_anew (nI sp) (nI a) h).2.1 136 (10 * t + c) = oF nf nr nt q d h t c := by
  have hq : q ≤ n := by rw [eq]; exact ft_le _ _ _
  have hF : anF [123, 124, 125, 126, 127, 128, 129, 130, 134, 135, 136, 149, 150, 151, 152, 153] [(92, 79), (92, 80), (92, 81), (92, 87), (92, 88)] = true := by decide
  have hF1 : goF [123, 124, 125, 126, 127, 128, 129, 130, 134, 135, 136, 149, 150, 151, 152, 153] [(92, 79), (92, 80), (92, 81), (92, 87), (92, 88)] = true := by decide
  have hF2 : wfR [123, 124, 125, 126, 127, 128, 129, 130, 134, 135, 136, 149, 150, 151, 152, 153] [(92, 79), (92, 80), (92, 81), (92, 87), (92, 88)] = true := by decide
  unfold f_M_anew_ok f_M_anew f_M_anew_a2_ok f_M_anew_a2 f_M_anew_k84_ok f_M_anew_k84 f_M_anew_a89 f_M_anew_k228
  obtain ⟨b1, h0, b2, b3, b4, b5⟩ := l2_M h (nI sp) (nI a)
  rw [b2]
  dsimp only
  obtain ⟨F, eF, -⟩ := zF_ex
  rw [← eF]
  have key := zlpF eF (b := fun s => f_M_anew_l89_b (nI sp) (nI a) s.1 s.2.1 s.2.2) (o := fun s => f_M_anew_l89_b_ok (nI sp) (nI a) s.1 s.2.1 s.2.2) (sp + 1) (by omega)
    (fun t s => s.1 = nI (anH nf nr nt q d h t).2 ∧ s.2.1 = nI t ∧ zWr [123, 124, 125, 126, 127, 128, 129, 130, 134, 135, 136, 149, 150, 151, 152, 153] [(92, 79), (92, 80), (92, 81), (92, 87), (92, 88)] h s.2.2 ∧ vM 0 s.2.2 = vM 0 h ∧ vM 1 s.2.2 = (anH nf nr nt q d h t).1 ∧ ∀ u, u < t → s.2.2.2.1 134 u = oT nf nr nt q d h u ∧ s.2.2.2.1 135 u = oP nf nr nt q d h u ∧ ∀ c, c < 10 → s.2.2.2.1 136 (10 * u + c) = oF nf nr nt q d h u c)
    (fun r => vM 0 r.2.2.2 = vM 0 h ∧ vM 1 r.2.2.2 = (anH nf nr nt q d h (sp + 1)).1 ∧ ∀ u, u < sp + 1 → r.2.2.2.2.1 134 u = oT nf nr nt q d h u ∧ r.2.2.2.2.1 135 u = oP nf nr nt q d h u ∧ ∀ c, c < 10 → r.2.2.2.2.1 136 (10 * u + c) = oF nf nr nt q d h u c) (0, 0, h0)
    ⟨rfl, rfl, zWr_tr b3 (by decide) (by decide) (zWr.refl _ _), b5, b4, fun u hu => by omega⟩
    (by
      rintro t ⟨v3, v4, x⟩ ht ⟨s1, s2, p1, p2, p3, p4⟩
      dsimp only at s1 s2 p1 p2 p3 p4
      subst s1 s2
      have g1 : ¬ (nI sp < nI t) := by rw [i_lt, i_nI (by omega), i_nI (by omega)]; omega
      have ht480 : t < 480 := by omega
      obtain ⟨V, hk⟩ := anH_ok (nf := nf) (d := d) R S T hq t (by omega)
      have Rx : I_rf w nr x := I_rf_w p1 (by decide) R
      have Tx : I_th nr nt x := I_th_w p1 (by decide) T
      have aw := f_M_anew_l89_l95_w (nI sp) (nI a) (nI t) zF (nI (anH nf nr nt q d h t).2, x)
      obtain ⟨a1, a2, a3, a4⟩ := an_th R.1.1 Rx.1.2.2 Tx (by rw [p3]; exact V) (nI sp) (nI a) (nI t) hk
      rw [thI_B, thn_B, anF_t hF p1, p3] at a3
      rw [thn_B, anF_t hF p1] at a2
      obtain ⟨r, er⟩ : ∃ r, r = f_M_anew_l89_l95 (nI sp) (nI a) (nI t) zF (nI (anH nf nr nt q d h t).2, x) := ⟨_, rfl⟩
      rw [← er] at a2 a3 a4 aw
      obtain ⟨r0, r1, y⟩ := r
      dsimp only at a2 a3 a4 aw
      have a3 : vM 1 y = bnH nf nr nt q d h t := a3
      have py : zWr [123, 124, 125, 126, 127, 128, 129, 130, 134, 135, 136, 149, 150, 151, 152, 153] [(92, 79), (92, 80), (92, 81), (92, 87), (92, 88)] h y := zWr_tr aw (by decide) (by decide) p1
      obtain ⟨Vb, hkb⟩ := bnH_ok R T (nf := nf) (d := d) (q := q) (t := t) ⟨V, hk⟩
      obtain ⟨l1, l2⟩ := lk_all (I_sw_z (py.eq (by decide) (by decide)) S) (a := a) ht480
      rw [py.arr 107 (by decide) (by decide), py.arr 111 (by decide) (by decide), ← eq, ← ed, seaP_eq (fun i hi => goF_a hF1 py (by simp at hi ⊢; omega)) q d t] at l2
      have lw := f_M_looks_w (nI t) (nI a) y
      obtain ⟨z, ez⟩ : ∃ z, z = f_M_looks (nI t) (nI a) y := ⟨_, rfl⟩
      rw [← ez] at l2 lw
      have pz : zWr [123, 124, 125, 126, 127, 128, 129, 130, 134, 135, 136, 149, 150, 151, 152, 153] [(92, 79), (92, 80), (92, 81), (92, 87), (92, 88)] h z := zWr_tr lw (by decide) (by decide) py
      have evz : ∀ L, vM L z = vM L y := fun L => vM_eq (fun i hi => lw.arr i (by simp at hi ⊢) (by simp at hi ⊢; omega)) (lw.2 127 (by decide)).2.1
      obtain ⟨c1, c2, c3, c4, c5, c6, c7⟩ := goes_M (L := 1) (by omega) ht480 (I_rl_w hF2 pz H) (I_rf_w pz (by decide) R) (by rw [evz, a3]; exact Vb) (sea_ok S hq) l2 ht480
      have eE : (fun c nm => Ev nf z c (nI t) nm) = (fun c nm => Ev nf h c (nI t) nm) := by funext c nm; exact Ev_w hF2 pz c _ nm
      rw [eE, evz, a3, goF_a hF1 pz (i := 112) (by simp), goF_a hF1 pz (i := 113) (by simp)] at c3 c4 c6
      rw [eE, evz, a3, goF_a hF1 pz (i := 112) (by simp), goF_a hF1 pz (i := 113) (by simp), goF_a hF1 pz (i := 114) (by simp)] at c5
      have c7 := c7 0 (by omega) (by omega)
      rw [evz, a4, p2] at c7
      have c1 : f_M_goes_ok 1 (nI t) z := c1
      obtain ⟨u, eu⟩ : ∃ u, u = f_M_goes 1 (nI t) z := ⟨_, rfl⟩
      have eu' : f_M_goes (nI 1) (nI t) z = u := by rw [eu]; rfl
      rw [eu'] at c2 c3 c4 c5 c6 c7
      obtain ⟨m, em⟩ : ∃ m, m = zs (zs u 134 (nI t) (zf u 92 88)) 135 (nI t) (zf u 92 87) := ⟨_, rfl⟩
      have em2 : m = zm_si (zm_si u 134 t (zf u 92 88)) 135 t (zf u 92 87) := by rw [em, zs_n _ _ _ (by omega), zs_n _ _ _ (by omega)]
      obtain ⟨d1, m', d2, d3, d4⟩ := l189_M m (nI sp) (nI a) r1 ht480
      have it : vp_in (nI t) 480 := vp_in_nI ht480 (by omega)
      have eb : f_M_anew_l89_b (nI sp) (nI a) (nI (anH nf nr nt q d h t).2) (nI t) x = (0, r1, nI (t + 1), m') := by
        unfold f_M_anew_l89_b f_M_anew_l89_a95 f_M_anew_l89_k150 f_M_anew_l89_k157 f_M_anew_l89_k164 f_M_anew_l89_a189 f_M_anew_l89_k222
        rw [if_neg g1, ← er]
        dsimp only
        rw [← ez, ← eu, ← em]
        have d2' : f_M_anew_l89_l189 (nI sp) (nI a) r1 (nI t) zF (0, m) = (1, nI 10, m') := d2
        rw [d2', ← nI_succ]
      refine ⟨?_, Or.inl ?_⟩
      · show f_M_anew_l89_b_ok (nI sp) (nI a) (nI (anH nf nr nt q d h t).2) (nI t) x
        unfold f_M_anew_l89_b_ok f_M_anew_l89_a95_ok f_M_anew_l89_k150_ok f_M_anew_l89_k157_ok f_M_anew_l89_k164_ok
        rw [← er]
        dsimp only
        rw [← ez, ← eu, ← em]
        exact ⟨fun z => absurd z g1, fun _ => ⟨a1, l1, c1, it, it, d1, trivial⟩⟩
      · dsimp only
        rw [eb]
        dsimp only
        have wm : zWr [134, 135] [] u m := by rw [em2]; exact zWr_si (by decide) (zWr_si (by decide) (zWr.refl _ _))
        have pu : zWr [123, 124, 125, 126, 127, 128, 129, 130, 134, 135, 136, 149, 150, 151, 152, 153] [(92, 79), (92, 80), (92, 81), (92, 87), (92, 88)] h u := zWr_tr c2 (by decide) (by decide) pz
        have evm : ∀ L, vM L m' = vM L u := fun L => by
          rw [vM_eq (fun i hi => d3.arr i (by simp at hi ⊢; omega) (by simp)) (d3.2 127 (by decide)).2.1, vM_eq (fun i hi => wm.arr i (by simp at hi ⊢; omega) (by simp)) (wm.2 127 (by decide)).2.1]
        refine ⟨rfl, ?_, rfl, zWr_tr d3 (by decide) (by decide) (zWr_tr wm (by decide) (by decide) pu), ?_, ?_, ?_⟩
        · rw [anH_s]; exact a2
        · rw [evm]; exact c7
        · rw [evm, anH_s]; exact c3
        · intro v hv
          have w134 : m'.2.1 134 = upd (u.2.1 134) t (zf u 92 88) := by rw [d3.arr 134 (by decide) (by decide), em2, za_si, if_neg (by decide), za_si, if_pos rfl]
          have w135 : m'.2.1 135 = upd (u.2.1 135) t (zf u 92 87) := by rw [d3.arr 135 (by decide) (by decide), em2, za_si, if_pos rfl, za_si, if_neg (by decide)]
          have w151 : m.2.1 151 = u.2.1 151 := wm.arr 151 (by decide) (by decide)
          have w136 : m.2.1 136 = u.2.1 136 := wm.arr 136 (by decide) (by decide)
          rw [w134, w135]
          by_cases cv : v = t
          · subst cv
            refine ⟨?_, ?_, fun c hc => ?_⟩
            · unfold upd; rw [if_pos rfl]; exact c4
            · unfold upd; rw [if_pos rfl]; exact c5
            · rw [d4, if_pos ⟨by omega, by omega⟩, show 10 * v + c - 10 * v = c by omega, w151]; exact c6 c hc
          · obtain ⟨f1, f2, f3⟩ := p4 v (by omega)
            have e134 : u.2.1 134 = x.2.1 134 := by rw [c2.arr 134 (by decide) (by decide), lw.arr 134 (by decide) (by decide), aw.arr 134 (by decide) (by decide)]
            have e135 : u.2.1 135 = x.2.1 135 := by rw [c2.arr 135 (by decide) (by decide), lw.arr 135 (by decide) (by decide), aw.arr 135 (by decide) (by decide)]
            have e136 : u.2.1 136 = x.2.1 136 := by rw [c2.arr 136 (by decide) (by decide), lw.arr 136 (by decide) (by decide), aw.arr 136 (by decide) (by decide)]
            refine ⟨?_, ?_, fun c hc => ?_⟩
            · unfold upd; rw [if_neg cv, e134]; exact f1
            · unfold upd; rw [if_neg cv, e135]; exact f2
            · rw [d4, if_neg (by omega), w136, e136]; exact f3 c hc)
    (by
      rintro ⟨v3, v4, x⟩ ⟨s1, s2, p1, p2, p3, p4⟩
      dsimp only at s1 s2 p1 p2 p3 p4
      subst s1 s2
      have g1 : nI sp < nI (sp + 1) := by rw [i_lt, i_nI (by omega), i_nI (by omega)]; omega
      dsimp only
      unfold f_M_anew_l89_b f_M_anew_l89_b_ok
      rw [if_pos g1]
      exact ⟨⟨fun _ => trivial, fun z => absurd g1 z⟩, by simp, p2, p3, p4⟩)
  obtain ⟨k1, k2, k3, k4⟩ := key
  exact ⟨⟨by rw [eF]; exact b1, k1, trivial⟩, k2, k3, fun t ht => k4 t (by omega)⟩
