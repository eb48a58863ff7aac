/-! ===== the END of a SPELL: boats, the model ===== -/
theorem tad_r (T : Nat → Nat → Int32) (n : Nat) (t kd r p s : Int32) : tad T n t kd r p s 0 = upd (T 0) n t ∧ tad T n t kd r p s 1 = upd (T 1) n kd ∧ tad T n t kd r p s 2 = upd (T 2) n r ∧ tad T n t kd r p s 3 = upd (T 3) n p ∧ tad T n t kd r p s 4 = upd (T 4) n s := by
  refine ⟨?_, ?_, ?_, ?_, ?_⟩ <;> (funext k; rw [tad_at]; unfold upd; by_cases c : k = n <;> simp [c])
theorem ends_M {nr w q : Nat} (hnr : nr ≤ 10) (hw : w < 480) {g : GS} {h : zm_H} (G : gOK nr w q g) (R : rlM g h) (e33 : zf h 92 33 = nI nr) (et : zf h 92 23 = nI w) : f_M_spell_l147_ok zF (0, h) ∧ ∃ h', f_M_spell_l147 zF (0, h) = (1, nI 3, h') ∧ zWr [118, 119, 120, 121, 122, 123, 124, 125, 128, 129, 130, 138, 139, 144, 145] [(92, 41)] h h' ∧ vM 1 h' = vM 1 h ∧ rlM (fld (trp w) 3 g) h' := by
  obtain ⟨F, eF, -⟩ := zF_ex
  rw [← eF]
  have key := zlp_k eF (b := fun s => f_M_spell_l147_b s.1 s.2) (o := fun s => f_M_spell_l147_b_ok s.1 s.2) 3 (by omega) 0
    (fun j x => zWr [118, 119, 120, 121, 122, 123, 124, 125, 128, 129, 130, 138, 139, 144, 145] [(92, 41)] h x ∧ vM 1 x = vM 1 h ∧ rlM (fld (trp w) j g) x) h ⟨zWr.refl _ _, rfl, by simp only [fld]; exact R⟩
    (by
      rintro b x hb ⟨p1, pv, p2⟩
      rw [Nat.zero_add]
      have G1 := (trps_ok hnr G hw b (by omega)).1
      rw [fld]
      generalize fld (trp w) b g = g1 at p2 G1
      obtain ⟨X, U, nt, T⟩ := g1
      obtain ⟨r1, r2, r3, r4, r5, r6⟩ := p2
      obtain ⟨V, H, hn⟩ := G1
      dsimp only at r1 r2 r3 r4 r5 r6 V H hn
      have ib : vp_in (nI b) 3 := vp_in_nI hb (by omega)
      have z139 : zr x 139 (nI b) = x.2.1 139 b := zr_n x 139 (by omega)
      have z142 : zr x 142 (nI b) = x.2.1 142 b := zr_n x 142 (by omega)
      have f23 : zf x 92 23 = nI w := (p1.fld 92 23 (by decide) (by decide)).trans et
      have f33 : zf x 92 33 = nI nr := (p1.fld 92 33 (by decide) (by decide)).trans e33
      have i2 := uM_2 r3 hb
      rw [r2] at i2
      have nm : ¬ (-1 : Int32) = nI w := fun z => nI_nm1 (p := w) (by omega) z.symm
      have c2 : ¬ x.2.1 139 b = 0 → x.2.1 142 b = U 2 b := fun z => by
        rw [← r2]; unfold uM; rw [if_pos (by omega), if_neg (fun y => z y.2.1)]; rfl
      dsimp only
      unfold f_M_spell_l147_b f_M_spell_l147_b_ok f_M_spell_l147_k179
      rw [if_neg (g3 hb), z139, z142, f23, ← nI_succ]
      by_cases c : U 2 b = nI w
      · have n9 : ¬ x.2.1 139 b = 0 := fun z => by
          have := i2.mp z
          rw [c] at this
          exact nm this.symm
        rw [if_neg n9, c2 n9, if_pos c]
        unfold trp
        dsimp only
        rw [if_pos c]
        rcases H.2.2 b hb with z | ⟨t, r, j, ⟨z1, -, -⟩, ⟨z2, hr⟩, ⟨z3, hj⟩, z4, z5⟩
        · rw [z] at c
          exact absurd c nm
        · obtain ⟨e1, e2, e3, e4, e5⟩ := cb_M hnr hn r4 f33 f23 r3 hb hr hj (by rw [r2]; exact z2) (by rw [r2]; exact z3)
          rw [r1, r2] at e5
          simp only [z2, z3, nI_c (show r < 2147483648 by omega)]
          generalize f_M_comesBack (nI b) x = y at e2 e3 e4 e5
          refine ⟨⟨fun z => absurd z (g3 hb), fun _ => ⟨ib, fun z => absurd z n9, fun _ => ⟨ib, fun _ => e1, fun z => absurd c z⟩⟩⟩, y, rfl, zWr_tr e2 (by decide) (by decide) p1, by rw [e4]; exact pv, ?_⟩
          by_cases d : nt < 200 ∧ dbl X (nI j) r (-1) = true
          · rw [if_pos d] at e5 ⊢
            obtain ⟨f1, f2, ⟨km, k0, k1, k2, k3, k4, k5⟩, f4⟩ := e5
            obtain ⟨t0, t1, t2, t3, t4⟩ := tad_r T nt (nI (w + 1)) (nI j) (nI r) (-1) (U 5 b)
            refine ⟨f1, f4, e3, f2, ⟨?_, ?_, ?_⟩, ?_⟩
            · dsimp only; rw [t0, k1, r5.1, nI_succ]
            · dsimp only; rw [t2, k3, r5.2.1]
            · dsimp only; rw [t4, k5, r5.2.2]
            · intro k hk
              dsimp only at hk ⊢
              rw [t1, t3, k2, k4]
              unfold upd
              by_cases y : k = nt
              · rw [if_pos y, if_pos y, if_pos y, if_pos y]; exact k0
              · rw [if_neg y, if_neg y, if_neg y, if_neg y]; exact r6 k (by omega)
          · rw [if_neg d] at e5 ⊢
            obtain ⟨f1, f2, f3, f4⟩ := e5
            refine ⟨f1, f4, e3, f2, ⟨?_, ?_, ?_⟩, ?_⟩
            · rw [f3 118 (by simp)]; exact r5.1
            · rw [f3 120 (by simp)]; exact r5.2.1
            · rw [f3 122 (by simp)]; exact r5.2.2
            · intro k hk
              rw [f3 119 (by simp), f3 121 (by simp)]
              exact r6 k hk
      · have et2 : trp w b (X, U, nt, T) = (X, U, nt, T) := by unfold trp; rw [if_neg c]
        rw [et2]
        by_cases n9 : x.2.1 139 b = 0
        · rw [if_pos n9]
          exact ⟨⟨fun z => absurd z (g3 hb), fun _ => ⟨ib, fun _ => trivial, fun z => absurd n9 z⟩⟩, x, rfl, p1, pv, r1, r2, r3, r4, r5, r6⟩
        · rw [if_neg n9, c2 n9, if_neg c]
          exact ⟨⟨fun z => absurd z (g3 hb), fun _ => ⟨ib, fun z => absurd z n9, fun _ => ⟨ib, fun z => absurd z c, fun _ => trivial⟩⟩⟩, x, rfl, p1, pv, r1, r2, r3, r4, r5, r6⟩)
    (by
      rintro x ⟨p1, p2⟩
      rw [Nat.zero_add]
      dsimp only
      unfold f_M_spell_l147_b f_M_spell_l147_b_ok
      rw [if_pos (by decide)]
      exact ⟨⟨fun _ => trivial, fun z => absurd (by decide : (3 : Int32) ≤ nI 3) z⟩, rfl⟩)
  rw [Nat.zero_add] at key
  exact key
