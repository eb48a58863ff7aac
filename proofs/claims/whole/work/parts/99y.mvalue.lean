/-! ===== a PLAN: the model's value of a set in a WINDOW ===== -/
abbrev gvl (L V : Nat → Nat) : Nat → Nat := fun i => 1000 * V i - L i
def I_mj (J m : Nat) (L V S : Nat → Nat) (mu : Nat → Int32) (h : zm_H) : Prop := zf h 92 72 = nI J ∧ (∀ j, j < J → h.2.1 146 j = nI (L j) ∧ h.2.1 147 j = nI (V j)) ∧ (∀ w, w < m → h.2.1 155 w = nI (S w)) ∧ ∀ j, j < J → h.2.1 156 j = mu j
theorem I_mj_w {J m : Nat} {L V S : Nat → Nat} {mu : Nat → Int32} {h h' : zm_H} (w : zWr [157, 158] [] h h') (H : I_mj J m L V S mu h) : I_mj J m L V S mu h' := by
  obtain ⟨a, b, c, d⟩ := H
  refine ⟨(w.fld 92 72 (by decide) (by decide)).trans a, fun j hj => ?_, fun v hv => ?_, fun j hj => ?_⟩
  · rw [w.arr 146 (by decide) (by decide), w.arr 147 (by decide) (by decide)]; exact b j hj
  · rw [w.arr 155 (by decide) (by decide)]; exact c v hv
  · rw [w.arr 156 (by decide) (by decide)]; exact d j hj
abbrev aM (mu : Nat → Int32) : Nat → Nat → Prop := fun i w => mu i = -1 ∨ mu i = nI w
def alwP (J : Nat) (L S : Nat → Nat) (mu : Nat → Int32) (w p : Nat) : Prop := (∀ i, i < J → p.testBit i = true → aM mu i w) ∧ sm L p.testBit J ≤ S w
theorem sm_g {L V : Nat → Nat} {P : Nat → Bool} : ∀ J, (∀ i, i < J → L i ≤ 1000 * V i) → sm (gvl L V) P J + sm L P J = 1000 * sm V P J := by
  intro J
  induction J with
  | zero => intro _; rfl
  | succ J ih =>
    intro h
    have a := ih (fun i hi => h i (by omega))
    have b := h J (by omega)
    rw [sm, sm, sm]
    by_cases c : P J = true
    · rw [if_pos c, if_pos c, if_pos c]
      show sm (gvl L V) P J + (1000 * V J - L J) + (sm L P J + L J) = _
      omega
    · rw [if_neg c, if_neg c, if_neg c]; omega
theorem sm_pos {G : Nat → Nat} {P : Nat → Bool} : ∀ J i, i < J → P i = true → 1 ≤ G i → 1 ≤ sm G P J := by
  intro J
  induction J with
  | zero => intro i hi; omega
  | succ J ih =>
    intro i hi hp hg
    rw [sm]
    by_cases e : i = J
    · subst e; rw [if_pos hp]; omega
    · have := ih i (by omega) hp hg
      omega
theorem bit_ex {J p : Nat} (hp : p < 2 ^ J) (h0 : 0 < p) : ∃ i, i < J ∧ p.testBit i = true := by
  refine Classical.byContradiction (fun z => ?_)
  have : p = 0 := by
    apply Nat.eq_of_testBit_eq
    intro i
    rw [Nat.zero_testBit]
    by_cases hi : i < J
    · cases hh : p.testBit i
      · rfl
      · exact absurd ⟨i, hi, hh⟩ z
    · exact tb_hi hp (by omega)
  omega
theorem vi_M {J m : Nat} (hJ : J ≤ 6) (hm : m ≤ 40) {L V S : Nat → Nat} {mu : Nat → Int32} (hL : ∀ j, j < J → L j ≤ 16) (hV : ∀ j, j < J → 1 ≤ V j ∧ V j ≤ 999) (hS : ∀ w, w < m → S w < 1000) {h : zm_H} (H : I_mj J m L V S mu h) {p w : Nat} (hp : p < 2 ^ J) (hw : w < m) : f_M_valueIn_ok (nI p) (nI w) h ∧ (alwP J L S mu w p → f_M_valueIn (nI p) (nI w) h = nI (sm (gvl L V) p.testBit J)) ∧ (¬ alwP J L S mu w p → f_M_valueIn (nI p) (nI w) h = 0) := by
  obtain ⟨eJ, eA, eW, eM⟩ := H
  have h64 := p2_le hJ
  have hsL : sm L p.testBit J ≤ 96 := by have := sm_le (P := p.testBit) J hL; omega
  have hsV : sm V p.testBit J ≤ 5994 := by have := sm_le (P := p.testBit) J (fun j hj => (hV j hj).2); omega
  unfold f_M_valueIn_ok f_M_valueIn
  obtain ⟨F, eF, -⟩ := zF_ex
  rw [← eF]
  have key := zlpF eF (b := fun t => f_M_valueIn_l8_b (nI p) (nI w) t.1 t.2.1 t.2.2 h) (o := fun t => f_M_valueIn_l8_b_ok (nI p) (nI w) t.1 t.2.1 t.2.2 h) J (by omega)
    (fun k t => t = (nI (sm L p.testBit k), nI (sm V p.testBit k), nI k) ∧ ∀ i, i < k → p.testBit i = true → aM mu i w)
    (fun r => (r.1 = 1 ∧ ¬ ∀ i, i < J → p.testBit i = true → aM mu i w) ∨ (r.1 = 2 ∧ (∀ i, i < J → p.testBit i = true → aM mu i w) ∧ r.2.1 = nI (sm L p.testBit J) ∧ r.2.2.1 = nI (sm V p.testBit J))) (0, 0, 0)
    ⟨rfl, fun i hi => by omega⟩
    (by
      rintro k t hk ⟨rfl, q⟩
      have g0 : ¬ (zf h 92 72 ≤ nI k) := by rw [eJ, nx_le (by omega) (by omega)]; omega
      have ik : vp_in (nI k) 6 := vp_in_nI (by omega) (by omega)
      have ik8 : vp_in (nI k) 8 := vp_in_nI (by omega) (by omega)
      have e6 : zr h 156 (nI k) = mu k := by rw [zr_n h 156 (by omega)]; exact eM k hk
      have e46 : zr h 146 (nI k) = nI (L k) := by rw [zr_n h 146 (by omega)]; exact (eA k hk).1
      have e47 : zr h 147 (nI k) = nI (V k) := by rw [zr_n h 147 (by omega)]; exact (eA k hk).2
      have bb := b_bit p (by omega) k (by omega)
      show f_M_valueIn_l8_b_ok (nI p) (nI w) (nI (sm L p.testBit k)) (nI (sm V p.testBit k)) (nI k) h ∧ _
      unfold f_M_valueIn_l8_b f_M_valueIn_l8_b_ok f_M_valueIn_l8_k53 f_M_valueIn_l8_k53_ok f_M_valueIn_l8_k75
      dsimp only
      rw [if_neg g0, e6, e46, e47, nI_add, nI_add]
      have ext : (p.testBit k = true → aM mu k w) → ∀ i, i < k + 1 → p.testBit i = true → aM mu i w := by
        intro z i hi ht
        by_cases e : i = k
        · subst e; exact z ht
        · exact q i (by omega) ht
      refine ⟨⟨fun z => absurd z g0, fun _ => ⟨fun _ => trivial, fun _ => ⟨ik, fun _ => ⟨ik8, ik8⟩, fun _ => ⟨ik, fun _ => ⟨ik8, ik8⟩, fun _ => trivial⟩⟩⟩⟩, ?_⟩
      rw [sm, sm]
      by_cases c : (nI p >>> (nI k &&& 31)) &&& 1 = 0
      · have c' := bb.mp c
        rw [if_pos c, c', if_neg (by decide), if_neg (by decide), Nat.add_zero, Nat.add_zero, ← nI_succ]
        exact Or.inl ⟨rfl, rfl, ext (fun z => by rw [c'] at z; cases z)⟩
      · have c' : p.testBit k = true := by
          cases hh : p.testBit k
          · exact absurd (bb.mpr hh) c
          · rfl
        rw [if_neg c, c', if_pos rfl, if_pos rfl]
        by_cases d1 : mu k = -1
        · rw [if_pos d1, ← nI_succ]
          exact Or.inl ⟨rfl, rfl, ext (fun _ => Or.inl d1)⟩
        · rw [if_neg d1]
          by_cases d2 : mu k = nI w
          · rw [if_pos d2, ← nI_succ]
            exact Or.inl ⟨rfl, rfl, ext (fun _ => Or.inr d2)⟩
          · rw [if_neg d2]
            refine Or.inr ⟨by simp, Or.inl ⟨rfl, fun z => ?_⟩⟩
            rcases z k hk c' with y | y
            · exact d1 y
            · exact d2 y)
    (by
      rintro t ⟨rfl, q⟩
      have g0 : zf h 92 72 ≤ nI J := by rw [eJ]; exact i_le_r _
      show f_M_valueIn_l8_b_ok (nI p) (nI w) (nI (sm L p.testBit J)) (nI (sm V p.testBit J)) (nI J) h ∧ _
      unfold f_M_valueIn_l8_b f_M_valueIn_l8_b_ok
      dsimp only
      rw [if_pos g0]
      exact ⟨⟨fun _ => trivial, fun z => absurd g0 z⟩, by simp, Or.inr ⟨rfl, q, rfl, rfl⟩⟩)
  obtain ⟨k1, k2⟩ := key
  obtain ⟨r, er⟩ : ∃ r, r = f_M_valueIn_l8 (nI p) (nI w) h F (0, 0, 0) := ⟨_, rfl⟩
  have k2 : (r.1 = 1 ∧ ¬ ∀ i, i < J → p.testBit i = true → aM mu i w) ∨ (r.1 = 2 ∧ (∀ i, i < J → p.testBit i = true → aM mu i w) ∧ r.2.1 = nI (sm L p.testBit J) ∧ r.2.2.1 = nI (sm V p.testBit J)) := by rw [er]; exact k2
  rw [← er]
  unfold f_M_valueIn_a8_ok f_M_valueIn_a8 f_M_valueIn_k51 f_M_valueIn_k81 f_M_valueIn_k81_ok
  have iw : vp_in (nI w) 41 := vp_in_nI (by omega) (by omega)
  rcases k2 with ⟨a, b⟩ | ⟨a, b, c, d⟩
  · rw [if_pos a]
    exact ⟨⟨k1, fun _ => trivial, fun _ => iw⟩, fun z => absurd z.1 b, fun _ => rfl⟩
  · have na : ¬ r.1 = 1 := by omega
    have sw := hS w hw
    rw [if_neg na, c, d, zr_n h 155 (by omega), zf, eW w hw, show (1000 : Int32) = nI 1000 from rfl, pk_mul]
    have gl : nI (sm L p.testBit J) ≤ nI (S w) ↔ sm L p.testBit J ≤ S w := nx_le (by omega) (by omega)
    have sg := sm_g (P := p.testBit) (L := L) (V := V) J (fun i hi => by have := hL i hi; have := hV i hi; omega)
    refine ⟨⟨k1, fun _ => trivial, fun _ => iw⟩, fun z => ?_, fun z => ?_⟩
    · rw [if_pos (gl.mpr z.2), nI_s0 _ _ (by omega), show 1000 * sm V p.testBit J - sm L p.testBit J = sm (gvl L V) p.testBit J by omega]
    · rw [if_neg (fun y => z ⟨b, gl.mp y⟩)]
