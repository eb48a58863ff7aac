/-! ===== IN FORCE ===== -/
theorem nx_le {n m : Nat} (hn : n < 2147483648) (hm : m < 2147483648) : nI n ≤ nI m ↔ n ≤ m := by rw [i_le, i_nI hn, i_nI hm]; omega
def zh0 : zm_H := ([], fun _ _ => 0, fun _ _ => 0, fun _ _ => none)
def inf (fs ff sb : Nat → Int32) (c : Nat) (t : Int32) : Nat → Int32 × Int32
  | 0 => (-1, -1)
  | k + 1 => if t < ff k then inf fs ff sb c t k else if ff k < (inf fs ff sb c t k).2 then inf fs ff sb c t k else if sb (4 * (fs k).toNatClampNeg + c) = -1 then inf fs ff sb c t k else (fs k, ff k)
def I_fc (ns nf : Nat) (h : zm_H) : Prop := (ns ≤ 10 ∧ zf h 15 0 = nI ns ∧ zf h 92 15 = nI ns) ∧ (nf ≤ 15 ∧ zf h 15 4 = nI nf ∧ zf h 92 20 = nI nf) ∧ (h.2.1 19 = h.2.1 103 ∧ h.2.1 20 = h.2.1 104 ∧ h.2.1 17 = h.2.1 101) ∧ ∀ k, k < nf → (∃ s, s < ns ∧ h.2.1 103 k = nI s) ∧ ∃ t, t < 480 ∧ h.2.1 104 k = nI t
theorem inf_rng {ns nf : Nat} {h : zm_H} (H : I_fc ns nf h) (c : Nat) (t : Int32) : ∀ k, k ≤ nf → (inf (h.2.1 103) (h.2.1 104) (h.2.1 101) c t k = (-1, -1)) ∨ ∃ s u, s < ns ∧ u < 480 ∧ inf (h.2.1 103) (h.2.1 104) (h.2.1 101) c t k = (nI s, nI u) ∧ ¬ h.2.1 101 (4 * s + c) = -1 := by
  obtain ⟨⟨hs, -⟩, ⟨hf, -⟩, -, hk⟩ := H
  intro k
  induction k with
  | zero => intro _; exact Or.inl rfl
  | succ k ih =>
    intro hk1
    rw [inf]
    by_cases c1 : t < h.2.1 104 k
    · rw [if_pos c1]; exact ih (by omega)
    rw [if_neg c1]
    by_cases c2 : h.2.1 104 k < (inf (h.2.1 103) (h.2.1 104) (h.2.1 101) c t k).2
    · rw [if_pos c2]; exact ih (by omega)
    rw [if_neg c2]
    by_cases c3 : h.2.1 101 (4 * (h.2.1 103 k).toNatClampNeg + c) = -1
    · rw [if_pos c3]; exact ih (by omega)
    rw [if_neg c3]
    obtain ⟨⟨s, s1, s2⟩, u, u1, u2⟩ := hk k (by omega)
    refine Or.inr ⟨s, u, s1, u1, by rw [s2, u2], ?_⟩
    rw [s2, nI_c (by omega)] at c3
    exact c3
theorem x4 {s c : Nat} : nI s * 4 + nI c = nI (4 * s + c) ∧ 4 * nI s + nI c = nI (4 * s + c) := by
  rw [show (4 : Int32) = nI 4 from rfl, pk_mul, pk_mul, nI_add, nI_add, Nat.mul_comm s 4]
  exact ⟨rfl, rfl⟩
theorem fc_M {ns nf : Nat} {h : zm_H} (H : I_fc ns nf h) {c : Nat} (hc : c < 4) (t : Int32) : f_M_inForce_ok (nI c) t h ∧ f_M_inForce (nI c) t h = (inf (h.2.1 103) (h.2.1 104) (h.2.1 101) c t nf).1 := by
  obtain ⟨⟨hs, -⟩, ⟨hf, -, ef⟩, -, hk⟩ := id H
  unfold f_M_inForce_ok f_M_inForce f_M_inForce_a8 f_M_inForce_k86
  obtain ⟨F, eF, -⟩ := zF_ex
  rw [← eF]
  have key := zlpF eF (b := fun s => f_M_inForce_l8_b (nI c) t s.1 s.2.1 s.2.2 h) (o := fun s => f_M_inForce_l8_b_ok (nI c) t s.1 s.2.1 s.2.2 h) nf (by omega)
    (fun k s => s = ((inf (h.2.1 103) (h.2.1 104) (h.2.1 101) c t k).1, (inf (h.2.1 103) (h.2.1 104) (h.2.1 101) c t k).2, nI k)) (fun r => r.2.1 = (inf (h.2.1 103) (h.2.1 104) (h.2.1 101) c t nf).1) (-1, -1, 0) rfl
    (by
      rintro k s hkn rfl
      have g0 : ¬ (zf h 92 20 ≤ nI k) := by rw [ef, nx_le (by omega) (by omega)]; omega
      have i1 : vp_in (nI k) 15 := vp_in_nI (by omega) (by omega)
      obtain ⟨⟨q, q1, q2⟩, u, u1, u2⟩ := hk k hkn
      have e103 : zr h 103 (nI k) = nI q := by rw [zr_n h 103 (by omega)]; exact q2
      have e104 : zr h 104 (nI k) = h.2.1 104 k := zr_n h 104 (by omega)
      have e101 : zr h 101 (4 * zr h 103 (nI k) + nI c) = h.2.1 101 (4 * (h.2.1 103 k).toNatClampNeg + c) := by
        rw [e103, x4.2, zr_n h 101 (by omega), q2, nI_c (by omega)]
      have i2 : vp_in (4 * zr h 103 (nI k) + nI c) 40 := by rw [e103, x4.2]; exact vp_in_nI (by omega) (by omega)
      refine ⟨?_, Or.inl ?_⟩
      · unfold f_M_inForce_l8_b_ok
        simp only [i1, i2, implies_true, and_true, true_and]
      · dsimp only
        unfold f_M_inForce_l8_b
        rw [if_neg g0, e101, e104]
        refine ⟨rfl, ?_⟩
        dsimp only
        rw [inf, ← nI_succ]
        by_cases c1 : t < h.2.1 104 k
        · simp only [if_pos c1]
        simp only [if_neg c1]
        by_cases c2 : h.2.1 104 k < (inf (h.2.1 103) (h.2.1 104) (h.2.1 101) c t k).2
        · simp only [if_pos c2]
        simp only [if_neg c2]
        by_cases c3 : h.2.1 101 (4 * (h.2.1 103 k).toNatClampNeg + c) = -1
        · simp only [if_pos c3]
        simp only [if_neg c3]
        rw [e103, q2])
    (by
      rintro s rfl
      have g0 : zf h 92 20 ≤ nI nf := by rw [ef, nx_le (by omega) (by omega)]; omega
      refine ⟨?_, ?_⟩
      · exact ⟨fun _ => trivial, fun z => absurd g0 z⟩
      · dsimp only
        unfold f_M_inForce_l8_b
        rw [if_pos g0]
        exact ⟨by simp, rfl⟩)
  exact ⟨⟨key.1, trivial⟩, key.2⟩
theorem fc_N {ns nf : Nat} {h : zm_H} (H : I_fc ns nf h) {c : Nat} (hc : c < 4) (t : Int32) : f_Rules_ruling_ok (nI c) t h ∧ f_Rules_ruling (nI c) t h = (inf (h.2.1 103) (h.2.1 104) (h.2.1 101) c t nf).1 := by
  obtain ⟨⟨hs, -⟩, ⟨hf, ef, -⟩, ⟨a19, a20, a17⟩, hk⟩ := id H
  unfold f_Rules_ruling_ok f_Rules_ruling f_Rules_ruling_a8 f_Rules_ruling_k95
  obtain ⟨F, eF, -⟩ := zF_ex
  rw [← eF]
  have key := zlpF eF (b := fun s => f_Rules_ruling_l8_b (nI c) t s.1 s.2.1 s.2.2 h) (o := fun s => f_Rules_ruling_l8_b_ok (nI c) t s.1 s.2.1 s.2.2 h) nf (by omega)
    (fun k s => ∃ z, s = ((inf (h.2.1 103) (h.2.1 104) (h.2.1 101) c t k).1, z, nI k) ∧ (z = (inf (h.2.1 103) (h.2.1 104) (h.2.1 101) c t k).2 ∨ (z = 0 ∧ (inf (h.2.1 103) (h.2.1 104) (h.2.1 101) c t k).2 = -1))) (fun r => r.2.1 = (inf (h.2.1 103) (h.2.1 104) (h.2.1 101) c t nf).1) (-1, 0, 0) ⟨0, rfl, Or.inr ⟨rfl, rfl⟩⟩
    (by
      rintro k s hkn ⟨z, rfl, hz⟩
      have g0 : ¬ (zf h 15 4 ≤ nI k) := by rw [ef, nx_le (by omega) (by omega)]; omega
      have i1 : vp_in (nI k) 15 := vp_in_nI (by omega) (by omega)
      obtain ⟨⟨q, q1, q2⟩, u, u1, u2⟩ := hk k hkn
      have e103 : zr h 19 (nI k) = nI q := by rw [zr_n h 19 (by omega), zf, a19]; exact q2
      have e104 : zr h 20 (nI k) = h.2.1 104 k := by rw [zr_n h 20 (by omega), zf, a20]
      have e101 : zr h 17 (zr h 19 (nI k) * 4 + nI c) = h.2.1 101 (4 * (h.2.1 103 k).toNatClampNeg + c) := by
        rw [e103, x4.1, zr_n h 17 (by omega), q2, nI_c (by omega), zf, a17]
      have i2 : vp_in (zr h 19 (nI k) * 4 + nI c) 40 := by rw [e103, x4.1]; exact vp_in_nI (by omega) (by omega)
      have hzz : h.2.1 104 k < z ↔ h.2.1 104 k < (inf (h.2.1 103) (h.2.1 104) (h.2.1 101) c t k).2 := by
        rcases hz with hz | ⟨hz, hz2⟩
        · rw [hz]
        · rw [hz, hz2, u2, i_lt, i_lt, i_nI (by omega), i_0, i_m1]
          omega
      refine ⟨?_, Or.inl ?_⟩
      · unfold f_Rules_ruling_l8_b_ok
        simp only [i1, i2, implies_true, and_true, true_and]
      · dsimp only
        unfold f_Rules_ruling_l8_b
        rw [if_neg g0, e101, e104]
        refine ⟨rfl, ?_⟩
        dsimp only
        rw [inf, ← nI_succ]
        by_cases c3 : h.2.1 101 (4 * (h.2.1 103 k).toNatClampNeg + c) = -1
        · rw [if_neg (fun y => y c3), if_neg (fun y => y c3)]
          refine ⟨z, ?_, ?_⟩
          · simp only [if_pos c3, ite_self]
          · simp only [if_pos c3, ite_self]; exact hz
        rw [if_pos c3, if_pos c3]
        by_cases c1 : t < h.2.1 104 k
        · simp only [if_pos c1]
          exact ⟨z, rfl, hz⟩
        simp only [if_neg c1]
        by_cases c2 : h.2.1 104 k < z
        · simp only [if_pos c2, if_pos (hzz.mp c2)]
          exact ⟨z, rfl, hz⟩
        simp only [if_neg c2, if_neg (fun y => c2 (hzz.mpr y)), if_neg c3]
        exact ⟨_, by rw [e103, q2], Or.inl rfl⟩)
    (by
      rintro s ⟨z, rfl, hz⟩
      have g0 : zf h 15 4 ≤ nI nf := by rw [ef, nx_le (by omega) (by omega)]; omega
      refine ⟨?_, ?_⟩
      · exact ⟨fun _ => trivial, fun z => absurd g0 z⟩
      · dsimp only
        unfold f_Rules_ruling_l8_b
        rw [if_pos g0]
        exact ⟨by simp, rfl⟩)
  exact ⟨⟨key.1, trivial⟩, key.2⟩
