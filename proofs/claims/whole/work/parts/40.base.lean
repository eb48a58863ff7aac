/-! ===== pure rows: cells, loops, numbers ===== -/
theorem zu_at {α : Type} (f : Nat → Nat → α) (i k : Nat) (v : α) (a b : Nat) : zm_u f i k v a b = if a = i then (if b = k then v else f a b) else f a b := by
  unfold zm_u
  split <;> rfl
theorem zf_si (h : zm_H) (i k : Nat) (v : Int32) (a b : Nat) : (zm_si h i k v).2.1 a b = if a = i then (if b = k then v else h.2.1 a b) else h.2.1 a b := zu_at _ _ _ _ _ _
theorem zf_sl (h : zm_H) (i k : Nat) (v : Int64) : (zm_sl h i k v).2.1 = h.2.1 := rfl
theorem zf_sr (h : zm_H) (i k : Nat) (v : Option Nat) : (zm_sr h i k v).2.1 = h.2.1 := rfl
theorem zl_si (h : zm_H) (i k : Nat) (v : Int32) : (zm_si h i k v).2.2.1 = h.2.2.1 := rfl
theorem zl_sl (h : zm_H) (i k : Nat) (v : Int64) (a b : Nat) : (zm_sl h i k v).2.2.1 a b = if a = i then (if b = k then v else h.2.2.1 a b) else h.2.2.1 a b := zu_at _ _ _ _ _ _
theorem zl_sr (h : zm_H) (i k : Nat) (v : Option Nat) : (zm_sr h i k v).2.2.1 = h.2.2.1 := rfl
theorem zq_si (h : zm_H) (i k : Nat) (v : Int32) : (zm_si h i k v).2.2.2 = h.2.2.2 := rfl
theorem zk_si (h : zm_H) (i k : Nat) (v : Int32) : (zm_si h i k v).1 = h.1 := rfl
/-- the rule of all loops: what holds after k rounds, and what holds at the end -/
theorem zlp {S : Type} {b : S → Nat × S} {o : S → Prop} (N : Nat) (hN : N < 99999) (P : Nat → S → Prop) (Q : Nat × S → Prop) (s0 : S) (h0 : P 0 s0)
    (hs : ∀ k s, k < N → P k s → o s ∧ (((b s).1 = 0 ∧ P (k + 1) (b s).2) ∨ (¬ (b s).1 = 0 ∧ Q (b s))))
    (he : ∀ s, P N s → o s ∧ ¬ (b s).1 = 0 ∧ Q (b s)) : zwo b o zF s0 ∧ Q (zwh b zF s0) := by
  have key : ∀ (m j n : Nat) (s : S), j + m = N → m < n → P j s → zwo b o n s ∧ Q (zwh b n s) := by
    intro m
    induction m with
    | zero =>
      intro j n s hj hn hp
      obtain ⟨n', rfl⟩ : ∃ n', n = n' + 1 := ⟨n - 1, by omega⟩
      have e : j = N := by omega
      subst e
      obtain ⟨g1, g2, g3⟩ := he s hp
      rw [zwo, zwh, if_neg g2]
      exact ⟨⟨g1, fun z => absurd z g2⟩, g3⟩
    | succ m ih =>
      intro j n s hj hn hp
      obtain ⟨n', rfl⟩ : ∃ n', n = n' + 1 := ⟨n - 1, by omega⟩
      obtain ⟨g1, g2⟩ := hs j s (by omega) hp
      rw [zwo, zwh]
      rcases g2 with ⟨g2, g3⟩ | ⟨g2, g3⟩
      · rw [if_pos g2]
        obtain ⟨g4, g5⟩ := ih (j + 1) n' (b s).2 (by omega) (by omega) g3
        exact ⟨⟨g1, fun _ => g4⟩, g5⟩
      · rw [if_neg g2]
        exact ⟨⟨g1, fun z => absurd z g2⟩, g3⟩
  exact key N 0 zF s0 (by omega) (by unfold zF; omega) h0
/-- the same with the number of rounds as a letter, so that nothing is worked out by itself -/
theorem zF_ex : ∃ F, F = zF ∧ 99999 < F := ⟨zF, rfl, by unfold zF; omega⟩
theorem zlpF {F : Nat} (hF : F = zF) {S : Type} {b : S → Nat × S} {o : S → Prop} (N : Nat) (hN : N < 99999) (P : Nat → S → Prop) (Q : Nat × S → Prop) (s0 : S) (h0 : P 0 s0)
    (hs : ∀ k s, k < N → P k s → o s ∧ (((b s).1 = 0 ∧ P (k + 1) (b s).2) ∨ (¬ (b s).1 = 0 ∧ Q (b s))))
    (he : ∀ s, P N s → o s ∧ ¬ (b s).1 = 0 ∧ Q (b s)) : zwo b o F s0 ∧ Q (zwh b F s0) := by
  rw [hF]
  exact zlp N hN P Q s0 h0 hs he
/-! numbers -/
theorem i_lt {a b : Int32} : a < b ↔ a.toInt < b.toInt := Int32.lt_iff_toInt_lt
theorem i_le {a b : Int32} : a ≤ b ↔ a.toInt ≤ b.toInt := Int32.le_iff_toInt_le
theorem i_eq {a b : Int32} : a = b ↔ a.toInt = b.toInt := Int32.toInt_inj.symm
theorem i_lo (a : Int32) : -2147483648 ≤ a.toInt := Int32.le_toInt a
theorem i_hi (a : Int32) : a.toInt < 2147483648 := Int32.toInt_lt a
theorem i_bm {x : Int} (h1 : -2147483648 ≤ x) (h2 : x < 2147483648) : x.bmod 4294967296 = x := by
  rw [Int.bmod_def]
  split <;> omega
theorem i_add {a b : Int32} (h1 : -2147483648 ≤ a.toInt + b.toInt) (h2 : a.toInt + b.toInt < 2147483648) : (a + b).toInt = a.toInt + b.toInt := by
  rw [Int32.toInt_add]; exact i_bm h1 h2
theorem i_sub {a b : Int32} (h1 : -2147483648 ≤ a.toInt - b.toInt) (h2 : a.toInt - b.toInt < 2147483648) : (a - b).toInt = a.toInt - b.toInt := by
  rw [Int32.toInt_sub]; exact i_bm h1 h2
theorem i_mul {a b : Int32} (h1 : -2147483648 ≤ a.toInt * b.toInt) (h2 : a.toInt * b.toInt < 2147483648) : (a * b).toInt = a.toInt * b.toInt := by
  rw [Int32.toInt_mul]; exact i_bm h1 h2
theorem i_div {a b : Int32} (h0 : 0 ≤ a.toInt) (hb : 0 < b.toInt) : (a / b).toInt = a.toInt / b.toInt := by
  rw [Int32.toInt_div, Int.tdiv_eq_ediv_of_nonneg h0]
  have h1 : 0 ≤ a.toInt / b.toInt := Int.ediv_nonneg h0 (by omega)
  have h2 : a.toInt / b.toInt ≤ a.toInt := Int.ediv_le_self _ h0
  have h3 := i_hi a
  exact i_bm (by omega) (by omega)
theorem i_rm {a b : Int32} (h0 : 0 ≤ a.toInt) (hb : 0 < b.toInt) : (zm_rm a b).toInt = a.toInt % b.toInt := by
  unfold zm_rm
  have hd := i_div h0 hb
  have h1 : 0 ≤ a.toInt / b.toInt := Int.ediv_nonneg h0 (by omega)
  have h4 : 0 ≤ a.toInt / b.toInt * b.toInt := Int.mul_nonneg h1 (by omega)
  have h3 := i_hi a
  have e := Int.mul_ediv_add_emod a.toInt b.toInt
  have h5 := Int.emod_nonneg a.toInt (show b.toInt ≠ 0 by omega)
  rw [Int.mul_comm] at e
  have hm : (a / b * b).toInt = a.toInt / b.toInt * b.toInt := by
    rw [i_mul (by rw [hd]; omega) (by rw [hd]; omega), hd]
  rw [i_sub (by rw [hm]; omega) (by rw [hm]; omega), hm]
  omega
theorem i_nI {n : Nat} (h : n < 2147483648) : (nI n).toInt = n := nI_toInt h
theorem i_cl {a : Int32} (h : 0 ≤ a.toInt) : (a.toNatClampNeg : Int) = a.toInt := Int32.cast_toNatClampNeg a (i_le.mpr h)
theorem i_of {a : Int32} (h : 0 ≤ a.toInt) : a = nI a.toNatClampNeg := (Int32.ofNat_toNatClampNeg a (i_le.mpr h)).symm
theorem i_mk {a : Int32} {n : Nat} (h : a.toInt = n) : a = nI n := by
  have h0 : 0 ≤ a.toInt := by omega
  have h1 := i_cl h0
  have e : a.toNatClampNeg = n := by omega
  rw [← e]; exact i_of h0
theorem i_m1 : (-1 : Int32).toInt = -1 := rfl
theorem i_0 : (0 : Int32).toInt = 0 := rfl
theorem i_1 : (1 : Int32).toInt = 1 := rfl
theorem i_lit {n : Nat} (h : n < 2147483648) : (OfNat.ofNat n : Int32).toInt = n := by
  show (Int32.ofNat n).toInt = n
  exact nI_toInt h
theorem nI_c {n : Nat} (h : n < 2147483648) : (nI n).toNatClampNeg = n := nI_clamp h
theorem zr_n (h : zm_H) (i : Nat) {k : Nat} (hk : k < 2147483648) : zr h i (nI k) = zf h i k := by
  show h.2.1 i (nI k).toNatClampNeg = _
  rw [nI_c hk]
theorem zs_n (h : zm_H) (i : Nat) {k : Nat} (v : Int32) (hk : k < 2147483648) : zs h i (nI k) v = zm_si h i k v := by
  show zm_si h i (nI k).toNatClampNeg v = _
  rw [nI_c hk]
theorem za_si (h : zm_H) (i k : Nat) (v : Int32) (j : Nat) : (zm_si h i k v).2.1 j = if j = i then upd (h.2.1 j) k v else h.2.1 j := by
  funext b
  rw [zf_si]
  split
  · rfl
  · rfl
