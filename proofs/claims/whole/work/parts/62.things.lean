/-! ===== THINGS ===== -/
theorem vM_o {L : Nat} {h : zm_H} {j k : Nat} {v : Int32} (hj : j < 123 ∨ 130 < j) : vM L (zm_si h j k v) = vM L h := by
  funext a c
  unfold vM
  rw [zl_si]
  simp only [zf_si]
  have g : ∀ q, q ∈ [123, 124, 125, 126, 128, 129, 130] → ¬ q = j := by
    intro q hq z
    subst z
    simp at hq
    omega
  rw [if_neg (g 123 (by decide)), if_neg (g 124 (by decide)), if_neg (g 125 (by decide)), if_neg (g 126 (by decide)), if_neg (g 128 (by decide)), if_neg (g 129 (by decide)), if_neg (g 130 (by decide))]
theorem vM_eq {L : Nat} {h h' : zm_H} (e : ∀ i, i ∈ [123, 124, 125, 126, 128, 129, 130] → h'.2.1 i = h.2.1 i) (el : h'.2.2.1 127 = h.2.2.1 127) : vM L h' = vM L h := by
  unfold vM
  rw [e 123 (by decide), e 124 (by decide), e 125 (by decide), e 126 (by decide), e 128 (by decide), e 129 (by decide), e 130 (by decide), el]
theorem vM_x {L L' : Nat} (hL : ¬ L = L') {h : zm_H} {i k j q : Nat} {v : Int32} (hi : i < 8) (h4 : ¬ i = 4) (hk : k < zsz i) (hj : j = 123 + i) (hq : q = zsz i * L + k) : vM L' (zm_si h j q v) = vM L' h := by
  funext a c
  unfold vM
  rw [zl_si]
  simp only [zf_si]
  subst hj hq
  by_cases h1 : a < 8 ∧ c < zsz a
  · rw [if_pos h1, if_pos h1]
    obtain ⟨h1a, h1c⟩ := h1
    rcases (show a = 0 ∨ a = 1 ∨ a = 2 ∨ a = 3 ∨ a = 4 ∨ a = 5 ∨ a = 6 ∨ a = 7 by omega) with e | e | e | e | e | e | e | e <;> subst e <;>
    rcases (show i = 0 ∨ i = 1 ∨ i = 2 ∨ i = 3 ∨ i = 5 ∨ i = 6 ∨ i = 7 by omega) with e | e | e | e | e | e | e <;> subst e <;> simp [zsz] at hk h1c ⊢ <;> (intro z; omega)
  · rw [if_neg h1, if_neg h1]
theorem vM_u10 {L : Nat} {h : zm_H} {i j k : Nat} {v : Int32} (hj : j = 123 + i) (hi : i < 4) (hk : k < 10) : vM L (zm_si h j (10 * L + k) v) = zm_u (vM L h) i k v := by
  have z : zsz i = 10 := by unfold zsz; rw [if_pos (by omega)]
  exact vM_u (by omega) (by omega) (by omega) (by rw [hj]; split <;> rfl) (by rw [z])
theorem vM_u30 {L : Nat} {h : zm_H} {i j k : Nat} {v : Int32} (hj : j = 123 + i) (hi : 5 ≤ i ∧ i < 8) (hk : k < 30) : vM L (zm_si h j (30 * L + k) v) = zm_u (vM L h) i k v := by
  have z : zsz i = 30 := by unfold zsz; rw [if_neg (by omega)]
  exact vM_u (by omega) (by omega) (by omega) (by rw [hj]; split <;> rfl) (by rw [z])
theorem vM_x10 {L L' : Nat} (hL : ¬ L = L') {h : zm_H} {i j k : Nat} {v : Int32} (hj : j = 123 + i) (hi : i < 4) (hk : k < 10) : vM L' (zm_si h j (10 * L + k) v) = vM L' h := by
  have z : zsz i = 10 := by unfold zsz; rw [if_pos (by omega)]
  exact vM_x hL (k := k) (by omega) (by omega) (by omega) hj (by rw [z])
theorem vM_x30 {L L' : Nat} (hL : ¬ L = L') {h : zm_H} {i j k : Nat} {v : Int32} (hj : j = 123 + i) (hi : 5 ≤ i ∧ i < 8) (hk : k < 30) : vM L' (zm_si h j (30 * L + k) v) = vM L' h := by
  have z : zsz i = 30 := by unfold zsz; rw [if_neg (by omega)]
  exact vM_x hL (k := k) (by omega) (by omega) (by omega) hj (by rw [z])
def rnw (S : Nat → Nat → Int32) (r c : Nat) (s : Int32) : Nat → Nat → Int32 := zm_u (zm_u (zm_u S 5 (3 * r + c) s) 6 (3 * r + c) 0) 7 (3 * r + c) (-1)
def rnw3 (S : Nat → Nat → Int32) (r : Nat) (s : Int32) : Nat → Nat → Int32 := rnw (rnw (rnw S r 0 s) r 1 s) r 2 s
def tkn (S : Nat → Nat → Int32) (p : Int32) : Nat → Bool
  | 0 => false
  | n + 1 => if S 1 n = p then true else tkn S p n
def dbl (S : Nat → Nat → Int32) (kd : Int32) (r : Nat) (p : Int32) : Bool := if kd = 5 then decide (S 0 r = 0) && !(tkn S p 10) else if kd = 4 then decide (¬ S 0 r = 0) else decide (S 0 r = 1 ∨ S 0 r = 2)
def dot (S : Nat → Nat → Int32) (kd : Int32) (r : Nat) (p s : Int32) : Nat → Nat → Int32 := if kd = 5 then rnw3 (zm_u (zm_u S 0 r 1) 1 r p) r s else if kd = 4 then rnw3 (zm_u (zm_u S 0 r 0) 1 r (-1)) r 0 else if kd = 3 then zm_u S 2 r 0 else rnw S r kd.toNatClampNeg s
theorem tkn_iff (S : Nat → Nat → Int32) (p : Int32) : ∀ n, tkn S p n = true ↔ ∃ q, q < n ∧ S 1 q = p := by
  intro n
  induction n with
  | zero => constructor
            · intro h; cases h
            · rintro ⟨q, h, -⟩; omega
  | succ n ih =>
    rw [tkn]
    by_cases c : S 1 n = p
    · rw [if_pos c]; exact ⟨fun _ => ⟨n, by omega, c⟩, fun _ => rfl⟩
    · rw [if_neg c, ih]
      constructor
      · rintro ⟨q, h1, h2⟩; exact ⟨q, by omega, h2⟩
      · rintro ⟨q, h1, h2⟩
        exact ⟨q, by
          rcases (show q < n ∨ q = n by omega) with z | z
          · exact z
          · subst z; exact absurd h2 c, h2⟩
theorem x3 {r c : Nat} : nI r * 3 + nI c = nI (3 * r + c) := by
  rw [show (3 : Int32) = nI 3 from rfl, pk_mul, nI_add, Nat.mul_comm r 3]
theorem x10 {L r : Nat} : 10 * nI L + nI r = nI (10 * L + r) := by
  rw [show (10 : Int32) = nI 10 from rfl, pk_mul, nI_add]
theorem x30 {L r c : Nat} : 3 * (10 * nI L + nI r) + nI c = nI (30 * L + (3 * r + c)) := by
  rw [x10, show (3 : Int32) = nI 3 from rfl, pk_mul, nI_add, show 3 * (10 * L + r) + c = 30 * L + (3 * r + c) by omega]
/-- the model's newChain -/
theorem nc_M {h : zm_H} {L r c : Nat} (hL : L < 2) (hr : r < 10) (hc : c < 3) (s : Int32) : f_M_newChain_ok (nI L) (nI r) (nI c) s h ∧ vM L (f_M_newChain (nI L) (nI r) (nI c) s h) = rnw (vM L h) r c s ∧ (∀ L', L' < 2 → ¬ L = L' → vM L' (f_M_newChain (nI L) (nI r) (nI c) s h) = vM L' h) := by
  have i1 : vp_in (nI (30 * L + (3 * r + c))) 60 := vp_in_nI (by omega) (by omega)
  unfold f_M_newChain_ok f_M_newChain
  rw [x30]
  have z1 : zsz 5 = 30 := rfl
  have z2 : zsz 6 = 30 := rfl
  have z3 : zsz 7 = 30 := rfl
  refine ⟨⟨i1, i1, i1⟩, ?_, ?_⟩
  · rw [zs_n _ 130 _ (by omega), zs_n _ 129 _ (by omega), zs_n _ 128 _ (by omega)]
    rw [vM_u30 (i := 7) (j := 130) (k := 3 * r + c) rfl (by omega) (by omega), vM_u30 (i := 6) (j := 129) (k := 3 * r + c) rfl (by omega) (by omega), vM_u30 (i := 5) (j := 128) (k := 3 * r + c) rfl (by omega) (by omega)]
    rfl
  · intro L' hL' hne
    rw [zs_n _ 130 _ (by omega), zs_n _ 129 _ (by omega), zs_n _ 128 _ (by omega)]
    rw [vM_x30 hne (i := 7) (j := 130) (k := 3 * r + c) rfl (by omega) (by omega), vM_x30 hne (i := 6) (j := 129) (k := 3 * r + c) rfl (by omega) (by omega), vM_x30 hne (i := 5) (j := 128) (k := 3 * r + c) rfl (by omega) (by omega)]
theorem g3 {k : Nat} (hk : k < 3) : ¬ ((3 : Int32) ≤ nI k) := by rw [show (3 : Int32) = nI 3 from rfl, nx_le (by omega) (by omega)]; omega
theorem g10 {k : Nat} (hk : k < 10) : ¬ ((10 : Int32) ≤ nI k) := by rw [show (10 : Int32) = nI 10 from rfl, nx_le (by omega) (by omega)]; omega
/-- three of them -/
theorem nc3_M {h : zm_H} {L r : Nat} (hL : L < 2) (hr : r < 10) (s : Int32) {f : Nat → zm_H → zm_H} (hf : ∀ k g, k < 3 → f k g = f_M_newChain (nI L) (nI r) (nI k) s g) : vM L (fld f 3 h) = rnw3 (vM L h) r s ∧ (∀ L', L' < 2 → ¬ L = L' → vM L' (fld f 3 h) = vM L' h) := by
  have e : fld f 3 h = f 2 (f 1 (f 0 h)) := rfl
  rw [e, hf 2 _ (by omega), hf 1 _ (by omega), hf 0 _ (by omega)]
  refine ⟨?_, ?_⟩
  · rw [(nc_M hL hr (c := 2) (by omega) s).2.1, (nc_M hL hr (c := 1) (by omega) s).2.1, (nc_M hL hr (c := 0) (by omega) s).2.1]
    rfl
  · intro L' hL' hne
    rw [(nc_M hL hr (c := 2) (by omega) s).2.2 L' hL' hne, (nc_M hL hr (c := 1) (by omega) s).2.2 L' hL' hne, (nc_M hL hr (c := 0) (by omega) s).2.2 L' hL' hne]
theorem tk_M {h : zm_H} {nr L : Nat} (hr : nr ≤ 10) (e : zf h 92 33 = nI nr) (hL : L < 2) (p : Int32) : f_M_isTaken_ok (nI L) p h ∧ f_M_isTaken (nI L) p h = if tkn (vM L h) p nr = true then 1 else 0 := by
  unfold f_M_isTaken_ok f_M_isTaken
  obtain ⟨F, eF, -⟩ := zF_ex
  rw [← eF]
  have hz : zsz 1 = 10 := rfl
  have at1 : ∀ k, k < 10 → vM L h 1 k = h.2.1 124 (10 * L + k) := fun k hk => by unfold vM; rw [if_pos ⟨by omega, by omega⟩]; rfl
  have key := zlpF eF (b := fun t => f_M_isTaken_l2_b (nI L) p t h) (o := fun t => f_M_isTaken_l2_b_ok (nI L) p t h) nr (by omega)
    (fun k s => s = nI k ∧ ∀ q, q < k → ¬ vM L h 1 q = p) (fun r => (r.1 = 1 ∧ ∃ q, q < nr ∧ vM L h 1 q = p) ∨ (r.1 = 2 ∧ ∀ q, q < nr → ¬ vM L h 1 q = p)) 0 ⟨rfl, fun q hq => by omega⟩
    (by
      rintro k s hk ⟨rfl, h2⟩
      have g0 : ¬ (zf h 92 33 ≤ nI k) := by rw [e, nx_le (by omega) (by omega)]; omega
      refine ⟨⟨fun z => absurd z g0, fun _ => by rw [x10]; exact vp_in_nI (by omega) (by omega)⟩, ?_⟩
      unfold f_M_isTaken_l2_b
      rw [if_neg g0, x10, zr_n h 124 (by omega)]
      by_cases c : zf h 124 (10 * L + k) = p
      · rw [if_pos c]
        exact Or.inr ⟨by simp, Or.inl ⟨rfl, k, hk, by rw [at1 k (by omega)]; exact c⟩⟩
      · rw [if_neg c]
        refine Or.inl ⟨rfl, (nI_succ k).symm, fun q hq => ?_⟩
        rcases (show q < k ∨ q = k by omega) with z | z
        · exact h2 q z
        · subst z; rw [at1 q (by omega)]; exact c)
    (by
      rintro s ⟨rfl, h2⟩
      have g0 : zf h 92 33 ≤ nI nr := by rw [e]; exact i_le_r _
      refine ⟨⟨fun _ => trivial, fun z => absurd g0 z⟩, ?_⟩
      unfold f_M_isTaken_l2_b
      rw [if_pos g0]
      exact ⟨by simp, Or.inr ⟨rfl, h2⟩⟩)
  obtain ⟨k1, k2⟩ := key
  have k1 : f_M_isTaken_l2_ok (nI L) p h F 0 := k1
  have k2 : ((f_M_isTaken_l2 (nI L) p h F 0).1 = 1 ∧ ∃ q, q < nr ∧ vM L h 1 q = p) ∨ ((f_M_isTaken_l2 (nI L) p h F 0).1 = 2 ∧ ∀ q, q < nr → ¬ vM L h 1 q = p) := k2
  generalize f_M_isTaken_l2 (nI L) p h F 0 = R at k2
  refine ⟨⟨k1, fun _ => trivial, fun _ => trivial⟩, ?_⟩
  unfold f_M_isTaken_a2 f_M_isTaken_k25 f_M_isTaken_k33
  rcases k2 with ⟨a, b⟩ | ⟨a, b⟩
  · rw [if_pos a, if_pos ((tkn_iff _ _ _).mpr b)]
  · rw [if_neg (by rw [a]; decide), if_neg (fun z => by obtain ⟨q, q1, q2⟩ := (tkn_iff _ _ _).mp z; exact b q q1 q2)]
