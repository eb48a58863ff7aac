/-! ===== CHAINS and POWER ===== -/
def wtv (way : Int32) (c : Nat) : Int32 := zm_wt ((way + 1) * 3 + nI c).toNatClampNeg
def wtc (S : Nat → Nat → Int32) (r : Nat) (way : Int32) (c : Nat) : Int32 := if hld S (3 * r + c) then wtv way c else 0
def alw (S : Nat → Nat → Int32) (r : Nat) (way : Int32) : Nat → Int32
  | 0 => 0
  | k + 1 => alw S r way k + wtc S r way k
def bor (S : Nat → Nat → Int32) (r : Nat) (load way : Int32) (c : Nat) : Int32 := if alw S r way 3 = 0 then 0 else load * wtc S r way c / alw S r way 3
def stn (S : Nat → Nat → Int32) (i : Nat) (load t : Int32) : Nat → Nat → Int32 := if hld S i then (if load ≤ hd S i then zm_u S 6 i (S 6 i + (if 0 < load - 100 then load - 100 else 0)) else zm_u S 7 i t) else S
def anyH (S : Nat → Nat → Int32) (r : Nat) : Prop := hld S (3 * r + 0) ∨ hld S (3 * r + 1) ∨ hld S (3 * r + 2)
def st3 (S : Nat → Nat → Int32) (r : Nat) (load way t : Int32) : Nat → Nat → Nat → Int32
  | 0 => S
  | k + 1 => stn (st3 S r load way t k) (3 * r + k) (bor S r load way k) t
def chn (sz : Nat → Int32) (sea t : Int32) (r : Nat) (S : Nat → Nat → Int32) : Nat → Nat → Int32 := if S 0 r = 1 then (if hld (st3 S r (sea / 1000 * (sz r + 5)) (zm_rm sea 10 - 1) t 3) (3 * r + 0) ∨ hld (st3 S r (sea / 1000 * (sz r + 5)) (zm_rm sea 10 - 1) t 3) (3 * r + 1) ∨ hld (st3 S r (sea / 1000 * (sz r + 5)) (zm_rm sea 10 - 1) t 3) (3 * r + 2) then st3 S r (sea / 1000 * (sz r + 5)) (zm_rm sea 10 - 1) t 3 else zm_u (zm_u (st3 S r (sea / 1000 * (sz r + 5)) (zm_rm sea 10 - 1) t 3) 0 r 3) 1 r (-1)) else S
def lek (x : Int32) : Int32 := if x / 16 < 100 then x / 16 else 100
def pwv (S : Nat → Nat → Int32) (tk : Nat → Int32) (r : Nat) : Int32 := tk r * (100 - lek (S 2 r)) / 100
def pwr (tk : Nat → Int32) (r : Nat) (S : Nat → Nat → Int32) : Nat → Nat → Int32 := zm_u (zm_u (zm_u S 3 r (pwv S tk r)) 2 r (S 2 r + (if ¬ tk r ≤ 0 then 1 else 0))) 4 r (S 4 r + pwv S tk r)
theorem zu_c {S : Nat → Nat → Int32} {i k j m : Nat} {v w : Int32} (h : ¬ i = j) : zm_u (zm_u S i k v) j m w = zm_u (zm_u S j m w) i k v := by
  funext a b
  simp only [zu_at]
  by_cases h1 : a = i
  · subst h1; simp [h]
  · simp [h1]
/-- what is done to fields 2, 3, 4 doesn't meet what is done to the chains -/
def eqC (S X : Nat → Nat → Int32) : Prop := ∀ i, ¬ (i = 2 ∨ i = 3 ∨ i = 4) → S i = X i
theorem stn_c {S X : Nat → Nat → Int32} (e : eqC S X) (i : Nat) (load t : Int32) : eqC (stn S i load t) (stn X i load t) ∧ (∀ a, (a = 2 ∨ a = 3 ∨ a = 4) → stn S i load t a = S a) := by
  have h5 := e 5 (by decide)
  have h6 := e 6 (by decide)
  have h7 := e 7 (by decide)
  have eh : hld S i ↔ hld X i := by unfold hld; rw [h5, h7]
  have ed : hd S i = hd X i := by unfold hd; rw [h5, h6]
  unfold stn
  by_cases c : hld S i
  · rw [if_pos c, if_pos (eh.mp c), ed, h6]
    by_cases c2 : load ≤ hd X i
    · rw [if_pos c2, if_pos c2]
      refine ⟨fun a ha => ?_, fun a ha => ?_⟩
      · funext b
        rw [zu_at, zu_at, e a ha]
      · funext b
        rw [zu_at, if_neg (by omega)]
    · rw [if_neg c2, if_neg c2]
      refine ⟨fun a ha => ?_, fun a ha => ?_⟩
      · funext b
        rw [zu_at, zu_at, e a ha]
      · funext b
        rw [zu_at, if_neg (by omega)]
  · rw [if_neg c, if_neg (fun z => c (eh.mpr z))]
    exact ⟨e, fun _ _ => rfl⟩
theorem bor_c {S X : Nat → Nat → Int32} (e : eqC S X) (r : Nat) (load way : Int32) (c : Nat) : bor S r load way c = bor X r load way c := by
  have h5 := e 5 (by decide)
  have h7 := e 7 (by decide)
  have ew : ∀ c, wtc S r way c = wtc X r way c := fun c => by unfold wtc hld; rw [h5, h7]
  have ea : ∀ k, alw S r way k = alw X r way k := by
    intro k
    induction k with
    | zero => rfl
    | succ k ih => rw [alw, alw, ih, ew]
  unfold bor
  rw [ea, ew]
theorem st3_c {S X : Nat → Nat → Int32} (e : eqC S X) (r : Nat) (load way t : Int32) : ∀ k, eqC (st3 S r load way t k) (st3 X r load way t k) ∧ (∀ a, (a = 2 ∨ a = 3 ∨ a = 4) → st3 S r load way t k a = S a) := by
  intro k
  induction k with
  | zero => exact ⟨e, fun _ _ => rfl⟩
  | succ k ih =>
    rw [st3, st3, bor_c e]
    obtain ⟨a, b⟩ := stn_c ih.1 (3 * r + k) (bor X r load way k) t
    exact ⟨a, fun i hi => (b i hi).trans (ih.2 i hi)⟩
theorem chn_c {S X : Nat → Nat → Int32} (e : eqC S X) (sz : Nat → Int32) (sea t : Int32) (r : Nat) : eqC (chn sz sea t r S) (chn sz sea t r X) ∧ (∀ a, (a = 2 ∨ a = 3 ∨ a = 4) → chn sz sea t r S a = S a) := by
  unfold chn
  rw [e 0 (by decide)]
  by_cases c : X 0 r = 1
  · rw [if_pos c, if_pos c]
    obtain ⟨a, b⟩ := st3_c e r (sea / 1000 * (sz r + 5)) (zm_rm sea 10 - 1) t 3
    generalize st3 S r (sea / 1000 * (sz r + 5)) (zm_rm sea 10 - 1) t 3 = S3 at a b
    generalize st3 X r (sea / 1000 * (sz r + 5)) (zm_rm sea 10 - 1) t 3 = X3 at a
    have eh : ∀ i, hld S3 i ↔ hld X3 i := fun i => by unfold hld; rw [a 5 (by decide), a 7 (by decide)]
    by_cases c2 : hld S3 (3 * r + 0) ∨ hld S3 (3 * r + 1) ∨ hld S3 (3 * r + 2)
    · rw [if_pos c2, if_pos (by rw [← eh, ← eh, ← eh]; exact c2)]
      exact ⟨a, b⟩
    · rw [if_neg c2, if_neg (by rw [← eh, ← eh, ← eh]; exact c2)]
      refine ⟨fun i hi => ?_, fun i hi => ?_⟩
      · funext k
        simp only [zu_at]
        rw [a i hi]
      · funext k
        simp only [zu_at]
        rw [if_neg (by omega), if_neg (by omega), b i hi]
  · rw [if_neg c, if_neg c]
    exact ⟨e, fun _ _ => rfl⟩
theorem pwr_eqC (tk : Nat → Int32) (r : Nat) (S : Nat → Nat → Int32) : eqC (pwr tk r S) S := by
  intro i hi
  funext k
  unfold pwr
  simp only [zu_at]
  rw [if_neg (by omega), if_neg (by omega), if_neg (by omega)]
theorem pwr_chn (tk : Nat → Int32) (q : Nat) (sz : Nat → Int32) (sea t : Int32) (r : Nat) (S : Nat → Nat → Int32) : chn sz sea t r (pwr tk q S) = pwr tk q (chn sz sea t r S) := by
  obtain ⟨a, b⟩ := chn_c (pwr_eqC tk q S) sz sea t r
  obtain ⟨-, b2⟩ := chn_c (fun i _ => rfl : eqC S S) sz sea t r
  funext i k
  by_cases hi : i = 2 ∨ i = 3 ∨ i = 4
  · rw [b i hi]
    unfold pwr pwv
    simp only [zu_at]
    rw [b2 2 (by decide), b2 4 (by decide), b2 i hi]
  · rw [a i hi]
    have := congrFun (pwr_eqC tk q (chn sz sea t r S) i hi) k
    rw [this]
theorem fld_pc (tk : Nat → Int32) (sz : Nat → Int32) (sea t : Int32) : ∀ n S, fld (fun r X => chn sz sea t r (pwr tk r X)) n S = fld (chn sz sea t) n (fld (pwr tk) n S) := by
  have mv : ∀ q n S, pwr tk q (fld (chn sz sea t) n S) = fld (chn sz sea t) n (pwr tk q S) := by
    intro q n
    induction n with
    | zero => intro S; simp only [fld]
    | succ n ih => intro S; rw [fld, fld, ← ih, pwr_chn]
  intro n
  induction n with
  | zero => intro S; simp only [fld]
  | succ n ih =>
    intro S
    have e1 : fld (fun r X => chn sz sea t r (pwr tk r X)) (n + 1) S = chn sz sea t n (pwr tk n (fld (fun r X => chn sz sea t r (pwr tk r X)) n S)) := by rw [fld]
    have e2 : fld (chn sz sea t) (n + 1) (fld (pwr tk) (n + 1) S) = chn sz sea t n (fld (chn sz sea t) n (pwr tk n (fld (pwr tk) n S))) := by rw [fld, fld]
    rw [e1, e2, ih, mv]
theorem lek_n {x : Int32} (h : 0 ≤ x.toInt) : 0 ≤ (lek x).toInt ∧ (lek x).toInt ≤ 100 := by
  have e16 : (16 : Int32).toInt = 16 := rfl
  have e : (x / 16).toInt = x.toInt / 16 := by rw [i_div h (by decide), e16]
  unfold lek
  by_cases c : x / 16 < 100
  · rw [if_pos c]; rw [i_lt, i_100] at c; omega
  · rw [if_neg c]; decide
theorem pw_n {tkr l : Int32} (a1 : 0 ≤ tkr.toInt) (a2 : tkr.toInt ≤ 288000) (l1 : 0 ≤ l.toInt) (l2 : l.toInt ≤ 100) : 0 ≤ (tkr * (100 - l) / 100).toInt ∧ (tkr * (100 - l) / 100).toInt ≤ 288000 := by
  have m1 : (100 - l).toInt = 100 - l.toInt := by rw [i_sub (by rw [i_100]; omega) (by rw [i_100]; omega), i_100]
  have b1 : 0 ≤ tkr.toInt * (100 - l.toInt) := Int.mul_nonneg a1 (by omega)
  have b2 : tkr.toInt * (100 - l.toInt) ≤ tkr.toInt * 100 := Int.mul_le_mul_of_nonneg_left (by omega) a1
  have m2 : (tkr * (100 - l)).toInt = tkr.toInt * (100 - l.toInt) := by rw [i_mul (by rw [m1]; omega) (by rw [m1]; omega), m1]
  rw [i_div (by rw [m2]; omega) (by decide), m2, i_100]
  omega
