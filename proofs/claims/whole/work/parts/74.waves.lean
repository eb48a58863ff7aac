/-! ===== WAVES: one picture ===== -/
def wOK (nr : Nat) (S : Nat → Nat → Int32) : Prop := (∀ r, r < nr → S 0 r = 1 → ∃ p, p < 100 ∧ p % 10 < 5 ∧ S 1 r = nI p) ∧ (∀ r q, r < nr → q < nr → S 0 r = 1 → S 0 q = 1 → S 1 r = S 1 q → r = q)
theorem vOK.w {nr g : Nat} (hnr : nr ≤ 10) {S : Nat → Nat → Int32} (V : vOK nr g S) : wOK nr S := by
  obtain ⟨-, v2, -, -, v5, -⟩ := V
  refine ⟨fun r hr h1 => v2 r (by omega) (Or.inl h1), fun r q hr hq h1 h2 e => ?_⟩
  rcases v5 r q (by omega) (by omega) e with z | z
  · exact z
  · obtain ⟨p, hp, -, ep⟩ := v2 r (by omega) (Or.inl h1)
    rw [ep] at z
    exact absurd z (nI_nm1 (by omega))
def rat (S : Nat → Nat → Int32) (p : Int32) : Nat → Int32
  | 0 => -1
  | n + 1 => if S 0 n = 1 ∧ S 1 n = p then nI n else rat S p n
theorem rat_c (S : Nat → Nat → Int32) (p : Int32) : ∀ n, (rat S p n = -1 ∧ ∀ r, r < n → ¬ (S 0 r = 1 ∧ S 1 r = p)) ∨ ∃ q, q < n ∧ rat S p n = nI q ∧ S 0 q = 1 ∧ S 1 q = p := by
  intro n
  induction n with
  | zero => exact Or.inl ⟨rfl, fun r hr => by omega⟩
  | succ n ih =>
    rw [rat]
    by_cases c : S 0 n = 1 ∧ S 1 n = p
    · rw [if_pos c]; exact Or.inr ⟨n, by omega, rfl, c.1, c.2⟩
    · rw [if_neg c]
      rcases ih with ⟨a, b⟩ | ⟨q, a, b, d, e⟩
      · refine Or.inl ⟨a, fun r hr => ?_⟩
        rcases (show r < n ∨ r = n by omega) with z | z
        · exact b r z
        · subst z; exact c
      · exact Or.inr ⟨q, by omega, b, d, e⟩
def fitv (per su : Int32) : Int32 := if 0 < (100 - (15 * (if 0 ≤ (per - su) then (per - su) else 0 - (per - su)))) then (100 - (15 * (if 0 ≤ (per - su) then (per - su) else 0 - (per - su)))) else 0
def tkv (fl fit sz : Int32) : Int32 := fl * fit / 100 * sz / (sz + 20)
theorem fit_n {per su : Int32} (p1 : 2 ≤ per.toInt) (p2 : per.toInt ≤ 20) (s1 : 2 ≤ su.toInt) (s2 : su.toInt ≤ 20) : (if (0 ≤ (100 - (15 * (if (su ≤ per) then ((per - su) : Int32) else (su - per))))) then ((100 - (15 * (if (su ≤ per) then ((per - su) : Int32) else (su - per)))) : Int32) else 0) = fitv per su ∧ 0 ≤ (fitv per su).toInt ∧ (fitv per su).toInt ≤ 100 := by
  have e15 : (15 : Int32).toInt = 15 := rfl
  have d1 : (per - su).toInt = per.toInt - su.toInt := i_sub (by omega) (by omega)
  have d2 : (su - per).toInt = su.toInt - per.toInt := i_sub (by omega) (by omega)
  have d3 : (0 - (per - su)).toInt = su.toInt - per.toInt := by rw [i_sub (by rw [d1, i_0]; omega) (by rw [d1, i_0]; omega), d1, i_0]; omega
  have ed : (if 0 ≤ (per - su) then (per - su) else 0 - (per - su)) = (if (su ≤ per) then (per - su) else (su - per)) := by
    by_cases c : su ≤ per
    · rw [if_pos c, if_pos (by rw [i_le] at c ⊢; rw [d1, i_0]; omega)]
    · rw [if_neg c, if_neg (by rw [i_le] at c ⊢; rw [d1, i_0]; omega), i_eq, d3, d2]
  unfold fitv
  rw [ed]
  obtain ⟨D, eD⟩ : ∃ D, D = (if (su ≤ per) then (per - su) else (su - per)) := ⟨_, rfl⟩
  have hD : 0 ≤ D.toInt ∧ D.toInt ≤ 18 := by
    rw [eD]
    by_cases c : su ≤ per
    · rw [if_pos c, d1]; rw [i_le] at c; omega
    · rw [if_neg c, d2]; rw [i_le] at c; omega
  rw [← eD]
  have m1 : (15 * D).toInt = 15 * D.toInt := by rw [i_mul (by rw [e15]; omega) (by rw [e15]; omega), e15]
  have m2 : (100 - 15 * D).toInt = 100 - 15 * D.toInt := by rw [i_sub (by rw [m1, i_100]; omega) (by rw [m1, i_100]; omega), m1, i_100]
  by_cases c : 0 < 100 - 15 * D
  · rw [if_pos c, if_pos (by rw [i_lt] at c; rw [i_le]; omega)]
    rw [i_lt, m2, i_0] at c
    rw [m2]
    exact ⟨rfl, by omega, by omega⟩
  · rw [if_neg c]
    rw [i_lt, m2, i_0] at c
    refine ⟨?_, by decide, by decide⟩
    by_cases c2 : 0 ≤ 100 - 15 * D
    · rw [if_pos c2, i_eq, m2, i_0]; rw [i_le, m2, i_0] at c2; omega
    · rw [if_neg c2]
theorem tk_n {fl fit sz : Int32} (f1 : 0 ≤ fl.toInt) (f2 : fl.toInt ≤ 288000) (a1 : 0 ≤ fit.toInt) (a2 : fit.toInt ≤ 100) (s1 : 1 ≤ sz.toInt) (s2 : sz.toInt ≤ 20) : 0 ≤ (tkv fl fit sz).toInt ∧ (tkv fl fit sz).toInt ≤ fl.toInt ∧ ¬ sz + 20 = 0 := by
  have e20 : (20 : Int32).toInt = 20 := rfl
  have b1 : 0 ≤ fl.toInt * fit.toInt := Int.mul_nonneg f1 a1
  have b2 : fl.toInt * fit.toInt ≤ fl.toInt * 100 := Int.mul_le_mul_of_nonneg_left a2 f1
  have m1 : (fl * fit).toInt = fl.toInt * fit.toInt := i_mul (by omega) (by omega)
  have m2 : (fl * fit / 100).toInt = fl.toInt * fit.toInt / 100 := by rw [i_div (by rw [m1]; omega) (by decide), m1, i_100]
  have c1 : 0 ≤ fl.toInt * fit.toInt / 100 ∧ fl.toInt * fit.toInt / 100 ≤ fl.toInt := by omega
  have b3 : 0 ≤ (fl.toInt * fit.toInt / 100) * sz.toInt := Int.mul_nonneg c1.1 (by omega)
  have b4 : (fl.toInt * fit.toInt / 100) * sz.toInt ≤ (fl.toInt * fit.toInt / 100) * 20 := Int.mul_le_mul_of_nonneg_left s2 c1.1
  have m3 : (fl * fit / 100 * sz).toInt = (fl.toInt * fit.toInt / 100) * sz.toInt := by rw [i_mul (by rw [m2]; omega) (by rw [m2]; omega), m2]
  have m4 : (sz + 20).toInt = sz.toInt + 20 := by rw [i_add (by rw [e20]; omega) (by rw [e20]; omega), e20]
  have m5 : (tkv fl fit sz).toInt = (fl.toInt * fit.toInt / 100) * sz.toInt / (sz.toInt + 20) := by
    unfold tkv
    rw [i_div (by rw [m3]; omega) (by rw [m4]; omega), m3, m4]
  have d1 : 0 ≤ (fl.toInt * fit.toInt / 100) * sz.toInt / (sz.toInt + 20) := Int.ediv_nonneg b3 (by omega)
  have d2 : (fl.toInt * fit.toInt / 100) * sz.toInt / (sz.toInt + 20) ≤ fl.toInt * fit.toInt / 100 := by
    apply Int.ediv_le_of_le_mul (by omega)
    exact Int.mul_le_mul_of_nonneg_left (by omega) c1.1
  refine ⟨by rw [m5]; exact d1, by rw [m5]; omega, fun z => ?_⟩
  rw [z, i_0] at m4
  omega
/-- a ROW: what is there behind it, what each raft TAKES -/
def rwF (S : Nat → Nat → Int32) (nr : Nat) (sz su : Nat → Int32) (per : Int32) (y : Nat) (fl : Nat → Int32) : Nat → Int32 := fun c => if rat S (nI (10 * c + y)) nr < 0 then fl c else fl c - tkv (fl c) (fitv per (su (rat S (nI (10 * c + y)) nr).toNatClampNeg)) (sz (rat S (nI (10 * c + y)) nr).toNatClampNeg)
def rwT (S : Nat → Nat → Int32) (nr : Nat) (sz su : Nat → Int32) (per : Int32) (y : Nat) (fl tk : Nat → Int32) : Nat → Int32 := fun r => if r < nr ∧ S 0 r = 1 ∧ zm_rm (S 1 r) 10 = nI y then tkv (fl (S 1 r / 10).toNatClampNeg) (fitv per (su r)) (sz r) else tk r
def shf (way op : Int32) (fl : Nat → Int32) : Nat → Int32 := fun c => if (¬ ((nI c - way) < 0) ∧ (¬ (10 ≤ (nI c - way)))) then fl (nI c - way).toNatClampNeg else op
theorem pl_n {p : Nat} (hp : p < 100) : zm_rm (nI p) 10 = nI (p % 10) ∧ nI p / 10 = nI (p / 10) := by
  refine ⟨?_, ?_⟩
  · unfold zm_rm
    rw [show (10 : Int32) = nI 10 from rfl]
    exact pk_rem (by omega) (by omega) (by omega)
  · rw [show (10 : Int32) = nI 10 from rfl]
    exact pk_div (by omega) (by omega) (by omega)
/-- the state of the waves at a ROW -/
def wvs (S : Nat → Nat → Int32) (nr : Nat) (sz su : Nat → Int32) (sea : Int32) : Nat → (Nat → Int32) × (Nat → Int32)
  | 0 => (fun _ => (sea / 1000) * (sea / 1000) * (zm_rm sea 1000 / 10), fun _ => 0)
  | y + 1 => (shf (zm_rm sea 10 - 1) ((sea / 1000) * (sea / 1000) * (zm_rm sea 1000 / 10)) (rwF S nr sz su (zm_rm sea 1000 / 10) y (wvs S nr sz su sea y).1), rwT S nr sz su (zm_rm sea 1000 / 10) y (wvs S nr sz su sea y).1 (wvs S nr sz su sea y).2)
def wvF (S : Nat → Nat → Int32) (nr : Nat) (sz su : Nat → Int32) (sea : Int32) : Nat → Int32 := rwF S nr sz su (zm_rm sea 1000 / 10) 4 (wvs S nr sz su sea 4).1
def wvT (S : Nat → Nat → Int32) (nr : Nat) (sz su : Nat → Int32) (sea : Int32) : Nat → Int32 := rwT S nr sz su (zm_rm sea 1000 / 10) 4 (wvs S nr sz su sea 4).1 (wvs S nr sz su sea 4).2
theorem rwF_ext {S : Nat → Nat → Int32} {nr : Nat} {sz su : Nat → Int32} {per : Int32} {y : Nat} {f g : Nat → Int32} (e : ∀ c, c < 10 → f c = g c) : ∀ c, c < 10 → rwF S nr sz su per y f c = rwF S nr sz su per y g c := by
  intro c hc
  unfold rwF
  rw [e c hc]
theorem rwT_ext {S : Nat → Nat → Int32} {nr : Nat} (hw : wOK nr S) {sz su : Nat → Int32} {per : Int32} {y : Nat} {f g tf tg : Nat → Int32} (e : ∀ c, c < 10 → f c = g c) (et : ∀ r, r < 10 → tf r = tg r) : ∀ r, r < 10 → rwT S nr sz su per y f tf r = rwT S nr sz su per y g tg r := by
  intro r hr
  unfold rwT
  by_cases c : r < nr ∧ S 0 r = 1 ∧ zm_rm (S 1 r) 10 = nI y
  · rw [if_pos c, if_pos c]
    obtain ⟨p, hp, -, ep⟩ := hw.1 r c.1 c.2.1
    rw [ep, (pl_n hp).2, nI_c (by omega), e _ (by omega)]
  · rw [if_neg c, if_neg c, et r hr]
theorem shf_ext {way op : Int32} {f g : Nat → Int32} (e : ∀ c, c < 10 → f c = g c) (c : Nat) : shf way op f c = shf way op g c := by
  unfold shf
  by_cases q : ¬ ((nI c - way) < 0) ∧ (¬ (10 ≤ (nI c - way)))
  · rw [if_pos q, if_pos q]
    have e10 : (10 : Int32).toInt = 10 := rfl
    rw [i_lt, i_le, i_0, e10] at q
    have := i_cl (show 0 ≤ (nI c - way).toInt by omega)
    rw [e _ (by omega)]
  · rw [if_neg q, if_neg q]
