/-! ===== a LAYING: a trial as a picture ===== -/
/-- the same rafts afloat at the same places -/
def fEq (nr : Nat) (S T : Nat → Nat → Int32) : Prop := ∀ r, r < nr → (S 0 r = 1 ↔ T 0 r = 1) ∧ (S 0 r = 1 → S 1 r = T 1 r)
theorem rat_ext {S T : Nat → Nat → Int32} {p : Int32} : ∀ n, (∀ r, r < n → ((S 0 r = 1 ∧ S 1 r = p) ↔ (T 0 r = 1 ∧ T 1 r = p))) → rat S p n = rat T p n := by
  intro n
  induction n with
  | zero => intro _; rfl
  | succ n ih =>
    intro h
    rw [rat, rat, ih (fun r hr => h r (by omega))]
    by_cases c : S 0 n = 1 ∧ S 1 n = p
    · rw [if_pos c, if_pos ((h n (by omega)).mp c)]
    · rw [if_neg c, if_neg (fun z => c ((h n (by omega)).mpr z))]
theorem fEq_rat {nr : Nat} {S T : Nat → Nat → Int32} (e : fEq nr S T) (p : Int32) : rat S p nr = rat T p nr := by
  refine rat_ext nr (fun r hr => ?_)
  obtain ⟨e1, e2⟩ := e r hr
  constructor
  · rintro ⟨a, b⟩; exact ⟨e1.mp a, by rw [← e2 a]; exact b⟩
  · rintro ⟨a, b⟩; exact ⟨e1.mpr a, by rw [e2 (e1.mpr a)]; exact b⟩
theorem fEq_rwF {nr : Nat} {S T : Nat → Nat → Int32} (e : fEq nr S T) (sz su : Nat → Int32) (per : Int32) (y : Nat) (fl : Nat → Int32) : rwF S nr sz su per y fl = rwF T nr sz su per y fl := by
  funext c
  unfold rwF
  rw [fEq_rat e]
theorem fEq_rwT {nr : Nat} {S T : Nat → Nat → Int32} (e : fEq nr S T) (sz su : Nat → Int32) (per : Int32) (y : Nat) (fl tk : Nat → Int32) : rwT S nr sz su per y fl tk = rwT T nr sz su per y fl tk := by
  funext r
  unfold rwT
  by_cases c : r < nr ∧ S 0 r = 1 ∧ zm_rm (S 1 r) 10 = nI y
  · obtain ⟨e1, e2⟩ := e r c.1
    have e3 := e2 c.2.1
    rw [if_pos c, e3, if_pos ⟨c.1, e1.mp c.2.1, by rw [← e3]; exact c.2.2⟩]
  · rw [if_neg c, if_neg]
    rintro ⟨a, b, d⟩
    obtain ⟨e1, e2⟩ := e r a
    exact c ⟨a, e1.mpr b, by rw [e2 (e1.mpr b)]; exact d⟩
theorem fEq_wvs {nr : Nat} {S T : Nat → Nat → Int32} (e : fEq nr S T) (sz su : Nat → Int32) (sea : Int32) : ∀ y, wvs S nr sz su sea y = wvs T nr sz su sea y := by
  intro y
  induction y with
  | zero => rfl
  | succ y ih =>
    show (_, _) = (_, _)
    rw [ih, fEq_rwF e, fEq_rwT e]
theorem fEq_wv {nr : Nat} {S T : Nat → Nat → Int32} (e : fEq nr S T) (sz su : Nat → Int32) (sea : Int32) : wvF S nr sz su sea = wvF T nr sz su sea ∧ wvT S nr sz su sea = wvT T nr sz su sea := by
  unfold wvF wvT
  rw [fEq_wvs e, fEq_rwF e, fEq_rwT e]
  exact ⟨rfl, rfl⟩
/-- what floats now, and the first n of those to be laid -/
def trS (S : Nat → Nat → Int32) (rf pl : Nat → Nat) : Nat → Nat → Nat → Int32
  | 0 => fun i k => if i = 0 then (if S 0 k = 1 then 1 else 0) else S i k
  | n + 1 => zm_u (zm_u (trS S rf pl n) 0 (rf n) 1) 1 (rf n) (nI (pl n))
theorem trS_0 (nr : Nat) (S : Nat → Nat → Int32) (rf pl : Nat → Nat) : fEq nr S (trS S rf pl 0) := by
  intro r hr
  show (S 0 r = 1 ↔ (if S 0 r = 1 then (1 : Int32) else 0) = 1) ∧ (S 0 r = 1 → S 1 r = S 1 r)
  refine ⟨?_, fun _ => rfl⟩
  by_cases c : S 0 r = 1
  · rw [if_pos c]; exact ⟨fun _ => rfl, fun _ => c⟩
  · rw [if_neg c]; exact ⟨fun z => absurd z c, fun z => absurd z (by decide)⟩
theorem trS_s (S : Nat → Nat → Int32) (rf pl : Nat → Nat) (n r : Nat) : trS S rf pl (n + 1) 0 r = (if r = rf n then 1 else trS S rf pl n 0 r) ∧ trS S rf pl (n + 1) 1 r = (if r = rf n then nI (pl n) else trS S rf pl n 1 r) := by
  rw [trS, zu_at, zu_at, zu_at, zu_at]
  refine ⟨?_, ?_⟩
  · rw [if_neg (by decide), if_pos rfl]
  · rw [if_pos rfl]
    by_cases c : r = rf n
    · rw [if_pos c, if_pos c]
    · rw [if_neg c, if_neg c, if_neg (by decide), if_neg c]
/-- what is asked of a trial -/
def trOK (nr : Nat) (S : Nat → Nat → Int32) (many : Nat) (rf pl : Nat → Nat) : Prop := many ≤ 3 ∧ (∀ i, i < many → rf i < nr ∧ S 0 (rf i) = 0) ∧ (∀ i j, i < many → j < many → rf i = rf j → i = j) ∧ (∀ i, i < many → pl i < 100 ∧ pl i % 10 < 5 ∧ tkn S (nI (pl i)) 10 = false) ∧ ∀ i j, i < many → j < many → pl i = pl j → i = j
/-- who floats in a trial -/
theorem tr_at {nr : Nat} {S : Nat → Nat → Int32} {many : Nat} {rf pl : Nat → Nat} (T : trOK nr S many rf pl) : ∀ n, n ≤ many → ∀ r, r < nr → (trS S rf pl n 0 r = 1 ↔ (S 0 r = 1 ∨ ∃ i, i < n ∧ rf i = r)) ∧ ((∃ i, i < n ∧ rf i = r ∧ trS S rf pl n 1 r = nI (pl i)) ∨ ((∀ i, i < n → ¬ rf i = r) ∧ trS S rf pl n 1 r = S 1 r)) := by
  obtain ⟨t1, t2, t3, t4, t5⟩ := T
  intro n
  induction n with
  | zero =>
    intro _ r hr
    refine ⟨?_, Or.inr ⟨fun i hi => by omega, rfl⟩⟩
    rw [← (trS_0 nr S rf pl r hr).1]
    constructor
    · exact Or.inl
    · rintro (z | ⟨i, hi, -⟩)
      · exact z
      · omega
  | succ n ih =>
    intro hn r hr
    obtain ⟨i1, i2⟩ := ih (by omega) r hr
    obtain ⟨s1, s2⟩ := trS_s S rf pl n r
    rw [s1, s2]
    by_cases c : r = rf n
    · rw [if_pos c, if_pos c]
      exact ⟨⟨fun _ => Or.inr ⟨n, by omega, c.symm⟩, fun _ => rfl⟩, Or.inl ⟨n, by omega, c.symm, rfl⟩⟩
    · rw [if_neg c, if_neg c, i1]
      refine ⟨?_, ?_⟩
      · constructor
        · rintro (z | ⟨i, hi, e⟩)
          · exact Or.inl z
          · exact Or.inr ⟨i, by omega, e⟩
        · rintro (z | ⟨i, hi, e⟩)
          · exact Or.inl z
          · rcases (show i < n ∨ i = n by omega) with q | q
            · exact Or.inr ⟨i, q, e⟩
            · subst q; exact absurd e.symm c
      · rcases i2 with ⟨i, hi, e1, e2⟩ | ⟨e1, e2⟩
        · exact Or.inl ⟨i, by omega, e1, e2⟩
        · refine Or.inr ⟨fun i hi e => ?_, e2⟩
          rcases (show i < n ∨ i = n by omega) with q | q
          · exact e1 i q e
          · subst q; exact c e.symm
theorem tr_ok {nr g : Nat} (hnr : nr ≤ 10) {S : Nat → Nat → Int32} (V : vOK nr g S) {many : Nat} {rf pl : Nat → Nat} (T : trOK nr S many rf pl) {n : Nat} (hn : n ≤ many) : wOK nr (trS S rf pl n) := by
  have A := tr_at T n hn
  have w := V.w hnr
  obtain ⟨t1, t2, t3, t4, t5⟩ := T
  have fr : ∀ r i, r < nr → i < many → S 0 r = 1 → ¬ S 1 r = nI (pl i) := by
    intro r i hr hi _ e
    have z : tkn S (nI (pl i)) 10 = true := (tkn_iff S _ 10).mpr ⟨r, by omega, e⟩
    rw [(t4 i hi).2.2] at z
    cases z
  have who : ∀ r, r < nr → trS S rf pl n 0 r = 1 → (∃ i, i < n ∧ rf i = r ∧ trS S rf pl n 1 r = nI (pl i)) ∨ (S 0 r = 1 ∧ trS S rf pl n 1 r = S 1 r) := by
    intro r hr h1
    obtain ⟨a1, a2⟩ := A r hr
    rcases a2 with z | ⟨z1, z2⟩
    · exact Or.inl z
    · rcases a1.mp h1 with y | ⟨i, hi, e⟩
      · exact Or.inr ⟨y, z2⟩
      · exact absurd e (z1 i hi)
  refine ⟨fun r hr h1 => ?_, fun r q hr hq h1 h2 e => ?_⟩
  · rcases who r hr h1 with ⟨i, hi, -, z⟩ | ⟨y, z⟩
    · exact ⟨pl i, (t4 i (by omega)).1, (t4 i (by omega)).2.1, z⟩
    · rw [z]; exact w.1 r hr y
  · rcases who r hr h1 with ⟨i, hi, ei, zi⟩ | ⟨yi, zi⟩
    · rcases who q hq h2 with ⟨j, hj, ej, zj⟩ | ⟨yj, zj⟩
      · rw [zi, zj] at e
        have := nI_inj (by have := (t4 i (by omega)).1; omega) (by have := (t4 j (by omega)).1; omega) e
        have := t5 i j (by omega) (by omega) this
        rw [← ei, ← ej, this]
      · rw [zi, zj] at e
        exact absurd e.symm (fr q i hq (by omega) yj)
    · rcases who q hq h2 with ⟨j, hj, ej, zj⟩ | ⟨yj, zj⟩
      · rw [zi, zj] at e
        exact absurd e (fr r j hr (by omega) yi)
      · rw [zi, zj] at e
        exact w.2 r q hr hq yi yj e
/-- one raft more lies there -/
theorem tr_rat {nr g : Nat} (hnr : nr ≤ 10) {S : Nat → Nat → Int32} (V : vOK nr g S) {many : Nat} {rf pl : Nat → Nat} (T : trOK nr S many rf pl) {n : Nat} (hn : n < many) {p : Nat} (hp : p < 100) : rat (trS S rf pl (n + 1)) (nI p) nr = if p = pl n then nI (rf n) else rat (trS S rf pl n) (nI p) nr := by
  have w1 := tr_ok hnr V T (show n + 1 ≤ many by omega)
  have A := tr_at T n (by omega)
  obtain ⟨t1, t2, t3, t4, t5⟩ := T
  obtain ⟨q1, q2⟩ := t2 n hn
  have p100 := (t4 n hn).1
  obtain ⟨s1, s2⟩ := trS_s S rf pl n (rf n)
  rw [if_pos rfl] at s1 s2
  by_cases c : p = pl n
  · rw [if_pos c]
    rcases rat_c (trS S rf pl (n + 1)) (nI p) nr with ⟨-, z⟩ | ⟨q, z1, z2, z3, z4⟩
    · exact absurd ⟨s1, by rw [s2, c]⟩ (z (rf n) q1)
    · rw [z2]
      have := w1.2 q (rf n) z1 q1 z3 s1 (by rw [z4, s2, c])
      rw [this]
  · rw [if_neg c]
    refine rat_ext nr (fun r hr => ?_)
    obtain ⟨u1, u2⟩ := trS_s S rf pl n r
    by_cases e : r = rf n
    · rw [u1, u2, if_pos e, if_pos e]
      constructor
      · rintro ⟨-, z⟩
        exact absurd (nI_inj (by omega) (by omega) z).symm c
      · rintro ⟨z, -⟩
        exfalso
        rcases (A r hr).1.mp z with y | ⟨i, hi, ei⟩
        · rw [e, q2] at y; exact absurd y (by decide)
        · have := t3 i n (by omega) hn (ei.trans e)
          omega
    · rw [u1, u2, if_neg e, if_neg e]
