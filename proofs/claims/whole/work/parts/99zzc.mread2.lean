/-! ===== the model reads: each of what is to come ===== -/
theorem m_more {B : Nat → Int32} {n : Nat} (hn : n ≤ 400) {h : zm_H} {r : List Nat} {s : PSt} {y a b c1 c2 d1 d2 : Nat} (H : rq B n h r s) (hp : s.1 ≤ n) (hl : r.length + 3 ≤ 800) (hc : c1 < 256 ∧ c2 < 256) (st : stp B n (y :: r, s) = (if tq B n s.1 = c1 then some (b :: (1000 + d1) :: a :: r, padv B n s) else if tq B n s.1 = c2 then some (b :: (1000 + d2) :: a :: r, padv B n s) else some (r, s))) : f_M_more_ok (nI c1) (nI d1) (nI c2) (nI d2) (nI a) (nI b) h ∧ mO B n y r s (zf h 92 9) (f_M_more (nI c1) (nI d1) (nI c2) (nI d2) (nI a) (nI b) h) := by
  have T := H.1.2.2.2.2
  have i1 := mT_s T hc.1
  have i2 := mT_s T hc.2
  have go : ∀ (d : Nat) (v7 : Int32), (if v7 = 0 then nI d2 else nI d1) = nI d → stp B n (y :: r, s) = some (b :: (1000 + d) :: a :: r, padv B n s) → f_M_more_k22_ok (nI d1) (nI d2) (nI a) (nI b) v7 h ∧ mO B n y r s (zf h 92 9) (f_M_more_k22 (nI d1) (nI d2) (nI a) (nI b) v7 h) := by
    intro d v7 ed st
    unfold f_M_more_k22_ok f_M_more_k22 f_M_more_k26_ok f_M_more_k26 f_M_more_k32_ok f_M_more_k32 f_M_more_k51_ok f_M_more_k51
    rw [ed, show (1000 : Int32) + nI d = nI (1000 + d) by rw [show (1000 : Int32) = nI 1000 from rfl, nI_add]]
    obtain ⟨o1, o2, o3⟩ := fo_q hn H hp
    obtain ⟨p1, p2, p3⟩ := pu_q o2 (by omega) a
    obtain ⟨q1, q2, q3⟩ := pu_q p2 (by rw [List.length_cons]; omega) (1000 + d)
    obtain ⟨r1, r2, r3⟩ := pu_q q2 (by rw [List.length_cons, List.length_cons]; omega) b
    exact ⟨⟨o1, p1, q1, r1⟩, Or.inl ⟨_, _, st, rfl, r2, r3.trans (q3.trans (p3.trans o3)), rfl⟩⟩
  unfold f_M_more_ok f_M_more
  by_cases e1 : zf h 92 3 = 3 ∧ zf h 92 5 = nI c1
  · rw [if_pos e1, if_pos e1]
    obtain ⟨o1, o2⟩ := go d1 1 (by rw [if_neg (by decide)]) (by rw [st, if_pos (i1.mp e1)])
    exact ⟨⟨fun _ => o1, fun z => absurd e1 z⟩, o2⟩
  · have n1 : ¬ tq B n s.1 = c1 := fun z => e1 (i1.mpr z)
    rw [if_neg e1, if_neg e1]
    by_cases e2 : zf h 92 3 = 3 ∧ zf h 92 5 = nI c2
    · rw [if_pos e2]
      obtain ⟨o1, o2⟩ := go d2 0 (by rw [if_pos rfl]) (by rw [st, if_neg n1, if_pos (i2.mp e2)])
      exact ⟨⟨fun z => absurd z e1, fun _ => ⟨fun _ => o1, fun z => absurd e2 z⟩⟩, o2⟩
    · have n2 : ¬ tq B n s.1 = c2 := fun z => e2 (i2.mpr z)
      rw [if_neg e2]
      exact ⟨⟨fun z => absurd z e1, fun _ => ⟨fun z => absurd z e2, fun _ => trivial⟩⟩, Or.inl ⟨r, s, by rw [st, if_neg n1, if_neg n2], rfl, H, rfl, rfl⟩⟩
theorem m_mw {B : Nat → Int32} {n : Nat} (hn : n ≤ 400) {h : zm_H} {r : List Nat} {s : PSt} {y a b w d : Nat} (H : rq B n h r s) (hp : s.1 ≤ n) (hl : r.length + 3 ≤ 800) (hw : w ≤ 15) (st : stp B n (y :: r, s) = (if tq B n s.1 = 300 + w then some (b :: (1000 + d) :: a :: r, padv B n s) else some (r, s))) : f_M_moreWords_ok (nI w) (nI d) (nI a) (nI b) h ∧ mO B n y r s (zf h 92 9) (f_M_moreWords (nI w) (nI d) (nI a) (nI b) h) := by
  have T := H.1.2.2.2.2
  have i1 := mT_w T hw
  unfold f_M_moreWords_ok f_M_moreWords f_M_moreWords_k14_ok f_M_moreWords_k14 f_M_moreWords_k19_ok f_M_moreWords_k19 f_M_moreWords_k28_ok f_M_moreWords_k28
  rw [show (1000 : Int32) + nI d = nI (1000 + d) by rw [show (1000 : Int32) = nI 1000 from rfl, nI_add]]
  by_cases e1 : zf h 92 3 = 2 ∧ zf h 92 5 = nI w
  · rw [if_pos e1]
    obtain ⟨o1, o2, o3⟩ := fo_q hn H hp
    obtain ⟨p1, p2, p3⟩ := pu_q o2 (by omega) a
    obtain ⟨q1, q2, q3⟩ := pu_q p2 (by rw [List.length_cons]; omega) (1000 + d)
    obtain ⟨r1, r2, r3⟩ := pu_q q2 (by rw [List.length_cons, List.length_cons]; omega) b
    exact ⟨⟨fun _ => ⟨o1, p1, q1, r1⟩, fun z => absurd e1 z⟩, Or.inl ⟨_, _, by rw [st, if_pos (i1.mp e1)], rfl, r2, r3.trans (q3.trans (p3.trans o3)), rfl⟩⟩
  · rw [if_neg e1]
    have n1 : ¬ tq B n s.1 = 300 + w := fun z => e1 (i1.mpr z)
    exact ⟨⟨fun z => absurd z e1, fun _ => trivial⟩, Or.inl ⟨r, s, by rw [st, if_neg n1], rfl, H, rfl, rfl⟩⟩
theorem m_fac {B : Nat → Int32} {n : Nat} (hn : n ≤ 400) {h : zm_H} {r : List Nat} {s : PSt} (H : rq B n h r s) (hp : s.1 ≤ n) (hd : s.2.1 ≤ 8) (hl : s.2.1 < 8 → r.length + 3 ≤ 800) (hc : s.2.2.1 ≤ s.1) : f_M_factor_ok h ∧ mO B n 5 r s (zf h 92 9) (f_M_factor h) := by
  have T := H.1.2.2.2.2
  have e4 := H.1.2.2.2.1
  have st : stp B n (5 :: r, s) = (if tq B n s.1 = 256 then (if tv B n s.1 ≤ 99999 then some (r, padv B n (pemt s 0 (nI (tv B n s.1)))) else none) else if 304 ≤ tq B n s.1 ∧ tq B n s.1 ≤ 312 then some (r, padv B n (pemt s 1 (nI (tq B n s.1 - 304)))) else if tq B n s.1 = 40 ∧ s.2.1 < 8 then some (1 :: 141 :: 12 :: r, padv B n (pdep s (s.2.1 + 1))) else none) := rfl
  have c400 : ¬ tq B n s.1 = 257 → s.2.2.1 < 400 := fun z => by
    obtain ⟨b1, b2, b3, b4, -⟩ := lx_b (B := B) hn hp
    have := b4 z
    omega
  have k71 : ¬ tq B n s.1 = 256 → ¬ (304 ≤ tq B n s.1 ∧ tq B n s.1 ≤ 312) → f_M_factor_k71_ok h ∧ mO B n 5 r s (zf h 92 9) (f_M_factor_k71 h) := by
    intro n1 n2
    have i40 := mT_s T (c := 40) (by omega)
    rw [show nI 40 = (40 : Int32) from rfl] at i40
    unfold f_M_factor_k71_ok f_M_factor_k71
    obtain ⟨D1, D2⟩ := de_q H hd
    by_cases e : zf h 92 3 = 3 ∧ zf h 92 5 = 40
    · have e' := i40.mp e
      rw [if_pos e]
      by_cases l8 : s.2.1 < 8
      · have hl := hl l8
        obtain ⟨o1, o2, o3, o4⟩ := D1 l8 (by omega)
        unfold f_M_factor_k84_ok f_M_factor_k84 f_M_factor_k96_ok f_M_factor_k96 f_M_factor_k101_ok f_M_factor_k101 f_M_takes_ok f_M_takes
        rw [o2, if_neg (by decide)]
        obtain ⟨p1, p2, p3⟩ := pu_q o3 (by rw [List.length_cons]; omega) 141
        obtain ⟨q1, q2, q3⟩ := pu_q p2 (by rw [List.length_cons, List.length_cons]; omega) 1
        obtain ⟨f1, f2, f3⟩ := fo_q hn q2 hp
        exact ⟨⟨fun _ => ⟨o1, fun z => absurd z (by decide), fun _ => ⟨p1, q1, f1, vb1⟩⟩, fun z => absurd e z⟩, Or.inl ⟨_, _, by rw [st, if_neg n1, if_neg n2, if_pos ⟨e', l8⟩], rfl, f2, f3.trans (q3.trans (p3.trans o4)), rfl⟩⟩
      · obtain ⟨o1, o2⟩ := D2 l8
        rw [o2]
        unfold f_M_factor_k84_ok f_M_factor_k84
        rw [if_pos rfl]
        exact ⟨⟨fun _ => ⟨o1, fun _ => trivial, fun z => absurd rfl z⟩, fun z => absurd e z⟩, Or.inr ⟨by rw [st, if_neg n1, if_neg n2, if_neg (fun z => l8 z.2)], rfl, e4⟩⟩
    · have e' : ¬ tq B n s.1 = 40 := fun z => e (i40.mpr z)
      rw [if_neg e]
      exact ⟨⟨fun z => absurd z e, fun _ => trivial⟩, Or.inr ⟨by rw [st, if_neg n1, if_neg n2, if_neg (fun z => e' z.1)], rfl, e4⟩⟩
  unfold f_M_factor_ok f_M_factor
  have l99 : ∀ v, v ≤ 100000 → (nI v ≤ 99999 ↔ v ≤ 99999) := fun v hv => by rw [show (99999 : Int32) = nI 99999 from rfl, nx_le (by omega) (by omega)]
  rcases mTV_c T with ⟨a, b, d⟩ | ⟨a, b, d⟩ | ⟨a, b⟩ | ⟨a, b⟩ | ⟨a, b, d⟩ | ⟨a, b, d⟩
  · obtain ⟨o1, o2⟩ := k71 (by omega) (by omega)
    rw [b, if_neg (by decide), if_neg (by decide)]
    exact ⟨⟨fun z => absurd z (by decide), fun _ => ⟨fun z => absurd z (by decide), fun _ => o1⟩⟩, o2⟩
  · rw [b, if_pos rfl]
    rcases d with ⟨d1, d2⟩ | ⟨d1, d2⟩
    · rw [d2, if_pos ((l99 _ (by omega)).mpr d1)]
      unfold f_M_factor_k29_ok f_M_factor_k29 f_M_takes_ok f_M_takes
      obtain ⟨o1, o2, o3⟩ := em_q H (c400 (by omega)) 0 (nI (tv B n s.1))
      obtain ⟨f1, f2, f3⟩ := fo_q hn o2 hp
      exact ⟨⟨fun _ => ⟨fun _ => ⟨o1, f1, vb1⟩, fun z => absurd ((l99 _ (by omega)).mpr d1) z⟩, fun z => absurd rfl z⟩, Or.inl ⟨_, _, by rw [st, if_pos a, if_pos d1], rfl, f2, f3.trans o3, rfl⟩⟩
    · rw [if_neg d2]
      exact ⟨⟨fun _ => ⟨fun z => absurd z d2, fun _ => trivial⟩, fun z => absurd rfl z⟩, Or.inr ⟨by rw [st, if_pos a, if_neg (by omega)], rfl, e4⟩⟩
  · obtain ⟨o1, o2⟩ := k71 (by omega) (by omega)
    rw [b, if_neg (by decide), if_neg (by decide)]
    exact ⟨⟨fun z => absurd z (by decide), fun _ => ⟨fun z => absurd z (by decide), fun _ => o1⟩⟩, o2⟩
  · obtain ⟨o1, o2⟩ := k71 (by omega) (by omega)
    rw [b, if_neg (by decide), if_neg (by decide)]
    exact ⟨⟨fun z => absurd z (by decide), fun _ => ⟨fun z => absurd z (by decide), fun _ => o1⟩⟩, o2⟩
  · rw [b, if_neg (by decide), if_pos rfl, d]
    have i1 : (¬ (nI (tq B n s.1 - 300) < 4) ∧ (¬ (12 < nI (tq B n s.1 - 300)))) ↔ (304 ≤ tq B n s.1 ∧ tq B n s.1 ≤ 312) := by
      have e4' : (4 : Int32).toInt = 4 := rfl
      have e12 : (12 : Int32).toInt = 12 := rfl
      rw [i_lt, i_lt, i_nI (by omega), e4', e12]; omega
    by_cases c : ¬ (nI (tq B n s.1 - 300) < 4) ∧ (¬ (12 < nI (tq B n s.1 - 300)))
    · have c' := i1.mp c
      rw [if_pos c, show (4 : Int32) = nI 4 from rfl, pk_sub (by omega), show tq B n s.1 - 300 - 4 = tq B n s.1 - 304 by omega]
      rw [show (4 : Int32) = nI 4 from rfl] at c
      unfold f_M_factor_k66_ok f_M_factor_k66 f_M_takes_ok f_M_takes
      obtain ⟨o1, o2, o3⟩ := em_q H (c400 (by omega)) 1 (nI (tq B n s.1 - 304))
      obtain ⟨f1, f2, f3⟩ := fo_q hn o2 hp
      exact ⟨⟨fun z => absurd z (by decide), fun _ => ⟨fun _ => ⟨fun _ => ⟨o1, f1, vb1⟩, fun z => absurd c z⟩, fun z => absurd rfl z⟩⟩, Or.inl ⟨_, _, by rw [st, if_neg (by omega), if_pos c'], rfl, f2, f3.trans o3, rfl⟩⟩
    · rw [if_neg c]
      obtain ⟨o1, o2⟩ := k71 (by omega) (fun z => c (i1.mpr z))
      exact ⟨⟨fun z => absurd z (by decide), fun _ => ⟨fun _ => ⟨fun z => absurd z c, fun _ => o1⟩, fun z => absurd rfl z⟩⟩, o2⟩
  · rw [b, if_neg (by decide), if_pos rfl, d]
    have c : ¬ (¬ ((-1 : Int32) < 4) ∧ (¬ (12 < (-1 : Int32)))) := by decide
    rw [if_neg c]
    obtain ⟨o1, o2⟩ := k71 (by omega) (by omega)
    exact ⟨⟨fun z => absurd z (by decide), fun _ => ⟨fun _ => ⟨fun z => absurd z c, fun _ => o1⟩, fun z => absurd rfl z⟩⟩, o2⟩
theorem m_hol {B : Nat → Int32} {n : Nat} (hn : n ≤ 400) {h : zm_H} {r : List Nat} {s : PSt} (H : rq B n h r s) (hp : s.1 ≤ n) (hd : s.2.1 ≤ 8) (hl : r.length + 3 ≤ 800) : f_M_holds_ok h ∧ mO B n 10 r s (zf h 92 9) (f_M_holds h) := by
  have T := H.1.2.2.2.2
  have e4 := H.1.2.2.2.1
  have st : stp B n (10 :: r, s) = (if tq B n s.1 = 315 then (if s.2.1 < 8 then some (10 :: 1011 :: 12 :: r, padv B n (pdep s (s.2.1 + 1))) else none) else if tq B n s.1 = 91 then (if s.2.1 < 8 then some (6 :: 193 :: 12 :: r, padv B n (pdep s (s.2.1 + 1))) else none) else some (1 :: 11 :: r, s)) := rfl
  have i15 := mT_w T (w := 15) (by omega)
  rw [show nI 15 = (15 : Int32) from rfl] at i15
  have i91 := mT_s T (c := 91) (by omega)
  rw [show nI 91 = (91 : Int32) from rfl] at i91
  obtain ⟨D1, D2⟩ := de_q H hd
  unfold f_M_holds_ok f_M_holds f_M_holds_k28_ok f_M_holds_k28
  by_cases c1 : zf h 92 3 = 2 ∧ zf h 92 5 = 15
  · have c1' := i15.mp c1
    rw [if_pos c1, if_pos c1]
    by_cases l8 : s.2.1 < 8
    · obtain ⟨o1, o2, o3, o4⟩ := D1 l8 (by omega)
      unfold f_M_holds_k32_ok f_M_holds_k32 f_M_holds_k48_ok f_M_holds_k48 f_M_holds_k54_ok f_M_holds_k54 f_M_holds_k70_ok f_M_holds_k70 f_M_takes_ok f_M_takes
      rw [o2, if_neg (by decide), if_neg (by decide)]
      obtain ⟨p1, p2, p3⟩ := pu_q o3 (by rw [List.length_cons]; omega) 1011
      obtain ⟨q1, q2, q3⟩ := pu_q p2 (by rw [List.length_cons, List.length_cons]; omega) 10
      obtain ⟨f1, f2, f3⟩ := fo_q hn q2 hp
      exact ⟨⟨fun _ => ⟨o1, fun z => absurd z (by decide), fun _ => ⟨fun z => absurd z (by decide), fun _ => ⟨p1, q1, f1, vb1⟩⟩⟩, fun z => absurd c1 z⟩, Or.inl ⟨_, _, by rw [st, if_pos c1', if_pos l8], rfl, f2, f3.trans (q3.trans (p3.trans o4)), rfl⟩⟩
    · obtain ⟨o1, o2⟩ := D2 l8
      rw [o2]
      unfold f_M_holds_k32_ok f_M_holds_k32
      rw [if_pos rfl]
      exact ⟨⟨fun _ => ⟨o1, fun _ => trivial, fun z => absurd rfl z⟩, fun z => absurd c1 z⟩, Or.inr ⟨by rw [st, if_pos c1', if_neg l8], rfl, e4⟩⟩
  · have c1' : ¬ tq B n s.1 = 315 := fun z => c1 (i15.mpr z)
    rw [if_neg c1, if_neg c1]
    by_cases c2 : zf h 92 3 = 3 ∧ zf h 92 5 = 91
    · have c2' := i91.mp c2
      rw [if_pos c2]
      by_cases l8 : s.2.1 < 8
      · obtain ⟨o1, o2, o3, o4⟩ := D1 l8 (by omega)
        unfold f_M_holds_k32_ok f_M_holds_k32 f_M_holds_k64_ok f_M_holds_k64 f_M_holds_k70_ok f_M_holds_k70 f_M_takes_ok f_M_takes
        rw [o2, if_neg (by decide), if_pos rfl]
        obtain ⟨p1, p2, p3⟩ := pu_q o3 (by rw [List.length_cons]; omega) 193
        obtain ⟨q1, q2, q3⟩ := pu_q p2 (by rw [List.length_cons, List.length_cons]; omega) 6
        obtain ⟨f1, f2, f3⟩ := fo_q hn q2 hp
        exact ⟨⟨fun z => absurd z c1, fun _ => ⟨fun _ => ⟨o1, fun z => absurd z (by decide), fun _ => ⟨fun _ => ⟨p1, q1, f1, vb1⟩, fun z => absurd rfl z⟩⟩, fun z => absurd c2 z⟩⟩, Or.inl ⟨_, _, by rw [st, if_neg c1', if_pos c2', if_pos l8], rfl, f2, f3.trans (q3.trans (p3.trans o4)), rfl⟩⟩
      · obtain ⟨o1, o2⟩ := D2 l8
        rw [o2]
        unfold f_M_holds_k32_ok f_M_holds_k32
        rw [if_pos rfl]
        exact ⟨⟨fun z => absurd z c1, fun _ => ⟨fun _ => ⟨o1, fun _ => trivial, fun z => absurd rfl z⟩, fun z => absurd c2 z⟩⟩, Or.inr ⟨by rw [st, if_neg c1', if_pos c2', if_neg l8], rfl, e4⟩⟩
    · have c2' : ¬ tq B n s.1 = 91 := fun z => c2 (i91.mpr z)
      rw [if_neg c2]
      obtain ⟨o1, o2⟩ := m_both (y := 10) (a := 11) (b := 1) H (by omega) (by rw [st, if_neg c1', if_neg c2'])
      exact ⟨⟨fun z => absurd z c1, fun _ => ⟨fun z => absurd z c2, fun _ => ⟨o1, mO_b o2⟩⟩⟩, o2⟩
theorem m_cmp {B : Nat → Int32} {n : Nat} (hn : n ≤ 400) {h : zm_H} {r : List Nat} {s : PSt} (H : rq B n h r s) (hp : s.1 ≤ n) (hl : r.length + 2 ≤ 800) : f_M_compares_ok h ∧ mO B n 11 r s (zf h 92 9) (f_M_compares h) := by
  have T := H.1.2.2.2.2
  have e4 := H.1.2.2.2.1
  have st : stp B n (11 :: r, s) = (if tq B n s.1 = 60 then some (1 :: 1006 :: r, padv B n s) else if tq B n s.1 = 62 then some (1 :: 1007 :: r, padv B n s) else if tq B n s.1 = 61 then some (1 :: 1008 :: r, padv B n s) else none) := rfl
  have i60 := mT_s T (c := 60) (by omega)
  have i62 := mT_s T (c := 62) (by omega)
  have i61 := mT_s T (c := 61) (by omega)
  rw [show nI 60 = (60 : Int32) from rfl] at i60
  rw [show nI 62 = (62 : Int32) from rfl] at i62
  rw [show nI 61 = (61 : Int32) from rfl] at i61
  have go : ∀ w : Nat, (1000 + (if (zf h 92 3 = 3 ∧ zf h 92 5 = 60) then (6 : Int32) else (if (zf h 92 3 = 3 ∧ zf h 92 5 = 62) then (7 : Int32) else 8))) = nI (1000 + w) → stp B n (11 :: r, s) = some (1 :: (1000 + w) :: r, padv B n s) → f_M_compares_k29_ok h ∧ mO B n 11 r s (zf h 92 9) (f_M_compares_k29 h) := by
    intro w ew st
    unfold f_M_compares_k29_ok f_M_compares_k29 f_M_compares_k67_ok f_M_compares_k67 f_M_compares_k72_ok f_M_compares_k72 f_M_takes_ok f_M_takes
    rw [ew]
    obtain ⟨p1, p2, p3⟩ := pu_q H (by omega) (1000 + w)
    obtain ⟨q1, q2, q3⟩ := pu_q p2 (by rw [List.length_cons]; omega) 1
    obtain ⟨f1, f2, f3⟩ := fo_q hn q2 hp
    exact ⟨⟨p1, q1, f1, vb1⟩, Or.inl ⟨_, _, st, rfl, f2, f3.trans (q3.trans p3), rfl⟩⟩
  unfold f_M_compares_ok f_M_compares
  by_cases c1 : zf h 92 3 = 3 ∧ zf h 92 5 = 60
  · have c1' := i60.mp c1
    rw [if_pos c1]
    obtain ⟨o1, o2⟩ := go 6 (by rw [if_pos c1]; rfl) (by rw [st, if_pos c1'])
    exact ⟨⟨fun _ => o1, fun z => absurd c1 z⟩, o2⟩
  · have c1' : ¬ tq B n s.1 = 60 := fun z => c1 (i60.mpr z)
    rw [if_neg c1]
    by_cases c2 : zf h 92 3 = 3 ∧ zf h 92 5 = 62
    · have c2' := i62.mp c2
      rw [if_pos c2]
      obtain ⟨o1, o2⟩ := go 7 (by rw [if_neg c1, if_pos c2]; rfl) (by rw [st, if_neg c1', if_pos c2'])
      exact ⟨⟨fun z => absurd z c1, fun _ => ⟨fun _ => o1, fun z => absurd c2 z⟩⟩, o2⟩
    · have c2' : ¬ tq B n s.1 = 62 := fun z => c2 (i62.mpr z)
      rw [if_neg c2]
      by_cases c3 : zf h 92 3 = 3 ∧ zf h 92 5 = 61
      · have c3' := i61.mp c3
        rw [if_pos c3]
        obtain ⟨o1, o2⟩ := go 8 (by rw [if_neg c1, if_neg c2]; rfl) (by rw [st, if_neg c1', if_neg c2', if_pos c3'])
        exact ⟨⟨fun z => absurd z c1, fun _ => ⟨fun z => absurd z c2, fun _ => ⟨fun _ => o1, fun z => absurd c3 z⟩⟩⟩, o2⟩
      · have c3' : ¬ tq B n s.1 = 61 := fun z => c3 (i61.mpr z)
        rw [if_neg c3]
        exact ⟨⟨fun z => absurd z c1, fun _ => ⟨fun z => absurd z c2, fun _ => ⟨fun z => absurd z c3, fun _ => trivial⟩⟩⟩, Or.inr ⟨by rw [st, if_neg c1', if_neg c2', if_neg c3'], rfl, e4⟩⟩
