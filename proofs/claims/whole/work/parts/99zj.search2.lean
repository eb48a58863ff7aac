/-! ===== a LAYING: the class's best ===== -/
def rfO (nr : Nat) (S : Nat → Nat → Int32) (m : Nat) (rf : Nat → Nat) : Prop := (∀ i, i < m → rf i < nr ∧ S 0 (rf i) = 0) ∧ ∀ i j, i < m → j < m → rf i = rf j → i = j
def plO (np : Nat) (P : Nat → Nat) : Prop := (∀ k, k < np → P k < 100 ∧ P k % 10 < 5) ∧ ∀ i j, i < np → j < np → P i = P j → i = j
theorem cn_iff {nr np m c : Nat} {S : Nat → Nat → Int32} {rf P : Nat → Nat} {sh : Nat → Prop} (hm : m ≤ 3) (hnp : 1 ≤ np) (R : rfO nr S m rf) (O : plO np P) : (dst np c m ∧ ∀ i, i < m → ¬ sh (plc np m P c i) ∧ tkn S (nI (plc np m P c i)) 10 = false) ↔ cnC nr S m rf (plc np m P c) sh := by
  have lt : ∀ j, qd np c j < np := fun j => Nat.mod_lt _ (by omega)
  constructor
  · rintro ⟨d, o⟩
    refine ⟨⟨hm, R.1, R.2, fun i hi => ⟨(O.1 _ (lt _)).1, (O.1 _ (lt _)).2, (o i hi).2⟩, fun i j hi hj e => ?_⟩, fun i hi => (o i hi).1⟩
    have e2 := O.2 _ _ (lt _) (lt _) e
    rcases (show i = j ∨ i < j ∨ j < i by omega) with z | z | z
    · exact z
    · exact absurd e2.symm (d (m - 1 - i) (by omega) (m - 1 - j) (by omega))
    · exact absurd e2 (d (m - 1 - j) (by omega) (m - 1 - i) (by omega))
  · rintro ⟨⟨-, -, -, t4, t5⟩, n⟩
    refine ⟨fun k hk i hi e => ?_, fun i hi => ⟨n i hi, (t4 i hi).2.2⟩⟩
    have := t5 (m - 1 - i) (m - 1 - k) (by omega) (by omega) (by
      unfold plc
      rw [show m - 1 - (m - 1 - i) = i by omega, show m - 1 - (m - 1 - k) = k by omega, e])
    omega
def pw (a m : Nat) : Nat := a ^ m
theorem pw_le {a m : Nat} (ha : a ≤ 8) (hm : m ≤ 3) : pw a m ≤ 512 := by
  have h1 : a ^ m ≤ 8 ^ m := Nat.pow_le_pow_left ha m
  have h2 : 8 ^ m ≤ 8 ^ 3 := Nat.pow_le_pow_right (by omega) hm
  unfold pw
  omega
theorem pw_s (a m : Nat) : pw a (m + 1) = pw a m * a := Nat.pow_succ a m
theorem pw_0 (a : Nat) : pw a 0 = 1 := Nat.pow_zero a
theorem pw_z {m : Nat} (h : 1 ≤ m) : pw 0 m = 0 := Nat.zero_pow h
theorem tr_l5 {np m : Nat} {h : zm_H} (hnp : np ≤ 8) (hm : m ≤ 3) (e7 : zf h 82 7 = nI np) (e9 : zf h 82 9 = nI m) (v1 v2 : Int32) {F : Nat} (eF : F = zF) : f_Ground_search_l5_ok v1 v2 h F (1, 0) ∧ (f_Ground_search_l5 v1 v2 h F (1, 0)).2.1 = nI (pw np m) := by
  have key := zlpF eF (b := fun t => f_Ground_search_l5_b v1 v2 t.1 t.2 h) (o := fun t => f_Ground_search_l5_b_ok v1 v2 t.1 t.2 h) m (by omega)
    (fun k t => t = (nI (pw np k), nI k)) (fun r => r.2.1 = nI (pw np m)) (1, 0)
    (by rw [pw_0]; rfl)
    (by
      rintro k t hk rfl
      have g0 : ¬ (zf h 82 9 ≤ nI k) := by rw [e9, nx_le (by omega) (by omega)]; omega
      show f_Ground_search_l5_b_ok v1 v2 (nI (pw np k)) (nI k) h ∧ _
      unfold f_Ground_search_l5_b
      dsimp only
      rw [if_neg g0, e7, pk_mul, ← nI_succ, pw_s]
      exact ⟨trivial, Or.inl ⟨rfl, rfl⟩⟩)
    (by
      rintro t rfl
      have g0 : zf h 82 9 ≤ nI m := by rw [e9]; exact i_le_r _
      show f_Ground_search_l5_b_ok v1 v2 (nI (pw np m)) (nI m) h ∧ _
      unfold f_Ground_search_l5_b
      dsimp only
      rw [if_pos g0]
      exact ⟨trivial, by simp, rfl⟩)
  exact key
theorem se_N {nr g m np ns nl : Nat} (hnr : nr ≤ 10) {h : zm_H} (e23 : zf h 23 0 = nI nr) (V : vOK nr g (vC 38 h)) (hz : ∀ r, r < nr → (1 ≤ (h.2.1 24 r).toInt ∧ (h.2.1 24 r).toInt ≤ 20) ∧ (2 ≤ (h.2.1 25 r).toInt ∧ (h.2.1 25 r).toInt ≤ 20)) (Q : I_ln nl h) (hnp2 : np ≤ 8) (e7 : zf h 82 7 = nI np) {P : Nat → Nat} (O : plO np P) (e86 : ∀ k, k < np → h.2.1 86 k = nI (P k)) (h1 : 1 ≤ m) (hm : m ≤ 3) (e9 : zf h 82 9 = nI m) {rf : Nat → Nat} (R : rfO nr (vC 38 h) m rf) (e87 : ∀ i, i < m → h.2.1 87 i = nI (rf i)) (e11 : zf h 82 11 = nI ns) (hns : ns ≤ 24) {seas : Nat → Int32} (e88 : ∀ i, i < ns → h.2.1 88 i = seas i) (floor day : Int32) {vl : Nat → Int32} (evl : vl = vlT nr (vC 38 h) m rf np P (fun p => sht (h.2.1 115) (h.2.1 116) (h.2.1 117) nl (nI p / 10) day) (h.2.1 24) (h.2.1 25) seas ns floor) : f_Ground_search_ok floor day h ∧ zf (f_Ground_search floor day h) 82 14 = lyB vl (pw np m) ∧ (¬ lyB vl (pw np m) = -1 → ∀ i, i < m → (f_Ground_search floor day h).2.1 90 i = nI (lyP vl (plc np m P) (pw np m) i)) := by
  have p512 := pw_le (a := np) (m := m) hnp2 hm
  unfold f_Ground_search_ok f_Ground_search
  obtain ⟨F, eF, -⟩ := zF_ex
  rw [← eF]
  obtain ⟨t1, t2⟩ := tr_l5 hnp2 hm e7 e9 floor day eF
  obtain ⟨r5, er5⟩ : ∃ r5, r5 = f_Ground_search_l5 floor day h F (1, 0) := ⟨_, rfl⟩
  rw [← er5] at t2 ⊢
  unfold f_Ground_search_a5_ok f_Ground_search_a5
  rw [t2]
  unfold f_Ground_search_k27_ok f_Ground_search_k27
  rw [← eF]
  obtain ⟨h0, eh0⟩ : ∃ h0, h0 = zp h 82 14 (-1) := ⟨_, rfl⟩
  have w0 : zWr [32, 33, 34, 35, 36, 89, 90] [(82, 14)] h h0 := by rw [eh0]; exact zWr_p (by decide) (zWr.refl _ _)
  have z14 : zf h0 82 14 = -1 := by rw [eh0]; exact zm_in _ _ _ _
  rw [← eh0]
  obtain ⟨S, eS⟩ : ∃ S, S = vC 38 h := ⟨_, rfl⟩
  obtain ⟨sh, esh⟩ : ∃ sh : Nat → Prop, sh = fun p => sht (h.2.1 115) (h.2.1 116) (h.2.1 117) nl (nI p / 10) day := ⟨_, rfl⟩
  obtain ⟨sz, esz⟩ : ∃ sz, sz = h.2.1 24 := ⟨_, rfl⟩
  obtain ⟨su, esu⟩ : ∃ su, su = h.2.1 25 := ⟨_, rfl⟩
  rw [← eS] at V R
  rw [← eS, ← esh, ← esz, ← esu] at evl
  have key := zlpF eF (b := fun t => f_Ground_search_l35_b floor day (nI (pw np m)) t.1 t.2) (o := fun t => f_Ground_search_l35_b_ok floor day (nI (pw np m)) t.1 t.2) (pw np m) (by omega)
    (fun c t => t.1 = nI c ∧ zWr [32, 33, 34, 35, 36, 89, 90] [(82, 14)] h t.2 ∧ zf t.2 82 14 = lyB vl c ∧ (¬ lyB vl c = -1 → ∀ i, i < m → t.2.2.1 90 i = nI (lyP vl (plc np m P) c i)))
    (fun r => zf r.2.2 82 14 = lyB vl (pw np m) ∧ (¬ lyB vl (pw np m) = -1 → ∀ i, i < m → r.2.2.2.1 90 i = nI (lyP vl (plc np m P) (pw np m) i))) (0, h0)
    ⟨rfl, w0, z14, fun z => absurd rfl z⟩
    (by
      rintro c ⟨v, x⟩ hc ⟨a1, a2, a3, a4⟩
      dsimp only at a1 a2 a3 a4
      subst a1
      have hnp : 1 ≤ np := by
        rcases (show np = 0 ∨ 1 ≤ np by omega) with z | z
        · rw [z, pw_z h1] at hc; omega
        · exact z
      have lt : ∀ j, qd np c j < np := fun j => Nat.mod_lt _ (by omega)
      have g0 : ¬ (nI (pw np m) ≤ nI c) := by rw [nx_le (by omega) (by omega)]; omega
      have x7 : zf x 82 7 = nI np := (a2.fld 82 7 (by decide) (by decide)).trans e7
      have x9 : zf x 82 9 = nI m := (a2.fld 82 9 (by decide) (by decide)).trans e9
      obtain ⟨s1, s2⟩ := st_N hnp hnp2 h1 hm (show c < 2147483648 by omega) x7 x9
      have sw := f_Ground_setTrial_w (nI c) x
      obtain ⟨rs, ers⟩ : ∃ rs, rs = f_Ground_setTrial (nI c) x := ⟨_, rfl⟩
      rw [← ers] at s2 sw
      obtain ⟨y, ey⟩ : ∃ y, y = rs.2 := ⟨_, rfl⟩
      rw [← ey] at s2 sw
      have wy : zWr [32, 33, 34, 35, 36, 89, 90] [(82, 14)] h y := zWr_tr sw (by decide) (by decide) a2
      have y14 : zf y 82 14 = lyB vl c := (sw.fld 82 14 (by decide) (by decide)).trans a3
      have y90 : y.2.1 90 = x.2.1 90 := sw.arr 90 (by decide) (by decide)
      have iff0 := cn_iff (c := c) (sh := sh) hm hnp R O
      -- what the last part does with a value
      have last : ∀ (z : zm_H) (w : Int32), zWr [32, 33, 34, 35, 36, 89, 90] [(82, 14)] h z → zf z 82 14 = lyB vl c → z.2.1 90 = x.2.1 90 → w = vl c → (¬ w = -1 → ∀ i, i < m → z.2.1 89 i = nI (qd np c (m - 1 - i))) →
          f_Ground_search_l35_k67_ok floor day (nI (pw np m)) (nI c) w z ∧ (f_Ground_search_l35_k67 floor day (nI (pw np m)) (nI c) w z).1 = 0 ∧ (f_Ground_search_l35_k67 floor day (nI (pw np m)) (nI c) w z).2.1 = nI (c + 1) ∧ zWr [32, 33, 34, 35, 36, 89, 90] [(82, 14)] h (f_Ground_search_l35_k67 floor day (nI (pw np m)) (nI c) w z).2.2 ∧ zf (f_Ground_search_l35_k67 floor day (nI (pw np m)) (nI c) w z).2.2 82 14 = lyB vl (c + 1) ∧ (¬ lyB vl (c + 1) = -1 → ∀ i, i < m → (f_Ground_search_l35_k67 floor day (nI (pw np m)) (nI c) w z).2.2.2.1 90 i = nI (lyP vl (plc np m P) (c + 1) i)) := by
        intro z w wz z14 z90 ew z89
        unfold f_Ground_search_l35_k67_ok f_Ground_search_l35_k67
        rw [z14, ← eF]
        by_cases cw : w ≤ lyB vl c
        · have nl' : ¬ (lyB vl c < vl c) := by rw [← ew, i_lt]; rw [i_le] at cw; omega
          rw [if_pos cw]
          unfold f_Ground_search_l35_k121
          have eB : lyB vl (c + 1) = lyB vl c := by rw [lyB, if_neg nl']
          have eP : lyP vl (plc np m P) (c + 1) = lyP vl (plc np m P) c := by rw [lyP, if_neg nl']
          rw [eB, eP, ← nI_succ, z90]
          exact ⟨⟨fun _ => trivial, fun q => absurd cw q⟩, rfl, rfl, wz, z14, a4⟩
        · have nl' : lyB vl c < vl c := by rw [← ew, i_lt]; rw [i_le] at cw; omega
          rw [if_neg cw]
          have eB : lyB vl (c + 1) = vl c := by rw [lyB, if_pos nl']
          have eP : lyP vl (plc np m P) (c + 1) = plc np m P c := by rw [lyP, if_pos nl']
          have wm1 : ¬ w = -1 := by
            intro q
            have ge : ∀ k, -1 ≤ (lyB vl k).toInt := by
              intro k
              induction k with
              | zero => exact Int.le_refl _
              | succ k ih =>
                rw [lyB]
                split
                · rename_i q2; rw [i_lt] at q2; omega
                · exact ih
            have := ge c
            rw [q, i_le, i_m1] at cw
            omega
          obtain ⟨z0, ez0⟩ : ∃ z0, z0 = zp z 82 14 w := ⟨_, rfl⟩
          have wz0 : zWr [32, 33, 34, 35, 36, 89, 90] [(82, 14)] h z0 := by rw [ez0]; exact zWr_p (by decide) wz
          have z014 : zf z0 82 14 = w := by rw [ez0]; exact zm_in _ _ _ _
          have z089 : ∀ i, i < m → z0.2.1 89 i = nI (qd np c (m - 1 - i)) := fun i hi => by
            have e1 : z0.2.1 89 = z.2.1 89 := by rw [ez0]; exact (zWr_p (W := []) (F := [(82, 14)]) (by decide) (zWr.refl _ _)).arr 89 (by decide) (by decide)
            rw [e1]; exact z89 wm1 i hi
          rw [← ez0]
          have kk := zlp_k eF (b := fun t => f_Ground_search_l35_l87_b floor day (nI (pw np m)) (nI c) w t.1 t.2) (o := fun t => f_Ground_search_l35_l87_b_ok floor day (nI (pw np m)) (nI c) w t.1 t.2) m (by omega) 0
            (fun k u => zWr [90] [] z0 u ∧ ∀ i, i < k → u.2.1 90 i = nI (plc np m P c i)) z0
            ⟨zWr.refl _ _, fun i hi => by omega⟩
            (by
              rintro k u hk ⟨b1, b2⟩
              rw [Nat.zero_add]
              have u9 : zf u 82 9 = nI m := ((b1.fld 82 9 (by decide) (by decide)).trans (wz0.fld 82 9 (by decide) (by decide))).trans e9
              have g1 : ¬ (zf u 82 9 ≤ nI k) := by rw [u9, nx_le (by omega) (by omega)]; omega
              have ik : vp_in (nI k) 3 := vp_in_nI (by omega) (by omega)
              have l1 := lt (m - 1 - k)
              have u89 : zr u 89 (nI k) = nI (qd np c (m - 1 - k)) := by rw [zr_n u 89 (by omega), zf, b1.arr 89 (by decide) (by decide)]; exact z089 k hk
              have u86 : zr u 86 (nI (qd np c (m - 1 - k))) = nI (plc np m P c k) := by
                rw [zr_n u 86 (by omega), zf, b1.arr 86 (by decide) (by decide), wz0.arr 86 (by decide) (by decide)]
                exact e86 _ l1
              dsimp only
              unfold f_Ground_search_l35_l87_b f_Ground_search_l35_l87_b_ok
              rw [if_neg g1, u89, u86, zs_n _ 90 _ (by omega), ← nI_succ]
              refine ⟨⟨fun q => absurd q g1, fun _ => ⟨ik, vp_in_nI (by omega) (by omega), ik⟩⟩, _, rfl, zWr_si (by decide) b1, fun i hi => ?_⟩
              rw [zf_si, if_pos rfl]
              by_cases e : i = k
              · rw [if_pos e, e]
              · rw [if_neg e]; exact b2 i (by omega))
            (by
              rintro u ⟨b1, b2⟩
              rw [Nat.zero_add]
              have u9 : zf u 82 9 = nI m := ((b1.fld 82 9 (by decide) (by decide)).trans (wz0.fld 82 9 (by decide) (by decide))).trans e9
              have g1 : zf u 82 9 ≤ nI m := by rw [u9]; exact i_le_r _
              dsimp only
              unfold f_Ground_search_l35_l87_b f_Ground_search_l35_l87_b_ok
              rw [if_pos g1]
              exact ⟨⟨fun _ => trivial, fun q => absurd g1 q⟩, rfl⟩)
          obtain ⟨k1, u, k2, k3, k4⟩ := kk
          have k2 : f_Ground_search_l35_l87 floor day (nI (pw np m)) (nI c) w F (0, z0) = (1, nI (0 + m), u) := k2
          rw [k2]
          unfold f_Ground_search_l35_a87 f_Ground_search_l35_k121
          dsimp only
          rw [eB, eP, ← nI_succ]
          refine ⟨⟨fun q => absurd q cw, fun _ => ⟨k1, trivial⟩⟩, rfl, rfl, zWr_tr k3 (by decide) (by decide) wz0, ?_, fun _ => k4⟩
          rw [← ew]
          exact (k3.fld 82 14 (by decide) (by decide)).trans z014
      show f_Ground_search_l35_b_ok floor day (nI (pw np m)) (nI c) x ∧ _
      unfold f_Ground_search_l35_b f_Ground_search_l35_b_ok
      dsimp only
      rw [if_neg g0, ← ers, ← ey]
      unfold f_Ground_search_l35_k47_ok f_Ground_search_l35_k47 f_Ground_search_l35_k66_ok f_Ground_search_l35_k66 f_Ground_search_l35_k63_ok f_Ground_search_l35_k63
      have none : ¬ cnC nr S m rf (plc np m P c) sh → (-1 : Int32) = vl c := fun q => by
        rw [evl]; unfold vlT; rw [vlc_n (fun z => q z.1)]
      rcases s2 with ⟨b1, b2⟩ | ⟨b1, b2, b3⟩
      · rw [if_pos b1]
        obtain ⟨l1, l2, l3, l4, l5, l6⟩ := last y (-1) wy y14 y90 (none (fun z => b2 (iff0.mpr z).1)) (fun z => absurd rfl z)
        exact ⟨⟨fun z => absurd z g0, fun _ => ⟨s1, fun _ => l1, fun z => absurd b1 z⟩⟩, Or.inl ⟨l2, l3, l4, l5, l6⟩⟩
      · rw [if_neg b1]
        have Qy : I_ln nl y := by
          obtain ⟨⟨q1, q2, q3⟩, q4, q5, q6⟩ := Q
          refine ⟨⟨q1, (wy.fld 82 3 (by decide) (by decide)).trans q2, (wy.fld 92 37 (by decide) (by decide)).trans q3⟩, ?_, ?_, ?_⟩
          · rw [wy.arr 83 (by decide) (by decide), wy.arr 115 (by decide) (by decide)]; exact q4
          · rw [wy.arr 84 (by decide) (by decide), wy.arr 116 (by decide) (by decide)]; exact q5
          · rw [wy.arr 85 (by decide) (by decide), wy.arr 117 (by decide) (by decide)]; exact q6
        have yS : vC 38 y = S := by rw [eS]; exact vC_eq (fun i hi => wy.arr (38 + i) (by simp; omega) (by simp; omega))
        obtain ⟨o1, o2⟩ := io_N (ix := fun i => qd np c (m - 1 - i)) (P := P) hnp2 hm Qy ((wy.fld 82 9 (by decide) (by decide)).trans e9) (fun i hi => ⟨lt _, b3 i hi⟩) (fun k hk => by rw [wy.arr 86 (by decide) (by decide)]; exact e86 k hk) day
        rw [yS, wy.arr 115 (by decide) (by decide), wy.arr 116 (by decide) (by decide), wy.arr 117 (by decide) (by decide)] at o2
        have o2 : f_Ground_isOpen day y = 0 ↔ ¬ ∀ i, i < m → ¬ sh (plc np m P c i) ∧ tkn S (nI (plc np m P c i)) 10 = false := by rw [esh]; exact o2
        by_cases c2 : f_Ground_isOpen day y = 0
        · rw [if_pos c2]
          obtain ⟨l1, l2, l3, l4, l5, l6⟩ := last y (-1) wy y14 y90 (none (fun z => (o2.mp c2) (iff0.mpr z).2)) (fun z => absurd rfl z)
          exact ⟨⟨fun z => absurd z g0, fun _ => ⟨s1, fun z => absurd z b1, fun _ => ⟨o1, fun _ => l1, fun z => absurd c2 z⟩⟩⟩, Or.inl ⟨l2, l3, l4, l5, l6⟩⟩
        · rw [if_neg c2]
          have op : ∀ i, i < m → ¬ sh (plc np m P c i) ∧ tkn S (nI (plc np m P c i)) 10 = false := Classical.byContradiction (fun z => c2 (o2.mpr z))
          have can := iff0.mp ⟨b2, op⟩
          obtain ⟨t1', t2'⟩ := to_N (h := y) (nr := nr) (g := g) (many := m) (ns := ns) (np := np) (rf := rf) (pl := plc np m P c) (ix := fun i => qd np c (m - 1 - i)) (seas := seas) hnr ((wy.fld 23 0 (by decide) (by decide)).trans e23) (by rw [yS]; exact V) (fun r hr => by rw [wy.arr 24 (by decide) (by decide), wy.arr 25 (by decide) (by decide)]; exact hz r hr) (by rw [yS]; exact can.1) ((wy.fld 82 9 (by decide) (by decide)).trans e9) (fun i hi => by rw [wy.arr 87 (by decide) (by decide)]; exact e87 i hi) hnp2 (fun i hi => ⟨lt _, b3 i hi, by rw [wy.arr 86 (by decide) (by decide)]; exact e86 _ (lt _)⟩) ((wy.fld 82 11 (by decide) (by decide)).trans e11) hns (fun i hi => by rw [wy.arr 88 (by decide) (by decide)]; exact e88 i hi) floor
          rw [yS, wy.arr 24 (by decide) (by decide), wy.arr 25 (by decide) (by decide), ← esz, ← esu] at t2'
          have tw := f_Ground_tryOut_w floor y
          obtain ⟨rt, ert⟩ : ∃ rt, rt = f_Ground_tryOut floor y := ⟨_, rfl⟩
          rw [← ert] at t2' tw ⊢
          obtain ⟨z, ez⟩ : ∃ z, z = rt.2 := ⟨_, rfl⟩
          rw [← ez] at tw ⊢
          have vlv : rt.1 = vl c := by
            rw [vlc_t t2', evl]
            unfold vlT
            exact vlc_i ⟨fun q => ⟨can, q⟩, fun q => q.2⟩
          obtain ⟨l1, l2, l3, l4, l5, l6⟩ := last z rt.1 (zWr_tr tw (by decide) (by decide) wy) ((tw.fld 82 14 (by decide) (by decide)).trans y14) (by rw [tw.arr 90 (by decide) (by decide)]; exact y90) vlv (fun _ i hi => by rw [tw.arr 89 (by decide) (by decide)]; exact b3 i hi)
          exact ⟨⟨fun z => absurd z g0, fun _ => ⟨s1, fun z => absurd z b1, fun _ => ⟨o1, fun z => absurd z c2, fun _ => ⟨t1', l1⟩⟩⟩⟩, Or.inl ⟨l2, l3, l4, l5, l6⟩⟩)
    (by
      rintro ⟨v, x⟩ ⟨a1, a2, a3, a4⟩
      dsimp only at a1 a2 a3 a4
      subst a1
      have g0 : nI (pw np m) ≤ nI (pw np m) := i_le_r _
      show f_Ground_search_l35_b_ok floor day (nI (pw np m)) (nI (pw np m)) x ∧ _
      unfold f_Ground_search_l35_b f_Ground_search_l35_b_ok
      dsimp only
      rw [if_pos g0]
      exact ⟨⟨fun _ => trivial, fun z => absurd g0 z⟩, by simp, a3, a4⟩)
  obtain ⟨k1, k2, k3⟩ := key
  unfold f_Ground_search_a35 f_Ground_search_k127
  exact ⟨⟨t1, k1, trivial⟩, k2, k3⟩
