/-! ===== a LAYING: the model's best ===== -/
theorem pr_M {np m : Nat} {h : zm_H} (hnp : np ≤ 8) (hm : m ≤ 3) (e75 : zf h 92 75 = nI np) (v3 v4 v5 v6 : Int32) {F : Nat} (eF : F = zF) : f_M_laying_l203_ok (nI m) v3 v4 v5 v6 h F (1, 0) ∧ (f_M_laying_l203 (nI m) v3 v4 v5 v6 h F (1, 0)).2.1 = nI (pw np m) := by
  have key := zlpF eF (b := fun t => f_M_laying_l203_b (nI m) v3 v4 v5 v6 t.1 t.2 h) (o := fun t => f_M_laying_l203_b_ok (nI m) v3 v4 v5 v6 t.1 t.2 h) m (by omega)
    (fun k t => t = (nI (pw np k), nI k)) (fun r => r.2.1 = nI (pw np m)) (1, 0)
    (by rw [pw_0]; rfl)
    (by
      rintro k t hk rfl
      have g0 : ¬ (nI m ≤ nI k) := by rw [nx_le (by omega) (by omega)]; omega
      show f_M_laying_l203_b_ok (nI m) v3 v4 v5 v6 (nI (pw np k)) (nI k) h ∧ _
      unfold f_M_laying_l203_b
      dsimp only
      rw [if_neg g0, e75, pk_mul, ← nI_succ, pw_s]
      exact ⟨trivial, Or.inl ⟨rfl, rfl⟩⟩)
    (by
      rintro t rfl
      have g0 : nI m ≤ nI m := i_le_r _
      show f_M_laying_l203_b_ok (nI m) v3 v4 v5 v6 (nI (pw np m)) (nI m) h ∧ _
      unfold f_M_laying_l203_b
      dsimp only
      rw [if_pos g0]
      exact ⟨trivial, by simp, rfl⟩)
  exact key
theorem sm_M {nr g m np ns nl w n d f to : Nat} (hnr : nr ≤ 10) (hw : w ≤ 480) {h : zm_H} (e33 : zf h 92 33 = nI nr) (V : vOK nr g (vM 0 h)) (hz : ∀ r, r < nr → (1 ≤ (h.2.1 112 r).toInt ∧ (h.2.1 112 r).toInt ≤ 20) ∧ (2 ≤ (h.2.1 113 r).toInt ∧ (h.2.1 113 r).toInt ≤ 20)) (Q : I_ln nl h) (hnp2 : np ≤ 8) (e75 : zf h 92 75 = nI np) {P : Nat → Nat} (O : plO np P) (e148 : ∀ k, k < np → h.2.1 148 k = nI (P k)) (h1 : 1 ≤ m) (hm : m ≤ 3) {rf : Nat → Nat} (R : rfO nr (vM 0 h) m rf) (e159 : ∀ i, i < m → h.2.1 159 i = nI (rf i)) (W : I_sw w n d h) (et : zf h 92 23 = nI w) {v3 : Int32} (ef : v3 / 1000 = nI f) (eto : zm_rm v3 1000 = nI to) (hto : to < 480) (ens : f + ns = to + 1) {seas : Nat → Int32} (es : ∀ i, i < ns → seas i = seaP h n d (f + i)) (floor : Int32) {v5 : Int32} (h5 : v5 = -1 ∨ ∃ i, i < m ∧ v5 = nI i) {vl : Nat → Int32} (evl : vl = vlT nr (vM 0 h) m rf np P (fun p => sht (h.2.1 115) (h.2.1 116) (h.2.1 117) nl (nI p / 10) (nI w / 8)) (h.2.1 112) (h.2.1 113) seas ns floor) :
    f_M_laying_k224_ok (nI m) v3 floor v5 (nI (pw np m)) h ∧ (f_M_laying_k224 (nI m) v3 floor v5 (nI (pw np m)) h).1 = (if lyB vl (pw np m) = -1 then -1 else if v5 = -1 then lyB vl (pw np m) else nI (lyP vl (plc np m P) (pw np m) v5.toNatClampNeg)) ∧ vM 0 (f_M_laying_k224 (nI m) v3 floor v5 (nI (pw np m)) h).2 = vM 0 h := by
  have p512 := pw_le (a := np) (m := m) hnp2 hm
  unfold f_M_laying_k224_ok f_M_laying_k224
  obtain ⟨F, eF, -⟩ := zF_ex
  rw [← eF]
  obtain ⟨S, eS⟩ : ∃ S, S = vM 0 h := ⟨_, rfl⟩
  obtain ⟨sh, esh⟩ : ∃ sh : Nat → Prop, sh = fun p => sht (h.2.1 115) (h.2.1 116) (h.2.1 117) nl (nI p / 10) (nI w / 8) := ⟨_, rfl⟩
  obtain ⟨sz, esz⟩ : ∃ sz, sz = h.2.1 112 := ⟨_, rfl⟩
  obtain ⟨su, esu⟩ : ∃ su, su = h.2.1 113 := ⟨_, rfl⟩
  rw [← eS] at V R ⊢
  rw [← eS, ← esh, ← esz, ← esu] at evl
  have key := zlpF eF (b := fun t => f_M_laying_l230_b (nI m) v3 floor v5 (nI (pw np m)) t.1 t.2.1 t.2.2) (o := fun t => f_M_laying_l230_b_ok (nI m) v3 floor v5 (nI (pw np m)) t.1 t.2.1 t.2.2) (pw np m) (by omega)
    (fun c t => t.1 = lyB vl c ∧ t.2.1 = nI c ∧ zWr [123, 124, 151, 152, 153, 160, 161] [(92, 79), (92, 80), (92, 81)] h t.2.2 ∧ vM 0 t.2.2 = S ∧ (¬ lyB vl c = -1 → ∀ i, i < m → t.2.2.2.1 161 i = nI (lyP vl (plc np m P) c i)))
    (fun r => r.2.1 = lyB vl (pw np m) ∧ vM 0 r.2.2.2 = S ∧ (¬ lyB vl (pw np m) = -1 → ∀ i, i < m → r.2.2.2.2.1 161 i = nI (lyP vl (plc np m P) (pw np m) i))) (-1, 0, h)
    ⟨rfl, rfl, zWr.refl _ _, eS.symm, fun z => absurd rfl z⟩
    (by
      rintro c ⟨v8, v9, x⟩ hc ⟨a0, a1, a2, a3, a4⟩
      dsimp only at a0 a1 a2 a3 a4
      subst a0 a1
      have hnp : 1 ≤ np := by
        rcases (show np = 0 ∨ 1 ≤ np by omega) with z | z
        · rw [z, pw_z h1] at hc; omega
        · exact z
      have g0 : ¬ (nI (pw np m) ≤ nI c) := by rw [nx_le (by omega) (by omega)]; omega
      have xw : zf x 92 23 = nI w := (a2.fld 92 23 (by decide) (by decide)).trans et
      have x115 := a2.arr 115 (by decide) (by decide)
      have x116 := a2.arr 116 (by decide) (by decide)
      have x117 := a2.arr 117 (by decide) (by decide)
      obtain ⟨s1, r, er, s2, s3, s4⟩ := mc_M (h := x) (c := c) (g := g) (sh := sh) hnr hnp hnp2 h1 hm (by omega) ((a2.fld 92 33 (by decide) (by decide)).trans e33) (by rw [a3]; exact V) (I_ln_w a2 (by decide) (by decide) Q) xw ((a2.fld 92 75 (by decide) (by decide)).trans e75) O (fun k hk => by rw [a2.arr 148 (by decide) (by decide)]; exact e148 k hk) v3 floor v5 (nI (pw np m)) (lyB vl c) (nI c) eF (by rw [x115, x116, x117]; exact esh)
      rw [a3, cnA_iff hm hnp R O] at s2
      obtain ⟨y, ey⟩ : ∃ y, y = r.2.2.2.2 := ⟨_, rfl⟩
      rw [← ey] at s3 s4
      have wy : zWr [123, 124, 151, 152, 153, 160, 161] [(92, 79), (92, 80), (92, 81)] h y := zWr_tr s3 (by decide) (by decide) a2
      have yv : vM 0 y = S := by rw [← a3]; exact vM_eq (fun i hi => s3.arr i (by simp at hi ⊢; omega) (by simp)) (s3.2 127 (by simp)).2.1
      have y161 : y.2.1 161 = x.2.1 161 := s3.arr 161 (by decide) (by decide)
      have last : ∀ (z : zm_H) (u v11 : Int32), zWr [123, 124, 151, 152, 153, 160, 161] [(92, 79), (92, 80), (92, 81)] h z → vM 0 z = S → z.2.1 161 = x.2.1 161 → z.2.1 160 = y.2.1 160 → u = vl c →
          f_M_laying_l230_k393_ok (nI m) v3 floor v5 (nI (pw np m)) (lyB vl c) (nI c) v11 u z ∧ (f_M_laying_l230_k393 (nI m) v3 floor v5 (nI (pw np m)) (lyB vl c) (nI c) v11 u z).1 = 0 ∧ (f_M_laying_l230_k393 (nI m) v3 floor v5 (nI (pw np m)) (lyB vl c) (nI c) v11 u z).2.1 = lyB vl (c + 1) ∧ (f_M_laying_l230_k393 (nI m) v3 floor v5 (nI (pw np m)) (lyB vl c) (nI c) v11 u z).2.2.1 = nI (c + 1) ∧ zWr [123, 124, 151, 152, 153, 160, 161] [(92, 79), (92, 80), (92, 81)] h (f_M_laying_l230_k393 (nI m) v3 floor v5 (nI (pw np m)) (lyB vl c) (nI c) v11 u z).2.2.2 ∧ vM 0 (f_M_laying_l230_k393 (nI m) v3 floor v5 (nI (pw np m)) (lyB vl c) (nI c) v11 u z).2.2.2 = S ∧ (¬ lyB vl (c + 1) = -1 → ∀ i, i < m → (f_M_laying_l230_k393 (nI m) v3 floor v5 (nI (pw np m)) (lyB vl c) (nI c) v11 u z).2.2.2.2.1 161 i = nI (lyP vl (plc np m P) (c + 1) i)) := by
        intro z u v11 wz zv z161 z160 eu
        unfold f_M_laying_l230_k393_ok f_M_laying_l230_k393
        rw [← eF]
        by_cases cw : lyB vl c < u
        · have cw' : lyB vl c < vl c := by rw [← eu]; exact cw
          rw [if_pos cw]
          have eB : lyB vl (c + 1) = vl c := by rw [lyB, if_pos cw']
          have eP : lyP vl (plc np m P) (c + 1) = plc np m P c := by rw [lyP, if_pos cw']
          have kk := zlp_k eF (b := fun t => f_M_laying_l230_l412_b (nI m) v3 floor v5 (nI (pw np m)) u (nI c) u t.1 t.2) (o := fun t => f_M_laying_l230_l412_b_ok (nI m) v3 floor v5 (nI (pw np m)) u (nI c) u t.1 t.2) m (by omega) 0
            (fun k q => zWr [161] [] z q ∧ ∀ i, i < k → q.2.1 161 i = nI (plc np m P c i)) z
            ⟨zWr.refl _ _, fun i hi => by omega⟩
            (by
              rintro k q hk ⟨b1, b2⟩
              rw [Nat.zero_add]
              have g1 : ¬ (nI m ≤ nI k) := by rw [nx_le (by omega) (by omega)]; omega
              have ik : vp_in (nI k) 3 := vp_in_nI (by omega) (by omega)
              have q160 : zr q 160 (nI k) = nI (plc np m P c k) := by rw [zr_n q 160 (by omega), zf, b1.arr 160 (by decide) (by decide), z160]; exact s4 k hk
              dsimp only
              unfold f_M_laying_l230_l412_b f_M_laying_l230_l412_b_ok
              rw [if_neg g1, q160, zs_n _ 161 _ (by omega), ← nI_succ]
              refine ⟨⟨fun q => absurd q g1, fun _ => ⟨ik, ik⟩⟩, _, rfl, zWr_si (by decide) b1, fun i hi => ?_⟩
              rw [zf_si, if_pos rfl]
              by_cases e : i = k
              · rw [if_pos e, e]
              · rw [if_neg e]; exact b2 i (by omega))
            (by
              rintro q ⟨b1, b2⟩
              rw [Nat.zero_add]
              have g1 : nI m ≤ nI m := i_le_r _
              dsimp only
              unfold f_M_laying_l230_l412_b f_M_laying_l230_l412_b_ok
              rw [if_pos g1]
              exact ⟨⟨fun _ => trivial, fun q => absurd g1 q⟩, rfl⟩)
          obtain ⟨k1, q, k2, k3, k4⟩ := kk
          have k2 : f_M_laying_l230_l412 (nI m) v3 floor v5 (nI (pw np m)) u (nI c) u F (0, z) = (1, nI (0 + m), q) := k2
          rw [k2]
          unfold f_M_laying_l230_a412 f_M_laying_l230_k438
          dsimp only
          rw [eB, eP, ← nI_succ]
          refine ⟨⟨fun _ => ⟨k1, trivial⟩, fun q => absurd cw q⟩, rfl, eu, rfl, zWr_tr k3 (by decide) (by decide) wz, ?_, fun _ => k4⟩
          rw [← zv]
          exact vM_eq (fun i hi => k3.arr i (by simp at hi ⊢; omega) (by simp)) (k3.2 127 (by simp)).2.1
        · have cw' : ¬ (lyB vl c < vl c) := by rw [← eu]; exact cw
          rw [if_neg cw]
          unfold f_M_laying_l230_k438
          have eB : lyB vl (c + 1) = lyB vl c := by rw [lyB, if_neg cw']
          have eP : lyP vl (plc np m P) (c + 1) = lyP vl (plc np m P) c := by rw [lyP, if_neg cw']
          rw [eB, eP, ← nI_succ, z161]
          exact ⟨⟨fun q => absurd q cw, fun _ => trivial⟩, rfl, rfl, rfl, wz, zv, a4⟩
      show f_M_laying_l230_b_ok (nI m) v3 floor v5 (nI (pw np m)) (lyB vl c) (nI c) x ∧ _
      unfold f_M_laying_l230_b f_M_laying_l230_b_ok
      dsimp only
      rw [if_neg g0, ← eF, ← er]
      unfold f_M_laying_l230_a249 f_M_laying_l230_a249_ok f_M_laying_l230_k376 f_M_laying_l230_k376_ok f_M_laying_l230_k389 f_M_laying_l230_k389_ok
      rw [← ey]
      rcases s2 with ⟨b1, can⟩ | ⟨b1, can⟩
      · have n1 : ¬ r.2.2.1 = 0 := by rw [b1]; decide
        rw [if_neg n1]
        have eS2 : ∀ t, seaP y n d t = seaP h n d t := fun t => seaP_eq (fun i hi => wy.arr i (by simp at hi ⊢; omega) (by simp at hi ⊢; omega)) n d t
        obtain ⟨t1', t2', t3'⟩ := wo_M (h := y) (nr := nr) (g := g) (many := m) (n := n) (d := d) (w := w) (f := f) (to := to) (ns := ns) (rf := rf) (pl := plc np m P c) (v2 := v3) (seas := seas) hnr hw ((wy.fld 92 33 (by decide) (by decide)).trans e33) (by rw [yv]; exact V) (fun r hr => by rw [wy.arr 112 (by decide) (by decide), wy.arr 113 (by decide) (by decide)]; exact hz r hr) (by rw [yv]; exact can.1) (fun i hi => by rw [wy.arr 159 (by decide) (by decide)]; exact e159 i hi) s4 (I_sw_z (wy.eq (by decide) (by decide)) W) ((wy.fld 92 23 (by decide) (by decide)).trans et) ef eto hto ens (fun i hi => by rw [eS2]; exact es i hi) floor
        rw [yv, wy.arr 112 (by decide) (by decide), wy.arr 113 (by decide) (by decide), ← esz, ← esu] at t2'
        have tw := f_M_worth_w (nI m) v3 floor y
        obtain ⟨rt, ert⟩ : ∃ rt, rt = f_M_worth (nI m) v3 floor y := ⟨_, rfl⟩
        rw [← ert] at t2' t3' tw ⊢
        obtain ⟨z, ez⟩ : ∃ z, z = rt.2 := ⟨_, rfl⟩
        rw [← ez] at tw t3' ⊢
        have vlv : rt.1 = vl c := by
          rw [vlc_t t2', evl]
          unfold vlT
          exact vlc_i ⟨fun q => ⟨can, q⟩, fun q => q.2⟩
        obtain ⟨l1, l2, l3, l4, l5, l6, l7⟩ := last z rt.1 r.2.2.1 (zWr_tr tw (by decide) (by decide) wy) (by rw [t3']; exact yv) (by rw [tw.arr 161 (by decide) (by decide)]; exact y161) (tw.arr 160 (by decide) (by decide)) vlv
        exact ⟨⟨fun z => absurd z g0, fun _ => ⟨s1, fun z => absurd z n1, fun _ => ⟨t1', l1⟩⟩⟩, Or.inl ⟨l2, l3, l4, l5, l6, l7⟩⟩
      · rw [if_pos b1]
        have none : (-1 : Int32) = vl c := by rw [evl]; unfold vlT; rw [vlc_n (fun z => can z.1)]
        obtain ⟨l1, l2, l3, l4, l5, l6, l7⟩ := last y (-1) r.2.2.1 wy yv y161 rfl none
        exact ⟨⟨fun z => absurd z g0, fun _ => ⟨s1, fun _ => l1, fun z => absurd b1 z⟩⟩, Or.inl ⟨l2, l3, l4, l5, l6, l7⟩⟩)
    (by
      rintro ⟨v8, v9, x⟩ ⟨a0, a1, a2, a3, a4⟩
      dsimp only at a0 a1 a2 a3 a4
      subst a0 a1
      have g0 : nI (pw np m) ≤ nI (pw np m) := i_le_r _
      show f_M_laying_l230_b_ok (nI m) v3 floor v5 (nI (pw np m)) (lyB vl (pw np m)) (nI (pw np m)) x ∧ _
      unfold f_M_laying_l230_b f_M_laying_l230_b_ok
      dsimp only
      rw [if_pos g0]
      exact ⟨⟨fun _ => trivial, fun z => absurd g0 z⟩, by simp, rfl, a3, a4⟩)
  obtain ⟨k1, k2, k3, k4⟩ := key
  obtain ⟨r, er⟩ : ∃ r, r = f_M_laying_l230 (nI m) v3 floor v5 (nI (pw np m)) F (-1, 0, h) := ⟨_, rfl⟩
  have k2 : r.2.1 = lyB vl (pw np m) := by rw [er]; exact k2
  have k3 : vM 0 r.2.2.2 = S := by rw [er]; exact k3
  have k4 : ¬ lyB vl (pw np m) = -1 → ∀ i, i < m → r.2.2.2.2.1 161 i = nI (lyP vl (plc np m P) (pw np m) i) := by rw [er]; exact k4
  rw [← er]
  unfold f_M_laying_a230_ok f_M_laying_a230 f_M_laying_k444_ok f_M_laying_k444
  rw [k2]
  refine ⟨⟨k1, fun _ => trivial, fun z => ⟨fun _ => trivial, fun y => ?_⟩⟩, ?_, k3⟩
  · rcases h5 with q | ⟨i, hi, q⟩
    · exact absurd q y
    · rw [q]; exact vp_in_nI (by omega) (by omega)
  · dsimp only
    by_cases c : lyB vl (pw np m) = -1
    · rw [if_pos c, if_pos c]
    · rw [if_neg c, if_neg c]
      by_cases c2 : v5 = -1
      · rw [if_pos c2, if_pos c2]
      · rw [if_neg c2, if_neg c2]
        rcases h5 with q | ⟨i, hi, q⟩
        · exact absurd q c2
        · rw [q, zr_n _ 161 (by omega), nI_c (by omega)]; exact k4 c i hi
