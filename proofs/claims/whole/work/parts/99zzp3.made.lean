/-! ===== what the makers leave is what the names say ===== -/
set_option maxRecDepth 100000 in
theorem zk_d1 : decide (zk_K2 = rnK zT0.1) = true := by decide +kernel
set_option maxRecDepth 100000 in
theorem zk_d2 : zk_W2.all zk_it = true := by decide +kernel
set_option maxRecDepth 100000 in
theorem zk_d3 : ([(2, 480), (42, 10), (55, 10), (48, 30), (61, 30), (69, 3), (127, 20), (133, 60)] : List (Nat × Nat)).all (fun p => decide (zk_ks p.1 zk_W2 = (List.range p.2).reverse)) = true := by decide +kernel
set_option maxRecDepth 100000 in
theorem zk_d4 : ([(0, 1), (0, 2), (95, 47), (95, 48), (94, 1), (95, 78)] : List (Nat × Nat)).all (fun p => (zk_ks p.1 zk_W2).contains p.2) = true := by decide +kernel
set_option maxRecDepth 100000 in
theorem zk_d5 : zk_rg zk_W2 = true := by decide +kernel
theorem zk_c3_ok : zk_cn (zk_K2, zk_W2) = true := by
  unfold zk_cn
  rw [Bool.and_eq_true, Bool.and_eq_true, Bool.and_eq_true, Bool.and_eq_true]
  exact ⟨zk_d1, zk_d2, zk_d3, zk_d4, zk_d5⟩
