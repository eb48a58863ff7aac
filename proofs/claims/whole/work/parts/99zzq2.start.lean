/-! ===== the law's loop begins ===== -/
theorem zk_first {x : zm_X} {Q : Option Value → zm_H → Prop} (k : ∀ h, zSh zT0 h → Inv h → zg x 300 268 18 [some (.ref 1000001), some (.ref 0), some (.ref 92), some (.int 0)] [] h Q) : zg x 300 268 0 (zm_en 268 [.ref 1000001]) [] zm_h0 (fun v h => ∃ v' h', v = v'.map rnV ∧ h = rnH h' ∧ Q v' h') := by
  have u1 := zk_g1 zk_c1_ok
  have u2 := zk_g2 zk_c2_ok
  obtain ⟨D, eD⟩ : ∃ D : zkD, D = (zk_K2, zk_W2) := ⟨_, rfl⟩
  have h4 : zk_cn D = true := by rw [eD]; exact zk_c3_ok
  rw [← eD] at u2
  obtain ⟨h3, h2⟩ := zk_cn_ok h4
  have e : zm_h0 = zkH ([], []) := by
    unfold zm_h0 zkH
    have a : (fun (_ _ : Nat) => (0 : Int32)) = zkI [] := by funext i j; rfl
    have b : (fun (_ _ : Nat) => (none : Option Nat)) = zkR [] := by funext i j; rfl
    rw [a, b]
  rw [e]
  refine zk_U_ok _ _ _ _ _ _ _ u1 (fun w hw => by cases hw) (fun o1 => ?_)
  refine zk_U_ok _ _ _ _ _ _ _ u2 o1 (fun _ => ?_)
  obtain ⟨g1, g2, g3⟩ := zk_ck_ok h2
  have hl : (zkH (zk_rd D)).1.length = 165 := by show (zk_rd D).1.length = 165; rw [g1]; rfl
  rw [zkH_rn h3]
  exact rn_zg (ls := [some (.ref 1000001), some (.ref 0), some (.ref 92), some (.int 0)]) (st := []) (Nat.le_of_eq hl.symm) (k _ (zk_sh h2) (Inv_0 g2 rfl hl))
