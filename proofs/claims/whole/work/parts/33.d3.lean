/-! ===== the code as functions, 3 ===== -/
def f_M_next_l20_l29_b_ok (v1 : Int32) (v2 : Int32) (v3 : Int32) (v4 : Int32) (h : zm_H) : Prop := (((16 ≤ v4) → True) ∧ (¬ (16 ≤ v4) → (f_M_bits_ok ((zf h 92 78) &&& ((1 <<< ((v4 + 1) &&& 31)) - (1 <<< (v3 &&& 31)))) h ∧ f_M_bits_ok (zf h 92 78) h)))
def f_M_next_l20_l29 (v3 : Int32) (h : zm_H) (n : Nat) (t : Int32 × Int32 × Int32) : Nat × Int32 × Int32 × Int32 := zwh (fun t => f_M_next_l20_l29_b t.1 t.2.1 v3 t.2.2 h) n t
def f_M_next_l20_l29_ok (v3 : Int32) (h : zm_H) (n : Nat) (t : Int32 × Int32 × Int32) : Prop := zwo (fun t => f_M_next_l20_l29_b t.1 t.2.1 v3 t.2.2 h) (fun t => f_M_next_l20_l29_b_ok t.1 t.2.1 v3 t.2.2 h) n t
def f_M_next_l20_k106 (v1 : Int32) (v2 : Int32) (v3 : Int32) (h : zm_H) : Nat × Int32 × Int32 × Int32 := (0, v1, v2, (v3 + 1))
def f_M_next_l20_k106_ok (v1 : Int32) (v2 : Int32) (v3 : Int32) (h : zm_H) : Prop := True
def f_M_next_l20_a29 (v3 : Int32) (r : Nat × Int32 × Int32 × Int32) (h : zm_H) : Nat × Int32 × Int32 × Int32 := (f_M_next_l20_k106 (r.2.1) (r.2.2.1) v3 h)
def f_M_next_l20_a29_ok (v3 : Int32) (r : Nat × Int32 × Int32 × Int32) (h : zm_H) : Prop := True
def f_M_next_l20_b (v1 : Int32) (v2 : Int32) (v3 : Int32) (h : zm_H) : Nat × Int32 × Int32 × Int32 := (if (16 ≤ v3) then (1, v1, v2, v3) else (f_M_next_l20_a29 v3 (f_M_next_l20_l29 v3 h zF (v1, v2, v3)) h))
def f_M_next_l20_b_ok (v1 : Int32) (v2 : Int32) (v3 : Int32) (h : zm_H) : Prop := (((16 ≤ v3) → True) ∧ (¬ (16 ≤ v3) → (f_M_next_l20_l29_ok v3 h zF (v1, v2, v3) ∧ f_M_next_l20_a29_ok v3 (f_M_next_l20_l29 v3 h zF (v1, v2, v3)) h)))
def f_M_next_l20 (h : zm_H) (n : Nat) (t : Int32 × Int32 × Int32) : Nat × Int32 × Int32 × Int32 := zwh (fun t => f_M_next_l20_b t.1 t.2.1 t.2.2 h) n t
def f_M_next_l20_ok (h : zm_H) (n : Nat) (t : Int32 × Int32 × Int32) : Prop := zwo (fun t => f_M_next_l20_b t.1 t.2.1 t.2.2 h) (fun t => f_M_next_l20_b_ok t.1 t.2.1 t.2.2 h) n t
def f_M_next_k112 (v2 : Int32) (h : zm_H) : Int32 := v2
def f_M_next_k112_ok (v2 : Int32) (h : zm_H) : Prop := True
def f_M_next_a20 (r : Nat × Int32 × Int32 × Int32) (h : zm_H) : Int32 := (f_M_next_k112 (r.2.2.1) h)
def f_M_next_a20_ok (r : Nat × Int32 × Int32 × Int32) (h : zm_H) : Prop := True
def f_M_next (h : zm_H) : Int32 := (if (2 ≤ (f_M_bits (zf h 92 78) h)) then (f_M_next_a20 (f_M_next_l20 h zF (17, (-1), 0)) h) else (-1))
def f_M_next_ok (h : zm_H) : Prop := (f_M_bits_ok (zf h 92 78) h ∧ (((2 ≤ (f_M_bits (zf h 92 78) h)) → (f_M_next_l20_ok h zF (17, (-1), 0) ∧ f_M_next_a20_ok (f_M_next_l20 h zF (17, (-1), 0)) h)) ∧ (¬ (2 ≤ (f_M_bits (zf h 92 78) h)) → True)))
def f_Harbour_onShore (p1 : Int32) (h : zm_H) : Int32 := (if (p1 < 0) then ((-1) : Int32) else (if (3 ≤ p1) then ((-1) : Int32) else (zr h 64 p1)))
def f_Harbour_onShore_ok (p1 : Int32) (h : zm_H) : Prop := (((p1 < 0) → True) ∧ (¬ (p1 < 0) → (((3 ≤ p1) → True) ∧ (¬ (3 ≤ p1) → vp_in p1 3))))
def f_N_count (p1 : Int32) (h : zm_H) : Int32 := (if p1 = 0 then (zf h 0 0) else (if p1 = 1 then (zf h 23 0) else (if p1 = 2 then (zf h 1 0) else (if p1 = 3 then (zf h 1 1) else (if p1 = 4 then (zf h 15 0) else (if p1 = 5 then (zf h 23 4) else (if p1 = 6 then (zf h 82 3) else (if p1 = 7 then (zf h 10 1) else (if p1 = 8 then (zf h 91 1) else (if p1 = 9 then (zf h 72 2) else (if p1 = 10 then (zf h 82 7) else (f_Harbour_onShore (p1 - 20) h))))))))))))
def f_N_count_ok (p1 : Int32) (h : zm_H) : Prop := ((p1 = 0 → True) ∧ (¬ p1 = 0 → ((p1 = 1 → True) ∧ (¬ p1 = 1 → ((p1 = 2 → True) ∧ (¬ p1 = 2 → ((p1 = 3 → True) ∧ (¬ p1 = 3 → ((p1 = 4 → True) ∧ (¬ p1 = 4 → ((p1 = 5 → True) ∧ (¬ p1 = 5 → ((p1 = 6 → True) ∧ (¬ p1 = 6 → ((p1 = 7 → True) ∧ (¬ p1 = 7 → ((p1 = 8 → True) ∧ (¬ p1 = 8 → ((p1 = 9 → True) ∧ (¬ p1 = 9 → ((p1 = 10 → True) ∧ (¬ p1 = 10 → f_Harbour_onShore_ok (p1 - 20) h))))))))))))))))))))))
def f_M_count (p1 : Int32) (h : zm_H) : Int32 := (if (¬ (p1 < 20) ∧ (¬ (22 < p1))) then (zr h 137 (p1 - 20)) else (if p1 = 0 then (zf h 92 23) else (if p1 = 1 then (zf h 92 33) else (if p1 = 2 then (zf h 92 24) else (if p1 = 3 then (zf h 92 28) else (if p1 = 4 then (zf h 92 15) else (if p1 = 5 then (zf h 92 41) else (if p1 = 6 then (zf h 92 37) else (if p1 = 7 then (zf h 92 1) else (if p1 = 8 then (zf h 92 78) else (if p1 = 9 then (zf h 92 72) else (if p1 = 10 then (zf h 92 75) else (-1)))))))))))))
def f_M_count_ok (p1 : Int32) (h : zm_H) : Prop := (((¬ (p1 < 20) ∧ (¬ (22 < p1))) → vp_in (p1 - 20) 3) ∧ (¬ (¬ (p1 < 20) ∧ (¬ (22 < p1))) → True))
