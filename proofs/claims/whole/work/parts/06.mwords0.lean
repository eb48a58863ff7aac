/-! ===== BEGIN printed by a program of ours: the words of each method ===== -/
abbrev zm_MW : Type := (Nat × Nat) × (Nat × Nat) × (Nat × Nat) × (Nat × Nat) × Nat × Nat
def zm_mwk (m : Nat) (q : zm_MW) : Prop :=
  (zm_tb q.1.1)[q.1.2]? = some (Cond.code (zm_y m) (zm_b m) (zm_ml m) (zm_rt m)) ∧ (zm_tb q.2.1.1)[q.2.1.2]? = some (if q.2.2.2.2.1 = 2 then Cond.static (zm_y m) else Cond.instanceMethod (zm_y m)) ∧ (zm_tb q.2.2.1.1)[q.2.2.1.2]? = some (Cond.initialized (zm_y m).cls) ∧ (q.2.2.2.2.1 = 0 → (zm_tb q.2.2.2.1.1)[q.2.2.2.1.2]? = some (Cond.selects (zm_y m).cls (zm_y m) (zm_y m))) ∧ (q.2.2.2.2.1 = 1 → (zm_y m).name = "<init>")
  ∧ ((zm_y m).cls ≠ "java/lang/invoke/MethodHandle" ∧ (zm_y m).cls ≠ "java/lang/invoke/VarHandle" ∧ (parseMethodDescriptor (zm_y m).desc).map (fun d => d.parameters.length) = some q.2.2.2.2.2) ∧ plainName (zm_y m).cls = true ∧ (zm_y m).cls = zm_cn (zm_oc m)
def zw_0 : zm_MW := ((2, 224), (2, 223), (1, 12), (0, 0), 1, 0)
set_option maxRecDepth 100000 in
theorem zw_0_ok : zm_mwk 0 zw_0 := by unfold zm_mwk; decide +kernel
def zw_1 : zm_MW := ((6, 114), (6, 113), (1, 12), (0, 101), 0, 3)
set_option maxRecDepth 100000 in
theorem zw_1_ok : zm_mwk 1 zw_1 := by unfold zm_mwk; decide +kernel
def zw_2 : zm_MW := ((6, 117), (6, 116), (1, 12), (0, 0), 2, 2)
set_option maxRecDepth 100000 in
theorem zw_2_ok : zm_mwk 2 zw_2 := by unfold zm_mwk; decide +kernel
def zw_3 : zm_MW := ((6, 125), (6, 124), (1, 12), (0, 102), 0, 0)
set_option maxRecDepth 100000 in
theorem zw_3_ok : zm_mwk 3 zw_3 := by unfold zm_mwk; decide +kernel
def zw_4 : zm_MW := ((2, 2), (2, 1), (1, 8), (0, 0), 1, 3)
set_option maxRecDepth 100000 in
theorem zw_4_ok : zm_mwk 4 zw_4 := by unfold zm_mwk; decide +kernel
def zw_5 : zm_MW := ((4, 159), (4, 158), (1, 8), (0, 33), 0, 3)
set_option maxRecDepth 100000 in
theorem zw_5_ok : zm_mwk 5 zw_5 := by unfold zm_mwk; decide +kernel
def zw_6 : zm_MW := ((4, 163), (4, 162), (1, 8), (0, 34), 0, 1)
set_option maxRecDepth 100000 in
theorem zw_6_ok : zm_mwk 6 zw_6 := by unfold zm_mwk; decide +kernel
def zw_7 : zm_MW := ((4, 167), (4, 166), (1, 8), (0, 35), 0, 1)
set_option maxRecDepth 100000 in
theorem zw_7_ok : zm_mwk 7 zw_7 := by unfold zm_mwk; decide +kernel
def zw_8 : zm_MW := ((4, 179), (4, 178), (1, 8), (0, 38), 0, 1)
set_option maxRecDepth 100000 in
theorem zw_8_ok : zm_mwk 8 zw_8 := by unfold zm_mwk; decide +kernel
def zw_9 : zm_MW := ((4, 184), (4, 183), (1, 8), (0, 39), 0, 4)
set_option maxRecDepth 100000 in
theorem zw_9_ok : zm_mwk 9 zw_9 := by unfold zm_mwk; decide +kernel
def zw_10 : zm_MW := ((4, 188), (4, 187), (1, 8), (0, 40), 0, 3)
set_option maxRecDepth 100000 in
theorem zw_10_ok : zm_mwk 10 zw_10 := by unfold zm_mwk; decide +kernel
def zw_11 : zm_MW := ((4, 192), (4, 191), (1, 8), (0, 41), 0, 1)
set_option maxRecDepth 100000 in
theorem zw_11_ok : zm_mwk 11 zw_11 := by unfold zm_mwk; decide +kernel
def zw_12 : zm_MW := ((5, 22), (5, 21), (1, 8), (0, 50), 0, 2)
set_option maxRecDepth 100000 in
theorem zw_12_ok : zm_mwk 12 zw_12 := by unfold zm_mwk; decide +kernel
def zw_13 : zm_MW := ((5, 28), (5, 27), (1, 8), (0, 51), 0, 1)
set_option maxRecDepth 100000 in
theorem zw_13_ok : zm_mwk 13 zw_13 := by unfold zm_mwk; decide +kernel
def zw_14 : zm_MW := ((5, 33), (5, 32), (1, 8), (0, 52), 0, 3)
set_option maxRecDepth 100000 in
theorem zw_14_ok : zm_mwk 14 zw_14 := by unfold zm_mwk; decide +kernel
def zw_15 : zm_MW := ((5, 37), (5, 36), (1, 8), (0, 53), 0, 1)
set_option maxRecDepth 100000 in
theorem zw_15_ok : zm_mwk 15 zw_15 := by unfold zm_mwk; decide +kernel
def zw_16 : zm_MW := ((5, 41), (5, 40), (1, 8), (0, 54), 0, 1)
set_option maxRecDepth 100000 in
theorem zw_16_ok : zm_mwk 16 zw_16 := by unfold zm_mwk; decide +kernel
def zw_17 : zm_MW := ((5, 45), (5, 44), (1, 8), (0, 55), 0, 1)
set_option maxRecDepth 100000 in
theorem zw_17_ok : zm_mwk 17 zw_17 := by unfold zm_mwk; decide +kernel
def zw_18 : zm_MW := ((5, 52), (5, 51), (1, 8), (0, 56), 0, 2)
set_option maxRecDepth 100000 in
theorem zw_18_ok : zm_mwk 18 zw_18 := by unfold zm_mwk; decide +kernel
def zw_19 : zm_MW := ((5, 56), (5, 55), (1, 8), (0, 57), 0, 1)
set_option maxRecDepth 100000 in
theorem zw_19_ok : zm_mwk 19 zw_19 := by unfold zm_mwk; decide +kernel
def zw_20 : zm_MW := ((5, 93), (5, 92), (1, 8), (0, 63), 0, 2)
set_option maxRecDepth 100000 in
theorem zw_20_ok : zm_mwk 20 zw_20 := by unfold zm_mwk; decide +kernel
def zw_21 : zm_MW := ((5, 97), (5, 96), (1, 8), (0, 64), 0, 1)
set_option maxRecDepth 100000 in
theorem zw_21_ok : zm_mwk 21 zw_21 := by unfold zm_mwk; decide +kernel
def zw_22 : zm_MW := ((5, 103), (5, 102), (1, 8), (0, 65), 0, 2)
set_option maxRecDepth 100000 in
theorem zw_22_ok : zm_mwk 22 zw_22 := by unfold zm_mwk; decide +kernel
def zw_23 : zm_MW := ((5, 109), (5, 108), (1, 8), (0, 66), 0, 3)
set_option maxRecDepth 100000 in
theorem zw_23_ok : zm_mwk 23 zw_23 := by unfold zm_mwk; decide +kernel
def zw_24 : zm_MW := ((5, 113), (5, 112), (1, 8), (0, 67), 0, 3)
set_option maxRecDepth 100000 in
theorem zw_24_ok : zm_mwk 24 zw_24 := by unfold zm_mwk; decide +kernel
def zw_25 : zm_MW := ((5, 119), (5, 118), (1, 8), (0, 68), 0, 3)
set_option maxRecDepth 100000 in
theorem zw_25_ok : zm_mwk 25 zw_25 := by unfold zm_mwk; decide +kernel
def zw_26 : zm_MW := ((5, 123), (5, 122), (1, 8), (0, 69), 0, 1)
set_option maxRecDepth 100000 in
theorem zw_26_ok : zm_mwk 26 zw_26 := by unfold zm_mwk; decide +kernel
def zw_27 : zm_MW := ((5, 127), (5, 126), (1, 8), (0, 70), 0, 1)
set_option maxRecDepth 100000 in
theorem zw_27_ok : zm_mwk 27 zw_27 := by unfold zm_mwk; decide +kernel
def zw_28 : zm_MW := ((5, 153), (5, 152), (1, 8), (0, 73), 0, 3)
set_option maxRecDepth 100000 in
theorem zw_28_ok : zm_mwk 28 zw_28 := by unfold zm_mwk; decide +kernel
def zw_29 : zm_MW := ((5, 157), (5, 156), (1, 8), (0, 74), 0, 2)
set_option maxRecDepth 100000 in
theorem zw_29_ok : zm_mwk 29 zw_29 := by unfold zm_mwk; decide +kernel
def zw_30 : zm_MW := ((5, 169), (5, 168), (1, 8), (0, 76), 0, 2)
set_option maxRecDepth 100000 in
theorem zw_30_ok : zm_mwk 30 zw_30 := by unfold zm_mwk; decide +kernel
def zw_31 : zm_MW := ((5, 182), (5, 181), (1, 8), (0, 78), 0, 0)
set_option maxRecDepth 100000 in
theorem zw_31_ok : zm_mwk 31 zw_31 := by unfold zm_mwk; decide +kernel
def zw_32 : zm_MW := ((2, 165), (2, 164), (1, 11), (0, 0), 1, 3)
set_option maxRecDepth 100000 in
theorem zw_32_ok : zm_mwk 32 zw_32 := by unfold zm_mwk; decide +kernel
def zw_33 : zm_MW := ((4, 137), (4, 136), (1, 11), (0, 30), 0, 3)
set_option maxRecDepth 100000 in
theorem zw_33_ok : zm_mwk 33 zw_33 := by unfold zm_mwk; decide +kernel
def zw_34 : zm_MW := ((4, 171), (4, 170), (1, 11), (0, 36), 0, 2)
set_option maxRecDepth 100000 in
theorem zw_34_ok : zm_mwk 34 zw_34 := by unfold zm_mwk; decide +kernel
def zw_35 : zm_MW := ((6, 57), (6, 56), (1, 11), (0, 93), 0, 1)
set_option maxRecDepth 100000 in
theorem zw_35_ok : zm_mwk 35 zw_35 := by unfold zm_mwk; decide +kernel
def zw_36 : zm_MW := ((6, 69), (6, 68), (1, 11), (0, 94), 0, 2)
set_option maxRecDepth 100000 in
theorem zw_36_ok : zm_mwk 36 zw_36 := by unfold zm_mwk; decide +kernel
def zw_37 : zm_MW := ((6, 74), (6, 73), (1, 11), (0, 95), 0, 2)
set_option maxRecDepth 100000 in
theorem zw_37_ok : zm_mwk 37 zw_37 := by unfold zm_mwk; decide +kernel
def zw_38 : zm_MW := ((6, 79), (6, 78), (1, 11), (0, 96), 0, 2)
set_option maxRecDepth 100000 in
theorem zw_38_ok : zm_mwk 38 zw_38 := by unfold zm_mwk; decide +kernel
def zw_39 : zm_MW := ((6, 83), (6, 82), (1, 11), (0, 97), 0, 1)
set_option maxRecDepth 100000 in
theorem zw_39_ok : zm_mwk 39 zw_39 := by unfold zm_mwk; decide +kernel
def zw_40 : zm_MW := ((6, 87), (6, 86), (1, 11), (0, 98), 0, 1)
set_option maxRecDepth 100000 in
theorem zw_40_ok : zm_mwk 40 zw_40 := by unfold zm_mwk; decide +kernel
def zw_41 : zm_MW := ((6, 93), (6, 92), (1, 11), (0, 99), 0, 1)
set_option maxRecDepth 100000 in
theorem zw_41_ok : zm_mwk 41 zw_41 := by unfold zm_mwk; decide +kernel
def zw_42 : zm_MW := ((6, 101), (6, 100), (1, 11), (0, 100), 0, 2)
set_option maxRecDepth 100000 in
theorem zw_42_ok : zm_mwk 42 zw_42 := by unfold zm_mwk; decide +kernel
def zw_43 : zm_MW := ((2, 69), (2, 68), (1, 9), (0, 0), 1, 3)
set_option maxRecDepth 100000 in
theorem zw_43_ok : zm_mwk 43 zw_43 := by unfold zm_mwk; decide +kernel
def zw_44 : zm_MW := ((4, 218), (4, 217), (1, 9), (0, 44), 0, 2)
set_option maxRecDepth 100000 in
theorem zw_44_ok : zm_mwk 44 zw_44 := by unfold zm_mwk; decide +kernel
def zw_45 : zm_MW := ((5, 134), (5, 133), (1, 9), (0, 71), 0, 1)
set_option maxRecDepth 100000 in
theorem zw_45_ok : zm_mwk 45 zw_45 := by unfold zm_mwk; decide +kernel
def zw_46 : zm_MW := ((5, 138), (5, 137), (1, 9), (0, 72), 0, 2)
set_option maxRecDepth 100000 in
theorem zw_46_ok : zm_mwk 46 zw_46 := by unfold zm_mwk; decide +kernel
def zw_47 : zm_MW := ((5, 145), (5, 144), (1, 9), (0, 0), 2, 1)
set_option maxRecDepth 100000 in
theorem zw_47_ok : zm_mwk 47 zw_47 := by unfold zm_mwk; decide +kernel
def zw_48 : zm_MW := ((5, 202), (5, 201), (1, 9), (0, 79), 0, 2)
set_option maxRecDepth 100000 in
theorem zw_48_ok : zm_mwk 48 zw_48 := by unfold zm_mwk; decide +kernel
def zw_49 : zm_MW := ((5, 213), (5, 212), (1, 9), (0, 80), 0, 3)
set_option maxRecDepth 100000 in
theorem zw_49_ok : zm_mwk 49 zw_49 := by unfold zm_mwk; decide +kernel
def zw_50 : zm_MW := ((5, 221), (5, 220), (1, 9), (0, 81), 0, 5)
set_option maxRecDepth 100000 in
theorem zw_50_ok : zm_mwk 50 zw_50 := by unfold zm_mwk; decide +kernel
def zw_51 : zm_MW := ((5, 229), (5, 228), (1, 9), (0, 82), 0, 2)
set_option maxRecDepth 100000 in
theorem zw_51_ok : zm_mwk 51 zw_51 := by unfold zm_mwk; decide +kernel
def zw_52 : zm_MW := ((6, 140), (6, 139), (1, 9), (0, 103), 0, 1)
set_option maxRecDepth 100000 in
theorem zw_52_ok : zm_mwk 52 zw_52 := by unfold zm_mwk; decide +kernel
def zw_53 : zm_MW := ((1, 164), (1, 163), (1, 6), (0, 0), 1, 0)
set_option maxRecDepth 100000 in
theorem zw_53_ok : zm_mwk 53 zw_53 := by unfold zm_mwk; decide +kernel
def zw_54 : zm_MW := ((4, 126), (4, 125), (1, 6), (0, 29), 0, 3)
set_option maxRecDepth 100000 in
theorem zw_54_ok : zm_mwk 54 zw_54 := by unfold zm_mwk; decide +kernel
def zw_55 : zm_MW := ((4, 155), (4, 154), (1, 6), (0, 32), 0, 0)
set_option maxRecDepth 100000 in
theorem zw_55_ok : zm_mwk 55 zw_55 := by unfold zm_mwk; decide +kernel
def zw_56 : zm_MW := ((4, 175), (4, 174), (1, 6), (0, 37), 0, 5)
set_option maxRecDepth 100000 in
theorem zw_56_ok : zm_mwk 56 zw_56 := by unfold zm_mwk; decide +kernel
def zw_57 : zm_MW := ((2, 110), (2, 109), (1, 10), (0, 0), 1, 2)
set_option maxRecDepth 100000 in
theorem zw_57_ok : zm_mwk 57 zw_57 := by unfold zm_mwk; decide +kernel
def zw_58 : zm_MW := ((5, 237), (5, 236), (1, 10), (0, 83), 0, 2)
set_option maxRecDepth 100000 in
theorem zw_58_ok : zm_mwk 58 zw_58 := by unfold zm_mwk; decide +kernel
def zw_59 : zm_MW := ((6, 9), (6, 8), (1, 10), (0, 84), 0, 2)
set_option maxRecDepth 100000 in
theorem zw_59_ok : zm_mwk 59 zw_59 := by unfold zm_mwk; decide +kernel
