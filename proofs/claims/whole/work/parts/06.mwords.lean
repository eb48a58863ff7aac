/-! ===== BEGIN printed by a program of ours: the words of each method ===== -/
abbrev zm_MW : Type := (Nat × Nat) × (Nat × Nat) × (Nat × Nat) × (Nat × Nat) × Nat × Nat
def zm_mwk (m : Nat) (q : zm_MW) : Prop :=
  (zm_tb q.1.1)[q.1.2]? = some (Cond.code (zm_y m) (zm_b m) (zm_ml m) (zm_rt m)) ∧ (zm_tb q.2.1.1)[q.2.1.2]? = some (if q.2.2.2.2.1 = 2 then Cond.static (zm_y m) else Cond.instanceMethod (zm_y m)) ∧ (zm_tb q.2.2.1.1)[q.2.2.1.2]? = some (Cond.initialized (zm_y m).cls) ∧ (q.2.2.2.2.1 = 0 → (zm_tb q.2.2.2.1.1)[q.2.2.2.1.2]? = some (Cond.selects (zm_y m).cls (zm_y m) (zm_y m))) ∧ (q.2.2.2.2.1 = 1 → (zm_y m).name = "<init>")
  ∧ ((zm_y m).cls ≠ "java/lang/invoke/MethodHandle" ∧ (zm_y m).cls ≠ "java/lang/invoke/VarHandle" ∧ (parseMethodDescriptor (zm_y m).desc).map (fun d => d.parameters.length) = some q.2.2.2.2.2) ∧ plainName (zm_y m).cls = true ∧ (zm_y m).cls = zm_cn (zm_oc m)
def zw_0 : zm_MW := ((2, 224), (2, 223), (1, 12), (0, 0), 1, 0)
set_option maxRecDepth 100000 in
theorem zw_0_ok : zm_mwk 0 zw_0 := by unfold zm_mwk; decide +kernel
def zw_1 : zm_MW := ((6, 114), (6, 113), (1, 12), (0, 101), 0, 3)
set_option maxRecDepth 100000 in
theorem zw_1_ok : zm_mwk 1 zw_1 := by unfold zm_mwk; decide +kernel
def zw_2 : zm_MW := ((6, 117), (6, 116), (1, 12), (0, 0), 2, 2)
set_option maxRecDepth 100000 in
theorem zw_2_ok : zm_mwk 2 zw_2 := by unfold zm_mwk; decide +kernel
def zw_3 : zm_MW := ((6, 125), (6, 124), (1, 12), (0, 102), 0, 0)
set_option maxRecDepth 100000 in
theorem zw_3_ok : zm_mwk 3 zw_3 := by unfold zm_mwk; decide +kernel
def zw_4 : zm_MW := ((2, 2), (2, 1), (1, 8), (0, 0), 1, 3)
set_option maxRecDepth 100000 in
theorem zw_4_ok : zm_mwk 4 zw_4 := by unfold zm_mwk; decide +kernel
def zw_5 : zm_MW := ((4, 159), (4, 158), (1, 8), (0, 33), 0, 3)
set_option maxRecDepth 100000 in
theorem zw_5_ok : zm_mwk 5 zw_5 := by unfold zm_mwk; decide +kernel
def zw_6 : zm_MW := ((4, 163), (4, 162), (1, 8), (0, 34), 0, 1)
set_option maxRecDepth 100000 in
theorem zw_6_ok : zm_mwk 6 zw_6 := by unfold zm_mwk; decide +kernel
def zw_7 : zm_MW := ((4, 167), (4, 166), (1, 8), (0, 35), 0, 1)
set_option maxRecDepth 100000 in
theorem zw_7_ok : zm_mwk 7 zw_7 := by unfold zm_mwk; decide +kernel
def zw_8 : zm_MW := ((4, 179), (4, 178), (1, 8), (0, 38), 0, 1)
set_option maxRecDepth 100000 in
theorem zw_8_ok : zm_mwk 8 zw_8 := by unfold zm_mwk; decide +kernel
def zw_9 : zm_MW := ((4, 184), (4, 183), (1, 8), (0, 39), 0, 4)
set_option maxRecDepth 100000 in
theorem zw_9_ok : zm_mwk 9 zw_9 := by unfold zm_mwk; decide +kernel
def zw_10 : zm_MW := ((4, 188), (4, 187), (1, 8), (0, 40), 0, 3)
set_option maxRecDepth 100000 in
theorem zw_10_ok : zm_mwk 10 zw_10 := by unfold zm_mwk; decide +kernel
def zw_11 : zm_MW := ((4, 192), (4, 191), (1, 8), (0, 41), 0, 1)
set_option maxRecDepth 100000 in
theorem zw_11_ok : zm_mwk 11 zw_11 := by unfold zm_mwk; decide +kernel
def zw_12 : zm_MW := ((5, 22), (5, 21), (1, 8), (0, 50), 0, 2)
set_option maxRecDepth 100000 in
theorem zw_12_ok : zm_mwk 12 zw_12 := by unfold zm_mwk; decide +kernel
def zw_13 : zm_MW := ((5, 28), (5, 27), (1, 8), (0, 51), 0, 1)
set_option maxRecDepth 100000 in
theorem zw_13_ok : zm_mwk 13 zw_13 := by unfold zm_mwk; decide +kernel
def zw_14 : zm_MW := ((5, 33), (5, 32), (1, 8), (0, 52), 0, 3)
set_option maxRecDepth 100000 in
theorem zw_14_ok : zm_mwk 14 zw_14 := by unfold zm_mwk; decide +kernel
def zw_15 : zm_MW := ((5, 37), (5, 36), (1, 8), (0, 53), 0, 1)
set_option maxRecDepth 100000 in
theorem zw_15_ok : zm_mwk 15 zw_15 := by unfold zm_mwk; decide +kernel
def zw_16 : zm_MW := ((5, 41), (5, 40), (1, 8), (0, 54), 0, 1)
set_option maxRecDepth 100000 in
theorem zw_16_ok : zm_mwk 16 zw_16 := by unfold zm_mwk; decide +kernel
def zw_17 : zm_MW := ((5, 45), (5, 44), (1, 8), (0, 55), 0, 1)
set_option maxRecDepth 100000 in
theorem zw_17_ok : zm_mwk 17 zw_17 := by unfold zm_mwk; decide +kernel
def zw_18 : zm_MW := ((5, 52), (5, 51), (1, 8), (0, 56), 0, 2)
set_option maxRecDepth 100000 in
theorem zw_18_ok : zm_mwk 18 zw_18 := by unfold zm_mwk; decide +kernel
def zw_19 : zm_MW := ((5, 56), (5, 55), (1, 8), (0, 57), 0, 1)
set_option maxRecDepth 100000 in
theorem zw_19_ok : zm_mwk 19 zw_19 := by unfold zm_mwk; decide +kernel
def zw_20 : zm_MW := ((5, 93), (5, 92), (1, 8), (0, 63), 0, 2)
set_option maxRecDepth 100000 in
theorem zw_20_ok : zm_mwk 20 zw_20 := by unfold zm_mwk; decide +kernel
def zw_21 : zm_MW := ((5, 97), (5, 96), (1, 8), (0, 64), 0, 1)
set_option maxRecDepth 100000 in
theorem zw_21_ok : zm_mwk 21 zw_21 := by unfold zm_mwk; decide +kernel
def zw_22 : zm_MW := ((5, 103), (5, 102), (1, 8), (0, 65), 0, 2)
set_option maxRecDepth 100000 in
theorem zw_22_ok : zm_mwk 22 zw_22 := by unfold zm_mwk; decide +kernel
def zw_23 : zm_MW := ((5, 109), (5, 108), (1, 8), (0, 66), 0, 3)
set_option maxRecDepth 100000 in
theorem zw_23_ok : zm_mwk 23 zw_23 := by unfold zm_mwk; decide +kernel
def zw_24 : zm_MW := ((5, 113), (5, 112), (1, 8), (0, 67), 0, 3)
set_option maxRecDepth 100000 in
theorem zw_24_ok : zm_mwk 24 zw_24 := by unfold zm_mwk; decide +kernel
def zw_25 : zm_MW := ((5, 119), (5, 118), (1, 8), (0, 68), 0, 3)
set_option maxRecDepth 100000 in
theorem zw_25_ok : zm_mwk 25 zw_25 := by unfold zm_mwk; decide +kernel
def zw_26 : zm_MW := ((5, 123), (5, 122), (1, 8), (0, 69), 0, 1)
set_option maxRecDepth 100000 in
theorem zw_26_ok : zm_mwk 26 zw_26 := by unfold zm_mwk; decide +kernel
def zw_27 : zm_MW := ((5, 127), (5, 126), (1, 8), (0, 70), 0, 1)
set_option maxRecDepth 100000 in
theorem zw_27_ok : zm_mwk 27 zw_27 := by unfold zm_mwk; decide +kernel
def zw_28 : zm_MW := ((5, 153), (5, 152), (1, 8), (0, 73), 0, 3)
set_option maxRecDepth 100000 in
theorem zw_28_ok : zm_mwk 28 zw_28 := by unfold zm_mwk; decide +kernel
def zw_29 : zm_MW := ((5, 157), (5, 156), (1, 8), (0, 74), 0, 2)
set_option maxRecDepth 100000 in
theorem zw_29_ok : zm_mwk 29 zw_29 := by unfold zm_mwk; decide +kernel
def zw_30 : zm_MW := ((5, 169), (5, 168), (1, 8), (0, 76), 0, 2)
set_option maxRecDepth 100000 in
theorem zw_30_ok : zm_mwk 30 zw_30 := by unfold zm_mwk; decide +kernel
def zw_31 : zm_MW := ((5, 182), (5, 181), (1, 8), (0, 78), 0, 0)
set_option maxRecDepth 100000 in
theorem zw_31_ok : zm_mwk 31 zw_31 := by unfold zm_mwk; decide +kernel
def zw_32 : zm_MW := ((2, 165), (2, 164), (1, 11), (0, 0), 1, 3)
set_option maxRecDepth 100000 in
theorem zw_32_ok : zm_mwk 32 zw_32 := by unfold zm_mwk; decide +kernel
def zw_33 : zm_MW := ((4, 137), (4, 136), (1, 11), (0, 30), 0, 3)
set_option maxRecDepth 100000 in
theorem zw_33_ok : zm_mwk 33 zw_33 := by unfold zm_mwk; decide +kernel
def zw_34 : zm_MW := ((4, 171), (4, 170), (1, 11), (0, 36), 0, 2)
set_option maxRecDepth 100000 in
theorem zw_34_ok : zm_mwk 34 zw_34 := by unfold zm_mwk; decide +kernel
def zw_35 : zm_MW := ((6, 57), (6, 56), (1, 11), (0, 93), 0, 1)
set_option maxRecDepth 100000 in
theorem zw_35_ok : zm_mwk 35 zw_35 := by unfold zm_mwk; decide +kernel
def zw_36 : zm_MW := ((6, 69), (6, 68), (1, 11), (0, 94), 0, 2)
set_option maxRecDepth 100000 in
theorem zw_36_ok : zm_mwk 36 zw_36 := by unfold zm_mwk; decide +kernel
def zw_37 : zm_MW := ((6, 74), (6, 73), (1, 11), (0, 95), 0, 2)
set_option maxRecDepth 100000 in
theorem zw_37_ok : zm_mwk 37 zw_37 := by unfold zm_mwk; decide +kernel
def zw_38 : zm_MW := ((6, 79), (6, 78), (1, 11), (0, 96), 0, 2)
set_option maxRecDepth 100000 in
theorem zw_38_ok : zm_mwk 38 zw_38 := by unfold zm_mwk; decide +kernel
def zw_39 : zm_MW := ((6, 83), (6, 82), (1, 11), (0, 97), 0, 1)
set_option maxRecDepth 100000 in
theorem zw_39_ok : zm_mwk 39 zw_39 := by unfold zm_mwk; decide +kernel
def zw_40 : zm_MW := ((6, 87), (6, 86), (1, 11), (0, 98), 0, 1)
set_option maxRecDepth 100000 in
theorem zw_40_ok : zm_mwk 40 zw_40 := by unfold zm_mwk; decide +kernel
def zw_41 : zm_MW := ((6, 93), (6, 92), (1, 11), (0, 99), 0, 1)
set_option maxRecDepth 100000 in
theorem zw_41_ok : zm_mwk 41 zw_41 := by unfold zm_mwk; decide +kernel
def zw_42 : zm_MW := ((6, 101), (6, 100), (1, 11), (0, 100), 0, 2)
set_option maxRecDepth 100000 in
theorem zw_42_ok : zm_mwk 42 zw_42 := by unfold zm_mwk; decide +kernel
def zw_43 : zm_MW := ((2, 69), (2, 68), (1, 9), (0, 0), 1, 3)
set_option maxRecDepth 100000 in
theorem zw_43_ok : zm_mwk 43 zw_43 := by unfold zm_mwk; decide +kernel
def zw_44 : zm_MW := ((4, 218), (4, 217), (1, 9), (0, 44), 0, 2)
set_option maxRecDepth 100000 in
theorem zw_44_ok : zm_mwk 44 zw_44 := by unfold zm_mwk; decide +kernel
def zw_45 : zm_MW := ((5, 134), (5, 133), (1, 9), (0, 71), 0, 1)
set_option maxRecDepth 100000 in
theorem zw_45_ok : zm_mwk 45 zw_45 := by unfold zm_mwk; decide +kernel
def zw_46 : zm_MW := ((5, 138), (5, 137), (1, 9), (0, 72), 0, 2)
set_option maxRecDepth 100000 in
theorem zw_46_ok : zm_mwk 46 zw_46 := by unfold zm_mwk; decide +kernel
def zw_47 : zm_MW := ((5, 145), (5, 144), (1, 9), (0, 0), 2, 1)
set_option maxRecDepth 100000 in
theorem zw_47_ok : zm_mwk 47 zw_47 := by unfold zm_mwk; decide +kernel
def zw_48 : zm_MW := ((5, 202), (5, 201), (1, 9), (0, 79), 0, 2)
set_option maxRecDepth 100000 in
theorem zw_48_ok : zm_mwk 48 zw_48 := by unfold zm_mwk; decide +kernel
def zw_49 : zm_MW := ((5, 213), (5, 212), (1, 9), (0, 80), 0, 3)
set_option maxRecDepth 100000 in
theorem zw_49_ok : zm_mwk 49 zw_49 := by unfold zm_mwk; decide +kernel
def zw_50 : zm_MW := ((5, 221), (5, 220), (1, 9), (0, 81), 0, 5)
set_option maxRecDepth 100000 in
theorem zw_50_ok : zm_mwk 50 zw_50 := by unfold zm_mwk; decide +kernel
def zw_51 : zm_MW := ((5, 229), (5, 228), (1, 9), (0, 82), 0, 2)
set_option maxRecDepth 100000 in
theorem zw_51_ok : zm_mwk 51 zw_51 := by unfold zm_mwk; decide +kernel
def zw_52 : zm_MW := ((6, 140), (6, 139), (1, 9), (0, 103), 0, 1)
set_option maxRecDepth 100000 in
theorem zw_52_ok : zm_mwk 52 zw_52 := by unfold zm_mwk; decide +kernel
def zw_53 : zm_MW := ((1, 164), (1, 163), (1, 6), (0, 0), 1, 0)
set_option maxRecDepth 100000 in
theorem zw_53_ok : zm_mwk 53 zw_53 := by unfold zm_mwk; decide +kernel
def zw_54 : zm_MW := ((4, 126), (4, 125), (1, 6), (0, 29), 0, 3)
set_option maxRecDepth 100000 in
theorem zw_54_ok : zm_mwk 54 zw_54 := by unfold zm_mwk; decide +kernel
def zw_55 : zm_MW := ((4, 155), (4, 154), (1, 6), (0, 32), 0, 0)
set_option maxRecDepth 100000 in
theorem zw_55_ok : zm_mwk 55 zw_55 := by unfold zm_mwk; decide +kernel
def zw_56 : zm_MW := ((4, 175), (4, 174), (1, 6), (0, 37), 0, 5)
set_option maxRecDepth 100000 in
theorem zw_56_ok : zm_mwk 56 zw_56 := by unfold zm_mwk; decide +kernel
def zw_57 : zm_MW := ((2, 110), (2, 109), (1, 10), (0, 0), 1, 2)
set_option maxRecDepth 100000 in
theorem zw_57_ok : zm_mwk 57 zw_57 := by unfold zm_mwk; decide +kernel
def zw_58 : zm_MW := ((5, 237), (5, 236), (1, 10), (0, 83), 0, 2)
set_option maxRecDepth 100000 in
theorem zw_58_ok : zm_mwk 58 zw_58 := by unfold zm_mwk; decide +kernel
def zw_59 : zm_MW := ((6, 9), (6, 8), (1, 10), (0, 84), 0, 2)
set_option maxRecDepth 100000 in
theorem zw_59_ok : zm_mwk 59 zw_59 := by unfold zm_mwk; decide +kernel
def zw_60 : zm_MW := ((6, 15), (6, 14), (1, 10), (0, 85), 0, 2)
set_option maxRecDepth 100000 in
theorem zw_60_ok : zm_mwk 60 zw_60 := by unfold zm_mwk; decide +kernel
def zw_61 : zm_MW := ((6, 23), (6, 22), (1, 10), (0, 86), 0, 0)
set_option maxRecDepth 100000 in
theorem zw_61_ok : zm_mwk 61 zw_61 := by unfold zm_mwk; decide +kernel
def zw_62 : zm_MW := ((6, 28), (6, 27), (1, 10), (0, 87), 0, 0)
set_option maxRecDepth 100000 in
theorem zw_62_ok : zm_mwk 62 zw_62 := by unfold zm_mwk; decide +kernel
def zw_63 : zm_MW := ((6, 32), (6, 31), (1, 10), (0, 88), 0, 0)
set_option maxRecDepth 100000 in
theorem zw_63_ok : zm_mwk 63 zw_63 := by unfold zm_mwk; decide +kernel
def zw_64 : zm_MW := ((6, 36), (6, 35), (1, 10), (0, 89), 0, 1)
set_option maxRecDepth 100000 in
theorem zw_64_ok : zm_mwk 64 zw_64 := by unfold zm_mwk; decide +kernel
def zw_65 : zm_MW := ((6, 41), (6, 40), (1, 10), (0, 90), 0, 2)
set_option maxRecDepth 100000 in
theorem zw_65_ok : zm_mwk 65 zw_65 := by unfold zm_mwk; decide +kernel
def zw_66 : zm_MW := ((6, 45), (6, 44), (1, 10), (0, 91), 0, 3)
set_option maxRecDepth 100000 in
theorem zw_66_ok : zm_mwk 66 zw_66 := by unfold zm_mwk; decide +kernel
def zw_67 : zm_MW := ((6, 49), (6, 48), (1, 10), (0, 92), 0, 3)
set_option maxRecDepth 100000 in
theorem zw_67_ok : zm_mwk 67 zw_67 := by unfold zm_mwk; decide +kernel
def zw_68 : zm_MW := ((1, 124), (1, 123), (1, 5), (0, 0), 1, 0)
set_option maxRecDepth 100000 in
theorem zw_68_ok : zm_mwk 68 zw_68 := by unfold zm_mwk; decide +kernel
def zw_69 : zm_MW := ((4, 84), (4, 83), (1, 5), (0, 25), 0, 0)
set_option maxRecDepth 100000 in
theorem zw_69_ok : zm_mwk 69 zw_69 := by unfold zm_mwk; decide +kernel
def zw_70 : zm_MW := ((4, 88), (4, 87), (1, 5), (0, 26), 0, 1)
set_option maxRecDepth 100000 in
theorem zw_70_ok : zm_mwk 70 zw_70 := by unfold zm_mwk; decide +kernel
def zw_71 : zm_MW := ((4, 110), (4, 109), (1, 5), (0, 27), 0, 2)
set_option maxRecDepth 100000 in
theorem zw_71_ok : zm_mwk 71 zw_71 := by unfold zm_mwk; decide +kernel
def zw_72 : zm_MW := ((4, 118), (4, 117), (1, 5), (0, 28), 0, 2)
set_option maxRecDepth 100000 in
theorem zw_72_ok : zm_mwk 72 zw_72 := by unfold zm_mwk; decide +kernel
def zw_73 : zm_MW := ((4, 222), (4, 221), (1, 5), (0, 45), 0, 2)
set_option maxRecDepth 100000 in
theorem zw_73_ok : zm_mwk 73 zw_73 := by unfold zm_mwk; decide +kernel
def zw_74 : zm_MW := ((4, 227), (4, 226), (1, 5), (0, 46), 0, 2)
set_option maxRecDepth 100000 in
theorem zw_74_ok : zm_mwk 74 zw_74 := by unfold zm_mwk; decide +kernel
def zw_75 : zm_MW := ((4, 234), (4, 233), (1, 5), (0, 47), 0, 4)
set_option maxRecDepth 100000 in
theorem zw_75_ok : zm_mwk 75 zw_75 := by unfold zm_mwk; decide +kernel
def zw_76 : zm_MW := ((4, 238), (4, 237), (1, 5), (0, 48), 0, 2)
set_option maxRecDepth 100000 in
theorem zw_76_ok : zm_mwk 76 zw_76 := by unfold zm_mwk; decide +kernel
def zw_77 : zm_MW := ((5, 5), (5, 4), (1, 5), (0, 49), 0, 1)
set_option maxRecDepth 100000 in
theorem zw_77_ok : zm_mwk 77 zw_77 := by unfold zm_mwk; decide +kernel
def zw_78 : zm_MW := ((5, 8), (5, 7), (1, 5), (0, 0), 2, 3)
set_option maxRecDepth 100000 in
theorem zw_78_ok : zm_mwk 78 zw_78 := by unfold zm_mwk; decide +kernel
def zw_79 : zm_MW := ((1, 35), (1, 34), (1, 2), (0, 0), 1, 0)
set_option maxRecDepth 100000 in
theorem zw_79_ok : zm_mwk 79 zw_79 := by unfold zm_mwk; decide +kernel
def zw_80 : zm_MW := ((3, 57), (3, 56), (1, 2), (0, 0), 0, 3)
set_option maxRecDepth 100000 in
theorem zw_80_ok : zm_mwk 80 zw_80 := by unfold zm_mwk; decide +kernel
def zw_81 : zm_MW := ((3, 68), (3, 67), (1, 2), (0, 1), 0, 4)
set_option maxRecDepth 100000 in
theorem zw_81_ok : zm_mwk 81 zw_81 := by unfold zm_mwk; decide +kernel
def zw_82 : zm_MW := ((3, 77), (3, 76), (1, 2), (0, 2), 0, 1)
set_option maxRecDepth 100000 in
theorem zw_82_ok : zm_mwk 82 zw_82 := by unfold zm_mwk; decide +kernel
def zw_83 : zm_MW := ((3, 80), (3, 79), (1, 2), (0, 0), 2, 3)
set_option maxRecDepth 100000 in
theorem zw_83_ok : zm_mwk 83 zw_83 := by unfold zm_mwk; decide +kernel
def zw_84 : zm_MW := ((3, 84), (3, 83), (1, 2), (0, 3), 0, 1)
set_option maxRecDepth 100000 in
theorem zw_84_ok : zm_mwk 84 zw_84 := by unfold zm_mwk; decide +kernel
def zw_85 : zm_MW := ((3, 88), (3, 87), (1, 2), (0, 4), 0, 3)
set_option maxRecDepth 100000 in
theorem zw_85_ok : zm_mwk 85 zw_85 := by unfold zm_mwk; decide +kernel
def zw_86 : zm_MW := ((3, 92), (3, 91), (1, 2), (0, 5), 0, 2)
set_option maxRecDepth 100000 in
theorem zw_86_ok : zm_mwk 86 zw_86 := by unfold zm_mwk; decide +kernel
def zw_87 : zm_MW := ((3, 96), (3, 95), (1, 2), (0, 6), 0, 3)
set_option maxRecDepth 100000 in
theorem zw_87_ok : zm_mwk 87 zw_87 := by unfold zm_mwk; decide +kernel
def zw_88 : zm_MW := ((4, 213), (4, 212), (1, 2), (0, 43), 0, 1)
set_option maxRecDepth 100000 in
theorem zw_88_ok : zm_mwk 88 zw_88 := by unfold zm_mwk; decide +kernel
def zw_89 : zm_MW := ((1, 78), (1, 77), (1, 4), (0, 0), 1, 0)
set_option maxRecDepth 100000 in
theorem zw_89_ok : zm_mwk 89 zw_89 := by unfold zm_mwk; decide +kernel
def zw_90 : zm_MW := ((3, 123), (3, 122), (1, 4), (0, 7), 0, 1)
set_option maxRecDepth 100000 in
theorem zw_90_ok : zm_mwk 90 zw_90 := by unfold zm_mwk; decide +kernel
def zw_91 : zm_MW := ((3, 127), (3, 126), (1, 4), (0, 8), 0, 1)
set_option maxRecDepth 100000 in
theorem zw_91_ok : zm_mwk 91 zw_91 := by unfold zm_mwk; decide +kernel
def zw_92 : zm_MW := ((3, 139), (3, 138), (1, 4), (0, 9), 0, 0)
set_option maxRecDepth 100000 in
theorem zw_92_ok : zm_mwk 92 zw_92 := by unfold zm_mwk; decide +kernel
def zw_93 : zm_MW := ((3, 144), (3, 143), (1, 4), (0, 10), 0, 0)
set_option maxRecDepth 100000 in
theorem zw_93_ok : zm_mwk 93 zw_93 := by unfold zm_mwk; decide +kernel
def zw_94 : zm_MW := ((3, 147), (3, 146), (1, 4), (0, 0), 2, 1)
set_option maxRecDepth 100000 in
theorem zw_94_ok : zm_mwk 94 zw_94 := by unfold zm_mwk; decide +kernel
def zw_95 : zm_MW := ((3, 151), (3, 150), (1, 4), (0, 11), 0, 0)
set_option maxRecDepth 100000 in
theorem zw_95_ok : zm_mwk 95 zw_95 := by unfold zm_mwk; decide +kernel
def zw_96 : zm_MW := ((3, 155), (3, 154), (1, 4), (0, 12), 0, 1)
set_option maxRecDepth 100000 in
theorem zw_96_ok : zm_mwk 96 zw_96 := by unfold zm_mwk; decide +kernel
def zw_97 : zm_MW := ((3, 199), (3, 198), (1, 4), (0, 0), 2, 1)
set_option maxRecDepth 100000 in
theorem zw_97_ok : zm_mwk 97 zw_97 := by unfold zm_mwk; decide +kernel
def zw_98 : zm_MW := ((3, 203), (3, 202), (1, 4), (0, 13), 0, 0)
set_option maxRecDepth 100000 in
theorem zw_98_ok : zm_mwk 98 zw_98 := by unfold zm_mwk; decide +kernel
def zw_99 : zm_MW := ((4, 32), (4, 31), (1, 4), (0, 14), 0, 0)
set_option maxRecDepth 100000 in
theorem zw_99_ok : zm_mwk 99 zw_99 := by unfold zm_mwk; decide +kernel
def zw_100 : zm_MW := ((4, 36), (4, 35), (1, 4), (0, 15), 0, 0)
set_option maxRecDepth 100000 in
theorem zw_100_ok : zm_mwk 100 zw_100 := by unfold zm_mwk; decide +kernel
def zw_101 : zm_MW := ((4, 40), (4, 39), (1, 4), (0, 16), 0, 1)
set_option maxRecDepth 100000 in
theorem zw_101_ok : zm_mwk 101 zw_101 := by unfold zm_mwk; decide +kernel
def zw_102 : zm_MW := ((4, 44), (4, 43), (1, 4), (0, 17), 0, 1)
set_option maxRecDepth 100000 in
theorem zw_102_ok : zm_mwk 102 zw_102 := by unfold zm_mwk; decide +kernel
def zw_103 : zm_MW := ((4, 48), (4, 47), (1, 4), (0, 18), 0, 1)
set_option maxRecDepth 100000 in
theorem zw_103_ok : zm_mwk 103 zw_103 := by unfold zm_mwk; decide +kernel
def zw_104 : zm_MW := ((4, 53), (4, 52), (1, 4), (0, 19), 0, 1)
set_option maxRecDepth 100000 in
theorem zw_104_ok : zm_mwk 104 zw_104 := by unfold zm_mwk; decide +kernel
def zw_105 : zm_MW := ((4, 57), (4, 56), (1, 4), (0, 20), 0, 1)
set_option maxRecDepth 100000 in
theorem zw_105_ok : zm_mwk 105 zw_105 := by unfold zm_mwk; decide +kernel
def zw_106 : zm_MW := ((4, 61), (4, 60), (1, 4), (0, 21), 0, 1)
set_option maxRecDepth 100000 in
theorem zw_106_ok : zm_mwk 106 zw_106 := by unfold zm_mwk; decide +kernel
def zw_107 : zm_MW := ((4, 65), (4, 64), (1, 4), (0, 22), 0, 1)
set_option maxRecDepth 100000 in
theorem zw_107_ok : zm_mwk 107 zw_107 := by unfold zm_mwk; decide +kernel
def zw_108 : zm_MW := ((4, 69), (4, 68), (1, 4), (0, 23), 0, 1)
set_option maxRecDepth 100000 in
theorem zw_108_ok : zm_mwk 108 zw_108 := by unfold zm_mwk; decide +kernel
def zw_109 : zm_MW := ((4, 74), (4, 73), (1, 4), (0, 24), 0, 1)
set_option maxRecDepth 100000 in
theorem zw_109_ok : zm_mwk 109 zw_109 := by unfold zm_mwk; decide +kernel
def zw_110 : zm_MW := ((1, 216), (1, 215), (1, 7), (0, 0), 1, 1)
set_option maxRecDepth 100000 in
theorem zw_110_ok : zm_mwk 110 zw_110 := by unfold zm_mwk; decide +kernel
def zw_111 : zm_MW := ((5, 60), (5, 59), (1, 7), (0, 58), 0, 0)
set_option maxRecDepth 100000 in
theorem zw_111_ok : zm_mwk 111 zw_111 := by unfold zm_mwk; decide +kernel
def zw_112 : zm_MW := ((5, 65), (5, 64), (1, 7), (0, 59), 0, 2)
set_option maxRecDepth 100000 in
theorem zw_112_ok : zm_mwk 112 zw_112 := by unfold zm_mwk; decide +kernel
def zw_113 : zm_MW := ((5, 70), (5, 69), (1, 7), (0, 60), 0, 1)
set_option maxRecDepth 100000 in
theorem zw_113_ok : zm_mwk 113 zw_113 := by unfold zm_mwk; decide +kernel
def zw_114 : zm_MW := ((5, 73), (5, 72), (1, 7), (0, 0), 2, 1)
set_option maxRecDepth 100000 in
theorem zw_114_ok : zm_mwk 114 zw_114 := by unfold zm_mwk; decide +kernel
def zw_115 : zm_MW := ((5, 80), (5, 79), (1, 7), (0, 61), 0, 2)
set_option maxRecDepth 100000 in
theorem zw_115_ok : zm_mwk 115 zw_115 := by unfold zm_mwk; decide +kernel
def zw_116 : zm_MW := ((5, 85), (5, 84), (1, 7), (0, 62), 0, 3)
set_option maxRecDepth 100000 in
theorem zw_116_ok : zm_mwk 116 zw_116 := by unfold zm_mwk; decide +kernel
def zw_117 : zm_MW := ((1, 26), (1, 25), (1, 1), (0, 0), 1, 0)
set_option maxRecDepth 100000 in
theorem zw_117_ok : zm_mwk 117 zw_117 := by unfold zm_mwk; decide +kernel
def zw_118 : zm_MW := ((3, 47), (3, 45), (1, 1), (3, 46), 0, 2)
set_option maxRecDepth 100000 in
theorem zw_118_ok : zm_mwk 118 zw_118 := by unfold zm_mwk; decide +kernel
def zw_119 : zm_MW := ((3, 50), (3, 49), (1, 1), (0, 0), 2, 1)
set_option maxRecDepth 100000 in
theorem zw_119_ok : zm_mwk 119 zw_119 := by unfold zm_mwk; decide +kernel
def zw_120 : zm_MW := ((3, 53), (3, 52), (1, 1), (0, 0), 2, 1)
set_option maxRecDepth 100000 in
theorem zw_120_ok : zm_mwk 120 zw_120 := by unfold zm_mwk; decide +kernel
def zw_121 : zm_MW := ((3, 61), (3, 59), (1, 1), (3, 60), 0, 3)
set_option maxRecDepth 100000 in
theorem zw_121_ok : zm_mwk 121 zw_121 := by unfold zm_mwk; decide +kernel
def zw_122 : zm_MW := ((3, 64), (3, 63), (1, 1), (0, 0), 2, 3)
set_option maxRecDepth 100000 in
theorem zw_122_ok : zm_mwk 122 zw_122 := by unfold zm_mwk; decide +kernel
def zw_123 : zm_MW := ((3, 72), (3, 70), (1, 1), (3, 71), 0, 3)
set_option maxRecDepth 100000 in
theorem zw_123_ok : zm_mwk 123 zw_123 := by unfold zm_mwk; decide +kernel
def zw_124 : zm_MW := ((3, 99), (3, 98), (1, 1), (0, 0), 2, 1)
set_option maxRecDepth 100000 in
theorem zw_124_ok : zm_mwk 124 zw_124 := by unfold zm_mwk; decide +kernel
def zw_125 : zm_MW := ((3, 102), (3, 101), (1, 1), (0, 0), 2, 3)
set_option maxRecDepth 100000 in
theorem zw_125_ok : zm_mwk 125 zw_125 := by unfold zm_mwk; decide +kernel
def zw_126 : zm_MW := ((3, 112), (3, 111), (1, 1), (0, 0), 2, 1)
set_option maxRecDepth 100000 in
theorem zw_126_ok : zm_mwk 126 zw_126 := by unfold zm_mwk; decide +kernel
def zw_127 : zm_MW := ((3, 115), (3, 114), (1, 1), (0, 0), 2, 1)
set_option maxRecDepth 100000 in
theorem zw_127_ok : zm_mwk 127 zw_127 := by unfold zm_mwk; decide +kernel
def zw_128 : zm_MW := ((3, 119), (3, 117), (1, 1), (3, 118), 0, 5)
set_option maxRecDepth 100000 in
theorem zw_128_ok : zm_mwk 128 zw_128 := by unfold zm_mwk; decide +kernel
def zw_129 : zm_MW := ((3, 131), (3, 129), (1, 1), (3, 130), 0, 1)
set_option maxRecDepth 100000 in
theorem zw_129_ok : zm_mwk 129 zw_129 := by unfold zm_mwk; decide +kernel
def zw_130 : zm_MW := ((3, 135), (3, 133), (1, 1), (3, 134), 0, 0)
set_option maxRecDepth 100000 in
theorem zw_130_ok : zm_mwk 130 zw_130 := by unfold zm_mwk; decide +kernel
def zw_131 : zm_MW := ((4, 80), (4, 78), (1, 1), (4, 79), 0, 0)
set_option maxRecDepth 100000 in
theorem zw_131_ok : zm_mwk 131 zw_131 := by unfold zm_mwk; decide +kernel
def zw_132 : zm_MW := ((4, 106), (4, 104), (1, 1), (4, 105), 0, 2)
set_option maxRecDepth 100000 in
theorem zw_132_ok : zm_mwk 132 zw_132 := by unfold zm_mwk; decide +kernel
def zw_133 : zm_MW := ((4, 114), (4, 112), (1, 1), (4, 113), 0, 2)
set_option maxRecDepth 100000 in
theorem zw_133_ok : zm_mwk 133 zw_133 := by unfold zm_mwk; decide +kernel
def zw_134 : zm_MW := ((4, 122), (4, 120), (1, 1), (4, 121), 0, 2)
set_option maxRecDepth 100000 in
theorem zw_134_ok : zm_mwk 134 zw_134 := by unfold zm_mwk; decide +kernel
def zw_135 : zm_MW := ((4, 130), (4, 128), (1, 1), (4, 129), 0, 3)
set_option maxRecDepth 100000 in
theorem zw_135_ok : zm_mwk 135 zw_135 := by unfold zm_mwk; decide +kernel
def zw_136 : zm_MW := ((4, 133), (4, 132), (1, 1), (0, 0), 2, 1)
set_option maxRecDepth 100000 in
theorem zw_136_ok : zm_mwk 136 zw_136 := by unfold zm_mwk; decide +kernel
def zw_137 : zm_MW := ((4, 141), (4, 139), (1, 1), (4, 140), 0, 3)
set_option maxRecDepth 100000 in
theorem zw_137_ok : zm_mwk 137 zw_137 := by unfold zm_mwk; decide +kernel
def zw_138 : zm_MW := ((4, 145), (4, 144), (1, 1), (0, 31), 0, 1)
set_option maxRecDepth 100000 in
theorem zw_138_ok : zm_mwk 138 zw_138 := by unfold zm_mwk; decide +kernel
def zw_139 : zm_MW := ((4, 148), (4, 147), (1, 1), (0, 0), 2, 1)
set_option maxRecDepth 100000 in
theorem zw_139_ok : zm_mwk 139 zw_139 := by unfold zm_mwk; decide +kernel
def zw_140 : zm_MW := ((4, 151), (4, 150), (1, 1), (0, 0), 2, 1)
set_option maxRecDepth 100000 in
theorem zw_140_ok : zm_mwk 140 zw_140 := by unfold zm_mwk; decide +kernel
def zw_141 : zm_MW := ((4, 196), (4, 194), (1, 1), (4, 195), 0, 1)
set_option maxRecDepth 100000 in
theorem zw_141_ok : zm_mwk 141 zw_141 := by unfold zm_mwk; decide +kernel
def zw_142 : zm_MW := ((4, 201), (4, 199), (1, 1), (4, 200), 0, 1)
set_option maxRecDepth 100000 in
theorem zw_142_ok : zm_mwk 142 zw_142 := by unfold zm_mwk; decide +kernel
def zw_143 : zm_MW := ((4, 205), (4, 203), (1, 1), (4, 204), 0, 1)
set_option maxRecDepth 100000 in
theorem zw_143_ok : zm_mwk 143 zw_143 := by unfold zm_mwk; decide +kernel
def zw_144 : zm_MW := ((4, 209), (4, 208), (1, 1), (0, 42), 0, 0)
set_option maxRecDepth 100000 in
theorem zw_144_ok : zm_mwk 144 zw_144 := by unfold zm_mwk; decide +kernel
def zw_145 : zm_MW := ((5, 149), (5, 147), (1, 1), (5, 148), 0, 2)
set_option maxRecDepth 100000 in
theorem zw_145_ok : zm_mwk 145 zw_145 := by unfold zm_mwk; decide +kernel
def zw_146 : zm_MW := ((5, 161), (5, 159), (1, 1), (5, 160), 0, 2)
set_option maxRecDepth 100000 in
theorem zw_146_ok : zm_mwk 146 zw_146 := by unfold zm_mwk; decide +kernel
def zw_147 : zm_MW := ((5, 165), (5, 164), (1, 1), (0, 75), 0, 1)
set_option maxRecDepth 100000 in
theorem zw_147_ok : zm_mwk 147 zw_147 := by unfold zm_mwk; decide +kernel
def zw_148 : zm_MW := ((5, 174), (5, 172), (1, 1), (5, 173), 0, 3)
set_option maxRecDepth 100000 in
theorem zw_148_ok : zm_mwk 148 zw_148 := by unfold zm_mwk; decide +kernel
def zw_149 : zm_MW := ((5, 178), (5, 177), (1, 1), (0, 77), 0, 2)
set_option maxRecDepth 100000 in
theorem zw_149_ok : zm_mwk 149 zw_149 := by unfold zm_mwk; decide +kernel
def zw_150 : zm_MW := ((5, 186), (5, 184), (1, 1), (5, 185), 0, 2)
set_option maxRecDepth 100000 in
theorem zw_150_ok : zm_mwk 150 zw_150 := by unfold zm_mwk; decide +kernel
def zw_151 : zm_MW := ((5, 190), (5, 188), (1, 1), (5, 189), 0, 2)
set_option maxRecDepth 100000 in
theorem zw_151_ok : zm_mwk 151 zw_151 := by unfold zm_mwk; decide +kernel
def zw_152 : zm_MW := ((5, 194), (5, 192), (1, 1), (5, 193), 0, 4)
set_option maxRecDepth 100000 in
theorem zw_152_ok : zm_mwk 152 zw_152 := by unfold zm_mwk; decide +kernel
def zw_153 : zm_MW := ((5, 198), (5, 196), (1, 1), (5, 197), 0, 2)
set_option maxRecDepth 100000 in
theorem zw_153_ok : zm_mwk 153 zw_153 := by unfold zm_mwk; decide +kernel
def zw_154 : zm_MW := ((5, 206), (5, 204), (1, 1), (5, 205), 0, 3)
set_option maxRecDepth 100000 in
theorem zw_154_ok : zm_mwk 154 zw_154 := by unfold zm_mwk; decide +kernel
def zw_155 : zm_MW := ((5, 209), (5, 208), (1, 1), (0, 0), 2, 1)
set_option maxRecDepth 100000 in
theorem zw_155_ok : zm_mwk 155 zw_155 := by unfold zm_mwk; decide +kernel
def zw_156 : zm_MW := ((5, 217), (5, 215), (1, 1), (5, 216), 0, 5)
set_option maxRecDepth 100000 in
theorem zw_156_ok : zm_mwk 156 zw_156 := by unfold zm_mwk; decide +kernel
def zw_157 : zm_MW := ((5, 225), (5, 223), (1, 1), (5, 224), 0, 2)
set_option maxRecDepth 100000 in
theorem zw_157_ok : zm_mwk 157 zw_157 := by unfold zm_mwk; decide +kernel
def zw_158 : zm_MW := ((5, 233), (5, 231), (1, 1), (5, 232), 0, 2)
set_option maxRecDepth 100000 in
theorem zw_158_ok : zm_mwk 158 zw_158 := by unfold zm_mwk; decide +kernel
def zw_159 : zm_MW := ((6, 1), (5, 239), (1, 1), (6, 0), 0, 0)
set_option maxRecDepth 100000 in
theorem zw_159_ok : zm_mwk 159 zw_159 := by unfold zm_mwk; decide +kernel
def zw_160 : zm_MW := ((6, 5), (6, 3), (1, 1), (6, 4), 0, 3)
set_option maxRecDepth 100000 in
theorem zw_160_ok : zm_mwk 160 zw_160 := by unfold zm_mwk; decide +kernel
def zw_161 : zm_MW := ((6, 19), (6, 17), (1, 1), (6, 18), 0, 2)
set_option maxRecDepth 100000 in
theorem zw_161_ok : zm_mwk 161 zw_161 := by unfold zm_mwk; decide +kernel
def zw_162 : zm_MW := ((6, 53), (6, 51), (1, 1), (6, 52), 0, 1)
set_option maxRecDepth 100000 in
theorem zw_162_ok : zm_mwk 162 zw_162 := by unfold zm_mwk; decide +kernel
def zw_163 : zm_MW := ((6, 61), (6, 59), (1, 1), (6, 60), 0, 0)
set_option maxRecDepth 100000 in
theorem zw_163_ok : zm_mwk 163 zw_163 := by unfold zm_mwk; decide +kernel
def zw_164 : zm_MW := ((6, 65), (6, 63), (1, 1), (6, 64), 0, 5)
set_option maxRecDepth 100000 in
theorem zw_164_ok : zm_mwk 164 zw_164 := by unfold zm_mwk; decide +kernel
def zw_165 : zm_MW := ((6, 106), (6, 104), (1, 1), (6, 105), 0, 2)
set_option maxRecDepth 100000 in
theorem zw_165_ok : zm_mwk 165 zw_165 := by unfold zm_mwk; decide +kernel
def zw_166 : zm_MW := ((6, 110), (6, 108), (1, 1), (6, 109), 0, 3)
set_option maxRecDepth 100000 in
theorem zw_166_ok : zm_mwk 166 zw_166 := by unfold zm_mwk; decide +kernel
def zw_167 : zm_MW := ((6, 121), (6, 119), (1, 1), (6, 120), 0, 0)
set_option maxRecDepth 100000 in
theorem zw_167_ok : zm_mwk 167 zw_167 := by unfold zm_mwk; decide +kernel
def zw_168 : zm_MW := ((6, 136), (6, 134), (1, 1), (6, 135), 0, 1)
set_option maxRecDepth 100000 in
theorem zw_168_ok : zm_mwk 168 zw_168 := by unfold zm_mwk; decide +kernel
def zw_169 : zm_MW := ((6, 145), (6, 144), (1, 13), (0, 0), 1, 0)
set_option maxRecDepth 100000 in
theorem zw_169_ok : zm_mwk 169 zw_169 := by unfold zm_mwk; decide +kernel
def zw_170 : zm_MW := ((7, 206), (7, 204), (1, 13), (7, 205), 0, 2)
set_option maxRecDepth 100000 in
theorem zw_170_ok : zm_mwk 170 zw_170 := by unfold zm_mwk; decide +kernel
def zw_171 : zm_MW := ((7, 209), (7, 208), (1, 13), (0, 0), 2, 1)
set_option maxRecDepth 100000 in
theorem zw_171_ok : zm_mwk 171 zw_171 := by unfold zm_mwk; decide +kernel
def zw_172 : zm_MW := ((7, 212), (7, 211), (1, 13), (0, 0), 2, 3)
set_option maxRecDepth 100000 in
theorem zw_172_ok : zm_mwk 172 zw_172 := by unfold zm_mwk; decide +kernel
def zw_173 : zm_MW := ((7, 216), (7, 214), (1, 13), (7, 215), 0, 3)
set_option maxRecDepth 100000 in
theorem zw_173_ok : zm_mwk 173 zw_173 := by unfold zm_mwk; decide +kernel
def zw_174 : zm_MW := ((7, 220), (7, 218), (1, 13), (7, 219), 0, 3)
set_option maxRecDepth 100000 in
theorem zw_174_ok : zm_mwk 174 zw_174 := by unfold zm_mwk; decide +kernel
def zw_175 : zm_MW := ((7, 225), (7, 224), (1, 13), (0, 104), 0, 2)
set_option maxRecDepth 100000 in
theorem zw_175_ok : zm_mwk 175 zw_175 := by unfold zm_mwk; decide +kernel
def zw_176 : zm_MW := ((7, 229), (7, 227), (1, 13), (7, 228), 0, 5)
set_option maxRecDepth 100000 in
theorem zw_176_ok : zm_mwk 176 zw_176 := by unfold zm_mwk; decide +kernel
def zw_177 : zm_MW := ((7, 233), (7, 231), (1, 13), (7, 232), 0, 1)
set_option maxRecDepth 100000 in
theorem zw_177_ok : zm_mwk 177 zw_177 := by unfold zm_mwk; decide +kernel
def zw_178 : zm_MW := ((7, 237), (7, 235), (1, 13), (7, 236), 0, 0)
set_option maxRecDepth 100000 in
theorem zw_178_ok : zm_mwk 178 zw_178 := by unfold zm_mwk; decide +kernel
def zw_179 : zm_MW := ((8, 1), (8, 0), (1, 13), (0, 105), 0, 0)
set_option maxRecDepth 100000 in
theorem zw_179_ok : zm_mwk 179 zw_179 := by unfold zm_mwk; decide +kernel
def zw_180 : zm_MW := ((8, 5), (8, 4), (1, 13), (0, 106), 0, 0)
set_option maxRecDepth 100000 in
theorem zw_180_ok : zm_mwk 180 zw_180 := by unfold zm_mwk; decide +kernel
def zw_181 : zm_MW := ((8, 8), (8, 7), (1, 13), (0, 0), 2, 1)
set_option maxRecDepth 100000 in
theorem zw_181_ok : zm_mwk 181 zw_181 := by unfold zm_mwk; decide +kernel
def zw_182 : zm_MW := ((8, 12), (8, 11), (1, 13), (0, 107), 0, 2)
set_option maxRecDepth 100000 in
theorem zw_182_ok : zm_mwk 182 zw_182 := by unfold zm_mwk; decide +kernel
def zw_183 : zm_MW := ((8, 18), (8, 17), (1, 13), (0, 0), 2, 1)
set_option maxRecDepth 100000 in
theorem zw_183_ok : zm_mwk 183 zw_183 := by unfold zm_mwk; decide +kernel
def zw_184 : zm_MW := ((8, 23), (8, 22), (1, 13), (0, 108), 0, 1)
set_option maxRecDepth 100000 in
theorem zw_184_ok : zm_mwk 184 zw_184 := by unfold zm_mwk; decide +kernel
def zw_185 : zm_MW := ((8, 27), (8, 26), (1, 13), (0, 109), 0, 1)
set_option maxRecDepth 100000 in
theorem zw_185_ok : zm_mwk 185 zw_185 := by unfold zm_mwk; decide +kernel
def zw_186 : zm_MW := ((8, 31), (8, 30), (1, 13), (0, 110), 0, 2)
set_option maxRecDepth 100000 in
theorem zw_186_ok : zm_mwk 186 zw_186 := by unfold zm_mwk; decide +kernel
def zw_187 : zm_MW := ((8, 35), (8, 34), (1, 13), (0, 111), 0, 1)
set_option maxRecDepth 100000 in
theorem zw_187_ok : zm_mwk 187 zw_187 := by unfold zm_mwk; decide +kernel
def zw_188 : zm_MW := ((8, 39), (8, 38), (1, 13), (0, 112), 0, 0)
set_option maxRecDepth 100000 in
theorem zw_188_ok : zm_mwk 188 zw_188 := by unfold zm_mwk; decide +kernel
def zw_189 : zm_MW := ((8, 43), (8, 42), (1, 13), (0, 113), 0, 0)
set_option maxRecDepth 100000 in
theorem zw_189_ok : zm_mwk 189 zw_189 := by unfold zm_mwk; decide +kernel
def zw_190 : zm_MW := ((8, 47), (8, 46), (1, 13), (0, 114), 0, 2)
set_option maxRecDepth 100000 in
theorem zw_190_ok : zm_mwk 190 zw_190 := by unfold zm_mwk; decide +kernel
def zw_191 : zm_MW := ((8, 51), (8, 50), (1, 13), (0, 115), 0, 6)
set_option maxRecDepth 100000 in
theorem zw_191_ok : zm_mwk 191 zw_191 := by unfold zm_mwk; decide +kernel
def zw_192 : zm_MW := ((8, 55), (8, 54), (1, 13), (0, 116), 0, 0)
set_option maxRecDepth 100000 in
theorem zw_192_ok : zm_mwk 192 zw_192 := by unfold zm_mwk; decide +kernel
def zw_193 : zm_MW := ((8, 60), (8, 59), (1, 13), (0, 117), 0, 0)
set_option maxRecDepth 100000 in
theorem zw_193_ok : zm_mwk 193 zw_193 := by unfold zm_mwk; decide +kernel
def zw_194 : zm_MW := ((8, 64), (8, 63), (1, 13), (0, 118), 0, 4)
set_option maxRecDepth 100000 in
theorem zw_194_ok : zm_mwk 194 zw_194 := by unfold zm_mwk; decide +kernel
def zw_195 : zm_MW := ((8, 68), (8, 67), (1, 13), (0, 119), 0, 1)
set_option maxRecDepth 100000 in
theorem zw_195_ok : zm_mwk 195 zw_195 := by unfold zm_mwk; decide +kernel
def zw_196 : zm_MW := ((8, 72), (8, 71), (1, 13), (0, 120), 0, 0)
set_option maxRecDepth 100000 in
theorem zw_196_ok : zm_mwk 196 zw_196 := by unfold zm_mwk; decide +kernel
def zw_197 : zm_MW := ((8, 76), (8, 75), (1, 13), (0, 121), 0, 0)
set_option maxRecDepth 100000 in
theorem zw_197_ok : zm_mwk 197 zw_197 := by unfold zm_mwk; decide +kernel
def zw_198 : zm_MW := ((8, 80), (8, 78), (1, 13), (8, 79), 0, 0)
set_option maxRecDepth 100000 in
theorem zw_198_ok : zm_mwk 198 zw_198 := by unfold zm_mwk; decide +kernel
def zw_199 : zm_MW := ((8, 84), (8, 82), (1, 13), (8, 83), 0, 2)
set_option maxRecDepth 100000 in
theorem zw_199_ok : zm_mwk 199 zw_199 := by unfold zm_mwk; decide +kernel
def zw_200 : zm_MW := ((8, 88), (8, 86), (1, 13), (8, 87), 0, 2)
set_option maxRecDepth 100000 in
theorem zw_200_ok : zm_mwk 200 zw_200 := by unfold zm_mwk; decide +kernel
def zw_201 : zm_MW := ((8, 92), (8, 91), (1, 13), (0, 122), 0, 2)
set_option maxRecDepth 100000 in
theorem zw_201_ok : zm_mwk 201 zw_201 := by unfold zm_mwk; decide +kernel
def zw_202 : zm_MW := ((8, 96), (8, 94), (1, 13), (8, 95), 0, 2)
set_option maxRecDepth 100000 in
theorem zw_202_ok : zm_mwk 202 zw_202 := by unfold zm_mwk; decide +kernel
def zw_203 : zm_MW := ((8, 100), (8, 98), (1, 13), (8, 99), 0, 3)
set_option maxRecDepth 100000 in
theorem zw_203_ok : zm_mwk 203 zw_203 := by unfold zm_mwk; decide +kernel
def zw_204 : zm_MW := ((8, 104), (8, 102), (1, 13), (8, 103), 0, 3)
set_option maxRecDepth 100000 in
theorem zw_204_ok : zm_mwk 204 zw_204 := by unfold zm_mwk; decide +kernel
def zw_205 : zm_MW := ((8, 108), (8, 107), (1, 13), (0, 123), 0, 1)
set_option maxRecDepth 100000 in
theorem zw_205_ok : zm_mwk 205 zw_205 := by unfold zm_mwk; decide +kernel
def zw_206 : zm_MW := ((8, 111), (8, 110), (1, 13), (0, 0), 2, 1)
set_option maxRecDepth 100000 in
theorem zw_206_ok : zm_mwk 206 zw_206 := by unfold zm_mwk; decide +kernel
def zw_207 : zm_MW := ((8, 115), (8, 114), (1, 13), (0, 124), 0, 1)
set_option maxRecDepth 100000 in
theorem zw_207_ok : zm_mwk 207 zw_207 := by unfold zm_mwk; decide +kernel
def zw_208 : zm_MW := ((8, 118), (8, 117), (1, 13), (0, 0), 2, 1)
set_option maxRecDepth 100000 in
theorem zw_208_ok : zm_mwk 208 zw_208 := by unfold zm_mwk; decide +kernel
def zw_209 : zm_MW := ((8, 122), (8, 121), (1, 13), (0, 125), 0, 5)
set_option maxRecDepth 100000 in
theorem zw_209_ok : zm_mwk 209 zw_209 := by unfold zm_mwk; decide +kernel
def zw_210 : zm_MW := ((8, 126), (8, 125), (1, 13), (0, 126), 0, 2)
set_option maxRecDepth 100000 in
theorem zw_210_ok : zm_mwk 210 zw_210 := by unfold zm_mwk; decide +kernel
def zw_211 : zm_MW := ((8, 130), (8, 129), (1, 13), (0, 127), 0, 4)
set_option maxRecDepth 100000 in
theorem zw_211_ok : zm_mwk 211 zw_211 := by unfold zm_mwk; decide +kernel
def zw_212 : zm_MW := ((8, 133), (8, 132), (1, 13), (0, 0), 2, 3)
set_option maxRecDepth 100000 in
theorem zw_212_ok : zm_mwk 212 zw_212 := by unfold zm_mwk; decide +kernel
def zw_213 : zm_MW := ((8, 137), (8, 136), (1, 13), (0, 128), 0, 5)
set_option maxRecDepth 100000 in
theorem zw_213_ok : zm_mwk 213 zw_213 := by unfold zm_mwk; decide +kernel
def zw_214 : zm_MW := ((8, 141), (8, 139), (1, 13), (8, 140), 0, 1)
set_option maxRecDepth 100000 in
theorem zw_214_ok : zm_mwk 214 zw_214 := by unfold zm_mwk; decide +kernel
def zw_215 : zm_MW := ((8, 146), (8, 144), (1, 13), (8, 145), 0, 1)
set_option maxRecDepth 100000 in
theorem zw_215_ok : zm_mwk 215 zw_215 := by unfold zm_mwk; decide +kernel
def zw_216 : zm_MW := ((8, 150), (8, 148), (1, 13), (8, 149), 0, 1)
set_option maxRecDepth 100000 in
theorem zw_216_ok : zm_mwk 216 zw_216 := by unfold zm_mwk; decide +kernel
def zw_217 : zm_MW := ((8, 154), (8, 153), (1, 13), (0, 129), 0, 0)
set_option maxRecDepth 100000 in
theorem zw_217_ok : zm_mwk 217 zw_217 := by unfold zm_mwk; decide +kernel
def zw_218 : zm_MW := ((8, 158), (8, 157), (1, 13), (0, 130), 0, 3)
set_option maxRecDepth 100000 in
theorem zw_218_ok : zm_mwk 218 zw_218 := by unfold zm_mwk; decide +kernel
def zw_219 : zm_MW := ((8, 162), (8, 161), (1, 13), (0, 131), 0, 2)
set_option maxRecDepth 100000 in
theorem zw_219_ok : zm_mwk 219 zw_219 := by unfold zm_mwk; decide +kernel
def zw_220 : zm_MW := ((8, 166), (8, 165), (1, 13), (0, 132), 0, 1)
set_option maxRecDepth 100000 in
theorem zw_220_ok : zm_mwk 220 zw_220 := by unfold zm_mwk; decide +kernel
def zw_221 : zm_MW := ((8, 170), (8, 169), (1, 13), (0, 133), 0, 2)
set_option maxRecDepth 100000 in
theorem zw_221_ok : zm_mwk 221 zw_221 := by unfold zm_mwk; decide +kernel
def zw_222 : zm_MW := ((8, 173), (8, 172), (1, 13), (0, 0), 2, 3)
set_option maxRecDepth 100000 in
theorem zw_222_ok : zm_mwk 222 zw_222 := by unfold zm_mwk; decide +kernel
def zw_223 : zm_MW := ((8, 176), (8, 175), (1, 13), (0, 0), 2, 1)
set_option maxRecDepth 100000 in
theorem zw_223_ok : zm_mwk 223 zw_223 := by unfold zm_mwk; decide +kernel
def zw_224 : zm_MW := ((8, 183), (8, 182), (1, 13), (0, 134), 0, 2)
set_option maxRecDepth 100000 in
theorem zw_224_ok : zm_mwk 224 zw_224 := by unfold zm_mwk; decide +kernel
def zw_225 : zm_MW := ((8, 187), (8, 186), (1, 13), (0, 135), 0, 1)
set_option maxRecDepth 100000 in
theorem zw_225_ok : zm_mwk 225 zw_225 := by unfold zm_mwk; decide +kernel
def zw_226 : zm_MW := ((8, 191), (8, 190), (1, 13), (0, 136), 0, 1)
set_option maxRecDepth 100000 in
theorem zw_226_ok : zm_mwk 226 zw_226 := by unfold zm_mwk; decide +kernel
def zw_227 : zm_MW := ((8, 195), (8, 194), (1, 13), (0, 137), 0, 3)
set_option maxRecDepth 100000 in
theorem zw_227_ok : zm_mwk 227 zw_227 := by unfold zm_mwk; decide +kernel
def zw_228 : zm_MW := ((8, 199), (8, 198), (1, 13), (0, 138), 0, 1)
set_option maxRecDepth 100000 in
theorem zw_228_ok : zm_mwk 228 zw_228 := by unfold zm_mwk; decide +kernel
def zw_229 : zm_MW := ((8, 205), (8, 204), (1, 13), (0, 139), 0, 1)
set_option maxRecDepth 100000 in
theorem zw_229_ok : zm_mwk 229 zw_229 := by unfold zm_mwk; decide +kernel
def zw_230 : zm_MW := ((8, 208), (8, 207), (1, 13), (0, 0), 2, 1)
set_option maxRecDepth 100000 in
theorem zw_230_ok : zm_mwk 230 zw_230 := by unfold zm_mwk; decide +kernel
def zw_231 : zm_MW := ((8, 212), (8, 210), (1, 13), (8, 211), 0, 2)
set_option maxRecDepth 100000 in
theorem zw_231_ok : zm_mwk 231 zw_231 := by unfold zm_mwk; decide +kernel
def zw_232 : zm_MW := ((8, 216), (8, 215), (1, 13), (0, 140), 0, 3)
set_option maxRecDepth 100000 in
theorem zw_232_ok : zm_mwk 232 zw_232 := by unfold zm_mwk; decide +kernel
def zw_233 : zm_MW := ((8, 220), (8, 218), (1, 13), (8, 219), 0, 2)
set_option maxRecDepth 100000 in
theorem zw_233_ok : zm_mwk 233 zw_233 := by unfold zm_mwk; decide +kernel
def zw_234 : zm_MW := ((8, 224), (8, 223), (1, 13), (0, 141), 0, 1)
set_option maxRecDepth 100000 in
theorem zw_234_ok : zm_mwk 234 zw_234 := by unfold zm_mwk; decide +kernel
def zw_235 : zm_MW := ((8, 227), (8, 226), (1, 13), (0, 0), 2, 1)
set_option maxRecDepth 100000 in
theorem zw_235_ok : zm_mwk 235 zw_235 := by unfold zm_mwk; decide +kernel
def zw_236 : zm_MW := ((8, 231), (8, 229), (1, 13), (8, 230), 0, 3)
set_option maxRecDepth 100000 in
theorem zw_236_ok : zm_mwk 236 zw_236 := by unfold zm_mwk; decide +kernel
def zw_237 : zm_MW := ((8, 235), (8, 234), (1, 13), (0, 142), 0, 0)
set_option maxRecDepth 100000 in
theorem zw_237_ok : zm_mwk 237 zw_237 := by unfold zm_mwk; decide +kernel
def zw_238 : zm_MW := ((8, 239), (8, 238), (1, 13), (0, 143), 0, 2)
set_option maxRecDepth 100000 in
theorem zw_238_ok : zm_mwk 238 zw_238 := by unfold zm_mwk; decide +kernel
def zw_239 : zm_MW := ((9, 3), (9, 1), (1, 13), (9, 2), 0, 2)
set_option maxRecDepth 100000 in
theorem zw_239_ok : zm_mwk 239 zw_239 := by unfold zm_mwk; decide +kernel
def zw_240 : zm_MW := ((9, 7), (9, 5), (1, 13), (9, 6), 0, 2)
set_option maxRecDepth 100000 in
theorem zw_240_ok : zm_mwk 240 zw_240 := by unfold zm_mwk; decide +kernel
def zw_241 : zm_MW := ((9, 11), (9, 9), (1, 13), (9, 10), 0, 4)
set_option maxRecDepth 100000 in
theorem zw_241_ok : zm_mwk 241 zw_241 := by unfold zm_mwk; decide +kernel
def zw_242 : zm_MW := ((9, 15), (9, 13), (1, 13), (9, 14), 0, 2)
set_option maxRecDepth 100000 in
theorem zw_242_ok : zm_mwk 242 zw_242 := by unfold zm_mwk; decide +kernel
def zw_243 : zm_MW := ((9, 19), (9, 17), (1, 13), (9, 18), 0, 3)
set_option maxRecDepth 100000 in
theorem zw_243_ok : zm_mwk 243 zw_243 := by unfold zm_mwk; decide +kernel
def zw_244 : zm_MW := ((9, 22), (9, 21), (1, 13), (0, 0), 2, 1)
set_option maxRecDepth 100000 in
theorem zw_244_ok : zm_mwk 244 zw_244 := by unfold zm_mwk; decide +kernel
def zw_245 : zm_MW := ((9, 26), (9, 24), (1, 13), (9, 25), 0, 5)
set_option maxRecDepth 100000 in
theorem zw_245_ok : zm_mwk 245 zw_245 := by unfold zm_mwk; decide +kernel
def zw_246 : zm_MW := ((9, 30), (9, 28), (1, 13), (9, 29), 0, 2)
set_option maxRecDepth 100000 in
theorem zw_246_ok : zm_mwk 246 zw_246 := by unfold zm_mwk; decide +kernel
def zw_247 : zm_MW := ((9, 34), (9, 32), (1, 13), (9, 33), 0, 2)
set_option maxRecDepth 100000 in
theorem zw_247_ok : zm_mwk 247 zw_247 := by unfold zm_mwk; decide +kernel
def zw_248 : zm_MW := ((9, 38), (9, 36), (1, 13), (9, 37), 0, 0)
set_option maxRecDepth 100000 in
theorem zw_248_ok : zm_mwk 248 zw_248 := by unfold zm_mwk; decide +kernel
def zw_249 : zm_MW := ((9, 42), (9, 40), (1, 13), (9, 41), 0, 3)
set_option maxRecDepth 100000 in
theorem zw_249_ok : zm_mwk 249 zw_249 := by unfold zm_mwk; decide +kernel
def zw_250 : zm_MW := ((9, 46), (9, 45), (1, 13), (0, 144), 0, 1)
set_option maxRecDepth 100000 in
theorem zw_250_ok : zm_mwk 250 zw_250 := by unfold zm_mwk; decide +kernel
def zw_251 : zm_MW := ((9, 50), (9, 48), (1, 13), (9, 49), 0, 2)
set_option maxRecDepth 100000 in
theorem zw_251_ok : zm_mwk 251 zw_251 := by unfold zm_mwk; decide +kernel
def zw_252 : zm_MW := ((9, 54), (9, 53), (1, 13), (0, 145), 0, 1)
set_option maxRecDepth 100000 in
theorem zw_252_ok : zm_mwk 252 zw_252 := by unfold zm_mwk; decide +kernel
def zw_253 : zm_MW := ((9, 58), (9, 57), (1, 13), (0, 146), 0, 2)
set_option maxRecDepth 100000 in
theorem zw_253_ok : zm_mwk 253 zw_253 := by unfold zm_mwk; decide +kernel
def zw_254 : zm_MW := ((9, 62), (9, 60), (1, 13), (9, 61), 0, 1)
set_option maxRecDepth 100000 in
theorem zw_254_ok : zm_mwk 254 zw_254 := by unfold zm_mwk; decide +kernel
def zw_255 : zm_MW := ((9, 66), (9, 64), (1, 13), (9, 65), 0, 0)
set_option maxRecDepth 100000 in
theorem zw_255_ok : zm_mwk 255 zw_255 := by unfold zm_mwk; decide +kernel
def zw_256 : zm_MW := ((9, 70), (9, 68), (1, 13), (9, 69), 0, 5)
set_option maxRecDepth 100000 in
theorem zw_256_ok : zm_mwk 256 zw_256 := by unfold zm_mwk; decide +kernel
def zw_257 : zm_MW := ((9, 74), (9, 73), (1, 13), (0, 147), 0, 3)
set_option maxRecDepth 100000 in
theorem zw_257_ok : zm_mwk 257 zw_257 := by unfold zm_mwk; decide +kernel
def zw_258 : zm_MW := ((9, 78), (9, 76), (1, 13), (9, 77), 0, 2)
set_option maxRecDepth 100000 in
theorem zw_258_ok : zm_mwk 258 zw_258 := by unfold zm_mwk; decide +kernel
def zw_259 : zm_MW := ((9, 82), (9, 80), (1, 13), (9, 81), 0, 3)
set_option maxRecDepth 100000 in
theorem zw_259_ok : zm_mwk 259 zw_259 := by unfold zm_mwk; decide +kernel
def zw_260 : zm_MW := ((9, 85), (9, 84), (1, 13), (0, 0), 2, 2)
set_option maxRecDepth 100000 in
theorem zw_260_ok : zm_mwk 260 zw_260 := by unfold zm_mwk; decide +kernel
def zw_261 : zm_MW := ((9, 89), (9, 87), (1, 13), (9, 88), 0, 0)
set_option maxRecDepth 100000 in
theorem zw_261_ok : zm_mwk 261 zw_261 := by unfold zm_mwk; decide +kernel
def zw_262 : zm_MW := ((9, 92), (9, 91), (1, 13), (0, 0), 2, 1)
set_option maxRecDepth 100000 in
theorem zw_262_ok : zm_mwk 262 zw_262 := by unfold zm_mwk; decide +kernel
def zw_263 : zm_MW := ((9, 96), (9, 94), (1, 13), (9, 95), 0, 1)
set_option maxRecDepth 100000 in
theorem zw_263_ok : zm_mwk 263 zw_263 := by unfold zm_mwk; decide +kernel
def zw_264 : zm_MW := ((6, 128), (6, 127), (1, 21), (0, 0), 2, 1)
set_option maxRecDepth 100000 in
theorem zw_264_ok : zm_mwk 264 zw_264 := by unfold zm_mwk; decide +kernel
def zw_265 : zm_MW := ((1, 39), (1, 38), (1, 3), (0, 0), 2, 2)
set_option maxRecDepth 100000 in
theorem zw_265_ok : zm_mwk 265 zw_265 := by unfold zm_mwk; decide +kernel
def zw_266 : zm_MW := ((4, 91), (4, 90), (1, 3), (0, 0), 2, 2)
set_option maxRecDepth 100000 in
theorem zw_266_ok : zm_mwk 266 zw_266 := by unfold zm_mwk; decide +kernel
def zm_mws : List zm_MW := [zw_0, zw_1, zw_2, zw_3, zw_4, zw_5, zw_6, zw_7, zw_8, zw_9, zw_10, zw_11, zw_12, zw_13, zw_14, zw_15, zw_16, zw_17, zw_18, zw_19, zw_20, zw_21, zw_22, zw_23, zw_24, zw_25, zw_26, zw_27, zw_28, zw_29, zw_30, zw_31, zw_32, zw_33, zw_34, zw_35, zw_36, zw_37, zw_38, zw_39, zw_40, zw_41, zw_42, zw_43, zw_44, zw_45, zw_46, zw_47, zw_48, zw_49, zw_50, zw_51, zw_52, zw_53, zw_54, zw_55, zw_56, zw_57, zw_58, zw_59, zw_60, zw_61, zw_62, zw_63, zw_64, zw_65, zw_66, zw_67, zw_68, zw_69, zw_70, zw_71, zw_72, zw_73, zw_74, zw_75, zw_76, zw_77, zw_78, zw_79, zw_80, zw_81, zw_82, zw_83, zw_84, zw_85, zw_86, zw_87, zw_88, zw_89, zw_90, zw_91, zw_92, zw_93, zw_94, zw_95, zw_96, zw_97, zw_98, zw_99, zw_100, zw_101, zw_102, zw_103, zw_104, zw_105, zw_106, zw_107, zw_108, zw_109, zw_110, zw_111, zw_112, zw_113, zw_114, zw_115, zw_116, zw_117, zw_118, zw_119, zw_120, zw_121, zw_122, zw_123, zw_124, zw_125, zw_126, zw_127, zw_128, zw_129, zw_130, zw_131, zw_132, zw_133, zw_134, zw_135, zw_136, zw_137, zw_138, zw_139, zw_140, zw_141, zw_142, zw_143, zw_144, zw_145, zw_146, zw_147, zw_148, zw_149, zw_150, zw_151, zw_152, zw_153, zw_154, zw_155, zw_156, zw_157, zw_158, zw_159, zw_160, zw_161, zw_162, zw_163, zw_164, zw_165, zw_166, zw_167, zw_168, zw_169, zw_170, zw_171, zw_172, zw_173, zw_174, zw_175, zw_176, zw_177, zw_178, zw_179, zw_180, zw_181, zw_182, zw_183, zw_184, zw_185, zw_186, zw_187, zw_188, zw_189, zw_190, zw_191, zw_192, zw_193, zw_194, zw_195, zw_196, zw_197, zw_198, zw_199, zw_200, zw_201, zw_202, zw_203, zw_204, zw_205, zw_206, zw_207, zw_208, zw_209, zw_210, zw_211, zw_212, zw_213, zw_214, zw_215, zw_216, zw_217, zw_218, zw_219, zw_220, zw_221, zw_222, zw_223, zw_224, zw_225, zw_226, zw_227, zw_228, zw_229, zw_230, zw_231, zw_232, zw_233, zw_234, zw_235, zw_236, zw_237, zw_238, zw_239, zw_240, zw_241, zw_242, zw_243, zw_244, zw_245, zw_246, zw_247, zw_248, zw_249, zw_250, zw_251, zw_252, zw_253, zw_254, zw_255, zw_256, zw_257, zw_258, zw_259, zw_260, zw_261, zw_262, zw_263, zw_264, zw_265, zw_266]
/-! ===== END printed ===== -/
