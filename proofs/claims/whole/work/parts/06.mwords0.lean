/-! ===== BEGIN printed by a program of ours: the words of each method ===== -/
abbrev zm_MW : Type := (Nat × Nat) × (Nat × Nat) × (Nat × Nat) × (Nat × Nat) × Nat × Nat
def zm_mwk (m : Nat) (q : zm_MW) : Prop :=
  (zm_tb q.1.1)[q.1.2]? = some (Cond.code (zm_y m) (zm_b m) (zm_ml m) (zm_rt m)) ∧ (zm_tb q.2.1.1)[q.2.1.2]? = some (if q.2.2.2.2.1 = 2 then Cond.static (zm_y m) else Cond.instanceMethod (zm_y m)) ∧ (zm_tb q.2.2.1.1)[q.2.2.1.2]? = some (Cond.initialized (zm_y m).cls) ∧ (q.2.2.2.2.1 = 0 → (zm_tb q.2.2.2.1.1)[q.2.2.2.1.2]? = some (Cond.selects (zm_y m).cls (zm_y m) (zm_y m))) ∧ (q.2.2.2.2.1 = 1 → (zm_y m).name = "<init>")
  ∧ ((zm_y m).cls ≠ "java/lang/invoke/MethodHandle" ∧ (zm_y m).cls ≠ "java/lang/invoke/VarHandle" ∧ (parseMethodDescriptor (zm_y m).desc).map (fun d => d.parameters.length) = some q.2.2.2.2.2) ∧ plainName (zm_y m).cls = true ∧ (zm_y m).cls = zm_cn (zm_oc m)
def zw_0 : zm_MW := ((2, 230), (2, 229), (1, 12), (0, 0), 1, 0)
set_option maxRecDepth 100000 in
theorem zw_0_ok : zm_mwk 0 zw_0 := by unfold zm_mwk; decide +kernel
def zw_1 : zm_MW := ((6, 124), (6, 123), (1, 12), (0, 102), 0, 3)
set_option maxRecDepth 100000 in
theorem zw_1_ok : zm_mwk 1 zw_1 := by unfold zm_mwk; decide +kernel
def zw_2 : zm_MW := ((6, 127), (6, 126), (1, 12), (0, 0), 2, 2)
set_option maxRecDepth 100000 in
theorem zw_2_ok : zm_mwk 2 zw_2 := by unfold zm_mwk; decide +kernel
def zw_3 : zm_MW := ((6, 135), (6, 134), (1, 12), (0, 103), 0, 0)
set_option maxRecDepth 100000 in
theorem zw_3_ok : zm_mwk 3 zw_3 := by unfold zm_mwk; decide +kernel
def zw_4 : zm_MW := ((2, 8), (2, 7), (1, 8), (0, 0), 1, 3)
set_option maxRecDepth 100000 in
theorem zw_4_ok : zm_mwk 4 zw_4 := by unfold zm_mwk; decide +kernel
def zw_5 : zm_MW := ((4, 169), (4, 168), (1, 8), (0, 34), 0, 3)
set_option maxRecDepth 100000 in
theorem zw_5_ok : zm_mwk 5 zw_5 := by unfold zm_mwk; decide +kernel
def zw_6 : zm_MW := ((4, 173), (4, 172), (1, 8), (0, 35), 0, 1)
set_option maxRecDepth 100000 in
theorem zw_6_ok : zm_mwk 6 zw_6 := by unfold zm_mwk; decide +kernel
def zw_7 : zm_MW := ((4, 177), (4, 176), (1, 8), (0, 36), 0, 1)
set_option maxRecDepth 100000 in
theorem zw_7_ok : zm_mwk 7 zw_7 := by unfold zm_mwk; decide +kernel
def zw_8 : zm_MW := ((4, 189), (4, 188), (1, 8), (0, 39), 0, 1)
set_option maxRecDepth 100000 in
theorem zw_8_ok : zm_mwk 8 zw_8 := by unfold zm_mwk; decide +kernel
def zw_9 : zm_MW := ((4, 194), (4, 193), (1, 8), (0, 40), 0, 4)
set_option maxRecDepth 100000 in
theorem zw_9_ok : zm_mwk 9 zw_9 := by unfold zm_mwk; decide +kernel
def zw_10 : zm_MW := ((4, 198), (4, 197), (1, 8), (0, 41), 0, 3)
set_option maxRecDepth 100000 in
theorem zw_10_ok : zm_mwk 10 zw_10 := by unfold zm_mwk; decide +kernel
def zw_11 : zm_MW := ((4, 202), (4, 201), (1, 8), (0, 42), 0, 1)
set_option maxRecDepth 100000 in
theorem zw_11_ok : zm_mwk 11 zw_11 := by unfold zm_mwk; decide +kernel
def zw_12 : zm_MW := ((5, 32), (5, 31), (1, 8), (0, 51), 0, 2)
set_option maxRecDepth 100000 in
theorem zw_12_ok : zm_mwk 12 zw_12 := by unfold zm_mwk; decide +kernel
def zw_13 : zm_MW := ((5, 38), (5, 37), (1, 8), (0, 52), 0, 1)
set_option maxRecDepth 100000 in
theorem zw_13_ok : zm_mwk 13 zw_13 := by unfold zm_mwk; decide +kernel
def zw_14 : zm_MW := ((5, 43), (5, 42), (1, 8), (0, 53), 0, 3)
set_option maxRecDepth 100000 in
theorem zw_14_ok : zm_mwk 14 zw_14 := by unfold zm_mwk; decide +kernel
def zw_15 : zm_MW := ((5, 47), (5, 46), (1, 8), (0, 54), 0, 1)
set_option maxRecDepth 100000 in
theorem zw_15_ok : zm_mwk 15 zw_15 := by unfold zm_mwk; decide +kernel
def zw_16 : zm_MW := ((5, 51), (5, 50), (1, 8), (0, 55), 0, 1)
set_option maxRecDepth 100000 in
theorem zw_16_ok : zm_mwk 16 zw_16 := by unfold zm_mwk; decide +kernel
def zw_17 : zm_MW := ((5, 55), (5, 54), (1, 8), (0, 56), 0, 1)
set_option maxRecDepth 100000 in
theorem zw_17_ok : zm_mwk 17 zw_17 := by unfold zm_mwk; decide +kernel
def zw_18 : zm_MW := ((5, 62), (5, 61), (1, 8), (0, 57), 0, 2)
set_option maxRecDepth 100000 in
theorem zw_18_ok : zm_mwk 18 zw_18 := by unfold zm_mwk; decide +kernel
def zw_19 : zm_MW := ((5, 66), (5, 65), (1, 8), (0, 58), 0, 1)
set_option maxRecDepth 100000 in
theorem zw_19_ok : zm_mwk 19 zw_19 := by unfold zm_mwk; decide +kernel
def zw_20 : zm_MW := ((5, 103), (5, 102), (1, 8), (0, 64), 0, 2)
set_option maxRecDepth 100000 in
theorem zw_20_ok : zm_mwk 20 zw_20 := by unfold zm_mwk; decide +kernel
def zw_21 : zm_MW := ((5, 107), (5, 106), (1, 8), (0, 65), 0, 1)
set_option maxRecDepth 100000 in
theorem zw_21_ok : zm_mwk 21 zw_21 := by unfold zm_mwk; decide +kernel
def zw_22 : zm_MW := ((5, 113), (5, 112), (1, 8), (0, 66), 0, 2)
set_option maxRecDepth 100000 in
theorem zw_22_ok : zm_mwk 22 zw_22 := by unfold zm_mwk; decide +kernel
def zw_23 : zm_MW := ((5, 119), (5, 118), (1, 8), (0, 67), 0, 3)
set_option maxRecDepth 100000 in
theorem zw_23_ok : zm_mwk 23 zw_23 := by unfold zm_mwk; decide +kernel
def zw_24 : zm_MW := ((5, 123), (5, 122), (1, 8), (0, 68), 0, 3)
set_option maxRecDepth 100000 in
theorem zw_24_ok : zm_mwk 24 zw_24 := by unfold zm_mwk; decide +kernel
def zw_25 : zm_MW := ((5, 129), (5, 128), (1, 8), (0, 69), 0, 3)
set_option maxRecDepth 100000 in
theorem zw_25_ok : zm_mwk 25 zw_25 := by unfold zm_mwk; decide +kernel
def zw_26 : zm_MW := ((5, 133), (5, 132), (1, 8), (0, 70), 0, 1)
set_option maxRecDepth 100000 in
theorem zw_26_ok : zm_mwk 26 zw_26 := by unfold zm_mwk; decide +kernel
def zw_27 : zm_MW := ((5, 137), (5, 136), (1, 8), (0, 71), 0, 1)
set_option maxRecDepth 100000 in
theorem zw_27_ok : zm_mwk 27 zw_27 := by unfold zm_mwk; decide +kernel
def zw_28 : zm_MW := ((5, 163), (5, 162), (1, 8), (0, 74), 0, 3)
set_option maxRecDepth 100000 in
theorem zw_28_ok : zm_mwk 28 zw_28 := by unfold zm_mwk; decide +kernel
def zw_29 : zm_MW := ((5, 167), (5, 166), (1, 8), (0, 75), 0, 2)
set_option maxRecDepth 100000 in
theorem zw_29_ok : zm_mwk 29 zw_29 := by unfold zm_mwk; decide +kernel
def zw_30 : zm_MW := ((5, 179), (5, 178), (1, 8), (0, 77), 0, 2)
set_option maxRecDepth 100000 in
theorem zw_30_ok : zm_mwk 30 zw_30 := by unfold zm_mwk; decide +kernel
def zw_31 : zm_MW := ((5, 192), (5, 191), (1, 8), (0, 79), 0, 0)
set_option maxRecDepth 100000 in
theorem zw_31_ok : zm_mwk 31 zw_31 := by unfold zm_mwk; decide +kernel
def zw_32 : zm_MW := ((2, 171), (2, 170), (1, 11), (0, 0), 1, 3)
set_option maxRecDepth 100000 in
theorem zw_32_ok : zm_mwk 32 zw_32 := by unfold zm_mwk; decide +kernel
def zw_33 : zm_MW := ((4, 147), (4, 146), (1, 11), (0, 31), 0, 3)
set_option maxRecDepth 100000 in
theorem zw_33_ok : zm_mwk 33 zw_33 := by unfold zm_mwk; decide +kernel
def zw_34 : zm_MW := ((4, 181), (4, 180), (1, 11), (0, 37), 0, 2)
set_option maxRecDepth 100000 in
theorem zw_34_ok : zm_mwk 34 zw_34 := by unfold zm_mwk; decide +kernel
def zw_35 : zm_MW := ((6, 67), (6, 66), (1, 11), (0, 94), 0, 1)
set_option maxRecDepth 100000 in
theorem zw_35_ok : zm_mwk 35 zw_35 := by unfold zm_mwk; decide +kernel
def zw_36 : zm_MW := ((6, 79), (6, 78), (1, 11), (0, 95), 0, 2)
set_option maxRecDepth 100000 in
theorem zw_36_ok : zm_mwk 36 zw_36 := by unfold zm_mwk; decide +kernel
def zw_37 : zm_MW := ((6, 84), (6, 83), (1, 11), (0, 96), 0, 2)
set_option maxRecDepth 100000 in
theorem zw_37_ok : zm_mwk 37 zw_37 := by unfold zm_mwk; decide +kernel
def zw_38 : zm_MW := ((6, 89), (6, 88), (1, 11), (0, 97), 0, 2)
set_option maxRecDepth 100000 in
theorem zw_38_ok : zm_mwk 38 zw_38 := by unfold zm_mwk; decide +kernel
def zw_39 : zm_MW := ((6, 93), (6, 92), (1, 11), (0, 98), 0, 1)
set_option maxRecDepth 100000 in
theorem zw_39_ok : zm_mwk 39 zw_39 := by unfold zm_mwk; decide +kernel
def zw_40 : zm_MW := ((6, 97), (6, 96), (1, 11), (0, 99), 0, 1)
set_option maxRecDepth 100000 in
theorem zw_40_ok : zm_mwk 40 zw_40 := by unfold zm_mwk; decide +kernel
def zw_41 : zm_MW := ((6, 103), (6, 102), (1, 11), (0, 100), 0, 1)
set_option maxRecDepth 100000 in
theorem zw_41_ok : zm_mwk 41 zw_41 := by unfold zm_mwk; decide +kernel
def zw_42 : zm_MW := ((6, 111), (6, 110), (1, 11), (0, 101), 0, 2)
set_option maxRecDepth 100000 in
theorem zw_42_ok : zm_mwk 42 zw_42 := by unfold zm_mwk; decide +kernel
def zw_43 : zm_MW := ((2, 75), (2, 74), (1, 9), (0, 0), 1, 3)
set_option maxRecDepth 100000 in
theorem zw_43_ok : zm_mwk 43 zw_43 := by unfold zm_mwk; decide +kernel
def zw_44 : zm_MW := ((4, 228), (4, 227), (1, 9), (0, 45), 0, 2)
set_option maxRecDepth 100000 in
theorem zw_44_ok : zm_mwk 44 zw_44 := by unfold zm_mwk; decide +kernel
def zw_45 : zm_MW := ((5, 144), (5, 143), (1, 9), (0, 72), 0, 1)
set_option maxRecDepth 100000 in
theorem zw_45_ok : zm_mwk 45 zw_45 := by unfold zm_mwk; decide +kernel
def zw_46 : zm_MW := ((5, 148), (5, 147), (1, 9), (0, 73), 0, 2)
set_option maxRecDepth 100000 in
theorem zw_46_ok : zm_mwk 46 zw_46 := by unfold zm_mwk; decide +kernel
def zw_47 : zm_MW := ((5, 155), (5, 154), (1, 9), (0, 0), 2, 1)
set_option maxRecDepth 100000 in
theorem zw_47_ok : zm_mwk 47 zw_47 := by unfold zm_mwk; decide +kernel
def zw_48 : zm_MW := ((5, 212), (5, 211), (1, 9), (0, 80), 0, 2)
set_option maxRecDepth 100000 in
theorem zw_48_ok : zm_mwk 48 zw_48 := by unfold zm_mwk; decide +kernel
def zw_49 : zm_MW := ((5, 223), (5, 222), (1, 9), (0, 81), 0, 3)
set_option maxRecDepth 100000 in
theorem zw_49_ok : zm_mwk 49 zw_49 := by unfold zm_mwk; decide +kernel
def zw_50 : zm_MW := ((5, 231), (5, 230), (1, 9), (0, 82), 0, 5)
set_option maxRecDepth 100000 in
theorem zw_50_ok : zm_mwk 50 zw_50 := by unfold zm_mwk; decide +kernel
def zw_51 : zm_MW := ((5, 239), (5, 238), (1, 9), (0, 83), 0, 2)
set_option maxRecDepth 100000 in
theorem zw_51_ok : zm_mwk 51 zw_51 := by unfold zm_mwk; decide +kernel
def zw_52 : zm_MW := ((6, 150), (6, 149), (1, 9), (0, 104), 0, 1)
set_option maxRecDepth 100000 in
theorem zw_52_ok : zm_mwk 52 zw_52 := by unfold zm_mwk; decide +kernel
def zw_53 : zm_MW := ((1, 170), (1, 169), (1, 6), (0, 0), 1, 0)
set_option maxRecDepth 100000 in
theorem zw_53_ok : zm_mwk 53 zw_53 := by unfold zm_mwk; decide +kernel
def zw_54 : zm_MW := ((4, 136), (4, 135), (1, 6), (0, 30), 0, 3)
set_option maxRecDepth 100000 in
theorem zw_54_ok : zm_mwk 54 zw_54 := by unfold zm_mwk; decide +kernel
def zw_55 : zm_MW := ((4, 165), (4, 164), (1, 6), (0, 33), 0, 0)
set_option maxRecDepth 100000 in
theorem zw_55_ok : zm_mwk 55 zw_55 := by unfold zm_mwk; decide +kernel
def zw_56 : zm_MW := ((4, 185), (4, 184), (1, 6), (0, 38), 0, 5)
set_option maxRecDepth 100000 in
theorem zw_56_ok : zm_mwk 56 zw_56 := by unfold zm_mwk; decide +kernel
def zw_57 : zm_MW := ((2, 116), (2, 115), (1, 10), (0, 0), 1, 2)
set_option maxRecDepth 100000 in
theorem zw_57_ok : zm_mwk 57 zw_57 := by unfold zm_mwk; decide +kernel
def zw_58 : zm_MW := ((6, 7), (6, 6), (1, 10), (0, 84), 0, 2)
set_option maxRecDepth 100000 in
theorem zw_58_ok : zm_mwk 58 zw_58 := by unfold zm_mwk; decide +kernel
def zw_59 : zm_MW := ((6, 19), (6, 18), (1, 10), (0, 85), 0, 2)
set_option maxRecDepth 100000 in
theorem zw_59_ok : zm_mwk 59 zw_59 := by unfold zm_mwk; decide +kernel
