/-! ===== printed by a program of ours: the rows of code are what the bytes say ===== -/
set_option maxRecDepth 1000000 in
theorem zi_0 : ∀ e ∈ zc_0, zm_iok 0 e.1 e.2 := by unfold zm_iok; decide +kernel
set_option maxRecDepth 1000000 in
theorem zi_1 : ∀ e ∈ zc_1, zm_iok 1 e.1 e.2 := by unfold zm_iok; decide +kernel
set_option maxRecDepth 1000000 in
theorem zi_2 : ∀ e ∈ zc_2, zm_iok 2 e.1 e.2 := by unfold zm_iok; decide +kernel
set_option maxRecDepth 1000000 in
theorem zi_3 : ∀ e ∈ zc_3, zm_iok 3 e.1 e.2 := by unfold zm_iok; decide +kernel
set_option maxRecDepth 1000000 in
theorem zi_4 : ∀ e ∈ zc_4, zm_iok 4 e.1 e.2 := by unfold zm_iok; decide +kernel
set_option maxRecDepth 1000000 in
theorem zi_5 : ∀ e ∈ zc_5, zm_iok 5 e.1 e.2 := by unfold zm_iok; decide +kernel
set_option maxRecDepth 1000000 in
theorem zi_6 : ∀ e ∈ zc_6, zm_iok 6 e.1 e.2 := by unfold zm_iok; decide +kernel
set_option maxRecDepth 1000000 in
theorem zi_7 : ∀ e ∈ zc_7, zm_iok 7 e.1 e.2 := by unfold zm_iok; decide +kernel
set_option maxRecDepth 1000000 in
theorem zi_8 : ∀ e ∈ zc_8, zm_iok 8 e.1 e.2 := by unfold zm_iok; decide +kernel
set_option maxRecDepth 1000000 in
theorem zi_9 : ∀ e ∈ zc_9, zm_iok 9 e.1 e.2 := by unfold zm_iok; decide +kernel
set_option maxRecDepth 1000000 in
theorem zi_10 : ∀ e ∈ zc_10, zm_iok 10 e.1 e.2 := by unfold zm_iok; decide +kernel
set_option maxRecDepth 1000000 in
theorem zi_11 : ∀ e ∈ zc_11, zm_iok 11 e.1 e.2 := by unfold zm_iok; decide +kernel
set_option maxRecDepth 1000000 in
theorem zi_12 : ∀ e ∈ zc_12, zm_iok 12 e.1 e.2 := by unfold zm_iok; decide +kernel
set_option maxRecDepth 1000000 in
theorem zi_13 : ∀ e ∈ zc_13, zm_iok 13 e.1 e.2 := by unfold zm_iok; decide +kernel
set_option maxRecDepth 1000000 in
theorem zi_14 : ∀ e ∈ zc_14, zm_iok 14 e.1 e.2 := by unfold zm_iok; decide +kernel
set_option maxRecDepth 1000000 in
theorem zi_15 : ∀ e ∈ zc_15, zm_iok 15 e.1 e.2 := by unfold zm_iok; decide +kernel
set_option maxRecDepth 1000000 in
theorem zi_16 : ∀ e ∈ zc_16, zm_iok 16 e.1 e.2 := by unfold zm_iok; decide +kernel
set_option maxRecDepth 1000000 in
theorem zi_17 : ∀ e ∈ zc_17, zm_iok 17 e.1 e.2 := by unfold zm_iok; decide +kernel
set_option maxRecDepth 1000000 in
theorem zi_18 : ∀ e ∈ zc_18, zm_iok 18 e.1 e.2 := by unfold zm_iok; decide +kernel
set_option maxRecDepth 1000000 in
theorem zi_19 : ∀ e ∈ zc_19, zm_iok 19 e.1 e.2 := by unfold zm_iok; decide +kernel
set_option maxRecDepth 1000000 in
theorem zi_20 : ∀ e ∈ zc_20, zm_iok 20 e.1 e.2 := by unfold zm_iok; decide +kernel
set_option maxRecDepth 1000000 in
theorem zi_21 : ∀ e ∈ zc_21, zm_iok 21 e.1 e.2 := by unfold zm_iok; decide +kernel
set_option maxRecDepth 1000000 in
theorem zi_22 : ∀ e ∈ zc_22, zm_iok 22 e.1 e.2 := by unfold zm_iok; decide +kernel
set_option maxRecDepth 1000000 in
theorem zi_23 : ∀ e ∈ zc_23, zm_iok 23 e.1 e.2 := by unfold zm_iok; decide +kernel
set_option maxRecDepth 1000000 in
theorem zi_24 : ∀ e ∈ zc_24, zm_iok 24 e.1 e.2 := by unfold zm_iok; decide +kernel
set_option maxRecDepth 1000000 in
theorem zi_25 : ∀ e ∈ zc_25, zm_iok 25 e.1 e.2 := by unfold zm_iok; decide +kernel
set_option maxRecDepth 1000000 in
theorem zi_26 : ∀ e ∈ zc_26, zm_iok 26 e.1 e.2 := by unfold zm_iok; decide +kernel
set_option maxRecDepth 1000000 in
theorem zi_27 : ∀ e ∈ zc_27, zm_iok 27 e.1 e.2 := by unfold zm_iok; decide +kernel
set_option maxRecDepth 1000000 in
theorem zi_28 : ∀ e ∈ zc_28, zm_iok 28 e.1 e.2 := by unfold zm_iok; decide +kernel
set_option maxRecDepth 1000000 in
theorem zi_29 : ∀ e ∈ zc_29, zm_iok 29 e.1 e.2 := by unfold zm_iok; decide +kernel
set_option maxRecDepth 1000000 in
theorem zi_30 : ∀ e ∈ zc_30, zm_iok 30 e.1 e.2 := by unfold zm_iok; decide +kernel
set_option maxRecDepth 1000000 in
theorem zi_31 : ∀ e ∈ zc_31, zm_iok 31 e.1 e.2 := by unfold zm_iok; decide +kernel
set_option maxRecDepth 1000000 in
theorem zi_32 : ∀ e ∈ zc_32, zm_iok 32 e.1 e.2 := by unfold zm_iok; decide +kernel
set_option maxRecDepth 1000000 in
theorem zi_33 : ∀ e ∈ zc_33, zm_iok 33 e.1 e.2 := by unfold zm_iok; decide +kernel
set_option maxRecDepth 1000000 in
theorem zi_34 : ∀ e ∈ zc_34, zm_iok 34 e.1 e.2 := by unfold zm_iok; decide +kernel
set_option maxRecDepth 1000000 in
theorem zi_35 : ∀ e ∈ zc_35, zm_iok 35 e.1 e.2 := by unfold zm_iok; decide +kernel
set_option maxRecDepth 1000000 in
theorem zi_36 : ∀ e ∈ zc_36, zm_iok 36 e.1 e.2 := by unfold zm_iok; decide +kernel
set_option maxRecDepth 1000000 in
theorem zi_37 : ∀ e ∈ zc_37, zm_iok 37 e.1 e.2 := by unfold zm_iok; decide +kernel
set_option maxRecDepth 1000000 in
theorem zi_38 : ∀ e ∈ zc_38, zm_iok 38 e.1 e.2 := by unfold zm_iok; decide +kernel
set_option maxRecDepth 1000000 in
theorem zi_39 : ∀ e ∈ zc_39, zm_iok 39 e.1 e.2 := by unfold zm_iok; decide +kernel
set_option maxRecDepth 1000000 in
theorem zi_40 : ∀ e ∈ zc_40, zm_iok 40 e.1 e.2 := by unfold zm_iok; decide +kernel
set_option maxRecDepth 1000000 in
theorem zi_41 : ∀ e ∈ zc_41, zm_iok 41 e.1 e.2 := by unfold zm_iok; decide +kernel
set_option maxRecDepth 1000000 in
theorem zi_42 : ∀ e ∈ zc_42, zm_iok 42 e.1 e.2 := by unfold zm_iok; decide +kernel
set_option maxRecDepth 1000000 in
theorem zi_43 : ∀ e ∈ zc_43, zm_iok 43 e.1 e.2 := by unfold zm_iok; decide +kernel
set_option maxRecDepth 1000000 in
theorem zi_44 : ∀ e ∈ zc_44, zm_iok 44 e.1 e.2 := by unfold zm_iok; decide +kernel
set_option maxRecDepth 1000000 in
theorem zi_45 : ∀ e ∈ zc_45, zm_iok 45 e.1 e.2 := by unfold zm_iok; decide +kernel
set_option maxRecDepth 1000000 in
theorem zi_46 : ∀ e ∈ zc_46, zm_iok 46 e.1 e.2 := by unfold zm_iok; decide +kernel
set_option maxRecDepth 1000000 in
theorem zi_47 : ∀ e ∈ zc_47, zm_iok 47 e.1 e.2 := by unfold zm_iok; decide +kernel
set_option maxRecDepth 1000000 in
theorem zi_48 : ∀ e ∈ zc_48, zm_iok 48 e.1 e.2 := by unfold zm_iok; decide +kernel
set_option maxRecDepth 1000000 in
theorem zi_49 : ∀ e ∈ zc_49, zm_iok 49 e.1 e.2 := by unfold zm_iok; decide +kernel
set_option maxRecDepth 1000000 in
theorem zi_50 : ∀ e ∈ zc_50, zm_iok 50 e.1 e.2 := by unfold zm_iok; decide +kernel
set_option maxRecDepth 1000000 in
theorem zi_51 : ∀ e ∈ zc_51, zm_iok 51 e.1 e.2 := by unfold zm_iok; decide +kernel
set_option maxRecDepth 1000000 in
theorem zi_52 : ∀ e ∈ zc_52, zm_iok 52 e.1 e.2 := by unfold zm_iok; decide +kernel
set_option maxRecDepth 1000000 in
theorem zi_53 : ∀ e ∈ zc_53, zm_iok 53 e.1 e.2 := by unfold zm_iok; decide +kernel
set_option maxRecDepth 1000000 in
theorem zi_54 : ∀ e ∈ zc_54, zm_iok 54 e.1 e.2 := by unfold zm_iok; decide +kernel
