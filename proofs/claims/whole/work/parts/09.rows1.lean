/-! ===== printed by a program of ours: the rows of code are what the bytes say ===== -/
set_option maxRecDepth 1000000 in
theorem zi_55 : ∀ e ∈ zc_55, zm_iok 55 e.1 e.2 := by unfold zm_iok; decide +kernel
set_option maxRecDepth 1000000 in
theorem zi_56 : ∀ e ∈ zc_56, zm_iok 56 e.1 e.2 := by unfold zm_iok; decide +kernel
set_option maxRecDepth 1000000 in
theorem zi_57 : ∀ e ∈ zc_57, zm_iok 57 e.1 e.2 := by unfold zm_iok; decide +kernel
set_option maxRecDepth 1000000 in
theorem zi_58 : ∀ e ∈ zc_58, zm_iok 58 e.1 e.2 := by unfold zm_iok; decide +kernel
set_option maxRecDepth 1000000 in
theorem zi_59 : ∀ e ∈ zc_59, zm_iok 59 e.1 e.2 := by unfold zm_iok; decide +kernel
set_option maxRecDepth 1000000 in
theorem zi_60 : ∀ e ∈ zc_60, zm_iok 60 e.1 e.2 := by unfold zm_iok; decide +kernel
set_option maxRecDepth 1000000 in
theorem zi_61 : ∀ e ∈ zc_61, zm_iok 61 e.1 e.2 := by unfold zm_iok; decide +kernel
set_option maxRecDepth 1000000 in
theorem zi_62 : ∀ e ∈ zc_62, zm_iok 62 e.1 e.2 := by unfold zm_iok; decide +kernel
set_option maxRecDepth 1000000 in
theorem zi_63 : ∀ e ∈ zc_63, zm_iok 63 e.1 e.2 := by unfold zm_iok; decide +kernel
set_option maxRecDepth 1000000 in
theorem zi_64 : ∀ e ∈ zc_64, zm_iok 64 e.1 e.2 := by unfold zm_iok; decide +kernel
set_option maxRecDepth 1000000 in
theorem zi_65 : ∀ e ∈ zc_65, zm_iok 65 e.1 e.2 := by unfold zm_iok; decide +kernel
set_option maxRecDepth 1000000 in
theorem zi_66 : ∀ e ∈ zc_66, zm_iok 66 e.1 e.2 := by unfold zm_iok; decide +kernel
set_option maxRecDepth 1000000 in
theorem zi_67 : ∀ e ∈ zc_67, zm_iok 67 e.1 e.2 := by unfold zm_iok; decide +kernel
set_option maxRecDepth 1000000 in
theorem zi_68 : ∀ e ∈ zc_68, zm_iok 68 e.1 e.2 := by unfold zm_iok; decide +kernel
set_option maxRecDepth 1000000 in
theorem zi_69 : ∀ e ∈ zc_69, zm_iok 69 e.1 e.2 := by unfold zm_iok; decide +kernel
set_option maxRecDepth 1000000 in
theorem zi_70 : ∀ e ∈ zc_70, zm_iok 70 e.1 e.2 := by unfold zm_iok; decide +kernel
set_option maxRecDepth 1000000 in
theorem zi_71 : ∀ e ∈ zc_71, zm_iok 71 e.1 e.2 := by unfold zm_iok; decide +kernel
set_option maxRecDepth 1000000 in
theorem zi_72 : ∀ e ∈ zc_72, zm_iok 72 e.1 e.2 := by unfold zm_iok; decide +kernel
set_option maxRecDepth 1000000 in
theorem zi_73 : ∀ e ∈ zc_73, zm_iok 73 e.1 e.2 := by unfold zm_iok; decide +kernel
set_option maxRecDepth 1000000 in
theorem zi_74 : ∀ e ∈ zc_74, zm_iok 74 e.1 e.2 := by unfold zm_iok; decide +kernel
set_option maxRecDepth 1000000 in
theorem zi_75 : ∀ e ∈ zc_75, zm_iok 75 e.1 e.2 := by unfold zm_iok; decide +kernel
set_option maxRecDepth 1000000 in
theorem zi_76 : ∀ e ∈ zc_76, zm_iok 76 e.1 e.2 := by unfold zm_iok; decide +kernel
set_option maxRecDepth 1000000 in
theorem zi_77 : ∀ e ∈ zc_77, zm_iok 77 e.1 e.2 := by unfold zm_iok; decide +kernel
set_option maxRecDepth 1000000 in
theorem zi_78 : ∀ e ∈ zc_78, zm_iok 78 e.1 e.2 := by unfold zm_iok; decide +kernel
set_option maxRecDepth 1000000 in
theorem zi_79 : ∀ e ∈ zc_79, zm_iok 79 e.1 e.2 := by unfold zm_iok; decide +kernel
set_option maxRecDepth 1000000 in
theorem zi_80 : ∀ e ∈ zc_80, zm_iok 80 e.1 e.2 := by unfold zm_iok; decide +kernel
set_option maxRecDepth 1000000 in
theorem zi_81 : ∀ e ∈ zc_81, zm_iok 81 e.1 e.2 := by unfold zm_iok; decide +kernel
set_option maxRecDepth 1000000 in
theorem zi_82 : ∀ e ∈ zc_82, zm_iok 82 e.1 e.2 := by unfold zm_iok; decide +kernel
set_option maxRecDepth 1000000 in
theorem zi_83 : ∀ e ∈ zc_83, zm_iok 83 e.1 e.2 := by unfold zm_iok; decide +kernel
set_option maxRecDepth 1000000 in
theorem zi_84 : ∀ e ∈ zc_84, zm_iok 84 e.1 e.2 := by unfold zm_iok; decide +kernel
set_option maxRecDepth 1000000 in
theorem zi_85 : ∀ e ∈ zc_85, zm_iok 85 e.1 e.2 := by unfold zm_iok; decide +kernel
set_option maxRecDepth 1000000 in
theorem zi_86 : ∀ e ∈ zc_86, zm_iok 86 e.1 e.2 := by unfold zm_iok; decide +kernel
set_option maxRecDepth 1000000 in
theorem zi_87 : ∀ e ∈ zc_87, zm_iok 87 e.1 e.2 := by unfold zm_iok; decide +kernel
set_option maxRecDepth 1000000 in
theorem zi_88 : ∀ e ∈ zc_88, zm_iok 88 e.1 e.2 := by unfold zm_iok; decide +kernel
set_option maxRecDepth 1000000 in
theorem zi_89 : ∀ e ∈ zc_89, zm_iok 89 e.1 e.2 := by unfold zm_iok; decide +kernel
set_option maxRecDepth 1000000 in
theorem zi_90 : ∀ e ∈ zc_90, zm_iok 90 e.1 e.2 := by unfold zm_iok; decide +kernel
set_option maxRecDepth 1000000 in
theorem zi_91 : ∀ e ∈ zc_91, zm_iok 91 e.1 e.2 := by unfold zm_iok; decide +kernel
set_option maxRecDepth 1000000 in
theorem zi_92 : ∀ e ∈ zc_92, zm_iok 92 e.1 e.2 := by unfold zm_iok; decide +kernel
set_option maxRecDepth 1000000 in
theorem zi_93 : ∀ e ∈ zc_93, zm_iok 93 e.1 e.2 := by unfold zm_iok; decide +kernel
set_option maxRecDepth 1000000 in
theorem zi_94 : ∀ e ∈ zc_94, zm_iok 94 e.1 e.2 := by unfold zm_iok; decide +kernel
set_option maxRecDepth 1000000 in
theorem zi_95 : ∀ e ∈ zc_95, zm_iok 95 e.1 e.2 := by unfold zm_iok; decide +kernel
set_option maxRecDepth 1000000 in
theorem zi_96 : ∀ e ∈ zc_96, zm_iok 96 e.1 e.2 := by unfold zm_iok; decide +kernel
set_option maxRecDepth 1000000 in
theorem zi_97 : ∀ e ∈ zc_97, zm_iok 97 e.1 e.2 := by unfold zm_iok; decide +kernel
set_option maxRecDepth 1000000 in
theorem zi_98 : ∀ e ∈ zc_98, zm_iok 98 e.1 e.2 := by unfold zm_iok; decide +kernel
set_option maxRecDepth 1000000 in
theorem zi_99 : ∀ e ∈ zc_99, zm_iok 99 e.1 e.2 := by unfold zm_iok; decide +kernel
set_option maxRecDepth 1000000 in
theorem zi_100 : ∀ e ∈ zc_100, zm_iok 100 e.1 e.2 := by unfold zm_iok; decide +kernel
set_option maxRecDepth 1000000 in
theorem zi_101 : ∀ e ∈ zc_101, zm_iok 101 e.1 e.2 := by unfold zm_iok; decide +kernel
set_option maxRecDepth 1000000 in
theorem zi_102 : ∀ e ∈ zc_102, zm_iok 102 e.1 e.2 := by unfold zm_iok; decide +kernel
set_option maxRecDepth 1000000 in
theorem zi_103 : ∀ e ∈ zc_103, zm_iok 103 e.1 e.2 := by unfold zm_iok; decide +kernel
set_option maxRecDepth 1000000 in
theorem zi_104 : ∀ e ∈ zc_104, zm_iok 104 e.1 e.2 := by unfold zm_iok; decide +kernel
set_option maxRecDepth 1000000 in
theorem zi_105 : ∀ e ∈ zc_105, zm_iok 105 e.1 e.2 := by unfold zm_iok; decide +kernel
set_option maxRecDepth 1000000 in
theorem zi_106 : ∀ e ∈ zc_106, zm_iok 106 e.1 e.2 := by unfold zm_iok; decide +kernel
set_option maxRecDepth 1000000 in
theorem zi_107 : ∀ e ∈ zc_107, zm_iok 107 e.1 e.2 := by unfold zm_iok; decide +kernel
set_option maxRecDepth 1000000 in
theorem zi_108 : ∀ e ∈ zc_108, zm_iok 108 e.1 e.2 := by unfold zm_iok; decide +kernel
set_option maxRecDepth 1000000 in
theorem zi_109 : ∀ e ∈ zc_109, zm_iok 109 e.1 e.2 := by unfold zm_iok; decide +kernel
set_option maxRecDepth 1000000 in
theorem zi_110 : ∀ e ∈ zc_110, zm_iok 110 e.1 e.2 := by unfold zm_iok; decide +kernel
