/-! ===== the words of each method, further ===== -/
def zw_60 : zm_MW := ((6, 25), (6, 24), (1, 10), (0, 86), 0, 2)
set_option maxRecDepth 100000 in
theorem zw_60_ok : zm_mwk 60 zw_60 := by unfold zm_mwk; decide +kernel
def zw_61 : zm_MW := ((6, 33), (6, 32), (1, 10), (0, 87), 0, 0)
set_option maxRecDepth 100000 in
theorem zw_61_ok : zm_mwk 61 zw_61 := by unfold zm_mwk; decide +kernel
def zw_62 : zm_MW := ((6, 38), (6, 37), (1, 10), (0, 88), 0, 0)
set_option maxRecDepth 100000 in
theorem zw_62_ok : zm_mwk 62 zw_62 := by unfold zm_mwk; decide +kernel
def zw_63 : zm_MW := ((6, 42), (6, 41), (1, 10), (0, 89), 0, 0)
set_option maxRecDepth 100000 in
theorem zw_63_ok : zm_mwk 63 zw_63 := by unfold zm_mwk; decide +kernel
def zw_64 : zm_MW := ((6, 46), (6, 45), (1, 10), (0, 90), 0, 1)
set_option maxRecDepth 100000 in
theorem zw_64_ok : zm_mwk 64 zw_64 := by unfold zm_mwk; decide +kernel
def zw_65 : zm_MW := ((6, 51), (6, 50), (1, 10), (0, 91), 0, 2)
set_option maxRecDepth 100000 in
theorem zw_65_ok : zm_mwk 65 zw_65 := by unfold zm_mwk; decide +kernel
def zw_66 : zm_MW := ((6, 55), (6, 54), (1, 10), (0, 92), 0, 3)
set_option maxRecDepth 100000 in
theorem zw_66_ok : zm_mwk 66 zw_66 := by unfold zm_mwk; decide +kernel
def zw_67 : zm_MW := ((6, 59), (6, 58), (1, 10), (0, 93), 0, 3)
set_option maxRecDepth 100000 in
theorem zw_67_ok : zm_mwk 67 zw_67 := by unfold zm_mwk; decide +kernel
def zw_68 : zm_MW := ((1, 130), (1, 129), (1, 5), (0, 0), 1, 0)
set_option maxRecDepth 100000 in
theorem zw_68_ok : zm_mwk 68 zw_68 := by unfold zm_mwk; decide +kernel
def zw_69 : zm_MW := ((4, 94), (4, 93), (1, 5), (0, 26), 0, 0)
set_option maxRecDepth 100000 in
theorem zw_69_ok : zm_mwk 69 zw_69 := by unfold zm_mwk; decide +kernel
def zw_70 : zm_MW := ((4, 98), (4, 97), (1, 5), (0, 27), 0, 1)
set_option maxRecDepth 100000 in
theorem zw_70_ok : zm_mwk 70 zw_70 := by unfold zm_mwk; decide +kernel
def zw_71 : zm_MW := ((4, 120), (4, 119), (1, 5), (0, 28), 0, 2)
set_option maxRecDepth 100000 in
theorem zw_71_ok : zm_mwk 71 zw_71 := by unfold zm_mwk; decide +kernel
def zw_72 : zm_MW := ((4, 128), (4, 127), (1, 5), (0, 29), 0, 2)
set_option maxRecDepth 100000 in
theorem zw_72_ok : zm_mwk 72 zw_72 := by unfold zm_mwk; decide +kernel
def zw_73 : zm_MW := ((4, 232), (4, 231), (1, 5), (0, 46), 0, 2)
set_option maxRecDepth 100000 in
theorem zw_73_ok : zm_mwk 73 zw_73 := by unfold zm_mwk; decide +kernel
def zw_74 : zm_MW := ((4, 237), (4, 236), (1, 5), (0, 47), 0, 2)
set_option maxRecDepth 100000 in
theorem zw_74_ok : zm_mwk 74 zw_74 := by unfold zm_mwk; decide +kernel
def zw_75 : zm_MW := ((5, 4), (5, 3), (1, 5), (0, 48), 0, 4)
set_option maxRecDepth 100000 in
theorem zw_75_ok : zm_mwk 75 zw_75 := by unfold zm_mwk; decide +kernel
def zw_76 : zm_MW := ((5, 8), (5, 7), (1, 5), (0, 49), 0, 2)
set_option maxRecDepth 100000 in
theorem zw_76_ok : zm_mwk 76 zw_76 := by unfold zm_mwk; decide +kernel
def zw_77 : zm_MW := ((5, 15), (5, 14), (1, 5), (0, 50), 0, 1)
set_option maxRecDepth 100000 in
theorem zw_77_ok : zm_mwk 77 zw_77 := by unfold zm_mwk; decide +kernel
def zw_78 : zm_MW := ((5, 18), (5, 17), (1, 5), (0, 0), 2, 3)
set_option maxRecDepth 100000 in
theorem zw_78_ok : zm_mwk 78 zw_78 := by unfold zm_mwk; decide +kernel
def zw_79 : zm_MW := ((1, 35), (1, 34), (1, 2), (0, 0), 1, 0)
set_option maxRecDepth 100000 in
theorem zw_79_ok : zm_mwk 79 zw_79 := by unfold zm_mwk; decide +kernel
def zw_80 : zm_MW := ((3, 63), (3, 62), (1, 2), (0, 0), 0, 3)
set_option maxRecDepth 100000 in
theorem zw_80_ok : zm_mwk 80 zw_80 := by unfold zm_mwk; decide +kernel
def zw_81 : zm_MW := ((3, 74), (3, 73), (1, 2), (0, 1), 0, 4)
set_option maxRecDepth 100000 in
theorem zw_81_ok : zm_mwk 81 zw_81 := by unfold zm_mwk; decide +kernel
def zw_82 : zm_MW := ((3, 83), (3, 82), (1, 2), (0, 2), 0, 1)
set_option maxRecDepth 100000 in
theorem zw_82_ok : zm_mwk 82 zw_82 := by unfold zm_mwk; decide +kernel
def zw_83 : zm_MW := ((3, 86), (3, 85), (1, 2), (0, 0), 2, 3)
set_option maxRecDepth 100000 in
theorem zw_83_ok : zm_mwk 83 zw_83 := by unfold zm_mwk; decide +kernel
def zw_84 : zm_MW := ((3, 90), (3, 89), (1, 2), (0, 3), 0, 1)
set_option maxRecDepth 100000 in
theorem zw_84_ok : zm_mwk 84 zw_84 := by unfold zm_mwk; decide +kernel
def zw_85 : zm_MW := ((3, 94), (3, 93), (1, 2), (0, 4), 0, 3)
set_option maxRecDepth 100000 in
theorem zw_85_ok : zm_mwk 85 zw_85 := by unfold zm_mwk; decide +kernel
def zw_86 : zm_MW := ((3, 98), (3, 97), (1, 2), (0, 5), 0, 2)
set_option maxRecDepth 100000 in
theorem zw_86_ok : zm_mwk 86 zw_86 := by unfold zm_mwk; decide +kernel
def zw_87 : zm_MW := ((3, 102), (3, 101), (1, 2), (0, 6), 0, 3)
set_option maxRecDepth 100000 in
theorem zw_87_ok : zm_mwk 87 zw_87 := by unfold zm_mwk; decide +kernel
def zw_88 : zm_MW := ((4, 223), (4, 222), (1, 2), (0, 44), 0, 1)
set_option maxRecDepth 100000 in
theorem zw_88_ok : zm_mwk 88 zw_88 := by unfold zm_mwk; decide +kernel
def zw_89 : zm_MW := ((1, 78), (1, 77), (1, 4), (0, 0), 1, 0)
set_option maxRecDepth 100000 in
theorem zw_89_ok : zm_mwk 89 zw_89 := by unfold zm_mwk; decide +kernel
def zw_90 : zm_MW := ((3, 129), (3, 128), (1, 4), (0, 7), 0, 1)
set_option maxRecDepth 100000 in
theorem zw_90_ok : zm_mwk 90 zw_90 := by unfold zm_mwk; decide +kernel
def zw_91 : zm_MW := ((3, 133), (3, 132), (1, 4), (0, 8), 0, 1)
set_option maxRecDepth 100000 in
theorem zw_91_ok : zm_mwk 91 zw_91 := by unfold zm_mwk; decide +kernel
def zw_92 : zm_MW := ((3, 145), (3, 144), (1, 4), (0, 9), 0, 0)
set_option maxRecDepth 100000 in
theorem zw_92_ok : zm_mwk 92 zw_92 := by unfold zm_mwk; decide +kernel
def zw_93 : zm_MW := ((4, 50), (4, 49), (1, 4), (0, 17), 0, 0)
set_option maxRecDepth 100000 in
theorem zw_93_ok : zm_mwk 93 zw_93 := by unfold zm_mwk; decide +kernel
def zw_94 : zm_MW := ((3, 157), (3, 156), (1, 4), (0, 0), 2, 1)
set_option maxRecDepth 100000 in
theorem zw_94_ok : zm_mwk 94 zw_94 := by unfold zm_mwk; decide +kernel
def zw_95 : zm_MW := ((3, 150), (3, 149), (1, 4), (0, 10), 0, 0)
set_option maxRecDepth 100000 in
theorem zw_95_ok : zm_mwk 95 zw_95 := by unfold zm_mwk; decide +kernel
def zw_96 : zm_MW := ((3, 154), (3, 153), (1, 4), (0, 11), 0, 1)
set_option maxRecDepth 100000 in
theorem zw_96_ok : zm_mwk 96 zw_96 := by unfold zm_mwk; decide +kernel
def zw_97 : zm_MW := ((3, 209), (3, 208), (1, 4), (0, 0), 2, 1)
set_option maxRecDepth 100000 in
theorem zw_97_ok : zm_mwk 97 zw_97 := by unfold zm_mwk; decide +kernel
def zw_98 : zm_MW := ((3, 161), (3, 160), (1, 4), (0, 12), 0, 1)
set_option maxRecDepth 100000 in
theorem zw_98_ok : zm_mwk 98 zw_98 := by unfold zm_mwk; decide +kernel
def zw_99 : zm_MW := ((4, 42), (4, 41), (1, 4), (0, 15), 0, 0)
set_option maxRecDepth 100000 in
theorem zw_99_ok : zm_mwk 99 zw_99 := by unfold zm_mwk; decide +kernel
def zw_100 : zm_MW := ((4, 46), (4, 45), (1, 4), (0, 16), 0, 0)
set_option maxRecDepth 100000 in
theorem zw_100_ok : zm_mwk 100 zw_100 := by unfold zm_mwk; decide +kernel
def zw_101 : zm_MW := ((4, 54), (4, 53), (1, 4), (0, 18), 0, 1)
set_option maxRecDepth 100000 in
theorem zw_101_ok : zm_mwk 101 zw_101 := by unfold zm_mwk; decide +kernel
def zw_102 : zm_MW := ((4, 58), (4, 57), (1, 4), (0, 19), 0, 1)
set_option maxRecDepth 100000 in
theorem zw_102_ok : zm_mwk 102 zw_102 := by unfold zm_mwk; decide +kernel
def zw_103 : zm_MW := ((4, 62), (4, 61), (1, 4), (0, 20), 0, 1)
set_option maxRecDepth 100000 in
theorem zw_103_ok : zm_mwk 103 zw_103 := by unfold zm_mwk; decide +kernel
def zw_104 : zm_MW := ((4, 67), (4, 66), (1, 4), (0, 21), 0, 1)
set_option maxRecDepth 100000 in
theorem zw_104_ok : zm_mwk 104 zw_104 := by unfold zm_mwk; decide +kernel
def zw_105 : zm_MW := ((4, 71), (4, 70), (1, 4), (0, 22), 0, 1)
set_option maxRecDepth 100000 in
theorem zw_105_ok : zm_mwk 105 zw_105 := by unfold zm_mwk; decide +kernel
def zw_106 : zm_MW := ((4, 75), (4, 74), (1, 4), (0, 23), 0, 1)
set_option maxRecDepth 100000 in
theorem zw_106_ok : zm_mwk 106 zw_106 := by unfold zm_mwk; decide +kernel
def zw_107 : zm_MW := ((4, 79), (4, 78), (1, 4), (0, 24), 0, 1)
set_option maxRecDepth 100000 in
theorem zw_107_ok : zm_mwk 107 zw_107 := by unfold zm_mwk; decide +kernel
def zw_108 : zm_MW := ((4, 83), (4, 82), (1, 4), (0, 25), 0, 1)
set_option maxRecDepth 100000 in
theorem zw_108_ok : zm_mwk 108 zw_108 := by unfold zm_mwk; decide +kernel
def zw_109 : zm_MW := ((3, 165), (3, 164), (1, 4), (0, 13), 0, 3)
set_option maxRecDepth 100000 in
theorem zw_109_ok : zm_mwk 109 zw_109 := by unfold zm_mwk; decide +kernel
def zw_110 : zm_MW := ((1, 222), (1, 221), (1, 7), (0, 0), 1, 1)
set_option maxRecDepth 100000 in
theorem zw_110_ok : zm_mwk 110 zw_110 := by unfold zm_mwk; decide +kernel
def zw_111 : zm_MW := ((5, 70), (5, 69), (1, 7), (0, 59), 0, 0)
set_option maxRecDepth 100000 in
theorem zw_111_ok : zm_mwk 111 zw_111 := by unfold zm_mwk; decide +kernel
def zw_112 : zm_MW := ((5, 75), (5, 74), (1, 7), (0, 60), 0, 2)
set_option maxRecDepth 100000 in
theorem zw_112_ok : zm_mwk 112 zw_112 := by unfold zm_mwk; decide +kernel
def zw_113 : zm_MW := ((5, 80), (5, 79), (1, 7), (0, 61), 0, 1)
set_option maxRecDepth 100000 in
theorem zw_113_ok : zm_mwk 113 zw_113 := by unfold zm_mwk; decide +kernel
def zw_114 : zm_MW := ((5, 83), (5, 82), (1, 7), (0, 0), 2, 1)
set_option maxRecDepth 100000 in
theorem zw_114_ok : zm_mwk 114 zw_114 := by unfold zm_mwk; decide +kernel
def zw_115 : zm_MW := ((5, 90), (5, 89), (1, 7), (0, 62), 0, 2)
set_option maxRecDepth 100000 in
theorem zw_115_ok : zm_mwk 115 zw_115 := by unfold zm_mwk; decide +kernel
def zw_116 : zm_MW := ((5, 95), (5, 94), (1, 7), (0, 63), 0, 3)
set_option maxRecDepth 100000 in
theorem zw_116_ok : zm_mwk 116 zw_116 := by unfold zm_mwk; decide +kernel
def zw_117 : zm_MW := ((1, 26), (1, 25), (1, 1), (0, 0), 1, 0)
set_option maxRecDepth 100000 in
theorem zw_117_ok : zm_mwk 117 zw_117 := by unfold zm_mwk; decide +kernel
def zw_118 : zm_MW := ((3, 53), (3, 51), (1, 1), (3, 52), 0, 2)
set_option maxRecDepth 100000 in
theorem zw_118_ok : zm_mwk 118 zw_118 := by unfold zm_mwk; decide +kernel
def zw_119 : zm_MW := ((3, 56), (3, 55), (1, 1), (0, 0), 2, 1)
set_option maxRecDepth 100000 in
theorem zw_119_ok : zm_mwk 119 zw_119 := by unfold zm_mwk; decide +kernel
