/-! ===== the words of each method, further ===== -/
def zw_120 : zm_MW := ((3, 59), (3, 58), (1, 1), (0, 0), 2, 1)
set_option maxRecDepth 100000 in
theorem zw_120_ok : zm_mwk 120 zw_120 := by unfold zm_mwk; decide +kernel
def zw_121 : zm_MW := ((3, 67), (3, 65), (1, 1), (3, 66), 0, 3)
set_option maxRecDepth 100000 in
theorem zw_121_ok : zm_mwk 121 zw_121 := by unfold zm_mwk; decide +kernel
def zw_122 : zm_MW := ((3, 70), (3, 69), (1, 1), (0, 0), 2, 3)
set_option maxRecDepth 100000 in
theorem zw_122_ok : zm_mwk 122 zw_122 := by unfold zm_mwk; decide +kernel
def zw_123 : zm_MW := ((3, 78), (3, 76), (1, 1), (3, 77), 0, 3)
set_option maxRecDepth 100000 in
theorem zw_123_ok : zm_mwk 123 zw_123 := by unfold zm_mwk; decide +kernel
def zw_124 : zm_MW := ((3, 105), (3, 104), (1, 1), (0, 0), 2, 1)
set_option maxRecDepth 100000 in
theorem zw_124_ok : zm_mwk 124 zw_124 := by unfold zm_mwk; decide +kernel
def zw_125 : zm_MW := ((3, 108), (3, 107), (1, 1), (0, 0), 2, 3)
set_option maxRecDepth 100000 in
theorem zw_125_ok : zm_mwk 125 zw_125 := by unfold zm_mwk; decide +kernel
def zw_126 : zm_MW := ((3, 118), (3, 117), (1, 1), (0, 0), 2, 1)
set_option maxRecDepth 100000 in
theorem zw_126_ok : zm_mwk 126 zw_126 := by unfold zm_mwk; decide +kernel
def zw_127 : zm_MW := ((3, 121), (3, 120), (1, 1), (0, 0), 2, 1)
set_option maxRecDepth 100000 in
theorem zw_127_ok : zm_mwk 127 zw_127 := by unfold zm_mwk; decide +kernel
def zw_128 : zm_MW := ((3, 125), (3, 123), (1, 1), (3, 124), 0, 5)
set_option maxRecDepth 100000 in
theorem zw_128_ok : zm_mwk 128 zw_128 := by unfold zm_mwk; decide +kernel
def zw_129 : zm_MW := ((3, 137), (3, 135), (1, 1), (3, 136), 0, 1)
set_option maxRecDepth 100000 in
theorem zw_129_ok : zm_mwk 129 zw_129 := by unfold zm_mwk; decide +kernel
def zw_130 : zm_MW := ((3, 141), (3, 139), (1, 1), (3, 140), 0, 0)
set_option maxRecDepth 100000 in
theorem zw_130_ok : zm_mwk 130 zw_130 := by unfold zm_mwk; decide +kernel
def zw_131 : zm_MW := ((4, 90), (4, 88), (1, 1), (4, 89), 0, 0)
set_option maxRecDepth 100000 in
theorem zw_131_ok : zm_mwk 131 zw_131 := by unfold zm_mwk; decide +kernel
def zw_132 : zm_MW := ((4, 116), (4, 114), (1, 1), (4, 115), 0, 2)
set_option maxRecDepth 100000 in
theorem zw_132_ok : zm_mwk 132 zw_132 := by unfold zm_mwk; decide +kernel
def zw_133 : zm_MW := ((4, 124), (4, 122), (1, 1), (4, 123), 0, 2)
set_option maxRecDepth 100000 in
theorem zw_133_ok : zm_mwk 133 zw_133 := by unfold zm_mwk; decide +kernel
def zw_134 : zm_MW := ((4, 132), (4, 130), (1, 1), (4, 131), 0, 2)
set_option maxRecDepth 100000 in
theorem zw_134_ok : zm_mwk 134 zw_134 := by unfold zm_mwk; decide +kernel
def zw_135 : zm_MW := ((4, 140), (4, 138), (1, 1), (4, 139), 0, 3)
set_option maxRecDepth 100000 in
theorem zw_135_ok : zm_mwk 135 zw_135 := by unfold zm_mwk; decide +kernel
def zw_136 : zm_MW := ((4, 143), (4, 142), (1, 1), (0, 0), 2, 1)
set_option maxRecDepth 100000 in
theorem zw_136_ok : zm_mwk 136 zw_136 := by unfold zm_mwk; decide +kernel
def zw_137 : zm_MW := ((4, 151), (4, 149), (1, 1), (4, 150), 0, 3)
set_option maxRecDepth 100000 in
theorem zw_137_ok : zm_mwk 137 zw_137 := by unfold zm_mwk; decide +kernel
def zw_138 : zm_MW := ((4, 155), (4, 154), (1, 1), (0, 32), 0, 1)
set_option maxRecDepth 100000 in
theorem zw_138_ok : zm_mwk 138 zw_138 := by unfold zm_mwk; decide +kernel
def zw_139 : zm_MW := ((4, 158), (4, 157), (1, 1), (0, 0), 2, 1)
set_option maxRecDepth 100000 in
theorem zw_139_ok : zm_mwk 139 zw_139 := by unfold zm_mwk; decide +kernel
def zw_140 : zm_MW := ((4, 161), (4, 160), (1, 1), (0, 0), 2, 1)
set_option maxRecDepth 100000 in
theorem zw_140_ok : zm_mwk 140 zw_140 := by unfold zm_mwk; decide +kernel
def zw_141 : zm_MW := ((4, 206), (4, 204), (1, 1), (4, 205), 0, 1)
set_option maxRecDepth 100000 in
theorem zw_141_ok : zm_mwk 141 zw_141 := by unfold zm_mwk; decide +kernel
def zw_142 : zm_MW := ((4, 211), (4, 209), (1, 1), (4, 210), 0, 1)
set_option maxRecDepth 100000 in
theorem zw_142_ok : zm_mwk 142 zw_142 := by unfold zm_mwk; decide +kernel
def zw_143 : zm_MW := ((4, 215), (4, 213), (1, 1), (4, 214), 0, 1)
set_option maxRecDepth 100000 in
theorem zw_143_ok : zm_mwk 143 zw_143 := by unfold zm_mwk; decide +kernel
def zw_144 : zm_MW := ((4, 219), (4, 218), (1, 1), (0, 43), 0, 0)
set_option maxRecDepth 100000 in
theorem zw_144_ok : zm_mwk 144 zw_144 := by unfold zm_mwk; decide +kernel
def zw_145 : zm_MW := ((5, 159), (5, 157), (1, 1), (5, 158), 0, 2)
set_option maxRecDepth 100000 in
theorem zw_145_ok : zm_mwk 145 zw_145 := by unfold zm_mwk; decide +kernel
def zw_146 : zm_MW := ((5, 171), (5, 169), (1, 1), (5, 170), 0, 2)
set_option maxRecDepth 100000 in
theorem zw_146_ok : zm_mwk 146 zw_146 := by unfold zm_mwk; decide +kernel
def zw_147 : zm_MW := ((5, 175), (5, 174), (1, 1), (0, 76), 0, 1)
set_option maxRecDepth 100000 in
theorem zw_147_ok : zm_mwk 147 zw_147 := by unfold zm_mwk; decide +kernel
def zw_148 : zm_MW := ((5, 184), (5, 182), (1, 1), (5, 183), 0, 3)
set_option maxRecDepth 100000 in
theorem zw_148_ok : zm_mwk 148 zw_148 := by unfold zm_mwk; decide +kernel
def zw_149 : zm_MW := ((5, 188), (5, 187), (1, 1), (0, 78), 0, 2)
set_option maxRecDepth 100000 in
theorem zw_149_ok : zm_mwk 149 zw_149 := by unfold zm_mwk; decide +kernel
def zw_150 : zm_MW := ((5, 196), (5, 194), (1, 1), (5, 195), 0, 2)
set_option maxRecDepth 100000 in
theorem zw_150_ok : zm_mwk 150 zw_150 := by unfold zm_mwk; decide +kernel
def zw_151 : zm_MW := ((5, 200), (5, 198), (1, 1), (5, 199), 0, 2)
set_option maxRecDepth 100000 in
theorem zw_151_ok : zm_mwk 151 zw_151 := by unfold zm_mwk; decide +kernel
def zw_152 : zm_MW := ((5, 204), (5, 202), (1, 1), (5, 203), 0, 4)
set_option maxRecDepth 100000 in
theorem zw_152_ok : zm_mwk 152 zw_152 := by unfold zm_mwk; decide +kernel
def zw_153 : zm_MW := ((5, 208), (5, 206), (1, 1), (5, 207), 0, 2)
set_option maxRecDepth 100000 in
theorem zw_153_ok : zm_mwk 153 zw_153 := by unfold zm_mwk; decide +kernel
def zw_154 : zm_MW := ((5, 216), (5, 214), (1, 1), (5, 215), 0, 3)
set_option maxRecDepth 100000 in
theorem zw_154_ok : zm_mwk 154 zw_154 := by unfold zm_mwk; decide +kernel
def zw_155 : zm_MW := ((5, 219), (5, 218), (1, 1), (0, 0), 2, 1)
set_option maxRecDepth 100000 in
theorem zw_155_ok : zm_mwk 155 zw_155 := by unfold zm_mwk; decide +kernel
def zw_156 : zm_MW := ((5, 227), (5, 225), (1, 1), (5, 226), 0, 5)
set_option maxRecDepth 100000 in
theorem zw_156_ok : zm_mwk 156 zw_156 := by unfold zm_mwk; decide +kernel
def zw_157 : zm_MW := ((5, 235), (5, 233), (1, 1), (5, 234), 0, 2)
set_option maxRecDepth 100000 in
theorem zw_157_ok : zm_mwk 157 zw_157 := by unfold zm_mwk; decide +kernel
def zw_158 : zm_MW := ((6, 3), (6, 1), (1, 1), (6, 2), 0, 2)
set_option maxRecDepth 100000 in
theorem zw_158_ok : zm_mwk 158 zw_158 := by unfold zm_mwk; decide +kernel
def zw_159 : zm_MW := ((6, 11), (6, 9), (1, 1), (6, 10), 0, 0)
set_option maxRecDepth 100000 in
theorem zw_159_ok : zm_mwk 159 zw_159 := by unfold zm_mwk; decide +kernel
def zw_160 : zm_MW := ((6, 15), (6, 13), (1, 1), (6, 14), 0, 3)
set_option maxRecDepth 100000 in
theorem zw_160_ok : zm_mwk 160 zw_160 := by unfold zm_mwk; decide +kernel
def zw_161 : zm_MW := ((6, 29), (6, 27), (1, 1), (6, 28), 0, 2)
set_option maxRecDepth 100000 in
theorem zw_161_ok : zm_mwk 161 zw_161 := by unfold zm_mwk; decide +kernel
def zw_162 : zm_MW := ((6, 63), (6, 61), (1, 1), (6, 62), 0, 1)
set_option maxRecDepth 100000 in
theorem zw_162_ok : zm_mwk 162 zw_162 := by unfold zm_mwk; decide +kernel
def zw_163 : zm_MW := ((6, 71), (6, 69), (1, 1), (6, 70), 0, 0)
set_option maxRecDepth 100000 in
theorem zw_163_ok : zm_mwk 163 zw_163 := by unfold zm_mwk; decide +kernel
def zw_164 : zm_MW := ((6, 75), (6, 73), (1, 1), (6, 74), 0, 5)
set_option maxRecDepth 100000 in
theorem zw_164_ok : zm_mwk 164 zw_164 := by unfold zm_mwk; decide +kernel
def zw_165 : zm_MW := ((6, 116), (6, 114), (1, 1), (6, 115), 0, 2)
set_option maxRecDepth 100000 in
theorem zw_165_ok : zm_mwk 165 zw_165 := by unfold zm_mwk; decide +kernel
def zw_166 : zm_MW := ((6, 120), (6, 118), (1, 1), (6, 119), 0, 3)
set_option maxRecDepth 100000 in
theorem zw_166_ok : zm_mwk 166 zw_166 := by unfold zm_mwk; decide +kernel
def zw_167 : zm_MW := ((6, 131), (6, 129), (1, 1), (6, 130), 0, 0)
set_option maxRecDepth 100000 in
theorem zw_167_ok : zm_mwk 167 zw_167 := by unfold zm_mwk; decide +kernel
def zw_168 : zm_MW := ((6, 146), (6, 144), (1, 1), (6, 145), 0, 1)
set_option maxRecDepth 100000 in
theorem zw_168_ok : zm_mwk 168 zw_168 := by unfold zm_mwk; decide +kernel
def zw_169 : zm_MW := ((6, 155), (6, 154), (1, 13), (0, 0), 1, 0)
set_option maxRecDepth 100000 in
theorem zw_169_ok : zm_mwk 169 zw_169 := by unfold zm_mwk; exact ⟨rfl, by decide +kernel⟩
def zw_170 : zm_MW := ((7, 216), (7, 214), (1, 13), (7, 215), 0, 2)
set_option maxRecDepth 100000 in
theorem zw_170_ok : zm_mwk 170 zw_170 := by unfold zm_mwk; decide +kernel
def zw_171 : zm_MW := ((7, 219), (7, 218), (1, 13), (0, 0), 2, 1)
set_option maxRecDepth 100000 in
theorem zw_171_ok : zm_mwk 171 zw_171 := by unfold zm_mwk; decide +kernel
def zw_172 : zm_MW := ((7, 222), (7, 221), (1, 13), (0, 0), 2, 3)
set_option maxRecDepth 100000 in
theorem zw_172_ok : zm_mwk 172 zw_172 := by unfold zm_mwk; decide +kernel
def zw_173 : zm_MW := ((7, 226), (7, 224), (1, 13), (7, 225), 0, 3)
set_option maxRecDepth 100000 in
theorem zw_173_ok : zm_mwk 173 zw_173 := by unfold zm_mwk; decide +kernel
def zw_174 : zm_MW := ((7, 230), (7, 228), (1, 13), (7, 229), 0, 3)
set_option maxRecDepth 100000 in
theorem zw_174_ok : zm_mwk 174 zw_174 := by unfold zm_mwk; decide +kernel
def zw_175 : zm_MW := ((7, 235), (7, 234), (1, 13), (0, 105), 0, 2)
set_option maxRecDepth 100000 in
theorem zw_175_ok : zm_mwk 175 zw_175 := by unfold zm_mwk; decide +kernel
def zw_176 : zm_MW := ((7, 239), (7, 237), (1, 13), (7, 238), 0, 5)
set_option maxRecDepth 100000 in
theorem zw_176_ok : zm_mwk 176 zw_176 := by unfold zm_mwk; decide +kernel
def zw_177 : zm_MW := ((8, 3), (8, 1), (1, 13), (8, 2), 0, 1)
set_option maxRecDepth 100000 in
theorem zw_177_ok : zm_mwk 177 zw_177 := by unfold zm_mwk; decide +kernel
def zw_178 : zm_MW := ((8, 7), (8, 5), (1, 13), (8, 6), 0, 0)
set_option maxRecDepth 100000 in
theorem zw_178_ok : zm_mwk 178 zw_178 := by unfold zm_mwk; decide +kernel
def zw_179 : zm_MW := ((8, 11), (8, 10), (1, 13), (0, 106), 0, 0)
set_option maxRecDepth 100000 in
theorem zw_179_ok : zm_mwk 179 zw_179 := by unfold zm_mwk; decide +kernel
