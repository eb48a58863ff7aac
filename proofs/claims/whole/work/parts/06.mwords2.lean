/-! ===== the words of each method, further ===== -/
def zw_120 : zm_MW := ((3, 53), (3, 52), (1, 1), (0, 0), 2, 1)
set_option maxRecDepth 100000 in
theorem zw_120_ok : zm_mwk 120 zw_120 := by unfold zm_mwk; decide +kernel
def zw_121 : zm_MW := ((3, 61), (3, 59), (1, 1), (3, 60), 0, 3)
set_option maxRecDepth 100000 in
theorem zw_121_ok : zm_mwk 121 zw_121 := by unfold zm_mwk; decide +kernel
def zw_122 : zm_MW := ((3, 64), (3, 63), (1, 1), (0, 0), 2, 3)
set_option maxRecDepth 100000 in
theorem zw_122_ok : zm_mwk 122 zw_122 := by unfold zm_mwk; decide +kernel
def zw_123 : zm_MW := ((3, 72), (3, 70), (1, 1), (3, 71), 0, 3)
set_option maxRecDepth 100000 in
theorem zw_123_ok : zm_mwk 123 zw_123 := by unfold zm_mwk; decide +kernel
def zw_124 : zm_MW := ((3, 99), (3, 98), (1, 1), (0, 0), 2, 1)
set_option maxRecDepth 100000 in
theorem zw_124_ok : zm_mwk 124 zw_124 := by unfold zm_mwk; decide +kernel
def zw_125 : zm_MW := ((3, 102), (3, 101), (1, 1), (0, 0), 2, 3)
set_option maxRecDepth 100000 in
theorem zw_125_ok : zm_mwk 125 zw_125 := by unfold zm_mwk; decide +kernel
def zw_126 : zm_MW := ((3, 112), (3, 111), (1, 1), (0, 0), 2, 1)
set_option maxRecDepth 100000 in
theorem zw_126_ok : zm_mwk 126 zw_126 := by unfold zm_mwk; decide +kernel
def zw_127 : zm_MW := ((3, 115), (3, 114), (1, 1), (0, 0), 2, 1)
set_option maxRecDepth 100000 in
theorem zw_127_ok : zm_mwk 127 zw_127 := by unfold zm_mwk; decide +kernel
def zw_128 : zm_MW := ((3, 119), (3, 117), (1, 1), (3, 118), 0, 5)
set_option maxRecDepth 100000 in
theorem zw_128_ok : zm_mwk 128 zw_128 := by unfold zm_mwk; decide +kernel
def zw_129 : zm_MW := ((3, 131), (3, 129), (1, 1), (3, 130), 0, 1)
set_option maxRecDepth 100000 in
theorem zw_129_ok : zm_mwk 129 zw_129 := by unfold zm_mwk; decide +kernel
def zw_130 : zm_MW := ((3, 135), (3, 133), (1, 1), (3, 134), 0, 0)
set_option maxRecDepth 100000 in
theorem zw_130_ok : zm_mwk 130 zw_130 := by unfold zm_mwk; decide +kernel
def zw_131 : zm_MW := ((4, 80), (4, 78), (1, 1), (4, 79), 0, 0)
set_option maxRecDepth 100000 in
theorem zw_131_ok : zm_mwk 131 zw_131 := by unfold zm_mwk; decide +kernel
def zw_132 : zm_MW := ((4, 106), (4, 104), (1, 1), (4, 105), 0, 2)
set_option maxRecDepth 100000 in
theorem zw_132_ok : zm_mwk 132 zw_132 := by unfold zm_mwk; decide +kernel
def zw_133 : zm_MW := ((4, 114), (4, 112), (1, 1), (4, 113), 0, 2)
set_option maxRecDepth 100000 in
theorem zw_133_ok : zm_mwk 133 zw_133 := by unfold zm_mwk; decide +kernel
def zw_134 : zm_MW := ((4, 122), (4, 120), (1, 1), (4, 121), 0, 2)
set_option maxRecDepth 100000 in
theorem zw_134_ok : zm_mwk 134 zw_134 := by unfold zm_mwk; decide +kernel
def zw_135 : zm_MW := ((4, 130), (4, 128), (1, 1), (4, 129), 0, 3)
set_option maxRecDepth 100000 in
theorem zw_135_ok : zm_mwk 135 zw_135 := by unfold zm_mwk; decide +kernel
def zw_136 : zm_MW := ((4, 133), (4, 132), (1, 1), (0, 0), 2, 1)
set_option maxRecDepth 100000 in
theorem zw_136_ok : zm_mwk 136 zw_136 := by unfold zm_mwk; decide +kernel
def zw_137 : zm_MW := ((4, 141), (4, 139), (1, 1), (4, 140), 0, 3)
set_option maxRecDepth 100000 in
theorem zw_137_ok : zm_mwk 137 zw_137 := by unfold zm_mwk; decide +kernel
def zw_138 : zm_MW := ((4, 145), (4, 144), (1, 1), (0, 31), 0, 1)
set_option maxRecDepth 100000 in
theorem zw_138_ok : zm_mwk 138 zw_138 := by unfold zm_mwk; decide +kernel
def zw_139 : zm_MW := ((4, 148), (4, 147), (1, 1), (0, 0), 2, 1)
set_option maxRecDepth 100000 in
theorem zw_139_ok : zm_mwk 139 zw_139 := by unfold zm_mwk; decide +kernel
def zw_140 : zm_MW := ((4, 151), (4, 150), (1, 1), (0, 0), 2, 1)
set_option maxRecDepth 100000 in
theorem zw_140_ok : zm_mwk 140 zw_140 := by unfold zm_mwk; decide +kernel
def zw_141 : zm_MW := ((4, 196), (4, 194), (1, 1), (4, 195), 0, 1)
set_option maxRecDepth 100000 in
theorem zw_141_ok : zm_mwk 141 zw_141 := by unfold zm_mwk; decide +kernel
def zw_142 : zm_MW := ((4, 201), (4, 199), (1, 1), (4, 200), 0, 1)
set_option maxRecDepth 100000 in
theorem zw_142_ok : zm_mwk 142 zw_142 := by unfold zm_mwk; decide +kernel
def zw_143 : zm_MW := ((4, 205), (4, 203), (1, 1), (4, 204), 0, 1)
set_option maxRecDepth 100000 in
theorem zw_143_ok : zm_mwk 143 zw_143 := by unfold zm_mwk; decide +kernel
def zw_144 : zm_MW := ((4, 209), (4, 208), (1, 1), (0, 42), 0, 0)
set_option maxRecDepth 100000 in
theorem zw_144_ok : zm_mwk 144 zw_144 := by unfold zm_mwk; decide +kernel
def zw_145 : zm_MW := ((5, 149), (5, 147), (1, 1), (5, 148), 0, 2)
set_option maxRecDepth 100000 in
theorem zw_145_ok : zm_mwk 145 zw_145 := by unfold zm_mwk; decide +kernel
def zw_146 : zm_MW := ((5, 161), (5, 159), (1, 1), (5, 160), 0, 2)
set_option maxRecDepth 100000 in
theorem zw_146_ok : zm_mwk 146 zw_146 := by unfold zm_mwk; decide +kernel
def zw_147 : zm_MW := ((5, 165), (5, 164), (1, 1), (0, 75), 0, 1)
set_option maxRecDepth 100000 in
theorem zw_147_ok : zm_mwk 147 zw_147 := by unfold zm_mwk; decide +kernel
def zw_148 : zm_MW := ((5, 174), (5, 172), (1, 1), (5, 173), 0, 3)
set_option maxRecDepth 100000 in
theorem zw_148_ok : zm_mwk 148 zw_148 := by unfold zm_mwk; decide +kernel
def zw_149 : zm_MW := ((5, 178), (5, 177), (1, 1), (0, 77), 0, 2)
set_option maxRecDepth 100000 in
theorem zw_149_ok : zm_mwk 149 zw_149 := by unfold zm_mwk; decide +kernel
def zw_150 : zm_MW := ((5, 186), (5, 184), (1, 1), (5, 185), 0, 2)
set_option maxRecDepth 100000 in
theorem zw_150_ok : zm_mwk 150 zw_150 := by unfold zm_mwk; decide +kernel
def zw_151 : zm_MW := ((5, 190), (5, 188), (1, 1), (5, 189), 0, 2)
set_option maxRecDepth 100000 in
theorem zw_151_ok : zm_mwk 151 zw_151 := by unfold zm_mwk; decide +kernel
def zw_152 : zm_MW := ((5, 194), (5, 192), (1, 1), (5, 193), 0, 4)
set_option maxRecDepth 100000 in
theorem zw_152_ok : zm_mwk 152 zw_152 := by unfold zm_mwk; decide +kernel
def zw_153 : zm_MW := ((5, 198), (5, 196), (1, 1), (5, 197), 0, 2)
set_option maxRecDepth 100000 in
theorem zw_153_ok : zm_mwk 153 zw_153 := by unfold zm_mwk; decide +kernel
def zw_154 : zm_MW := ((5, 206), (5, 204), (1, 1), (5, 205), 0, 3)
set_option maxRecDepth 100000 in
theorem zw_154_ok : zm_mwk 154 zw_154 := by unfold zm_mwk; decide +kernel
def zw_155 : zm_MW := ((5, 209), (5, 208), (1, 1), (0, 0), 2, 1)
set_option maxRecDepth 100000 in
theorem zw_155_ok : zm_mwk 155 zw_155 := by unfold zm_mwk; decide +kernel
def zw_156 : zm_MW := ((5, 217), (5, 215), (1, 1), (5, 216), 0, 5)
set_option maxRecDepth 100000 in
theorem zw_156_ok : zm_mwk 156 zw_156 := by unfold zm_mwk; decide +kernel
def zw_157 : zm_MW := ((5, 225), (5, 223), (1, 1), (5, 224), 0, 2)
set_option maxRecDepth 100000 in
theorem zw_157_ok : zm_mwk 157 zw_157 := by unfold zm_mwk; decide +kernel
def zw_158 : zm_MW := ((5, 233), (5, 231), (1, 1), (5, 232), 0, 2)
set_option maxRecDepth 100000 in
theorem zw_158_ok : zm_mwk 158 zw_158 := by unfold zm_mwk; decide +kernel
def zw_159 : zm_MW := ((6, 1), (5, 239), (1, 1), (6, 0), 0, 0)
set_option maxRecDepth 100000 in
theorem zw_159_ok : zm_mwk 159 zw_159 := by unfold zm_mwk; decide +kernel
def zw_160 : zm_MW := ((6, 5), (6, 3), (1, 1), (6, 4), 0, 3)
set_option maxRecDepth 100000 in
theorem zw_160_ok : zm_mwk 160 zw_160 := by unfold zm_mwk; decide +kernel
def zw_161 : zm_MW := ((6, 19), (6, 17), (1, 1), (6, 18), 0, 2)
set_option maxRecDepth 100000 in
theorem zw_161_ok : zm_mwk 161 zw_161 := by unfold zm_mwk; decide +kernel
def zw_162 : zm_MW := ((6, 53), (6, 51), (1, 1), (6, 52), 0, 1)
set_option maxRecDepth 100000 in
theorem zw_162_ok : zm_mwk 162 zw_162 := by unfold zm_mwk; decide +kernel
def zw_163 : zm_MW := ((6, 61), (6, 59), (1, 1), (6, 60), 0, 0)
set_option maxRecDepth 100000 in
theorem zw_163_ok : zm_mwk 163 zw_163 := by unfold zm_mwk; decide +kernel
def zw_164 : zm_MW := ((6, 65), (6, 63), (1, 1), (6, 64), 0, 5)
set_option maxRecDepth 100000 in
theorem zw_164_ok : zm_mwk 164 zw_164 := by unfold zm_mwk; decide +kernel
def zw_165 : zm_MW := ((6, 106), (6, 104), (1, 1), (6, 105), 0, 2)
set_option maxRecDepth 100000 in
theorem zw_165_ok : zm_mwk 165 zw_165 := by unfold zm_mwk; decide +kernel
def zw_166 : zm_MW := ((6, 110), (6, 108), (1, 1), (6, 109), 0, 3)
set_option maxRecDepth 100000 in
theorem zw_166_ok : zm_mwk 166 zw_166 := by unfold zm_mwk; decide +kernel
def zw_167 : zm_MW := ((6, 121), (6, 119), (1, 1), (6, 120), 0, 0)
set_option maxRecDepth 100000 in
theorem zw_167_ok : zm_mwk 167 zw_167 := by unfold zm_mwk; decide +kernel
def zw_168 : zm_MW := ((6, 136), (6, 134), (1, 1), (6, 135), 0, 1)
set_option maxRecDepth 100000 in
theorem zw_168_ok : zm_mwk 168 zw_168 := by unfold zm_mwk; decide +kernel
def zw_169 : zm_MW := ((6, 145), (6, 144), (1, 13), (0, 0), 1, 0)
set_option maxRecDepth 100000 in
theorem zw_169_ok : zm_mwk 169 zw_169 := by unfold zm_mwk; exact ⟨rfl, by decide +kernel⟩
def zw_170 : zm_MW := ((7, 206), (7, 204), (1, 13), (7, 205), 0, 2)
set_option maxRecDepth 100000 in
theorem zw_170_ok : zm_mwk 170 zw_170 := by unfold zm_mwk; decide +kernel
def zw_171 : zm_MW := ((7, 209), (7, 208), (1, 13), (0, 0), 2, 1)
set_option maxRecDepth 100000 in
theorem zw_171_ok : zm_mwk 171 zw_171 := by unfold zm_mwk; decide +kernel
def zw_172 : zm_MW := ((7, 212), (7, 211), (1, 13), (0, 0), 2, 3)
set_option maxRecDepth 100000 in
theorem zw_172_ok : zm_mwk 172 zw_172 := by unfold zm_mwk; decide +kernel
def zw_173 : zm_MW := ((7, 216), (7, 214), (1, 13), (7, 215), 0, 3)
set_option maxRecDepth 100000 in
theorem zw_173_ok : zm_mwk 173 zw_173 := by unfold zm_mwk; decide +kernel
def zw_174 : zm_MW := ((7, 220), (7, 218), (1, 13), (7, 219), 0, 3)
set_option maxRecDepth 100000 in
theorem zw_174_ok : zm_mwk 174 zw_174 := by unfold zm_mwk; decide +kernel
def zw_175 : zm_MW := ((7, 225), (7, 224), (1, 13), (0, 104), 0, 2)
set_option maxRecDepth 100000 in
theorem zw_175_ok : zm_mwk 175 zw_175 := by unfold zm_mwk; decide +kernel
def zw_176 : zm_MW := ((7, 229), (7, 227), (1, 13), (7, 228), 0, 5)
set_option maxRecDepth 100000 in
theorem zw_176_ok : zm_mwk 176 zw_176 := by unfold zm_mwk; decide +kernel
def zw_177 : zm_MW := ((7, 233), (7, 231), (1, 13), (7, 232), 0, 1)
set_option maxRecDepth 100000 in
theorem zw_177_ok : zm_mwk 177 zw_177 := by unfold zm_mwk; decide +kernel
def zw_178 : zm_MW := ((7, 237), (7, 235), (1, 13), (7, 236), 0, 0)
set_option maxRecDepth 100000 in
theorem zw_178_ok : zm_mwk 178 zw_178 := by unfold zm_mwk; decide +kernel
def zw_179 : zm_MW := ((8, 1), (8, 0), (1, 13), (0, 105), 0, 0)
set_option maxRecDepth 100000 in
theorem zw_179_ok : zm_mwk 179 zw_179 := by unfold zm_mwk; decide +kernel
