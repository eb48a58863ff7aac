/-! ===== the words of each method, further ===== -/
def zw_180 : zm_MW := ((8, 15), (8, 14), (1, 13), (0, 107), 0, 0)
set_option maxRecDepth 100000 in
theorem zw_180_ok : zm_mwk 180 zw_180 := by unfold zm_mwk; decide +kernel
def zw_181 : zm_MW := ((8, 18), (8, 17), (1, 13), (0, 0), 2, 1)
set_option maxRecDepth 100000 in
theorem zw_181_ok : zm_mwk 181 zw_181 := by unfold zm_mwk; decide +kernel
def zw_182 : zm_MW := ((8, 22), (8, 21), (1, 13), (0, 108), 0, 2)
set_option maxRecDepth 100000 in
theorem zw_182_ok : zm_mwk 182 zw_182 := by unfold zm_mwk; decide +kernel
def zw_183 : zm_MW := ((8, 28), (8, 27), (1, 13), (0, 0), 2, 1)
set_option maxRecDepth 100000 in
theorem zw_183_ok : zm_mwk 183 zw_183 := by unfold zm_mwk; decide +kernel
def zw_184 : zm_MW := ((8, 33), (8, 32), (1, 13), (0, 109), 0, 1)
set_option maxRecDepth 100000 in
theorem zw_184_ok : zm_mwk 184 zw_184 := by unfold zm_mwk; decide +kernel
def zw_185 : zm_MW := ((8, 37), (8, 36), (1, 13), (0, 110), 0, 1)
set_option maxRecDepth 100000 in
theorem zw_185_ok : zm_mwk 185 zw_185 := by unfold zm_mwk; decide +kernel
def zw_186 : zm_MW := ((8, 41), (8, 40), (1, 13), (0, 111), 0, 2)
set_option maxRecDepth 100000 in
theorem zw_186_ok : zm_mwk 186 zw_186 := by unfold zm_mwk; decide +kernel
def zw_187 : zm_MW := ((8, 45), (8, 44), (1, 13), (0, 112), 0, 1)
set_option maxRecDepth 100000 in
theorem zw_187_ok : zm_mwk 187 zw_187 := by unfold zm_mwk; decide +kernel
def zw_188 : zm_MW := ((8, 49), (8, 48), (1, 13), (0, 113), 0, 0)
set_option maxRecDepth 100000 in
theorem zw_188_ok : zm_mwk 188 zw_188 := by unfold zm_mwk; decide +kernel
def zw_189 : zm_MW := ((8, 53), (8, 52), (1, 13), (0, 114), 0, 0)
set_option maxRecDepth 100000 in
theorem zw_189_ok : zm_mwk 189 zw_189 := by unfold zm_mwk; decide +kernel
def zw_190 : zm_MW := ((8, 57), (8, 56), (1, 13), (0, 115), 0, 2)
set_option maxRecDepth 100000 in
theorem zw_190_ok : zm_mwk 190 zw_190 := by unfold zm_mwk; decide +kernel
def zw_191 : zm_MW := ((8, 61), (8, 60), (1, 13), (0, 116), 0, 6)
set_option maxRecDepth 100000 in
theorem zw_191_ok : zm_mwk 191 zw_191 := by unfold zm_mwk; decide +kernel
def zw_192 : zm_MW := ((8, 65), (8, 64), (1, 13), (0, 117), 0, 0)
set_option maxRecDepth 100000 in
theorem zw_192_ok : zm_mwk 192 zw_192 := by unfold zm_mwk; decide +kernel
def zw_193 : zm_MW := ((8, 70), (8, 69), (1, 13), (0, 118), 0, 0)
set_option maxRecDepth 100000 in
theorem zw_193_ok : zm_mwk 193 zw_193 := by unfold zm_mwk; decide +kernel
def zw_194 : zm_MW := ((8, 74), (8, 73), (1, 13), (0, 119), 0, 4)
set_option maxRecDepth 100000 in
theorem zw_194_ok : zm_mwk 194 zw_194 := by unfold zm_mwk; decide +kernel
def zw_195 : zm_MW := ((8, 78), (8, 77), (1, 13), (0, 120), 0, 1)
set_option maxRecDepth 100000 in
theorem zw_195_ok : zm_mwk 195 zw_195 := by unfold zm_mwk; decide +kernel
def zw_196 : zm_MW := ((8, 82), (8, 81), (1, 13), (0, 121), 0, 0)
set_option maxRecDepth 100000 in
theorem zw_196_ok : zm_mwk 196 zw_196 := by unfold zm_mwk; decide +kernel
def zw_197 : zm_MW := ((8, 86), (8, 85), (1, 13), (0, 122), 0, 0)
set_option maxRecDepth 100000 in
theorem zw_197_ok : zm_mwk 197 zw_197 := by unfold zm_mwk; decide +kernel
def zw_198 : zm_MW := ((8, 90), (8, 88), (1, 13), (8, 89), 0, 0)
set_option maxRecDepth 100000 in
theorem zw_198_ok : zm_mwk 198 zw_198 := by unfold zm_mwk; decide +kernel
def zw_199 : zm_MW := ((8, 94), (8, 92), (1, 13), (8, 93), 0, 2)
set_option maxRecDepth 100000 in
theorem zw_199_ok : zm_mwk 199 zw_199 := by unfold zm_mwk; decide +kernel
def zw_200 : zm_MW := ((8, 98), (8, 96), (1, 13), (8, 97), 0, 2)
set_option maxRecDepth 100000 in
theorem zw_200_ok : zm_mwk 200 zw_200 := by unfold zm_mwk; decide +kernel
def zw_201 : zm_MW := ((8, 102), (8, 101), (1, 13), (0, 123), 0, 2)
set_option maxRecDepth 100000 in
theorem zw_201_ok : zm_mwk 201 zw_201 := by unfold zm_mwk; decide +kernel
def zw_202 : zm_MW := ((8, 106), (8, 104), (1, 13), (8, 105), 0, 2)
set_option maxRecDepth 100000 in
theorem zw_202_ok : zm_mwk 202 zw_202 := by unfold zm_mwk; decide +kernel
def zw_203 : zm_MW := ((8, 110), (8, 108), (1, 13), (8, 109), 0, 3)
set_option maxRecDepth 100000 in
theorem zw_203_ok : zm_mwk 203 zw_203 := by unfold zm_mwk; decide +kernel
def zw_204 : zm_MW := ((8, 114), (8, 112), (1, 13), (8, 113), 0, 3)
set_option maxRecDepth 100000 in
theorem zw_204_ok : zm_mwk 204 zw_204 := by unfold zm_mwk; decide +kernel
def zw_205 : zm_MW := ((8, 118), (8, 117), (1, 13), (0, 124), 0, 1)
set_option maxRecDepth 100000 in
theorem zw_205_ok : zm_mwk 205 zw_205 := by unfold zm_mwk; decide +kernel
def zw_206 : zm_MW := ((8, 121), (8, 120), (1, 13), (0, 0), 2, 1)
set_option maxRecDepth 100000 in
theorem zw_206_ok : zm_mwk 206 zw_206 := by unfold zm_mwk; decide +kernel
def zw_207 : zm_MW := ((8, 125), (8, 124), (1, 13), (0, 125), 0, 1)
set_option maxRecDepth 100000 in
theorem zw_207_ok : zm_mwk 207 zw_207 := by unfold zm_mwk; decide +kernel
def zw_208 : zm_MW := ((8, 128), (8, 127), (1, 13), (0, 0), 2, 1)
set_option maxRecDepth 100000 in
theorem zw_208_ok : zm_mwk 208 zw_208 := by unfold zm_mwk; decide +kernel
def zw_209 : zm_MW := ((8, 132), (8, 131), (1, 13), (0, 126), 0, 5)
set_option maxRecDepth 100000 in
theorem zw_209_ok : zm_mwk 209 zw_209 := by unfold zm_mwk; decide +kernel
def zw_210 : zm_MW := ((8, 136), (8, 135), (1, 13), (0, 127), 0, 2)
set_option maxRecDepth 100000 in
theorem zw_210_ok : zm_mwk 210 zw_210 := by unfold zm_mwk; decide +kernel
def zw_211 : zm_MW := ((8, 140), (8, 139), (1, 13), (0, 128), 0, 4)
set_option maxRecDepth 100000 in
theorem zw_211_ok : zm_mwk 211 zw_211 := by unfold zm_mwk; decide +kernel
def zw_212 : zm_MW := ((8, 143), (8, 142), (1, 13), (0, 0), 2, 3)
set_option maxRecDepth 100000 in
theorem zw_212_ok : zm_mwk 212 zw_212 := by unfold zm_mwk; decide +kernel
def zw_213 : zm_MW := ((8, 147), (8, 146), (1, 13), (0, 129), 0, 5)
set_option maxRecDepth 100000 in
theorem zw_213_ok : zm_mwk 213 zw_213 := by unfold zm_mwk; decide +kernel
def zw_214 : zm_MW := ((8, 151), (8, 149), (1, 13), (8, 150), 0, 1)
set_option maxRecDepth 100000 in
theorem zw_214_ok : zm_mwk 214 zw_214 := by unfold zm_mwk; decide +kernel
def zw_215 : zm_MW := ((8, 156), (8, 154), (1, 13), (8, 155), 0, 1)
set_option maxRecDepth 100000 in
theorem zw_215_ok : zm_mwk 215 zw_215 := by unfold zm_mwk; decide +kernel
def zw_216 : zm_MW := ((8, 160), (8, 158), (1, 13), (8, 159), 0, 1)
set_option maxRecDepth 100000 in
theorem zw_216_ok : zm_mwk 216 zw_216 := by unfold zm_mwk; decide +kernel
def zw_217 : zm_MW := ((8, 164), (8, 163), (1, 13), (0, 130), 0, 0)
set_option maxRecDepth 100000 in
theorem zw_217_ok : zm_mwk 217 zw_217 := by unfold zm_mwk; decide +kernel
def zw_218 : zm_MW := ((8, 168), (8, 167), (1, 13), (0, 131), 0, 3)
set_option maxRecDepth 100000 in
theorem zw_218_ok : zm_mwk 218 zw_218 := by unfold zm_mwk; decide +kernel
def zw_219 : zm_MW := ((8, 172), (8, 171), (1, 13), (0, 132), 0, 2)
set_option maxRecDepth 100000 in
theorem zw_219_ok : zm_mwk 219 zw_219 := by unfold zm_mwk; decide +kernel
def zw_220 : zm_MW := ((8, 176), (8, 175), (1, 13), (0, 133), 0, 1)
set_option maxRecDepth 100000 in
theorem zw_220_ok : zm_mwk 220 zw_220 := by unfold zm_mwk; decide +kernel
def zw_221 : zm_MW := ((8, 180), (8, 179), (1, 13), (0, 134), 0, 2)
set_option maxRecDepth 100000 in
theorem zw_221_ok : zm_mwk 221 zw_221 := by unfold zm_mwk; decide +kernel
def zw_222 : zm_MW := ((8, 183), (8, 182), (1, 13), (0, 0), 2, 3)
set_option maxRecDepth 100000 in
theorem zw_222_ok : zm_mwk 222 zw_222 := by unfold zm_mwk; decide +kernel
def zw_223 : zm_MW := ((8, 186), (8, 185), (1, 13), (0, 0), 2, 1)
set_option maxRecDepth 100000 in
theorem zw_223_ok : zm_mwk 223 zw_223 := by unfold zm_mwk; decide +kernel
def zw_224 : zm_MW := ((8, 193), (8, 192), (1, 13), (0, 135), 0, 2)
set_option maxRecDepth 100000 in
theorem zw_224_ok : zm_mwk 224 zw_224 := by unfold zm_mwk; decide +kernel
def zw_225 : zm_MW := ((8, 197), (8, 196), (1, 13), (0, 136), 0, 1)
set_option maxRecDepth 100000 in
theorem zw_225_ok : zm_mwk 225 zw_225 := by unfold zm_mwk; decide +kernel
def zw_226 : zm_MW := ((8, 201), (8, 200), (1, 13), (0, 137), 0, 1)
set_option maxRecDepth 100000 in
theorem zw_226_ok : zm_mwk 226 zw_226 := by unfold zm_mwk; decide +kernel
def zw_227 : zm_MW := ((8, 205), (8, 204), (1, 13), (0, 138), 0, 3)
set_option maxRecDepth 100000 in
theorem zw_227_ok : zm_mwk 227 zw_227 := by unfold zm_mwk; decide +kernel
def zw_228 : zm_MW := ((8, 209), (8, 208), (1, 13), (0, 139), 0, 1)
set_option maxRecDepth 100000 in
theorem zw_228_ok : zm_mwk 228 zw_228 := by unfold zm_mwk; decide +kernel
def zw_229 : zm_MW := ((8, 215), (8, 214), (1, 13), (0, 140), 0, 1)
set_option maxRecDepth 100000 in
theorem zw_229_ok : zm_mwk 229 zw_229 := by unfold zm_mwk; decide +kernel
