/-! ===== the words of each method, further ===== -/
def zw_230 : zm_MW := ((8, 218), (8, 217), (1, 13), (0, 0), 2, 1)
set_option maxRecDepth 100000 in
theorem zw_230_ok : zm_mwk 230 zw_230 := by unfold zm_mwk; decide +kernel
def zw_231 : zm_MW := ((8, 222), (8, 220), (1, 13), (8, 221), 0, 2)
set_option maxRecDepth 100000 in
theorem zw_231_ok : zm_mwk 231 zw_231 := by unfold zm_mwk; decide +kernel
def zw_232 : zm_MW := ((8, 226), (8, 225), (1, 13), (0, 141), 0, 3)
set_option maxRecDepth 100000 in
theorem zw_232_ok : zm_mwk 232 zw_232 := by unfold zm_mwk; decide +kernel
def zw_233 : zm_MW := ((8, 230), (8, 228), (1, 13), (8, 229), 0, 2)
set_option maxRecDepth 100000 in
theorem zw_233_ok : zm_mwk 233 zw_233 := by unfold zm_mwk; decide +kernel
def zw_234 : zm_MW := ((8, 234), (8, 233), (1, 13), (0, 142), 0, 1)
set_option maxRecDepth 100000 in
theorem zw_234_ok : zm_mwk 234 zw_234 := by unfold zm_mwk; decide +kernel
def zw_235 : zm_MW := ((8, 237), (8, 236), (1, 13), (0, 0), 2, 1)
set_option maxRecDepth 100000 in
theorem zw_235_ok : zm_mwk 235 zw_235 := by unfold zm_mwk; decide +kernel
def zw_236 : zm_MW := ((9, 1), (8, 239), (1, 13), (9, 0), 0, 3)
set_option maxRecDepth 100000 in
theorem zw_236_ok : zm_mwk 236 zw_236 := by unfold zm_mwk; decide +kernel
def zw_237 : zm_MW := ((9, 5), (9, 4), (1, 13), (0, 143), 0, 0)
set_option maxRecDepth 100000 in
theorem zw_237_ok : zm_mwk 237 zw_237 := by unfold zm_mwk; decide +kernel
def zw_238 : zm_MW := ((9, 9), (9, 8), (1, 13), (0, 144), 0, 2)
set_option maxRecDepth 100000 in
theorem zw_238_ok : zm_mwk 238 zw_238 := by unfold zm_mwk; decide +kernel
def zw_239 : zm_MW := ((9, 13), (9, 11), (1, 13), (9, 12), 0, 2)
set_option maxRecDepth 100000 in
theorem zw_239_ok : zm_mwk 239 zw_239 := by unfold zm_mwk; decide +kernel
def zw_240 : zm_MW := ((9, 17), (9, 15), (1, 13), (9, 16), 0, 2)
set_option maxRecDepth 100000 in
theorem zw_240_ok : zm_mwk 240 zw_240 := by unfold zm_mwk; decide +kernel
def zw_241 : zm_MW := ((9, 21), (9, 19), (1, 13), (9, 20), 0, 4)
set_option maxRecDepth 100000 in
theorem zw_241_ok : zm_mwk 241 zw_241 := by unfold zm_mwk; decide +kernel
def zw_242 : zm_MW := ((9, 25), (9, 23), (1, 13), (9, 24), 0, 2)
set_option maxRecDepth 100000 in
theorem zw_242_ok : zm_mwk 242 zw_242 := by unfold zm_mwk; decide +kernel
def zw_243 : zm_MW := ((9, 29), (9, 27), (1, 13), (9, 28), 0, 3)
set_option maxRecDepth 100000 in
theorem zw_243_ok : zm_mwk 243 zw_243 := by unfold zm_mwk; decide +kernel
def zw_244 : zm_MW := ((9, 32), (9, 31), (1, 13), (0, 0), 2, 1)
set_option maxRecDepth 100000 in
theorem zw_244_ok : zm_mwk 244 zw_244 := by unfold zm_mwk; decide +kernel
def zw_245 : zm_MW := ((9, 36), (9, 34), (1, 13), (9, 35), 0, 5)
set_option maxRecDepth 100000 in
theorem zw_245_ok : zm_mwk 245 zw_245 := by unfold zm_mwk; decide +kernel
def zw_246 : zm_MW := ((9, 40), (9, 38), (1, 13), (9, 39), 0, 2)
set_option maxRecDepth 100000 in
theorem zw_246_ok : zm_mwk 246 zw_246 := by unfold zm_mwk; decide +kernel
def zw_247 : zm_MW := ((9, 44), (9, 42), (1, 13), (9, 43), 0, 2)
set_option maxRecDepth 100000 in
theorem zw_247_ok : zm_mwk 247 zw_247 := by unfold zm_mwk; decide +kernel
def zw_248 : zm_MW := ((9, 48), (9, 46), (1, 13), (9, 47), 0, 0)
set_option maxRecDepth 100000 in
theorem zw_248_ok : zm_mwk 248 zw_248 := by unfold zm_mwk; decide +kernel
def zw_249 : zm_MW := ((9, 52), (9, 50), (1, 13), (9, 51), 0, 3)
set_option maxRecDepth 100000 in
theorem zw_249_ok : zm_mwk 249 zw_249 := by unfold zm_mwk; decide +kernel
def zw_250 : zm_MW := ((9, 56), (9, 55), (1, 13), (0, 145), 0, 1)
set_option maxRecDepth 100000 in
theorem zw_250_ok : zm_mwk 250 zw_250 := by unfold zm_mwk; decide +kernel
def zw_251 : zm_MW := ((9, 60), (9, 58), (1, 13), (9, 59), 0, 2)
set_option maxRecDepth 100000 in
theorem zw_251_ok : zm_mwk 251 zw_251 := by unfold zm_mwk; decide +kernel
def zw_252 : zm_MW := ((9, 64), (9, 63), (1, 13), (0, 146), 0, 1)
set_option maxRecDepth 100000 in
theorem zw_252_ok : zm_mwk 252 zw_252 := by unfold zm_mwk; decide +kernel
def zw_253 : zm_MW := ((9, 68), (9, 67), (1, 13), (0, 147), 0, 2)
set_option maxRecDepth 100000 in
theorem zw_253_ok : zm_mwk 253 zw_253 := by unfold zm_mwk; decide +kernel
def zw_254 : zm_MW := ((9, 72), (9, 70), (1, 13), (9, 71), 0, 1)
set_option maxRecDepth 100000 in
theorem zw_254_ok : zm_mwk 254 zw_254 := by unfold zm_mwk; decide +kernel
def zw_255 : zm_MW := ((9, 76), (9, 74), (1, 13), (9, 75), 0, 0)
set_option maxRecDepth 100000 in
theorem zw_255_ok : zm_mwk 255 zw_255 := by unfold zm_mwk; decide +kernel
def zw_256 : zm_MW := ((9, 80), (9, 78), (1, 13), (9, 79), 0, 5)
set_option maxRecDepth 100000 in
theorem zw_256_ok : zm_mwk 256 zw_256 := by unfold zm_mwk; decide +kernel
def zw_257 : zm_MW := ((9, 84), (9, 83), (1, 13), (0, 148), 0, 3)
set_option maxRecDepth 100000 in
theorem zw_257_ok : zm_mwk 257 zw_257 := by unfold zm_mwk; decide +kernel
def zw_258 : zm_MW := ((9, 88), (9, 86), (1, 13), (9, 87), 0, 2)
set_option maxRecDepth 100000 in
theorem zw_258_ok : zm_mwk 258 zw_258 := by unfold zm_mwk; decide +kernel
def zw_259 : zm_MW := ((9, 92), (9, 90), (1, 13), (9, 91), 0, 3)
set_option maxRecDepth 100000 in
theorem zw_259_ok : zm_mwk 259 zw_259 := by unfold zm_mwk; decide +kernel
def zw_260 : zm_MW := ((9, 95), (9, 94), (1, 13), (0, 0), 2, 2)
set_option maxRecDepth 100000 in
theorem zw_260_ok : zm_mwk 260 zw_260 := by unfold zm_mwk; decide +kernel
def zw_261 : zm_MW := ((9, 99), (9, 97), (1, 13), (9, 98), 0, 0)
set_option maxRecDepth 100000 in
theorem zw_261_ok : zm_mwk 261 zw_261 := by unfold zm_mwk; decide +kernel
def zw_262 : zm_MW := ((9, 102), (9, 101), (1, 13), (0, 0), 2, 1)
set_option maxRecDepth 100000 in
theorem zw_262_ok : zm_mwk 262 zw_262 := by unfold zm_mwk; decide +kernel
def zw_263 : zm_MW := ((9, 106), (9, 104), (1, 13), (9, 105), 0, 1)
set_option maxRecDepth 100000 in
theorem zw_263_ok : zm_mwk 263 zw_263 := by unfold zm_mwk; decide +kernel
def zw_264 : zm_MW := ((6, 138), (6, 137), (1, 21), (0, 0), 2, 1)
set_option maxRecDepth 100000 in
theorem zw_264_ok : zm_mwk 264 zw_264 := by unfold zm_mwk; decide +kernel
def zw_265 : zm_MW := ((1, 39), (1, 38), (1, 3), (0, 0), 2, 2)
set_option maxRecDepth 100000 in
theorem zw_265_ok : zm_mwk 265 zw_265 := by unfold zm_mwk; decide +kernel
def zw_266 : zm_MW := ((4, 101), (4, 100), (1, 3), (0, 0), 2, 2)
set_option maxRecDepth 100000 in
theorem zw_266_ok : zm_mwk 266 zw_266 := by unfold zm_mwk; decide +kernel
def zw_267 : zm_MW := ((3, 213), (3, 212), (1, 4), (0, 14), 0, 1)
set_option maxRecDepth 100000 in
theorem zw_267_ok : zm_mwk 267 zw_267 := by unfold zm_mwk; decide +kernel
def zm_mws : List zm_MW := [zw_0, zw_1, zw_2, zw_3, zw_4, zw_5, zw_6, zw_7, zw_8, zw_9, zw_10, zw_11, zw_12, zw_13, zw_14, zw_15, zw_16, zw_17, zw_18, zw_19, zw_20, zw_21, zw_22, zw_23, zw_24, zw_25, zw_26, zw_27, zw_28, zw_29, zw_30, zw_31, zw_32, zw_33, zw_34, zw_35, zw_36, zw_37, zw_38, zw_39, zw_40, zw_41, zw_42, zw_43, zw_44, zw_45, zw_46, zw_47, zw_48, zw_49, zw_50, zw_51, zw_52, zw_53, zw_54, zw_55, zw_56, zw_57, zw_58, zw_59, zw_60, zw_61, zw_62, zw_63, zw_64, zw_65, zw_66, zw_67, zw_68, zw_69, zw_70, zw_71, zw_72, zw_73, zw_74, zw_75, zw_76, zw_77, zw_78, zw_79, zw_80, zw_81, zw_82, zw_83, zw_84, zw_85, zw_86, zw_87, zw_88, zw_89, zw_90, zw_91, zw_92, zw_93, zw_94, zw_95, zw_96, zw_97, zw_98, zw_99, zw_100, zw_101, zw_102, zw_103, zw_104, zw_105, zw_106, zw_107, zw_108, zw_109, zw_110, zw_111, zw_112, zw_113, zw_114, zw_115, zw_116, zw_117, zw_118, zw_119, zw_120, zw_121, zw_122, zw_123, zw_124, zw_125, zw_126, zw_127, zw_128, zw_129, zw_130, zw_131, zw_132, zw_133, zw_134, zw_135, zw_136, zw_137, zw_138, zw_139, zw_140, zw_141, zw_142, zw_143, zw_144, zw_145, zw_146, zw_147, zw_148, zw_149, zw_150, zw_151, zw_152, zw_153, zw_154, zw_155, zw_156, zw_157, zw_158, zw_159, zw_160, zw_161, zw_162, zw_163, zw_164, zw_165, zw_166, zw_167, zw_168, zw_169, zw_170, zw_171, zw_172, zw_173, zw_174, zw_175, zw_176, zw_177, zw_178, zw_179, zw_180, zw_181, zw_182, zw_183, zw_184, zw_185, zw_186, zw_187, zw_188, zw_189, zw_190, zw_191, zw_192, zw_193, zw_194, zw_195, zw_196, zw_197, zw_198, zw_199, zw_200, zw_201, zw_202, zw_203, zw_204, zw_205, zw_206, zw_207, zw_208, zw_209, zw_210, zw_211, zw_212, zw_213, zw_214, zw_215, zw_216, zw_217, zw_218, zw_219, zw_220, zw_221, zw_222, zw_223, zw_224, zw_225, zw_226, zw_227, zw_228, zw_229, zw_230, zw_231, zw_232, zw_233, zw_234, zw_235, zw_236, zw_237, zw_238, zw_239, zw_240, zw_241, zw_242, zw_243, zw_244, zw_245, zw_246, zw_247, zw_248, zw_249, zw_250, zw_251, zw_252, zw_253, zw_254, zw_255, zw_256, zw_257, zw_258, zw_259, zw_260, zw_261, zw_262, zw_263, zw_264, zw_265, zw_266, zw_267]
/-! ===== END printed ===== -/
