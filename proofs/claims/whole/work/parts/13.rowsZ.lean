/-! ===== printed by a program of ours: the rows of code are what the bytes say ===== -/
set_option maxRecDepth 1000000 in
theorem zi_258 : ∀ e ∈ zc_258, zm_iok 258 e.1 e.2 := by unfold zm_iok; decide +kernel
set_option maxRecDepth 1000000 in
theorem zi_259 : ∀ e ∈ zc_259, zm_iok 259 e.1 e.2 := by unfold zm_iok; decide +kernel
set_option maxRecDepth 1000000 in
theorem zi_260 : ∀ e ∈ zc_260, zm_iok 260 e.1 e.2 := by unfold zm_iok; decide +kernel
set_option maxRecDepth 1000000 in
theorem zi_261 : ∀ e ∈ zc_261, zm_iok 261 e.1 e.2 := by unfold zm_iok; decide +kernel
set_option maxRecDepth 1000000 in
theorem zi_262 : ∀ e ∈ zc_262, zm_iok 262 e.1 e.2 := by unfold zm_iok; decide +kernel
set_option maxRecDepth 1000000 in
theorem zi_263 : ∀ e ∈ zc_263, zm_iok 263 e.1 e.2 := by unfold zm_iok; decide +kernel
set_option maxRecDepth 1000000 in
theorem zi_264 : ∀ e ∈ zc_264, zm_iok 264 e.1 e.2 := by unfold zm_iok; decide +kernel
set_option maxRecDepth 1000000 in
theorem zi_265 : ∀ e ∈ zc_265, zm_iok 265 e.1 e.2 := by unfold zm_iok; decide +kernel
set_option maxRecDepth 1000000 in
theorem zi_266 : ∀ e ∈ zc_266, zm_iok 266 e.1 e.2 := by unfold zm_iok; decide +kernel
set_option maxRecDepth 1000000 in
theorem zi_267 : ∀ e ∈ zc_267, zm_iok 267 e.1 e.2 := by unfold zm_iok; decide +kernel
set_option maxRecDepth 1000000 in
theorem zv_all : zc_268 = zv_0 ++ (zv_1 ++ (zv_2 ++ (zv_3 ++ (zv_4 ++ (zv_5 ++ (zv_6 ++ (zv_7 ++ (zv_8 ++ (zv_9 ++ (zv_10 ++ (zv_11 ++ (zv_12 ++ (zv_13 ++ (zv_14 ++ (zv_15 ++ (zv_16 ++ (zv_17 ++ (zv_18 ++ (zv_19 ++ (zv_20)))))))))))))))))))) := by rfl
theorem zi_268 : ∀ e ∈ zc_268, zm_iok 268 e.1 e.2 := fun e h => by
  rw [zv_all] at h
  simp only [List.mem_append] at h
  rcases h with h | h | h | h | h | h | h | h | h | h | h | h | h | h | h | h | h | h | h | h | h
  · exact zv_0_ok e h
  · exact zv_1_ok e h
  · exact zv_2_ok e h
  · exact zv_3_ok e h
  · exact zv_4_ok e h
  · exact zv_5_ok e h
  · exact zv_6_ok e h
  · exact zv_7_ok e h
  · exact zv_8_ok e h
  · exact zv_9_ok e h
  · exact zv_10_ok e h
  · exact zv_11_ok e h
  · exact zv_12_ok e h
  · exact zv_13_ok e h
  · exact zv_14_ok e h
  · exact zv_15_ok e h
  · exact zv_16_ok e h
  · exact zv_17_ok e h
  · exact zv_18_ok e h
  · exact zv_19_ok e h
  · exact zv_20_ok e h
theorem zm_okl_at : ∀ (L : List (List (Nat × zm_I))) (i j : Nat) (l : List (Nat × zm_I)), zm_okl i L → L[j]? = some l → ∀ e ∈ l, zm_iok (i + j) e.1 e.2
  | [], _, _, _, _, h => by simp at h
  | a :: r, i, 0, l, h, hl => by
    simp only [List.getElem?_cons_zero, Option.some.injEq] at hl
    subst hl
    exact h.1
  | a :: r, i, j + 1, l, h, hl => by
    rw [List.getElem?_cons_succ] at hl
    have := zm_okl_at r (i + 1) j l h.2 hl
    rw [show i + (j + 1) = i + 1 + j by omega]
    exact this

def zq_260 : List (List (Nat × zm_I)) := zc_260 :: zc_261 :: zc_262 :: zc_263 :: zc_264 :: zc_265 :: zc_266 :: zc_267 :: zc_268 :: []
theorem zo_260 : zm_okl 260 zq_260 := ⟨zi_260, zi_261, zi_262, zi_263, zi_264, zi_265, zi_266, zi_267, zi_268, trivial⟩
def zq_240 : List (List (Nat × zm_I)) := zc_240 :: zc_241 :: zc_242 :: zc_243 :: zc_244 :: zc_245 :: zc_246 :: zc_247 :: zc_248 :: zc_249 :: zc_250 :: zc_251 :: zc_252 :: zc_253 :: zc_254 :: zc_255 :: zc_256 :: zc_257 :: zc_258 :: zc_259 :: zq_260
theorem zo_240 : zm_okl 240 zq_240 := ⟨zi_240, zi_241, zi_242, zi_243, zi_244, zi_245, zi_246, zi_247, zi_248, zi_249, zi_250, zi_251, zi_252, zi_253, zi_254, zi_255, zi_256, zi_257, zi_258, zi_259, zo_260⟩
def zq_220 : List (List (Nat × zm_I)) := zc_220 :: zc_221 :: zc_222 :: zc_223 :: zc_224 :: zc_225 :: zc_226 :: zc_227 :: zc_228 :: zc_229 :: zc_230 :: zc_231 :: zc_232 :: zc_233 :: zc_234 :: zc_235 :: zc_236 :: zc_237 :: zc_238 :: zc_239 :: zq_240
theorem zo_220 : zm_okl 220 zq_220 := ⟨zi_220, zi_221, zi_222, zi_223, zi_224, zi_225, zi_226, zi_227, zi_228, zi_229, zi_230, zi_231, zi_232, zi_233, zi_234, zi_235, zi_236, zi_237, zi_238, zi_239, zo_240⟩
def zq_200 : List (List (Nat × zm_I)) := zc_200 :: zc_201 :: zc_202 :: zc_203 :: zc_204 :: zc_205 :: zc_206 :: zc_207 :: zc_208 :: zc_209 :: zc_210 :: zc_211 :: zc_212 :: zc_213 :: zc_214 :: zc_215 :: zc_216 :: zc_217 :: zc_218 :: zc_219 :: zq_220
theorem zo_200 : zm_okl 200 zq_200 := ⟨zi_200, zi_201, zi_202, zi_203, zi_204, zi_205, zi_206, zi_207, zi_208, zi_209, zi_210, zi_211, zi_212, zi_213, zi_214, zi_215, zi_216, zi_217, zi_218, zi_219, zo_220⟩
def zq_180 : List (List (Nat × zm_I)) := zc_180 :: zc_181 :: zc_182 :: zc_183 :: zc_184 :: zc_185 :: zc_186 :: zc_187 :: zc_188 :: zc_189 :: zc_190 :: zc_191 :: zc_192 :: zc_193 :: zc_194 :: zc_195 :: zc_196 :: zc_197 :: zc_198 :: zc_199 :: zq_200
theorem zo_180 : zm_okl 180 zq_180 := ⟨zi_180, zi_181, zi_182, zi_183, zi_184, zi_185, zi_186, zi_187, zi_188, zi_189, zi_190, zi_191, zi_192, zi_193, zi_194, zi_195, zi_196, zi_197, zi_198, zi_199, zo_200⟩
def zq_160 : List (List (Nat × zm_I)) := zc_160 :: zc_161 :: zc_162 :: zc_163 :: zc_164 :: zc_165 :: zc_166 :: zc_167 :: zc_168 :: zc_169 :: zc_170 :: zc_171 :: zc_172 :: zc_173 :: zc_174 :: zc_175 :: zc_176 :: zc_177 :: zc_178 :: zc_179 :: zq_180
theorem zo_160 : zm_okl 160 zq_160 := ⟨zi_160, zi_161, zi_162, zi_163, zi_164, zi_165, zi_166, zi_167, zi_168, zi_169, zi_170, zi_171, zi_172, zi_173, zi_174, zi_175, zi_176, zi_177, zi_178, zi_179, zo_180⟩
def zq_140 : List (List (Nat × zm_I)) := zc_140 :: zc_141 :: zc_142 :: zc_143 :: zc_144 :: zc_145 :: zc_146 :: zc_147 :: zc_148 :: zc_149 :: zc_150 :: zc_151 :: zc_152 :: zc_153 :: zc_154 :: zc_155 :: zc_156 :: zc_157 :: zc_158 :: zc_159 :: zq_160
theorem zo_140 : zm_okl 140 zq_140 := ⟨zi_140, zi_141, zi_142, zi_143, zi_144, zi_145, zi_146, zi_147, zi_148, zi_149, zi_150, zi_151, zi_152, zi_153, zi_154, zi_155, zi_156, zi_157, zi_158, zi_159, zo_160⟩
def zq_120 : List (List (Nat × zm_I)) := zc_120 :: zc_121 :: zc_122 :: zc_123 :: zc_124 :: zc_125 :: zc_126 :: zc_127 :: zc_128 :: zc_129 :: zc_130 :: zc_131 :: zc_132 :: zc_133 :: zc_134 :: zc_135 :: zc_136 :: zc_137 :: zc_138 :: zc_139 :: zq_140
theorem zo_120 : zm_okl 120 zq_120 := ⟨zi_120, zi_121, zi_122, zi_123, zi_124, zi_125, zi_126, zi_127, zi_128, zi_129, zi_130, zi_131, zi_132, zi_133, zi_134, zi_135, zi_136, zi_137, zi_138, zi_139, zo_140⟩
def zq_100 : List (List (Nat × zm_I)) := zc_100 :: zc_101 :: zc_102 :: zc_103 :: zc_104 :: zc_105 :: zc_106 :: zc_107 :: zc_108 :: zc_109 :: zc_110 :: zc_111 :: zc_112 :: zc_113 :: zc_114 :: zc_115 :: zc_116 :: zc_117 :: zc_118 :: zc_119 :: zq_120
theorem zo_100 : zm_okl 100 zq_100 := ⟨zi_100, zi_101, zi_102, zi_103, zi_104, zi_105, zi_106, zi_107, zi_108, zi_109, zi_110, zi_111, zi_112, zi_113, zi_114, zi_115, zi_116, zi_117, zi_118, zi_119, zo_120⟩
def zq_80 : List (List (Nat × zm_I)) := zc_80 :: zc_81 :: zc_82 :: zc_83 :: zc_84 :: zc_85 :: zc_86 :: zc_87 :: zc_88 :: zc_89 :: zc_90 :: zc_91 :: zc_92 :: zc_93 :: zc_94 :: zc_95 :: zc_96 :: zc_97 :: zc_98 :: zc_99 :: zq_100
theorem zo_80 : zm_okl 80 zq_80 := ⟨zi_80, zi_81, zi_82, zi_83, zi_84, zi_85, zi_86, zi_87, zi_88, zi_89, zi_90, zi_91, zi_92, zi_93, zi_94, zi_95, zi_96, zi_97, zi_98, zi_99, zo_100⟩
def zq_60 : List (List (Nat × zm_I)) := zc_60 :: zc_61 :: zc_62 :: zc_63 :: zc_64 :: zc_65 :: zc_66 :: zc_67 :: zc_68 :: zc_69 :: zc_70 :: zc_71 :: zc_72 :: zc_73 :: zc_74 :: zc_75 :: zc_76 :: zc_77 :: zc_78 :: zc_79 :: zq_80
theorem zo_60 : zm_okl 60 zq_60 := ⟨zi_60, zi_61, zi_62, zi_63, zi_64, zi_65, zi_66, zi_67, zi_68, zi_69, zi_70, zi_71, zi_72, zi_73, zi_74, zi_75, zi_76, zi_77, zi_78, zi_79, zo_80⟩
def zq_40 : List (List (Nat × zm_I)) := zc_40 :: zc_41 :: zc_42 :: zc_43 :: zc_44 :: zc_45 :: zc_46 :: zc_47 :: zc_48 :: zc_49 :: zc_50 :: zc_51 :: zc_52 :: zc_53 :: zc_54 :: zc_55 :: zc_56 :: zc_57 :: zc_58 :: zc_59 :: zq_60
theorem zo_40 : zm_okl 40 zq_40 := ⟨zi_40, zi_41, zi_42, zi_43, zi_44, zi_45, zi_46, zi_47, zi_48, zi_49, zi_50, zi_51, zi_52, zi_53, zi_54, zi_55, zi_56, zi_57, zi_58, zi_59, zo_60⟩
def zq_20 : List (List (Nat × zm_I)) := zc_20 :: zc_21 :: zc_22 :: zc_23 :: zc_24 :: zc_25 :: zc_26 :: zc_27 :: zc_28 :: zc_29 :: zc_30 :: zc_31 :: zc_32 :: zc_33 :: zc_34 :: zc_35 :: zc_36 :: zc_37 :: zc_38 :: zc_39 :: zq_40
theorem zo_20 : zm_okl 20 zq_20 := ⟨zi_20, zi_21, zi_22, zi_23, zi_24, zi_25, zi_26, zi_27, zi_28, zi_29, zi_30, zi_31, zi_32, zi_33, zi_34, zi_35, zi_36, zi_37, zi_38, zi_39, zo_40⟩
def zq_0 : List (List (Nat × zm_I)) := zc_0 :: zc_1 :: zc_2 :: zc_3 :: zc_4 :: zc_5 :: zc_6 :: zc_7 :: zc_8 :: zc_9 :: zc_10 :: zc_11 :: zc_12 :: zc_13 :: zc_14 :: zc_15 :: zc_16 :: zc_17 :: zc_18 :: zc_19 :: zq_20
theorem zo_0 : zm_okl 0 zq_0 := ⟨zi_0, zi_1, zi_2, zi_3, zi_4, zi_5, zi_6, zi_7, zi_8, zi_9, zi_10, zi_11, zi_12, zi_13, zi_14, zi_15, zi_16, zi_17, zi_18, zi_19, zo_20⟩
theorem zm_cds_q : zm_cds = zq_0 := by rfl
theorem zm_lk_mem : ∀ (l : List (Nat × zm_I)) (pc : Nat) (q : zm_I), l.lookup pc = some q → (pc, q) ∈ l
  | [], _, _, h => by simp at h
  | (k, v) :: r, pc, q, h => by
    rw [List.lookup_cons] at h
    split at h
    next hk =>
      cases h
      rw [beq_iff_eq] at hk
      rw [hk]
      exact List.mem_cons_self
    next => exact List.mem_cons_of_mem _ (zm_lk_mem r pc q h)
theorem zm_ok {m pc : Nat} {q : zm_I} (h : zm_lk m pc = some q) : zm_iok m pc q := by
  have h1 := zm_lk_mem _ _ _ h
  unfold zm_cd at h1
  cases hl : zm_cds[m]? with
  | none => rw [List.getD_eq_getElem?_getD, hl] at h1; simp at h1
  | some l =>
    rw [List.getD_eq_getElem?_getD, hl] at h1
    have h2 := zm_okl_at zq_0 0 m l zo_0 (by rw [← zm_cds_q]; exact hl) _ h1
    rw [Nat.zero_add] at h2
    exact h2
