/-! ===== printed by a program of ours: the rows of code are what the bytes say ===== -/
set_option maxRecDepth 1000000 in
theorem zi_176 : ∀ e ∈ zc_176, zm_iok 176 e.1 e.2 := by unfold zm_iok; decide +kernel
set_option maxRecDepth 1000000 in
theorem zi_177 : ∀ e ∈ zc_177, zm_iok 177 e.1 e.2 := by unfold zm_iok; decide +kernel
set_option maxRecDepth 1000000 in
theorem zi_178 : ∀ e ∈ zc_178, zm_iok 178 e.1 e.2 := by unfold zm_iok; decide +kernel
set_option maxRecDepth 1000000 in
theorem zi_179 : ∀ e ∈ zc_179, zm_iok 179 e.1 e.2 := by unfold zm_iok; decide +kernel
set_option maxRecDepth 1000000 in
theorem zi_180 : ∀ e ∈ zc_180, zm_iok 180 e.1 e.2 := by unfold zm_iok; decide +kernel
set_option maxRecDepth 1000000 in
theorem zi_181 : ∀ e ∈ zc_181, zm_iok 181 e.1 e.2 := by unfold zm_iok; decide +kernel
set_option maxRecDepth 1000000 in
theorem zi_182 : ∀ e ∈ zc_182, zm_iok 182 e.1 e.2 := by unfold zm_iok; decide +kernel
set_option maxRecDepth 1000000 in
theorem zi_183 : ∀ e ∈ zc_183, zm_iok 183 e.1 e.2 := by unfold zm_iok; decide +kernel
set_option maxRecDepth 1000000 in
theorem zi_184 : ∀ e ∈ zc_184, zm_iok 184 e.1 e.2 := by unfold zm_iok; decide +kernel
set_option maxRecDepth 1000000 in
theorem zi_185 : ∀ e ∈ zc_185, zm_iok 185 e.1 e.2 := by unfold zm_iok; decide +kernel
set_option maxRecDepth 1000000 in
theorem zi_186 : ∀ e ∈ zc_186, zm_iok 186 e.1 e.2 := by unfold zm_iok; decide +kernel
set_option maxRecDepth 1000000 in
theorem zi_187 : ∀ e ∈ zc_187, zm_iok 187 e.1 e.2 := by unfold zm_iok; decide +kernel
set_option maxRecDepth 1000000 in
theorem zi_188 : ∀ e ∈ zc_188, zm_iok 188 e.1 e.2 := by unfold zm_iok; decide +kernel
set_option maxRecDepth 1000000 in
theorem zi_189 : ∀ e ∈ zc_189, zm_iok 189 e.1 e.2 := by unfold zm_iok; decide +kernel
set_option maxRecDepth 1000000 in
theorem zi_190 : ∀ e ∈ zc_190, zm_iok 190 e.1 e.2 := by unfold zm_iok; decide +kernel
set_option maxRecDepth 1000000 in
theorem zi_191 : ∀ e ∈ zc_191, zm_iok 191 e.1 e.2 := by unfold zm_iok; decide +kernel
set_option maxRecDepth 1000000 in
theorem zi_192 : ∀ e ∈ zc_192, zm_iok 192 e.1 e.2 := by unfold zm_iok; decide +kernel
set_option maxRecDepth 1000000 in
theorem zi_193 : ∀ e ∈ zc_193, zm_iok 193 e.1 e.2 := by unfold zm_iok; decide +kernel
set_option maxRecDepth 1000000 in
theorem zi_194 : ∀ e ∈ zc_194, zm_iok 194 e.1 e.2 := by unfold zm_iok; decide +kernel
set_option maxRecDepth 1000000 in
theorem zi_195 : ∀ e ∈ zc_195, zm_iok 195 e.1 e.2 := by unfold zm_iok; decide +kernel
set_option maxRecDepth 1000000 in
theorem zi_196 : ∀ e ∈ zc_196, zm_iok 196 e.1 e.2 := by unfold zm_iok; decide +kernel
set_option maxRecDepth 1000000 in
theorem zi_197 : ∀ e ∈ zc_197, zm_iok 197 e.1 e.2 := by unfold zm_iok; decide +kernel
set_option maxRecDepth 1000000 in
theorem zi_198 : ∀ e ∈ zc_198, zm_iok 198 e.1 e.2 := by unfold zm_iok; decide +kernel
set_option maxRecDepth 1000000 in
theorem zi_199 : ∀ e ∈ zc_199, zm_iok 199 e.1 e.2 := by unfold zm_iok; decide +kernel
set_option maxRecDepth 1000000 in
theorem zi_200 : ∀ e ∈ zc_200, zm_iok 200 e.1 e.2 := by unfold zm_iok; decide +kernel
set_option maxRecDepth 1000000 in
theorem zi_201 : ∀ e ∈ zc_201, zm_iok 201 e.1 e.2 := by unfold zm_iok; decide +kernel
set_option maxRecDepth 1000000 in
theorem zi_202 : ∀ e ∈ zc_202, zm_iok 202 e.1 e.2 := by unfold zm_iok; decide +kernel
set_option maxRecDepth 1000000 in
theorem zi_203 : ∀ e ∈ zc_203, zm_iok 203 e.1 e.2 := by unfold zm_iok; decide +kernel
set_option maxRecDepth 1000000 in
theorem zi_204 : ∀ e ∈ zc_204, zm_iok 204 e.1 e.2 := by unfold zm_iok; decide +kernel
set_option maxRecDepth 1000000 in
theorem zi_205 : ∀ e ∈ zc_205, zm_iok 205 e.1 e.2 := by unfold zm_iok; decide +kernel
set_option maxRecDepth 1000000 in
theorem zi_206 : ∀ e ∈ zc_206, zm_iok 206 e.1 e.2 := by unfold zm_iok; decide +kernel
set_option maxRecDepth 1000000 in
theorem zi_207 : ∀ e ∈ zc_207, zm_iok 207 e.1 e.2 := by unfold zm_iok; decide +kernel
set_option maxRecDepth 1000000 in
theorem zi_208 : ∀ e ∈ zc_208, zm_iok 208 e.1 e.2 := by unfold zm_iok; decide +kernel
set_option maxRecDepth 1000000 in
theorem zi_209 : ∀ e ∈ zc_209, zm_iok 209 e.1 e.2 := by unfold zm_iok; decide +kernel
set_option maxRecDepth 1000000 in
theorem zi_210 : ∀ e ∈ zc_210, zm_iok 210 e.1 e.2 := by unfold zm_iok; decide +kernel
set_option maxRecDepth 1000000 in
theorem zi_211 : ∀ e ∈ zc_211, zm_iok 211 e.1 e.2 := by unfold zm_iok; decide +kernel
set_option maxRecDepth 1000000 in
theorem zi_212 : ∀ e ∈ zc_212, zm_iok 212 e.1 e.2 := by unfold zm_iok; decide +kernel
set_option maxRecDepth 1000000 in
theorem zi_213 : ∀ e ∈ zc_213, zm_iok 213 e.1 e.2 := by unfold zm_iok; decide +kernel
set_option maxRecDepth 1000000 in
theorem zi_214 : ∀ e ∈ zc_214, zm_iok 214 e.1 e.2 := by unfold zm_iok; decide +kernel
set_option maxRecDepth 1000000 in
theorem zi_215 : ∀ e ∈ zc_215, zm_iok 215 e.1 e.2 := by unfold zm_iok; decide +kernel
set_option maxRecDepth 1000000 in
theorem zi_216 : ∀ e ∈ zc_216, zm_iok 216 e.1 e.2 := by unfold zm_iok; decide +kernel
set_option maxRecDepth 1000000 in
theorem zi_217 : ∀ e ∈ zc_217, zm_iok 217 e.1 e.2 := by unfold zm_iok; decide +kernel
set_option maxRecDepth 1000000 in
theorem zi_218 : ∀ e ∈ zc_218, zm_iok 218 e.1 e.2 := by unfold zm_iok; decide +kernel
set_option maxRecDepth 1000000 in
theorem zi_219 : ∀ e ∈ zc_219, zm_iok 219 e.1 e.2 := by unfold zm_iok; decide +kernel
set_option maxRecDepth 1000000 in
theorem zi_220 : ∀ e ∈ zc_220, zm_iok 220 e.1 e.2 := by unfold zm_iok; decide +kernel
set_option maxRecDepth 1000000 in
theorem zi_221 : ∀ e ∈ zc_221, zm_iok 221 e.1 e.2 := by unfold zm_iok; decide +kernel
set_option maxRecDepth 1000000 in
theorem zi_222 : ∀ e ∈ zc_222, zm_iok 222 e.1 e.2 := by unfold zm_iok; decide +kernel
set_option maxRecDepth 1000000 in
theorem zi_223 : ∀ e ∈ zc_223, zm_iok 223 e.1 e.2 := by unfold zm_iok; decide +kernel
set_option maxRecDepth 1000000 in
theorem zi_224 : ∀ e ∈ zc_224, zm_iok 224 e.1 e.2 := by unfold zm_iok; decide +kernel
