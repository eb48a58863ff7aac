/-! ===== printed by a program of ours: the rows of code are what the bytes say ===== -/
set_option maxRecDepth 1000000 in
theorem zi_225 : ∀ e ∈ zc_225, zm_iok 225 e.1 e.2 := by unfold zm_iok; decide +kernel
set_option maxRecDepth 1000000 in
theorem zi_226 : ∀ e ∈ zc_226, zm_iok 226 e.1 e.2 := by unfold zm_iok; decide +kernel
set_option maxRecDepth 1000000 in
theorem zi_227 : ∀ e ∈ zc_227, zm_iok 227 e.1 e.2 := by unfold zm_iok; decide +kernel
set_option maxRecDepth 1000000 in
theorem zi_228 : ∀ e ∈ zc_228, zm_iok 228 e.1 e.2 := by unfold zm_iok; decide +kernel
set_option maxRecDepth 1000000 in
theorem zi_229 : ∀ e ∈ zc_229, zm_iok 229 e.1 e.2 := by unfold zm_iok; decide +kernel
set_option maxRecDepth 1000000 in
theorem zi_230 : ∀ e ∈ zc_230, zm_iok 230 e.1 e.2 := by unfold zm_iok; decide +kernel
set_option maxRecDepth 1000000 in
theorem zi_231 : ∀ e ∈ zc_231, zm_iok 231 e.1 e.2 := by unfold zm_iok; decide +kernel
set_option maxRecDepth 1000000 in
theorem zi_232 : ∀ e ∈ zc_232, zm_iok 232 e.1 e.2 := by unfold zm_iok; decide +kernel
set_option maxRecDepth 1000000 in
theorem zi_233 : ∀ e ∈ zc_233, zm_iok 233 e.1 e.2 := by unfold zm_iok; decide +kernel
set_option maxRecDepth 1000000 in
theorem zi_234 : ∀ e ∈ zc_234, zm_iok 234 e.1 e.2 := by unfold zm_iok; decide +kernel
set_option maxRecDepth 1000000 in
theorem zi_235 : ∀ e ∈ zc_235, zm_iok 235 e.1 e.2 := by unfold zm_iok; decide +kernel
set_option maxRecDepth 1000000 in
theorem zi_236 : ∀ e ∈ zc_236, zm_iok 236 e.1 e.2 := by unfold zm_iok; decide +kernel
set_option maxRecDepth 1000000 in
theorem zi_237 : ∀ e ∈ zc_237, zm_iok 237 e.1 e.2 := by unfold zm_iok; decide +kernel
set_option maxRecDepth 1000000 in
theorem zi_238 : ∀ e ∈ zc_238, zm_iok 238 e.1 e.2 := by unfold zm_iok; decide +kernel
set_option maxRecDepth 1000000 in
theorem zi_239 : ∀ e ∈ zc_239, zm_iok 239 e.1 e.2 := by unfold zm_iok; decide +kernel
set_option maxRecDepth 1000000 in
theorem zi_240 : ∀ e ∈ zc_240, zm_iok 240 e.1 e.2 := by unfold zm_iok; decide +kernel
set_option maxRecDepth 1000000 in
theorem zi_241 : ∀ e ∈ zc_241, zm_iok 241 e.1 e.2 := by unfold zm_iok; decide +kernel
set_option maxRecDepth 1000000 in
theorem zi_242 : ∀ e ∈ zc_242, zm_iok 242 e.1 e.2 := by unfold zm_iok; decide +kernel
set_option maxRecDepth 1000000 in
theorem zi_243 : ∀ e ∈ zc_243, zm_iok 243 e.1 e.2 := by unfold zm_iok; decide +kernel
set_option maxRecDepth 1000000 in
theorem zi_244 : ∀ e ∈ zc_244, zm_iok 244 e.1 e.2 := by unfold zm_iok; decide +kernel
set_option maxRecDepth 1000000 in
theorem zi_245 : ∀ e ∈ zc_245, zm_iok 245 e.1 e.2 := by unfold zm_iok; decide +kernel
set_option maxRecDepth 1000000 in
theorem zi_246 : ∀ e ∈ zc_246, zm_iok 246 e.1 e.2 := by unfold zm_iok; decide +kernel
set_option maxRecDepth 1000000 in
theorem zi_247 : ∀ e ∈ zc_247, zm_iok 247 e.1 e.2 := by unfold zm_iok; decide +kernel
set_option maxRecDepth 1000000 in
theorem zi_248 : ∀ e ∈ zc_248, zm_iok 248 e.1 e.2 := by unfold zm_iok; decide +kernel
set_option maxRecDepth 1000000 in
theorem zi_249 : ∀ e ∈ zc_249, zm_iok 249 e.1 e.2 := by unfold zm_iok; decide +kernel
set_option maxRecDepth 1000000 in
theorem zi_250 : ∀ e ∈ zc_250, zm_iok 250 e.1 e.2 := by unfold zm_iok; decide +kernel
set_option maxRecDepth 1000000 in
theorem zi_251 : ∀ e ∈ zc_251, zm_iok 251 e.1 e.2 := by unfold zm_iok; decide +kernel
set_option maxRecDepth 1000000 in
theorem zi_252 : ∀ e ∈ zc_252, zm_iok 252 e.1 e.2 := by unfold zm_iok; decide +kernel
set_option maxRecDepth 1000000 in
theorem zi_253 : ∀ e ∈ zc_253, zm_iok 253 e.1 e.2 := by unfold zm_iok; decide +kernel
set_option maxRecDepth 1000000 in
theorem zi_254 : ∀ e ∈ zc_254, zm_iok 254 e.1 e.2 := by unfold zm_iok; decide +kernel
set_option maxRecDepth 1000000 in
theorem zi_255 : ∀ e ∈ zc_255, zm_iok 255 e.1 e.2 := by unfold zm_iok; decide +kernel
set_option maxRecDepth 1000000 in
theorem zi_256 : ∀ e ∈ zc_256, zm_iok 256 e.1 e.2 := by unfold zm_iok; decide +kernel
set_option maxRecDepth 1000000 in
theorem zi_257 : ∀ e ∈ zc_257, zm_iok 257 e.1 e.2 := by unfold zm_iok; decide +kernel
