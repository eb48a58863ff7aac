/-! ===== printed by a program of ours: the rows of code are what the bytes say ===== -/
set_option maxRecDepth 1000000 in
theorem zi_111 : ∀ e ∈ zc_111, zm_iok 111 e.1 e.2 := by unfold zm_iok; decide +kernel
set_option maxRecDepth 1000000 in
theorem zi_112 : ∀ e ∈ zc_112, zm_iok 112 e.1 e.2 := by unfold zm_iok; decide +kernel
set_option maxRecDepth 1000000 in
theorem zi_113 : ∀ e ∈ zc_113, zm_iok 113 e.1 e.2 := by unfold zm_iok; decide +kernel
set_option maxRecDepth 1000000 in
theorem zi_114 : ∀ e ∈ zc_114, zm_iok 114 e.1 e.2 := by unfold zm_iok; decide +kernel
set_option maxRecDepth 1000000 in
theorem zi_115 : ∀ e ∈ zc_115, zm_iok 115 e.1 e.2 := by unfold zm_iok; decide +kernel
set_option maxRecDepth 1000000 in
theorem zi_116 : ∀ e ∈ zc_116, zm_iok 116 e.1 e.2 := by unfold zm_iok; decide +kernel
set_option maxRecDepth 1000000 in
theorem zi_117 : ∀ e ∈ zc_117, zm_iok 117 e.1 e.2 := by unfold zm_iok; decide +kernel
set_option maxRecDepth 1000000 in
theorem zi_118 : ∀ e ∈ zc_118, zm_iok 118 e.1 e.2 := by unfold zm_iok; decide +kernel
set_option maxRecDepth 1000000 in
theorem zi_119 : ∀ e ∈ zc_119, zm_iok 119 e.1 e.2 := by unfold zm_iok; decide +kernel
set_option maxRecDepth 1000000 in
theorem zi_120 : ∀ e ∈ zc_120, zm_iok 120 e.1 e.2 := by unfold zm_iok; decide +kernel
set_option maxRecDepth 1000000 in
theorem zi_121 : ∀ e ∈ zc_121, zm_iok 121 e.1 e.2 := by unfold zm_iok; decide +kernel
set_option maxRecDepth 1000000 in
theorem zi_122 : ∀ e ∈ zc_122, zm_iok 122 e.1 e.2 := by unfold zm_iok; decide +kernel
set_option maxRecDepth 1000000 in
theorem zi_123 : ∀ e ∈ zc_123, zm_iok 123 e.1 e.2 := by unfold zm_iok; decide +kernel
set_option maxRecDepth 1000000 in
theorem zi_124 : ∀ e ∈ zc_124, zm_iok 124 e.1 e.2 := by unfold zm_iok; decide +kernel
set_option maxRecDepth 1000000 in
theorem zi_125 : ∀ e ∈ zc_125, zm_iok 125 e.1 e.2 := by unfold zm_iok; decide +kernel
set_option maxRecDepth 1000000 in
theorem zi_126 : ∀ e ∈ zc_126, zm_iok 126 e.1 e.2 := by unfold zm_iok; decide +kernel
set_option maxRecDepth 1000000 in
theorem zi_127 : ∀ e ∈ zc_127, zm_iok 127 e.1 e.2 := by unfold zm_iok; decide +kernel
set_option maxRecDepth 1000000 in
theorem zi_128 : ∀ e ∈ zc_128, zm_iok 128 e.1 e.2 := by unfold zm_iok; decide +kernel
set_option maxRecDepth 1000000 in
theorem zi_129 : ∀ e ∈ zc_129, zm_iok 129 e.1 e.2 := by unfold zm_iok; decide +kernel
set_option maxRecDepth 1000000 in
theorem zi_130 : ∀ e ∈ zc_130, zm_iok 130 e.1 e.2 := by unfold zm_iok; decide +kernel
set_option maxRecDepth 1000000 in
theorem zi_131 : ∀ e ∈ zc_131, zm_iok 131 e.1 e.2 := by unfold zm_iok; decide +kernel
set_option maxRecDepth 1000000 in
theorem zi_132 : ∀ e ∈ zc_132, zm_iok 132 e.1 e.2 := by unfold zm_iok; decide +kernel
set_option maxRecDepth 1000000 in
theorem zi_133 : ∀ e ∈ zc_133, zm_iok 133 e.1 e.2 := by unfold zm_iok; decide +kernel
set_option maxRecDepth 1000000 in
theorem zi_134 : ∀ e ∈ zc_134, zm_iok 134 e.1 e.2 := by unfold zm_iok; decide +kernel
set_option maxRecDepth 1000000 in
theorem zi_135 : ∀ e ∈ zc_135, zm_iok 135 e.1 e.2 := by unfold zm_iok; decide +kernel
set_option maxRecDepth 1000000 in
theorem zi_136 : ∀ e ∈ zc_136, zm_iok 136 e.1 e.2 := by unfold zm_iok; decide +kernel
set_option maxRecDepth 1000000 in
theorem zi_137 : ∀ e ∈ zc_137, zm_iok 137 e.1 e.2 := by unfold zm_iok; decide +kernel
set_option maxRecDepth 1000000 in
theorem zi_138 : ∀ e ∈ zc_138, zm_iok 138 e.1 e.2 := by unfold zm_iok; decide +kernel
set_option maxRecDepth 1000000 in
theorem zi_139 : ∀ e ∈ zc_139, zm_iok 139 e.1 e.2 := by unfold zm_iok; decide +kernel
set_option maxRecDepth 1000000 in
theorem zi_140 : ∀ e ∈ zc_140, zm_iok 140 e.1 e.2 := by unfold zm_iok; decide +kernel
set_option maxRecDepth 1000000 in
theorem zi_141 : ∀ e ∈ zc_141, zm_iok 141 e.1 e.2 := by unfold zm_iok; decide +kernel
set_option maxRecDepth 1000000 in
theorem zi_142 : ∀ e ∈ zc_142, zm_iok 142 e.1 e.2 := by unfold zm_iok; decide +kernel
set_option maxRecDepth 1000000 in
theorem zi_143 : ∀ e ∈ zc_143, zm_iok 143 e.1 e.2 := by unfold zm_iok; decide +kernel
set_option maxRecDepth 1000000 in
theorem zi_144 : ∀ e ∈ zc_144, zm_iok 144 e.1 e.2 := by unfold zm_iok; decide +kernel
set_option maxRecDepth 1000000 in
theorem zi_145 : ∀ e ∈ zc_145, zm_iok 145 e.1 e.2 := by unfold zm_iok; decide +kernel
set_option maxRecDepth 1000000 in
theorem zi_146 : ∀ e ∈ zc_146, zm_iok 146 e.1 e.2 := by unfold zm_iok; decide +kernel
set_option maxRecDepth 1000000 in
theorem zi_147 : ∀ e ∈ zc_147, zm_iok 147 e.1 e.2 := by unfold zm_iok; decide +kernel
set_option maxRecDepth 1000000 in
theorem zi_148 : ∀ e ∈ zc_148, zm_iok 148 e.1 e.2 := by unfold zm_iok; decide +kernel
set_option maxRecDepth 1000000 in
theorem zi_149 : ∀ e ∈ zc_149, zm_iok 149 e.1 e.2 := by unfold zm_iok; decide +kernel
set_option maxRecDepth 1000000 in
theorem zi_150 : ∀ e ∈ zc_150, zm_iok 150 e.1 e.2 := by unfold zm_iok; decide +kernel
set_option maxRecDepth 1000000 in
theorem zi_151 : ∀ e ∈ zc_151, zm_iok 151 e.1 e.2 := by unfold zm_iok; decide +kernel
set_option maxRecDepth 1000000 in
theorem zi_152 : ∀ e ∈ zc_152, zm_iok 152 e.1 e.2 := by unfold zm_iok; decide +kernel
set_option maxRecDepth 1000000 in
theorem zi_153 : ∀ e ∈ zc_153, zm_iok 153 e.1 e.2 := by unfold zm_iok; decide +kernel
set_option maxRecDepth 1000000 in
theorem zi_154 : ∀ e ∈ zc_154, zm_iok 154 e.1 e.2 := by unfold zm_iok; decide +kernel
set_option maxRecDepth 1000000 in
theorem zi_155 : ∀ e ∈ zc_155, zm_iok 155 e.1 e.2 := by unfold zm_iok; decide +kernel
set_option maxRecDepth 1000000 in
theorem zi_156 : ∀ e ∈ zc_156, zm_iok 156 e.1 e.2 := by unfold zm_iok; decide +kernel
set_option maxRecDepth 1000000 in
theorem zi_157 : ∀ e ∈ zc_157, zm_iok 157 e.1 e.2 := by unfold zm_iok; decide +kernel
set_option maxRecDepth 1000000 in
theorem zi_158 : ∀ e ∈ zc_158, zm_iok 158 e.1 e.2 := by unfold zm_iok; decide +kernel
set_option maxRecDepth 1000000 in
theorem zi_159 : ∀ e ∈ zc_159, zm_iok 159 e.1 e.2 := by unfold zm_iok; decide +kernel
set_option maxRecDepth 1000000 in
theorem zi_160 : ∀ e ∈ zc_160, zm_iok 160 e.1 e.2 := by unfold zm_iok; decide +kernel
set_option maxRecDepth 1000000 in
theorem zi_161 : ∀ e ∈ zc_161, zm_iok 161 e.1 e.2 := by unfold zm_iok; decide +kernel
set_option maxRecDepth 1000000 in
theorem zi_162 : ∀ e ∈ zc_162, zm_iok 162 e.1 e.2 := by unfold zm_iok; decide +kernel
set_option maxRecDepth 1000000 in
theorem zi_163 : ∀ e ∈ zc_163, zm_iok 163 e.1 e.2 := by unfold zm_iok; decide +kernel
set_option maxRecDepth 1000000 in
theorem zi_164 : ∀ e ∈ zc_164, zm_iok 164 e.1 e.2 := by unfold zm_iok; decide +kernel
set_option maxRecDepth 1000000 in
theorem zi_165 : ∀ e ∈ zc_165, zm_iok 165 e.1 e.2 := by unfold zm_iok; decide +kernel
set_option maxRecDepth 1000000 in
theorem zi_166 : ∀ e ∈ zc_166, zm_iok 166 e.1 e.2 := by unfold zm_iok; decide +kernel
set_option maxRecDepth 1000000 in
theorem zi_167 : ∀ e ∈ zc_167, zm_iok 167 e.1 e.2 := by unfold zm_iok; decide +kernel
set_option maxRecDepth 1000000 in
theorem zi_168 : ∀ e ∈ zc_168, zm_iok 168 e.1 e.2 := by unfold zm_iok; decide +kernel
set_option maxRecDepth 1000000 in
theorem zi_169 : ∀ e ∈ zc_169, zm_iok 169 e.1 e.2 := by unfold zm_iok; decide +kernel
set_option maxRecDepth 1000000 in
theorem zi_170 : ∀ e ∈ zc_170, zm_iok 170 e.1 e.2 := by unfold zm_iok; decide +kernel
set_option maxRecDepth 1000000 in
theorem zi_171 : ∀ e ∈ zc_171, zm_iok 171 e.1 e.2 := by unfold zm_iok; decide +kernel
set_option maxRecDepth 1000000 in
theorem zi_172 : ∀ e ∈ zc_172, zm_iok 172 e.1 e.2 := by unfold zm_iok; decide +kernel
set_option maxRecDepth 1000000 in
theorem zi_173 : ∀ e ∈ zc_173, zm_iok 173 e.1 e.2 := by unfold zm_iok; decide +kernel
set_option maxRecDepth 1000000 in
theorem zi_174 : ∀ e ∈ zc_174, zm_iok 174 e.1 e.2 := by unfold zm_iok; decide +kernel
set_option maxRecDepth 1000000 in
theorem zi_175 : ∀ e ∈ zc_175, zm_iok 175 e.1 e.2 := by unfold zm_iok; decide +kernel
