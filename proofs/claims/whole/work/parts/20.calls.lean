/-! ===== calls, ends, and a whole run ===== -/
def zm_mwl : Nat → List zm_MW → Prop
  | _, [] => True
  | i, q :: r => zm_mwk i q ∧ zm_mwl (i + 1) r
theorem zm_mwl_at : ∀ (L : List zm_MW) (i j : Nat) (q : zm_MW), zm_mwl i L → L[j]? = some q → zm_mwk (i + j) q
  | [], _, _, _, _, h => by simp at h
  | a :: r, i, 0, l, h, hl => by
    simp only [List.getElem?_cons_zero, Option.some.injEq] at hl
    subst hl
    exact h.1
  | a :: r, i, j + 1, l, h, hl => by
    rw [List.getElem?_cons_succ] at hl
    have := zm_mwl_at r (i + 1) j l h.2 hl
    rw [show i + (j + 1) = i + 1 + j by omega]
    exact this
def zy_260 : List zm_MW := zw_260 :: zw_261 :: zw_262 :: zw_263 :: zw_264 :: zw_265 :: zw_266 :: zw_267 :: []
theorem zx_260 : zm_mwl 260 zy_260 := ⟨zw_260_ok, zw_261_ok, zw_262_ok, zw_263_ok, zw_264_ok, zw_265_ok, zw_266_ok, zw_267_ok, trivial⟩
def zy_240 : List zm_MW := zw_240 :: zw_241 :: zw_242 :: zw_243 :: zw_244 :: zw_245 :: zw_246 :: zw_247 :: zw_248 :: zw_249 :: zw_250 :: zw_251 :: zw_252 :: zw_253 :: zw_254 :: zw_255 :: zw_256 :: zw_257 :: zw_258 :: zw_259 :: zy_260
theorem zx_240 : zm_mwl 240 zy_240 := ⟨zw_240_ok, zw_241_ok, zw_242_ok, zw_243_ok, zw_244_ok, zw_245_ok, zw_246_ok, zw_247_ok, zw_248_ok, zw_249_ok, zw_250_ok, zw_251_ok, zw_252_ok, zw_253_ok, zw_254_ok, zw_255_ok, zw_256_ok, zw_257_ok, zw_258_ok, zw_259_ok, zx_260⟩
def zy_220 : List zm_MW := zw_220 :: zw_221 :: zw_222 :: zw_223 :: zw_224 :: zw_225 :: zw_226 :: zw_227 :: zw_228 :: zw_229 :: zw_230 :: zw_231 :: zw_232 :: zw_233 :: zw_234 :: zw_235 :: zw_236 :: zw_237 :: zw_238 :: zw_239 :: zy_240
theorem zx_220 : zm_mwl 220 zy_220 := ⟨zw_220_ok, zw_221_ok, zw_222_ok, zw_223_ok, zw_224_ok, zw_225_ok, zw_226_ok, zw_227_ok, zw_228_ok, zw_229_ok, zw_230_ok, zw_231_ok, zw_232_ok, zw_233_ok, zw_234_ok, zw_235_ok, zw_236_ok, zw_237_ok, zw_238_ok, zw_239_ok, zx_240⟩
def zy_200 : List zm_MW := zw_200 :: zw_201 :: zw_202 :: zw_203 :: zw_204 :: zw_205 :: zw_206 :: zw_207 :: zw_208 :: zw_209 :: zw_210 :: zw_211 :: zw_212 :: zw_213 :: zw_214 :: zw_215 :: zw_216 :: zw_217 :: zw_218 :: zw_219 :: zy_220
theorem zx_200 : zm_mwl 200 zy_200 := ⟨zw_200_ok, zw_201_ok, zw_202_ok, zw_203_ok, zw_204_ok, zw_205_ok, zw_206_ok, zw_207_ok, zw_208_ok, zw_209_ok, zw_210_ok, zw_211_ok, zw_212_ok, zw_213_ok, zw_214_ok, zw_215_ok, zw_216_ok, zw_217_ok, zw_218_ok, zw_219_ok, zx_220⟩
def zy_180 : List zm_MW := zw_180 :: zw_181 :: zw_182 :: zw_183 :: zw_184 :: zw_185 :: zw_186 :: zw_187 :: zw_188 :: zw_189 :: zw_190 :: zw_191 :: zw_192 :: zw_193 :: zw_194 :: zw_195 :: zw_196 :: zw_197 :: zw_198 :: zw_199 :: zy_200
theorem zx_180 : zm_mwl 180 zy_180 := ⟨zw_180_ok, zw_181_ok, zw_182_ok, zw_183_ok, zw_184_ok, zw_185_ok, zw_186_ok, zw_187_ok, zw_188_ok, zw_189_ok, zw_190_ok, zw_191_ok, zw_192_ok, zw_193_ok, zw_194_ok, zw_195_ok, zw_196_ok, zw_197_ok, zw_198_ok, zw_199_ok, zx_200⟩
def zy_160 : List zm_MW := zw_160 :: zw_161 :: zw_162 :: zw_163 :: zw_164 :: zw_165 :: zw_166 :: zw_167 :: zw_168 :: zw_169 :: zw_170 :: zw_171 :: zw_172 :: zw_173 :: zw_174 :: zw_175 :: zw_176 :: zw_177 :: zw_178 :: zw_179 :: zy_180
theorem zx_160 : zm_mwl 160 zy_160 := ⟨zw_160_ok, zw_161_ok, zw_162_ok, zw_163_ok, zw_164_ok, zw_165_ok, zw_166_ok, zw_167_ok, zw_168_ok, zw_169_ok, zw_170_ok, zw_171_ok, zw_172_ok, zw_173_ok, zw_174_ok, zw_175_ok, zw_176_ok, zw_177_ok, zw_178_ok, zw_179_ok, zx_180⟩
def zy_140 : List zm_MW := zw_140 :: zw_141 :: zw_142 :: zw_143 :: zw_144 :: zw_145 :: zw_146 :: zw_147 :: zw_148 :: zw_149 :: zw_150 :: zw_151 :: zw_152 :: zw_153 :: zw_154 :: zw_155 :: zw_156 :: zw_157 :: zw_158 :: zw_159 :: zy_160
theorem zx_140 : zm_mwl 140 zy_140 := ⟨zw_140_ok, zw_141_ok, zw_142_ok, zw_143_ok, zw_144_ok, zw_145_ok, zw_146_ok, zw_147_ok, zw_148_ok, zw_149_ok, zw_150_ok, zw_151_ok, zw_152_ok, zw_153_ok, zw_154_ok, zw_155_ok, zw_156_ok, zw_157_ok, zw_158_ok, zw_159_ok, zx_160⟩
def zy_120 : List zm_MW := zw_120 :: zw_121 :: zw_122 :: zw_123 :: zw_124 :: zw_125 :: zw_126 :: zw_127 :: zw_128 :: zw_129 :: zw_130 :: zw_131 :: zw_132 :: zw_133 :: zw_134 :: zw_135 :: zw_136 :: zw_137 :: zw_138 :: zw_139 :: zy_140
theorem zx_120 : zm_mwl 120 zy_120 := ⟨zw_120_ok, zw_121_ok, zw_122_ok, zw_123_ok, zw_124_ok, zw_125_ok, zw_126_ok, zw_127_ok, zw_128_ok, zw_129_ok, zw_130_ok, zw_131_ok, zw_132_ok, zw_133_ok, zw_134_ok, zw_135_ok, zw_136_ok, zw_137_ok, zw_138_ok, zw_139_ok, zx_140⟩
def zy_100 : List zm_MW := zw_100 :: zw_101 :: zw_102 :: zw_103 :: zw_104 :: zw_105 :: zw_106 :: zw_107 :: zw_108 :: zw_109 :: zw_110 :: zw_111 :: zw_112 :: zw_113 :: zw_114 :: zw_115 :: zw_116 :: zw_117 :: zw_118 :: zw_119 :: zy_120
theorem zx_100 : zm_mwl 100 zy_100 := ⟨zw_100_ok, zw_101_ok, zw_102_ok, zw_103_ok, zw_104_ok, zw_105_ok, zw_106_ok, zw_107_ok, zw_108_ok, zw_109_ok, zw_110_ok, zw_111_ok, zw_112_ok, zw_113_ok, zw_114_ok, zw_115_ok, zw_116_ok, zw_117_ok, zw_118_ok, zw_119_ok, zx_120⟩
def zy_80 : List zm_MW := zw_80 :: zw_81 :: zw_82 :: zw_83 :: zw_84 :: zw_85 :: zw_86 :: zw_87 :: zw_88 :: zw_89 :: zw_90 :: zw_91 :: zw_92 :: zw_93 :: zw_94 :: zw_95 :: zw_96 :: zw_97 :: zw_98 :: zw_99 :: zy_100
theorem zx_80 : zm_mwl 80 zy_80 := ⟨zw_80_ok, zw_81_ok, zw_82_ok, zw_83_ok, zw_84_ok, zw_85_ok, zw_86_ok, zw_87_ok, zw_88_ok, zw_89_ok, zw_90_ok, zw_91_ok, zw_92_ok, zw_93_ok, zw_94_ok, zw_95_ok, zw_96_ok, zw_97_ok, zw_98_ok, zw_99_ok, zx_100⟩
def zy_60 : List zm_MW := zw_60 :: zw_61 :: zw_62 :: zw_63 :: zw_64 :: zw_65 :: zw_66 :: zw_67 :: zw_68 :: zw_69 :: zw_70 :: zw_71 :: zw_72 :: zw_73 :: zw_74 :: zw_75 :: zw_76 :: zw_77 :: zw_78 :: zw_79 :: zy_80
theorem zx_60 : zm_mwl 60 zy_60 := ⟨zw_60_ok, zw_61_ok, zw_62_ok, zw_63_ok, zw_64_ok, zw_65_ok, zw_66_ok, zw_67_ok, zw_68_ok, zw_69_ok, zw_70_ok, zw_71_ok, zw_72_ok, zw_73_ok, zw_74_ok, zw_75_ok, zw_76_ok, zw_77_ok, zw_78_ok, zw_79_ok, zx_80⟩
def zy_40 : List zm_MW := zw_40 :: zw_41 :: zw_42 :: zw_43 :: zw_44 :: zw_45 :: zw_46 :: zw_47 :: zw_48 :: zw_49 :: zw_50 :: zw_51 :: zw_52 :: zw_53 :: zw_54 :: zw_55 :: zw_56 :: zw_57 :: zw_58 :: zw_59 :: zy_60
theorem zx_40 : zm_mwl 40 zy_40 := ⟨zw_40_ok, zw_41_ok, zw_42_ok, zw_43_ok, zw_44_ok, zw_45_ok, zw_46_ok, zw_47_ok, zw_48_ok, zw_49_ok, zw_50_ok, zw_51_ok, zw_52_ok, zw_53_ok, zw_54_ok, zw_55_ok, zw_56_ok, zw_57_ok, zw_58_ok, zw_59_ok, zx_60⟩
def zy_20 : List zm_MW := zw_20 :: zw_21 :: zw_22 :: zw_23 :: zw_24 :: zw_25 :: zw_26 :: zw_27 :: zw_28 :: zw_29 :: zw_30 :: zw_31 :: zw_32 :: zw_33 :: zw_34 :: zw_35 :: zw_36 :: zw_37 :: zw_38 :: zw_39 :: zy_40
theorem zx_20 : zm_mwl 20 zy_20 := ⟨zw_20_ok, zw_21_ok, zw_22_ok, zw_23_ok, zw_24_ok, zw_25_ok, zw_26_ok, zw_27_ok, zw_28_ok, zw_29_ok, zw_30_ok, zw_31_ok, zw_32_ok, zw_33_ok, zw_34_ok, zw_35_ok, zw_36_ok, zw_37_ok, zw_38_ok, zw_39_ok, zx_40⟩
def zy_0 : List zm_MW := zw_0 :: zw_1 :: zw_2 :: zw_3 :: zw_4 :: zw_5 :: zw_6 :: zw_7 :: zw_8 :: zw_9 :: zw_10 :: zw_11 :: zw_12 :: zw_13 :: zw_14 :: zw_15 :: zw_16 :: zw_17 :: zw_18 :: zw_19 :: zy_20
theorem zx_0 : zm_mwl 0 zy_0 := ⟨zw_0_ok, zw_1_ok, zw_2_ok, zw_3_ok, zw_4_ok, zw_5_ok, zw_6_ok, zw_7_ok, zw_8_ok, zw_9_ok, zw_10_ok, zw_11_ok, zw_12_ok, zw_13_ok, zw_14_ok, zw_15_ok, zw_16_ok, zw_17_ok, zw_18_ok, zw_19_ok, zx_20⟩
theorem zm_mws_y : zm_mws = zy_0 := by rfl
theorem zm_mws_len : zm_mws.length = 268 := by decide +kernel
theorem zm_mwok {a : Nat} (ha : a < 268) : zm_mwk a (zm_mw a) := by
  have hl : zm_mws[a]? = some (zm_mw a) := by
    unfold zm_mw
    rw [List.getD_eq_getElem?_getD, List.getElem?_eq_getElem (by rw [zm_mws_len]; exact ha)]
    rfl
  have := zm_mwl_at zy_0 0 a _ zx_0 (by rw [← zm_mws_y]; exact hl)
  rwa [Nat.zero_add] at this
theorem zm_oc12 : ∀ a, a < 268 → (zm_mw a).2.2.2.2.1 = 0 → zm_oc a < 12 := by decide +kernel
def zm_W (a : Nat) : List Cond := Cond.code (zm_y a) (zm_b a) (zm_ml a) (zm_rt a) :: zm_GW
theorem zm_good {w : Cond} (h : w ∈ zm_GW) : w ∈ zm_GW ∧ ((w.onTables && w.keeps) = true ∨ ∃ ty, w = .arrayClass ty) := ⟨h, good_of_word (List.mem_filter.mp h).2⟩
theorem zm_W_good {a : Nat} (ha : a < 268) : GoodIn zm_GW (zm_W a) := by
  intro w hw
  rcases List.mem_cons.mp hw with h | h
  · subst h
    exact zm_good (zm_GW_in (zm_tb_at (zm_mwok ha).1) rfl)
  · exact zm_good h
theorem zm_isN_on {w : Cond} (h : zm_isN w = true) : w.onTables = true := by cases w <;> first | rfl | cases h
section ZCX
variable {x : zm_X} {D : va_G} {dA : Nat → ClassId} {adV : Nat → Nat} {N0 : Nat} {ad ad' : Nat → Nat} {H H1 : Heap}
theorem zm_Cx.same {u U : State} (hv : U.vm = u.vm) (h : zm_Cx x D dA adV N0 ad u H) : zm_Cx x D dA adV N0 ad U H := by
  have ha : u.vm.Alike U.vm := by rw [hv]; exact Vm.Alike.refl u.vm
  obtain ⟨h1, h2, h3, h4, h5, h6, h7, h8, h9⟩ := h
  exact ⟨va_K.moved ha h1, fun w hw hn => va_Nw.same (zm_isN_on hn) hv.symm (h2 w hw hn), va_Z.moved ha h3, va_T.moved ha h4, va_T.moved ha h5, fun o q hq hk => vk_R.same hv (h6 o q hq hk), vk_S.moved ha h7, va_Z.moved ha h8, zm_AO.moved ha h9.1, va_Zq.moved ha h9.2⟩
theorem zm_Cx.warm {s U : State} (hW : s.WarmedH U.vm) (h : zm_Cx x D dA adV N0 ad s H) : zm_Cx x D dA adV N0 ad U H := by
  have ha : s.vm.Alike U.vm := hW.alike
  obtain ⟨h1, h2, h3, h4, h5, h6, h7, h8, h9⟩ := h
  refine ⟨va_K.moved ha h1, fun w hw hn => ?_, va_Z.moved ha h3, va_T.moved ha h4, va_T.moved ha h5, fun o q hq hk => vk_R.warm hW (h6 o q hq hk), vk_S.moved ha h7, va_Z.moved ha h8, zm_AO.moved ha h9.1, va_Zq.moved ha h9.2⟩
  have h0 := h2 w hw hn
  cases w with
  | fieldLinkNest a i b n d h => exact va_Nw.warmF hW h0
  | methodLinkNest a i y h => exact va_Nw.warmM hW h0
  | _ => cases hn
theorem zm_Cx.kept {U : State} (h : zm_Cx x D dA adV N0 ad U H) (hz : H.size ≤ H1.size) (hq : ∀ a : Nat, a < H.size → ¬ zm_A N0 a → H1[a]? = H[a]?) : zm_Cx x D dA adV N0 ad U H1 := by
  obtain ⟨h1, h2, h3, h4, h5, h6, h7, h8, h9⟩ := h
  exact ⟨h1, h2, h3.kept hq, h4.kept hq, h5.kept hq, h6, h7.kept hq, h8.kept hq, h9.1, va_Zq.kept h9.2 hq⟩
theorem zm_Cx.ae {n : Nat} {U : State} (ha : zm_ae n ad ad') (h : zm_Cx x D dA adV N0 ad U H) : zm_Cx x D dA adV N0 ad' U H := by
  obtain ⟨h1, h2, h3, h4, h5, h6, h7, h8, h9⟩ := h
  have e0 : ad' 1000000 = ad 1000000 := ha _ (Or.inr (by omega))
  have e1 : ad' 1000001 = ad 1000001 := ha _ (Or.inr (by omega))
  refine ⟨h1, h2, by rw [e0]; exact h3, by rw [e0]; exact h4, by rw [e1]; exact h5, fun o q hq hk => ?_, ?_, h8, h9⟩
  · rw [ha _ (Or.inr (by omega))]
    exact h6 o q hq hk
  · have e2 : (fun i => ad' (2000000 + i)) = (fun i => ad (2000000 + i)) := by
      funext i
      exact ha _ (Or.inr (by omega))
    rw [e2]
    exact h7
end ZCX
def zm_Pc (x : zm_X) (D : va_G) (dA : Nat → ClassId) (adV : Nat → Nat) (N0 : Nat) (ad : Nat → Nat) (as : List Value) (h : zm_H) : Array Value → State → Prop := fun v U => v = (as.map (zm_c ad)).toArray ∧ N0 ≤ U.heap.size ∧ (va_P D vwCl (zm_ws ad dA h) U.heap ∧ va_D (zm_A N0) (zm_ws ad dA h)) ∧ zm_Cx x D dA adV N0 ad U U.heap
def zm_Qc (D : va_G) (dA : Nat → ClassId) (N0 : Nat) (ad : Nat → Nat) (h : zm_H) (r : Option Value) (h' : zm_H) : Array Value → State → Outcome → State → Prop := fun _ st oc t => (∃ ad' : Nat → Nat, zm_ae h.1.length ad ad' ∧ oc = .returned (r.map (zm_c ad')) ∧ va_P D vwCl (zm_ws ad' dA h') t.heap ∧ va_D (zm_A N0) (zm_ws ad' dA h')) ∧ va_F (zm_A N0) st t
theorem zm_Pc_blind (x : zm_X) (D : va_G) (dA : Nat → ClassId) (adV : Nat → Nat) (N0 : Nat) (ad : Nat → Nat) (as : List Value) (h : zm_H) : FrameBlind (zm_Pc x D dA adV N0 ad as h) := fun a U g mk q => ⟨q.1, q.2.1, q.2.2.1, zm_Cx.same (u := U) (U := U.calling g mk a) rfl q.2.2.2⟩
/-- the room of a run that goes d calls deep -/
def zm_rm' (d mc ms : Nat) : Room := { frames := d + 6, cells := mc, slots := ms, locals := 40 * d + 300 }
section ZCO
variable {p : Program} {l : Launch} {e : Env} {R : Room} {s : State} {m : MethodId} {args : Array Value} {below : List Frame} {meth : Method} {c : Code} {H : Heap} {locs : List Loc} {cells slots : Nat} {Q : State → Prop}
theorem zm_cont {D : va_G} {dA : Nat → ClassId} {N0 : Nat} {ad : Nat → Nat} {h h1 : zm_H} {v : Option Value} {mc ms pc : Nat} {ls : Array Slot} {st0 rest : List Value} {a : Array Value} (hr : va_Run p l e R s m args below meth c H locs cells slots mc ms (F0 m pc ls st0) rest (zm_Qc D dA N0 ad h v h1 a) (zm_A N0)) (hS : va_S (zm_A N0) s.heap H locs)
    (kk : ∀ (ad' : Nat → Nat) (H1 : Heap) (locs1 : List Loc), zm_ae h.1.length ad ad' → va_P D vwCl (zm_ws ad' dA h1) H1 → va_D (zm_A N0) (zm_ws ad' dA h1) → va_S (zm_A N0) s.heap H1 locs1 → W p l e R s m args below meth c H1 locs1 (cells + mc) (slots + ms) Q (F0 m (pc + 3) ls ((v.map (zm_c ad')).toList ++ rest))) : W p l e R s m args below meth c H locs cells slots Q (F0 m pc ls st0) := by
  intro T hT X
  obtain ⟨v', st₀, t, T', L, h0, X', hL, e1, e2, ⟨⟨ad', ha, hv, hP, hD⟩, hz, hk⟩, st⟩ := hr T hT X
  cases hv
  rw [h0] at hz hk
  obtain ⟨t2, a1, b1⟩ := kk ad' T'.heap (locs ++ L) ha (by rw [e1]; exact hP) hD
    ⟨Nat.le_trans hS.1 (by rw [e1]; exact hz), fun q h1 h2 => by rw [e1, hk q (Nat.lt_of_lt_of_le h1 hS.1) h2]; exact hS.2.1 q h1 h2, fun q hq => by
      rcases List.mem_append.mp hq with h | h
      · exact hS.2.2 q h
      · exact hL q h⟩ T' rfl X'
  exact ⟨t2, st t2 a1, b1⟩
end ZCO
