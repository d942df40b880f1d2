/-! each entry is as its instruction says -/
theorem ze_0 : (zc_0.all (zeok 13 false)) = true := by decide +kernel
theorem ze_1 : (zc_1.all (zeok 14 false)) = true := by decide +kernel
theorem ze_2 : (zc_2.all (zeok 14 false)) = true := by decide +kernel
theorem ze_3 : (zc_3.all (zeok 14 false)) = true := by decide +kernel
theorem ze_4 : (zc_4.all (zeok 14 false)) = true := by decide +kernel
theorem ze_5 : (zc_5.all (zeok 15 false)) = true := by decide +kernel
theorem ze_6 : (zc_6.all (zeok 0 true)) = true := by decide +kernel
theorem ze_7 : (zc_7.all (zeok 0 false)) = true := by decide +kernel
theorem ze_8 : (zc_8.all (zeok 0 false)) = true := by decide +kernel
theorem ze_9 : (zc_9.all (zeok 0 false)) = true := by decide +kernel
theorem ze_10 : (zc_10.all (zeok 0 false)) = true := by decide +kernel
theorem ze_11 : (zc_11.all (zeok 1 true)) = true := by decide +kernel
theorem ze_12 : (zc_12.all (zeok 1 false)) = true := by decide +kernel
theorem ze_13 : (zc_13.all (zeok 1 false)) = true := by decide +kernel
theorem ze_14 : (zc_14.all (zeok 1 false)) = true := by decide +kernel
theorem ze_15 : (zc_15.all (zeok 1 false)) = true := by decide +kernel
theorem ze_16 : (zc_16.all (zeok 1 false)) = true := by decide +kernel
theorem ze_17 : (zc_17.all (zeok 1 false)) = true := by decide +kernel
theorem ze_18 : (zc_18.all (zeok 1 false)) = true := by decide +kernel
theorem ze_19 : (zc_19.all (zeok 2 true)) = true := by decide +kernel
theorem ze_20 : (zc_20.all (zeok 2 false)) = true := by decide +kernel
theorem ze_21 : (zc_21.all (zeok 2 false)) = true := by decide +kernel
theorem ze_22 : (zc_22.all (zeok 3 true)) = true := by decide +kernel
theorem ze_23 : (zc_23.all (zeok 3 false)) = true := by decide +kernel
theorem ze_24 : (zc_24.all (zeok 3 false)) = true := by decide +kernel
theorem ze_25 : (zc_25.all (zeok 4 true)) = true := by decide +kernel
theorem ze_26 : (zc_26.all (zeok 4 false)) = true := by decide +kernel
theorem ze_27 : (zc_27.all (zeok 4 false)) = true := by decide +kernel
theorem ze_28 : (zc_28.all (zeok 4 false)) = true := by decide +kernel
theorem ze_29 : (zc_29.all (zeok 4 false)) = true := by decide +kernel
theorem ze_30 : (zc_30.all (zeok 4 false)) = true := by decide +kernel
theorem ze_31 : (zc_31.all (zeok 4 false)) = true := by decide +kernel
theorem ze_32 : (zc_32.all (zeok 4 false)) = true := by decide +kernel
theorem ze_33 : (zc_33.all (zeok 4 false)) = true := by decide +kernel
theorem ze_34 : (zc_34.all (zeok 5 true)) = true := by decide +kernel
theorem ze_35 : (zc_35.all (zeok 5 false)) = true := by decide +kernel
theorem ze_36 : (zc_36.all (zeok 5 false)) = true := by decide +kernel
theorem ze_37 : (zc_37.all (zeok 5 false)) = true := by decide +kernel
theorem ze_38 : (zc_38.all (zeok 6 true)) = true := by decide +kernel
theorem ze_39 : (zc_39.all (zeok 6 false)) = true := by decide +kernel
theorem ze_40 : (zc_40.all (zeok 6 false)) = true := by decide +kernel
theorem ze_41 : (zc_41.all (zeok 6 false)) = true := by decide +kernel
theorem ze_42 : (zc_42.all (zeok 6 false)) = true := by decide +kernel
theorem ze_43 : (zc_43.all (zeok 6 false)) = true := by decide +kernel
theorem ze_44 : (zc_44.all (zeok 6 false)) = true := by decide +kernel
theorem ze_45 : (zc_45.all (zeok 7 true)) = true := by decide +kernel
theorem ze_46 : (zc_46.all (zeok 7 false)) = true := by decide +kernel
theorem ze_47 : (zc_47.all (zeok 7 false)) = true := by decide +kernel
theorem ze_48 : (zc_48.all (zeok 7 false)) = true := by decide +kernel
theorem ze_49 : (zc_49.all (zeok 7 false)) = true := by decide +kernel
theorem ze_50 : (zc_50.all (zeok 7 false)) = true := by decide +kernel
theorem ze_51 : (zc_51.all (zeok 7 false)) = true := by decide +kernel
theorem ze_52 : (zc_52.all (zeok 7 false)) = true := by decide +kernel
theorem ze_53 : (zc_53.all (zeok 7 false)) = true := by decide +kernel
theorem ze_54 : (zc_54.all (zeok 7 false)) = true := by decide +kernel
theorem ze_55 : (zc_55.all (zeok 8 true)) = true := by decide +kernel
theorem ze_56 : (zc_56.all (zeok 8 false)) = true := by decide +kernel
theorem ze_57 : (zc_57.all (zeok 8 false)) = true := by decide +kernel
theorem ze_58 : (zc_58.all (zeok 9 true)) = true := by decide +kernel
theorem ze_59 : (zc_59.all (zeok 9 false)) = true := by decide +kernel
theorem ze_60 : (zc_60.all (zeok 9 false)) = true := by decide +kernel
theorem ze_61 : (zc_61.all (zeok 9 false)) = true := by decide +kernel
theorem ze_62 : (zc_62.all (zeok 9 false)) = true := by decide +kernel
theorem ze_63 : (zc_63.all (zeok 9 false)) = true := by decide +kernel
theorem ze_64 : (zc_64.all (zeok 9 false)) = true := by decide +kernel
theorem ze_65 : (zc_65.all (zeok 9 false)) = true := by decide +kernel
theorem ze_66 : (zc_66.all (zeok 9 false)) = true := by decide +kernel
theorem ze_67 : (zc_67.all (zeok 9 false)) = true := by decide +kernel
theorem ze_68 : (zc_68.all (zeok 9 false)) = true := by decide +kernel
theorem ze_69 : (zc_69.all (zeok 9 false)) = true := by decide +kernel
theorem ze_70 : (zc_70.all (zeok 10 true)) = true := by decide +kernel
theorem ze_71 : (zc_71.all (zeok 10 false)) = true := by decide +kernel
theorem ze_72 : (zc_72.all (zeok 10 false)) = true := by decide +kernel
theorem ze_73 : (zc_73.all (zeok 10 false)) = true := by decide +kernel
theorem ze_74 : (zc_74.all (zeok 10 false)) = true := by decide +kernel
theorem ze_75 : (zc_75.all (zeok 10 false)) = true := by decide +kernel
theorem ze_76 : (zc_76.all (zeok 10 false)) = true := by decide +kernel
theorem ze_77 : (zc_77.all (zeok 10 false)) = true := by decide +kernel
theorem ze_78 : (zc_78.all (zeok 10 false)) = true := by decide +kernel
theorem ze_79 : (zc_79.all (zeok 10 false)) = true := by decide +kernel
theorem ze_80 : (zc_80.all (zeok 10 false)) = true := by decide +kernel
theorem ze_81 : (zc_81.all (zeok 11 true)) = true := by decide +kernel
theorem ze_82 : (zc_82.all (zeok 11 false)) = true := by decide +kernel
theorem ze_83 : (zc_83.all (zeok 11 false)) = true := by decide +kernel
theorem ze_84 : (zc_84.all (zeok 11 false)) = true := by decide +kernel
theorem ze_85 : (zc_85.all (zeok 11 false)) = true := by decide +kernel
theorem ze_86 : (zc_86.all (zeok 11 false)) = true := by decide +kernel
theorem ze_87 : (zc_87.all (zeok 11 false)) = true := by decide +kernel
theorem ze_88 : (zc_88.all (zeok 11 false)) = true := by decide +kernel
theorem ze_89 : (zc_89.all (zeok 11 false)) = true := by decide +kernel
theorem ze_90 : (zc_90.all (zeok 11 false)) = true := by decide +kernel
theorem ze_91 : (zc_91.all (zeok 11 false)) = true := by decide +kernel
theorem ze_92 : (zc_92.all (zeok 11 false)) = true := by decide +kernel
theorem ze_93 : (zc_93.all (zeok 11 false)) = true := by decide +kernel
theorem ze_94 : (zc_94.all (zeok 11 false)) = true := by decide +kernel
theorem ze_95 : (zc_95.all (zeok 11 false)) = true := by decide +kernel
theorem ze_96 : (zc_96.all (zeok 11 false)) = true := by decide +kernel
theorem ze_97 : (zc_97.all (zeok 11 false)) = true := by decide +kernel
theorem ze_98 : (zc_98.all (zeok 11 false)) = true := by decide +kernel
theorem ze_99 : (zc_99.all (zeok 11 false)) = true := by decide +kernel
theorem ze_100 : (zc_100.all (zeok 11 false)) = true := by decide +kernel
theorem ze_101 : (zc_101.all (zeok 11 false)) = true := by decide +kernel
theorem ze_102 : (zc_102.all (zeok 11 false)) = true := by decide +kernel
theorem ze_103 : (zc_103.all (zeok 11 false)) = true := by decide +kernel
theorem ze_104 : (zc_104.all (zeok 11 false)) = true := by decide +kernel
theorem ze_105 : (zc_105.all (zeok 11 false)) = true := by decide +kernel
theorem ze_106 : (zc_106.all (zeok 11 false)) = true := by decide +kernel
theorem ze_107 : (zc_107.all (zeok 11 false)) = true := by decide +kernel
theorem ze_108 : (zc_108.all (zeok 11 false)) = true := by decide +kernel
theorem ze_109 : (zc_109.all (zeok 11 false)) = true := by decide +kernel
theorem ze_110 : (zc_110.all (zeok 11 false)) = true := by decide +kernel
theorem ze_111 : (zc_111.all (zeok 11 false)) = true := by decide +kernel
theorem ze_112 : (zc_112.all (zeok 11 false)) = true := by decide +kernel
theorem ze_113 : (zc_113.all (zeok 11 false)) = true := by decide +kernel
theorem ze_114 : (zc_114.all (zeok 11 false)) = true := by decide +kernel
theorem ze_115 : (zc_115.all (zeok 11 false)) = true := by decide +kernel
theorem ze_116 : (zc_116.all (zeok 11 false)) = true := by decide +kernel
theorem ze_117 : (zc_117.all (zeok 11 false)) = true := by decide +kernel
theorem ze_118 : (zc_118.all (zeok 11 false)) = true := by decide +kernel
theorem ze_119 : (zc_119.all (zeok 11 false)) = true := by decide +kernel
theorem ze_120 : (zc_120.all (zeok 11 false)) = true := by decide +kernel
theorem ze_121 : (zc_121.all (zeok 11 false)) = true := by decide +kernel
theorem ze_122 : (zc_122.all (zeok 11 false)) = true := by decide +kernel
theorem ze_123 : (zc_123.all (zeok 11 false)) = true := by decide +kernel
theorem ze_124 : (zc_124.all (zeok 11 false)) = true := by decide +kernel
theorem ze_125 : (zc_125.all (zeok 11 false)) = true := by decide +kernel
theorem ze_126 : (zc_126.all (zeok 11 false)) = true := by decide +kernel
theorem ze_127 : (zc_127.all (zeok 11 false)) = true := by decide +kernel
theorem ze_128 : (zc_128.all (zeok 11 false)) = true := by decide +kernel
theorem ze_129 : (zc_129.all (zeok 11 false)) = true := by decide +kernel
theorem ze_130 : (zc_130.all (zeok 11 false)) = true := by decide +kernel
theorem ze_131 : (zc_131.all (zeok 11 false)) = true := by decide +kernel
theorem ze_132 : (zc_132.all (zeok 11 false)) = true := by decide +kernel
theorem ze_133 : (zc_133.all (zeok 11 false)) = true := by decide +kernel
theorem ze_134 : (zc_134.all (zeok 11 false)) = true := by decide +kernel
theorem ze_135 : (zc_135.all (zeok 11 false)) = true := by decide +kernel
theorem ze_136 : (zc_136.all (zeok 11 false)) = true := by decide +kernel
theorem ze_137 : (zc_137.all (zeok 11 false)) = true := by decide +kernel
theorem ze_138 : (zc_138.all (zeok 11 false)) = true := by decide +kernel
theorem ze_139 : (zc_139.all (zeok 11 false)) = true := by decide +kernel
theorem ze_140 : (zc_140.all (zeok 11 false)) = true := by decide +kernel
theorem ze_141 : (zc_141.all (zeok 11 false)) = true := by decide +kernel
theorem ze_142 : (zc_142.all (zeok 11 false)) = true := by decide +kernel
theorem ze_143 : (zc_143.all (zeok 11 false)) = true := by decide +kernel
theorem ze_144 : (zc_144.all (zeok 11 false)) = true := by decide +kernel
theorem ze_145 : (zc_145.all (zeok 11 false)) = true := by decide +kernel
theorem ze_146 : (zc_146.all (zeok 11 false)) = true := by decide +kernel
theorem ze_147 : (zc_147.all (zeok 11 false)) = true := by decide +kernel
theorem ze_148 : (zc_148.all (zeok 11 false)) = true := by decide +kernel
theorem ze_149 : (zc_149.all (zeok 11 false)) = true := by decide +kernel
theorem ze_150 : (zc_150.all (zeok 11 false)) = true := by decide +kernel
theorem ze_151 : (zc_151.all (zeok 11 false)) = true := by decide +kernel
theorem ze_152 : (zc_152.all (zeok 11 false)) = true := by decide +kernel
theorem ze_153 : (zc_153.all (zeok 11 false)) = true := by decide +kernel
theorem ze_154 : (zc_154.all (zeok 11 false)) = true := by decide +kernel
theorem ze_155 : (zc_155.all (zeok 11 false)) = true := by decide +kernel
theorem ze_156 : (zc_156.all (zeok 11 false)) = true := by decide +kernel
theorem ze_157 : (zc_157.all (zeok 11 false)) = true := by decide +kernel
theorem ze_158 : (zc_158.all (zeok 11 false)) = true := by decide +kernel
theorem ze_159 : (zc_159.all (zeok 11 false)) = true := by decide +kernel
theorem ze_160 : (zc_160.all (zeok 11 false)) = true := by decide +kernel
theorem ze_161 : (zc_161.all (zeok 11 false)) = true := by decide +kernel
theorem ze_162 : (zc_162.all (zeok 11 false)) = true := by decide +kernel
theorem ze_163 : (zc_163.all (zeok 11 false)) = true := by decide +kernel
theorem ze_164 : (zc_164.all (zeok 11 false)) = true := by decide +kernel
theorem ze_165 : (zc_165.all (zeok 11 false)) = true := by decide +kernel
theorem ze_166 : (zc_166.all (zeok 11 false)) = true := by decide +kernel
theorem ze_167 : (zc_167.all (zeok 11 false)) = true := by decide +kernel
theorem ze_168 : (zc_168.all (zeok 11 false)) = true := by decide +kernel
theorem ze_169 : (zc_169.all (zeok 12 true)) = true := by decide +kernel
theorem ze_170 : (zc_170.all (zeok 12 false)) = true := by decide +kernel
theorem ze_171 : (zc_171.all (zeok 12 false)) = true := by decide +kernel
theorem ze_172 : (zc_172.all (zeok 12 false)) = true := by decide +kernel
theorem ze_173 : (zc_173.all (zeok 12 false)) = true := by decide +kernel
theorem ze_174 : (zc_174.all (zeok 12 false)) = true := by decide +kernel
theorem ze_175 : (zc_175.all (zeok 12 false)) = true := by decide +kernel
theorem ze_176 : (zc_176.all (zeok 12 false)) = true := by decide +kernel
theorem ze_177 : (zc_177.all (zeok 12 false)) = true := by decide +kernel
theorem ze_178 : (zc_178.all (zeok 12 false)) = true := by decide +kernel
theorem ze_179 : (zc_179.all (zeok 12 false)) = true := by decide +kernel
theorem ze_180 : (zc_180.all (zeok 12 false)) = true := by decide +kernel
theorem ze_181 : (zc_181.all (zeok 12 false)) = true := by decide +kernel
theorem ze_182 : (zc_182.all (zeok 12 false)) = true := by decide +kernel
theorem ze_183 : (zc_183.all (zeok 12 false)) = true := by decide +kernel
theorem ze_184 : (zc_184.all (zeok 12 false)) = true := by decide +kernel
theorem ze_185 : (zc_185.all (zeok 12 false)) = true := by decide +kernel
theorem ze_186 : (zc_186.all (zeok 12 false)) = true := by decide +kernel
theorem ze_187 : (zc_187.all (zeok 12 false)) = true := by decide +kernel
theorem ze_188 : (zc_188.all (zeok 12 false)) = true := by decide +kernel
theorem ze_189 : (zc_189.all (zeok 12 false)) = true := by decide +kernel
theorem ze_190 : (zc_190.all (zeok 12 false)) = true := by decide +kernel
theorem ze_191 : (zc_191.all (zeok 12 false)) = true := by decide +kernel
theorem ze_192 : (zc_192.all (zeok 12 false)) = true := by decide +kernel
theorem ze_193 : (zc_193.all (zeok 12 false)) = true := by decide +kernel
theorem ze_194 : (zc_194.all (zeok 12 false)) = true := by decide +kernel
theorem ze_195 : (zc_195.all (zeok 12 false)) = true := by decide +kernel
theorem ze_196 : (zc_196.all (zeok 12 false)) = true := by decide +kernel
theorem ze_197 : (zc_197.all (zeok 12 false)) = true := by decide +kernel
theorem ze_198 : (zc_198.all (zeok 12 false)) = true := by decide +kernel
theorem ze_199 : (zc_199.all (zeok 12 false)) = true := by decide +kernel
theorem ze_200 : (zc_200.all (zeok 12 false)) = true := by decide +kernel
theorem ze_201 : (zc_201.all (zeok 12 false)) = true := by decide +kernel
theorem ze_202 : (zc_202.all (zeok 12 false)) = true := by decide +kernel
theorem ze_203 : (zc_203.all (zeok 12 false)) = true := by decide +kernel
theorem ze_204 : (zc_204.all (zeok 12 false)) = true := by decide +kernel
theorem ze_205 : (zc_205.all (zeok 12 false)) = true := by decide +kernel
theorem ze_206 : (zc_206.all (zeok 12 false)) = true := by decide +kernel
theorem ze_207 : (zc_207.all (zeok 12 false)) = true := by decide +kernel
theorem ze_208 : (zc_208.all (zeok 12 false)) = true := by decide +kernel
theorem ze_209 : (zc_209.all (zeok 12 false)) = true := by decide +kernel
theorem ze_210 : (zc_210.all (zeok 12 false)) = true := by decide +kernel
theorem ze_211 : (zc_211.all (zeok 12 false)) = true := by decide +kernel
theorem ze_212 : (zc_212.all (zeok 12 false)) = true := by decide +kernel
theorem ze_213 : (zc_213.all (zeok 12 false)) = true := by decide +kernel
theorem ze_214 : (zc_214.all (zeok 12 false)) = true := by decide +kernel
theorem ze_215 : (zc_215.all (zeok 12 false)) = true := by decide +kernel
theorem ze_216 : (zc_216.all (zeok 12 false)) = true := by decide +kernel
theorem ze_217 : (zc_217.all (zeok 12 false)) = true := by decide +kernel
theorem ze_218 : (zc_218.all (zeok 12 false)) = true := by decide +kernel
theorem ze_219 : (zc_219.all (zeok 12 false)) = true := by decide +kernel
theorem ze_220 : (zc_220.all (zeok 12 false)) = true := by decide +kernel
theorem ze_221 : (zc_221.all (zeok 12 false)) = true := by decide +kernel
theorem ze_222 : (zc_222.all (zeok 12 false)) = true := by decide +kernel
theorem ze_223 : (zc_223.all (zeok 12 false)) = true := by decide +kernel
theorem ze_224 : (zc_224.all (zeok 12 false)) = true := by decide +kernel
theorem ze_225 : (zc_225.all (zeok 12 false)) = true := by decide +kernel
theorem ze_226 : (zc_226.all (zeok 12 false)) = true := by decide +kernel
theorem ze_227 : (zc_227.all (zeok 12 false)) = true := by decide +kernel
theorem ze_228 : (zc_228.all (zeok 12 false)) = true := by decide +kernel
theorem ze_229 : (zc_229.all (zeok 12 false)) = true := by decide +kernel
theorem ze_230 : (zc_230.all (zeok 12 false)) = true := by decide +kernel
theorem ze_231 : (zc_231.all (zeok 12 false)) = true := by decide +kernel
theorem ze_232 : (zc_232.all (zeok 12 false)) = true := by decide +kernel
theorem ze_233 : (zc_233.all (zeok 12 false)) = true := by decide +kernel
theorem ze_234 : (zc_234.all (zeok 12 false)) = true := by decide +kernel
theorem ze_235 : (zc_235.all (zeok 12 false)) = true := by decide +kernel
theorem ze_236 : (zc_236.all (zeok 12 false)) = true := by decide +kernel
theorem ze_237 : (zc_237.all (zeok 12 false)) = true := by decide +kernel
theorem ze_238 : (zc_238.all (zeok 12 false)) = true := by decide +kernel
theorem ze_239 : (zc_239.all (zeok 12 false)) = true := by decide +kernel
theorem ze_240 : (zc_240.all (zeok 12 false)) = true := by decide +kernel
theorem ze_241 : (zc_241.all (zeok 12 false)) = true := by decide +kernel
theorem ze_242 : (zc_242.all (zeok 12 false)) = true := by decide +kernel
theorem ze_243 : (zc_243.all (zeok 12 false)) = true := by decide +kernel
theorem ze_244 : (zc_244.all (zeok 12 false)) = true := by decide +kernel
theorem ze_245 : (zc_245.all (zeok 12 false)) = true := by decide +kernel
theorem ze_246 : (zc_246.all (zeok 12 false)) = true := by decide +kernel
theorem ze_247 : (zc_247.all (zeok 12 false)) = true := by decide +kernel
theorem ze_248 : (zc_248.all (zeok 12 false)) = true := by decide +kernel
theorem ze_249 : (zc_249.all (zeok 12 false)) = true := by decide +kernel
theorem ze_250 : (zc_250.all (zeok 12 false)) = true := by decide +kernel
theorem ze_251 : (zc_251.all (zeok 12 false)) = true := by decide +kernel
theorem ze_252 : (zc_252.all (zeok 12 false)) = true := by decide +kernel
theorem ze_253 : (zc_253.all (zeok 12 false)) = true := by decide +kernel
theorem ze_254 : (zc_254.all (zeok 12 false)) = true := by decide +kernel
theorem ze_255 : (zc_255.all (zeok 12 false)) = true := by decide +kernel
theorem ze_256 : (zc_256.all (zeok 12 false)) = true := by decide +kernel
theorem ze_257 : (zc_257.all (zeok 12 false)) = true := by decide +kernel
theorem ze_258 : (zc_258.all (zeok 12 false)) = true := by decide +kernel
theorem ze_259 : (zc_259.all (zeok 12 false)) = true := by decide +kernel
theorem ze_260 : (zc_260.all (zeok 12 false)) = true := by decide +kernel
theorem ze_261 : (zc_261.all (zeok 12 false)) = true := by decide +kernel
theorem ze_262 : (zc_262.all (zeok 12 false)) = true := by decide +kernel
theorem ze_263 : (zc_263.all (zeok 12 false)) = true := by decide +kernel
theorem ze_264 : (zc_264.all (zeok 12 false)) = true := by decide +kernel
theorem ze_265 : (zc_265.all (zeok 12 false)) = true := by decide +kernel
theorem ze_266 : (zc_266.all (zeok 12 false)) = true := by decide +kernel
theorem ze_267 : (zc_267.all (zeok 12 false)) = true := by decide +kernel
theorem ze_268 : (zc_268.all (zeok 12 false)) = true := by decide +kernel
theorem ze_269 : (zc_269.all (zeok 12 false)) = true := by decide +kernel
theorem ze_270 : (zc_270.all (zeok 12 false)) = true := by decide +kernel
theorem ze_271 : (zc_271.all (zeok 12 false)) = true := by decide +kernel
theorem ze_272 : (zc_272.all (zeok 12 false)) = true := by decide +kernel
theorem ze_273 : (zc_273.all (zeok 12 false)) = true := by decide +kernel
/-- a method's entries: what the bytes decode to, and their kinds -/
abbrev zGd (i : Nat) (l : List zE) : Prop := zdok (zB i) l = true ∧ l.all (zeok (zMi i).1 (decide ((zY i).name = "<init>"))) = true
theorem zGd_all {i : Nat} (h : i < 274) : zGd i (zCode i) := by
  by_cases h_0_274 : i < 137
  · skip
    by_cases h_0_137 : i < 68
    · skip
      by_cases h_0_68 : i < 34
      · skip
        by_cases h_0_34 : i < 17
        · skip
          by_cases h_0_17 : i < 8
          · skip
            by_cases h_0_8 : i < 4
            · skip
              by_cases h_0_4 : i < 2
              · skip
                by_cases h_0_2 : i < 1
                · skip
                  obtain rfl : i = 0 := by omega
                  exact ⟨zd_0, ze_0⟩
                · skip
                  obtain rfl : i = 1 := by omega
                  exact ⟨zd_1, ze_1⟩
              · skip
                by_cases h_2_4 : i < 3
                · skip
                  obtain rfl : i = 2 := by omega
                  exact ⟨zd_2, ze_2⟩
                · skip
                  obtain rfl : i = 3 := by omega
                  exact ⟨zd_3, ze_3⟩
            · skip
              by_cases h_4_8 : i < 6
              · skip
                by_cases h_4_6 : i < 5
                · skip
                  obtain rfl : i = 4 := by omega
                  exact ⟨zd_4, ze_4⟩
                · skip
                  obtain rfl : i = 5 := by omega
                  exact ⟨zd_5, ze_5⟩
              · skip
                by_cases h_6_8 : i < 7
                · skip
                  obtain rfl : i = 6 := by omega
                  exact ⟨zd_6, ze_6⟩
                · skip
                  obtain rfl : i = 7 := by omega
                  exact ⟨zd_7, ze_7⟩
          · skip
            by_cases h_8_17 : i < 12
            · skip
              by_cases h_8_12 : i < 10
              · skip
                by_cases h_8_10 : i < 9
                · skip
                  obtain rfl : i = 8 := by omega
                  exact ⟨zd_8, ze_8⟩
                · skip
                  obtain rfl : i = 9 := by omega
                  exact ⟨zd_9, ze_9⟩
              · skip
                by_cases h_10_12 : i < 11
                · skip
                  obtain rfl : i = 10 := by omega
                  exact ⟨zd_10, ze_10⟩
                · skip
                  obtain rfl : i = 11 := by omega
                  exact ⟨zd_11, ze_11⟩
            · skip
              by_cases h_12_17 : i < 14
              · skip
                by_cases h_12_14 : i < 13
                · skip
                  obtain rfl : i = 12 := by omega
                  exact ⟨zd_12, ze_12⟩
                · skip
                  obtain rfl : i = 13 := by omega
                  exact ⟨zd_13, ze_13⟩
              · skip
                by_cases h_14_17 : i < 15
                · skip
                  obtain rfl : i = 14 := by omega
                  exact ⟨zd_14, ze_14⟩
                · skip
                  by_cases h_15_17 : i < 16
                  · skip
                    obtain rfl : i = 15 := by omega
                    exact ⟨zd_15, ze_15⟩
                  · skip
                    obtain rfl : i = 16 := by omega
                    exact ⟨zd_16, ze_16⟩
        · skip
          by_cases h_17_34 : i < 25
          · skip
            by_cases h_17_25 : i < 21
            · skip
              by_cases h_17_21 : i < 19
              · skip
                by_cases h_17_19 : i < 18
                · skip
                  obtain rfl : i = 17 := by omega
                  exact ⟨zd_17, ze_17⟩
                · skip
                  obtain rfl : i = 18 := by omega
                  exact ⟨zd_18, ze_18⟩
              · skip
                by_cases h_19_21 : i < 20
                · skip
                  obtain rfl : i = 19 := by omega
                  exact ⟨zd_19, ze_19⟩
                · skip
                  obtain rfl : i = 20 := by omega
                  exact ⟨zd_20, ze_20⟩
            · skip
              by_cases h_21_25 : i < 23
              · skip
                by_cases h_21_23 : i < 22
                · skip
                  obtain rfl : i = 21 := by omega
                  exact ⟨zd_21, ze_21⟩
                · skip
                  obtain rfl : i = 22 := by omega
                  exact ⟨zd_22, ze_22⟩
              · skip
                by_cases h_23_25 : i < 24
                · skip
                  obtain rfl : i = 23 := by omega
                  exact ⟨zd_23, ze_23⟩
                · skip
                  obtain rfl : i = 24 := by omega
                  exact ⟨zd_24, ze_24⟩
          · skip
            by_cases h_25_34 : i < 29
            · skip
              by_cases h_25_29 : i < 27
              · skip
                by_cases h_25_27 : i < 26
                · skip
                  obtain rfl : i = 25 := by omega
                  exact ⟨zd_25, ze_25⟩
                · skip
                  obtain rfl : i = 26 := by omega
                  exact ⟨zd_26, ze_26⟩
              · skip
                by_cases h_27_29 : i < 28
                · skip
                  obtain rfl : i = 27 := by omega
                  exact ⟨zd_27, ze_27⟩
                · skip
                  obtain rfl : i = 28 := by omega
                  exact ⟨zd_28, ze_28⟩
            · skip
              by_cases h_29_34 : i < 31
              · skip
                by_cases h_29_31 : i < 30
                · skip
                  obtain rfl : i = 29 := by omega
                  exact ⟨zd_29, ze_29⟩
                · skip
                  obtain rfl : i = 30 := by omega
                  exact ⟨zd_30, ze_30⟩
              · skip
                by_cases h_31_34 : i < 32
                · skip
                  obtain rfl : i = 31 := by omega
                  exact ⟨zd_31, ze_31⟩
                · skip
                  by_cases h_32_34 : i < 33
                  · skip
                    obtain rfl : i = 32 := by omega
                    exact ⟨zd_32, ze_32⟩
                  · skip
                    obtain rfl : i = 33 := by omega
                    exact ⟨zd_33, ze_33⟩
      · skip
        by_cases h_34_68 : i < 51
        · skip
          by_cases h_34_51 : i < 42
          · skip
            by_cases h_34_42 : i < 38
            · skip
              by_cases h_34_38 : i < 36
              · skip
                by_cases h_34_36 : i < 35
                · skip
                  obtain rfl : i = 34 := by omega
                  exact ⟨zd_34, ze_34⟩
                · skip
                  obtain rfl : i = 35 := by omega
                  exact ⟨zd_35, ze_35⟩
              · skip
                by_cases h_36_38 : i < 37
                · skip
                  obtain rfl : i = 36 := by omega
                  exact ⟨zd_36, ze_36⟩
                · skip
                  obtain rfl : i = 37 := by omega
                  exact ⟨zd_37, ze_37⟩
            · skip
              by_cases h_38_42 : i < 40
              · skip
                by_cases h_38_40 : i < 39
                · skip
                  obtain rfl : i = 38 := by omega
                  exact ⟨zd_38, ze_38⟩
                · skip
                  obtain rfl : i = 39 := by omega
                  exact ⟨zd_39, ze_39⟩
              · skip
                by_cases h_40_42 : i < 41
                · skip
                  obtain rfl : i = 40 := by omega
                  exact ⟨zd_40, ze_40⟩
                · skip
                  obtain rfl : i = 41 := by omega
                  exact ⟨zd_41, ze_41⟩
          · skip
            by_cases h_42_51 : i < 46
            · skip
              by_cases h_42_46 : i < 44
              · skip
                by_cases h_42_44 : i < 43
                · skip
                  obtain rfl : i = 42 := by omega
                  exact ⟨zd_42, ze_42⟩
                · skip
                  obtain rfl : i = 43 := by omega
                  exact ⟨zd_43, ze_43⟩
              · skip
                by_cases h_44_46 : i < 45
                · skip
                  obtain rfl : i = 44 := by omega
                  exact ⟨zd_44, ze_44⟩
                · skip
                  obtain rfl : i = 45 := by omega
                  exact ⟨zd_45, ze_45⟩
            · skip
              by_cases h_46_51 : i < 48
              · skip
                by_cases h_46_48 : i < 47
                · skip
                  obtain rfl : i = 46 := by omega
                  exact ⟨zd_46, ze_46⟩
                · skip
                  obtain rfl : i = 47 := by omega
                  exact ⟨zd_47, ze_47⟩
              · skip
                by_cases h_48_51 : i < 49
                · skip
                  obtain rfl : i = 48 := by omega
                  exact ⟨zd_48, ze_48⟩
                · skip
                  by_cases h_49_51 : i < 50
                  · skip
                    obtain rfl : i = 49 := by omega
                    exact ⟨zd_49, ze_49⟩
                  · skip
                    obtain rfl : i = 50 := by omega
                    exact ⟨zd_50, ze_50⟩
        · skip
          by_cases h_51_68 : i < 59
          · skip
            by_cases h_51_59 : i < 55
            · skip
              by_cases h_51_55 : i < 53
              · skip
                by_cases h_51_53 : i < 52
                · skip
                  obtain rfl : i = 51 := by omega
                  exact ⟨zd_51, ze_51⟩
                · skip
                  obtain rfl : i = 52 := by omega
                  exact ⟨zd_52, ze_52⟩
              · skip
                by_cases h_53_55 : i < 54
                · skip
                  obtain rfl : i = 53 := by omega
                  exact ⟨zd_53, ze_53⟩
                · skip
                  obtain rfl : i = 54 := by omega
                  exact ⟨zd_54, ze_54⟩
            · skip
              by_cases h_55_59 : i < 57
              · skip
                by_cases h_55_57 : i < 56
                · skip
                  obtain rfl : i = 55 := by omega
                  exact ⟨zd_55, ze_55⟩
                · skip
                  obtain rfl : i = 56 := by omega
                  exact ⟨zd_56, ze_56⟩
              · skip
                by_cases h_57_59 : i < 58
                · skip
                  obtain rfl : i = 57 := by omega
                  exact ⟨zd_57, ze_57⟩
                · skip
                  obtain rfl : i = 58 := by omega
                  exact ⟨zd_58, ze_58⟩
          · skip
            by_cases h_59_68 : i < 63
            · skip
              by_cases h_59_63 : i < 61
              · skip
                by_cases h_59_61 : i < 60
                · skip
                  obtain rfl : i = 59 := by omega
                  exact ⟨zd_59, ze_59⟩
                · skip
                  obtain rfl : i = 60 := by omega
                  exact ⟨zd_60, ze_60⟩
              · skip
                by_cases h_61_63 : i < 62
                · skip
                  obtain rfl : i = 61 := by omega
                  exact ⟨zd_61, ze_61⟩
                · skip
                  obtain rfl : i = 62 := by omega
                  exact ⟨zd_62, ze_62⟩
            · skip
              by_cases h_63_68 : i < 65
              · skip
                by_cases h_63_65 : i < 64
                · skip
                  obtain rfl : i = 63 := by omega
                  exact ⟨zd_63, ze_63⟩
                · skip
                  obtain rfl : i = 64 := by omega
                  exact ⟨zd_64, ze_64⟩
              · skip
                by_cases h_65_68 : i < 66
                · skip
                  obtain rfl : i = 65 := by omega
                  exact ⟨zd_65, ze_65⟩
                · skip
                  by_cases h_66_68 : i < 67
                  · skip
                    obtain rfl : i = 66 := by omega
                    exact ⟨zd_66, ze_66⟩
                  · skip
                    obtain rfl : i = 67 := by omega
                    exact ⟨zd_67, ze_67⟩
    · skip
      by_cases h_68_137 : i < 102
      · skip
        by_cases h_68_102 : i < 85
        · skip
          by_cases h_68_85 : i < 76
          · skip
            by_cases h_68_76 : i < 72
            · skip
              by_cases h_68_72 : i < 70
              · skip
                by_cases h_68_70 : i < 69
                · skip
                  obtain rfl : i = 68 := by omega
                  exact ⟨zd_68, ze_68⟩
                · skip
                  obtain rfl : i = 69 := by omega
                  exact ⟨zd_69, ze_69⟩
              · skip
                by_cases h_70_72 : i < 71
                · skip
                  obtain rfl : i = 70 := by omega
                  exact ⟨zd_70, ze_70⟩
                · skip
                  obtain rfl : i = 71 := by omega
                  exact ⟨zd_71, ze_71⟩
            · skip
              by_cases h_72_76 : i < 74
              · skip
                by_cases h_72_74 : i < 73
                · skip
                  obtain rfl : i = 72 := by omega
                  exact ⟨zd_72, ze_72⟩
                · skip
                  obtain rfl : i = 73 := by omega
                  exact ⟨zd_73, ze_73⟩
              · skip
                by_cases h_74_76 : i < 75
                · skip
                  obtain rfl : i = 74 := by omega
                  exact ⟨zd_74, ze_74⟩
                · skip
                  obtain rfl : i = 75 := by omega
                  exact ⟨zd_75, ze_75⟩
          · skip
            by_cases h_76_85 : i < 80
            · skip
              by_cases h_76_80 : i < 78
              · skip
                by_cases h_76_78 : i < 77
                · skip
                  obtain rfl : i = 76 := by omega
                  exact ⟨zd_76, ze_76⟩
                · skip
                  obtain rfl : i = 77 := by omega
                  exact ⟨zd_77, ze_77⟩
              · skip
                by_cases h_78_80 : i < 79
                · skip
                  obtain rfl : i = 78 := by omega
                  exact ⟨zd_78, ze_78⟩
                · skip
                  obtain rfl : i = 79 := by omega
                  exact ⟨zd_79, ze_79⟩
            · skip
              by_cases h_80_85 : i < 82
              · skip
                by_cases h_80_82 : i < 81
                · skip
                  obtain rfl : i = 80 := by omega
                  exact ⟨zd_80, ze_80⟩
                · skip
                  obtain rfl : i = 81 := by omega
                  exact ⟨zd_81, ze_81⟩
              · skip
                by_cases h_82_85 : i < 83
                · skip
                  obtain rfl : i = 82 := by omega
                  exact ⟨zd_82, ze_82⟩
                · skip
                  by_cases h_83_85 : i < 84
                  · skip
                    obtain rfl : i = 83 := by omega
                    exact ⟨zd_83, ze_83⟩
                  · skip
                    obtain rfl : i = 84 := by omega
                    exact ⟨zd_84, ze_84⟩
        · skip
          by_cases h_85_102 : i < 93
          · skip
            by_cases h_85_93 : i < 89
            · skip
              by_cases h_85_89 : i < 87
              · skip
                by_cases h_85_87 : i < 86
                · skip
                  obtain rfl : i = 85 := by omega
                  exact ⟨zd_85, ze_85⟩
                · skip
                  obtain rfl : i = 86 := by omega
                  exact ⟨zd_86, ze_86⟩
              · skip
                by_cases h_87_89 : i < 88
                · skip
                  obtain rfl : i = 87 := by omega
                  exact ⟨zd_87, ze_87⟩
                · skip
                  obtain rfl : i = 88 := by omega
                  exact ⟨zd_88, ze_88⟩
            · skip
              by_cases h_89_93 : i < 91
              · skip
                by_cases h_89_91 : i < 90
                · skip
                  obtain rfl : i = 89 := by omega
                  exact ⟨zd_89, ze_89⟩
                · skip
                  obtain rfl : i = 90 := by omega
                  exact ⟨zd_90, ze_90⟩
              · skip
                by_cases h_91_93 : i < 92
                · skip
                  obtain rfl : i = 91 := by omega
                  exact ⟨zd_91, ze_91⟩
                · skip
                  obtain rfl : i = 92 := by omega
                  exact ⟨zd_92, ze_92⟩
          · skip
            by_cases h_93_102 : i < 97
            · skip
              by_cases h_93_97 : i < 95
              · skip
                by_cases h_93_95 : i < 94
                · skip
                  obtain rfl : i = 93 := by omega
                  exact ⟨zd_93, ze_93⟩
                · skip
                  obtain rfl : i = 94 := by omega
                  exact ⟨zd_94, ze_94⟩
              · skip
                by_cases h_95_97 : i < 96
                · skip
                  obtain rfl : i = 95 := by omega
                  exact ⟨zd_95, ze_95⟩
                · skip
                  obtain rfl : i = 96 := by omega
                  exact ⟨zd_96, ze_96⟩
            · skip
              by_cases h_97_102 : i < 99
              · skip
                by_cases h_97_99 : i < 98
                · skip
                  obtain rfl : i = 97 := by omega
                  exact ⟨zd_97, ze_97⟩
                · skip
                  obtain rfl : i = 98 := by omega
                  exact ⟨zd_98, ze_98⟩
              · skip
                by_cases h_99_102 : i < 100
                · skip
                  obtain rfl : i = 99 := by omega
                  exact ⟨zd_99, ze_99⟩
                · skip
                  by_cases h_100_102 : i < 101
                  · skip
                    obtain rfl : i = 100 := by omega
                    exact ⟨zd_100, ze_100⟩
                  · skip
                    obtain rfl : i = 101 := by omega
                    exact ⟨zd_101, ze_101⟩
      · skip
        by_cases h_102_137 : i < 119
        · skip
          by_cases h_102_119 : i < 110
          · skip
            by_cases h_102_110 : i < 106
            · skip
              by_cases h_102_106 : i < 104
              · skip
                by_cases h_102_104 : i < 103
                · skip
                  obtain rfl : i = 102 := by omega
                  exact ⟨zd_102, ze_102⟩
                · skip
                  obtain rfl : i = 103 := by omega
                  exact ⟨zd_103, ze_103⟩
              · skip
                by_cases h_104_106 : i < 105
                · skip
                  obtain rfl : i = 104 := by omega
                  exact ⟨zd_104, ze_104⟩
                · skip
                  obtain rfl : i = 105 := by omega
                  exact ⟨zd_105, ze_105⟩
            · skip
              by_cases h_106_110 : i < 108
              · skip
                by_cases h_106_108 : i < 107
                · skip
                  obtain rfl : i = 106 := by omega
                  exact ⟨zd_106, ze_106⟩
                · skip
                  obtain rfl : i = 107 := by omega
                  exact ⟨zd_107, ze_107⟩
              · skip
                by_cases h_108_110 : i < 109
                · skip
                  obtain rfl : i = 108 := by omega
                  exact ⟨zd_108, ze_108⟩
                · skip
                  obtain rfl : i = 109 := by omega
                  exact ⟨zd_109, ze_109⟩
          · skip
            by_cases h_110_119 : i < 114
            · skip
              by_cases h_110_114 : i < 112
              · skip
                by_cases h_110_112 : i < 111
                · skip
                  obtain rfl : i = 110 := by omega
                  exact ⟨zd_110, ze_110⟩
                · skip
                  obtain rfl : i = 111 := by omega
                  exact ⟨zd_111, ze_111⟩
              · skip
                by_cases h_112_114 : i < 113
                · skip
                  obtain rfl : i = 112 := by omega
                  exact ⟨zd_112, ze_112⟩
                · skip
                  obtain rfl : i = 113 := by omega
                  exact ⟨zd_113, ze_113⟩
            · skip
              by_cases h_114_119 : i < 116
              · skip
                by_cases h_114_116 : i < 115
                · skip
                  obtain rfl : i = 114 := by omega
                  exact ⟨zd_114, ze_114⟩
                · skip
                  obtain rfl : i = 115 := by omega
                  exact ⟨zd_115, ze_115⟩
              · skip
                by_cases h_116_119 : i < 117
                · skip
                  obtain rfl : i = 116 := by omega
                  exact ⟨zd_116, ze_116⟩
                · skip
                  by_cases h_117_119 : i < 118
                  · skip
                    obtain rfl : i = 117 := by omega
                    exact ⟨zd_117, ze_117⟩
                  · skip
                    obtain rfl : i = 118 := by omega
                    exact ⟨zd_118, ze_118⟩
        · skip
          by_cases h_119_137 : i < 128
          · skip
            by_cases h_119_128 : i < 123
            · skip
              by_cases h_119_123 : i < 121
              · skip
                by_cases h_119_121 : i < 120
                · skip
                  obtain rfl : i = 119 := by omega
                  exact ⟨zd_119, ze_119⟩
                · skip
                  obtain rfl : i = 120 := by omega
                  exact ⟨zd_120, ze_120⟩
              · skip
                by_cases h_121_123 : i < 122
                · skip
                  obtain rfl : i = 121 := by omega
                  exact ⟨zd_121, ze_121⟩
                · skip
                  obtain rfl : i = 122 := by omega
                  exact ⟨zd_122, ze_122⟩
            · skip
              by_cases h_123_128 : i < 125
              · skip
                by_cases h_123_125 : i < 124
                · skip
                  obtain rfl : i = 123 := by omega
                  exact ⟨zd_123, ze_123⟩
                · skip
                  obtain rfl : i = 124 := by omega
                  exact ⟨zd_124, ze_124⟩
              · skip
                by_cases h_125_128 : i < 126
                · skip
                  obtain rfl : i = 125 := by omega
                  exact ⟨zd_125, ze_125⟩
                · skip
                  by_cases h_126_128 : i < 127
                  · skip
                    obtain rfl : i = 126 := by omega
                    exact ⟨zd_126, ze_126⟩
                  · skip
                    obtain rfl : i = 127 := by omega
                    exact ⟨zd_127, ze_127⟩
          · skip
            by_cases h_128_137 : i < 132
            · skip
              by_cases h_128_132 : i < 130
              · skip
                by_cases h_128_130 : i < 129
                · skip
                  obtain rfl : i = 128 := by omega
                  exact ⟨zd_128, ze_128⟩
                · skip
                  obtain rfl : i = 129 := by omega
                  exact ⟨zd_129, ze_129⟩
              · skip
                by_cases h_130_132 : i < 131
                · skip
                  obtain rfl : i = 130 := by omega
                  exact ⟨zd_130, ze_130⟩
                · skip
                  obtain rfl : i = 131 := by omega
                  exact ⟨zd_131, ze_131⟩
            · skip
              by_cases h_132_137 : i < 134
              · skip
                by_cases h_132_134 : i < 133
                · skip
                  obtain rfl : i = 132 := by omega
                  exact ⟨zd_132, ze_132⟩
                · skip
                  obtain rfl : i = 133 := by omega
                  exact ⟨zd_133, ze_133⟩
              · skip
                by_cases h_134_137 : i < 135
                · skip
                  obtain rfl : i = 134 := by omega
                  exact ⟨zd_134, ze_134⟩
                · skip
                  by_cases h_135_137 : i < 136
                  · skip
                    obtain rfl : i = 135 := by omega
                    exact ⟨zd_135, ze_135⟩
                  · skip
                    obtain rfl : i = 136 := by omega
                    exact ⟨zd_136, ze_136⟩
  · skip
    by_cases h_137_274 : i < 205
    · skip
      by_cases h_137_205 : i < 171
      · skip
        by_cases h_137_171 : i < 154
        · skip
          by_cases h_137_154 : i < 145
          · skip
            by_cases h_137_145 : i < 141
            · skip
              by_cases h_137_141 : i < 139
              · skip
                by_cases h_137_139 : i < 138
                · skip
                  obtain rfl : i = 137 := by omega
                  exact ⟨zd_137, ze_137⟩
                · skip
                  obtain rfl : i = 138 := by omega
                  exact ⟨zd_138, ze_138⟩
              · skip
                by_cases h_139_141 : i < 140
                · skip
                  obtain rfl : i = 139 := by omega
                  exact ⟨zd_139, ze_139⟩
                · skip
                  obtain rfl : i = 140 := by omega
                  exact ⟨zd_140, ze_140⟩
            · skip
              by_cases h_141_145 : i < 143
              · skip
                by_cases h_141_143 : i < 142
                · skip
                  obtain rfl : i = 141 := by omega
                  exact ⟨zd_141, ze_141⟩
                · skip
                  obtain rfl : i = 142 := by omega
                  exact ⟨zd_142, ze_142⟩
              · skip
                by_cases h_143_145 : i < 144
                · skip
                  obtain rfl : i = 143 := by omega
                  exact ⟨zd_143, ze_143⟩
                · skip
                  obtain rfl : i = 144 := by omega
                  exact ⟨zd_144, ze_144⟩
          · skip
            by_cases h_145_154 : i < 149
            · skip
              by_cases h_145_149 : i < 147
              · skip
                by_cases h_145_147 : i < 146
                · skip
                  obtain rfl : i = 145 := by omega
                  exact ⟨zd_145, ze_145⟩
                · skip
                  obtain rfl : i = 146 := by omega
                  exact ⟨zd_146, ze_146⟩
              · skip
                by_cases h_147_149 : i < 148
                · skip
                  obtain rfl : i = 147 := by omega
                  exact ⟨zd_147, ze_147⟩
                · skip
                  obtain rfl : i = 148 := by omega
                  exact ⟨zd_148, ze_148⟩
            · skip
              by_cases h_149_154 : i < 151
              · skip
                by_cases h_149_151 : i < 150
                · skip
                  obtain rfl : i = 149 := by omega
                  exact ⟨zd_149, ze_149⟩
                · skip
                  obtain rfl : i = 150 := by omega
                  exact ⟨zd_150, ze_150⟩
              · skip
                by_cases h_151_154 : i < 152
                · skip
                  obtain rfl : i = 151 := by omega
                  exact ⟨zd_151, ze_151⟩
                · skip
                  by_cases h_152_154 : i < 153
                  · skip
                    obtain rfl : i = 152 := by omega
                    exact ⟨zd_152, ze_152⟩
                  · skip
                    obtain rfl : i = 153 := by omega
                    exact ⟨zd_153, ze_153⟩
        · skip
          by_cases h_154_171 : i < 162
          · skip
            by_cases h_154_162 : i < 158
            · skip
              by_cases h_154_158 : i < 156
              · skip
                by_cases h_154_156 : i < 155
                · skip
                  obtain rfl : i = 154 := by omega
                  exact ⟨zd_154, ze_154⟩
                · skip
                  obtain rfl : i = 155 := by omega
                  exact ⟨zd_155, ze_155⟩
              · skip
                by_cases h_156_158 : i < 157
                · skip
                  obtain rfl : i = 156 := by omega
                  exact ⟨zd_156, ze_156⟩
                · skip
                  obtain rfl : i = 157 := by omega
                  exact ⟨zd_157, ze_157⟩
            · skip
              by_cases h_158_162 : i < 160
              · skip
                by_cases h_158_160 : i < 159
                · skip
                  obtain rfl : i = 158 := by omega
                  exact ⟨zd_158, ze_158⟩
                · skip
                  obtain rfl : i = 159 := by omega
                  exact ⟨zd_159, ze_159⟩
              · skip
                by_cases h_160_162 : i < 161
                · skip
                  obtain rfl : i = 160 := by omega
                  exact ⟨zd_160, ze_160⟩
                · skip
                  obtain rfl : i = 161 := by omega
                  exact ⟨zd_161, ze_161⟩
          · skip
            by_cases h_162_171 : i < 166
            · skip
              by_cases h_162_166 : i < 164
              · skip
                by_cases h_162_164 : i < 163
                · skip
                  obtain rfl : i = 162 := by omega
                  exact ⟨zd_162, ze_162⟩
                · skip
                  obtain rfl : i = 163 := by omega
                  exact ⟨zd_163, ze_163⟩
              · skip
                by_cases h_164_166 : i < 165
                · skip
                  obtain rfl : i = 164 := by omega
                  exact ⟨zd_164, ze_164⟩
                · skip
                  obtain rfl : i = 165 := by omega
                  exact ⟨zd_165, ze_165⟩
            · skip
              by_cases h_166_171 : i < 168
              · skip
                by_cases h_166_168 : i < 167
                · skip
                  obtain rfl : i = 166 := by omega
                  exact ⟨zd_166, ze_166⟩
                · skip
                  obtain rfl : i = 167 := by omega
                  exact ⟨zd_167, ze_167⟩
              · skip
                by_cases h_168_171 : i < 169
                · skip
                  obtain rfl : i = 168 := by omega
                  exact ⟨zd_168, ze_168⟩
                · skip
                  by_cases h_169_171 : i < 170
                  · skip
                    obtain rfl : i = 169 := by omega
                    exact ⟨zd_169, ze_169⟩
                  · skip
                    obtain rfl : i = 170 := by omega
                    exact ⟨zd_170, ze_170⟩
      · skip
        by_cases h_171_205 : i < 188
        · skip
          by_cases h_171_188 : i < 179
          · skip
            by_cases h_171_179 : i < 175
            · skip
              by_cases h_171_175 : i < 173
              · skip
                by_cases h_171_173 : i < 172
                · skip
                  obtain rfl : i = 171 := by omega
                  exact ⟨zd_171, ze_171⟩
                · skip
                  obtain rfl : i = 172 := by omega
                  exact ⟨zd_172, ze_172⟩
              · skip
                by_cases h_173_175 : i < 174
                · skip
                  obtain rfl : i = 173 := by omega
                  exact ⟨zd_173, ze_173⟩
                · skip
                  obtain rfl : i = 174 := by omega
                  exact ⟨zd_174, ze_174⟩
            · skip
              by_cases h_175_179 : i < 177
              · skip
                by_cases h_175_177 : i < 176
                · skip
                  obtain rfl : i = 175 := by omega
                  exact ⟨zd_175, ze_175⟩
                · skip
                  obtain rfl : i = 176 := by omega
                  exact ⟨zd_176, ze_176⟩
              · skip
                by_cases h_177_179 : i < 178
                · skip
                  obtain rfl : i = 177 := by omega
                  exact ⟨zd_177, ze_177⟩
                · skip
                  obtain rfl : i = 178 := by omega
                  exact ⟨zd_178, ze_178⟩
          · skip
            by_cases h_179_188 : i < 183
            · skip
              by_cases h_179_183 : i < 181
              · skip
                by_cases h_179_181 : i < 180
                · skip
                  obtain rfl : i = 179 := by omega
                  exact ⟨zd_179, ze_179⟩
                · skip
                  obtain rfl : i = 180 := by omega
                  exact ⟨zd_180, ze_180⟩
              · skip
                by_cases h_181_183 : i < 182
                · skip
                  obtain rfl : i = 181 := by omega
                  exact ⟨zd_181, ze_181⟩
                · skip
                  obtain rfl : i = 182 := by omega
                  exact ⟨zd_182, ze_182⟩
            · skip
              by_cases h_183_188 : i < 185
              · skip
                by_cases h_183_185 : i < 184
                · skip
                  obtain rfl : i = 183 := by omega
                  exact ⟨zd_183, ze_183⟩
                · skip
                  obtain rfl : i = 184 := by omega
                  exact ⟨zd_184, ze_184⟩
              · skip
                by_cases h_185_188 : i < 186
                · skip
                  obtain rfl : i = 185 := by omega
                  exact ⟨zd_185, ze_185⟩
                · skip
                  by_cases h_186_188 : i < 187
                  · skip
                    obtain rfl : i = 186 := by omega
                    exact ⟨zd_186, ze_186⟩
                  · skip
                    obtain rfl : i = 187 := by omega
                    exact ⟨zd_187, ze_187⟩
        · skip
          by_cases h_188_205 : i < 196
          · skip
            by_cases h_188_196 : i < 192
            · skip
              by_cases h_188_192 : i < 190
              · skip
                by_cases h_188_190 : i < 189
                · skip
                  obtain rfl : i = 188 := by omega
                  exact ⟨zd_188, ze_188⟩
                · skip
                  obtain rfl : i = 189 := by omega
                  exact ⟨zd_189, ze_189⟩
              · skip
                by_cases h_190_192 : i < 191
                · skip
                  obtain rfl : i = 190 := by omega
                  exact ⟨zd_190, ze_190⟩
                · skip
                  obtain rfl : i = 191 := by omega
                  exact ⟨zd_191, ze_191⟩
            · skip
              by_cases h_192_196 : i < 194
              · skip
                by_cases h_192_194 : i < 193
                · skip
                  obtain rfl : i = 192 := by omega
                  exact ⟨zd_192, ze_192⟩
                · skip
                  obtain rfl : i = 193 := by omega
                  exact ⟨zd_193, ze_193⟩
              · skip
                by_cases h_194_196 : i < 195
                · skip
                  obtain rfl : i = 194 := by omega
                  exact ⟨zd_194, ze_194⟩
                · skip
                  obtain rfl : i = 195 := by omega
                  exact ⟨zd_195, ze_195⟩
          · skip
            by_cases h_196_205 : i < 200
            · skip
              by_cases h_196_200 : i < 198
              · skip
                by_cases h_196_198 : i < 197
                · skip
                  obtain rfl : i = 196 := by omega
                  exact ⟨zd_196, ze_196⟩
                · skip
                  obtain rfl : i = 197 := by omega
                  exact ⟨zd_197, ze_197⟩
              · skip
                by_cases h_198_200 : i < 199
                · skip
                  obtain rfl : i = 198 := by omega
                  exact ⟨zd_198, ze_198⟩
                · skip
                  obtain rfl : i = 199 := by omega
                  exact ⟨zd_199, ze_199⟩
            · skip
              by_cases h_200_205 : i < 202
              · skip
                by_cases h_200_202 : i < 201
                · skip
                  obtain rfl : i = 200 := by omega
                  exact ⟨zd_200, ze_200⟩
                · skip
                  obtain rfl : i = 201 := by omega
                  exact ⟨zd_201, ze_201⟩
              · skip
                by_cases h_202_205 : i < 203
                · skip
                  obtain rfl : i = 202 := by omega
                  exact ⟨zd_202, ze_202⟩
                · skip
                  by_cases h_203_205 : i < 204
                  · skip
                    obtain rfl : i = 203 := by omega
                    exact ⟨zd_203, ze_203⟩
                  · skip
                    obtain rfl : i = 204 := by omega
                    exact ⟨zd_204, ze_204⟩
    · skip
      by_cases h_205_274 : i < 239
      · skip
        by_cases h_205_239 : i < 222
        · skip
          by_cases h_205_222 : i < 213
          · skip
            by_cases h_205_213 : i < 209
            · skip
              by_cases h_205_209 : i < 207
              · skip
                by_cases h_205_207 : i < 206
                · skip
                  obtain rfl : i = 205 := by omega
                  exact ⟨zd_205, ze_205⟩
                · skip
                  obtain rfl : i = 206 := by omega
                  exact ⟨zd_206, ze_206⟩
              · skip
                by_cases h_207_209 : i < 208
                · skip
                  obtain rfl : i = 207 := by omega
                  exact ⟨zd_207, ze_207⟩
                · skip
                  obtain rfl : i = 208 := by omega
                  exact ⟨zd_208, ze_208⟩
            · skip
              by_cases h_209_213 : i < 211
              · skip
                by_cases h_209_211 : i < 210
                · skip
                  obtain rfl : i = 209 := by omega
                  exact ⟨zd_209, ze_209⟩
                · skip
                  obtain rfl : i = 210 := by omega
                  exact ⟨zd_210, ze_210⟩
              · skip
                by_cases h_211_213 : i < 212
                · skip
                  obtain rfl : i = 211 := by omega
                  exact ⟨zd_211, ze_211⟩
                · skip
                  obtain rfl : i = 212 := by omega
                  exact ⟨zd_212, ze_212⟩
          · skip
            by_cases h_213_222 : i < 217
            · skip
              by_cases h_213_217 : i < 215
              · skip
                by_cases h_213_215 : i < 214
                · skip
                  obtain rfl : i = 213 := by omega
                  exact ⟨zd_213, ze_213⟩
                · skip
                  obtain rfl : i = 214 := by omega
                  exact ⟨zd_214, ze_214⟩
              · skip
                by_cases h_215_217 : i < 216
                · skip
                  obtain rfl : i = 215 := by omega
                  exact ⟨zd_215, ze_215⟩
                · skip
                  obtain rfl : i = 216 := by omega
                  exact ⟨zd_216, ze_216⟩
            · skip
              by_cases h_217_222 : i < 219
              · skip
                by_cases h_217_219 : i < 218
                · skip
                  obtain rfl : i = 217 := by omega
                  exact ⟨zd_217, ze_217⟩
                · skip
                  obtain rfl : i = 218 := by omega
                  exact ⟨zd_218, ze_218⟩
              · skip
                by_cases h_219_222 : i < 220
                · skip
                  obtain rfl : i = 219 := by omega
                  exact ⟨zd_219, ze_219⟩
                · skip
                  by_cases h_220_222 : i < 221
                  · skip
                    obtain rfl : i = 220 := by omega
                    exact ⟨zd_220, ze_220⟩
                  · skip
                    obtain rfl : i = 221 := by omega
                    exact ⟨zd_221, ze_221⟩
        · skip
          by_cases h_222_239 : i < 230
          · skip
            by_cases h_222_230 : i < 226
            · skip
              by_cases h_222_226 : i < 224
              · skip
                by_cases h_222_224 : i < 223
                · skip
                  obtain rfl : i = 222 := by omega
                  exact ⟨zd_222, ze_222⟩
                · skip
                  obtain rfl : i = 223 := by omega
                  exact ⟨zd_223, ze_223⟩
              · skip
                by_cases h_224_226 : i < 225
                · skip
                  obtain rfl : i = 224 := by omega
                  exact ⟨zd_224, ze_224⟩
                · skip
                  obtain rfl : i = 225 := by omega
                  exact ⟨zd_225, ze_225⟩
            · skip
              by_cases h_226_230 : i < 228
              · skip
                by_cases h_226_228 : i < 227
                · skip
                  obtain rfl : i = 226 := by omega
                  exact ⟨zd_226, ze_226⟩
                · skip
                  obtain rfl : i = 227 := by omega
                  exact ⟨zd_227, ze_227⟩
              · skip
                by_cases h_228_230 : i < 229
                · skip
                  obtain rfl : i = 228 := by omega
                  exact ⟨zd_228, ze_228⟩
                · skip
                  obtain rfl : i = 229 := by omega
                  exact ⟨zd_229, ze_229⟩
          · skip
            by_cases h_230_239 : i < 234
            · skip
              by_cases h_230_234 : i < 232
              · skip
                by_cases h_230_232 : i < 231
                · skip
                  obtain rfl : i = 230 := by omega
                  exact ⟨zd_230, ze_230⟩
                · skip
                  obtain rfl : i = 231 := by omega
                  exact ⟨zd_231, ze_231⟩
              · skip
                by_cases h_232_234 : i < 233
                · skip
                  obtain rfl : i = 232 := by omega
                  exact ⟨zd_232, ze_232⟩
                · skip
                  obtain rfl : i = 233 := by omega
                  exact ⟨zd_233, ze_233⟩
            · skip
              by_cases h_234_239 : i < 236
              · skip
                by_cases h_234_236 : i < 235
                · skip
                  obtain rfl : i = 234 := by omega
                  exact ⟨zd_234, ze_234⟩
                · skip
                  obtain rfl : i = 235 := by omega
                  exact ⟨zd_235, ze_235⟩
              · skip
                by_cases h_236_239 : i < 237
                · skip
                  obtain rfl : i = 236 := by omega
                  exact ⟨zd_236, ze_236⟩
                · skip
                  by_cases h_237_239 : i < 238
                  · skip
                    obtain rfl : i = 237 := by omega
                    exact ⟨zd_237, ze_237⟩
                  · skip
                    obtain rfl : i = 238 := by omega
                    exact ⟨zd_238, ze_238⟩
      · skip
        by_cases h_239_274 : i < 256
        · skip
          by_cases h_239_256 : i < 247
          · skip
            by_cases h_239_247 : i < 243
            · skip
              by_cases h_239_243 : i < 241
              · skip
                by_cases h_239_241 : i < 240
                · skip
                  obtain rfl : i = 239 := by omega
                  exact ⟨zd_239, ze_239⟩
                · skip
                  obtain rfl : i = 240 := by omega
                  exact ⟨zd_240, ze_240⟩
              · skip
                by_cases h_241_243 : i < 242
                · skip
                  obtain rfl : i = 241 := by omega
                  exact ⟨zd_241, ze_241⟩
                · skip
                  obtain rfl : i = 242 := by omega
                  exact ⟨zd_242, ze_242⟩
            · skip
              by_cases h_243_247 : i < 245
              · skip
                by_cases h_243_245 : i < 244
                · skip
                  obtain rfl : i = 243 := by omega
                  exact ⟨zd_243, ze_243⟩
                · skip
                  obtain rfl : i = 244 := by omega
                  exact ⟨zd_244, ze_244⟩
              · skip
                by_cases h_245_247 : i < 246
                · skip
                  obtain rfl : i = 245 := by omega
                  exact ⟨zd_245, ze_245⟩
                · skip
                  obtain rfl : i = 246 := by omega
                  exact ⟨zd_246, ze_246⟩
          · skip
            by_cases h_247_256 : i < 251
            · skip
              by_cases h_247_251 : i < 249
              · skip
                by_cases h_247_249 : i < 248
                · skip
                  obtain rfl : i = 247 := by omega
                  exact ⟨zd_247, ze_247⟩
                · skip
                  obtain rfl : i = 248 := by omega
                  exact ⟨zd_248, ze_248⟩
              · skip
                by_cases h_249_251 : i < 250
                · skip
                  obtain rfl : i = 249 := by omega
                  exact ⟨zd_249, ze_249⟩
                · skip
                  obtain rfl : i = 250 := by omega
                  exact ⟨zd_250, ze_250⟩
            · skip
              by_cases h_251_256 : i < 253
              · skip
                by_cases h_251_253 : i < 252
                · skip
                  obtain rfl : i = 251 := by omega
                  exact ⟨zd_251, ze_251⟩
                · skip
                  obtain rfl : i = 252 := by omega
                  exact ⟨zd_252, ze_252⟩
              · skip
                by_cases h_253_256 : i < 254
                · skip
                  obtain rfl : i = 253 := by omega
                  exact ⟨zd_253, ze_253⟩
                · skip
                  by_cases h_254_256 : i < 255
                  · skip
                    obtain rfl : i = 254 := by omega
                    exact ⟨zd_254, ze_254⟩
                  · skip
                    obtain rfl : i = 255 := by omega
                    exact ⟨zd_255, ze_255⟩
        · skip
          by_cases h_256_274 : i < 265
          · skip
            by_cases h_256_265 : i < 260
            · skip
              by_cases h_256_260 : i < 258
              · skip
                by_cases h_256_258 : i < 257
                · skip
                  obtain rfl : i = 256 := by omega
                  exact ⟨zd_256, ze_256⟩
                · skip
                  obtain rfl : i = 257 := by omega
                  exact ⟨zd_257, ze_257⟩
              · skip
                by_cases h_258_260 : i < 259
                · skip
                  obtain rfl : i = 258 := by omega
                  exact ⟨zd_258, ze_258⟩
                · skip
                  obtain rfl : i = 259 := by omega
                  exact ⟨zd_259, ze_259⟩
            · skip
              by_cases h_260_265 : i < 262
              · skip
                by_cases h_260_262 : i < 261
                · skip
                  obtain rfl : i = 260 := by omega
                  exact ⟨zd_260, ze_260⟩
                · skip
                  obtain rfl : i = 261 := by omega
                  exact ⟨zd_261, ze_261⟩
              · skip
                by_cases h_262_265 : i < 263
                · skip
                  obtain rfl : i = 262 := by omega
                  exact ⟨zd_262, ze_262⟩
                · skip
                  by_cases h_263_265 : i < 264
                  · skip
                    obtain rfl : i = 263 := by omega
                    exact ⟨zd_263, ze_263⟩
                  · skip
                    obtain rfl : i = 264 := by omega
                    exact ⟨zd_264, ze_264⟩
          · skip
            by_cases h_265_274 : i < 269
            · skip
              by_cases h_265_269 : i < 267
              · skip
                by_cases h_265_267 : i < 266
                · skip
                  obtain rfl : i = 265 := by omega
                  exact ⟨zd_265, ze_265⟩
                · skip
                  obtain rfl : i = 266 := by omega
                  exact ⟨zd_266, ze_266⟩
              · skip
                by_cases h_267_269 : i < 268
                · skip
                  obtain rfl : i = 267 := by omega
                  exact ⟨zd_267, ze_267⟩
                · skip
                  obtain rfl : i = 268 := by omega
                  exact ⟨zd_268, ze_268⟩
            · skip
              by_cases h_269_274 : i < 271
              · skip
                by_cases h_269_271 : i < 270
                · skip
                  obtain rfl : i = 269 := by omega
                  exact ⟨zd_269, ze_269⟩
                · skip
                  obtain rfl : i = 270 := by omega
                  exact ⟨zd_270, ze_270⟩
              · skip
                by_cases h_271_274 : i < 272
                · skip
                  obtain rfl : i = 271 := by omega
                  exact ⟨zd_271, ze_271⟩
                · skip
                  by_cases h_272_274 : i < 273
                  · skip
                    obtain rfl : i = 272 := by omega
                    exact ⟨zd_272, ze_272⟩
                  · skip
                    obtain rfl : i = 273 := by omega
                    exact ⟨zd_273, ze_273⟩
