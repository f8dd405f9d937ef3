theorem d_Mo_lookAtOne_0 : decode b_Mo_lookAtOne 0 = .ok (.bipush 12, 2) := by decide +kernel
theorem d_Mo_lookAtOne_2 : decode b_Mo_lookAtOne 2 = .ok (.iload_n 1, 1) := by decide +kernel
theorem d_Mo_lookAtOne_3 : decode b_Mo_lookAtOne 3 = .ok (.imul, 1) := by decide +kernel
theorem d_Mo_lookAtOne_4 : decode b_Mo_lookAtOne 4 = .ok (.iload_n 2, 1) := by decide +kernel
theorem d_Mo_lookAtOne_5 : decode b_Mo_lookAtOne 5 = .ok (.iadd, 1) := by decide +kernel
theorem d_Mo_lookAtOne_6 : decode b_Mo_lookAtOne 6 = .ok (.istore 4, 2) := by decide +kernel
theorem d_Mo_lookAtOne_8 : decode b_Mo_lookAtOne 8 = .ok (.sipush 4800, 3) := by decide +kernel
theorem d_Mo_lookAtOne_11 : decode b_Mo_lookAtOne 11 = .ok (.iload_n 1, 1) := by decide +kernel
theorem d_Mo_lookAtOne_12 : decode b_Mo_lookAtOne 12 = .ok (.imul, 1) := by decide +kernel
theorem d_Mo_lookAtOne_13 : decode b_Mo_lookAtOne 13 = .ok (.sipush 400, 3) := by decide +kernel
theorem d_Mo_lookAtOne_16 : decode b_Mo_lookAtOne 16 = .ok (.iload_n 2, 1) := by decide +kernel
theorem d_Mo_lookAtOne_17 : decode b_Mo_lookAtOne 17 = .ok (.imul, 1) := by decide +kernel
theorem d_Mo_lookAtOne_18 : decode b_Mo_lookAtOne 18 = .ok (.iadd, 1) := by decide +kernel
theorem d_Mo_lookAtOne_19 : decode b_Mo_lookAtOne 19 = .ok (.iload_n 3, 1) := by decide +kernel
theorem d_Mo_lookAtOne_20 : decode b_Mo_lookAtOne 20 = .ok (.iadd, 1) := by decide +kernel
theorem d_Mo_lookAtOne_21 : decode b_Mo_lookAtOne 21 = .ok (.istore 5, 2) := by decide +kernel
theorem d_Mo_lookAtOne_23 : decode b_Mo_lookAtOne 23 = .ok (.aload_n 0, 1) := by decide +kernel
theorem d_Mo_lookAtOne_24 : decode b_Mo_lookAtOne 24 = .ok (.getfield 41, 3) := by decide +kernel
theorem d_Mo_lookAtOne_27 : decode b_Mo_lookAtOne 27 = .ok (.iload 5, 2) := by decide +kernel
theorem d_Mo_lookAtOne_29 : decode b_Mo_lookAtOne 29 = .ok (.iaload, 1) := by decide +kernel
theorem d_Mo_lookAtOne_30 : decode b_Mo_lookAtOne 30 = .ok (.istore 6, 2) := by decide +kernel
theorem d_Mo_lookAtOne_32 : decode b_Mo_lookAtOne 32 = .ok (.aload_n 0, 1) := by decide +kernel
theorem d_Mo_lookAtOne_33 : decode b_Mo_lookAtOne 33 = .ok (.aload_n 0, 1) := by decide +kernel
theorem d_Mo_lookAtOne_34 : decode b_Mo_lookAtOne 34 = .ok (.getfield 63, 3) := by decide +kernel
theorem d_Mo_lookAtOne_37 : decode b_Mo_lookAtOne 37 = .ok (.iload 5, 2) := by decide +kernel
theorem d_Mo_lookAtOne_39 : decode b_Mo_lookAtOne 39 = .ok (.iaload, 1) := by decide +kernel
theorem d_Mo_lookAtOne_40 : decode b_Mo_lookAtOne 40 = .ok (.putfield 132, 3) := by decide +kernel
theorem d_Mo_lookAtOne_43 : decode b_Mo_lookAtOne 43 = .ok (.aload_n 0, 1) := by decide +kernel
theorem d_Mo_lookAtOne_44 : decode b_Mo_lookAtOne 44 = .ok (.aload_n 0, 1) := by decide +kernel
theorem d_Mo_lookAtOne_45 : decode b_Mo_lookAtOne 45 = .ok (.getfield 66, 3) := by decide +kernel
theorem d_Mo_lookAtOne_48 : decode b_Mo_lookAtOne 48 = .ok (.iload 5, 2) := by decide +kernel
theorem d_Mo_lookAtOne_50 : decode b_Mo_lookAtOne 50 = .ok (.iaload, 1) := by decide +kernel
theorem d_Mo_lookAtOne_51 : decode b_Mo_lookAtOne 51 = .ok (.putfield 135, 3) := by decide +kernel
theorem d_Mo_lookAtOne_54 : decode b_Mo_lookAtOne 54 = .ok (.aload_n 0, 1) := by decide +kernel
theorem d_Mo_lookAtOne_55 : decode b_Mo_lookAtOne 55 = .ok (.iload_n 1, 1) := by decide +kernel
theorem d_Mo_lookAtOne_56 : decode b_Mo_lookAtOne 56 = .ok (.iload_n 2, 1) := by decide +kernel
theorem d_Mo_lookAtOne_57 : decode b_Mo_lookAtOne 57 = .ok (.iload 6, 2) := by decide +kernel
theorem d_Mo_lookAtOne_59 : decode b_Mo_lookAtOne 59 = .ok (.aload_n 0, 1) := by decide +kernel
theorem d_Mo_lookAtOne_60 : decode b_Mo_lookAtOne 60 = .ok (.getfield 44, 3) := by decide +kernel
theorem d_Mo_lookAtOne_63 : decode b_Mo_lookAtOne 63 = .ok (.iload 5, 2) := by decide +kernel
theorem d_Mo_lookAtOne_65 : decode b_Mo_lookAtOne 65 = .ok (.iaload, 1) := by decide +kernel
theorem d_Mo_lookAtOne_66 : decode b_Mo_lookAtOne 66 = .ok (.invokevirtual 161, 3) := by decide +kernel
theorem d_Mo_lookAtOne_69 : decode b_Mo_lookAtOne 69 = .ok (.ifCond .ne 18, 3) := by decide +kernel
theorem d_Mo_lookAtOne_72 : decode b_Mo_lookAtOne 72 = .ok (.aload_n 0, 1) := by decide +kernel
theorem d_Mo_lookAtOne_73 : decode b_Mo_lookAtOne 73 = .ok (.iconst 5, 1) := by decide +kernel
theorem d_Mo_lookAtOne_74 : decode b_Mo_lookAtOne 74 = .ok (.sipush 512, 3) := by decide +kernel
theorem d_Mo_lookAtOne_77 : decode b_Mo_lookAtOne 77 = .ok (.iload_n 2, 1) := by decide +kernel
theorem d_Mo_lookAtOne_78 : decode b_Mo_lookAtOne 78 = .ok (.imul, 1) := by decide +kernel
theorem d_Mo_lookAtOne_79 : decode b_Mo_lookAtOne 79 = .ok (.iload_n 3, 1) := by decide +kernel
theorem d_Mo_lookAtOne_80 : decode b_Mo_lookAtOne 80 = .ok (.iadd, 1) := by decide +kernel
theorem d_Mo_lookAtOne_81 : decode b_Mo_lookAtOne 81 = .ok (.invokevirtual 96, 3) := by decide +kernel
theorem d_Mo_lookAtOne_84 : decode b_Mo_lookAtOne 84 = .ok (.goto 25, 3) := by decide +kernel
theorem d_Mo_lookAtOne_87 : decode b_Mo_lookAtOne 87 = .ok (.aload_n 0, 1) := by decide +kernel
theorem d_Mo_lookAtOne_88 : decode b_Mo_lookAtOne 88 = .ok (.getfield 132, 3) := by decide +kernel
theorem d_Mo_lookAtOne_91 : decode b_Mo_lookAtOne 91 = .ok (.bipush 16, 2) := by decide +kernel
theorem d_Mo_lookAtOne_93 : decode b_Mo_lookAtOne 93 = .ok (.if_icmp .le 16, 3) := by decide +kernel
theorem d_Mo_lookAtOne_96 : decode b_Mo_lookAtOne 96 = .ok (.aload_n 0, 1) := by decide +kernel
theorem d_Mo_lookAtOne_97 : decode b_Mo_lookAtOne 97 = .ok (.bipush 6, 2) := by decide +kernel
theorem d_Mo_lookAtOne_99 : decode b_Mo_lookAtOne 99 = .ok (.sipush 512, 3) := by decide +kernel
theorem d_Mo_lookAtOne_102 : decode b_Mo_lookAtOne 102 = .ok (.iload_n 2, 1) := by decide +kernel
theorem d_Mo_lookAtOne_103 : decode b_Mo_lookAtOne 103 = .ok (.imul, 1) := by decide +kernel
theorem d_Mo_lookAtOne_104 : decode b_Mo_lookAtOne 104 = .ok (.iload_n 3, 1) := by decide +kernel
theorem d_Mo_lookAtOne_105 : decode b_Mo_lookAtOne 105 = .ok (.iadd, 1) := by decide +kernel
theorem d_Mo_lookAtOne_106 : decode b_Mo_lookAtOne 106 = .ok (.invokevirtual 96, 3) := by decide +kernel
theorem d_Mo_lookAtOne_109 : decode b_Mo_lookAtOne 109 = .ok (.aload_n 0, 1) := by decide +kernel
theorem d_Mo_lookAtOne_110 : decode b_Mo_lookAtOne 110 = .ok (.getfield 79, 3) := by decide +kernel
theorem d_Mo_lookAtOne_113 : decode b_Mo_lookAtOne 113 = .ok (.ifCond .le 4, 3) := by decide +kernel
theorem d_Mo_lookAtOne_116 : decode b_Mo_lookAtOne 116 = .ok (.return_, 1) := by decide +kernel
theorem d_Mo_lookAtOne_117 : decode b_Mo_lookAtOne 117 = .ok (.aload_n 0, 1) := by decide +kernel
theorem d_Mo_lookAtOne_118 : decode b_Mo_lookAtOne 118 = .ok (.getfield 132, 3) := by decide +kernel
theorem d_Mo_lookAtOne_121 : decode b_Mo_lookAtOne 121 = .ok (.istore 7, 2) := by decide +kernel
theorem d_Mo_lookAtOne_123 : decode b_Mo_lookAtOne 123 = .ok (.aload_n 0, 1) := by decide +kernel
theorem d_Mo_lookAtOne_124 : decode b_Mo_lookAtOne 124 = .ok (.getfield 135, 3) := by decide +kernel
theorem d_Mo_lookAtOne_127 : decode b_Mo_lookAtOne 127 = .ok (.istore 8, 2) := by decide +kernel
theorem d_Mo_lookAtOne_129 : decode b_Mo_lookAtOne 129 = .ok (.bipush 72, 2) := by decide +kernel
theorem d_Mo_lookAtOne_131 : decode b_Mo_lookAtOne 131 = .ok (.iload_n 1, 1) := by decide +kernel
theorem d_Mo_lookAtOne_132 : decode b_Mo_lookAtOne 132 = .ok (.imul, 1) := by decide +kernel
theorem d_Mo_lookAtOne_133 : decode b_Mo_lookAtOne 133 = .ok (.bipush 6, 2) := by decide +kernel
theorem d_Mo_lookAtOne_135 : decode b_Mo_lookAtOne 135 = .ok (.iload_n 2, 1) := by decide +kernel
theorem d_Mo_lookAtOne_136 : decode b_Mo_lookAtOne 136 = .ok (.imul, 1) := by decide +kernel
theorem d_Mo_lookAtOne_137 : decode b_Mo_lookAtOne 137 = .ok (.iadd, 1) := by decide +kernel
theorem d_Mo_lookAtOne_138 : decode b_Mo_lookAtOne 138 = .ok (.istore 9, 2) := by decide +kernel
theorem d_Mo_lookAtOne_140 : decode b_Mo_lookAtOne 140 = .ok (.iload 9, 2) := by decide +kernel
theorem d_Mo_lookAtOne_142 : decode b_Mo_lookAtOne 142 = .ok (.bipush 72, 2) := by decide +kernel
theorem d_Mo_lookAtOne_144 : decode b_Mo_lookAtOne 144 = .ok (.iload_n 1, 1) := by decide +kernel
theorem d_Mo_lookAtOne_145 : decode b_Mo_lookAtOne 145 = .ok (.imul, 1) := by decide +kernel
theorem d_Mo_lookAtOne_146 : decode b_Mo_lookAtOne 146 = .ok (.bipush 6, 2) := by decide +kernel
theorem d_Mo_lookAtOne_148 : decode b_Mo_lookAtOne 148 = .ok (.iload_n 2, 1) := by decide +kernel
theorem d_Mo_lookAtOne_149 : decode b_Mo_lookAtOne 149 = .ok (.imul, 1) := by decide +kernel
theorem d_Mo_lookAtOne_150 : decode b_Mo_lookAtOne 150 = .ok (.iadd, 1) := by decide +kernel
theorem d_Mo_lookAtOne_151 : decode b_Mo_lookAtOne 151 = .ok (.aload_n 0, 1) := by decide +kernel
theorem d_Mo_lookAtOne_152 : decode b_Mo_lookAtOne 152 = .ok (.getfield 38, 3) := by decide +kernel
theorem d_Mo_lookAtOne_155 : decode b_Mo_lookAtOne 155 = .ok (.iload 4, 2) := by decide +kernel
theorem d_Mo_lookAtOne_157 : decode b_Mo_lookAtOne 157 = .ok (.iaload, 1) := by decide +kernel
theorem d_Mo_lookAtOne_158 : decode b_Mo_lookAtOne 158 = .ok (.iadd, 1) := by decide +kernel
theorem d_Mo_lookAtOne_159 : decode b_Mo_lookAtOne 159 = .ok (.if_icmp .ge 53, 3) := by decide +kernel
theorem d_Mo_lookAtOne_162 : decode b_Mo_lookAtOne 162 = .ok (.aload_n 0, 1) := by decide +kernel
theorem d_Mo_lookAtOne_163 : decode b_Mo_lookAtOne 163 = .ok (.getfield 79, 3) := by decide +kernel
theorem d_Mo_lookAtOne_166 : decode b_Mo_lookAtOne 166 = .ok (.ifCond .ne 46, 3) := by decide +kernel
theorem d_Mo_lookAtOne_169 : decode b_Mo_lookAtOne 169 = .ok (.aload_n 0, 1) := by decide +kernel
theorem d_Mo_lookAtOne_170 : decode b_Mo_lookAtOne 170 = .ok (.getfield 47, 3) := by decide +kernel
theorem d_Mo_lookAtOne_173 : decode b_Mo_lookAtOne 173 = .ok (.iload 9, 2) := by decide +kernel
theorem d_Mo_lookAtOne_175 : decode b_Mo_lookAtOne 175 = .ok (.iaload, 1) := by decide +kernel
theorem d_Mo_lookAtOne_176 : decode b_Mo_lookAtOne 176 = .ok (.iload_n 3, 1) := by decide +kernel
theorem d_Mo_lookAtOne_177 : decode b_Mo_lookAtOne 177 = .ok (.if_icmp .gt 29, 3) := by decide +kernel
theorem d_Mo_lookAtOne_180 : decode b_Mo_lookAtOne 180 = .ok (.iload_n 3, 1) := by decide +kernel
theorem d_Mo_lookAtOne_181 : decode b_Mo_lookAtOne 181 = .ok (.aload_n 0, 1) := by decide +kernel
theorem d_Mo_lookAtOne_182 : decode b_Mo_lookAtOne 182 = .ok (.getfield 50, 3) := by decide +kernel
theorem d_Mo_lookAtOne_185 : decode b_Mo_lookAtOne 185 = .ok (.iload 9, 2) := by decide +kernel
theorem d_Mo_lookAtOne_187 : decode b_Mo_lookAtOne 187 = .ok (.iaload, 1) := by decide +kernel
theorem d_Mo_lookAtOne_188 : decode b_Mo_lookAtOne 188 = .ok (.if_icmp .ge 18, 3) := by decide +kernel
theorem d_Mo_lookAtOne_191 : decode b_Mo_lookAtOne 191 = .ok (.aload_n 0, 1) := by decide +kernel
theorem d_Mo_lookAtOne_192 : decode b_Mo_lookAtOne 192 = .ok (.iload_n 1, 1) := by decide +kernel
theorem d_Mo_lookAtOne_193 : decode b_Mo_lookAtOne 193 = .ok (.iload_n 2, 1) := by decide +kernel
theorem d_Mo_lookAtOne_194 : decode b_Mo_lookAtOne 194 = .ok (.aload_n 0, 1) := by decide +kernel
theorem d_Mo_lookAtOne_195 : decode b_Mo_lookAtOne 195 = .ok (.getfield 53, 3) := by decide +kernel
theorem d_Mo_lookAtOne_198 : decode b_Mo_lookAtOne 198 = .ok (.iload 9, 2) := by decide +kernel
theorem d_Mo_lookAtOne_200 : decode b_Mo_lookAtOne 200 = .ok (.iaload, 1) := by decide +kernel
theorem d_Mo_lookAtOne_201 : decode b_Mo_lookAtOne 201 = .ok (.iconst 1, 1) := by decide +kernel
theorem d_Mo_lookAtOne_202 : decode b_Mo_lookAtOne 202 = .ok (.iconst 0, 1) := by decide +kernel
theorem d_Mo_lookAtOne_203 : decode b_Mo_lookAtOne 203 = .ok (.invokevirtual 153, 3) := by decide +kernel
theorem d_Mo_lookAtOne_206 : decode b_Mo_lookAtOne 206 = .ok (.iinc 9 1, 3) := by decide +kernel
theorem d_Mo_lookAtOne_209 : decode b_Mo_lookAtOne 209 = .ok (.goto (-69), 3) := by decide +kernel
theorem d_Mo_lookAtOne_212 : decode b_Mo_lookAtOne 212 = .ok (.iload 6, 2) := by decide +kernel
theorem d_Mo_lookAtOne_214 : decode b_Mo_lookAtOne 214 = .ok (.bipush 17, 2) := by decide +kernel
theorem d_Mo_lookAtOne_216 : decode b_Mo_lookAtOne 216 = .ok (.if_icmp .le 34, 3) := by decide +kernel
theorem d_Mo_lookAtOne_219 : decode b_Mo_lookAtOne 219 = .ok (.iload 6, 2) := by decide +kernel
theorem d_Mo_lookAtOne_221 : decode b_Mo_lookAtOne 221 = .ok (.bipush 21, 2) := by decide +kernel
theorem d_Mo_lookAtOne_223 : decode b_Mo_lookAtOne 223 = .ok (.if_icmp .ge 27, 3) := by decide +kernel
theorem d_Mo_lookAtOne_226 : decode b_Mo_lookAtOne 226 = .ok (.aload_n 0, 1) := by decide +kernel
theorem d_Mo_lookAtOne_227 : decode b_Mo_lookAtOne 227 = .ok (.getfield 79, 3) := by decide +kernel
theorem d_Mo_lookAtOne_230 : decode b_Mo_lookAtOne 230 = .ok (.ifCond .ne 20, 3) := by decide +kernel
theorem d_Mo_lookAtOne_233 : decode b_Mo_lookAtOne 233 = .ok (.aload_n 0, 1) := by decide +kernel
theorem d_Mo_lookAtOne_234 : decode b_Mo_lookAtOne 234 = .ok (.iload_n 1, 1) := by decide +kernel
theorem d_Mo_lookAtOne_235 : decode b_Mo_lookAtOne 235 = .ok (.iload_n 2, 1) := by decide +kernel
theorem d_Mo_lookAtOne_236 : decode b_Mo_lookAtOne 236 = .ok (.aload_n 0, 1) := by decide +kernel
theorem d_Mo_lookAtOne_237 : decode b_Mo_lookAtOne 237 = .ok (.getfield 44, 3) := by decide +kernel
theorem d_Mo_lookAtOne_240 : decode b_Mo_lookAtOne 240 = .ok (.iload 5, 2) := by decide +kernel
theorem d_Mo_lookAtOne_242 : decode b_Mo_lookAtOne 242 = .ok (.iaload, 1) := by decide +kernel
theorem d_Mo_lookAtOne_243 : decode b_Mo_lookAtOne 243 = .ok (.iload 7, 2) := by decide +kernel
theorem d_Mo_lookAtOne_245 : decode b_Mo_lookAtOne 245 = .ok (.iload 8, 2) := by decide +kernel
theorem d_Mo_lookAtOne_247 : decode b_Mo_lookAtOne 247 = .ok (.invokevirtual 153, 3) := by decide +kernel
theorem d_Mo_lookAtOne_250 : decode b_Mo_lookAtOne 250 = .ok (.iload 6, 2) := by decide +kernel
theorem d_Mo_lookAtOne_252 : decode b_Mo_lookAtOne 252 = .ok (.bipush 18, 2) := by decide +kernel
theorem d_Mo_lookAtOne_254 : decode b_Mo_lookAtOne 254 = .ok (.if_icmp .eq 66, 3) := by decide +kernel
theorem d_Mo_lookAtOne_257 : decode b_Mo_lookAtOne 257 = .ok (.iload 6, 2) := by decide +kernel
theorem d_Mo_lookAtOne_259 : decode b_Mo_lookAtOne 259 = .ok (.bipush 27, 2) := by decide +kernel
theorem d_Mo_lookAtOne_261 : decode b_Mo_lookAtOne 261 = .ok (.if_icmp .eq 59, 3) := by decide +kernel
theorem d_Mo_lookAtOne_264 : decode b_Mo_lookAtOne 264 = .ok (.iload 6, 2) := by decide +kernel
theorem d_Mo_lookAtOne_266 : decode b_Mo_lookAtOne 266 = .ok (.bipush 28, 2) := by decide +kernel
theorem d_Mo_lookAtOne_268 : decode b_Mo_lookAtOne 268 = .ok (.if_icmp .eq 52, 3) := by decide +kernel
theorem d_Mo_lookAtOne_271 : decode b_Mo_lookAtOne 271 = .ok (.aload_n 0, 1) := by decide +kernel
theorem d_Mo_lookAtOne_272 : decode b_Mo_lookAtOne 272 = .ok (.getfield 79, 3) := by decide +kernel
theorem d_Mo_lookAtOne_275 : decode b_Mo_lookAtOne 275 = .ok (.ifCond .ne 45, 3) := by decide +kernel
theorem d_Mo_lookAtOne_278 : decode b_Mo_lookAtOne 278 = .ok (.iload_n 3, 1) := by decide +kernel
theorem d_Mo_lookAtOne_279 : decode b_Mo_lookAtOne 279 = .ok (.iconst 1, 1) := by decide +kernel
theorem d_Mo_lookAtOne_280 : decode b_Mo_lookAtOne 280 = .ok (.iadd, 1) := by decide +kernel
theorem d_Mo_lookAtOne_281 : decode b_Mo_lookAtOne 281 = .ok (.aload_n 0, 1) := by decide +kernel
theorem d_Mo_lookAtOne_282 : decode b_Mo_lookAtOne 282 = .ok (.getfield 35, 3) := by decide +kernel
theorem d_Mo_lookAtOne_285 : decode b_Mo_lookAtOne 285 = .ok (.iload 4, 2) := by decide +kernel
theorem d_Mo_lookAtOne_287 : decode b_Mo_lookAtOne 287 = .ok (.iaload, 1) := by decide +kernel
theorem d_Mo_lookAtOne_288 : decode b_Mo_lookAtOne 288 = .ok (.if_icmp .ne 19, 3) := by decide +kernel
theorem d_Mo_lookAtOne_291 : decode b_Mo_lookAtOne 291 = .ok (.aload_n 0, 1) := by decide +kernel
theorem d_Mo_lookAtOne_292 : decode b_Mo_lookAtOne 292 = .ok (.bipush 8, 2) := by decide +kernel
theorem d_Mo_lookAtOne_294 : decode b_Mo_lookAtOne 294 = .ok (.sipush 512, 3) := by decide +kernel
theorem d_Mo_lookAtOne_297 : decode b_Mo_lookAtOne 297 = .ok (.iload_n 2, 1) := by decide +kernel
theorem d_Mo_lookAtOne_298 : decode b_Mo_lookAtOne 298 = .ok (.imul, 1) := by decide +kernel
theorem d_Mo_lookAtOne_299 : decode b_Mo_lookAtOne 299 = .ok (.iload_n 3, 1) := by decide +kernel
theorem d_Mo_lookAtOne_300 : decode b_Mo_lookAtOne 300 = .ok (.iadd, 1) := by decide +kernel
theorem d_Mo_lookAtOne_301 : decode b_Mo_lookAtOne 301 = .ok (.invokevirtual 96, 3) := by decide +kernel
theorem d_Mo_lookAtOne_304 : decode b_Mo_lookAtOne 304 = .ok (.goto 16, 3) := by decide +kernel
theorem d_Mo_lookAtOne_307 : decode b_Mo_lookAtOne 307 = .ok (.aload_n 0, 1) := by decide +kernel
theorem d_Mo_lookAtOne_308 : decode b_Mo_lookAtOne 308 = .ok (.iload_n 1, 1) := by decide +kernel
theorem d_Mo_lookAtOne_309 : decode b_Mo_lookAtOne 309 = .ok (.iload_n 2, 1) := by decide +kernel
theorem d_Mo_lookAtOne_310 : decode b_Mo_lookAtOne 310 = .ok (.iload_n 3, 1) := by decide +kernel
theorem d_Mo_lookAtOne_311 : decode b_Mo_lookAtOne 311 = .ok (.iconst 1, 1) := by decide +kernel
theorem d_Mo_lookAtOne_312 : decode b_Mo_lookAtOne 312 = .ok (.iadd, 1) := by decide +kernel
theorem d_Mo_lookAtOne_313 : decode b_Mo_lookAtOne 313 = .ok (.iload 7, 2) := by decide +kernel
theorem d_Mo_lookAtOne_315 : decode b_Mo_lookAtOne 315 = .ok (.iload 8, 2) := by decide +kernel
theorem d_Mo_lookAtOne_317 : decode b_Mo_lookAtOne 317 = .ok (.invokevirtual 153, 3) := by decide +kernel
theorem d_Mo_lookAtOne_320 : decode b_Mo_lookAtOne 320 = .ok (.return_, 1) := by decide +kernel
theorem d_Mo_verify_0 : decode b_Mo_verify 0 = .ok (.bipush 12, 2) := by decide +kernel
theorem d_Mo_verify_2 : decode b_Mo_verify 2 = .ok (.iload_n 1, 1) := by decide +kernel
theorem d_Mo_verify_3 : decode b_Mo_verify 3 = .ok (.imul, 1) := by decide +kernel
theorem d_Mo_verify_4 : decode b_Mo_verify 4 = .ok (.iload_n 2, 1) := by decide +kernel
theorem d_Mo_verify_5 : decode b_Mo_verify 5 = .ok (.iadd, 1) := by decide +kernel
theorem d_Mo_verify_6 : decode b_Mo_verify 6 = .ok (.istore_n 3, 1) := by decide +kernel
theorem d_Mo_verify_7 : decode b_Mo_verify 7 = .ok (.iconst 0, 1) := by decide +kernel
theorem d_Mo_verify_8 : decode b_Mo_verify 8 = .ok (.istore 4, 2) := by decide +kernel
theorem d_Mo_verify_10 : decode b_Mo_verify 10 = .ok (.iload 4, 2) := by decide +kernel
theorem d_Mo_verify_12 : decode b_Mo_verify 12 = .ok (.sipush 400, 3) := by decide +kernel
theorem d_Mo_verify_15 : decode b_Mo_verify 15 = .ok (.if_icmp .ge 57, 3) := by decide +kernel
theorem d_Mo_verify_18 : decode b_Mo_verify 18 = .ok (.aload_n 0, 1) := by decide +kernel
theorem d_Mo_verify_19 : decode b_Mo_verify 19 = .ok (.getfield 69, 3) := by decide +kernel
theorem d_Mo_verify_22 : decode b_Mo_verify 22 = .ok (.iload 4, 2) := by decide +kernel
theorem d_Mo_verify_24 : decode b_Mo_verify 24 = .ok (.iconst 0, 1) := by decide +kernel
theorem d_Mo_verify_25 : decode b_Mo_verify 25 = .ok (.bastore, 1) := by decide +kernel
theorem d_Mo_verify_26 : decode b_Mo_verify 26 = .ok (.aload_n 0, 1) := by decide +kernel
theorem d_Mo_verify_27 : decode b_Mo_verify 27 = .ok (.getfield 63, 3) := by decide +kernel
theorem d_Mo_verify_30 : decode b_Mo_verify 30 = .ok (.sipush 4800, 3) := by decide +kernel
theorem d_Mo_verify_33 : decode b_Mo_verify 33 = .ok (.iload_n 1, 1) := by decide +kernel
theorem d_Mo_verify_34 : decode b_Mo_verify 34 = .ok (.imul, 1) := by decide +kernel
theorem d_Mo_verify_35 : decode b_Mo_verify 35 = .ok (.sipush 400, 3) := by decide +kernel
theorem d_Mo_verify_38 : decode b_Mo_verify 38 = .ok (.iload_n 2, 1) := by decide +kernel
theorem d_Mo_verify_39 : decode b_Mo_verify 39 = .ok (.imul, 1) := by decide +kernel
theorem d_Mo_verify_40 : decode b_Mo_verify 40 = .ok (.iadd, 1) := by decide +kernel
theorem d_Mo_verify_41 : decode b_Mo_verify 41 = .ok (.iload 4, 2) := by decide +kernel
theorem d_Mo_verify_43 : decode b_Mo_verify 43 = .ok (.iadd, 1) := by decide +kernel
theorem d_Mo_verify_44 : decode b_Mo_verify 44 = .ok (.iconst (-1), 1) := by decide +kernel
theorem d_Mo_verify_45 : decode b_Mo_verify 45 = .ok (.iastore, 1) := by decide +kernel
theorem d_Mo_verify_46 : decode b_Mo_verify 46 = .ok (.aload_n 0, 1) := by decide +kernel
theorem d_Mo_verify_47 : decode b_Mo_verify 47 = .ok (.getfield 66, 3) := by decide +kernel
theorem d_Mo_verify_50 : decode b_Mo_verify 50 = .ok (.sipush 4800, 3) := by decide +kernel
theorem d_Mo_verify_53 : decode b_Mo_verify 53 = .ok (.iload_n 1, 1) := by decide +kernel
theorem d_Mo_verify_54 : decode b_Mo_verify 54 = .ok (.imul, 1) := by decide +kernel
theorem d_Mo_verify_55 : decode b_Mo_verify 55 = .ok (.sipush 400, 3) := by decide +kernel
theorem d_Mo_verify_58 : decode b_Mo_verify 58 = .ok (.iload_n 2, 1) := by decide +kernel
theorem d_Mo_verify_59 : decode b_Mo_verify 59 = .ok (.imul, 1) := by decide +kernel
theorem d_Mo_verify_60 : decode b_Mo_verify 60 = .ok (.iadd, 1) := by decide +kernel
theorem d_Mo_verify_61 : decode b_Mo_verify 61 = .ok (.iload 4, 2) := by decide +kernel
theorem d_Mo_verify_63 : decode b_Mo_verify 63 = .ok (.iadd, 1) := by decide +kernel
theorem d_Mo_verify_64 : decode b_Mo_verify 64 = .ok (.iconst 0, 1) := by decide +kernel
theorem d_Mo_verify_65 : decode b_Mo_verify 65 = .ok (.iastore, 1) := by decide +kernel
theorem d_Mo_verify_66 : decode b_Mo_verify 66 = .ok (.iinc 4 1, 3) := by decide +kernel
theorem d_Mo_verify_69 : decode b_Mo_verify 69 = .ok (.goto (-59), 3) := by decide +kernel
theorem d_Mo_verify_72 : decode b_Mo_verify 72 = .ok (.aload_n 0, 1) := by decide +kernel
theorem d_Mo_verify_73 : decode b_Mo_verify 73 = .ok (.iload_n 1, 1) := by decide +kernel
theorem d_Mo_verify_74 : decode b_Mo_verify 74 = .ok (.iload_n 2, 1) := by decide +kernel
theorem d_Mo_verify_75 : decode b_Mo_verify 75 = .ok (.iconst 0, 1) := by decide +kernel
theorem d_Mo_verify_76 : decode b_Mo_verify 76 = .ok (.iconst 0, 1) := by decide +kernel
theorem d_Mo_verify_77 : decode b_Mo_verify 77 = .ok (.iconst 0, 1) := by decide +kernel
theorem d_Mo_verify_78 : decode b_Mo_verify 78 = .ok (.invokevirtual 153, 3) := by decide +kernel
theorem d_Mo_verify_81 : decode b_Mo_verify 81 = .ok (.iconst 0, 1) := by decide +kernel
theorem d_Mo_verify_82 : decode b_Mo_verify 82 = .ok (.istore 4, 2) := by decide +kernel
theorem d_Mo_verify_84 : decode b_Mo_verify 84 = .ok (.aload_n 0, 1) := by decide +kernel
theorem d_Mo_verify_85 : decode b_Mo_verify 85 = .ok (.getfield 79, 3) := by decide +kernel
theorem d_Mo_verify_88 : decode b_Mo_verify 88 = .ok (.ifCond .ne 52, 3) := by decide +kernel
theorem d_Mo_verify_91 : decode b_Mo_verify 91 = .ok (.iload 4, 2) := by decide +kernel
theorem d_Mo_verify_93 : decode b_Mo_verify 93 = .ok (.aload_n 0, 1) := by decide +kernel
theorem d_Mo_verify_94 : decode b_Mo_verify 94 = .ok (.getfield 35, 3) := by decide +kernel
theorem d_Mo_verify_97 : decode b_Mo_verify 97 = .ok (.iload_n 3, 1) := by decide +kernel
theorem d_Mo_verify_98 : decode b_Mo_verify 98 = .ok (.iaload, 1) := by decide +kernel
theorem d_Mo_verify_99 : decode b_Mo_verify 99 = .ok (.if_icmp .ge 41, 3) := by decide +kernel
theorem d_Mo_verify_102 : decode b_Mo_verify 102 = .ok (.aload_n 0, 1) := by decide +kernel
theorem d_Mo_verify_103 : decode b_Mo_verify 103 = .ok (.getfield 69, 3) := by decide +kernel
theorem d_Mo_verify_106 : decode b_Mo_verify 106 = .ok (.iload 4, 2) := by decide +kernel
theorem d_Mo_verify_108 : decode b_Mo_verify 108 = .ok (.baload, 1) := by decide +kernel
theorem d_Mo_verify_109 : decode b_Mo_verify 109 = .ok (.ifCond .eq 25, 3) := by decide +kernel
theorem d_Mo_verify_112 : decode b_Mo_verify 112 = .ok (.aload_n 0, 1) := by decide +kernel
theorem d_Mo_verify_113 : decode b_Mo_verify 113 = .ok (.getfield 69, 3) := by decide +kernel
theorem d_Mo_verify_116 : decode b_Mo_verify 116 = .ok (.iload 4, 2) := by decide +kernel
theorem d_Mo_verify_118 : decode b_Mo_verify 118 = .ok (.iconst 0, 1) := by decide +kernel
theorem d_Mo_verify_119 : decode b_Mo_verify 119 = .ok (.bastore, 1) := by decide +kernel
theorem d_Mo_verify_120 : decode b_Mo_verify 120 = .ok (.aload_n 0, 1) := by decide +kernel
theorem d_Mo_verify_121 : decode b_Mo_verify 121 = .ok (.iload_n 1, 1) := by decide +kernel
theorem d_Mo_verify_122 : decode b_Mo_verify 122 = .ok (.iload_n 2, 1) := by decide +kernel
theorem d_Mo_verify_123 : decode b_Mo_verify 123 = .ok (.iload 4, 2) := by decide +kernel
theorem d_Mo_verify_125 : decode b_Mo_verify 125 = .ok (.invokevirtual 157, 3) := by decide +kernel
theorem d_Mo_verify_128 : decode b_Mo_verify 128 = .ok (.iconst 0, 1) := by decide +kernel
theorem d_Mo_verify_129 : decode b_Mo_verify 129 = .ok (.istore 4, 2) := by decide +kernel
theorem d_Mo_verify_131 : decode b_Mo_verify 131 = .ok (.goto (-47), 3) := by decide +kernel
theorem d_Mo_verify_134 : decode b_Mo_verify 134 = .ok (.iinc 4 1, 3) := by decide +kernel
theorem d_Mo_verify_137 : decode b_Mo_verify 137 = .ok (.goto (-53), 3) := by decide +kernel
theorem d_Mo_verify_140 : decode b_Mo_verify 140 = .ok (.return_, 1) := by decide +kernel
set_option maxHeartbeats 4000000 in
set_option maxRecDepth 100000 in
theorem ml_Mo_lookAtOne_140 {p : Program} {l : Launch} {e : Env} {s : State} {m : MethodId} {args : Array Value} {below : List Frame} {meth : Method} {c : Code} {D : va_G} {dA : Nat → ClassId} {h0 h2 : hc_H} {C0 S0 : Nat} {b : Unit} (hC : hj_C p s m args meth c (gg D dA) b_Mo_lookAtOne 10 none R_Mo "lookAtOne" tb) (x0 : Option Nat) (x1 : Int32) (x2 : Int32) (x3 : Int32) (x4 : Int32) (x5 : Int32) (x6 : Int32) (x7 : Int32) (x8 : Int32) (kx : hM Unit) (hk : ∀  (h : hc_H) (C S : Nat), kx  h = some (b, C, S, h2) → hj_J p l e { frames := 3, cells := C0, slots := S0, locals := 73 } s m args below meth c (gg D dA) h0 10 (hj_Q below args s { frames := 3, cells := C0, slots := S0, locals := 73 } (gg D dA) h0 none h2) C S h 212 [(0, vr_ x0), (1, vi_ x1), (2, vi_ x2), (3, vi_ x3), (4, vi_ x4), (5, vi_ x5), (6, vi_ x6), (7, vi_ x7), (8, vi_ x8)] []) : ∀ (fu : Nat) (v9 : Int32) (h : hc_H) (C S : Nat), p_Mo_lookAtOne_140 x0 x1 x2 x3 x4 x5 x6 x7 x8 kx fu v9 h = some (b, C, S, h2) → hj_J p l e { frames := 3, cells := C0, slots := S0, locals := 73 } s m args below meth c (gg D dA) h0 10 (hj_Q below args s { frames := 3, cells := C0, slots := S0, locals := 73 } (gg D dA) h0 none h2) C S h 140 [(0, vr_ x0), (1, vi_ x1), (2, vi_ x2), (3, vi_ x3), (4, vi_ x4), (5, vi_ x5), (6, vi_ x6), (7, vi_ x7), (8, vi_ x8), (9, vi_ v9)] [] := by
  intro fu
  induction fu with
  | zero =>
    intro v9 h C S hr
    cases hr
  | succ fu ih =>
    intro v9 h C S hr
    rw [p_Mo_lookAtOne_140] at hr
    refine hj_iload hC 9 d_Mo_lookAtOne_140 rfl ?_
    refine hj_bipush hC (v := 72) d_Mo_lookAtOne_142 (by decide) ?_
    refine hj_iload_n hC 1 d_Mo_lookAtOne_144 rfl rfl ?_
    refine hj_imul hC d_Mo_lookAtOne_145 ?_
    refine hj_bipush hC (v := 6) d_Mo_lookAtOne_146 (by decide) ?_
    refine hj_iload_n hC 2 d_Mo_lookAtOne_148 rfl rfl ?_
    refine hj_imul hC d_Mo_lookAtOne_149 ?_
    refine hj_iadd hC d_Mo_lookAtOne_150 ?_
    refine hj_aload_n hC 0 d_Mo_lookAtOne_151 rfl rfl ?_
    refine hj_getr hC cf_Mo (k := 15) (by decide) wq_416 rfl d_Mo_lookAtOne_152 hr (fun a13 hr => ?_)
    refine hj_iload hC 4 d_Mo_lookAtOne_155 rfl ?_
    refine hj_iald hC (kd := 18) rfl d_Mo_lookAtOne_157 hr (fun a14 hr => ?_)
    refine hj_iadd hC d_Mo_lookAtOne_158 ?_
    refine hj_icmp_ge hC 212 d_Mo_lookAtOne_159 (by decide) hr (fun q159 hr => ?_) (fun q159 hr => ?_)
    · refine hj_sub (lv' := [(0, vr_ x0), (1, vi_ x1), (2, vi_ x2), (3, vi_ x3), (4, vi_ x4), (5, vi_ x5), (6, vi_ x6), (7, vi_ x7), (8, vi_ x8)]) [0, 1, 2, 3, 4, 5, 6, 7, 8] rfl ?_
      exact hk _ _ _ hr
    · refine hj_aload_n hC 0 d_Mo_lookAtOne_162 rfl rfl ?_
      refine hj_geti hC cf_Mo (k := 7) (by decide) wq_382 rfl d_Mo_lookAtOne_163 hr (fun a15 hr => ?_)
      refine hj_if_ne hC 212 d_Mo_lookAtOne_166 (by decide) hr (fun q166 hr => ?_) (fun q166 hr => ?_)
      · refine hj_sub (lv' := [(0, vr_ x0), (1, vi_ x1), (2, vi_ x2), (3, vi_ x3), (4, vi_ x4), (5, vi_ x5), (6, vi_ x6), (7, vi_ x7), (8, vi_ x8)]) [0, 1, 2, 3, 4, 5, 6, 7, 8] rfl ?_
        exact hk _ _ _ hr
      · refine hj_aload_n hC 0 d_Mo_lookAtOne_169 rfl rfl ?_
        refine hj_getr hC cf_Mo (k := 18) (by decide) wq_417 rfl d_Mo_lookAtOne_170 hr (fun a16 hr => ?_)
        refine hj_iload hC 9 d_Mo_lookAtOne_173 rfl ?_
        refine hj_iald hC (kd := 21) rfl d_Mo_lookAtOne_175 hr (fun a17 hr => ?_)
        refine hj_iload_n hC 3 d_Mo_lookAtOne_176 rfl rfl ?_
        refine hj_jn hC (K := hM Unit) (fun k => ∀  (h : hc_H) (C S : Nat), k  h = some (b, C, S, h2) → hj_J p l e { frames := 3, cells := C0, slots := S0, locals := 73 } s m args below meth c (gg D dA) h0 10 (hj_Q below args s { frames := 3, cells := C0, slots := S0, locals := 73 } (gg D dA) h0 none h2) C S h 206 [(0, vr_ x0), (1, vi_ x1), (2, vi_ x2), (3, vi_ x3), (4, vi_ x4), (5, vi_ x5), (6, vi_ x6), (7, vi_ x7), (8, vi_ x8), (9, vi_ v9)] []) hr (fun  h C S hr => ?_) (fun k206 hk206 hr => ?_)
        · refine hj_iinc hC (lv' := [(9, vi_ (v9 + 1)), (0, vr_ x0), (1, vi_ x1), (2, vi_ x2), (3, vi_ x3), (4, vi_ x4), (5, vi_ x5), (6, vi_ x6), (7, vi_ x7), (8, vi_ x8)]) 9 d_Mo_lookAtOne_206 rfl rfl (by decide) rfl ?_
          refine hj_goto hC 140 d_Mo_lookAtOne_209 (by decide) ?_
          refine hj_sub (lv' := [(0, vr_ x0), (1, vi_ x1), (2, vi_ x2), (3, vi_ x3), (4, vi_ x4), (5, vi_ x5), (6, vi_ x6), (7, vi_ x7), (8, vi_ x8), (9, vi_ (v9 + 1))]) [1, 2, 3, 4, 5, 6, 7, 8, 9, 0] rfl ?_
          exact ih _ _ _ _ hr
        · refine hj_icmp_gt hC 206 d_Mo_lookAtOne_177 (by decide) hr (fun q177 hr => ?_) (fun q177 hr => ?_)
          · exact hk206 _ _ _ hr
          · refine hj_iload_n hC 3 d_Mo_lookAtOne_180 rfl rfl ?_
            refine hj_aload_n hC 0 d_Mo_lookAtOne_181 rfl rfl ?_
            refine hj_getr hC cf_Mo (k := 19) (by decide) wq_418 rfl d_Mo_lookAtOne_182 hr (fun a18 hr => ?_)
            refine hj_iload hC 9 d_Mo_lookAtOne_185 rfl ?_
            refine hj_iald hC (kd := 22) rfl d_Mo_lookAtOne_187 hr (fun a19 hr => ?_)
            refine hj_icmp_ge hC 206 d_Mo_lookAtOne_188 (by decide) hr (fun q188 hr => ?_) (fun q188 hr => ?_)
            · exact hk206 _ _ _ hr
            · refine hj_aload_n hC 0 d_Mo_lookAtOne_191 rfl rfl ?_
              refine hj_iload_n hC 1 d_Mo_lookAtOne_192 rfl rfl ?_
              refine hj_iload_n hC 2 d_Mo_lookAtOne_193 rfl rfl ?_
              refine hj_aload_n hC 0 d_Mo_lookAtOne_194 rfl rfl ?_
              refine hj_getr hC cf_Mo (k := 20) (by decide) wq_419 rfl d_Mo_lookAtOne_195 hr (fun a20 hr => ?_)
              refine hj_iload hC 9 d_Mo_lookAtOne_198 rfl ?_
              refine hj_iald hC (kd := 23) rfl d_Mo_lookAtOne_200 hr (fun a21 hr => ?_)
              refine hj_iconst hC (v := 1) d_Mo_lookAtOne_201 (by decide) ?_
              refine hj_iconst hC (v := 0) d_Mo_lookAtOne_202 (by decide) ?_
              refine hj_callV hC hG (enc := (fun _ : Unit => none)) (As := [vi_ x1, vi_ x2, vi_ a21, vi_ 1, vi_ 0]) (st := []) (fun h a C S h1 hr => m_Mo_comeTo _ _ _ _ _ _ h a C S h1 hr) cf_Mo wq_421 wq_422 wq_423 wq_389 wq_420 yk_Mo_comeTo rfl ⟨Nat.le_of_ble_eq_true rfl, Nat.le_of_ble_eq_true rfl⟩ rfl (Nat.le_of_ble_eq_true rfl) d_Mo_lookAtOne_203 hr (fun _ h C S hr => ?_)
              exact hk206 _ _ _ hr
set_option maxHeartbeats 4000000 in
set_option maxRecDepth 100000 in
theorem m_Mo_lookAtOne {l : Launch} {D : va_G} {dA : Nat → ClassId} (o : Option Nat) (x1 : Int32) (x2 : Int32) (x3 : Int32) (h0 : hc_H) (b : Unit) (C0 S0 : Nat) (h2 : hc_H) (hr : p_Mo_lookAtOne o x1 x2 x3 h0 = some (b, C0, S0, h2)) : hc_Met l (gg D dA) y_Mo_lookAtOne b_Mo_lookAtOne 10 none tb 3 73 [vr_ o, vi_ x1, vi_ x2, vi_ x3] h0 C0 S0 none h2 := by
  refine hc_Met.of (by decide) (Nat.le_of_ble_eq_true rfl) ?_
  intro p e s m args below meth c hC
  unfold p_Mo_lookAtOne at hr
  refine hj_sub (lv' := [(0, vr_ o), (1, vi_ x1), (2, vi_ x2), (3, vi_ x3)]) [0, 1, 2, 3] rfl ?_
  refine hj_bipush hC (v := 12) d_Mo_lookAtOne_0 (by decide) ?_
  refine hj_iload_n hC 1 d_Mo_lookAtOne_2 rfl rfl ?_
  refine hj_imul hC d_Mo_lookAtOne_3 ?_
  refine hj_iload_n hC 2 d_Mo_lookAtOne_4 rfl rfl ?_
  refine hj_iadd hC d_Mo_lookAtOne_5 ?_
  refine hj_istore hC (lv' := [(4, vi_ ((12 * x1) + x2)), (0, vr_ o), (1, vi_ x1), (2, vi_ x2), (3, vi_ x3)]) d_Mo_lookAtOne_6 (by decide) rfl ?_
  refine hj_sipush hC (v := 4800) d_Mo_lookAtOne_8 (by decide) ?_
  refine hj_iload_n hC 2 d_Mo_lookAtOne_11 rfl rfl ?_
  refine hj_imul hC d_Mo_lookAtOne_12 ?_
  refine hj_sipush hC (v := 400) d_Mo_lookAtOne_13 (by decide) ?_
  refine hj_iload_n hC 3 d_Mo_lookAtOne_16 rfl rfl ?_
  refine hj_imul hC d_Mo_lookAtOne_17 ?_
  refine hj_iadd hC d_Mo_lookAtOne_18 ?_
  refine hj_iload_n hC 4 d_Mo_lookAtOne_19 rfl rfl ?_
  refine hj_iadd hC d_Mo_lookAtOne_20 ?_
  refine hj_istore hC (lv' := [(5, vi_ (((4800 * x1) + (400 * x2)) + x3)), (4, vi_ ((12 * x1) + x2)), (0, vr_ o), (1, vi_ x1), (2, vi_ x2), (3, vi_ x3)]) d_Mo_lookAtOne_21 (by decide) rfl ?_
  refine hj_aload_n hC 2 d_Mo_lookAtOne_23 rfl rfl ?_
  refine hj_getr hC cf_Mo (k := 16) (by decide) wq_413 rfl d_Mo_lookAtOne_24 hr (fun a1 hr => ?_)
  refine hj_iload hC 0 d_Mo_lookAtOne_27 rfl ?_
  refine hj_iald hC (kd := 19) rfl d_Mo_lookAtOne_29 hr (fun a2 hr => ?_)
  refine hj_istore hC (lv' := [(6, vi_ a2), (5, vi_ (((4800 * x1) + (400 * x2)) + x3)), (4, vi_ ((12 * x1) + x2)), (0, vr_ o), (1, vi_ x1), (2, vi_ x2), (3, vi_ x3)]) d_Mo_lookAtOne_30 (by decide) rfl ?_
  refine hj_aload_n hC 3 d_Mo_lookAtOne_32 rfl rfl ?_
  refine hj_aload_n hC 3 d_Mo_lookAtOne_33 rfl rfl ?_
  refine hj_getr hC cf_Mo (k := 23) (by decide) wq_384 rfl d_Mo_lookAtOne_34 hr (fun a3 hr => ?_)
  refine hj_iload hC 1 d_Mo_lookAtOne_37 rfl ?_
  refine hj_iald hC (kd := 26) rfl d_Mo_lookAtOne_39 hr (fun a4 hr => ?_)
  refine hj_puti hC cf_Mo (k := 27) (by decide) wq_393 rfl (Or.inl rfl) rfl d_Mo_lookAtOne_40 hr (fun h hr => ?_)
  refine hj_aload_n hC 3 d_Mo_lookAtOne_43 rfl rfl ?_
  refine hj_aload_n hC 3 d_Mo_lookAtOne_44 rfl rfl ?_
  refine hj_getr hC cf_Mo (k := 24) (by decide) wq_390 rfl d_Mo_lookAtOne_45 hr (fun a5 hr => ?_)
  refine hj_iload hC 1 d_Mo_lookAtOne_48 rfl ?_
  refine hj_iald hC (kd := 27) rfl d_Mo_lookAtOne_50 hr (fun a6 hr => ?_)
  refine hj_puti hC cf_Mo (k := 28) (by decide) wq_392 rfl (Or.inl rfl) rfl d_Mo_lookAtOne_51 hr (fun h hr => ?_)
  refine hj_aload_n hC 3 d_Mo_lookAtOne_54 rfl rfl ?_
  refine hj_iload_n hC 4 d_Mo_lookAtOne_55 rfl rfl ?_
  refine hj_iload_n hC 5 d_Mo_lookAtOne_56 rfl rfl ?_
  refine hj_iload hC 0 d_Mo_lookAtOne_57 rfl ?_
  refine hj_aload_n hC 3 d_Mo_lookAtOne_59 rfl rfl ?_
  refine hj_getr hC cf_Mo (k := 17) (by decide) wq_414 rfl d_Mo_lookAtOne_60 hr (fun a7 hr => ?_)
  refine hj_iload hC 1 d_Mo_lookAtOne_63 rfl ?_
  refine hj_iald hC (kd := 20) rfl d_Mo_lookAtOne_65 hr (fun a8 hr => ?_)
  refine hj_callV hC hG (enc := (fun a : Int32 => some (vi_ a))) (As := [vi_ x1, vi_ x2, vi_ a2, vi_ a8]) (st := []) (fun h a C S h1 hr => m_Mo_moves _ _ _ _ _ h a C S h1 hr) cf_Mo wq_425 wq_426 wq_427 wq_389 wq_415 yk_Mo_moves rfl ⟨Nat.le_of_ble_eq_true rfl, Nat.le_of_ble_eq_true rfl⟩ rfl (Nat.le_of_ble_eq_true rfl) d_Mo_lookAtOne_66 hr (fun a9 h C S hr => ?_)
  refine hj_jn hC (K := hM Unit) (fun k => ∀  (h : hc_H) (C S : Nat), k  h = some (b, C, S, h2) → hj_J p l e { frames := 3, cells := C0, slots := S0, locals := 73 } s m args below meth c (gg D dA) h0 10 (hj_Q below args s { frames := 3, cells := C0, slots := S0, locals := 73 } (gg D dA) h0 none h2) C S h 109 [(0, vr_ o), (1, vi_ x1), (2, vi_ x2), (3, vi_ x3), (4, vi_ ((12 * x1) + x2)), (5, vi_ (((4800 * x1) + (400 * x2)) + x3)), (6, vi_ a2)] []) hr (fun  h C S hr => ?_) (fun k109 hk109 hr => ?_)
  · refine hj_aload_n hC 0 d_Mo_lookAtOne_109 rfl rfl ?_
    refine hj_geti hC cf_Mo (k := 7) (by decide) wq_382 rfl d_Mo_lookAtOne_110 hr (fun a10 hr => ?_)
    refine hj_if_le hC 117 d_Mo_lookAtOne_113 (by decide) hr (fun q113 hr => ?_) (fun q113 hr => ?_)
    · refine hj_aload_n hC 0 d_Mo_lookAtOne_117 rfl rfl ?_
      refine hj_geti hC cf_Mo (k := 27) (by decide) wq_393 rfl d_Mo_lookAtOne_118 hr (fun a11 hr => ?_)
      refine hj_istore hC (lv' := [(7, vi_ a11), (0, vr_ o), (1, vi_ x1), (2, vi_ x2), (3, vi_ x3), (4, vi_ ((12 * x1) + x2)), (5, vi_ (((4800 * x1) + (400 * x2)) + x3)), (6, vi_ a2)]) d_Mo_lookAtOne_121 (by decide) rfl ?_
      refine hj_aload_n hC 1 d_Mo_lookAtOne_123 rfl rfl ?_
      refine hj_geti hC cf_Mo (k := 28) (by decide) wq_392 rfl d_Mo_lookAtOne_124 hr (fun a12 hr => ?_)
      refine hj_istore hC (lv' := [(8, vi_ a12), (7, vi_ a11), (0, vr_ o), (1, vi_ x1), (2, vi_ x2), (3, vi_ x3), (4, vi_ ((12 * x1) + x2)), (5, vi_ (((4800 * x1) + (400 * x2)) + x3)), (6, vi_ a2)]) d_Mo_lookAtOne_127 (by decide) rfl ?_
      refine hj_bipush hC (v := 72) d_Mo_lookAtOne_129 (by decide) ?_
      refine hj_iload_n hC 3 d_Mo_lookAtOne_131 rfl rfl ?_
      refine hj_imul hC d_Mo_lookAtOne_132 ?_
      refine hj_bipush hC (v := 6) d_Mo_lookAtOne_133 (by decide) ?_
      refine hj_iload_n hC 4 d_Mo_lookAtOne_135 rfl rfl ?_
      refine hj_imul hC d_Mo_lookAtOne_136 ?_
      refine hj_iadd hC d_Mo_lookAtOne_137 ?_
      refine hj_istore hC (lv' := [(9, vi_ ((72 * x1) + (6 * x2))), (8, vi_ a12), (7, vi_ a11), (0, vr_ o), (1, vi_ x1), (2, vi_ x2), (3, vi_ x3), (4, vi_ ((12 * x1) + x2)), (5, vi_ (((4800 * x1) + (400 * x2)) + x3)), (6, vi_ a2)]) d_Mo_lookAtOne_138 (by decide) rfl ?_
      refine hj_sub (lv' := [(0, vr_ o), (1, vi_ x1), (2, vi_ x2), (3, vi_ x3), (4, vi_ ((12 * x1) + x2)), (5, vi_ (((4800 * x1) + (400 * x2)) + x3)), (6, vi_ a2), (7, vi_ a11), (8, vi_ a12), (9, vi_ ((72 * x1) + (6 * x2)))]) [3, 4, 5, 6, 7, 8, 9, 2, 1, 0] rfl ?_
      refine ml_Mo_lookAtOne_140 hC _ _ _ _ _ _ _ _ _ _ (fun  h C S hr => ?_) _ _ _ _ _ hr
      refine hj_iload hC 6 d_Mo_lookAtOne_212 rfl ?_
      refine hj_bipush hC (v := 17) d_Mo_lookAtOne_214 (by decide) ?_
      refine hj_jn hC (K := hM Unit) (fun k => ∀  (h : hc_H) (C S : Nat), k  h = some (b, C, S, h2) → hj_J p l e { frames := 3, cells := C0, slots := S0, locals := 73 } s m args below meth c (gg D dA) h0 10 (hj_Q below args s { frames := 3, cells := C0, slots := S0, locals := 73 } (gg D dA) h0 none h2) C S h 250 [(0, vr_ o), (1, vi_ x1), (2, vi_ x2), (3, vi_ x3), (4, vi_ ((12 * x1) + x2)), (6, vi_ a2), (7, vi_ a11), (8, vi_ a12)] []) hr (fun  h C S hr => ?_) (fun k250 hk250 hr => ?_)
      · refine hj_iload hC 5 d_Mo_lookAtOne_250 rfl ?_
        refine hj_bipush hC (v := 18) d_Mo_lookAtOne_252 (by decide) ?_
        refine hj_icmp_eq hC 320 d_Mo_lookAtOne_254 (by decide) hr (fun q254 hr => ?_) (fun q254 hr => ?_)
        · exact hj_vret hC d_Mo_lookAtOne_320 hr
        · refine hj_iload hC 5 d_Mo_lookAtOne_257 rfl ?_
          refine hj_bipush hC (v := 27) d_Mo_lookAtOne_259 (by decide) ?_
          refine hj_icmp_eq hC 320 d_Mo_lookAtOne_261 (by decide) hr (fun q261 hr => ?_) (fun q261 hr => ?_)
          · exact hj_vret hC d_Mo_lookAtOne_320 hr
          · refine hj_iload hC 5 d_Mo_lookAtOne_264 rfl ?_
            refine hj_bipush hC (v := 28) d_Mo_lookAtOne_266 (by decide) ?_
            refine hj_icmp_eq hC 320 d_Mo_lookAtOne_268 (by decide) hr (fun q268 hr => ?_) (fun q268 hr => ?_)
            · exact hj_vret hC d_Mo_lookAtOne_320 hr
            · refine hj_aload_n hC 0 d_Mo_lookAtOne_271 rfl rfl ?_
              refine hj_geti hC cf_Mo (k := 7) (by decide) wq_382 rfl d_Mo_lookAtOne_272 hr (fun a22 hr => ?_)
              refine hj_if_ne hC 320 d_Mo_lookAtOne_275 (by decide) hr (fun q275 hr => ?_) (fun q275 hr => ?_)
              · exact hj_vret hC d_Mo_lookAtOne_320 hr
              · refine hj_iload_n hC 3 d_Mo_lookAtOne_278 rfl rfl ?_
                refine hj_iconst hC (v := 1) d_Mo_lookAtOne_279 (by decide) ?_
                refine hj_iadd hC d_Mo_lookAtOne_280 ?_
                refine hj_aload_n hC 0 d_Mo_lookAtOne_281 rfl rfl ?_
                refine hj_getr hC cf_Mo (k := 14) (by decide) wq_424 rfl d_Mo_lookAtOne_282 hr (fun a23 hr => ?_)
                refine hj_iload hC 4 d_Mo_lookAtOne_285 rfl ?_
                refine hj_iald hC (kd := 17) rfl d_Mo_lookAtOne_287 hr (fun a24 hr => ?_)
                refine hj_icmp_ne hC 307 d_Mo_lookAtOne_288 (by decide) hr (fun q288 hr => ?_) (fun q288 hr => ?_)
                · refine hj_aload_n hC 0 d_Mo_lookAtOne_307 rfl rfl ?_
                  refine hj_iload_n hC 1 d_Mo_lookAtOne_308 rfl rfl ?_
                  refine hj_iload_n hC 2 d_Mo_lookAtOne_309 rfl rfl ?_
                  refine hj_iload_n hC 3 d_Mo_lookAtOne_310 rfl rfl ?_
                  refine hj_iconst hC (v := 1) d_Mo_lookAtOne_311 (by decide) ?_
                  refine hj_iadd hC d_Mo_lookAtOne_312 ?_
                  refine hj_iload hC 6 d_Mo_lookAtOne_313 rfl ?_
                  refine hj_iload hC 7 d_Mo_lookAtOne_315 rfl ?_
                  refine hj_callV hC hG (enc := (fun _ : Unit => none)) (As := [vi_ x1, vi_ x2, vi_ (x3 + 1), vi_ a11, vi_ a12]) (st := []) (fun h a C S h1 hr => m_Mo_comeTo _ _ _ _ _ _ h a C S h1 hr) cf_Mo wq_421 wq_422 wq_423 wq_389 wq_420 yk_Mo_comeTo rfl ⟨Nat.le_of_ble_eq_true rfl, Nat.le_of_ble_eq_true rfl⟩ rfl (Nat.le_of_ble_eq_true rfl) d_Mo_lookAtOne_317 hr (fun _ h C S hr => ?_)
                  exact hj_vret hC d_Mo_lookAtOne_320 hr
                · refine hj_aload_n hC 0 d_Mo_lookAtOne_291 rfl rfl ?_
                  refine hj_bipush hC (v := 8) d_Mo_lookAtOne_292 (by decide) ?_
                  refine hj_sipush hC (v := 512) d_Mo_lookAtOne_294 (by decide) ?_
                  refine hj_iload_n hC 2 d_Mo_lookAtOne_297 rfl rfl ?_
                  refine hj_imul hC d_Mo_lookAtOne_298 ?_
                  refine hj_iload_n hC 3 d_Mo_lookAtOne_299 rfl rfl ?_
                  refine hj_iadd hC d_Mo_lookAtOne_300 ?_
                  refine hj_callV hC hG (enc := (fun _ : Unit => none)) (As := [vi_ 8, vi_ ((512 * x2) + x3)]) (st := []) (fun h a C S h1 hr => m_Mo_wrong _ _ _ h a C S h1 hr) cf_Mo wq_386 wq_387 wq_388 wq_389 wq_385 yk_Mo_wrong rfl ⟨Nat.le_of_ble_eq_true rfl, Nat.le_of_ble_eq_true rfl⟩ rfl (Nat.le_of_ble_eq_true rfl) d_Mo_lookAtOne_301 hr (fun _ h C S hr => ?_)
                  refine hj_goto hC 320 d_Mo_lookAtOne_304 (by decide) ?_
                  exact hj_vret hC d_Mo_lookAtOne_320 hr
      · refine hj_icmp_le hC 250 d_Mo_lookAtOne_216 (by decide) hr (fun q216 hr => ?_) (fun q216 hr => ?_)
        · refine hj_sub (lv' := [(0, vr_ o), (1, vi_ x1), (2, vi_ x2), (3, vi_ x3), (4, vi_ ((12 * x1) + x2)), (6, vi_ a2), (7, vi_ a11), (8, vi_ a12)]) [0, 1, 2, 3, 4, 6, 7, 8] rfl ?_
          exact hk250 _ _ _ hr
        · refine hj_iload hC 6 d_Mo_lookAtOne_219 rfl ?_
          refine hj_bipush hC (v := 21) d_Mo_lookAtOne_221 (by decide) ?_
          refine hj_icmp_ge hC 250 d_Mo_lookAtOne_223 (by decide) hr (fun q223 hr => ?_) (fun q223 hr => ?_)
          · refine hj_sub (lv' := [(0, vr_ o), (1, vi_ x1), (2, vi_ x2), (3, vi_ x3), (4, vi_ ((12 * x1) + x2)), (6, vi_ a2), (7, vi_ a11), (8, vi_ a12)]) [0, 1, 2, 3, 4, 6, 7, 8] rfl ?_
            exact hk250 _ _ _ hr
          · refine hj_aload_n hC 0 d_Mo_lookAtOne_226 rfl rfl ?_
            refine hj_geti hC cf_Mo (k := 7) (by decide) wq_382 rfl d_Mo_lookAtOne_227 hr (fun a25 hr => ?_)
            refine hj_if_ne hC 250 d_Mo_lookAtOne_230 (by decide) hr (fun q230 hr => ?_) (fun q230 hr => ?_)
            · refine hj_sub (lv' := [(0, vr_ o), (1, vi_ x1), (2, vi_ x2), (3, vi_ x3), (4, vi_ ((12 * x1) + x2)), (6, vi_ a2), (7, vi_ a11), (8, vi_ a12)]) [0, 1, 2, 3, 4, 6, 7, 8] rfl ?_
              exact hk250 _ _ _ hr
            · refine hj_aload_n hC 0 d_Mo_lookAtOne_233 rfl rfl ?_
              refine hj_iload_n hC 1 d_Mo_lookAtOne_234 rfl rfl ?_
              refine hj_iload_n hC 2 d_Mo_lookAtOne_235 rfl rfl ?_
              refine hj_aload_n hC 0 d_Mo_lookAtOne_236 rfl rfl ?_
              refine hj_getr hC cf_Mo (k := 17) (by decide) wq_414 rfl d_Mo_lookAtOne_237 hr (fun a26 hr => ?_)
              refine hj_iload hC 5 d_Mo_lookAtOne_240 rfl ?_
              refine hj_iald hC (kd := 20) rfl d_Mo_lookAtOne_242 hr (fun a27 hr => ?_)
              refine hj_iload hC 7 d_Mo_lookAtOne_243 rfl ?_
              refine hj_iload hC 8 d_Mo_lookAtOne_245 rfl ?_
              refine hj_callV hC hG (enc := (fun _ : Unit => none)) (As := [vi_ x1, vi_ x2, vi_ a27, vi_ a11, vi_ a12]) (st := []) (fun h a C S h1 hr => m_Mo_comeTo _ _ _ _ _ _ h a C S h1 hr) cf_Mo wq_421 wq_422 wq_423 wq_389 wq_420 yk_Mo_comeTo rfl ⟨Nat.le_of_ble_eq_true rfl, Nat.le_of_ble_eq_true rfl⟩ rfl (Nat.le_of_ble_eq_true rfl) d_Mo_lookAtOne_247 hr (fun _ h C S hr => ?_)
              refine hj_sub (lv' := [(0, vr_ o), (1, vi_ x1), (2, vi_ x2), (3, vi_ x3), (4, vi_ ((12 * x1) + x2)), (6, vi_ a2), (7, vi_ a11), (8, vi_ a12)]) [0, 1, 2, 3, 4, 6, 7, 8] rfl ?_
              exact hk250 _ _ _ hr
    · exact hj_vret hC d_Mo_lookAtOne_116 hr
  · refine hj_if_ne hC 87 d_Mo_lookAtOne_69 (by decide) hr (fun q69 hr => ?_) (fun q69 hr => ?_)
    · refine hj_aload_n hC 3 d_Mo_lookAtOne_87 rfl rfl ?_
      refine hj_geti hC cf_Mo (k := 27) (by decide) wq_393 rfl d_Mo_lookAtOne_88 hr (fun a28 hr => ?_)
      refine hj_bipush hC (v := 16) d_Mo_lookAtOne_91 (by decide) ?_
      refine hj_icmp_le hC 109 d_Mo_lookAtOne_93 (by decide) hr (fun q93 hr => ?_) (fun q93 hr => ?_)
      · refine hj_sub (lv' := [(0, vr_ o), (1, vi_ x1), (2, vi_ x2), (3, vi_ x3), (4, vi_ ((12 * x1) + x2)), (5, vi_ (((4800 * x1) + (400 * x2)) + x3)), (6, vi_ a2)]) [3, 4, 5, 6, 2, 1, 0] rfl ?_
        exact hk109 _ _ _ hr
      · refine hj_aload_n hC 3 d_Mo_lookAtOne_96 rfl rfl ?_
        refine hj_bipush hC (v := 6) d_Mo_lookAtOne_97 (by decide) ?_
        refine hj_sipush hC (v := 512) d_Mo_lookAtOne_99 (by decide) ?_
        refine hj_iload_n hC 5 d_Mo_lookAtOne_102 rfl rfl ?_
        refine hj_imul hC d_Mo_lookAtOne_103 ?_
        refine hj_iload_n hC 6 d_Mo_lookAtOne_104 rfl rfl ?_
        refine hj_iadd hC d_Mo_lookAtOne_105 ?_
        refine hj_callV hC hG (enc := (fun _ : Unit => none)) (As := [vi_ 6, vi_ ((512 * x2) + x3)]) (st := []) (fun h a C S h1 hr => m_Mo_wrong _ _ _ h a C S h1 hr) cf_Mo wq_386 wq_387 wq_388 wq_389 wq_385 yk_Mo_wrong rfl ⟨Nat.le_of_ble_eq_true rfl, Nat.le_of_ble_eq_true rfl⟩ rfl (Nat.le_of_ble_eq_true rfl) d_Mo_lookAtOne_106 hr (fun _ h C S hr => ?_)
        refine hj_sub (lv' := [(0, vr_ o), (1, vi_ x1), (2, vi_ x2), (3, vi_ x3), (4, vi_ ((12 * x1) + x2)), (5, vi_ (((4800 * x1) + (400 * x2)) + x3)), (6, vi_ a2)]) [3, 4, 5, 6, 2, 1, 0] rfl ?_
        exact hk109 _ _ _ hr
    · refine hj_aload_n hC 3 d_Mo_lookAtOne_72 rfl rfl ?_
      refine hj_iconst hC (v := 5) d_Mo_lookAtOne_73 (by decide) ?_
      refine hj_sipush hC (v := 512) d_Mo_lookAtOne_74 (by decide) ?_
      refine hj_iload_n hC 5 d_Mo_lookAtOne_77 rfl rfl ?_
      refine hj_imul hC d_Mo_lookAtOne_78 ?_
      refine hj_iload_n hC 6 d_Mo_lookAtOne_79 rfl rfl ?_
      refine hj_iadd hC d_Mo_lookAtOne_80 ?_
      refine hj_callV hC hG (enc := (fun _ : Unit => none)) (As := [vi_ 5, vi_ ((512 * x2) + x3)]) (st := []) (fun h a C S h1 hr => m_Mo_wrong _ _ _ h a C S h1 hr) cf_Mo wq_386 wq_387 wq_388 wq_389 wq_385 yk_Mo_wrong rfl ⟨Nat.le_of_ble_eq_true rfl, Nat.le_of_ble_eq_true rfl⟩ rfl (Nat.le_of_ble_eq_true rfl) d_Mo_lookAtOne_81 hr (fun _ h C S hr => ?_)
      refine hj_goto hC 109 d_Mo_lookAtOne_84 (by decide) ?_
      refine hj_sub (lv' := [(0, vr_ o), (1, vi_ x1), (2, vi_ x2), (3, vi_ x3), (4, vi_ ((12 * x1) + x2)), (5, vi_ (((4800 * x1) + (400 * x2)) + x3)), (6, vi_ a2)]) [3, 4, 5, 6, 2, 1, 0] rfl ?_
      exact hk109 _ _ _ hr
set_option maxHeartbeats 4000000 in
set_option maxRecDepth 100000 in
theorem ml_Mo_verify_10 {p : Program} {l : Launch} {e : Env} {s : State} {m : MethodId} {args : Array Value} {below : List Frame} {meth : Method} {c : Code} {D : va_G} {dA : Nat → ClassId} {h0 h2 : hc_H} {C0 S0 : Nat} {b : Unit} (hC : hj_C p s m args meth c (gg D dA) b_Mo_verify 5 none R_Mo "verify" tb) (x0 : Option Nat) (x1 : Int32) (x2 : Int32) (x3 : Int32) (kx : hM Unit) (hk : ∀  (h : hc_H) (C S : Nat), kx  h = some (b, C, S, h2) → hj_J p l e { frames := 4, cells := C0, slots := S0, locals := 102 } s m args below meth c (gg D dA) h0 5 (hj_Q below args s { frames := 4, cells := C0, slots := S0, locals := 102 } (gg D dA) h0 none h2) C S h 72 [(0, vr_ x0), (1, vi_ x1), (2, vi_ x2), (3, vi_ x3)] []) : ∀ (fu : Nat) (v4 : Int32) (h : hc_H) (C S : Nat), p_Mo_verify_10 x0 x1 x2 x3 kx fu v4 h = some (b, C, S, h2) → hj_J p l e { frames := 4, cells := C0, slots := S0, locals := 102 } s m args below meth c (gg D dA) h0 5 (hj_Q below args s { frames := 4, cells := C0, slots := S0, locals := 102 } (gg D dA) h0 none h2) C S h 10 [(0, vr_ x0), (1, vi_ x1), (2, vi_ x2), (3, vi_ x3), (4, vi_ v4)] [] := by
  intro fu
  induction fu with
  | zero =>
    intro v4 h C S hr
    cases hr
  | succ fu ih =>
    intro v4 h C S hr
    rw [p_Mo_verify_10] at hr
    refine hj_iload hC 4 d_Mo_verify_10 rfl ?_
    refine hj_sipush hC (v := 400) d_Mo_verify_12 (by decide) ?_
    refine hj_icmp_ge hC 72 d_Mo_verify_15 (by decide) hr (fun q15 hr => ?_) (fun q15 hr => ?_)
    · refine hj_sub (lv' := [(0, vr_ x0), (1, vi_ x1), (2, vi_ x2), (3, vi_ x3)]) [0, 1, 2, 3] rfl ?_
      exact hk _ _ _ hr
    · refine hj_aload_n hC 0 d_Mo_verify_18 rfl rfl ?_
      refine hj_getr hC cf_Mo (k := 25) (by decide) wq_391 rfl d_Mo_verify_19 hr (fun a1 hr => ?_)
      refine hj_iload hC 4 d_Mo_verify_22 rfl ?_
      refine hj_iconst hC (v := 0) d_Mo_verify_24 (by decide) ?_
      refine hj_zast hC (kd := 28) rfl d_Mo_verify_25 hr (fun h hr => ?_)
      refine hj_aload_n hC 0 d_Mo_verify_26 rfl rfl ?_
      refine hj_getr hC cf_Mo (k := 23) (by decide) wq_384 rfl d_Mo_verify_27 hr (fun a2 hr => ?_)
      refine hj_sipush hC (v := 4800) d_Mo_verify_30 (by decide) ?_
      refine hj_iload_n hC 1 d_Mo_verify_33 rfl rfl ?_
      refine hj_imul hC d_Mo_verify_34 ?_
      refine hj_sipush hC (v := 400) d_Mo_verify_35 (by decide) ?_
      refine hj_iload_n hC 2 d_Mo_verify_38 rfl rfl ?_
      refine hj_imul hC d_Mo_verify_39 ?_
      refine hj_iadd hC d_Mo_verify_40 ?_
      refine hj_iload hC 4 d_Mo_verify_41 rfl ?_
      refine hj_iadd hC d_Mo_verify_43 ?_
      refine hj_iconst hC (v := (-1)) d_Mo_verify_44 (by decide) ?_
      refine hj_iast hC (kd := 26) rfl d_Mo_verify_45 hr (fun h hr => ?_)
      refine hj_aload_n hC 0 d_Mo_verify_46 rfl rfl ?_
      refine hj_getr hC cf_Mo (k := 24) (by decide) wq_390 rfl d_Mo_verify_47 hr (fun a3 hr => ?_)
      refine hj_sipush hC (v := 4800) d_Mo_verify_50 (by decide) ?_
      refine hj_iload_n hC 1 d_Mo_verify_53 rfl rfl ?_
      refine hj_imul hC d_Mo_verify_54 ?_
      refine hj_sipush hC (v := 400) d_Mo_verify_55 (by decide) ?_
      refine hj_iload_n hC 2 d_Mo_verify_58 rfl rfl ?_
      refine hj_imul hC d_Mo_verify_59 ?_
      refine hj_iadd hC d_Mo_verify_60 ?_
      refine hj_iload hC 4 d_Mo_verify_61 rfl ?_
      refine hj_iadd hC d_Mo_verify_63 ?_
      refine hj_iconst hC (v := 0) d_Mo_verify_64 (by decide) ?_
      refine hj_iast hC (kd := 27) rfl d_Mo_verify_65 hr (fun h hr => ?_)
      refine hj_iinc hC (lv' := [(4, vi_ (v4 + 1)), (0, vr_ x0), (1, vi_ x1), (2, vi_ x2), (3, vi_ x3)]) 4 d_Mo_verify_66 rfl rfl (by decide) rfl ?_
      refine hj_goto hC 10 d_Mo_verify_69 (by decide) ?_
      refine hj_sub (lv' := [(0, vr_ x0), (1, vi_ x1), (2, vi_ x2), (3, vi_ x3), (4, vi_ (v4 + 1))]) [1, 2, 3, 4, 0] rfl ?_
      exact ih _ _ _ _ hr
set_option maxHeartbeats 4000000 in
set_option maxRecDepth 100000 in
theorem ml_Mo_verify_84 {p : Program} {l : Launch} {e : Env} {s : State} {m : MethodId} {args : Array Value} {below : List Frame} {meth : Method} {c : Code} {D : va_G} {dA : Nat → ClassId} {h0 h2 : hc_H} {C0 S0 : Nat} {b : Unit} (hC : hj_C p s m args meth c (gg D dA) b_Mo_verify 5 none R_Mo "verify" tb) (x0 : Option Nat) (x1 : Int32) (x2 : Int32) (x3 : Int32) (kx : hM Unit) (hk : ∀  (h : hc_H) (C S : Nat), kx  h = some (b, C, S, h2) → hj_J p l e { frames := 4, cells := C0, slots := S0, locals := 102 } s m args below meth c (gg D dA) h0 5 (hj_Q below args s { frames := 4, cells := C0, slots := S0, locals := 102 } (gg D dA) h0 none h2) C S h 140 [] []) : ∀ (fu : Nat) (v4 : Int32) (h : hc_H) (C S : Nat), p_Mo_verify_84 x0 x1 x2 x3 kx fu v4 h = some (b, C, S, h2) → hj_J p l e { frames := 4, cells := C0, slots := S0, locals := 102 } s m args below meth c (gg D dA) h0 5 (hj_Q below args s { frames := 4, cells := C0, slots := S0, locals := 102 } (gg D dA) h0 none h2) C S h 84 [(0, vr_ x0), (1, vi_ x1), (2, vi_ x2), (3, vi_ x3), (4, vi_ v4)] [] := by
  intro fu
  induction fu with
  | zero =>
    intro v4 h C S hr
    cases hr
  | succ fu ih =>
    intro v4 h C S hr
    rw [p_Mo_verify_84] at hr
    refine hj_aload_n hC 0 d_Mo_verify_84 rfl rfl ?_
    refine hj_geti hC cf_Mo (k := 7) (by decide) wq_382 rfl d_Mo_verify_85 hr (fun a4 hr => ?_)
    refine hj_if_ne hC 140 d_Mo_verify_88 (by decide) hr (fun q88 hr => ?_) (fun q88 hr => ?_)
    · refine hj_sub (lv' := []) [] rfl ?_
      exact hk _ _ _ hr
    · refine hj_iload hC 4 d_Mo_verify_91 rfl ?_
      refine hj_aload_n hC 0 d_Mo_verify_93 rfl rfl ?_
      refine hj_getr hC cf_Mo (k := 14) (by decide) wq_424 rfl d_Mo_verify_94 hr (fun a5 hr => ?_)
      refine hj_iload_n hC 3 d_Mo_verify_97 rfl rfl ?_
      refine hj_iald hC (kd := 17) rfl d_Mo_verify_98 hr (fun a6 hr => ?_)
      refine hj_icmp_ge hC 140 d_Mo_verify_99 (by decide) hr (fun q99 hr => ?_) (fun q99 hr => ?_)
      · refine hj_sub (lv' := []) [] rfl ?_
        exact hk _ _ _ hr
      · refine hj_aload_n hC 0 d_Mo_verify_102 rfl rfl ?_
        refine hj_getr hC cf_Mo (k := 25) (by decide) wq_391 rfl d_Mo_verify_103 hr (fun a7 hr => ?_)
        refine hj_iload hC 4 d_Mo_verify_106 rfl ?_
        refine hj_zald hC (kd := 28) rfl d_Mo_verify_108 hr (fun a8 hr => ?_)
        refine hj_if_eq hC 134 d_Mo_verify_109 (by decide) hr (fun q109 hr => ?_) (fun q109 hr => ?_)
        · refine hj_iinc hC (lv' := [(4, vi_ (v4 + 1)), (0, vr_ x0), (1, vi_ x1), (2, vi_ x2), (3, vi_ x3)]) 4 d_Mo_verify_134 rfl rfl (by decide) rfl ?_
          refine hj_goto hC 84 d_Mo_verify_137 (by decide) ?_
          refine hj_sub (lv' := [(0, vr_ x0), (1, vi_ x1), (2, vi_ x2), (3, vi_ x3), (4, vi_ (v4 + 1))]) [1, 2, 3, 4, 0] rfl ?_
          exact ih _ _ _ _ hr
        · refine hj_aload_n hC 0 d_Mo_verify_112 rfl rfl ?_
          refine hj_getr hC cf_Mo (k := 25) (by decide) wq_391 rfl d_Mo_verify_113 hr (fun a9 hr => ?_)
          refine hj_iload hC 4 d_Mo_verify_116 rfl ?_
          refine hj_iconst hC (v := 0) d_Mo_verify_118 (by decide) ?_
          refine hj_zast hC (kd := 28) rfl d_Mo_verify_119 hr (fun h hr => ?_)
          refine hj_aload_n hC 0 d_Mo_verify_120 rfl rfl ?_
          refine hj_iload_n hC 1 d_Mo_verify_121 rfl rfl ?_
          refine hj_iload_n hC 2 d_Mo_verify_122 rfl rfl ?_
          refine hj_iload hC 4 d_Mo_verify_123 rfl ?_
          refine hj_callV hC hG (enc := (fun _ : Unit => none)) (As := [vi_ x1, vi_ x2, vi_ v4]) (st := []) (fun h a C S h1 hr => m_Mo_lookAtOne _ _ _ _ h a C S h1 hr) cf_Mo wq_429 wq_430 wq_431 wq_389 wq_428 yk_Mo_lookAtOne rfl ⟨Nat.le_of_ble_eq_true rfl, Nat.le_of_ble_eq_true rfl⟩ rfl (Nat.le_of_ble_eq_true rfl) d_Mo_verify_125 hr (fun _ h C S hr => ?_)
          refine hj_iconst hC (v := 0) d_Mo_verify_128 (by decide) ?_
          refine hj_istore hC (lv' := [(4, vi_ 0), (0, vr_ x0), (1, vi_ x1), (2, vi_ x2), (3, vi_ x3)]) d_Mo_verify_129 (by decide) rfl ?_
          refine hj_goto hC 84 d_Mo_verify_131 (by decide) ?_
          refine hj_sub (lv' := [(0, vr_ x0), (1, vi_ x1), (2, vi_ x2), (3, vi_ x3), (4, vi_ 0)]) [1, 2, 3, 4, 0] rfl ?_
          exact ih _ _ _ _ hr
set_option maxHeartbeats 4000000 in
set_option maxRecDepth 100000 in
theorem m_Mo_verify {l : Launch} {D : va_G} {dA : Nat → ClassId} (o : Option Nat) (x1 : Int32) (x2 : Int32) (h0 : hc_H) (b : Unit) (C0 S0 : Nat) (h2 : hc_H) (hr : p_Mo_verify o x1 x2 h0 = some (b, C0, S0, h2)) : hc_Met l (gg D dA) y_Mo_verify b_Mo_verify 5 none tb 4 102 [vr_ o, vi_ x1, vi_ x2] h0 C0 S0 none h2 := by
  refine hc_Met.of (by decide) (Nat.le_of_ble_eq_true rfl) ?_
  intro p e s m args below meth c hC
  unfold p_Mo_verify at hr
  refine hj_sub (lv' := [(0, vr_ o), (1, vi_ x1), (2, vi_ x2)]) [0, 1, 2] rfl ?_
  refine hj_bipush hC (v := 12) d_Mo_verify_0 (by decide) ?_
  refine hj_iload_n hC 1 d_Mo_verify_2 rfl rfl ?_
  refine hj_imul hC d_Mo_verify_3 ?_
  refine hj_iload_n hC 2 d_Mo_verify_4 rfl rfl ?_
  refine hj_iadd hC d_Mo_verify_5 ?_
  refine hj_istore_n hC (lv' := [(3, vi_ ((12 * x1) + x2)), (0, vr_ o), (1, vi_ x1), (2, vi_ x2)]) d_Mo_verify_6 rfl (by decide) rfl ?_
  refine hj_iconst hC (v := 0) d_Mo_verify_7 (by decide) ?_
  refine hj_istore hC (lv' := [(4, vi_ 0), (3, vi_ ((12 * x1) + x2)), (0, vr_ o), (1, vi_ x1), (2, vi_ x2)]) d_Mo_verify_8 (by decide) rfl ?_
  refine hj_sub (lv' := [(0, vr_ o), (1, vi_ x1), (2, vi_ x2), (3, vi_ ((12 * x1) + x2)), (4, vi_ 0)]) [2, 3, 4, 1, 0] rfl ?_
  refine ml_Mo_verify_10 hC _ _ _ _ _ (fun  h C S hr => ?_) _ _ _ _ _ hr
  refine hj_aload_n hC 0 d_Mo_verify_72 rfl rfl ?_
  refine hj_iload_n hC 1 d_Mo_verify_73 rfl rfl ?_
  refine hj_iload_n hC 2 d_Mo_verify_74 rfl rfl ?_
  refine hj_iconst hC (v := 0) d_Mo_verify_75 (by decide) ?_
  refine hj_iconst hC (v := 0) d_Mo_verify_76 (by decide) ?_
  refine hj_iconst hC (v := 0) d_Mo_verify_77 (by decide) ?_
  refine hj_callV hC hG (enc := (fun _ : Unit => none)) (As := [vi_ x1, vi_ x2, vi_ 0, vi_ 0, vi_ 0]) (st := []) (fun h a C S h1 hr => m_Mo_comeTo _ _ _ _ _ _ h a C S h1 hr) cf_Mo wq_421 wq_422 wq_423 wq_389 wq_420 yk_Mo_comeTo rfl ⟨Nat.le_of_ble_eq_true rfl, Nat.le_of_ble_eq_true rfl⟩ rfl (Nat.le_of_ble_eq_true rfl) d_Mo_verify_78 hr (fun _ h C S hr => ?_)
  refine hj_iconst hC (v := 0) d_Mo_verify_81 (by decide) ?_
  refine hj_istore hC (lv' := [(4, vi_ 0), (0, vr_ o), (1, vi_ x1), (2, vi_ x2), (3, vi_ ((12 * x1) + x2))]) d_Mo_verify_82 (by decide) rfl ?_
  refine hj_sub (lv' := [(0, vr_ o), (1, vi_ x1), (2, vi_ x2), (3, vi_ ((12 * x1) + x2)), (4, vi_ 0)]) [1, 2, 3, 4, 0] rfl ?_
  refine ml_Mo_verify_84 hC _ _ _ _ _ (fun  h C S hr => ?_) _ _ _ _ _ hr
  exact hj_vret hC d_Mo_verify_140 hr
