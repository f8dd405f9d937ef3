theorem d_Mo_copyProgram_0 : decode b_Mo_copyProgram 0 = .ok (.aload_n 0, 1) := by decide +kernel
theorem d_Mo_copyProgram_1 : decode b_Mo_copyProgram 1 = .ok (.getfield 20, 3) := by decide +kernel
theorem d_Mo_copyProgram_4 : decode b_Mo_copyProgram 4 = .ok (.iload_n 2, 1) := by decide +kernel
theorem d_Mo_copyProgram_5 : decode b_Mo_copyProgram 5 = .ok (.aload_n 0, 1) := by decide +kernel
theorem d_Mo_copyProgram_6 : decode b_Mo_copyProgram 6 = .ok (.getfield 20, 3) := by decide +kernel
theorem d_Mo_copyProgram_9 : decode b_Mo_copyProgram 9 = .ok (.iload_n 1, 1) := by decide +kernel
theorem d_Mo_copyProgram_10 : decode b_Mo_copyProgram 10 = .ok (.iaload, 1) := by decide +kernel
theorem d_Mo_copyProgram_11 : decode b_Mo_copyProgram 11 = .ok (.iastore, 1) := by decide +kernel
theorem d_Mo_copyProgram_12 : decode b_Mo_copyProgram 12 = .ok (.iconst 0, 1) := by decide +kernel
theorem d_Mo_copyProgram_13 : decode b_Mo_copyProgram 13 = .ok (.istore_n 3, 1) := by decide +kernel
theorem d_Mo_copyProgram_14 : decode b_Mo_copyProgram 14 = .ok (.iload_n 3, 1) := by decide +kernel
theorem d_Mo_copyProgram_15 : decode b_Mo_copyProgram 15 = .ok (.bipush 12, 2) := by decide +kernel
theorem d_Mo_copyProgram_17 : decode b_Mo_copyProgram 17 = .ok (.if_icmp .ge 141, 3) := by decide +kernel
theorem d_Mo_copyProgram_20 : decode b_Mo_copyProgram 20 = .ok (.aload_n 0, 1) := by decide +kernel
theorem d_Mo_copyProgram_21 : decode b_Mo_copyProgram 21 = .ok (.getfield 23, 3) := by decide +kernel
theorem d_Mo_copyProgram_24 : decode b_Mo_copyProgram 24 = .ok (.bipush 12, 2) := by decide +kernel
theorem d_Mo_copyProgram_26 : decode b_Mo_copyProgram 26 = .ok (.iload_n 2, 1) := by decide +kernel
theorem d_Mo_copyProgram_27 : decode b_Mo_copyProgram 27 = .ok (.imul, 1) := by decide +kernel
theorem d_Mo_copyProgram_28 : decode b_Mo_copyProgram 28 = .ok (.iload_n 3, 1) := by decide +kernel
theorem d_Mo_copyProgram_29 : decode b_Mo_copyProgram 29 = .ok (.iadd, 1) := by decide +kernel
theorem d_Mo_copyProgram_30 : decode b_Mo_copyProgram 30 = .ok (.aload_n 0, 1) := by decide +kernel
theorem d_Mo_copyProgram_31 : decode b_Mo_copyProgram 31 = .ok (.getfield 23, 3) := by decide +kernel
theorem d_Mo_copyProgram_34 : decode b_Mo_copyProgram 34 = .ok (.bipush 12, 2) := by decide +kernel
theorem d_Mo_copyProgram_36 : decode b_Mo_copyProgram 36 = .ok (.iload_n 1, 1) := by decide +kernel
theorem d_Mo_copyProgram_37 : decode b_Mo_copyProgram 37 = .ok (.imul, 1) := by decide +kernel
theorem d_Mo_copyProgram_38 : decode b_Mo_copyProgram 38 = .ok (.iload_n 3, 1) := by decide +kernel
theorem d_Mo_copyProgram_39 : decode b_Mo_copyProgram 39 = .ok (.iadd, 1) := by decide +kernel
theorem d_Mo_copyProgram_40 : decode b_Mo_copyProgram 40 = .ok (.iaload, 1) := by decide +kernel
theorem d_Mo_copyProgram_41 : decode b_Mo_copyProgram 41 = .ok (.iastore, 1) := by decide +kernel
theorem d_Mo_copyProgram_42 : decode b_Mo_copyProgram 42 = .ok (.aload_n 0, 1) := by decide +kernel
theorem d_Mo_copyProgram_43 : decode b_Mo_copyProgram 43 = .ok (.getfield 26, 3) := by decide +kernel
theorem d_Mo_copyProgram_46 : decode b_Mo_copyProgram 46 = .ok (.bipush 12, 2) := by decide +kernel
theorem d_Mo_copyProgram_48 : decode b_Mo_copyProgram 48 = .ok (.iload_n 2, 1) := by decide +kernel
theorem d_Mo_copyProgram_49 : decode b_Mo_copyProgram 49 = .ok (.imul, 1) := by decide +kernel
theorem d_Mo_copyProgram_50 : decode b_Mo_copyProgram 50 = .ok (.iload_n 3, 1) := by decide +kernel
theorem d_Mo_copyProgram_51 : decode b_Mo_copyProgram 51 = .ok (.iadd, 1) := by decide +kernel
theorem d_Mo_copyProgram_52 : decode b_Mo_copyProgram 52 = .ok (.aload_n 0, 1) := by decide +kernel
theorem d_Mo_copyProgram_53 : decode b_Mo_copyProgram 53 = .ok (.getfield 26, 3) := by decide +kernel
theorem d_Mo_copyProgram_56 : decode b_Mo_copyProgram 56 = .ok (.bipush 12, 2) := by decide +kernel
theorem d_Mo_copyProgram_58 : decode b_Mo_copyProgram 58 = .ok (.iload_n 1, 1) := by decide +kernel
theorem d_Mo_copyProgram_59 : decode b_Mo_copyProgram 59 = .ok (.imul, 1) := by decide +kernel
theorem d_Mo_copyProgram_60 : decode b_Mo_copyProgram 60 = .ok (.iload_n 3, 1) := by decide +kernel
theorem d_Mo_copyProgram_61 : decode b_Mo_copyProgram 61 = .ok (.iadd, 1) := by decide +kernel
theorem d_Mo_copyProgram_62 : decode b_Mo_copyProgram 62 = .ok (.iaload, 1) := by decide +kernel
theorem d_Mo_copyProgram_63 : decode b_Mo_copyProgram 63 = .ok (.iastore, 1) := by decide +kernel
theorem d_Mo_copyProgram_64 : decode b_Mo_copyProgram 64 = .ok (.aload_n 0, 1) := by decide +kernel
theorem d_Mo_copyProgram_65 : decode b_Mo_copyProgram 65 = .ok (.getfield 29, 3) := by decide +kernel
theorem d_Mo_copyProgram_68 : decode b_Mo_copyProgram 68 = .ok (.bipush 12, 2) := by decide +kernel
theorem d_Mo_copyProgram_70 : decode b_Mo_copyProgram 70 = .ok (.iload_n 2, 1) := by decide +kernel
theorem d_Mo_copyProgram_71 : decode b_Mo_copyProgram 71 = .ok (.imul, 1) := by decide +kernel
theorem d_Mo_copyProgram_72 : decode b_Mo_copyProgram 72 = .ok (.iload_n 3, 1) := by decide +kernel
theorem d_Mo_copyProgram_73 : decode b_Mo_copyProgram 73 = .ok (.iadd, 1) := by decide +kernel
theorem d_Mo_copyProgram_74 : decode b_Mo_copyProgram 74 = .ok (.aload_n 0, 1) := by decide +kernel
theorem d_Mo_copyProgram_75 : decode b_Mo_copyProgram 75 = .ok (.getfield 29, 3) := by decide +kernel
theorem d_Mo_copyProgram_78 : decode b_Mo_copyProgram 78 = .ok (.bipush 12, 2) := by decide +kernel
theorem d_Mo_copyProgram_80 : decode b_Mo_copyProgram 80 = .ok (.iload_n 1, 1) := by decide +kernel
theorem d_Mo_copyProgram_81 : decode b_Mo_copyProgram 81 = .ok (.imul, 1) := by decide +kernel
theorem d_Mo_copyProgram_82 : decode b_Mo_copyProgram 82 = .ok (.iload_n 3, 1) := by decide +kernel
theorem d_Mo_copyProgram_83 : decode b_Mo_copyProgram 83 = .ok (.iadd, 1) := by decide +kernel
theorem d_Mo_copyProgram_84 : decode b_Mo_copyProgram 84 = .ok (.iaload, 1) := by decide +kernel
theorem d_Mo_copyProgram_85 : decode b_Mo_copyProgram 85 = .ok (.iastore, 1) := by decide +kernel
theorem d_Mo_copyProgram_86 : decode b_Mo_copyProgram 86 = .ok (.aload_n 0, 1) := by decide +kernel
theorem d_Mo_copyProgram_87 : decode b_Mo_copyProgram 87 = .ok (.getfield 32, 3) := by decide +kernel
theorem d_Mo_copyProgram_90 : decode b_Mo_copyProgram 90 = .ok (.bipush 12, 2) := by decide +kernel
theorem d_Mo_copyProgram_92 : decode b_Mo_copyProgram 92 = .ok (.iload_n 2, 1) := by decide +kernel
theorem d_Mo_copyProgram_93 : decode b_Mo_copyProgram 93 = .ok (.imul, 1) := by decide +kernel
theorem d_Mo_copyProgram_94 : decode b_Mo_copyProgram 94 = .ok (.iload_n 3, 1) := by decide +kernel
theorem d_Mo_copyProgram_95 : decode b_Mo_copyProgram 95 = .ok (.iadd, 1) := by decide +kernel
theorem d_Mo_copyProgram_96 : decode b_Mo_copyProgram 96 = .ok (.aload_n 0, 1) := by decide +kernel
theorem d_Mo_copyProgram_97 : decode b_Mo_copyProgram 97 = .ok (.getfield 32, 3) := by decide +kernel
theorem d_Mo_copyProgram_100 : decode b_Mo_copyProgram 100 = .ok (.bipush 12, 2) := by decide +kernel
theorem d_Mo_copyProgram_102 : decode b_Mo_copyProgram 102 = .ok (.iload_n 1, 1) := by decide +kernel
theorem d_Mo_copyProgram_103 : decode b_Mo_copyProgram 103 = .ok (.imul, 1) := by decide +kernel
theorem d_Mo_copyProgram_104 : decode b_Mo_copyProgram 104 = .ok (.iload_n 3, 1) := by decide +kernel
theorem d_Mo_copyProgram_105 : decode b_Mo_copyProgram 105 = .ok (.iadd, 1) := by decide +kernel
theorem d_Mo_copyProgram_106 : decode b_Mo_copyProgram 106 = .ok (.iaload, 1) := by decide +kernel
theorem d_Mo_copyProgram_107 : decode b_Mo_copyProgram 107 = .ok (.iastore, 1) := by decide +kernel
theorem d_Mo_copyProgram_108 : decode b_Mo_copyProgram 108 = .ok (.aload_n 0, 1) := by decide +kernel
theorem d_Mo_copyProgram_109 : decode b_Mo_copyProgram 109 = .ok (.getfield 35, 3) := by decide +kernel
theorem d_Mo_copyProgram_112 : decode b_Mo_copyProgram 112 = .ok (.bipush 12, 2) := by decide +kernel
theorem d_Mo_copyProgram_114 : decode b_Mo_copyProgram 114 = .ok (.iload_n 2, 1) := by decide +kernel
theorem d_Mo_copyProgram_115 : decode b_Mo_copyProgram 115 = .ok (.imul, 1) := by decide +kernel
theorem d_Mo_copyProgram_116 : decode b_Mo_copyProgram 116 = .ok (.iload_n 3, 1) := by decide +kernel
theorem d_Mo_copyProgram_117 : decode b_Mo_copyProgram 117 = .ok (.iadd, 1) := by decide +kernel
theorem d_Mo_copyProgram_118 : decode b_Mo_copyProgram 118 = .ok (.aload_n 0, 1) := by decide +kernel
theorem d_Mo_copyProgram_119 : decode b_Mo_copyProgram 119 = .ok (.getfield 35, 3) := by decide +kernel
theorem d_Mo_copyProgram_122 : decode b_Mo_copyProgram 122 = .ok (.bipush 12, 2) := by decide +kernel
theorem d_Mo_copyProgram_124 : decode b_Mo_copyProgram 124 = .ok (.iload_n 1, 1) := by decide +kernel
theorem d_Mo_copyProgram_125 : decode b_Mo_copyProgram 125 = .ok (.imul, 1) := by decide +kernel
theorem d_Mo_copyProgram_126 : decode b_Mo_copyProgram 126 = .ok (.iload_n 3, 1) := by decide +kernel
theorem d_Mo_copyProgram_127 : decode b_Mo_copyProgram 127 = .ok (.iadd, 1) := by decide +kernel
theorem d_Mo_copyProgram_128 : decode b_Mo_copyProgram 128 = .ok (.iaload, 1) := by decide +kernel
theorem d_Mo_copyProgram_129 : decode b_Mo_copyProgram 129 = .ok (.iastore, 1) := by decide +kernel
theorem d_Mo_copyProgram_130 : decode b_Mo_copyProgram 130 = .ok (.aload_n 0, 1) := by decide +kernel
theorem d_Mo_copyProgram_131 : decode b_Mo_copyProgram 131 = .ok (.getfield 38, 3) := by decide +kernel
theorem d_Mo_copyProgram_134 : decode b_Mo_copyProgram 134 = .ok (.bipush 12, 2) := by decide +kernel
theorem d_Mo_copyProgram_136 : decode b_Mo_copyProgram 136 = .ok (.iload_n 2, 1) := by decide +kernel
theorem d_Mo_copyProgram_137 : decode b_Mo_copyProgram 137 = .ok (.imul, 1) := by decide +kernel
theorem d_Mo_copyProgram_138 : decode b_Mo_copyProgram 138 = .ok (.iload_n 3, 1) := by decide +kernel
theorem d_Mo_copyProgram_139 : decode b_Mo_copyProgram 139 = .ok (.iadd, 1) := by decide +kernel
theorem d_Mo_copyProgram_140 : decode b_Mo_copyProgram 140 = .ok (.aload_n 0, 1) := by decide +kernel
theorem d_Mo_copyProgram_141 : decode b_Mo_copyProgram 141 = .ok (.getfield 38, 3) := by decide +kernel
theorem d_Mo_copyProgram_144 : decode b_Mo_copyProgram 144 = .ok (.bipush 12, 2) := by decide +kernel
theorem d_Mo_copyProgram_146 : decode b_Mo_copyProgram 146 = .ok (.iload_n 1, 1) := by decide +kernel
theorem d_Mo_copyProgram_147 : decode b_Mo_copyProgram 147 = .ok (.imul, 1) := by decide +kernel
theorem d_Mo_copyProgram_148 : decode b_Mo_copyProgram 148 = .ok (.iload_n 3, 1) := by decide +kernel
theorem d_Mo_copyProgram_149 : decode b_Mo_copyProgram 149 = .ok (.iadd, 1) := by decide +kernel
theorem d_Mo_copyProgram_150 : decode b_Mo_copyProgram 150 = .ok (.iaload, 1) := by decide +kernel
theorem d_Mo_copyProgram_151 : decode b_Mo_copyProgram 151 = .ok (.iastore, 1) := by decide +kernel
theorem d_Mo_copyProgram_152 : decode b_Mo_copyProgram 152 = .ok (.iinc 3 1, 3) := by decide +kernel
theorem d_Mo_copyProgram_155 : decode b_Mo_copyProgram 155 = .ok (.goto (-141), 3) := by decide +kernel
theorem d_Mo_copyProgram_158 : decode b_Mo_copyProgram 158 = .ok (.iconst 0, 1) := by decide +kernel
theorem d_Mo_copyProgram_159 : decode b_Mo_copyProgram 159 = .ok (.istore_n 3, 1) := by decide +kernel
theorem d_Mo_copyProgram_160 : decode b_Mo_copyProgram 160 = .ok (.iload_n 3, 1) := by decide +kernel
theorem d_Mo_copyProgram_161 : decode b_Mo_copyProgram 161 = .ok (.sipush 4800, 3) := by decide +kernel
theorem d_Mo_copyProgram_164 : decode b_Mo_copyProgram 164 = .ok (.if_icmp .ge 105, 3) := by decide +kernel
theorem d_Mo_copyProgram_167 : decode b_Mo_copyProgram 167 = .ok (.aload_n 0, 1) := by decide +kernel
theorem d_Mo_copyProgram_168 : decode b_Mo_copyProgram 168 = .ok (.getfield 41, 3) := by decide +kernel
theorem d_Mo_copyProgram_171 : decode b_Mo_copyProgram 171 = .ok (.sipush 4800, 3) := by decide +kernel
theorem d_Mo_copyProgram_174 : decode b_Mo_copyProgram 174 = .ok (.iload_n 2, 1) := by decide +kernel
theorem d_Mo_copyProgram_175 : decode b_Mo_copyProgram 175 = .ok (.imul, 1) := by decide +kernel
theorem d_Mo_copyProgram_176 : decode b_Mo_copyProgram 176 = .ok (.iload_n 3, 1) := by decide +kernel
theorem d_Mo_copyProgram_177 : decode b_Mo_copyProgram 177 = .ok (.iadd, 1) := by decide +kernel
theorem d_Mo_copyProgram_178 : decode b_Mo_copyProgram 178 = .ok (.aload_n 0, 1) := by decide +kernel
theorem d_Mo_copyProgram_179 : decode b_Mo_copyProgram 179 = .ok (.getfield 41, 3) := by decide +kernel
theorem d_Mo_copyProgram_182 : decode b_Mo_copyProgram 182 = .ok (.sipush 4800, 3) := by decide +kernel
theorem d_Mo_copyProgram_185 : decode b_Mo_copyProgram 185 = .ok (.iload_n 1, 1) := by decide +kernel
theorem d_Mo_copyProgram_186 : decode b_Mo_copyProgram 186 = .ok (.imul, 1) := by decide +kernel
theorem d_Mo_copyProgram_187 : decode b_Mo_copyProgram 187 = .ok (.iload_n 3, 1) := by decide +kernel
theorem d_Mo_copyProgram_188 : decode b_Mo_copyProgram 188 = .ok (.iadd, 1) := by decide +kernel
theorem d_Mo_copyProgram_189 : decode b_Mo_copyProgram 189 = .ok (.iaload, 1) := by decide +kernel
theorem d_Mo_copyProgram_190 : decode b_Mo_copyProgram 190 = .ok (.iastore, 1) := by decide +kernel
theorem d_Mo_copyProgram_191 : decode b_Mo_copyProgram 191 = .ok (.aload_n 0, 1) := by decide +kernel
theorem d_Mo_copyProgram_192 : decode b_Mo_copyProgram 192 = .ok (.getfield 44, 3) := by decide +kernel
theorem d_Mo_copyProgram_195 : decode b_Mo_copyProgram 195 = .ok (.sipush 4800, 3) := by decide +kernel
theorem d_Mo_copyProgram_198 : decode b_Mo_copyProgram 198 = .ok (.iload_n 2, 1) := by decide +kernel
theorem d_Mo_copyProgram_199 : decode b_Mo_copyProgram 199 = .ok (.imul, 1) := by decide +kernel
theorem d_Mo_copyProgram_200 : decode b_Mo_copyProgram 200 = .ok (.iload_n 3, 1) := by decide +kernel
theorem d_Mo_copyProgram_201 : decode b_Mo_copyProgram 201 = .ok (.iadd, 1) := by decide +kernel
theorem d_Mo_copyProgram_202 : decode b_Mo_copyProgram 202 = .ok (.aload_n 0, 1) := by decide +kernel
theorem d_Mo_copyProgram_203 : decode b_Mo_copyProgram 203 = .ok (.getfield 44, 3) := by decide +kernel
theorem d_Mo_copyProgram_206 : decode b_Mo_copyProgram 206 = .ok (.sipush 4800, 3) := by decide +kernel
theorem d_Mo_copyProgram_209 : decode b_Mo_copyProgram 209 = .ok (.iload_n 1, 1) := by decide +kernel
theorem d_Mo_copyProgram_210 : decode b_Mo_copyProgram 210 = .ok (.imul, 1) := by decide +kernel
theorem d_Mo_copyProgram_211 : decode b_Mo_copyProgram 211 = .ok (.iload_n 3, 1) := by decide +kernel
theorem d_Mo_copyProgram_212 : decode b_Mo_copyProgram 212 = .ok (.iadd, 1) := by decide +kernel
theorem d_Mo_copyProgram_213 : decode b_Mo_copyProgram 213 = .ok (.iaload, 1) := by decide +kernel
theorem d_Mo_copyProgram_214 : decode b_Mo_copyProgram 214 = .ok (.iastore, 1) := by decide +kernel
theorem d_Mo_copyProgram_215 : decode b_Mo_copyProgram 215 = .ok (.aload_n 0, 1) := by decide +kernel
theorem d_Mo_copyProgram_216 : decode b_Mo_copyProgram 216 = .ok (.getfield 63, 3) := by decide +kernel
theorem d_Mo_copyProgram_219 : decode b_Mo_copyProgram 219 = .ok (.sipush 4800, 3) := by decide +kernel
theorem d_Mo_copyProgram_222 : decode b_Mo_copyProgram 222 = .ok (.iload_n 2, 1) := by decide +kernel
theorem d_Mo_copyProgram_223 : decode b_Mo_copyProgram 223 = .ok (.imul, 1) := by decide +kernel
theorem d_Mo_copyProgram_224 : decode b_Mo_copyProgram 224 = .ok (.iload_n 3, 1) := by decide +kernel
theorem d_Mo_copyProgram_225 : decode b_Mo_copyProgram 225 = .ok (.iadd, 1) := by decide +kernel
theorem d_Mo_copyProgram_226 : decode b_Mo_copyProgram 226 = .ok (.aload_n 0, 1) := by decide +kernel
theorem d_Mo_copyProgram_227 : decode b_Mo_copyProgram 227 = .ok (.getfield 63, 3) := by decide +kernel
theorem d_Mo_copyProgram_230 : decode b_Mo_copyProgram 230 = .ok (.sipush 4800, 3) := by decide +kernel
theorem d_Mo_copyProgram_233 : decode b_Mo_copyProgram 233 = .ok (.iload_n 1, 1) := by decide +kernel
theorem d_Mo_copyProgram_234 : decode b_Mo_copyProgram 234 = .ok (.imul, 1) := by decide +kernel
theorem d_Mo_copyProgram_235 : decode b_Mo_copyProgram 235 = .ok (.iload_n 3, 1) := by decide +kernel
theorem d_Mo_copyProgram_236 : decode b_Mo_copyProgram 236 = .ok (.iadd, 1) := by decide +kernel
theorem d_Mo_copyProgram_237 : decode b_Mo_copyProgram 237 = .ok (.iaload, 1) := by decide +kernel
theorem d_Mo_copyProgram_238 : decode b_Mo_copyProgram 238 = .ok (.iastore, 1) := by decide +kernel
theorem d_Mo_copyProgram_239 : decode b_Mo_copyProgram 239 = .ok (.aload_n 0, 1) := by decide +kernel
theorem d_Mo_copyProgram_240 : decode b_Mo_copyProgram 240 = .ok (.getfield 66, 3) := by decide +kernel
theorem d_Mo_copyProgram_243 : decode b_Mo_copyProgram 243 = .ok (.sipush 4800, 3) := by decide +kernel
theorem d_Mo_copyProgram_246 : decode b_Mo_copyProgram 246 = .ok (.iload_n 2, 1) := by decide +kernel
theorem d_Mo_copyProgram_247 : decode b_Mo_copyProgram 247 = .ok (.imul, 1) := by decide +kernel
theorem d_Mo_copyProgram_248 : decode b_Mo_copyProgram 248 = .ok (.iload_n 3, 1) := by decide +kernel
theorem d_Mo_copyProgram_249 : decode b_Mo_copyProgram 249 = .ok (.iadd, 1) := by decide +kernel
theorem d_Mo_copyProgram_250 : decode b_Mo_copyProgram 250 = .ok (.aload_n 0, 1) := by decide +kernel
theorem d_Mo_copyProgram_251 : decode b_Mo_copyProgram 251 = .ok (.getfield 66, 3) := by decide +kernel
theorem d_Mo_copyProgram_254 : decode b_Mo_copyProgram 254 = .ok (.sipush 4800, 3) := by decide +kernel
theorem d_Mo_copyProgram_257 : decode b_Mo_copyProgram 257 = .ok (.iload_n 1, 1) := by decide +kernel
theorem d_Mo_copyProgram_258 : decode b_Mo_copyProgram 258 = .ok (.imul, 1) := by decide +kernel
theorem d_Mo_copyProgram_259 : decode b_Mo_copyProgram 259 = .ok (.iload_n 3, 1) := by decide +kernel
theorem d_Mo_copyProgram_260 : decode b_Mo_copyProgram 260 = .ok (.iadd, 1) := by decide +kernel
theorem d_Mo_copyProgram_261 : decode b_Mo_copyProgram 261 = .ok (.iaload, 1) := by decide +kernel
theorem d_Mo_copyProgram_262 : decode b_Mo_copyProgram 262 = .ok (.iastore, 1) := by decide +kernel
theorem d_Mo_copyProgram_263 : decode b_Mo_copyProgram 263 = .ok (.iinc 3 1, 3) := by decide +kernel
theorem d_Mo_copyProgram_266 : decode b_Mo_copyProgram 266 = .ok (.goto (-106), 3) := by decide +kernel
theorem d_Mo_copyProgram_269 : decode b_Mo_copyProgram 269 = .ok (.iconst 0, 1) := by decide +kernel
theorem d_Mo_copyProgram_270 : decode b_Mo_copyProgram 270 = .ok (.istore_n 3, 1) := by decide +kernel
theorem d_Mo_copyProgram_271 : decode b_Mo_copyProgram 271 = .ok (.iload_n 3, 1) := by decide +kernel
theorem d_Mo_copyProgram_272 : decode b_Mo_copyProgram 272 = .ok (.bipush 72, 2) := by decide +kernel
theorem d_Mo_copyProgram_274 : decode b_Mo_copyProgram 274 = .ok (.if_icmp .ge 119, 3) := by decide +kernel
theorem d_Mo_copyProgram_277 : decode b_Mo_copyProgram 277 = .ok (.aload_n 0, 1) := by decide +kernel
theorem d_Mo_copyProgram_278 : decode b_Mo_copyProgram 278 = .ok (.getfield 47, 3) := by decide +kernel
theorem d_Mo_copyProgram_281 : decode b_Mo_copyProgram 281 = .ok (.bipush 72, 2) := by decide +kernel
theorem d_Mo_copyProgram_283 : decode b_Mo_copyProgram 283 = .ok (.iload_n 2, 1) := by decide +kernel
theorem d_Mo_copyProgram_284 : decode b_Mo_copyProgram 284 = .ok (.imul, 1) := by decide +kernel
theorem d_Mo_copyProgram_285 : decode b_Mo_copyProgram 285 = .ok (.iload_n 3, 1) := by decide +kernel
theorem d_Mo_copyProgram_286 : decode b_Mo_copyProgram 286 = .ok (.iadd, 1) := by decide +kernel
theorem d_Mo_copyProgram_287 : decode b_Mo_copyProgram 287 = .ok (.aload_n 0, 1) := by decide +kernel
theorem d_Mo_copyProgram_288 : decode b_Mo_copyProgram 288 = .ok (.getfield 47, 3) := by decide +kernel
theorem d_Mo_copyProgram_291 : decode b_Mo_copyProgram 291 = .ok (.bipush 72, 2) := by decide +kernel
theorem d_Mo_copyProgram_293 : decode b_Mo_copyProgram 293 = .ok (.iload_n 1, 1) := by decide +kernel
theorem d_Mo_copyProgram_294 : decode b_Mo_copyProgram 294 = .ok (.imul, 1) := by decide +kernel
theorem d_Mo_copyProgram_295 : decode b_Mo_copyProgram 295 = .ok (.iload_n 3, 1) := by decide +kernel
theorem d_Mo_copyProgram_296 : decode b_Mo_copyProgram 296 = .ok (.iadd, 1) := by decide +kernel
theorem d_Mo_copyProgram_297 : decode b_Mo_copyProgram 297 = .ok (.iaload, 1) := by decide +kernel
theorem d_Mo_copyProgram_298 : decode b_Mo_copyProgram 298 = .ok (.iastore, 1) := by decide +kernel
theorem d_Mo_copyProgram_299 : decode b_Mo_copyProgram 299 = .ok (.aload_n 0, 1) := by decide +kernel
theorem d_Mo_copyProgram_300 : decode b_Mo_copyProgram 300 = .ok (.getfield 50, 3) := by decide +kernel
theorem d_Mo_copyProgram_303 : decode b_Mo_copyProgram 303 = .ok (.bipush 72, 2) := by decide +kernel
theorem d_Mo_copyProgram_305 : decode b_Mo_copyProgram 305 = .ok (.iload_n 2, 1) := by decide +kernel
theorem d_Mo_copyProgram_306 : decode b_Mo_copyProgram 306 = .ok (.imul, 1) := by decide +kernel
theorem d_Mo_copyProgram_307 : decode b_Mo_copyProgram 307 = .ok (.iload_n 3, 1) := by decide +kernel
theorem d_Mo_copyProgram_308 : decode b_Mo_copyProgram 308 = .ok (.iadd, 1) := by decide +kernel
theorem d_Mo_copyProgram_309 : decode b_Mo_copyProgram 309 = .ok (.aload_n 0, 1) := by decide +kernel
theorem d_Mo_copyProgram_310 : decode b_Mo_copyProgram 310 = .ok (.getfield 50, 3) := by decide +kernel
theorem d_Mo_copyProgram_313 : decode b_Mo_copyProgram 313 = .ok (.bipush 72, 2) := by decide +kernel
theorem d_Mo_copyProgram_315 : decode b_Mo_copyProgram 315 = .ok (.iload_n 1, 1) := by decide +kernel
theorem d_Mo_copyProgram_316 : decode b_Mo_copyProgram 316 = .ok (.imul, 1) := by decide +kernel
theorem d_Mo_copyProgram_317 : decode b_Mo_copyProgram 317 = .ok (.iload_n 3, 1) := by decide +kernel
theorem d_Mo_copyProgram_318 : decode b_Mo_copyProgram 318 = .ok (.iadd, 1) := by decide +kernel
theorem d_Mo_copyProgram_319 : decode b_Mo_copyProgram 319 = .ok (.iaload, 1) := by decide +kernel
theorem d_Mo_copyProgram_320 : decode b_Mo_copyProgram 320 = .ok (.iastore, 1) := by decide +kernel
theorem d_Mo_copyProgram_321 : decode b_Mo_copyProgram 321 = .ok (.aload_n 0, 1) := by decide +kernel
theorem d_Mo_copyProgram_322 : decode b_Mo_copyProgram 322 = .ok (.getfield 53, 3) := by decide +kernel
theorem d_Mo_copyProgram_325 : decode b_Mo_copyProgram 325 = .ok (.bipush 72, 2) := by decide +kernel
theorem d_Mo_copyProgram_327 : decode b_Mo_copyProgram 327 = .ok (.iload_n 2, 1) := by decide +kernel
theorem d_Mo_copyProgram_328 : decode b_Mo_copyProgram 328 = .ok (.imul, 1) := by decide +kernel
theorem d_Mo_copyProgram_329 : decode b_Mo_copyProgram 329 = .ok (.iload_n 3, 1) := by decide +kernel
theorem d_Mo_copyProgram_330 : decode b_Mo_copyProgram 330 = .ok (.iadd, 1) := by decide +kernel
theorem d_Mo_copyProgram_331 : decode b_Mo_copyProgram 331 = .ok (.aload_n 0, 1) := by decide +kernel
theorem d_Mo_copyProgram_332 : decode b_Mo_copyProgram 332 = .ok (.getfield 53, 3) := by decide +kernel
theorem d_Mo_copyProgram_335 : decode b_Mo_copyProgram 335 = .ok (.bipush 72, 2) := by decide +kernel
theorem d_Mo_copyProgram_337 : decode b_Mo_copyProgram 337 = .ok (.iload_n 1, 1) := by decide +kernel
theorem d_Mo_copyProgram_338 : decode b_Mo_copyProgram 338 = .ok (.imul, 1) := by decide +kernel
theorem d_Mo_copyProgram_339 : decode b_Mo_copyProgram 339 = .ok (.iload_n 3, 1) := by decide +kernel
theorem d_Mo_copyProgram_340 : decode b_Mo_copyProgram 340 = .ok (.iadd, 1) := by decide +kernel
theorem d_Mo_copyProgram_341 : decode b_Mo_copyProgram 341 = .ok (.iaload, 1) := by decide +kernel
theorem d_Mo_copyProgram_342 : decode b_Mo_copyProgram 342 = .ok (.iastore, 1) := by decide +kernel
theorem d_Mo_copyProgram_343 : decode b_Mo_copyProgram 343 = .ok (.aload_n 0, 1) := by decide +kernel
theorem d_Mo_copyProgram_344 : decode b_Mo_copyProgram 344 = .ok (.getfield 56, 3) := by decide +kernel
theorem d_Mo_copyProgram_347 : decode b_Mo_copyProgram 347 = .ok (.bipush 72, 2) := by decide +kernel
theorem d_Mo_copyProgram_349 : decode b_Mo_copyProgram 349 = .ok (.iload_n 2, 1) := by decide +kernel
theorem d_Mo_copyProgram_350 : decode b_Mo_copyProgram 350 = .ok (.imul, 1) := by decide +kernel
theorem d_Mo_copyProgram_351 : decode b_Mo_copyProgram 351 = .ok (.iload_n 3, 1) := by decide +kernel
theorem d_Mo_copyProgram_352 : decode b_Mo_copyProgram 352 = .ok (.iadd, 1) := by decide +kernel
theorem d_Mo_copyProgram_353 : decode b_Mo_copyProgram 353 = .ok (.aload_n 0, 1) := by decide +kernel
theorem d_Mo_copyProgram_354 : decode b_Mo_copyProgram 354 = .ok (.getfield 56, 3) := by decide +kernel
theorem d_Mo_copyProgram_357 : decode b_Mo_copyProgram 357 = .ok (.bipush 72, 2) := by decide +kernel
theorem d_Mo_copyProgram_359 : decode b_Mo_copyProgram 359 = .ok (.iload_n 1, 1) := by decide +kernel
theorem d_Mo_copyProgram_360 : decode b_Mo_copyProgram 360 = .ok (.imul, 1) := by decide +kernel
theorem d_Mo_copyProgram_361 : decode b_Mo_copyProgram 361 = .ok (.iload_n 3, 1) := by decide +kernel
theorem d_Mo_copyProgram_362 : decode b_Mo_copyProgram 362 = .ok (.iadd, 1) := by decide +kernel
theorem d_Mo_copyProgram_363 : decode b_Mo_copyProgram 363 = .ok (.baload, 1) := by decide +kernel
theorem d_Mo_copyProgram_364 : decode b_Mo_copyProgram 364 = .ok (.bastore, 1) := by decide +kernel
theorem d_Mo_copyProgram_365 : decode b_Mo_copyProgram 365 = .ok (.aload_n 0, 1) := by decide +kernel
theorem d_Mo_copyProgram_366 : decode b_Mo_copyProgram 366 = .ok (.getfield 60, 3) := by decide +kernel
theorem d_Mo_copyProgram_369 : decode b_Mo_copyProgram 369 = .ok (.bipush 72, 2) := by decide +kernel
theorem d_Mo_copyProgram_371 : decode b_Mo_copyProgram 371 = .ok (.iload_n 2, 1) := by decide +kernel
theorem d_Mo_copyProgram_372 : decode b_Mo_copyProgram 372 = .ok (.imul, 1) := by decide +kernel
theorem d_Mo_copyProgram_373 : decode b_Mo_copyProgram 373 = .ok (.iload_n 3, 1) := by decide +kernel
theorem d_Mo_copyProgram_374 : decode b_Mo_copyProgram 374 = .ok (.iadd, 1) := by decide +kernel
theorem d_Mo_copyProgram_375 : decode b_Mo_copyProgram 375 = .ok (.aload_n 0, 1) := by decide +kernel
theorem d_Mo_copyProgram_376 : decode b_Mo_copyProgram 376 = .ok (.getfield 60, 3) := by decide +kernel
theorem d_Mo_copyProgram_379 : decode b_Mo_copyProgram 379 = .ok (.bipush 72, 2) := by decide +kernel
theorem d_Mo_copyProgram_381 : decode b_Mo_copyProgram 381 = .ok (.iload_n 1, 1) := by decide +kernel
theorem d_Mo_copyProgram_382 : decode b_Mo_copyProgram 382 = .ok (.imul, 1) := by decide +kernel
theorem d_Mo_copyProgram_383 : decode b_Mo_copyProgram 383 = .ok (.iload_n 3, 1) := by decide +kernel
theorem d_Mo_copyProgram_384 : decode b_Mo_copyProgram 384 = .ok (.iadd, 1) := by decide +kernel
theorem d_Mo_copyProgram_385 : decode b_Mo_copyProgram 385 = .ok (.iaload, 1) := by decide +kernel
theorem d_Mo_copyProgram_386 : decode b_Mo_copyProgram 386 = .ok (.iastore, 1) := by decide +kernel
theorem d_Mo_copyProgram_387 : decode b_Mo_copyProgram 387 = .ok (.iinc 3 1, 3) := by decide +kernel
theorem d_Mo_copyProgram_390 : decode b_Mo_copyProgram 390 = .ok (.goto (-119), 3) := by decide +kernel
theorem d_Mo_copyProgram_393 : decode b_Mo_copyProgram 393 = .ok (.return_, 1) := by decide +kernel
theorem d_Mo_told_0 : decode b_Mo_told 0 = .ok (.aload_n 0, 1) := by decide +kernel
theorem d_Mo_told_1 : decode b_Mo_told 1 = .ok (.aload_n 0, 1) := by decide +kernel
theorem d_Mo_told_2 : decode b_Mo_told 2 = .ok (.getfield 79, 3) := by decide +kernel
theorem d_Mo_told_5 : decode b_Mo_told 5 = .ok (.putfield 116, 3) := by decide +kernel
theorem d_Mo_told_8 : decode b_Mo_told 8 = .ok (.aload_n 0, 1) := by decide +kernel
theorem d_Mo_told_9 : decode b_Mo_told 9 = .ok (.aload_n 0, 1) := by decide +kernel
theorem d_Mo_told_10 : decode b_Mo_told 10 = .ok (.getfield 82, 3) := by decide +kernel
theorem d_Mo_told_13 : decode b_Mo_told 13 = .ok (.putfield 16, 3) := by decide +kernel
theorem d_Mo_told_16 : decode b_Mo_told 16 = .ok (.aload_n 0, 1) := by decide +kernel
theorem d_Mo_told_17 : decode b_Mo_told 17 = .ok (.getfield 79, 3) := by decide +kernel
theorem d_Mo_told_20 : decode b_Mo_told 20 = .ok (.ireturn, 1) := by decide +kernel
theorem d_Mo_read_0 : decode b_Mo_read 0 = .ok (.aload_n 0, 1) := by decide +kernel
theorem d_Mo_read_1 : decode b_Mo_read 1 = .ok (.iconst 0, 1) := by decide +kernel
theorem d_Mo_read_2 : decode b_Mo_read 2 = .ok (.putfield 76, 3) := by decide +kernel
theorem d_Mo_read_5 : decode b_Mo_read 5 = .ok (.aload_n 0, 1) := by decide +kernel
theorem d_Mo_read_6 : decode b_Mo_read 6 = .ok (.invokevirtual 119, 3) := by decide +kernel
theorem d_Mo_read_9 : decode b_Mo_read 9 = .ok (.iconst 0, 1) := by decide +kernel
theorem d_Mo_read_10 : decode b_Mo_read 10 = .ok (.istore_n 1, 1) := by decide +kernel
theorem d_Mo_read_11 : decode b_Mo_read 11 = .ok (.aload_n 0, 1) := by decide +kernel
theorem d_Mo_read_12 : decode b_Mo_read 12 = .ok (.getfield 79, 3) := by decide +kernel
theorem d_Mo_read_15 : decode b_Mo_read 15 = .ok (.ifCond .ne 25, 3) := by decide +kernel
theorem d_Mo_read_18 : decode b_Mo_read 18 = .ok (.iload_n 1, 1) := by decide +kernel
theorem d_Mo_read_19 : decode b_Mo_read 19 = .ok (.aload_n 0, 1) := by decide +kernel
theorem d_Mo_read_20 : decode b_Mo_read 20 = .ok (.getfield 20, 3) := by decide +kernel
theorem d_Mo_read_23 : decode b_Mo_read 23 = .ok (.iconst 1, 1) := by decide +kernel
theorem d_Mo_read_24 : decode b_Mo_read 24 = .ok (.iaload, 1) := by decide +kernel
theorem d_Mo_read_25 : decode b_Mo_read 25 = .ok (.if_icmp .ge 15, 3) := by decide +kernel
theorem d_Mo_read_28 : decode b_Mo_read 28 = .ok (.aload_n 0, 1) := by decide +kernel
theorem d_Mo_read_29 : decode b_Mo_read 29 = .ok (.iconst 1, 1) := by decide +kernel
theorem d_Mo_read_30 : decode b_Mo_read 30 = .ok (.iload_n 1, 1) := by decide +kernel
theorem d_Mo_read_31 : decode b_Mo_read 31 = .ok (.invokevirtual 72, 3) := by decide +kernel
theorem d_Mo_read_34 : decode b_Mo_read 34 = .ok (.iinc 1 1, 3) := by decide +kernel
theorem d_Mo_read_37 : decode b_Mo_read 37 = .ok (.goto (-26), 3) := by decide +kernel
theorem d_Mo_read_40 : decode b_Mo_read 40 = .ok (.aload_n 0, 1) := by decide +kernel
theorem d_Mo_read_41 : decode b_Mo_read 41 = .ok (.getfield 79, 3) := by decide +kernel
theorem d_Mo_read_44 : decode b_Mo_read 44 = .ok (.ifCond .ne 9, 3) := by decide +kernel
theorem d_Mo_read_47 : decode b_Mo_read 47 = .ok (.aload_n 0, 1) := by decide +kernel
theorem d_Mo_read_48 : decode b_Mo_read 48 = .ok (.iconst 1, 1) := by decide +kernel
theorem d_Mo_read_49 : decode b_Mo_read 49 = .ok (.iconst 0, 1) := by decide +kernel
theorem d_Mo_read_50 : decode b_Mo_read 50 = .ok (.invokevirtual 122, 3) := by decide +kernel
theorem d_Mo_read_53 : decode b_Mo_read 53 = .ok (.aload_n 0, 1) := by decide +kernel
theorem d_Mo_read_54 : decode b_Mo_read 54 = .ok (.invokevirtual 125, 3) := by decide +kernel
theorem d_Mo_read_57 : decode b_Mo_read 57 = .ok (.ireturn, 1) := by decide +kernel
set_option maxHeartbeats 4000000 in
set_option maxRecDepth 100000 in
theorem ml_Mo_copyProgram_14 {p : Program} {l : Launch} {e : Env} {s : State} {m : MethodId} {args : Array Value} {below : List Frame} {meth : Method} {c : Code} {D : va_G} {dA : Nat → ClassId} {h0 h2 : hc_H} {C0 S0 : Nat} {b : Unit} (hC : hj_C p s m args meth c (gg D dA) b_Mo_copyProgram 4 none R_Mo "copyProgram" tb) (x0 : Option Nat) (x1 : Int32) (x2 : Int32) (kx : hM Unit) (hk : ∀  (h : hc_H) (C S : Nat), kx  h = some (b, C, S, h2) → hj_J p l e { frames := 0, cells := C0, slots := S0, locals := 0 } s m args below meth c (gg D dA) h0 4 (hj_Q below args s { frames := 0, cells := C0, slots := S0, locals := 0 } (gg D dA) h0 none h2) C S h 158 [(0, vr_ x0), (1, vi_ x1), (2, vi_ x2)] []) : ∀ (fu : Nat) (v3 : Int32) (h : hc_H) (C S : Nat), p_Mo_copyProgram_14 x0 x1 x2 kx fu v3 h = some (b, C, S, h2) → hj_J p l e { frames := 0, cells := C0, slots := S0, locals := 0 } s m args below meth c (gg D dA) h0 4 (hj_Q below args s { frames := 0, cells := C0, slots := S0, locals := 0 } (gg D dA) h0 none h2) C S h 14 [(0, vr_ x0), (1, vi_ x1), (2, vi_ x2), (3, vi_ v3)] [] := by
  intro fu
  induction fu with
  | zero =>
    intro v3 h C S hr
    cases hr
  | succ fu ih =>
    intro v3 h C S hr
    rw [p_Mo_copyProgram_14] at hr
    refine hj_iload_n hC 3 d_Mo_copyProgram_14 rfl rfl ?_
    refine hj_bipush hC (v := 12) d_Mo_copyProgram_15 (by decide) ?_
    refine hj_icmp_ge hC 158 d_Mo_copyProgram_17 (by decide) hr (fun q17 hr => ?_) (fun q17 hr => ?_)
    · refine hj_sub (lv' := [(0, vr_ x0), (1, vi_ x1), (2, vi_ x2)]) [0, 1, 2] rfl ?_
      exact hk _ _ _ hr
    · refine hj_aload_n hC 0 d_Mo_copyProgram_20 rfl rfl ?_
      refine hj_getr hC cf_Mo (k := 10) (by decide) wq_408 rfl d_Mo_copyProgram_21 hr (fun a4 hr => ?_)
      refine hj_bipush hC (v := 12) d_Mo_copyProgram_24 (by decide) ?_
      refine hj_iload_n hC 2 d_Mo_copyProgram_26 rfl rfl ?_
      refine hj_imul hC d_Mo_copyProgram_27 ?_
      refine hj_iload_n hC 3 d_Mo_copyProgram_28 rfl rfl ?_
      refine hj_iadd hC d_Mo_copyProgram_29 ?_
      refine hj_aload_n hC 0 d_Mo_copyProgram_30 rfl rfl ?_
      refine hj_getr hC cf_Mo (k := 10) (by decide) wq_408 rfl d_Mo_copyProgram_31 hr (fun a5 hr => ?_)
      refine hj_bipush hC (v := 12) d_Mo_copyProgram_34 (by decide) ?_
      refine hj_iload_n hC 1 d_Mo_copyProgram_36 rfl rfl ?_
      refine hj_imul hC d_Mo_copyProgram_37 ?_
      refine hj_iload_n hC 3 d_Mo_copyProgram_38 rfl rfl ?_
      refine hj_iadd hC d_Mo_copyProgram_39 ?_
      refine hj_iald hC (kd := 13) rfl d_Mo_copyProgram_40 hr (fun a6 hr => ?_)
      refine hj_iast hC (kd := 13) rfl d_Mo_copyProgram_41 hr (fun h hr => ?_)
      refine hj_aload_n hC 0 d_Mo_copyProgram_42 rfl rfl ?_
      refine hj_getr hC cf_Mo (k := 11) (by decide) wq_437 rfl d_Mo_copyProgram_43 hr (fun a7 hr => ?_)
      refine hj_bipush hC (v := 12) d_Mo_copyProgram_46 (by decide) ?_
      refine hj_iload_n hC 2 d_Mo_copyProgram_48 rfl rfl ?_
      refine hj_imul hC d_Mo_copyProgram_49 ?_
      refine hj_iload_n hC 3 d_Mo_copyProgram_50 rfl rfl ?_
      refine hj_iadd hC d_Mo_copyProgram_51 ?_
      refine hj_aload_n hC 0 d_Mo_copyProgram_52 rfl rfl ?_
      refine hj_getr hC cf_Mo (k := 11) (by decide) wq_437 rfl d_Mo_copyProgram_53 hr (fun a8 hr => ?_)
      refine hj_bipush hC (v := 12) d_Mo_copyProgram_56 (by decide) ?_
      refine hj_iload_n hC 1 d_Mo_copyProgram_58 rfl rfl ?_
      refine hj_imul hC d_Mo_copyProgram_59 ?_
      refine hj_iload_n hC 3 d_Mo_copyProgram_60 rfl rfl ?_
      refine hj_iadd hC d_Mo_copyProgram_61 ?_
      refine hj_iald hC (kd := 14) rfl d_Mo_copyProgram_62 hr (fun a9 hr => ?_)
      refine hj_iast hC (kd := 14) rfl d_Mo_copyProgram_63 hr (fun h hr => ?_)
      refine hj_aload_n hC 0 d_Mo_copyProgram_64 rfl rfl ?_
      refine hj_getr hC cf_Mo (k := 12) (by decide) wq_394 rfl d_Mo_copyProgram_65 hr (fun a10 hr => ?_)
      refine hj_bipush hC (v := 12) d_Mo_copyProgram_68 (by decide) ?_
      refine hj_iload_n hC 2 d_Mo_copyProgram_70 rfl rfl ?_
      refine hj_imul hC d_Mo_copyProgram_71 ?_
      refine hj_iload_n hC 3 d_Mo_copyProgram_72 rfl rfl ?_
      refine hj_iadd hC d_Mo_copyProgram_73 ?_
      refine hj_aload_n hC 0 d_Mo_copyProgram_74 rfl rfl ?_
      refine hj_getr hC cf_Mo (k := 12) (by decide) wq_394 rfl d_Mo_copyProgram_75 hr (fun a11 hr => ?_)
      refine hj_bipush hC (v := 12) d_Mo_copyProgram_78 (by decide) ?_
      refine hj_iload_n hC 1 d_Mo_copyProgram_80 rfl rfl ?_
      refine hj_imul hC d_Mo_copyProgram_81 ?_
      refine hj_iload_n hC 3 d_Mo_copyProgram_82 rfl rfl ?_
      refine hj_iadd hC d_Mo_copyProgram_83 ?_
      refine hj_iald hC (kd := 15) rfl d_Mo_copyProgram_84 hr (fun a12 hr => ?_)
      refine hj_iast hC (kd := 15) rfl d_Mo_copyProgram_85 hr (fun h hr => ?_)
      refine hj_aload_n hC 0 d_Mo_copyProgram_86 rfl rfl ?_
      refine hj_getr hC cf_Mo (k := 13) (by decide) wq_407 rfl d_Mo_copyProgram_87 hr (fun a13 hr => ?_)
      refine hj_bipush hC (v := 12) d_Mo_copyProgram_90 (by decide) ?_
      refine hj_iload_n hC 2 d_Mo_copyProgram_92 rfl rfl ?_
      refine hj_imul hC d_Mo_copyProgram_93 ?_
      refine hj_iload_n hC 3 d_Mo_copyProgram_94 rfl rfl ?_
      refine hj_iadd hC d_Mo_copyProgram_95 ?_
      refine hj_aload_n hC 0 d_Mo_copyProgram_96 rfl rfl ?_
      refine hj_getr hC cf_Mo (k := 13) (by decide) wq_407 rfl d_Mo_copyProgram_97 hr (fun a14 hr => ?_)
      refine hj_bipush hC (v := 12) d_Mo_copyProgram_100 (by decide) ?_
      refine hj_iload_n hC 1 d_Mo_copyProgram_102 rfl rfl ?_
      refine hj_imul hC d_Mo_copyProgram_103 ?_
      refine hj_iload_n hC 3 d_Mo_copyProgram_104 rfl rfl ?_
      refine hj_iadd hC d_Mo_copyProgram_105 ?_
      refine hj_iald hC (kd := 16) rfl d_Mo_copyProgram_106 hr (fun a15 hr => ?_)
      refine hj_iast hC (kd := 16) rfl d_Mo_copyProgram_107 hr (fun h hr => ?_)
      refine hj_aload_n hC 0 d_Mo_copyProgram_108 rfl rfl ?_
      refine hj_getr hC cf_Mo (k := 14) (by decide) wq_424 rfl d_Mo_copyProgram_109 hr (fun a16 hr => ?_)
      refine hj_bipush hC (v := 12) d_Mo_copyProgram_112 (by decide) ?_
      refine hj_iload_n hC 2 d_Mo_copyProgram_114 rfl rfl ?_
      refine hj_imul hC d_Mo_copyProgram_115 ?_
      refine hj_iload_n hC 3 d_Mo_copyProgram_116 rfl rfl ?_
      refine hj_iadd hC d_Mo_copyProgram_117 ?_
      refine hj_aload_n hC 0 d_Mo_copyProgram_118 rfl rfl ?_
      refine hj_getr hC cf_Mo (k := 14) (by decide) wq_424 rfl d_Mo_copyProgram_119 hr (fun a17 hr => ?_)
      refine hj_bipush hC (v := 12) d_Mo_copyProgram_122 (by decide) ?_
      refine hj_iload_n hC 1 d_Mo_copyProgram_124 rfl rfl ?_
      refine hj_imul hC d_Mo_copyProgram_125 ?_
      refine hj_iload_n hC 3 d_Mo_copyProgram_126 rfl rfl ?_
      refine hj_iadd hC d_Mo_copyProgram_127 ?_
      refine hj_iald hC (kd := 17) rfl d_Mo_copyProgram_128 hr (fun a18 hr => ?_)
      refine hj_iast hC (kd := 17) rfl d_Mo_copyProgram_129 hr (fun h hr => ?_)
      refine hj_aload_n hC 0 d_Mo_copyProgram_130 rfl rfl ?_
      refine hj_getr hC cf_Mo (k := 15) (by decide) wq_416 rfl d_Mo_copyProgram_131 hr (fun a19 hr => ?_)
      refine hj_bipush hC (v := 12) d_Mo_copyProgram_134 (by decide) ?_
      refine hj_iload_n hC 2 d_Mo_copyProgram_136 rfl rfl ?_
      refine hj_imul hC d_Mo_copyProgram_137 ?_
      refine hj_iload_n hC 3 d_Mo_copyProgram_138 rfl rfl ?_
      refine hj_iadd hC d_Mo_copyProgram_139 ?_
      refine hj_aload_n hC 0 d_Mo_copyProgram_140 rfl rfl ?_
      refine hj_getr hC cf_Mo (k := 15) (by decide) wq_416 rfl d_Mo_copyProgram_141 hr (fun a20 hr => ?_)
      refine hj_bipush hC (v := 12) d_Mo_copyProgram_144 (by decide) ?_
      refine hj_iload_n hC 1 d_Mo_copyProgram_146 rfl rfl ?_
      refine hj_imul hC d_Mo_copyProgram_147 ?_
      refine hj_iload_n hC 3 d_Mo_copyProgram_148 rfl rfl ?_
      refine hj_iadd hC d_Mo_copyProgram_149 ?_
      refine hj_iald hC (kd := 18) rfl d_Mo_copyProgram_150 hr (fun a21 hr => ?_)
      refine hj_iast hC (kd := 18) rfl d_Mo_copyProgram_151 hr (fun h hr => ?_)
      refine hj_iinc hC (lv' := [(3, vi_ (v3 + 1)), (0, vr_ x0), (1, vi_ x1), (2, vi_ x2)]) 3 d_Mo_copyProgram_152 rfl rfl (by decide) rfl ?_
      refine hj_goto hC 14 d_Mo_copyProgram_155 (by decide) ?_
      refine hj_sub (lv' := [(0, vr_ x0), (1, vi_ x1), (2, vi_ x2), (3, vi_ (v3 + 1))]) [1, 2, 3, 0] rfl ?_
      exact ih _ _ _ _ hr
set_option maxHeartbeats 4000000 in
set_option maxRecDepth 100000 in
theorem ml_Mo_copyProgram_160 {p : Program} {l : Launch} {e : Env} {s : State} {m : MethodId} {args : Array Value} {below : List Frame} {meth : Method} {c : Code} {D : va_G} {dA : Nat → ClassId} {h0 h2 : hc_H} {C0 S0 : Nat} {b : Unit} (hC : hj_C p s m args meth c (gg D dA) b_Mo_copyProgram 4 none R_Mo "copyProgram" tb) (x0 : Option Nat) (x1 : Int32) (x2 : Int32) (kx : hM Unit) (hk : ∀  (h : hc_H) (C S : Nat), kx  h = some (b, C, S, h2) → hj_J p l e { frames := 0, cells := C0, slots := S0, locals := 0 } s m args below meth c (gg D dA) h0 4 (hj_Q below args s { frames := 0, cells := C0, slots := S0, locals := 0 } (gg D dA) h0 none h2) C S h 269 [(0, vr_ x0), (1, vi_ x1), (2, vi_ x2)] []) : ∀ (fu : Nat) (v3 : Int32) (h : hc_H) (C S : Nat), p_Mo_copyProgram_160 x0 x1 x2 kx fu v3 h = some (b, C, S, h2) → hj_J p l e { frames := 0, cells := C0, slots := S0, locals := 0 } s m args below meth c (gg D dA) h0 4 (hj_Q below args s { frames := 0, cells := C0, slots := S0, locals := 0 } (gg D dA) h0 none h2) C S h 160 [(0, vr_ x0), (1, vi_ x1), (2, vi_ x2), (3, vi_ v3)] [] := by
  intro fu
  induction fu with
  | zero =>
    intro v3 h C S hr
    cases hr
  | succ fu ih =>
    intro v3 h C S hr
    rw [p_Mo_copyProgram_160] at hr
    refine hj_iload_n hC 3 d_Mo_copyProgram_160 rfl rfl ?_
    refine hj_sipush hC (v := 4800) d_Mo_copyProgram_161 (by decide) ?_
    refine hj_icmp_ge hC 269 d_Mo_copyProgram_164 (by decide) hr (fun q164 hr => ?_) (fun q164 hr => ?_)
    · refine hj_sub (lv' := [(0, vr_ x0), (1, vi_ x1), (2, vi_ x2)]) [0, 1, 2] rfl ?_
      exact hk _ _ _ hr
    · refine hj_aload_n hC 0 d_Mo_copyProgram_167 rfl rfl ?_
      refine hj_getr hC cf_Mo (k := 16) (by decide) wq_413 rfl d_Mo_copyProgram_168 hr (fun a22 hr => ?_)
      refine hj_sipush hC (v := 4800) d_Mo_copyProgram_171 (by decide) ?_
      refine hj_iload_n hC 2 d_Mo_copyProgram_174 rfl rfl ?_
      refine hj_imul hC d_Mo_copyProgram_175 ?_
      refine hj_iload_n hC 3 d_Mo_copyProgram_176 rfl rfl ?_
      refine hj_iadd hC d_Mo_copyProgram_177 ?_
      refine hj_aload_n hC 0 d_Mo_copyProgram_178 rfl rfl ?_
      refine hj_getr hC cf_Mo (k := 16) (by decide) wq_413 rfl d_Mo_copyProgram_179 hr (fun a23 hr => ?_)
      refine hj_sipush hC (v := 4800) d_Mo_copyProgram_182 (by decide) ?_
      refine hj_iload_n hC 1 d_Mo_copyProgram_185 rfl rfl ?_
      refine hj_imul hC d_Mo_copyProgram_186 ?_
      refine hj_iload_n hC 3 d_Mo_copyProgram_187 rfl rfl ?_
      refine hj_iadd hC d_Mo_copyProgram_188 ?_
      refine hj_iald hC (kd := 19) rfl d_Mo_copyProgram_189 hr (fun a24 hr => ?_)
      refine hj_iast hC (kd := 19) rfl d_Mo_copyProgram_190 hr (fun h hr => ?_)
      refine hj_aload_n hC 0 d_Mo_copyProgram_191 rfl rfl ?_
      refine hj_getr hC cf_Mo (k := 17) (by decide) wq_414 rfl d_Mo_copyProgram_192 hr (fun a25 hr => ?_)
      refine hj_sipush hC (v := 4800) d_Mo_copyProgram_195 (by decide) ?_
      refine hj_iload_n hC 2 d_Mo_copyProgram_198 rfl rfl ?_
      refine hj_imul hC d_Mo_copyProgram_199 ?_
      refine hj_iload_n hC 3 d_Mo_copyProgram_200 rfl rfl ?_
      refine hj_iadd hC d_Mo_copyProgram_201 ?_
      refine hj_aload_n hC 0 d_Mo_copyProgram_202 rfl rfl ?_
      refine hj_getr hC cf_Mo (k := 17) (by decide) wq_414 rfl d_Mo_copyProgram_203 hr (fun a26 hr => ?_)
      refine hj_sipush hC (v := 4800) d_Mo_copyProgram_206 (by decide) ?_
      refine hj_iload_n hC 1 d_Mo_copyProgram_209 rfl rfl ?_
      refine hj_imul hC d_Mo_copyProgram_210 ?_
      refine hj_iload_n hC 3 d_Mo_copyProgram_211 rfl rfl ?_
      refine hj_iadd hC d_Mo_copyProgram_212 ?_
      refine hj_iald hC (kd := 20) rfl d_Mo_copyProgram_213 hr (fun a27 hr => ?_)
      refine hj_iast hC (kd := 20) rfl d_Mo_copyProgram_214 hr (fun h hr => ?_)
      refine hj_aload_n hC 0 d_Mo_copyProgram_215 rfl rfl ?_
      refine hj_getr hC cf_Mo (k := 23) (by decide) wq_384 rfl d_Mo_copyProgram_216 hr (fun a28 hr => ?_)
      refine hj_sipush hC (v := 4800) d_Mo_copyProgram_219 (by decide) ?_
      refine hj_iload_n hC 2 d_Mo_copyProgram_222 rfl rfl ?_
      refine hj_imul hC d_Mo_copyProgram_223 ?_
      refine hj_iload_n hC 3 d_Mo_copyProgram_224 rfl rfl ?_
      refine hj_iadd hC d_Mo_copyProgram_225 ?_
      refine hj_aload_n hC 0 d_Mo_copyProgram_226 rfl rfl ?_
      refine hj_getr hC cf_Mo (k := 23) (by decide) wq_384 rfl d_Mo_copyProgram_227 hr (fun a29 hr => ?_)
      refine hj_sipush hC (v := 4800) d_Mo_copyProgram_230 (by decide) ?_
      refine hj_iload_n hC 1 d_Mo_copyProgram_233 rfl rfl ?_
      refine hj_imul hC d_Mo_copyProgram_234 ?_
      refine hj_iload_n hC 3 d_Mo_copyProgram_235 rfl rfl ?_
      refine hj_iadd hC d_Mo_copyProgram_236 ?_
      refine hj_iald hC (kd := 26) rfl d_Mo_copyProgram_237 hr (fun a30 hr => ?_)
      refine hj_iast hC (kd := 26) rfl d_Mo_copyProgram_238 hr (fun h hr => ?_)
      refine hj_aload_n hC 0 d_Mo_copyProgram_239 rfl rfl ?_
      refine hj_getr hC cf_Mo (k := 24) (by decide) wq_390 rfl d_Mo_copyProgram_240 hr (fun a31 hr => ?_)
      refine hj_sipush hC (v := 4800) d_Mo_copyProgram_243 (by decide) ?_
      refine hj_iload_n hC 2 d_Mo_copyProgram_246 rfl rfl ?_
      refine hj_imul hC d_Mo_copyProgram_247 ?_
      refine hj_iload_n hC 3 d_Mo_copyProgram_248 rfl rfl ?_
      refine hj_iadd hC d_Mo_copyProgram_249 ?_
      refine hj_aload_n hC 0 d_Mo_copyProgram_250 rfl rfl ?_
      refine hj_getr hC cf_Mo (k := 24) (by decide) wq_390 rfl d_Mo_copyProgram_251 hr (fun a32 hr => ?_)
      refine hj_sipush hC (v := 4800) d_Mo_copyProgram_254 (by decide) ?_
      refine hj_iload_n hC 1 d_Mo_copyProgram_257 rfl rfl ?_
      refine hj_imul hC d_Mo_copyProgram_258 ?_
      refine hj_iload_n hC 3 d_Mo_copyProgram_259 rfl rfl ?_
      refine hj_iadd hC d_Mo_copyProgram_260 ?_
      refine hj_iald hC (kd := 27) rfl d_Mo_copyProgram_261 hr (fun a33 hr => ?_)
      refine hj_iast hC (kd := 27) rfl d_Mo_copyProgram_262 hr (fun h hr => ?_)
      refine hj_iinc hC (lv' := [(3, vi_ (v3 + 1)), (0, vr_ x0), (1, vi_ x1), (2, vi_ x2)]) 3 d_Mo_copyProgram_263 rfl rfl (by decide) rfl ?_
      refine hj_goto hC 160 d_Mo_copyProgram_266 (by decide) ?_
      refine hj_sub (lv' := [(0, vr_ x0), (1, vi_ x1), (2, vi_ x2), (3, vi_ (v3 + 1))]) [1, 2, 3, 0] rfl ?_
      exact ih _ _ _ _ hr
set_option maxHeartbeats 4000000 in
set_option maxRecDepth 100000 in
theorem ml_Mo_copyProgram_271 {p : Program} {l : Launch} {e : Env} {s : State} {m : MethodId} {args : Array Value} {below : List Frame} {meth : Method} {c : Code} {D : va_G} {dA : Nat → ClassId} {h0 h2 : hc_H} {C0 S0 : Nat} {b : Unit} (hC : hj_C p s m args meth c (gg D dA) b_Mo_copyProgram 4 none R_Mo "copyProgram" tb) (x0 : Option Nat) (x1 : Int32) (x2 : Int32) (kx : hM Unit) (hk : ∀  (h : hc_H) (C S : Nat), kx  h = some (b, C, S, h2) → hj_J p l e { frames := 0, cells := C0, slots := S0, locals := 0 } s m args below meth c (gg D dA) h0 4 (hj_Q below args s { frames := 0, cells := C0, slots := S0, locals := 0 } (gg D dA) h0 none h2) C S h 393 [] []) : ∀ (fu : Nat) (v3 : Int32) (h : hc_H) (C S : Nat), p_Mo_copyProgram_271 x0 x1 x2 kx fu v3 h = some (b, C, S, h2) → hj_J p l e { frames := 0, cells := C0, slots := S0, locals := 0 } s m args below meth c (gg D dA) h0 4 (hj_Q below args s { frames := 0, cells := C0, slots := S0, locals := 0 } (gg D dA) h0 none h2) C S h 271 [(0, vr_ x0), (1, vi_ x1), (2, vi_ x2), (3, vi_ v3)] [] := by
  intro fu
  induction fu with
  | zero =>
    intro v3 h C S hr
    cases hr
  | succ fu ih =>
    intro v3 h C S hr
    rw [p_Mo_copyProgram_271] at hr
    refine hj_iload_n hC 3 d_Mo_copyProgram_271 rfl rfl ?_
    refine hj_bipush hC (v := 72) d_Mo_copyProgram_272 (by decide) ?_
    refine hj_icmp_ge hC 393 d_Mo_copyProgram_274 (by decide) hr (fun q274 hr => ?_) (fun q274 hr => ?_)
    · refine hj_sub (lv' := []) [] rfl ?_
      exact hk _ _ _ hr
    · refine hj_aload_n hC 0 d_Mo_copyProgram_277 rfl rfl ?_
      refine hj_getr hC cf_Mo (k := 18) (by decide) wq_417 rfl d_Mo_copyProgram_278 hr (fun a34 hr => ?_)
      refine hj_bipush hC (v := 72) d_Mo_copyProgram_281 (by decide) ?_
      refine hj_iload_n hC 2 d_Mo_copyProgram_283 rfl rfl ?_
      refine hj_imul hC d_Mo_copyProgram_284 ?_
      refine hj_iload_n hC 3 d_Mo_copyProgram_285 rfl rfl ?_
      refine hj_iadd hC d_Mo_copyProgram_286 ?_
      refine hj_aload_n hC 0 d_Mo_copyProgram_287 rfl rfl ?_
      refine hj_getr hC cf_Mo (k := 18) (by decide) wq_417 rfl d_Mo_copyProgram_288 hr (fun a35 hr => ?_)
      refine hj_bipush hC (v := 72) d_Mo_copyProgram_291 (by decide) ?_
      refine hj_iload_n hC 1 d_Mo_copyProgram_293 rfl rfl ?_
      refine hj_imul hC d_Mo_copyProgram_294 ?_
      refine hj_iload_n hC 3 d_Mo_copyProgram_295 rfl rfl ?_
      refine hj_iadd hC d_Mo_copyProgram_296 ?_
      refine hj_iald hC (kd := 21) rfl d_Mo_copyProgram_297 hr (fun a36 hr => ?_)
      refine hj_iast hC (kd := 21) rfl d_Mo_copyProgram_298 hr (fun h hr => ?_)
      refine hj_aload_n hC 0 d_Mo_copyProgram_299 rfl rfl ?_
      refine hj_getr hC cf_Mo (k := 19) (by decide) wq_418 rfl d_Mo_copyProgram_300 hr (fun a37 hr => ?_)
      refine hj_bipush hC (v := 72) d_Mo_copyProgram_303 (by decide) ?_
      refine hj_iload_n hC 2 d_Mo_copyProgram_305 rfl rfl ?_
      refine hj_imul hC d_Mo_copyProgram_306 ?_
      refine hj_iload_n hC 3 d_Mo_copyProgram_307 rfl rfl ?_
      refine hj_iadd hC d_Mo_copyProgram_308 ?_
      refine hj_aload_n hC 0 d_Mo_copyProgram_309 rfl rfl ?_
      refine hj_getr hC cf_Mo (k := 19) (by decide) wq_418 rfl d_Mo_copyProgram_310 hr (fun a38 hr => ?_)
      refine hj_bipush hC (v := 72) d_Mo_copyProgram_313 (by decide) ?_
      refine hj_iload_n hC 1 d_Mo_copyProgram_315 rfl rfl ?_
      refine hj_imul hC d_Mo_copyProgram_316 ?_
      refine hj_iload_n hC 3 d_Mo_copyProgram_317 rfl rfl ?_
      refine hj_iadd hC d_Mo_copyProgram_318 ?_
      refine hj_iald hC (kd := 22) rfl d_Mo_copyProgram_319 hr (fun a39 hr => ?_)
      refine hj_iast hC (kd := 22) rfl d_Mo_copyProgram_320 hr (fun h hr => ?_)
      refine hj_aload_n hC 0 d_Mo_copyProgram_321 rfl rfl ?_
      refine hj_getr hC cf_Mo (k := 20) (by decide) wq_419 rfl d_Mo_copyProgram_322 hr (fun a40 hr => ?_)
      refine hj_bipush hC (v := 72) d_Mo_copyProgram_325 (by decide) ?_
      refine hj_iload_n hC 2 d_Mo_copyProgram_327 rfl rfl ?_
      refine hj_imul hC d_Mo_copyProgram_328 ?_
      refine hj_iload_n hC 3 d_Mo_copyProgram_329 rfl rfl ?_
      refine hj_iadd hC d_Mo_copyProgram_330 ?_
      refine hj_aload_n hC 0 d_Mo_copyProgram_331 rfl rfl ?_
      refine hj_getr hC cf_Mo (k := 20) (by decide) wq_419 rfl d_Mo_copyProgram_332 hr (fun a41 hr => ?_)
      refine hj_bipush hC (v := 72) d_Mo_copyProgram_335 (by decide) ?_
      refine hj_iload_n hC 1 d_Mo_copyProgram_337 rfl rfl ?_
      refine hj_imul hC d_Mo_copyProgram_338 ?_
      refine hj_iload_n hC 3 d_Mo_copyProgram_339 rfl rfl ?_
      refine hj_iadd hC d_Mo_copyProgram_340 ?_
      refine hj_iald hC (kd := 23) rfl d_Mo_copyProgram_341 hr (fun a42 hr => ?_)
      refine hj_iast hC (kd := 23) rfl d_Mo_copyProgram_342 hr (fun h hr => ?_)
      refine hj_aload_n hC 0 d_Mo_copyProgram_343 rfl rfl ?_
      refine hj_getr hC cf_Mo (k := 21) (by decide) wq_438 rfl d_Mo_copyProgram_344 hr (fun a43 hr => ?_)
      refine hj_bipush hC (v := 72) d_Mo_copyProgram_347 (by decide) ?_
      refine hj_iload_n hC 2 d_Mo_copyProgram_349 rfl rfl ?_
      refine hj_imul hC d_Mo_copyProgram_350 ?_
      refine hj_iload_n hC 3 d_Mo_copyProgram_351 rfl rfl ?_
      refine hj_iadd hC d_Mo_copyProgram_352 ?_
      refine hj_aload_n hC 0 d_Mo_copyProgram_353 rfl rfl ?_
      refine hj_getr hC cf_Mo (k := 21) (by decide) wq_438 rfl d_Mo_copyProgram_354 hr (fun a44 hr => ?_)
      refine hj_bipush hC (v := 72) d_Mo_copyProgram_357 (by decide) ?_
      refine hj_iload_n hC 1 d_Mo_copyProgram_359 rfl rfl ?_
      refine hj_imul hC d_Mo_copyProgram_360 ?_
      refine hj_iload_n hC 3 d_Mo_copyProgram_361 rfl rfl ?_
      refine hj_iadd hC d_Mo_copyProgram_362 ?_
      refine hj_zald hC (kd := 24) rfl d_Mo_copyProgram_363 hr (fun a45 hr => ?_)
      refine hj_zast hC (kd := 24) rfl d_Mo_copyProgram_364 hr (fun h hr => ?_)
      refine hj_aload_n hC 0 d_Mo_copyProgram_365 rfl rfl ?_
      refine hj_getr hC cf_Mo (k := 22) (by decide) wq_439 rfl d_Mo_copyProgram_366 hr (fun a46 hr => ?_)
      refine hj_bipush hC (v := 72) d_Mo_copyProgram_369 (by decide) ?_
      refine hj_iload_n hC 2 d_Mo_copyProgram_371 rfl rfl ?_
      refine hj_imul hC d_Mo_copyProgram_372 ?_
      refine hj_iload_n hC 3 d_Mo_copyProgram_373 rfl rfl ?_
      refine hj_iadd hC d_Mo_copyProgram_374 ?_
      refine hj_aload_n hC 0 d_Mo_copyProgram_375 rfl rfl ?_
      refine hj_getr hC cf_Mo (k := 22) (by decide) wq_439 rfl d_Mo_copyProgram_376 hr (fun a47 hr => ?_)
      refine hj_bipush hC (v := 72) d_Mo_copyProgram_379 (by decide) ?_
      refine hj_iload_n hC 1 d_Mo_copyProgram_381 rfl rfl ?_
      refine hj_imul hC d_Mo_copyProgram_382 ?_
      refine hj_iload_n hC 3 d_Mo_copyProgram_383 rfl rfl ?_
      refine hj_iadd hC d_Mo_copyProgram_384 ?_
      refine hj_iald hC (kd := 25) rfl d_Mo_copyProgram_385 hr (fun a48 hr => ?_)
      refine hj_iast hC (kd := 25) rfl d_Mo_copyProgram_386 hr (fun h hr => ?_)
      refine hj_iinc hC (lv' := [(3, vi_ (v3 + 1)), (0, vr_ x0), (1, vi_ x1), (2, vi_ x2)]) 3 d_Mo_copyProgram_387 rfl rfl (by decide) rfl ?_
      refine hj_goto hC 271 d_Mo_copyProgram_390 (by decide) ?_
      refine hj_sub (lv' := [(0, vr_ x0), (1, vi_ x1), (2, vi_ x2), (3, vi_ (v3 + 1))]) [1, 2, 3, 0] rfl ?_
      exact ih _ _ _ _ hr
set_option maxHeartbeats 4000000 in
set_option maxRecDepth 100000 in
theorem m_Mo_copyProgram {l : Launch} {D : va_G} {dA : Nat → ClassId} (o : Option Nat) (x1 : Int32) (x2 : Int32) (h0 : hc_H) (b : Unit) (C0 S0 : Nat) (h2 : hc_H) (hr : p_Mo_copyProgram o x1 x2 h0 = some (b, C0, S0, h2)) : hc_Met l (gg D dA) y_Mo_copyProgram b_Mo_copyProgram 4 none tb 0 0 [vr_ o, vi_ x1, vi_ x2] h0 C0 S0 none h2 := by
  refine hc_Met.of (by decide) (Nat.le_of_ble_eq_true rfl) ?_
  intro p e s m args below meth c hC
  unfold p_Mo_copyProgram at hr
  refine hj_sub (lv' := [(0, vr_ o), (1, vi_ x1), (2, vi_ x2)]) [0, 1, 2] rfl ?_
  refine hj_aload_n hC 0 d_Mo_copyProgram_0 rfl rfl ?_
  refine hj_getr hC cf_Mo (k := 9) (by decide) wq_436 rfl d_Mo_copyProgram_1 hr (fun a1 hr => ?_)
  refine hj_iload_n hC 2 d_Mo_copyProgram_4 rfl rfl ?_
  refine hj_aload_n hC 0 d_Mo_copyProgram_5 rfl rfl ?_
  refine hj_getr hC cf_Mo (k := 9) (by decide) wq_436 rfl d_Mo_copyProgram_6 hr (fun a2 hr => ?_)
  refine hj_iload_n hC 1 d_Mo_copyProgram_9 rfl rfl ?_
  refine hj_iald hC (kd := 12) rfl d_Mo_copyProgram_10 hr (fun a3 hr => ?_)
  refine hj_iast hC (kd := 12) rfl d_Mo_copyProgram_11 hr (fun h hr => ?_)
  refine hj_iconst hC (v := 0) d_Mo_copyProgram_12 (by decide) ?_
  refine hj_istore_n hC (lv' := [(3, vi_ 0), (0, vr_ o), (1, vi_ x1), (2, vi_ x2)]) d_Mo_copyProgram_13 rfl (by decide) rfl ?_
  refine hj_sub (lv' := [(0, vr_ o), (1, vi_ x1), (2, vi_ x2), (3, vi_ 0)]) [1, 2, 3, 0] rfl ?_
  refine ml_Mo_copyProgram_14 hC _ _ _ _ (fun  h C S hr => ?_) _ _ _ _ _ hr
  refine hj_iconst hC (v := 0) d_Mo_copyProgram_158 (by decide) ?_
  refine hj_istore_n hC (lv' := [(3, vi_ 0), (0, vr_ o), (1, vi_ x1), (2, vi_ x2)]) d_Mo_copyProgram_159 rfl (by decide) rfl ?_
  refine hj_sub (lv' := [(0, vr_ o), (1, vi_ x1), (2, vi_ x2), (3, vi_ 0)]) [1, 2, 3, 0] rfl ?_
  refine ml_Mo_copyProgram_160 hC _ _ _ _ (fun  h C S hr => ?_) _ _ _ _ _ hr
  refine hj_iconst hC (v := 0) d_Mo_copyProgram_269 (by decide) ?_
  refine hj_istore_n hC (lv' := [(3, vi_ 0), (0, vr_ o), (1, vi_ x1), (2, vi_ x2)]) d_Mo_copyProgram_270 rfl (by decide) rfl ?_
  refine hj_sub (lv' := [(0, vr_ o), (1, vi_ x1), (2, vi_ x2), (3, vi_ 0)]) [1, 2, 3, 0] rfl ?_
  refine ml_Mo_copyProgram_271 hC _ _ _ _ (fun  h C S hr => ?_) _ _ _ _ _ hr
  exact hj_vret hC d_Mo_copyProgram_393 hr
set_option maxHeartbeats 4000000 in
set_option maxRecDepth 100000 in
theorem m_Mo_told {l : Launch} {D : va_G} {dA : Nat → ClassId} (o : Option Nat) (h0 : hc_H) (b : Int32) (C0 S0 : Nat) (h2 : hc_H) (hr : p_Mo_told o h0 = some (b, C0, S0, h2)) : hc_Met l (gg D dA) y_Mo_told b_Mo_told 1 (some .int) tb 0 0 [vr_ o] h0 C0 S0 (some (vi_ b)) h2 := by
  refine hc_Met.of (by decide) (Nat.le_of_ble_eq_true rfl) ?_
  intro p e s m args below meth c hC
  unfold p_Mo_told at hr
  refine hj_sub (lv' := [(0, vr_ o)]) [0] rfl ?_
  refine hj_aload_n hC 0 d_Mo_told_0 rfl rfl ?_
  refine hj_aload_n hC 0 d_Mo_told_1 rfl rfl ?_
  refine hj_geti hC cf_Mo (k := 7) (by decide) wq_382 rfl d_Mo_told_2 hr (fun a1 hr => ?_)
  refine hj_puti hC cf_Mo (k := 5) (by decide) wq_467 rfl (Or.inl rfl) rfl d_Mo_told_5 hr (fun h hr => ?_)
  refine hj_aload_n hC 0 d_Mo_told_8 rfl rfl ?_
  refine hj_aload_n hC 0 d_Mo_told_9 rfl rfl ?_
  refine hj_geti hC cf_Mo (k := 8) (by decide) wq_383 rfl d_Mo_told_10 hr (fun a2 hr => ?_)
  refine hj_puti hC cf_Mo (k := 6) (by decide) wq_435 rfl (Or.inl rfl) rfl d_Mo_told_13 hr (fun h hr => ?_)
  refine hj_aload_n hC 0 d_Mo_told_16 rfl rfl ?_
  refine hj_geti hC cf_Mo (k := 7) (by decide) wq_382 rfl d_Mo_told_17 hr (fun a3 hr => ?_)
  exact hj_iret hC d_Mo_told_20 hr
set_option maxHeartbeats 4000000 in
set_option maxRecDepth 100000 in
theorem ml_Mo_read_11 {p : Program} {l : Launch} {e : Env} {s : State} {m : MethodId} {args : Array Value} {below : List Frame} {meth : Method} {c : Code} {D : va_G} {dA : Nat → ClassId} {h0 h2 : hc_H} {C0 S0 : Nat} {b : Int32} (hC : hj_C p s m args meth c (gg D dA) b_Mo_read 2 (some .int) R_Mo "read" tb) (x0 : Option Nat) (kx : hM Int32) (hk : ∀  (h : hc_H) (C S : Nat), kx  h = some (b, C, S, h2) → hj_J p l e { frames := 6, cells := C0, slots := S0, locals := 141 } s m args below meth c (gg D dA) h0 2 (hj_Q below args s { frames := 6, cells := C0, slots := S0, locals := 141 } (gg D dA) h0 (some (vi_ b)) h2) C S h 40 [(0, vr_ x0)] []) : ∀ (fu : Nat) (v1 : Int32) (h : hc_H) (C S : Nat), p_Mo_read_11 x0 kx fu v1 h = some (b, C, S, h2) → hj_J p l e { frames := 6, cells := C0, slots := S0, locals := 141 } s m args below meth c (gg D dA) h0 2 (hj_Q below args s { frames := 6, cells := C0, slots := S0, locals := 141 } (gg D dA) h0 (some (vi_ b)) h2) C S h 11 [(0, vr_ x0), (1, vi_ v1)] [] := by
  intro fu
  induction fu with
  | zero =>
    intro v1 h C S hr
    cases hr
  | succ fu ih =>
    intro v1 h C S hr
    rw [p_Mo_read_11] at hr
    refine hj_aload_n hC 0 d_Mo_read_11 rfl rfl ?_
    refine hj_geti hC cf_Mo (k := 7) (by decide) wq_382 rfl d_Mo_read_12 hr (fun a1 hr => ?_)
    refine hj_if_ne hC 40 d_Mo_read_15 (by decide) hr (fun q15 hr => ?_) (fun q15 hr => ?_)
    · refine hj_sub (lv' := [(0, vr_ x0)]) [0] rfl ?_
      exact hk _ _ _ hr
    · refine hj_iload_n hC 1 d_Mo_read_18 rfl rfl ?_
      refine hj_aload_n hC 0 d_Mo_read_19 rfl rfl ?_
      refine hj_getr hC cf_Mo (k := 9) (by decide) wq_436 rfl d_Mo_read_20 hr (fun a2 hr => ?_)
      refine hj_iconst hC (v := 1) d_Mo_read_23 (by decide) ?_
      refine hj_iald hC (kd := 12) rfl d_Mo_read_24 hr (fun a3 hr => ?_)
      refine hj_icmp_ge hC 40 d_Mo_read_25 (by decide) hr (fun q25 hr => ?_) (fun q25 hr => ?_)
      · refine hj_sub (lv' := [(0, vr_ x0)]) [0] rfl ?_
        exact hk _ _ _ hr
      · refine hj_aload_n hC 0 d_Mo_read_28 rfl rfl ?_
        refine hj_iconst hC (v := 1) d_Mo_read_29 (by decide) ?_
        refine hj_iload_n hC 1 d_Mo_read_30 rfl rfl ?_
        refine hj_callV hC hG (enc := (fun _ : Unit => none)) (As := [vi_ 1, vi_ v1]) (st := []) (fun h a C S h1 hr => m_Mo_verify _ _ _ h a C S h1 hr) cf_Mo wq_441 wq_442 wq_443 wq_389 wq_440 yk_Mo_verify rfl ⟨Nat.le_of_ble_eq_true rfl, Nat.le_of_ble_eq_true rfl⟩ rfl (Nat.le_of_ble_eq_true rfl) d_Mo_read_31 hr (fun _ h C S hr => ?_)
        refine hj_iinc hC (lv' := [(1, vi_ (v1 + 1)), (0, vr_ x0)]) 1 d_Mo_read_34 rfl rfl (by decide) rfl ?_
        refine hj_goto hC 11 d_Mo_read_37 (by decide) ?_
        refine hj_sub (lv' := [(0, vr_ x0), (1, vi_ (v1 + 1))]) [1, 0] rfl ?_
        exact ih _ _ _ _ hr
set_option maxHeartbeats 4000000 in
set_option maxRecDepth 100000 in
theorem m_Mo_read {l : Launch} {D : va_G} {dA : Nat → ClassId} (o : Option Nat) (h0 : hc_H) (b : Int32) (C0 S0 : Nat) (h2 : hc_H) (hr : p_Mo_read o h0 = some (b, C0, S0, h2)) : hc_Met l (gg D dA) y_Mo_read b_Mo_read 2 (some .int) tb 6 141 [vr_ o] h0 C0 S0 (some (vi_ b)) h2 := by
  refine hc_Met.of (by decide) (Nat.le_of_ble_eq_true rfl) ?_
  intro p e s m args below meth c hC
  unfold p_Mo_read at hr
  refine hj_sub (lv' := [(0, vr_ o)]) [0] rfl ?_
  refine hj_aload_n hC 0 d_Mo_read_0 rfl rfl ?_
  refine hj_iconst hC (v := 0) d_Mo_read_1 (by decide) ?_
  refine hj_puti hC cf_Mo (k := 0) (by decide) wq_444 rfl (Or.inl rfl) rfl d_Mo_read_2 hr (fun h hr => ?_)
  refine hj_aload_n hC 0 d_Mo_read_5 rfl rfl ?_
  refine hj_callV hC hG (enc := (fun _ : Unit => none)) (As := []) (st := []) (fun h a C S h1 hr => m_Mo_readProgram _  h a C S h1 hr) cf_Mo wq_477 wq_478 wq_479 wq_389 wq_468 yk_Mo_readProgram rfl ⟨Nat.le_of_ble_eq_true rfl, Nat.le_of_ble_eq_true rfl⟩ rfl (Nat.le_of_ble_eq_true rfl) d_Mo_read_6 hr (fun _ h C S hr => ?_)
  refine hj_iconst hC (v := 0) d_Mo_read_9 (by decide) ?_
  refine hj_istore_n hC (lv' := [(1, vi_ 0), (0, vr_ o)]) d_Mo_read_10 rfl (by decide) rfl ?_
  refine hj_sub (lv' := [(0, vr_ o), (1, vi_ 0)]) [1, 0] rfl ?_
  refine ml_Mo_read_11 hC _ _ (fun  h C S hr => ?_) _ _ _ _ _ hr
  refine hj_aload_n hC 0 d_Mo_read_40 rfl rfl ?_
  refine hj_geti hC cf_Mo (k := 7) (by decide) wq_382 rfl d_Mo_read_41 hr (fun a4 hr => ?_)
  refine hj_jn hC (K := hM Int32) (fun k => ∀  (h : hc_H) (C S : Nat), k  h = some (b, C, S, h2) → hj_J p l e { frames := 6, cells := C0, slots := S0, locals := 141 } s m args below meth c (gg D dA) h0 2 (hj_Q below args s { frames := 6, cells := C0, slots := S0, locals := 141 } (gg D dA) h0 (some (vi_ b)) h2) C S h 53 [(0, vr_ o)] []) hr (fun  h C S hr => ?_) (fun k53 hk53 hr => ?_)
  · refine hj_aload_n hC 0 d_Mo_read_53 rfl rfl ?_
    refine hj_callV hC hG (enc := (fun a : Int32 => some (vi_ a))) (As := []) (st := []) (fun h a C S h1 hr => m_Mo_told _  h a C S h1 hr) cf_Mo wq_470 wq_471 wq_472 wq_389 wq_469 yk_Mo_told rfl ⟨Nat.le_of_ble_eq_true rfl, Nat.le_of_ble_eq_true rfl⟩ rfl (Nat.le_of_ble_eq_true rfl) d_Mo_read_54 hr (fun a5 h C S hr => ?_)
    exact hj_iret hC d_Mo_read_57 hr
  · refine hj_if_ne hC 53 d_Mo_read_44 (by decide) hr (fun q44 hr => ?_) (fun q44 hr => ?_)
    · exact hk53 _ _ _ hr
    · refine hj_aload_n hC 0 d_Mo_read_47 rfl rfl ?_
      refine hj_iconst hC (v := 1) d_Mo_read_48 (by decide) ?_
      refine hj_iconst hC (v := 0) d_Mo_read_49 (by decide) ?_
      refine hj_callV hC hG (enc := (fun _ : Unit => none)) (As := [vi_ 1, vi_ 0]) (st := []) (fun h a C S h1 hr => m_Mo_copyProgram _ _ _ h a C S h1 hr) cf_Mo wq_474 wq_475 wq_476 wq_389 wq_473 yk_Mo_copyProgram rfl ⟨Nat.le_of_ble_eq_true rfl, Nat.le_of_ble_eq_true rfl⟩ rfl (Nat.le_of_ble_eq_true rfl) d_Mo_read_50 hr (fun _ h C S hr => ?_)
      exact hk53 _ _ _ hr
