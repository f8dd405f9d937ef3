theorem d_Mo_moves_0 : decode b_Mo_moves 0 = .ok (.bipush 12, 2) := by decide +kernel
theorem d_Mo_moves_2 : decode b_Mo_moves 2 = .ok (.iload_n 1, 1) := by decide +kernel
theorem d_Mo_moves_3 : decode b_Mo_moves 3 = .ok (.imul, 1) := by decide +kernel
theorem d_Mo_moves_4 : decode b_Mo_moves 4 = .ok (.iload_n 2, 1) := by decide +kernel
theorem d_Mo_moves_5 : decode b_Mo_moves 5 = .ok (.iadd, 1) := by decide +kernel
theorem d_Mo_moves_6 : decode b_Mo_moves 6 = .ok (.istore 5, 2) := by decide +kernel
theorem d_Mo_moves_8 : decode b_Mo_moves 8 = .ok (.iconst 1, 1) := by decide +kernel
theorem d_Mo_moves_9 : decode b_Mo_moves 9 = .ok (.istore 6, 2) := by decide +kernel
theorem d_Mo_moves_11 : decode b_Mo_moves 11 = .ok (.iload_n 3, 1) := by decide +kernel
theorem d_Mo_moves_12 : decode b_Mo_moves 12 = .ok (.ifCond .ne 11, 3) := by decide +kernel
theorem d_Mo_moves_15 : decode b_Mo_moves 15 = .ok (.aload_n 0, 1) := by decide +kernel
theorem d_Mo_moves_16 : decode b_Mo_moves 16 = .ok (.iconst 0, 1) := by decide +kernel
theorem d_Mo_moves_17 : decode b_Mo_moves 17 = .ok (.invokevirtual 142, 3) := by decide +kernel
theorem d_Mo_moves_20 : decode b_Mo_moves 20 = .ok (.goto 571, 3) := by decide +kernel
theorem d_Mo_moves_23 : decode b_Mo_moves 23 = .ok (.iload_n 3, 1) := by decide +kernel
theorem d_Mo_moves_24 : decode b_Mo_moves 24 = .ok (.iconst 1, 1) := by decide +kernel
theorem d_Mo_moves_25 : decode b_Mo_moves 25 = .ok (.if_icmp .ne 13, 3) := by decide +kernel
theorem d_Mo_moves_28 : decode b_Mo_moves 28 = .ok (.aload_n 0, 1) := by decide +kernel
theorem d_Mo_moves_29 : decode b_Mo_moves 29 = .ok (.iconst 2, 1) := by decide +kernel
theorem d_Mo_moves_30 : decode b_Mo_moves 30 = .ok (.invokevirtual 138, 3) := by decide +kernel
theorem d_Mo_moves_33 : decode b_Mo_moves 33 = .ok (.istore 6, 2) := by decide +kernel
theorem d_Mo_moves_35 : decode b_Mo_moves 35 = .ok (.goto 556, 3) := by decide +kernel
theorem d_Mo_moves_38 : decode b_Mo_moves 38 = .ok (.iload_n 3, 1) := by decide +kernel
theorem d_Mo_moves_39 : decode b_Mo_moves 39 = .ok (.iconst 2, 1) := by decide +kernel
theorem d_Mo_moves_40 : decode b_Mo_moves 40 = .ok (.if_icmp .ne 46, 3) := by decide +kernel
theorem d_Mo_moves_43 : decode b_Mo_moves 43 = .ok (.aload_n 0, 1) := by decide +kernel
theorem d_Mo_moves_44 : decode b_Mo_moves 44 = .ok (.getfield 132, 3) := by decide +kernel
theorem d_Mo_moves_47 : decode b_Mo_moves 47 = .ok (.ifCond .le 7, 3) := by decide +kernel
theorem d_Mo_moves_50 : decode b_Mo_moves 50 = .ok (.iconst 1, 1) := by decide +kernel
theorem d_Mo_moves_51 : decode b_Mo_moves 51 = .ok (.goto 4, 3) := by decide +kernel
theorem d_Mo_moves_54 : decode b_Mo_moves 54 = .ok (.iconst 0, 1) := by decide +kernel
theorem d_Mo_moves_55 : decode b_Mo_moves 55 = .ok (.istore 6, 2) := by decide +kernel
theorem d_Mo_moves_57 : decode b_Mo_moves 57 = .ok (.aload_n 0, 1) := by decide +kernel
theorem d_Mo_moves_58 : decode b_Mo_moves 58 = .ok (.iload 6, 2) := by decide +kernel
theorem d_Mo_moves_60 : decode b_Mo_moves 60 = .ok (.ifCond .eq 19, 3) := by decide +kernel
theorem d_Mo_moves_63 : decode b_Mo_moves 63 = .ok (.aload_n 0, 1) := by decide +kernel
theorem d_Mo_moves_64 : decode b_Mo_moves 64 = .ok (.getfield 135, 3) := by decide +kernel
theorem d_Mo_moves_67 : decode b_Mo_moves 67 = .ok (.aload_n 0, 1) := by decide +kernel
theorem d_Mo_moves_68 : decode b_Mo_moves 68 = .ok (.getfield 132, 3) := by decide +kernel
theorem d_Mo_moves_71 : decode b_Mo_moves 71 = .ok (.iconst 1, 1) := by decide +kernel
theorem d_Mo_moves_72 : decode b_Mo_moves 72 = .ok (.isub, 1) := by decide +kernel
theorem d_Mo_moves_73 : decode b_Mo_moves 73 = .ok (.ishr, 1) := by decide +kernel
theorem d_Mo_moves_74 : decode b_Mo_moves 74 = .ok (.iconst 1, 1) := by decide +kernel
theorem d_Mo_moves_75 : decode b_Mo_moves 75 = .ok (.iand, 1) := by decide +kernel
theorem d_Mo_moves_76 : decode b_Mo_moves 76 = .ok (.goto 4, 3) := by decide +kernel
theorem d_Mo_moves_79 : decode b_Mo_moves 79 = .ok (.iconst 0, 1) := by decide +kernel
theorem d_Mo_moves_80 : decode b_Mo_moves 80 = .ok (.invokevirtual 142, 3) := by decide +kernel
theorem d_Mo_moves_83 : decode b_Mo_moves 83 = .ok (.goto 508, 3) := by decide +kernel
theorem d_Mo_moves_86 : decode b_Mo_moves 86 = .ok (.iload_n 3, 1) := by decide +kernel
theorem d_Mo_moves_87 : decode b_Mo_moves 87 = .ok (.iconst 3, 1) := by decide +kernel
theorem d_Mo_moves_88 : decode b_Mo_moves 88 = .ok (.if_icmp .ne 114, 3) := by decide +kernel
theorem d_Mo_moves_91 : decode b_Mo_moves 91 = .ok (.aload_n 0, 1) := by decide +kernel
theorem d_Mo_moves_92 : decode b_Mo_moves 92 = .ok (.getfield 132, 3) := by decide +kernel
theorem d_Mo_moves_95 : decode b_Mo_moves 95 = .ok (.iconst 1, 1) := by decide +kernel
theorem d_Mo_moves_96 : decode b_Mo_moves 96 = .ok (.if_icmp .le 7, 3) := by decide +kernel
theorem d_Mo_moves_99 : decode b_Mo_moves 99 = .ok (.iconst 1, 1) := by decide +kernel
theorem d_Mo_moves_100 : decode b_Mo_moves 100 = .ok (.goto 4, 3) := by decide +kernel
theorem d_Mo_moves_103 : decode b_Mo_moves 103 = .ok (.iconst 0, 1) := by decide +kernel
theorem d_Mo_moves_104 : decode b_Mo_moves 104 = .ok (.istore 6, 2) := by decide +kernel
theorem d_Mo_moves_106 : decode b_Mo_moves 106 = .ok (.iload 6, 2) := by decide +kernel
theorem d_Mo_moves_108 : decode b_Mo_moves 108 = .ok (.ifCond .eq 19, 3) := by decide +kernel
theorem d_Mo_moves_111 : decode b_Mo_moves 111 = .ok (.aload_n 0, 1) := by decide +kernel
theorem d_Mo_moves_112 : decode b_Mo_moves 112 = .ok (.getfield 135, 3) := by decide +kernel
theorem d_Mo_moves_115 : decode b_Mo_moves 115 = .ok (.aload_n 0, 1) := by decide +kernel
theorem d_Mo_moves_116 : decode b_Mo_moves 116 = .ok (.getfield 132, 3) := by decide +kernel
theorem d_Mo_moves_119 : decode b_Mo_moves 119 = .ok (.iconst 1, 1) := by decide +kernel
theorem d_Mo_moves_120 : decode b_Mo_moves 120 = .ok (.isub, 1) := by decide +kernel
theorem d_Mo_moves_121 : decode b_Mo_moves 121 = .ok (.ishr, 1) := by decide +kernel
theorem d_Mo_moves_122 : decode b_Mo_moves 122 = .ok (.iconst 1, 1) := by decide +kernel
theorem d_Mo_moves_123 : decode b_Mo_moves 123 = .ok (.iand, 1) := by decide +kernel
theorem d_Mo_moves_124 : decode b_Mo_moves 124 = .ok (.goto 4, 3) := by decide +kernel
theorem d_Mo_moves_127 : decode b_Mo_moves 127 = .ok (.iconst 0, 1) := by decide +kernel
theorem d_Mo_moves_128 : decode b_Mo_moves 128 = .ok (.istore 7, 2) := by decide +kernel
theorem d_Mo_moves_130 : decode b_Mo_moves 130 = .ok (.iload 6, 2) := by decide +kernel
theorem d_Mo_moves_132 : decode b_Mo_moves 132 = .ok (.ifCond .eq 19, 3) := by decide +kernel
theorem d_Mo_moves_135 : decode b_Mo_moves 135 = .ok (.aload_n 0, 1) := by decide +kernel
theorem d_Mo_moves_136 : decode b_Mo_moves 136 = .ok (.getfield 135, 3) := by decide +kernel
theorem d_Mo_moves_139 : decode b_Mo_moves 139 = .ok (.aload_n 0, 1) := by decide +kernel
theorem d_Mo_moves_140 : decode b_Mo_moves 140 = .ok (.getfield 132, 3) := by decide +kernel
theorem d_Mo_moves_143 : decode b_Mo_moves 143 = .ok (.iconst 2, 1) := by decide +kernel
theorem d_Mo_moves_144 : decode b_Mo_moves 144 = .ok (.isub, 1) := by decide +kernel
theorem d_Mo_moves_145 : decode b_Mo_moves 145 = .ok (.ishr, 1) := by decide +kernel
theorem d_Mo_moves_146 : decode b_Mo_moves 146 = .ok (.iconst 1, 1) := by decide +kernel
theorem d_Mo_moves_147 : decode b_Mo_moves 147 = .ok (.iand, 1) := by decide +kernel
theorem d_Mo_moves_148 : decode b_Mo_moves 148 = .ok (.goto 4, 3) := by decide +kernel
theorem d_Mo_moves_151 : decode b_Mo_moves 151 = .ok (.iconst 0, 1) := by decide +kernel
theorem d_Mo_moves_152 : decode b_Mo_moves 152 = .ok (.istore 8, 2) := by decide +kernel
theorem d_Mo_moves_154 : decode b_Mo_moves 154 = .ok (.iload 6, 2) := by decide +kernel
theorem d_Mo_moves_156 : decode b_Mo_moves 156 = .ok (.ifCond .eq 23, 3) := by decide +kernel
theorem d_Mo_moves_159 : decode b_Mo_moves 159 = .ok (.aload_n 0, 1) := by decide +kernel
theorem d_Mo_moves_160 : decode b_Mo_moves 160 = .ok (.iconst 2, 1) := by decide +kernel
theorem d_Mo_moves_161 : decode b_Mo_moves 161 = .ok (.invokevirtual 138, 3) := by decide +kernel
theorem d_Mo_moves_164 : decode b_Mo_moves 164 = .ok (.ifCond .eq 15, 3) := by decide +kernel
theorem d_Mo_moves_167 : decode b_Mo_moves 167 = .ok (.aload_n 0, 1) := by decide +kernel
theorem d_Mo_moves_168 : decode b_Mo_moves 168 = .ok (.iconst 2, 1) := by decide +kernel
theorem d_Mo_moves_169 : decode b_Mo_moves 169 = .ok (.invokevirtual 138, 3) := by decide +kernel
theorem d_Mo_moves_172 : decode b_Mo_moves 172 = .ok (.ifCond .eq 7, 3) := by decide +kernel
theorem d_Mo_moves_175 : decode b_Mo_moves 175 = .ok (.iconst 1, 1) := by decide +kernel
theorem d_Mo_moves_176 : decode b_Mo_moves 176 = .ok (.goto 4, 3) := by decide +kernel
theorem d_Mo_moves_179 : decode b_Mo_moves 179 = .ok (.iconst 0, 1) := by decide +kernel
theorem d_Mo_moves_180 : decode b_Mo_moves 180 = .ok (.istore 6, 2) := by decide +kernel
theorem d_Mo_moves_182 : decode b_Mo_moves 182 = .ok (.iload 6, 2) := by decide +kernel
theorem d_Mo_moves_184 : decode b_Mo_moves 184 = .ok (.ifCond .eq 15, 3) := by decide +kernel
theorem d_Mo_moves_187 : decode b_Mo_moves 187 = .ok (.aload_n 0, 1) := by decide +kernel
theorem d_Mo_moves_188 : decode b_Mo_moves 188 = .ok (.iload 7, 2) := by decide +kernel
theorem d_Mo_moves_190 : decode b_Mo_moves 190 = .ok (.invokevirtual 142, 3) := by decide +kernel
theorem d_Mo_moves_193 : decode b_Mo_moves 193 = .ok (.aload_n 0, 1) := by decide +kernel
theorem d_Mo_moves_194 : decode b_Mo_moves 194 = .ok (.iload 8, 2) := by decide +kernel
theorem d_Mo_moves_196 : decode b_Mo_moves 196 = .ok (.invokevirtual 142, 3) := by decide +kernel
theorem d_Mo_moves_199 : decode b_Mo_moves 199 = .ok (.goto 392, 3) := by decide +kernel
theorem d_Mo_moves_202 : decode b_Mo_moves 202 = .ok (.iload_n 3, 1) := by decide +kernel
theorem d_Mo_moves_203 : decode b_Mo_moves 203 = .ok (.iconst 4, 1) := by decide +kernel
theorem d_Mo_moves_204 : decode b_Mo_moves 204 = .ok (.if_icmp .ne 18, 3) := by decide +kernel
theorem d_Mo_moves_207 : decode b_Mo_moves 207 = .ok (.aload_n 0, 1) := by decide +kernel
theorem d_Mo_moves_208 : decode b_Mo_moves 208 = .ok (.aload_n 0, 1) := by decide +kernel
theorem d_Mo_moves_209 : decode b_Mo_moves 209 = .ok (.iload 5, 2) := by decide +kernel
theorem d_Mo_moves_211 : decode b_Mo_moves 211 = .ok (.iload 4, 2) := by decide +kernel
theorem d_Mo_moves_213 : decode b_Mo_moves 213 = .ok (.invokevirtual 146, 3) := by decide +kernel
theorem d_Mo_moves_216 : decode b_Mo_moves 216 = .ok (.invokevirtual 142, 3) := by decide +kernel
theorem d_Mo_moves_219 : decode b_Mo_moves 219 = .ok (.goto 372, 3) := by decide +kernel
theorem d_Mo_moves_222 : decode b_Mo_moves 222 = .ok (.iload_n 3, 1) := by decide +kernel
theorem d_Mo_moves_223 : decode b_Mo_moves 223 = .ok (.iconst 5, 1) := by decide +kernel
theorem d_Mo_moves_224 : decode b_Mo_moves 224 = .ok (.if_icmp .ne 20, 3) := by decide +kernel
theorem d_Mo_moves_227 : decode b_Mo_moves 227 = .ok (.aload_n 0, 1) := by decide +kernel
theorem d_Mo_moves_228 : decode b_Mo_moves 228 = .ok (.aload_n 0, 1) := by decide +kernel
theorem d_Mo_moves_229 : decode b_Mo_moves 229 = .ok (.iload 5, 2) := by decide +kernel
theorem d_Mo_moves_231 : decode b_Mo_moves 231 = .ok (.iload 4, 2) := by decide +kernel
theorem d_Mo_moves_233 : decode b_Mo_moves 233 = .ok (.invokevirtual 146, 3) := by decide +kernel
theorem d_Mo_moves_236 : decode b_Mo_moves 236 = .ok (.invokevirtual 138, 3) := by decide +kernel
theorem d_Mo_moves_239 : decode b_Mo_moves 239 = .ok (.istore 6, 2) := by decide +kernel
theorem d_Mo_moves_241 : decode b_Mo_moves 241 = .ok (.goto 350, 3) := by decide +kernel
theorem d_Mo_moves_244 : decode b_Mo_moves 244 = .ok (.iload_n 3, 1) := by decide +kernel
theorem d_Mo_moves_245 : decode b_Mo_moves 245 = .ok (.bipush 18, 2) := by decide +kernel
theorem d_Mo_moves_247 : decode b_Mo_moves 247 = .ok (.if_icmp .ge 18, 3) := by decide +kernel
theorem d_Mo_moves_250 : decode b_Mo_moves 250 = .ok (.aload_n 0, 1) := by decide +kernel
theorem d_Mo_moves_251 : decode b_Mo_moves 251 = .ok (.iconst 2, 1) := by decide +kernel
theorem d_Mo_moves_252 : decode b_Mo_moves 252 = .ok (.invokevirtual 150, 3) := by decide +kernel
theorem d_Mo_moves_255 : decode b_Mo_moves 255 = .ok (.istore 6, 2) := by decide +kernel
theorem d_Mo_moves_257 : decode b_Mo_moves 257 = .ok (.aload_n 0, 1) := by decide +kernel
theorem d_Mo_moves_258 : decode b_Mo_moves 258 = .ok (.iconst 0, 1) := by decide +kernel
theorem d_Mo_moves_259 : decode b_Mo_moves 259 = .ok (.invokevirtual 142, 3) := by decide +kernel
theorem d_Mo_moves_262 : decode b_Mo_moves 262 = .ok (.goto 329, 3) := by decide +kernel
theorem d_Mo_moves_265 : decode b_Mo_moves 265 = .ok (.iload_n 3, 1) := by decide +kernel
theorem d_Mo_moves_266 : decode b_Mo_moves 266 = .ok (.bipush 19, 2) := by decide +kernel
theorem d_Mo_moves_268 : decode b_Mo_moves 268 = .ok (.if_icmp .eq 15, 3) := by decide +kernel
theorem d_Mo_moves_271 : decode b_Mo_moves 271 = .ok (.iload_n 3, 1) := by decide +kernel
theorem d_Mo_moves_272 : decode b_Mo_moves 272 = .ok (.bipush 20, 2) := by decide +kernel
theorem d_Mo_moves_274 : decode b_Mo_moves 274 = .ok (.if_icmp .eq 9, 3) := by decide +kernel
theorem d_Mo_moves_277 : decode b_Mo_moves 277 = .ok (.iload_n 3, 1) := by decide +kernel
theorem d_Mo_moves_278 : decode b_Mo_moves 278 = .ok (.bipush 28, 2) := by decide +kernel
theorem d_Mo_moves_280 : decode b_Mo_moves 280 = .ok (.if_icmp .ne 13, 3) := by decide +kernel
theorem d_Mo_moves_283 : decode b_Mo_moves 283 = .ok (.aload_n 0, 1) := by decide +kernel
theorem d_Mo_moves_284 : decode b_Mo_moves 284 = .ok (.iconst 0, 1) := by decide +kernel
theorem d_Mo_moves_285 : decode b_Mo_moves 285 = .ok (.invokevirtual 138, 3) := by decide +kernel
theorem d_Mo_moves_288 : decode b_Mo_moves 288 = .ok (.istore 6, 2) := by decide +kernel
theorem d_Mo_moves_290 : decode b_Mo_moves 290 = .ok (.goto 301, 3) := by decide +kernel
theorem d_Mo_moves_293 : decode b_Mo_moves 293 = .ok (.iload_n 3, 1) := by decide +kernel
theorem d_Mo_moves_294 : decode b_Mo_moves 294 = .ok (.bipush 21, 2) := by decide +kernel
theorem d_Mo_moves_296 : decode b_Mo_moves 296 = .ok (.if_icmp .ne 18, 3) := by decide +kernel
theorem d_Mo_moves_299 : decode b_Mo_moves 299 = .ok (.aload_n 0, 1) := by decide +kernel
theorem d_Mo_moves_300 : decode b_Mo_moves 300 = .ok (.iconst 0, 1) := by decide +kernel
theorem d_Mo_moves_301 : decode b_Mo_moves 301 = .ok (.invokevirtual 138, 3) := by decide +kernel
theorem d_Mo_moves_304 : decode b_Mo_moves 304 = .ok (.istore 6, 2) := by decide +kernel
theorem d_Mo_moves_306 : decode b_Mo_moves 306 = .ok (.aload_n 0, 1) := by decide +kernel
theorem d_Mo_moves_307 : decode b_Mo_moves 307 = .ok (.iconst 1, 1) := by decide +kernel
theorem d_Mo_moves_308 : decode b_Mo_moves 308 = .ok (.invokevirtual 142, 3) := by decide +kernel
theorem d_Mo_moves_311 : decode b_Mo_moves 311 = .ok (.goto 280, 3) := by decide +kernel
theorem d_Mo_moves_314 : decode b_Mo_moves 314 = .ok (.iload_n 3, 1) := by decide +kernel
theorem d_Mo_moves_315 : decode b_Mo_moves 315 = .ok (.bipush 22, 2) := by decide +kernel
theorem d_Mo_moves_317 : decode b_Mo_moves 317 = .ok (.if_icmp .ne 34, 3) := by decide +kernel
theorem d_Mo_moves_320 : decode b_Mo_moves 320 = .ok (.aload_n 0, 1) := by decide +kernel
theorem d_Mo_moves_321 : decode b_Mo_moves 321 = .ok (.iconst 0, 1) := by decide +kernel
theorem d_Mo_moves_322 : decode b_Mo_moves 322 = .ok (.invokevirtual 138, 3) := by decide +kernel
theorem d_Mo_moves_325 : decode b_Mo_moves 325 = .ok (.ifCond .eq 15, 3) := by decide +kernel
theorem d_Mo_moves_328 : decode b_Mo_moves 328 = .ok (.aload_n 0, 1) := by decide +kernel
theorem d_Mo_moves_329 : decode b_Mo_moves 329 = .ok (.iconst 1, 1) := by decide +kernel
theorem d_Mo_moves_330 : decode b_Mo_moves 330 = .ok (.invokevirtual 138, 3) := by decide +kernel
theorem d_Mo_moves_333 : decode b_Mo_moves 333 = .ok (.ifCond .eq 7, 3) := by decide +kernel
theorem d_Mo_moves_336 : decode b_Mo_moves 336 = .ok (.iconst 1, 1) := by decide +kernel
theorem d_Mo_moves_337 : decode b_Mo_moves 337 = .ok (.goto 4, 3) := by decide +kernel
theorem d_Mo_moves_340 : decode b_Mo_moves 340 = .ok (.iconst 0, 1) := by decide +kernel
theorem d_Mo_moves_341 : decode b_Mo_moves 341 = .ok (.istore 6, 2) := by decide +kernel
theorem d_Mo_moves_343 : decode b_Mo_moves 343 = .ok (.aload_n 0, 1) := by decide +kernel
theorem d_Mo_moves_344 : decode b_Mo_moves 344 = .ok (.iconst 0, 1) := by decide +kernel
theorem d_Mo_moves_345 : decode b_Mo_moves 345 = .ok (.invokevirtual 142, 3) := by decide +kernel
theorem d_Mo_moves_348 : decode b_Mo_moves 348 = .ok (.goto 243, 3) := by decide +kernel
theorem d_Mo_moves_351 : decode b_Mo_moves 351 = .ok (.iload_n 3, 1) := by decide +kernel
theorem d_Mo_moves_352 : decode b_Mo_moves 352 = .ok (.bipush 23, 2) := by decide +kernel
theorem d_Mo_moves_354 : decode b_Mo_moves 354 = .ok (.if_icmp .ne 29, 3) := by decide +kernel
theorem d_Mo_moves_357 : decode b_Mo_moves 357 = .ok (.aload_n 0, 1) := by decide +kernel
theorem d_Mo_moves_358 : decode b_Mo_moves 358 = .ok (.iconst 2, 1) := by decide +kernel
theorem d_Mo_moves_359 : decode b_Mo_moves 359 = .ok (.invokevirtual 150, 3) := by decide +kernel
theorem d_Mo_moves_362 : decode b_Mo_moves 362 = .ok (.ifCond .eq 15, 3) := by decide +kernel
theorem d_Mo_moves_365 : decode b_Mo_moves 365 = .ok (.aload_n 0, 1) := by decide +kernel
theorem d_Mo_moves_366 : decode b_Mo_moves 366 = .ok (.iconst 1, 1) := by decide +kernel
theorem d_Mo_moves_367 : decode b_Mo_moves 367 = .ok (.invokevirtual 138, 3) := by decide +kernel
theorem d_Mo_moves_370 : decode b_Mo_moves 370 = .ok (.ifCond .eq 7, 3) := by decide +kernel
theorem d_Mo_moves_373 : decode b_Mo_moves 373 = .ok (.iconst 1, 1) := by decide +kernel
theorem d_Mo_moves_374 : decode b_Mo_moves 374 = .ok (.goto 4, 3) := by decide +kernel
theorem d_Mo_moves_377 : decode b_Mo_moves 377 = .ok (.iconst 0, 1) := by decide +kernel
theorem d_Mo_moves_378 : decode b_Mo_moves 378 = .ok (.istore 6, 2) := by decide +kernel
theorem d_Mo_moves_380 : decode b_Mo_moves 380 = .ok (.goto 211, 3) := by decide +kernel
theorem d_Mo_moves_383 : decode b_Mo_moves 383 = .ok (.iload_n 3, 1) := by decide +kernel
theorem d_Mo_moves_384 : decode b_Mo_moves 384 = .ok (.bipush 24, 2) := by decide +kernel
theorem d_Mo_moves_386 : decode b_Mo_moves 386 = .ok (.if_icmp .ne 18, 3) := by decide +kernel
theorem d_Mo_moves_389 : decode b_Mo_moves 389 = .ok (.aload_n 0, 1) := by decide +kernel
theorem d_Mo_moves_390 : decode b_Mo_moves 390 = .ok (.iconst 1, 1) := by decide +kernel
theorem d_Mo_moves_391 : decode b_Mo_moves 391 = .ok (.invokevirtual 138, 3) := by decide +kernel
theorem d_Mo_moves_394 : decode b_Mo_moves 394 = .ok (.istore 6, 2) := by decide +kernel
theorem d_Mo_moves_396 : decode b_Mo_moves 396 = .ok (.aload_n 0, 1) := by decide +kernel
theorem d_Mo_moves_397 : decode b_Mo_moves 397 = .ok (.iconst 0, 1) := by decide +kernel
theorem d_Mo_moves_398 : decode b_Mo_moves 398 = .ok (.invokevirtual 142, 3) := by decide +kernel
theorem d_Mo_moves_401 : decode b_Mo_moves 401 = .ok (.goto 190, 3) := by decide +kernel
theorem d_Mo_moves_404 : decode b_Mo_moves 404 = .ok (.iload_n 3, 1) := by decide +kernel
theorem d_Mo_moves_405 : decode b_Mo_moves 405 = .ok (.bipush 25, 2) := by decide +kernel
theorem d_Mo_moves_407 : decode b_Mo_moves 407 = .ok (.if_icmp .ne 87, 3) := by decide +kernel
theorem d_Mo_moves_410 : decode b_Mo_moves 410 = .ok (.bipush 12, 2) := by decide +kernel
theorem d_Mo_moves_412 : decode b_Mo_moves 412 = .ok (.iload_n 1, 1) := by decide +kernel
theorem d_Mo_moves_413 : decode b_Mo_moves 413 = .ok (.imul, 1) := by decide +kernel
theorem d_Mo_moves_414 : decode b_Mo_moves 414 = .ok (.iload 4, 2) := by decide +kernel
theorem d_Mo_moves_416 : decode b_Mo_moves 416 = .ok (.iadd, 1) := by decide +kernel
theorem d_Mo_moves_417 : decode b_Mo_moves 417 = .ok (.istore 7, 2) := by decide +kernel
theorem d_Mo_moves_419 : decode b_Mo_moves 419 = .ok (.aload_n 0, 1) := by decide +kernel
theorem d_Mo_moves_420 : decode b_Mo_moves 420 = .ok (.getfield 23, 3) := by decide +kernel
theorem d_Mo_moves_423 : decode b_Mo_moves 423 = .ok (.iload 7, 2) := by decide +kernel
theorem d_Mo_moves_425 : decode b_Mo_moves 425 = .ok (.iaload, 1) := by decide +kernel
theorem d_Mo_moves_426 : decode b_Mo_moves 426 = .ok (.iconst 1, 1) := by decide +kernel
theorem d_Mo_moves_427 : decode b_Mo_moves 427 = .ok (.isub, 1) := by decide +kernel
theorem d_Mo_moves_428 : decode b_Mo_moves 428 = .ok (.istore 8, 2) := by decide +kernel
theorem d_Mo_moves_430 : decode b_Mo_moves 430 = .ok (.iload 8, 2) := by decide +kernel
theorem d_Mo_moves_432 : decode b_Mo_moves 432 = .ok (.ifCond .lt 36, 3) := by decide +kernel
theorem d_Mo_moves_435 : decode b_Mo_moves 435 = .ok (.iload 6, 2) := by decide +kernel
theorem d_Mo_moves_437 : decode b_Mo_moves 437 = .ok (.ifCond .eq 22, 3) := by decide +kernel
theorem d_Mo_moves_440 : decode b_Mo_moves 440 = .ok (.aload_n 0, 1) := by decide +kernel
theorem d_Mo_moves_441 : decode b_Mo_moves 441 = .ok (.aload_n 0, 1) := by decide +kernel
theorem d_Mo_moves_442 : decode b_Mo_moves 442 = .ok (.iload 7, 2) := by decide +kernel
theorem d_Mo_moves_444 : decode b_Mo_moves 444 = .ok (.iload 8, 2) := by decide +kernel
theorem d_Mo_moves_446 : decode b_Mo_moves 446 = .ok (.invokevirtual 146, 3) := by decide +kernel
theorem d_Mo_moves_449 : decode b_Mo_moves 449 = .ok (.invokevirtual 138, 3) := by decide +kernel
theorem d_Mo_moves_452 : decode b_Mo_moves 452 = .ok (.ifCond .eq 7, 3) := by decide +kernel
theorem d_Mo_moves_455 : decode b_Mo_moves 455 = .ok (.iconst 1, 1) := by decide +kernel
theorem d_Mo_moves_456 : decode b_Mo_moves 456 = .ok (.goto 4, 3) := by decide +kernel
theorem d_Mo_moves_459 : decode b_Mo_moves 459 = .ok (.iconst 0, 1) := by decide +kernel
theorem d_Mo_moves_460 : decode b_Mo_moves 460 = .ok (.istore 6, 2) := by decide +kernel
theorem d_Mo_moves_462 : decode b_Mo_moves 462 = .ok (.iinc 8 (-1), 3) := by decide +kernel
theorem d_Mo_moves_465 : decode b_Mo_moves 465 = .ok (.goto (-35), 3) := by decide +kernel
theorem d_Mo_moves_468 : decode b_Mo_moves 468 = .ok (.aload_n 0, 1) := by decide +kernel
theorem d_Mo_moves_469 : decode b_Mo_moves 469 = .ok (.getfield 32, 3) := by decide +kernel
theorem d_Mo_moves_472 : decode b_Mo_moves 472 = .ok (.iload 7, 2) := by decide +kernel
theorem d_Mo_moves_474 : decode b_Mo_moves 474 = .ok (.iaload, 1) := by decide +kernel
theorem d_Mo_moves_475 : decode b_Mo_moves 475 = .ok (.ifCond .le 16, 3) := by decide +kernel
theorem d_Mo_moves_478 : decode b_Mo_moves 478 = .ok (.aload_n 0, 1) := by decide +kernel
theorem d_Mo_moves_479 : decode b_Mo_moves 479 = .ok (.aload_n 0, 1) := by decide +kernel
theorem d_Mo_moves_480 : decode b_Mo_moves 480 = .ok (.getfield 32, 3) := by decide +kernel
theorem d_Mo_moves_483 : decode b_Mo_moves 483 = .ok (.iload 7, 2) := by decide +kernel
theorem d_Mo_moves_485 : decode b_Mo_moves 485 = .ok (.iaload, 1) := by decide +kernel
theorem d_Mo_moves_486 : decode b_Mo_moves 486 = .ok (.iconst 1, 1) := by decide +kernel
theorem d_Mo_moves_487 : decode b_Mo_moves 487 = .ok (.isub, 1) := by decide +kernel
theorem d_Mo_moves_488 : decode b_Mo_moves 488 = .ok (.invokevirtual 142, 3) := by decide +kernel
theorem d_Mo_moves_491 : decode b_Mo_moves 491 = .ok (.goto 100, 3) := by decide +kernel
theorem d_Mo_moves_494 : decode b_Mo_moves 494 = .ok (.iload_n 3, 1) := by decide +kernel
theorem d_Mo_moves_495 : decode b_Mo_moves 495 = .ok (.bipush 26, 2) := by decide +kernel
theorem d_Mo_moves_497 : decode b_Mo_moves 497 = .ok (.if_icmp .ne 21, 3) := by decide +kernel
theorem d_Mo_moves_500 : decode b_Mo_moves 500 = .ok (.aload_n 0, 1) := by decide +kernel
theorem d_Mo_moves_501 : decode b_Mo_moves 501 = .ok (.iload 4, 2) := by decide +kernel
theorem d_Mo_moves_503 : decode b_Mo_moves 503 = .ok (.iconst 4, 1) := by decide +kernel
theorem d_Mo_moves_504 : decode b_Mo_moves 504 = .ok (.irem, 1) := by decide +kernel
theorem d_Mo_moves_505 : decode b_Mo_moves 505 = .ok (.invokevirtual 150, 3) := by decide +kernel
theorem d_Mo_moves_508 : decode b_Mo_moves 508 = .ok (.istore 6, 2) := by decide +kernel
theorem d_Mo_moves_510 : decode b_Mo_moves 510 = .ok (.aload_n 0, 1) := by decide +kernel
theorem d_Mo_moves_511 : decode b_Mo_moves 511 = .ok (.iconst 0, 1) := by decide +kernel
theorem d_Mo_moves_512 : decode b_Mo_moves 512 = .ok (.invokevirtual 142, 3) := by decide +kernel
theorem d_Mo_moves_515 : decode b_Mo_moves 515 = .ok (.goto 76, 3) := by decide +kernel
theorem d_Mo_moves_518 : decode b_Mo_moves 518 = .ok (.iload_n 3, 1) := by decide +kernel
theorem d_Mo_moves_519 : decode b_Mo_moves 519 = .ok (.bipush 27, 2) := by decide +kernel
theorem d_Mo_moves_521 : decode b_Mo_moves 521 = .ok (.if_icmp .ne 31, 3) := by decide +kernel
theorem d_Mo_moves_524 : decode b_Mo_moves 524 = .ok (.aload_n 0, 1) := by decide +kernel
theorem d_Mo_moves_525 : decode b_Mo_moves 525 = .ok (.getfield 32, 3) := by decide +kernel
theorem d_Mo_moves_528 : decode b_Mo_moves 528 = .ok (.iload 5, 2) := by decide +kernel
theorem d_Mo_moves_530 : decode b_Mo_moves 530 = .ok (.iaload, 1) := by decide +kernel
theorem d_Mo_moves_531 : decode b_Mo_moves 531 = .ok (.ifCond .le 21, 3) := by decide +kernel
theorem d_Mo_moves_534 : decode b_Mo_moves 534 = .ok (.aload_n 0, 1) := by decide +kernel
theorem d_Mo_moves_535 : decode b_Mo_moves 535 = .ok (.aload_n 0, 1) := by decide +kernel
theorem d_Mo_moves_536 : decode b_Mo_moves 536 = .ok (.getfield 32, 3) := by decide +kernel
theorem d_Mo_moves_539 : decode b_Mo_moves 539 = .ok (.iload 5, 2) := by decide +kernel
theorem d_Mo_moves_541 : decode b_Mo_moves 541 = .ok (.iaload, 1) := by decide +kernel
theorem d_Mo_moves_542 : decode b_Mo_moves 542 = .ok (.iconst 1, 1) := by decide +kernel
theorem d_Mo_moves_543 : decode b_Mo_moves 543 = .ok (.isub, 1) := by decide +kernel
theorem d_Mo_moves_544 : decode b_Mo_moves 544 = .ok (.invokevirtual 138, 3) := by decide +kernel
theorem d_Mo_moves_547 : decode b_Mo_moves 547 = .ok (.istore 6, 2) := by decide +kernel
theorem d_Mo_moves_549 : decode b_Mo_moves 549 = .ok (.goto 42, 3) := by decide +kernel
theorem d_Mo_moves_552 : decode b_Mo_moves 552 = .ok (.iload_n 3, 1) := by decide +kernel
theorem d_Mo_moves_553 : decode b_Mo_moves 553 = .ok (.bipush 29, 2) := by decide +kernel
theorem d_Mo_moves_555 : decode b_Mo_moves 555 = .ok (.if_icmp .ne 36, 3) := by decide +kernel
theorem d_Mo_moves_558 : decode b_Mo_moves 558 = .ok (.aload_n 0, 1) := by decide +kernel
theorem d_Mo_moves_559 : decode b_Mo_moves 559 = .ok (.iload 4, 2) := by decide +kernel
theorem d_Mo_moves_561 : decode b_Mo_moves 561 = .ok (.iconst 4, 1) := by decide +kernel
theorem d_Mo_moves_562 : decode b_Mo_moves 562 = .ok (.irem, 1) := by decide +kernel
theorem d_Mo_moves_563 : decode b_Mo_moves 563 = .ok (.invokevirtual 150, 3) := by decide +kernel
theorem d_Mo_moves_566 : decode b_Mo_moves 566 = .ok (.istore 6, 2) := by decide +kernel
theorem d_Mo_moves_568 : decode b_Mo_moves 568 = .ok (.iconst 0, 1) := by decide +kernel
theorem d_Mo_moves_569 : decode b_Mo_moves 569 = .ok (.istore 7, 2) := by decide +kernel
theorem d_Mo_moves_571 : decode b_Mo_moves 571 = .ok (.iload 7, 2) := by decide +kernel
theorem d_Mo_moves_573 : decode b_Mo_moves 573 = .ok (.iload 4, 2) := by decide +kernel
theorem d_Mo_moves_575 : decode b_Mo_moves 575 = .ok (.iconst 4, 1) := by decide +kernel
theorem d_Mo_moves_576 : decode b_Mo_moves 576 = .ok (.irem, 1) := by decide +kernel
theorem d_Mo_moves_577 : decode b_Mo_moves 577 = .ok (.if_icmp .ge 14, 3) := by decide +kernel
theorem d_Mo_moves_580 : decode b_Mo_moves 580 = .ok (.aload_n 0, 1) := by decide +kernel
theorem d_Mo_moves_581 : decode b_Mo_moves 581 = .ok (.iconst 0, 1) := by decide +kernel
theorem d_Mo_moves_582 : decode b_Mo_moves 582 = .ok (.invokevirtual 142, 3) := by decide +kernel
theorem d_Mo_moves_585 : decode b_Mo_moves 585 = .ok (.iinc 7 1, 3) := by decide +kernel
theorem d_Mo_moves_588 : decode b_Mo_moves 588 = .ok (.goto (-17), 3) := by decide +kernel
theorem d_Mo_moves_591 : decode b_Mo_moves 591 = .ok (.iload 6, 2) := by decide +kernel
theorem d_Mo_moves_593 : decode b_Mo_moves 593 = .ok (.ireturn, 1) := by decide +kernel
set_option maxHeartbeats 4000000 in
set_option maxRecDepth 100000 in
theorem ml_Mo_moves_571 {p : Program} {l : Launch} {e : Env} {s : State} {m : MethodId} {args : Array Value} {below : List Frame} {meth : Method} {c : Code} {D : va_G} {dA : Nat → ClassId} {h0 h2 : hc_H} {C0 S0 : Nat} {b : Int32} (hC : hj_C p s m args meth c (gg D dA) b_Mo_moves 9 (some .boolean) R_Mo "moves" tb) (x0 : Option Nat) (x4 : Int32) (x6 : Int32) (kx : hM Int32) (hk : ∀  (h : hc_H) (C S : Nat), kx  h = some (b, C, S, h2) → hj_J p l e { frames := 2, cells := C0, slots := S0, locals := 45 } s m args below meth c (gg D dA) h0 9 (hj_Q below args s { frames := 2, cells := C0, slots := S0, locals := 45 } (gg D dA) h0 (some (vi_ b)) h2) C S h 591 [(6, vi_ x6)] []) : ∀ (fu : Nat) (v7 : Int32) (h : hc_H) (C S : Nat), p_Mo_moves_571 x0 x4 x6 kx fu v7 h = some (b, C, S, h2) → hj_J p l e { frames := 2, cells := C0, slots := S0, locals := 45 } s m args below meth c (gg D dA) h0 9 (hj_Q below args s { frames := 2, cells := C0, slots := S0, locals := 45 } (gg D dA) h0 (some (vi_ b)) h2) C S h 571 [(0, vr_ x0), (4, vi_ x4), (6, vi_ x6), (7, vi_ v7)] [] := by
  intro fu
  induction fu with
  | zero =>
    intro v7 h C S hr
    cases hr
  | succ fu ih =>
    intro v7 h C S hr
    rw [p_Mo_moves_571] at hr
    refine hj_iload hC 3 d_Mo_moves_571 rfl ?_
    refine hj_iload hC 1 d_Mo_moves_573 rfl ?_
    refine hj_iconst hC (v := 4) d_Mo_moves_575 (by decide) ?_
    refine hj_irem hC d_Mo_moves_576 hr (fun _ hr => ?_)
    refine hj_icmp_ge hC 591 d_Mo_moves_577 (by decide) hr (fun q577 hr => ?_) (fun q577 hr => ?_)
    · refine hj_sub (lv' := [(6, vi_ x6)]) [2] rfl ?_
      exact hk _ _ _ hr
    · refine hj_aload_n hC 0 d_Mo_moves_580 rfl rfl ?_
      refine hj_iconst hC (v := 0) d_Mo_moves_581 (by decide) ?_
      refine hj_callV hC hG (enc := (fun _ : Unit => none)) (As := [vi_ 0]) (st := []) (fun h a C S h1 hr => m_Mo_puts _ _ h a C S h1 hr) cf_Mo wq_401 wq_402 wq_403 wq_389 wq_400 yk_Mo_puts rfl ⟨Nat.le_of_ble_eq_true rfl, Nat.le_of_ble_eq_true rfl⟩ rfl (Nat.le_of_ble_eq_true rfl) d_Mo_moves_582 hr (fun _ h C S hr => ?_)
      refine hj_iinc hC (lv' := [(7, vi_ (v7 + 1)), (0, vr_ x0), (4, vi_ x4), (6, vi_ x6)]) 3 d_Mo_moves_585 rfl rfl (by decide) rfl ?_
      refine hj_goto hC 571 d_Mo_moves_588 (by decide) ?_
      refine hj_sub (lv' := [(0, vr_ x0), (4, vi_ x4), (6, vi_ x6), (7, vi_ (v7 + 1))]) [1, 2, 3, 0] rfl ?_
      exact ih _ _ _ _ hr
set_option maxHeartbeats 4000000 in
set_option maxRecDepth 100000 in
theorem ml_Mo_moves_430 {p : Program} {l : Launch} {e : Env} {s : State} {m : MethodId} {args : Array Value} {below : List Frame} {meth : Method} {c : Code} {D : va_G} {dA : Nat → ClassId} {h0 h2 : hc_H} {C0 S0 : Nat} {b : Int32} (hC : hj_C p s m args meth c (gg D dA) b_Mo_moves 9 (some .boolean) R_Mo "moves" tb) (x0 : Option Nat) (x7 : Int32) (kx : Int32 → hM Int32) (hk : ∀ (v6 : Int32) (h : hc_H) (C S : Nat), kx v6 h = some (b, C, S, h2) → hj_J p l e { frames := 2, cells := C0, slots := S0, locals := 45 } s m args below meth c (gg D dA) h0 9 (hj_Q below args s { frames := 2, cells := C0, slots := S0, locals := 45 } (gg D dA) h0 (some (vi_ b)) h2) C S h 468 [(0, vr_ x0), (6, vi_ v6), (7, vi_ x7)] []) : ∀ (fu : Nat) (v6 : Int32) (v8 : Int32) (h : hc_H) (C S : Nat), p_Mo_moves_430 x0 x7 kx fu v6 v8 h = some (b, C, S, h2) → hj_J p l e { frames := 2, cells := C0, slots := S0, locals := 45 } s m args below meth c (gg D dA) h0 9 (hj_Q below args s { frames := 2, cells := C0, slots := S0, locals := 45 } (gg D dA) h0 (some (vi_ b)) h2) C S h 430 [(0, vr_ x0), (6, vi_ v6), (7, vi_ x7), (8, vi_ v8)] [] := by
  intro fu
  induction fu with
  | zero =>
    intro v6 v8 h C S hr
    cases hr
  | succ fu ih =>
    intro v6 v8 h C S hr
    rw [p_Mo_moves_430] at hr
    refine hj_iload hC 3 d_Mo_moves_430 rfl ?_
    refine hj_if_lt hC 468 d_Mo_moves_432 (by decide) hr (fun q432 hr => ?_) (fun q432 hr => ?_)
    · refine hj_sub (lv' := [(0, vr_ x0), (6, vi_ v6), (7, vi_ x7)]) [0, 1, 2] rfl ?_
      exact hk _ _ _ _ hr
    · refine hj_iload hC 1 d_Mo_moves_435 rfl ?_
      refine hj_jn hC (K := Int32 → hM Int32) (fun k => ∀ (z11 : Int32) (h : hc_H) (C S : Nat), k z11 h = some (b, C, S, h2) → hj_J p l e { frames := 2, cells := C0, slots := S0, locals := 45 } s m args below meth c (gg D dA) h0 9 (hj_Q below args s { frames := 2, cells := C0, slots := S0, locals := 45 } (gg D dA) h0 (some (vi_ b)) h2) C S h 460 [(0, vr_ x0), (7, vi_ x7), (8, vi_ v8)] [vi_ z11]) hr (fun z11 h C S hr => ?_) (fun k460 hk460 hr => ?_)
      · refine hj_istore hC (lv' := [(6, vi_ z11), (0, vr_ x0), (7, vi_ x7), (8, vi_ v8)]) d_Mo_moves_460 (by decide) rfl ?_
        refine hj_iinc hC (lv' := [(8, vi_ (v8 + (-1))), (6, vi_ z11), (0, vr_ x0), (7, vi_ x7)]) 3 d_Mo_moves_462 rfl rfl (by decide) rfl ?_
        refine hj_goto hC 430 d_Mo_moves_465 (by decide) ?_
        refine hj_sub (lv' := [(0, vr_ x0), (6, vi_ z11), (7, vi_ x7), (8, vi_ (v8 + (-1)))]) [2, 1, 3, 0] rfl ?_
        exact ih _ _ _ _ _ hr
      · refine hj_jn hC (K := hM Int32) (fun k => ∀  (h : hc_H) (C S : Nat), k  h = some (b, C, S, h2) → hj_J p l e { frames := 2, cells := C0, slots := S0, locals := 45 } s m args below meth c (gg D dA) h0 9 (hj_Q below args s { frames := 2, cells := C0, slots := S0, locals := 45 } (gg D dA) h0 (some (vi_ b)) h2) C S h 459 [(0, vr_ x0), (7, vi_ x7), (8, vi_ v8)] []) hr (fun  h C S hr => ?_) (fun k459 hk459 hr => ?_)
        · refine hj_iconst hC (v := 0) d_Mo_moves_459 (by decide) ?_
          exact hk460 _ _ _ _ hr
        · refine hj_if_eq hC 459 d_Mo_moves_437 (by decide) hr (fun q437 hr => ?_) (fun q437 hr => ?_)
          · refine hj_sub (lv' := [(0, vr_ x0), (7, vi_ x7), (8, vi_ v8)]) [0, 2, 3] rfl ?_
            exact hk459 _ _ _ hr
          · refine hj_aload_n hC 0 d_Mo_moves_440 rfl rfl ?_
            refine hj_aload_n hC 0 d_Mo_moves_441 rfl rfl ?_
            refine hj_iload hC 2 d_Mo_moves_442 rfl ?_
            refine hj_iload hC 3 d_Mo_moves_444 rfl ?_
            refine hj_callV hC hG (enc := (fun a : Int32 => some (vi_ a))) (As := [vi_ x7, vi_ v8]) (st := [vr_ x0]) (fun h a C S h1 hr => m_Mo_isRow _ _ _ h a C S h1 hr) cf_Mo wq_410 wq_411 wq_412 wq_389 wq_409 yk_Mo_isRow rfl ⟨Nat.le_of_ble_eq_true rfl, Nat.le_of_ble_eq_true rfl⟩ rfl (Nat.le_of_ble_eq_true rfl) d_Mo_moves_446 hr (fun a12 h C S hr => ?_)
            refine hj_callV hC hG (enc := (fun a : Int32 => some (vi_ a))) (As := [vi_ a12]) (st := []) (fun h a C S h1 hr => m_Mo_takes _ _ h a C S h1 hr) cf_Mo wq_396 wq_397 wq_398 wq_389 wq_395 yk_Mo_takes rfl ⟨Nat.le_of_ble_eq_true rfl, Nat.le_of_ble_eq_true rfl⟩ rfl (Nat.le_of_ble_eq_true rfl) d_Mo_moves_449 hr (fun a13 h C S hr => ?_)
            refine hj_if_eq hC 459 d_Mo_moves_452 (by decide) hr (fun q452 hr => ?_) (fun q452 hr => ?_)
            · refine hj_sub (lv' := [(0, vr_ x0), (7, vi_ x7), (8, vi_ v8)]) [0, 2, 3] rfl ?_
              exact hk459 _ _ _ hr
            · refine hj_iconst hC (v := 1) d_Mo_moves_455 (by decide) ?_
              refine hj_goto hC 460 d_Mo_moves_456 (by decide) ?_
              refine hj_sub (lv' := [(0, vr_ x0), (7, vi_ x7), (8, vi_ v8)]) [0, 2, 3] rfl ?_
              exact hk460 _ _ _ _ hr
set_option maxHeartbeats 4000000 in
set_option maxRecDepth 100000 in
theorem m_Mo_moves {l : Launch} {D : va_G} {dA : Nat → ClassId} (o : Option Nat) (x1 : Int32) (x2 : Int32) (x3 : Int32) (x4 : Int32) (h0 : hc_H) (b : Int32) (C0 S0 : Nat) (h2 : hc_H) (hr : p_Mo_moves o x1 x2 x3 x4 h0 = some (b, C0, S0, h2)) : hc_Met l (gg D dA) y_Mo_moves b_Mo_moves 9 (some .boolean) tb 2 45 [vr_ o, vi_ x1, vi_ x2, vi_ x3, vi_ x4] h0 C0 S0 (some (vi_ b)) h2 := by
  refine hc_Met.of (by decide) (Nat.le_of_ble_eq_true rfl) ?_
  intro p e s m args below meth c hC
  unfold p_Mo_moves at hr
  refine hj_sub (lv' := [(0, vr_ o), (1, vi_ x1), (2, vi_ x2), (3, vi_ x3), (4, vi_ x4)]) [0, 1, 2, 3, 4] rfl ?_
  refine hj_bipush hC (v := 12) d_Mo_moves_0 (by decide) ?_
  refine hj_iload_n hC 1 d_Mo_moves_2 rfl rfl ?_
  refine hj_imul hC d_Mo_moves_3 ?_
  refine hj_iload_n hC 2 d_Mo_moves_4 rfl rfl ?_
  refine hj_iadd hC d_Mo_moves_5 ?_
  refine hj_istore hC (lv' := [(5, vi_ ((12 * x1) + x2)), (0, vr_ o), (1, vi_ x1), (2, vi_ x2), (3, vi_ x3), (4, vi_ x4)]) d_Mo_moves_6 (by decide) rfl ?_
  refine hj_iconst hC (v := 1) d_Mo_moves_8 (by decide) ?_
  refine hj_istore hC (lv' := [(6, vi_ 1), (5, vi_ ((12 * x1) + x2)), (0, vr_ o), (1, vi_ x1), (2, vi_ x2), (3, vi_ x3), (4, vi_ x4)]) d_Mo_moves_9 (by decide) rfl ?_
  refine hj_iload_n hC 5 d_Mo_moves_11 rfl rfl ?_
  refine hj_if_ne hC 23 d_Mo_moves_12 (by decide) hr (fun q12 hr => ?_) (fun q12 hr => ?_)
  · refine hj_iload_n hC 5 d_Mo_moves_23 rfl rfl ?_
    refine hj_iconst hC (v := 1) d_Mo_moves_24 (by decide) ?_
    refine hj_icmp_ne hC 38 d_Mo_moves_25 (by decide) hr (fun q25 hr => ?_) (fun q25 hr => ?_)
    · refine hj_iload_n hC 5 d_Mo_moves_38 rfl rfl ?_
      refine hj_iconst hC (v := 2) d_Mo_moves_39 (by decide) ?_
      refine hj_icmp_ne hC 86 d_Mo_moves_40 (by decide) hr (fun q40 hr => ?_) (fun q40 hr => ?_)
      · refine hj_iload_n hC 5 d_Mo_moves_86 rfl rfl ?_
        refine hj_iconst hC (v := 3) d_Mo_moves_87 (by decide) ?_
        refine hj_icmp_ne hC 202 d_Mo_moves_88 (by decide) hr (fun q88 hr => ?_) (fun q88 hr => ?_)
        · refine hj_iload_n hC 5 d_Mo_moves_202 rfl rfl ?_
          refine hj_iconst hC (v := 4) d_Mo_moves_203 (by decide) ?_
          refine hj_icmp_ne hC 222 d_Mo_moves_204 (by decide) hr (fun q204 hr => ?_) (fun q204 hr => ?_)
          · refine hj_iload_n hC 5 d_Mo_moves_222 rfl rfl ?_
            refine hj_iconst hC (v := 5) d_Mo_moves_223 (by decide) ?_
            refine hj_icmp_ne hC 244 d_Mo_moves_224 (by decide) hr (fun q224 hr => ?_) (fun q224 hr => ?_)
            · refine hj_iload_n hC 5 d_Mo_moves_244 rfl rfl ?_
              refine hj_bipush hC (v := 18) d_Mo_moves_245 (by decide) ?_
              refine hj_icmp_ge hC 265 d_Mo_moves_247 (by decide) hr (fun q247 hr => ?_) (fun q247 hr => ?_)
              · refine hj_iload_n hC 5 d_Mo_moves_265 rfl rfl ?_
                refine hj_bipush hC (v := 19) d_Mo_moves_266 (by decide) ?_
                refine hj_jn hC (K := hM Int32) (fun k => ∀  (h : hc_H) (C S : Nat), k  h = some (b, C, S, h2) → hj_J p l e { frames := 2, cells := C0, slots := S0, locals := 45 } s m args below meth c (gg D dA) h0 9 (hj_Q below args s { frames := 2, cells := C0, slots := S0, locals := 45 } (gg D dA) h0 (some (vi_ b)) h2) C S h 283 [(0, vr_ o)] []) hr (fun  h C S hr => ?_) (fun k283 hk283 hr => ?_)
                · refine hj_aload_n hC 0 d_Mo_moves_283 rfl rfl ?_
                  refine hj_iconst hC (v := 0) d_Mo_moves_284 (by decide) ?_
                  refine hj_callV hC hG (enc := (fun a : Int32 => some (vi_ a))) (As := [vi_ 0]) (st := []) (fun h a C S h1 hr => m_Mo_takes _ _ h a C S h1 hr) cf_Mo wq_396 wq_397 wq_398 wq_389 wq_395 yk_Mo_takes rfl ⟨Nat.le_of_ble_eq_true rfl, Nat.le_of_ble_eq_true rfl⟩ rfl (Nat.le_of_ble_eq_true rfl) d_Mo_moves_285 hr (fun a1 h C S hr => ?_)
                  refine hj_istore hC (lv' := [(6, vi_ a1), (0, vr_ o)]) d_Mo_moves_288 (by decide) rfl ?_
                  refine hj_goto hC 591 d_Mo_moves_290 (by decide) ?_
                  refine hj_iload hC 0 d_Mo_moves_591 rfl ?_
                  exact hj_zret hC d_Mo_moves_593 hr
                · refine hj_icmp_eq hC 283 d_Mo_moves_268 (by decide) hr (fun q268 hr => ?_) (fun q268 hr => ?_)
                  · refine hj_sub (lv' := [(0, vr_ o)]) [2] rfl ?_
                    exact hk283 _ _ _ hr
                  · refine hj_iload_n hC 5 d_Mo_moves_271 rfl rfl ?_
                    refine hj_bipush hC (v := 20) d_Mo_moves_272 (by decide) ?_
                    refine hj_icmp_eq hC 283 d_Mo_moves_274 (by decide) hr (fun q274 hr => ?_) (fun q274 hr => ?_)
                    · refine hj_sub (lv' := [(0, vr_ o)]) [2] rfl ?_
                      exact hk283 _ _ _ hr
                    · refine hj_iload_n hC 5 d_Mo_moves_277 rfl rfl ?_
                      refine hj_bipush hC (v := 28) d_Mo_moves_278 (by decide) ?_
                      refine hj_icmp_ne hC 293 d_Mo_moves_280 (by decide) hr (fun q280 hr => ?_) (fun q280 hr => ?_)
                      · refine hj_iload_n hC 5 d_Mo_moves_293 rfl rfl ?_
                        refine hj_bipush hC (v := 21) d_Mo_moves_294 (by decide) ?_
                        refine hj_icmp_ne hC 314 d_Mo_moves_296 (by decide) hr (fun q296 hr => ?_) (fun q296 hr => ?_)
                        · refine hj_iload_n hC 5 d_Mo_moves_314 rfl rfl ?_
                          refine hj_bipush hC (v := 22) d_Mo_moves_315 (by decide) ?_
                          refine hj_icmp_ne hC 351 d_Mo_moves_317 (by decide) hr (fun q317 hr => ?_) (fun q317 hr => ?_)
                          · refine hj_iload_n hC 5 d_Mo_moves_351 rfl rfl ?_
                            refine hj_bipush hC (v := 23) d_Mo_moves_352 (by decide) ?_
                            refine hj_icmp_ne hC 383 d_Mo_moves_354 (by decide) hr (fun q354 hr => ?_) (fun q354 hr => ?_)
                            · refine hj_iload_n hC 5 d_Mo_moves_383 rfl rfl ?_
                              refine hj_bipush hC (v := 24) d_Mo_moves_384 (by decide) ?_
                              refine hj_icmp_ne hC 404 d_Mo_moves_386 (by decide) hr (fun q386 hr => ?_) (fun q386 hr => ?_)
                              · refine hj_iload_n hC 5 d_Mo_moves_404 rfl rfl ?_
                                refine hj_bipush hC (v := 25) d_Mo_moves_405 (by decide) ?_
                                refine hj_icmp_ne hC 494 d_Mo_moves_407 (by decide) hr (fun q407 hr => ?_) (fun q407 hr => ?_)
                                · refine hj_iload_n hC 5 d_Mo_moves_494 rfl rfl ?_
                                  refine hj_bipush hC (v := 26) d_Mo_moves_495 (by decide) ?_
                                  refine hj_icmp_ne hC 518 d_Mo_moves_497 (by decide) hr (fun q497 hr => ?_) (fun q497 hr => ?_)
                                  · refine hj_iload_n hC 5 d_Mo_moves_518 rfl rfl ?_
                                    refine hj_bipush hC (v := 27) d_Mo_moves_519 (by decide) ?_
                                    refine hj_jn hC (K := hM Int32) (fun k => ∀  (h : hc_H) (C S : Nat), k  h = some (b, C, S, h2) → hj_J p l e { frames := 2, cells := C0, slots := S0, locals := 45 } s m args below meth c (gg D dA) h0 9 (hj_Q below args s { frames := 2, cells := C0, slots := S0, locals := 45 } (gg D dA) h0 (some (vi_ b)) h2) C S h 552 [(0, vr_ o), (3, vi_ x3), (4, vi_ x4), (6, vi_ 1)] []) hr (fun  h C S hr => ?_) (fun k552 hk552 hr => ?_)
                                    · refine hj_iload_n hC 1 d_Mo_moves_552 rfl rfl ?_
                                      refine hj_bipush hC (v := 29) d_Mo_moves_553 (by decide) ?_
                                      refine hj_icmp_ne hC 591 d_Mo_moves_555 (by decide) hr (fun q555 hr => ?_) (fun q555 hr => ?_)
                                      · refine hj_iload hC 3 d_Mo_moves_591 rfl ?_
                                        exact hj_zret hC d_Mo_moves_593 hr
                                      · refine hj_aload_n hC 0 d_Mo_moves_558 rfl rfl ?_
                                        refine hj_iload hC 2 d_Mo_moves_559 rfl ?_
                                        refine hj_iconst hC (v := 4) d_Mo_moves_561 (by decide) ?_
                                        refine hj_irem hC d_Mo_moves_562 hr (fun _ hr => ?_)
                                        refine hj_callV hC hG (enc := (fun a : Int32 => some (vi_ a))) (As := [vi_ (x4 - x4 / 4 * 4)]) (st := []) (fun h a C S h1 hr => m_Mo_takesInts _ _ h a C S h1 hr) cf_Mo wq_404 wq_405 wq_406 wq_389 wq_399 yk_Mo_takesInts rfl ⟨Nat.le_of_ble_eq_true rfl, Nat.le_of_ble_eq_true rfl⟩ rfl (Nat.le_of_ble_eq_true rfl) d_Mo_moves_563 hr (fun a2 h C S hr => ?_)
                                        refine hj_istore hC (lv' := [(6, vi_ a2), (0, vr_ o), (3, vi_ x3), (4, vi_ x4)]) d_Mo_moves_566 (by decide) rfl ?_
                                        refine hj_iconst hC (v := 0) d_Mo_moves_568 (by decide) ?_
                                        refine hj_istore hC (lv' := [(7, vi_ 0), (6, vi_ a2), (0, vr_ o), (3, vi_ x3), (4, vi_ x4)]) d_Mo_moves_569 (by decide) rfl ?_
                                        refine hj_sub (lv' := [(0, vr_ o), (4, vi_ x4), (6, vi_ a2), (7, vi_ 0)]) [2, 4, 1, 0] rfl ?_
                                        refine ml_Mo_moves_571 hC _ _ _ _ (fun  h C S hr => ?_) _ _ _ _ _ hr
                                        refine hj_iload hC 0 d_Mo_moves_591 rfl ?_
                                        exact hj_zret hC d_Mo_moves_593 hr
                                    · refine hj_icmp_ne hC 552 d_Mo_moves_521 (by decide) hr (fun q521 hr => ?_) (fun q521 hr => ?_)
                                      · refine hj_sub (lv' := [(0, vr_ o), (3, vi_ x3), (4, vi_ x4), (6, vi_ 1)]) [2, 5, 6, 0] rfl ?_
                                        exact hk552 _ _ _ hr
                                      · refine hj_aload_n hC 2 d_Mo_moves_524 rfl rfl ?_
                                        refine hj_getr hC cf_Mo (k := 13) (by decide) wq_407 rfl d_Mo_moves_525 hr (fun a3 hr => ?_)
                                        refine hj_iload hC 1 d_Mo_moves_528 rfl ?_
                                        refine hj_iald hC (kd := 16) rfl d_Mo_moves_530 hr (fun a4 hr => ?_)
                                        refine hj_if_le hC 552 d_Mo_moves_531 (by decide) hr (fun q531 hr => ?_) (fun q531 hr => ?_)
                                        · refine hj_sub (lv' := [(0, vr_ o), (3, vi_ x3), (4, vi_ x4), (6, vi_ 1)]) [2, 5, 6, 0] rfl ?_
                                          exact hk552 _ _ _ hr
                                        · refine hj_aload_n hC 2 d_Mo_moves_534 rfl rfl ?_
                                          refine hj_aload_n hC 2 d_Mo_moves_535 rfl rfl ?_
                                          refine hj_getr hC cf_Mo (k := 13) (by decide) wq_407 rfl d_Mo_moves_536 hr (fun a5 hr => ?_)
                                          refine hj_iload hC 1 d_Mo_moves_539 rfl ?_
                                          refine hj_iald hC (kd := 16) rfl d_Mo_moves_541 hr (fun a6 hr => ?_)
                                          refine hj_iconst hC (v := 1) d_Mo_moves_542 (by decide) ?_
                                          refine hj_isub hC d_Mo_moves_543 ?_
                                          refine hj_callV hC hG (enc := (fun a : Int32 => some (vi_ a))) (As := [vi_ (a6 - 1)]) (st := []) (fun h a C S h1 hr => m_Mo_takes _ _ h a C S h1 hr) cf_Mo wq_396 wq_397 wq_398 wq_389 wq_395 yk_Mo_takes rfl ⟨Nat.le_of_ble_eq_true rfl, Nat.le_of_ble_eq_true rfl⟩ rfl (Nat.le_of_ble_eq_true rfl) d_Mo_moves_544 hr (fun a7 h C S hr => ?_)
                                          refine hj_istore hC (lv' := [(6, vi_ a7), (5, vi_ ((12 * x1) + x2)), (0, vr_ o), (1, vi_ x1), (2, vi_ x2), (3, vi_ x3), (4, vi_ x4)]) d_Mo_moves_547 (by decide) rfl ?_
                                          refine hj_goto hC 591 d_Mo_moves_549 (by decide) ?_
                                          refine hj_iload hC 0 d_Mo_moves_591 rfl ?_
                                          exact hj_zret hC d_Mo_moves_593 hr
                                  · refine hj_aload_n hC 2 d_Mo_moves_500 rfl rfl ?_
                                    refine hj_iload hC 6 d_Mo_moves_501 rfl ?_
                                    refine hj_iconst hC (v := 4) d_Mo_moves_503 (by decide) ?_
                                    refine hj_irem hC d_Mo_moves_504 hr (fun _ hr => ?_)
                                    refine hj_callV hC hG (enc := (fun a : Int32 => some (vi_ a))) (As := [vi_ (x4 - x4 / 4 * 4)]) (st := []) (fun h a C S h1 hr => m_Mo_takesInts _ _ h a C S h1 hr) cf_Mo wq_404 wq_405 wq_406 wq_389 wq_399 yk_Mo_takesInts rfl ⟨Nat.le_of_ble_eq_true rfl, Nat.le_of_ble_eq_true rfl⟩ rfl (Nat.le_of_ble_eq_true rfl) d_Mo_moves_505 hr (fun a8 h C S hr => ?_)
                                    refine hj_istore hC (lv' := [(6, vi_ a8), (5, vi_ ((12 * x1) + x2)), (0, vr_ o), (1, vi_ x1), (2, vi_ x2), (3, vi_ x3), (4, vi_ x4)]) d_Mo_moves_508 (by decide) rfl ?_
                                    refine hj_aload_n hC 2 d_Mo_moves_510 rfl rfl ?_
                                    refine hj_iconst hC (v := 0) d_Mo_moves_511 (by decide) ?_
                                    refine hj_callV hC hG (enc := (fun _ : Unit => none)) (As := [vi_ 0]) (st := []) (fun h a C S h1 hr => m_Mo_puts _ _ h a C S h1 hr) cf_Mo wq_401 wq_402 wq_403 wq_389 wq_400 yk_Mo_puts rfl ⟨Nat.le_of_ble_eq_true rfl, Nat.le_of_ble_eq_true rfl⟩ rfl (Nat.le_of_ble_eq_true rfl) d_Mo_moves_512 hr (fun _ h C S hr => ?_)
                                    refine hj_goto hC 591 d_Mo_moves_515 (by decide) ?_
                                    refine hj_iload hC 0 d_Mo_moves_591 rfl ?_
                                    exact hj_zret hC d_Mo_moves_593 hr
                                · refine hj_bipush hC (v := 12) d_Mo_moves_410 (by decide) ?_
                                  refine hj_iload_n hC 3 d_Mo_moves_412 rfl rfl ?_
                                  refine hj_imul hC d_Mo_moves_413 ?_
                                  refine hj_iload hC 6 d_Mo_moves_414 rfl ?_
                                  refine hj_iadd hC d_Mo_moves_416 ?_
                                  refine hj_istore hC (lv' := [(7, vi_ ((12 * x1) + x4)), (6, vi_ 1), (5, vi_ ((12 * x1) + x2)), (0, vr_ o), (1, vi_ x1), (2, vi_ x2), (3, vi_ x3), (4, vi_ x4)]) d_Mo_moves_417 (by decide) rfl ?_
                                  refine hj_aload_n hC 3 d_Mo_moves_419 rfl rfl ?_
                                  refine hj_getr hC cf_Mo (k := 10) (by decide) wq_408 rfl d_Mo_moves_420 hr (fun a9 hr => ?_)
                                  refine hj_iload hC 0 d_Mo_moves_423 rfl ?_
                                  refine hj_iald hC (kd := 13) rfl d_Mo_moves_425 hr (fun a10 hr => ?_)
                                  refine hj_iconst hC (v := 1) d_Mo_moves_426 (by decide) ?_
                                  refine hj_isub hC d_Mo_moves_427 ?_
                                  refine hj_istore hC (lv' := [(8, vi_ (a10 - 1)), (7, vi_ ((12 * x1) + x4)), (6, vi_ 1), (5, vi_ ((12 * x1) + x2)), (0, vr_ o), (1, vi_ x1), (2, vi_ x2), (3, vi_ x3), (4, vi_ x4)]) d_Mo_moves_428 (by decide) rfl ?_
                                  refine hj_sub (lv' := [(0, vr_ o), (6, vi_ 1), (7, vi_ ((12 * x1) + x4)), (8, vi_ (a10 - 1))]) [4, 2, 1, 0] rfl ?_
                                  refine ml_Mo_moves_430 hC _ _ _ (fun v6_14 h C S hr => ?_) _ _ _ _ _ _ hr
                                  refine hj_aload_n hC 0 d_Mo_moves_468 rfl rfl ?_
                                  refine hj_getr hC cf_Mo (k := 13) (by decide) wq_407 rfl d_Mo_moves_469 hr (fun a15 hr => ?_)
                                  refine hj_iload hC 2 d_Mo_moves_472 rfl ?_
                                  refine hj_iald hC (kd := 16) rfl d_Mo_moves_474 hr (fun a16 hr => ?_)
                                  refine hj_if_le hC 491 d_Mo_moves_475 (by decide) hr (fun q475 hr => ?_) (fun q475 hr => ?_)
                                  · refine hj_goto hC 591 d_Mo_moves_491 (by decide) ?_
                                    refine hj_iload hC 1 d_Mo_moves_591 rfl ?_
                                    exact hj_zret hC d_Mo_moves_593 hr
                                  · refine hj_aload_n hC 0 d_Mo_moves_478 rfl rfl ?_
                                    refine hj_aload_n hC 0 d_Mo_moves_479 rfl rfl ?_
                                    refine hj_getr hC cf_Mo (k := 13) (by decide) wq_407 rfl d_Mo_moves_480 hr (fun a17 hr => ?_)
                                    refine hj_iload hC 2 d_Mo_moves_483 rfl ?_
                                    refine hj_iald hC (kd := 16) rfl d_Mo_moves_485 hr (fun a18 hr => ?_)
                                    refine hj_iconst hC (v := 1) d_Mo_moves_486 (by decide) ?_
                                    refine hj_isub hC d_Mo_moves_487 ?_
                                    refine hj_callV hC hG (enc := (fun _ : Unit => none)) (As := [vi_ (a18 - 1)]) (st := []) (fun h a C S h1 hr => m_Mo_puts _ _ h a C S h1 hr) cf_Mo wq_401 wq_402 wq_403 wq_389 wq_400 yk_Mo_puts rfl ⟨Nat.le_of_ble_eq_true rfl, Nat.le_of_ble_eq_true rfl⟩ rfl (Nat.le_of_ble_eq_true rfl) d_Mo_moves_488 hr (fun _ h C S hr => ?_)
                                    refine hj_goto hC 591 d_Mo_moves_491 (by decide) ?_
                                    refine hj_iload hC 1 d_Mo_moves_591 rfl ?_
                                    exact hj_zret hC d_Mo_moves_593 hr
                              · refine hj_aload_n hC 2 d_Mo_moves_389 rfl rfl ?_
                                refine hj_iconst hC (v := 1) d_Mo_moves_390 (by decide) ?_
                                refine hj_callV hC hG (enc := (fun a : Int32 => some (vi_ a))) (As := [vi_ 1]) (st := []) (fun h a C S h1 hr => m_Mo_takes _ _ h a C S h1 hr) cf_Mo wq_396 wq_397 wq_398 wq_389 wq_395 yk_Mo_takes rfl ⟨Nat.le_of_ble_eq_true rfl, Nat.le_of_ble_eq_true rfl⟩ rfl (Nat.le_of_ble_eq_true rfl) d_Mo_moves_391 hr (fun a19 h C S hr => ?_)
                                refine hj_istore hC (lv' := [(6, vi_ a19), (5, vi_ ((12 * x1) + x2)), (0, vr_ o), (1, vi_ x1), (2, vi_ x2), (3, vi_ x3), (4, vi_ x4)]) d_Mo_moves_394 (by decide) rfl ?_
                                refine hj_aload_n hC 2 d_Mo_moves_396 rfl rfl ?_
                                refine hj_iconst hC (v := 0) d_Mo_moves_397 (by decide) ?_
                                refine hj_callV hC hG (enc := (fun _ : Unit => none)) (As := [vi_ 0]) (st := []) (fun h a C S h1 hr => m_Mo_puts _ _ h a C S h1 hr) cf_Mo wq_401 wq_402 wq_403 wq_389 wq_400 yk_Mo_puts rfl ⟨Nat.le_of_ble_eq_true rfl, Nat.le_of_ble_eq_true rfl⟩ rfl (Nat.le_of_ble_eq_true rfl) d_Mo_moves_398 hr (fun _ h C S hr => ?_)
                                refine hj_goto hC 591 d_Mo_moves_401 (by decide) ?_
                                refine hj_iload hC 0 d_Mo_moves_591 rfl ?_
                                exact hj_zret hC d_Mo_moves_593 hr
                            · refine hj_aload_n hC 2 d_Mo_moves_357 rfl rfl ?_
                              refine hj_iconst hC (v := 2) d_Mo_moves_358 (by decide) ?_
                              refine hj_callV hC hG (enc := (fun a : Int32 => some (vi_ a))) (As := [vi_ 2]) (st := []) (fun h a C S h1 hr => m_Mo_takesInts _ _ h a C S h1 hr) cf_Mo wq_404 wq_405 wq_406 wq_389 wq_399 yk_Mo_takesInts rfl ⟨Nat.le_of_ble_eq_true rfl, Nat.le_of_ble_eq_true rfl⟩ rfl (Nat.le_of_ble_eq_true rfl) d_Mo_moves_359 hr (fun a20 h C S hr => ?_)
                              refine hj_jn hC (K := Int32 → hM Int32) (fun k => ∀ (z21 : Int32) (h : hc_H) (C S : Nat), k z21 h = some (b, C, S, h2) → hj_J p l e { frames := 2, cells := C0, slots := S0, locals := 45 } s m args below meth c (gg D dA) h0 9 (hj_Q below args s { frames := 2, cells := C0, slots := S0, locals := 45 } (gg D dA) h0 (some (vi_ b)) h2) C S h 378 [] [vi_ z21]) hr (fun z21 h C S hr => ?_) (fun k378 hk378 hr => ?_)
                              · refine hj_istore hC (lv' := [(6, vi_ z21)]) d_Mo_moves_378 (by decide) rfl ?_
                                refine hj_goto hC 591 d_Mo_moves_380 (by decide) ?_
                                refine hj_iload hC 0 d_Mo_moves_591 rfl ?_
                                exact hj_zret hC d_Mo_moves_593 hr
                              · refine hj_jn hC (K := hM Int32) (fun k => ∀  (h : hc_H) (C S : Nat), k  h = some (b, C, S, h2) → hj_J p l e { frames := 2, cells := C0, slots := S0, locals := 45 } s m args below meth c (gg D dA) h0 9 (hj_Q below args s { frames := 2, cells := C0, slots := S0, locals := 45 } (gg D dA) h0 (some (vi_ b)) h2) C S h 377 [] []) hr (fun  h C S hr => ?_) (fun k377 hk377 hr => ?_)
                                · refine hj_iconst hC (v := 0) d_Mo_moves_377 (by decide) ?_
                                  exact hk378 _ _ _ _ hr
                                · refine hj_if_eq hC 377 d_Mo_moves_362 (by decide) hr (fun q362 hr => ?_) (fun q362 hr => ?_)
                                  · refine hj_sub (lv' := []) [] rfl ?_
                                    exact hk377 _ _ _ hr
                                  · refine hj_aload_n hC 2 d_Mo_moves_365 rfl rfl ?_
                                    refine hj_iconst hC (v := 1) d_Mo_moves_366 (by decide) ?_
                                    refine hj_callV hC hG (enc := (fun a : Int32 => some (vi_ a))) (As := [vi_ 1]) (st := []) (fun h a C S h1 hr => m_Mo_takes _ _ h a C S h1 hr) cf_Mo wq_396 wq_397 wq_398 wq_389 wq_395 yk_Mo_takes rfl ⟨Nat.le_of_ble_eq_true rfl, Nat.le_of_ble_eq_true rfl⟩ rfl (Nat.le_of_ble_eq_true rfl) d_Mo_moves_367 hr (fun a22 h C S hr => ?_)
                                    refine hj_if_eq hC 377 d_Mo_moves_370 (by decide) hr (fun q370 hr => ?_) (fun q370 hr => ?_)
                                    · refine hj_sub (lv' := []) [] rfl ?_
                                      exact hk377 _ _ _ hr
                                    · refine hj_iconst hC (v := 1) d_Mo_moves_373 (by decide) ?_
                                      refine hj_goto hC 378 d_Mo_moves_374 (by decide) ?_
                                      refine hj_sub (lv' := []) [] rfl ?_
                                      exact hk378 _ _ _ _ hr
                          · refine hj_aload_n hC 2 d_Mo_moves_320 rfl rfl ?_
                            refine hj_iconst hC (v := 0) d_Mo_moves_321 (by decide) ?_
                            refine hj_callV hC hG (enc := (fun a : Int32 => some (vi_ a))) (As := [vi_ 0]) (st := []) (fun h a C S h1 hr => m_Mo_takes _ _ h a C S h1 hr) cf_Mo wq_396 wq_397 wq_398 wq_389 wq_395 yk_Mo_takes rfl ⟨Nat.le_of_ble_eq_true rfl, Nat.le_of_ble_eq_true rfl⟩ rfl (Nat.le_of_ble_eq_true rfl) d_Mo_moves_322 hr (fun a23 h C S hr => ?_)
                            refine hj_jn hC (K := Int32 → hM Int32) (fun k => ∀ (z24 : Int32) (h : hc_H) (C S : Nat), k z24 h = some (b, C, S, h2) → hj_J p l e { frames := 2, cells := C0, slots := S0, locals := 45 } s m args below meth c (gg D dA) h0 9 (hj_Q below args s { frames := 2, cells := C0, slots := S0, locals := 45 } (gg D dA) h0 (some (vi_ b)) h2) C S h 341 [(0, vr_ o)] [vi_ z24]) hr (fun z24 h C S hr => ?_) (fun k341 hk341 hr => ?_)
                            · refine hj_istore hC (lv' := [(6, vi_ z24), (0, vr_ o)]) d_Mo_moves_341 (by decide) rfl ?_
                              refine hj_aload_n hC 1 d_Mo_moves_343 rfl rfl ?_
                              refine hj_iconst hC (v := 0) d_Mo_moves_344 (by decide) ?_
                              refine hj_callV hC hG (enc := (fun _ : Unit => none)) (As := [vi_ 0]) (st := []) (fun h a C S h1 hr => m_Mo_puts _ _ h a C S h1 hr) cf_Mo wq_401 wq_402 wq_403 wq_389 wq_400 yk_Mo_puts rfl ⟨Nat.le_of_ble_eq_true rfl, Nat.le_of_ble_eq_true rfl⟩ rfl (Nat.le_of_ble_eq_true rfl) d_Mo_moves_345 hr (fun _ h C S hr => ?_)
                              refine hj_goto hC 591 d_Mo_moves_348 (by decide) ?_
                              refine hj_iload hC 0 d_Mo_moves_591 rfl ?_
                              exact hj_zret hC d_Mo_moves_593 hr
                            · refine hj_jn hC (K := hM Int32) (fun k => ∀  (h : hc_H) (C S : Nat), k  h = some (b, C, S, h2) → hj_J p l e { frames := 2, cells := C0, slots := S0, locals := 45 } s m args below meth c (gg D dA) h0 9 (hj_Q below args s { frames := 2, cells := C0, slots := S0, locals := 45 } (gg D dA) h0 (some (vi_ b)) h2) C S h 340 [(0, vr_ o)] []) hr (fun  h C S hr => ?_) (fun k340 hk340 hr => ?_)
                              · refine hj_iconst hC (v := 0) d_Mo_moves_340 (by decide) ?_
                                exact hk341 _ _ _ _ hr
                              · refine hj_if_eq hC 340 d_Mo_moves_325 (by decide) hr (fun q325 hr => ?_) (fun q325 hr => ?_)
                                · refine hj_sub (lv' := [(0, vr_ o)]) [2] rfl ?_
                                  exact hk340 _ _ _ hr
                                · refine hj_aload_n hC 2 d_Mo_moves_328 rfl rfl ?_
                                  refine hj_iconst hC (v := 1) d_Mo_moves_329 (by decide) ?_
                                  refine hj_callV hC hG (enc := (fun a : Int32 => some (vi_ a))) (As := [vi_ 1]) (st := []) (fun h a C S h1 hr => m_Mo_takes _ _ h a C S h1 hr) cf_Mo wq_396 wq_397 wq_398 wq_389 wq_395 yk_Mo_takes rfl ⟨Nat.le_of_ble_eq_true rfl, Nat.le_of_ble_eq_true rfl⟩ rfl (Nat.le_of_ble_eq_true rfl) d_Mo_moves_330 hr (fun a25 h C S hr => ?_)
                                  refine hj_if_eq hC 340 d_Mo_moves_333 (by decide) hr (fun q333 hr => ?_) (fun q333 hr => ?_)
                                  · refine hj_sub (lv' := [(0, vr_ o)]) [2] rfl ?_
                                    exact hk340 _ _ _ hr
                                  · refine hj_iconst hC (v := 1) d_Mo_moves_336 (by decide) ?_
                                    refine hj_goto hC 341 d_Mo_moves_337 (by decide) ?_
                                    refine hj_sub (lv' := [(0, vr_ o)]) [2] rfl ?_
                                    exact hk341 _ _ _ _ hr
                        · refine hj_aload_n hC 2 d_Mo_moves_299 rfl rfl ?_
                          refine hj_iconst hC (v := 0) d_Mo_moves_300 (by decide) ?_
                          refine hj_callV hC hG (enc := (fun a : Int32 => some (vi_ a))) (As := [vi_ 0]) (st := []) (fun h a C S h1 hr => m_Mo_takes _ _ h a C S h1 hr) cf_Mo wq_396 wq_397 wq_398 wq_389 wq_395 yk_Mo_takes rfl ⟨Nat.le_of_ble_eq_true rfl, Nat.le_of_ble_eq_true rfl⟩ rfl (Nat.le_of_ble_eq_true rfl) d_Mo_moves_301 hr (fun a26 h C S hr => ?_)
                          refine hj_istore hC (lv' := [(6, vi_ a26), (5, vi_ ((12 * x1) + x2)), (0, vr_ o), (1, vi_ x1), (2, vi_ x2), (3, vi_ x3), (4, vi_ x4)]) d_Mo_moves_304 (by decide) rfl ?_
                          refine hj_aload_n hC 2 d_Mo_moves_306 rfl rfl ?_
                          refine hj_iconst hC (v := 1) d_Mo_moves_307 (by decide) ?_
                          refine hj_callV hC hG (enc := (fun _ : Unit => none)) (As := [vi_ 1]) (st := []) (fun h a C S h1 hr => m_Mo_puts _ _ h a C S h1 hr) cf_Mo wq_401 wq_402 wq_403 wq_389 wq_400 yk_Mo_puts rfl ⟨Nat.le_of_ble_eq_true rfl, Nat.le_of_ble_eq_true rfl⟩ rfl (Nat.le_of_ble_eq_true rfl) d_Mo_moves_308 hr (fun _ h C S hr => ?_)
                          refine hj_goto hC 591 d_Mo_moves_311 (by decide) ?_
                          refine hj_iload hC 0 d_Mo_moves_591 rfl ?_
                          exact hj_zret hC d_Mo_moves_593 hr
                      · refine hj_sub (lv' := [(0, vr_ o)]) [2] rfl ?_
                        exact hk283 _ _ _ hr
              · refine hj_aload_n hC 2 d_Mo_moves_250 rfl rfl ?_
                refine hj_iconst hC (v := 2) d_Mo_moves_251 (by decide) ?_
                refine hj_callV hC hG (enc := (fun a : Int32 => some (vi_ a))) (As := [vi_ 2]) (st := []) (fun h a C S h1 hr => m_Mo_takesInts _ _ h a C S h1 hr) cf_Mo wq_404 wq_405 wq_406 wq_389 wq_399 yk_Mo_takesInts rfl ⟨Nat.le_of_ble_eq_true rfl, Nat.le_of_ble_eq_true rfl⟩ rfl (Nat.le_of_ble_eq_true rfl) d_Mo_moves_252 hr (fun a27 h C S hr => ?_)
                refine hj_istore hC (lv' := [(6, vi_ a27), (5, vi_ ((12 * x1) + x2)), (0, vr_ o), (1, vi_ x1), (2, vi_ x2), (3, vi_ x3), (4, vi_ x4)]) d_Mo_moves_255 (by decide) rfl ?_
                refine hj_aload_n hC 2 d_Mo_moves_257 rfl rfl ?_
                refine hj_iconst hC (v := 0) d_Mo_moves_258 (by decide) ?_
                refine hj_callV hC hG (enc := (fun _ : Unit => none)) (As := [vi_ 0]) (st := []) (fun h a C S h1 hr => m_Mo_puts _ _ h a C S h1 hr) cf_Mo wq_401 wq_402 wq_403 wq_389 wq_400 yk_Mo_puts rfl ⟨Nat.le_of_ble_eq_true rfl, Nat.le_of_ble_eq_true rfl⟩ rfl (Nat.le_of_ble_eq_true rfl) d_Mo_moves_259 hr (fun _ h C S hr => ?_)
                refine hj_goto hC 591 d_Mo_moves_262 (by decide) ?_
                refine hj_iload hC 0 d_Mo_moves_591 rfl ?_
                exact hj_zret hC d_Mo_moves_593 hr
            · refine hj_aload_n hC 2 d_Mo_moves_227 rfl rfl ?_
              refine hj_aload_n hC 2 d_Mo_moves_228 rfl rfl ?_
              refine hj_iload hC 1 d_Mo_moves_229 rfl ?_
              refine hj_iload hC 6 d_Mo_moves_231 rfl ?_
              refine hj_callV hC hG (enc := (fun a : Int32 => some (vi_ a))) (As := [vi_ ((12 * x1) + x2), vi_ x4]) (st := [vr_ o]) (fun h a C S h1 hr => m_Mo_isRow _ _ _ h a C S h1 hr) cf_Mo wq_410 wq_411 wq_412 wq_389 wq_409 yk_Mo_isRow rfl ⟨Nat.le_of_ble_eq_true rfl, Nat.le_of_ble_eq_true rfl⟩ rfl (Nat.le_of_ble_eq_true rfl) d_Mo_moves_233 hr (fun a28 h C S hr => ?_)
              refine hj_callV hC hG (enc := (fun a : Int32 => some (vi_ a))) (As := [vi_ a28]) (st := []) (fun h a C S h1 hr => m_Mo_takes _ _ h a C S h1 hr) cf_Mo wq_396 wq_397 wq_398 wq_389 wq_395 yk_Mo_takes rfl ⟨Nat.le_of_ble_eq_true rfl, Nat.le_of_ble_eq_true rfl⟩ rfl (Nat.le_of_ble_eq_true rfl) d_Mo_moves_236 hr (fun a29 h C S hr => ?_)
              refine hj_istore hC (lv' := [(6, vi_ a29), (5, vi_ ((12 * x1) + x2)), (0, vr_ o), (1, vi_ x1), (2, vi_ x2), (3, vi_ x3), (4, vi_ x4)]) d_Mo_moves_239 (by decide) rfl ?_
              refine hj_goto hC 591 d_Mo_moves_241 (by decide) ?_
              refine hj_iload hC 0 d_Mo_moves_591 rfl ?_
              exact hj_zret hC d_Mo_moves_593 hr
          · refine hj_aload_n hC 2 d_Mo_moves_207 rfl rfl ?_
            refine hj_aload_n hC 2 d_Mo_moves_208 rfl rfl ?_
            refine hj_iload hC 1 d_Mo_moves_209 rfl ?_
            refine hj_iload hC 6 d_Mo_moves_211 rfl ?_
            refine hj_callV hC hG (enc := (fun a : Int32 => some (vi_ a))) (As := [vi_ ((12 * x1) + x2), vi_ x4]) (st := [vr_ o]) (fun h a C S h1 hr => m_Mo_isRow _ _ _ h a C S h1 hr) cf_Mo wq_410 wq_411 wq_412 wq_389 wq_409 yk_Mo_isRow rfl ⟨Nat.le_of_ble_eq_true rfl, Nat.le_of_ble_eq_true rfl⟩ rfl (Nat.le_of_ble_eq_true rfl) d_Mo_moves_213 hr (fun a30 h C S hr => ?_)
            refine hj_callV hC hG (enc := (fun _ : Unit => none)) (As := [vi_ a30]) (st := []) (fun h a C S h1 hr => m_Mo_puts _ _ h a C S h1 hr) cf_Mo wq_401 wq_402 wq_403 wq_389 wq_400 yk_Mo_puts rfl ⟨Nat.le_of_ble_eq_true rfl, Nat.le_of_ble_eq_true rfl⟩ rfl (Nat.le_of_ble_eq_true rfl) d_Mo_moves_216 hr (fun _ h C S hr => ?_)
            refine hj_goto hC 591 d_Mo_moves_219 (by decide) ?_
            refine hj_iload hC 0 d_Mo_moves_591 rfl ?_
            exact hj_zret hC d_Mo_moves_593 hr
        · refine hj_aload_n hC 2 d_Mo_moves_91 rfl rfl ?_
          refine hj_geti hC cf_Mo (k := 27) (by decide) wq_393 rfl d_Mo_moves_92 hr (fun a31 hr => ?_)
          refine hj_iconst hC (v := 1) d_Mo_moves_95 (by decide) ?_
          refine hj_jn hC (K := Int32 → hM Int32) (fun k => ∀ (z32 : Int32) (h : hc_H) (C S : Nat), k z32 h = some (b, C, S, h2) → hj_J p l e { frames := 2, cells := C0, slots := S0, locals := 45 } s m args below meth c (gg D dA) h0 9 (hj_Q below args s { frames := 2, cells := C0, slots := S0, locals := 45 } (gg D dA) h0 (some (vi_ b)) h2) C S h 104 [(0, vr_ o)] [vi_ z32]) hr (fun z32 h C S hr => ?_) (fun k104 hk104 hr => ?_)
          · refine hj_istore hC (lv' := [(6, vi_ z32), (0, vr_ o)]) d_Mo_moves_104 (by decide) rfl ?_
            refine hj_iload hC 0 d_Mo_moves_106 rfl ?_
            refine hj_jn hC (K := Int32 → hM Int32) (fun k => ∀ (z33 : Int32) (h : hc_H) (C S : Nat), k z33 h = some (b, C, S, h2) → hj_J p l e { frames := 2, cells := C0, slots := S0, locals := 45 } s m args below meth c (gg D dA) h0 9 (hj_Q below args s { frames := 2, cells := C0, slots := S0, locals := 45 } (gg D dA) h0 (some (vi_ b)) h2) C S h 128 [(0, vr_ o), (6, vi_ z32)] [vi_ z33]) hr (fun z33 h C S hr => ?_) (fun k128 hk128 hr => ?_)
            · refine hj_istore hC (lv' := [(7, vi_ z33), (0, vr_ o), (6, vi_ z32)]) d_Mo_moves_128 (by decide) rfl ?_
              refine hj_iload hC 2 d_Mo_moves_130 rfl ?_
              refine hj_jn hC (K := Int32 → hM Int32) (fun k => ∀ (z34 : Int32) (h : hc_H) (C S : Nat), k z34 h = some (b, C, S, h2) → hj_J p l e { frames := 2, cells := C0, slots := S0, locals := 45 } s m args below meth c (gg D dA) h0 9 (hj_Q below args s { frames := 2, cells := C0, slots := S0, locals := 45 } (gg D dA) h0 (some (vi_ b)) h2) C S h 152 [(0, vr_ o), (6, vi_ z32), (7, vi_ z33)] [vi_ z34]) hr (fun z34 h C S hr => ?_) (fun k152 hk152 hr => ?_)
              · refine hj_istore hC (lv' := [(8, vi_ z34), (0, vr_ o), (6, vi_ z32), (7, vi_ z33)]) d_Mo_moves_152 (by decide) rfl ?_
                refine hj_iload hC 2 d_Mo_moves_154 rfl ?_
                refine hj_jn hC (K := Int32 → hM Int32) (fun k => ∀ (z35 : Int32) (h : hc_H) (C S : Nat), k z35 h = some (b, C, S, h2) → hj_J p l e { frames := 2, cells := C0, slots := S0, locals := 45 } s m args below meth c (gg D dA) h0 9 (hj_Q below args s { frames := 2, cells := C0, slots := S0, locals := 45 } (gg D dA) h0 (some (vi_ b)) h2) C S h 180 [(0, vr_ o), (7, vi_ z33), (8, vi_ z34)] [vi_ z35]) hr (fun z35 h C S hr => ?_) (fun k180 hk180 hr => ?_)
                · refine hj_istore hC (lv' := [(6, vi_ z35), (0, vr_ o), (7, vi_ z33), (8, vi_ z34)]) d_Mo_moves_180 (by decide) rfl ?_
                  refine hj_iload hC 0 d_Mo_moves_182 rfl ?_
                  refine hj_if_eq hC 199 d_Mo_moves_184 (by decide) hr (fun q184 hr => ?_) (fun q184 hr => ?_)
                  · refine hj_goto hC 591 d_Mo_moves_199 (by decide) ?_
                    refine hj_iload hC 0 d_Mo_moves_591 rfl ?_
                    exact hj_zret hC d_Mo_moves_593 hr
                  · refine hj_aload_n hC 1 d_Mo_moves_187 rfl rfl ?_
                    refine hj_iload hC 2 d_Mo_moves_188 rfl ?_
                    refine hj_callV hC hG (enc := (fun _ : Unit => none)) (As := [vi_ z33]) (st := []) (fun h a C S h1 hr => m_Mo_puts _ _ h a C S h1 hr) cf_Mo wq_401 wq_402 wq_403 wq_389 wq_400 yk_Mo_puts rfl ⟨Nat.le_of_ble_eq_true rfl, Nat.le_of_ble_eq_true rfl⟩ rfl (Nat.le_of_ble_eq_true rfl) d_Mo_moves_190 hr (fun _ h C S hr => ?_)
                    refine hj_aload_n hC 1 d_Mo_moves_193 rfl rfl ?_
                    refine hj_iload hC 3 d_Mo_moves_194 rfl ?_
                    refine hj_callV hC hG (enc := (fun _ : Unit => none)) (As := [vi_ z34]) (st := []) (fun h a C S h1 hr => m_Mo_puts _ _ h a C S h1 hr) cf_Mo wq_401 wq_402 wq_403 wq_389 wq_400 yk_Mo_puts rfl ⟨Nat.le_of_ble_eq_true rfl, Nat.le_of_ble_eq_true rfl⟩ rfl (Nat.le_of_ble_eq_true rfl) d_Mo_moves_196 hr (fun _ h C S hr => ?_)
                    refine hj_goto hC 591 d_Mo_moves_199 (by decide) ?_
                    refine hj_iload hC 0 d_Mo_moves_591 rfl ?_
                    exact hj_zret hC d_Mo_moves_593 hr
                · refine hj_jn hC (K := hM Int32) (fun k => ∀  (h : hc_H) (C S : Nat), k  h = some (b, C, S, h2) → hj_J p l e { frames := 2, cells := C0, slots := S0, locals := 45 } s m args below meth c (gg D dA) h0 9 (hj_Q below args s { frames := 2, cells := C0, slots := S0, locals := 45 } (gg D dA) h0 (some (vi_ b)) h2) C S h 179 [(0, vr_ o), (7, vi_ z33), (8, vi_ z34)] []) hr (fun  h C S hr => ?_) (fun k179 hk179 hr => ?_)
                  · refine hj_iconst hC (v := 0) d_Mo_moves_179 (by decide) ?_
                    exact hk180 _ _ _ _ hr
                  · refine hj_if_eq hC 179 d_Mo_moves_156 (by decide) hr (fun q156 hr => ?_) (fun q156 hr => ?_)
                    · refine hj_sub (lv' := [(0, vr_ o), (7, vi_ z33), (8, vi_ z34)]) [1, 3, 0] rfl ?_
                      exact hk179 _ _ _ hr
                    · refine hj_aload_n hC 1 d_Mo_moves_159 rfl rfl ?_
                      refine hj_iconst hC (v := 2) d_Mo_moves_160 (by decide) ?_
                      refine hj_callV hC hG (enc := (fun a : Int32 => some (vi_ a))) (As := [vi_ 2]) (st := []) (fun h a C S h1 hr => m_Mo_takes _ _ h a C S h1 hr) cf_Mo wq_396 wq_397 wq_398 wq_389 wq_395 yk_Mo_takes rfl ⟨Nat.le_of_ble_eq_true rfl, Nat.le_of_ble_eq_true rfl⟩ rfl (Nat.le_of_ble_eq_true rfl) d_Mo_moves_161 hr (fun a36 h C S hr => ?_)
                      refine hj_if_eq hC 179 d_Mo_moves_164 (by decide) hr (fun q164 hr => ?_) (fun q164 hr => ?_)
                      · refine hj_sub (lv' := [(0, vr_ o), (7, vi_ z33), (8, vi_ z34)]) [1, 3, 0] rfl ?_
                        exact hk179 _ _ _ hr
                      · refine hj_aload_n hC 1 d_Mo_moves_167 rfl rfl ?_
                        refine hj_iconst hC (v := 2) d_Mo_moves_168 (by decide) ?_
                        refine hj_callV hC hG (enc := (fun a : Int32 => some (vi_ a))) (As := [vi_ 2]) (st := []) (fun h a C S h1 hr => m_Mo_takes _ _ h a C S h1 hr) cf_Mo wq_396 wq_397 wq_398 wq_389 wq_395 yk_Mo_takes rfl ⟨Nat.le_of_ble_eq_true rfl, Nat.le_of_ble_eq_true rfl⟩ rfl (Nat.le_of_ble_eq_true rfl) d_Mo_moves_169 hr (fun a37 h C S hr => ?_)
                        refine hj_if_eq hC 179 d_Mo_moves_172 (by decide) hr (fun q172 hr => ?_) (fun q172 hr => ?_)
                        · refine hj_sub (lv' := [(0, vr_ o), (7, vi_ z33), (8, vi_ z34)]) [1, 3, 0] rfl ?_
                          exact hk179 _ _ _ hr
                        · refine hj_iconst hC (v := 1) d_Mo_moves_175 (by decide) ?_
                          refine hj_goto hC 180 d_Mo_moves_176 (by decide) ?_
                          refine hj_sub (lv' := [(0, vr_ o), (7, vi_ z33), (8, vi_ z34)]) [1, 3, 0] rfl ?_
                          exact hk180 _ _ _ _ hr
              · refine hj_if_eq hC 151 d_Mo_moves_132 (by decide) hr (fun q132 hr => ?_) (fun q132 hr => ?_)
                · refine hj_iconst hC (v := 0) d_Mo_moves_151 (by decide) ?_
                  refine hj_sub (lv' := [(0, vr_ o), (6, vi_ z32), (7, vi_ z33)]) [1, 2, 0] rfl ?_
                  exact hk152 _ _ _ _ hr
                · refine hj_aload_n hC 1 d_Mo_moves_135 rfl rfl ?_
                  refine hj_geti hC cf_Mo (k := 28) (by decide) wq_392 rfl d_Mo_moves_136 hr (fun a38 hr => ?_)
                  refine hj_aload_n hC 1 d_Mo_moves_139 rfl rfl ?_
                  refine hj_geti hC cf_Mo (k := 27) (by decide) wq_393 rfl d_Mo_moves_140 hr (fun a39 hr => ?_)
                  refine hj_iconst hC (v := 2) d_Mo_moves_143 (by decide) ?_
                  refine hj_isub hC d_Mo_moves_144 ?_
                  refine hj_ishr hC d_Mo_moves_145 ?_
                  refine hj_iconst hC (v := 1) d_Mo_moves_146 (by decide) ?_
                  refine hj_iand hC d_Mo_moves_147 ?_
                  refine hj_goto hC 152 d_Mo_moves_148 (by decide) ?_
                  refine hj_sub (lv' := [(0, vr_ o), (6, vi_ z32), (7, vi_ z33)]) [1, 2, 0] rfl ?_
                  exact hk152 _ _ _ _ hr
            · refine hj_if_eq hC 127 d_Mo_moves_108 (by decide) hr (fun q108 hr => ?_) (fun q108 hr => ?_)
              · refine hj_iconst hC (v := 0) d_Mo_moves_127 (by decide) ?_
                refine hj_sub (lv' := [(0, vr_ o), (6, vi_ z32)]) [1, 0] rfl ?_
                exact hk128 _ _ _ _ hr
              · refine hj_aload_n hC 1 d_Mo_moves_111 rfl rfl ?_
                refine hj_geti hC cf_Mo (k := 28) (by decide) wq_392 rfl d_Mo_moves_112 hr (fun a40 hr => ?_)
                refine hj_aload_n hC 1 d_Mo_moves_115 rfl rfl ?_
                refine hj_geti hC cf_Mo (k := 27) (by decide) wq_393 rfl d_Mo_moves_116 hr (fun a41 hr => ?_)
                refine hj_iconst hC (v := 1) d_Mo_moves_119 (by decide) ?_
                refine hj_isub hC d_Mo_moves_120 ?_
                refine hj_ishr hC d_Mo_moves_121 ?_
                refine hj_iconst hC (v := 1) d_Mo_moves_122 (by decide) ?_
                refine hj_iand hC d_Mo_moves_123 ?_
                refine hj_goto hC 128 d_Mo_moves_124 (by decide) ?_
                refine hj_sub (lv' := [(0, vr_ o), (6, vi_ z32)]) [1, 0] rfl ?_
                exact hk128 _ _ _ _ hr
          · refine hj_icmp_le hC 103 d_Mo_moves_96 (by decide) hr (fun q96 hr => ?_) (fun q96 hr => ?_)
            · refine hj_iconst hC (v := 0) d_Mo_moves_103 (by decide) ?_
              refine hj_sub (lv' := [(0, vr_ o)]) [2] rfl ?_
              exact hk104 _ _ _ _ hr
            · refine hj_iconst hC (v := 1) d_Mo_moves_99 (by decide) ?_
              refine hj_goto hC 104 d_Mo_moves_100 (by decide) ?_
              refine hj_sub (lv' := [(0, vr_ o)]) [2] rfl ?_
              exact hk104 _ _ _ _ hr
      · refine hj_aload_n hC 2 d_Mo_moves_43 rfl rfl ?_
        refine hj_geti hC cf_Mo (k := 27) (by decide) wq_393 rfl d_Mo_moves_44 hr (fun a42 hr => ?_)
        refine hj_jn hC (K := Int32 → hM Int32) (fun k => ∀ (z43 : Int32) (h : hc_H) (C S : Nat), k z43 h = some (b, C, S, h2) → hj_J p l e { frames := 2, cells := C0, slots := S0, locals := 45 } s m args below meth c (gg D dA) h0 9 (hj_Q below args s { frames := 2, cells := C0, slots := S0, locals := 45 } (gg D dA) h0 (some (vi_ b)) h2) C S h 55 [(0, vr_ o)] [vi_ z43]) hr (fun z43 h C S hr => ?_) (fun k55 hk55 hr => ?_)
        · refine hj_istore hC (lv' := [(6, vi_ z43), (0, vr_ o)]) d_Mo_moves_55 (by decide) rfl ?_
          refine hj_aload_n hC 1 d_Mo_moves_57 rfl rfl ?_
          refine hj_iload hC 0 d_Mo_moves_58 rfl ?_
          refine hj_jn hC (K := Int32 → hM Int32) (fun k => ∀ (z44 : Int32) (h : hc_H) (C S : Nat), k z44 h = some (b, C, S, h2) → hj_J p l e { frames := 2, cells := C0, slots := S0, locals := 45 } s m args below meth c (gg D dA) h0 9 (hj_Q below args s { frames := 2, cells := C0, slots := S0, locals := 45 } (gg D dA) h0 (some (vi_ b)) h2) C S h 80 [(6, vi_ z43)] [vi_ z44, vr_ o]) hr (fun z44 h C S hr => ?_) (fun k80 hk80 hr => ?_)
          · refine hj_callV hC hG (enc := (fun _ : Unit => none)) (As := [vi_ z44]) (st := []) (fun h a C S h1 hr => m_Mo_puts _ _ h a C S h1 hr) cf_Mo wq_401 wq_402 wq_403 wq_389 wq_400 yk_Mo_puts rfl ⟨Nat.le_of_ble_eq_true rfl, Nat.le_of_ble_eq_true rfl⟩ rfl (Nat.le_of_ble_eq_true rfl) d_Mo_moves_80 hr (fun _ h C S hr => ?_)
            refine hj_goto hC 591 d_Mo_moves_83 (by decide) ?_
            refine hj_iload hC 0 d_Mo_moves_591 rfl ?_
            exact hj_zret hC d_Mo_moves_593 hr
          · refine hj_if_eq hC 79 d_Mo_moves_60 (by decide) hr (fun q60 hr => ?_) (fun q60 hr => ?_)
            · refine hj_iconst hC (v := 0) d_Mo_moves_79 (by decide) ?_
              refine hj_sub (lv' := [(6, vi_ z43)]) [0] rfl ?_
              exact hk80 _ _ _ _ hr
            · refine hj_aload_n hC 1 d_Mo_moves_63 rfl rfl ?_
              refine hj_geti hC cf_Mo (k := 28) (by decide) wq_392 rfl d_Mo_moves_64 hr (fun a45 hr => ?_)
              refine hj_aload_n hC 1 d_Mo_moves_67 rfl rfl ?_
              refine hj_geti hC cf_Mo (k := 27) (by decide) wq_393 rfl d_Mo_moves_68 hr (fun a46 hr => ?_)
              refine hj_iconst hC (v := 1) d_Mo_moves_71 (by decide) ?_
              refine hj_isub hC d_Mo_moves_72 ?_
              refine hj_ishr hC d_Mo_moves_73 ?_
              refine hj_iconst hC (v := 1) d_Mo_moves_74 (by decide) ?_
              refine hj_iand hC d_Mo_moves_75 ?_
              refine hj_goto hC 80 d_Mo_moves_76 (by decide) ?_
              refine hj_sub (lv' := [(6, vi_ z43)]) [0] rfl ?_
              exact hk80 _ _ _ _ hr
        · refine hj_if_le hC 54 d_Mo_moves_47 (by decide) hr (fun q47 hr => ?_) (fun q47 hr => ?_)
          · refine hj_iconst hC (v := 0) d_Mo_moves_54 (by decide) ?_
            refine hj_sub (lv' := [(0, vr_ o)]) [2] rfl ?_
            exact hk55 _ _ _ _ hr
          · refine hj_iconst hC (v := 1) d_Mo_moves_50 (by decide) ?_
            refine hj_goto hC 55 d_Mo_moves_51 (by decide) ?_
            refine hj_sub (lv' := [(0, vr_ o)]) [2] rfl ?_
            exact hk55 _ _ _ _ hr
    · refine hj_aload_n hC 2 d_Mo_moves_28 rfl rfl ?_
      refine hj_iconst hC (v := 2) d_Mo_moves_29 (by decide) ?_
      refine hj_callV hC hG (enc := (fun a : Int32 => some (vi_ a))) (As := [vi_ 2]) (st := []) (fun h a C S h1 hr => m_Mo_takes _ _ h a C S h1 hr) cf_Mo wq_396 wq_397 wq_398 wq_389 wq_395 yk_Mo_takes rfl ⟨Nat.le_of_ble_eq_true rfl, Nat.le_of_ble_eq_true rfl⟩ rfl (Nat.le_of_ble_eq_true rfl) d_Mo_moves_30 hr (fun a47 h C S hr => ?_)
      refine hj_istore hC (lv' := [(6, vi_ a47), (5, vi_ ((12 * x1) + x2)), (0, vr_ o), (1, vi_ x1), (2, vi_ x2), (3, vi_ x3), (4, vi_ x4)]) d_Mo_moves_33 (by decide) rfl ?_
      refine hj_goto hC 591 d_Mo_moves_35 (by decide) ?_
      refine hj_iload hC 0 d_Mo_moves_591 rfl ?_
      exact hj_zret hC d_Mo_moves_593 hr
  · refine hj_aload_n hC 2 d_Mo_moves_15 rfl rfl ?_
    refine hj_iconst hC (v := 0) d_Mo_moves_16 (by decide) ?_
    refine hj_callV hC hG (enc := (fun _ : Unit => none)) (As := [vi_ 0]) (st := []) (fun h a C S h1 hr => m_Mo_puts _ _ h a C S h1 hr) cf_Mo wq_401 wq_402 wq_403 wq_389 wq_400 yk_Mo_puts rfl ⟨Nat.le_of_ble_eq_true rfl, Nat.le_of_ble_eq_true rfl⟩ rfl (Nat.le_of_ble_eq_true rfl) d_Mo_moves_17 hr (fun _ h C S hr => ?_)
    refine hj_goto hC 591 d_Mo_moves_20 (by decide) ?_
    refine hj_iload hC 0 d_Mo_moves_591 rfl ?_
    exact hj_zret hC d_Mo_moves_593 hr
