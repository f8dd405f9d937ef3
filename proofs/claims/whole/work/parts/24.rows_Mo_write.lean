theorem d_Mo_write_0 : decode b_Mo_write 0 = .ok (.aload_n 0, 1) := by decide +kernel
theorem d_Mo_write_1 : decode b_Mo_write 1 = .ok (.iconst 0, 1) := by decide +kernel
theorem d_Mo_write_2 : decode b_Mo_write 2 = .ok (.putfield 76, 3) := by decide +kernel
theorem d_Mo_write_5 : decode b_Mo_write 5 = .ok (.aload_n 0, 1) := by decide +kernel
theorem d_Mo_write_6 : decode b_Mo_write 6 = .ok (.iconst 0, 1) := by decide +kernel
theorem d_Mo_write_7 : decode b_Mo_write 7 = .ok (.putfield 90, 3) := by decide +kernel
theorem d_Mo_write_10 : decode b_Mo_write 10 = .ok (.aload_n 0, 1) := by decide +kernel
theorem d_Mo_write_11 : decode b_Mo_write 11 = .ok (.bipush 71, 2) := by decide +kernel
theorem d_Mo_write_13 : decode b_Mo_write 13 = .ok (.iconst 1, 1) := by decide +kernel
theorem d_Mo_write_14 : decode b_Mo_write 14 = .ok (.invokevirtual 165, 3) := by decide +kernel
theorem d_Mo_write_17 : decode b_Mo_write 17 = .ok (.aload_n 0, 1) := by decide +kernel
theorem d_Mo_write_18 : decode b_Mo_write 18 = .ok (.bipush 70, 2) := by decide +kernel
theorem d_Mo_write_20 : decode b_Mo_write 20 = .ok (.iconst 1, 1) := by decide +kernel
theorem d_Mo_write_21 : decode b_Mo_write 21 = .ok (.invokevirtual 165, 3) := by decide +kernel
theorem d_Mo_write_24 : decode b_Mo_write 24 = .ok (.aload_n 0, 1) := by decide +kernel
theorem d_Mo_write_25 : decode b_Mo_write 25 = .ok (.iconst 1, 1) := by decide +kernel
theorem d_Mo_write_26 : decode b_Mo_write 26 = .ok (.iconst 1, 1) := by decide +kernel
theorem d_Mo_write_27 : decode b_Mo_write 27 = .ok (.invokevirtual 165, 3) := by decide +kernel
theorem d_Mo_write_30 : decode b_Mo_write 30 = .ok (.aload_n 0, 1) := by decide +kernel
theorem d_Mo_write_31 : decode b_Mo_write 31 = .ok (.aload_n 0, 1) := by decide +kernel
theorem d_Mo_write_32 : decode b_Mo_write 32 = .ok (.getfield 20, 3) := by decide +kernel
theorem d_Mo_write_35 : decode b_Mo_write 35 = .ok (.iconst 0, 1) := by decide +kernel
theorem d_Mo_write_36 : decode b_Mo_write 36 = .ok (.iaload, 1) := by decide +kernel
theorem d_Mo_write_37 : decode b_Mo_write 37 = .ok (.iconst 1, 1) := by decide +kernel
theorem d_Mo_write_38 : decode b_Mo_write 38 = .ok (.invokevirtual 165, 3) := by decide +kernel
theorem d_Mo_write_41 : decode b_Mo_write 41 = .ok (.iconst 0, 1) := by decide +kernel
theorem d_Mo_write_42 : decode b_Mo_write 42 = .ok (.istore_n 1, 1) := by decide +kernel
theorem d_Mo_write_43 : decode b_Mo_write 43 = .ok (.iload_n 1, 1) := by decide +kernel
theorem d_Mo_write_44 : decode b_Mo_write 44 = .ok (.aload_n 0, 1) := by decide +kernel
theorem d_Mo_write_45 : decode b_Mo_write 45 = .ok (.getfield 20, 3) := by decide +kernel
theorem d_Mo_write_48 : decode b_Mo_write 48 = .ok (.iconst 0, 1) := by decide +kernel
theorem d_Mo_write_49 : decode b_Mo_write 49 = .ok (.iaload, 1) := by decide +kernel
theorem d_Mo_write_50 : decode b_Mo_write 50 = .ok (.if_icmp .ge 243, 3) := by decide +kernel
theorem d_Mo_write_53 : decode b_Mo_write 53 = .ok (.aload_n 0, 1) := by decide +kernel
theorem d_Mo_write_54 : decode b_Mo_write 54 = .ok (.aload_n 0, 1) := by decide +kernel
theorem d_Mo_write_55 : decode b_Mo_write 55 = .ok (.getfield 23, 3) := by decide +kernel
theorem d_Mo_write_58 : decode b_Mo_write 58 = .ok (.iload_n 1, 1) := by decide +kernel
theorem d_Mo_write_59 : decode b_Mo_write 59 = .ok (.iaload, 1) := by decide +kernel
theorem d_Mo_write_60 : decode b_Mo_write 60 = .ok (.iconst 1, 1) := by decide +kernel
theorem d_Mo_write_61 : decode b_Mo_write 61 = .ok (.invokevirtual 165, 3) := by decide +kernel
theorem d_Mo_write_64 : decode b_Mo_write 64 = .ok (.aload_n 0, 1) := by decide +kernel
theorem d_Mo_write_65 : decode b_Mo_write 65 = .ok (.aload_n 0, 1) := by decide +kernel
theorem d_Mo_write_66 : decode b_Mo_write 66 = .ok (.getfield 26, 3) := by decide +kernel
theorem d_Mo_write_69 : decode b_Mo_write 69 = .ok (.iload_n 1, 1) := by decide +kernel
theorem d_Mo_write_70 : decode b_Mo_write 70 = .ok (.iaload, 1) := by decide +kernel
theorem d_Mo_write_71 : decode b_Mo_write 71 = .ok (.iconst 1, 1) := by decide +kernel
theorem d_Mo_write_72 : decode b_Mo_write 72 = .ok (.invokevirtual 165, 3) := by decide +kernel
theorem d_Mo_write_75 : decode b_Mo_write 75 = .ok (.aload_n 0, 1) := by decide +kernel
theorem d_Mo_write_76 : decode b_Mo_write 76 = .ok (.aload_n 0, 1) := by decide +kernel
theorem d_Mo_write_77 : decode b_Mo_write 77 = .ok (.getfield 29, 3) := by decide +kernel
theorem d_Mo_write_80 : decode b_Mo_write 80 = .ok (.iload_n 1, 1) := by decide +kernel
theorem d_Mo_write_81 : decode b_Mo_write 81 = .ok (.iaload, 1) := by decide +kernel
theorem d_Mo_write_82 : decode b_Mo_write 82 = .ok (.iconst 2, 1) := by decide +kernel
theorem d_Mo_write_83 : decode b_Mo_write 83 = .ok (.invokevirtual 165, 3) := by decide +kernel
theorem d_Mo_write_86 : decode b_Mo_write 86 = .ok (.aload_n 0, 1) := by decide +kernel
theorem d_Mo_write_87 : decode b_Mo_write 87 = .ok (.aload_n 0, 1) := by decide +kernel
theorem d_Mo_write_88 : decode b_Mo_write 88 = .ok (.getfield 32, 3) := by decide +kernel
theorem d_Mo_write_91 : decode b_Mo_write 91 = .ok (.iload_n 1, 1) := by decide +kernel
theorem d_Mo_write_92 : decode b_Mo_write 92 = .ok (.iaload, 1) := by decide +kernel
theorem d_Mo_write_93 : decode b_Mo_write 93 = .ok (.iconst 1, 1) := by decide +kernel
theorem d_Mo_write_94 : decode b_Mo_write 94 = .ok (.invokevirtual 165, 3) := by decide +kernel
theorem d_Mo_write_97 : decode b_Mo_write 97 = .ok (.aload_n 0, 1) := by decide +kernel
theorem d_Mo_write_98 : decode b_Mo_write 98 = .ok (.aload_n 0, 1) := by decide +kernel
theorem d_Mo_write_99 : decode b_Mo_write 99 = .ok (.getfield 35, 3) := by decide +kernel
theorem d_Mo_write_102 : decode b_Mo_write 102 = .ok (.iload_n 1, 1) := by decide +kernel
theorem d_Mo_write_103 : decode b_Mo_write 103 = .ok (.iaload, 1) := by decide +kernel
theorem d_Mo_write_104 : decode b_Mo_write 104 = .ok (.iconst 2, 1) := by decide +kernel
theorem d_Mo_write_105 : decode b_Mo_write 105 = .ok (.invokevirtual 165, 3) := by decide +kernel
theorem d_Mo_write_108 : decode b_Mo_write 108 = .ok (.iconst 0, 1) := by decide +kernel
theorem d_Mo_write_109 : decode b_Mo_write 109 = .ok (.istore_n 2, 1) := by decide +kernel
theorem d_Mo_write_110 : decode b_Mo_write 110 = .ok (.iload_n 2, 1) := by decide +kernel
theorem d_Mo_write_111 : decode b_Mo_write 111 = .ok (.aload_n 0, 1) := by decide +kernel
theorem d_Mo_write_112 : decode b_Mo_write 112 = .ok (.getfield 35, 3) := by decide +kernel
theorem d_Mo_write_115 : decode b_Mo_write 115 = .ok (.iload_n 1, 1) := by decide +kernel
theorem d_Mo_write_116 : decode b_Mo_write 116 = .ok (.iaload, 1) := by decide +kernel
theorem d_Mo_write_117 : decode b_Mo_write 117 = .ok (.if_icmp .ge 57, 3) := by decide +kernel
theorem d_Mo_write_120 : decode b_Mo_write 120 = .ok (.aload_n 0, 1) := by decide +kernel
theorem d_Mo_write_121 : decode b_Mo_write 121 = .ok (.aload_n 0, 1) := by decide +kernel
theorem d_Mo_write_122 : decode b_Mo_write 122 = .ok (.getfield 41, 3) := by decide +kernel
theorem d_Mo_write_125 : decode b_Mo_write 125 = .ok (.sipush 400, 3) := by decide +kernel
theorem d_Mo_write_128 : decode b_Mo_write 128 = .ok (.iload_n 1, 1) := by decide +kernel
theorem d_Mo_write_129 : decode b_Mo_write 129 = .ok (.imul, 1) := by decide +kernel
theorem d_Mo_write_130 : decode b_Mo_write 130 = .ok (.iload_n 2, 1) := by decide +kernel
theorem d_Mo_write_131 : decode b_Mo_write 131 = .ok (.iadd, 1) := by decide +kernel
theorem d_Mo_write_132 : decode b_Mo_write 132 = .ok (.iaload, 1) := by decide +kernel
theorem d_Mo_write_133 : decode b_Mo_write 133 = .ok (.iconst 1, 1) := by decide +kernel
theorem d_Mo_write_134 : decode b_Mo_write 134 = .ok (.invokevirtual 165, 3) := by decide +kernel
theorem d_Mo_write_137 : decode b_Mo_write 137 = .ok (.aload_n 0, 1) := by decide +kernel
theorem d_Mo_write_138 : decode b_Mo_write 138 = .ok (.aload_n 0, 1) := by decide +kernel
theorem d_Mo_write_139 : decode b_Mo_write 139 = .ok (.getfield 44, 3) := by decide +kernel
theorem d_Mo_write_142 : decode b_Mo_write 142 = .ok (.sipush 400, 3) := by decide +kernel
theorem d_Mo_write_145 : decode b_Mo_write 145 = .ok (.iload_n 1, 1) := by decide +kernel
theorem d_Mo_write_146 : decode b_Mo_write 146 = .ok (.imul, 1) := by decide +kernel
theorem d_Mo_write_147 : decode b_Mo_write 147 = .ok (.iload_n 2, 1) := by decide +kernel
theorem d_Mo_write_148 : decode b_Mo_write 148 = .ok (.iadd, 1) := by decide +kernel
theorem d_Mo_write_149 : decode b_Mo_write 149 = .ok (.iaload, 1) := by decide +kernel
theorem d_Mo_write_150 : decode b_Mo_write 150 = .ok (.aload_n 0, 1) := by decide +kernel
theorem d_Mo_write_151 : decode b_Mo_write 151 = .ok (.getfield 41, 3) := by decide +kernel
theorem d_Mo_write_154 : decode b_Mo_write 154 = .ok (.sipush 400, 3) := by decide +kernel
theorem d_Mo_write_157 : decode b_Mo_write 157 = .ok (.iload_n 1, 1) := by decide +kernel
theorem d_Mo_write_158 : decode b_Mo_write 158 = .ok (.imul, 1) := by decide +kernel
theorem d_Mo_write_159 : decode b_Mo_write 159 = .ok (.iload_n 2, 1) := by decide +kernel
theorem d_Mo_write_160 : decode b_Mo_write 160 = .ok (.iadd, 1) := by decide +kernel
theorem d_Mo_write_161 : decode b_Mo_write 161 = .ok (.iaload, 1) := by decide +kernel
theorem d_Mo_write_162 : decode b_Mo_write 162 = .ok (.invokestatic 168, 3) := by decide +kernel
theorem d_Mo_write_165 : decode b_Mo_write 165 = .ok (.invokevirtual 165, 3) := by decide +kernel
theorem d_Mo_write_168 : decode b_Mo_write 168 = .ok (.iinc 2 1, 3) := by decide +kernel
theorem d_Mo_write_171 : decode b_Mo_write 171 = .ok (.goto (-61), 3) := by decide +kernel
theorem d_Mo_write_174 : decode b_Mo_write 174 = .ok (.aload_n 0, 1) := by decide +kernel
theorem d_Mo_write_175 : decode b_Mo_write 175 = .ok (.aload_n 0, 1) := by decide +kernel
theorem d_Mo_write_176 : decode b_Mo_write 176 = .ok (.getfield 38, 3) := by decide +kernel
theorem d_Mo_write_179 : decode b_Mo_write 179 = .ok (.iload_n 1, 1) := by decide +kernel
theorem d_Mo_write_180 : decode b_Mo_write 180 = .ok (.iaload, 1) := by decide +kernel
theorem d_Mo_write_181 : decode b_Mo_write 181 = .ok (.iconst 1, 1) := by decide +kernel
theorem d_Mo_write_182 : decode b_Mo_write 182 = .ok (.invokevirtual 165, 3) := by decide +kernel
theorem d_Mo_write_185 : decode b_Mo_write 185 = .ok (.bipush 6, 2) := by decide +kernel
theorem d_Mo_write_187 : decode b_Mo_write 187 = .ok (.iload_n 1, 1) := by decide +kernel
theorem d_Mo_write_188 : decode b_Mo_write 188 = .ok (.imul, 1) := by decide +kernel
theorem d_Mo_write_189 : decode b_Mo_write 189 = .ok (.istore_n 2, 1) := by decide +kernel
theorem d_Mo_write_190 : decode b_Mo_write 190 = .ok (.iload_n 2, 1) := by decide +kernel
theorem d_Mo_write_191 : decode b_Mo_write 191 = .ok (.bipush 6, 2) := by decide +kernel
theorem d_Mo_write_193 : decode b_Mo_write 193 = .ok (.iload_n 1, 1) := by decide +kernel
theorem d_Mo_write_194 : decode b_Mo_write 194 = .ok (.imul, 1) := by decide +kernel
theorem d_Mo_write_195 : decode b_Mo_write 195 = .ok (.aload_n 0, 1) := by decide +kernel
theorem d_Mo_write_196 : decode b_Mo_write 196 = .ok (.getfield 38, 3) := by decide +kernel
theorem d_Mo_write_199 : decode b_Mo_write 199 = .ok (.iload_n 1, 1) := by decide +kernel
theorem d_Mo_write_200 : decode b_Mo_write 200 = .ok (.iaload, 1) := by decide +kernel
theorem d_Mo_write_201 : decode b_Mo_write 201 = .ok (.iadd, 1) := by decide +kernel
theorem d_Mo_write_202 : decode b_Mo_write 202 = .ok (.if_icmp .ge 85, 3) := by decide +kernel
theorem d_Mo_write_205 : decode b_Mo_write 205 = .ok (.aload_n 0, 1) := by decide +kernel
theorem d_Mo_write_206 : decode b_Mo_write 206 = .ok (.aload_n 0, 1) := by decide +kernel
theorem d_Mo_write_207 : decode b_Mo_write 207 = .ok (.getfield 47, 3) := by decide +kernel
theorem d_Mo_write_210 : decode b_Mo_write 210 = .ok (.iload_n 2, 1) := by decide +kernel
theorem d_Mo_write_211 : decode b_Mo_write 211 = .ok (.iaload, 1) := by decide +kernel
theorem d_Mo_write_212 : decode b_Mo_write 212 = .ok (.iconst 2, 1) := by decide +kernel
theorem d_Mo_write_213 : decode b_Mo_write 213 = .ok (.invokevirtual 165, 3) := by decide +kernel
theorem d_Mo_write_216 : decode b_Mo_write 216 = .ok (.aload_n 0, 1) := by decide +kernel
theorem d_Mo_write_217 : decode b_Mo_write 217 = .ok (.aload_n 0, 1) := by decide +kernel
theorem d_Mo_write_218 : decode b_Mo_write 218 = .ok (.getfield 50, 3) := by decide +kernel
theorem d_Mo_write_221 : decode b_Mo_write 221 = .ok (.iload_n 2, 1) := by decide +kernel
theorem d_Mo_write_222 : decode b_Mo_write 222 = .ok (.iaload, 1) := by decide +kernel
theorem d_Mo_write_223 : decode b_Mo_write 223 = .ok (.iconst 2, 1) := by decide +kernel
theorem d_Mo_write_224 : decode b_Mo_write 224 = .ok (.invokevirtual 165, 3) := by decide +kernel
theorem d_Mo_write_227 : decode b_Mo_write 227 = .ok (.aload_n 0, 1) := by decide +kernel
theorem d_Mo_write_228 : decode b_Mo_write 228 = .ok (.aload_n 0, 1) := by decide +kernel
theorem d_Mo_write_229 : decode b_Mo_write 229 = .ok (.getfield 53, 3) := by decide +kernel
theorem d_Mo_write_232 : decode b_Mo_write 232 = .ok (.iload_n 2, 1) := by decide +kernel
theorem d_Mo_write_233 : decode b_Mo_write 233 = .ok (.iaload, 1) := by decide +kernel
theorem d_Mo_write_234 : decode b_Mo_write 234 = .ok (.iconst 2, 1) := by decide +kernel
theorem d_Mo_write_235 : decode b_Mo_write 235 = .ok (.invokevirtual 165, 3) := by decide +kernel
theorem d_Mo_write_238 : decode b_Mo_write 238 = .ok (.aload_n 0, 1) := by decide +kernel
theorem d_Mo_write_239 : decode b_Mo_write 239 = .ok (.aload_n 0, 1) := by decide +kernel
theorem d_Mo_write_240 : decode b_Mo_write 240 = .ok (.getfield 56, 3) := by decide +kernel
theorem d_Mo_write_243 : decode b_Mo_write 243 = .ok (.iload_n 2, 1) := by decide +kernel
theorem d_Mo_write_244 : decode b_Mo_write 244 = .ok (.baload, 1) := by decide +kernel
theorem d_Mo_write_245 : decode b_Mo_write 245 = .ok (.ifCond .eq 7, 3) := by decide +kernel
theorem d_Mo_write_248 : decode b_Mo_write 248 = .ok (.iconst 0, 1) := by decide +kernel
theorem d_Mo_write_249 : decode b_Mo_write 249 = .ok (.goto 4, 3) := by decide +kernel
theorem d_Mo_write_252 : decode b_Mo_write 252 = .ok (.iconst 1, 1) := by decide +kernel
theorem d_Mo_write_253 : decode b_Mo_write 253 = .ok (.iconst 1, 1) := by decide +kernel
theorem d_Mo_write_254 : decode b_Mo_write 254 = .ok (.invokevirtual 165, 3) := by decide +kernel
theorem d_Mo_write_257 : decode b_Mo_write 257 = .ok (.aload_n 0, 1) := by decide +kernel
theorem d_Mo_write_258 : decode b_Mo_write 258 = .ok (.aload_n 0, 1) := by decide +kernel
theorem d_Mo_write_259 : decode b_Mo_write 259 = .ok (.getfield 60, 3) := by decide +kernel
theorem d_Mo_write_262 : decode b_Mo_write 262 = .ok (.iload_n 2, 1) := by decide +kernel
theorem d_Mo_write_263 : decode b_Mo_write 263 = .ok (.iaload, 1) := by decide +kernel
theorem d_Mo_write_264 : decode b_Mo_write 264 = .ok (.aload_n 0, 1) := by decide +kernel
theorem d_Mo_write_265 : decode b_Mo_write 265 = .ok (.getfield 56, 3) := by decide +kernel
theorem d_Mo_write_268 : decode b_Mo_write 268 = .ok (.iload_n 2, 1) := by decide +kernel
theorem d_Mo_write_269 : decode b_Mo_write 269 = .ok (.baload, 1) := by decide +kernel
theorem d_Mo_write_270 : decode b_Mo_write 270 = .ok (.ifCond .eq 7, 3) := by decide +kernel
theorem d_Mo_write_273 : decode b_Mo_write 273 = .ok (.iconst 0, 1) := by decide +kernel
theorem d_Mo_write_274 : decode b_Mo_write 274 = .ok (.goto 4, 3) := by decide +kernel
theorem d_Mo_write_277 : decode b_Mo_write 277 = .ok (.iconst 4, 1) := by decide +kernel
theorem d_Mo_write_278 : decode b_Mo_write 278 = .ok (.invokevirtual 165, 3) := by decide +kernel
theorem d_Mo_write_281 : decode b_Mo_write 281 = .ok (.iinc 2 1, 3) := by decide +kernel
theorem d_Mo_write_284 : decode b_Mo_write 284 = .ok (.goto (-94), 3) := by decide +kernel
theorem d_Mo_write_287 : decode b_Mo_write 287 = .ok (.iinc 1 1, 3) := by decide +kernel
theorem d_Mo_write_290 : decode b_Mo_write 290 = .ok (.goto (-247), 3) := by decide +kernel
theorem d_Mo_write_293 : decode b_Mo_write 293 = .ok (.aload_n 0, 1) := by decide +kernel
theorem d_Mo_write_294 : decode b_Mo_write 294 = .ok (.getfield 90, 3) := by decide +kernel
theorem d_Mo_write_297 : decode b_Mo_write 297 = .ok (.ireturn, 1) := by decide +kernel
theorem d_Mo_isFunction_0 : decode b_Mo_isFunction 0 = .ok (.iload_n 1, 1) := by decide +kernel
theorem d_Mo_isFunction_1 : decode b_Mo_isFunction 1 = .ok (.ifCond .lt 17, 3) := by decide +kernel
theorem d_Mo_isFunction_4 : decode b_Mo_isFunction 4 = .ok (.iload_n 1, 1) := by decide +kernel
theorem d_Mo_isFunction_5 : decode b_Mo_isFunction 5 = .ok (.aload_n 0, 1) := by decide +kernel
theorem d_Mo_isFunction_6 : decode b_Mo_isFunction 6 = .ok (.getfield 20, 3) := by decide +kernel
theorem d_Mo_isFunction_9 : decode b_Mo_isFunction 9 = .ok (.iconst 0, 1) := by decide +kernel
theorem d_Mo_isFunction_10 : decode b_Mo_isFunction 10 = .ok (.iaload, 1) := by decide +kernel
theorem d_Mo_isFunction_11 : decode b_Mo_isFunction 11 = .ok (.if_icmp .ge 7, 3) := by decide +kernel
theorem d_Mo_isFunction_14 : decode b_Mo_isFunction 14 = .ok (.iconst 1, 1) := by decide +kernel
theorem d_Mo_isFunction_15 : decode b_Mo_isFunction 15 = .ok (.goto 4, 3) := by decide +kernel
theorem d_Mo_isFunction_18 : decode b_Mo_isFunction 18 = .ok (.iconst 0, 1) := by decide +kernel
theorem d_Mo_isFunction_19 : decode b_Mo_isFunction 19 = .ok (.ireturn, 1) := by decide +kernel
theorem d_Mo_isGoal_0 : decode b_Mo_isGoal 0 = .ok (.iconst 0, 1) := by decide +kernel
theorem d_Mo_isGoal_1 : decode b_Mo_isGoal 1 = .ok (.istore_n 3, 1) := by decide +kernel
theorem d_Mo_isGoal_2 : decode b_Mo_isGoal 2 = .ok (.iconst 0, 1) := by decide +kernel
theorem d_Mo_isGoal_3 : decode b_Mo_isGoal 3 = .ok (.istore 4, 2) := by decide +kernel
theorem d_Mo_isGoal_5 : decode b_Mo_isGoal 5 = .ok (.iload 4, 2) := by decide +kernel
theorem d_Mo_isGoal_7 : decode b_Mo_isGoal 7 = .ok (.aload_n 0, 1) := by decide +kernel
theorem d_Mo_isGoal_8 : decode b_Mo_isGoal 8 = .ok (.getfield 35, 3) := by decide +kernel
theorem d_Mo_isGoal_11 : decode b_Mo_isGoal 11 = .ok (.iload_n 1, 1) := by decide +kernel
theorem d_Mo_isGoal_12 : decode b_Mo_isGoal 12 = .ok (.iaload, 1) := by decide +kernel
theorem d_Mo_isGoal_13 : decode b_Mo_isGoal 13 = .ok (.if_icmp .ge 61, 3) := by decide +kernel
theorem d_Mo_isGoal_16 : decode b_Mo_isGoal 16 = .ok (.aload_n 0, 1) := by decide +kernel
theorem d_Mo_isGoal_17 : decode b_Mo_isGoal 17 = .ok (.getfield 41, 3) := by decide +kernel
theorem d_Mo_isGoal_20 : decode b_Mo_isGoal 20 = .ok (.sipush 400, 3) := by decide +kernel
theorem d_Mo_isGoal_23 : decode b_Mo_isGoal 23 = .ok (.iload_n 1, 1) := by decide +kernel
theorem d_Mo_isGoal_24 : decode b_Mo_isGoal 24 = .ok (.imul, 1) := by decide +kernel
theorem d_Mo_isGoal_25 : decode b_Mo_isGoal 25 = .ok (.iload 4, 2) := by decide +kernel
theorem d_Mo_isGoal_27 : decode b_Mo_isGoal 27 = .ok (.iadd, 1) := by decide +kernel
theorem d_Mo_isGoal_28 : decode b_Mo_isGoal 28 = .ok (.iaload, 1) := by decide +kernel
theorem d_Mo_isGoal_29 : decode b_Mo_isGoal 29 = .ok (.istore 5, 2) := by decide +kernel
theorem d_Mo_isGoal_31 : decode b_Mo_isGoal 31 = .ok (.iload 5, 2) := by decide +kernel
theorem d_Mo_isGoal_33 : decode b_Mo_isGoal 33 = .ok (.bipush 17, 2) := by decide +kernel
theorem d_Mo_isGoal_35 : decode b_Mo_isGoal 35 = .ok (.if_icmp .le 31, 3) := by decide +kernel
theorem d_Mo_isGoal_38 : decode b_Mo_isGoal 38 = .ok (.iload 5, 2) := by decide +kernel
theorem d_Mo_isGoal_40 : decode b_Mo_isGoal 40 = .ok (.bipush 21, 2) := by decide +kernel
theorem d_Mo_isGoal_42 : decode b_Mo_isGoal 42 = .ok (.if_icmp .ge 24, 3) := by decide +kernel
theorem d_Mo_isGoal_45 : decode b_Mo_isGoal 45 = .ok (.aload_n 0, 1) := by decide +kernel
theorem d_Mo_isGoal_46 : decode b_Mo_isGoal 46 = .ok (.getfield 44, 3) := by decide +kernel
theorem d_Mo_isGoal_49 : decode b_Mo_isGoal 49 = .ok (.sipush 400, 3) := by decide +kernel
theorem d_Mo_isGoal_52 : decode b_Mo_isGoal 52 = .ok (.iload_n 1, 1) := by decide +kernel
theorem d_Mo_isGoal_53 : decode b_Mo_isGoal 53 = .ok (.imul, 1) := by decide +kernel
theorem d_Mo_isGoal_54 : decode b_Mo_isGoal 54 = .ok (.iload 4, 2) := by decide +kernel
theorem d_Mo_isGoal_56 : decode b_Mo_isGoal 56 = .ok (.iadd, 1) := by decide +kernel
theorem d_Mo_isGoal_57 : decode b_Mo_isGoal 57 = .ok (.iaload, 1) := by decide +kernel
theorem d_Mo_isGoal_58 : decode b_Mo_isGoal 58 = .ok (.iload_n 2, 1) := by decide +kernel
theorem d_Mo_isGoal_59 : decode b_Mo_isGoal 59 = .ok (.if_icmp .ne 7, 3) := by decide +kernel
theorem d_Mo_isGoal_62 : decode b_Mo_isGoal 62 = .ok (.iconst 1, 1) := by decide +kernel
theorem d_Mo_isGoal_63 : decode b_Mo_isGoal 63 = .ok (.goto 4, 3) := by decide +kernel
theorem d_Mo_isGoal_66 : decode b_Mo_isGoal 66 = .ok (.iload_n 3, 1) := by decide +kernel
theorem d_Mo_isGoal_67 : decode b_Mo_isGoal 67 = .ok (.istore_n 3, 1) := by decide +kernel
theorem d_Mo_isGoal_68 : decode b_Mo_isGoal 68 = .ok (.iinc 4 1, 3) := by decide +kernel
theorem d_Mo_isGoal_71 : decode b_Mo_isGoal 71 = .ok (.goto (-66), 3) := by decide +kernel
theorem d_Mo_isGoal_74 : decode b_Mo_isGoal 74 = .ok (.bipush 6, 2) := by decide +kernel
theorem d_Mo_isGoal_76 : decode b_Mo_isGoal 76 = .ok (.iload_n 1, 1) := by decide +kernel
theorem d_Mo_isGoal_77 : decode b_Mo_isGoal 77 = .ok (.imul, 1) := by decide +kernel
theorem d_Mo_isGoal_78 : decode b_Mo_isGoal 78 = .ok (.istore 4, 2) := by decide +kernel
theorem d_Mo_isGoal_80 : decode b_Mo_isGoal 80 = .ok (.iload 4, 2) := by decide +kernel
theorem d_Mo_isGoal_82 : decode b_Mo_isGoal 82 = .ok (.bipush 6, 2) := by decide +kernel
theorem d_Mo_isGoal_84 : decode b_Mo_isGoal 84 = .ok (.iload_n 1, 1) := by decide +kernel
theorem d_Mo_isGoal_85 : decode b_Mo_isGoal 85 = .ok (.imul, 1) := by decide +kernel
theorem d_Mo_isGoal_86 : decode b_Mo_isGoal 86 = .ok (.aload_n 0, 1) := by decide +kernel
theorem d_Mo_isGoal_87 : decode b_Mo_isGoal 87 = .ok (.getfield 38, 3) := by decide +kernel
theorem d_Mo_isGoal_90 : decode b_Mo_isGoal 90 = .ok (.iload_n 1, 1) := by decide +kernel
theorem d_Mo_isGoal_91 : decode b_Mo_isGoal 91 = .ok (.iaload, 1) := by decide +kernel
theorem d_Mo_isGoal_92 : decode b_Mo_isGoal 92 = .ok (.iadd, 1) := by decide +kernel
theorem d_Mo_isGoal_93 : decode b_Mo_isGoal 93 = .ok (.if_icmp .ge 26, 3) := by decide +kernel
theorem d_Mo_isGoal_96 : decode b_Mo_isGoal 96 = .ok (.aload_n 0, 1) := by decide +kernel
theorem d_Mo_isGoal_97 : decode b_Mo_isGoal 97 = .ok (.getfield 53, 3) := by decide +kernel
theorem d_Mo_isGoal_100 : decode b_Mo_isGoal 100 = .ok (.iload 4, 2) := by decide +kernel
theorem d_Mo_isGoal_102 : decode b_Mo_isGoal 102 = .ok (.iaload, 1) := by decide +kernel
theorem d_Mo_isGoal_103 : decode b_Mo_isGoal 103 = .ok (.iload_n 2, 1) := by decide +kernel
theorem d_Mo_isGoal_104 : decode b_Mo_isGoal 104 = .ok (.if_icmp .ne 7, 3) := by decide +kernel
theorem d_Mo_isGoal_107 : decode b_Mo_isGoal 107 = .ok (.iconst 1, 1) := by decide +kernel
theorem d_Mo_isGoal_108 : decode b_Mo_isGoal 108 = .ok (.goto 4, 3) := by decide +kernel
theorem d_Mo_isGoal_111 : decode b_Mo_isGoal 111 = .ok (.iload_n 3, 1) := by decide +kernel
theorem d_Mo_isGoal_112 : decode b_Mo_isGoal 112 = .ok (.istore_n 3, 1) := by decide +kernel
theorem d_Mo_isGoal_113 : decode b_Mo_isGoal 113 = .ok (.iinc 4 1, 3) := by decide +kernel
theorem d_Mo_isGoal_116 : decode b_Mo_isGoal 116 = .ok (.goto (-36), 3) := by decide +kernel
theorem d_Mo_isGoal_119 : decode b_Mo_isGoal 119 = .ok (.iload_n 3, 1) := by decide +kernel
theorem d_Mo_isGoal_120 : decode b_Mo_isGoal 120 = .ok (.ireturn, 1) := by decide +kernel
set_option maxHeartbeats 4000000 in
set_option maxRecDepth 100000 in
theorem ml_Mo_write_110 {p : Program} {l : Launch} {e : Env} {s : State} {m : MethodId} {args : Array Value} {below : List Frame} {meth : Method} {c : Code} {D : va_G} {dA : Nat → ClassId} {h0 h2 : hc_H} {C0 S0 : Nat} {b : Int32} (hC : hj_C p s m args meth c (gg D dA) b_Mo_write 3 (some .int) R_Mo "write" tb) (x0 : Option Nat) (x1 : Int32) (kx : hM Int32) (hk : ∀  (h : hc_H) (C S : Nat), kx  h = some (b, C, S, h2) → hj_J p l e { frames := 1, cells := C0, slots := S0, locals := 23 } s m args below meth c (gg D dA) h0 3 (hj_Q below args s { frames := 1, cells := C0, slots := S0, locals := 23 } (gg D dA) h0 (some (vi_ b)) h2) C S h 174 [(0, vr_ x0), (1, vi_ x1)] []) : ∀ (fu : Nat) (v2 : Int32) (h : hc_H) (C S : Nat), p_Mo_write_110 x0 x1 kx fu v2 h = some (b, C, S, h2) → hj_J p l e { frames := 1, cells := C0, slots := S0, locals := 23 } s m args below meth c (gg D dA) h0 3 (hj_Q below args s { frames := 1, cells := C0, slots := S0, locals := 23 } (gg D dA) h0 (some (vi_ b)) h2) C S h 110 [(0, vr_ x0), (1, vi_ x1), (2, vi_ v2)] [] := by
  intro fu
  induction fu with
  | zero =>
    intro v2 h C S hr
    cases hr
  | succ fu ih =>
    intro v2 h C S hr
    rw [p_Mo_write_110] at hr
    refine hj_iload_n hC 2 d_Mo_write_110 rfl rfl ?_
    refine hj_aload_n hC 0 d_Mo_write_111 rfl rfl ?_
    refine hj_getr hC cf_Mo (k := 14) (by decide) wq_424 rfl d_Mo_write_112 hr (fun a15 hr => ?_)
    refine hj_iload_n hC 1 d_Mo_write_115 rfl rfl ?_
    refine hj_iald hC (kd := 17) rfl d_Mo_write_116 hr (fun a16 hr => ?_)
    refine hj_icmp_ge hC 174 d_Mo_write_117 (by decide) hr (fun q117 hr => ?_) (fun q117 hr => ?_)
    · refine hj_sub (lv' := [(0, vr_ x0), (1, vi_ x1)]) [0, 1] rfl ?_
      exact hk _ _ _ hr
    · refine hj_aload_n hC 0 d_Mo_write_120 rfl rfl ?_
      refine hj_aload_n hC 0 d_Mo_write_121 rfl rfl ?_
      refine hj_getr hC cf_Mo (k := 16) (by decide) wq_413 rfl d_Mo_write_122 hr (fun a17 hr => ?_)
      refine hj_sipush hC (v := 400) d_Mo_write_125 (by decide) ?_
      refine hj_iload_n hC 1 d_Mo_write_128 rfl rfl ?_
      refine hj_imul hC d_Mo_write_129 ?_
      refine hj_iload_n hC 2 d_Mo_write_130 rfl rfl ?_
      refine hj_iadd hC d_Mo_write_131 ?_
      refine hj_iald hC (kd := 19) rfl d_Mo_write_132 hr (fun a18 hr => ?_)
      refine hj_iconst hC (v := 1) d_Mo_write_133 (by decide) ?_
      refine hj_callV hC hG (enc := (fun _ : Unit => none)) (As := [vi_ a18, vi_ 1]) (st := []) (fun h a C S h1 hr => m_Mo_put _ _ _ h a C S h1 hr) cf_Mo wq_486 wq_487 wq_488 wq_389 wq_484 yk_Mo_put rfl ⟨Nat.le_of_ble_eq_true rfl, Nat.le_of_ble_eq_true rfl⟩ rfl (Nat.le_of_ble_eq_true rfl) d_Mo_write_134 hr (fun _ h C S hr => ?_)
      refine hj_aload_n hC 0 d_Mo_write_137 rfl rfl ?_
      refine hj_aload_n hC 0 d_Mo_write_138 rfl rfl ?_
      refine hj_getr hC cf_Mo (k := 17) (by decide) wq_414 rfl d_Mo_write_139 hr (fun a19 hr => ?_)
      refine hj_sipush hC (v := 400) d_Mo_write_142 (by decide) ?_
      refine hj_iload_n hC 1 d_Mo_write_145 rfl rfl ?_
      refine hj_imul hC d_Mo_write_146 ?_
      refine hj_iload_n hC 2 d_Mo_write_147 rfl rfl ?_
      refine hj_iadd hC d_Mo_write_148 ?_
      refine hj_iald hC (kd := 20) rfl d_Mo_write_149 hr (fun a20 hr => ?_)
      refine hj_aload_n hC 0 d_Mo_write_150 rfl rfl ?_
      refine hj_getr hC cf_Mo (k := 16) (by decide) wq_413 rfl d_Mo_write_151 hr (fun a21 hr => ?_)
      refine hj_sipush hC (v := 400) d_Mo_write_154 (by decide) ?_
      refine hj_iload_n hC 1 d_Mo_write_157 rfl rfl ?_
      refine hj_imul hC d_Mo_write_158 ?_
      refine hj_iload_n hC 2 d_Mo_write_159 rfl rfl ?_
      refine hj_iadd hC d_Mo_write_160 ?_
      refine hj_iald hC (kd := 19) rfl d_Mo_write_161 hr (fun a22 hr => ?_)
      refine hj_callS hC hG (enc := (fun a : Int32 => some (vi_ a))) (As := [vi_ a22]) (st := [vi_ a20, vr_ x0]) (fun h a C S h1 hr => m_Mo_behind _ h a C S h1 hr) wq_489 wq_490 wq_389 wq_485 yk_Mo_behind rfl ⟨Nat.le_of_ble_eq_true rfl, Nat.le_of_ble_eq_true rfl⟩ rfl (Nat.le_of_ble_eq_true rfl) d_Mo_write_162 hr (fun a23 h C S hr => ?_)
      refine hj_callV hC hG (enc := (fun _ : Unit => none)) (As := [vi_ a20, vi_ a23]) (st := []) (fun h a C S h1 hr => m_Mo_put _ _ _ h a C S h1 hr) cf_Mo wq_486 wq_487 wq_488 wq_389 wq_484 yk_Mo_put rfl ⟨Nat.le_of_ble_eq_true rfl, Nat.le_of_ble_eq_true rfl⟩ rfl (Nat.le_of_ble_eq_true rfl) d_Mo_write_165 hr (fun _ h C S hr => ?_)
      refine hj_iinc hC (lv' := [(2, vi_ (v2 + 1)), (0, vr_ x0), (1, vi_ x1)]) 2 d_Mo_write_168 rfl rfl (by decide) rfl ?_
      refine hj_goto hC 110 d_Mo_write_171 (by decide) ?_
      refine hj_sub (lv' := [(0, vr_ x0), (1, vi_ x1), (2, vi_ (v2 + 1))]) [1, 2, 0] rfl ?_
      exact ih _ _ _ _ hr
set_option maxHeartbeats 4000000 in
set_option maxRecDepth 100000 in
theorem ml_Mo_write_190 {p : Program} {l : Launch} {e : Env} {s : State} {m : MethodId} {args : Array Value} {below : List Frame} {meth : Method} {c : Code} {D : va_G} {dA : Nat → ClassId} {h0 h2 : hc_H} {C0 S0 : Nat} {b : Int32} (hC : hj_C p s m args meth c (gg D dA) b_Mo_write 3 (some .int) R_Mo "write" tb) (x0 : Option Nat) (x1 : Int32) (kx : hM Int32) (hk : ∀  (h : hc_H) (C S : Nat), kx  h = some (b, C, S, h2) → hj_J p l e { frames := 1, cells := C0, slots := S0, locals := 23 } s m args below meth c (gg D dA) h0 3 (hj_Q below args s { frames := 1, cells := C0, slots := S0, locals := 23 } (gg D dA) h0 (some (vi_ b)) h2) C S h 287 [(0, vr_ x0), (1, vi_ x1)] []) : ∀ (fu : Nat) (v2 : Int32) (h : hc_H) (C S : Nat), p_Mo_write_190 x0 x1 kx fu v2 h = some (b, C, S, h2) → hj_J p l e { frames := 1, cells := C0, slots := S0, locals := 23 } s m args below meth c (gg D dA) h0 3 (hj_Q below args s { frames := 1, cells := C0, slots := S0, locals := 23 } (gg D dA) h0 (some (vi_ b)) h2) C S h 190 [(0, vr_ x0), (1, vi_ x1), (2, vi_ v2)] [] := by
  intro fu
  induction fu with
  | zero =>
    intro v2 h C S hr
    cases hr
  | succ fu ih =>
    intro v2 h C S hr
    rw [p_Mo_write_190] at hr
    refine hj_iload_n hC 2 d_Mo_write_190 rfl rfl ?_
    refine hj_bipush hC (v := 6) d_Mo_write_191 (by decide) ?_
    refine hj_iload_n hC 1 d_Mo_write_193 rfl rfl ?_
    refine hj_imul hC d_Mo_write_194 ?_
    refine hj_aload_n hC 0 d_Mo_write_195 rfl rfl ?_
    refine hj_getr hC cf_Mo (k := 15) (by decide) wq_416 rfl d_Mo_write_196 hr (fun a26 hr => ?_)
    refine hj_iload_n hC 1 d_Mo_write_199 rfl rfl ?_
    refine hj_iald hC (kd := 18) rfl d_Mo_write_200 hr (fun a27 hr => ?_)
    refine hj_iadd hC d_Mo_write_201 ?_
    refine hj_icmp_ge hC 287 d_Mo_write_202 (by decide) hr (fun q202 hr => ?_) (fun q202 hr => ?_)
    · refine hj_sub (lv' := [(0, vr_ x0), (1, vi_ x1)]) [0, 1] rfl ?_
      exact hk _ _ _ hr
    · refine hj_aload_n hC 0 d_Mo_write_205 rfl rfl ?_
      refine hj_aload_n hC 0 d_Mo_write_206 rfl rfl ?_
      refine hj_getr hC cf_Mo (k := 18) (by decide) wq_417 rfl d_Mo_write_207 hr (fun a28 hr => ?_)
      refine hj_iload_n hC 2 d_Mo_write_210 rfl rfl ?_
      refine hj_iald hC (kd := 21) rfl d_Mo_write_211 hr (fun a29 hr => ?_)
      refine hj_iconst hC (v := 2) d_Mo_write_212 (by decide) ?_
      refine hj_callV hC hG (enc := (fun _ : Unit => none)) (As := [vi_ a29, vi_ 2]) (st := []) (fun h a C S h1 hr => m_Mo_put _ _ _ h a C S h1 hr) cf_Mo wq_486 wq_487 wq_488 wq_389 wq_484 yk_Mo_put rfl ⟨Nat.le_of_ble_eq_true rfl, Nat.le_of_ble_eq_true rfl⟩ rfl (Nat.le_of_ble_eq_true rfl) d_Mo_write_213 hr (fun _ h C S hr => ?_)
      refine hj_aload_n hC 0 d_Mo_write_216 rfl rfl ?_
      refine hj_aload_n hC 0 d_Mo_write_217 rfl rfl ?_
      refine hj_getr hC cf_Mo (k := 19) (by decide) wq_418 rfl d_Mo_write_218 hr (fun a30 hr => ?_)
      refine hj_iload_n hC 2 d_Mo_write_221 rfl rfl ?_
      refine hj_iald hC (kd := 22) rfl d_Mo_write_222 hr (fun a31 hr => ?_)
      refine hj_iconst hC (v := 2) d_Mo_write_223 (by decide) ?_
      refine hj_callV hC hG (enc := (fun _ : Unit => none)) (As := [vi_ a31, vi_ 2]) (st := []) (fun h a C S h1 hr => m_Mo_put _ _ _ h a C S h1 hr) cf_Mo wq_486 wq_487 wq_488 wq_389 wq_484 yk_Mo_put rfl ⟨Nat.le_of_ble_eq_true rfl, Nat.le_of_ble_eq_true rfl⟩ rfl (Nat.le_of_ble_eq_true rfl) d_Mo_write_224 hr (fun _ h C S hr => ?_)
      refine hj_aload_n hC 0 d_Mo_write_227 rfl rfl ?_
      refine hj_aload_n hC 0 d_Mo_write_228 rfl rfl ?_
      refine hj_getr hC cf_Mo (k := 20) (by decide) wq_419 rfl d_Mo_write_229 hr (fun a32 hr => ?_)
      refine hj_iload_n hC 2 d_Mo_write_232 rfl rfl ?_
      refine hj_iald hC (kd := 23) rfl d_Mo_write_233 hr (fun a33 hr => ?_)
      refine hj_iconst hC (v := 2) d_Mo_write_234 (by decide) ?_
      refine hj_callV hC hG (enc := (fun _ : Unit => none)) (As := [vi_ a33, vi_ 2]) (st := []) (fun h a C S h1 hr => m_Mo_put _ _ _ h a C S h1 hr) cf_Mo wq_486 wq_487 wq_488 wq_389 wq_484 yk_Mo_put rfl ⟨Nat.le_of_ble_eq_true rfl, Nat.le_of_ble_eq_true rfl⟩ rfl (Nat.le_of_ble_eq_true rfl) d_Mo_write_235 hr (fun _ h C S hr => ?_)
      refine hj_aload_n hC 0 d_Mo_write_238 rfl rfl ?_
      refine hj_aload_n hC 0 d_Mo_write_239 rfl rfl ?_
      refine hj_getr hC cf_Mo (k := 21) (by decide) wq_438 rfl d_Mo_write_240 hr (fun a34 hr => ?_)
      refine hj_iload_n hC 2 d_Mo_write_243 rfl rfl ?_
      refine hj_zald hC (kd := 24) rfl d_Mo_write_244 hr (fun a35 hr => ?_)
      refine hj_jn hC (K := Int32 → hM Int32) (fun k => ∀ (z36 : Int32) (h : hc_H) (C S : Nat), k z36 h = some (b, C, S, h2) → hj_J p l e { frames := 1, cells := C0, slots := S0, locals := 23 } s m args below meth c (gg D dA) h0 3 (hj_Q below args s { frames := 1, cells := C0, slots := S0, locals := 23 } (gg D dA) h0 (some (vi_ b)) h2) C S h 253 [(0, vr_ x0), (1, vi_ x1), (2, vi_ v2)] [vi_ z36, vr_ x0]) hr (fun z36 h C S hr => ?_) (fun k253 hk253 hr => ?_)
      · refine hj_iconst hC (v := 1) d_Mo_write_253 (by decide) ?_
        refine hj_callV hC hG (enc := (fun _ : Unit => none)) (As := [vi_ z36, vi_ 1]) (st := []) (fun h a C S h1 hr => m_Mo_put _ _ _ h a C S h1 hr) cf_Mo wq_486 wq_487 wq_488 wq_389 wq_484 yk_Mo_put rfl ⟨Nat.le_of_ble_eq_true rfl, Nat.le_of_ble_eq_true rfl⟩ rfl (Nat.le_of_ble_eq_true rfl) d_Mo_write_254 hr (fun _ h C S hr => ?_)
        refine hj_aload_n hC 0 d_Mo_write_257 rfl rfl ?_
        refine hj_aload_n hC 0 d_Mo_write_258 rfl rfl ?_
        refine hj_getr hC cf_Mo (k := 22) (by decide) wq_439 rfl d_Mo_write_259 hr (fun a37 hr => ?_)
        refine hj_iload_n hC 2 d_Mo_write_262 rfl rfl ?_
        refine hj_iald hC (kd := 25) rfl d_Mo_write_263 hr (fun a38 hr => ?_)
        refine hj_aload_n hC 0 d_Mo_write_264 rfl rfl ?_
        refine hj_getr hC cf_Mo (k := 21) (by decide) wq_438 rfl d_Mo_write_265 hr (fun a39 hr => ?_)
        refine hj_iload_n hC 2 d_Mo_write_268 rfl rfl ?_
        refine hj_zald hC (kd := 24) rfl d_Mo_write_269 hr (fun a40 hr => ?_)
        refine hj_jn hC (K := Int32 → hM Int32) (fun k => ∀ (z41 : Int32) (h : hc_H) (C S : Nat), k z41 h = some (b, C, S, h2) → hj_J p l e { frames := 1, cells := C0, slots := S0, locals := 23 } s m args below meth c (gg D dA) h0 3 (hj_Q below args s { frames := 1, cells := C0, slots := S0, locals := 23 } (gg D dA) h0 (some (vi_ b)) h2) C S h 278 [(0, vr_ x0), (1, vi_ x1), (2, vi_ v2)] [vi_ z41, vi_ a38, vr_ x0]) hr (fun z41 h C S hr => ?_) (fun k278 hk278 hr => ?_)
        · refine hj_callV hC hG (enc := (fun _ : Unit => none)) (As := [vi_ a38, vi_ z41]) (st := []) (fun h a C S h1 hr => m_Mo_put _ _ _ h a C S h1 hr) cf_Mo wq_486 wq_487 wq_488 wq_389 wq_484 yk_Mo_put rfl ⟨Nat.le_of_ble_eq_true rfl, Nat.le_of_ble_eq_true rfl⟩ rfl (Nat.le_of_ble_eq_true rfl) d_Mo_write_278 hr (fun _ h C S hr => ?_)
          refine hj_iinc hC (lv' := [(2, vi_ (v2 + 1)), (0, vr_ x0), (1, vi_ x1)]) 2 d_Mo_write_281 rfl rfl (by decide) rfl ?_
          refine hj_goto hC 190 d_Mo_write_284 (by decide) ?_
          refine hj_sub (lv' := [(0, vr_ x0), (1, vi_ x1), (2, vi_ (v2 + 1))]) [1, 2, 0] rfl ?_
          exact ih _ _ _ _ hr
        · refine hj_if_eq hC 277 d_Mo_write_270 (by decide) hr (fun q270 hr => ?_) (fun q270 hr => ?_)
          · refine hj_iconst hC (v := 4) d_Mo_write_277 (by decide) ?_
            exact hk278 _ _ _ _ hr
          · refine hj_iconst hC (v := 0) d_Mo_write_273 (by decide) ?_
            refine hj_goto hC 278 d_Mo_write_274 (by decide) ?_
            exact hk278 _ _ _ _ hr
      · refine hj_if_eq hC 252 d_Mo_write_245 (by decide) hr (fun q245 hr => ?_) (fun q245 hr => ?_)
        · refine hj_iconst hC (v := 1) d_Mo_write_252 (by decide) ?_
          exact hk253 _ _ _ _ hr
        · refine hj_iconst hC (v := 0) d_Mo_write_248 (by decide) ?_
          refine hj_goto hC 253 d_Mo_write_249 (by decide) ?_
          exact hk253 _ _ _ _ hr
set_option maxHeartbeats 4000000 in
set_option maxRecDepth 100000 in
theorem ml_Mo_write_43 {p : Program} {l : Launch} {e : Env} {s : State} {m : MethodId} {args : Array Value} {below : List Frame} {meth : Method} {c : Code} {D : va_G} {dA : Nat → ClassId} {h0 h2 : hc_H} {C0 S0 : Nat} {b : Int32} (hC : hj_C p s m args meth c (gg D dA) b_Mo_write 3 (some .int) R_Mo "write" tb) (x0 : Option Nat) (kx : hM Int32) (hk : ∀  (h : hc_H) (C S : Nat), kx  h = some (b, C, S, h2) → hj_J p l e { frames := 1, cells := C0, slots := S0, locals := 23 } s m args below meth c (gg D dA) h0 3 (hj_Q below args s { frames := 1, cells := C0, slots := S0, locals := 23 } (gg D dA) h0 (some (vi_ b)) h2) C S h 293 [(0, vr_ x0)] []) : ∀ (fu : Nat) (v1 : Int32) (h : hc_H) (C S : Nat), p_Mo_write_43 x0 kx fu v1 h = some (b, C, S, h2) → hj_J p l e { frames := 1, cells := C0, slots := S0, locals := 23 } s m args below meth c (gg D dA) h0 3 (hj_Q below args s { frames := 1, cells := C0, slots := S0, locals := 23 } (gg D dA) h0 (some (vi_ b)) h2) C S h 43 [(0, vr_ x0), (1, vi_ v1)] [] := by
  intro fu
  induction fu with
  | zero =>
    intro v1 h C S hr
    cases hr
  | succ fu ih =>
    intro v1 h C S hr
    rw [p_Mo_write_43] at hr
    refine hj_iload_n hC 1 d_Mo_write_43 rfl rfl ?_
    refine hj_aload_n hC 0 d_Mo_write_44 rfl rfl ?_
    refine hj_getr hC cf_Mo (k := 9) (by decide) wq_436 rfl d_Mo_write_45 hr (fun a3 hr => ?_)
    refine hj_iconst hC (v := 0) d_Mo_write_48 (by decide) ?_
    refine hj_iald hC (kd := 12) rfl d_Mo_write_49 hr (fun a4 hr => ?_)
    refine hj_icmp_ge hC 293 d_Mo_write_50 (by decide) hr (fun q50 hr => ?_) (fun q50 hr => ?_)
    · refine hj_sub (lv' := [(0, vr_ x0)]) [0] rfl ?_
      exact hk _ _ _ hr
    · refine hj_aload_n hC 0 d_Mo_write_53 rfl rfl ?_
      refine hj_aload_n hC 0 d_Mo_write_54 rfl rfl ?_
      refine hj_getr hC cf_Mo (k := 10) (by decide) wq_408 rfl d_Mo_write_55 hr (fun a5 hr => ?_)
      refine hj_iload_n hC 1 d_Mo_write_58 rfl rfl ?_
      refine hj_iald hC (kd := 13) rfl d_Mo_write_59 hr (fun a6 hr => ?_)
      refine hj_iconst hC (v := 1) d_Mo_write_60 (by decide) ?_
      refine hj_callV hC hG (enc := (fun _ : Unit => none)) (As := [vi_ a6, vi_ 1]) (st := []) (fun h a C S h1 hr => m_Mo_put _ _ _ h a C S h1 hr) cf_Mo wq_486 wq_487 wq_488 wq_389 wq_484 yk_Mo_put rfl ⟨Nat.le_of_ble_eq_true rfl, Nat.le_of_ble_eq_true rfl⟩ rfl (Nat.le_of_ble_eq_true rfl) d_Mo_write_61 hr (fun _ h C S hr => ?_)
      refine hj_aload_n hC 0 d_Mo_write_64 rfl rfl ?_
      refine hj_aload_n hC 0 d_Mo_write_65 rfl rfl ?_
      refine hj_getr hC cf_Mo (k := 11) (by decide) wq_437 rfl d_Mo_write_66 hr (fun a7 hr => ?_)
      refine hj_iload_n hC 1 d_Mo_write_69 rfl rfl ?_
      refine hj_iald hC (kd := 14) rfl d_Mo_write_70 hr (fun a8 hr => ?_)
      refine hj_iconst hC (v := 1) d_Mo_write_71 (by decide) ?_
      refine hj_callV hC hG (enc := (fun _ : Unit => none)) (As := [vi_ a8, vi_ 1]) (st := []) (fun h a C S h1 hr => m_Mo_put _ _ _ h a C S h1 hr) cf_Mo wq_486 wq_487 wq_488 wq_389 wq_484 yk_Mo_put rfl ⟨Nat.le_of_ble_eq_true rfl, Nat.le_of_ble_eq_true rfl⟩ rfl (Nat.le_of_ble_eq_true rfl) d_Mo_write_72 hr (fun _ h C S hr => ?_)
      refine hj_aload_n hC 0 d_Mo_write_75 rfl rfl ?_
      refine hj_aload_n hC 0 d_Mo_write_76 rfl rfl ?_
      refine hj_getr hC cf_Mo (k := 12) (by decide) wq_394 rfl d_Mo_write_77 hr (fun a9 hr => ?_)
      refine hj_iload_n hC 1 d_Mo_write_80 rfl rfl ?_
      refine hj_iald hC (kd := 15) rfl d_Mo_write_81 hr (fun a10 hr => ?_)
      refine hj_iconst hC (v := 2) d_Mo_write_82 (by decide) ?_
      refine hj_callV hC hG (enc := (fun _ : Unit => none)) (As := [vi_ a10, vi_ 2]) (st := []) (fun h a C S h1 hr => m_Mo_put _ _ _ h a C S h1 hr) cf_Mo wq_486 wq_487 wq_488 wq_389 wq_484 yk_Mo_put rfl ⟨Nat.le_of_ble_eq_true rfl, Nat.le_of_ble_eq_true rfl⟩ rfl (Nat.le_of_ble_eq_true rfl) d_Mo_write_83 hr (fun _ h C S hr => ?_)
      refine hj_aload_n hC 0 d_Mo_write_86 rfl rfl ?_
      refine hj_aload_n hC 0 d_Mo_write_87 rfl rfl ?_
      refine hj_getr hC cf_Mo (k := 13) (by decide) wq_407 rfl d_Mo_write_88 hr (fun a11 hr => ?_)
      refine hj_iload_n hC 1 d_Mo_write_91 rfl rfl ?_
      refine hj_iald hC (kd := 16) rfl d_Mo_write_92 hr (fun a12 hr => ?_)
      refine hj_iconst hC (v := 1) d_Mo_write_93 (by decide) ?_
      refine hj_callV hC hG (enc := (fun _ : Unit => none)) (As := [vi_ a12, vi_ 1]) (st := []) (fun h a C S h1 hr => m_Mo_put _ _ _ h a C S h1 hr) cf_Mo wq_486 wq_487 wq_488 wq_389 wq_484 yk_Mo_put rfl ⟨Nat.le_of_ble_eq_true rfl, Nat.le_of_ble_eq_true rfl⟩ rfl (Nat.le_of_ble_eq_true rfl) d_Mo_write_94 hr (fun _ h C S hr => ?_)
      refine hj_aload_n hC 0 d_Mo_write_97 rfl rfl ?_
      refine hj_aload_n hC 0 d_Mo_write_98 rfl rfl ?_
      refine hj_getr hC cf_Mo (k := 14) (by decide) wq_424 rfl d_Mo_write_99 hr (fun a13 hr => ?_)
      refine hj_iload_n hC 1 d_Mo_write_102 rfl rfl ?_
      refine hj_iald hC (kd := 17) rfl d_Mo_write_103 hr (fun a14 hr => ?_)
      refine hj_iconst hC (v := 2) d_Mo_write_104 (by decide) ?_
      refine hj_callV hC hG (enc := (fun _ : Unit => none)) (As := [vi_ a14, vi_ 2]) (st := []) (fun h a C S h1 hr => m_Mo_put _ _ _ h a C S h1 hr) cf_Mo wq_486 wq_487 wq_488 wq_389 wq_484 yk_Mo_put rfl ⟨Nat.le_of_ble_eq_true rfl, Nat.le_of_ble_eq_true rfl⟩ rfl (Nat.le_of_ble_eq_true rfl) d_Mo_write_105 hr (fun _ h C S hr => ?_)
      refine hj_iconst hC (v := 0) d_Mo_write_108 (by decide) ?_
      refine hj_istore_n hC (lv' := [(2, vi_ 0), (0, vr_ x0), (1, vi_ v1)]) d_Mo_write_109 rfl (by decide) rfl ?_
      refine hj_sub (lv' := [(0, vr_ x0), (1, vi_ v1), (2, vi_ 0)]) [1, 2, 0] rfl ?_
      refine ml_Mo_write_110 hC _ _ _ (fun  h C S hr => ?_) _ _ _ _ _ hr
      refine hj_aload_n hC 0 d_Mo_write_174 rfl rfl ?_
      refine hj_aload_n hC 0 d_Mo_write_175 rfl rfl ?_
      refine hj_getr hC cf_Mo (k := 15) (by decide) wq_416 rfl d_Mo_write_176 hr (fun a24 hr => ?_)
      refine hj_iload_n hC 1 d_Mo_write_179 rfl rfl ?_
      refine hj_iald hC (kd := 18) rfl d_Mo_write_180 hr (fun a25 hr => ?_)
      refine hj_iconst hC (v := 1) d_Mo_write_181 (by decide) ?_
      refine hj_callV hC hG (enc := (fun _ : Unit => none)) (As := [vi_ a25, vi_ 1]) (st := []) (fun h a C S h1 hr => m_Mo_put _ _ _ h a C S h1 hr) cf_Mo wq_486 wq_487 wq_488 wq_389 wq_484 yk_Mo_put rfl ⟨Nat.le_of_ble_eq_true rfl, Nat.le_of_ble_eq_true rfl⟩ rfl (Nat.le_of_ble_eq_true rfl) d_Mo_write_182 hr (fun _ h C S hr => ?_)
      refine hj_bipush hC (v := 6) d_Mo_write_185 (by decide) ?_
      refine hj_iload_n hC 1 d_Mo_write_187 rfl rfl ?_
      refine hj_imul hC d_Mo_write_188 ?_
      refine hj_istore_n hC (lv' := [(2, vi_ (6 * v1)), (0, vr_ x0), (1, vi_ v1)]) d_Mo_write_189 rfl (by decide) rfl ?_
      refine hj_sub (lv' := [(0, vr_ x0), (1, vi_ v1), (2, vi_ (6 * v1))]) [1, 2, 0] rfl ?_
      refine ml_Mo_write_190 hC _ _ _ (fun  h C S hr => ?_) _ _ _ _ _ hr
      refine hj_iinc hC (lv' := [(1, vi_ (v1 + 1)), (0, vr_ x0)]) 1 d_Mo_write_287 rfl rfl (by decide) rfl ?_
      refine hj_goto hC 43 d_Mo_write_290 (by decide) ?_
      refine hj_sub (lv' := [(0, vr_ x0), (1, vi_ (v1 + 1))]) [1, 0] rfl ?_
      exact ih _ _ _ _ hr
set_option maxHeartbeats 4000000 in
set_option maxRecDepth 100000 in
theorem m_Mo_write {l : Launch} {D : va_G} {dA : Nat → ClassId} (o : Option Nat) (h0 : hc_H) (b : Int32) (C0 S0 : Nat) (h2 : hc_H) (hr : p_Mo_write o h0 = some (b, C0, S0, h2)) : hc_Met l (gg D dA) y_Mo_write b_Mo_write 3 (some .int) tb 1 23 [vr_ o] h0 C0 S0 (some (vi_ b)) h2 := by
  refine hc_Met.of (by decide) (Nat.le_of_ble_eq_true rfl) ?_
  intro p e s m args below meth c hC
  unfold p_Mo_write at hr
  refine hj_sub (lv' := [(0, vr_ o)]) [0] rfl ?_
  refine hj_aload_n hC 0 d_Mo_write_0 rfl rfl ?_
  refine hj_iconst hC (v := 0) d_Mo_write_1 (by decide) ?_
  refine hj_puti hC cf_Mo (k := 0) (by decide) wq_444 rfl (Or.inl rfl) rfl d_Mo_write_2 hr (fun h hr => ?_)
  refine hj_aload_n hC 0 d_Mo_write_5 rfl rfl ?_
  refine hj_iconst hC (v := 0) d_Mo_write_6 (by decide) ?_
  refine hj_puti hC cf_Mo (k := 4) (by decide) wq_447 rfl (Or.inl rfl) rfl d_Mo_write_7 hr (fun h hr => ?_)
  refine hj_aload_n hC 0 d_Mo_write_10 rfl rfl ?_
  refine hj_bipush hC (v := 71) d_Mo_write_11 (by decide) ?_
  refine hj_iconst hC (v := 1) d_Mo_write_13 (by decide) ?_
  refine hj_callV hC hG (enc := (fun _ : Unit => none)) (As := [vi_ 71, vi_ 1]) (st := []) (fun h a C S h1 hr => m_Mo_put _ _ _ h a C S h1 hr) cf_Mo wq_486 wq_487 wq_488 wq_389 wq_484 yk_Mo_put rfl ⟨Nat.le_of_ble_eq_true rfl, Nat.le_of_ble_eq_true rfl⟩ rfl (Nat.le_of_ble_eq_true rfl) d_Mo_write_14 hr (fun _ h C S hr => ?_)
  refine hj_aload_n hC 0 d_Mo_write_17 rfl rfl ?_
  refine hj_bipush hC (v := 70) d_Mo_write_18 (by decide) ?_
  refine hj_iconst hC (v := 1) d_Mo_write_20 (by decide) ?_
  refine hj_callV hC hG (enc := (fun _ : Unit => none)) (As := [vi_ 70, vi_ 1]) (st := []) (fun h a C S h1 hr => m_Mo_put _ _ _ h a C S h1 hr) cf_Mo wq_486 wq_487 wq_488 wq_389 wq_484 yk_Mo_put rfl ⟨Nat.le_of_ble_eq_true rfl, Nat.le_of_ble_eq_true rfl⟩ rfl (Nat.le_of_ble_eq_true rfl) d_Mo_write_21 hr (fun _ h C S hr => ?_)
  refine hj_aload_n hC 0 d_Mo_write_24 rfl rfl ?_
  refine hj_iconst hC (v := 1) d_Mo_write_25 (by decide) ?_
  refine hj_iconst hC (v := 1) d_Mo_write_26 (by decide) ?_
  refine hj_callV hC hG (enc := (fun _ : Unit => none)) (As := [vi_ 1, vi_ 1]) (st := []) (fun h a C S h1 hr => m_Mo_put _ _ _ h a C S h1 hr) cf_Mo wq_486 wq_487 wq_488 wq_389 wq_484 yk_Mo_put rfl ⟨Nat.le_of_ble_eq_true rfl, Nat.le_of_ble_eq_true rfl⟩ rfl (Nat.le_of_ble_eq_true rfl) d_Mo_write_27 hr (fun _ h C S hr => ?_)
  refine hj_aload_n hC 0 d_Mo_write_30 rfl rfl ?_
  refine hj_aload_n hC 0 d_Mo_write_31 rfl rfl ?_
  refine hj_getr hC cf_Mo (k := 9) (by decide) wq_436 rfl d_Mo_write_32 hr (fun a1 hr => ?_)
  refine hj_iconst hC (v := 0) d_Mo_write_35 (by decide) ?_
  refine hj_iald hC (kd := 12) rfl d_Mo_write_36 hr (fun a2 hr => ?_)
  refine hj_iconst hC (v := 1) d_Mo_write_37 (by decide) ?_
  refine hj_callV hC hG (enc := (fun _ : Unit => none)) (As := [vi_ a2, vi_ 1]) (st := []) (fun h a C S h1 hr => m_Mo_put _ _ _ h a C S h1 hr) cf_Mo wq_486 wq_487 wq_488 wq_389 wq_484 yk_Mo_put rfl ⟨Nat.le_of_ble_eq_true rfl, Nat.le_of_ble_eq_true rfl⟩ rfl (Nat.le_of_ble_eq_true rfl) d_Mo_write_38 hr (fun _ h C S hr => ?_)
  refine hj_iconst hC (v := 0) d_Mo_write_41 (by decide) ?_
  refine hj_istore_n hC (lv' := [(1, vi_ 0), (0, vr_ o)]) d_Mo_write_42 rfl (by decide) rfl ?_
  refine hj_sub (lv' := [(0, vr_ o), (1, vi_ 0)]) [1, 0] rfl ?_
  refine ml_Mo_write_43 hC _ _ (fun  h C S hr => ?_) _ _ _ _ _ hr
  refine hj_aload_n hC 0 d_Mo_write_293 rfl rfl ?_
  refine hj_geti hC cf_Mo (k := 4) (by decide) wq_447 rfl d_Mo_write_294 hr (fun a42 hr => ?_)
  exact hj_iret hC d_Mo_write_297 hr
set_option maxHeartbeats 4000000 in
set_option maxRecDepth 100000 in
theorem m_Mo_isFunction {l : Launch} {D : va_G} {dA : Nat → ClassId} (o : Option Nat) (x1 : Int32) (h0 : hc_H) (b : Int32) (C0 S0 : Nat) (h2 : hc_H) (hr : p_Mo_isFunction o x1 h0 = some (b, C0, S0, h2)) : hc_Met l (gg D dA) y_Mo_isFunction b_Mo_isFunction 2 (some .boolean) tb 0 0 [vr_ o, vi_ x1] h0 C0 S0 (some (vi_ b)) h2 := by
  refine hc_Met.of (by decide) (Nat.le_of_ble_eq_true rfl) ?_
  intro p e s m args below meth c hC
  unfold p_Mo_isFunction at hr
  refine hj_sub (lv' := [(0, vr_ o), (1, vi_ x1)]) [0, 1] rfl ?_
  refine hj_iload_n hC 1 d_Mo_isFunction_0 rfl rfl ?_
  refine hj_if_lt hC 18 d_Mo_isFunction_1 (by decide) hr (fun q1 hr => ?_) (fun q1 hr => ?_)
  · refine hj_iconst hC (v := 0) d_Mo_isFunction_18 (by decide) ?_
    exact hj_zret hC d_Mo_isFunction_19 hr
  · refine hj_iload_n hC 1 d_Mo_isFunction_4 rfl rfl ?_
    refine hj_aload_n hC 0 d_Mo_isFunction_5 rfl rfl ?_
    refine hj_getr hC cf_Mo (k := 9) (by decide) wq_436 rfl d_Mo_isFunction_6 hr (fun a1 hr => ?_)
    refine hj_iconst hC (v := 0) d_Mo_isFunction_9 (by decide) ?_
    refine hj_iald hC (kd := 12) rfl d_Mo_isFunction_10 hr (fun a2 hr => ?_)
    refine hj_icmp_ge hC 18 d_Mo_isFunction_11 (by decide) hr (fun q11 hr => ?_) (fun q11 hr => ?_)
    · refine hj_iconst hC (v := 0) d_Mo_isFunction_18 (by decide) ?_
      exact hj_zret hC d_Mo_isFunction_19 hr
    · refine hj_iconst hC (v := 1) d_Mo_isFunction_14 (by decide) ?_
      refine hj_goto hC 19 d_Mo_isFunction_15 (by decide) ?_
      exact hj_zret hC d_Mo_isFunction_19 hr
set_option maxHeartbeats 4000000 in
set_option maxRecDepth 100000 in
theorem ml_Mo_isGoal_5 {p : Program} {l : Launch} {e : Env} {s : State} {m : MethodId} {args : Array Value} {below : List Frame} {meth : Method} {c : Code} {D : va_G} {dA : Nat → ClassId} {h0 h2 : hc_H} {C0 S0 : Nat} {b : Int32} (hC : hj_C p s m args meth c (gg D dA) b_Mo_isGoal 6 (some .int) R_Mo "isGoal" tb) (x0 : Option Nat) (x1 : Int32) (x2 : Int32) (kx : Int32 → hM Int32) (hk : ∀ (v3 : Int32) (h : hc_H) (C S : Nat), kx v3 h = some (b, C, S, h2) → hj_J p l e { frames := 0, cells := C0, slots := S0, locals := 0 } s m args below meth c (gg D dA) h0 6 (hj_Q below args s { frames := 0, cells := C0, slots := S0, locals := 0 } (gg D dA) h0 (some (vi_ b)) h2) C S h 74 [(0, vr_ x0), (1, vi_ x1), (2, vi_ x2), (3, vi_ v3)] []) : ∀ (fu : Nat) (v3 : Int32) (v4 : Int32) (h : hc_H) (C S : Nat), p_Mo_isGoal_5 x0 x1 x2 kx fu v3 v4 h = some (b, C, S, h2) → hj_J p l e { frames := 0, cells := C0, slots := S0, locals := 0 } s m args below meth c (gg D dA) h0 6 (hj_Q below args s { frames := 0, cells := C0, slots := S0, locals := 0 } (gg D dA) h0 (some (vi_ b)) h2) C S h 5 [(0, vr_ x0), (1, vi_ x1), (2, vi_ x2), (3, vi_ v3), (4, vi_ v4)] [] := by
  intro fu
  induction fu with
  | zero =>
    intro v3 v4 h C S hr
    cases hr
  | succ fu ih =>
    intro v3 v4 h C S hr
    rw [p_Mo_isGoal_5] at hr
    refine hj_iload hC 4 d_Mo_isGoal_5 rfl ?_
    refine hj_aload_n hC 0 d_Mo_isGoal_7 rfl rfl ?_
    refine hj_getr hC cf_Mo (k := 14) (by decide) wq_424 rfl d_Mo_isGoal_8 hr (fun a1 hr => ?_)
    refine hj_iload_n hC 1 d_Mo_isGoal_11 rfl rfl ?_
    refine hj_iald hC (kd := 17) rfl d_Mo_isGoal_12 hr (fun a2 hr => ?_)
    refine hj_icmp_ge hC 74 d_Mo_isGoal_13 (by decide) hr (fun q13 hr => ?_) (fun q13 hr => ?_)
    · refine hj_sub (lv' := [(0, vr_ x0), (1, vi_ x1), (2, vi_ x2), (3, vi_ v3)]) [0, 1, 2, 3] rfl ?_
      exact hk _ _ _ _ hr
    · refine hj_aload_n hC 0 d_Mo_isGoal_16 rfl rfl ?_
      refine hj_getr hC cf_Mo (k := 16) (by decide) wq_413 rfl d_Mo_isGoal_17 hr (fun a3 hr => ?_)
      refine hj_sipush hC (v := 400) d_Mo_isGoal_20 (by decide) ?_
      refine hj_iload_n hC 1 d_Mo_isGoal_23 rfl rfl ?_
      refine hj_imul hC d_Mo_isGoal_24 ?_
      refine hj_iload hC 4 d_Mo_isGoal_25 rfl ?_
      refine hj_iadd hC d_Mo_isGoal_27 ?_
      refine hj_iald hC (kd := 19) rfl d_Mo_isGoal_28 hr (fun a4 hr => ?_)
      refine hj_istore hC (lv' := [(5, vi_ a4), (0, vr_ x0), (1, vi_ x1), (2, vi_ x2), (3, vi_ v3), (4, vi_ v4)]) d_Mo_isGoal_29 (by decide) rfl ?_
      refine hj_iload hC 0 d_Mo_isGoal_31 rfl ?_
      refine hj_bipush hC (v := 17) d_Mo_isGoal_33 (by decide) ?_
      refine hj_jn hC (K := Int32 → hM Int32) (fun k => ∀ (z5 : Int32) (h : hc_H) (C S : Nat), k z5 h = some (b, C, S, h2) → hj_J p l e { frames := 0, cells := C0, slots := S0, locals := 0 } s m args below meth c (gg D dA) h0 6 (hj_Q below args s { frames := 0, cells := C0, slots := S0, locals := 0 } (gg D dA) h0 (some (vi_ b)) h2) C S h 67 [(0, vr_ x0), (1, vi_ x1), (2, vi_ x2), (4, vi_ v4)] [vi_ z5]) hr (fun z5 h C S hr => ?_) (fun k67 hk67 hr => ?_)
      · refine hj_istore_n hC (lv' := [(3, vi_ z5), (0, vr_ x0), (1, vi_ x1), (2, vi_ x2), (4, vi_ v4)]) d_Mo_isGoal_67 rfl (by decide) rfl ?_
        refine hj_iinc hC (lv' := [(4, vi_ (v4 + 1)), (3, vi_ z5), (0, vr_ x0), (1, vi_ x1), (2, vi_ x2)]) 4 d_Mo_isGoal_68 rfl rfl (by decide) rfl ?_
        refine hj_goto hC 5 d_Mo_isGoal_71 (by decide) ?_
        refine hj_sub (lv' := [(0, vr_ x0), (1, vi_ x1), (2, vi_ x2), (3, vi_ z5), (4, vi_ (v4 + 1))]) [2, 3, 4, 1, 0] rfl ?_
        exact ih _ _ _ _ _ hr
      · refine hj_jn hC (K := hM Int32) (fun k => ∀  (h : hc_H) (C S : Nat), k  h = some (b, C, S, h2) → hj_J p l e { frames := 0, cells := C0, slots := S0, locals := 0 } s m args below meth c (gg D dA) h0 6 (hj_Q below args s { frames := 0, cells := C0, slots := S0, locals := 0 } (gg D dA) h0 (some (vi_ b)) h2) C S h 66 [(0, vr_ x0), (1, vi_ x1), (2, vi_ x2), (3, vi_ v3), (4, vi_ v4)] []) hr (fun  h C S hr => ?_) (fun k66 hk66 hr => ?_)
        · refine hj_iload_n hC 3 d_Mo_isGoal_66 rfl rfl ?_
          refine hj_sub (lv' := [(0, vr_ x0), (1, vi_ x1), (2, vi_ x2), (4, vi_ v4)]) [0, 1, 2, 4] rfl ?_
          exact hk67 _ _ _ _ hr
        · refine hj_icmp_le hC 66 d_Mo_isGoal_35 (by decide) hr (fun q35 hr => ?_) (fun q35 hr => ?_)
          · refine hj_sub (lv' := [(0, vr_ x0), (1, vi_ x1), (2, vi_ x2), (3, vi_ v3), (4, vi_ v4)]) [1, 2, 3, 4, 5] rfl ?_
            exact hk66 _ _ _ hr
          · refine hj_iload hC 0 d_Mo_isGoal_38 rfl ?_
            refine hj_bipush hC (v := 21) d_Mo_isGoal_40 (by decide) ?_
            refine hj_icmp_ge hC 66 d_Mo_isGoal_42 (by decide) hr (fun q42 hr => ?_) (fun q42 hr => ?_)
            · refine hj_sub (lv' := [(0, vr_ x0), (1, vi_ x1), (2, vi_ x2), (3, vi_ v3), (4, vi_ v4)]) [1, 2, 3, 4, 5] rfl ?_
              exact hk66 _ _ _ hr
            · refine hj_aload_n hC 1 d_Mo_isGoal_45 rfl rfl ?_
              refine hj_getr hC cf_Mo (k := 17) (by decide) wq_414 rfl d_Mo_isGoal_46 hr (fun a6 hr => ?_)
              refine hj_sipush hC (v := 400) d_Mo_isGoal_49 (by decide) ?_
              refine hj_iload_n hC 2 d_Mo_isGoal_52 rfl rfl ?_
              refine hj_imul hC d_Mo_isGoal_53 ?_
              refine hj_iload hC 5 d_Mo_isGoal_54 rfl ?_
              refine hj_iadd hC d_Mo_isGoal_56 ?_
              refine hj_iald hC (kd := 20) rfl d_Mo_isGoal_57 hr (fun a7 hr => ?_)
              refine hj_iload_n hC 3 d_Mo_isGoal_58 rfl rfl ?_
              refine hj_icmp_ne hC 66 d_Mo_isGoal_59 (by decide) hr (fun q59 hr => ?_) (fun q59 hr => ?_)
              · refine hj_sub (lv' := [(0, vr_ x0), (1, vi_ x1), (2, vi_ x2), (3, vi_ v3), (4, vi_ v4)]) [1, 2, 3, 4, 5] rfl ?_
                exact hk66 _ _ _ hr
              · refine hj_iconst hC (v := 1) d_Mo_isGoal_62 (by decide) ?_
                refine hj_goto hC 67 d_Mo_isGoal_63 (by decide) ?_
                refine hj_sub (lv' := [(0, vr_ x0), (1, vi_ x1), (2, vi_ x2), (4, vi_ v4)]) [1, 2, 3, 5] rfl ?_
                exact hk67 _ _ _ _ hr
set_option maxHeartbeats 4000000 in
set_option maxRecDepth 100000 in
theorem ml_Mo_isGoal_80 {p : Program} {l : Launch} {e : Env} {s : State} {m : MethodId} {args : Array Value} {below : List Frame} {meth : Method} {c : Code} {D : va_G} {dA : Nat → ClassId} {h0 h2 : hc_H} {C0 S0 : Nat} {b : Int32} (hC : hj_C p s m args meth c (gg D dA) b_Mo_isGoal 6 (some .int) R_Mo "isGoal" tb) (x0 : Option Nat) (x1 : Int32) (x2 : Int32) (kx : Int32 → hM Int32) (hk : ∀ (v3 : Int32) (h : hc_H) (C S : Nat), kx v3 h = some (b, C, S, h2) → hj_J p l e { frames := 0, cells := C0, slots := S0, locals := 0 } s m args below meth c (gg D dA) h0 6 (hj_Q below args s { frames := 0, cells := C0, slots := S0, locals := 0 } (gg D dA) h0 (some (vi_ b)) h2) C S h 119 [(3, vi_ v3)] []) : ∀ (fu : Nat) (v3 : Int32) (v4 : Int32) (h : hc_H) (C S : Nat), p_Mo_isGoal_80 x0 x1 x2 kx fu v3 v4 h = some (b, C, S, h2) → hj_J p l e { frames := 0, cells := C0, slots := S0, locals := 0 } s m args below meth c (gg D dA) h0 6 (hj_Q below args s { frames := 0, cells := C0, slots := S0, locals := 0 } (gg D dA) h0 (some (vi_ b)) h2) C S h 80 [(0, vr_ x0), (1, vi_ x1), (2, vi_ x2), (3, vi_ v3), (4, vi_ v4)] [] := by
  intro fu
  induction fu with
  | zero =>
    intro v3 v4 h C S hr
    cases hr
  | succ fu ih =>
    intro v3 v4 h C S hr
    rw [p_Mo_isGoal_80] at hr
    refine hj_iload hC 4 d_Mo_isGoal_80 rfl ?_
    refine hj_bipush hC (v := 6) d_Mo_isGoal_82 (by decide) ?_
    refine hj_iload_n hC 1 d_Mo_isGoal_84 rfl rfl ?_
    refine hj_imul hC d_Mo_isGoal_85 ?_
    refine hj_aload_n hC 0 d_Mo_isGoal_86 rfl rfl ?_
    refine hj_getr hC cf_Mo (k := 15) (by decide) wq_416 rfl d_Mo_isGoal_87 hr (fun a9 hr => ?_)
    refine hj_iload_n hC 1 d_Mo_isGoal_90 rfl rfl ?_
    refine hj_iald hC (kd := 18) rfl d_Mo_isGoal_91 hr (fun a10 hr => ?_)
    refine hj_iadd hC d_Mo_isGoal_92 ?_
    refine hj_icmp_ge hC 119 d_Mo_isGoal_93 (by decide) hr (fun q93 hr => ?_) (fun q93 hr => ?_)
    · refine hj_sub (lv' := [(3, vi_ v3)]) [3] rfl ?_
      exact hk _ _ _ _ hr
    · refine hj_aload_n hC 0 d_Mo_isGoal_96 rfl rfl ?_
      refine hj_getr hC cf_Mo (k := 20) (by decide) wq_419 rfl d_Mo_isGoal_97 hr (fun a11 hr => ?_)
      refine hj_iload hC 4 d_Mo_isGoal_100 rfl ?_
      refine hj_iald hC (kd := 23) rfl d_Mo_isGoal_102 hr (fun a12 hr => ?_)
      refine hj_iload_n hC 2 d_Mo_isGoal_103 rfl rfl ?_
      refine hj_jn hC (K := Int32 → hM Int32) (fun k => ∀ (z13 : Int32) (h : hc_H) (C S : Nat), k z13 h = some (b, C, S, h2) → hj_J p l e { frames := 0, cells := C0, slots := S0, locals := 0 } s m args below meth c (gg D dA) h0 6 (hj_Q below args s { frames := 0, cells := C0, slots := S0, locals := 0 } (gg D dA) h0 (some (vi_ b)) h2) C S h 112 [(0, vr_ x0), (1, vi_ x1), (2, vi_ x2), (4, vi_ v4)] [vi_ z13]) hr (fun z13 h C S hr => ?_) (fun k112 hk112 hr => ?_)
      · refine hj_istore_n hC (lv' := [(3, vi_ z13), (0, vr_ x0), (1, vi_ x1), (2, vi_ x2), (4, vi_ v4)]) d_Mo_isGoal_112 rfl (by decide) rfl ?_
        refine hj_iinc hC (lv' := [(4, vi_ (v4 + 1)), (3, vi_ z13), (0, vr_ x0), (1, vi_ x1), (2, vi_ x2)]) 4 d_Mo_isGoal_113 rfl rfl (by decide) rfl ?_
        refine hj_goto hC 80 d_Mo_isGoal_116 (by decide) ?_
        refine hj_sub (lv' := [(0, vr_ x0), (1, vi_ x1), (2, vi_ x2), (3, vi_ z13), (4, vi_ (v4 + 1))]) [2, 3, 4, 1, 0] rfl ?_
        exact ih _ _ _ _ _ hr
      · refine hj_icmp_ne hC 111 d_Mo_isGoal_104 (by decide) hr (fun q104 hr => ?_) (fun q104 hr => ?_)
        · refine hj_iload_n hC 3 d_Mo_isGoal_111 rfl rfl ?_
          refine hj_sub (lv' := [(0, vr_ x0), (1, vi_ x1), (2, vi_ x2), (4, vi_ v4)]) [0, 1, 2, 4] rfl ?_
          exact hk112 _ _ _ _ hr
        · refine hj_iconst hC (v := 1) d_Mo_isGoal_107 (by decide) ?_
          refine hj_goto hC 112 d_Mo_isGoal_108 (by decide) ?_
          refine hj_sub (lv' := [(0, vr_ x0), (1, vi_ x1), (2, vi_ x2), (4, vi_ v4)]) [0, 1, 2, 4] rfl ?_
          exact hk112 _ _ _ _ hr
set_option maxHeartbeats 4000000 in
set_option maxRecDepth 100000 in
theorem m_Mo_isGoal {l : Launch} {D : va_G} {dA : Nat → ClassId} (o : Option Nat) (x1 : Int32) (x2 : Int32) (h0 : hc_H) (b : Int32) (C0 S0 : Nat) (h2 : hc_H) (hr : p_Mo_isGoal o x1 x2 h0 = some (b, C0, S0, h2)) : hc_Met l (gg D dA) y_Mo_isGoal b_Mo_isGoal 6 (some .int) tb 0 0 [vr_ o, vi_ x1, vi_ x2] h0 C0 S0 (some (vi_ b)) h2 := by
  refine hc_Met.of (by decide) (Nat.le_of_ble_eq_true rfl) ?_
  intro p e s m args below meth c hC
  unfold p_Mo_isGoal at hr
  refine hj_sub (lv' := [(0, vr_ o), (1, vi_ x1), (2, vi_ x2)]) [0, 1, 2] rfl ?_
  refine hj_iconst hC (v := 0) d_Mo_isGoal_0 (by decide) ?_
  refine hj_istore_n hC (lv' := [(3, vi_ 0), (0, vr_ o), (1, vi_ x1), (2, vi_ x2)]) d_Mo_isGoal_1 rfl (by decide) rfl ?_
  refine hj_iconst hC (v := 0) d_Mo_isGoal_2 (by decide) ?_
  refine hj_istore hC (lv' := [(4, vi_ 0), (3, vi_ 0), (0, vr_ o), (1, vi_ x1), (2, vi_ x2)]) d_Mo_isGoal_3 (by decide) rfl ?_
  refine hj_sub (lv' := [(0, vr_ o), (1, vi_ x1), (2, vi_ x2), (3, vi_ 0), (4, vi_ 0)]) [2, 3, 4, 1, 0] rfl ?_
  refine ml_Mo_isGoal_5 hC _ _ _ _ (fun v3_8 h C S hr => ?_) _ _ _ _ _ _ hr
  refine hj_bipush hC (v := 6) d_Mo_isGoal_74 (by decide) ?_
  refine hj_iload_n hC 1 d_Mo_isGoal_76 rfl rfl ?_
  refine hj_imul hC d_Mo_isGoal_77 ?_
  refine hj_istore hC (lv' := [(4, vi_ (6 * x1)), (0, vr_ o), (1, vi_ x1), (2, vi_ x2), (3, vi_ v3_8)]) d_Mo_isGoal_78 (by decide) rfl ?_
  refine hj_sub (lv' := [(0, vr_ o), (1, vi_ x1), (2, vi_ x2), (3, vi_ v3_8), (4, vi_ (6 * x1))]) [1, 2, 3, 4, 0] rfl ?_
  refine ml_Mo_isGoal_80 hC _ _ _ _ (fun v3_14 h C S hr => ?_) _ _ _ _ _ _ hr
  refine hj_iload_n hC 0 d_Mo_isGoal_119 rfl rfl ?_
  exact hj_iret hC d_Mo_isGoal_120 hr
