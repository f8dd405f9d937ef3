theorem d_Function_typeOfLocal_0 : decode b_Function_typeOfLocal 0 = .ok (.aload_n 0, 1) := by decide +kernel
theorem d_Function_typeOfLocal_1 : decode b_Function_typeOfLocal 1 = .ok (.getfield 35, 3) := by decide +kernel
theorem d_Function_typeOfLocal_4 : decode b_Function_typeOfLocal 4 = .ok (.iload_n 1, 1) := by decide +kernel
theorem d_Function_typeOfLocal_5 : decode b_Function_typeOfLocal 5 = .ok (.ishr, 1) := by decide +kernel
theorem d_Function_typeOfLocal_6 : decode b_Function_typeOfLocal 6 = .ok (.iconst 1, 1) := by decide +kernel
theorem d_Function_typeOfLocal_7 : decode b_Function_typeOfLocal 7 = .ok (.iand, 1) := by decide +kernel
theorem d_Function_typeOfLocal_8 : decode b_Function_typeOfLocal 8 = .ok (.iconst 1, 1) := by decide +kernel
theorem d_Function_typeOfLocal_9 : decode b_Function_typeOfLocal 9 = .ok (.if_icmp .ne 7, 3) := by decide +kernel
theorem d_Function_typeOfLocal_12 : decode b_Function_typeOfLocal 12 = .ok (.iconst 2, 1) := by decide +kernel
theorem d_Function_typeOfLocal_13 : decode b_Function_typeOfLocal 13 = .ok (.goto 4, 3) := by decide +kernel
theorem d_Function_typeOfLocal_16 : decode b_Function_typeOfLocal 16 = .ok (.iconst 1, 1) := by decide +kernel
theorem d_Function_typeOfLocal_17 : decode b_Function_typeOfLocal 17 = .ok (.ireturn, 1) := by decide +kernel
theorem d_Verifier_useRow_0 : decode b_Verifier_useRow 0 = .ok (.iload_n 1, 1) := by decide +kernel
theorem d_Verifier_useRow_1 : decode b_Verifier_useRow 1 = .ok (.bipush 21, 2) := by decide +kernel
theorem d_Verifier_useRow_3 : decode b_Verifier_useRow 3 = .ok (.if_icmp .ne 15, 3) := by decide +kernel
theorem d_Verifier_useRow_6 : decode b_Verifier_useRow 6 = .ok (.aload_n 0, 1) := by decide +kernel
theorem d_Verifier_useRow_7 : decode b_Verifier_useRow 7 = .ok (.iconst 1, 1) := by decide +kernel
theorem d_Verifier_useRow_8 : decode b_Verifier_useRow 8 = .ok (.invokevirtual 144, 3) := by decide +kernel
theorem d_Verifier_useRow_11 : decode b_Verifier_useRow 11 = .ok (.pop, 1) := by decide +kernel
theorem d_Verifier_useRow_12 : decode b_Verifier_useRow 12 = .ok (.aload_n 0, 1) := by decide +kernel
theorem d_Verifier_useRow_13 : decode b_Verifier_useRow 13 = .ok (.iconst 2, 1) := by decide +kernel
theorem d_Verifier_useRow_14 : decode b_Verifier_useRow 14 = .ok (.invokevirtual 141, 3) := by decide +kernel
theorem d_Verifier_useRow_17 : decode b_Verifier_useRow 17 = .ok (.return_, 1) := by decide +kernel
theorem d_Verifier_useRow_18 : decode b_Verifier_useRow 18 = .ok (.iload_n 1, 1) := by decide +kernel
theorem d_Verifier_useRow_19 : decode b_Verifier_useRow 19 = .ok (.bipush 24, 2) := by decide +kernel
theorem d_Verifier_useRow_21 : decode b_Verifier_useRow 21 = .ok (.if_icmp .eq 9, 3) := by decide +kernel
theorem d_Verifier_useRow_24 : decode b_Verifier_useRow 24 = .ok (.aload_n 0, 1) := by decide +kernel
theorem d_Verifier_useRow_25 : decode b_Verifier_useRow 25 = .ok (.iconst 1, 1) := by decide +kernel
theorem d_Verifier_useRow_26 : decode b_Verifier_useRow 26 = .ok (.invokevirtual 144, 3) := by decide +kernel
theorem d_Verifier_useRow_29 : decode b_Verifier_useRow 29 = .ok (.pop, 1) := by decide +kernel
theorem d_Verifier_useRow_30 : decode b_Verifier_useRow 30 = .ok (.iload_n 1, 1) := by decide +kernel
theorem d_Verifier_useRow_31 : decode b_Verifier_useRow 31 = .ok (.bipush 23, 2) := by decide +kernel
theorem d_Verifier_useRow_33 : decode b_Verifier_useRow 33 = .ok (.if_icmp .ne 9, 3) := by decide +kernel
theorem d_Verifier_useRow_36 : decode b_Verifier_useRow 36 = .ok (.aload_n 0, 1) := by decide +kernel
theorem d_Verifier_useRow_37 : decode b_Verifier_useRow 37 = .ok (.iconst 1, 1) := by decide +kernel
theorem d_Verifier_useRow_38 : decode b_Verifier_useRow 38 = .ok (.invokevirtual 144, 3) := by decide +kernel
theorem d_Verifier_useRow_41 : decode b_Verifier_useRow 41 = .ok (.pop, 1) := by decide +kernel
theorem d_Verifier_useRow_42 : decode b_Verifier_useRow 42 = .ok (.aload_n 0, 1) := by decide +kernel
theorem d_Verifier_useRow_43 : decode b_Verifier_useRow 43 = .ok (.iconst 2, 1) := by decide +kernel
theorem d_Verifier_useRow_44 : decode b_Verifier_useRow 44 = .ok (.invokevirtual 144, 3) := by decide +kernel
theorem d_Verifier_useRow_47 : decode b_Verifier_useRow 47 = .ok (.pop, 1) := by decide +kernel
theorem d_Verifier_useRow_48 : decode b_Verifier_useRow 48 = .ok (.iload_n 1, 1) := by decide +kernel
theorem d_Verifier_useRow_49 : decode b_Verifier_useRow 49 = .ok (.bipush 23, 2) := by decide +kernel
theorem d_Verifier_useRow_51 : decode b_Verifier_useRow 51 = .ok (.if_icmp .eq 8, 3) := by decide +kernel
theorem d_Verifier_useRow_54 : decode b_Verifier_useRow 54 = .ok (.aload_n 0, 1) := by decide +kernel
theorem d_Verifier_useRow_55 : decode b_Verifier_useRow 55 = .ok (.iconst 1, 1) := by decide +kernel
theorem d_Verifier_useRow_56 : decode b_Verifier_useRow 56 = .ok (.invokevirtual 141, 3) := by decide +kernel
theorem d_Verifier_useRow_59 : decode b_Verifier_useRow 59 = .ok (.return_, 1) := by decide +kernel
theorem d_Verifier_callFunction_0 : decode b_Verifier_callFunction 0 = .ok (.aload_n 1, 1) := by decide +kernel
theorem d_Verifier_callFunction_1 : decode b_Verifier_callFunction 1 = .ok (.ifnonnull 4, 3) := by decide +kernel
theorem d_Verifier_callFunction_4 : decode b_Verifier_callFunction 4 = .ok (.return_, 1) := by decide +kernel
theorem d_Verifier_callFunction_5 : decode b_Verifier_callFunction 5 = .ok (.aload_n 1, 1) := by decide +kernel
theorem d_Verifier_callFunction_6 : decode b_Verifier_callFunction 6 = .ok (.getfield 173, 3) := by decide +kernel
theorem d_Verifier_callFunction_9 : decode b_Verifier_callFunction 9 = .ok (.iconst 1, 1) := by decide +kernel
theorem d_Verifier_callFunction_10 : decode b_Verifier_callFunction 10 = .ok (.isub, 1) := by decide +kernel
theorem d_Verifier_callFunction_11 : decode b_Verifier_callFunction 11 = .ok (.istore_n 2, 1) := by decide +kernel
theorem d_Verifier_callFunction_12 : decode b_Verifier_callFunction 12 = .ok (.iload_n 2, 1) := by decide +kernel
theorem d_Verifier_callFunction_13 : decode b_Verifier_callFunction 13 = .ok (.ifCond .lt 19, 3) := by decide +kernel
theorem d_Verifier_callFunction_16 : decode b_Verifier_callFunction 16 = .ok (.aload_n 0, 1) := by decide +kernel
theorem d_Verifier_callFunction_17 : decode b_Verifier_callFunction 17 = .ok (.aload_n 1, 1) := by decide +kernel
theorem d_Verifier_callFunction_18 : decode b_Verifier_callFunction 18 = .ok (.iload_n 2, 1) := by decide +kernel
theorem d_Verifier_callFunction_19 : decode b_Verifier_callFunction 19 = .ok (.invokevirtual 154, 3) := by decide +kernel
theorem d_Verifier_callFunction_22 : decode b_Verifier_callFunction 22 = .ok (.invokevirtual 144, 3) := by decide +kernel
theorem d_Verifier_callFunction_25 : decode b_Verifier_callFunction 25 = .ok (.pop, 1) := by decide +kernel
theorem d_Verifier_callFunction_26 : decode b_Verifier_callFunction 26 = .ok (.iinc 2 (-1), 3) := by decide +kernel
theorem d_Verifier_callFunction_29 : decode b_Verifier_callFunction 29 = .ok (.goto (-17), 3) := by decide +kernel
theorem d_Verifier_callFunction_32 : decode b_Verifier_callFunction 32 = .ok (.aload_n 1, 1) := by decide +kernel
theorem d_Verifier_callFunction_33 : decode b_Verifier_callFunction 33 = .ok (.getfield 176, 3) := by decide +kernel
theorem d_Verifier_callFunction_36 : decode b_Verifier_callFunction 36 = .ok (.ifCond .eq 11, 3) := by decide +kernel
theorem d_Verifier_callFunction_39 : decode b_Verifier_callFunction 39 = .ok (.aload_n 0, 1) := by decide +kernel
theorem d_Verifier_callFunction_40 : decode b_Verifier_callFunction 40 = .ok (.aload_n 1, 1) := by decide +kernel
theorem d_Verifier_callFunction_41 : decode b_Verifier_callFunction 41 = .ok (.getfield 176, 3) := by decide +kernel
theorem d_Verifier_callFunction_44 : decode b_Verifier_callFunction 44 = .ok (.invokevirtual 141, 3) := by decide +kernel
theorem d_Verifier_callFunction_47 : decode b_Verifier_callFunction 47 = .ok (.return_, 1) := by decide +kernel
theorem d_Verifier_takeInts_0 : decode b_Verifier_takeInts 0 = .ok (.iconst 0, 1) := by decide +kernel
theorem d_Verifier_takeInts_1 : decode b_Verifier_takeInts 1 = .ok (.istore_n 2, 1) := by decide +kernel
theorem d_Verifier_takeInts_2 : decode b_Verifier_takeInts 2 = .ok (.iload_n 2, 1) := by decide +kernel
theorem d_Verifier_takeInts_3 : decode b_Verifier_takeInts 3 = .ok (.iload_n 1, 1) := by decide +kernel
theorem d_Verifier_takeInts_4 : decode b_Verifier_takeInts 4 = .ok (.if_icmp .ge 15, 3) := by decide +kernel
theorem d_Verifier_takeInts_7 : decode b_Verifier_takeInts 7 = .ok (.aload_n 0, 1) := by decide +kernel
theorem d_Verifier_takeInts_8 : decode b_Verifier_takeInts 8 = .ok (.iconst 1, 1) := by decide +kernel
theorem d_Verifier_takeInts_9 : decode b_Verifier_takeInts 9 = .ok (.invokevirtual 144, 3) := by decide +kernel
theorem d_Verifier_takeInts_12 : decode b_Verifier_takeInts 12 = .ok (.pop, 1) := by decide +kernel
theorem d_Verifier_takeInts_13 : decode b_Verifier_takeInts 13 = .ok (.iinc 2 1, 3) := by decide +kernel
theorem d_Verifier_takeInts_16 : decode b_Verifier_takeInts 16 = .ok (.goto (-14), 3) := by decide +kernel
theorem d_Verifier_takeInts_19 : decode b_Verifier_takeInts 19 = .ok (.return_, 1) := by decide +kernel
theorem d_Verifier_takeResult_0 : decode b_Verifier_takeResult 0 = .ok (.aload_n 0, 1) := by decide +kernel
theorem d_Verifier_takeResult_1 : decode b_Verifier_takeResult 1 = .ok (.getfield 32, 3) := by decide +kernel
theorem d_Verifier_takeResult_4 : decode b_Verifier_takeResult 4 = .ok (.getfield 176, 3) := by decide +kernel
theorem d_Verifier_takeResult_7 : decode b_Verifier_takeResult 7 = .ok (.ifCond .eq 15, 3) := by decide +kernel
theorem d_Verifier_takeResult_10 : decode b_Verifier_takeResult 10 = .ok (.aload_n 0, 1) := by decide +kernel
theorem d_Verifier_takeResult_11 : decode b_Verifier_takeResult 11 = .ok (.aload_n 0, 1) := by decide +kernel
theorem d_Verifier_takeResult_12 : decode b_Verifier_takeResult 12 = .ok (.getfield 32, 3) := by decide +kernel
theorem d_Verifier_takeResult_15 : decode b_Verifier_takeResult 15 = .ok (.getfield 176, 3) := by decide +kernel
theorem d_Verifier_takeResult_18 : decode b_Verifier_takeResult 18 = .ok (.invokevirtual 144, 3) := by decide +kernel
theorem d_Verifier_takeResult_21 : decode b_Verifier_takeResult 21 = .ok (.pop, 1) := by decide +kernel
theorem d_Verifier_takeResult_22 : decode b_Verifier_takeResult 22 = .ok (.return_, 1) := by decide +kernel
theorem d_Verifier_putInts_0 : decode b_Verifier_putInts 0 = .ok (.iconst 0, 1) := by decide +kernel
theorem d_Verifier_putInts_1 : decode b_Verifier_putInts 1 = .ok (.istore_n 2, 1) := by decide +kernel
theorem d_Verifier_putInts_2 : decode b_Verifier_putInts 2 = .ok (.iload_n 2, 1) := by decide +kernel
theorem d_Verifier_putInts_3 : decode b_Verifier_putInts 3 = .ok (.iload_n 1, 1) := by decide +kernel
theorem d_Verifier_putInts_4 : decode b_Verifier_putInts 4 = .ok (.if_icmp .ge 14, 3) := by decide +kernel
theorem d_Verifier_putInts_7 : decode b_Verifier_putInts 7 = .ok (.aload_n 0, 1) := by decide +kernel
theorem d_Verifier_putInts_8 : decode b_Verifier_putInts 8 = .ok (.iconst 1, 1) := by decide +kernel
theorem d_Verifier_putInts_9 : decode b_Verifier_putInts 9 = .ok (.invokevirtual 141, 3) := by decide +kernel
theorem d_Verifier_putInts_12 : decode b_Verifier_putInts 12 = .ok (.iinc 2 1, 3) := by decide +kernel
theorem d_Verifier_putInts_15 : decode b_Verifier_putInts 15 = .ok (.goto (-13), 3) := by decide +kernel
theorem d_Verifier_putInts_18 : decode b_Verifier_putInts 18 = .ok (.return_, 1) := by decide +kernel
theorem d_Verifier_takeAndPut_0 : decode b_Verifier_takeAndPut 0 = .ok (.iload_n 1, 1) := by decide +kernel
theorem d_Verifier_takeAndPut_1 : decode b_Verifier_takeAndPut 1 = .ok (.tableswitch 271 0 29 #[135, 143, 152, 159, 166, 181, 271, 271, 271, 271, 271, 271, 271, 271, 271, 271, 271, 271, 197, 200, 200, 209, 209, 209, 209, 217, 232, 247, 200, 254], 135) := by decide +kernel
theorem d_Verifier_takeAndPut_136 : decode b_Verifier_takeAndPut 136 = .ok (.aload_n 0, 1) := by decide +kernel
theorem d_Verifier_takeAndPut_137 : decode b_Verifier_takeAndPut 137 = .ok (.iconst 1, 1) := by decide +kernel
theorem d_Verifier_takeAndPut_138 : decode b_Verifier_takeAndPut 138 = .ok (.invokevirtual 141, 3) := by decide +kernel
theorem d_Verifier_takeAndPut_141 : decode b_Verifier_takeAndPut 141 = .ok (.goto 141, 3) := by decide +kernel
theorem d_Verifier_takeAndPut_144 : decode b_Verifier_takeAndPut 144 = .ok (.aload_n 0, 1) := by decide +kernel
theorem d_Verifier_takeAndPut_145 : decode b_Verifier_takeAndPut 145 = .ok (.iconst 0, 1) := by decide +kernel
theorem d_Verifier_takeAndPut_146 : decode b_Verifier_takeAndPut 146 = .ok (.invokevirtual 144, 3) := by decide +kernel
theorem d_Verifier_takeAndPut_149 : decode b_Verifier_takeAndPut 149 = .ok (.pop, 1) := by decide +kernel
theorem d_Verifier_takeAndPut_150 : decode b_Verifier_takeAndPut 150 = .ok (.goto 132, 3) := by decide +kernel
theorem d_Verifier_takeAndPut_153 : decode b_Verifier_takeAndPut 153 = .ok (.aload_n 0, 1) := by decide +kernel
theorem d_Verifier_takeAndPut_154 : decode b_Verifier_takeAndPut 154 = .ok (.invokevirtual 148, 3) := by decide +kernel
theorem d_Verifier_takeAndPut_157 : decode b_Verifier_takeAndPut 157 = .ok (.goto 125, 3) := by decide +kernel
theorem d_Verifier_takeAndPut_160 : decode b_Verifier_takeAndPut 160 = .ok (.aload_n 0, 1) := by decide +kernel
theorem d_Verifier_takeAndPut_161 : decode b_Verifier_takeAndPut 161 = .ok (.invokevirtual 151, 3) := by decide +kernel
theorem d_Verifier_takeAndPut_164 : decode b_Verifier_takeAndPut 164 = .ok (.goto 118, 3) := by decide +kernel
theorem d_Verifier_takeAndPut_167 : decode b_Verifier_takeAndPut 167 = .ok (.aload_n 0, 1) := by decide +kernel
theorem d_Verifier_takeAndPut_168 : decode b_Verifier_takeAndPut 168 = .ok (.aload_n 0, 1) := by decide +kernel
theorem d_Verifier_takeAndPut_169 : decode b_Verifier_takeAndPut 169 = .ok (.getfield 32, 3) := by decide +kernel
theorem d_Verifier_takeAndPut_172 : decode b_Verifier_takeAndPut 172 = .ok (.iload_n 2, 1) := by decide +kernel
theorem d_Verifier_takeAndPut_173 : decode b_Verifier_takeAndPut 173 = .ok (.invokevirtual 154, 3) := by decide +kernel
theorem d_Verifier_takeAndPut_176 : decode b_Verifier_takeAndPut 176 = .ok (.invokevirtual 141, 3) := by decide +kernel
theorem d_Verifier_takeAndPut_179 : decode b_Verifier_takeAndPut 179 = .ok (.goto 103, 3) := by decide +kernel
theorem d_Verifier_takeAndPut_182 : decode b_Verifier_takeAndPut 182 = .ok (.aload_n 0, 1) := by decide +kernel
theorem d_Verifier_takeAndPut_183 : decode b_Verifier_takeAndPut 183 = .ok (.aload_n 0, 1) := by decide +kernel
theorem d_Verifier_takeAndPut_184 : decode b_Verifier_takeAndPut 184 = .ok (.getfield 32, 3) := by decide +kernel
theorem d_Verifier_takeAndPut_187 : decode b_Verifier_takeAndPut 187 = .ok (.iload_n 2, 1) := by decide +kernel
theorem d_Verifier_takeAndPut_188 : decode b_Verifier_takeAndPut 188 = .ok (.invokevirtual 154, 3) := by decide +kernel
theorem d_Verifier_takeAndPut_191 : decode b_Verifier_takeAndPut 191 = .ok (.invokevirtual 144, 3) := by decide +kernel
theorem d_Verifier_takeAndPut_194 : decode b_Verifier_takeAndPut 194 = .ok (.pop, 1) := by decide +kernel
theorem d_Verifier_takeAndPut_195 : decode b_Verifier_takeAndPut 195 = .ok (.goto 87, 3) := by decide +kernel
theorem d_Verifier_takeAndPut_198 : decode b_Verifier_takeAndPut 198 = .ok (.goto 84, 3) := by decide +kernel
theorem d_Verifier_takeAndPut_201 : decode b_Verifier_takeAndPut 201 = .ok (.aload_n 0, 1) := by decide +kernel
theorem d_Verifier_takeAndPut_202 : decode b_Verifier_takeAndPut 202 = .ok (.iconst 1, 1) := by decide +kernel
theorem d_Verifier_takeAndPut_203 : decode b_Verifier_takeAndPut 203 = .ok (.invokevirtual 144, 3) := by decide +kernel
theorem d_Verifier_takeAndPut_206 : decode b_Verifier_takeAndPut 206 = .ok (.pop, 1) := by decide +kernel
theorem d_Verifier_takeAndPut_207 : decode b_Verifier_takeAndPut 207 = .ok (.goto 75, 3) := by decide +kernel
theorem d_Verifier_takeAndPut_210 : decode b_Verifier_takeAndPut 210 = .ok (.aload_n 0, 1) := by decide +kernel
theorem d_Verifier_takeAndPut_211 : decode b_Verifier_takeAndPut 211 = .ok (.iload_n 1, 1) := by decide +kernel
theorem d_Verifier_takeAndPut_212 : decode b_Verifier_takeAndPut 212 = .ok (.invokevirtual 157, 3) := by decide +kernel
theorem d_Verifier_takeAndPut_215 : decode b_Verifier_takeAndPut 215 = .ok (.goto 67, 3) := by decide +kernel
theorem d_Verifier_takeAndPut_218 : decode b_Verifier_takeAndPut 218 = .ok (.aload_n 0, 1) := by decide +kernel
theorem d_Verifier_takeAndPut_219 : decode b_Verifier_takeAndPut 219 = .ok (.aload_n 0, 1) := by decide +kernel
theorem d_Verifier_takeAndPut_220 : decode b_Verifier_takeAndPut 220 = .ok (.getfield 28, 3) := by decide +kernel
theorem d_Verifier_takeAndPut_223 : decode b_Verifier_takeAndPut 223 = .ok (.iload_n 2, 1) := by decide +kernel
theorem d_Verifier_takeAndPut_224 : decode b_Verifier_takeAndPut 224 = .ok (.invokevirtual 22, 3) := by decide +kernel
theorem d_Verifier_takeAndPut_227 : decode b_Verifier_takeAndPut 227 = .ok (.invokevirtual 160, 3) := by decide +kernel
theorem d_Verifier_takeAndPut_230 : decode b_Verifier_takeAndPut 230 = .ok (.goto 52, 3) := by decide +kernel
theorem d_Verifier_takeAndPut_233 : decode b_Verifier_takeAndPut 233 = .ok (.aload_n 0, 1) := by decide +kernel
theorem d_Verifier_takeAndPut_234 : decode b_Verifier_takeAndPut 234 = .ok (.iload_n 2, 1) := by decide +kernel
theorem d_Verifier_takeAndPut_235 : decode b_Verifier_takeAndPut 235 = .ok (.iconst 4, 1) := by decide +kernel
theorem d_Verifier_takeAndPut_236 : decode b_Verifier_takeAndPut 236 = .ok (.irem, 1) := by decide +kernel
theorem d_Verifier_takeAndPut_237 : decode b_Verifier_takeAndPut 237 = .ok (.invokevirtual 164, 3) := by decide +kernel
theorem d_Verifier_takeAndPut_240 : decode b_Verifier_takeAndPut 240 = .ok (.aload_n 0, 1) := by decide +kernel
theorem d_Verifier_takeAndPut_241 : decode b_Verifier_takeAndPut 241 = .ok (.iconst 1, 1) := by decide +kernel
theorem d_Verifier_takeAndPut_242 : decode b_Verifier_takeAndPut 242 = .ok (.invokevirtual 141, 3) := by decide +kernel
theorem d_Verifier_takeAndPut_245 : decode b_Verifier_takeAndPut 245 = .ok (.goto 37, 3) := by decide +kernel
theorem d_Verifier_takeAndPut_248 : decode b_Verifier_takeAndPut 248 = .ok (.aload_n 0, 1) := by decide +kernel
theorem d_Verifier_takeAndPut_249 : decode b_Verifier_takeAndPut 249 = .ok (.invokevirtual 167, 3) := by decide +kernel
theorem d_Verifier_takeAndPut_252 : decode b_Verifier_takeAndPut 252 = .ok (.goto 30, 3) := by decide +kernel
theorem d_Verifier_takeAndPut_255 : decode b_Verifier_takeAndPut 255 = .ok (.aload_n 0, 1) := by decide +kernel
theorem d_Verifier_takeAndPut_256 : decode b_Verifier_takeAndPut 256 = .ok (.iload_n 2, 1) := by decide +kernel
theorem d_Verifier_takeAndPut_257 : decode b_Verifier_takeAndPut 257 = .ok (.iconst 4, 1) := by decide +kernel
theorem d_Verifier_takeAndPut_258 : decode b_Verifier_takeAndPut 258 = .ok (.irem, 1) := by decide +kernel
theorem d_Verifier_takeAndPut_259 : decode b_Verifier_takeAndPut 259 = .ok (.invokevirtual 164, 3) := by decide +kernel
theorem d_Verifier_takeAndPut_262 : decode b_Verifier_takeAndPut 262 = .ok (.aload_n 0, 1) := by decide +kernel
theorem d_Verifier_takeAndPut_263 : decode b_Verifier_takeAndPut 263 = .ok (.iload_n 2, 1) := by decide +kernel
theorem d_Verifier_takeAndPut_264 : decode b_Verifier_takeAndPut 264 = .ok (.iconst 4, 1) := by decide +kernel
theorem d_Verifier_takeAndPut_265 : decode b_Verifier_takeAndPut 265 = .ok (.irem, 1) := by decide +kernel
theorem d_Verifier_takeAndPut_266 : decode b_Verifier_takeAndPut 266 = .ok (.invokevirtual 170, 3) := by decide +kernel
theorem d_Verifier_takeAndPut_269 : decode b_Verifier_takeAndPut 269 = .ok (.goto 13, 3) := by decide +kernel
theorem d_Verifier_takeAndPut_272 : decode b_Verifier_takeAndPut 272 = .ok (.aload_n 0, 1) := by decide +kernel
theorem d_Verifier_takeAndPut_273 : decode b_Verifier_takeAndPut 273 = .ok (.iconst 2, 1) := by decide +kernel
theorem d_Verifier_takeAndPut_274 : decode b_Verifier_takeAndPut 274 = .ok (.invokevirtual 164, 3) := by decide +kernel
theorem d_Verifier_takeAndPut_277 : decode b_Verifier_takeAndPut 277 = .ok (.aload_n 0, 1) := by decide +kernel
theorem d_Verifier_takeAndPut_278 : decode b_Verifier_takeAndPut 278 = .ok (.iconst 1, 1) := by decide +kernel
theorem d_Verifier_takeAndPut_279 : decode b_Verifier_takeAndPut 279 = .ok (.invokevirtual 141, 3) := by decide +kernel
theorem d_Verifier_takeAndPut_282 : decode b_Verifier_takeAndPut 282 = .ok (.return_, 1) := by decide +kernel
theorem d_Handler_covers_0 : decode b_Handler_covers 0 = .ok (.iload_n 1, 1) := by decide +kernel
theorem d_Handler_covers_1 : decode b_Handler_covers 1 = .ok (.aload_n 0, 1) := by decide +kernel
theorem d_Handler_covers_2 : decode b_Handler_covers 2 = .ok (.getfield 7, 3) := by decide +kernel
theorem d_Handler_covers_5 : decode b_Handler_covers 5 = .ok (.if_icmp .lt 15, 3) := by decide +kernel
theorem d_Handler_covers_8 : decode b_Handler_covers 8 = .ok (.iload_n 1, 1) := by decide +kernel
theorem d_Handler_covers_9 : decode b_Handler_covers 9 = .ok (.aload_n 0, 1) := by decide +kernel
theorem d_Handler_covers_10 : decode b_Handler_covers 10 = .ok (.getfield 13, 3) := by decide +kernel
theorem d_Handler_covers_13 : decode b_Handler_covers 13 = .ok (.if_icmp .ge 7, 3) := by decide +kernel
theorem d_Handler_covers_16 : decode b_Handler_covers 16 = .ok (.iconst 1, 1) := by decide +kernel
theorem d_Handler_covers_17 : decode b_Handler_covers 17 = .ok (.goto 4, 3) := by decide +kernel
theorem d_Handler_covers_20 : decode b_Handler_covers 20 = .ok (.iconst 0, 1) := by decide +kernel
theorem d_Handler_covers_21 : decode b_Handler_covers 21 = .ok (.ireturn, 1) := by decide +kernel
theorem d_Verifier_comeToHandlers_0 : decode b_Verifier_comeToHandlers 0 = .ok (.iconst 0, 1) := by decide +kernel
theorem d_Verifier_comeToHandlers_1 : decode b_Verifier_comeToHandlers 1 = .ok (.istore_n 1, 1) := by decide +kernel
theorem d_Verifier_comeToHandlers_2 : decode b_Verifier_comeToHandlers 2 = .ok (.iload_n 1, 1) := by decide +kernel
theorem d_Verifier_comeToHandlers_3 : decode b_Verifier_comeToHandlers 3 = .ok (.aload_n 0, 1) := by decide +kernel
theorem d_Verifier_comeToHandlers_4 : decode b_Verifier_comeToHandlers 4 = .ok (.getfield 32, 3) := by decide +kernel
theorem d_Verifier_comeToHandlers_7 : decode b_Verifier_comeToHandlers 7 = .ok (.getfield 114, 3) := by decide +kernel
theorem d_Verifier_comeToHandlers_10 : decode b_Verifier_comeToHandlers 10 = .ok (.if_icmp .ge 40, 3) := by decide +kernel
theorem d_Verifier_comeToHandlers_13 : decode b_Verifier_comeToHandlers 13 = .ok (.aload_n 0, 1) := by decide +kernel
theorem d_Verifier_comeToHandlers_14 : decode b_Verifier_comeToHandlers 14 = .ok (.getfield 32, 3) := by decide +kernel
theorem d_Verifier_comeToHandlers_17 : decode b_Verifier_comeToHandlers 17 = .ok (.getfield 117, 3) := by decide +kernel
theorem d_Verifier_comeToHandlers_20 : decode b_Verifier_comeToHandlers 20 = .ok (.iload_n 1, 1) := by decide +kernel
theorem d_Verifier_comeToHandlers_21 : decode b_Verifier_comeToHandlers 21 = .ok (.aaload, 1) := by decide +kernel
theorem d_Verifier_comeToHandlers_22 : decode b_Verifier_comeToHandlers 22 = .ok (.astore_n 2, 1) := by decide +kernel
theorem d_Verifier_comeToHandlers_23 : decode b_Verifier_comeToHandlers 23 = .ok (.aload_n 2, 1) := by decide +kernel
theorem d_Verifier_comeToHandlers_24 : decode b_Verifier_comeToHandlers 24 = .ok (.aload_n 0, 1) := by decide +kernel
theorem d_Verifier_comeToHandlers_25 : decode b_Verifier_comeToHandlers 25 = .ok (.getfield 80, 3) := by decide +kernel
theorem d_Verifier_comeToHandlers_28 : decode b_Verifier_comeToHandlers 28 = .ok (.invokevirtual 121, 3) := by decide +kernel
theorem d_Verifier_comeToHandlers_31 : decode b_Verifier_comeToHandlers 31 = .ok (.ifCond .eq 13, 3) := by decide +kernel
theorem d_Verifier_comeToHandlers_34 : decode b_Verifier_comeToHandlers 34 = .ok (.aload_n 0, 1) := by decide +kernel
theorem d_Verifier_comeToHandlers_35 : decode b_Verifier_comeToHandlers 35 = .ok (.aload_n 2, 1) := by decide +kernel
theorem d_Verifier_comeToHandlers_36 : decode b_Verifier_comeToHandlers 36 = .ok (.getfield 126, 3) := by decide +kernel
theorem d_Verifier_comeToHandlers_39 : decode b_Verifier_comeToHandlers 39 = .ok (.iconst 1, 1) := by decide +kernel
theorem d_Verifier_comeToHandlers_40 : decode b_Verifier_comeToHandlers 40 = .ok (.iconst 0, 1) := by decide +kernel
theorem d_Verifier_comeToHandlers_41 : decode b_Verifier_comeToHandlers 41 = .ok (.invokevirtual 76, 3) := by decide +kernel
theorem d_Verifier_comeToHandlers_44 : decode b_Verifier_comeToHandlers 44 = .ok (.iinc 1 1, 3) := by decide +kernel
theorem d_Verifier_comeToHandlers_47 : decode b_Verifier_comeToHandlers 47 = .ok (.goto (-45), 3) := by decide +kernel
theorem d_Verifier_comeToHandlers_50 : decode b_Verifier_comeToHandlers 50 = .ok (.return_, 1) := by decide +kernel
theorem d_Kinds_goesToPlace_0 : decode b_Kinds_goesToPlace 0 = .ok (.iload_n 0, 1) := by decide +kernel
theorem d_Kinds_goesToPlace_1 : decode b_Kinds_goesToPlace 1 = .ok (.bipush 18, 2) := by decide +kernel
theorem d_Kinds_goesToPlace_3 : decode b_Kinds_goesToPlace 3 = .ok (.if_icmp .eq 15, 3) := by decide +kernel
theorem d_Kinds_goesToPlace_6 : decode b_Kinds_goesToPlace 6 = .ok (.iload_n 0, 1) := by decide +kernel
theorem d_Kinds_goesToPlace_7 : decode b_Kinds_goesToPlace 7 = .ok (.bipush 19, 2) := by decide +kernel
theorem d_Kinds_goesToPlace_9 : decode b_Kinds_goesToPlace 9 = .ok (.if_icmp .eq 9, 3) := by decide +kernel
theorem d_Kinds_goesToPlace_12 : decode b_Kinds_goesToPlace 12 = .ok (.iload_n 0, 1) := by decide +kernel
theorem d_Kinds_goesToPlace_13 : decode b_Kinds_goesToPlace 13 = .ok (.bipush 20, 2) := by decide +kernel
theorem d_Kinds_goesToPlace_15 : decode b_Kinds_goesToPlace 15 = .ok (.if_icmp .ne 7, 3) := by decide +kernel
theorem d_Kinds_goesToPlace_18 : decode b_Kinds_goesToPlace 18 = .ok (.iconst 1, 1) := by decide +kernel
theorem d_Kinds_goesToPlace_19 : decode b_Kinds_goesToPlace 19 = .ok (.goto 4, 3) := by decide +kernel
theorem d_Kinds_goesToPlace_22 : decode b_Kinds_goesToPlace 22 = .ok (.iconst 0, 1) := by decide +kernel
theorem d_Kinds_goesToPlace_23 : decode b_Kinds_goesToPlace 23 = .ok (.ireturn, 1) := by decide +kernel
theorem d_Kinds_goesOnBehind_0 : decode b_Kinds_goesOnBehind 0 = .ok (.iload_n 0, 1) := by decide +kernel
theorem d_Kinds_goesOnBehind_1 : decode b_Kinds_goesOnBehind 1 = .ok (.bipush 18, 2) := by decide +kernel
theorem d_Kinds_goesOnBehind_3 : decode b_Kinds_goesOnBehind 3 = .ok (.if_icmp .eq 19, 3) := by decide +kernel
theorem d_Kinds_goesOnBehind_6 : decode b_Kinds_goesOnBehind 6 = .ok (.iload_n 0, 1) := by decide +kernel
theorem d_Kinds_goesOnBehind_7 : decode b_Kinds_goesOnBehind 7 = .ok (.bipush 27, 2) := by decide +kernel
theorem d_Kinds_goesOnBehind_9 : decode b_Kinds_goesOnBehind 9 = .ok (.if_icmp .eq 13, 3) := by decide +kernel
theorem d_Kinds_goesOnBehind_12 : decode b_Kinds_goesOnBehind 12 = .ok (.iload_n 0, 1) := by decide +kernel
theorem d_Kinds_goesOnBehind_13 : decode b_Kinds_goesOnBehind 13 = .ok (.bipush 28, 2) := by decide +kernel
theorem d_Kinds_goesOnBehind_15 : decode b_Kinds_goesOnBehind 15 = .ok (.if_icmp .eq 7, 3) := by decide +kernel
theorem d_Kinds_goesOnBehind_18 : decode b_Kinds_goesOnBehind 18 = .ok (.iconst 1, 1) := by decide +kernel
theorem d_Kinds_goesOnBehind_19 : decode b_Kinds_goesOnBehind 19 = .ok (.goto 4, 3) := by decide +kernel
theorem d_Kinds_goesOnBehind_22 : decode b_Kinds_goesOnBehind 22 = .ok (.iconst 0, 1) := by decide +kernel
theorem d_Kinds_goesOnBehind_23 : decode b_Kinds_goesOnBehind 23 = .ok (.ireturn, 1) := by decide +kernel
theorem d_Verifier_comeToNext_0 : decode b_Verifier_comeToNext 0 = .ok (.aload_n 0, 1) := by decide +kernel
theorem d_Verifier_comeToNext_1 : decode b_Verifier_comeToNext 1 = .ok (.getfield 80, 3) := by decide +kernel
theorem d_Verifier_comeToNext_4 : decode b_Verifier_comeToNext 4 = .ok (.iconst 1, 1) := by decide +kernel
theorem d_Verifier_comeToNext_5 : decode b_Verifier_comeToNext 5 = .ok (.iadd, 1) := by decide +kernel
theorem d_Verifier_comeToNext_6 : decode b_Verifier_comeToNext 6 = .ok (.aload_n 0, 1) := by decide +kernel
theorem d_Verifier_comeToNext_7 : decode b_Verifier_comeToNext 7 = .ok (.getfield 32, 3) := by decide +kernel
theorem d_Verifier_comeToNext_10 : decode b_Verifier_comeToNext 10 = .ok (.getfield 47, 3) := by decide +kernel
theorem d_Verifier_comeToNext_13 : decode b_Verifier_comeToNext 13 = .ok (.if_icmp .ge 24, 3) := by decide +kernel
theorem d_Verifier_comeToNext_16 : decode b_Verifier_comeToNext 16 = .ok (.aload_n 0, 1) := by decide +kernel
theorem d_Verifier_comeToNext_17 : decode b_Verifier_comeToNext 17 = .ok (.aload_n 0, 1) := by decide +kernel
theorem d_Verifier_comeToNext_18 : decode b_Verifier_comeToNext 18 = .ok (.getfield 80, 3) := by decide +kernel
theorem d_Verifier_comeToNext_21 : decode b_Verifier_comeToNext 21 = .ok (.iconst 1, 1) := by decide +kernel
theorem d_Verifier_comeToNext_22 : decode b_Verifier_comeToNext 22 = .ok (.iadd, 1) := by decide +kernel
theorem d_Verifier_comeToNext_23 : decode b_Verifier_comeToNext 23 = .ok (.aload_n 0, 1) := by decide +kernel
theorem d_Verifier_comeToNext_24 : decode b_Verifier_comeToNext 24 = .ok (.getfield 83, 3) := by decide +kernel
theorem d_Verifier_comeToNext_27 : decode b_Verifier_comeToNext 27 = .ok (.aload_n 0, 1) := by decide +kernel
theorem d_Verifier_comeToNext_28 : decode b_Verifier_comeToNext 28 = .ok (.getfield 86, 3) := by decide +kernel
theorem d_Verifier_comeToNext_31 : decode b_Verifier_comeToNext 31 = .ok (.invokevirtual 76, 3) := by decide +kernel
theorem d_Verifier_comeToNext_34 : decode b_Verifier_comeToNext 34 = .ok (.goto 21, 3) := by decide +kernel
theorem d_Verifier_comeToNext_37 : decode b_Verifier_comeToNext 37 = .ok (.aload_n 0, 1) := by decide +kernel
theorem d_Verifier_comeToNext_38 : decode b_Verifier_comeToNext 38 = .ok (.getfield 36, 3) := by decide +kernel
theorem d_Verifier_comeToNext_41 : decode b_Verifier_comeToNext 41 = .ok (.bipush 8, 2) := by decide +kernel
theorem d_Verifier_comeToNext_43 : decode b_Verifier_comeToNext 43 = .ok (.aload_n 0, 1) := by decide +kernel
theorem d_Verifier_comeToNext_44 : decode b_Verifier_comeToNext 44 = .ok (.getfield 40, 3) := by decide +kernel
theorem d_Verifier_comeToNext_47 : decode b_Verifier_comeToNext 47 = .ok (.aload_n 0, 1) := by decide +kernel
theorem d_Verifier_comeToNext_48 : decode b_Verifier_comeToNext 48 = .ok (.getfield 80, 3) := by decide +kernel
theorem d_Verifier_comeToNext_51 : decode b_Verifier_comeToNext 51 = .ok (.iadd, 1) := by decide +kernel
theorem d_Verifier_comeToNext_52 : decode b_Verifier_comeToNext 52 = .ok (.invokevirtual 129, 3) := by decide +kernel
theorem d_Verifier_comeToNext_55 : decode b_Verifier_comeToNext 55 = .ok (.return_, 1) := by decide +kernel
set_option maxHeartbeats 4000000 in
set_option maxRecDepth 100000 in
theorem m_Function_typeOfLocal {l : Launch} {D : va_G} {dA : Nat → ClassId} (o : Option Nat) (x1 : Int32) (h0 : hc_H) (b : Int32) (C0 S0 : Nat) (h2 : hc_H) (hr : p_Function_typeOfLocal o x1 h0 = some (b, C0, S0, h2)) : hc_Met l (gg D dA) y_Function_typeOfLocal b_Function_typeOfLocal 2 (some .int) tb 0 0 [vr_ o, vi_ x1] h0 C0 S0 (some (vi_ b)) h2 := by
  refine hc_Met.of (by decide) (Nat.le_of_ble_eq_true rfl) ?_
  intro p e s m args below meth c hC
  unfold p_Function_typeOfLocal at hr
  refine hj_sub (lv' := [(0, vr_ o), (1, vi_ x1)]) [0, 1] rfl ?_
  refine hj_aload_n hC 0 d_Function_typeOfLocal_0 rfl rfl ?_
  refine hj_geti hC cf_Function (k := 2) (by decide) wq_202 rfl d_Function_typeOfLocal_1 hr (fun a1 hr => ?_)
  refine hj_iload_n hC 1 d_Function_typeOfLocal_4 rfl rfl ?_
  refine hj_ishr hC d_Function_typeOfLocal_5 ?_
  refine hj_iconst hC (v := 1) d_Function_typeOfLocal_6 (by decide) ?_
  refine hj_iand hC d_Function_typeOfLocal_7 ?_
  refine hj_iconst hC (v := 1) d_Function_typeOfLocal_8 (by decide) ?_
  refine hj_icmp_ne hC 16 d_Function_typeOfLocal_9 (by decide) hr (fun q9 hr => ?_) (fun q9 hr => ?_)
  · refine hj_iconst hC (v := 1) d_Function_typeOfLocal_16 (by decide) ?_
    exact hj_iret hC d_Function_typeOfLocal_17 hr
  · refine hj_iconst hC (v := 2) d_Function_typeOfLocal_12 (by decide) ?_
    refine hj_goto hC 17 d_Function_typeOfLocal_13 (by decide) ?_
    exact hj_iret hC d_Function_typeOfLocal_17 hr
set_option maxHeartbeats 4000000 in
set_option maxRecDepth 100000 in
theorem m_Verifier_useRow {l : Launch} {D : va_G} {dA : Nat → ClassId} (o : Option Nat) (x1 : Int32) (h0 : hc_H) (b : Unit) (C0 S0 : Nat) (h2 : hc_H) (hr : p_Verifier_useRow o x1 h0 = some (b, C0, S0, h2)) : hc_Met l (gg D dA) y_Verifier_useRow b_Verifier_useRow 2 none tb 2 44 [vr_ o, vi_ x1] h0 C0 S0 none h2 := by
  refine hc_Met.of (by decide) (Nat.le_of_ble_eq_true rfl) ?_
  intro p e s m args below meth c hC
  unfold p_Verifier_useRow at hr
  refine hj_sub (lv' := [(0, vr_ o), (1, vi_ x1)]) [0, 1] rfl ?_
  refine hj_iload_n hC 1 d_Verifier_useRow_0 rfl rfl ?_
  refine hj_bipush hC (v := 21) d_Verifier_useRow_1 (by decide) ?_
  refine hj_icmp_ne hC 18 d_Verifier_useRow_3 (by decide) hr (fun q3 hr => ?_) (fun q3 hr => ?_)
  · refine hj_iload_n hC 1 d_Verifier_useRow_18 rfl rfl ?_
    refine hj_bipush hC (v := 24) d_Verifier_useRow_19 (by decide) ?_
    refine hj_jn hC (K := hM Unit) (fun k => ∀  (h : hc_H) (C S : Nat), k  h = some (b, C, S, h2) → hj_J p l e { frames := 2, cells := C0, slots := S0, locals := 44 } s m args below meth c (gg D dA) h0 2 (hj_Q below args s { frames := 2, cells := C0, slots := S0, locals := 44 } (gg D dA) h0 none h2) C S h 30 [(0, vr_ o), (1, vi_ x1)] []) hr (fun  h C S hr => ?_) (fun k30 hk30 hr => ?_)
    · refine hj_iload_n hC 1 d_Verifier_useRow_30 rfl rfl ?_
      refine hj_bipush hC (v := 23) d_Verifier_useRow_31 (by decide) ?_
      refine hj_jn hC (K := hM Unit) (fun k => ∀  (h : hc_H) (C S : Nat), k  h = some (b, C, S, h2) → hj_J p l e { frames := 2, cells := C0, slots := S0, locals := 44 } s m args below meth c (gg D dA) h0 2 (hj_Q below args s { frames := 2, cells := C0, slots := S0, locals := 44 } (gg D dA) h0 none h2) C S h 42 [(0, vr_ o), (1, vi_ x1)] []) hr (fun  h C S hr => ?_) (fun k42 hk42 hr => ?_)
      · refine hj_aload_n hC 0 d_Verifier_useRow_42 rfl rfl ?_
        refine hj_iconst hC (v := 2) d_Verifier_useRow_43 (by decide) ?_
        refine hj_callV hC hG (enc := (fun a : Int32 => some (vi_ a))) (As := [vi_ 2]) (st := []) (fun h a C S h1 hr => m_Verifier_take _ _ h a C S h1 hr) cf_Verifier wq_199 wq_200 wq_201 wq_52 wq_194 yk_Verifier_take rfl ⟨Nat.le_of_ble_eq_true rfl, Nat.le_of_ble_eq_true rfl⟩ rfl (Nat.le_of_ble_eq_true rfl) d_Verifier_useRow_44 hr (fun a1 h C S hr => ?_)
        refine hj_pop hC d_Verifier_useRow_47 rfl ?_
        refine hj_iload_n hC 1 d_Verifier_useRow_48 rfl rfl ?_
        refine hj_bipush hC (v := 23) d_Verifier_useRow_49 (by decide) ?_
        refine hj_icmp_eq hC 59 d_Verifier_useRow_51 (by decide) hr (fun q51 hr => ?_) (fun q51 hr => ?_)
        · exact hj_vret hC d_Verifier_useRow_59 hr
        · refine hj_aload_n hC 0 d_Verifier_useRow_54 rfl rfl ?_
          refine hj_iconst hC (v := 1) d_Verifier_useRow_55 (by decide) ?_
          refine hj_callV hC hG (enc := (fun _ : Unit => none)) (As := [vi_ 1]) (st := []) (fun h a C S h1 hr => m_Verifier_put _ _ h a C S h1 hr) cf_Verifier wq_196 wq_197 wq_198 wq_52 wq_195 yk_Verifier_put rfl ⟨Nat.le_of_ble_eq_true rfl, Nat.le_of_ble_eq_true rfl⟩ rfl (Nat.le_of_ble_eq_true rfl) d_Verifier_useRow_56 hr (fun _ h C S hr => ?_)
          exact hj_vret hC d_Verifier_useRow_59 hr
      · refine hj_icmp_ne hC 42 d_Verifier_useRow_33 (by decide) hr (fun q33 hr => ?_) (fun q33 hr => ?_)
        · exact hk42 _ _ _ hr
        · refine hj_aload_n hC 0 d_Verifier_useRow_36 rfl rfl ?_
          refine hj_iconst hC (v := 1) d_Verifier_useRow_37 (by decide) ?_
          refine hj_callV hC hG (enc := (fun a : Int32 => some (vi_ a))) (As := [vi_ 1]) (st := []) (fun h a C S h1 hr => m_Verifier_take _ _ h a C S h1 hr) cf_Verifier wq_199 wq_200 wq_201 wq_52 wq_194 yk_Verifier_take rfl ⟨Nat.le_of_ble_eq_true rfl, Nat.le_of_ble_eq_true rfl⟩ rfl (Nat.le_of_ble_eq_true rfl) d_Verifier_useRow_38 hr (fun a2 h C S hr => ?_)
          refine hj_pop hC d_Verifier_useRow_41 rfl ?_
          exact hk42 _ _ _ hr
    · refine hj_icmp_eq hC 30 d_Verifier_useRow_21 (by decide) hr (fun q21 hr => ?_) (fun q21 hr => ?_)
      · exact hk30 _ _ _ hr
      · refine hj_aload_n hC 0 d_Verifier_useRow_24 rfl rfl ?_
        refine hj_iconst hC (v := 1) d_Verifier_useRow_25 (by decide) ?_
        refine hj_callV hC hG (enc := (fun a : Int32 => some (vi_ a))) (As := [vi_ 1]) (st := []) (fun h a C S h1 hr => m_Verifier_take _ _ h a C S h1 hr) cf_Verifier wq_199 wq_200 wq_201 wq_52 wq_194 yk_Verifier_take rfl ⟨Nat.le_of_ble_eq_true rfl, Nat.le_of_ble_eq_true rfl⟩ rfl (Nat.le_of_ble_eq_true rfl) d_Verifier_useRow_26 hr (fun a3 h C S hr => ?_)
        refine hj_pop hC d_Verifier_useRow_29 rfl ?_
        exact hk30 _ _ _ hr
  · refine hj_aload_n hC 0 d_Verifier_useRow_6 rfl rfl ?_
    refine hj_iconst hC (v := 1) d_Verifier_useRow_7 (by decide) ?_
    refine hj_callV hC hG (enc := (fun a : Int32 => some (vi_ a))) (As := [vi_ 1]) (st := []) (fun h a C S h1 hr => m_Verifier_take _ _ h a C S h1 hr) cf_Verifier wq_199 wq_200 wq_201 wq_52 wq_194 yk_Verifier_take rfl ⟨Nat.le_of_ble_eq_true rfl, Nat.le_of_ble_eq_true rfl⟩ rfl (Nat.le_of_ble_eq_true rfl) d_Verifier_useRow_8 hr (fun a4 h C S hr => ?_)
    refine hj_pop hC d_Verifier_useRow_11 rfl ?_
    refine hj_aload_n hC 0 d_Verifier_useRow_12 rfl rfl ?_
    refine hj_iconst hC (v := 2) d_Verifier_useRow_13 (by decide) ?_
    refine hj_callV hC hG (enc := (fun _ : Unit => none)) (As := [vi_ 2]) (st := []) (fun h a C S h1 hr => m_Verifier_put _ _ h a C S h1 hr) cf_Verifier wq_196 wq_197 wq_198 wq_52 wq_195 yk_Verifier_put rfl ⟨Nat.le_of_ble_eq_true rfl, Nat.le_of_ble_eq_true rfl⟩ rfl (Nat.le_of_ble_eq_true rfl) d_Verifier_useRow_14 hr (fun _ h C S hr => ?_)
    exact hj_vret hC d_Verifier_useRow_17 hr
set_option maxHeartbeats 4000000 in
set_option maxRecDepth 100000 in
theorem ml_Verifier_callFunction_12 {p : Program} {l : Launch} {e : Env} {s : State} {m : MethodId} {args : Array Value} {below : List Frame} {meth : Method} {c : Code} {D : va_G} {dA : Nat → ClassId} {h0 h2 : hc_H} {C0 S0 : Nat} {b : Unit} (hC : hj_C p s m args meth c (gg D dA) b_Verifier_callFunction 3 none R_Verifier "callFunction" tb) (x0 : Option Nat) (x1 : Option Nat) (kx : hM Unit) (hk : ∀  (h : hc_H) (C S : Nat), kx  h = some (b, C, S, h2) → hj_J p l e { frames := 2, cells := C0, slots := S0, locals := 44 } s m args below meth c (gg D dA) h0 3 (hj_Q below args s { frames := 2, cells := C0, slots := S0, locals := 44 } (gg D dA) h0 none h2) C S h 32 [(0, vr_ x0), (1, vr_ x1)] []) : ∀ (fu : Nat) (v2 : Int32) (h : hc_H) (C S : Nat), p_Verifier_callFunction_12 x0 x1 kx fu v2 h = some (b, C, S, h2) → hj_J p l e { frames := 2, cells := C0, slots := S0, locals := 44 } s m args below meth c (gg D dA) h0 3 (hj_Q below args s { frames := 2, cells := C0, slots := S0, locals := 44 } (gg D dA) h0 none h2) C S h 12 [(0, vr_ x0), (1, vr_ x1), (2, vi_ v2)] [] := by
  intro fu
  induction fu with
  | zero =>
    intro v2 h C S hr
    cases hr
  | succ fu ih =>
    intro v2 h C S hr
    rw [p_Verifier_callFunction_12] at hr
    refine hj_iload_n hC 2 d_Verifier_callFunction_12 rfl rfl ?_
    refine hj_if_lt hC 32 d_Verifier_callFunction_13 (by decide) hr (fun q13 hr => ?_) (fun q13 hr => ?_)
    · refine hj_sub (lv' := [(0, vr_ x0), (1, vr_ x1)]) [0, 1] rfl ?_
      exact hk _ _ _ hr
    · refine hj_aload_n hC 0 d_Verifier_callFunction_16 rfl rfl ?_
      refine hj_aload_n hC 1 d_Verifier_callFunction_17 rfl rfl ?_
      refine hj_iload_n hC 2 d_Verifier_callFunction_18 rfl rfl ?_
      refine hj_callV hC hG (enc := (fun a : Int32 => some (vi_ a))) (As := [vi_ v2]) (st := [vr_ x0]) (fun h a C S h1 hr => m_Function_typeOfLocal _ _ h a C S h1 hr) cf_Function wq_205 wq_206 wq_207 wq_33 wq_204 yk_Function_typeOfLocal rfl ⟨Nat.le_of_ble_eq_true rfl, Nat.le_of_ble_eq_true rfl⟩ rfl (Nat.le_of_ble_eq_true rfl) d_Verifier_callFunction_19 hr (fun a2 h C S hr => ?_)
      refine hj_callV hC hG (enc := (fun a : Int32 => some (vi_ a))) (As := [vi_ a2]) (st := []) (fun h a C S h1 hr => m_Verifier_take _ _ h a C S h1 hr) cf_Verifier wq_199 wq_200 wq_201 wq_52 wq_194 yk_Verifier_take rfl ⟨Nat.le_of_ble_eq_true rfl, Nat.le_of_ble_eq_true rfl⟩ rfl (Nat.le_of_ble_eq_true rfl) d_Verifier_callFunction_22 hr (fun a3 h C S hr => ?_)
      refine hj_pop hC d_Verifier_callFunction_25 rfl ?_
      refine hj_iinc hC (lv' := [(2, vi_ (v2 + (-1))), (0, vr_ x0), (1, vr_ x1)]) 2 d_Verifier_callFunction_26 rfl rfl (by decide) rfl ?_
      refine hj_goto hC 12 d_Verifier_callFunction_29 (by decide) ?_
      refine hj_sub (lv' := [(0, vr_ x0), (1, vr_ x1), (2, vi_ (v2 + (-1)))]) [1, 2, 0] rfl ?_
      exact ih _ _ _ _ hr
set_option maxHeartbeats 4000000 in
set_option maxRecDepth 100000 in
theorem m_Verifier_callFunction {l : Launch} {D : va_G} {dA : Nat → ClassId} (o : Option Nat) (x1 : Option Nat) (h0 : hc_H) (b : Unit) (C0 S0 : Nat) (h2 : hc_H) (hr : p_Verifier_callFunction o x1 h0 = some (b, C0, S0, h2)) : hc_Met l (gg D dA) y_Verifier_callFunction b_Verifier_callFunction 3 none tb 2 44 [vr_ o, vr_ x1] h0 C0 S0 none h2 := by
  refine hc_Met.of (by decide) (Nat.le_of_ble_eq_true rfl) ?_
  intro p e s m args below meth c hC
  unfold p_Verifier_callFunction at hr
  refine hj_sub (lv' := [(0, vr_ o), (1, vr_ x1)]) [0, 1] rfl ?_
  refine hj_aload_n hC 1 d_Verifier_callFunction_0 rfl rfl ?_
  refine hj_ifnonnull hC 5 d_Verifier_callFunction_1 (by decide) hr (fun q1 hr => ?_) (fun q1 hr => ?_)
  · refine hj_aload_n hC 1 d_Verifier_callFunction_5 rfl rfl ?_
    refine hj_geti hC cf_Function (k := 0) (by decide) wq_203 rfl d_Verifier_callFunction_6 hr (fun a1 hr => ?_)
    refine hj_iconst hC (v := 1) d_Verifier_callFunction_9 (by decide) ?_
    refine hj_isub hC d_Verifier_callFunction_10 ?_
    refine hj_istore_n hC (lv' := [(2, vi_ (a1 - 1)), (0, vr_ o), (1, vr_ x1)]) d_Verifier_callFunction_11 rfl (by decide) rfl ?_
    refine hj_sub (lv' := [(0, vr_ o), (1, vr_ x1), (2, vi_ (a1 - 1))]) [1, 2, 0] rfl ?_
    refine ml_Verifier_callFunction_12 hC _ _ _ (fun  h C S hr => ?_) _ _ _ _ _ hr
    refine hj_aload_n hC 1 d_Verifier_callFunction_32 rfl rfl ?_
    refine hj_geti hC cf_Function (k := 3) (by decide) wq_208 rfl d_Verifier_callFunction_33 hr (fun a4 hr => ?_)
    refine hj_if_eq hC 47 d_Verifier_callFunction_36 (by decide) hr (fun q36 hr => ?_) (fun q36 hr => ?_)
    · exact hj_vret hC d_Verifier_callFunction_47 hr
    · refine hj_aload_n hC 0 d_Verifier_callFunction_39 rfl rfl ?_
      refine hj_aload_n hC 1 d_Verifier_callFunction_40 rfl rfl ?_
      refine hj_geti hC cf_Function (k := 3) (by decide) wq_208 rfl d_Verifier_callFunction_41 hr (fun a5 hr => ?_)
      refine hj_callV hC hG (enc := (fun _ : Unit => none)) (As := [vi_ a5]) (st := []) (fun h a C S h1 hr => m_Verifier_put _ _ h a C S h1 hr) cf_Verifier wq_196 wq_197 wq_198 wq_52 wq_195 yk_Verifier_put rfl ⟨Nat.le_of_ble_eq_true rfl, Nat.le_of_ble_eq_true rfl⟩ rfl (Nat.le_of_ble_eq_true rfl) d_Verifier_callFunction_44 hr (fun _ h C S hr => ?_)
      exact hj_vret hC d_Verifier_callFunction_47 hr
  · exact hj_vret hC d_Verifier_callFunction_4 hr
set_option maxHeartbeats 4000000 in
set_option maxRecDepth 100000 in
theorem ml_Verifier_takeInts_2 {p : Program} {l : Launch} {e : Env} {s : State} {m : MethodId} {args : Array Value} {below : List Frame} {meth : Method} {c : Code} {D : va_G} {dA : Nat → ClassId} {h0 h2 : hc_H} {C0 S0 : Nat} {b : Unit} (hC : hj_C p s m args meth c (gg D dA) b_Verifier_takeInts 3 none R_Verifier "takeInts" tb) (x0 : Option Nat) (x1 : Int32) (kx : hM Unit) (hk : ∀  (h : hc_H) (C S : Nat), kx  h = some (b, C, S, h2) → hj_J p l e { frames := 2, cells := C0, slots := S0, locals := 44 } s m args below meth c (gg D dA) h0 3 (hj_Q below args s { frames := 2, cells := C0, slots := S0, locals := 44 } (gg D dA) h0 none h2) C S h 19 [] []) : ∀ (fu : Nat) (v2 : Int32) (h : hc_H) (C S : Nat), p_Verifier_takeInts_2 x0 x1 kx fu v2 h = some (b, C, S, h2) → hj_J p l e { frames := 2, cells := C0, slots := S0, locals := 44 } s m args below meth c (gg D dA) h0 3 (hj_Q below args s { frames := 2, cells := C0, slots := S0, locals := 44 } (gg D dA) h0 none h2) C S h 2 [(0, vr_ x0), (1, vi_ x1), (2, vi_ v2)] [] := by
  intro fu
  induction fu with
  | zero =>
    intro v2 h C S hr
    cases hr
  | succ fu ih =>
    intro v2 h C S hr
    rw [p_Verifier_takeInts_2] at hr
    refine hj_iload_n hC 2 d_Verifier_takeInts_2 rfl rfl ?_
    refine hj_iload_n hC 1 d_Verifier_takeInts_3 rfl rfl ?_
    refine hj_icmp_ge hC 19 d_Verifier_takeInts_4 (by decide) hr (fun q4 hr => ?_) (fun q4 hr => ?_)
    · refine hj_sub (lv' := []) [] rfl ?_
      exact hk _ _ _ hr
    · refine hj_aload_n hC 0 d_Verifier_takeInts_7 rfl rfl ?_
      refine hj_iconst hC (v := 1) d_Verifier_takeInts_8 (by decide) ?_
      refine hj_callV hC hG (enc := (fun a : Int32 => some (vi_ a))) (As := [vi_ 1]) (st := []) (fun h a C S h1 hr => m_Verifier_take _ _ h a C S h1 hr) cf_Verifier wq_199 wq_200 wq_201 wq_52 wq_194 yk_Verifier_take rfl ⟨Nat.le_of_ble_eq_true rfl, Nat.le_of_ble_eq_true rfl⟩ rfl (Nat.le_of_ble_eq_true rfl) d_Verifier_takeInts_9 hr (fun a1 h C S hr => ?_)
      refine hj_pop hC d_Verifier_takeInts_12 rfl ?_
      refine hj_iinc hC (lv' := [(2, vi_ (v2 + 1)), (0, vr_ x0), (1, vi_ x1)]) 2 d_Verifier_takeInts_13 rfl rfl (by decide) rfl ?_
      refine hj_goto hC 2 d_Verifier_takeInts_16 (by decide) ?_
      refine hj_sub (lv' := [(0, vr_ x0), (1, vi_ x1), (2, vi_ (v2 + 1))]) [1, 2, 0] rfl ?_
      exact ih _ _ _ _ hr
set_option maxHeartbeats 4000000 in
set_option maxRecDepth 100000 in
theorem m_Verifier_takeInts {l : Launch} {D : va_G} {dA : Nat → ClassId} (o : Option Nat) (x1 : Int32) (h0 : hc_H) (b : Unit) (C0 S0 : Nat) (h2 : hc_H) (hr : p_Verifier_takeInts o x1 h0 = some (b, C0, S0, h2)) : hc_Met l (gg D dA) y_Verifier_takeInts b_Verifier_takeInts 3 none tb 2 44 [vr_ o, vi_ x1] h0 C0 S0 none h2 := by
  refine hc_Met.of (by decide) (Nat.le_of_ble_eq_true rfl) ?_
  intro p e s m args below meth c hC
  unfold p_Verifier_takeInts at hr
  refine hj_sub (lv' := [(0, vr_ o), (1, vi_ x1)]) [0, 1] rfl ?_
  refine hj_iconst hC (v := 0) d_Verifier_takeInts_0 (by decide) ?_
  refine hj_istore_n hC (lv' := [(2, vi_ 0), (0, vr_ o), (1, vi_ x1)]) d_Verifier_takeInts_1 rfl (by decide) rfl ?_
  refine hj_sub (lv' := [(0, vr_ o), (1, vi_ x1), (2, vi_ 0)]) [1, 2, 0] rfl ?_
  refine ml_Verifier_takeInts_2 hC _ _ _ (fun  h C S hr => ?_) _ _ _ _ _ hr
  exact hj_vret hC d_Verifier_takeInts_19 hr
set_option maxHeartbeats 4000000 in
set_option maxRecDepth 100000 in
theorem m_Verifier_takeResult {l : Launch} {D : va_G} {dA : Nat → ClassId} (o : Option Nat) (h0 : hc_H) (b : Unit) (C0 S0 : Nat) (h2 : hc_H) (hr : p_Verifier_takeResult o h0 = some (b, C0, S0, h2)) : hc_Met l (gg D dA) y_Verifier_takeResult b_Verifier_takeResult 1 none tb 2 44 [vr_ o] h0 C0 S0 none h2 := by
  refine hc_Met.of (by decide) (Nat.le_of_ble_eq_true rfl) ?_
  intro p e s m args below meth c hC
  unfold p_Verifier_takeResult at hr
  refine hj_sub (lv' := [(0, vr_ o)]) [0] rfl ?_
  refine hj_aload_n hC 0 d_Verifier_takeResult_0 rfl rfl ?_
  refine hj_getr hC cf_Verifier (k := 5) (by decide) wq_177 rfl d_Verifier_takeResult_1 hr (fun a1 hr => ?_)
  refine hj_geti hC cf_Function (k := 3) (by decide) wq_208 rfl d_Verifier_takeResult_4 hr (fun a2 hr => ?_)
  refine hj_if_eq hC 22 d_Verifier_takeResult_7 (by decide) hr (fun q7 hr => ?_) (fun q7 hr => ?_)
  · exact hj_vret hC d_Verifier_takeResult_22 hr
  · refine hj_aload_n hC 0 d_Verifier_takeResult_10 rfl rfl ?_
    refine hj_aload_n hC 0 d_Verifier_takeResult_11 rfl rfl ?_
    refine hj_getr hC cf_Verifier (k := 5) (by decide) wq_177 rfl d_Verifier_takeResult_12 hr (fun a3 hr => ?_)
    refine hj_geti hC cf_Function (k := 3) (by decide) wq_208 rfl d_Verifier_takeResult_15 hr (fun a4 hr => ?_)
    refine hj_callV hC hG (enc := (fun a : Int32 => some (vi_ a))) (As := [vi_ a4]) (st := []) (fun h a C S h1 hr => m_Verifier_take _ _ h a C S h1 hr) cf_Verifier wq_199 wq_200 wq_201 wq_52 wq_194 yk_Verifier_take rfl ⟨Nat.le_of_ble_eq_true rfl, Nat.le_of_ble_eq_true rfl⟩ rfl (Nat.le_of_ble_eq_true rfl) d_Verifier_takeResult_18 hr (fun a5 h C S hr => ?_)
    refine hj_pop hC d_Verifier_takeResult_21 rfl ?_
    exact hj_vret hC d_Verifier_takeResult_22 hr
set_option maxHeartbeats 4000000 in
set_option maxRecDepth 100000 in
theorem ml_Verifier_putInts_2 {p : Program} {l : Launch} {e : Env} {s : State} {m : MethodId} {args : Array Value} {below : List Frame} {meth : Method} {c : Code} {D : va_G} {dA : Nat → ClassId} {h0 h2 : hc_H} {C0 S0 : Nat} {b : Unit} (hC : hj_C p s m args meth c (gg D dA) b_Verifier_putInts 3 none R_Verifier "putInts" tb) (x0 : Option Nat) (x1 : Int32) (kx : hM Unit) (hk : ∀  (h : hc_H) (C S : Nat), kx  h = some (b, C, S, h2) → hj_J p l e { frames := 2, cells := C0, slots := S0, locals := 43 } s m args below meth c (gg D dA) h0 3 (hj_Q below args s { frames := 2, cells := C0, slots := S0, locals := 43 } (gg D dA) h0 none h2) C S h 18 [] []) : ∀ (fu : Nat) (v2 : Int32) (h : hc_H) (C S : Nat), p_Verifier_putInts_2 x0 x1 kx fu v2 h = some (b, C, S, h2) → hj_J p l e { frames := 2, cells := C0, slots := S0, locals := 43 } s m args below meth c (gg D dA) h0 3 (hj_Q below args s { frames := 2, cells := C0, slots := S0, locals := 43 } (gg D dA) h0 none h2) C S h 2 [(0, vr_ x0), (1, vi_ x1), (2, vi_ v2)] [] := by
  intro fu
  induction fu with
  | zero =>
    intro v2 h C S hr
    cases hr
  | succ fu ih =>
    intro v2 h C S hr
    rw [p_Verifier_putInts_2] at hr
    refine hj_iload_n hC 2 d_Verifier_putInts_2 rfl rfl ?_
    refine hj_iload_n hC 1 d_Verifier_putInts_3 rfl rfl ?_
    refine hj_icmp_ge hC 18 d_Verifier_putInts_4 (by decide) hr (fun q4 hr => ?_) (fun q4 hr => ?_)
    · refine hj_sub (lv' := []) [] rfl ?_
      exact hk _ _ _ hr
    · refine hj_aload_n hC 0 d_Verifier_putInts_7 rfl rfl ?_
      refine hj_iconst hC (v := 1) d_Verifier_putInts_8 (by decide) ?_
      refine hj_callV hC hG (enc := (fun _ : Unit => none)) (As := [vi_ 1]) (st := []) (fun h a C S h1 hr => m_Verifier_put _ _ h a C S h1 hr) cf_Verifier wq_196 wq_197 wq_198 wq_52 wq_195 yk_Verifier_put rfl ⟨Nat.le_of_ble_eq_true rfl, Nat.le_of_ble_eq_true rfl⟩ rfl (Nat.le_of_ble_eq_true rfl) d_Verifier_putInts_9 hr (fun _ h C S hr => ?_)
      refine hj_iinc hC (lv' := [(2, vi_ (v2 + 1)), (0, vr_ x0), (1, vi_ x1)]) 2 d_Verifier_putInts_12 rfl rfl (by decide) rfl ?_
      refine hj_goto hC 2 d_Verifier_putInts_15 (by decide) ?_
      refine hj_sub (lv' := [(0, vr_ x0), (1, vi_ x1), (2, vi_ (v2 + 1))]) [1, 2, 0] rfl ?_
      exact ih _ _ _ _ hr
set_option maxHeartbeats 4000000 in
set_option maxRecDepth 100000 in
theorem m_Verifier_putInts {l : Launch} {D : va_G} {dA : Nat → ClassId} (o : Option Nat) (x1 : Int32) (h0 : hc_H) (b : Unit) (C0 S0 : Nat) (h2 : hc_H) (hr : p_Verifier_putInts o x1 h0 = some (b, C0, S0, h2)) : hc_Met l (gg D dA) y_Verifier_putInts b_Verifier_putInts 3 none tb 2 43 [vr_ o, vi_ x1] h0 C0 S0 none h2 := by
  refine hc_Met.of (by decide) (Nat.le_of_ble_eq_true rfl) ?_
  intro p e s m args below meth c hC
  unfold p_Verifier_putInts at hr
  refine hj_sub (lv' := [(0, vr_ o), (1, vi_ x1)]) [0, 1] rfl ?_
  refine hj_iconst hC (v := 0) d_Verifier_putInts_0 (by decide) ?_
  refine hj_istore_n hC (lv' := [(2, vi_ 0), (0, vr_ o), (1, vi_ x1)]) d_Verifier_putInts_1 rfl (by decide) rfl ?_
  refine hj_sub (lv' := [(0, vr_ o), (1, vi_ x1), (2, vi_ 0)]) [1, 2, 0] rfl ?_
  refine ml_Verifier_putInts_2 hC _ _ _ (fun  h C S hr => ?_) _ _ _ _ _ hr
  exact hj_vret hC d_Verifier_putInts_18 hr
set_option maxHeartbeats 4000000 in
set_option maxRecDepth 100000 in
theorem m_Verifier_takeAndPut {l : Launch} {D : va_G} {dA : Nat → ClassId} (o : Option Nat) (x1 : Int32) (x2 : Int32) (h0 : hc_H) (b : Unit) (C0 S0 : Nat) (h2 : hc_H) (hr : p_Verifier_takeAndPut o x1 x2 h0 = some (b, C0, S0, h2)) : hc_Met l (gg D dA) y_Verifier_takeAndPut b_Verifier_takeAndPut 3 none tb 3 66 [vr_ o, vi_ x1, vi_ x2] h0 C0 S0 none h2 := by
  refine hc_Met.of (by decide) (Nat.le_of_ble_eq_true rfl) ?_
  intro p e s m args below meth c hC
  unfold p_Verifier_takeAndPut at hr
  refine hj_sub (lv' := [(0, vr_ o), (1, vi_ x1), (2, vi_ x2)]) [0, 1, 2] rfl ?_
  refine hj_iload_n hC 1 d_Verifier_takeAndPut_0 rfl rfl ?_
  by_cases s1_0 : x1 = 0
  · rw [if_pos s1_0] at hr
    refine hj_tableIn hC 136 d_Verifier_takeAndPut_1 (by rw [s1_0]; decide) (by rw [s1_0]; decide) (by rw [s1_0]; rfl) (by decide) ?_
    refine hj_aload_n hC 0 d_Verifier_takeAndPut_136 rfl rfl ?_
    refine hj_iconst hC (v := 1) d_Verifier_takeAndPut_137 (by decide) ?_
    refine hj_callV hC hG (enc := (fun _ : Unit => none)) (As := [vi_ 1]) (st := []) (fun h a C S h1 hr => m_Verifier_put _ _ h a C S h1 hr) cf_Verifier wq_196 wq_197 wq_198 wq_52 wq_195 yk_Verifier_put rfl ⟨Nat.le_of_ble_eq_true rfl, Nat.le_of_ble_eq_true rfl⟩ rfl (Nat.le_of_ble_eq_true rfl) d_Verifier_takeAndPut_138 hr (fun _ h C S hr => ?_)
    refine hj_goto hC 282 d_Verifier_takeAndPut_141 (by decide) ?_
    exact hj_vret hC d_Verifier_takeAndPut_282 hr
  · rw [if_neg s1_0] at hr
    by_cases s1_1 : x1 = 1
    · rw [if_pos s1_1] at hr
      refine hj_tableIn hC 144 d_Verifier_takeAndPut_1 (by rw [s1_1]; decide) (by rw [s1_1]; decide) (by rw [s1_1]; rfl) (by decide) ?_
      refine hj_aload_n hC 0 d_Verifier_takeAndPut_144 rfl rfl ?_
      refine hj_iconst hC (v := 0) d_Verifier_takeAndPut_145 (by decide) ?_
      refine hj_callV hC hG (enc := (fun a : Int32 => some (vi_ a))) (As := [vi_ 0]) (st := []) (fun h a C S h1 hr => m_Verifier_take _ _ h a C S h1 hr) cf_Verifier wq_199 wq_200 wq_201 wq_52 wq_194 yk_Verifier_take rfl ⟨Nat.le_of_ble_eq_true rfl, Nat.le_of_ble_eq_true rfl⟩ rfl (Nat.le_of_ble_eq_true rfl) d_Verifier_takeAndPut_146 hr (fun a1 h C S hr => ?_)
      refine hj_pop hC d_Verifier_takeAndPut_149 rfl ?_
      refine hj_goto hC 282 d_Verifier_takeAndPut_150 (by decide) ?_
      exact hj_vret hC d_Verifier_takeAndPut_282 hr
    · rw [if_neg s1_1] at hr
      by_cases s1_2 : x1 = 2
      · rw [if_pos s1_2] at hr
        refine hj_tableIn hC 153 d_Verifier_takeAndPut_1 (by rw [s1_2]; decide) (by rw [s1_2]; decide) (by rw [s1_2]; rfl) (by decide) ?_
        refine hj_aload_n hC 0 d_Verifier_takeAndPut_153 rfl rfl ?_
        refine hj_callV hC hG (enc := (fun _ : Unit => none)) (As := []) (st := []) (fun h a C S h1 hr => m_Verifier_repeatTop _  h a C S h1 hr) cf_Verifier wq_210 wq_211 wq_212 wq_52 wq_209 yk_Verifier_repeatTop rfl ⟨Nat.le_of_ble_eq_true rfl, Nat.le_of_ble_eq_true rfl⟩ rfl (Nat.le_of_ble_eq_true rfl) d_Verifier_takeAndPut_154 hr (fun _ h C S hr => ?_)
        refine hj_goto hC 282 d_Verifier_takeAndPut_157 (by decide) ?_
        exact hj_vret hC d_Verifier_takeAndPut_282 hr
      · rw [if_neg s1_2] at hr
        by_cases s1_3 : x1 = 3
        · rw [if_pos s1_3] at hr
          refine hj_tableIn hC 160 d_Verifier_takeAndPut_1 (by rw [s1_3]; decide) (by rw [s1_3]; decide) (by rw [s1_3]; rfl) (by decide) ?_
          refine hj_aload_n hC 0 d_Verifier_takeAndPut_160 rfl rfl ?_
          refine hj_callV hC hG (enc := (fun _ : Unit => none)) (As := []) (st := []) (fun h a C S h1 hr => m_Verifier_swapUpperTwo _  h a C S h1 hr) cf_Verifier wq_214 wq_215 wq_216 wq_52 wq_213 yk_Verifier_swapUpperTwo rfl ⟨Nat.le_of_ble_eq_true rfl, Nat.le_of_ble_eq_true rfl⟩ rfl (Nat.le_of_ble_eq_true rfl) d_Verifier_takeAndPut_161 hr (fun _ h C S hr => ?_)
          refine hj_goto hC 282 d_Verifier_takeAndPut_164 (by decide) ?_
          exact hj_vret hC d_Verifier_takeAndPut_282 hr
        · rw [if_neg s1_3] at hr
          by_cases s1_4 : x1 = 4
          · rw [if_pos s1_4] at hr
            refine hj_tableIn hC 167 d_Verifier_takeAndPut_1 (by rw [s1_4]; decide) (by rw [s1_4]; decide) (by rw [s1_4]; rfl) (by decide) ?_
            refine hj_aload_n hC 0 d_Verifier_takeAndPut_167 rfl rfl ?_
            refine hj_aload_n hC 0 d_Verifier_takeAndPut_168 rfl rfl ?_
            refine hj_getr hC cf_Verifier (k := 5) (by decide) wq_177 rfl d_Verifier_takeAndPut_169 hr (fun a2 hr => ?_)
            refine hj_iload_n hC 2 d_Verifier_takeAndPut_172 rfl rfl ?_
            refine hj_callV hC hG (enc := (fun a : Int32 => some (vi_ a))) (As := [vi_ x2]) (st := [vr_ o]) (fun h a C S h1 hr => m_Function_typeOfLocal _ _ h a C S h1 hr) cf_Function wq_205 wq_206 wq_207 wq_33 wq_204 yk_Function_typeOfLocal rfl ⟨Nat.le_of_ble_eq_true rfl, Nat.le_of_ble_eq_true rfl⟩ rfl (Nat.le_of_ble_eq_true rfl) d_Verifier_takeAndPut_173 hr (fun a3 h C S hr => ?_)
            refine hj_callV hC hG (enc := (fun _ : Unit => none)) (As := [vi_ a3]) (st := []) (fun h a C S h1 hr => m_Verifier_put _ _ h a C S h1 hr) cf_Verifier wq_196 wq_197 wq_198 wq_52 wq_195 yk_Verifier_put rfl ⟨Nat.le_of_ble_eq_true rfl, Nat.le_of_ble_eq_true rfl⟩ rfl (Nat.le_of_ble_eq_true rfl) d_Verifier_takeAndPut_176 hr (fun _ h C S hr => ?_)
            refine hj_goto hC 282 d_Verifier_takeAndPut_179 (by decide) ?_
            exact hj_vret hC d_Verifier_takeAndPut_282 hr
          · rw [if_neg s1_4] at hr
            by_cases s1_5 : x1 = 5
            · rw [if_pos s1_5] at hr
              refine hj_tableIn hC 182 d_Verifier_takeAndPut_1 (by rw [s1_5]; decide) (by rw [s1_5]; decide) (by rw [s1_5]; rfl) (by decide) ?_
              refine hj_aload_n hC 0 d_Verifier_takeAndPut_182 rfl rfl ?_
              refine hj_aload_n hC 0 d_Verifier_takeAndPut_183 rfl rfl ?_
              refine hj_getr hC cf_Verifier (k := 5) (by decide) wq_177 rfl d_Verifier_takeAndPut_184 hr (fun a4 hr => ?_)
              refine hj_iload_n hC 2 d_Verifier_takeAndPut_187 rfl rfl ?_
              refine hj_callV hC hG (enc := (fun a : Int32 => some (vi_ a))) (As := [vi_ x2]) (st := [vr_ o]) (fun h a C S h1 hr => m_Function_typeOfLocal _ _ h a C S h1 hr) cf_Function wq_205 wq_206 wq_207 wq_33 wq_204 yk_Function_typeOfLocal rfl ⟨Nat.le_of_ble_eq_true rfl, Nat.le_of_ble_eq_true rfl⟩ rfl (Nat.le_of_ble_eq_true rfl) d_Verifier_takeAndPut_188 hr (fun a5 h C S hr => ?_)
              refine hj_callV hC hG (enc := (fun a : Int32 => some (vi_ a))) (As := [vi_ a5]) (st := []) (fun h a C S h1 hr => m_Verifier_take _ _ h a C S h1 hr) cf_Verifier wq_199 wq_200 wq_201 wq_52 wq_194 yk_Verifier_take rfl ⟨Nat.le_of_ble_eq_true rfl, Nat.le_of_ble_eq_true rfl⟩ rfl (Nat.le_of_ble_eq_true rfl) d_Verifier_takeAndPut_191 hr (fun a6 h C S hr => ?_)
              refine hj_pop hC d_Verifier_takeAndPut_194 rfl ?_
              refine hj_goto hC 282 d_Verifier_takeAndPut_195 (by decide) ?_
              exact hj_vret hC d_Verifier_takeAndPut_282 hr
            · rw [if_neg s1_5] at hr
              by_cases s1_6 : x1 = 18
              · rw [if_pos s1_6] at hr
                refine hj_tableIn hC 198 d_Verifier_takeAndPut_1 (by rw [s1_6]; decide) (by rw [s1_6]; decide) (by rw [s1_6]; rfl) (by decide) ?_
                refine hj_goto hC 282 d_Verifier_takeAndPut_198 (by decide) ?_
                exact hj_vret hC d_Verifier_takeAndPut_282 hr
              · rw [if_neg s1_6] at hr
                by_cases s1_7 : x1 = 19 ∨ x1 = 20 ∨ x1 = 28
                · rw [if_pos s1_7] at hr
                  refine hj_tableIn hC (off := 200) 201 d_Verifier_takeAndPut_1 (by rcases s1_7 with u | u | u <;> rw [u] <;> decide) (by rcases s1_7 with u | u | u <;> rw [u] <;> decide) (by rcases s1_7 with u | u | u <;> rw [u] <;> rfl) (by decide) ?_
                  refine hj_aload_n hC 0 d_Verifier_takeAndPut_201 rfl rfl ?_
                  refine hj_iconst hC (v := 1) d_Verifier_takeAndPut_202 (by decide) ?_
                  refine hj_callV hC hG (enc := (fun a : Int32 => some (vi_ a))) (As := [vi_ 1]) (st := []) (fun h a C S h1 hr => m_Verifier_take _ _ h a C S h1 hr) cf_Verifier wq_199 wq_200 wq_201 wq_52 wq_194 yk_Verifier_take rfl ⟨Nat.le_of_ble_eq_true rfl, Nat.le_of_ble_eq_true rfl⟩ rfl (Nat.le_of_ble_eq_true rfl) d_Verifier_takeAndPut_203 hr (fun a7 h C S hr => ?_)
                  refine hj_pop hC d_Verifier_takeAndPut_206 rfl ?_
                  refine hj_goto hC 282 d_Verifier_takeAndPut_207 (by decide) ?_
                  exact hj_vret hC d_Verifier_takeAndPut_282 hr
                · rw [if_neg s1_7] at hr
                  have s1_7_0 : ¬ x1 = 19 := fun u => s1_7 (Or.inl u)
                  have s1_7_1 : ¬ x1 = 20 := fun u => s1_7 (Or.inr (Or.inl u))
                  have s1_7_2 : ¬ x1 = 28 := fun u => s1_7 (Or.inr (Or.inr (u)))
                  by_cases s1_8 : x1 = 21 ∨ x1 = 22 ∨ x1 = 23 ∨ x1 = 24
                  · rw [if_pos s1_8] at hr
                    refine hj_tableIn hC (off := 209) 210 d_Verifier_takeAndPut_1 (by rcases s1_8 with u | u | u | u <;> rw [u] <;> decide) (by rcases s1_8 with u | u | u | u <;> rw [u] <;> decide) (by rcases s1_8 with u | u | u | u <;> rw [u] <;> rfl) (by decide) ?_
                    refine hj_aload_n hC 0 d_Verifier_takeAndPut_210 rfl rfl ?_
                    refine hj_iload_n hC 1 d_Verifier_takeAndPut_211 rfl rfl ?_
                    refine hj_callV hC hG (enc := (fun _ : Unit => none)) (As := [vi_ x1]) (st := []) (fun h a C S h1 hr => m_Verifier_useRow _ _ h a C S h1 hr) cf_Verifier wq_218 wq_219 wq_220 wq_52 wq_217 yk_Verifier_useRow rfl ⟨Nat.le_of_ble_eq_true rfl, Nat.le_of_ble_eq_true rfl⟩ rfl (Nat.le_of_ble_eq_true rfl) d_Verifier_takeAndPut_212 hr (fun _ h C S hr => ?_)
                    refine hj_goto hC 282 d_Verifier_takeAndPut_215 (by decide) ?_
                    exact hj_vret hC d_Verifier_takeAndPut_282 hr
                  · rw [if_neg s1_8] at hr
                    have s1_8_0 : ¬ x1 = 21 := fun u => s1_8 (Or.inl u)
                    have s1_8_1 : ¬ x1 = 22 := fun u => s1_8 (Or.inr (Or.inl u))
                    have s1_8_2 : ¬ x1 = 23 := fun u => s1_8 (Or.inr (Or.inr (Or.inl u)))
                    have s1_8_3 : ¬ x1 = 24 := fun u => s1_8 (Or.inr (Or.inr (Or.inr (u))))
                    by_cases s1_9 : x1 = 25
                    · rw [if_pos s1_9] at hr
                      refine hj_tableIn hC 218 d_Verifier_takeAndPut_1 (by rw [s1_9]; decide) (by rw [s1_9]; decide) (by rw [s1_9]; rfl) (by decide) ?_
                      refine hj_aload_n hC 0 d_Verifier_takeAndPut_218 rfl rfl ?_
                      refine hj_aload_n hC 0 d_Verifier_takeAndPut_219 rfl rfl ?_
                      refine hj_getr hC cf_Verifier (k := 4) (by decide) wq_221 rfl d_Verifier_takeAndPut_220 hr (fun a8 hr => ?_)
                      refine hj_iload_n hC 2 d_Verifier_takeAndPut_223 rfl rfl ?_
                      refine hj_callV hC hG (enc := (fun a : Option Nat => some (vr_ a))) (As := [vi_ x2]) (st := [vr_ o]) (fun h a C S h1 hr => m_Program_at _ _ h a C S h1 hr) cf_Program wq_227 wq_228 wq_229 wq_57 wq_222 yk_Program_at rfl ⟨Nat.le_of_ble_eq_true rfl, Nat.le_of_ble_eq_true rfl⟩ rfl (Nat.le_of_ble_eq_true rfl) d_Verifier_takeAndPut_224 hr (fun a9 h C S hr => ?_)
                      refine hj_callV hC hG (enc := (fun _ : Unit => none)) (As := [vr_ a9]) (st := []) (fun h a C S h1 hr => m_Verifier_callFunction _ _ h a C S h1 hr) cf_Verifier wq_224 wq_225 wq_226 wq_52 wq_223 yk_Verifier_callFunction rfl ⟨Nat.le_of_ble_eq_true rfl, Nat.le_of_ble_eq_true rfl⟩ rfl (Nat.le_of_ble_eq_true rfl) d_Verifier_takeAndPut_227 hr (fun _ h C S hr => ?_)
                      refine hj_goto hC 282 d_Verifier_takeAndPut_230 (by decide) ?_
                      exact hj_vret hC d_Verifier_takeAndPut_282 hr
                    · rw [if_neg s1_9] at hr
                      by_cases s1_10 : x1 = 26
                      · rw [if_pos s1_10] at hr
                        refine hj_tableIn hC 233 d_Verifier_takeAndPut_1 (by rw [s1_10]; decide) (by rw [s1_10]; decide) (by rw [s1_10]; rfl) (by decide) ?_
                        refine hj_aload_n hC 0 d_Verifier_takeAndPut_233 rfl rfl ?_
                        refine hj_iload_n hC 2 d_Verifier_takeAndPut_234 rfl rfl ?_
                        refine hj_iconst hC (v := 4) d_Verifier_takeAndPut_235 (by decide) ?_
                        refine hj_irem hC d_Verifier_takeAndPut_236 hr (fun _ hr => ?_)
                        refine hj_callV hC hG (enc := (fun _ : Unit => none)) (As := [vi_ (x2 - x2 / 4 * 4)]) (st := []) (fun h a C S h1 hr => m_Verifier_takeInts _ _ h a C S h1 hr) cf_Verifier wq_231 wq_232 wq_233 wq_52 wq_230 yk_Verifier_takeInts rfl ⟨Nat.le_of_ble_eq_true rfl, Nat.le_of_ble_eq_true rfl⟩ rfl (Nat.le_of_ble_eq_true rfl) d_Verifier_takeAndPut_237 hr (fun _ h C S hr => ?_)
                        refine hj_aload_n hC 0 d_Verifier_takeAndPut_240 rfl rfl ?_
                        refine hj_iconst hC (v := 1) d_Verifier_takeAndPut_241 (by decide) ?_
                        refine hj_callV hC hG (enc := (fun _ : Unit => none)) (As := [vi_ 1]) (st := []) (fun h a C S h1 hr => m_Verifier_put _ _ h a C S h1 hr) cf_Verifier wq_196 wq_197 wq_198 wq_52 wq_195 yk_Verifier_put rfl ⟨Nat.le_of_ble_eq_true rfl, Nat.le_of_ble_eq_true rfl⟩ rfl (Nat.le_of_ble_eq_true rfl) d_Verifier_takeAndPut_242 hr (fun _ h C S hr => ?_)
                        refine hj_goto hC 282 d_Verifier_takeAndPut_245 (by decide) ?_
                        exact hj_vret hC d_Verifier_takeAndPut_282 hr
                      · rw [if_neg s1_10] at hr
                        by_cases s1_11 : x1 = 27
                        · rw [if_pos s1_11] at hr
                          refine hj_tableIn hC 248 d_Verifier_takeAndPut_1 (by rw [s1_11]; decide) (by rw [s1_11]; decide) (by rw [s1_11]; rfl) (by decide) ?_
                          refine hj_aload_n hC 0 d_Verifier_takeAndPut_248 rfl rfl ?_
                          refine hj_callV hC hG (enc := (fun _ : Unit => none)) (As := []) (st := []) (fun h a C S h1 hr => m_Verifier_takeResult _  h a C S h1 hr) cf_Verifier wq_235 wq_236 wq_237 wq_52 wq_234 yk_Verifier_takeResult rfl ⟨Nat.le_of_ble_eq_true rfl, Nat.le_of_ble_eq_true rfl⟩ rfl (Nat.le_of_ble_eq_true rfl) d_Verifier_takeAndPut_249 hr (fun _ h C S hr => ?_)
                          refine hj_goto hC 282 d_Verifier_takeAndPut_252 (by decide) ?_
                          exact hj_vret hC d_Verifier_takeAndPut_282 hr
                        · rw [if_neg s1_11] at hr
                          by_cases s1_12 : x1 = 29
                          · rw [if_pos s1_12] at hr
                            refine hj_tableIn hC 255 d_Verifier_takeAndPut_1 (by rw [s1_12]; decide) (by rw [s1_12]; decide) (by rw [s1_12]; rfl) (by decide) ?_
                            refine hj_aload_n hC 0 d_Verifier_takeAndPut_255 rfl rfl ?_
                            refine hj_iload_n hC 2 d_Verifier_takeAndPut_256 rfl rfl ?_
                            refine hj_iconst hC (v := 4) d_Verifier_takeAndPut_257 (by decide) ?_
                            refine hj_irem hC d_Verifier_takeAndPut_258 hr (fun _ hr => ?_)
                            refine hj_callV hC hG (enc := (fun _ : Unit => none)) (As := [vi_ (x2 - x2 / 4 * 4)]) (st := []) (fun h a C S h1 hr => m_Verifier_takeInts _ _ h a C S h1 hr) cf_Verifier wq_231 wq_232 wq_233 wq_52 wq_230 yk_Verifier_takeInts rfl ⟨Nat.le_of_ble_eq_true rfl, Nat.le_of_ble_eq_true rfl⟩ rfl (Nat.le_of_ble_eq_true rfl) d_Verifier_takeAndPut_259 hr (fun _ h C S hr => ?_)
                            refine hj_aload_n hC 0 d_Verifier_takeAndPut_262 rfl rfl ?_
                            refine hj_iload_n hC 2 d_Verifier_takeAndPut_263 rfl rfl ?_
                            refine hj_iconst hC (v := 4) d_Verifier_takeAndPut_264 (by decide) ?_
                            refine hj_irem hC d_Verifier_takeAndPut_265 hr (fun _ hr => ?_)
                            refine hj_callV hC hG (enc := (fun _ : Unit => none)) (As := [vi_ (x2 - x2 / 4 * 4)]) (st := []) (fun h a C S h1 hr => m_Verifier_putInts _ _ h a C S h1 hr) cf_Verifier wq_239 wq_240 wq_241 wq_52 wq_238 yk_Verifier_putInts rfl ⟨Nat.le_of_ble_eq_true rfl, Nat.le_of_ble_eq_true rfl⟩ rfl (Nat.le_of_ble_eq_true rfl) d_Verifier_takeAndPut_266 hr (fun _ h C S hr => ?_)
                            refine hj_goto hC 282 d_Verifier_takeAndPut_269 (by decide) ?_
                            exact hj_vret hC d_Verifier_takeAndPut_282 hr
                          · rw [if_neg s1_12] at hr
                            refine hj_tableDf hC 272 d_Verifier_takeAndPut_1 ?_ (by decide) ?_
                            · by_cases qh0 : x1 = 6
                              · exact Or.inr ⟨by rw [qh0]; decide, by rw [qh0]; decide, by rw [qh0]; rfl⟩
                              have eh0 := lv_neT qh0 (a := 6) (by decide)
                              by_cases qh1 : x1 = 7
                              · exact Or.inr ⟨by rw [qh1]; decide, by rw [qh1]; decide, by rw [qh1]; rfl⟩
                              have eh1 := lv_neT qh1 (a := 7) (by decide)
                              by_cases qh2 : x1 = 8
                              · exact Or.inr ⟨by rw [qh2]; decide, by rw [qh2]; decide, by rw [qh2]; rfl⟩
                              have eh2 := lv_neT qh2 (a := 8) (by decide)
                              by_cases qh3 : x1 = 9
                              · exact Or.inr ⟨by rw [qh3]; decide, by rw [qh3]; decide, by rw [qh3]; rfl⟩
                              have eh3 := lv_neT qh3 (a := 9) (by decide)
                              by_cases qh4 : x1 = 10
                              · exact Or.inr ⟨by rw [qh4]; decide, by rw [qh4]; decide, by rw [qh4]; rfl⟩
                              have eh4 := lv_neT qh4 (a := 10) (by decide)
                              by_cases qh5 : x1 = 11
                              · exact Or.inr ⟨by rw [qh5]; decide, by rw [qh5]; decide, by rw [qh5]; rfl⟩
                              have eh5 := lv_neT qh5 (a := 11) (by decide)
                              by_cases qh6 : x1 = 12
                              · exact Or.inr ⟨by rw [qh6]; decide, by rw [qh6]; decide, by rw [qh6]; rfl⟩
                              have eh6 := lv_neT qh6 (a := 12) (by decide)
                              by_cases qh7 : x1 = 13
                              · exact Or.inr ⟨by rw [qh7]; decide, by rw [qh7]; decide, by rw [qh7]; rfl⟩
                              have eh7 := lv_neT qh7 (a := 13) (by decide)
                              by_cases qh8 : x1 = 14
                              · exact Or.inr ⟨by rw [qh8]; decide, by rw [qh8]; decide, by rw [qh8]; rfl⟩
                              have eh8 := lv_neT qh8 (a := 14) (by decide)
                              by_cases qh9 : x1 = 15
                              · exact Or.inr ⟨by rw [qh9]; decide, by rw [qh9]; decide, by rw [qh9]; rfl⟩
                              have eh9 := lv_neT qh9 (a := 15) (by decide)
                              by_cases qh10 : x1 = 16
                              · exact Or.inr ⟨by rw [qh10]; decide, by rw [qh10]; decide, by rw [qh10]; rfl⟩
                              have eh10 := lv_neT qh10 (a := 16) (by decide)
                              by_cases qh11 : x1 = 17
                              · exact Or.inr ⟨by rw [qh11]; decide, by rw [qh11]; decide, by rw [qh11]; rfl⟩
                              have eh11 := lv_neT qh11 (a := 17) (by decide)
                              have e0 := lv_neT s1_0 (a := 0) (by decide)
                              have e1 := lv_neT s1_1 (a := 1) (by decide)
                              have e2 := lv_neT s1_2 (a := 2) (by decide)
                              have e3 := lv_neT s1_3 (a := 3) (by decide)
                              have e4 := lv_neT s1_4 (a := 4) (by decide)
                              have e5 := lv_neT s1_5 (a := 5) (by decide)
                              have e6 := lv_neT s1_6 (a := 18) (by decide)
                              have e7 := lv_neT s1_7_0 (a := 19) (by decide)
                              have e8 := lv_neT s1_7_1 (a := 20) (by decide)
                              have e9 := lv_neT s1_7_2 (a := 28) (by decide)
                              have e10 := lv_neT s1_8_0 (a := 21) (by decide)
                              have e11 := lv_neT s1_8_1 (a := 22) (by decide)
                              have e12 := lv_neT s1_8_2 (a := 23) (by decide)
                              have e13 := lv_neT s1_8_3 (a := 24) (by decide)
                              have e14 := lv_neT s1_9 (a := 25) (by decide)
                              have e15 := lv_neT s1_10 (a := 26) (by decide)
                              have e16 := lv_neT s1_11 (a := 27) (by decide)
                              have e17 := lv_neT s1_12 (a := 29) (by decide)
                              exact Or.inl (by omega)
                            · refine hj_aload_n hC 0 d_Verifier_takeAndPut_272 rfl rfl ?_
                              refine hj_iconst hC (v := 2) d_Verifier_takeAndPut_273 (by decide) ?_
                              refine hj_callV hC hG (enc := (fun _ : Unit => none)) (As := [vi_ 2]) (st := []) (fun h a C S h1 hr => m_Verifier_takeInts _ _ h a C S h1 hr) cf_Verifier wq_231 wq_232 wq_233 wq_52 wq_230 yk_Verifier_takeInts rfl ⟨Nat.le_of_ble_eq_true rfl, Nat.le_of_ble_eq_true rfl⟩ rfl (Nat.le_of_ble_eq_true rfl) d_Verifier_takeAndPut_274 hr (fun _ h C S hr => ?_)
                              refine hj_aload_n hC 0 d_Verifier_takeAndPut_277 rfl rfl ?_
                              refine hj_iconst hC (v := 1) d_Verifier_takeAndPut_278 (by decide) ?_
                              refine hj_callV hC hG (enc := (fun _ : Unit => none)) (As := [vi_ 1]) (st := []) (fun h a C S h1 hr => m_Verifier_put _ _ h a C S h1 hr) cf_Verifier wq_196 wq_197 wq_198 wq_52 wq_195 yk_Verifier_put rfl ⟨Nat.le_of_ble_eq_true rfl, Nat.le_of_ble_eq_true rfl⟩ rfl (Nat.le_of_ble_eq_true rfl) d_Verifier_takeAndPut_279 hr (fun _ h C S hr => ?_)
                              exact hj_vret hC d_Verifier_takeAndPut_282 hr
set_option maxHeartbeats 4000000 in
set_option maxRecDepth 100000 in
theorem m_Handler_covers {l : Launch} {D : va_G} {dA : Nat → ClassId} (o : Option Nat) (x1 : Int32) (h0 : hc_H) (b : Int32) (C0 S0 : Nat) (h2 : hc_H) (hr : p_Handler_covers o x1 h0 = some (b, C0, S0, h2)) : hc_Met l (gg D dA) y_Handler_covers b_Handler_covers 2 (some .boolean) tb 0 0 [vr_ o, vi_ x1] h0 C0 S0 (some (vi_ b)) h2 := by
  refine hc_Met.of (by decide) (Nat.le_of_ble_eq_true rfl) ?_
  intro p e s m args below meth c hC
  unfold p_Handler_covers at hr
  refine hj_sub (lv' := [(0, vr_ o), (1, vi_ x1)]) [0, 1] rfl ?_
  refine hj_iload_n hC 1 d_Handler_covers_0 rfl rfl ?_
  refine hj_aload_n hC 0 d_Handler_covers_1 rfl rfl ?_
  refine hj_geti hC cf_Handler (k := 0) (by decide) wq_242 rfl d_Handler_covers_2 hr (fun a1 hr => ?_)
  refine hj_icmp_lt hC 20 d_Handler_covers_5 (by decide) hr (fun q5 hr => ?_) (fun q5 hr => ?_)
  · refine hj_iconst hC (v := 0) d_Handler_covers_20 (by decide) ?_
    exact hj_zret hC d_Handler_covers_21 hr
  · refine hj_iload_n hC 1 d_Handler_covers_8 rfl rfl ?_
    refine hj_aload_n hC 0 d_Handler_covers_9 rfl rfl ?_
    refine hj_geti hC cf_Handler (k := 1) (by decide) wq_243 rfl d_Handler_covers_10 hr (fun a2 hr => ?_)
    refine hj_icmp_ge hC 20 d_Handler_covers_13 (by decide) hr (fun q13 hr => ?_) (fun q13 hr => ?_)
    · refine hj_iconst hC (v := 0) d_Handler_covers_20 (by decide) ?_
      exact hj_zret hC d_Handler_covers_21 hr
    · refine hj_iconst hC (v := 1) d_Handler_covers_16 (by decide) ?_
      refine hj_goto hC 21 d_Handler_covers_17 (by decide) ?_
      exact hj_zret hC d_Handler_covers_21 hr
set_option maxHeartbeats 4000000 in
set_option maxRecDepth 100000 in
theorem ml_Verifier_comeToHandlers_2 {p : Program} {l : Launch} {e : Env} {s : State} {m : MethodId} {args : Array Value} {below : List Frame} {meth : Method} {c : Code} {D : va_G} {dA : Nat → ClassId} {h0 h2 : hc_H} {C0 S0 : Nat} {b : Unit} (hC : hj_C p s m args meth c (gg D dA) b_Verifier_comeToHandlers 3 none R_Verifier "comeToHandlers" tb) (x0 : Option Nat) (kx : hM Unit) (hk : ∀  (h : hc_H) (C S : Nat), kx  h = some (b, C, S, h2) → hj_J p l e { frames := 2, cells := C0, slots := S0, locals := 45 } s m args below meth c (gg D dA) h0 3 (hj_Q below args s { frames := 2, cells := C0, slots := S0, locals := 45 } (gg D dA) h0 none h2) C S h 50 [] []) : ∀ (fu : Nat) (v1 : Int32) (h : hc_H) (C S : Nat), p_Verifier_comeToHandlers_2 x0 kx fu v1 h = some (b, C, S, h2) → hj_J p l e { frames := 2, cells := C0, slots := S0, locals := 45 } s m args below meth c (gg D dA) h0 3 (hj_Q below args s { frames := 2, cells := C0, slots := S0, locals := 45 } (gg D dA) h0 none h2) C S h 2 [(0, vr_ x0), (1, vi_ v1)] [] := by
  intro fu
  induction fu with
  | zero =>
    intro v1 h C S hr
    cases hr
  | succ fu ih =>
    intro v1 h C S hr
    rw [p_Verifier_comeToHandlers_2] at hr
    refine hj_iload_n hC 1 d_Verifier_comeToHandlers_2 rfl rfl ?_
    refine hj_aload_n hC 0 d_Verifier_comeToHandlers_3 rfl rfl ?_
    refine hj_getr hC cf_Verifier (k := 5) (by decide) wq_177 rfl d_Verifier_comeToHandlers_4 hr (fun a1 hr => ?_)
    refine hj_geti hC cf_Function (k := 5) (by decide) wq_244 rfl d_Verifier_comeToHandlers_7 hr (fun a2 hr => ?_)
    refine hj_icmp_ge hC 50 d_Verifier_comeToHandlers_10 (by decide) hr (fun q10 hr => ?_) (fun q10 hr => ?_)
    · refine hj_sub (lv' := []) [] rfl ?_
      exact hk _ _ _ hr
    · refine hj_aload_n hC 0 d_Verifier_comeToHandlers_13 rfl rfl ?_
      refine hj_getr hC cf_Verifier (k := 5) (by decide) wq_177 rfl d_Verifier_comeToHandlers_14 hr (fun a3 hr => ?_)
      refine hj_getr hC cf_Function (k := 10) (by decide) wq_245 rfl d_Verifier_comeToHandlers_17 hr (fun a4 hr => ?_)
      refine hj_iload_n hC 1 d_Verifier_comeToHandlers_20 rfl rfl ?_
      refine hj_aald hC (kd := 9) rfl d_Verifier_comeToHandlers_21 hr (fun a5 hr => ?_)
      refine hj_astore_n hC (lv' := [(2, vr_ a5), (0, vr_ x0), (1, vi_ v1)]) d_Verifier_comeToHandlers_22 rfl (by decide) rfl ?_
      refine hj_aload_n hC 0 d_Verifier_comeToHandlers_23 rfl rfl ?_
      refine hj_aload_n hC 1 d_Verifier_comeToHandlers_24 rfl rfl ?_
      refine hj_geti hC cf_Verifier (k := 8) (by decide) wq_193 rfl d_Verifier_comeToHandlers_25 hr (fun a6 hr => ?_)
      refine hj_callV hC hG (enc := (fun a : Int32 => some (vi_ a))) (As := [vi_ a6]) (st := []) (fun h a C S h1 hr => m_Handler_covers _ _ h a C S h1 hr) cf_Handler wq_248 wq_249 wq_250 wq_26 wq_246 yk_Handler_covers rfl ⟨Nat.le_of_ble_eq_true rfl, Nat.le_of_ble_eq_true rfl⟩ rfl (Nat.le_of_ble_eq_true rfl) d_Verifier_comeToHandlers_28 hr (fun a7 h C S hr => ?_)
      refine hj_jn hC (K := hM Unit) (fun k => ∀  (h : hc_H) (C S : Nat), k  h = some (b, C, S, h2) → hj_J p l e { frames := 2, cells := C0, slots := S0, locals := 45 } s m args below meth c (gg D dA) h0 3 (hj_Q below args s { frames := 2, cells := C0, slots := S0, locals := 45 } (gg D dA) h0 none h2) C S h 44 [(0, vr_ x0), (1, vi_ v1)] []) hr (fun  h C S hr => ?_) (fun k44 hk44 hr => ?_)
      · refine hj_iinc hC (lv' := [(1, vi_ (v1 + 1)), (0, vr_ x0)]) 1 d_Verifier_comeToHandlers_44 rfl rfl (by decide) rfl ?_
        refine hj_goto hC 2 d_Verifier_comeToHandlers_47 (by decide) ?_
        refine hj_sub (lv' := [(0, vr_ x0), (1, vi_ (v1 + 1))]) [1, 0] rfl ?_
        exact ih _ _ _ _ hr
      · refine hj_if_eq hC 44 d_Verifier_comeToHandlers_31 (by decide) hr (fun q31 hr => ?_) (fun q31 hr => ?_)
        · refine hj_sub (lv' := [(0, vr_ x0), (1, vi_ v1)]) [1, 2] rfl ?_
          exact hk44 _ _ _ hr
        · refine hj_aload_n hC 1 d_Verifier_comeToHandlers_34 rfl rfl ?_
          refine hj_aload_n hC 0 d_Verifier_comeToHandlers_35 rfl rfl ?_
          refine hj_geti hC cf_Handler (k := 2) (by decide) wq_247 rfl d_Verifier_comeToHandlers_36 hr (fun a8 hr => ?_)
          refine hj_iconst hC (v := 1) d_Verifier_comeToHandlers_39 (by decide) ?_
          refine hj_iconst hC (v := 0) d_Verifier_comeToHandlers_40 (by decide) ?_
          refine hj_callV hC hG (enc := (fun _ : Unit => none)) (As := [vi_ a8, vi_ 1, vi_ 0]) (st := []) (fun h a C S h1 hr => m_Verifier_comeTo _ _ _ _ h a C S h1 hr) cf_Verifier wq_188 wq_189 wq_190 wq_52 wq_187 yk_Verifier_comeTo rfl ⟨Nat.le_of_ble_eq_true rfl, Nat.le_of_ble_eq_true rfl⟩ rfl (Nat.le_of_ble_eq_true rfl) d_Verifier_comeToHandlers_41 hr (fun _ h C S hr => ?_)
          refine hj_sub (lv' := [(0, vr_ x0), (1, vi_ v1)]) [1, 2] rfl ?_
          exact hk44 _ _ _ hr
set_option maxHeartbeats 4000000 in
set_option maxRecDepth 100000 in
theorem m_Verifier_comeToHandlers {l : Launch} {D : va_G} {dA : Nat → ClassId} (o : Option Nat) (h0 : hc_H) (b : Unit) (C0 S0 : Nat) (h2 : hc_H) (hr : p_Verifier_comeToHandlers o h0 = some (b, C0, S0, h2)) : hc_Met l (gg D dA) y_Verifier_comeToHandlers b_Verifier_comeToHandlers 3 none tb 2 45 [vr_ o] h0 C0 S0 none h2 := by
  refine hc_Met.of (by decide) (Nat.le_of_ble_eq_true rfl) ?_
  intro p e s m args below meth c hC
  unfold p_Verifier_comeToHandlers at hr
  refine hj_sub (lv' := [(0, vr_ o)]) [0] rfl ?_
  refine hj_iconst hC (v := 0) d_Verifier_comeToHandlers_0 (by decide) ?_
  refine hj_istore_n hC (lv' := [(1, vi_ 0), (0, vr_ o)]) d_Verifier_comeToHandlers_1 rfl (by decide) rfl ?_
  refine hj_sub (lv' := [(0, vr_ o), (1, vi_ 0)]) [1, 0] rfl ?_
  refine ml_Verifier_comeToHandlers_2 hC _ _ (fun  h C S hr => ?_) _ _ _ _ _ hr
  exact hj_vret hC d_Verifier_comeToHandlers_50 hr
set_option maxHeartbeats 4000000 in
set_option maxRecDepth 100000 in
theorem m_Kinds_goesToPlace {l : Launch} {D : va_G} {dA : Nat → ClassId} (x0 : Int32) (h0 : hc_H) (b : Int32) (C0 S0 : Nat) (h2 : hc_H) (hr : p_Kinds_goesToPlace x0 h0 = some (b, C0, S0, h2)) : hc_Met l (gg D dA) y_Kinds_goesToPlace b_Kinds_goesToPlace 1 (some .boolean) tb 0 0 [vi_ x0] h0 C0 S0 (some (vi_ b)) h2 := by
  refine hc_Met.of (by decide) (Nat.le_of_ble_eq_true rfl) ?_
  intro p e s m args below meth c hC
  unfold p_Kinds_goesToPlace at hr
  refine hj_sub (lv' := [(0, vi_ x0)]) [0] rfl ?_
  refine hj_iload_n hC 0 d_Kinds_goesToPlace_0 rfl rfl ?_
  refine hj_bipush hC (v := 18) d_Kinds_goesToPlace_1 (by decide) ?_
  refine hj_icmp_eq hC 18 d_Kinds_goesToPlace_3 (by decide) hr (fun q3 hr => ?_) (fun q3 hr => ?_)
  · refine hj_iconst hC (v := 1) d_Kinds_goesToPlace_18 (by decide) ?_
    refine hj_goto hC 23 d_Kinds_goesToPlace_19 (by decide) ?_
    exact hj_zret hC d_Kinds_goesToPlace_23 hr
  · refine hj_iload_n hC 0 d_Kinds_goesToPlace_6 rfl rfl ?_
    refine hj_bipush hC (v := 19) d_Kinds_goesToPlace_7 (by decide) ?_
    refine hj_icmp_eq hC 18 d_Kinds_goesToPlace_9 (by decide) hr (fun q9 hr => ?_) (fun q9 hr => ?_)
    · refine hj_iconst hC (v := 1) d_Kinds_goesToPlace_18 (by decide) ?_
      refine hj_goto hC 23 d_Kinds_goesToPlace_19 (by decide) ?_
      exact hj_zret hC d_Kinds_goesToPlace_23 hr
    · refine hj_iload_n hC 0 d_Kinds_goesToPlace_12 rfl rfl ?_
      refine hj_bipush hC (v := 20) d_Kinds_goesToPlace_13 (by decide) ?_
      refine hj_icmp_ne hC 22 d_Kinds_goesToPlace_15 (by decide) hr (fun q15 hr => ?_) (fun q15 hr => ?_)
      · refine hj_iconst hC (v := 0) d_Kinds_goesToPlace_22 (by decide) ?_
        exact hj_zret hC d_Kinds_goesToPlace_23 hr
      · refine hj_iconst hC (v := 1) d_Kinds_goesToPlace_18 (by decide) ?_
        refine hj_goto hC 23 d_Kinds_goesToPlace_19 (by decide) ?_
        exact hj_zret hC d_Kinds_goesToPlace_23 hr
set_option maxHeartbeats 4000000 in
set_option maxRecDepth 100000 in
theorem m_Kinds_goesOnBehind {l : Launch} {D : va_G} {dA : Nat → ClassId} (x0 : Int32) (h0 : hc_H) (b : Int32) (C0 S0 : Nat) (h2 : hc_H) (hr : p_Kinds_goesOnBehind x0 h0 = some (b, C0, S0, h2)) : hc_Met l (gg D dA) y_Kinds_goesOnBehind b_Kinds_goesOnBehind 1 (some .boolean) tb 0 0 [vi_ x0] h0 C0 S0 (some (vi_ b)) h2 := by
  refine hc_Met.of (by decide) (Nat.le_of_ble_eq_true rfl) ?_
  intro p e s m args below meth c hC
  unfold p_Kinds_goesOnBehind at hr
  refine hj_sub (lv' := [(0, vi_ x0)]) [0] rfl ?_
  refine hj_iload_n hC 0 d_Kinds_goesOnBehind_0 rfl rfl ?_
  refine hj_bipush hC (v := 18) d_Kinds_goesOnBehind_1 (by decide) ?_
  refine hj_icmp_eq hC 22 d_Kinds_goesOnBehind_3 (by decide) hr (fun q3 hr => ?_) (fun q3 hr => ?_)
  · refine hj_iconst hC (v := 0) d_Kinds_goesOnBehind_22 (by decide) ?_
    exact hj_zret hC d_Kinds_goesOnBehind_23 hr
  · refine hj_iload_n hC 0 d_Kinds_goesOnBehind_6 rfl rfl ?_
    refine hj_bipush hC (v := 27) d_Kinds_goesOnBehind_7 (by decide) ?_
    refine hj_icmp_eq hC 22 d_Kinds_goesOnBehind_9 (by decide) hr (fun q9 hr => ?_) (fun q9 hr => ?_)
    · refine hj_iconst hC (v := 0) d_Kinds_goesOnBehind_22 (by decide) ?_
      exact hj_zret hC d_Kinds_goesOnBehind_23 hr
    · refine hj_iload_n hC 0 d_Kinds_goesOnBehind_12 rfl rfl ?_
      refine hj_bipush hC (v := 28) d_Kinds_goesOnBehind_13 (by decide) ?_
      refine hj_icmp_eq hC 22 d_Kinds_goesOnBehind_15 (by decide) hr (fun q15 hr => ?_) (fun q15 hr => ?_)
      · refine hj_iconst hC (v := 0) d_Kinds_goesOnBehind_22 (by decide) ?_
        exact hj_zret hC d_Kinds_goesOnBehind_23 hr
      · refine hj_iconst hC (v := 1) d_Kinds_goesOnBehind_18 (by decide) ?_
        refine hj_goto hC 23 d_Kinds_goesOnBehind_19 (by decide) ?_
        exact hj_zret hC d_Kinds_goesOnBehind_23 hr
set_option maxHeartbeats 4000000 in
set_option maxRecDepth 100000 in
theorem m_Verifier_comeToNext {l : Launch} {D : va_G} {dA : Nat → ClassId} (o : Option Nat) (h0 : hc_H) (b : Unit) (C0 S0 : Nat) (h2 : hc_H) (hr : p_Verifier_comeToNext o h0 = some (b, C0, S0, h2)) : hc_Met l (gg D dA) y_Verifier_comeToNext b_Verifier_comeToNext 1 none tb 2 45 [vr_ o] h0 C0 S0 none h2 := by
  refine hc_Met.of (by decide) (Nat.le_of_ble_eq_true rfl) ?_
  intro p e s m args below meth c hC
  unfold p_Verifier_comeToNext at hr
  refine hj_sub (lv' := [(0, vr_ o)]) [0] rfl ?_
  refine hj_aload_n hC 0 d_Verifier_comeToNext_0 rfl rfl ?_
  refine hj_geti hC cf_Verifier (k := 8) (by decide) wq_193 rfl d_Verifier_comeToNext_1 hr (fun a1 hr => ?_)
  refine hj_iconst hC (v := 1) d_Verifier_comeToNext_4 (by decide) ?_
  refine hj_iadd hC d_Verifier_comeToNext_5 ?_
  refine hj_aload_n hC 0 d_Verifier_comeToNext_6 rfl rfl ?_
  refine hj_getr hC cf_Verifier (k := 5) (by decide) wq_177 rfl d_Verifier_comeToNext_7 hr (fun a2 hr => ?_)
  refine hj_geti hC cf_Function (k := 4) (by decide) wq_186 rfl d_Verifier_comeToNext_10 hr (fun a3 hr => ?_)
  refine hj_icmp_ge hC 37 d_Verifier_comeToNext_13 (by decide) hr (fun q13 hr => ?_) (fun q13 hr => ?_)
  · refine hj_aload_n hC 0 d_Verifier_comeToNext_37 rfl rfl ?_
    refine hj_getr hC cf_Verifier (k := 6) (by decide) wq_175 rfl d_Verifier_comeToNext_38 hr (fun a4 hr => ?_)
    refine hj_bipush hC (v := 8) d_Verifier_comeToNext_41 (by decide) ?_
    refine hj_aload_n hC 0 d_Verifier_comeToNext_43 rfl rfl ?_
    refine hj_geti hC cf_Verifier (k := 7) (by decide) wq_179 rfl d_Verifier_comeToNext_44 hr (fun a5 hr => ?_)
    refine hj_aload_n hC 0 d_Verifier_comeToNext_47 rfl rfl ?_
    refine hj_geti hC cf_Verifier (k := 8) (by decide) wq_193 rfl d_Verifier_comeToNext_48 hr (fun a6 hr => ?_)
    refine hj_iadd hC d_Verifier_comeToNext_51 ?_
    refine hj_callV hC hG (enc := (fun _ : Unit => none)) (As := [vi_ 8, vi_ (a5 + a6)]) (st := []) (fun h a C S h1 hr => m_Fault_tell _ _ _ h a C S h1 hr) cf_Fault wq_180 wq_111 wq_112 wq_47 wq_109 yk_Fault_tell rfl ⟨Nat.le_of_ble_eq_true rfl, Nat.le_of_ble_eq_true rfl⟩ rfl (Nat.le_of_ble_eq_true rfl) d_Verifier_comeToNext_52 hr (fun _ h C S hr => ?_)
    exact hj_vret hC d_Verifier_comeToNext_55 hr
  · refine hj_aload_n hC 0 d_Verifier_comeToNext_16 rfl rfl ?_
    refine hj_aload_n hC 0 d_Verifier_comeToNext_17 rfl rfl ?_
    refine hj_geti hC cf_Verifier (k := 8) (by decide) wq_193 rfl d_Verifier_comeToNext_18 hr (fun a7 hr => ?_)
    refine hj_iconst hC (v := 1) d_Verifier_comeToNext_21 (by decide) ?_
    refine hj_iadd hC d_Verifier_comeToNext_22 ?_
    refine hj_aload_n hC 0 d_Verifier_comeToNext_23 rfl rfl ?_
    refine hj_geti hC cf_Verifier (k := 9) (by decide) wq_191 rfl d_Verifier_comeToNext_24 hr (fun a8 hr => ?_)
    refine hj_aload_n hC 0 d_Verifier_comeToNext_27 rfl rfl ?_
    refine hj_geti hC cf_Verifier (k := 10) (by decide) wq_192 rfl d_Verifier_comeToNext_28 hr (fun a9 hr => ?_)
    refine hj_callV hC hG (enc := (fun _ : Unit => none)) (As := [vi_ (a7 + 1), vi_ a8, vi_ a9]) (st := []) (fun h a C S h1 hr => m_Verifier_comeTo _ _ _ _ h a C S h1 hr) cf_Verifier wq_188 wq_189 wq_190 wq_52 wq_187 yk_Verifier_comeTo rfl ⟨Nat.le_of_ble_eq_true rfl, Nat.le_of_ble_eq_true rfl⟩ rfl (Nat.le_of_ble_eq_true rfl) d_Verifier_comeToNext_31 hr (fun _ h C S hr => ?_)
    refine hj_goto hC 55 d_Verifier_comeToNext_34 (by decide) ?_
    exact hj_vret hC d_Verifier_comeToNext_55 hr
