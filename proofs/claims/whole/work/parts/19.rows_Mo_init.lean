theorem d_Mo_init_0 : decode b_Mo_init 0 = .ok (.aload_n 0, 1) := by decide +kernel
theorem d_Mo_init_1 : decode b_Mo_init 1 = .ok (.invokespecial 1, 3) := by decide +kernel
theorem d_Mo_init_4 : decode b_Mo_init 4 = .ok (.aload_n 0, 1) := by decide +kernel
theorem d_Mo_init_5 : decode b_Mo_init 5 = .ok (.sipush 4096, 3) := by decide +kernel
theorem d_Mo_init_8 : decode b_Mo_init 8 = .ok (.newarray .int, 2) := by decide +kernel
theorem d_Mo_init_10 : decode b_Mo_init 10 = .ok (.putfield 7, 3) := by decide +kernel
theorem d_Mo_init_13 : decode b_Mo_init 13 = .ok (.aload_n 0, 1) := by decide +kernel
theorem d_Mo_init_14 : decode b_Mo_init 14 = .ok (.sipush 26000, 3) := by decide +kernel
theorem d_Mo_init_17 : decode b_Mo_init 17 = .ok (.newarray .int, 2) := by decide +kernel
theorem d_Mo_init_19 : decode b_Mo_init 19 = .ok (.putfield 13, 3) := by decide +kernel
theorem d_Mo_init_22 : decode b_Mo_init 22 = .ok (.aload_n 0, 1) := by decide +kernel
theorem d_Mo_init_23 : decode b_Mo_init 23 = .ok (.iconst (-1), 1) := by decide +kernel
theorem d_Mo_init_24 : decode b_Mo_init 24 = .ok (.putfield 16, 3) := by decide +kernel
theorem d_Mo_init_27 : decode b_Mo_init 27 = .ok (.aload_n 0, 1) := by decide +kernel
theorem d_Mo_init_28 : decode b_Mo_init 28 = .ok (.iconst 2, 1) := by decide +kernel
theorem d_Mo_init_29 : decode b_Mo_init 29 = .ok (.newarray .int, 2) := by decide +kernel
theorem d_Mo_init_31 : decode b_Mo_init 31 = .ok (.putfield 20, 3) := by decide +kernel
theorem d_Mo_init_34 : decode b_Mo_init 34 = .ok (.aload_n 0, 1) := by decide +kernel
theorem d_Mo_init_35 : decode b_Mo_init 35 = .ok (.bipush 24, 2) := by decide +kernel
theorem d_Mo_init_37 : decode b_Mo_init 37 = .ok (.newarray .int, 2) := by decide +kernel
theorem d_Mo_init_39 : decode b_Mo_init 39 = .ok (.putfield 23, 3) := by decide +kernel
theorem d_Mo_init_42 : decode b_Mo_init 42 = .ok (.aload_n 0, 1) := by decide +kernel
theorem d_Mo_init_43 : decode b_Mo_init 43 = .ok (.bipush 24, 2) := by decide +kernel
theorem d_Mo_init_45 : decode b_Mo_init 45 = .ok (.newarray .int, 2) := by decide +kernel
theorem d_Mo_init_47 : decode b_Mo_init 47 = .ok (.putfield 26, 3) := by decide +kernel
theorem d_Mo_init_50 : decode b_Mo_init 50 = .ok (.aload_n 0, 1) := by decide +kernel
theorem d_Mo_init_51 : decode b_Mo_init 51 = .ok (.bipush 24, 2) := by decide +kernel
theorem d_Mo_init_53 : decode b_Mo_init 53 = .ok (.newarray .int, 2) := by decide +kernel
theorem d_Mo_init_55 : decode b_Mo_init 55 = .ok (.putfield 29, 3) := by decide +kernel
theorem d_Mo_init_58 : decode b_Mo_init 58 = .ok (.aload_n 0, 1) := by decide +kernel
theorem d_Mo_init_59 : decode b_Mo_init 59 = .ok (.bipush 24, 2) := by decide +kernel
theorem d_Mo_init_61 : decode b_Mo_init 61 = .ok (.newarray .int, 2) := by decide +kernel
theorem d_Mo_init_63 : decode b_Mo_init 63 = .ok (.putfield 32, 3) := by decide +kernel
theorem d_Mo_init_66 : decode b_Mo_init 66 = .ok (.aload_n 0, 1) := by decide +kernel
theorem d_Mo_init_67 : decode b_Mo_init 67 = .ok (.bipush 24, 2) := by decide +kernel
theorem d_Mo_init_69 : decode b_Mo_init 69 = .ok (.newarray .int, 2) := by decide +kernel
theorem d_Mo_init_71 : decode b_Mo_init 71 = .ok (.putfield 35, 3) := by decide +kernel
theorem d_Mo_init_74 : decode b_Mo_init 74 = .ok (.aload_n 0, 1) := by decide +kernel
theorem d_Mo_init_75 : decode b_Mo_init 75 = .ok (.bipush 24, 2) := by decide +kernel
theorem d_Mo_init_77 : decode b_Mo_init 77 = .ok (.newarray .int, 2) := by decide +kernel
theorem d_Mo_init_79 : decode b_Mo_init 79 = .ok (.putfield 38, 3) := by decide +kernel
theorem d_Mo_init_82 : decode b_Mo_init 82 = .ok (.aload_n 0, 1) := by decide +kernel
theorem d_Mo_init_83 : decode b_Mo_init 83 = .ok (.sipush 9600, 3) := by decide +kernel
theorem d_Mo_init_86 : decode b_Mo_init 86 = .ok (.newarray .int, 2) := by decide +kernel
theorem d_Mo_init_88 : decode b_Mo_init 88 = .ok (.putfield 41, 3) := by decide +kernel
theorem d_Mo_init_91 : decode b_Mo_init 91 = .ok (.aload_n 0, 1) := by decide +kernel
theorem d_Mo_init_92 : decode b_Mo_init 92 = .ok (.sipush 9600, 3) := by decide +kernel
theorem d_Mo_init_95 : decode b_Mo_init 95 = .ok (.newarray .int, 2) := by decide +kernel
theorem d_Mo_init_97 : decode b_Mo_init 97 = .ok (.putfield 44, 3) := by decide +kernel
theorem d_Mo_init_100 : decode b_Mo_init 100 = .ok (.aload_n 0, 1) := by decide +kernel
theorem d_Mo_init_101 : decode b_Mo_init 101 = .ok (.sipush 144, 3) := by decide +kernel
theorem d_Mo_init_104 : decode b_Mo_init 104 = .ok (.newarray .int, 2) := by decide +kernel
theorem d_Mo_init_106 : decode b_Mo_init 106 = .ok (.putfield 47, 3) := by decide +kernel
theorem d_Mo_init_109 : decode b_Mo_init 109 = .ok (.aload_n 0, 1) := by decide +kernel
theorem d_Mo_init_110 : decode b_Mo_init 110 = .ok (.sipush 144, 3) := by decide +kernel
theorem d_Mo_init_113 : decode b_Mo_init 113 = .ok (.newarray .int, 2) := by decide +kernel
theorem d_Mo_init_115 : decode b_Mo_init 115 = .ok (.putfield 50, 3) := by decide +kernel
theorem d_Mo_init_118 : decode b_Mo_init 118 = .ok (.aload_n 0, 1) := by decide +kernel
theorem d_Mo_init_119 : decode b_Mo_init 119 = .ok (.sipush 144, 3) := by decide +kernel
theorem d_Mo_init_122 : decode b_Mo_init 122 = .ok (.newarray .int, 2) := by decide +kernel
theorem d_Mo_init_124 : decode b_Mo_init 124 = .ok (.putfield 53, 3) := by decide +kernel
theorem d_Mo_init_127 : decode b_Mo_init 127 = .ok (.aload_n 0, 1) := by decide +kernel
theorem d_Mo_init_128 : decode b_Mo_init 128 = .ok (.sipush 144, 3) := by decide +kernel
theorem d_Mo_init_131 : decode b_Mo_init 131 = .ok (.newarray .boolean, 2) := by decide +kernel
theorem d_Mo_init_133 : decode b_Mo_init 133 = .ok (.putfield 56, 3) := by decide +kernel
theorem d_Mo_init_136 : decode b_Mo_init 136 = .ok (.aload_n 0, 1) := by decide +kernel
theorem d_Mo_init_137 : decode b_Mo_init 137 = .ok (.sipush 144, 3) := by decide +kernel
theorem d_Mo_init_140 : decode b_Mo_init 140 = .ok (.newarray .int, 2) := by decide +kernel
theorem d_Mo_init_142 : decode b_Mo_init 142 = .ok (.putfield 60, 3) := by decide +kernel
theorem d_Mo_init_145 : decode b_Mo_init 145 = .ok (.aload_n 0, 1) := by decide +kernel
theorem d_Mo_init_146 : decode b_Mo_init 146 = .ok (.sipush 9600, 3) := by decide +kernel
theorem d_Mo_init_149 : decode b_Mo_init 149 = .ok (.newarray .int, 2) := by decide +kernel
theorem d_Mo_init_151 : decode b_Mo_init 151 = .ok (.putfield 63, 3) := by decide +kernel
theorem d_Mo_init_154 : decode b_Mo_init 154 = .ok (.aload_n 0, 1) := by decide +kernel
theorem d_Mo_init_155 : decode b_Mo_init 155 = .ok (.sipush 9600, 3) := by decide +kernel
theorem d_Mo_init_158 : decode b_Mo_init 158 = .ok (.newarray .int, 2) := by decide +kernel
theorem d_Mo_init_160 : decode b_Mo_init 160 = .ok (.putfield 66, 3) := by decide +kernel
theorem d_Mo_init_163 : decode b_Mo_init 163 = .ok (.aload_n 0, 1) := by decide +kernel
theorem d_Mo_init_164 : decode b_Mo_init 164 = .ok (.sipush 400, 3) := by decide +kernel
theorem d_Mo_init_167 : decode b_Mo_init 167 = .ok (.newarray .boolean, 2) := by decide +kernel
theorem d_Mo_init_169 : decode b_Mo_init 169 = .ok (.putfield 69, 3) := by decide +kernel
theorem d_Mo_init_172 : decode b_Mo_init 172 = .ok (.aload_n 0, 1) := by decide +kernel
theorem d_Mo_init_173 : decode b_Mo_init 173 = .ok (.getfield 20, 3) := by decide +kernel
theorem d_Mo_init_176 : decode b_Mo_init 176 = .ok (.iconst 0, 1) := by decide +kernel
theorem d_Mo_init_177 : decode b_Mo_init 177 = .ok (.iconst 1, 1) := by decide +kernel
theorem d_Mo_init_178 : decode b_Mo_init 178 = .ok (.iastore, 1) := by decide +kernel
theorem d_Mo_init_179 : decode b_Mo_init 179 = .ok (.aload_n 0, 1) := by decide +kernel
theorem d_Mo_init_180 : decode b_Mo_init 180 = .ok (.getfield 35, 3) := by decide +kernel
theorem d_Mo_init_183 : decode b_Mo_init 183 = .ok (.iconst 0, 1) := by decide +kernel
theorem d_Mo_init_184 : decode b_Mo_init 184 = .ok (.iconst 1, 1) := by decide +kernel
theorem d_Mo_init_185 : decode b_Mo_init 185 = .ok (.iastore, 1) := by decide +kernel
theorem d_Mo_init_186 : decode b_Mo_init 186 = .ok (.aload_n 0, 1) := by decide +kernel
theorem d_Mo_init_187 : decode b_Mo_init 187 = .ok (.getfield 41, 3) := by decide +kernel
theorem d_Mo_init_190 : decode b_Mo_init 190 = .ok (.iconst 0, 1) := by decide +kernel
theorem d_Mo_init_191 : decode b_Mo_init 191 = .ok (.bipush 27, 2) := by decide +kernel
theorem d_Mo_init_193 : decode b_Mo_init 193 = .ok (.iastore, 1) := by decide +kernel
theorem d_Mo_init_194 : decode b_Mo_init 194 = .ok (.aload_n 0, 1) := by decide +kernel
theorem d_Mo_init_195 : decode b_Mo_init 195 = .ok (.iconst 0, 1) := by decide +kernel
theorem d_Mo_init_196 : decode b_Mo_init 196 = .ok (.iconst 0, 1) := by decide +kernel
theorem d_Mo_init_197 : decode b_Mo_init 197 = .ok (.invokevirtual 72, 3) := by decide +kernel
theorem d_Mo_init_200 : decode b_Mo_init 200 = .ok (.return_, 1) := by decide +kernel
theorem d_Mo_give_0 : decode b_Mo_give 0 = .ok (.aload_n 0, 1) := by decide +kernel
theorem d_Mo_give_1 : decode b_Mo_give 1 = .ok (.iconst 0, 1) := by decide +kernel
theorem d_Mo_give_2 : decode b_Mo_give 2 = .ok (.putfield 76, 3) := by decide +kernel
theorem d_Mo_give_5 : decode b_Mo_give 5 = .ok (.iload_n 3, 1) := by decide +kernel
theorem d_Mo_give_6 : decode b_Mo_give 6 = .ok (.iconst 1, 1) := by decide +kernel
theorem d_Mo_give_7 : decode b_Mo_give 7 = .ok (.if_icmp .lt 21, 3) := by decide +kernel
theorem d_Mo_give_10 : decode b_Mo_give 10 = .ok (.iload_n 3, 1) := by decide +kernel
theorem d_Mo_give_11 : decode b_Mo_give 11 = .ok (.bipush 8, 2) := by decide +kernel
theorem d_Mo_give_13 : decode b_Mo_give 13 = .ok (.if_icmp .gt 15, 3) := by decide +kernel
theorem d_Mo_give_16 : decode b_Mo_give 16 = .ok (.aload_n 0, 1) := by decide +kernel
theorem d_Mo_give_17 : decode b_Mo_give 17 = .ok (.getfield 85, 3) := by decide +kernel
theorem d_Mo_give_20 : decode b_Mo_give 20 = .ok (.iload_n 3, 1) := by decide +kernel
theorem d_Mo_give_21 : decode b_Mo_give 21 = .ok (.iadd, 1) := by decide +kernel
theorem d_Mo_give_22 : decode b_Mo_give 22 = .ok (.sipush 4096, 3) := by decide +kernel
theorem d_Mo_give_25 : decode b_Mo_give 25 = .ok (.if_icmp .le 5, 3) := by decide +kernel
theorem d_Mo_give_28 : decode b_Mo_give 28 = .ok (.iconst 0, 1) := by decide +kernel
theorem d_Mo_give_29 : decode b_Mo_give 29 = .ok (.ireturn, 1) := by decide +kernel
theorem d_Mo_give_30 : decode b_Mo_give 30 = .ok (.iload_n 3, 1) := by decide +kernel
theorem d_Mo_give_31 : decode b_Mo_give 31 = .ok (.iconst 1, 1) := by decide +kernel
theorem d_Mo_give_32 : decode b_Mo_give 32 = .ok (.isub, 1) := by decide +kernel
theorem d_Mo_give_33 : decode b_Mo_give 33 = .ok (.istore 4, 2) := by decide +kernel
theorem d_Mo_give_35 : decode b_Mo_give 35 = .ok (.iload 4, 2) := by decide +kernel
theorem d_Mo_give_37 : decode b_Mo_give 37 = .ok (.ifCond .lt 40, 3) := by decide +kernel
theorem d_Mo_give_40 : decode b_Mo_give 40 = .ok (.aload_n 0, 1) := by decide +kernel
theorem d_Mo_give_41 : decode b_Mo_give 41 = .ok (.getfield 7, 3) := by decide +kernel
theorem d_Mo_give_44 : decode b_Mo_give 44 = .ok (.aload_n 0, 1) := by decide +kernel
theorem d_Mo_give_45 : decode b_Mo_give 45 = .ok (.getfield 85, 3) := by decide +kernel
theorem d_Mo_give_48 : decode b_Mo_give 48 = .ok (.lload_n 1, 1) := by decide +kernel
theorem d_Mo_give_49 : decode b_Mo_give 49 = .ok (.bipush 8, 2) := by decide +kernel
theorem d_Mo_give_51 : decode b_Mo_give 51 = .ok (.iload 4, 2) := by decide +kernel
theorem d_Mo_give_53 : decode b_Mo_give 53 = .ok (.imul, 1) := by decide +kernel
theorem d_Mo_give_54 : decode b_Mo_give 54 = .ok (.lshr, 1) := by decide +kernel
theorem d_Mo_give_55 : decode b_Mo_give 55 = .ok (.ldc2_w 88, 3) := by decide +kernel
theorem d_Mo_give_58 : decode b_Mo_give 58 = .ok (.land, 1) := by decide +kernel
theorem d_Mo_give_59 : decode b_Mo_give 59 = .ok (.l2i, 1) := by decide +kernel
theorem d_Mo_give_60 : decode b_Mo_give 60 = .ok (.iastore, 1) := by decide +kernel
theorem d_Mo_give_61 : decode b_Mo_give 61 = .ok (.aload_n 0, 1) := by decide +kernel
theorem d_Mo_give_62 : decode b_Mo_give 62 = .ok (.dup, 1) := by decide +kernel
theorem d_Mo_give_63 : decode b_Mo_give 63 = .ok (.getfield 85, 3) := by decide +kernel
theorem d_Mo_give_66 : decode b_Mo_give 66 = .ok (.iconst 1, 1) := by decide +kernel
theorem d_Mo_give_67 : decode b_Mo_give 67 = .ok (.iadd, 1) := by decide +kernel
theorem d_Mo_give_68 : decode b_Mo_give 68 = .ok (.putfield 85, 3) := by decide +kernel
theorem d_Mo_give_71 : decode b_Mo_give 71 = .ok (.iinc 4 (-1), 3) := by decide +kernel
theorem d_Mo_give_74 : decode b_Mo_give 74 = .ok (.goto (-39), 3) := by decide +kernel
theorem d_Mo_give_77 : decode b_Mo_give 77 = .ok (.iconst 1, 1) := by decide +kernel
theorem d_Mo_give_78 : decode b_Mo_give 78 = .ok (.ireturn, 1) := by decide +kernel
theorem d_Mo_cut_0 : decode b_Mo_cut 0 = .ok (.aload_n 0, 1) := by decide +kernel
theorem d_Mo_cut_1 : decode b_Mo_cut 1 = .ok (.iconst 0, 1) := by decide +kernel
theorem d_Mo_cut_2 : decode b_Mo_cut 2 = .ok (.putfield 76, 3) := by decide +kernel
theorem d_Mo_cut_5 : decode b_Mo_cut 5 = .ok (.iload_n 1, 1) := by decide +kernel
theorem d_Mo_cut_6 : decode b_Mo_cut 6 = .ok (.ifCond .lt 11, 3) := by decide +kernel
theorem d_Mo_cut_9 : decode b_Mo_cut 9 = .ok (.iload_n 1, 1) := by decide +kernel
theorem d_Mo_cut_10 : decode b_Mo_cut 10 = .ok (.aload_n 0, 1) := by decide +kernel
theorem d_Mo_cut_11 : decode b_Mo_cut 11 = .ok (.getfield 85, 3) := by decide +kernel
theorem d_Mo_cut_14 : decode b_Mo_cut 14 = .ok (.if_icmp .le 5, 3) := by decide +kernel
theorem d_Mo_cut_17 : decode b_Mo_cut 17 = .ok (.iconst 0, 1) := by decide +kernel
theorem d_Mo_cut_18 : decode b_Mo_cut 18 = .ok (.ireturn, 1) := by decide +kernel
theorem d_Mo_cut_19 : decode b_Mo_cut 19 = .ok (.aload_n 0, 1) := by decide +kernel
theorem d_Mo_cut_20 : decode b_Mo_cut 20 = .ok (.iload_n 1, 1) := by decide +kernel
theorem d_Mo_cut_21 : decode b_Mo_cut 21 = .ok (.putfield 85, 3) := by decide +kernel
theorem d_Mo_cut_24 : decode b_Mo_cut 24 = .ok (.iconst 1, 1) := by decide +kernel
theorem d_Mo_cut_25 : decode b_Mo_cut 25 = .ok (.ireturn, 1) := by decide +kernel
theorem d_Mo_poke_0 : decode b_Mo_poke 0 = .ok (.aload_n 0, 1) := by decide +kernel
theorem d_Mo_poke_1 : decode b_Mo_poke 1 = .ok (.iconst 0, 1) := by decide +kernel
theorem d_Mo_poke_2 : decode b_Mo_poke 2 = .ok (.putfield 76, 3) := by decide +kernel
theorem d_Mo_poke_5 : decode b_Mo_poke 5 = .ok (.iload_n 1, 1) := by decide +kernel
theorem d_Mo_poke_6 : decode b_Mo_poke 6 = .ok (.ifCond .lt 11, 3) := by decide +kernel
theorem d_Mo_poke_9 : decode b_Mo_poke 9 = .ok (.iload_n 1, 1) := by decide +kernel
theorem d_Mo_poke_10 : decode b_Mo_poke 10 = .ok (.aload_n 0, 1) := by decide +kernel
theorem d_Mo_poke_11 : decode b_Mo_poke 11 = .ok (.getfield 85, 3) := by decide +kernel
theorem d_Mo_poke_14 : decode b_Mo_poke 14 = .ok (.if_icmp .lt 5, 3) := by decide +kernel
theorem d_Mo_poke_17 : decode b_Mo_poke 17 = .ok (.iconst 0, 1) := by decide +kernel
theorem d_Mo_poke_18 : decode b_Mo_poke 18 = .ok (.ireturn, 1) := by decide +kernel
theorem d_Mo_poke_19 : decode b_Mo_poke 19 = .ok (.aload_n 0, 1) := by decide +kernel
theorem d_Mo_poke_20 : decode b_Mo_poke 20 = .ok (.getfield 7, 3) := by decide +kernel
theorem d_Mo_poke_23 : decode b_Mo_poke 23 = .ok (.iload_n 1, 1) := by decide +kernel
theorem d_Mo_poke_24 : decode b_Mo_poke 24 = .ok (.iload_n 2, 1) := by decide +kernel
theorem d_Mo_poke_25 : decode b_Mo_poke 25 = .ok (.sipush 255, 3) := by decide +kernel
theorem d_Mo_poke_28 : decode b_Mo_poke 28 = .ok (.iand, 1) := by decide +kernel
theorem d_Mo_poke_29 : decode b_Mo_poke 29 = .ok (.iastore, 1) := by decide +kernel
theorem d_Mo_poke_30 : decode b_Mo_poke 30 = .ok (.iconst 1, 1) := by decide +kernel
theorem d_Mo_poke_31 : decode b_Mo_poke 31 = .ok (.ireturn, 1) := by decide +kernel
theorem d_Mo_turnOver_0 : decode b_Mo_turnOver 0 = .ok (.aload_n 0, 1) := by decide +kernel
theorem d_Mo_turnOver_1 : decode b_Mo_turnOver 1 = .ok (.iconst 0, 1) := by decide +kernel
theorem d_Mo_turnOver_2 : decode b_Mo_turnOver 2 = .ok (.putfield 76, 3) := by decide +kernel
theorem d_Mo_turnOver_5 : decode b_Mo_turnOver 5 = .ok (.aload_n 0, 1) := by decide +kernel
theorem d_Mo_turnOver_6 : decode b_Mo_turnOver 6 = .ok (.getfield 90, 3) := by decide +kernel
theorem d_Mo_turnOver_9 : decode b_Mo_turnOver 9 = .ok (.sipush 4096, 3) := by decide +kernel
theorem d_Mo_turnOver_12 : decode b_Mo_turnOver 12 = .ok (.if_icmp .le 5, 3) := by decide +kernel
theorem d_Mo_turnOver_15 : decode b_Mo_turnOver 15 = .ok (.iconst 0, 1) := by decide +kernel
theorem d_Mo_turnOver_16 : decode b_Mo_turnOver 16 = .ok (.ireturn, 1) := by decide +kernel
theorem d_Mo_turnOver_17 : decode b_Mo_turnOver 17 = .ok (.aload_n 0, 1) := by decide +kernel
theorem d_Mo_turnOver_18 : decode b_Mo_turnOver 18 = .ok (.aload_n 0, 1) := by decide +kernel
theorem d_Mo_turnOver_19 : decode b_Mo_turnOver 19 = .ok (.getfield 90, 3) := by decide +kernel
theorem d_Mo_turnOver_22 : decode b_Mo_turnOver 22 = .ok (.putfield 85, 3) := by decide +kernel
theorem d_Mo_turnOver_25 : decode b_Mo_turnOver 25 = .ok (.iconst 0, 1) := by decide +kernel
theorem d_Mo_turnOver_26 : decode b_Mo_turnOver 26 = .ok (.istore_n 1, 1) := by decide +kernel
theorem d_Mo_turnOver_27 : decode b_Mo_turnOver 27 = .ok (.iload_n 1, 1) := by decide +kernel
theorem d_Mo_turnOver_28 : decode b_Mo_turnOver 28 = .ok (.aload_n 0, 1) := by decide +kernel
theorem d_Mo_turnOver_29 : decode b_Mo_turnOver 29 = .ok (.getfield 85, 3) := by decide +kernel
theorem d_Mo_turnOver_32 : decode b_Mo_turnOver 32 = .ok (.if_icmp .ge 21, 3) := by decide +kernel
theorem d_Mo_turnOver_35 : decode b_Mo_turnOver 35 = .ok (.aload_n 0, 1) := by decide +kernel
theorem d_Mo_turnOver_36 : decode b_Mo_turnOver 36 = .ok (.getfield 7, 3) := by decide +kernel
theorem d_Mo_turnOver_39 : decode b_Mo_turnOver 39 = .ok (.iload_n 1, 1) := by decide +kernel
theorem d_Mo_turnOver_40 : decode b_Mo_turnOver 40 = .ok (.aload_n 0, 1) := by decide +kernel
theorem d_Mo_turnOver_41 : decode b_Mo_turnOver 41 = .ok (.getfield 13, 3) := by decide +kernel
theorem d_Mo_turnOver_44 : decode b_Mo_turnOver 44 = .ok (.iload_n 1, 1) := by decide +kernel
theorem d_Mo_turnOver_45 : decode b_Mo_turnOver 45 = .ok (.iaload, 1) := by decide +kernel
theorem d_Mo_turnOver_46 : decode b_Mo_turnOver 46 = .ok (.iastore, 1) := by decide +kernel
theorem d_Mo_turnOver_47 : decode b_Mo_turnOver 47 = .ok (.iinc 1 1, 3) := by decide +kernel
theorem d_Mo_turnOver_50 : decode b_Mo_turnOver 50 = .ok (.goto (-23), 3) := by decide +kernel
theorem d_Mo_turnOver_53 : decode b_Mo_turnOver 53 = .ok (.iconst 1, 1) := by decide +kernel
theorem d_Mo_turnOver_54 : decode b_Mo_turnOver 54 = .ok (.ireturn, 1) := by decide +kernel
theorem d_Mo_byteAt_0 : decode b_Mo_byteAt 0 = .ok (.aload_n 0, 1) := by decide +kernel
theorem d_Mo_byteAt_1 : decode b_Mo_byteAt 1 = .ok (.iconst 0, 1) := by decide +kernel
theorem d_Mo_byteAt_2 : decode b_Mo_byteAt 2 = .ok (.putfield 76, 3) := by decide +kernel
theorem d_Mo_byteAt_5 : decode b_Mo_byteAt 5 = .ok (.iload_n 1, 1) := by decide +kernel
theorem d_Mo_byteAt_6 : decode b_Mo_byteAt 6 = .ok (.ifCond .lt 22, 3) := by decide +kernel
theorem d_Mo_byteAt_9 : decode b_Mo_byteAt 9 = .ok (.iload_n 1, 1) := by decide +kernel
theorem d_Mo_byteAt_10 : decode b_Mo_byteAt 10 = .ok (.iload_n 2, 1) := by decide +kernel
theorem d_Mo_byteAt_11 : decode b_Mo_byteAt 11 = .ok (.ifCond .eq 10, 3) := by decide +kernel
theorem d_Mo_byteAt_14 : decode b_Mo_byteAt 14 = .ok (.aload_n 0, 1) := by decide +kernel
theorem d_Mo_byteAt_15 : decode b_Mo_byteAt 15 = .ok (.getfield 85, 3) := by decide +kernel
theorem d_Mo_byteAt_18 : decode b_Mo_byteAt 18 = .ok (.goto 7, 3) := by decide +kernel
theorem d_Mo_byteAt_21 : decode b_Mo_byteAt 21 = .ok (.aload_n 0, 1) := by decide +kernel
theorem d_Mo_byteAt_22 : decode b_Mo_byteAt 22 = .ok (.getfield 90, 3) := by decide +kernel
theorem d_Mo_byteAt_25 : decode b_Mo_byteAt 25 = .ok (.if_icmp .lt 7, 3) := by decide +kernel
theorem d_Mo_byteAt_28 : decode b_Mo_byteAt 28 = .ok (.iconst (-1), 1) := by decide +kernel
theorem d_Mo_byteAt_29 : decode b_Mo_byteAt 29 = .ok (.goto 22, 3) := by decide +kernel
theorem d_Mo_byteAt_32 : decode b_Mo_byteAt 32 = .ok (.iload_n 2, 1) := by decide +kernel
theorem d_Mo_byteAt_33 : decode b_Mo_byteAt 33 = .ok (.ifCond .eq 12, 3) := by decide +kernel
theorem d_Mo_byteAt_36 : decode b_Mo_byteAt 36 = .ok (.aload_n 0, 1) := by decide +kernel
theorem d_Mo_byteAt_37 : decode b_Mo_byteAt 37 = .ok (.getfield 7, 3) := by decide +kernel
theorem d_Mo_byteAt_40 : decode b_Mo_byteAt 40 = .ok (.iload_n 1, 1) := by decide +kernel
theorem d_Mo_byteAt_41 : decode b_Mo_byteAt 41 = .ok (.iaload, 1) := by decide +kernel
theorem d_Mo_byteAt_42 : decode b_Mo_byteAt 42 = .ok (.goto 9, 3) := by decide +kernel
theorem d_Mo_byteAt_45 : decode b_Mo_byteAt 45 = .ok (.aload_n 0, 1) := by decide +kernel
theorem d_Mo_byteAt_46 : decode b_Mo_byteAt 46 = .ok (.getfield 13, 3) := by decide +kernel
theorem d_Mo_byteAt_49 : decode b_Mo_byteAt 49 = .ok (.iload_n 1, 1) := by decide +kernel
theorem d_Mo_byteAt_50 : decode b_Mo_byteAt 50 = .ok (.iaload, 1) := by decide +kernel
theorem d_Mo_byteAt_51 : decode b_Mo_byteAt 51 = .ok (.ireturn, 1) := by decide +kernel
theorem d_Mo_byteNext_0 : decode b_Mo_byteNext 0 = .ok (.aload_n 0, 1) := by decide +kernel
theorem d_Mo_byteNext_1 : decode b_Mo_byteNext 1 = .ok (.getfield 79, 3) := by decide +kernel
theorem d_Mo_byteNext_4 : decode b_Mo_byteNext 4 = .ok (.ifCond .gt 14, 3) := by decide +kernel
theorem d_Mo_byteNext_7 : decode b_Mo_byteNext 7 = .ok (.aload_n 0, 1) := by decide +kernel
theorem d_Mo_byteNext_8 : decode b_Mo_byteNext 8 = .ok (.getfield 93, 3) := by decide +kernel
theorem d_Mo_byteNext_11 : decode b_Mo_byteNext 11 = .ok (.aload_n 0, 1) := by decide +kernel
theorem d_Mo_byteNext_12 : decode b_Mo_byteNext 12 = .ok (.getfield 85, 3) := by decide +kernel
theorem d_Mo_byteNext_15 : decode b_Mo_byteNext 15 = .ok (.if_icmp .ne 14, 3) := by decide +kernel
theorem d_Mo_byteNext_18 : decode b_Mo_byteNext 18 = .ok (.aload_n 0, 1) := by decide +kernel
theorem d_Mo_byteNext_19 : decode b_Mo_byteNext 19 = .ok (.iconst 1, 1) := by decide +kernel
theorem d_Mo_byteNext_20 : decode b_Mo_byteNext 20 = .ok (.aload_n 0, 1) := by decide +kernel
theorem d_Mo_byteNext_21 : decode b_Mo_byteNext 21 = .ok (.getfield 85, 3) := by decide +kernel
theorem d_Mo_byteNext_24 : decode b_Mo_byteNext 24 = .ok (.invokevirtual 96, 3) := by decide +kernel
theorem d_Mo_byteNext_27 : decode b_Mo_byteNext 27 = .ok (.iconst 0, 1) := by decide +kernel
theorem d_Mo_byteNext_28 : decode b_Mo_byteNext 28 = .ok (.ireturn, 1) := by decide +kernel
theorem d_Mo_byteNext_29 : decode b_Mo_byteNext 29 = .ok (.aload_n 0, 1) := by decide +kernel
theorem d_Mo_byteNext_30 : decode b_Mo_byteNext 30 = .ok (.dup, 1) := by decide +kernel
theorem d_Mo_byteNext_31 : decode b_Mo_byteNext 31 = .ok (.getfield 93, 3) := by decide +kernel
theorem d_Mo_byteNext_34 : decode b_Mo_byteNext 34 = .ok (.iconst 1, 1) := by decide +kernel
theorem d_Mo_byteNext_35 : decode b_Mo_byteNext 35 = .ok (.iadd, 1) := by decide +kernel
theorem d_Mo_byteNext_36 : decode b_Mo_byteNext 36 = .ok (.putfield 93, 3) := by decide +kernel
theorem d_Mo_byteNext_39 : decode b_Mo_byteNext 39 = .ok (.aload_n 0, 1) := by decide +kernel
theorem d_Mo_byteNext_40 : decode b_Mo_byteNext 40 = .ok (.getfield 7, 3) := by decide +kernel
theorem d_Mo_byteNext_43 : decode b_Mo_byteNext 43 = .ok (.aload_n 0, 1) := by decide +kernel
theorem d_Mo_byteNext_44 : decode b_Mo_byteNext 44 = .ok (.getfield 93, 3) := by decide +kernel
theorem d_Mo_byteNext_47 : decode b_Mo_byteNext 47 = .ok (.iconst 1, 1) := by decide +kernel
theorem d_Mo_byteNext_48 : decode b_Mo_byteNext 48 = .ok (.isub, 1) := by decide +kernel
theorem d_Mo_byteNext_49 : decode b_Mo_byteNext 49 = .ok (.iaload, 1) := by decide +kernel
theorem d_Mo_byteNext_50 : decode b_Mo_byteNext 50 = .ok (.ireturn, 1) := by decide +kernel
theorem d_Mo_numberNext_0 : decode b_Mo_numberNext 0 = .ok (.aload_n 0, 1) := by decide +kernel
theorem d_Mo_numberNext_1 : decode b_Mo_numberNext 1 = .ok (.getfield 93, 3) := by decide +kernel
theorem d_Mo_numberNext_4 : decode b_Mo_numberNext 4 = .ok (.istore 4, 2) := by decide +kernel
theorem d_Mo_numberNext_6 : decode b_Mo_numberNext 6 = .ok (.iconst 0, 1) := by decide +kernel
theorem d_Mo_numberNext_7 : decode b_Mo_numberNext 7 = .ok (.istore 5, 2) := by decide +kernel
theorem d_Mo_numberNext_9 : decode b_Mo_numberNext 9 = .ok (.iconst 0, 1) := by decide +kernel
theorem d_Mo_numberNext_10 : decode b_Mo_numberNext 10 = .ok (.istore 6, 2) := by decide +kernel
theorem d_Mo_numberNext_12 : decode b_Mo_numberNext 12 = .ok (.iload 6, 2) := by decide +kernel
theorem d_Mo_numberNext_14 : decode b_Mo_numberNext 14 = .ok (.iload_n 1, 1) := by decide +kernel
theorem d_Mo_numberNext_15 : decode b_Mo_numberNext 15 = .ok (.if_icmp .ge 21, 3) := by decide +kernel
theorem d_Mo_numberNext_18 : decode b_Mo_numberNext 18 = .ok (.iload 5, 2) := by decide +kernel
theorem d_Mo_numberNext_20 : decode b_Mo_numberNext 20 = .ok (.bipush 8, 2) := by decide +kernel
theorem d_Mo_numberNext_22 : decode b_Mo_numberNext 22 = .ok (.ishl, 1) := by decide +kernel
theorem d_Mo_numberNext_23 : decode b_Mo_numberNext 23 = .ok (.aload_n 0, 1) := by decide +kernel
theorem d_Mo_numberNext_24 : decode b_Mo_numberNext 24 = .ok (.invokevirtual 99, 3) := by decide +kernel
theorem d_Mo_numberNext_27 : decode b_Mo_numberNext 27 = .ok (.ior, 1) := by decide +kernel
theorem d_Mo_numberNext_28 : decode b_Mo_numberNext 28 = .ok (.istore 5, 2) := by decide +kernel
theorem d_Mo_numberNext_30 : decode b_Mo_numberNext 30 = .ok (.iinc 6 1, 3) := by decide +kernel
theorem d_Mo_numberNext_33 : decode b_Mo_numberNext 33 = .ok (.goto (-21), 3) := by decide +kernel
theorem d_Mo_numberNext_36 : decode b_Mo_numberNext 36 = .ok (.aload_n 0, 1) := by decide +kernel
theorem d_Mo_numberNext_37 : decode b_Mo_numberNext 37 = .ok (.getfield 79, 3) := by decide +kernel
theorem d_Mo_numberNext_40 : decode b_Mo_numberNext 40 = .ok (.ifCond .ne 22, 3) := by decide +kernel
theorem d_Mo_numberNext_43 : decode b_Mo_numberNext 43 = .ok (.iload 5, 2) := by decide +kernel
theorem d_Mo_numberNext_45 : decode b_Mo_numberNext 45 = .ok (.iload_n 2, 1) := by decide +kernel
theorem d_Mo_numberNext_46 : decode b_Mo_numberNext 46 = .ok (.if_icmp .lt 9, 3) := by decide +kernel
theorem d_Mo_numberNext_49 : decode b_Mo_numberNext 49 = .ok (.iload 5, 2) := by decide +kernel
theorem d_Mo_numberNext_51 : decode b_Mo_numberNext 51 = .ok (.iload_n 3, 1) := by decide +kernel
theorem d_Mo_numberNext_52 : decode b_Mo_numberNext 52 = .ok (.if_icmp .le 10, 3) := by decide +kernel
theorem d_Mo_numberNext_55 : decode b_Mo_numberNext 55 = .ok (.aload_n 0, 1) := by decide +kernel
theorem d_Mo_numberNext_56 : decode b_Mo_numberNext 56 = .ok (.iconst 3, 1) := by decide +kernel
theorem d_Mo_numberNext_57 : decode b_Mo_numberNext 57 = .ok (.iload 4, 2) := by decide +kernel
theorem d_Mo_numberNext_59 : decode b_Mo_numberNext 59 = .ok (.invokevirtual 96, 3) := by decide +kernel
theorem d_Mo_numberNext_62 : decode b_Mo_numberNext 62 = .ok (.iload 5, 2) := by decide +kernel
theorem d_Mo_numberNext_64 : decode b_Mo_numberNext 64 = .ok (.ireturn, 1) := by decide +kernel
set_option maxHeartbeats 4000000 in
set_option maxRecDepth 100000 in
theorem m_Mo_init {l : Launch} {D : va_G} {dA : Nat → ClassId} (q0 : Nat) (h0 : hc_H) (b : Unit) (C0 S0 : Nat) (h2 : hc_H) (hr : p_Mo_init (some q0) h0 = some (b, C0, S0, h2)) : hc_Met l (gg D dA) y_Mo_init b_Mo_init 1 none tb 5 126 [vr_ (some q0)] h0 C0 S0 none h2 := by
  refine hc_Met.of (by decide) (Nat.le_of_ble_eq_true rfl) ?_
  intro p e s m args below meth c hC
  unfold p_Mo_init at hr
  refine hj_sub (lv' := [(0, vr_ (some q0))]) [0] rfl ?_
  refine hj_aload_n hC 0 d_Mo_init_0 rfl rfl ?_
  refine hj_objInit hC wq_432 wq_1 wq_2 (Nat.le_of_ble_eq_true rfl) (Nat.le_of_ble_eq_true rfl) d_Mo_init_1 ?_
  refine hj_aload_n hC 0 d_Mo_init_4 rfl rfl ?_
  refine hj_sipush hC (v := 4096) d_Mo_init_5 (by decide) ?_
  refine hj_newa hC (kd := 10) (atype := .int) rfl rfl (by decide) wq_11 d_Mo_init_8 hr (fun q1 h C S hr => ?_)
  refine hj_putr hC cf_Mo (k := 1) (by decide) wq_433 rfl (Or.inr ⟨rfl, rfl, rfl⟩) rfl d_Mo_init_10 hr (fun h hr => ?_)
  refine hj_aload_n hC 0 d_Mo_init_13 rfl rfl ?_
  refine hj_sipush hC (v := 26000) d_Mo_init_14 (by decide) ?_
  refine hj_newa hC (kd := 11) (atype := .int) rfl rfl (by decide) wq_11 d_Mo_init_17 hr (fun q2 h C S hr => ?_)
  refine hj_putr hC cf_Mo (k := 3) (by decide) wq_434 rfl (Or.inr ⟨rfl, rfl, rfl⟩) rfl d_Mo_init_19 hr (fun h hr => ?_)
  refine hj_aload_n hC 0 d_Mo_init_22 rfl rfl ?_
  refine hj_iconst hC (v := (-1)) d_Mo_init_23 (by decide) ?_
  refine hj_puti hC cf_Mo (k := 6) (by decide) wq_435 rfl (Or.inl rfl) rfl d_Mo_init_24 hr (fun h hr => ?_)
  refine hj_aload_n hC 0 d_Mo_init_27 rfl rfl ?_
  refine hj_iconst hC (v := 2) d_Mo_init_28 (by decide) ?_
  refine hj_newa hC (kd := 12) (atype := .int) rfl rfl (by decide) wq_11 d_Mo_init_29 hr (fun q3 h C S hr => ?_)
  refine hj_putr hC cf_Mo (k := 9) (by decide) wq_436 rfl (Or.inr ⟨rfl, rfl, rfl⟩) rfl d_Mo_init_31 hr (fun h hr => ?_)
  refine hj_aload_n hC 0 d_Mo_init_34 rfl rfl ?_
  refine hj_bipush hC (v := 24) d_Mo_init_35 (by decide) ?_
  refine hj_newa hC (kd := 13) (atype := .int) rfl rfl (by decide) wq_11 d_Mo_init_37 hr (fun q4 h C S hr => ?_)
  refine hj_putr hC cf_Mo (k := 10) (by decide) wq_408 rfl (Or.inr ⟨rfl, rfl, rfl⟩) rfl d_Mo_init_39 hr (fun h hr => ?_)
  refine hj_aload_n hC 0 d_Mo_init_42 rfl rfl ?_
  refine hj_bipush hC (v := 24) d_Mo_init_43 (by decide) ?_
  refine hj_newa hC (kd := 14) (atype := .int) rfl rfl (by decide) wq_11 d_Mo_init_45 hr (fun q5 h C S hr => ?_)
  refine hj_putr hC cf_Mo (k := 11) (by decide) wq_437 rfl (Or.inr ⟨rfl, rfl, rfl⟩) rfl d_Mo_init_47 hr (fun h hr => ?_)
  refine hj_aload_n hC 0 d_Mo_init_50 rfl rfl ?_
  refine hj_bipush hC (v := 24) d_Mo_init_51 (by decide) ?_
  refine hj_newa hC (kd := 15) (atype := .int) rfl rfl (by decide) wq_11 d_Mo_init_53 hr (fun q6 h C S hr => ?_)
  refine hj_putr hC cf_Mo (k := 12) (by decide) wq_394 rfl (Or.inr ⟨rfl, rfl, rfl⟩) rfl d_Mo_init_55 hr (fun h hr => ?_)
  refine hj_aload_n hC 0 d_Mo_init_58 rfl rfl ?_
  refine hj_bipush hC (v := 24) d_Mo_init_59 (by decide) ?_
  refine hj_newa hC (kd := 16) (atype := .int) rfl rfl (by decide) wq_11 d_Mo_init_61 hr (fun q7 h C S hr => ?_)
  refine hj_putr hC cf_Mo (k := 13) (by decide) wq_407 rfl (Or.inr ⟨rfl, rfl, rfl⟩) rfl d_Mo_init_63 hr (fun h hr => ?_)
  refine hj_aload_n hC 0 d_Mo_init_66 rfl rfl ?_
  refine hj_bipush hC (v := 24) d_Mo_init_67 (by decide) ?_
  refine hj_newa hC (kd := 17) (atype := .int) rfl rfl (by decide) wq_11 d_Mo_init_69 hr (fun q8 h C S hr => ?_)
  refine hj_putr hC cf_Mo (k := 14) (by decide) wq_424 rfl (Or.inr ⟨rfl, rfl, rfl⟩) rfl d_Mo_init_71 hr (fun h hr => ?_)
  refine hj_aload_n hC 0 d_Mo_init_74 rfl rfl ?_
  refine hj_bipush hC (v := 24) d_Mo_init_75 (by decide) ?_
  refine hj_newa hC (kd := 18) (atype := .int) rfl rfl (by decide) wq_11 d_Mo_init_77 hr (fun q9 h C S hr => ?_)
  refine hj_putr hC cf_Mo (k := 15) (by decide) wq_416 rfl (Or.inr ⟨rfl, rfl, rfl⟩) rfl d_Mo_init_79 hr (fun h hr => ?_)
  refine hj_aload_n hC 0 d_Mo_init_82 rfl rfl ?_
  refine hj_sipush hC (v := 9600) d_Mo_init_83 (by decide) ?_
  refine hj_newa hC (kd := 19) (atype := .int) rfl rfl (by decide) wq_11 d_Mo_init_86 hr (fun q10 h C S hr => ?_)
  refine hj_putr hC cf_Mo (k := 16) (by decide) wq_413 rfl (Or.inr ⟨rfl, rfl, rfl⟩) rfl d_Mo_init_88 hr (fun h hr => ?_)
  refine hj_aload_n hC 0 d_Mo_init_91 rfl rfl ?_
  refine hj_sipush hC (v := 9600) d_Mo_init_92 (by decide) ?_
  refine hj_newa hC (kd := 20) (atype := .int) rfl rfl (by decide) wq_11 d_Mo_init_95 hr (fun q11 h C S hr => ?_)
  refine hj_putr hC cf_Mo (k := 17) (by decide) wq_414 rfl (Or.inr ⟨rfl, rfl, rfl⟩) rfl d_Mo_init_97 hr (fun h hr => ?_)
  refine hj_aload_n hC 0 d_Mo_init_100 rfl rfl ?_
  refine hj_sipush hC (v := 144) d_Mo_init_101 (by decide) ?_
  refine hj_newa hC (kd := 21) (atype := .int) rfl rfl (by decide) wq_11 d_Mo_init_104 hr (fun q12 h C S hr => ?_)
  refine hj_putr hC cf_Mo (k := 18) (by decide) wq_417 rfl (Or.inr ⟨rfl, rfl, rfl⟩) rfl d_Mo_init_106 hr (fun h hr => ?_)
  refine hj_aload_n hC 0 d_Mo_init_109 rfl rfl ?_
  refine hj_sipush hC (v := 144) d_Mo_init_110 (by decide) ?_
  refine hj_newa hC (kd := 22) (atype := .int) rfl rfl (by decide) wq_11 d_Mo_init_113 hr (fun q13 h C S hr => ?_)
  refine hj_putr hC cf_Mo (k := 19) (by decide) wq_418 rfl (Or.inr ⟨rfl, rfl, rfl⟩) rfl d_Mo_init_115 hr (fun h hr => ?_)
  refine hj_aload_n hC 0 d_Mo_init_118 rfl rfl ?_
  refine hj_sipush hC (v := 144) d_Mo_init_119 (by decide) ?_
  refine hj_newa hC (kd := 23) (atype := .int) rfl rfl (by decide) wq_11 d_Mo_init_122 hr (fun q14 h C S hr => ?_)
  refine hj_putr hC cf_Mo (k := 20) (by decide) wq_419 rfl (Or.inr ⟨rfl, rfl, rfl⟩) rfl d_Mo_init_124 hr (fun h hr => ?_)
  refine hj_aload_n hC 0 d_Mo_init_127 rfl rfl ?_
  refine hj_sipush hC (v := 144) d_Mo_init_128 (by decide) ?_
  refine hj_newa hC (kd := 24) (atype := .boolean) rfl rfl (by decide) wq_14 d_Mo_init_131 hr (fun q15 h C S hr => ?_)
  refine hj_putr hC cf_Mo (k := 21) (by decide) wq_438 rfl (Or.inr ⟨rfl, rfl, rfl⟩) rfl d_Mo_init_133 hr (fun h hr => ?_)
  refine hj_aload_n hC 0 d_Mo_init_136 rfl rfl ?_
  refine hj_sipush hC (v := 144) d_Mo_init_137 (by decide) ?_
  refine hj_newa hC (kd := 25) (atype := .int) rfl rfl (by decide) wq_11 d_Mo_init_140 hr (fun q16 h C S hr => ?_)
  refine hj_putr hC cf_Mo (k := 22) (by decide) wq_439 rfl (Or.inr ⟨rfl, rfl, rfl⟩) rfl d_Mo_init_142 hr (fun h hr => ?_)
  refine hj_aload_n hC 0 d_Mo_init_145 rfl rfl ?_
  refine hj_sipush hC (v := 9600) d_Mo_init_146 (by decide) ?_
  refine hj_newa hC (kd := 26) (atype := .int) rfl rfl (by decide) wq_11 d_Mo_init_149 hr (fun q17 h C S hr => ?_)
  refine hj_putr hC cf_Mo (k := 23) (by decide) wq_384 rfl (Or.inr ⟨rfl, rfl, rfl⟩) rfl d_Mo_init_151 hr (fun h hr => ?_)
  refine hj_aload_n hC 0 d_Mo_init_154 rfl rfl ?_
  refine hj_sipush hC (v := 9600) d_Mo_init_155 (by decide) ?_
  refine hj_newa hC (kd := 27) (atype := .int) rfl rfl (by decide) wq_11 d_Mo_init_158 hr (fun q18 h C S hr => ?_)
  refine hj_putr hC cf_Mo (k := 24) (by decide) wq_390 rfl (Or.inr ⟨rfl, rfl, rfl⟩) rfl d_Mo_init_160 hr (fun h hr => ?_)
  refine hj_aload_n hC 0 d_Mo_init_163 rfl rfl ?_
  refine hj_sipush hC (v := 400) d_Mo_init_164 (by decide) ?_
  refine hj_newa hC (kd := 28) (atype := .boolean) rfl rfl (by decide) wq_14 d_Mo_init_167 hr (fun q19 h C S hr => ?_)
  refine hj_putr hC cf_Mo (k := 25) (by decide) wq_391 rfl (Or.inr ⟨rfl, rfl, rfl⟩) rfl d_Mo_init_169 hr (fun h hr => ?_)
  refine hj_aload_n hC 0 d_Mo_init_172 rfl rfl ?_
  refine hj_getr hC cf_Mo (k := 9) (by decide) wq_436 rfl d_Mo_init_173 hr (fun a20 hr => ?_)
  refine hj_iconst hC (v := 0) d_Mo_init_176 (by decide) ?_
  refine hj_iconst hC (v := 1) d_Mo_init_177 (by decide) ?_
  refine hj_iast hC (kd := 12) rfl d_Mo_init_178 hr (fun h hr => ?_)
  refine hj_aload_n hC 0 d_Mo_init_179 rfl rfl ?_
  refine hj_getr hC cf_Mo (k := 14) (by decide) wq_424 rfl d_Mo_init_180 hr (fun a21 hr => ?_)
  refine hj_iconst hC (v := 0) d_Mo_init_183 (by decide) ?_
  refine hj_iconst hC (v := 1) d_Mo_init_184 (by decide) ?_
  refine hj_iast hC (kd := 17) rfl d_Mo_init_185 hr (fun h hr => ?_)
  refine hj_aload_n hC 0 d_Mo_init_186 rfl rfl ?_
  refine hj_getr hC cf_Mo (k := 16) (by decide) wq_413 rfl d_Mo_init_187 hr (fun a22 hr => ?_)
  refine hj_iconst hC (v := 0) d_Mo_init_190 (by decide) ?_
  refine hj_bipush hC (v := 27) d_Mo_init_191 (by decide) ?_
  refine hj_iast hC (kd := 19) rfl d_Mo_init_193 hr (fun h hr => ?_)
  refine hj_aload_n hC 0 d_Mo_init_194 rfl rfl ?_
  refine hj_iconst hC (v := 0) d_Mo_init_195 (by decide) ?_
  refine hj_iconst hC (v := 0) d_Mo_init_196 (by decide) ?_
  refine hj_callV hC hG (enc := (fun _ : Unit => none)) (As := [vi_ 0, vi_ 0]) (st := []) (fun h a C S h1 hr => m_Mo_verify _ _ _ h a C S h1 hr) cf_Mo wq_441 wq_442 wq_443 wq_389 wq_440 yk_Mo_verify rfl ⟨Nat.le_of_ble_eq_true rfl, Nat.le_of_ble_eq_true rfl⟩ rfl (Nat.le_of_ble_eq_true rfl) d_Mo_init_197 hr (fun _ h C S hr => ?_)
  exact hj_vret hC d_Mo_init_200 hr
set_option maxHeartbeats 4000000 in
set_option maxRecDepth 100000 in
theorem ml_Mo_give_35 {p : Program} {l : Launch} {e : Env} {s : State} {m : MethodId} {args : Array Value} {below : List Frame} {meth : Method} {c : Code} {D : va_G} {dA : Nat → ClassId} {h0 h2 : hc_H} {C0 S0 : Nat} {b : Int32} (hC : hj_C p s m args meth c (gg D dA) b_Mo_give 5 (some .boolean) R_Mo "give" tb) (x0 : Option Nat) (x1 : Int64) (kx : hM Int32) (hk : ∀  (h : hc_H) (C S : Nat), kx  h = some (b, C, S, h2) → hj_J p l e { frames := 0, cells := C0, slots := S0, locals := 0 } s m args below meth c (gg D dA) h0 5 (hj_Q below args s { frames := 0, cells := C0, slots := S0, locals := 0 } (gg D dA) h0 (some (vi_ b)) h2) C S h 77 [] []) : ∀ (fu : Nat) (v4 : Int32) (h : hc_H) (C S : Nat), p_Mo_give_35 x0 x1 kx fu v4 h = some (b, C, S, h2) → hj_J p l e { frames := 0, cells := C0, slots := S0, locals := 0 } s m args below meth c (gg D dA) h0 5 (hj_Q below args s { frames := 0, cells := C0, slots := S0, locals := 0 } (gg D dA) h0 (some (vi_ b)) h2) C S h 35 [(0, vr_ x0), (1, vl_ x1), (4, vi_ v4)] [] := by
  intro fu
  induction fu with
  | zero =>
    intro v4 h C S hr
    cases hr
  | succ fu ih =>
    intro v4 h C S hr
    rw [p_Mo_give_35] at hr
    refine hj_iload hC 2 d_Mo_give_35 rfl ?_
    refine hj_if_lt hC 77 d_Mo_give_37 (by decide) hr (fun q37 hr => ?_) (fun q37 hr => ?_)
    · refine hj_sub (lv' := []) [] rfl ?_
      exact hk _ _ _ hr
    · refine hj_aload_n hC 0 d_Mo_give_40 rfl rfl ?_
      refine hj_getr hC cf_Mo (k := 1) (by decide) wq_433 rfl d_Mo_give_41 hr (fun a2 hr => ?_)
      refine hj_aload_n hC 0 d_Mo_give_44 rfl rfl ?_
      refine hj_geti hC cf_Mo (k := 2) (by decide) wq_445 rfl d_Mo_give_45 hr (fun a3 hr => ?_)
      refine hj_lload_n hC 1 d_Mo_give_48 rfl rfl ?_
      refine hj_bipush hC (v := 8) d_Mo_give_49 (by decide) ?_
      refine hj_iload hC 2 d_Mo_give_51 rfl ?_
      refine hj_imul hC d_Mo_give_53 ?_
      refine hj_lshr hC d_Mo_give_54 ?_
      refine hj_ldc2 hC (v := 255) wq_446 d_Mo_give_55 ?_
      refine hj_land hC d_Mo_give_58 ?_
      refine hj_l2i hC d_Mo_give_59 ?_
      refine hj_iast hC (kd := 10) rfl d_Mo_give_60 hr (fun h hr => ?_)
      refine hj_aload_n hC 0 d_Mo_give_61 rfl rfl ?_
      refine hj_dup hC d_Mo_give_62 rfl ?_
      refine hj_geti hC cf_Mo (k := 2) (by decide) wq_445 rfl d_Mo_give_63 hr (fun a4 hr => ?_)
      refine hj_iconst hC (v := 1) d_Mo_give_66 (by decide) ?_
      refine hj_iadd hC d_Mo_give_67 ?_
      refine hj_puti hC cf_Mo (k := 2) (by decide) wq_445 rfl (Or.inl rfl) rfl d_Mo_give_68 hr (fun h hr => ?_)
      refine hj_iinc hC (lv' := [(4, vi_ (v4 + (-1))), (0, vr_ x0), (1, vl_ x1)]) 2 d_Mo_give_71 rfl rfl (by decide) rfl ?_
      refine hj_goto hC 35 d_Mo_give_74 (by decide) ?_
      refine hj_sub (lv' := [(0, vr_ x0), (1, vl_ x1), (4, vi_ (v4 + (-1)))]) [1, 2, 0] rfl ?_
      exact ih _ _ _ _ hr
set_option maxHeartbeats 4000000 in
set_option maxRecDepth 100000 in
theorem m_Mo_give {l : Launch} {D : va_G} {dA : Nat → ClassId} (o : Option Nat) (x1 : Int64) (x3 : Int32) (h0 : hc_H) (b : Int32) (C0 S0 : Nat) (h2 : hc_H) (hr : p_Mo_give o x1 x3 h0 = some (b, C0, S0, h2)) : hc_Met l (gg D dA) y_Mo_give b_Mo_give 5 (some .boolean) tb 0 0 [vr_ o, vl_ x1, vi_ x3] h0 C0 S0 (some (vi_ b)) h2 := by
  refine hc_Met.of (by decide) (Nat.le_of_ble_eq_true rfl) ?_
  intro p e s m args below meth c hC
  unfold p_Mo_give at hr
  refine hj_sub (lv' := [(0, vr_ o), (1, vl_ x1), (3, vi_ x3)]) [0, 1, 2] rfl ?_
  refine hj_aload_n hC 0 d_Mo_give_0 rfl rfl ?_
  refine hj_iconst hC (v := 0) d_Mo_give_1 (by decide) ?_
  refine hj_puti hC cf_Mo (k := 0) (by decide) wq_444 rfl (Or.inl rfl) rfl d_Mo_give_2 hr (fun h hr => ?_)
  refine hj_iload_n hC 2 d_Mo_give_5 rfl rfl ?_
  refine hj_iconst hC (v := 1) d_Mo_give_6 (by decide) ?_
  refine hj_icmp_lt hC 28 d_Mo_give_7 (by decide) hr (fun q7 hr => ?_) (fun q7 hr => ?_)
  · refine hj_iconst hC (v := 0) d_Mo_give_28 (by decide) ?_
    exact hj_zret hC d_Mo_give_29 hr
  · refine hj_iload_n hC 2 d_Mo_give_10 rfl rfl ?_
    refine hj_bipush hC (v := 8) d_Mo_give_11 (by decide) ?_
    refine hj_icmp_gt hC 28 d_Mo_give_13 (by decide) hr (fun q13 hr => ?_) (fun q13 hr => ?_)
    · refine hj_iconst hC (v := 0) d_Mo_give_28 (by decide) ?_
      exact hj_zret hC d_Mo_give_29 hr
    · refine hj_aload_n hC 0 d_Mo_give_16 rfl rfl ?_
      refine hj_geti hC cf_Mo (k := 2) (by decide) wq_445 rfl d_Mo_give_17 hr (fun a1 hr => ?_)
      refine hj_iload_n hC 2 d_Mo_give_20 rfl rfl ?_
      refine hj_iadd hC d_Mo_give_21 ?_
      refine hj_sipush hC (v := 4096) d_Mo_give_22 (by decide) ?_
      refine hj_icmp_le hC 30 d_Mo_give_25 (by decide) hr (fun q25 hr => ?_) (fun q25 hr => ?_)
      · refine hj_iload_n hC 2 d_Mo_give_30 rfl rfl ?_
        refine hj_iconst hC (v := 1) d_Mo_give_31 (by decide) ?_
        refine hj_isub hC d_Mo_give_32 ?_
        refine hj_istore hC (lv' := [(4, vi_ (x3 - 1)), (0, vr_ o), (1, vl_ x1), (3, vi_ x3)]) d_Mo_give_33 (by decide) rfl ?_
        refine hj_sub (lv' := [(0, vr_ o), (1, vl_ x1), (4, vi_ (x3 - 1))]) [1, 2, 0] rfl ?_
        refine ml_Mo_give_35 hC _ _ _ (fun  h C S hr => ?_) _ _ _ _ _ hr
        refine hj_iconst hC (v := 1) d_Mo_give_77 (by decide) ?_
        exact hj_zret hC d_Mo_give_78 hr
      · refine hj_iconst hC (v := 0) d_Mo_give_28 (by decide) ?_
        exact hj_zret hC d_Mo_give_29 hr
set_option maxHeartbeats 4000000 in
set_option maxRecDepth 100000 in
theorem m_Mo_cut {l : Launch} {D : va_G} {dA : Nat → ClassId} (o : Option Nat) (x1 : Int32) (h0 : hc_H) (b : Int32) (C0 S0 : Nat) (h2 : hc_H) (hr : p_Mo_cut o x1 h0 = some (b, C0, S0, h2)) : hc_Met l (gg D dA) y_Mo_cut b_Mo_cut 2 (some .boolean) tb 0 0 [vr_ o, vi_ x1] h0 C0 S0 (some (vi_ b)) h2 := by
  refine hc_Met.of (by decide) (Nat.le_of_ble_eq_true rfl) ?_
  intro p e s m args below meth c hC
  unfold p_Mo_cut at hr
  refine hj_sub (lv' := [(0, vr_ o), (1, vi_ x1)]) [0, 1] rfl ?_
  refine hj_aload_n hC 0 d_Mo_cut_0 rfl rfl ?_
  refine hj_iconst hC (v := 0) d_Mo_cut_1 (by decide) ?_
  refine hj_puti hC cf_Mo (k := 0) (by decide) wq_444 rfl (Or.inl rfl) rfl d_Mo_cut_2 hr (fun h hr => ?_)
  refine hj_iload_n hC 1 d_Mo_cut_5 rfl rfl ?_
  refine hj_if_lt hC 17 d_Mo_cut_6 (by decide) hr (fun q6 hr => ?_) (fun q6 hr => ?_)
  · refine hj_iconst hC (v := 0) d_Mo_cut_17 (by decide) ?_
    exact hj_zret hC d_Mo_cut_18 hr
  · refine hj_iload_n hC 1 d_Mo_cut_9 rfl rfl ?_
    refine hj_aload_n hC 0 d_Mo_cut_10 rfl rfl ?_
    refine hj_geti hC cf_Mo (k := 2) (by decide) wq_445 rfl d_Mo_cut_11 hr (fun a1 hr => ?_)
    refine hj_icmp_le hC 19 d_Mo_cut_14 (by decide) hr (fun q14 hr => ?_) (fun q14 hr => ?_)
    · refine hj_aload_n hC 0 d_Mo_cut_19 rfl rfl ?_
      refine hj_iload_n hC 1 d_Mo_cut_20 rfl rfl ?_
      refine hj_puti hC cf_Mo (k := 2) (by decide) wq_445 rfl (Or.inl rfl) rfl d_Mo_cut_21 hr (fun h hr => ?_)
      refine hj_iconst hC (v := 1) d_Mo_cut_24 (by decide) ?_
      exact hj_zret hC d_Mo_cut_25 hr
    · refine hj_iconst hC (v := 0) d_Mo_cut_17 (by decide) ?_
      exact hj_zret hC d_Mo_cut_18 hr
set_option maxHeartbeats 4000000 in
set_option maxRecDepth 100000 in
theorem m_Mo_poke {l : Launch} {D : va_G} {dA : Nat → ClassId} (o : Option Nat) (x1 : Int32) (x2 : Int32) (h0 : hc_H) (b : Int32) (C0 S0 : Nat) (h2 : hc_H) (hr : p_Mo_poke o x1 x2 h0 = some (b, C0, S0, h2)) : hc_Met l (gg D dA) y_Mo_poke b_Mo_poke 3 (some .boolean) tb 0 0 [vr_ o, vi_ x1, vi_ x2] h0 C0 S0 (some (vi_ b)) h2 := by
  refine hc_Met.of (by decide) (Nat.le_of_ble_eq_true rfl) ?_
  intro p e s m args below meth c hC
  unfold p_Mo_poke at hr
  refine hj_sub (lv' := [(0, vr_ o), (1, vi_ x1), (2, vi_ x2)]) [0, 1, 2] rfl ?_
  refine hj_aload_n hC 0 d_Mo_poke_0 rfl rfl ?_
  refine hj_iconst hC (v := 0) d_Mo_poke_1 (by decide) ?_
  refine hj_puti hC cf_Mo (k := 0) (by decide) wq_444 rfl (Or.inl rfl) rfl d_Mo_poke_2 hr (fun h hr => ?_)
  refine hj_iload_n hC 1 d_Mo_poke_5 rfl rfl ?_
  refine hj_if_lt hC 17 d_Mo_poke_6 (by decide) hr (fun q6 hr => ?_) (fun q6 hr => ?_)
  · refine hj_iconst hC (v := 0) d_Mo_poke_17 (by decide) ?_
    exact hj_zret hC d_Mo_poke_18 hr
  · refine hj_iload_n hC 1 d_Mo_poke_9 rfl rfl ?_
    refine hj_aload_n hC 0 d_Mo_poke_10 rfl rfl ?_
    refine hj_geti hC cf_Mo (k := 2) (by decide) wq_445 rfl d_Mo_poke_11 hr (fun a1 hr => ?_)
    refine hj_icmp_lt hC 19 d_Mo_poke_14 (by decide) hr (fun q14 hr => ?_) (fun q14 hr => ?_)
    · refine hj_aload_n hC 0 d_Mo_poke_19 rfl rfl ?_
      refine hj_getr hC cf_Mo (k := 1) (by decide) wq_433 rfl d_Mo_poke_20 hr (fun a2 hr => ?_)
      refine hj_iload_n hC 1 d_Mo_poke_23 rfl rfl ?_
      refine hj_iload_n hC 2 d_Mo_poke_24 rfl rfl ?_
      refine hj_sipush hC (v := 255) d_Mo_poke_25 (by decide) ?_
      refine hj_iand hC d_Mo_poke_28 ?_
      refine hj_iast hC (kd := 10) rfl d_Mo_poke_29 hr (fun h hr => ?_)
      refine hj_iconst hC (v := 1) d_Mo_poke_30 (by decide) ?_
      exact hj_zret hC d_Mo_poke_31 hr
    · refine hj_iconst hC (v := 0) d_Mo_poke_17 (by decide) ?_
      exact hj_zret hC d_Mo_poke_18 hr
set_option maxHeartbeats 4000000 in
set_option maxRecDepth 100000 in
theorem ml_Mo_turnOver_27 {p : Program} {l : Launch} {e : Env} {s : State} {m : MethodId} {args : Array Value} {below : List Frame} {meth : Method} {c : Code} {D : va_G} {dA : Nat → ClassId} {h0 h2 : hc_H} {C0 S0 : Nat} {b : Int32} (hC : hj_C p s m args meth c (gg D dA) b_Mo_turnOver 2 (some .boolean) R_Mo "turnOver" tb) (x0 : Option Nat) (kx : hM Int32) (hk : ∀  (h : hc_H) (C S : Nat), kx  h = some (b, C, S, h2) → hj_J p l e { frames := 0, cells := C0, slots := S0, locals := 0 } s m args below meth c (gg D dA) h0 2 (hj_Q below args s { frames := 0, cells := C0, slots := S0, locals := 0 } (gg D dA) h0 (some (vi_ b)) h2) C S h 53 [] []) : ∀ (fu : Nat) (v1 : Int32) (h : hc_H) (C S : Nat), p_Mo_turnOver_27 x0 kx fu v1 h = some (b, C, S, h2) → hj_J p l e { frames := 0, cells := C0, slots := S0, locals := 0 } s m args below meth c (gg D dA) h0 2 (hj_Q below args s { frames := 0, cells := C0, slots := S0, locals := 0 } (gg D dA) h0 (some (vi_ b)) h2) C S h 27 [(0, vr_ x0), (1, vi_ v1)] [] := by
  intro fu
  induction fu with
  | zero =>
    intro v1 h C S hr
    cases hr
  | succ fu ih =>
    intro v1 h C S hr
    rw [p_Mo_turnOver_27] at hr
    refine hj_iload_n hC 1 d_Mo_turnOver_27 rfl rfl ?_
    refine hj_aload_n hC 0 d_Mo_turnOver_28 rfl rfl ?_
    refine hj_geti hC cf_Mo (k := 2) (by decide) wq_445 rfl d_Mo_turnOver_29 hr (fun a3 hr => ?_)
    refine hj_icmp_ge hC 53 d_Mo_turnOver_32 (by decide) hr (fun q32 hr => ?_) (fun q32 hr => ?_)
    · refine hj_sub (lv' := []) [] rfl ?_
      exact hk _ _ _ hr
    · refine hj_aload_n hC 0 d_Mo_turnOver_35 rfl rfl ?_
      refine hj_getr hC cf_Mo (k := 1) (by decide) wq_433 rfl d_Mo_turnOver_36 hr (fun a4 hr => ?_)
      refine hj_iload_n hC 1 d_Mo_turnOver_39 rfl rfl ?_
      refine hj_aload_n hC 0 d_Mo_turnOver_40 rfl rfl ?_
      refine hj_getr hC cf_Mo (k := 3) (by decide) wq_434 rfl d_Mo_turnOver_41 hr (fun a5 hr => ?_)
      refine hj_iload_n hC 1 d_Mo_turnOver_44 rfl rfl ?_
      refine hj_iald hC (kd := 11) rfl d_Mo_turnOver_45 hr (fun a6 hr => ?_)
      refine hj_iast hC (kd := 10) rfl d_Mo_turnOver_46 hr (fun h hr => ?_)
      refine hj_iinc hC (lv' := [(1, vi_ (v1 + 1)), (0, vr_ x0)]) 1 d_Mo_turnOver_47 rfl rfl (by decide) rfl ?_
      refine hj_goto hC 27 d_Mo_turnOver_50 (by decide) ?_
      refine hj_sub (lv' := [(0, vr_ x0), (1, vi_ (v1 + 1))]) [1, 0] rfl ?_
      exact ih _ _ _ _ hr
set_option maxHeartbeats 4000000 in
set_option maxRecDepth 100000 in
theorem m_Mo_turnOver {l : Launch} {D : va_G} {dA : Nat → ClassId} (o : Option Nat) (h0 : hc_H) (b : Int32) (C0 S0 : Nat) (h2 : hc_H) (hr : p_Mo_turnOver o h0 = some (b, C0, S0, h2)) : hc_Met l (gg D dA) y_Mo_turnOver b_Mo_turnOver 2 (some .boolean) tb 0 0 [vr_ o] h0 C0 S0 (some (vi_ b)) h2 := by
  refine hc_Met.of (by decide) (Nat.le_of_ble_eq_true rfl) ?_
  intro p e s m args below meth c hC
  unfold p_Mo_turnOver at hr
  refine hj_sub (lv' := [(0, vr_ o)]) [0] rfl ?_
  refine hj_aload_n hC 0 d_Mo_turnOver_0 rfl rfl ?_
  refine hj_iconst hC (v := 0) d_Mo_turnOver_1 (by decide) ?_
  refine hj_puti hC cf_Mo (k := 0) (by decide) wq_444 rfl (Or.inl rfl) rfl d_Mo_turnOver_2 hr (fun h hr => ?_)
  refine hj_aload_n hC 0 d_Mo_turnOver_5 rfl rfl ?_
  refine hj_geti hC cf_Mo (k := 4) (by decide) wq_447 rfl d_Mo_turnOver_6 hr (fun a1 hr => ?_)
  refine hj_sipush hC (v := 4096) d_Mo_turnOver_9 (by decide) ?_
  refine hj_icmp_le hC 17 d_Mo_turnOver_12 (by decide) hr (fun q12 hr => ?_) (fun q12 hr => ?_)
  · refine hj_aload_n hC 0 d_Mo_turnOver_17 rfl rfl ?_
    refine hj_aload_n hC 0 d_Mo_turnOver_18 rfl rfl ?_
    refine hj_geti hC cf_Mo (k := 4) (by decide) wq_447 rfl d_Mo_turnOver_19 hr (fun a2 hr => ?_)
    refine hj_puti hC cf_Mo (k := 2) (by decide) wq_445 rfl (Or.inl rfl) rfl d_Mo_turnOver_22 hr (fun h hr => ?_)
    refine hj_iconst hC (v := 0) d_Mo_turnOver_25 (by decide) ?_
    refine hj_istore_n hC (lv' := [(1, vi_ 0), (0, vr_ o)]) d_Mo_turnOver_26 rfl (by decide) rfl ?_
    refine hj_sub (lv' := [(0, vr_ o), (1, vi_ 0)]) [1, 0] rfl ?_
    refine ml_Mo_turnOver_27 hC _ _ (fun  h C S hr => ?_) _ _ _ _ _ hr
    refine hj_iconst hC (v := 1) d_Mo_turnOver_53 (by decide) ?_
    exact hj_zret hC d_Mo_turnOver_54 hr
  · refine hj_iconst hC (v := 0) d_Mo_turnOver_15 (by decide) ?_
    exact hj_zret hC d_Mo_turnOver_16 hr
set_option maxHeartbeats 4000000 in
set_option maxRecDepth 100000 in
theorem m_Mo_byteAt {l : Launch} {D : va_G} {dA : Nat → ClassId} (o : Option Nat) (x1 : Int32) (x2 : Int32) (h0 : hc_H) (b : Int32) (C0 S0 : Nat) (h2 : hc_H) (hr : p_Mo_byteAt o x1 x2 h0 = some (b, C0, S0, h2)) : hc_Met l (gg D dA) y_Mo_byteAt b_Mo_byteAt 3 (some .int) tb 0 0 [vr_ o, vi_ x1, vi_ x2] h0 C0 S0 (some (vi_ b)) h2 := by
  refine hc_Met.of (by decide) (Nat.le_of_ble_eq_true rfl) ?_
  intro p e s m args below meth c hC
  unfold p_Mo_byteAt at hr
  refine hj_sub (lv' := [(0, vr_ o), (1, vi_ x1), (2, vi_ x2)]) [0, 1, 2] rfl ?_
  refine hj_aload_n hC 0 d_Mo_byteAt_0 rfl rfl ?_
  refine hj_iconst hC (v := 0) d_Mo_byteAt_1 (by decide) ?_
  refine hj_puti hC cf_Mo (k := 0) (by decide) wq_444 rfl (Or.inl rfl) rfl d_Mo_byteAt_2 hr (fun h hr => ?_)
  refine hj_iload_n hC 1 d_Mo_byteAt_5 rfl rfl ?_
  refine hj_if_lt hC 28 d_Mo_byteAt_6 (by decide) hr (fun q6 hr => ?_) (fun q6 hr => ?_)
  · refine hj_iconst hC (v := (-1)) d_Mo_byteAt_28 (by decide) ?_
    refine hj_goto hC 51 d_Mo_byteAt_29 (by decide) ?_
    exact hj_iret hC d_Mo_byteAt_51 hr
  · refine hj_iload_n hC 1 d_Mo_byteAt_9 rfl rfl ?_
    refine hj_iload_n hC 2 d_Mo_byteAt_10 rfl rfl ?_
    refine hj_jn hC (K := Int32 → hM Int32) (fun k => ∀ (z1 : Int32) (h : hc_H) (C S : Nat), k z1 h = some (b, C, S, h2) → hj_J p l e { frames := 0, cells := C0, slots := S0, locals := 0 } s m args below meth c (gg D dA) h0 3 (hj_Q below args s { frames := 0, cells := C0, slots := S0, locals := 0 } (gg D dA) h0 (some (vi_ b)) h2) C S h 25 [(0, vr_ o), (1, vi_ x1), (2, vi_ x2)] [vi_ z1, vi_ x1]) hr (fun z1 h C S hr => ?_) (fun k25 hk25 hr => ?_)
    · refine hj_icmp_lt hC 32 d_Mo_byteAt_25 (by decide) hr (fun q25 hr => ?_) (fun q25 hr => ?_)
      · refine hj_iload_n hC 2 d_Mo_byteAt_32 rfl rfl ?_
        refine hj_if_eq hC 45 d_Mo_byteAt_33 (by decide) hr (fun q33 hr => ?_) (fun q33 hr => ?_)
        · refine hj_aload_n hC 0 d_Mo_byteAt_45 rfl rfl ?_
          refine hj_getr hC cf_Mo (k := 3) (by decide) wq_434 rfl d_Mo_byteAt_46 hr (fun a2 hr => ?_)
          refine hj_iload_n hC 1 d_Mo_byteAt_49 rfl rfl ?_
          refine hj_iald hC (kd := 11) rfl d_Mo_byteAt_50 hr (fun a3 hr => ?_)
          exact hj_iret hC d_Mo_byteAt_51 hr
        · refine hj_aload_n hC 0 d_Mo_byteAt_36 rfl rfl ?_
          refine hj_getr hC cf_Mo (k := 1) (by decide) wq_433 rfl d_Mo_byteAt_37 hr (fun a4 hr => ?_)
          refine hj_iload_n hC 1 d_Mo_byteAt_40 rfl rfl ?_
          refine hj_iald hC (kd := 10) rfl d_Mo_byteAt_41 hr (fun a5 hr => ?_)
          refine hj_goto hC 51 d_Mo_byteAt_42 (by decide) ?_
          exact hj_iret hC d_Mo_byteAt_51 hr
      · refine hj_iconst hC (v := (-1)) d_Mo_byteAt_28 (by decide) ?_
        refine hj_goto hC 51 d_Mo_byteAt_29 (by decide) ?_
        exact hj_iret hC d_Mo_byteAt_51 hr
    · refine hj_if_eq hC 21 d_Mo_byteAt_11 (by decide) hr (fun q11 hr => ?_) (fun q11 hr => ?_)
      · refine hj_aload_n hC 0 d_Mo_byteAt_21 rfl rfl ?_
        refine hj_geti hC cf_Mo (k := 4) (by decide) wq_447 rfl d_Mo_byteAt_22 hr (fun a6 hr => ?_)
        exact hk25 _ _ _ _ hr
      · refine hj_aload_n hC 0 d_Mo_byteAt_14 rfl rfl ?_
        refine hj_geti hC cf_Mo (k := 2) (by decide) wq_445 rfl d_Mo_byteAt_15 hr (fun a7 hr => ?_)
        refine hj_goto hC 25 d_Mo_byteAt_18 (by decide) ?_
        exact hk25 _ _ _ _ hr
set_option maxHeartbeats 4000000 in
set_option maxRecDepth 100000 in
theorem m_Mo_byteNext {l : Launch} {D : va_G} {dA : Nat → ClassId} (o : Option Nat) (h0 : hc_H) (b : Int32) (C0 S0 : Nat) (h2 : hc_H) (hr : p_Mo_byteNext o h0 = some (b, C0, S0, h2)) : hc_Met l (gg D dA) y_Mo_byteNext b_Mo_byteNext 1 (some .int) tb 1 22 [vr_ o] h0 C0 S0 (some (vi_ b)) h2 := by
  refine hc_Met.of (by decide) (Nat.le_of_ble_eq_true rfl) ?_
  intro p e s m args below meth c hC
  unfold p_Mo_byteNext at hr
  refine hj_sub (lv' := [(0, vr_ o)]) [0] rfl ?_
  refine hj_aload_n hC 0 d_Mo_byteNext_0 rfl rfl ?_
  refine hj_geti hC cf_Mo (k := 7) (by decide) wq_382 rfl d_Mo_byteNext_1 hr (fun a1 hr => ?_)
  refine hj_jn hC (K := hM Int32) (fun k => ∀  (h : hc_H) (C S : Nat), k  h = some (b, C, S, h2) → hj_J p l e { frames := 1, cells := C0, slots := S0, locals := 22 } s m args below meth c (gg D dA) h0 1 (hj_Q below args s { frames := 1, cells := C0, slots := S0, locals := 22 } (gg D dA) h0 (some (vi_ b)) h2) C S h 18 [(0, vr_ o)] []) hr (fun  h C S hr => ?_) (fun k18 hk18 hr => ?_)
  · refine hj_aload_n hC 0 d_Mo_byteNext_18 rfl rfl ?_
    refine hj_iconst hC (v := 1) d_Mo_byteNext_19 (by decide) ?_
    refine hj_aload_n hC 0 d_Mo_byteNext_20 rfl rfl ?_
    refine hj_geti hC cf_Mo (k := 2) (by decide) wq_445 rfl d_Mo_byteNext_21 hr (fun a2 hr => ?_)
    refine hj_callV hC hG (enc := (fun _ : Unit => none)) (As := [vi_ 1, vi_ a2]) (st := []) (fun h a C S h1 hr => m_Mo_wrong _ _ _ h a C S h1 hr) cf_Mo wq_386 wq_387 wq_388 wq_389 wq_385 yk_Mo_wrong rfl ⟨Nat.le_of_ble_eq_true rfl, Nat.le_of_ble_eq_true rfl⟩ rfl (Nat.le_of_ble_eq_true rfl) d_Mo_byteNext_24 hr (fun _ h C S hr => ?_)
    refine hj_iconst hC (v := 0) d_Mo_byteNext_27 (by decide) ?_
    exact hj_iret hC d_Mo_byteNext_28 hr
  · refine hj_if_gt hC 18 d_Mo_byteNext_4 (by decide) hr (fun q4 hr => ?_) (fun q4 hr => ?_)
    · exact hk18 _ _ _ hr
    · refine hj_aload_n hC 0 d_Mo_byteNext_7 rfl rfl ?_
      refine hj_geti hC cf_Mo (k := 26) (by decide) wq_448 rfl d_Mo_byteNext_8 hr (fun a3 hr => ?_)
      refine hj_aload_n hC 0 d_Mo_byteNext_11 rfl rfl ?_
      refine hj_geti hC cf_Mo (k := 2) (by decide) wq_445 rfl d_Mo_byteNext_12 hr (fun a4 hr => ?_)
      refine hj_icmp_ne hC 29 d_Mo_byteNext_15 (by decide) hr (fun q15 hr => ?_) (fun q15 hr => ?_)
      · refine hj_aload_n hC 0 d_Mo_byteNext_29 rfl rfl ?_
        refine hj_dup hC d_Mo_byteNext_30 rfl ?_
        refine hj_geti hC cf_Mo (k := 26) (by decide) wq_448 rfl d_Mo_byteNext_31 hr (fun a5 hr => ?_)
        refine hj_iconst hC (v := 1) d_Mo_byteNext_34 (by decide) ?_
        refine hj_iadd hC d_Mo_byteNext_35 ?_
        refine hj_puti hC cf_Mo (k := 26) (by decide) wq_448 rfl (Or.inl rfl) rfl d_Mo_byteNext_36 hr (fun h hr => ?_)
        refine hj_aload_n hC 0 d_Mo_byteNext_39 rfl rfl ?_
        refine hj_getr hC cf_Mo (k := 1) (by decide) wq_433 rfl d_Mo_byteNext_40 hr (fun a6 hr => ?_)
        refine hj_aload_n hC 0 d_Mo_byteNext_43 rfl rfl ?_
        refine hj_geti hC cf_Mo (k := 26) (by decide) wq_448 rfl d_Mo_byteNext_44 hr (fun a7 hr => ?_)
        refine hj_iconst hC (v := 1) d_Mo_byteNext_47 (by decide) ?_
        refine hj_isub hC d_Mo_byteNext_48 ?_
        refine hj_iald hC (kd := 10) rfl d_Mo_byteNext_49 hr (fun a8 hr => ?_)
        exact hj_iret hC d_Mo_byteNext_50 hr
      · exact hk18 _ _ _ hr
set_option maxHeartbeats 4000000 in
set_option maxRecDepth 100000 in
theorem ml_Mo_numberNext_12 {p : Program} {l : Launch} {e : Env} {s : State} {m : MethodId} {args : Array Value} {below : List Frame} {meth : Method} {c : Code} {D : va_G} {dA : Nat → ClassId} {h0 h2 : hc_H} {C0 S0 : Nat} {b : Int32} (hC : hj_C p s m args meth c (gg D dA) b_Mo_numberNext 7 (some .int) R_Mo "numberNext" tb) (x0 : Option Nat) (x1 : Int32) (x2 : Int32) (x3 : Int32) (x4 : Int32) (kx : Int32 → hM Int32) (hk : ∀ (v5 : Int32) (h : hc_H) (C S : Nat), kx v5 h = some (b, C, S, h2) → hj_J p l e { frames := 2, cells := C0, slots := S0, locals := 42 } s m args below meth c (gg D dA) h0 7 (hj_Q below args s { frames := 2, cells := C0, slots := S0, locals := 42 } (gg D dA) h0 (some (vi_ b)) h2) C S h 36 [(0, vr_ x0), (2, vi_ x2), (3, vi_ x3), (4, vi_ x4), (5, vi_ v5)] []) : ∀ (fu : Nat) (v5 : Int32) (v6 : Int32) (h : hc_H) (C S : Nat), p_Mo_numberNext_12 x0 x1 x2 x3 x4 kx fu v5 v6 h = some (b, C, S, h2) → hj_J p l e { frames := 2, cells := C0, slots := S0, locals := 42 } s m args below meth c (gg D dA) h0 7 (hj_Q below args s { frames := 2, cells := C0, slots := S0, locals := 42 } (gg D dA) h0 (some (vi_ b)) h2) C S h 12 [(0, vr_ x0), (1, vi_ x1), (2, vi_ x2), (3, vi_ x3), (4, vi_ x4), (5, vi_ v5), (6, vi_ v6)] [] := by
  intro fu
  induction fu with
  | zero =>
    intro v5 v6 h C S hr
    cases hr
  | succ fu ih =>
    intro v5 v6 h C S hr
    rw [p_Mo_numberNext_12] at hr
    refine hj_iload hC 6 d_Mo_numberNext_12 rfl ?_
    refine hj_iload_n hC 1 d_Mo_numberNext_14 rfl rfl ?_
    refine hj_icmp_ge hC 36 d_Mo_numberNext_15 (by decide) hr (fun q15 hr => ?_) (fun q15 hr => ?_)
    · refine hj_sub (lv' := [(0, vr_ x0), (2, vi_ x2), (3, vi_ x3), (4, vi_ x4), (5, vi_ v5)]) [0, 2, 3, 4, 5] rfl ?_
      exact hk _ _ _ _ hr
    · refine hj_iload hC 5 d_Mo_numberNext_18 rfl ?_
      refine hj_bipush hC (v := 8) d_Mo_numberNext_20 (by decide) ?_
      refine hj_ishl hC d_Mo_numberNext_22 ?_
      refine hj_aload_n hC 0 d_Mo_numberNext_23 rfl rfl ?_
      refine hj_callV hC hG (enc := (fun a : Int32 => some (vi_ a))) (As := []) (st := [vi_ (v5 <<< ((8 : Int32) &&& 31))]) (fun h a C S h1 hr => m_Mo_byteNext _  h a C S h1 hr) cf_Mo wq_450 wq_451 wq_452 wq_389 wq_449 yk_Mo_byteNext rfl ⟨Nat.le_of_ble_eq_true rfl, Nat.le_of_ble_eq_true rfl⟩ rfl (Nat.le_of_ble_eq_true rfl) d_Mo_numberNext_24 hr (fun a2 h C S hr => ?_)
      refine hj_ior hC d_Mo_numberNext_27 ?_
      refine hj_istore hC (lv' := [(5, vi_ ((v5 <<< ((8 : Int32) &&& 31)) ||| a2)), (0, vr_ x0), (1, vi_ x1), (2, vi_ x2), (3, vi_ x3), (4, vi_ x4), (6, vi_ v6)]) d_Mo_numberNext_28 (by decide) rfl ?_
      refine hj_iinc hC (lv' := [(6, vi_ (v6 + 1)), (5, vi_ ((v5 <<< ((8 : Int32) &&& 31)) ||| a2)), (0, vr_ x0), (1, vi_ x1), (2, vi_ x2), (3, vi_ x3), (4, vi_ x4)]) 6 d_Mo_numberNext_30 rfl rfl (by decide) rfl ?_
      refine hj_goto hC 12 d_Mo_numberNext_33 (by decide) ?_
      refine hj_sub (lv' := [(0, vr_ x0), (1, vi_ x1), (2, vi_ x2), (3, vi_ x3), (4, vi_ x4), (5, vi_ ((v5 <<< ((8 : Int32) &&& 31)) ||| a2)), (6, vi_ (v6 + 1))]) [2, 3, 4, 5, 6, 1, 0] rfl ?_
      exact ih _ _ _ _ _ hr
set_option maxHeartbeats 4000000 in
set_option maxRecDepth 100000 in
theorem m_Mo_numberNext {l : Launch} {D : va_G} {dA : Nat → ClassId} (o : Option Nat) (x1 : Int32) (x2 : Int32) (x3 : Int32) (h0 : hc_H) (b : Int32) (C0 S0 : Nat) (h2 : hc_H) (hr : p_Mo_numberNext o x1 x2 x3 h0 = some (b, C0, S0, h2)) : hc_Met l (gg D dA) y_Mo_numberNext b_Mo_numberNext 7 (some .int) tb 2 42 [vr_ o, vi_ x1, vi_ x2, vi_ x3] h0 C0 S0 (some (vi_ b)) h2 := by
  refine hc_Met.of (by decide) (Nat.le_of_ble_eq_true rfl) ?_
  intro p e s m args below meth c hC
  unfold p_Mo_numberNext at hr
  refine hj_sub (lv' := [(0, vr_ o), (1, vi_ x1), (2, vi_ x2), (3, vi_ x3)]) [0, 1, 2, 3] rfl ?_
  refine hj_aload_n hC 0 d_Mo_numberNext_0 rfl rfl ?_
  refine hj_geti hC cf_Mo (k := 26) (by decide) wq_448 rfl d_Mo_numberNext_1 hr (fun a1 hr => ?_)
  refine hj_istore hC (lv' := [(4, vi_ a1), (0, vr_ o), (1, vi_ x1), (2, vi_ x2), (3, vi_ x3)]) d_Mo_numberNext_4 (by decide) rfl ?_
  refine hj_iconst hC (v := 0) d_Mo_numberNext_6 (by decide) ?_
  refine hj_istore hC (lv' := [(5, vi_ 0), (4, vi_ a1), (0, vr_ o), (1, vi_ x1), (2, vi_ x2), (3, vi_ x3)]) d_Mo_numberNext_7 (by decide) rfl ?_
  refine hj_iconst hC (v := 0) d_Mo_numberNext_9 (by decide) ?_
  refine hj_istore hC (lv' := [(6, vi_ 0), (5, vi_ 0), (4, vi_ a1), (0, vr_ o), (1, vi_ x1), (2, vi_ x2), (3, vi_ x3)]) d_Mo_numberNext_10 (by decide) rfl ?_
  refine hj_sub (lv' := [(0, vr_ o), (1, vi_ x1), (2, vi_ x2), (3, vi_ x3), (4, vi_ a1), (5, vi_ 0), (6, vi_ 0)]) [3, 4, 5, 6, 2, 1, 0] rfl ?_
  refine ml_Mo_numberNext_12 hC _ _ _ _ _ _ (fun v5_3 h C S hr => ?_) _ _ _ _ _ _ hr
  refine hj_aload_n hC 0 d_Mo_numberNext_36 rfl rfl ?_
  refine hj_geti hC cf_Mo (k := 7) (by decide) wq_382 rfl d_Mo_numberNext_37 hr (fun a4 hr => ?_)
  refine hj_if_ne hC 62 d_Mo_numberNext_40 (by decide) hr (fun q40 hr => ?_) (fun q40 hr => ?_)
  · refine hj_iload hC 4 d_Mo_numberNext_62 rfl ?_
    exact hj_iret hC d_Mo_numberNext_64 hr
  · refine hj_iload hC 4 d_Mo_numberNext_43 rfl ?_
    refine hj_iload_n hC 1 d_Mo_numberNext_45 rfl rfl ?_
    refine hj_jn hC (K := hM Int32) (fun k => ∀  (h : hc_H) (C S : Nat), k  h = some (b, C, S, h2) → hj_J p l e { frames := 2, cells := C0, slots := S0, locals := 42 } s m args below meth c (gg D dA) h0 7 (hj_Q below args s { frames := 2, cells := C0, slots := S0, locals := 42 } (gg D dA) h0 (some (vi_ b)) h2) C S h 55 [(0, vr_ o), (4, vi_ a1), (5, vi_ v5_3)] []) hr (fun  h C S hr => ?_) (fun k55 hk55 hr => ?_)
    · refine hj_aload_n hC 0 d_Mo_numberNext_55 rfl rfl ?_
      refine hj_iconst hC (v := 3) d_Mo_numberNext_56 (by decide) ?_
      refine hj_iload hC 1 d_Mo_numberNext_57 rfl ?_
      refine hj_callV hC hG (enc := (fun _ : Unit => none)) (As := [vi_ 3, vi_ a1]) (st := []) (fun h a C S h1 hr => m_Mo_wrong _ _ _ h a C S h1 hr) cf_Mo wq_386 wq_387 wq_388 wq_389 wq_385 yk_Mo_wrong rfl ⟨Nat.le_of_ble_eq_true rfl, Nat.le_of_ble_eq_true rfl⟩ rfl (Nat.le_of_ble_eq_true rfl) d_Mo_numberNext_59 hr (fun _ h C S hr => ?_)
      refine hj_iload hC 2 d_Mo_numberNext_62 rfl ?_
      exact hj_iret hC d_Mo_numberNext_64 hr
    · refine hj_icmp_lt hC 55 d_Mo_numberNext_46 (by decide) hr (fun q46 hr => ?_) (fun q46 hr => ?_)
      · refine hj_sub (lv' := [(0, vr_ o), (4, vi_ a1), (5, vi_ v5_3)]) [0, 3, 4] rfl ?_
        exact hk55 _ _ _ hr
      · refine hj_iload hC 4 d_Mo_numberNext_49 rfl ?_
        refine hj_iload_n hC 2 d_Mo_numberNext_51 rfl rfl ?_
        refine hj_icmp_le hC 62 d_Mo_numberNext_52 (by decide) hr (fun q52 hr => ?_) (fun q52 hr => ?_)
        · refine hj_iload hC 4 d_Mo_numberNext_62 rfl ?_
          exact hj_iret hC d_Mo_numberNext_64 hr
        · refine hj_sub (lv' := [(0, vr_ o), (4, vi_ a1), (5, vi_ v5_3)]) [0, 3, 4] rfl ?_
          exact hk55 _ _ _ hr
