theorem d_Mo_readInstruction_0 : decode b_Mo_readInstruction 0 = .ok (.aload_n 0, 1) := by decide +kernel
theorem d_Mo_readInstruction_1 : decode b_Mo_readInstruction 1 = .ok (.iconst 1, 1) := by decide +kernel
theorem d_Mo_readInstruction_2 : decode b_Mo_readInstruction 2 = .ok (.iconst 0, 1) := by decide +kernel
theorem d_Mo_readInstruction_3 : decode b_Mo_readInstruction 3 = .ok (.bipush 29, 2) := by decide +kernel
theorem d_Mo_readInstruction_5 : decode b_Mo_readInstruction 5 = .ok (.invokevirtual 103, 3) := by decide +kernel
theorem d_Mo_readInstruction_8 : decode b_Mo_readInstruction 8 = .ok (.istore 5, 2) := by decide +kernel
theorem d_Mo_readInstruction_10 : decode b_Mo_readInstruction 10 = .ok (.iconst 0, 1) := by decide +kernel
theorem d_Mo_readInstruction_11 : decode b_Mo_readInstruction 11 = .ok (.istore 6, 2) := by decide +kernel
theorem d_Mo_readInstruction_13 : decode b_Mo_readInstruction 13 = .ok (.iload 5, 2) := by decide +kernel
theorem d_Mo_readInstruction_15 : decode b_Mo_readInstruction 15 = .ok (.ifCond .ne 17, 3) := by decide +kernel
theorem d_Mo_readInstruction_18 : decode b_Mo_readInstruction 18 = .ok (.aload_n 0, 1) := by decide +kernel
theorem d_Mo_readInstruction_19 : decode b_Mo_readInstruction 19 = .ok (.iconst 4, 1) := by decide +kernel
theorem d_Mo_readInstruction_20 : decode b_Mo_readInstruction 20 = .ok (.ldc 107, 2) := by decide +kernel
theorem d_Mo_readInstruction_22 : decode b_Mo_readInstruction 22 = .ok (.ldc 108, 2) := by decide +kernel
theorem d_Mo_readInstruction_24 : decode b_Mo_readInstruction 24 = .ok (.invokevirtual 103, 3) := by decide +kernel
theorem d_Mo_readInstruction_27 : decode b_Mo_readInstruction 27 = .ok (.istore 6, 2) := by decide +kernel
theorem d_Mo_readInstruction_29 : decode b_Mo_readInstruction 29 = .ok (.goto 111, 3) := by decide +kernel
theorem d_Mo_readInstruction_32 : decode b_Mo_readInstruction 32 = .ok (.iload 5, 2) := by decide +kernel
theorem d_Mo_readInstruction_34 : decode b_Mo_readInstruction 34 = .ok (.iconst 4, 1) := by decide +kernel
theorem d_Mo_readInstruction_35 : decode b_Mo_readInstruction 35 = .ok (.if_icmp .eq 9, 3) := by decide +kernel
theorem d_Mo_readInstruction_38 : decode b_Mo_readInstruction 38 = .ok (.iload 5, 2) := by decide +kernel
theorem d_Mo_readInstruction_40 : decode b_Mo_readInstruction 40 = .ok (.iconst 5, 1) := by decide +kernel
theorem d_Mo_readInstruction_41 : decode b_Mo_readInstruction 41 = .ok (.if_icmp .ne 25, 3) := by decide +kernel
theorem d_Mo_readInstruction_44 : decode b_Mo_readInstruction 44 = .ok (.aload_n 0, 1) := by decide +kernel
theorem d_Mo_readInstruction_45 : decode b_Mo_readInstruction 45 = .ok (.iconst 1, 1) := by decide +kernel
theorem d_Mo_readInstruction_46 : decode b_Mo_readInstruction 46 = .ok (.iconst 0, 1) := by decide +kernel
theorem d_Mo_readInstruction_47 : decode b_Mo_readInstruction 47 = .ok (.aload_n 0, 1) := by decide +kernel
theorem d_Mo_readInstruction_48 : decode b_Mo_readInstruction 48 = .ok (.getfield 26, 3) := by decide +kernel
theorem d_Mo_readInstruction_51 : decode b_Mo_readInstruction 51 = .ok (.bipush 12, 2) := by decide +kernel
theorem d_Mo_readInstruction_53 : decode b_Mo_readInstruction 53 = .ok (.iload_n 1, 1) := by decide +kernel
theorem d_Mo_readInstruction_54 : decode b_Mo_readInstruction 54 = .ok (.iadd, 1) := by decide +kernel
theorem d_Mo_readInstruction_55 : decode b_Mo_readInstruction 55 = .ok (.iaload, 1) := by decide +kernel
theorem d_Mo_readInstruction_56 : decode b_Mo_readInstruction 56 = .ok (.iconst 1, 1) := by decide +kernel
theorem d_Mo_readInstruction_57 : decode b_Mo_readInstruction 57 = .ok (.isub, 1) := by decide +kernel
theorem d_Mo_readInstruction_58 : decode b_Mo_readInstruction 58 = .ok (.invokevirtual 103, 3) := by decide +kernel
theorem d_Mo_readInstruction_61 : decode b_Mo_readInstruction 61 = .ok (.istore 6, 2) := by decide +kernel
theorem d_Mo_readInstruction_63 : decode b_Mo_readInstruction 63 = .ok (.goto 77, 3) := by decide +kernel
theorem d_Mo_readInstruction_66 : decode b_Mo_readInstruction 66 = .ok (.iload 5, 2) := by decide +kernel
theorem d_Mo_readInstruction_68 : decode b_Mo_readInstruction 68 = .ok (.bipush 17, 2) := by decide +kernel
theorem d_Mo_readInstruction_70 : decode b_Mo_readInstruction 70 = .ok (.if_icmp .le 24, 3) := by decide +kernel
theorem d_Mo_readInstruction_73 : decode b_Mo_readInstruction 73 = .ok (.iload 5, 2) := by decide +kernel
theorem d_Mo_readInstruction_75 : decode b_Mo_readInstruction 75 = .ok (.bipush 21, 2) := by decide +kernel
theorem d_Mo_readInstruction_77 : decode b_Mo_readInstruction 77 = .ok (.if_icmp .ge 17, 3) := by decide +kernel
theorem d_Mo_readInstruction_80 : decode b_Mo_readInstruction 80 = .ok (.aload_n 0, 1) := by decide +kernel
theorem d_Mo_readInstruction_81 : decode b_Mo_readInstruction 81 = .ok (.iconst 2, 1) := by decide +kernel
theorem d_Mo_readInstruction_82 : decode b_Mo_readInstruction 82 = .ok (.iconst 0, 1) := by decide +kernel
theorem d_Mo_readInstruction_83 : decode b_Mo_readInstruction 83 = .ok (.iload_n 3, 1) := by decide +kernel
theorem d_Mo_readInstruction_84 : decode b_Mo_readInstruction 84 = .ok (.iconst 1, 1) := by decide +kernel
theorem d_Mo_readInstruction_85 : decode b_Mo_readInstruction 85 = .ok (.isub, 1) := by decide +kernel
theorem d_Mo_readInstruction_86 : decode b_Mo_readInstruction 86 = .ok (.invokevirtual 103, 3) := by decide +kernel
theorem d_Mo_readInstruction_89 : decode b_Mo_readInstruction 89 = .ok (.istore 6, 2) := by decide +kernel
theorem d_Mo_readInstruction_91 : decode b_Mo_readInstruction 91 = .ok (.goto 49, 3) := by decide +kernel
theorem d_Mo_readInstruction_94 : decode b_Mo_readInstruction 94 = .ok (.iload 5, 2) := by decide +kernel
theorem d_Mo_readInstruction_96 : decode b_Mo_readInstruction 96 = .ok (.bipush 25, 2) := by decide +kernel
theorem d_Mo_readInstruction_98 : decode b_Mo_readInstruction 98 = .ok (.if_icmp .ne 18, 3) := by decide +kernel
theorem d_Mo_readInstruction_101 : decode b_Mo_readInstruction 101 = .ok (.aload_n 0, 1) := by decide +kernel
theorem d_Mo_readInstruction_102 : decode b_Mo_readInstruction 102 = .ok (.iconst 1, 1) := by decide +kernel
theorem d_Mo_readInstruction_103 : decode b_Mo_readInstruction 103 = .ok (.iconst 0, 1) := by decide +kernel
theorem d_Mo_readInstruction_104 : decode b_Mo_readInstruction 104 = .ok (.iload 4, 2) := by decide +kernel
theorem d_Mo_readInstruction_106 : decode b_Mo_readInstruction 106 = .ok (.iconst 1, 1) := by decide +kernel
theorem d_Mo_readInstruction_107 : decode b_Mo_readInstruction 107 = .ok (.isub, 1) := by decide +kernel
theorem d_Mo_readInstruction_108 : decode b_Mo_readInstruction 108 = .ok (.invokevirtual 103, 3) := by decide +kernel
theorem d_Mo_readInstruction_111 : decode b_Mo_readInstruction 111 = .ok (.istore 6, 2) := by decide +kernel
theorem d_Mo_readInstruction_113 : decode b_Mo_readInstruction 113 = .ok (.goto 27, 3) := by decide +kernel
theorem d_Mo_readInstruction_116 : decode b_Mo_readInstruction 116 = .ok (.iload 5, 2) := by decide +kernel
theorem d_Mo_readInstruction_118 : decode b_Mo_readInstruction 118 = .ok (.bipush 26, 2) := by decide +kernel
theorem d_Mo_readInstruction_120 : decode b_Mo_readInstruction 120 = .ok (.if_icmp .eq 10, 3) := by decide +kernel
theorem d_Mo_readInstruction_123 : decode b_Mo_readInstruction 123 = .ok (.iload 5, 2) := by decide +kernel
theorem d_Mo_readInstruction_125 : decode b_Mo_readInstruction 125 = .ok (.bipush 29, 2) := by decide +kernel
theorem d_Mo_readInstruction_127 : decode b_Mo_readInstruction 127 = .ok (.if_icmp .ne 13, 3) := by decide +kernel
theorem d_Mo_readInstruction_130 : decode b_Mo_readInstruction 130 = .ok (.aload_n 0, 1) := by decide +kernel
theorem d_Mo_readInstruction_131 : decode b_Mo_readInstruction 131 = .ok (.iconst 1, 1) := by decide +kernel
theorem d_Mo_readInstruction_132 : decode b_Mo_readInstruction 132 = .ok (.iconst 0, 1) := by decide +kernel
theorem d_Mo_readInstruction_133 : decode b_Mo_readInstruction 133 = .ok (.bipush 15, 2) := by decide +kernel
theorem d_Mo_readInstruction_135 : decode b_Mo_readInstruction 135 = .ok (.invokevirtual 103, 3) := by decide +kernel
theorem d_Mo_readInstruction_138 : decode b_Mo_readInstruction 138 = .ok (.istore 6, 2) := by decide +kernel
theorem d_Mo_readInstruction_140 : decode b_Mo_readInstruction 140 = .ok (.aload_n 0, 1) := by decide +kernel
theorem d_Mo_readInstruction_141 : decode b_Mo_readInstruction 141 = .ok (.getfield 41, 3) := by decide +kernel
theorem d_Mo_readInstruction_144 : decode b_Mo_readInstruction 144 = .ok (.sipush 4800, 3) := by decide +kernel
theorem d_Mo_readInstruction_147 : decode b_Mo_readInstruction 147 = .ok (.sipush 400, 3) := by decide +kernel
theorem d_Mo_readInstruction_150 : decode b_Mo_readInstruction 150 = .ok (.iload_n 1, 1) := by decide +kernel
theorem d_Mo_readInstruction_151 : decode b_Mo_readInstruction 151 = .ok (.imul, 1) := by decide +kernel
theorem d_Mo_readInstruction_152 : decode b_Mo_readInstruction 152 = .ok (.iadd, 1) := by decide +kernel
theorem d_Mo_readInstruction_153 : decode b_Mo_readInstruction 153 = .ok (.iload_n 2, 1) := by decide +kernel
theorem d_Mo_readInstruction_154 : decode b_Mo_readInstruction 154 = .ok (.iadd, 1) := by decide +kernel
theorem d_Mo_readInstruction_155 : decode b_Mo_readInstruction 155 = .ok (.iload 5, 2) := by decide +kernel
theorem d_Mo_readInstruction_157 : decode b_Mo_readInstruction 157 = .ok (.iastore, 1) := by decide +kernel
theorem d_Mo_readInstruction_158 : decode b_Mo_readInstruction 158 = .ok (.aload_n 0, 1) := by decide +kernel
theorem d_Mo_readInstruction_159 : decode b_Mo_readInstruction 159 = .ok (.getfield 44, 3) := by decide +kernel
theorem d_Mo_readInstruction_162 : decode b_Mo_readInstruction 162 = .ok (.sipush 4800, 3) := by decide +kernel
theorem d_Mo_readInstruction_165 : decode b_Mo_readInstruction 165 = .ok (.sipush 400, 3) := by decide +kernel
theorem d_Mo_readInstruction_168 : decode b_Mo_readInstruction 168 = .ok (.iload_n 1, 1) := by decide +kernel
theorem d_Mo_readInstruction_169 : decode b_Mo_readInstruction 169 = .ok (.imul, 1) := by decide +kernel
theorem d_Mo_readInstruction_170 : decode b_Mo_readInstruction 170 = .ok (.iadd, 1) := by decide +kernel
theorem d_Mo_readInstruction_171 : decode b_Mo_readInstruction 171 = .ok (.iload_n 2, 1) := by decide +kernel
theorem d_Mo_readInstruction_172 : decode b_Mo_readInstruction 172 = .ok (.iadd, 1) := by decide +kernel
theorem d_Mo_readInstruction_173 : decode b_Mo_readInstruction 173 = .ok (.iload 6, 2) := by decide +kernel
theorem d_Mo_readInstruction_175 : decode b_Mo_readInstruction 175 = .ok (.iastore, 1) := by decide +kernel
theorem d_Mo_readInstruction_176 : decode b_Mo_readInstruction 176 = .ok (.return_, 1) := by decide +kernel
theorem d_Mo_readFunction_0 : decode b_Mo_readFunction 0 = .ok (.bipush 12, 2) := by decide +kernel
theorem d_Mo_readFunction_2 : decode b_Mo_readFunction 2 = .ok (.iload_n 1, 1) := by decide +kernel
theorem d_Mo_readFunction_3 : decode b_Mo_readFunction 3 = .ok (.iadd, 1) := by decide +kernel
theorem d_Mo_readFunction_4 : decode b_Mo_readFunction 4 = .ok (.istore_n 3, 1) := by decide +kernel
theorem d_Mo_readFunction_5 : decode b_Mo_readFunction 5 = .ok (.aload_n 0, 1) := by decide +kernel
theorem d_Mo_readFunction_6 : decode b_Mo_readFunction 6 = .ok (.getfield 23, 3) := by decide +kernel
theorem d_Mo_readFunction_9 : decode b_Mo_readFunction 9 = .ok (.iload_n 3, 1) := by decide +kernel
theorem d_Mo_readFunction_10 : decode b_Mo_readFunction 10 = .ok (.aload_n 0, 1) := by decide +kernel
theorem d_Mo_readFunction_11 : decode b_Mo_readFunction 11 = .ok (.iconst 1, 1) := by decide +kernel
theorem d_Mo_readFunction_12 : decode b_Mo_readFunction 12 = .ok (.iconst 0, 1) := by decide +kernel
theorem d_Mo_readFunction_13 : decode b_Mo_readFunction 13 = .ok (.iload_n 1, 1) := by decide +kernel
theorem d_Mo_readFunction_14 : decode b_Mo_readFunction 14 = .ok (.ifCond .ne 7, 3) := by decide +kernel
theorem d_Mo_readFunction_17 : decode b_Mo_readFunction 17 = .ok (.iconst 0, 1) := by decide +kernel
theorem d_Mo_readFunction_18 : decode b_Mo_readFunction 18 = .ok (.goto 4, 3) := by decide +kernel
theorem d_Mo_readFunction_21 : decode b_Mo_readFunction 21 = .ok (.iconst 4, 1) := by decide +kernel
theorem d_Mo_readFunction_22 : decode b_Mo_readFunction 22 = .ok (.invokevirtual 103, 3) := by decide +kernel
theorem d_Mo_readFunction_25 : decode b_Mo_readFunction 25 = .ok (.iastore, 1) := by decide +kernel
theorem d_Mo_readFunction_26 : decode b_Mo_readFunction 26 = .ok (.aload_n 0, 1) := by decide +kernel
theorem d_Mo_readFunction_27 : decode b_Mo_readFunction 27 = .ok (.getfield 26, 3) := by decide +kernel
theorem d_Mo_readFunction_30 : decode b_Mo_readFunction 30 = .ok (.iload_n 3, 1) := by decide +kernel
theorem d_Mo_readFunction_31 : decode b_Mo_readFunction 31 = .ok (.aload_n 0, 1) := by decide +kernel
theorem d_Mo_readFunction_32 : decode b_Mo_readFunction 32 = .ok (.iconst 1, 1) := by decide +kernel
theorem d_Mo_readFunction_33 : decode b_Mo_readFunction 33 = .ok (.aload_n 0, 1) := by decide +kernel
theorem d_Mo_readFunction_34 : decode b_Mo_readFunction 34 = .ok (.getfield 23, 3) := by decide +kernel
theorem d_Mo_readFunction_37 : decode b_Mo_readFunction 37 = .ok (.iload_n 3, 1) := by decide +kernel
theorem d_Mo_readFunction_38 : decode b_Mo_readFunction 38 = .ok (.iaload, 1) := by decide +kernel
theorem d_Mo_readFunction_39 : decode b_Mo_readFunction 39 = .ok (.bipush 12, 2) := by decide +kernel
theorem d_Mo_readFunction_41 : decode b_Mo_readFunction 41 = .ok (.invokevirtual 103, 3) := by decide +kernel
theorem d_Mo_readFunction_44 : decode b_Mo_readFunction 44 = .ok (.iastore, 1) := by decide +kernel
theorem d_Mo_readFunction_45 : decode b_Mo_readFunction 45 = .ok (.aload_n 0, 1) := by decide +kernel
theorem d_Mo_readFunction_46 : decode b_Mo_readFunction 46 = .ok (.getfield 29, 3) := by decide +kernel
theorem d_Mo_readFunction_49 : decode b_Mo_readFunction 49 = .ok (.iload_n 3, 1) := by decide +kernel
theorem d_Mo_readFunction_50 : decode b_Mo_readFunction 50 = .ok (.aload_n 0, 1) := by decide +kernel
theorem d_Mo_readFunction_51 : decode b_Mo_readFunction 51 = .ok (.iconst 2, 1) := by decide +kernel
theorem d_Mo_readFunction_52 : decode b_Mo_readFunction 52 = .ok (.iconst 0, 1) := by decide +kernel
theorem d_Mo_readFunction_53 : decode b_Mo_readFunction 53 = .ok (.iconst 1, 1) := by decide +kernel
theorem d_Mo_readFunction_54 : decode b_Mo_readFunction 54 = .ok (.aload_n 0, 1) := by decide +kernel
theorem d_Mo_readFunction_55 : decode b_Mo_readFunction 55 = .ok (.getfield 26, 3) := by decide +kernel
theorem d_Mo_readFunction_58 : decode b_Mo_readFunction 58 = .ok (.iload_n 3, 1) := by decide +kernel
theorem d_Mo_readFunction_59 : decode b_Mo_readFunction 59 = .ok (.iaload, 1) := by decide +kernel
theorem d_Mo_readFunction_60 : decode b_Mo_readFunction 60 = .ok (.bipush 15, 2) := by decide +kernel
theorem d_Mo_readFunction_62 : decode b_Mo_readFunction 62 = .ok (.iand, 1) := by decide +kernel
theorem d_Mo_readFunction_63 : decode b_Mo_readFunction 63 = .ok (.ishl, 1) := by decide +kernel
theorem d_Mo_readFunction_64 : decode b_Mo_readFunction 64 = .ok (.iconst 1, 1) := by decide +kernel
theorem d_Mo_readFunction_65 : decode b_Mo_readFunction 65 = .ok (.isub, 1) := by decide +kernel
theorem d_Mo_readFunction_66 : decode b_Mo_readFunction 66 = .ok (.invokevirtual 103, 3) := by decide +kernel
theorem d_Mo_readFunction_69 : decode b_Mo_readFunction 69 = .ok (.iastore, 1) := by decide +kernel
theorem d_Mo_readFunction_70 : decode b_Mo_readFunction 70 = .ok (.aload_n 0, 1) := by decide +kernel
theorem d_Mo_readFunction_71 : decode b_Mo_readFunction 71 = .ok (.getfield 32, 3) := by decide +kernel
theorem d_Mo_readFunction_74 : decode b_Mo_readFunction 74 = .ok (.iload_n 3, 1) := by decide +kernel
theorem d_Mo_readFunction_75 : decode b_Mo_readFunction 75 = .ok (.aload_n 0, 1) := by decide +kernel
theorem d_Mo_readFunction_76 : decode b_Mo_readFunction 76 = .ok (.iconst 1, 1) := by decide +kernel
theorem d_Mo_readFunction_77 : decode b_Mo_readFunction 77 = .ok (.iconst 0, 1) := by decide +kernel
theorem d_Mo_readFunction_78 : decode b_Mo_readFunction 78 = .ok (.iload_n 1, 1) := by decide +kernel
theorem d_Mo_readFunction_79 : decode b_Mo_readFunction 79 = .ok (.ifCond .ne 7, 3) := by decide +kernel
theorem d_Mo_readFunction_82 : decode b_Mo_readFunction 82 = .ok (.iconst 1, 1) := by decide +kernel
theorem d_Mo_readFunction_83 : decode b_Mo_readFunction 83 = .ok (.goto 4, 3) := by decide +kernel
theorem d_Mo_readFunction_86 : decode b_Mo_readFunction 86 = .ok (.iconst 2, 1) := by decide +kernel
theorem d_Mo_readFunction_87 : decode b_Mo_readFunction 87 = .ok (.invokevirtual 103, 3) := by decide +kernel
theorem d_Mo_readFunction_90 : decode b_Mo_readFunction 90 = .ok (.iastore, 1) := by decide +kernel
theorem d_Mo_readFunction_91 : decode b_Mo_readFunction 91 = .ok (.aload_n 0, 1) := by decide +kernel
theorem d_Mo_readFunction_92 : decode b_Mo_readFunction 92 = .ok (.getfield 35, 3) := by decide +kernel
theorem d_Mo_readFunction_95 : decode b_Mo_readFunction 95 = .ok (.iload_n 3, 1) := by decide +kernel
theorem d_Mo_readFunction_96 : decode b_Mo_readFunction 96 = .ok (.aload_n 0, 1) := by decide +kernel
theorem d_Mo_readFunction_97 : decode b_Mo_readFunction 97 = .ok (.iconst 2, 1) := by decide +kernel
theorem d_Mo_readFunction_98 : decode b_Mo_readFunction 98 = .ok (.iconst 1, 1) := by decide +kernel
theorem d_Mo_readFunction_99 : decode b_Mo_readFunction 99 = .ok (.sipush 400, 3) := by decide +kernel
theorem d_Mo_readFunction_102 : decode b_Mo_readFunction 102 = .ok (.invokevirtual 103, 3) := by decide +kernel
theorem d_Mo_readFunction_105 : decode b_Mo_readFunction 105 = .ok (.iastore, 1) := by decide +kernel
theorem d_Mo_readFunction_106 : decode b_Mo_readFunction 106 = .ok (.iconst 0, 1) := by decide +kernel
theorem d_Mo_readFunction_107 : decode b_Mo_readFunction 107 = .ok (.istore 4, 2) := by decide +kernel
theorem d_Mo_readFunction_109 : decode b_Mo_readFunction 109 = .ok (.iload 4, 2) := by decide +kernel
theorem d_Mo_readFunction_111 : decode b_Mo_readFunction 111 = .ok (.aload_n 0, 1) := by decide +kernel
theorem d_Mo_readFunction_112 : decode b_Mo_readFunction 112 = .ok (.getfield 35, 3) := by decide +kernel
theorem d_Mo_readFunction_115 : decode b_Mo_readFunction 115 = .ok (.iload_n 3, 1) := by decide +kernel
theorem d_Mo_readFunction_116 : decode b_Mo_readFunction 116 = .ok (.iaload, 1) := by decide +kernel
theorem d_Mo_readFunction_117 : decode b_Mo_readFunction 117 = .ok (.if_icmp .ge 30, 3) := by decide +kernel
theorem d_Mo_readFunction_120 : decode b_Mo_readFunction 120 = .ok (.aload_n 0, 1) := by decide +kernel
theorem d_Mo_readFunction_121 : decode b_Mo_readFunction 121 = .ok (.getfield 79, 3) := by decide +kernel
theorem d_Mo_readFunction_124 : decode b_Mo_readFunction 124 = .ok (.ifCond .ne 23, 3) := by decide +kernel
theorem d_Mo_readFunction_127 : decode b_Mo_readFunction 127 = .ok (.aload_n 0, 1) := by decide +kernel
theorem d_Mo_readFunction_128 : decode b_Mo_readFunction 128 = .ok (.iload_n 1, 1) := by decide +kernel
theorem d_Mo_readFunction_129 : decode b_Mo_readFunction 129 = .ok (.iload 4, 2) := by decide +kernel
theorem d_Mo_readFunction_131 : decode b_Mo_readFunction 131 = .ok (.aload_n 0, 1) := by decide +kernel
theorem d_Mo_readFunction_132 : decode b_Mo_readFunction 132 = .ok (.getfield 35, 3) := by decide +kernel
theorem d_Mo_readFunction_135 : decode b_Mo_readFunction 135 = .ok (.iload_n 3, 1) := by decide +kernel
theorem d_Mo_readFunction_136 : decode b_Mo_readFunction 136 = .ok (.iaload, 1) := by decide +kernel
theorem d_Mo_readFunction_137 : decode b_Mo_readFunction 137 = .ok (.iload_n 2, 1) := by decide +kernel
theorem d_Mo_readFunction_138 : decode b_Mo_readFunction 138 = .ok (.invokevirtual 109, 3) := by decide +kernel
theorem d_Mo_readFunction_141 : decode b_Mo_readFunction 141 = .ok (.iinc 4 1, 3) := by decide +kernel
theorem d_Mo_readFunction_144 : decode b_Mo_readFunction 144 = .ok (.goto (-35), 3) := by decide +kernel
theorem d_Mo_readFunction_147 : decode b_Mo_readFunction 147 = .ok (.aload_n 0, 1) := by decide +kernel
theorem d_Mo_readFunction_148 : decode b_Mo_readFunction 148 = .ok (.getfield 38, 3) := by decide +kernel
theorem d_Mo_readFunction_151 : decode b_Mo_readFunction 151 = .ok (.iload_n 3, 1) := by decide +kernel
theorem d_Mo_readFunction_152 : decode b_Mo_readFunction 152 = .ok (.aload_n 0, 1) := by decide +kernel
theorem d_Mo_readFunction_153 : decode b_Mo_readFunction 153 = .ok (.iconst 1, 1) := by decide +kernel
theorem d_Mo_readFunction_154 : decode b_Mo_readFunction 154 = .ok (.iconst 0, 1) := by decide +kernel
theorem d_Mo_readFunction_155 : decode b_Mo_readFunction 155 = .ok (.bipush 6, 2) := by decide +kernel
theorem d_Mo_readFunction_157 : decode b_Mo_readFunction 157 = .ok (.invokevirtual 103, 3) := by decide +kernel
theorem d_Mo_readFunction_160 : decode b_Mo_readFunction 160 = .ok (.iastore, 1) := by decide +kernel
theorem d_Mo_readFunction_161 : decode b_Mo_readFunction 161 = .ok (.iconst 0, 1) := by decide +kernel
theorem d_Mo_readFunction_162 : decode b_Mo_readFunction 162 = .ok (.istore 4, 2) := by decide +kernel
theorem d_Mo_readFunction_164 : decode b_Mo_readFunction 164 = .ok (.iload 4, 2) := by decide +kernel
theorem d_Mo_readFunction_166 : decode b_Mo_readFunction 166 = .ok (.aload_n 0, 1) := by decide +kernel
theorem d_Mo_readFunction_167 : decode b_Mo_readFunction 167 = .ok (.getfield 38, 3) := by decide +kernel
theorem d_Mo_readFunction_170 : decode b_Mo_readFunction 170 = .ok (.iload_n 3, 1) := by decide +kernel
theorem d_Mo_readFunction_171 : decode b_Mo_readFunction 171 = .ok (.iaload, 1) := by decide +kernel
theorem d_Mo_readFunction_172 : decode b_Mo_readFunction 172 = .ok (.if_icmp .ge 149, 3) := by decide +kernel
theorem d_Mo_readFunction_175 : decode b_Mo_readFunction 175 = .ok (.aload_n 0, 1) := by decide +kernel
theorem d_Mo_readFunction_176 : decode b_Mo_readFunction 176 = .ok (.getfield 79, 3) := by decide +kernel
theorem d_Mo_readFunction_179 : decode b_Mo_readFunction 179 = .ok (.ifCond .ne 142, 3) := by decide +kernel
theorem d_Mo_readFunction_182 : decode b_Mo_readFunction 182 = .ok (.bipush 72, 2) := by decide +kernel
theorem d_Mo_readFunction_184 : decode b_Mo_readFunction 184 = .ok (.bipush 6, 2) := by decide +kernel
theorem d_Mo_readFunction_186 : decode b_Mo_readFunction 186 = .ok (.iload_n 1, 1) := by decide +kernel
theorem d_Mo_readFunction_187 : decode b_Mo_readFunction 187 = .ok (.imul, 1) := by decide +kernel
theorem d_Mo_readFunction_188 : decode b_Mo_readFunction 188 = .ok (.iadd, 1) := by decide +kernel
theorem d_Mo_readFunction_189 : decode b_Mo_readFunction 189 = .ok (.iload 4, 2) := by decide +kernel
theorem d_Mo_readFunction_191 : decode b_Mo_readFunction 191 = .ok (.iadd, 1) := by decide +kernel
theorem d_Mo_readFunction_192 : decode b_Mo_readFunction 192 = .ok (.istore 5, 2) := by decide +kernel
theorem d_Mo_readFunction_194 : decode b_Mo_readFunction 194 = .ok (.aload_n 0, 1) := by decide +kernel
theorem d_Mo_readFunction_195 : decode b_Mo_readFunction 195 = .ok (.getfield 47, 3) := by decide +kernel
theorem d_Mo_readFunction_198 : decode b_Mo_readFunction 198 = .ok (.iload 5, 2) := by decide +kernel
theorem d_Mo_readFunction_200 : decode b_Mo_readFunction 200 = .ok (.aload_n 0, 1) := by decide +kernel
theorem d_Mo_readFunction_201 : decode b_Mo_readFunction 201 = .ok (.iconst 2, 1) := by decide +kernel
theorem d_Mo_readFunction_202 : decode b_Mo_readFunction 202 = .ok (.iconst 0, 1) := by decide +kernel
theorem d_Mo_readFunction_203 : decode b_Mo_readFunction 203 = .ok (.aload_n 0, 1) := by decide +kernel
theorem d_Mo_readFunction_204 : decode b_Mo_readFunction 204 = .ok (.getfield 35, 3) := by decide +kernel
theorem d_Mo_readFunction_207 : decode b_Mo_readFunction 207 = .ok (.iload_n 3, 1) := by decide +kernel
theorem d_Mo_readFunction_208 : decode b_Mo_readFunction 208 = .ok (.iaload, 1) := by decide +kernel
theorem d_Mo_readFunction_209 : decode b_Mo_readFunction 209 = .ok (.iconst 1, 1) := by decide +kernel
theorem d_Mo_readFunction_210 : decode b_Mo_readFunction 210 = .ok (.isub, 1) := by decide +kernel
theorem d_Mo_readFunction_211 : decode b_Mo_readFunction 211 = .ok (.invokevirtual 103, 3) := by decide +kernel
theorem d_Mo_readFunction_214 : decode b_Mo_readFunction 214 = .ok (.iastore, 1) := by decide +kernel
theorem d_Mo_readFunction_215 : decode b_Mo_readFunction 215 = .ok (.aload_n 0, 1) := by decide +kernel
theorem d_Mo_readFunction_216 : decode b_Mo_readFunction 216 = .ok (.getfield 50, 3) := by decide +kernel
theorem d_Mo_readFunction_219 : decode b_Mo_readFunction 219 = .ok (.iload 5, 2) := by decide +kernel
theorem d_Mo_readFunction_221 : decode b_Mo_readFunction 221 = .ok (.aload_n 0, 1) := by decide +kernel
theorem d_Mo_readFunction_222 : decode b_Mo_readFunction 222 = .ok (.iconst 2, 1) := by decide +kernel
theorem d_Mo_readFunction_223 : decode b_Mo_readFunction 223 = .ok (.aload_n 0, 1) := by decide +kernel
theorem d_Mo_readFunction_224 : decode b_Mo_readFunction 224 = .ok (.getfield 47, 3) := by decide +kernel
theorem d_Mo_readFunction_227 : decode b_Mo_readFunction 227 = .ok (.iload 5, 2) := by decide +kernel
theorem d_Mo_readFunction_229 : decode b_Mo_readFunction 229 = .ok (.iaload, 1) := by decide +kernel
theorem d_Mo_readFunction_230 : decode b_Mo_readFunction 230 = .ok (.iconst 1, 1) := by decide +kernel
theorem d_Mo_readFunction_231 : decode b_Mo_readFunction 231 = .ok (.iadd, 1) := by decide +kernel
theorem d_Mo_readFunction_232 : decode b_Mo_readFunction 232 = .ok (.aload_n 0, 1) := by decide +kernel
theorem d_Mo_readFunction_233 : decode b_Mo_readFunction 233 = .ok (.getfield 35, 3) := by decide +kernel
theorem d_Mo_readFunction_236 : decode b_Mo_readFunction 236 = .ok (.iload_n 3, 1) := by decide +kernel
theorem d_Mo_readFunction_237 : decode b_Mo_readFunction 237 = .ok (.iaload, 1) := by decide +kernel
theorem d_Mo_readFunction_238 : decode b_Mo_readFunction 238 = .ok (.invokevirtual 103, 3) := by decide +kernel
theorem d_Mo_readFunction_241 : decode b_Mo_readFunction 241 = .ok (.iastore, 1) := by decide +kernel
theorem d_Mo_readFunction_242 : decode b_Mo_readFunction 242 = .ok (.aload_n 0, 1) := by decide +kernel
theorem d_Mo_readFunction_243 : decode b_Mo_readFunction 243 = .ok (.getfield 53, 3) := by decide +kernel
theorem d_Mo_readFunction_246 : decode b_Mo_readFunction 246 = .ok (.iload 5, 2) := by decide +kernel
theorem d_Mo_readFunction_248 : decode b_Mo_readFunction 248 = .ok (.aload_n 0, 1) := by decide +kernel
theorem d_Mo_readFunction_249 : decode b_Mo_readFunction 249 = .ok (.iconst 2, 1) := by decide +kernel
theorem d_Mo_readFunction_250 : decode b_Mo_readFunction 250 = .ok (.iconst 0, 1) := by decide +kernel
theorem d_Mo_readFunction_251 : decode b_Mo_readFunction 251 = .ok (.aload_n 0, 1) := by decide +kernel
theorem d_Mo_readFunction_252 : decode b_Mo_readFunction 252 = .ok (.getfield 35, 3) := by decide +kernel
theorem d_Mo_readFunction_255 : decode b_Mo_readFunction 255 = .ok (.iload_n 3, 1) := by decide +kernel
theorem d_Mo_readFunction_256 : decode b_Mo_readFunction 256 = .ok (.iaload, 1) := by decide +kernel
theorem d_Mo_readFunction_257 : decode b_Mo_readFunction 257 = .ok (.iconst 1, 1) := by decide +kernel
theorem d_Mo_readFunction_258 : decode b_Mo_readFunction 258 = .ok (.isub, 1) := by decide +kernel
theorem d_Mo_readFunction_259 : decode b_Mo_readFunction 259 = .ok (.invokevirtual 103, 3) := by decide +kernel
theorem d_Mo_readFunction_262 : decode b_Mo_readFunction 262 = .ok (.iastore, 1) := by decide +kernel
theorem d_Mo_readFunction_263 : decode b_Mo_readFunction 263 = .ok (.aload_n 0, 1) := by decide +kernel
theorem d_Mo_readFunction_264 : decode b_Mo_readFunction 264 = .ok (.getfield 56, 3) := by decide +kernel
theorem d_Mo_readFunction_267 : decode b_Mo_readFunction 267 = .ok (.iload 5, 2) := by decide +kernel
theorem d_Mo_readFunction_269 : decode b_Mo_readFunction 269 = .ok (.aload_n 0, 1) := by decide +kernel
theorem d_Mo_readFunction_270 : decode b_Mo_readFunction 270 = .ok (.iconst 1, 1) := by decide +kernel
theorem d_Mo_readFunction_271 : decode b_Mo_readFunction 271 = .ok (.iconst 0, 1) := by decide +kernel
theorem d_Mo_readFunction_272 : decode b_Mo_readFunction 272 = .ok (.iconst 1, 1) := by decide +kernel
theorem d_Mo_readFunction_273 : decode b_Mo_readFunction 273 = .ok (.invokevirtual 103, 3) := by decide +kernel
theorem d_Mo_readFunction_276 : decode b_Mo_readFunction 276 = .ok (.ifCond .ne 7, 3) := by decide +kernel
theorem d_Mo_readFunction_279 : decode b_Mo_readFunction 279 = .ok (.iconst 1, 1) := by decide +kernel
theorem d_Mo_readFunction_280 : decode b_Mo_readFunction 280 = .ok (.goto 4, 3) := by decide +kernel
theorem d_Mo_readFunction_283 : decode b_Mo_readFunction 283 = .ok (.iconst 0, 1) := by decide +kernel
theorem d_Mo_readFunction_284 : decode b_Mo_readFunction 284 = .ok (.bastore, 1) := by decide +kernel
theorem d_Mo_readFunction_285 : decode b_Mo_readFunction 285 = .ok (.aload_n 0, 1) := by decide +kernel
theorem d_Mo_readFunction_286 : decode b_Mo_readFunction 286 = .ok (.getfield 60, 3) := by decide +kernel
theorem d_Mo_readFunction_289 : decode b_Mo_readFunction 289 = .ok (.iload 5, 2) := by decide +kernel
theorem d_Mo_readFunction_291 : decode b_Mo_readFunction 291 = .ok (.aload_n 0, 1) := by decide +kernel
theorem d_Mo_readFunction_292 : decode b_Mo_readFunction 292 = .ok (.getfield 56, 3) := by decide +kernel
theorem d_Mo_readFunction_295 : decode b_Mo_readFunction 295 = .ok (.iload 5, 2) := by decide +kernel
theorem d_Mo_readFunction_297 : decode b_Mo_readFunction 297 = .ok (.baload, 1) := by decide +kernel
theorem d_Mo_readFunction_298 : decode b_Mo_readFunction 298 = .ok (.ifCond .eq 7, 3) := by decide +kernel
theorem d_Mo_readFunction_301 : decode b_Mo_readFunction 301 = .ok (.iconst 0, 1) := by decide +kernel
theorem d_Mo_readFunction_302 : decode b_Mo_readFunction 302 = .ok (.goto 12, 3) := by decide +kernel
theorem d_Mo_readFunction_305 : decode b_Mo_readFunction 305 = .ok (.aload_n 0, 1) := by decide +kernel
theorem d_Mo_readFunction_306 : decode b_Mo_readFunction 306 = .ok (.iconst 4, 1) := by decide +kernel
theorem d_Mo_readFunction_307 : decode b_Mo_readFunction 307 = .ok (.ldc 107, 2) := by decide +kernel
theorem d_Mo_readFunction_309 : decode b_Mo_readFunction 309 = .ok (.ldc 108, 2) := by decide +kernel
theorem d_Mo_readFunction_311 : decode b_Mo_readFunction 311 = .ok (.invokevirtual 103, 3) := by decide +kernel
theorem d_Mo_readFunction_314 : decode b_Mo_readFunction 314 = .ok (.iastore, 1) := by decide +kernel
theorem d_Mo_readFunction_315 : decode b_Mo_readFunction 315 = .ok (.iinc 4 1, 3) := by decide +kernel
theorem d_Mo_readFunction_318 : decode b_Mo_readFunction 318 = .ok (.goto (-154), 3) := by decide +kernel
theorem d_Mo_readFunction_321 : decode b_Mo_readFunction 321 = .ok (.return_, 1) := by decide +kernel
set_option maxHeartbeats 4000000 in
set_option maxRecDepth 100000 in
theorem m_Mo_readInstruction {l : Launch} {D : va_G} {dA : Nat → ClassId} (o : Option Nat) (x1 : Int32) (x2 : Int32) (x3 : Int32) (x4 : Int32) (h0 : hc_H) (b : Unit) (C0 S0 : Nat) (h2 : hc_H) (hr : p_Mo_readInstruction o x1 x2 x3 x4 h0 = some (b, C0, S0, h2)) : hc_Met l (gg D dA) y_Mo_readInstruction b_Mo_readInstruction 7 none tb 3 68 [vr_ o, vi_ x1, vi_ x2, vi_ x3, vi_ x4] h0 C0 S0 none h2 := by
  refine hc_Met.of (by decide) (Nat.le_of_ble_eq_true rfl) ?_
  intro p e s m args below meth c hC
  unfold p_Mo_readInstruction at hr
  refine hj_sub (lv' := [(0, vr_ o), (1, vi_ x1), (2, vi_ x2), (3, vi_ x3), (4, vi_ x4)]) [0, 1, 2, 3, 4] rfl ?_
  refine hj_aload_n hC 0 d_Mo_readInstruction_0 rfl rfl ?_
  refine hj_iconst hC (v := 1) d_Mo_readInstruction_1 (by decide) ?_
  refine hj_iconst hC (v := 0) d_Mo_readInstruction_2 (by decide) ?_
  refine hj_bipush hC (v := 29) d_Mo_readInstruction_3 (by decide) ?_
  refine hj_callV hC hG (enc := (fun a : Int32 => some (vi_ a))) (As := [vi_ 1, vi_ 0, vi_ 29]) (st := []) (fun h a C S h1 hr => m_Mo_numberNext _ _ _ _ h a C S h1 hr) cf_Mo wq_454 wq_455 wq_456 wq_389 wq_453 yk_Mo_numberNext rfl ⟨Nat.le_of_ble_eq_true rfl, Nat.le_of_ble_eq_true rfl⟩ rfl (Nat.le_of_ble_eq_true rfl) d_Mo_readInstruction_5 hr (fun a1 h C S hr => ?_)
  refine hj_istore hC (lv' := [(5, vi_ a1), (0, vr_ o), (1, vi_ x1), (2, vi_ x2), (3, vi_ x3), (4, vi_ x4)]) d_Mo_readInstruction_8 (by decide) rfl ?_
  refine hj_iconst hC (v := 0) d_Mo_readInstruction_10 (by decide) ?_
  refine hj_istore hC (lv' := [(6, vi_ 0), (5, vi_ a1), (0, vr_ o), (1, vi_ x1), (2, vi_ x2), (3, vi_ x3), (4, vi_ x4)]) d_Mo_readInstruction_11 (by decide) rfl ?_
  refine hj_iload hC 1 d_Mo_readInstruction_13 rfl ?_
  refine hj_jn hC (K := Int32 → hM Unit) (fun k => ∀ (w6_2 : Int32) (h : hc_H) (C S : Nat), k w6_2 h = some (b, C, S, h2) → hj_J p l e { frames := 3, cells := C0, slots := S0, locals := 68 } s m args below meth c (gg D dA) h0 7 (hj_Q below args s { frames := 3, cells := C0, slots := S0, locals := 68 } (gg D dA) h0 none h2) C S h 140 [(0, vr_ o), (1, vi_ x1), (2, vi_ x2), (5, vi_ a1), (6, vi_ w6_2)] []) hr (fun w6_2 h C S hr => ?_) (fun k140 hk140 hr => ?_)
  · refine hj_aload_n hC 0 d_Mo_readInstruction_140 rfl rfl ?_
    refine hj_getr hC cf_Mo (k := 16) (by decide) wq_413 rfl d_Mo_readInstruction_141 hr (fun a3 hr => ?_)
    refine hj_sipush hC (v := 4800) d_Mo_readInstruction_144 (by decide) ?_
    refine hj_sipush hC (v := 400) d_Mo_readInstruction_147 (by decide) ?_
    refine hj_iload_n hC 1 d_Mo_readInstruction_150 rfl rfl ?_
    refine hj_imul hC d_Mo_readInstruction_151 ?_
    refine hj_iadd hC d_Mo_readInstruction_152 ?_
    refine hj_iload_n hC 2 d_Mo_readInstruction_153 rfl rfl ?_
    refine hj_iadd hC d_Mo_readInstruction_154 ?_
    refine hj_iload hC 3 d_Mo_readInstruction_155 rfl ?_
    refine hj_iast hC (kd := 19) rfl d_Mo_readInstruction_157 hr (fun h hr => ?_)
    refine hj_aload_n hC 0 d_Mo_readInstruction_158 rfl rfl ?_
    refine hj_getr hC cf_Mo (k := 17) (by decide) wq_414 rfl d_Mo_readInstruction_159 hr (fun a4 hr => ?_)
    refine hj_sipush hC (v := 4800) d_Mo_readInstruction_162 (by decide) ?_
    refine hj_sipush hC (v := 400) d_Mo_readInstruction_165 (by decide) ?_
    refine hj_iload_n hC 1 d_Mo_readInstruction_168 rfl rfl ?_
    refine hj_imul hC d_Mo_readInstruction_169 ?_
    refine hj_iadd hC d_Mo_readInstruction_170 ?_
    refine hj_iload_n hC 2 d_Mo_readInstruction_171 rfl rfl ?_
    refine hj_iadd hC d_Mo_readInstruction_172 ?_
    refine hj_iload hC 4 d_Mo_readInstruction_173 rfl ?_
    refine hj_iast hC (kd := 20) rfl d_Mo_readInstruction_175 hr (fun h hr => ?_)
    exact hj_vret hC d_Mo_readInstruction_176 hr
  · refine hj_if_ne hC 32 d_Mo_readInstruction_15 (by decide) hr (fun q15 hr => ?_) (fun q15 hr => ?_)
    · refine hj_iload hC 1 d_Mo_readInstruction_32 rfl ?_
      refine hj_iconst hC (v := 4) d_Mo_readInstruction_34 (by decide) ?_
      refine hj_jn hC (K := hM Unit) (fun k => ∀  (h : hc_H) (C S : Nat), k  h = some (b, C, S, h2) → hj_J p l e { frames := 3, cells := C0, slots := S0, locals := 68 } s m args below meth c (gg D dA) h0 7 (hj_Q below args s { frames := 3, cells := C0, slots := S0, locals := 68 } (gg D dA) h0 none h2) C S h 44 [(0, vr_ o), (1, vi_ x1), (2, vi_ x2), (5, vi_ a1)] []) hr (fun  h C S hr => ?_) (fun k44 hk44 hr => ?_)
      · refine hj_aload_n hC 0 d_Mo_readInstruction_44 rfl rfl ?_
        refine hj_iconst hC (v := 1) d_Mo_readInstruction_45 (by decide) ?_
        refine hj_iconst hC (v := 0) d_Mo_readInstruction_46 (by decide) ?_
        refine hj_aload_n hC 0 d_Mo_readInstruction_47 rfl rfl ?_
        refine hj_getr hC cf_Mo (k := 11) (by decide) wq_437 rfl d_Mo_readInstruction_48 hr (fun a5 hr => ?_)
        refine hj_bipush hC (v := 12) d_Mo_readInstruction_51 (by decide) ?_
        refine hj_iload_n hC 1 d_Mo_readInstruction_53 rfl rfl ?_
        refine hj_iadd hC d_Mo_readInstruction_54 ?_
        refine hj_iald hC (kd := 14) rfl d_Mo_readInstruction_55 hr (fun a6 hr => ?_)
        refine hj_iconst hC (v := 1) d_Mo_readInstruction_56 (by decide) ?_
        refine hj_isub hC d_Mo_readInstruction_57 ?_
        refine hj_callV hC hG (enc := (fun a : Int32 => some (vi_ a))) (As := [vi_ 1, vi_ 0, vi_ (a6 - 1)]) (st := []) (fun h a C S h1 hr => m_Mo_numberNext _ _ _ _ h a C S h1 hr) cf_Mo wq_454 wq_455 wq_456 wq_389 wq_453 yk_Mo_numberNext rfl ⟨Nat.le_of_ble_eq_true rfl, Nat.le_of_ble_eq_true rfl⟩ rfl (Nat.le_of_ble_eq_true rfl) d_Mo_readInstruction_58 hr (fun a7 h C S hr => ?_)
        refine hj_istore hC (lv' := [(6, vi_ a7), (0, vr_ o), (1, vi_ x1), (2, vi_ x2), (5, vi_ a1)]) d_Mo_readInstruction_61 (by decide) rfl ?_
        refine hj_goto hC 140 d_Mo_readInstruction_63 (by decide) ?_
        refine hj_sub (lv' := [(0, vr_ o), (1, vi_ x1), (2, vi_ x2), (5, vi_ a1), (6, vi_ a7)]) [1, 2, 3, 4, 0] rfl ?_
        exact hk140 _ _ _ _ hr
      · refine hj_icmp_eq hC 44 d_Mo_readInstruction_35 (by decide) hr (fun q35 hr => ?_) (fun q35 hr => ?_)
        · refine hj_sub (lv' := [(0, vr_ o), (1, vi_ x1), (2, vi_ x2), (5, vi_ a1)]) [2, 3, 4, 1] rfl ?_
          exact hk44 _ _ _ hr
        · refine hj_iload hC 1 d_Mo_readInstruction_38 rfl ?_
          refine hj_iconst hC (v := 5) d_Mo_readInstruction_40 (by decide) ?_
          refine hj_icmp_ne hC 66 d_Mo_readInstruction_41 (by decide) hr (fun q41 hr => ?_) (fun q41 hr => ?_)
          · refine hj_iload hC 1 d_Mo_readInstruction_66 rfl ?_
            refine hj_bipush hC (v := 17) d_Mo_readInstruction_68 (by decide) ?_
            refine hj_jn hC (K := hM Unit) (fun k => ∀  (h : hc_H) (C S : Nat), k  h = some (b, C, S, h2) → hj_J p l e { frames := 3, cells := C0, slots := S0, locals := 68 } s m args below meth c (gg D dA) h0 7 (hj_Q below args s { frames := 3, cells := C0, slots := S0, locals := 68 } (gg D dA) h0 none h2) C S h 94 [(0, vr_ o), (1, vi_ x1), (2, vi_ x2), (4, vi_ x4), (5, vi_ a1), (6, vi_ 0)] []) hr (fun  h C S hr => ?_) (fun k94 hk94 hr => ?_)
            · refine hj_iload hC 4 d_Mo_readInstruction_94 rfl ?_
              refine hj_bipush hC (v := 25) d_Mo_readInstruction_96 (by decide) ?_
              refine hj_icmp_ne hC 116 d_Mo_readInstruction_98 (by decide) hr (fun q98 hr => ?_) (fun q98 hr => ?_)
              · refine hj_iload hC 4 d_Mo_readInstruction_116 rfl ?_
                refine hj_bipush hC (v := 26) d_Mo_readInstruction_118 (by decide) ?_
                refine hj_jn hC (K := hM Unit) (fun k => ∀  (h : hc_H) (C S : Nat), k  h = some (b, C, S, h2) → hj_J p l e { frames := 3, cells := C0, slots := S0, locals := 68 } s m args below meth c (gg D dA) h0 7 (hj_Q below args s { frames := 3, cells := C0, slots := S0, locals := 68 } (gg D dA) h0 none h2) C S h 130 [(0, vr_ o), (1, vi_ x1), (2, vi_ x2), (5, vi_ a1)] []) hr (fun  h C S hr => ?_) (fun k130 hk130 hr => ?_)
                · refine hj_aload_n hC 0 d_Mo_readInstruction_130 rfl rfl ?_
                  refine hj_iconst hC (v := 1) d_Mo_readInstruction_131 (by decide) ?_
                  refine hj_iconst hC (v := 0) d_Mo_readInstruction_132 (by decide) ?_
                  refine hj_bipush hC (v := 15) d_Mo_readInstruction_133 (by decide) ?_
                  refine hj_callV hC hG (enc := (fun a : Int32 => some (vi_ a))) (As := [vi_ 1, vi_ 0, vi_ 15]) (st := []) (fun h a C S h1 hr => m_Mo_numberNext _ _ _ _ h a C S h1 hr) cf_Mo wq_454 wq_455 wq_456 wq_389 wq_453 yk_Mo_numberNext rfl ⟨Nat.le_of_ble_eq_true rfl, Nat.le_of_ble_eq_true rfl⟩ rfl (Nat.le_of_ble_eq_true rfl) d_Mo_readInstruction_135 hr (fun a8 h C S hr => ?_)
                  refine hj_istore hC (lv' := [(6, vi_ a8), (0, vr_ o), (1, vi_ x1), (2, vi_ x2), (5, vi_ a1)]) d_Mo_readInstruction_138 (by decide) rfl ?_
                  refine hj_sub (lv' := [(0, vr_ o), (1, vi_ x1), (2, vi_ x2), (5, vi_ a1), (6, vi_ a8)]) [1, 2, 3, 4, 0] rfl ?_
                  exact hk140 _ _ _ _ hr
                · refine hj_icmp_eq hC 130 d_Mo_readInstruction_120 (by decide) hr (fun q120 hr => ?_) (fun q120 hr => ?_)
                  · refine hj_sub (lv' := [(0, vr_ o), (1, vi_ x1), (2, vi_ x2), (5, vi_ a1)]) [0, 1, 2, 4] rfl ?_
                    exact hk130 _ _ _ hr
                  · refine hj_iload hC 4 d_Mo_readInstruction_123 rfl ?_
                    refine hj_bipush hC (v := 29) d_Mo_readInstruction_125 (by decide) ?_
                    refine hj_icmp_ne hC 140 d_Mo_readInstruction_127 (by decide) hr (fun q127 hr => ?_) (fun q127 hr => ?_)
                    · refine hj_sub (lv' := [(0, vr_ o), (1, vi_ x1), (2, vi_ x2), (5, vi_ a1), (6, vi_ 0)]) [0, 1, 2, 4, 5] rfl ?_
                      exact hk140 _ _ _ _ hr
                    · refine hj_sub (lv' := [(0, vr_ o), (1, vi_ x1), (2, vi_ x2), (5, vi_ a1)]) [0, 1, 2, 4] rfl ?_
                      exact hk130 _ _ _ hr
              · refine hj_aload_n hC 0 d_Mo_readInstruction_101 rfl rfl ?_
                refine hj_iconst hC (v := 1) d_Mo_readInstruction_102 (by decide) ?_
                refine hj_iconst hC (v := 0) d_Mo_readInstruction_103 (by decide) ?_
                refine hj_iload hC 3 d_Mo_readInstruction_104 rfl ?_
                refine hj_iconst hC (v := 1) d_Mo_readInstruction_106 (by decide) ?_
                refine hj_isub hC d_Mo_readInstruction_107 ?_
                refine hj_callV hC hG (enc := (fun a : Int32 => some (vi_ a))) (As := [vi_ 1, vi_ 0, vi_ (x4 - 1)]) (st := []) (fun h a C S h1 hr => m_Mo_numberNext _ _ _ _ h a C S h1 hr) cf_Mo wq_454 wq_455 wq_456 wq_389 wq_453 yk_Mo_numberNext rfl ⟨Nat.le_of_ble_eq_true rfl, Nat.le_of_ble_eq_true rfl⟩ rfl (Nat.le_of_ble_eq_true rfl) d_Mo_readInstruction_108 hr (fun a9 h C S hr => ?_)
                refine hj_istore hC (lv' := [(6, vi_ a9), (0, vr_ o), (1, vi_ x1), (2, vi_ x2), (4, vi_ x4), (5, vi_ a1)]) d_Mo_readInstruction_111 (by decide) rfl ?_
                refine hj_goto hC 140 d_Mo_readInstruction_113 (by decide) ?_
                refine hj_sub (lv' := [(0, vr_ o), (1, vi_ x1), (2, vi_ x2), (5, vi_ a1), (6, vi_ a9)]) [1, 2, 3, 5, 0] rfl ?_
                exact hk140 _ _ _ _ hr
            · refine hj_icmp_le hC 94 d_Mo_readInstruction_70 (by decide) hr (fun q70 hr => ?_) (fun q70 hr => ?_)
              · refine hj_sub (lv' := [(0, vr_ o), (1, vi_ x1), (2, vi_ x2), (4, vi_ x4), (5, vi_ a1), (6, vi_ 0)]) [2, 3, 4, 6, 1, 0] rfl ?_
                exact hk94 _ _ _ hr
              · refine hj_iload hC 1 d_Mo_readInstruction_73 rfl ?_
                refine hj_bipush hC (v := 21) d_Mo_readInstruction_75 (by decide) ?_
                refine hj_icmp_ge hC 94 d_Mo_readInstruction_77 (by decide) hr (fun q77 hr => ?_) (fun q77 hr => ?_)
                · refine hj_sub (lv' := [(0, vr_ o), (1, vi_ x1), (2, vi_ x2), (4, vi_ x4), (5, vi_ a1), (6, vi_ 0)]) [2, 3, 4, 6, 1, 0] rfl ?_
                  exact hk94 _ _ _ hr
                · refine hj_aload_n hC 2 d_Mo_readInstruction_80 rfl rfl ?_
                  refine hj_iconst hC (v := 2) d_Mo_readInstruction_81 (by decide) ?_
                  refine hj_iconst hC (v := 0) d_Mo_readInstruction_82 (by decide) ?_
                  refine hj_iload_n hC 5 d_Mo_readInstruction_83 rfl rfl ?_
                  refine hj_iconst hC (v := 1) d_Mo_readInstruction_84 (by decide) ?_
                  refine hj_isub hC d_Mo_readInstruction_85 ?_
                  refine hj_callV hC hG (enc := (fun a : Int32 => some (vi_ a))) (As := [vi_ 2, vi_ 0, vi_ (x3 - 1)]) (st := []) (fun h a C S h1 hr => m_Mo_numberNext _ _ _ _ h a C S h1 hr) cf_Mo wq_454 wq_455 wq_456 wq_389 wq_453 yk_Mo_numberNext rfl ⟨Nat.le_of_ble_eq_true rfl, Nat.le_of_ble_eq_true rfl⟩ rfl (Nat.le_of_ble_eq_true rfl) d_Mo_readInstruction_86 hr (fun a10 h C S hr => ?_)
                  refine hj_istore hC (lv' := [(6, vi_ a10), (5, vi_ a1), (0, vr_ o), (1, vi_ x1), (2, vi_ x2), (3, vi_ x3), (4, vi_ x4)]) d_Mo_readInstruction_89 (by decide) rfl ?_
                  refine hj_goto hC 140 d_Mo_readInstruction_91 (by decide) ?_
                  refine hj_sub (lv' := [(0, vr_ o), (1, vi_ x1), (2, vi_ x2), (5, vi_ a1), (6, vi_ a10)]) [2, 3, 4, 1, 0] rfl ?_
                  exact hk140 _ _ _ _ hr
          · refine hj_sub (lv' := [(0, vr_ o), (1, vi_ x1), (2, vi_ x2), (5, vi_ a1)]) [2, 3, 4, 1] rfl ?_
            exact hk44 _ _ _ hr
    · refine hj_aload_n hC 2 d_Mo_readInstruction_18 rfl rfl ?_
      refine hj_iconst hC (v := 4) d_Mo_readInstruction_19 (by decide) ?_
      refine hj_ldc hC (v := (-2147483648)) wq_457 d_Mo_readInstruction_20 ?_
      refine hj_ldc hC (v := 2147483647) wq_458 d_Mo_readInstruction_22 ?_
      refine hj_callV hC hG (enc := (fun a : Int32 => some (vi_ a))) (As := [vi_ 4, vi_ (-2147483648), vi_ 2147483647]) (st := []) (fun h a C S h1 hr => m_Mo_numberNext _ _ _ _ h a C S h1 hr) cf_Mo wq_454 wq_455 wq_456 wq_389 wq_453 yk_Mo_numberNext rfl ⟨Nat.le_of_ble_eq_true rfl, Nat.le_of_ble_eq_true rfl⟩ rfl (Nat.le_of_ble_eq_true rfl) d_Mo_readInstruction_24 hr (fun a11 h C S hr => ?_)
      refine hj_istore hC (lv' := [(6, vi_ a11), (5, vi_ a1), (0, vr_ o), (1, vi_ x1), (2, vi_ x2), (3, vi_ x3), (4, vi_ x4)]) d_Mo_readInstruction_27 (by decide) rfl ?_
      refine hj_goto hC 140 d_Mo_readInstruction_29 (by decide) ?_
      refine hj_sub (lv' := [(0, vr_ o), (1, vi_ x1), (2, vi_ x2), (5, vi_ a1), (6, vi_ a11)]) [2, 3, 4, 1, 0] rfl ?_
      exact hk140 _ _ _ _ hr
set_option maxHeartbeats 4000000 in
set_option maxRecDepth 100000 in
theorem ml_Mo_readFunction_109 {p : Program} {l : Launch} {e : Env} {s : State} {m : MethodId} {args : Array Value} {below : List Frame} {meth : Method} {c : Code} {D : va_G} {dA : Nat → ClassId} {h0 h2 : hc_H} {C0 S0 : Nat} {b : Unit} (hC : hj_C p s m args meth c (gg D dA) b_Mo_readFunction 6 none R_Mo "readFunction" tb) (x0 : Option Nat) (x1 : Int32) (x2 : Int32) (x3 : Int32) (kx : hM Unit) (hk : ∀  (h : hc_H) (C S : Nat), kx  h = some (b, C, S, h2) → hj_J p l e { frames := 4, cells := C0, slots := S0, locals := 94 } s m args below meth c (gg D dA) h0 6 (hj_Q below args s { frames := 4, cells := C0, slots := S0, locals := 94 } (gg D dA) h0 none h2) C S h 147 [(0, vr_ x0), (1, vi_ x1), (3, vi_ x3)] []) : ∀ (fu : Nat) (v4 : Int32) (h : hc_H) (C S : Nat), p_Mo_readFunction_109 x0 x1 x2 x3 kx fu v4 h = some (b, C, S, h2) → hj_J p l e { frames := 4, cells := C0, slots := S0, locals := 94 } s m args below meth c (gg D dA) h0 6 (hj_Q below args s { frames := 4, cells := C0, slots := S0, locals := 94 } (gg D dA) h0 none h2) C S h 109 [(0, vr_ x0), (1, vi_ x1), (2, vi_ x2), (3, vi_ x3), (4, vi_ v4)] [] := by
  intro fu
  induction fu with
  | zero =>
    intro v4 h C S hr
    cases hr
  | succ fu ih =>
    intro v4 h C S hr
    rw [p_Mo_readFunction_109] at hr
    refine hj_iload hC 4 d_Mo_readFunction_109 rfl ?_
    refine hj_aload_n hC 0 d_Mo_readFunction_111 rfl rfl ?_
    refine hj_getr hC cf_Mo (k := 14) (by decide) wq_424 rfl d_Mo_readFunction_112 hr (fun a17 hr => ?_)
    refine hj_iload_n hC 3 d_Mo_readFunction_115 rfl rfl ?_
    refine hj_iald hC (kd := 17) rfl d_Mo_readFunction_116 hr (fun a18 hr => ?_)
    refine hj_icmp_ge hC 147 d_Mo_readFunction_117 (by decide) hr (fun q117 hr => ?_) (fun q117 hr => ?_)
    · refine hj_sub (lv' := [(0, vr_ x0), (1, vi_ x1), (3, vi_ x3)]) [0, 1, 3] rfl ?_
      exact hk _ _ _ hr
    · refine hj_aload_n hC 0 d_Mo_readFunction_120 rfl rfl ?_
      refine hj_geti hC cf_Mo (k := 7) (by decide) wq_382 rfl d_Mo_readFunction_121 hr (fun a19 hr => ?_)
      refine hj_if_ne hC 147 d_Mo_readFunction_124 (by decide) hr (fun q124 hr => ?_) (fun q124 hr => ?_)
      · refine hj_sub (lv' := [(0, vr_ x0), (1, vi_ x1), (3, vi_ x3)]) [0, 1, 3] rfl ?_
        exact hk _ _ _ hr
      · refine hj_aload_n hC 0 d_Mo_readFunction_127 rfl rfl ?_
        refine hj_iload_n hC 1 d_Mo_readFunction_128 rfl rfl ?_
        refine hj_iload hC 4 d_Mo_readFunction_129 rfl ?_
        refine hj_aload_n hC 0 d_Mo_readFunction_131 rfl rfl ?_
        refine hj_getr hC cf_Mo (k := 14) (by decide) wq_424 rfl d_Mo_readFunction_132 hr (fun a20 hr => ?_)
        refine hj_iload_n hC 3 d_Mo_readFunction_135 rfl rfl ?_
        refine hj_iald hC (kd := 17) rfl d_Mo_readFunction_136 hr (fun a21 hr => ?_)
        refine hj_iload_n hC 2 d_Mo_readFunction_137 rfl rfl ?_
        refine hj_callV hC hG (enc := (fun _ : Unit => none)) (As := [vi_ x1, vi_ v4, vi_ a21, vi_ x2]) (st := []) (fun h a C S h1 hr => m_Mo_readInstruction _ _ _ _ _ h a C S h1 hr) cf_Mo wq_460 wq_461 wq_462 wq_389 wq_459 yk_Mo_readInstruction rfl ⟨Nat.le_of_ble_eq_true rfl, Nat.le_of_ble_eq_true rfl⟩ rfl (Nat.le_of_ble_eq_true rfl) d_Mo_readFunction_138 hr (fun _ h C S hr => ?_)
        refine hj_iinc hC (lv' := [(4, vi_ (v4 + 1)), (0, vr_ x0), (1, vi_ x1), (2, vi_ x2), (3, vi_ x3)]) 4 d_Mo_readFunction_141 rfl rfl (by decide) rfl ?_
        refine hj_goto hC 109 d_Mo_readFunction_144 (by decide) ?_
        refine hj_sub (lv' := [(0, vr_ x0), (1, vi_ x1), (2, vi_ x2), (3, vi_ x3), (4, vi_ (v4 + 1))]) [1, 2, 3, 4, 0] rfl ?_
        exact ih _ _ _ _ hr
set_option maxHeartbeats 4000000 in
set_option maxRecDepth 100000 in
theorem ml_Mo_readFunction_164 {p : Program} {l : Launch} {e : Env} {s : State} {m : MethodId} {args : Array Value} {below : List Frame} {meth : Method} {c : Code} {D : va_G} {dA : Nat → ClassId} {h0 h2 : hc_H} {C0 S0 : Nat} {b : Unit} (hC : hj_C p s m args meth c (gg D dA) b_Mo_readFunction 6 none R_Mo "readFunction" tb) (x0 : Option Nat) (x1 : Int32) (x3 : Int32) (kx : hM Unit) (hk : ∀  (h : hc_H) (C S : Nat), kx  h = some (b, C, S, h2) → hj_J p l e { frames := 4, cells := C0, slots := S0, locals := 94 } s m args below meth c (gg D dA) h0 6 (hj_Q below args s { frames := 4, cells := C0, slots := S0, locals := 94 } (gg D dA) h0 none h2) C S h 321 [] []) : ∀ (fu : Nat) (v4 : Int32) (h : hc_H) (C S : Nat), p_Mo_readFunction_164 x0 x1 x3 kx fu v4 h = some (b, C, S, h2) → hj_J p l e { frames := 4, cells := C0, slots := S0, locals := 94 } s m args below meth c (gg D dA) h0 6 (hj_Q below args s { frames := 4, cells := C0, slots := S0, locals := 94 } (gg D dA) h0 none h2) C S h 164 [(0, vr_ x0), (1, vi_ x1), (3, vi_ x3), (4, vi_ v4)] [] := by
  intro fu
  induction fu with
  | zero =>
    intro v4 h C S hr
    cases hr
  | succ fu ih =>
    intro v4 h C S hr
    rw [p_Mo_readFunction_164] at hr
    refine hj_iload hC 3 d_Mo_readFunction_164 rfl ?_
    refine hj_aload_n hC 0 d_Mo_readFunction_166 rfl rfl ?_
    refine hj_getr hC cf_Mo (k := 15) (by decide) wq_416 rfl d_Mo_readFunction_167 hr (fun a24 hr => ?_)
    refine hj_iload_n hC 2 d_Mo_readFunction_170 rfl rfl ?_
    refine hj_iald hC (kd := 18) rfl d_Mo_readFunction_171 hr (fun a25 hr => ?_)
    refine hj_icmp_ge hC 321 d_Mo_readFunction_172 (by decide) hr (fun q172 hr => ?_) (fun q172 hr => ?_)
    · refine hj_sub (lv' := []) [] rfl ?_
      exact hk _ _ _ hr
    · refine hj_aload_n hC 0 d_Mo_readFunction_175 rfl rfl ?_
      refine hj_geti hC cf_Mo (k := 7) (by decide) wq_382 rfl d_Mo_readFunction_176 hr (fun a26 hr => ?_)
      refine hj_if_ne hC 321 d_Mo_readFunction_179 (by decide) hr (fun q179 hr => ?_) (fun q179 hr => ?_)
      · refine hj_sub (lv' := []) [] rfl ?_
        exact hk _ _ _ hr
      · refine hj_bipush hC (v := 72) d_Mo_readFunction_182 (by decide) ?_
        refine hj_bipush hC (v := 6) d_Mo_readFunction_184 (by decide) ?_
        refine hj_iload_n hC 1 d_Mo_readFunction_186 rfl rfl ?_
        refine hj_imul hC d_Mo_readFunction_187 ?_
        refine hj_iadd hC d_Mo_readFunction_188 ?_
        refine hj_iload hC 3 d_Mo_readFunction_189 rfl ?_
        refine hj_iadd hC d_Mo_readFunction_191 ?_
        refine hj_istore hC (lv' := [(5, vi_ ((72 + (6 * x1)) + v4)), (0, vr_ x0), (1, vi_ x1), (3, vi_ x3), (4, vi_ v4)]) d_Mo_readFunction_192 (by decide) rfl ?_
        refine hj_aload_n hC 1 d_Mo_readFunction_194 rfl rfl ?_
        refine hj_getr hC cf_Mo (k := 18) (by decide) wq_417 rfl d_Mo_readFunction_195 hr (fun a27 hr => ?_)
        refine hj_iload hC 0 d_Mo_readFunction_198 rfl ?_
        refine hj_aload_n hC 1 d_Mo_readFunction_200 rfl rfl ?_
        refine hj_iconst hC (v := 2) d_Mo_readFunction_201 (by decide) ?_
        refine hj_iconst hC (v := 0) d_Mo_readFunction_202 (by decide) ?_
        refine hj_aload_n hC 1 d_Mo_readFunction_203 rfl rfl ?_
        refine hj_getr hC cf_Mo (k := 14) (by decide) wq_424 rfl d_Mo_readFunction_204 hr (fun a28 hr => ?_)
        refine hj_iload_n hC 3 d_Mo_readFunction_207 rfl rfl ?_
        refine hj_iald hC (kd := 17) rfl d_Mo_readFunction_208 hr (fun a29 hr => ?_)
        refine hj_iconst hC (v := 1) d_Mo_readFunction_209 (by decide) ?_
        refine hj_isub hC d_Mo_readFunction_210 ?_
        refine hj_callV hC hG (enc := (fun a : Int32 => some (vi_ a))) (As := [vi_ 2, vi_ 0, vi_ (a29 - 1)]) (st := [vi_ ((72 + (6 * x1)) + v4), vr_ a27]) (fun h a C S h1 hr => m_Mo_numberNext _ _ _ _ h a C S h1 hr) cf_Mo wq_454 wq_455 wq_456 wq_389 wq_453 yk_Mo_numberNext rfl ⟨Nat.le_of_ble_eq_true rfl, Nat.le_of_ble_eq_true rfl⟩ rfl (Nat.le_of_ble_eq_true rfl) d_Mo_readFunction_211 hr (fun a30 h C S hr => ?_)
        refine hj_iast hC (kd := 21) rfl d_Mo_readFunction_214 hr (fun h hr => ?_)
        refine hj_aload_n hC 1 d_Mo_readFunction_215 rfl rfl ?_
        refine hj_getr hC cf_Mo (k := 19) (by decide) wq_418 rfl d_Mo_readFunction_216 hr (fun a31 hr => ?_)
        refine hj_iload hC 0 d_Mo_readFunction_219 rfl ?_
        refine hj_aload_n hC 1 d_Mo_readFunction_221 rfl rfl ?_
        refine hj_iconst hC (v := 2) d_Mo_readFunction_222 (by decide) ?_
        refine hj_aload_n hC 1 d_Mo_readFunction_223 rfl rfl ?_
        refine hj_getr hC cf_Mo (k := 18) (by decide) wq_417 rfl d_Mo_readFunction_224 hr (fun a32 hr => ?_)
        refine hj_iload hC 0 d_Mo_readFunction_227 rfl ?_
        refine hj_iald hC (kd := 21) rfl d_Mo_readFunction_229 hr (fun a33 hr => ?_)
        refine hj_iconst hC (v := 1) d_Mo_readFunction_230 (by decide) ?_
        refine hj_iadd hC d_Mo_readFunction_231 ?_
        refine hj_aload_n hC 1 d_Mo_readFunction_232 rfl rfl ?_
        refine hj_getr hC cf_Mo (k := 14) (by decide) wq_424 rfl d_Mo_readFunction_233 hr (fun a34 hr => ?_)
        refine hj_iload_n hC 3 d_Mo_readFunction_236 rfl rfl ?_
        refine hj_iald hC (kd := 17) rfl d_Mo_readFunction_237 hr (fun a35 hr => ?_)
        refine hj_callV hC hG (enc := (fun a : Int32 => some (vi_ a))) (As := [vi_ 2, vi_ (a33 + 1), vi_ a35]) (st := [vi_ ((72 + (6 * x1)) + v4), vr_ a31]) (fun h a C S h1 hr => m_Mo_numberNext _ _ _ _ h a C S h1 hr) cf_Mo wq_454 wq_455 wq_456 wq_389 wq_453 yk_Mo_numberNext rfl ⟨Nat.le_of_ble_eq_true rfl, Nat.le_of_ble_eq_true rfl⟩ rfl (Nat.le_of_ble_eq_true rfl) d_Mo_readFunction_238 hr (fun a36 h C S hr => ?_)
        refine hj_iast hC (kd := 22) rfl d_Mo_readFunction_241 hr (fun h hr => ?_)
        refine hj_aload_n hC 1 d_Mo_readFunction_242 rfl rfl ?_
        refine hj_getr hC cf_Mo (k := 20) (by decide) wq_419 rfl d_Mo_readFunction_243 hr (fun a37 hr => ?_)
        refine hj_iload hC 0 d_Mo_readFunction_246 rfl ?_
        refine hj_aload_n hC 1 d_Mo_readFunction_248 rfl rfl ?_
        refine hj_iconst hC (v := 2) d_Mo_readFunction_249 (by decide) ?_
        refine hj_iconst hC (v := 0) d_Mo_readFunction_250 (by decide) ?_
        refine hj_aload_n hC 1 d_Mo_readFunction_251 rfl rfl ?_
        refine hj_getr hC cf_Mo (k := 14) (by decide) wq_424 rfl d_Mo_readFunction_252 hr (fun a38 hr => ?_)
        refine hj_iload_n hC 3 d_Mo_readFunction_255 rfl rfl ?_
        refine hj_iald hC (kd := 17) rfl d_Mo_readFunction_256 hr (fun a39 hr => ?_)
        refine hj_iconst hC (v := 1) d_Mo_readFunction_257 (by decide) ?_
        refine hj_isub hC d_Mo_readFunction_258 ?_
        refine hj_callV hC hG (enc := (fun a : Int32 => some (vi_ a))) (As := [vi_ 2, vi_ 0, vi_ (a39 - 1)]) (st := [vi_ ((72 + (6 * x1)) + v4), vr_ a37]) (fun h a C S h1 hr => m_Mo_numberNext _ _ _ _ h a C S h1 hr) cf_Mo wq_454 wq_455 wq_456 wq_389 wq_453 yk_Mo_numberNext rfl ⟨Nat.le_of_ble_eq_true rfl, Nat.le_of_ble_eq_true rfl⟩ rfl (Nat.le_of_ble_eq_true rfl) d_Mo_readFunction_259 hr (fun a40 h C S hr => ?_)
        refine hj_iast hC (kd := 23) rfl d_Mo_readFunction_262 hr (fun h hr => ?_)
        refine hj_aload_n hC 1 d_Mo_readFunction_263 rfl rfl ?_
        refine hj_getr hC cf_Mo (k := 21) (by decide) wq_438 rfl d_Mo_readFunction_264 hr (fun a41 hr => ?_)
        refine hj_iload hC 0 d_Mo_readFunction_267 rfl ?_
        refine hj_aload_n hC 1 d_Mo_readFunction_269 rfl rfl ?_
        refine hj_iconst hC (v := 1) d_Mo_readFunction_270 (by decide) ?_
        refine hj_iconst hC (v := 0) d_Mo_readFunction_271 (by decide) ?_
        refine hj_iconst hC (v := 1) d_Mo_readFunction_272 (by decide) ?_
        refine hj_callV hC hG (enc := (fun a : Int32 => some (vi_ a))) (As := [vi_ 1, vi_ 0, vi_ 1]) (st := [vi_ ((72 + (6 * x1)) + v4), vr_ a41]) (fun h a C S h1 hr => m_Mo_numberNext _ _ _ _ h a C S h1 hr) cf_Mo wq_454 wq_455 wq_456 wq_389 wq_453 yk_Mo_numberNext rfl ⟨Nat.le_of_ble_eq_true rfl, Nat.le_of_ble_eq_true rfl⟩ rfl (Nat.le_of_ble_eq_true rfl) d_Mo_readFunction_273 hr (fun a42 h C S hr => ?_)
        refine hj_jn hC (K := Int32 → hM Unit) (fun k => ∀ (z43 : Int32) (h : hc_H) (C S : Nat), k z43 h = some (b, C, S, h2) → hj_J p l e { frames := 4, cells := C0, slots := S0, locals := 94 } s m args below meth c (gg D dA) h0 6 (hj_Q below args s { frames := 4, cells := C0, slots := S0, locals := 94 } (gg D dA) h0 none h2) C S h 284 [(0, vr_ x0), (1, vi_ x1), (3, vi_ x3), (4, vi_ v4), (5, vi_ ((72 + (6 * x1)) + v4))] [vi_ z43, vi_ ((72 + (6 * x1)) + v4), vr_ a41]) hr (fun z43 h C S hr => ?_) (fun k284 hk284 hr => ?_)
        · refine hj_zast hC (kd := 24) rfl d_Mo_readFunction_284 hr (fun h hr => ?_)
          refine hj_aload_n hC 0 d_Mo_readFunction_285 rfl rfl ?_
          refine hj_getr hC cf_Mo (k := 22) (by decide) wq_439 rfl d_Mo_readFunction_286 hr (fun a44 hr => ?_)
          refine hj_iload hC 4 d_Mo_readFunction_289 rfl ?_
          refine hj_aload_n hC 0 d_Mo_readFunction_291 rfl rfl ?_
          refine hj_getr hC cf_Mo (k := 21) (by decide) wq_438 rfl d_Mo_readFunction_292 hr (fun a45 hr => ?_)
          refine hj_iload hC 4 d_Mo_readFunction_295 rfl ?_
          refine hj_zald hC (kd := 24) rfl d_Mo_readFunction_297 hr (fun a46 hr => ?_)
          refine hj_jn hC (K := Int32 → hM Unit) (fun k => ∀ (z47 : Int32) (h : hc_H) (C S : Nat), k z47 h = some (b, C, S, h2) → hj_J p l e { frames := 4, cells := C0, slots := S0, locals := 94 } s m args below meth c (gg D dA) h0 6 (hj_Q below args s { frames := 4, cells := C0, slots := S0, locals := 94 } (gg D dA) h0 none h2) C S h 314 [(0, vr_ x0), (1, vi_ x1), (3, vi_ x3), (4, vi_ v4)] [vi_ z47, vi_ ((72 + (6 * x1)) + v4), vr_ a44]) hr (fun z47 h C S hr => ?_) (fun k314 hk314 hr => ?_)
          · refine hj_iast hC (kd := 25) rfl d_Mo_readFunction_314 hr (fun h hr => ?_)
            refine hj_iinc hC (lv' := [(4, vi_ (v4 + 1)), (0, vr_ x0), (1, vi_ x1), (3, vi_ x3)]) 3 d_Mo_readFunction_315 rfl rfl (by decide) rfl ?_
            refine hj_goto hC 164 d_Mo_readFunction_318 (by decide) ?_
            refine hj_sub (lv' := [(0, vr_ x0), (1, vi_ x1), (3, vi_ x3), (4, vi_ (v4 + 1))]) [1, 2, 3, 0] rfl ?_
            exact ih _ _ _ _ hr
          · refine hj_if_eq hC 305 d_Mo_readFunction_298 (by decide) hr (fun q298 hr => ?_) (fun q298 hr => ?_)
            · refine hj_aload_n hC 0 d_Mo_readFunction_305 rfl rfl ?_
              refine hj_iconst hC (v := 4) d_Mo_readFunction_306 (by decide) ?_
              refine hj_ldc hC (v := (-2147483648)) wq_457 d_Mo_readFunction_307 ?_
              refine hj_ldc hC (v := 2147483647) wq_458 d_Mo_readFunction_309 ?_
              refine hj_callV hC hG (enc := (fun a : Int32 => some (vi_ a))) (As := [vi_ 4, vi_ (-2147483648), vi_ 2147483647]) (st := [vi_ ((72 + (6 * x1)) + v4), vr_ a44]) (fun h a C S h1 hr => m_Mo_numberNext _ _ _ _ h a C S h1 hr) cf_Mo wq_454 wq_455 wq_456 wq_389 wq_453 yk_Mo_numberNext rfl ⟨Nat.le_of_ble_eq_true rfl, Nat.le_of_ble_eq_true rfl⟩ rfl (Nat.le_of_ble_eq_true rfl) d_Mo_readFunction_311 hr (fun a48 h C S hr => ?_)
              refine hj_sub (lv' := [(0, vr_ x0), (1, vi_ x1), (3, vi_ x3), (4, vi_ v4)]) [0, 1, 2, 3] rfl ?_
              exact hk314 _ _ _ _ hr
            · refine hj_iconst hC (v := 0) d_Mo_readFunction_301 (by decide) ?_
              refine hj_goto hC 314 d_Mo_readFunction_302 (by decide) ?_
              refine hj_sub (lv' := [(0, vr_ x0), (1, vi_ x1), (3, vi_ x3), (4, vi_ v4)]) [0, 1, 2, 3] rfl ?_
              exact hk314 _ _ _ _ hr
        · refine hj_if_ne hC 283 d_Mo_readFunction_276 (by decide) hr (fun q276 hr => ?_) (fun q276 hr => ?_)
          · refine hj_iconst hC (v := 0) d_Mo_readFunction_283 (by decide) ?_
            refine hj_sub (lv' := [(0, vr_ x0), (1, vi_ x1), (3, vi_ x3), (4, vi_ v4), (5, vi_ ((72 + (6 * x1)) + v4))]) [1, 2, 3, 4, 0] rfl ?_
            exact hk284 _ _ _ _ hr
          · refine hj_iconst hC (v := 1) d_Mo_readFunction_279 (by decide) ?_
            refine hj_goto hC 284 d_Mo_readFunction_280 (by decide) ?_
            refine hj_sub (lv' := [(0, vr_ x0), (1, vi_ x1), (3, vi_ x3), (4, vi_ v4), (5, vi_ ((72 + (6 * x1)) + v4))]) [1, 2, 3, 4, 0] rfl ?_
            exact hk284 _ _ _ _ hr
set_option maxHeartbeats 4000000 in
set_option maxRecDepth 100000 in
theorem m_Mo_readFunction {l : Launch} {D : va_G} {dA : Nat → ClassId} (o : Option Nat) (x1 : Int32) (x2 : Int32) (h0 : hc_H) (b : Unit) (C0 S0 : Nat) (h2 : hc_H) (hr : p_Mo_readFunction o x1 x2 h0 = some (b, C0, S0, h2)) : hc_Met l (gg D dA) y_Mo_readFunction b_Mo_readFunction 6 none tb 4 94 [vr_ o, vi_ x1, vi_ x2] h0 C0 S0 none h2 := by
  refine hc_Met.of (by decide) (Nat.le_of_ble_eq_true rfl) ?_
  intro p e s m args below meth c hC
  unfold p_Mo_readFunction at hr
  refine hj_sub (lv' := [(0, vr_ o), (1, vi_ x1), (2, vi_ x2)]) [0, 1, 2] rfl ?_
  refine hj_bipush hC (v := 12) d_Mo_readFunction_0 (by decide) ?_
  refine hj_iload_n hC 1 d_Mo_readFunction_2 rfl rfl ?_
  refine hj_iadd hC d_Mo_readFunction_3 ?_
  refine hj_istore_n hC (lv' := [(3, vi_ (12 + x1)), (0, vr_ o), (1, vi_ x1), (2, vi_ x2)]) d_Mo_readFunction_4 rfl (by decide) rfl ?_
  refine hj_aload_n hC 1 d_Mo_readFunction_5 rfl rfl ?_
  refine hj_getr hC cf_Mo (k := 10) (by decide) wq_408 rfl d_Mo_readFunction_6 hr (fun a1 hr => ?_)
  refine hj_iload_n hC 0 d_Mo_readFunction_9 rfl rfl ?_
  refine hj_aload_n hC 1 d_Mo_readFunction_10 rfl rfl ?_
  refine hj_iconst hC (v := 1) d_Mo_readFunction_11 (by decide) ?_
  refine hj_iconst hC (v := 0) d_Mo_readFunction_12 (by decide) ?_
  refine hj_iload_n hC 2 d_Mo_readFunction_13 rfl rfl ?_
  refine hj_jn hC (K := Int32 → hM Unit) (fun k => ∀ (z2 : Int32) (h : hc_H) (C S : Nat), k z2 h = some (b, C, S, h2) → hj_J p l e { frames := 4, cells := C0, slots := S0, locals := 94 } s m args below meth c (gg D dA) h0 6 (hj_Q below args s { frames := 4, cells := C0, slots := S0, locals := 94 } (gg D dA) h0 none h2) C S h 22 [(0, vr_ o), (1, vi_ x1), (2, vi_ x2), (3, vi_ (12 + x1))] [vi_ z2, vi_ 0, vi_ 1, vr_ o, vi_ (12 + x1), vr_ a1]) hr (fun z2 h C S hr => ?_) (fun k22 hk22 hr => ?_)
  · refine hj_callV hC hG (enc := (fun a : Int32 => some (vi_ a))) (As := [vi_ 1, vi_ 0, vi_ z2]) (st := [vi_ (12 + x1), vr_ a1]) (fun h a C S h1 hr => m_Mo_numberNext _ _ _ _ h a C S h1 hr) cf_Mo wq_454 wq_455 wq_456 wq_389 wq_453 yk_Mo_numberNext rfl ⟨Nat.le_of_ble_eq_true rfl, Nat.le_of_ble_eq_true rfl⟩ rfl (Nat.le_of_ble_eq_true rfl) d_Mo_readFunction_22 hr (fun a3 h C S hr => ?_)
    refine hj_iast hC (kd := 13) rfl d_Mo_readFunction_25 hr (fun h hr => ?_)
    refine hj_aload_n hC 0 d_Mo_readFunction_26 rfl rfl ?_
    refine hj_getr hC cf_Mo (k := 11) (by decide) wq_437 rfl d_Mo_readFunction_27 hr (fun a4 hr => ?_)
    refine hj_iload_n hC 3 d_Mo_readFunction_30 rfl rfl ?_
    refine hj_aload_n hC 0 d_Mo_readFunction_31 rfl rfl ?_
    refine hj_iconst hC (v := 1) d_Mo_readFunction_32 (by decide) ?_
    refine hj_aload_n hC 0 d_Mo_readFunction_33 rfl rfl ?_
    refine hj_getr hC cf_Mo (k := 10) (by decide) wq_408 rfl d_Mo_readFunction_34 hr (fun a5 hr => ?_)
    refine hj_iload_n hC 3 d_Mo_readFunction_37 rfl rfl ?_
    refine hj_iald hC (kd := 13) rfl d_Mo_readFunction_38 hr (fun a6 hr => ?_)
    refine hj_bipush hC (v := 12) d_Mo_readFunction_39 (by decide) ?_
    refine hj_callV hC hG (enc := (fun a : Int32 => some (vi_ a))) (As := [vi_ 1, vi_ a6, vi_ 12]) (st := [vi_ (12 + x1), vr_ a4]) (fun h a C S h1 hr => m_Mo_numberNext _ _ _ _ h a C S h1 hr) cf_Mo wq_454 wq_455 wq_456 wq_389 wq_453 yk_Mo_numberNext rfl ⟨Nat.le_of_ble_eq_true rfl, Nat.le_of_ble_eq_true rfl⟩ rfl (Nat.le_of_ble_eq_true rfl) d_Mo_readFunction_41 hr (fun a7 h C S hr => ?_)
    refine hj_iast hC (kd := 14) rfl d_Mo_readFunction_44 hr (fun h hr => ?_)
    refine hj_aload_n hC 0 d_Mo_readFunction_45 rfl rfl ?_
    refine hj_getr hC cf_Mo (k := 12) (by decide) wq_394 rfl d_Mo_readFunction_46 hr (fun a8 hr => ?_)
    refine hj_iload_n hC 3 d_Mo_readFunction_49 rfl rfl ?_
    refine hj_aload_n hC 0 d_Mo_readFunction_50 rfl rfl ?_
    refine hj_iconst hC (v := 2) d_Mo_readFunction_51 (by decide) ?_
    refine hj_iconst hC (v := 0) d_Mo_readFunction_52 (by decide) ?_
    refine hj_iconst hC (v := 1) d_Mo_readFunction_53 (by decide) ?_
    refine hj_aload_n hC 0 d_Mo_readFunction_54 rfl rfl ?_
    refine hj_getr hC cf_Mo (k := 11) (by decide) wq_437 rfl d_Mo_readFunction_55 hr (fun a9 hr => ?_)
    refine hj_iload_n hC 3 d_Mo_readFunction_58 rfl rfl ?_
    refine hj_iald hC (kd := 14) rfl d_Mo_readFunction_59 hr (fun a10 hr => ?_)
    refine hj_bipush hC (v := 15) d_Mo_readFunction_60 (by decide) ?_
    refine hj_iand hC d_Mo_readFunction_62 ?_
    refine hj_ishl hC d_Mo_readFunction_63 ?_
    refine hj_iconst hC (v := 1) d_Mo_readFunction_64 (by decide) ?_
    refine hj_isub hC d_Mo_readFunction_65 ?_
    refine hj_callV hC hG (enc := (fun a : Int32 => some (vi_ a))) (As := [vi_ 2, vi_ 0, vi_ (((1 : Int32) <<< ((a10 &&& 15) &&& 31)) - 1)]) (st := [vi_ (12 + x1), vr_ a8]) (fun h a C S h1 hr => m_Mo_numberNext _ _ _ _ h a C S h1 hr) cf_Mo wq_454 wq_455 wq_456 wq_389 wq_453 yk_Mo_numberNext rfl ⟨Nat.le_of_ble_eq_true rfl, Nat.le_of_ble_eq_true rfl⟩ rfl (Nat.le_of_ble_eq_true rfl) d_Mo_readFunction_66 hr (fun a11 h C S hr => ?_)
    refine hj_iast hC (kd := 15) rfl d_Mo_readFunction_69 hr (fun h hr => ?_)
    refine hj_aload_n hC 0 d_Mo_readFunction_70 rfl rfl ?_
    refine hj_getr hC cf_Mo (k := 13) (by decide) wq_407 rfl d_Mo_readFunction_71 hr (fun a12 hr => ?_)
    refine hj_iload_n hC 3 d_Mo_readFunction_74 rfl rfl ?_
    refine hj_aload_n hC 0 d_Mo_readFunction_75 rfl rfl ?_
    refine hj_iconst hC (v := 1) d_Mo_readFunction_76 (by decide) ?_
    refine hj_iconst hC (v := 0) d_Mo_readFunction_77 (by decide) ?_
    refine hj_iload_n hC 1 d_Mo_readFunction_78 rfl rfl ?_
    refine hj_jn hC (K := Int32 → hM Unit) (fun k => ∀ (z13 : Int32) (h : hc_H) (C S : Nat), k z13 h = some (b, C, S, h2) → hj_J p l e { frames := 4, cells := C0, slots := S0, locals := 94 } s m args below meth c (gg D dA) h0 6 (hj_Q below args s { frames := 4, cells := C0, slots := S0, locals := 94 } (gg D dA) h0 none h2) C S h 87 [(0, vr_ o), (1, vi_ x1), (2, vi_ x2), (3, vi_ (12 + x1))] [vi_ z13, vi_ 0, vi_ 1, vr_ o, vi_ (12 + x1), vr_ a12]) hr (fun z13 h C S hr => ?_) (fun k87 hk87 hr => ?_)
    · refine hj_callV hC hG (enc := (fun a : Int32 => some (vi_ a))) (As := [vi_ 1, vi_ 0, vi_ z13]) (st := [vi_ (12 + x1), vr_ a12]) (fun h a C S h1 hr => m_Mo_numberNext _ _ _ _ h a C S h1 hr) cf_Mo wq_454 wq_455 wq_456 wq_389 wq_453 yk_Mo_numberNext rfl ⟨Nat.le_of_ble_eq_true rfl, Nat.le_of_ble_eq_true rfl⟩ rfl (Nat.le_of_ble_eq_true rfl) d_Mo_readFunction_87 hr (fun a14 h C S hr => ?_)
      refine hj_iast hC (kd := 16) rfl d_Mo_readFunction_90 hr (fun h hr => ?_)
      refine hj_aload_n hC 0 d_Mo_readFunction_91 rfl rfl ?_
      refine hj_getr hC cf_Mo (k := 14) (by decide) wq_424 rfl d_Mo_readFunction_92 hr (fun a15 hr => ?_)
      refine hj_iload_n hC 3 d_Mo_readFunction_95 rfl rfl ?_
      refine hj_aload_n hC 0 d_Mo_readFunction_96 rfl rfl ?_
      refine hj_iconst hC (v := 2) d_Mo_readFunction_97 (by decide) ?_
      refine hj_iconst hC (v := 1) d_Mo_readFunction_98 (by decide) ?_
      refine hj_sipush hC (v := 400) d_Mo_readFunction_99 (by decide) ?_
      refine hj_callV hC hG (enc := (fun a : Int32 => some (vi_ a))) (As := [vi_ 2, vi_ 1, vi_ 400]) (st := [vi_ (12 + x1), vr_ a15]) (fun h a C S h1 hr => m_Mo_numberNext _ _ _ _ h a C S h1 hr) cf_Mo wq_454 wq_455 wq_456 wq_389 wq_453 yk_Mo_numberNext rfl ⟨Nat.le_of_ble_eq_true rfl, Nat.le_of_ble_eq_true rfl⟩ rfl (Nat.le_of_ble_eq_true rfl) d_Mo_readFunction_102 hr (fun a16 h C S hr => ?_)
      refine hj_iast hC (kd := 17) rfl d_Mo_readFunction_105 hr (fun h hr => ?_)
      refine hj_iconst hC (v := 0) d_Mo_readFunction_106 (by decide) ?_
      refine hj_istore hC (lv' := [(4, vi_ 0), (0, vr_ o), (1, vi_ x1), (2, vi_ x2), (3, vi_ (12 + x1))]) d_Mo_readFunction_107 (by decide) rfl ?_
      refine hj_sub (lv' := [(0, vr_ o), (1, vi_ x1), (2, vi_ x2), (3, vi_ (12 + x1)), (4, vi_ 0)]) [1, 2, 3, 4, 0] rfl ?_
      refine ml_Mo_readFunction_109 hC _ _ _ _ _ (fun  h C S hr => ?_) _ _ _ _ _ hr
      refine hj_aload_n hC 0 d_Mo_readFunction_147 rfl rfl ?_
      refine hj_getr hC cf_Mo (k := 15) (by decide) wq_416 rfl d_Mo_readFunction_148 hr (fun a22 hr => ?_)
      refine hj_iload_n hC 2 d_Mo_readFunction_151 rfl rfl ?_
      refine hj_aload_n hC 0 d_Mo_readFunction_152 rfl rfl ?_
      refine hj_iconst hC (v := 1) d_Mo_readFunction_153 (by decide) ?_
      refine hj_iconst hC (v := 0) d_Mo_readFunction_154 (by decide) ?_
      refine hj_bipush hC (v := 6) d_Mo_readFunction_155 (by decide) ?_
      refine hj_callV hC hG (enc := (fun a : Int32 => some (vi_ a))) (As := [vi_ 1, vi_ 0, vi_ 6]) (st := [vi_ (12 + x1), vr_ a22]) (fun h a C S h1 hr => m_Mo_numberNext _ _ _ _ h a C S h1 hr) cf_Mo wq_454 wq_455 wq_456 wq_389 wq_453 yk_Mo_numberNext rfl ⟨Nat.le_of_ble_eq_true rfl, Nat.le_of_ble_eq_true rfl⟩ rfl (Nat.le_of_ble_eq_true rfl) d_Mo_readFunction_157 hr (fun a23 h C S hr => ?_)
      refine hj_iast hC (kd := 18) rfl d_Mo_readFunction_160 hr (fun h hr => ?_)
      refine hj_iconst hC (v := 0) d_Mo_readFunction_161 (by decide) ?_
      refine hj_istore hC (lv' := [(4, vi_ 0), (0, vr_ o), (1, vi_ x1), (3, vi_ (12 + x1))]) d_Mo_readFunction_162 (by decide) rfl ?_
      refine hj_sub (lv' := [(0, vr_ o), (1, vi_ x1), (3, vi_ (12 + x1)), (4, vi_ 0)]) [1, 2, 3, 0] rfl ?_
      refine ml_Mo_readFunction_164 hC _ _ _ _ (fun  h C S hr => ?_) _ _ _ _ _ hr
      exact hj_vret hC d_Mo_readFunction_321 hr
    · refine hj_if_ne hC 86 d_Mo_readFunction_79 (by decide) hr (fun q79 hr => ?_) (fun q79 hr => ?_)
      · refine hj_iconst hC (v := 2) d_Mo_readFunction_86 (by decide) ?_
        exact hk87 _ _ _ _ hr
      · refine hj_iconst hC (v := 1) d_Mo_readFunction_82 (by decide) ?_
        refine hj_goto hC 87 d_Mo_readFunction_83 (by decide) ?_
        exact hk87 _ _ _ _ hr
  · refine hj_if_ne hC 21 d_Mo_readFunction_14 (by decide) hr (fun q14 hr => ?_) (fun q14 hr => ?_)
    · refine hj_iconst hC (v := 4) d_Mo_readFunction_21 (by decide) ?_
      refine hj_sub (lv' := [(0, vr_ o), (1, vi_ x1), (2, vi_ x2), (3, vi_ (12 + x1))]) [1, 2, 3, 0] rfl ?_
      exact hk22 _ _ _ _ hr
    · refine hj_iconst hC (v := 0) d_Mo_readFunction_17 (by decide) ?_
      refine hj_goto hC 22 d_Mo_readFunction_18 (by decide) ?_
      refine hj_sub (lv' := [(0, vr_ o), (1, vi_ x1), (2, vi_ x2), (3, vi_ (12 + x1))]) [1, 2, 3, 0] rfl ?_
      exact hk22 _ _ _ _ hr
