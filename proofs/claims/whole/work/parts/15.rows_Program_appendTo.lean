theorem d_Program_appendTo_0 : decode b_Program_appendTo 0 = .ok (.aload_n 1, 1) := by decide +kernel
theorem d_Program_appendTo_1 : decode b_Program_appendTo 1 = .ok (.ldc2_w 23, 3) := by decide +kernel
theorem d_Program_appendTo_4 : decode b_Program_appendTo 4 = .ok (.iconst 1, 1) := by decide +kernel
theorem d_Program_appendTo_5 : decode b_Program_appendTo 5 = .ok (.invokevirtual 25, 3) := by decide +kernel
theorem d_Program_appendTo_8 : decode b_Program_appendTo 8 = .ok (.pop, 1) := by decide +kernel
theorem d_Program_appendTo_9 : decode b_Program_appendTo 9 = .ok (.aload_n 1, 1) := by decide +kernel
theorem d_Program_appendTo_10 : decode b_Program_appendTo 10 = .ok (.ldc2_w 31, 3) := by decide +kernel
theorem d_Program_appendTo_13 : decode b_Program_appendTo 13 = .ok (.iconst 1, 1) := by decide +kernel
theorem d_Program_appendTo_14 : decode b_Program_appendTo 14 = .ok (.invokevirtual 25, 3) := by decide +kernel
theorem d_Program_appendTo_17 : decode b_Program_appendTo 17 = .ok (.pop, 1) := by decide +kernel
theorem d_Program_appendTo_18 : decode b_Program_appendTo 18 = .ok (.aload_n 1, 1) := by decide +kernel
theorem d_Program_appendTo_19 : decode b_Program_appendTo 19 = .ok (.lconst 1, 1) := by decide +kernel
theorem d_Program_appendTo_20 : decode b_Program_appendTo 20 = .ok (.iconst 1, 1) := by decide +kernel
theorem d_Program_appendTo_21 : decode b_Program_appendTo 21 = .ok (.invokevirtual 25, 3) := by decide +kernel
theorem d_Program_appendTo_24 : decode b_Program_appendTo 24 = .ok (.pop, 1) := by decide +kernel
theorem d_Program_appendTo_25 : decode b_Program_appendTo 25 = .ok (.aload_n 1, 1) := by decide +kernel
theorem d_Program_appendTo_26 : decode b_Program_appendTo 26 = .ok (.aload_n 0, 1) := by decide +kernel
theorem d_Program_appendTo_27 : decode b_Program_appendTo 27 = .ok (.getfield 18, 3) := by decide +kernel
theorem d_Program_appendTo_30 : decode b_Program_appendTo 30 = .ok (.i2l, 1) := by decide +kernel
theorem d_Program_appendTo_31 : decode b_Program_appendTo 31 = .ok (.iconst 1, 1) := by decide +kernel
theorem d_Program_appendTo_32 : decode b_Program_appendTo 32 = .ok (.invokevirtual 25, 3) := by decide +kernel
theorem d_Program_appendTo_35 : decode b_Program_appendTo 35 = .ok (.pop, 1) := by decide +kernel
theorem d_Program_appendTo_36 : decode b_Program_appendTo 36 = .ok (.iconst 0, 1) := by decide +kernel
theorem d_Program_appendTo_37 : decode b_Program_appendTo 37 = .ok (.istore_n 2, 1) := by decide +kernel
theorem d_Program_appendTo_38 : decode b_Program_appendTo 38 = .ok (.iload_n 2, 1) := by decide +kernel
theorem d_Program_appendTo_39 : decode b_Program_appendTo 39 = .ok (.aload_n 0, 1) := by decide +kernel
theorem d_Program_appendTo_40 : decode b_Program_appendTo 40 = .ok (.getfield 18, 3) := by decide +kernel
theorem d_Program_appendTo_43 : decode b_Program_appendTo 43 = .ok (.if_icmp .ge 19, 3) := by decide +kernel
theorem d_Program_appendTo_46 : decode b_Program_appendTo 46 = .ok (.aload_n 0, 1) := by decide +kernel
theorem d_Program_appendTo_47 : decode b_Program_appendTo 47 = .ok (.getfield 11, 3) := by decide +kernel
theorem d_Program_appendTo_50 : decode b_Program_appendTo 50 = .ok (.iload_n 2, 1) := by decide +kernel
theorem d_Program_appendTo_51 : decode b_Program_appendTo 51 = .ok (.aaload, 1) := by decide +kernel
theorem d_Program_appendTo_52 : decode b_Program_appendTo 52 = .ok (.aload_n 1, 1) := by decide +kernel
theorem d_Program_appendTo_53 : decode b_Program_appendTo 53 = .ok (.invokevirtual 33, 3) := by decide +kernel
theorem d_Program_appendTo_56 : decode b_Program_appendTo 56 = .ok (.iinc 2 1, 3) := by decide +kernel
theorem d_Program_appendTo_59 : decode b_Program_appendTo 59 = .ok (.goto (-21), 3) := by decide +kernel
theorem d_Program_appendTo_62 : decode b_Program_appendTo 62 = .ok (.return_, 1) := by decide +kernel
theorem d_SB_write_0 : decode b_SB_write 0 = .ok (.aload_n 0, 1) := by decide +kernel
theorem d_SB_write_1 : decode b_SB_write 1 = .ok (.getfield 18, 3) := by decide +kernel
theorem d_SB_write_4 : decode b_SB_write 4 = .ok (.iconst 0, 1) := by decide +kernel
theorem d_SB_write_5 : decode b_SB_write 5 = .ok (.invokevirtual 49, 3) := by decide +kernel
theorem d_SB_write_8 : decode b_SB_write 8 = .ok (.pop, 1) := by decide +kernel
theorem d_SB_write_9 : decode b_SB_write 9 = .ok (.aload_n 0, 1) := by decide +kernel
theorem d_SB_write_10 : decode b_SB_write 10 = .ok (.getfield 38, 3) := by decide +kernel
theorem d_SB_write_13 : decode b_SB_write 13 = .ok (.aload_n 0, 1) := by decide +kernel
theorem d_SB_write_14 : decode b_SB_write 14 = .ok (.getfield 18, 3) := by decide +kernel
theorem d_SB_write_17 : decode b_SB_write 17 = .ok (.invokevirtual 80, 3) := by decide +kernel
theorem d_SB_write_20 : decode b_SB_write 20 = .ok (.aload_n 0, 1) := by decide +kernel
theorem d_SB_write_21 : decode b_SB_write 21 = .ok (.getfield 18, 3) := by decide +kernel
theorem d_SB_write_24 : decode b_SB_write 24 = .ok (.getfield 84, 3) := by decide +kernel
theorem d_SB_write_27 : decode b_SB_write 27 = .ok (.ireturn, 1) := by decide +kernel
theorem d_ByteRow_become_0 : decode b_ByteRow_become 0 = .ok (.aload_n 1, 1) := by decide +kernel
theorem d_ByteRow_become_1 : decode b_ByteRow_become 1 = .ok (.getfield 19, 3) := by decide +kernel
theorem d_ByteRow_become_4 : decode b_ByteRow_become 4 = .ok (.aload_n 0, 1) := by decide +kernel
theorem d_ByteRow_become_5 : decode b_ByteRow_become 5 = .ok (.getfield 9, 3) := by decide +kernel
theorem d_ByteRow_become_8 : decode b_ByteRow_become 8 = .ok (.if_icmp .le 5, 3) := by decide +kernel
theorem d_ByteRow_become_11 : decode b_ByteRow_become 11 = .ok (.iconst 0, 1) := by decide +kernel
theorem d_ByteRow_become_12 : decode b_ByteRow_become 12 = .ok (.ireturn, 1) := by decide +kernel
theorem d_ByteRow_become_13 : decode b_ByteRow_become 13 = .ok (.aload_n 0, 1) := by decide +kernel
theorem d_ByteRow_become_14 : decode b_ByteRow_become 14 = .ok (.aload_n 1, 1) := by decide +kernel
theorem d_ByteRow_become_15 : decode b_ByteRow_become 15 = .ok (.getfield 19, 3) := by decide +kernel
theorem d_ByteRow_become_18 : decode b_ByteRow_become 18 = .ok (.invokevirtual 22, 3) := by decide +kernel
theorem d_ByteRow_become_21 : decode b_ByteRow_become 21 = .ok (.aload_n 1, 1) := by decide +kernel
theorem d_ByteRow_become_22 : decode b_ByteRow_become 22 = .ok (.getfield 15, 3) := by decide +kernel
theorem d_ByteRow_become_25 : decode b_ByteRow_become 25 = .ok (.iconst 0, 1) := by decide +kernel
theorem d_ByteRow_become_26 : decode b_ByteRow_become 26 = .ok (.aload_n 0, 1) := by decide +kernel
theorem d_ByteRow_become_27 : decode b_ByteRow_become 27 = .ok (.getfield 15, 3) := by decide +kernel
theorem d_ByteRow_become_30 : decode b_ByteRow_become 30 = .ok (.iconst 0, 1) := by decide +kernel
theorem d_ByteRow_become_31 : decode b_ByteRow_become 31 = .ok (.aload_n 1, 1) := by decide +kernel
theorem d_ByteRow_become_32 : decode b_ByteRow_become 32 = .ok (.getfield 19, 3) := by decide +kernel
theorem d_ByteRow_become_35 : decode b_ByteRow_become 35 = .ok (.invokestatic 26, 3) := by decide +kernel
theorem d_ByteRow_become_38 : decode b_ByteRow_become 38 = .ok (.aload_n 0, 1) := by decide +kernel
theorem d_ByteRow_become_39 : decode b_ByteRow_become 39 = .ok (.aload_n 1, 1) := by decide +kernel
theorem d_ByteRow_become_40 : decode b_ByteRow_become 40 = .ok (.getfield 19, 3) := by decide +kernel
theorem d_ByteRow_become_43 : decode b_ByteRow_become 43 = .ok (.putfield 19, 3) := by decide +kernel
theorem d_ByteRow_become_46 : decode b_ByteRow_become 46 = .ok (.iconst 1, 1) := by decide +kernel
theorem d_ByteRow_become_47 : decode b_ByteRow_become 47 = .ok (.ireturn, 1) := by decide +kernel
theorem d_SB_turnOver_0 : decode b_SB_turnOver 0 = .ok (.aload_n 0, 1) := by decide +kernel
theorem d_SB_turnOver_1 : decode b_SB_turnOver 1 = .ok (.getfield 14, 3) := by decide +kernel
theorem d_SB_turnOver_4 : decode b_SB_turnOver 4 = .ok (.aload_n 0, 1) := by decide +kernel
theorem d_SB_turnOver_5 : decode b_SB_turnOver 5 = .ok (.getfield 18, 3) := by decide +kernel
theorem d_SB_turnOver_8 : decode b_SB_turnOver 8 = .ok (.invokevirtual 85, 3) := by decide +kernel
theorem d_SB_turnOver_11 : decode b_SB_turnOver 11 = .ok (.ireturn, 1) := by decide +kernel
theorem d_Kinds_canStand_0 : decode b_Kinds_canStand 0 = .ok (.iload_n 0, 1) := by decide +kernel
theorem d_Kinds_canStand_1 : decode b_Kinds_canStand 1 = .ok (.ifCond .lt 31, 3) := by decide +kernel
theorem d_Kinds_canStand_4 : decode b_Kinds_canStand 4 = .ok (.iload_n 0, 1) := by decide +kernel
theorem d_Kinds_canStand_5 : decode b_Kinds_canStand 5 = .ok (.bipush 29, 2) := by decide +kernel
theorem d_Kinds_canStand_7 : decode b_Kinds_canStand 7 = .ok (.if_icmp .gt 25, 3) := by decide +kernel
theorem d_Kinds_canStand_10 : decode b_Kinds_canStand 10 = .ok (.iload_n 1, 1) := by decide +kernel
theorem d_Kinds_canStand_11 : decode b_Kinds_canStand 11 = .ok (.iload_n 0, 1) := by decide +kernel
theorem d_Kinds_canStand_12 : decode b_Kinds_canStand 12 = .ok (.invokestatic 20, 3) := by decide +kernel
theorem d_Kinds_canStand_15 : decode b_Kinds_canStand 15 = .ok (.if_icmp .lt 17, 3) := by decide +kernel
theorem d_Kinds_canStand_18 : decode b_Kinds_canStand 18 = .ok (.iload_n 1, 1) := by decide +kernel
theorem d_Kinds_canStand_19 : decode b_Kinds_canStand 19 = .ok (.iload_n 0, 1) := by decide +kernel
theorem d_Kinds_canStand_20 : decode b_Kinds_canStand 20 = .ok (.aload_n 2, 1) := by decide +kernel
theorem d_Kinds_canStand_21 : decode b_Kinds_canStand 21 = .ok (.iload_n 3, 1) := by decide +kernel
theorem d_Kinds_canStand_22 : decode b_Kinds_canStand 22 = .ok (.invokestatic 26, 3) := by decide +kernel
theorem d_Kinds_canStand_25 : decode b_Kinds_canStand 25 = .ok (.if_icmp .gt 7, 3) := by decide +kernel
theorem d_Kinds_canStand_28 : decode b_Kinds_canStand 28 = .ok (.iconst 1, 1) := by decide +kernel
theorem d_Kinds_canStand_29 : decode b_Kinds_canStand 29 = .ok (.goto 4, 3) := by decide +kernel
theorem d_Kinds_canStand_32 : decode b_Kinds_canStand 32 = .ok (.iconst 0, 1) := by decide +kernel
theorem d_Kinds_canStand_33 : decode b_Kinds_canStand 33 = .ok (.ireturn, 1) := by decide +kernel
theorem d_SB_change_0 : decode b_SB_change 0 = .ok (.aload_n 0, 1) := by decide +kernel
theorem d_SB_change_1 : decode b_SB_change 1 = .ok (.getfield 24, 3) := by decide +kernel
theorem d_SB_change_4 : decode b_SB_change 4 = .ok (.invokevirtual 57, 3) := by decide +kernel
theorem d_SB_change_7 : decode b_SB_change 7 = .ok (.aload_n 0, 1) := by decide +kernel
theorem d_SB_change_8 : decode b_SB_change 8 = .ok (.getfield 38, 3) := by decide +kernel
theorem d_SB_change_11 : decode b_SB_change 11 = .ok (.iload_n 1, 1) := by decide +kernel
theorem d_SB_change_12 : decode b_SB_change 12 = .ok (.invokevirtual 89, 3) := by decide +kernel
theorem d_SB_change_15 : decode b_SB_change 15 = .ok (.astore 5, 2) := by decide +kernel
theorem d_SB_change_17 : decode b_SB_change 17 = .ok (.aload 5, 2) := by decide +kernel
theorem d_SB_change_19 : decode b_SB_change 19 = .ok (.ifnull 30, 3) := by decide +kernel
theorem d_SB_change_22 : decode b_SB_change 22 = .ok (.aload 5, 2) := by decide +kernel
theorem d_SB_change_24 : decode b_SB_change 24 = .ok (.iload_n 2, 1) := by decide +kernel
theorem d_SB_change_25 : decode b_SB_change 25 = .ok (.invokevirtual 93, 3) := by decide +kernel
theorem d_SB_change_28 : decode b_SB_change 28 = .ok (.ifCond .eq 21, 3) := by decide +kernel
theorem d_SB_change_31 : decode b_SB_change 31 = .ok (.iload_n 3, 1) := by decide +kernel
theorem d_SB_change_32 : decode b_SB_change 32 = .ok (.iload 4, 2) := by decide +kernel
theorem d_SB_change_34 : decode b_SB_change 34 = .ok (.aload 5, 2) := by decide +kernel
theorem d_SB_change_36 : decode b_SB_change 36 = .ok (.aload_n 0, 1) := by decide +kernel
theorem d_SB_change_37 : decode b_SB_change 37 = .ok (.getfield 38, 3) := by decide +kernel
theorem d_SB_change_40 : decode b_SB_change 40 = .ok (.getfield 69, 3) := by decide +kernel
theorem d_SB_change_43 : decode b_SB_change 43 = .ok (.invokestatic 98, 3) := by decide +kernel
theorem d_SB_change_46 : decode b_SB_change 46 = .ok (.ifCond .ne 20, 3) := by decide +kernel
theorem d_SB_change_49 : decode b_SB_change 49 = .ok (.aload_n 0, 1) := by decide +kernel
theorem d_SB_change_50 : decode b_SB_change 50 = .ok (.getfield 24, 3) := by decide +kernel
theorem d_SB_change_53 : decode b_SB_change 53 = .ok (.iconst 3, 1) := by decide +kernel
theorem d_SB_change_54 : decode b_SB_change 54 = .ok (.iconst (-1), 1) := by decide +kernel
theorem d_SB_change_55 : decode b_SB_change 55 = .ok (.invokevirtual 104, 3) := by decide +kernel
theorem d_SB_change_58 : decode b_SB_change 58 = .ok (.aload_n 0, 1) := by decide +kernel
theorem d_SB_change_59 : decode b_SB_change 59 = .ok (.getfield 24, 3) := by decide +kernel
theorem d_SB_change_62 : decode b_SB_change 62 = .ok (.getfield 73, 3) := by decide +kernel
theorem d_SB_change_65 : decode b_SB_change 65 = .ok (.ireturn, 1) := by decide +kernel
theorem d_SB_change_66 : decode b_SB_change 66 = .ok (.aload 5, 2) := by decide +kernel
theorem d_SB_change_68 : decode b_SB_change 68 = .ok (.getfield 108, 3) := by decide +kernel
theorem d_SB_change_71 : decode b_SB_change 71 = .ok (.iload_n 2, 1) := by decide +kernel
theorem d_SB_change_72 : decode b_SB_change 72 = .ok (.iaload, 1) := by decide +kernel
theorem d_SB_change_73 : decode b_SB_change 73 = .ok (.istore 6, 2) := by decide +kernel
theorem d_SB_change_75 : decode b_SB_change 75 = .ok (.aload 5, 2) := by decide +kernel
theorem d_SB_change_77 : decode b_SB_change 77 = .ok (.getfield 112, 3) := by decide +kernel
theorem d_SB_change_80 : decode b_SB_change 80 = .ok (.iload_n 2, 1) := by decide +kernel
theorem d_SB_change_81 : decode b_SB_change 81 = .ok (.iaload, 1) := by decide +kernel
theorem d_SB_change_82 : decode b_SB_change 82 = .ok (.istore 7, 2) := by decide +kernel
theorem d_SB_change_84 : decode b_SB_change 84 = .ok (.aload 5, 2) := by decide +kernel
theorem d_SB_change_86 : decode b_SB_change 86 = .ok (.getfield 108, 3) := by decide +kernel
theorem d_SB_change_89 : decode b_SB_change 89 = .ok (.iload_n 2, 1) := by decide +kernel
theorem d_SB_change_90 : decode b_SB_change 90 = .ok (.iload_n 3, 1) := by decide +kernel
theorem d_SB_change_91 : decode b_SB_change 91 = .ok (.iastore, 1) := by decide +kernel
theorem d_SB_change_92 : decode b_SB_change 92 = .ok (.aload 5, 2) := by decide +kernel
theorem d_SB_change_94 : decode b_SB_change 94 = .ok (.getfield 112, 3) := by decide +kernel
theorem d_SB_change_97 : decode b_SB_change 97 = .ok (.iload_n 2, 1) := by decide +kernel
theorem d_SB_change_98 : decode b_SB_change 98 = .ok (.iload 4, 2) := by decide +kernel
theorem d_SB_change_100 : decode b_SB_change 100 = .ok (.iastore, 1) := by decide +kernel
theorem d_SB_change_101 : decode b_SB_change 101 = .ok (.aload_n 0, 1) := by decide +kernel
theorem d_SB_change_102 : decode b_SB_change 102 = .ok (.getfield 31, 3) := by decide +kernel
theorem d_SB_change_105 : decode b_SB_change 105 = .ok (.aload_n 0, 1) := by decide +kernel
theorem d_SB_change_106 : decode b_SB_change 106 = .ok (.getfield 38, 3) := by decide +kernel
theorem d_SB_change_109 : decode b_SB_change 109 = .ok (.iload_n 1, 1) := by decide +kernel
theorem d_SB_change_110 : decode b_SB_change 110 = .ok (.aload_n 0, 1) := by decide +kernel
theorem d_SB_change_111 : decode b_SB_change 111 = .ok (.getfield 24, 3) := by decide +kernel
theorem d_SB_change_114 : decode b_SB_change 114 = .ok (.invokevirtual 76, 3) := by decide +kernel
theorem d_SB_change_117 : decode b_SB_change 117 = .ok (.aload_n 0, 1) := by decide +kernel
theorem d_SB_change_118 : decode b_SB_change 118 = .ok (.getfield 24, 3) := by decide +kernel
theorem d_SB_change_121 : decode b_SB_change 121 = .ok (.getfield 73, 3) := by decide +kernel
theorem d_SB_change_124 : decode b_SB_change 124 = .ok (.ifCond .eq 21, 3) := by decide +kernel
theorem d_SB_change_127 : decode b_SB_change 127 = .ok (.aload 5, 2) := by decide +kernel
theorem d_SB_change_129 : decode b_SB_change 129 = .ok (.getfield 108, 3) := by decide +kernel
theorem d_SB_change_132 : decode b_SB_change 132 = .ok (.iload_n 2, 1) := by decide +kernel
theorem d_SB_change_133 : decode b_SB_change 133 = .ok (.iload 6, 2) := by decide +kernel
theorem d_SB_change_135 : decode b_SB_change 135 = .ok (.iastore, 1) := by decide +kernel
theorem d_SB_change_136 : decode b_SB_change 136 = .ok (.aload 5, 2) := by decide +kernel
theorem d_SB_change_138 : decode b_SB_change 138 = .ok (.getfield 112, 3) := by decide +kernel
theorem d_SB_change_141 : decode b_SB_change 141 = .ok (.iload_n 2, 1) := by decide +kernel
theorem d_SB_change_142 : decode b_SB_change 142 = .ok (.iload 7, 2) := by decide +kernel
theorem d_SB_change_144 : decode b_SB_change 144 = .ok (.iastore, 1) := by decide +kernel
theorem d_SB_change_145 : decode b_SB_change 145 = .ok (.aload_n 0, 1) := by decide +kernel
theorem d_SB_change_146 : decode b_SB_change 146 = .ok (.getfield 24, 3) := by decide +kernel
theorem d_SB_change_149 : decode b_SB_change 149 = .ok (.getfield 73, 3) := by decide +kernel
theorem d_SB_change_152 : decode b_SB_change 152 = .ok (.ireturn, 1) := by decide +kernel
theorem d_Function_isGoneTo_0 : decode b_Function_isGoneTo 0 = .ok (.iconst 0, 1) := by decide +kernel
theorem d_Function_isGoneTo_1 : decode b_Function_isGoneTo 1 = .ok (.istore_n 2, 1) := by decide +kernel
theorem d_Function_isGoneTo_2 : decode b_Function_isGoneTo 2 = .ok (.iload_n 2, 1) := by decide +kernel
theorem d_Function_isGoneTo_3 : decode b_Function_isGoneTo 3 = .ok (.aload_n 0, 1) := by decide +kernel
theorem d_Function_isGoneTo_4 : decode b_Function_isGoneTo 4 = .ok (.getfield 30, 3) := by decide +kernel
theorem d_Function_isGoneTo_7 : decode b_Function_isGoneTo 7 = .ok (.if_icmp .ge 33, 3) := by decide +kernel
theorem d_Function_isGoneTo_10 : decode b_Function_isGoneTo 10 = .ok (.aload_n 0, 1) := by decide +kernel
theorem d_Function_isGoneTo_11 : decode b_Function_isGoneTo 11 = .ok (.getfield 9, 3) := by decide +kernel
theorem d_Function_isGoneTo_14 : decode b_Function_isGoneTo 14 = .ok (.iload_n 2, 1) := by decide +kernel
theorem d_Function_isGoneTo_15 : decode b_Function_isGoneTo 15 = .ok (.iaload, 1) := by decide +kernel
theorem d_Function_isGoneTo_16 : decode b_Function_isGoneTo 16 = .ok (.invokestatic 38, 3) := by decide +kernel
theorem d_Function_isGoneTo_19 : decode b_Function_isGoneTo 19 = .ok (.ifCond .eq 15, 3) := by decide +kernel
theorem d_Function_isGoneTo_22 : decode b_Function_isGoneTo 22 = .ok (.aload_n 0, 1) := by decide +kernel
theorem d_Function_isGoneTo_23 : decode b_Function_isGoneTo 23 = .ok (.getfield 15, 3) := by decide +kernel
theorem d_Function_isGoneTo_26 : decode b_Function_isGoneTo 26 = .ok (.iload_n 2, 1) := by decide +kernel
theorem d_Function_isGoneTo_27 : decode b_Function_isGoneTo 27 = .ok (.iaload, 1) := by decide +kernel
theorem d_Function_isGoneTo_28 : decode b_Function_isGoneTo 28 = .ok (.iload_n 1, 1) := by decide +kernel
theorem d_Function_isGoneTo_29 : decode b_Function_isGoneTo 29 = .ok (.if_icmp .ne 5, 3) := by decide +kernel
theorem d_Function_isGoneTo_32 : decode b_Function_isGoneTo 32 = .ok (.iconst 1, 1) := by decide +kernel
theorem d_Function_isGoneTo_33 : decode b_Function_isGoneTo 33 = .ok (.ireturn, 1) := by decide +kernel
theorem d_Function_isGoneTo_34 : decode b_Function_isGoneTo 34 = .ok (.iinc 2 1, 3) := by decide +kernel
theorem d_Function_isGoneTo_37 : decode b_Function_isGoneTo 37 = .ok (.goto (-35), 3) := by decide +kernel
theorem d_Function_isGoneTo_40 : decode b_Function_isGoneTo 40 = .ok (.iconst 0, 1) := by decide +kernel
theorem d_Function_isGoneTo_41 : decode b_Function_isGoneTo 41 = .ok (.istore_n 2, 1) := by decide +kernel
theorem d_Function_isGoneTo_42 : decode b_Function_isGoneTo 42 = .ok (.iload_n 2, 1) := by decide +kernel
theorem d_Function_isGoneTo_43 : decode b_Function_isGoneTo 43 = .ok (.aload_n 0, 1) := by decide +kernel
theorem d_Function_isGoneTo_44 : decode b_Function_isGoneTo 44 = .ok (.getfield 44, 3) := by decide +kernel
theorem d_Function_isGoneTo_47 : decode b_Function_isGoneTo 47 = .ok (.if_icmp .ge 24, 3) := by decide +kernel
theorem d_Function_isGoneTo_50 : decode b_Function_isGoneTo 50 = .ok (.aload_n 0, 1) := by decide +kernel
theorem d_Function_isGoneTo_51 : decode b_Function_isGoneTo 51 = .ok (.getfield 26, 3) := by decide +kernel
theorem d_Function_isGoneTo_54 : decode b_Function_isGoneTo 54 = .ok (.iload_n 2, 1) := by decide +kernel
theorem d_Function_isGoneTo_55 : decode b_Function_isGoneTo 55 = .ok (.aaload, 1) := by decide +kernel
theorem d_Function_isGoneTo_56 : decode b_Function_isGoneTo 56 = .ok (.getfield 47, 3) := by decide +kernel
theorem d_Function_isGoneTo_59 : decode b_Function_isGoneTo 59 = .ok (.iload_n 1, 1) := by decide +kernel
theorem d_Function_isGoneTo_60 : decode b_Function_isGoneTo 60 = .ok (.if_icmp .ne 5, 3) := by decide +kernel
theorem d_Function_isGoneTo_63 : decode b_Function_isGoneTo 63 = .ok (.iconst 1, 1) := by decide +kernel
theorem d_Function_isGoneTo_64 : decode b_Function_isGoneTo 64 = .ok (.ireturn, 1) := by decide +kernel
theorem d_Function_isGoneTo_65 : decode b_Function_isGoneTo 65 = .ok (.iinc 2 1, 3) := by decide +kernel
theorem d_Function_isGoneTo_68 : decode b_Function_isGoneTo 68 = .ok (.goto (-26), 3) := by decide +kernel
theorem d_Function_isGoneTo_71 : decode b_Function_isGoneTo 71 = .ok (.iconst 0, 1) := by decide +kernel
theorem d_Function_isGoneTo_72 : decode b_Function_isGoneTo 72 = .ok (.ireturn, 1) := by decide +kernel
theorem d_SB_code_0 : decode b_SB_code 0 = .ok (.aload_n 0, 1) := by decide +kernel
theorem d_SB_code_1 : decode b_SB_code 1 = .ok (.getfield 38, 3) := by decide +kernel
theorem d_SB_code_4 : decode b_SB_code 4 = .ok (.iload_n 1, 1) := by decide +kernel
theorem d_SB_code_5 : decode b_SB_code 5 = .ok (.invokevirtual 89, 3) := by decide +kernel
theorem d_SB_code_8 : decode b_SB_code 8 = .ok (.astore 4, 2) := by decide +kernel
theorem d_SB_code_10 : decode b_SB_code 10 = .ok (.aload 4, 2) := by decide +kernel
theorem d_SB_code_12 : decode b_SB_code 12 = .ok (.ifnull 12, 3) := by decide +kernel
theorem d_SB_code_15 : decode b_SB_code 15 = .ok (.aload 4, 2) := by decide +kernel
theorem d_SB_code_17 : decode b_SB_code 17 = .ok (.iload_n 2, 1) := by decide +kernel
theorem d_SB_code_18 : decode b_SB_code 18 = .ok (.invokevirtual 93, 3) := by decide +kernel
theorem d_SB_code_21 : decode b_SB_code 21 = .ok (.ifCond .ne 5, 3) := by decide +kernel
theorem d_SB_code_24 : decode b_SB_code 24 = .ok (.iconst 0, 1) := by decide +kernel
theorem d_SB_code_25 : decode b_SB_code 25 = .ok (.ireturn, 1) := by decide +kernel
theorem d_SB_code_26 : decode b_SB_code 26 = .ok (.iload_n 3, 1) := by decide +kernel
theorem d_SB_code_27 : decode b_SB_code 27 = .ok (.tableswitch 80 0 4 #[33, 41, 49, 57, 65], 33) := by decide +kernel
theorem d_SB_code_60 : decode b_SB_code 60 = .ok (.aload 4, 2) := by decide +kernel
theorem d_SB_code_62 : decode b_SB_code 62 = .ok (.getfield 108, 3) := by decide +kernel
theorem d_SB_code_65 : decode b_SB_code 65 = .ok (.iload_n 2, 1) := by decide +kernel
theorem d_SB_code_66 : decode b_SB_code 66 = .ok (.iaload, 1) := by decide +kernel
theorem d_SB_code_67 : decode b_SB_code 67 = .ok (.ireturn, 1) := by decide +kernel
theorem d_SB_code_68 : decode b_SB_code 68 = .ok (.aload 4, 2) := by decide +kernel
theorem d_SB_code_70 : decode b_SB_code 70 = .ok (.getfield 112, 3) := by decide +kernel
theorem d_SB_code_73 : decode b_SB_code 73 = .ok (.iload_n 2, 1) := by decide +kernel
theorem d_SB_code_74 : decode b_SB_code 74 = .ok (.iaload, 1) := by decide +kernel
theorem d_SB_code_75 : decode b_SB_code 75 = .ok (.ireturn, 1) := by decide +kernel
theorem d_SB_code_76 : decode b_SB_code 76 = .ok (.aload 4, 2) := by decide +kernel
theorem d_SB_code_78 : decode b_SB_code 78 = .ok (.getfield 115, 3) := by decide +kernel
theorem d_SB_code_81 : decode b_SB_code 81 = .ok (.iload_n 2, 1) := by decide +kernel
theorem d_SB_code_82 : decode b_SB_code 82 = .ok (.iaload, 1) := by decide +kernel
theorem d_SB_code_83 : decode b_SB_code 83 = .ok (.ireturn, 1) := by decide +kernel
theorem d_SB_code_84 : decode b_SB_code 84 = .ok (.aload 4, 2) := by decide +kernel
theorem d_SB_code_86 : decode b_SB_code 86 = .ok (.getfield 118, 3) := by decide +kernel
theorem d_SB_code_89 : decode b_SB_code 89 = .ok (.iload_n 2, 1) := by decide +kernel
theorem d_SB_code_90 : decode b_SB_code 90 = .ok (.iaload, 1) := by decide +kernel
theorem d_SB_code_91 : decode b_SB_code 91 = .ok (.ireturn, 1) := by decide +kernel
theorem d_SB_code_92 : decode b_SB_code 92 = .ok (.aload 4, 2) := by decide +kernel
theorem d_SB_code_94 : decode b_SB_code 94 = .ok (.iload_n 2, 1) := by decide +kernel
theorem d_SB_code_95 : decode b_SB_code 95 = .ok (.invokevirtual 121, 3) := by decide +kernel
theorem d_SB_code_98 : decode b_SB_code 98 = .ok (.ifCond .eq 7, 3) := by decide +kernel
theorem d_SB_code_101 : decode b_SB_code 101 = .ok (.iconst 1, 1) := by decide +kernel
theorem d_SB_code_102 : decode b_SB_code 102 = .ok (.goto 4, 3) := by decide +kernel
theorem d_SB_code_105 : decode b_SB_code 105 = .ok (.iconst 0, 1) := by decide +kernel
theorem d_SB_code_106 : decode b_SB_code 106 = .ok (.ireturn, 1) := by decide +kernel
theorem d_SB_code_107 : decode b_SB_code 107 = .ok (.iconst 0, 1) := by decide +kernel
theorem d_SB_code_108 : decode b_SB_code 108 = .ok (.ireturn, 1) := by decide +kernel
theorem d_Function_comeTo_0 : decode b_Function_comeTo 0 = .ok (.iconst 0, 1) := by decide +kernel
theorem d_Function_comeTo_1 : decode b_Function_comeTo 1 = .ok (.istore_n 1, 1) := by decide +kernel
theorem d_Function_comeTo_2 : decode b_Function_comeTo 2 = .ok (.iconst 0, 1) := by decide +kernel
theorem d_Function_comeTo_3 : decode b_Function_comeTo 3 = .ok (.istore_n 2, 1) := by decide +kernel
theorem d_Function_comeTo_4 : decode b_Function_comeTo 4 = .ok (.iload_n 2, 1) := by decide +kernel
theorem d_Function_comeTo_5 : decode b_Function_comeTo 5 = .ok (.aload_n 0, 1) := by decide +kernel
theorem d_Function_comeTo_6 : decode b_Function_comeTo 6 = .ok (.getfield 30, 3) := by decide +kernel
theorem d_Function_comeTo_9 : decode b_Function_comeTo 9 = .ok (.if_icmp .ge 22, 3) := by decide +kernel
theorem d_Function_comeTo_12 : decode b_Function_comeTo 12 = .ok (.aload_n 0, 1) := by decide +kernel
theorem d_Function_comeTo_13 : decode b_Function_comeTo 13 = .ok (.getfield 18, 3) := by decide +kernel
theorem d_Function_comeTo_16 : decode b_Function_comeTo 16 = .ok (.iload_n 2, 1) := by decide +kernel
theorem d_Function_comeTo_17 : decode b_Function_comeTo 17 = .ok (.iaload, 1) := by decide +kernel
theorem d_Function_comeTo_18 : decode b_Function_comeTo 18 = .ok (.iconst (-1), 1) := by decide +kernel
theorem d_Function_comeTo_19 : decode b_Function_comeTo 19 = .ok (.if_icmp .eq 6, 3) := by decide +kernel
theorem d_Function_comeTo_22 : decode b_Function_comeTo 22 = .ok (.iinc 1 1, 3) := by decide +kernel
theorem d_Function_comeTo_25 : decode b_Function_comeTo 25 = .ok (.iinc 2 1, 3) := by decide +kernel
theorem d_Function_comeTo_28 : decode b_Function_comeTo 28 = .ok (.goto (-24), 3) := by decide +kernel
theorem d_Function_comeTo_31 : decode b_Function_comeTo 31 = .ok (.iload_n 1, 1) := by decide +kernel
theorem d_Function_comeTo_32 : decode b_Function_comeTo 32 = .ok (.ireturn, 1) := by decide +kernel
theorem d_Function_deepest_0 : decode b_Function_deepest 0 = .ok (.iconst 0, 1) := by decide +kernel
theorem d_Function_deepest_1 : decode b_Function_deepest 1 = .ok (.istore_n 1, 1) := by decide +kernel
theorem d_Function_deepest_2 : decode b_Function_deepest 2 = .ok (.iconst 0, 1) := by decide +kernel
theorem d_Function_deepest_3 : decode b_Function_deepest 3 = .ok (.istore_n 2, 1) := by decide +kernel
theorem d_Function_deepest_4 : decode b_Function_deepest 4 = .ok (.iload_n 2, 1) := by decide +kernel
theorem d_Function_deepest_5 : decode b_Function_deepest 5 = .ok (.aload_n 0, 1) := by decide +kernel
theorem d_Function_deepest_6 : decode b_Function_deepest 6 = .ok (.getfield 30, 3) := by decide +kernel
theorem d_Function_deepest_9 : decode b_Function_deepest 9 = .ok (.if_icmp .ge 20, 3) := by decide +kernel
theorem d_Function_deepest_12 : decode b_Function_deepest 12 = .ok (.iload_n 1, 1) := by decide +kernel
theorem d_Function_deepest_13 : decode b_Function_deepest 13 = .ok (.aload_n 0, 1) := by decide +kernel
theorem d_Function_deepest_14 : decode b_Function_deepest 14 = .ok (.getfield 18, 3) := by decide +kernel
theorem d_Function_deepest_17 : decode b_Function_deepest 17 = .ok (.iload_n 2, 1) := by decide +kernel
theorem d_Function_deepest_18 : decode b_Function_deepest 18 = .ok (.iaload, 1) := by decide +kernel
theorem d_Function_deepest_19 : decode b_Function_deepest 19 = .ok (.invokestatic 50, 3) := by decide +kernel
theorem d_Function_deepest_22 : decode b_Function_deepest 22 = .ok (.istore_n 1, 1) := by decide +kernel
theorem d_Function_deepest_23 : decode b_Function_deepest 23 = .ok (.iinc 2 1, 3) := by decide +kernel
theorem d_Function_deepest_26 : decode b_Function_deepest 26 = .ok (.goto (-22), 3) := by decide +kernel
theorem d_Function_deepest_29 : decode b_Function_deepest 29 = .ok (.iload_n 1, 1) := by decide +kernel
theorem d_Function_deepest_30 : decode b_Function_deepest 30 = .ok (.ireturn, 1) := by decide +kernel
set_option maxHeartbeats 4000000 in
set_option maxRecDepth 100000 in
theorem ml_Program_appendTo_38 {p : Program} {l : Launch} {e : Env} {s : State} {m : MethodId} {args : Array Value} {below : List Frame} {meth : Method} {c : Code} {D : va_G} {dA : Nat → ClassId} {h0 h2 : hc_H} {C0 S0 : Nat} {b : Unit} (hC : hj_C p s m args meth c (gg D dA) b_Program_appendTo 3 none R_Program "appendTo" tb) (x0 : Option Nat) (x1 : Option Nat) (kx : hM Unit) (hk : ∀  (h : hc_H) (C S : Nat), kx  h = some (b, C, S, h2) → hj_J p l e { frames := 6, cells := C0, slots := S0, locals := 136 } s m args below meth c (gg D dA) h0 3 (hj_Q below args s { frames := 6, cells := C0, slots := S0, locals := 136 } (gg D dA) h0 none h2) C S h 62 [] []) : ∀ (fu : Nat) (v2 : Int32) (h : hc_H) (C S : Nat), p_Program_appendTo_38 x0 x1 kx fu v2 h = some (b, C, S, h2) → hj_J p l e { frames := 6, cells := C0, slots := S0, locals := 136 } s m args below meth c (gg D dA) h0 3 (hj_Q below args s { frames := 6, cells := C0, slots := S0, locals := 136 } (gg D dA) h0 none h2) C S h 38 [(0, vr_ x0), (1, vr_ x1), (2, vi_ v2)] [] := by
  intro fu
  induction fu with
  | zero =>
    intro v2 h C S hr
    cases hr
  | succ fu ih =>
    intro v2 h C S hr
    rw [p_Program_appendTo_38] at hr
    refine hj_iload_n hC 2 d_Program_appendTo_38 rfl rfl ?_
    refine hj_aload_n hC 0 d_Program_appendTo_39 rfl rfl ?_
    refine hj_geti hC cf_Program (k := 1) (by decide) wq_35 rfl d_Program_appendTo_40 hr (fun a6 hr => ?_)
    refine hj_icmp_ge hC 62 d_Program_appendTo_43 (by decide) hr (fun q43 hr => ?_) (fun q43 hr => ?_)
    · refine hj_sub (lv' := []) [] rfl ?_
      exact hk _ _ _ hr
    · refine hj_aload_n hC 0 d_Program_appendTo_46 rfl rfl ?_
      refine hj_getr hC cf_Program (k := 0) (by decide) wq_31 rfl d_Program_appendTo_47 hr (fun a7 hr => ?_)
      refine hj_iload_n hC 2 d_Program_appendTo_50 rfl rfl ?_
      refine hj_aald hC (kd := 8) rfl d_Program_appendTo_51 hr (fun a8 hr => ?_)
      refine hj_aload_n hC 1 d_Program_appendTo_52 rfl rfl ?_
      refine hj_callV hC hG (enc := (fun _ : Unit => none)) (As := [vr_ x1]) (st := []) (fun h a C S h1 hr => m_Function_appendTo _ _ h a C S h1 hr) cf_Function wq_322 wq_323 wq_324 wq_33 wq_321 yk_Function_appendTo rfl ⟨Nat.le_of_ble_eq_true rfl, Nat.le_of_ble_eq_true rfl⟩ rfl (Nat.le_of_ble_eq_true rfl) d_Program_appendTo_53 hr (fun _ h C S hr => ?_)
      refine hj_iinc hC (lv' := [(2, vi_ (v2 + 1)), (0, vr_ x0), (1, vr_ x1)]) 2 d_Program_appendTo_56 rfl rfl (by decide) rfl ?_
      refine hj_goto hC 38 d_Program_appendTo_59 (by decide) ?_
      refine hj_sub (lv' := [(0, vr_ x0), (1, vr_ x1), (2, vi_ (v2 + 1))]) [1, 2, 0] rfl ?_
      exact ih _ _ _ _ hr
set_option maxHeartbeats 4000000 in
set_option maxRecDepth 100000 in
theorem m_Program_appendTo {l : Launch} {D : va_G} {dA : Nat → ClassId} (o : Option Nat) (x1 : Option Nat) (h0 : hc_H) (b : Unit) (C0 S0 : Nat) (h2 : hc_H) (hr : p_Program_appendTo o x1 h0 = some (b, C0, S0, h2)) : hc_Met l (gg D dA) y_Program_appendTo b_Program_appendTo 3 none tb 6 136 [vr_ o, vr_ x1] h0 C0 S0 none h2 := by
  refine hc_Met.of (by decide) (Nat.le_of_ble_eq_true rfl) ?_
  intro p e s m args below meth c hC
  unfold p_Program_appendTo at hr
  refine hj_sub (lv' := [(0, vr_ o), (1, vr_ x1)]) [0, 1] rfl ?_
  refine hj_aload_n hC 1 d_Program_appendTo_0 rfl rfl ?_
  refine hj_ldc2 hC (v := 71) wq_319 d_Program_appendTo_1 ?_
  refine hj_iconst hC (v := 1) d_Program_appendTo_4 (by decide) ?_
  refine hj_callV hC hG (enc := (fun a : Int32 => some (vi_ a))) (As := [vl_ 71, vi_ 1]) (st := []) (fun h a C S h1 hr => m_ByteRow_add _ _ _ h a C S h1 hr) cf_ByteRow wq_325 wq_90 wq_91 wq_41 wq_88 yk_ByteRow_add rfl ⟨Nat.le_of_ble_eq_true rfl, Nat.le_of_ble_eq_true rfl⟩ rfl (Nat.le_of_ble_eq_true rfl) d_Program_appendTo_5 hr (fun a1 h C S hr => ?_)
  refine hj_pop hC d_Program_appendTo_8 rfl ?_
  refine hj_aload_n hC 1 d_Program_appendTo_9 rfl rfl ?_
  refine hj_ldc2 hC (v := 70) wq_320 d_Program_appendTo_10 ?_
  refine hj_iconst hC (v := 1) d_Program_appendTo_13 (by decide) ?_
  refine hj_callV hC hG (enc := (fun a : Int32 => some (vi_ a))) (As := [vl_ 70, vi_ 1]) (st := []) (fun h a C S h1 hr => m_ByteRow_add _ _ _ h a C S h1 hr) cf_ByteRow wq_325 wq_90 wq_91 wq_41 wq_88 yk_ByteRow_add rfl ⟨Nat.le_of_ble_eq_true rfl, Nat.le_of_ble_eq_true rfl⟩ rfl (Nat.le_of_ble_eq_true rfl) d_Program_appendTo_14 hr (fun a2 h C S hr => ?_)
  refine hj_pop hC d_Program_appendTo_17 rfl ?_
  refine hj_aload_n hC 1 d_Program_appendTo_18 rfl rfl ?_
  refine hj_lconst hC (v := 1) d_Program_appendTo_19 (by decide) ?_
  refine hj_iconst hC (v := 1) d_Program_appendTo_20 (by decide) ?_
  refine hj_callV hC hG (enc := (fun a : Int32 => some (vi_ a))) (As := [vl_ 1, vi_ 1]) (st := []) (fun h a C S h1 hr => m_ByteRow_add _ _ _ h a C S h1 hr) cf_ByteRow wq_325 wq_90 wq_91 wq_41 wq_88 yk_ByteRow_add rfl ⟨Nat.le_of_ble_eq_true rfl, Nat.le_of_ble_eq_true rfl⟩ rfl (Nat.le_of_ble_eq_true rfl) d_Program_appendTo_21 hr (fun a3 h C S hr => ?_)
  refine hj_pop hC d_Program_appendTo_24 rfl ?_
  refine hj_aload_n hC 1 d_Program_appendTo_25 rfl rfl ?_
  refine hj_aload_n hC 0 d_Program_appendTo_26 rfl rfl ?_
  refine hj_geti hC cf_Program (k := 1) (by decide) wq_35 rfl d_Program_appendTo_27 hr (fun a4 hr => ?_)
  refine hj_i2l hC d_Program_appendTo_30 ?_
  refine hj_iconst hC (v := 1) d_Program_appendTo_31 (by decide) ?_
  refine hj_callV hC hG (enc := (fun a : Int32 => some (vi_ a))) (As := [vl_ (Int32.toInt64 a4), vi_ 1]) (st := []) (fun h a C S h1 hr => m_ByteRow_add _ _ _ h a C S h1 hr) cf_ByteRow wq_325 wq_90 wq_91 wq_41 wq_88 yk_ByteRow_add rfl ⟨Nat.le_of_ble_eq_true rfl, Nat.le_of_ble_eq_true rfl⟩ rfl (Nat.le_of_ble_eq_true rfl) d_Program_appendTo_32 hr (fun a5 h C S hr => ?_)
  refine hj_pop hC d_Program_appendTo_35 rfl ?_
  refine hj_iconst hC (v := 0) d_Program_appendTo_36 (by decide) ?_
  refine hj_istore_n hC (lv' := [(2, vi_ 0), (0, vr_ o), (1, vr_ x1)]) d_Program_appendTo_37 rfl (by decide) rfl ?_
  refine hj_sub (lv' := [(0, vr_ o), (1, vr_ x1), (2, vi_ 0)]) [1, 2, 0] rfl ?_
  refine ml_Program_appendTo_38 hC _ _ _ (fun  h C S hr => ?_) _ _ _ _ _ hr
  exact hj_vret hC d_Program_appendTo_62 hr
set_option maxHeartbeats 4000000 in
set_option maxRecDepth 100000 in
theorem m_SB_write {l : Launch} {D : va_G} {dA : Nat → ClassId} (o : Option Nat) (h0 : hc_H) (b : Int32) (C0 S0 : Nat) (h2 : hc_H) (hr : p_SB_write o h0 = some (b, C0, S0, h2)) : hc_Met l (gg D dA) y_SB_write b_SB_write 1 (some .int) tb 7 158 [vr_ o] h0 C0 S0 (some (vi_ b)) h2 := by
  refine hc_Met.of (by decide) (Nat.le_of_ble_eq_true rfl) ?_
  intro p e s m args below meth c hC
  unfold p_SB_write at hr
  refine hj_sub (lv' := [(0, vr_ o)]) [0] rfl ?_
  refine hj_aload_n hC 0 d_SB_write_0 rfl rfl ?_
  refine hj_getr hC cf_SB (k := 1) (by decide) wq_44 rfl d_SB_write_1 hr (fun a1 hr => ?_)
  refine hj_iconst hC (v := 0) d_SB_write_4 (by decide) ?_
  refine hj_callV hC hG (enc := (fun a : Int32 => some (vi_ a))) (As := [vi_ 0]) (st := []) (fun h a C S h1 hr => m_ByteRow_keepFirst _ _ h a C S h1 hr) cf_ByteRow wq_93 wq_94 wq_95 wq_41 wq_92 yk_ByteRow_keepFirst rfl ⟨Nat.le_of_ble_eq_true rfl, Nat.le_of_ble_eq_true rfl⟩ rfl (Nat.le_of_ble_eq_true rfl) d_SB_write_5 hr (fun a2 h C S hr => ?_)
  refine hj_pop hC d_SB_write_8 rfl ?_
  refine hj_aload_n hC 0 d_SB_write_9 rfl rfl ?_
  refine hj_getr hC cf_SB (k := 4) (by decide) wq_59 rfl d_SB_write_10 hr (fun a3 hr => ?_)
  refine hj_aload_n hC 0 d_SB_write_13 rfl rfl ?_
  refine hj_getr hC cf_SB (k := 1) (by decide) wq_44 rfl d_SB_write_14 hr (fun a4 hr => ?_)
  refine hj_callV hC hG (enc := (fun _ : Unit => none)) (As := [vr_ a4]) (st := []) (fun h a C S h1 hr => m_Program_appendTo _ _ h a C S h1 hr) cf_Program wq_328 wq_329 wq_330 wq_57 wq_326 yk_Program_appendTo rfl ⟨Nat.le_of_ble_eq_true rfl, Nat.le_of_ble_eq_true rfl⟩ rfl (Nat.le_of_ble_eq_true rfl) d_SB_write_17 hr (fun _ h C S hr => ?_)
  refine hj_aload_n hC 0 d_SB_write_20 rfl rfl ?_
  refine hj_getr hC cf_SB (k := 1) (by decide) wq_44 rfl d_SB_write_21 hr (fun a5 hr => ?_)
  refine hj_geti hC cf_ByteRow (k := 2) (by decide) wq_327 rfl d_SB_write_24 hr (fun a6 hr => ?_)
  exact hj_iret hC d_SB_write_27 hr
set_option maxHeartbeats 4000000 in
set_option maxRecDepth 100000 in
theorem m_ByteRow_become {l : Launch} {D : va_G} {dA : Nat → ClassId} (o : Option Nat) (x1 : Option Nat) (h0 : hc_H) (b : Int32) (C0 S0 : Nat) (h2 : hc_H) (hr : p_ByteRow_become o x1 h0 = some (b, C0, S0, h2)) : hc_Met l (gg D dA) y_ByteRow_become b_ByteRow_become 2 (some .boolean) tb 3 69 [vr_ o, vr_ x1] h0 C0 S0 (some (vi_ b)) h2 := by
  refine hc_Met.of (by decide) (Nat.le_of_ble_eq_true rfl) ?_
  intro p e s m args below meth c hC
  unfold p_ByteRow_become at hr
  refine hj_sub (lv' := [(0, vr_ o), (1, vr_ x1)]) [0, 1] rfl ?_
  refine hj_aload_n hC 1 d_ByteRow_become_0 rfl rfl ?_
  refine hj_geti hC cf_ByteRow (k := 2) (by decide) wq_6 rfl d_ByteRow_become_1 hr (fun a1 hr => ?_)
  refine hj_aload_n hC 0 d_ByteRow_become_4 rfl rfl ?_
  refine hj_geti hC cf_ByteRow (k := 0) (by decide) wq_3 rfl d_ByteRow_become_5 hr (fun a2 hr => ?_)
  refine hj_icmp_le hC 13 d_ByteRow_become_8 (by decide) hr (fun q8 hr => ?_) (fun q8 hr => ?_)
  · refine hj_aload_n hC 0 d_ByteRow_become_13 rfl rfl ?_
    refine hj_aload_n hC 1 d_ByteRow_become_14 rfl rfl ?_
    refine hj_geti hC cf_ByteRow (k := 2) (by decide) wq_6 rfl d_ByteRow_become_15 hr (fun a3 hr => ?_)
    refine hj_callV hC hG (enc := (fun _ : Unit => none)) (As := [vi_ a3]) (st := []) (fun h a C S h1 hr => m_ByteRow_makeRoom _ _ h a C S h1 hr) cf_ByteRow wq_85 wq_86 wq_87 wq_41 wq_84 yk_ByteRow_makeRoom rfl ⟨Nat.le_of_ble_eq_true rfl, Nat.le_of_ble_eq_true rfl⟩ rfl (Nat.le_of_ble_eq_true rfl) d_ByteRow_become_18 hr (fun _ h C S hr => ?_)
    refine hj_aload_n hC 1 d_ByteRow_become_21 rfl rfl ?_
    refine hj_getr hC cf_ByteRow (k := 1) (by decide) wq_5 rfl d_ByteRow_become_22 hr (fun a4 hr => ?_)
    refine hj_iconst hC (v := 0) d_ByteRow_become_25 (by decide) ?_
    refine hj_aload_n hC 0 d_ByteRow_become_26 rfl rfl ?_
    refine hj_getr hC cf_ByteRow (k := 1) (by decide) wq_5 rfl d_ByteRow_become_27 hr (fun a5 hr => ?_)
    refine hj_iconst hC (v := 0) d_ByteRow_become_30 (by decide) ?_
    refine hj_aload_n hC 1 d_ByteRow_become_31 rfl rfl ?_
    refine hj_geti hC cf_ByteRow (k := 2) (by decide) wq_6 rfl d_ByteRow_become_32 hr (fun a6 hr => ?_)
    refine hj_copy hC (k1 := 7) (k2 := 7) rfl rfl rfl wq_331 wq_73 wq_74 wq_75 (Nat.le_of_ble_eq_true rfl) (Nat.le_of_ble_eq_true rfl) d_ByteRow_become_35 hr (fun h hr => ?_)
    refine hj_aload_n hC 0 d_ByteRow_become_38 rfl rfl ?_
    refine hj_aload_n hC 1 d_ByteRow_become_39 rfl rfl ?_
    refine hj_geti hC cf_ByteRow (k := 2) (by decide) wq_6 rfl d_ByteRow_become_40 hr (fun a7 hr => ?_)
    refine hj_puti hC cf_ByteRow (k := 2) (by decide) wq_6 rfl (Or.inl rfl) rfl d_ByteRow_become_43 hr (fun h hr => ?_)
    refine hj_iconst hC (v := 1) d_ByteRow_become_46 (by decide) ?_
    exact hj_zret hC d_ByteRow_become_47 hr
  · refine hj_iconst hC (v := 0) d_ByteRow_become_11 (by decide) ?_
    exact hj_zret hC d_ByteRow_become_12 hr
set_option maxHeartbeats 4000000 in
set_option maxRecDepth 100000 in
theorem m_SB_turnOver {l : Launch} {D : va_G} {dA : Nat → ClassId} (o : Option Nat) (h0 : hc_H) (b : Int32) (C0 S0 : Nat) (h2 : hc_H) (hr : p_SB_turnOver o h0 = some (b, C0, S0, h2)) : hc_Met l (gg D dA) y_SB_turnOver b_SB_turnOver 1 (some .boolean) tb 4 90 [vr_ o] h0 C0 S0 (some (vi_ b)) h2 := by
  refine hc_Met.of (by decide) (Nat.le_of_ble_eq_true rfl) ?_
  intro p e s m args below meth c hC
  unfold p_SB_turnOver at hr
  refine hj_sub (lv' := [(0, vr_ o)]) [0] rfl ?_
  refine hj_aload_n hC 0 d_SB_turnOver_0 rfl rfl ?_
  refine hj_getr hC cf_SB (k := 0) (by decide) wq_43 rfl d_SB_turnOver_1 hr (fun a1 hr => ?_)
  refine hj_aload_n hC 0 d_SB_turnOver_4 rfl rfl ?_
  refine hj_getr hC cf_SB (k := 1) (by decide) wq_44 rfl d_SB_turnOver_5 hr (fun a2 hr => ?_)
  refine hj_callV hC hG (enc := (fun a : Int32 => some (vi_ a))) (As := [vr_ a2]) (st := []) (fun h a C S h1 hr => m_ByteRow_become _ _ h a C S h1 hr) cf_ByteRow wq_333 wq_334 wq_335 wq_41 wq_332 yk_ByteRow_become rfl ⟨Nat.le_of_ble_eq_true rfl, Nat.le_of_ble_eq_true rfl⟩ rfl (Nat.le_of_ble_eq_true rfl) d_SB_turnOver_8 hr (fun a3 h C S hr => ?_)
  exact hj_zret hC d_SB_turnOver_11 hr
set_option maxHeartbeats 4000000 in
set_option maxRecDepth 100000 in
theorem m_Kinds_canStand {l : Launch} {D : va_G} {dA : Nat → ClassId} (x0 : Int32) (x1 : Int32) (x2 : Option Nat) (x3 : Int32) (h0 : hc_H) (b : Int32) (C0 S0 : Nat) (h2 : hc_H) (hr : p_Kinds_canStand x0 x1 x2 x3 h0 = some (b, C0, S0, h2)) : hc_Met l (gg D dA) y_Kinds_canStand b_Kinds_canStand 4 (some .boolean) tb 1 22 [vi_ x0, vi_ x1, vr_ x2, vi_ x3] h0 C0 S0 (some (vi_ b)) h2 := by
  refine hc_Met.of (by decide) (Nat.le_of_ble_eq_true rfl) ?_
  intro p e s m args below meth c hC
  unfold p_Kinds_canStand at hr
  refine hj_sub (lv' := [(0, vi_ x0), (1, vi_ x1), (2, vr_ x2), (3, vi_ x3)]) [0, 1, 2, 3] rfl ?_
  refine hj_iload_n hC 0 d_Kinds_canStand_0 rfl rfl ?_
  refine hj_if_lt hC 32 d_Kinds_canStand_1 (by decide) hr (fun q1 hr => ?_) (fun q1 hr => ?_)
  · refine hj_iconst hC (v := 0) d_Kinds_canStand_32 (by decide) ?_
    exact hj_zret hC d_Kinds_canStand_33 hr
  · refine hj_iload_n hC 0 d_Kinds_canStand_4 rfl rfl ?_
    refine hj_bipush hC (v := 29) d_Kinds_canStand_5 (by decide) ?_
    refine hj_icmp_gt hC 32 d_Kinds_canStand_7 (by decide) hr (fun q7 hr => ?_) (fun q7 hr => ?_)
    · refine hj_iconst hC (v := 0) d_Kinds_canStand_32 (by decide) ?_
      exact hj_zret hC d_Kinds_canStand_33 hr
    · refine hj_iload_n hC 1 d_Kinds_canStand_10 rfl rfl ?_
      refine hj_iload_n hC 0 d_Kinds_canStand_11 rfl rfl ?_
      refine hj_callS hC hG (enc := (fun a : Int32 => some (vi_ a))) (As := [vi_ x0]) (st := [vi_ x1]) (fun h a C S h1 hr => m_Kinds_leastBehind _ h a C S h1 hr) wq_337 wq_141 wq_139 wq_135 yk_Kinds_leastBehind rfl ⟨Nat.le_of_ble_eq_true rfl, Nat.le_of_ble_eq_true rfl⟩ rfl (Nat.le_of_ble_eq_true rfl) d_Kinds_canStand_12 hr (fun a1 h C S hr => ?_)
      refine hj_icmp_lt hC 32 d_Kinds_canStand_15 (by decide) hr (fun q15 hr => ?_) (fun q15 hr => ?_)
      · refine hj_iconst hC (v := 0) d_Kinds_canStand_32 (by decide) ?_
        exact hj_zret hC d_Kinds_canStand_33 hr
      · refine hj_iload_n hC 1 d_Kinds_canStand_18 rfl rfl ?_
        refine hj_iload_n hC 0 d_Kinds_canStand_19 rfl rfl ?_
        refine hj_aload_n hC 2 d_Kinds_canStand_20 rfl rfl ?_
        refine hj_iload_n hC 3 d_Kinds_canStand_21 rfl rfl ?_
        refine hj_callS hC hG (enc := (fun a : Int32 => some (vi_ a))) (As := [vi_ x0, vr_ x2, vi_ x3]) (st := [vi_ x1]) (fun h a C S h1 hr => m_Kinds_mostBehind _ _ _ h a C S h1 hr) wq_336 wq_138 wq_139 wq_136 yk_Kinds_mostBehind rfl ⟨Nat.le_of_ble_eq_true rfl, Nat.le_of_ble_eq_true rfl⟩ rfl (Nat.le_of_ble_eq_true rfl) d_Kinds_canStand_22 hr (fun a2 h C S hr => ?_)
        refine hj_icmp_gt hC 32 d_Kinds_canStand_25 (by decide) hr (fun q25 hr => ?_) (fun q25 hr => ?_)
        · refine hj_iconst hC (v := 0) d_Kinds_canStand_32 (by decide) ?_
          exact hj_zret hC d_Kinds_canStand_33 hr
        · refine hj_iconst hC (v := 1) d_Kinds_canStand_28 (by decide) ?_
          refine hj_goto hC 33 d_Kinds_canStand_29 (by decide) ?_
          exact hj_zret hC d_Kinds_canStand_33 hr
set_option maxHeartbeats 4000000 in
set_option maxRecDepth 100000 in
theorem m_SB_change {l : Launch} {D : va_G} {dA : Nat → ClassId} (o : Option Nat) (x1 : Int32) (x2 : Int32) (x3 : Int32) (x4 : Int32) (h0 : hc_H) (b : Int32) (C0 S0 : Nat) (h2 : hc_H) (hr : p_SB_change o x1 x2 x3 x4 h0 = some (b, C0, S0, h2)) : hc_Met l (gg D dA) y_SB_change b_SB_change 8 (some .int) tb 6 136 [vr_ o, vi_ x1, vi_ x2, vi_ x3, vi_ x4] h0 C0 S0 (some (vi_ b)) h2 := by
  refine hc_Met.of (by decide) (Nat.le_of_ble_eq_true rfl) ?_
  intro p e s m args below meth c hC
  unfold p_SB_change at hr
  refine hj_sub (lv' := [(0, vr_ o), (1, vi_ x1), (2, vi_ x2), (3, vi_ x3), (4, vi_ x4)]) [0, 1, 2, 3, 4] rfl ?_
  refine hj_aload_n hC 0 d_SB_change_0 rfl rfl ?_
  refine hj_getr hC cf_SB (k := 2) (by decide) wq_49 rfl d_SB_change_1 hr (fun a1 hr => ?_)
  refine hj_callV hC hG (enc := (fun _ : Unit => none)) (As := []) (st := []) (fun h a C S h1 hr => m_Fault_clear _  h a C S h1 hr) cf_Fault wq_302 wq_303 wq_304 wq_47 wq_286 yk_Fault_clear rfl ⟨Nat.le_of_ble_eq_true rfl, Nat.le_of_ble_eq_true rfl⟩ rfl (Nat.le_of_ble_eq_true rfl) d_SB_change_4 hr (fun _ h C S hr => ?_)
  refine hj_aload_n hC 0 d_SB_change_7 rfl rfl ?_
  refine hj_getr hC cf_SB (k := 4) (by decide) wq_59 rfl d_SB_change_8 hr (fun a2 hr => ?_)
  refine hj_iload_n hC 1 d_SB_change_11 rfl rfl ?_
  refine hj_callV hC hG (enc := (fun a : Option Nat => some (vr_ a))) (As := [vi_ x1]) (st := []) (fun h a C S h1 hr => m_Program_at _ _ h a C S h1 hr) cf_Program wq_345 wq_228 wq_229 wq_57 wq_222 yk_Program_at rfl ⟨Nat.le_of_ble_eq_true rfl, Nat.le_of_ble_eq_true rfl⟩ rfl (Nat.le_of_ble_eq_true rfl) d_SB_change_12 hr (fun a3 h C S hr => ?_)
  refine hj_astore hC (lv' := [(5, vr_ a3), (0, vr_ o), (1, vi_ x1), (2, vi_ x2), (3, vi_ x3), (4, vi_ x4)]) d_SB_change_15 (by decide) rfl ?_
  refine hj_aload hC 0 d_SB_change_17 rfl ?_
  refine hj_jn hC (K := hM Int32) (fun k => ∀  (h : hc_H) (C S : Nat), k  h = some (b, C, S, h2) → hj_J p l e { frames := 6, cells := C0, slots := S0, locals := 136 } s m args below meth c (gg D dA) h0 8 (hj_Q below args s { frames := 6, cells := C0, slots := S0, locals := 136 } (gg D dA) h0 (some (vi_ b)) h2) C S h 49 [(0, vr_ o)] []) hr (fun  h C S hr => ?_) (fun k49 hk49 hr => ?_)
  · refine hj_aload_n hC 0 d_SB_change_49 rfl rfl ?_
    refine hj_getr hC cf_SB (k := 2) (by decide) wq_49 rfl d_SB_change_50 hr (fun a4 hr => ?_)
    refine hj_iconst hC (v := 3) d_SB_change_53 (by decide) ?_
    refine hj_iconst hC (v := (-1)) d_SB_change_54 (by decide) ?_
    refine hj_callV hC hG (enc := (fun _ : Unit => none)) (As := [vi_ 3, vi_ (-1)]) (st := []) (fun h a C S h1 hr => m_Fault_tell _ _ _ h a C S h1 hr) cf_Fault wq_338 wq_111 wq_112 wq_47 wq_109 yk_Fault_tell rfl ⟨Nat.le_of_ble_eq_true rfl, Nat.le_of_ble_eq_true rfl⟩ rfl (Nat.le_of_ble_eq_true rfl) d_SB_change_55 hr (fun _ h C S hr => ?_)
    refine hj_aload_n hC 0 d_SB_change_58 rfl rfl ?_
    refine hj_getr hC cf_SB (k := 2) (by decide) wq_49 rfl d_SB_change_59 hr (fun a5 hr => ?_)
    refine hj_geti hC cf_Fault (k := 0) (by decide) wq_292 rfl d_SB_change_62 hr (fun a6 hr => ?_)
    exact hj_iret hC d_SB_change_65 hr
  · refine hj_ifnull hC 49 d_SB_change_19 (by decide) hr (fun q19 hr => ?_) (fun q19 hr => ?_)
    · refine hj_sub (lv' := [(0, vr_ o)]) [1] rfl ?_
      exact hk49 _ _ _ hr
    · refine hj_aload hC 0 d_SB_change_22 rfl ?_
      refine hj_iload_n hC 3 d_SB_change_24 rfl rfl ?_
      refine hj_callV hC hG (enc := (fun a : Int32 => some (vi_ a))) (As := [vi_ x2]) (st := []) (fun h a C S h1 hr => m_Function_has _ _ h a C S h1 hr) cf_Function wq_344 wq_184 wq_185 wq_33 wq_178 yk_Function_has rfl ⟨Nat.le_of_ble_eq_true rfl, Nat.le_of_ble_eq_true rfl⟩ rfl (Nat.le_of_ble_eq_true rfl) d_SB_change_25 hr (fun a7 h C S hr => ?_)
      refine hj_if_eq hC 49 d_SB_change_28 (by decide) hr (fun q28 hr => ?_) (fun q28 hr => ?_)
      · refine hj_sub (lv' := [(0, vr_ o)]) [1] rfl ?_
        exact hk49 _ _ _ hr
      · refine hj_iload_n hC 4 d_SB_change_31 rfl rfl ?_
        refine hj_iload hC 5 d_SB_change_32 rfl ?_
        refine hj_aload hC 0 d_SB_change_34 rfl ?_
        refine hj_aload_n hC 1 d_SB_change_36 rfl rfl ?_
        refine hj_getr hC cf_SB (k := 4) (by decide) wq_59 rfl d_SB_change_37 hr (fun a8 hr => ?_)
        refine hj_geti hC cf_Program (k := 1) (by decide) wq_291 rfl d_SB_change_40 hr (fun a9 hr => ?_)
        refine hj_callS hC hG (enc := (fun a : Int32 => some (vi_ a))) (As := [vi_ x3, vi_ x4, vr_ a3, vi_ a9]) (st := []) (fun h a C S h1 hr => m_Kinds_canStand _ _ _ _ h a C S h1 hr) wq_342 wq_343 wq_139 wq_339 yk_Kinds_canStand rfl ⟨Nat.le_of_ble_eq_true rfl, Nat.le_of_ble_eq_true rfl⟩ rfl (Nat.le_of_ble_eq_true rfl) d_SB_change_43 hr (fun a10 h C S hr => ?_)
        refine hj_if_ne hC 66 d_SB_change_46 (by decide) hr (fun q46 hr => ?_) (fun q46 hr => ?_)
        · refine hj_aload hC 0 d_SB_change_66 rfl ?_
          refine hj_getr hC cf_Function (k := 6) (by decide) wq_340 rfl d_SB_change_68 hr (fun a11 hr => ?_)
          refine hj_iload_n hC 3 d_SB_change_71 rfl rfl ?_
          refine hj_iald hC (kd := 0) rfl d_SB_change_72 hr (fun a12 hr => ?_)
          refine hj_istore hC (lv' := [(6, vi_ a12), (5, vr_ a3), (0, vr_ o), (1, vi_ x1), (2, vi_ x2), (3, vi_ x3), (4, vi_ x4)]) d_SB_change_73 (by decide) rfl ?_
          refine hj_aload hC 1 d_SB_change_75 rfl ?_
          refine hj_getr hC cf_Function (k := 7) (by decide) wq_341 rfl d_SB_change_77 hr (fun a13 hr => ?_)
          refine hj_iload_n hC 4 d_SB_change_80 rfl rfl ?_
          refine hj_iald hC (kd := 1) rfl d_SB_change_81 hr (fun a14 hr => ?_)
          refine hj_istore hC (lv' := [(7, vi_ a14), (6, vi_ a12), (5, vr_ a3), (0, vr_ o), (1, vi_ x1), (2, vi_ x2), (3, vi_ x3), (4, vi_ x4)]) d_SB_change_82 (by decide) rfl ?_
          refine hj_aload hC 2 d_SB_change_84 rfl ?_
          refine hj_getr hC cf_Function (k := 6) (by decide) wq_340 rfl d_SB_change_86 hr (fun a15 hr => ?_)
          refine hj_iload_n hC 5 d_SB_change_89 rfl rfl ?_
          refine hj_iload_n hC 6 d_SB_change_90 rfl rfl ?_
          refine hj_iast hC (kd := 0) rfl d_SB_change_91 hr (fun h hr => ?_)
          refine hj_aload hC 2 d_SB_change_92 rfl ?_
          refine hj_getr hC cf_Function (k := 7) (by decide) wq_341 rfl d_SB_change_94 hr (fun a16 hr => ?_)
          refine hj_iload_n hC 5 d_SB_change_97 rfl rfl ?_
          refine hj_iload hC 7 d_SB_change_98 rfl ?_
          refine hj_iast hC (kd := 1) rfl d_SB_change_100 hr (fun h hr => ?_)
          refine hj_aload_n hC 3 d_SB_change_101 rfl rfl ?_
          refine hj_getr hC cf_SB (k := 3) (by decide) wq_54 rfl d_SB_change_102 hr (fun a17 hr => ?_)
          refine hj_aload_n hC 3 d_SB_change_105 rfl rfl ?_
          refine hj_getr hC cf_SB (k := 4) (by decide) wq_59 rfl d_SB_change_106 hr (fun a18 hr => ?_)
          refine hj_iload_n hC 4 d_SB_change_109 rfl rfl ?_
          refine hj_aload_n hC 3 d_SB_change_110 rfl rfl ?_
          refine hj_getr hC cf_SB (k := 2) (by decide) wq_49 rfl d_SB_change_111 hr (fun a19 hr => ?_)
          refine hj_callV hC hG (enc := (fun _ : Unit => none)) (As := [vr_ a18, vi_ x1, vr_ a19]) (st := []) (fun h a C S h1 hr => m_Verifier_verify _ _ _ _ h a C S h1 hr) cf_Verifier wq_294 wq_295 wq_296 wq_52 wq_293 yk_Verifier_verify rfl ⟨Nat.le_of_ble_eq_true rfl, Nat.le_of_ble_eq_true rfl⟩ rfl (Nat.le_of_ble_eq_true rfl) d_SB_change_114 hr (fun _ h C S hr => ?_)
          refine hj_aload_n hC 3 d_SB_change_117 rfl rfl ?_
          refine hj_getr hC cf_SB (k := 2) (by decide) wq_49 rfl d_SB_change_118 hr (fun a20 hr => ?_)
          refine hj_geti hC cf_Fault (k := 0) (by decide) wq_292 rfl d_SB_change_121 hr (fun a21 hr => ?_)
          refine hj_jn hC (K := hM Int32) (fun k => ∀  (h : hc_H) (C S : Nat), k  h = some (b, C, S, h2) → hj_J p l e { frames := 6, cells := C0, slots := S0, locals := 136 } s m args below meth c (gg D dA) h0 8 (hj_Q below args s { frames := 6, cells := C0, slots := S0, locals := 136 } (gg D dA) h0 (some (vi_ b)) h2) C S h 145 [(0, vr_ o)] []) hr (fun  h C S hr => ?_) (fun k145 hk145 hr => ?_)
          · refine hj_aload_n hC 0 d_SB_change_145 rfl rfl ?_
            refine hj_getr hC cf_SB (k := 2) (by decide) wq_49 rfl d_SB_change_146 hr (fun a22 hr => ?_)
            refine hj_geti hC cf_Fault (k := 0) (by decide) wq_292 rfl d_SB_change_149 hr (fun a23 hr => ?_)
            exact hj_iret hC d_SB_change_152 hr
          · refine hj_if_eq hC 145 d_SB_change_124 (by decide) hr (fun q124 hr => ?_) (fun q124 hr => ?_)
            · refine hj_sub (lv' := [(0, vr_ o)]) [3] rfl ?_
              exact hk145 _ _ _ hr
            · refine hj_aload hC 2 d_SB_change_127 rfl ?_
              refine hj_getr hC cf_Function (k := 6) (by decide) wq_340 rfl d_SB_change_129 hr (fun a24 hr => ?_)
              refine hj_iload_n hC 5 d_SB_change_132 rfl rfl ?_
              refine hj_iload hC 1 d_SB_change_133 rfl ?_
              refine hj_iast hC (kd := 0) rfl d_SB_change_135 hr (fun h hr => ?_)
              refine hj_aload hC 2 d_SB_change_136 rfl ?_
              refine hj_getr hC cf_Function (k := 7) (by decide) wq_341 rfl d_SB_change_138 hr (fun a25 hr => ?_)
              refine hj_iload_n hC 5 d_SB_change_141 rfl rfl ?_
              refine hj_iload hC 0 d_SB_change_142 rfl ?_
              refine hj_iast hC (kd := 1) rfl d_SB_change_144 hr (fun h hr => ?_)
              refine hj_sub (lv' := [(0, vr_ o)]) [3] rfl ?_
              exact hk145 _ _ _ hr
        · refine hj_sub (lv' := [(0, vr_ o)]) [1] rfl ?_
          exact hk49 _ _ _ hr
set_option maxHeartbeats 4000000 in
set_option maxRecDepth 100000 in
theorem ml_Function_isGoneTo_2 {p : Program} {l : Launch} {e : Env} {s : State} {m : MethodId} {args : Array Value} {below : List Frame} {meth : Method} {c : Code} {D : va_G} {dA : Nat → ClassId} {h0 h2 : hc_H} {C0 S0 : Nat} {b : Int32} (hC : hj_C p s m args meth c (gg D dA) b_Function_isGoneTo 3 (some .boolean) R_Function "isGoneTo" tb) (x0 : Option Nat) (x1 : Int32) (kx : hM Int32) (hk : ∀  (h : hc_H) (C S : Nat), kx  h = some (b, C, S, h2) → hj_J p l e { frames := 1, cells := C0, slots := S0, locals := 20 } s m args below meth c (gg D dA) h0 3 (hj_Q below args s { frames := 1, cells := C0, slots := S0, locals := 20 } (gg D dA) h0 (some (vi_ b)) h2) C S h 40 [(0, vr_ x0), (1, vi_ x1)] []) : ∀ (fu : Nat) (v2 : Int32) (h : hc_H) (C S : Nat), p_Function_isGoneTo_2 x0 x1 kx fu v2 h = some (b, C, S, h2) → hj_J p l e { frames := 1, cells := C0, slots := S0, locals := 20 } s m args below meth c (gg D dA) h0 3 (hj_Q below args s { frames := 1, cells := C0, slots := S0, locals := 20 } (gg D dA) h0 (some (vi_ b)) h2) C S h 2 [(0, vr_ x0), (1, vi_ x1), (2, vi_ v2)] [] := by
  intro fu
  induction fu with
  | zero =>
    intro v2 h C S hr
    cases hr
  | succ fu ih =>
    intro v2 h C S hr
    rw [p_Function_isGoneTo_2] at hr
    refine hj_iload_n hC 2 d_Function_isGoneTo_2 rfl rfl ?_
    refine hj_aload_n hC 0 d_Function_isGoneTo_3 rfl rfl ?_
    refine hj_geti hC cf_Function (k := 4) (by decide) wq_24 rfl d_Function_isGoneTo_4 hr (fun a1 hr => ?_)
    refine hj_icmp_ge hC 40 d_Function_isGoneTo_7 (by decide) hr (fun q7 hr => ?_) (fun q7 hr => ?_)
    · refine hj_sub (lv' := [(0, vr_ x0), (1, vi_ x1)]) [0, 1] rfl ?_
      exact hk _ _ _ hr
    · refine hj_aload_n hC 0 d_Function_isGoneTo_10 rfl rfl ?_
      refine hj_getr hC cf_Function (k := 6) (by decide) wq_18 rfl d_Function_isGoneTo_11 hr (fun a2 hr => ?_)
      refine hj_iload_n hC 2 d_Function_isGoneTo_14 rfl rfl ?_
      refine hj_iald hC (kd := 0) rfl d_Function_isGoneTo_15 hr (fun a3 hr => ?_)
      refine hj_callS hC hG (enc := (fun a : Int32 => some (vi_ a))) (As := [vi_ a3]) (st := []) (fun h a C S h1 hr => m_Kinds_goesToPlace _ h a C S h1 hr) wq_346 wq_264 wq_139 wq_255 yk_Kinds_goesToPlace rfl ⟨Nat.le_of_ble_eq_true rfl, Nat.le_of_ble_eq_true rfl⟩ rfl (Nat.le_of_ble_eq_true rfl) d_Function_isGoneTo_16 hr (fun a4 h C S hr => ?_)
      refine hj_jn hC (K := hM Int32) (fun k => ∀  (h : hc_H) (C S : Nat), k  h = some (b, C, S, h2) → hj_J p l e { frames := 1, cells := C0, slots := S0, locals := 20 } s m args below meth c (gg D dA) h0 3 (hj_Q below args s { frames := 1, cells := C0, slots := S0, locals := 20 } (gg D dA) h0 (some (vi_ b)) h2) C S h 34 [(0, vr_ x0), (1, vi_ x1), (2, vi_ v2)] []) hr (fun  h C S hr => ?_) (fun k34 hk34 hr => ?_)
      · refine hj_iinc hC (lv' := [(2, vi_ (v2 + 1)), (0, vr_ x0), (1, vi_ x1)]) 2 d_Function_isGoneTo_34 rfl rfl (by decide) rfl ?_
        refine hj_goto hC 2 d_Function_isGoneTo_37 (by decide) ?_
        refine hj_sub (lv' := [(0, vr_ x0), (1, vi_ x1), (2, vi_ (v2 + 1))]) [1, 2, 0] rfl ?_
        exact ih _ _ _ _ hr
      · refine hj_if_eq hC 34 d_Function_isGoneTo_19 (by decide) hr (fun q19 hr => ?_) (fun q19 hr => ?_)
        · exact hk34 _ _ _ hr
        · refine hj_aload_n hC 0 d_Function_isGoneTo_22 rfl rfl ?_
          refine hj_getr hC cf_Function (k := 7) (by decide) wq_19 rfl d_Function_isGoneTo_23 hr (fun a5 hr => ?_)
          refine hj_iload_n hC 2 d_Function_isGoneTo_26 rfl rfl ?_
          refine hj_iald hC (kd := 1) rfl d_Function_isGoneTo_27 hr (fun a6 hr => ?_)
          refine hj_iload_n hC 1 d_Function_isGoneTo_28 rfl rfl ?_
          refine hj_icmp_ne hC 34 d_Function_isGoneTo_29 (by decide) hr (fun q29 hr => ?_) (fun q29 hr => ?_)
          · exact hk34 _ _ _ hr
          · refine hj_iconst hC (v := 1) d_Function_isGoneTo_32 (by decide) ?_
            exact hj_zret hC d_Function_isGoneTo_33 hr
set_option maxHeartbeats 4000000 in
set_option maxRecDepth 100000 in
theorem ml_Function_isGoneTo_42 {p : Program} {l : Launch} {e : Env} {s : State} {m : MethodId} {args : Array Value} {below : List Frame} {meth : Method} {c : Code} {D : va_G} {dA : Nat → ClassId} {h0 h2 : hc_H} {C0 S0 : Nat} {b : Int32} (hC : hj_C p s m args meth c (gg D dA) b_Function_isGoneTo 3 (some .boolean) R_Function "isGoneTo" tb) (x0 : Option Nat) (x1 : Int32) (kx : hM Int32) (hk : ∀  (h : hc_H) (C S : Nat), kx  h = some (b, C, S, h2) → hj_J p l e { frames := 1, cells := C0, slots := S0, locals := 20 } s m args below meth c (gg D dA) h0 3 (hj_Q below args s { frames := 1, cells := C0, slots := S0, locals := 20 } (gg D dA) h0 (some (vi_ b)) h2) C S h 71 [] []) : ∀ (fu : Nat) (v2 : Int32) (h : hc_H) (C S : Nat), p_Function_isGoneTo_42 x0 x1 kx fu v2 h = some (b, C, S, h2) → hj_J p l e { frames := 1, cells := C0, slots := S0, locals := 20 } s m args below meth c (gg D dA) h0 3 (hj_Q below args s { frames := 1, cells := C0, slots := S0, locals := 20 } (gg D dA) h0 (some (vi_ b)) h2) C S h 42 [(0, vr_ x0), (1, vi_ x1), (2, vi_ v2)] [] := by
  intro fu
  induction fu with
  | zero =>
    intro v2 h C S hr
    cases hr
  | succ fu ih =>
    intro v2 h C S hr
    rw [p_Function_isGoneTo_42] at hr
    refine hj_iload_n hC 2 d_Function_isGoneTo_42 rfl rfl ?_
    refine hj_aload_n hC 0 d_Function_isGoneTo_43 rfl rfl ?_
    refine hj_geti hC cf_Function (k := 5) (by decide) wq_314 rfl d_Function_isGoneTo_44 hr (fun a7 hr => ?_)
    refine hj_icmp_ge hC 71 d_Function_isGoneTo_47 (by decide) hr (fun q47 hr => ?_) (fun q47 hr => ?_)
    · refine hj_sub (lv' := []) [] rfl ?_
      exact hk _ _ _ hr
    · refine hj_aload_n hC 0 d_Function_isGoneTo_50 rfl rfl ?_
      refine hj_getr hC cf_Function (k := 10) (by decide) wq_23 rfl d_Function_isGoneTo_51 hr (fun a8 hr => ?_)
      refine hj_iload_n hC 2 d_Function_isGoneTo_54 rfl rfl ?_
      refine hj_aald hC (kd := 9) rfl d_Function_isGoneTo_55 hr (fun a9 hr => ?_)
      refine hj_geti hC cf_Handler (k := 2) (by decide) wq_347 rfl d_Function_isGoneTo_56 hr (fun a10 hr => ?_)
      refine hj_iload_n hC 1 d_Function_isGoneTo_59 rfl rfl ?_
      refine hj_icmp_ne hC 65 d_Function_isGoneTo_60 (by decide) hr (fun q60 hr => ?_) (fun q60 hr => ?_)
      · refine hj_iinc hC (lv' := [(2, vi_ (v2 + 1)), (0, vr_ x0), (1, vi_ x1)]) 2 d_Function_isGoneTo_65 rfl rfl (by decide) rfl ?_
        refine hj_goto hC 42 d_Function_isGoneTo_68 (by decide) ?_
        refine hj_sub (lv' := [(0, vr_ x0), (1, vi_ x1), (2, vi_ (v2 + 1))]) [1, 2, 0] rfl ?_
        exact ih _ _ _ _ hr
      · refine hj_iconst hC (v := 1) d_Function_isGoneTo_63 (by decide) ?_
        exact hj_zret hC d_Function_isGoneTo_64 hr
set_option maxHeartbeats 4000000 in
set_option maxRecDepth 100000 in
theorem m_Function_isGoneTo {l : Launch} {D : va_G} {dA : Nat → ClassId} (o : Option Nat) (x1 : Int32) (h0 : hc_H) (b : Int32) (C0 S0 : Nat) (h2 : hc_H) (hr : p_Function_isGoneTo o x1 h0 = some (b, C0, S0, h2)) : hc_Met l (gg D dA) y_Function_isGoneTo b_Function_isGoneTo 3 (some .boolean) tb 1 20 [vr_ o, vi_ x1] h0 C0 S0 (some (vi_ b)) h2 := by
  refine hc_Met.of (by decide) (Nat.le_of_ble_eq_true rfl) ?_
  intro p e s m args below meth c hC
  unfold p_Function_isGoneTo at hr
  refine hj_sub (lv' := [(0, vr_ o), (1, vi_ x1)]) [0, 1] rfl ?_
  refine hj_iconst hC (v := 0) d_Function_isGoneTo_0 (by decide) ?_
  refine hj_istore_n hC (lv' := [(2, vi_ 0), (0, vr_ o), (1, vi_ x1)]) d_Function_isGoneTo_1 rfl (by decide) rfl ?_
  refine hj_sub (lv' := [(0, vr_ o), (1, vi_ x1), (2, vi_ 0)]) [1, 2, 0] rfl ?_
  refine ml_Function_isGoneTo_2 hC _ _ _ (fun  h C S hr => ?_) _ _ _ _ _ hr
  refine hj_iconst hC (v := 0) d_Function_isGoneTo_40 (by decide) ?_
  refine hj_istore_n hC (lv' := [(2, vi_ 0), (0, vr_ o), (1, vi_ x1)]) d_Function_isGoneTo_41 rfl (by decide) rfl ?_
  refine hj_sub (lv' := [(0, vr_ o), (1, vi_ x1), (2, vi_ 0)]) [1, 2, 0] rfl ?_
  refine ml_Function_isGoneTo_42 hC _ _ _ (fun  h C S hr => ?_) _ _ _ _ _ hr
  refine hj_iconst hC (v := 0) d_Function_isGoneTo_71 (by decide) ?_
  exact hj_zret hC d_Function_isGoneTo_72 hr
set_option maxHeartbeats 4000000 in
set_option maxRecDepth 100000 in
theorem m_SB_code {l : Launch} {D : va_G} {dA : Nat → ClassId} (o : Option Nat) (x1 : Int32) (x2 : Int32) (x3 : Int32) (h0 : hc_H) (b : Int32) (C0 S0 : Nat) (h2 : hc_H) (hr : p_SB_code o x1 x2 x3 h0 = some (b, C0, S0, h2)) : hc_Met l (gg D dA) y_SB_code b_SB_code 5 (some .int) tb 2 42 [vr_ o, vi_ x1, vi_ x2, vi_ x3] h0 C0 S0 (some (vi_ b)) h2 := by
  refine hc_Met.of (by decide) (Nat.le_of_ble_eq_true rfl) ?_
  intro p e s m args below meth c hC
  unfold p_SB_code at hr
  refine hj_sub (lv' := [(0, vr_ o), (1, vi_ x1), (2, vi_ x2), (3, vi_ x3)]) [0, 1, 2, 3] rfl ?_
  refine hj_aload_n hC 0 d_SB_code_0 rfl rfl ?_
  refine hj_getr hC cf_SB (k := 4) (by decide) wq_59 rfl d_SB_code_1 hr (fun a1 hr => ?_)
  refine hj_iload_n hC 1 d_SB_code_4 rfl rfl ?_
  refine hj_callV hC hG (enc := (fun a : Option Nat => some (vr_ a))) (As := [vi_ x1]) (st := []) (fun h a C S h1 hr => m_Program_at _ _ h a C S h1 hr) cf_Program wq_345 wq_228 wq_229 wq_57 wq_222 yk_Program_at rfl ⟨Nat.le_of_ble_eq_true rfl, Nat.le_of_ble_eq_true rfl⟩ rfl (Nat.le_of_ble_eq_true rfl) d_SB_code_5 hr (fun a2 h C S hr => ?_)
  refine hj_astore hC (lv' := [(4, vr_ a2), (0, vr_ o), (1, vi_ x1), (2, vi_ x2), (3, vi_ x3)]) d_SB_code_8 (by decide) rfl ?_
  refine hj_aload hC 0 d_SB_code_10 rfl ?_
  refine hj_ifnull hC 24 d_SB_code_12 (by decide) hr (fun q12 hr => ?_) (fun q12 hr => ?_)
  · refine hj_iconst hC (v := 0) d_SB_code_24 (by decide) ?_
    exact hj_iret hC d_SB_code_25 hr
  · refine hj_aload hC 0 d_SB_code_15 rfl ?_
    refine hj_iload_n hC 3 d_SB_code_17 rfl rfl ?_
    refine hj_callV hC hG (enc := (fun a : Int32 => some (vi_ a))) (As := [vi_ x2]) (st := []) (fun h a C S h1 hr => m_Function_has _ _ h a C S h1 hr) cf_Function wq_344 wq_184 wq_185 wq_33 wq_178 yk_Function_has rfl ⟨Nat.le_of_ble_eq_true rfl, Nat.le_of_ble_eq_true rfl⟩ rfl (Nat.le_of_ble_eq_true rfl) d_SB_code_18 hr (fun a3 h C S hr => ?_)
    refine hj_if_ne hC 26 d_SB_code_21 (by decide) hr (fun q21 hr => ?_) (fun q21 hr => ?_)
    · refine hj_iload_n hC 4 d_SB_code_26 rfl rfl ?_
      by_cases s27_0 : x3 = 0
      · rw [if_pos s27_0] at hr
        refine hj_tableIn hC 60 d_SB_code_27 (by rw [s27_0]; decide) (by rw [s27_0]; decide) (by rw [s27_0]; rfl) (by decide) ?_
        refine hj_aload hC 0 d_SB_code_60 rfl ?_
        refine hj_getr hC cf_Function (k := 6) (by decide) wq_340 rfl d_SB_code_62 hr (fun a4 hr => ?_)
        refine hj_iload_n hC 3 d_SB_code_65 rfl rfl ?_
        refine hj_iald hC (kd := 0) rfl d_SB_code_66 hr (fun a5 hr => ?_)
        exact hj_iret hC d_SB_code_67 hr
      · rw [if_neg s27_0] at hr
        by_cases s27_1 : x3 = 1
        · rw [if_pos s27_1] at hr
          refine hj_tableIn hC 68 d_SB_code_27 (by rw [s27_1]; decide) (by rw [s27_1]; decide) (by rw [s27_1]; rfl) (by decide) ?_
          refine hj_aload hC 0 d_SB_code_68 rfl ?_
          refine hj_getr hC cf_Function (k := 7) (by decide) wq_341 rfl d_SB_code_70 hr (fun a6 hr => ?_)
          refine hj_iload_n hC 3 d_SB_code_73 rfl rfl ?_
          refine hj_iald hC (kd := 1) rfl d_SB_code_74 hr (fun a7 hr => ?_)
          exact hj_iret hC d_SB_code_75 hr
        · rw [if_neg s27_1] at hr
          by_cases s27_2 : x3 = 2
          · rw [if_pos s27_2] at hr
            refine hj_tableIn hC 76 d_SB_code_27 (by rw [s27_2]; decide) (by rw [s27_2]; decide) (by rw [s27_2]; rfl) (by decide) ?_
            refine hj_aload hC 0 d_SB_code_76 rfl ?_
            refine hj_getr hC cf_Function (k := 8) (by decide) wq_348 rfl d_SB_code_78 hr (fun a8 hr => ?_)
            refine hj_iload_n hC 3 d_SB_code_81 rfl rfl ?_
            refine hj_iald hC (kd := 2) rfl d_SB_code_82 hr (fun a9 hr => ?_)
            exact hj_iret hC d_SB_code_83 hr
          · rw [if_neg s27_2] at hr
            by_cases s27_3 : x3 = 3
            · rw [if_pos s27_3] at hr
              refine hj_tableIn hC 84 d_SB_code_27 (by rw [s27_3]; decide) (by rw [s27_3]; decide) (by rw [s27_3]; rfl) (by decide) ?_
              refine hj_aload hC 0 d_SB_code_84 rfl ?_
              refine hj_getr hC cf_Function (k := 9) (by decide) wq_349 rfl d_SB_code_86 hr (fun a10 hr => ?_)
              refine hj_iload_n hC 3 d_SB_code_89 rfl rfl ?_
              refine hj_iald hC (kd := 3) rfl d_SB_code_90 hr (fun a11 hr => ?_)
              exact hj_iret hC d_SB_code_91 hr
            · rw [if_neg s27_3] at hr
              by_cases s27_4 : x3 = 4
              · rw [if_pos s27_4] at hr
                refine hj_tableIn hC 92 d_SB_code_27 (by rw [s27_4]; decide) (by rw [s27_4]; decide) (by rw [s27_4]; rfl) (by decide) ?_
                refine hj_aload hC 0 d_SB_code_92 rfl ?_
                refine hj_iload_n hC 3 d_SB_code_94 rfl rfl ?_
                refine hj_callV hC hG (enc := (fun a : Int32 => some (vi_ a))) (As := [vi_ x2]) (st := []) (fun h a C S h1 hr => m_Function_isGoneTo _ _ h a C S h1 hr) cf_Function wq_351 wq_352 wq_353 wq_33 wq_350 yk_Function_isGoneTo rfl ⟨Nat.le_of_ble_eq_true rfl, Nat.le_of_ble_eq_true rfl⟩ rfl (Nat.le_of_ble_eq_true rfl) d_SB_code_95 hr (fun a12 h C S hr => ?_)
                refine hj_if_eq hC 105 d_SB_code_98 (by decide) hr (fun q98 hr => ?_) (fun q98 hr => ?_)
                · refine hj_iconst hC (v := 0) d_SB_code_105 (by decide) ?_
                  exact hj_iret hC d_SB_code_106 hr
                · refine hj_iconst hC (v := 1) d_SB_code_101 (by decide) ?_
                  refine hj_goto hC 106 d_SB_code_102 (by decide) ?_
                  exact hj_iret hC d_SB_code_106 hr
              · rw [if_neg s27_4] at hr
                have e0 := lv_neT s27_0 (a := 0) (by decide)
                have e1 := lv_neT s27_1 (a := 1) (by decide)
                have e2 := lv_neT s27_2 (a := 2) (by decide)
                have e3 := lv_neT s27_3 (a := 3) (by decide)
                have e4 := lv_neT s27_4 (a := 4) (by decide)
                refine hj_tableOut hC 107 d_SB_code_27 (by omega) (by decide) ?_
                refine hj_iconst hC (v := 0) d_SB_code_107 (by decide) ?_
                exact hj_iret hC d_SB_code_108 hr
    · refine hj_iconst hC (v := 0) d_SB_code_24 (by decide) ?_
      exact hj_iret hC d_SB_code_25 hr
set_option maxHeartbeats 4000000 in
set_option maxRecDepth 100000 in
theorem ml_Function_comeTo_4 {p : Program} {l : Launch} {e : Env} {s : State} {m : MethodId} {args : Array Value} {below : List Frame} {meth : Method} {c : Code} {D : va_G} {dA : Nat → ClassId} {h0 h2 : hc_H} {C0 S0 : Nat} {b : Int32} (hC : hj_C p s m args meth c (gg D dA) b_Function_comeTo 3 (some .int) R_Function "comeTo" tb) (x0 : Option Nat) (kx : Int32 → hM Int32) (hk : ∀ (v1 : Int32) (h : hc_H) (C S : Nat), kx v1 h = some (b, C, S, h2) → hj_J p l e { frames := 0, cells := C0, slots := S0, locals := 0 } s m args below meth c (gg D dA) h0 3 (hj_Q below args s { frames := 0, cells := C0, slots := S0, locals := 0 } (gg D dA) h0 (some (vi_ b)) h2) C S h 31 [(1, vi_ v1)] []) : ∀ (fu : Nat) (v1 : Int32) (v2 : Int32) (h : hc_H) (C S : Nat), p_Function_comeTo_4 x0 kx fu v1 v2 h = some (b, C, S, h2) → hj_J p l e { frames := 0, cells := C0, slots := S0, locals := 0 } s m args below meth c (gg D dA) h0 3 (hj_Q below args s { frames := 0, cells := C0, slots := S0, locals := 0 } (gg D dA) h0 (some (vi_ b)) h2) C S h 4 [(0, vr_ x0), (1, vi_ v1), (2, vi_ v2)] [] := by
  intro fu
  induction fu with
  | zero =>
    intro v1 v2 h C S hr
    cases hr
  | succ fu ih =>
    intro v1 v2 h C S hr
    rw [p_Function_comeTo_4] at hr
    refine hj_iload_n hC 2 d_Function_comeTo_4 rfl rfl ?_
    refine hj_aload_n hC 0 d_Function_comeTo_5 rfl rfl ?_
    refine hj_geti hC cf_Function (k := 4) (by decide) wq_24 rfl d_Function_comeTo_6 hr (fun a1 hr => ?_)
    refine hj_icmp_ge hC 31 d_Function_comeTo_9 (by decide) hr (fun q9 hr => ?_) (fun q9 hr => ?_)
    · refine hj_sub (lv' := [(1, vi_ v1)]) [1] rfl ?_
      exact hk _ _ _ _ hr
    · refine hj_aload_n hC 0 d_Function_comeTo_12 rfl rfl ?_
      refine hj_getr hC cf_Function (k := 8) (by decide) wq_20 rfl d_Function_comeTo_13 hr (fun a2 hr => ?_)
      refine hj_iload_n hC 2 d_Function_comeTo_16 rfl rfl ?_
      refine hj_iald hC (kd := 2) rfl d_Function_comeTo_17 hr (fun a3 hr => ?_)
      refine hj_iconst hC (v := (-1)) d_Function_comeTo_18 (by decide) ?_
      refine hj_jn hC (K := Int32 → hM Int32) (fun k => ∀ (w1_4 : Int32) (h : hc_H) (C S : Nat), k w1_4 h = some (b, C, S, h2) → hj_J p l e { frames := 0, cells := C0, slots := S0, locals := 0 } s m args below meth c (gg D dA) h0 3 (hj_Q below args s { frames := 0, cells := C0, slots := S0, locals := 0 } (gg D dA) h0 (some (vi_ b)) h2) C S h 25 [(0, vr_ x0), (1, vi_ w1_4), (2, vi_ v2)] []) hr (fun w1_4 h C S hr => ?_) (fun k25 hk25 hr => ?_)
      · refine hj_iinc hC (lv' := [(2, vi_ (v2 + 1)), (0, vr_ x0), (1, vi_ w1_4)]) 2 d_Function_comeTo_25 rfl rfl (by decide) rfl ?_
        refine hj_goto hC 4 d_Function_comeTo_28 (by decide) ?_
        refine hj_sub (lv' := [(0, vr_ x0), (1, vi_ w1_4), (2, vi_ (v2 + 1))]) [1, 2, 0] rfl ?_
        exact ih _ _ _ _ _ hr
      · refine hj_icmp_eq hC 25 d_Function_comeTo_19 (by decide) hr (fun q19 hr => ?_) (fun q19 hr => ?_)
        · exact hk25 _ _ _ _ hr
        · refine hj_iinc hC (lv' := [(1, vi_ (v1 + 1)), (0, vr_ x0), (2, vi_ v2)]) 1 d_Function_comeTo_22 rfl rfl (by decide) rfl ?_
          refine hj_sub (lv' := [(0, vr_ x0), (1, vi_ (v1 + 1)), (2, vi_ v2)]) [1, 0, 2] rfl ?_
          exact hk25 _ _ _ _ hr
set_option maxHeartbeats 4000000 in
set_option maxRecDepth 100000 in
theorem m_Function_comeTo {l : Launch} {D : va_G} {dA : Nat → ClassId} (o : Option Nat) (h0 : hc_H) (b : Int32) (C0 S0 : Nat) (h2 : hc_H) (hr : p_Function_comeTo o h0 = some (b, C0, S0, h2)) : hc_Met l (gg D dA) y_Function_comeTo b_Function_comeTo 3 (some .int) tb 0 0 [vr_ o] h0 C0 S0 (some (vi_ b)) h2 := by
  refine hc_Met.of (by decide) (Nat.le_of_ble_eq_true rfl) ?_
  intro p e s m args below meth c hC
  unfold p_Function_comeTo at hr
  refine hj_sub (lv' := [(0, vr_ o)]) [0] rfl ?_
  refine hj_iconst hC (v := 0) d_Function_comeTo_0 (by decide) ?_
  refine hj_istore_n hC (lv' := [(1, vi_ 0), (0, vr_ o)]) d_Function_comeTo_1 rfl (by decide) rfl ?_
  refine hj_iconst hC (v := 0) d_Function_comeTo_2 (by decide) ?_
  refine hj_istore_n hC (lv' := [(2, vi_ 0), (1, vi_ 0), (0, vr_ o)]) d_Function_comeTo_3 rfl (by decide) rfl ?_
  refine hj_sub (lv' := [(0, vr_ o), (1, vi_ 0), (2, vi_ 0)]) [2, 1, 0] rfl ?_
  refine ml_Function_comeTo_4 hC _ _ (fun v1_5 h C S hr => ?_) _ _ _ _ _ _ hr
  refine hj_iload_n hC 0 d_Function_comeTo_31 rfl rfl ?_
  exact hj_iret hC d_Function_comeTo_32 hr
set_option maxHeartbeats 4000000 in
set_option maxRecDepth 100000 in
theorem ml_Function_deepest_4 {p : Program} {l : Launch} {e : Env} {s : State} {m : MethodId} {args : Array Value} {below : List Frame} {meth : Method} {c : Code} {D : va_G} {dA : Nat → ClassId} {h0 h2 : hc_H} {C0 S0 : Nat} {b : Int32} (hC : hj_C p s m args meth c (gg D dA) b_Function_deepest 3 (some .int) R_Function "deepest" tb) (x0 : Option Nat) (kx : Int32 → hM Int32) (hk : ∀ (v1 : Int32) (h : hc_H) (C S : Nat), kx v1 h = some (b, C, S, h2) → hj_J p l e { frames := 1, cells := C0, slots := S0, locals := 21 } s m args below meth c (gg D dA) h0 3 (hj_Q below args s { frames := 1, cells := C0, slots := S0, locals := 21 } (gg D dA) h0 (some (vi_ b)) h2) C S h 29 [(1, vi_ v1)] []) : ∀ (fu : Nat) (v1 : Int32) (v2 : Int32) (h : hc_H) (C S : Nat), p_Function_deepest_4 x0 kx fu v1 v2 h = some (b, C, S, h2) → hj_J p l e { frames := 1, cells := C0, slots := S0, locals := 21 } s m args below meth c (gg D dA) h0 3 (hj_Q below args s { frames := 1, cells := C0, slots := S0, locals := 21 } (gg D dA) h0 (some (vi_ b)) h2) C S h 4 [(0, vr_ x0), (1, vi_ v1), (2, vi_ v2)] [] := by
  intro fu
  induction fu with
  | zero =>
    intro v1 v2 h C S hr
    cases hr
  | succ fu ih =>
    intro v1 v2 h C S hr
    rw [p_Function_deepest_4] at hr
    refine hj_iload_n hC 2 d_Function_deepest_4 rfl rfl ?_
    refine hj_aload_n hC 0 d_Function_deepest_5 rfl rfl ?_
    refine hj_geti hC cf_Function (k := 4) (by decide) wq_24 rfl d_Function_deepest_6 hr (fun a1 hr => ?_)
    refine hj_icmp_ge hC 29 d_Function_deepest_9 (by decide) hr (fun q9 hr => ?_) (fun q9 hr => ?_)
    · refine hj_sub (lv' := [(1, vi_ v1)]) [1] rfl ?_
      exact hk _ _ _ _ hr
    · refine hj_iload_n hC 1 d_Function_deepest_12 rfl rfl ?_
      refine hj_aload_n hC 0 d_Function_deepest_13 rfl rfl ?_
      refine hj_getr hC cf_Function (k := 8) (by decide) wq_20 rfl d_Function_deepest_14 hr (fun a2 hr => ?_)
      refine hj_iload_n hC 2 d_Function_deepest_17 rfl rfl ?_
      refine hj_iald hC (kd := 2) rfl d_Function_deepest_18 hr (fun a3 hr => ?_)
      refine hj_mmax hC wq_354 wq_78 wq_70 wq_79 (Nat.le_of_ble_eq_true rfl) (Nat.le_of_ble_eq_true rfl) d_Function_deepest_19 ?_
      refine hj_istore_n hC (lv' := [(1, vi_ (if v1 < a3 then a3 else v1)), (0, vr_ x0), (2, vi_ v2)]) d_Function_deepest_22 rfl (by decide) rfl ?_
      refine hj_iinc hC (lv' := [(2, vi_ (v2 + 1)), (1, vi_ (if v1 < a3 then a3 else v1)), (0, vr_ x0)]) 2 d_Function_deepest_23 rfl rfl (by decide) rfl ?_
      refine hj_goto hC 4 d_Function_deepest_26 (by decide) ?_
      refine hj_sub (lv' := [(0, vr_ x0), (1, vi_ (if v1 < a3 then a3 else v1)), (2, vi_ (v2 + 1))]) [2, 1, 0] rfl ?_
      exact ih _ _ _ _ _ hr
set_option maxHeartbeats 4000000 in
set_option maxRecDepth 100000 in
theorem m_Function_deepest {l : Launch} {D : va_G} {dA : Nat → ClassId} (o : Option Nat) (h0 : hc_H) (b : Int32) (C0 S0 : Nat) (h2 : hc_H) (hr : p_Function_deepest o h0 = some (b, C0, S0, h2)) : hc_Met l (gg D dA) y_Function_deepest b_Function_deepest 3 (some .int) tb 1 21 [vr_ o] h0 C0 S0 (some (vi_ b)) h2 := by
  refine hc_Met.of (by decide) (Nat.le_of_ble_eq_true rfl) ?_
  intro p e s m args below meth c hC
  unfold p_Function_deepest at hr
  refine hj_sub (lv' := [(0, vr_ o)]) [0] rfl ?_
  refine hj_iconst hC (v := 0) d_Function_deepest_0 (by decide) ?_
  refine hj_istore_n hC (lv' := [(1, vi_ 0), (0, vr_ o)]) d_Function_deepest_1 rfl (by decide) rfl ?_
  refine hj_iconst hC (v := 0) d_Function_deepest_2 (by decide) ?_
  refine hj_istore_n hC (lv' := [(2, vi_ 0), (1, vi_ 0), (0, vr_ o)]) d_Function_deepest_3 rfl (by decide) rfl ?_
  refine hj_sub (lv' := [(0, vr_ o), (1, vi_ 0), (2, vi_ 0)]) [2, 1, 0] rfl ?_
  refine ml_Function_deepest_4 hC _ _ (fun v1_4 h C S hr => ?_) _ _ _ _ _ _ hr
  refine hj_iload_n hC 0 d_Function_deepest_29 rfl rfl ?_
  exact hj_iret hC d_Function_deepest_30 hr
