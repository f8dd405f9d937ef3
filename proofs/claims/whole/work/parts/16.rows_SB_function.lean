theorem d_SB_function_0 : decode b_SB_function 0 = .ok (.aload_n 0, 1) := by decide +kernel
theorem d_SB_function_1 : decode b_SB_function 1 = .ok (.getfield 38, 3) := by decide +kernel
theorem d_SB_function_4 : decode b_SB_function 4 = .ok (.iload_n 1, 1) := by decide +kernel
theorem d_SB_function_5 : decode b_SB_function 5 = .ok (.invokevirtual 89, 3) := by decide +kernel
theorem d_SB_function_8 : decode b_SB_function 8 = .ok (.astore_n 3, 1) := by decide +kernel
theorem d_SB_function_9 : decode b_SB_function 9 = .ok (.aload_n 3, 1) := by decide +kernel
theorem d_SB_function_10 : decode b_SB_function 10 = .ok (.ifnonnull 5, 3) := by decide +kernel
theorem d_SB_function_13 : decode b_SB_function 13 = .ok (.iconst (-1), 1) := by decide +kernel
theorem d_SB_function_14 : decode b_SB_function 14 = .ok (.ireturn, 1) := by decide +kernel
theorem d_SB_function_15 : decode b_SB_function 15 = .ok (.iload_n 2, 1) := by decide +kernel
theorem d_SB_function_16 : decode b_SB_function 16 = .ok (.tableswitch 88 0 7 #[48, 53, 58, 63, 68, 73, 78, 83], 48) := by decide +kernel
theorem d_SB_function_64 : decode b_SB_function 64 = .ok (.aload_n 3, 1) := by decide +kernel
theorem d_SB_function_65 : decode b_SB_function 65 = .ok (.getfield 124, 3) := by decide +kernel
theorem d_SB_function_68 : decode b_SB_function 68 = .ok (.ireturn, 1) := by decide +kernel
theorem d_SB_function_69 : decode b_SB_function 69 = .ok (.aload_n 3, 1) := by decide +kernel
theorem d_SB_function_70 : decode b_SB_function 70 = .ok (.getfield 127, 3) := by decide +kernel
theorem d_SB_function_73 : decode b_SB_function 73 = .ok (.ireturn, 1) := by decide +kernel
theorem d_SB_function_74 : decode b_SB_function 74 = .ok (.aload_n 3, 1) := by decide +kernel
theorem d_SB_function_75 : decode b_SB_function 75 = .ok (.getfield 130, 3) := by decide +kernel
theorem d_SB_function_78 : decode b_SB_function 78 = .ok (.ireturn, 1) := by decide +kernel
theorem d_SB_function_79 : decode b_SB_function 79 = .ok (.aload_n 3, 1) := by decide +kernel
theorem d_SB_function_80 : decode b_SB_function 80 = .ok (.getfield 133, 3) := by decide +kernel
theorem d_SB_function_83 : decode b_SB_function 83 = .ok (.ireturn, 1) := by decide +kernel
theorem d_SB_function_84 : decode b_SB_function 84 = .ok (.aload_n 3, 1) := by decide +kernel
theorem d_SB_function_85 : decode b_SB_function 85 = .ok (.getfield 136, 3) := by decide +kernel
theorem d_SB_function_88 : decode b_SB_function 88 = .ok (.ireturn, 1) := by decide +kernel
theorem d_SB_function_89 : decode b_SB_function 89 = .ok (.aload_n 3, 1) := by decide +kernel
theorem d_SB_function_90 : decode b_SB_function 90 = .ok (.getfield 137, 3) := by decide +kernel
theorem d_SB_function_93 : decode b_SB_function 93 = .ok (.ireturn, 1) := by decide +kernel
theorem d_SB_function_94 : decode b_SB_function 94 = .ok (.aload_n 3, 1) := by decide +kernel
theorem d_SB_function_95 : decode b_SB_function 95 = .ok (.invokevirtual 140, 3) := by decide +kernel
theorem d_SB_function_98 : decode b_SB_function 98 = .ok (.ireturn, 1) := by decide +kernel
theorem d_SB_function_99 : decode b_SB_function 99 = .ok (.aload_n 3, 1) := by decide +kernel
theorem d_SB_function_100 : decode b_SB_function 100 = .ok (.invokevirtual 144, 3) := by decide +kernel
theorem d_SB_function_103 : decode b_SB_function 103 = .ok (.ireturn, 1) := by decide +kernel
theorem d_SB_function_104 : decode b_SB_function 104 = .ok (.iconst (-1), 1) := by decide +kernel
theorem d_SB_function_105 : decode b_SB_function 105 = .ok (.ireturn, 1) := by decide +kernel
theorem d_SB_handler_0 : decode b_SB_handler 0 = .ok (.aload_n 0, 1) := by decide +kernel
theorem d_SB_handler_1 : decode b_SB_handler 1 = .ok (.getfield 38, 3) := by decide +kernel
theorem d_SB_handler_4 : decode b_SB_handler 4 = .ok (.iload_n 1, 1) := by decide +kernel
theorem d_SB_handler_5 : decode b_SB_handler 5 = .ok (.invokevirtual 89, 3) := by decide +kernel
theorem d_SB_handler_8 : decode b_SB_handler 8 = .ok (.astore 4, 2) := by decide +kernel
theorem d_SB_handler_10 : decode b_SB_handler 10 = .ok (.aload 4, 2) := by decide +kernel
theorem d_SB_handler_12 : decode b_SB_handler 12 = .ok (.ifnull 16, 3) := by decide +kernel
theorem d_SB_handler_15 : decode b_SB_handler 15 = .ok (.iload_n 2, 1) := by decide +kernel
theorem d_SB_handler_16 : decode b_SB_handler 16 = .ok (.ifCond .lt 12, 3) := by decide +kernel
theorem d_SB_handler_19 : decode b_SB_handler 19 = .ok (.iload_n 2, 1) := by decide +kernel
theorem d_SB_handler_20 : decode b_SB_handler 20 = .ok (.aload 4, 2) := by decide +kernel
theorem d_SB_handler_22 : decode b_SB_handler 22 = .ok (.getfield 137, 3) := by decide +kernel
theorem d_SB_handler_25 : decode b_SB_handler 25 = .ok (.if_icmp .lt 5, 3) := by decide +kernel
theorem d_SB_handler_28 : decode b_SB_handler 28 = .ok (.iconst 0, 1) := by decide +kernel
theorem d_SB_handler_29 : decode b_SB_handler 29 = .ok (.ireturn, 1) := by decide +kernel
theorem d_SB_handler_30 : decode b_SB_handler 30 = .ok (.aload 4, 2) := by decide +kernel
theorem d_SB_handler_32 : decode b_SB_handler 32 = .ok (.getfield 147, 3) := by decide +kernel
theorem d_SB_handler_35 : decode b_SB_handler 35 = .ok (.iload_n 2, 1) := by decide +kernel
theorem d_SB_handler_36 : decode b_SB_handler 36 = .ok (.aaload, 1) := by decide +kernel
theorem d_SB_handler_37 : decode b_SB_handler 37 = .ok (.astore 5, 2) := by decide +kernel
theorem d_SB_handler_39 : decode b_SB_handler 39 = .ok (.iload_n 3, 1) := by decide +kernel
theorem d_SB_handler_40 : decode b_SB_handler 40 = .ok (.tableswitch 74 0 4 #[36, 42, 48, 54, 68], 36) := by decide +kernel
theorem d_SB_handler_76 : decode b_SB_handler 76 = .ok (.aload 5, 2) := by decide +kernel
theorem d_SB_handler_78 : decode b_SB_handler 78 = .ok (.getfield 151, 3) := by decide +kernel
theorem d_SB_handler_81 : decode b_SB_handler 81 = .ok (.ireturn, 1) := by decide +kernel
theorem d_SB_handler_82 : decode b_SB_handler 82 = .ok (.aload 5, 2) := by decide +kernel
theorem d_SB_handler_84 : decode b_SB_handler 84 = .ok (.getfield 156, 3) := by decide +kernel
theorem d_SB_handler_87 : decode b_SB_handler 87 = .ok (.ireturn, 1) := by decide +kernel
theorem d_SB_handler_88 : decode b_SB_handler 88 = .ok (.aload 5, 2) := by decide +kernel
theorem d_SB_handler_90 : decode b_SB_handler 90 = .ok (.getfield 159, 3) := by decide +kernel
theorem d_SB_handler_93 : decode b_SB_handler 93 = .ok (.ireturn, 1) := by decide +kernel
theorem d_SB_handler_94 : decode b_SB_handler 94 = .ok (.aload 5, 2) := by decide +kernel
theorem d_SB_handler_96 : decode b_SB_handler 96 = .ok (.getfield 162, 3) := by decide +kernel
theorem d_SB_handler_99 : decode b_SB_handler 99 = .ok (.ifCond .eq 7, 3) := by decide +kernel
theorem d_SB_handler_102 : decode b_SB_handler 102 = .ok (.iconst 1, 1) := by decide +kernel
theorem d_SB_handler_103 : decode b_SB_handler 103 = .ok (.goto 4, 3) := by decide +kernel
theorem d_SB_handler_106 : decode b_SB_handler 106 = .ok (.iconst 0, 1) := by decide +kernel
theorem d_SB_handler_107 : decode b_SB_handler 107 = .ok (.ireturn, 1) := by decide +kernel
theorem d_SB_handler_108 : decode b_SB_handler 108 = .ok (.aload 5, 2) := by decide +kernel
theorem d_SB_handler_110 : decode b_SB_handler 110 = .ok (.getfield 166, 3) := by decide +kernel
theorem d_SB_handler_113 : decode b_SB_handler 113 = .ok (.ireturn, 1) := by decide +kernel
theorem d_SB_handler_114 : decode b_SB_handler 114 = .ok (.iconst 0, 1) := by decide +kernel
theorem d_SB_handler_115 : decode b_SB_handler 115 = .ok (.ireturn, 1) := by decide +kernel
theorem d_SB_byteAt_0 : decode b_SB_byteAt 0 = .ok (.iload_n 2, 1) := by decide +kernel
theorem d_SB_byteAt_1 : decode b_SB_byteAt 1 = .ok (.ifCond .eq 14, 3) := by decide +kernel
theorem d_SB_byteAt_4 : decode b_SB_byteAt 4 = .ok (.aload_n 0, 1) := by decide +kernel
theorem d_SB_byteAt_5 : decode b_SB_byteAt 5 = .ok (.getfield 14, 3) := by decide +kernel
theorem d_SB_byteAt_8 : decode b_SB_byteAt 8 = .ok (.iload_n 1, 1) := by decide +kernel
theorem d_SB_byteAt_9 : decode b_SB_byteAt 9 = .ok (.invokevirtual 169, 3) := by decide +kernel
theorem d_SB_byteAt_12 : decode b_SB_byteAt 12 = .ok (.goto 11, 3) := by decide +kernel
theorem d_SB_byteAt_15 : decode b_SB_byteAt 15 = .ok (.aload_n 0, 1) := by decide +kernel
theorem d_SB_byteAt_16 : decode b_SB_byteAt 16 = .ok (.getfield 18, 3) := by decide +kernel
theorem d_SB_byteAt_19 : decode b_SB_byteAt 19 = .ok (.iload_n 1, 1) := by decide +kernel
theorem d_SB_byteAt_20 : decode b_SB_byteAt 20 = .ok (.invokevirtual 169, 3) := by decide +kernel
theorem d_SB_byteAt_23 : decode b_SB_byteAt 23 = .ok (.ireturn, 1) := by decide +kernel
theorem d_Program_instructions_0 : decode b_Program_instructions 0 = .ok (.iconst 0, 1) := by decide +kernel
theorem d_Program_instructions_1 : decode b_Program_instructions 1 = .ok (.istore_n 1, 1) := by decide +kernel
theorem d_Program_instructions_2 : decode b_Program_instructions 2 = .ok (.iconst 0, 1) := by decide +kernel
theorem d_Program_instructions_3 : decode b_Program_instructions 3 = .ok (.istore_n 2, 1) := by decide +kernel
theorem d_Program_instructions_4 : decode b_Program_instructions 4 = .ok (.iload_n 2, 1) := by decide +kernel
theorem d_Program_instructions_5 : decode b_Program_instructions 5 = .ok (.aload_n 0, 1) := by decide +kernel
theorem d_Program_instructions_6 : decode b_Program_instructions 6 = .ok (.getfield 18, 3) := by decide +kernel
theorem d_Program_instructions_9 : decode b_Program_instructions 9 = .ok (.if_icmp .ge 21, 3) := by decide +kernel
theorem d_Program_instructions_12 : decode b_Program_instructions 12 = .ok (.iload_n 1, 1) := by decide +kernel
theorem d_Program_instructions_13 : decode b_Program_instructions 13 = .ok (.aload_n 0, 1) := by decide +kernel
theorem d_Program_instructions_14 : decode b_Program_instructions 14 = .ok (.getfield 11, 3) := by decide +kernel
theorem d_Program_instructions_17 : decode b_Program_instructions 17 = .ok (.iload_n 2, 1) := by decide +kernel
theorem d_Program_instructions_18 : decode b_Program_instructions 18 = .ok (.aaload, 1) := by decide +kernel
theorem d_Program_instructions_19 : decode b_Program_instructions 19 = .ok (.getfield 22, 3) := by decide +kernel
theorem d_Program_instructions_22 : decode b_Program_instructions 22 = .ok (.iadd, 1) := by decide +kernel
theorem d_Program_instructions_23 : decode b_Program_instructions 23 = .ok (.istore_n 1, 1) := by decide +kernel
theorem d_Program_instructions_24 : decode b_Program_instructions 24 = .ok (.iinc 2 1, 3) := by decide +kernel
theorem d_Program_instructions_27 : decode b_Program_instructions 27 = .ok (.goto (-23), 3) := by decide +kernel
theorem d_Program_instructions_30 : decode b_Program_instructions 30 = .ok (.iload_n 1, 1) := by decide +kernel
theorem d_Program_instructions_31 : decode b_Program_instructions 31 = .ok (.ireturn, 1) := by decide +kernel
theorem d_SB_look_0 : decode b_SB_look 0 = .ok (.iload_n 1, 1) := by decide +kernel
theorem d_SB_look_1 : decode b_SB_look 1 = .ok (.tableswitch 87 0 5 #[39, 47, 55, 63, 71, 79], 39) := by decide +kernel
theorem d_SB_look_40 : decode b_SB_look 40 = .ok (.aload_n 0, 1) := by decide +kernel
theorem d_SB_look_41 : decode b_SB_look 41 = .ok (.getfield 38, 3) := by decide +kernel
theorem d_SB_look_44 : decode b_SB_look 44 = .ok (.getfield 69, 3) := by decide +kernel
theorem d_SB_look_47 : decode b_SB_look 47 = .ok (.ireturn, 1) := by decide +kernel
theorem d_SB_look_48 : decode b_SB_look 48 = .ok (.aload_n 0, 1) := by decide +kernel
theorem d_SB_look_49 : decode b_SB_look 49 = .ok (.getfield 38, 3) := by decide +kernel
theorem d_SB_look_52 : decode b_SB_look 52 = .ok (.invokevirtual 172, 3) := by decide +kernel
theorem d_SB_look_55 : decode b_SB_look 55 = .ok (.ireturn, 1) := by decide +kernel
theorem d_SB_look_56 : decode b_SB_look 56 = .ok (.aload_n 0, 1) := by decide +kernel
theorem d_SB_look_57 : decode b_SB_look 57 = .ok (.getfield 14, 3) := by decide +kernel
theorem d_SB_look_60 : decode b_SB_look 60 = .ok (.getfield 84, 3) := by decide +kernel
theorem d_SB_look_63 : decode b_SB_look 63 = .ok (.ireturn, 1) := by decide +kernel
theorem d_SB_look_64 : decode b_SB_look 64 = .ok (.aload_n 0, 1) := by decide +kernel
theorem d_SB_look_65 : decode b_SB_look 65 = .ok (.getfield 18, 3) := by decide +kernel
theorem d_SB_look_68 : decode b_SB_look 68 = .ok (.getfield 84, 3) := by decide +kernel
theorem d_SB_look_71 : decode b_SB_look 71 = .ok (.ireturn, 1) := by decide +kernel
theorem d_SB_look_72 : decode b_SB_look 72 = .ok (.aload_n 0, 1) := by decide +kernel
theorem d_SB_look_73 : decode b_SB_look 73 = .ok (.getfield 24, 3) := by decide +kernel
theorem d_SB_look_76 : decode b_SB_look 76 = .ok (.getfield 73, 3) := by decide +kernel
theorem d_SB_look_79 : decode b_SB_look 79 = .ok (.ireturn, 1) := by decide +kernel
theorem d_SB_look_80 : decode b_SB_look 80 = .ok (.aload_n 0, 1) := by decide +kernel
theorem d_SB_look_81 : decode b_SB_look 81 = .ok (.getfield 24, 3) := by decide +kernel
theorem d_SB_look_84 : decode b_SB_look 84 = .ok (.getfield 175, 3) := by decide +kernel
theorem d_SB_look_87 : decode b_SB_look 87 = .ok (.ireturn, 1) := by decide +kernel
theorem d_SB_look_88 : decode b_SB_look 88 = .ok (.iconst (-1), 1) := by decide +kernel
theorem d_SB_look_89 : decode b_SB_look 89 = .ok (.ireturn, 1) := by decide +kernel
theorem d_Mo_wrong_0 : decode b_Mo_wrong 0 = .ok (.aload_n 0, 1) := by decide +kernel
theorem d_Mo_wrong_1 : decode b_Mo_wrong 1 = .ok (.getfield 79, 3) := by decide +kernel
theorem d_Mo_wrong_4 : decode b_Mo_wrong 4 = .ok (.ifCond .ne 13, 3) := by decide +kernel
theorem d_Mo_wrong_7 : decode b_Mo_wrong 7 = .ok (.aload_n 0, 1) := by decide +kernel
theorem d_Mo_wrong_8 : decode b_Mo_wrong 8 = .ok (.iload_n 1, 1) := by decide +kernel
theorem d_Mo_wrong_9 : decode b_Mo_wrong 9 = .ok (.putfield 79, 3) := by decide +kernel
theorem d_Mo_wrong_12 : decode b_Mo_wrong 12 = .ok (.aload_n 0, 1) := by decide +kernel
theorem d_Mo_wrong_13 : decode b_Mo_wrong 13 = .ok (.iload_n 2, 1) := by decide +kernel
theorem d_Mo_wrong_14 : decode b_Mo_wrong 14 = .ok (.putfield 82, 3) := by decide +kernel
theorem d_Mo_wrong_17 : decode b_Mo_wrong 17 = .ok (.return_, 1) := by decide +kernel
theorem d_Mo_comeTo_0 : decode b_Mo_comeTo 0 = .ok (.sipush 4800, 3) := by decide +kernel
theorem d_Mo_comeTo_3 : decode b_Mo_comeTo 3 = .ok (.iload_n 1, 1) := by decide +kernel
theorem d_Mo_comeTo_4 : decode b_Mo_comeTo 4 = .ok (.imul, 1) := by decide +kernel
theorem d_Mo_comeTo_5 : decode b_Mo_comeTo 5 = .ok (.sipush 400, 3) := by decide +kernel
theorem d_Mo_comeTo_8 : decode b_Mo_comeTo 8 = .ok (.iload_n 2, 1) := by decide +kernel
theorem d_Mo_comeTo_9 : decode b_Mo_comeTo 9 = .ok (.imul, 1) := by decide +kernel
theorem d_Mo_comeTo_10 : decode b_Mo_comeTo 10 = .ok (.iadd, 1) := by decide +kernel
theorem d_Mo_comeTo_11 : decode b_Mo_comeTo 11 = .ok (.iload_n 3, 1) := by decide +kernel
theorem d_Mo_comeTo_12 : decode b_Mo_comeTo 12 = .ok (.iadd, 1) := by decide +kernel
theorem d_Mo_comeTo_13 : decode b_Mo_comeTo 13 = .ok (.istore 6, 2) := by decide +kernel
theorem d_Mo_comeTo_15 : decode b_Mo_comeTo 15 = .ok (.aload_n 0, 1) := by decide +kernel
theorem d_Mo_comeTo_16 : decode b_Mo_comeTo 16 = .ok (.getfield 63, 3) := by decide +kernel
theorem d_Mo_comeTo_19 : decode b_Mo_comeTo 19 = .ok (.iload 6, 2) := by decide +kernel
theorem d_Mo_comeTo_21 : decode b_Mo_comeTo 21 = .ok (.iaload, 1) := by decide +kernel
theorem d_Mo_comeTo_22 : decode b_Mo_comeTo 22 = .ok (.ifCond .ge 31, 3) := by decide +kernel
theorem d_Mo_comeTo_25 : decode b_Mo_comeTo 25 = .ok (.aload_n 0, 1) := by decide +kernel
theorem d_Mo_comeTo_26 : decode b_Mo_comeTo 26 = .ok (.getfield 63, 3) := by decide +kernel
theorem d_Mo_comeTo_29 : decode b_Mo_comeTo 29 = .ok (.iload 6, 2) := by decide +kernel
theorem d_Mo_comeTo_31 : decode b_Mo_comeTo 31 = .ok (.iload 4, 2) := by decide +kernel
theorem d_Mo_comeTo_33 : decode b_Mo_comeTo 33 = .ok (.iastore, 1) := by decide +kernel
theorem d_Mo_comeTo_34 : decode b_Mo_comeTo 34 = .ok (.aload_n 0, 1) := by decide +kernel
theorem d_Mo_comeTo_35 : decode b_Mo_comeTo 35 = .ok (.getfield 66, 3) := by decide +kernel
theorem d_Mo_comeTo_38 : decode b_Mo_comeTo 38 = .ok (.iload 6, 2) := by decide +kernel
theorem d_Mo_comeTo_40 : decode b_Mo_comeTo 40 = .ok (.iload 5, 2) := by decide +kernel
theorem d_Mo_comeTo_42 : decode b_Mo_comeTo 42 = .ok (.iastore, 1) := by decide +kernel
theorem d_Mo_comeTo_43 : decode b_Mo_comeTo 43 = .ok (.aload_n 0, 1) := by decide +kernel
theorem d_Mo_comeTo_44 : decode b_Mo_comeTo 44 = .ok (.getfield 69, 3) := by decide +kernel
theorem d_Mo_comeTo_47 : decode b_Mo_comeTo 47 = .ok (.iload_n 3, 1) := by decide +kernel
theorem d_Mo_comeTo_48 : decode b_Mo_comeTo 48 = .ok (.iconst 1, 1) := by decide +kernel
theorem d_Mo_comeTo_49 : decode b_Mo_comeTo 49 = .ok (.bastore, 1) := by decide +kernel
theorem d_Mo_comeTo_50 : decode b_Mo_comeTo 50 = .ok (.goto 40, 3) := by decide +kernel
theorem d_Mo_comeTo_53 : decode b_Mo_comeTo 53 = .ok (.aload_n 0, 1) := by decide +kernel
theorem d_Mo_comeTo_54 : decode b_Mo_comeTo 54 = .ok (.getfield 63, 3) := by decide +kernel
theorem d_Mo_comeTo_57 : decode b_Mo_comeTo 57 = .ok (.iload 6, 2) := by decide +kernel
theorem d_Mo_comeTo_59 : decode b_Mo_comeTo 59 = .ok (.iaload, 1) := by decide +kernel
theorem d_Mo_comeTo_60 : decode b_Mo_comeTo 60 = .ok (.iload 4, 2) := by decide +kernel
theorem d_Mo_comeTo_62 : decode b_Mo_comeTo 62 = .ok (.if_icmp .ne 15, 3) := by decide +kernel
theorem d_Mo_comeTo_65 : decode b_Mo_comeTo 65 = .ok (.aload_n 0, 1) := by decide +kernel
theorem d_Mo_comeTo_66 : decode b_Mo_comeTo 66 = .ok (.getfield 66, 3) := by decide +kernel
theorem d_Mo_comeTo_69 : decode b_Mo_comeTo 69 = .ok (.iload 6, 2) := by decide +kernel
theorem d_Mo_comeTo_71 : decode b_Mo_comeTo 71 = .ok (.iaload, 1) := by decide +kernel
theorem d_Mo_comeTo_72 : decode b_Mo_comeTo 72 = .ok (.iload 5, 2) := by decide +kernel
theorem d_Mo_comeTo_74 : decode b_Mo_comeTo 74 = .ok (.if_icmp .eq 16, 3) := by decide +kernel
theorem d_Mo_comeTo_77 : decode b_Mo_comeTo 77 = .ok (.aload_n 0, 1) := by decide +kernel
theorem d_Mo_comeTo_78 : decode b_Mo_comeTo 78 = .ok (.bipush 7, 2) := by decide +kernel
theorem d_Mo_comeTo_80 : decode b_Mo_comeTo 80 = .ok (.sipush 512, 3) := by decide +kernel
theorem d_Mo_comeTo_83 : decode b_Mo_comeTo 83 = .ok (.iload_n 2, 1) := by decide +kernel
theorem d_Mo_comeTo_84 : decode b_Mo_comeTo 84 = .ok (.imul, 1) := by decide +kernel
theorem d_Mo_comeTo_85 : decode b_Mo_comeTo 85 = .ok (.iload_n 3, 1) := by decide +kernel
theorem d_Mo_comeTo_86 : decode b_Mo_comeTo 86 = .ok (.iadd, 1) := by decide +kernel
theorem d_Mo_comeTo_87 : decode b_Mo_comeTo 87 = .ok (.invokevirtual 96, 3) := by decide +kernel
theorem d_Mo_comeTo_90 : decode b_Mo_comeTo 90 = .ok (.return_, 1) := by decide +kernel
theorem d_Mo_puts_0 : decode b_Mo_puts 0 = .ok (.aload_n 0, 1) := by decide +kernel
theorem d_Mo_puts_1 : decode b_Mo_puts 1 = .ok (.dup, 1) := by decide +kernel
theorem d_Mo_puts_2 : decode b_Mo_puts 2 = .ok (.getfield 135, 3) := by decide +kernel
theorem d_Mo_puts_5 : decode b_Mo_puts 5 = .ok (.iload_n 1, 1) := by decide +kernel
theorem d_Mo_puts_6 : decode b_Mo_puts 6 = .ok (.aload_n 0, 1) := by decide +kernel
theorem d_Mo_puts_7 : decode b_Mo_puts 7 = .ok (.getfield 132, 3) := by decide +kernel
theorem d_Mo_puts_10 : decode b_Mo_puts 10 = .ok (.ishl, 1) := by decide +kernel
theorem d_Mo_puts_11 : decode b_Mo_puts 11 = .ok (.ior, 1) := by decide +kernel
theorem d_Mo_puts_12 : decode b_Mo_puts 12 = .ok (.putfield 135, 3) := by decide +kernel
theorem d_Mo_puts_15 : decode b_Mo_puts 15 = .ok (.aload_n 0, 1) := by decide +kernel
theorem d_Mo_puts_16 : decode b_Mo_puts 16 = .ok (.dup, 1) := by decide +kernel
theorem d_Mo_puts_17 : decode b_Mo_puts 17 = .ok (.getfield 132, 3) := by decide +kernel
theorem d_Mo_puts_20 : decode b_Mo_puts 20 = .ok (.iconst 1, 1) := by decide +kernel
theorem d_Mo_puts_21 : decode b_Mo_puts 21 = .ok (.iadd, 1) := by decide +kernel
theorem d_Mo_puts_22 : decode b_Mo_puts 22 = .ok (.putfield 132, 3) := by decide +kernel
theorem d_Mo_puts_25 : decode b_Mo_puts 25 = .ok (.return_, 1) := by decide +kernel
theorem d_Mo_takes_0 : decode b_Mo_takes 0 = .ok (.aload_n 0, 1) := by decide +kernel
theorem d_Mo_takes_1 : decode b_Mo_takes 1 = .ok (.getfield 132, 3) := by decide +kernel
theorem d_Mo_takes_4 : decode b_Mo_takes 4 = .ok (.ifCond .ne 5, 3) := by decide +kernel
theorem d_Mo_takes_7 : decode b_Mo_takes 7 = .ok (.iconst 0, 1) := by decide +kernel
theorem d_Mo_takes_8 : decode b_Mo_takes 8 = .ok (.ireturn, 1) := by decide +kernel
theorem d_Mo_takes_9 : decode b_Mo_takes 9 = .ok (.aload_n 0, 1) := by decide +kernel
theorem d_Mo_takes_10 : decode b_Mo_takes 10 = .ok (.dup, 1) := by decide +kernel
theorem d_Mo_takes_11 : decode b_Mo_takes 11 = .ok (.getfield 132, 3) := by decide +kernel
theorem d_Mo_takes_14 : decode b_Mo_takes 14 = .ok (.iconst 1, 1) := by decide +kernel
theorem d_Mo_takes_15 : decode b_Mo_takes 15 = .ok (.isub, 1) := by decide +kernel
theorem d_Mo_takes_16 : decode b_Mo_takes 16 = .ok (.putfield 132, 3) := by decide +kernel
theorem d_Mo_takes_19 : decode b_Mo_takes 19 = .ok (.aload_n 0, 1) := by decide +kernel
theorem d_Mo_takes_20 : decode b_Mo_takes 20 = .ok (.getfield 135, 3) := by decide +kernel
theorem d_Mo_takes_23 : decode b_Mo_takes 23 = .ok (.aload_n 0, 1) := by decide +kernel
theorem d_Mo_takes_24 : decode b_Mo_takes 24 = .ok (.getfield 132, 3) := by decide +kernel
theorem d_Mo_takes_27 : decode b_Mo_takes 27 = .ok (.ishr, 1) := by decide +kernel
theorem d_Mo_takes_28 : decode b_Mo_takes 28 = .ok (.iconst 1, 1) := by decide +kernel
theorem d_Mo_takes_29 : decode b_Mo_takes 29 = .ok (.iand, 1) := by decide +kernel
theorem d_Mo_takes_30 : decode b_Mo_takes 30 = .ok (.istore_n 2, 1) := by decide +kernel
theorem d_Mo_takes_31 : decode b_Mo_takes 31 = .ok (.aload_n 0, 1) := by decide +kernel
theorem d_Mo_takes_32 : decode b_Mo_takes 32 = .ok (.dup, 1) := by decide +kernel
theorem d_Mo_takes_33 : decode b_Mo_takes 33 = .ok (.getfield 135, 3) := by decide +kernel
theorem d_Mo_takes_36 : decode b_Mo_takes 36 = .ok (.iconst 1, 1) := by decide +kernel
theorem d_Mo_takes_37 : decode b_Mo_takes 37 = .ok (.aload_n 0, 1) := by decide +kernel
theorem d_Mo_takes_38 : decode b_Mo_takes 38 = .ok (.getfield 132, 3) := by decide +kernel
theorem d_Mo_takes_41 : decode b_Mo_takes 41 = .ok (.ishl, 1) := by decide +kernel
theorem d_Mo_takes_42 : decode b_Mo_takes 42 = .ok (.iconst 1, 1) := by decide +kernel
theorem d_Mo_takes_43 : decode b_Mo_takes 43 = .ok (.isub, 1) := by decide +kernel
theorem d_Mo_takes_44 : decode b_Mo_takes 44 = .ok (.iand, 1) := by decide +kernel
theorem d_Mo_takes_45 : decode b_Mo_takes 45 = .ok (.putfield 135, 3) := by decide +kernel
theorem d_Mo_takes_48 : decode b_Mo_takes 48 = .ok (.iload_n 1, 1) := by decide +kernel
theorem d_Mo_takes_49 : decode b_Mo_takes 49 = .ok (.iconst 2, 1) := by decide +kernel
theorem d_Mo_takes_50 : decode b_Mo_takes 50 = .ok (.if_icmp .eq 8, 3) := by decide +kernel
theorem d_Mo_takes_53 : decode b_Mo_takes 53 = .ok (.iload_n 1, 1) := by decide +kernel
theorem d_Mo_takes_54 : decode b_Mo_takes 54 = .ok (.iload_n 2, 1) := by decide +kernel
theorem d_Mo_takes_55 : decode b_Mo_takes 55 = .ok (.if_icmp .ne 7, 3) := by decide +kernel
theorem d_Mo_takes_58 : decode b_Mo_takes 58 = .ok (.iconst 1, 1) := by decide +kernel
theorem d_Mo_takes_59 : decode b_Mo_takes 59 = .ok (.goto 4, 3) := by decide +kernel
theorem d_Mo_takes_62 : decode b_Mo_takes 62 = .ok (.iconst 0, 1) := by decide +kernel
theorem d_Mo_takes_63 : decode b_Mo_takes 63 = .ok (.ireturn, 1) := by decide +kernel
theorem d_Mo_isRow_0 : decode b_Mo_isRow 0 = .ok (.aload_n 0, 1) := by decide +kernel
theorem d_Mo_isRow_1 : decode b_Mo_isRow 1 = .ok (.getfield 29, 3) := by decide +kernel
theorem d_Mo_isRow_4 : decode b_Mo_isRow 4 = .ok (.iload_n 1, 1) := by decide +kernel
theorem d_Mo_isRow_5 : decode b_Mo_isRow 5 = .ok (.iaload, 1) := by decide +kernel
theorem d_Mo_isRow_6 : decode b_Mo_isRow 6 = .ok (.iload_n 2, 1) := by decide +kernel
theorem d_Mo_isRow_7 : decode b_Mo_isRow 7 = .ok (.ishr, 1) := by decide +kernel
theorem d_Mo_isRow_8 : decode b_Mo_isRow 8 = .ok (.iconst 1, 1) := by decide +kernel
theorem d_Mo_isRow_9 : decode b_Mo_isRow 9 = .ok (.iand, 1) := by decide +kernel
theorem d_Mo_isRow_10 : decode b_Mo_isRow 10 = .ok (.ireturn, 1) := by decide +kernel
theorem d_Mo_takesInts_0 : decode b_Mo_takesInts 0 = .ok (.iconst 1, 1) := by decide +kernel
theorem d_Mo_takesInts_1 : decode b_Mo_takesInts 1 = .ok (.istore_n 2, 1) := by decide +kernel
theorem d_Mo_takesInts_2 : decode b_Mo_takesInts 2 = .ok (.iconst 0, 1) := by decide +kernel
theorem d_Mo_takesInts_3 : decode b_Mo_takesInts 3 = .ok (.istore_n 3, 1) := by decide +kernel
theorem d_Mo_takesInts_4 : decode b_Mo_takesInts 4 = .ok (.iload_n 3, 1) := by decide +kernel
theorem d_Mo_takesInts_5 : decode b_Mo_takesInts 5 = .ok (.iload_n 1, 1) := by decide +kernel
theorem d_Mo_takesInts_6 : decode b_Mo_takesInts 6 = .ok (.if_icmp .ge 27, 3) := by decide +kernel
theorem d_Mo_takesInts_9 : decode b_Mo_takesInts 9 = .ok (.iload_n 2, 1) := by decide +kernel
theorem d_Mo_takesInts_10 : decode b_Mo_takesInts 10 = .ok (.ifCond .eq 15, 3) := by decide +kernel
theorem d_Mo_takesInts_13 : decode b_Mo_takesInts 13 = .ok (.aload_n 0, 1) := by decide +kernel
theorem d_Mo_takesInts_14 : decode b_Mo_takesInts 14 = .ok (.iconst 0, 1) := by decide +kernel
theorem d_Mo_takesInts_15 : decode b_Mo_takesInts 15 = .ok (.invokevirtual 138, 3) := by decide +kernel
theorem d_Mo_takesInts_18 : decode b_Mo_takesInts 18 = .ok (.ifCond .eq 7, 3) := by decide +kernel
theorem d_Mo_takesInts_21 : decode b_Mo_takesInts 21 = .ok (.iconst 1, 1) := by decide +kernel
theorem d_Mo_takesInts_22 : decode b_Mo_takesInts 22 = .ok (.goto 4, 3) := by decide +kernel
theorem d_Mo_takesInts_25 : decode b_Mo_takesInts 25 = .ok (.iconst 0, 1) := by decide +kernel
theorem d_Mo_takesInts_26 : decode b_Mo_takesInts 26 = .ok (.istore_n 2, 1) := by decide +kernel
theorem d_Mo_takesInts_27 : decode b_Mo_takesInts 27 = .ok (.iinc 3 1, 3) := by decide +kernel
theorem d_Mo_takesInts_30 : decode b_Mo_takesInts 30 = .ok (.goto (-26), 3) := by decide +kernel
theorem d_Mo_takesInts_33 : decode b_Mo_takesInts 33 = .ok (.iload_n 2, 1) := by decide +kernel
theorem d_Mo_takesInts_34 : decode b_Mo_takesInts 34 = .ok (.ireturn, 1) := by decide +kernel
set_option maxHeartbeats 4000000 in
set_option maxRecDepth 100000 in
theorem m_SB_function {l : Launch} {D : va_G} {dA : Nat → ClassId} (o : Option Nat) (x1 : Int32) (x2 : Int32) (h0 : hc_H) (b : Int32) (C0 S0 : Nat) (h2 : hc_H) (hr : p_SB_function o x1 x2 h0 = some (b, C0, S0, h2)) : hc_Met l (gg D dA) y_SB_function b_SB_function 4 (some .int) tb 2 43 [vr_ o, vi_ x1, vi_ x2] h0 C0 S0 (some (vi_ b)) h2 := by
  refine hc_Met.of (by decide) (Nat.le_of_ble_eq_true rfl) ?_
  intro p e s m args below meth c hC
  unfold p_SB_function at hr
  refine hj_sub (lv' := [(0, vr_ o), (1, vi_ x1), (2, vi_ x2)]) [0, 1, 2] rfl ?_
  refine hj_aload_n hC 0 d_SB_function_0 rfl rfl ?_
  refine hj_getr hC cf_SB (k := 4) (by decide) wq_59 rfl d_SB_function_1 hr (fun a1 hr => ?_)
  refine hj_iload_n hC 1 d_SB_function_4 rfl rfl ?_
  refine hj_callV hC hG (enc := (fun a : Option Nat => some (vr_ a))) (As := [vi_ x1]) (st := []) (fun h a C S h1 hr => m_Program_at _ _ h a C S h1 hr) cf_Program wq_345 wq_228 wq_229 wq_57 wq_222 yk_Program_at rfl ⟨Nat.le_of_ble_eq_true rfl, Nat.le_of_ble_eq_true rfl⟩ rfl (Nat.le_of_ble_eq_true rfl) d_SB_function_5 hr (fun a2 h C S hr => ?_)
  refine hj_astore_n hC (lv' := [(3, vr_ a2), (0, vr_ o), (1, vi_ x1), (2, vi_ x2)]) d_SB_function_8 rfl (by decide) rfl ?_
  refine hj_aload_n hC 0 d_SB_function_9 rfl rfl ?_
  refine hj_ifnonnull hC 15 d_SB_function_10 (by decide) hr (fun q10 hr => ?_) (fun q10 hr => ?_)
  · refine hj_iload_n hC 3 d_SB_function_15 rfl rfl ?_
    by_cases s16_0 : x2 = 0
    · rw [if_pos s16_0] at hr
      refine hj_tableIn hC 64 d_SB_function_16 (by rw [s16_0]; decide) (by rw [s16_0]; decide) (by rw [s16_0]; rfl) (by decide) ?_
      refine hj_aload_n hC 0 d_SB_function_64 rfl rfl ?_
      refine hj_geti hC cf_Function (k := 0) (by decide) wq_355 rfl d_SB_function_65 hr (fun a3 hr => ?_)
      exact hj_iret hC d_SB_function_68 hr
    · rw [if_neg s16_0] at hr
      by_cases s16_1 : x2 = 1
      · rw [if_pos s16_1] at hr
        refine hj_tableIn hC 69 d_SB_function_16 (by rw [s16_1]; decide) (by rw [s16_1]; decide) (by rw [s16_1]; rfl) (by decide) ?_
        refine hj_aload_n hC 0 d_SB_function_69 rfl rfl ?_
        refine hj_geti hC cf_Function (k := 1) (by decide) wq_356 rfl d_SB_function_70 hr (fun a4 hr => ?_)
        exact hj_iret hC d_SB_function_73 hr
      · rw [if_neg s16_1] at hr
        by_cases s16_2 : x2 = 2
        · rw [if_pos s16_2] at hr
          refine hj_tableIn hC 74 d_SB_function_16 (by rw [s16_2]; decide) (by rw [s16_2]; decide) (by rw [s16_2]; rfl) (by decide) ?_
          refine hj_aload_n hC 0 d_SB_function_74 rfl rfl ?_
          refine hj_geti hC cf_Function (k := 2) (by decide) wq_357 rfl d_SB_function_75 hr (fun a5 hr => ?_)
          exact hj_iret hC d_SB_function_78 hr
        · rw [if_neg s16_2] at hr
          by_cases s16_3 : x2 = 3
          · rw [if_pos s16_3] at hr
            refine hj_tableIn hC 79 d_SB_function_16 (by rw [s16_3]; decide) (by rw [s16_3]; decide) (by rw [s16_3]; rfl) (by decide) ?_
            refine hj_aload_n hC 0 d_SB_function_79 rfl rfl ?_
            refine hj_geti hC cf_Function (k := 3) (by decide) wq_358 rfl d_SB_function_80 hr (fun a6 hr => ?_)
            exact hj_iret hC d_SB_function_83 hr
          · rw [if_neg s16_3] at hr
            by_cases s16_4 : x2 = 4
            · rw [if_pos s16_4] at hr
              refine hj_tableIn hC 84 d_SB_function_16 (by rw [s16_4]; decide) (by rw [s16_4]; decide) (by rw [s16_4]; rfl) (by decide) ?_
              refine hj_aload_n hC 0 d_SB_function_84 rfl rfl ?_
              refine hj_geti hC cf_Function (k := 4) (by decide) wq_359 rfl d_SB_function_85 hr (fun a7 hr => ?_)
              exact hj_iret hC d_SB_function_88 hr
            · rw [if_neg s16_4] at hr
              by_cases s16_5 : x2 = 5
              · rw [if_pos s16_5] at hr
                refine hj_tableIn hC 89 d_SB_function_16 (by rw [s16_5]; decide) (by rw [s16_5]; decide) (by rw [s16_5]; rfl) (by decide) ?_
                refine hj_aload_n hC 0 d_SB_function_89 rfl rfl ?_
                refine hj_geti hC cf_Function (k := 5) (by decide) wq_360 rfl d_SB_function_90 hr (fun a8 hr => ?_)
                exact hj_iret hC d_SB_function_93 hr
              · rw [if_neg s16_5] at hr
                by_cases s16_6 : x2 = 6
                · rw [if_pos s16_6] at hr
                  refine hj_tableIn hC 94 d_SB_function_16 (by rw [s16_6]; decide) (by rw [s16_6]; decide) (by rw [s16_6]; rfl) (by decide) ?_
                  refine hj_aload_n hC 0 d_SB_function_94 rfl rfl ?_
                  refine hj_callV hC hG (enc := (fun a : Int32 => some (vi_ a))) (As := []) (st := []) (fun h a C S h1 hr => m_Function_comeTo _  h a C S h1 hr) cf_Function wq_362 wq_363 wq_364 wq_33 wq_361 yk_Function_comeTo rfl ⟨Nat.le_of_ble_eq_true rfl, Nat.le_of_ble_eq_true rfl⟩ rfl (Nat.le_of_ble_eq_true rfl) d_SB_function_95 hr (fun a9 h C S hr => ?_)
                  exact hj_iret hC d_SB_function_98 hr
                · rw [if_neg s16_6] at hr
                  by_cases s16_7 : x2 = 7
                  · rw [if_pos s16_7] at hr
                    refine hj_tableIn hC 99 d_SB_function_16 (by rw [s16_7]; decide) (by rw [s16_7]; decide) (by rw [s16_7]; rfl) (by decide) ?_
                    refine hj_aload_n hC 0 d_SB_function_99 rfl rfl ?_
                    refine hj_callV hC hG (enc := (fun a : Int32 => some (vi_ a))) (As := []) (st := []) (fun h a C S h1 hr => m_Function_deepest _  h a C S h1 hr) cf_Function wq_366 wq_367 wq_368 wq_33 wq_365 yk_Function_deepest rfl ⟨Nat.le_of_ble_eq_true rfl, Nat.le_of_ble_eq_true rfl⟩ rfl (Nat.le_of_ble_eq_true rfl) d_SB_function_100 hr (fun a10 h C S hr => ?_)
                    exact hj_iret hC d_SB_function_103 hr
                  · rw [if_neg s16_7] at hr
                    have e0 := lv_neT s16_0 (a := 0) (by decide)
                    have e1 := lv_neT s16_1 (a := 1) (by decide)
                    have e2 := lv_neT s16_2 (a := 2) (by decide)
                    have e3 := lv_neT s16_3 (a := 3) (by decide)
                    have e4 := lv_neT s16_4 (a := 4) (by decide)
                    have e5 := lv_neT s16_5 (a := 5) (by decide)
                    have e6 := lv_neT s16_6 (a := 6) (by decide)
                    have e7 := lv_neT s16_7 (a := 7) (by decide)
                    refine hj_tableOut hC 104 d_SB_function_16 (by omega) (by decide) ?_
                    refine hj_iconst hC (v := (-1)) d_SB_function_104 (by decide) ?_
                    exact hj_iret hC d_SB_function_105 hr
  · refine hj_iconst hC (v := (-1)) d_SB_function_13 (by decide) ?_
    exact hj_iret hC d_SB_function_14 hr
set_option maxHeartbeats 4000000 in
set_option maxRecDepth 100000 in
theorem m_SB_handler {l : Launch} {D : va_G} {dA : Nat → ClassId} (o : Option Nat) (x1 : Int32) (x2 : Int32) (x3 : Int32) (h0 : hc_H) (b : Int32) (C0 S0 : Nat) (h2 : hc_H) (hr : p_SB_handler o x1 x2 x3 h0 = some (b, C0, S0, h2)) : hc_Met l (gg D dA) y_SB_handler b_SB_handler 6 (some .int) tb 1 21 [vr_ o, vi_ x1, vi_ x2, vi_ x3] h0 C0 S0 (some (vi_ b)) h2 := by
  refine hc_Met.of (by decide) (Nat.le_of_ble_eq_true rfl) ?_
  intro p e s m args below meth c hC
  unfold p_SB_handler at hr
  refine hj_sub (lv' := [(0, vr_ o), (1, vi_ x1), (2, vi_ x2), (3, vi_ x3)]) [0, 1, 2, 3] rfl ?_
  refine hj_aload_n hC 0 d_SB_handler_0 rfl rfl ?_
  refine hj_getr hC cf_SB (k := 4) (by decide) wq_59 rfl d_SB_handler_1 hr (fun a1 hr => ?_)
  refine hj_iload_n hC 1 d_SB_handler_4 rfl rfl ?_
  refine hj_callV hC hG (enc := (fun a : Option Nat => some (vr_ a))) (As := [vi_ x1]) (st := []) (fun h a C S h1 hr => m_Program_at _ _ h a C S h1 hr) cf_Program wq_345 wq_228 wq_229 wq_57 wq_222 yk_Program_at rfl ⟨Nat.le_of_ble_eq_true rfl, Nat.le_of_ble_eq_true rfl⟩ rfl (Nat.le_of_ble_eq_true rfl) d_SB_handler_5 hr (fun a2 h C S hr => ?_)
  refine hj_astore hC (lv' := [(4, vr_ a2), (0, vr_ o), (1, vi_ x1), (2, vi_ x2), (3, vi_ x3)]) d_SB_handler_8 (by decide) rfl ?_
  refine hj_aload hC 0 d_SB_handler_10 rfl ?_
  refine hj_ifnull hC 28 d_SB_handler_12 (by decide) hr (fun q12 hr => ?_) (fun q12 hr => ?_)
  · refine hj_iconst hC (v := 0) d_SB_handler_28 (by decide) ?_
    exact hj_iret hC d_SB_handler_29 hr
  · refine hj_iload_n hC 3 d_SB_handler_15 rfl rfl ?_
    refine hj_if_lt hC 28 d_SB_handler_16 (by decide) hr (fun q16 hr => ?_) (fun q16 hr => ?_)
    · refine hj_iconst hC (v := 0) d_SB_handler_28 (by decide) ?_
      exact hj_iret hC d_SB_handler_29 hr
    · refine hj_iload_n hC 3 d_SB_handler_19 rfl rfl ?_
      refine hj_aload hC 0 d_SB_handler_20 rfl ?_
      refine hj_geti hC cf_Function (k := 5) (by decide) wq_360 rfl d_SB_handler_22 hr (fun a3 hr => ?_)
      refine hj_icmp_lt hC 30 d_SB_handler_25 (by decide) hr (fun q25 hr => ?_) (fun q25 hr => ?_)
      · refine hj_aload hC 0 d_SB_handler_30 rfl ?_
        refine hj_getr hC cf_Function (k := 10) (by decide) wq_369 rfl d_SB_handler_32 hr (fun a4 hr => ?_)
        refine hj_iload_n hC 3 d_SB_handler_35 rfl rfl ?_
        refine hj_aald hC (kd := 9) rfl d_SB_handler_36 hr (fun a5 hr => ?_)
        refine hj_astore hC (lv' := [(5, vr_ a5), (4, vr_ a2), (0, vr_ o), (1, vi_ x1), (2, vi_ x2), (3, vi_ x3)]) d_SB_handler_37 (by decide) rfl ?_
        refine hj_iload_n hC 5 d_SB_handler_39 rfl rfl ?_
        by_cases s40_0 : x3 = 0
        · rw [if_pos s40_0] at hr
          refine hj_tableIn hC 76 d_SB_handler_40 (by rw [s40_0]; decide) (by rw [s40_0]; decide) (by rw [s40_0]; rfl) (by decide) ?_
          refine hj_aload hC 0 d_SB_handler_76 rfl ?_
          refine hj_geti hC cf_Handler (k := 0) (by decide) wq_370 rfl d_SB_handler_78 hr (fun a6 hr => ?_)
          exact hj_iret hC d_SB_handler_81 hr
        · rw [if_neg s40_0] at hr
          by_cases s40_1 : x3 = 1
          · rw [if_pos s40_1] at hr
            refine hj_tableIn hC 82 d_SB_handler_40 (by rw [s40_1]; decide) (by rw [s40_1]; decide) (by rw [s40_1]; rfl) (by decide) ?_
            refine hj_aload hC 0 d_SB_handler_82 rfl ?_
            refine hj_geti hC cf_Handler (k := 1) (by decide) wq_371 rfl d_SB_handler_84 hr (fun a7 hr => ?_)
            exact hj_iret hC d_SB_handler_87 hr
          · rw [if_neg s40_1] at hr
            by_cases s40_2 : x3 = 2
            · rw [if_pos s40_2] at hr
              refine hj_tableIn hC 88 d_SB_handler_40 (by rw [s40_2]; decide) (by rw [s40_2]; decide) (by rw [s40_2]; rfl) (by decide) ?_
              refine hj_aload hC 0 d_SB_handler_88 rfl ?_
              refine hj_geti hC cf_Handler (k := 2) (by decide) wq_372 rfl d_SB_handler_90 hr (fun a8 hr => ?_)
              exact hj_iret hC d_SB_handler_93 hr
            · rw [if_neg s40_2] at hr
              by_cases s40_3 : x3 = 3
              · rw [if_pos s40_3] at hr
                refine hj_tableIn hC 94 d_SB_handler_40 (by rw [s40_3]; decide) (by rw [s40_3]; decide) (by rw [s40_3]; rfl) (by decide) ?_
                refine hj_aload hC 0 d_SB_handler_94 rfl ?_
                refine hj_geti hC cf_Handler (k := 3) (by decide) wq_373 rfl d_SB_handler_96 hr (fun a9 hr => ?_)
                refine hj_if_eq hC 106 d_SB_handler_99 (by decide) hr (fun q99 hr => ?_) (fun q99 hr => ?_)
                · refine hj_iconst hC (v := 0) d_SB_handler_106 (by decide) ?_
                  exact hj_iret hC d_SB_handler_107 hr
                · refine hj_iconst hC (v := 1) d_SB_handler_102 (by decide) ?_
                  refine hj_goto hC 107 d_SB_handler_103 (by decide) ?_
                  exact hj_iret hC d_SB_handler_107 hr
              · rw [if_neg s40_3] at hr
                by_cases s40_4 : x3 = 4
                · rw [if_pos s40_4] at hr
                  refine hj_tableIn hC 108 d_SB_handler_40 (by rw [s40_4]; decide) (by rw [s40_4]; decide) (by rw [s40_4]; rfl) (by decide) ?_
                  refine hj_aload hC 0 d_SB_handler_108 rfl ?_
                  refine hj_geti hC cf_Handler (k := 4) (by decide) wq_374 rfl d_SB_handler_110 hr (fun a10 hr => ?_)
                  exact hj_iret hC d_SB_handler_113 hr
                · rw [if_neg s40_4] at hr
                  have e0 := lv_neT s40_0 (a := 0) (by decide)
                  have e1 := lv_neT s40_1 (a := 1) (by decide)
                  have e2 := lv_neT s40_2 (a := 2) (by decide)
                  have e3 := lv_neT s40_3 (a := 3) (by decide)
                  have e4 := lv_neT s40_4 (a := 4) (by decide)
                  refine hj_tableOut hC 114 d_SB_handler_40 (by omega) (by decide) ?_
                  refine hj_iconst hC (v := 0) d_SB_handler_114 (by decide) ?_
                  exact hj_iret hC d_SB_handler_115 hr
      · refine hj_iconst hC (v := 0) d_SB_handler_28 (by decide) ?_
        exact hj_iret hC d_SB_handler_29 hr
set_option maxHeartbeats 4000000 in
set_option maxRecDepth 100000 in
theorem m_SB_byteAt {l : Launch} {D : va_G} {dA : Nat → ClassId} (o : Option Nat) (x1 : Int32) (x2 : Int32) (h0 : hc_H) (b : Int32) (C0 S0 : Nat) (h2 : hc_H) (hr : p_SB_byteAt o x1 x2 h0 = some (b, C0, S0, h2)) : hc_Met l (gg D dA) y_SB_byteAt b_SB_byteAt 3 (some .int) tb 1 21 [vr_ o, vi_ x1, vi_ x2] h0 C0 S0 (some (vi_ b)) h2 := by
  refine hc_Met.of (by decide) (Nat.le_of_ble_eq_true rfl) ?_
  intro p e s m args below meth c hC
  unfold p_SB_byteAt at hr
  refine hj_sub (lv' := [(0, vr_ o), (1, vi_ x1), (2, vi_ x2)]) [0, 1, 2] rfl ?_
  refine hj_iload_n hC 2 d_SB_byteAt_0 rfl rfl ?_
  refine hj_if_eq hC 15 d_SB_byteAt_1 (by decide) hr (fun q1 hr => ?_) (fun q1 hr => ?_)
  · refine hj_aload_n hC 0 d_SB_byteAt_15 rfl rfl ?_
    refine hj_getr hC cf_SB (k := 1) (by decide) wq_44 rfl d_SB_byteAt_16 hr (fun a1 hr => ?_)
    refine hj_iload_n hC 1 d_SB_byteAt_19 rfl rfl ?_
    refine hj_callV hC hG (enc := (fun a : Int32 => some (vi_ a))) (As := [vi_ x1]) (st := []) (fun h a C S h1 hr => m_ByteRow_at _ _ h a C S h1 hr) cf_ByteRow wq_375 wq_107 wq_108 wq_41 wq_105 yk_ByteRow_at rfl ⟨Nat.le_of_ble_eq_true rfl, Nat.le_of_ble_eq_true rfl⟩ rfl (Nat.le_of_ble_eq_true rfl) d_SB_byteAt_20 hr (fun a2 h C S hr => ?_)
    exact hj_iret hC d_SB_byteAt_23 hr
  · refine hj_aload_n hC 0 d_SB_byteAt_4 rfl rfl ?_
    refine hj_getr hC cf_SB (k := 0) (by decide) wq_43 rfl d_SB_byteAt_5 hr (fun a3 hr => ?_)
    refine hj_iload_n hC 1 d_SB_byteAt_8 rfl rfl ?_
    refine hj_callV hC hG (enc := (fun a : Int32 => some (vi_ a))) (As := [vi_ x1]) (st := []) (fun h a C S h1 hr => m_ByteRow_at _ _ h a C S h1 hr) cf_ByteRow wq_375 wq_107 wq_108 wq_41 wq_105 yk_ByteRow_at rfl ⟨Nat.le_of_ble_eq_true rfl, Nat.le_of_ble_eq_true rfl⟩ rfl (Nat.le_of_ble_eq_true rfl) d_SB_byteAt_9 hr (fun a4 h C S hr => ?_)
    refine hj_goto hC 23 d_SB_byteAt_12 (by decide) ?_
    exact hj_iret hC d_SB_byteAt_23 hr
set_option maxHeartbeats 4000000 in
set_option maxRecDepth 100000 in
theorem ml_Program_instructions_4 {p : Program} {l : Launch} {e : Env} {s : State} {m : MethodId} {args : Array Value} {below : List Frame} {meth : Method} {c : Code} {D : va_G} {dA : Nat → ClassId} {h0 h2 : hc_H} {C0 S0 : Nat} {b : Int32} (hC : hj_C p s m args meth c (gg D dA) b_Program_instructions 3 (some .int) R_Program "instructions" tb) (x0 : Option Nat) (kx : Int32 → hM Int32) (hk : ∀ (v1 : Int32) (h : hc_H) (C S : Nat), kx v1 h = some (b, C, S, h2) → hj_J p l e { frames := 0, cells := C0, slots := S0, locals := 0 } s m args below meth c (gg D dA) h0 3 (hj_Q below args s { frames := 0, cells := C0, slots := S0, locals := 0 } (gg D dA) h0 (some (vi_ b)) h2) C S h 30 [(1, vi_ v1)] []) : ∀ (fu : Nat) (v1 : Int32) (v2 : Int32) (h : hc_H) (C S : Nat), p_Program_instructions_4 x0 kx fu v1 v2 h = some (b, C, S, h2) → hj_J p l e { frames := 0, cells := C0, slots := S0, locals := 0 } s m args below meth c (gg D dA) h0 3 (hj_Q below args s { frames := 0, cells := C0, slots := S0, locals := 0 } (gg D dA) h0 (some (vi_ b)) h2) C S h 4 [(0, vr_ x0), (1, vi_ v1), (2, vi_ v2)] [] := by
  intro fu
  induction fu with
  | zero =>
    intro v1 v2 h C S hr
    cases hr
  | succ fu ih =>
    intro v1 v2 h C S hr
    rw [p_Program_instructions_4] at hr
    refine hj_iload_n hC 2 d_Program_instructions_4 rfl rfl ?_
    refine hj_aload_n hC 0 d_Program_instructions_5 rfl rfl ?_
    refine hj_geti hC cf_Program (k := 1) (by decide) wq_35 rfl d_Program_instructions_6 hr (fun a1 hr => ?_)
    refine hj_icmp_ge hC 30 d_Program_instructions_9 (by decide) hr (fun q9 hr => ?_) (fun q9 hr => ?_)
    · refine hj_sub (lv' := [(1, vi_ v1)]) [1] rfl ?_
      exact hk _ _ _ _ hr
    · refine hj_iload_n hC 1 d_Program_instructions_12 rfl rfl ?_
      refine hj_aload_n hC 0 d_Program_instructions_13 rfl rfl ?_
      refine hj_getr hC cf_Program (k := 0) (by decide) wq_31 rfl d_Program_instructions_14 hr (fun a2 hr => ?_)
      refine hj_iload_n hC 2 d_Program_instructions_17 rfl rfl ?_
      refine hj_aald hC (kd := 8) rfl d_Program_instructions_18 hr (fun a3 hr => ?_)
      refine hj_geti hC cf_Function (k := 4) (by decide) wq_376 rfl d_Program_instructions_19 hr (fun a4 hr => ?_)
      refine hj_iadd hC d_Program_instructions_22 ?_
      refine hj_istore_n hC (lv' := [(1, vi_ (v1 + a4)), (0, vr_ x0), (2, vi_ v2)]) d_Program_instructions_23 rfl (by decide) rfl ?_
      refine hj_iinc hC (lv' := [(2, vi_ (v2 + 1)), (1, vi_ (v1 + a4)), (0, vr_ x0)]) 2 d_Program_instructions_24 rfl rfl (by decide) rfl ?_
      refine hj_goto hC 4 d_Program_instructions_27 (by decide) ?_
      refine hj_sub (lv' := [(0, vr_ x0), (1, vi_ (v1 + a4)), (2, vi_ (v2 + 1))]) [2, 1, 0] rfl ?_
      exact ih _ _ _ _ _ hr
set_option maxHeartbeats 4000000 in
set_option maxRecDepth 100000 in
theorem m_Program_instructions {l : Launch} {D : va_G} {dA : Nat → ClassId} (o : Option Nat) (h0 : hc_H) (b : Int32) (C0 S0 : Nat) (h2 : hc_H) (hr : p_Program_instructions o h0 = some (b, C0, S0, h2)) : hc_Met l (gg D dA) y_Program_instructions b_Program_instructions 3 (some .int) tb 0 0 [vr_ o] h0 C0 S0 (some (vi_ b)) h2 := by
  refine hc_Met.of (by decide) (Nat.le_of_ble_eq_true rfl) ?_
  intro p e s m args below meth c hC
  unfold p_Program_instructions at hr
  refine hj_sub (lv' := [(0, vr_ o)]) [0] rfl ?_
  refine hj_iconst hC (v := 0) d_Program_instructions_0 (by decide) ?_
  refine hj_istore_n hC (lv' := [(1, vi_ 0), (0, vr_ o)]) d_Program_instructions_1 rfl (by decide) rfl ?_
  refine hj_iconst hC (v := 0) d_Program_instructions_2 (by decide) ?_
  refine hj_istore_n hC (lv' := [(2, vi_ 0), (1, vi_ 0), (0, vr_ o)]) d_Program_instructions_3 rfl (by decide) rfl ?_
  refine hj_sub (lv' := [(0, vr_ o), (1, vi_ 0), (2, vi_ 0)]) [2, 1, 0] rfl ?_
  refine ml_Program_instructions_4 hC _ _ (fun v1_5 h C S hr => ?_) _ _ _ _ _ _ hr
  refine hj_iload_n hC 0 d_Program_instructions_30 rfl rfl ?_
  exact hj_iret hC d_Program_instructions_31 hr
set_option maxHeartbeats 4000000 in
set_option maxRecDepth 100000 in
theorem m_SB_look {l : Launch} {D : va_G} {dA : Nat → ClassId} (o : Option Nat) (x1 : Int32) (h0 : hc_H) (b : Int32) (C0 S0 : Nat) (h2 : hc_H) (hr : p_SB_look o x1 h0 = some (b, C0, S0, h2)) : hc_Met l (gg D dA) y_SB_look b_SB_look 2 (some .int) tb 1 22 [vr_ o, vi_ x1] h0 C0 S0 (some (vi_ b)) h2 := by
  refine hc_Met.of (by decide) (Nat.le_of_ble_eq_true rfl) ?_
  intro p e s m args below meth c hC
  unfold p_SB_look at hr
  refine hj_sub (lv' := [(0, vr_ o), (1, vi_ x1)]) [0, 1] rfl ?_
  refine hj_iload_n hC 1 d_SB_look_0 rfl rfl ?_
  by_cases s1_0 : x1 = 0
  · rw [if_pos s1_0] at hr
    refine hj_tableIn hC 40 d_SB_look_1 (by rw [s1_0]; decide) (by rw [s1_0]; decide) (by rw [s1_0]; rfl) (by decide) ?_
    refine hj_aload_n hC 0 d_SB_look_40 rfl rfl ?_
    refine hj_getr hC cf_SB (k := 4) (by decide) wq_59 rfl d_SB_look_41 hr (fun a1 hr => ?_)
    refine hj_geti hC cf_Program (k := 1) (by decide) wq_291 rfl d_SB_look_44 hr (fun a2 hr => ?_)
    exact hj_iret hC d_SB_look_47 hr
  · rw [if_neg s1_0] at hr
    by_cases s1_1 : x1 = 1
    · rw [if_pos s1_1] at hr
      refine hj_tableIn hC 48 d_SB_look_1 (by rw [s1_1]; decide) (by rw [s1_1]; decide) (by rw [s1_1]; rfl) (by decide) ?_
      refine hj_aload_n hC 0 d_SB_look_48 rfl rfl ?_
      refine hj_getr hC cf_SB (k := 4) (by decide) wq_59 rfl d_SB_look_49 hr (fun a3 hr => ?_)
      refine hj_callV hC hG (enc := (fun a : Int32 => some (vi_ a))) (As := []) (st := []) (fun h a C S h1 hr => m_Program_instructions _  h a C S h1 hr) cf_Program wq_378 wq_379 wq_380 wq_57 wq_377 yk_Program_instructions rfl ⟨Nat.le_of_ble_eq_true rfl, Nat.le_of_ble_eq_true rfl⟩ rfl (Nat.le_of_ble_eq_true rfl) d_SB_look_52 hr (fun a4 h C S hr => ?_)
      exact hj_iret hC d_SB_look_55 hr
    · rw [if_neg s1_1] at hr
      by_cases s1_2 : x1 = 2
      · rw [if_pos s1_2] at hr
        refine hj_tableIn hC 56 d_SB_look_1 (by rw [s1_2]; decide) (by rw [s1_2]; decide) (by rw [s1_2]; rfl) (by decide) ?_
        refine hj_aload_n hC 0 d_SB_look_56 rfl rfl ?_
        refine hj_getr hC cf_SB (k := 0) (by decide) wq_43 rfl d_SB_look_57 hr (fun a5 hr => ?_)
        refine hj_geti hC cf_ByteRow (k := 2) (by decide) wq_327 rfl d_SB_look_60 hr (fun a6 hr => ?_)
        exact hj_iret hC d_SB_look_63 hr
      · rw [if_neg s1_2] at hr
        by_cases s1_3 : x1 = 3
        · rw [if_pos s1_3] at hr
          refine hj_tableIn hC 64 d_SB_look_1 (by rw [s1_3]; decide) (by rw [s1_3]; decide) (by rw [s1_3]; rfl) (by decide) ?_
          refine hj_aload_n hC 0 d_SB_look_64 rfl rfl ?_
          refine hj_getr hC cf_SB (k := 1) (by decide) wq_44 rfl d_SB_look_65 hr (fun a7 hr => ?_)
          refine hj_geti hC cf_ByteRow (k := 2) (by decide) wq_327 rfl d_SB_look_68 hr (fun a8 hr => ?_)
          exact hj_iret hC d_SB_look_71 hr
        · rw [if_neg s1_3] at hr
          by_cases s1_4 : x1 = 4
          · rw [if_pos s1_4] at hr
            refine hj_tableIn hC 72 d_SB_look_1 (by rw [s1_4]; decide) (by rw [s1_4]; decide) (by rw [s1_4]; rfl) (by decide) ?_
            refine hj_aload_n hC 0 d_SB_look_72 rfl rfl ?_
            refine hj_getr hC cf_SB (k := 2) (by decide) wq_49 rfl d_SB_look_73 hr (fun a9 hr => ?_)
            refine hj_geti hC cf_Fault (k := 0) (by decide) wq_292 rfl d_SB_look_76 hr (fun a10 hr => ?_)
            exact hj_iret hC d_SB_look_79 hr
          · rw [if_neg s1_4] at hr
            by_cases s1_5 : x1 = 5
            · rw [if_pos s1_5] at hr
              refine hj_tableIn hC 80 d_SB_look_1 (by rw [s1_5]; decide) (by rw [s1_5]; decide) (by rw [s1_5]; rfl) (by decide) ?_
              refine hj_aload_n hC 0 d_SB_look_80 rfl rfl ?_
              refine hj_getr hC cf_SB (k := 2) (by decide) wq_49 rfl d_SB_look_81 hr (fun a11 hr => ?_)
              refine hj_geti hC cf_Fault (k := 1) (by decide) wq_381 rfl d_SB_look_84 hr (fun a12 hr => ?_)
              exact hj_iret hC d_SB_look_87 hr
            · rw [if_neg s1_5] at hr
              have e0 := lv_neT s1_0 (a := 0) (by decide)
              have e1 := lv_neT s1_1 (a := 1) (by decide)
              have e2 := lv_neT s1_2 (a := 2) (by decide)
              have e3 := lv_neT s1_3 (a := 3) (by decide)
              have e4 := lv_neT s1_4 (a := 4) (by decide)
              have e5 := lv_neT s1_5 (a := 5) (by decide)
              refine hj_tableOut hC 88 d_SB_look_1 (by omega) (by decide) ?_
              refine hj_iconst hC (v := (-1)) d_SB_look_88 (by decide) ?_
              exact hj_iret hC d_SB_look_89 hr
set_option maxHeartbeats 4000000 in
set_option maxRecDepth 100000 in
theorem m_Mo_wrong {l : Launch} {D : va_G} {dA : Nat → ClassId} (o : Option Nat) (x1 : Int32) (x2 : Int32) (h0 : hc_H) (b : Unit) (C0 S0 : Nat) (h2 : hc_H) (hr : p_Mo_wrong o x1 x2 h0 = some (b, C0, S0, h2)) : hc_Met l (gg D dA) y_Mo_wrong b_Mo_wrong 3 none tb 0 0 [vr_ o, vi_ x1, vi_ x2] h0 C0 S0 none h2 := by
  refine hc_Met.of (by decide) (Nat.le_of_ble_eq_true rfl) ?_
  intro p e s m args below meth c hC
  unfold p_Mo_wrong at hr
  refine hj_sub (lv' := [(0, vr_ o), (1, vi_ x1), (2, vi_ x2)]) [0, 1, 2] rfl ?_
  refine hj_aload_n hC 0 d_Mo_wrong_0 rfl rfl ?_
  refine hj_geti hC cf_Mo (k := 7) (by decide) wq_382 rfl d_Mo_wrong_1 hr (fun a1 hr => ?_)
  refine hj_if_ne hC 17 d_Mo_wrong_4 (by decide) hr (fun q4 hr => ?_) (fun q4 hr => ?_)
  · exact hj_vret hC d_Mo_wrong_17 hr
  · refine hj_aload_n hC 0 d_Mo_wrong_7 rfl rfl ?_
    refine hj_iload_n hC 1 d_Mo_wrong_8 rfl rfl ?_
    refine hj_puti hC cf_Mo (k := 7) (by decide) wq_382 rfl (Or.inl rfl) rfl d_Mo_wrong_9 hr (fun h hr => ?_)
    refine hj_aload_n hC 0 d_Mo_wrong_12 rfl rfl ?_
    refine hj_iload_n hC 2 d_Mo_wrong_13 rfl rfl ?_
    refine hj_puti hC cf_Mo (k := 8) (by decide) wq_383 rfl (Or.inl rfl) rfl d_Mo_wrong_14 hr (fun h hr => ?_)
    exact hj_vret hC d_Mo_wrong_17 hr
set_option maxHeartbeats 4000000 in
set_option maxRecDepth 100000 in
theorem m_Mo_comeTo {l : Launch} {D : va_G} {dA : Nat → ClassId} (o : Option Nat) (x1 : Int32) (x2 : Int32) (x3 : Int32) (x4 : Int32) (x5 : Int32) (h0 : hc_H) (b : Unit) (C0 S0 : Nat) (h2 : hc_H) (hr : p_Mo_comeTo o x1 x2 x3 x4 x5 h0 = some (b, C0, S0, h2)) : hc_Met l (gg D dA) y_Mo_comeTo b_Mo_comeTo 7 none tb 1 22 [vr_ o, vi_ x1, vi_ x2, vi_ x3, vi_ x4, vi_ x5] h0 C0 S0 none h2 := by
  refine hc_Met.of (by decide) (Nat.le_of_ble_eq_true rfl) ?_
  intro p e s m args below meth c hC
  unfold p_Mo_comeTo at hr
  refine hj_sub (lv' := [(0, vr_ o), (1, vi_ x1), (2, vi_ x2), (3, vi_ x3), (4, vi_ x4), (5, vi_ x5)]) [0, 1, 2, 3, 4, 5] rfl ?_
  refine hj_sipush hC (v := 4800) d_Mo_comeTo_0 (by decide) ?_
  refine hj_iload_n hC 1 d_Mo_comeTo_3 rfl rfl ?_
  refine hj_imul hC d_Mo_comeTo_4 ?_
  refine hj_sipush hC (v := 400) d_Mo_comeTo_5 (by decide) ?_
  refine hj_iload_n hC 2 d_Mo_comeTo_8 rfl rfl ?_
  refine hj_imul hC d_Mo_comeTo_9 ?_
  refine hj_iadd hC d_Mo_comeTo_10 ?_
  refine hj_iload_n hC 3 d_Mo_comeTo_11 rfl rfl ?_
  refine hj_iadd hC d_Mo_comeTo_12 ?_
  refine hj_istore hC (lv' := [(6, vi_ (((4800 * x1) + (400 * x2)) + x3)), (0, vr_ o), (1, vi_ x1), (2, vi_ x2), (3, vi_ x3), (4, vi_ x4), (5, vi_ x5)]) d_Mo_comeTo_13 (by decide) rfl ?_
  refine hj_aload_n hC 1 d_Mo_comeTo_15 rfl rfl ?_
  refine hj_getr hC cf_Mo (k := 23) (by decide) wq_384 rfl d_Mo_comeTo_16 hr (fun a1 hr => ?_)
  refine hj_iload hC 0 d_Mo_comeTo_19 rfl ?_
  refine hj_iald hC (kd := 26) rfl d_Mo_comeTo_21 hr (fun a2 hr => ?_)
  refine hj_if_ge hC 53 d_Mo_comeTo_22 (by decide) hr (fun q22 hr => ?_) (fun q22 hr => ?_)
  · refine hj_aload_n hC 1 d_Mo_comeTo_53 rfl rfl ?_
    refine hj_getr hC cf_Mo (k := 23) (by decide) wq_384 rfl d_Mo_comeTo_54 hr (fun a3 hr => ?_)
    refine hj_iload hC 0 d_Mo_comeTo_57 rfl ?_
    refine hj_iald hC (kd := 26) rfl d_Mo_comeTo_59 hr (fun a4 hr => ?_)
    refine hj_iload hC 5 d_Mo_comeTo_60 rfl ?_
    refine hj_jn hC (K := hM Unit) (fun k => ∀  (h : hc_H) (C S : Nat), k  h = some (b, C, S, h2) → hj_J p l e { frames := 1, cells := C0, slots := S0, locals := 22 } s m args below meth c (gg D dA) h0 7 (hj_Q below args s { frames := 1, cells := C0, slots := S0, locals := 22 } (gg D dA) h0 none h2) C S h 77 [(0, vr_ o), (2, vi_ x2), (3, vi_ x3)] []) hr (fun  h C S hr => ?_) (fun k77 hk77 hr => ?_)
    · refine hj_aload_n hC 0 d_Mo_comeTo_77 rfl rfl ?_
      refine hj_bipush hC (v := 7) d_Mo_comeTo_78 (by decide) ?_
      refine hj_sipush hC (v := 512) d_Mo_comeTo_80 (by decide) ?_
      refine hj_iload_n hC 1 d_Mo_comeTo_83 rfl rfl ?_
      refine hj_imul hC d_Mo_comeTo_84 ?_
      refine hj_iload_n hC 2 d_Mo_comeTo_85 rfl rfl ?_
      refine hj_iadd hC d_Mo_comeTo_86 ?_
      refine hj_callV hC hG (enc := (fun _ : Unit => none)) (As := [vi_ 7, vi_ ((512 * x2) + x3)]) (st := []) (fun h a C S h1 hr => m_Mo_wrong _ _ _ h a C S h1 hr) cf_Mo wq_386 wq_387 wq_388 wq_389 wq_385 yk_Mo_wrong rfl ⟨Nat.le_of_ble_eq_true rfl, Nat.le_of_ble_eq_true rfl⟩ rfl (Nat.le_of_ble_eq_true rfl) d_Mo_comeTo_87 hr (fun _ h C S hr => ?_)
      exact hj_vret hC d_Mo_comeTo_90 hr
    · refine hj_icmp_ne hC 77 d_Mo_comeTo_62 (by decide) hr (fun q62 hr => ?_) (fun q62 hr => ?_)
      · refine hj_sub (lv' := [(0, vr_ o), (2, vi_ x2), (3, vi_ x3)]) [1, 3, 4] rfl ?_
        exact hk77 _ _ _ hr
      · refine hj_aload_n hC 1 d_Mo_comeTo_65 rfl rfl ?_
        refine hj_getr hC cf_Mo (k := 24) (by decide) wq_390 rfl d_Mo_comeTo_66 hr (fun a5 hr => ?_)
        refine hj_iload hC 0 d_Mo_comeTo_69 rfl ?_
        refine hj_iald hC (kd := 27) rfl d_Mo_comeTo_71 hr (fun a6 hr => ?_)
        refine hj_iload hC 6 d_Mo_comeTo_72 rfl ?_
        refine hj_icmp_eq hC 90 d_Mo_comeTo_74 (by decide) hr (fun q74 hr => ?_) (fun q74 hr => ?_)
        · exact hj_vret hC d_Mo_comeTo_90 hr
        · refine hj_sub (lv' := [(0, vr_ o), (2, vi_ x2), (3, vi_ x3)]) [1, 3, 4] rfl ?_
          exact hk77 _ _ _ hr
  · refine hj_aload_n hC 1 d_Mo_comeTo_25 rfl rfl ?_
    refine hj_getr hC cf_Mo (k := 23) (by decide) wq_384 rfl d_Mo_comeTo_26 hr (fun a7 hr => ?_)
    refine hj_iload hC 0 d_Mo_comeTo_29 rfl ?_
    refine hj_iload hC 5 d_Mo_comeTo_31 rfl ?_
    refine hj_iast hC (kd := 26) rfl d_Mo_comeTo_33 hr (fun h hr => ?_)
    refine hj_aload_n hC 1 d_Mo_comeTo_34 rfl rfl ?_
    refine hj_getr hC cf_Mo (k := 24) (by decide) wq_390 rfl d_Mo_comeTo_35 hr (fun a8 hr => ?_)
    refine hj_iload hC 0 d_Mo_comeTo_38 rfl ?_
    refine hj_iload hC 6 d_Mo_comeTo_40 rfl ?_
    refine hj_iast hC (kd := 27) rfl d_Mo_comeTo_42 hr (fun h hr => ?_)
    refine hj_aload_n hC 1 d_Mo_comeTo_43 rfl rfl ?_
    refine hj_getr hC cf_Mo (k := 25) (by decide) wq_391 rfl d_Mo_comeTo_44 hr (fun a9 hr => ?_)
    refine hj_iload_n hC 4 d_Mo_comeTo_47 rfl rfl ?_
    refine hj_iconst hC (v := 1) d_Mo_comeTo_48 (by decide) ?_
    refine hj_zast hC (kd := 28) rfl d_Mo_comeTo_49 hr (fun h hr => ?_)
    refine hj_goto hC 90 d_Mo_comeTo_50 (by decide) ?_
    exact hj_vret hC d_Mo_comeTo_90 hr
set_option maxHeartbeats 4000000 in
set_option maxRecDepth 100000 in
theorem m_Mo_puts {l : Launch} {D : va_G} {dA : Nat → ClassId} (o : Option Nat) (x1 : Int32) (h0 : hc_H) (b : Unit) (C0 S0 : Nat) (h2 : hc_H) (hr : p_Mo_puts o x1 h0 = some (b, C0, S0, h2)) : hc_Met l (gg D dA) y_Mo_puts b_Mo_puts 2 none tb 0 0 [vr_ o, vi_ x1] h0 C0 S0 none h2 := by
  refine hc_Met.of (by decide) (Nat.le_of_ble_eq_true rfl) ?_
  intro p e s m args below meth c hC
  unfold p_Mo_puts at hr
  refine hj_sub (lv' := [(0, vr_ o), (1, vi_ x1)]) [0, 1] rfl ?_
  refine hj_aload_n hC 0 d_Mo_puts_0 rfl rfl ?_
  refine hj_dup hC d_Mo_puts_1 rfl ?_
  refine hj_geti hC cf_Mo (k := 28) (by decide) wq_392 rfl d_Mo_puts_2 hr (fun a1 hr => ?_)
  refine hj_iload_n hC 1 d_Mo_puts_5 rfl rfl ?_
  refine hj_aload_n hC 0 d_Mo_puts_6 rfl rfl ?_
  refine hj_geti hC cf_Mo (k := 27) (by decide) wq_393 rfl d_Mo_puts_7 hr (fun a2 hr => ?_)
  refine hj_ishl hC d_Mo_puts_10 ?_
  refine hj_ior hC d_Mo_puts_11 ?_
  refine hj_puti hC cf_Mo (k := 28) (by decide) wq_392 rfl (Or.inl rfl) rfl d_Mo_puts_12 hr (fun h hr => ?_)
  refine hj_aload_n hC 0 d_Mo_puts_15 rfl rfl ?_
  refine hj_dup hC d_Mo_puts_16 rfl ?_
  refine hj_geti hC cf_Mo (k := 27) (by decide) wq_393 rfl d_Mo_puts_17 hr (fun a3 hr => ?_)
  refine hj_iconst hC (v := 1) d_Mo_puts_20 (by decide) ?_
  refine hj_iadd hC d_Mo_puts_21 ?_
  refine hj_puti hC cf_Mo (k := 27) (by decide) wq_393 rfl (Or.inl rfl) rfl d_Mo_puts_22 hr (fun h hr => ?_)
  exact hj_vret hC d_Mo_puts_25 hr
set_option maxHeartbeats 4000000 in
set_option maxRecDepth 100000 in
theorem m_Mo_takes {l : Launch} {D : va_G} {dA : Nat → ClassId} (o : Option Nat) (x1 : Int32) (h0 : hc_H) (b : Int32) (C0 S0 : Nat) (h2 : hc_H) (hr : p_Mo_takes o x1 h0 = some (b, C0, S0, h2)) : hc_Met l (gg D dA) y_Mo_takes b_Mo_takes 3 (some .boolean) tb 0 0 [vr_ o, vi_ x1] h0 C0 S0 (some (vi_ b)) h2 := by
  refine hc_Met.of (by decide) (Nat.le_of_ble_eq_true rfl) ?_
  intro p e s m args below meth c hC
  unfold p_Mo_takes at hr
  refine hj_sub (lv' := [(0, vr_ o), (1, vi_ x1)]) [0, 1] rfl ?_
  refine hj_aload_n hC 0 d_Mo_takes_0 rfl rfl ?_
  refine hj_geti hC cf_Mo (k := 27) (by decide) wq_393 rfl d_Mo_takes_1 hr (fun a1 hr => ?_)
  refine hj_if_ne hC 9 d_Mo_takes_4 (by decide) hr (fun q4 hr => ?_) (fun q4 hr => ?_)
  · refine hj_aload_n hC 0 d_Mo_takes_9 rfl rfl ?_
    refine hj_dup hC d_Mo_takes_10 rfl ?_
    refine hj_geti hC cf_Mo (k := 27) (by decide) wq_393 rfl d_Mo_takes_11 hr (fun a2 hr => ?_)
    refine hj_iconst hC (v := 1) d_Mo_takes_14 (by decide) ?_
    refine hj_isub hC d_Mo_takes_15 ?_
    refine hj_puti hC cf_Mo (k := 27) (by decide) wq_393 rfl (Or.inl rfl) rfl d_Mo_takes_16 hr (fun h hr => ?_)
    refine hj_aload_n hC 0 d_Mo_takes_19 rfl rfl ?_
    refine hj_geti hC cf_Mo (k := 28) (by decide) wq_392 rfl d_Mo_takes_20 hr (fun a3 hr => ?_)
    refine hj_aload_n hC 0 d_Mo_takes_23 rfl rfl ?_
    refine hj_geti hC cf_Mo (k := 27) (by decide) wq_393 rfl d_Mo_takes_24 hr (fun a4 hr => ?_)
    refine hj_ishr hC d_Mo_takes_27 ?_
    refine hj_iconst hC (v := 1) d_Mo_takes_28 (by decide) ?_
    refine hj_iand hC d_Mo_takes_29 ?_
    refine hj_istore_n hC (lv' := [(2, vi_ ((a3 >>> (a4 &&& 31)) &&& 1)), (0, vr_ o), (1, vi_ x1)]) d_Mo_takes_30 rfl (by decide) rfl ?_
    refine hj_aload_n hC 1 d_Mo_takes_31 rfl rfl ?_
    refine hj_dup hC d_Mo_takes_32 rfl ?_
    refine hj_geti hC cf_Mo (k := 28) (by decide) wq_392 rfl d_Mo_takes_33 hr (fun a5 hr => ?_)
    refine hj_iconst hC (v := 1) d_Mo_takes_36 (by decide) ?_
    refine hj_aload_n hC 1 d_Mo_takes_37 rfl rfl ?_
    refine hj_geti hC cf_Mo (k := 27) (by decide) wq_393 rfl d_Mo_takes_38 hr (fun a6 hr => ?_)
    refine hj_ishl hC d_Mo_takes_41 ?_
    refine hj_iconst hC (v := 1) d_Mo_takes_42 (by decide) ?_
    refine hj_isub hC d_Mo_takes_43 ?_
    refine hj_iand hC d_Mo_takes_44 ?_
    refine hj_puti hC cf_Mo (k := 28) (by decide) wq_392 rfl (Or.inl rfl) rfl d_Mo_takes_45 hr (fun h hr => ?_)
    refine hj_iload_n hC 2 d_Mo_takes_48 rfl rfl ?_
    refine hj_iconst hC (v := 2) d_Mo_takes_49 (by decide) ?_
    refine hj_icmp_eq hC 58 d_Mo_takes_50 (by decide) hr (fun q50 hr => ?_) (fun q50 hr => ?_)
    · refine hj_iconst hC (v := 1) d_Mo_takes_58 (by decide) ?_
      refine hj_goto hC 63 d_Mo_takes_59 (by decide) ?_
      exact hj_zret hC d_Mo_takes_63 hr
    · refine hj_iload_n hC 2 d_Mo_takes_53 rfl rfl ?_
      refine hj_iload_n hC 0 d_Mo_takes_54 rfl rfl ?_
      refine hj_icmp_ne hC 62 d_Mo_takes_55 (by decide) hr (fun q55 hr => ?_) (fun q55 hr => ?_)
      · refine hj_iconst hC (v := 0) d_Mo_takes_62 (by decide) ?_
        exact hj_zret hC d_Mo_takes_63 hr
      · refine hj_iconst hC (v := 1) d_Mo_takes_58 (by decide) ?_
        refine hj_goto hC 63 d_Mo_takes_59 (by decide) ?_
        exact hj_zret hC d_Mo_takes_63 hr
  · refine hj_iconst hC (v := 0) d_Mo_takes_7 (by decide) ?_
    exact hj_zret hC d_Mo_takes_8 hr
set_option maxHeartbeats 4000000 in
set_option maxRecDepth 100000 in
theorem m_Mo_isRow {l : Launch} {D : va_G} {dA : Nat → ClassId} (o : Option Nat) (x1 : Int32) (x2 : Int32) (h0 : hc_H) (b : Int32) (C0 S0 : Nat) (h2 : hc_H) (hr : p_Mo_isRow o x1 x2 h0 = some (b, C0, S0, h2)) : hc_Met l (gg D dA) y_Mo_isRow b_Mo_isRow 3 (some .int) tb 0 0 [vr_ o, vi_ x1, vi_ x2] h0 C0 S0 (some (vi_ b)) h2 := by
  refine hc_Met.of (by decide) (Nat.le_of_ble_eq_true rfl) ?_
  intro p e s m args below meth c hC
  unfold p_Mo_isRow at hr
  refine hj_sub (lv' := [(0, vr_ o), (1, vi_ x1), (2, vi_ x2)]) [0, 1, 2] rfl ?_
  refine hj_aload_n hC 0 d_Mo_isRow_0 rfl rfl ?_
  refine hj_getr hC cf_Mo (k := 12) (by decide) wq_394 rfl d_Mo_isRow_1 hr (fun a1 hr => ?_)
  refine hj_iload_n hC 1 d_Mo_isRow_4 rfl rfl ?_
  refine hj_iald hC (kd := 15) rfl d_Mo_isRow_5 hr (fun a2 hr => ?_)
  refine hj_iload_n hC 2 d_Mo_isRow_6 rfl rfl ?_
  refine hj_ishr hC d_Mo_isRow_7 ?_
  refine hj_iconst hC (v := 1) d_Mo_isRow_8 (by decide) ?_
  refine hj_iand hC d_Mo_isRow_9 ?_
  exact hj_iret hC d_Mo_isRow_10 hr
set_option maxHeartbeats 4000000 in
set_option maxRecDepth 100000 in
theorem ml_Mo_takesInts_4 {p : Program} {l : Launch} {e : Env} {s : State} {m : MethodId} {args : Array Value} {below : List Frame} {meth : Method} {c : Code} {D : va_G} {dA : Nat → ClassId} {h0 h2 : hc_H} {C0 S0 : Nat} {b : Int32} (hC : hj_C p s m args meth c (gg D dA) b_Mo_takesInts 4 (some .boolean) R_Mo "takesInts" tb) (x0 : Option Nat) (x1 : Int32) (kx : Int32 → hM Int32) (hk : ∀ (v2 : Int32) (h : hc_H) (C S : Nat), kx v2 h = some (b, C, S, h2) → hj_J p l e { frames := 1, cells := C0, slots := S0, locals := 22 } s m args below meth c (gg D dA) h0 4 (hj_Q below args s { frames := 1, cells := C0, slots := S0, locals := 22 } (gg D dA) h0 (some (vi_ b)) h2) C S h 33 [(2, vi_ v2)] []) : ∀ (fu : Nat) (v2 : Int32) (v3 : Int32) (h : hc_H) (C S : Nat), p_Mo_takesInts_4 x0 x1 kx fu v2 v3 h = some (b, C, S, h2) → hj_J p l e { frames := 1, cells := C0, slots := S0, locals := 22 } s m args below meth c (gg D dA) h0 4 (hj_Q below args s { frames := 1, cells := C0, slots := S0, locals := 22 } (gg D dA) h0 (some (vi_ b)) h2) C S h 4 [(0, vr_ x0), (1, vi_ x1), (2, vi_ v2), (3, vi_ v3)] [] := by
  intro fu
  induction fu with
  | zero =>
    intro v2 v3 h C S hr
    cases hr
  | succ fu ih =>
    intro v2 v3 h C S hr
    rw [p_Mo_takesInts_4] at hr
    refine hj_iload_n hC 3 d_Mo_takesInts_4 rfl rfl ?_
    refine hj_iload_n hC 1 d_Mo_takesInts_5 rfl rfl ?_
    refine hj_icmp_ge hC 33 d_Mo_takesInts_6 (by decide) hr (fun q6 hr => ?_) (fun q6 hr => ?_)
    · refine hj_sub (lv' := [(2, vi_ v2)]) [2] rfl ?_
      exact hk _ _ _ _ hr
    · refine hj_iload_n hC 2 d_Mo_takesInts_9 rfl rfl ?_
      refine hj_jn hC (K := Int32 → hM Int32) (fun k => ∀ (z1 : Int32) (h : hc_H) (C S : Nat), k z1 h = some (b, C, S, h2) → hj_J p l e { frames := 1, cells := C0, slots := S0, locals := 22 } s m args below meth c (gg D dA) h0 4 (hj_Q below args s { frames := 1, cells := C0, slots := S0, locals := 22 } (gg D dA) h0 (some (vi_ b)) h2) C S h 26 [(0, vr_ x0), (1, vi_ x1), (3, vi_ v3)] [vi_ z1]) hr (fun z1 h C S hr => ?_) (fun k26 hk26 hr => ?_)
      · refine hj_istore_n hC (lv' := [(2, vi_ z1), (0, vr_ x0), (1, vi_ x1), (3, vi_ v3)]) d_Mo_takesInts_26 rfl (by decide) rfl ?_
        refine hj_iinc hC (lv' := [(3, vi_ (v3 + 1)), (2, vi_ z1), (0, vr_ x0), (1, vi_ x1)]) 3 d_Mo_takesInts_27 rfl rfl (by decide) rfl ?_
        refine hj_goto hC 4 d_Mo_takesInts_30 (by decide) ?_
        refine hj_sub (lv' := [(0, vr_ x0), (1, vi_ x1), (2, vi_ z1), (3, vi_ (v3 + 1))]) [2, 3, 1, 0] rfl ?_
        exact ih _ _ _ _ _ hr
      · refine hj_jn hC (K := hM Int32) (fun k => ∀  (h : hc_H) (C S : Nat), k  h = some (b, C, S, h2) → hj_J p l e { frames := 1, cells := C0, slots := S0, locals := 22 } s m args below meth c (gg D dA) h0 4 (hj_Q below args s { frames := 1, cells := C0, slots := S0, locals := 22 } (gg D dA) h0 (some (vi_ b)) h2) C S h 25 [(0, vr_ x0), (1, vi_ x1), (3, vi_ v3)] []) hr (fun  h C S hr => ?_) (fun k25 hk25 hr => ?_)
        · refine hj_iconst hC (v := 0) d_Mo_takesInts_25 (by decide) ?_
          exact hk26 _ _ _ _ hr
        · refine hj_if_eq hC 25 d_Mo_takesInts_10 (by decide) hr (fun q10 hr => ?_) (fun q10 hr => ?_)
          · refine hj_sub (lv' := [(0, vr_ x0), (1, vi_ x1), (3, vi_ v3)]) [0, 1, 3] rfl ?_
            exact hk25 _ _ _ hr
          · refine hj_aload_n hC 0 d_Mo_takesInts_13 rfl rfl ?_
            refine hj_iconst hC (v := 0) d_Mo_takesInts_14 (by decide) ?_
            refine hj_callV hC hG (enc := (fun a : Int32 => some (vi_ a))) (As := [vi_ 0]) (st := []) (fun h a C S h1 hr => m_Mo_takes _ _ h a C S h1 hr) cf_Mo wq_396 wq_397 wq_398 wq_389 wq_395 yk_Mo_takes rfl ⟨Nat.le_of_ble_eq_true rfl, Nat.le_of_ble_eq_true rfl⟩ rfl (Nat.le_of_ble_eq_true rfl) d_Mo_takesInts_15 hr (fun a2 h C S hr => ?_)
            refine hj_if_eq hC 25 d_Mo_takesInts_18 (by decide) hr (fun q18 hr => ?_) (fun q18 hr => ?_)
            · refine hj_sub (lv' := [(0, vr_ x0), (1, vi_ x1), (3, vi_ v3)]) [0, 1, 3] rfl ?_
              exact hk25 _ _ _ hr
            · refine hj_iconst hC (v := 1) d_Mo_takesInts_21 (by decide) ?_
              refine hj_goto hC 26 d_Mo_takesInts_22 (by decide) ?_
              refine hj_sub (lv' := [(0, vr_ x0), (1, vi_ x1), (3, vi_ v3)]) [0, 1, 3] rfl ?_
              exact hk26 _ _ _ _ hr
set_option maxHeartbeats 4000000 in
set_option maxRecDepth 100000 in
theorem m_Mo_takesInts {l : Launch} {D : va_G} {dA : Nat → ClassId} (o : Option Nat) (x1 : Int32) (h0 : hc_H) (b : Int32) (C0 S0 : Nat) (h2 : hc_H) (hr : p_Mo_takesInts o x1 h0 = some (b, C0, S0, h2)) : hc_Met l (gg D dA) y_Mo_takesInts b_Mo_takesInts 4 (some .boolean) tb 1 22 [vr_ o, vi_ x1] h0 C0 S0 (some (vi_ b)) h2 := by
  refine hc_Met.of (by decide) (Nat.le_of_ble_eq_true rfl) ?_
  intro p e s m args below meth c hC
  unfold p_Mo_takesInts at hr
  refine hj_sub (lv' := [(0, vr_ o), (1, vi_ x1)]) [0, 1] rfl ?_
  refine hj_iconst hC (v := 1) d_Mo_takesInts_0 (by decide) ?_
  refine hj_istore_n hC (lv' := [(2, vi_ 1), (0, vr_ o), (1, vi_ x1)]) d_Mo_takesInts_1 rfl (by decide) rfl ?_
  refine hj_iconst hC (v := 0) d_Mo_takesInts_2 (by decide) ?_
  refine hj_istore_n hC (lv' := [(3, vi_ 0), (2, vi_ 1), (0, vr_ o), (1, vi_ x1)]) d_Mo_takesInts_3 rfl (by decide) rfl ?_
  refine hj_sub (lv' := [(0, vr_ o), (1, vi_ x1), (2, vi_ 1), (3, vi_ 0)]) [2, 3, 1, 0] rfl ?_
  refine ml_Mo_takesInts_4 hC _ _ _ (fun v2_3 h C S hr => ?_) _ _ _ _ _ _ hr
  refine hj_iload_n hC 0 d_Mo_takesInts_33 rfl rfl ?_
  exact hj_zret hC d_Mo_takesInts_34 hr
